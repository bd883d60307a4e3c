abbrev b_MM_thrown : ByteArray := prog_14_method_2_code
def y_MM_thrown : MethodName := ⟨"ClauseProverModel", "thrown", "()I"⟩
theorem d_MM_thrown_0 : decode b_MM_thrown 0 = .ok (.aload_n 0, 1) := by decide +kernel
theorem d_MM_thrown_1 : decode b_MM_thrown 1 = .ok (.getfield 24, 3) := by decide +kernel
theorem d_MM_thrown_4 : decode b_MM_thrown 4 = .ok (.ireturn, 1) := by decide +kernel
abbrev b_MM_feed : ByteArray := prog_14_method_4_code
def y_MM_feed : MethodName := ⟨"ClauseProverModel", "feed", "(IIIII)I"⟩
theorem d_MM_feed_0 : decode b_MM_feed 0 = .ok (.aload_n 0, 1) := by decide +kernel
theorem d_MM_feed_1 : decode b_MM_feed 1 = .ok (.iconst 0, 1) := by decide +kernel
theorem d_MM_feed_2 : decode b_MM_feed 2 = .ok (.putfield 24, 3) := by decide +kernel
theorem d_MM_feed_5 : decode b_MM_feed 5 = .ok (.aload_n 0, 1) := by decide +kernel
theorem d_MM_feed_6 : decode b_MM_feed 6 = .ok (.iconst 1, 1) := by decide +kernel
theorem d_MM_feed_7 : decode b_MM_feed 7 = .ok (.aload_n 0, 1) := by decide +kernel
theorem d_MM_feed_8 : decode b_MM_feed 8 = .ok (.getfield 17, 3) := by decide +kernel
theorem d_MM_feed_11 : decode b_MM_feed 11 = .ok (.ldc_w 400, 3) := by decide +kernel
theorem d_MM_feed_14 : decode b_MM_feed 14 = .ok (.if_icmp .le 7, 3) := by decide +kernel
theorem d_MM_feed_17 : decode b_MM_feed 17 = .ok (.iconst 1, 1) := by decide +kernel
theorem d_MM_feed_18 : decode b_MM_feed 18 = .ok (.goto 4, 3) := by decide +kernel
theorem d_MM_feed_21 : decode b_MM_feed 21 = .ok (.iconst 0, 1) := by decide +kernel
theorem d_MM_feed_22 : decode b_MM_feed 22 = .ok (.invokevirtual 401, 3) := by decide +kernel
theorem d_MM_feed_25 : decode b_MM_feed 25 = .ok (.ifCond .eq 5, 3) := by decide +kernel
theorem d_MM_feed_28 : decode b_MM_feed 28 = .ok (.iconst 0, 1) := by decide +kernel
theorem d_MM_feed_29 : decode b_MM_feed 29 = .ok (.ireturn, 1) := by decide +kernel
theorem d_MM_feed_30 : decode b_MM_feed 30 = .ok (.iconst 0, 1) := by decide +kernel
theorem d_MM_feed_31 : decode b_MM_feed 31 = .ok (.istore 6, 2) := by decide +kernel
theorem d_MM_feed_33 : decode b_MM_feed 33 = .ok (.iload 6, 2) := by decide +kernel
theorem d_MM_feed_35 : decode b_MM_feed 35 = .ok (.bipush 20, 2) := by decide +kernel
theorem d_MM_feed_37 : decode b_MM_feed 37 = .ok (.if_icmp .ge 87, 3) := by decide +kernel
theorem d_MM_feed_40 : decode b_MM_feed 40 = .ok (.iload 6, 2) := by decide +kernel
theorem d_MM_feed_42 : decode b_MM_feed 42 = .ok (.iconst 4, 1) := by decide +kernel
theorem d_MM_feed_43 : decode b_MM_feed 43 = .ok (.if_icmp .ge 7, 3) := by decide +kernel
theorem d_MM_feed_46 : decode b_MM_feed 46 = .ok (.iload_n 1, 1) := by decide +kernel
theorem d_MM_feed_47 : decode b_MM_feed 47 = .ok (.goto 39, 3) := by decide +kernel
theorem d_MM_feed_50 : decode b_MM_feed 50 = .ok (.iload 6, 2) := by decide +kernel
theorem d_MM_feed_52 : decode b_MM_feed 52 = .ok (.bipush 8, 2) := by decide +kernel
theorem d_MM_feed_54 : decode b_MM_feed 54 = .ok (.if_icmp .ge 7, 3) := by decide +kernel
theorem d_MM_feed_57 : decode b_MM_feed 57 = .ok (.iload_n 2, 1) := by decide +kernel
theorem d_MM_feed_58 : decode b_MM_feed 58 = .ok (.goto 28, 3) := by decide +kernel
theorem d_MM_feed_61 : decode b_MM_feed 61 = .ok (.iload 6, 2) := by decide +kernel
theorem d_MM_feed_63 : decode b_MM_feed 63 = .ok (.bipush 12, 2) := by decide +kernel
theorem d_MM_feed_65 : decode b_MM_feed 65 = .ok (.if_icmp .ge 7, 3) := by decide +kernel
theorem d_MM_feed_68 : decode b_MM_feed 68 = .ok (.iload_n 3, 1) := by decide +kernel
theorem d_MM_feed_69 : decode b_MM_feed 69 = .ok (.goto 17, 3) := by decide +kernel
theorem d_MM_feed_72 : decode b_MM_feed 72 = .ok (.iload 6, 2) := by decide +kernel
theorem d_MM_feed_74 : decode b_MM_feed 74 = .ok (.bipush 16, 2) := by decide +kernel
theorem d_MM_feed_76 : decode b_MM_feed 76 = .ok (.if_icmp .ge 8, 3) := by decide +kernel
theorem d_MM_feed_79 : decode b_MM_feed 79 = .ok (.iload 4, 2) := by decide +kernel
theorem d_MM_feed_81 : decode b_MM_feed 81 = .ok (.goto 5, 3) := by decide +kernel
theorem d_MM_feed_84 : decode b_MM_feed 84 = .ok (.iload 5, 2) := by decide +kernel
theorem d_MM_feed_86 : decode b_MM_feed 86 = .ok (.istore 7, 2) := by decide +kernel
theorem d_MM_feed_88 : decode b_MM_feed 88 = .ok (.aload_n 0, 1) := by decide +kernel
theorem d_MM_feed_89 : decode b_MM_feed 89 = .ok (.getfield 8, 3) := by decide +kernel
theorem d_MM_feed_92 : decode b_MM_feed 92 = .ok (.aload_n 0, 1) := by decide +kernel
theorem d_MM_feed_93 : decode b_MM_feed 93 = .ok (.dup, 1) := by decide +kernel
theorem d_MM_feed_94 : decode b_MM_feed 94 = .ok (.getfield 17, 3) := by decide +kernel
theorem d_MM_feed_97 : decode b_MM_feed 97 = .ok (.dup_x1, 1) := by decide +kernel
theorem d_MM_feed_98 : decode b_MM_feed 98 = .ok (.iconst 1, 1) := by decide +kernel
theorem d_MM_feed_99 : decode b_MM_feed 99 = .ok (.iadd, 1) := by decide +kernel
theorem d_MM_feed_100 : decode b_MM_feed 100 = .ok (.putfield 17, 3) := by decide +kernel
theorem d_MM_feed_103 : decode b_MM_feed 103 = .ok (.iload 7, 2) := by decide +kernel
theorem d_MM_feed_105 : decode b_MM_feed 105 = .ok (.bipush 24, 2) := by decide +kernel
theorem d_MM_feed_107 : decode b_MM_feed 107 = .ok (.bipush 8, 2) := by decide +kernel
theorem d_MM_feed_109 : decode b_MM_feed 109 = .ok (.iload 6, 2) := by decide +kernel
theorem d_MM_feed_111 : decode b_MM_feed 111 = .ok (.iconst 4, 1) := by decide +kernel
theorem d_MM_feed_112 : decode b_MM_feed 112 = .ok (.irem, 1) := by decide +kernel
theorem d_MM_feed_113 : decode b_MM_feed 113 = .ok (.imul, 1) := by decide +kernel
theorem d_MM_feed_114 : decode b_MM_feed 114 = .ok (.isub, 1) := by decide +kernel
theorem d_MM_feed_115 : decode b_MM_feed 115 = .ok (.iushr, 1) := by decide +kernel
theorem d_MM_feed_116 : decode b_MM_feed 116 = .ok (.i2b, 1) := by decide +kernel
theorem d_MM_feed_117 : decode b_MM_feed 117 = .ok (.bastore, 1) := by decide +kernel
theorem d_MM_feed_118 : decode b_MM_feed 118 = .ok (.iinc 6 1, 3) := by decide +kernel
theorem d_MM_feed_121 : decode b_MM_feed 121 = .ok (.goto (-88), 3) := by decide +kernel
theorem d_MM_feed_124 : decode b_MM_feed 124 = .ok (.aload_n 0, 1) := by decide +kernel
theorem d_MM_feed_125 : decode b_MM_feed 125 = .ok (.getfield 17, 3) := by decide +kernel
theorem d_MM_feed_128 : decode b_MM_feed 128 = .ok (.ireturn, 1) := by decide +kernel
abbrev b_MM_refuse : ByteArray := prog_14_method_3_code
def y_MM_refuse : MethodName := ⟨"ClauseProverModel", "refuse", "(IZ)Z"⟩
theorem d_MM_refuse_0 : decode b_MM_refuse 0 = .ok (.iload_n 2, 1) := by decide +kernel
theorem d_MM_refuse_1 : decode b_MM_refuse 1 = .ok (.ifCond .eq 8, 3) := by decide +kernel
theorem d_MM_refuse_4 : decode b_MM_refuse 4 = .ok (.aload_n 0, 1) := by decide +kernel
theorem d_MM_refuse_5 : decode b_MM_refuse 5 = .ok (.iload_n 1, 1) := by decide +kernel
theorem d_MM_refuse_6 : decode b_MM_refuse 6 = .ok (.putfield 24, 3) := by decide +kernel
theorem d_MM_refuse_9 : decode b_MM_refuse 9 = .ok (.iload_n 2, 1) := by decide +kernel
theorem d_MM_refuse_10 : decode b_MM_refuse 10 = .ok (.ireturn, 1) := by decide +kernel
abbrev b_MM_end : ByteArray := prog_14_method_5_code
def y_MM_end : MethodName := ⟨"ClauseProverModel", "end", "(I)I"⟩
theorem d_MM_end_0 : decode b_MM_end 0 = .ok (.aload_n 0, 1) := by decide +kernel
theorem d_MM_end_1 : decode b_MM_end 1 = .ok (.iconst 0, 1) := by decide +kernel
theorem d_MM_end_2 : decode b_MM_end 2 = .ok (.putfield 24, 3) := by decide +kernel
theorem d_MM_end_5 : decode b_MM_end 5 = .ok (.aload_n 0, 1) := by decide +kernel
theorem d_MM_end_6 : decode b_MM_end 6 = .ok (.iconst 1, 1) := by decide +kernel
theorem d_MM_end_7 : decode b_MM_end 7 = .ok (.iload_n 1, 1) := by decide +kernel
theorem d_MM_end_8 : decode b_MM_end 8 = .ok (.ifCond .lt 11, 3) := by decide +kernel
theorem d_MM_end_11 : decode b_MM_end 11 = .ok (.iload_n 1, 1) := by decide +kernel
theorem d_MM_end_12 : decode b_MM_end 12 = .ok (.aload_n 0, 1) := by decide +kernel
theorem d_MM_end_13 : decode b_MM_end 13 = .ok (.getfield 17, 3) := by decide +kernel
theorem d_MM_end_16 : decode b_MM_end 16 = .ok (.if_icmp .le 7, 3) := by decide +kernel
theorem d_MM_end_19 : decode b_MM_end 19 = .ok (.iconst 1, 1) := by decide +kernel
theorem d_MM_end_20 : decode b_MM_end 20 = .ok (.goto 4, 3) := by decide +kernel
theorem d_MM_end_23 : decode b_MM_end 23 = .ok (.iconst 0, 1) := by decide +kernel
theorem d_MM_end_24 : decode b_MM_end 24 = .ok (.invokevirtual 401, 3) := by decide +kernel
theorem d_MM_end_27 : decode b_MM_end 27 = .ok (.ifCond .eq 5, 3) := by decide +kernel
theorem d_MM_end_30 : decode b_MM_end 30 = .ok (.iconst 0, 1) := by decide +kernel
theorem d_MM_end_31 : decode b_MM_end 31 = .ok (.ireturn, 1) := by decide +kernel
theorem d_MM_end_32 : decode b_MM_end 32 = .ok (.aload_n 0, 1) := by decide +kernel
theorem d_MM_end_33 : decode b_MM_end 33 = .ok (.iload_n 1, 1) := by decide +kernel
theorem d_MM_end_34 : decode b_MM_end 34 = .ok (.putfield 17, 3) := by decide +kernel
theorem d_MM_end_37 : decode b_MM_end 37 = .ok (.iload_n 1, 1) := by decide +kernel
theorem d_MM_end_38 : decode b_MM_end 38 = .ok (.ireturn, 1) := by decide +kernel
abbrev b_MM_peek : ByteArray := prog_14_method_10_code
def y_MM_peek : MethodName := ⟨"ClauseProverModel", "peek", "()I"⟩
theorem d_MM_peek_0 : decode b_MM_peek 0 = .ok (.aload_n 0, 1) := by decide +kernel
theorem d_MM_peek_1 : decode b_MM_peek 1 = .ok (.getfield 45, 3) := by decide +kernel
theorem d_MM_peek_4 : decode b_MM_peek 4 = .ok (.ifCond .eq 8, 3) := by decide +kernel
theorem d_MM_peek_7 : decode b_MM_peek 7 = .ok (.aload_n 0, 1) := by decide +kernel
theorem d_MM_peek_8 : decode b_MM_peek 8 = .ok (.getfield 36, 3) := by decide +kernel
theorem d_MM_peek_11 : decode b_MM_peek 11 = .ok (.ireturn, 1) := by decide +kernel
theorem d_MM_peek_12 : decode b_MM_peek 12 = .ok (.aload_n 0, 1) := by decide +kernel
theorem d_MM_peek_13 : decode b_MM_peek 13 = .ok (.invokevirtual 409, 3) := by decide +kernel
theorem d_MM_peek_16 : decode b_MM_peek 16 = .ok (.aload_n 0, 1) := by decide +kernel
theorem d_MM_peek_17 : decode b_MM_peek 17 = .ok (.iconst 1, 1) := by decide +kernel
theorem d_MM_peek_18 : decode b_MM_peek 18 = .ok (.putfield 45, 3) := by decide +kernel
theorem d_MM_peek_21 : decode b_MM_peek 21 = .ok (.aload_n 0, 1) := by decide +kernel
theorem d_MM_peek_22 : decode b_MM_peek 22 = .ok (.aload_n 0, 1) := by decide +kernel
theorem d_MM_peek_23 : decode b_MM_peek 23 = .ok (.getfield 33, 3) := by decide +kernel
theorem d_MM_peek_26 : decode b_MM_peek 26 = .ok (.putfield 39, 3) := by decide +kernel
theorem d_MM_peek_29 : decode b_MM_peek 29 = .ok (.aload_n 0, 1) := by decide +kernel
theorem d_MM_peek_30 : decode b_MM_peek 30 = .ok (.aload_n 0, 1) := by decide +kernel
theorem d_MM_peek_31 : decode b_MM_peek 31 = .ok (.getfield 33, 3) := by decide +kernel
theorem d_MM_peek_34 : decode b_MM_peek 34 = .ok (.putfield 42, 3) := by decide +kernel
theorem d_MM_peek_37 : decode b_MM_peek 37 = .ok (.aload_n 0, 1) := by decide +kernel
theorem d_MM_peek_38 : decode b_MM_peek 38 = .ok (.getfield 33, 3) := by decide +kernel
theorem d_MM_peek_41 : decode b_MM_peek 41 = .ok (.aload_n 0, 1) := by decide +kernel
theorem d_MM_peek_42 : decode b_MM_peek 42 = .ok (.getfield 17, 3) := by decide +kernel
theorem d_MM_peek_45 : decode b_MM_peek 45 = .ok (.if_icmp .ne 10, 3) := by decide +kernel
theorem d_MM_peek_48 : decode b_MM_peek 48 = .ok (.aload_n 0, 1) := by decide +kernel
theorem d_MM_peek_49 : decode b_MM_peek 49 = .ok (.iconst 0, 1) := by decide +kernel
theorem d_MM_peek_50 : decode b_MM_peek 50 = .ok (.putfield 36, 3) := by decide +kernel
theorem d_MM_peek_53 : decode b_MM_peek 53 = .ok (.iconst 0, 1) := by decide +kernel
theorem d_MM_peek_54 : decode b_MM_peek 54 = .ok (.ireturn, 1) := by decide +kernel
theorem d_MM_peek_55 : decode b_MM_peek 55 = .ok (.aload_n 0, 1) := by decide +kernel
theorem d_MM_peek_56 : decode b_MM_peek 56 = .ok (.dup, 1) := by decide +kernel
theorem d_MM_peek_57 : decode b_MM_peek 57 = .ok (.getfield 49, 3) := by decide +kernel
theorem d_MM_peek_60 : decode b_MM_peek 60 = .ok (.iconst 1, 1) := by decide +kernel
theorem d_MM_peek_61 : decode b_MM_peek 61 = .ok (.iadd, 1) := by decide +kernel
theorem d_MM_peek_62 : decode b_MM_peek 62 = .ok (.putfield 49, 3) := by decide +kernel
theorem d_MM_peek_65 : decode b_MM_peek 65 = .ok (.aload_n 0, 1) := by decide +kernel
theorem d_MM_peek_66 : decode b_MM_peek 66 = .ok (.sipush 304, 3) := by decide +kernel
theorem d_MM_peek_69 : decode b_MM_peek 69 = .ok (.putfield 36, 3) := by decide +kernel
theorem d_MM_peek_72 : decode b_MM_peek 72 = .ok (.aload_n 0, 1) := by decide +kernel
theorem d_MM_peek_73 : decode b_MM_peek 73 = .ok (.getfield 49, 3) := by decide +kernel
theorem d_MM_peek_76 : decode b_MM_peek 76 = .ok (.sipush 20000, 3) := by decide +kernel
theorem d_MM_peek_79 : decode b_MM_peek 79 = .ok (.if_icmp .le 7, 3) := by decide +kernel
theorem d_MM_peek_82 : decode b_MM_peek 82 = .ok (.sipush 304, 3) := by decide +kernel
theorem d_MM_peek_85 : decode b_MM_peek 85 = .ok (.ireturn, 1) := by decide +kernel
theorem d_MM_peek_86 : decode b_MM_peek 86 = .ok (.aload_n 0, 1) := by decide +kernel
theorem d_MM_peek_87 : decode b_MM_peek 87 = .ok (.getfield 8, 3) := by decide +kernel
theorem d_MM_peek_90 : decode b_MM_peek 90 = .ok (.aload_n 0, 1) := by decide +kernel
theorem d_MM_peek_91 : decode b_MM_peek 91 = .ok (.getfield 33, 3) := by decide +kernel
theorem d_MM_peek_94 : decode b_MM_peek 94 = .ok (.baload, 1) := by decide +kernel
theorem d_MM_peek_95 : decode b_MM_peek 95 = .ok (.istore_n 1, 1) := by decide +kernel
theorem d_MM_peek_96 : decode b_MM_peek 96 = .ok (.aload_n 0, 1) := by decide +kernel
theorem d_MM_peek_97 : decode b_MM_peek 97 = .ok (.iload_n 1, 1) := by decide +kernel
theorem d_MM_peek_98 : decode b_MM_peek 98 = .ok (.invokevirtual 405, 3) := by decide +kernel
theorem d_MM_peek_101 : decode b_MM_peek 101 = .ok (.ifCond .eq 83, 3) := by decide +kernel
theorem d_MM_peek_104 : decode b_MM_peek 104 = .ok (.aload_n 0, 1) := by decide +kernel
theorem d_MM_peek_105 : decode b_MM_peek 105 = .ok (.getfield 42, 3) := by decide +kernel
theorem d_MM_peek_108 : decode b_MM_peek 108 = .ok (.aload_n 0, 1) := by decide +kernel
theorem d_MM_peek_109 : decode b_MM_peek 109 = .ok (.getfield 17, 3) := by decide +kernel
theorem d_MM_peek_112 : decode b_MM_peek 112 = .ok (.if_icmp .ge 32, 3) := by decide +kernel
theorem d_MM_peek_115 : decode b_MM_peek 115 = .ok (.aload_n 0, 1) := by decide +kernel
theorem d_MM_peek_116 : decode b_MM_peek 116 = .ok (.aload_n 0, 1) := by decide +kernel
theorem d_MM_peek_117 : decode b_MM_peek 117 = .ok (.getfield 8, 3) := by decide +kernel
theorem d_MM_peek_120 : decode b_MM_peek 120 = .ok (.aload_n 0, 1) := by decide +kernel
theorem d_MM_peek_121 : decode b_MM_peek 121 = .ok (.getfield 42, 3) := by decide +kernel
theorem d_MM_peek_124 : decode b_MM_peek 124 = .ok (.baload, 1) := by decide +kernel
theorem d_MM_peek_125 : decode b_MM_peek 125 = .ok (.invokevirtual 412, 3) := by decide +kernel
theorem d_MM_peek_128 : decode b_MM_peek 128 = .ok (.ifCond .eq 16, 3) := by decide +kernel
theorem d_MM_peek_131 : decode b_MM_peek 131 = .ok (.aload_n 0, 1) := by decide +kernel
theorem d_MM_peek_132 : decode b_MM_peek 132 = .ok (.dup, 1) := by decide +kernel
theorem d_MM_peek_133 : decode b_MM_peek 133 = .ok (.getfield 42, 3) := by decide +kernel
theorem d_MM_peek_136 : decode b_MM_peek 136 = .ok (.iconst 1, 1) := by decide +kernel
theorem d_MM_peek_137 : decode b_MM_peek 137 = .ok (.iadd, 1) := by decide +kernel
theorem d_MM_peek_138 : decode b_MM_peek 138 = .ok (.putfield 42, 3) := by decide +kernel
theorem d_MM_peek_141 : decode b_MM_peek 141 = .ok (.goto (-37), 3) := by decide +kernel
theorem d_MM_peek_144 : decode b_MM_peek 144 = .ok (.aload_n 0, 1) := by decide +kernel
theorem d_MM_peek_145 : decode b_MM_peek 145 = .ok (.aload_n 0, 1) := by decide +kernel
theorem d_MM_peek_146 : decode b_MM_peek 146 = .ok (.getfield 42, 3) := by decide +kernel
theorem d_MM_peek_149 : decode b_MM_peek 149 = .ok (.aload_n 0, 1) := by decide +kernel
theorem d_MM_peek_150 : decode b_MM_peek 150 = .ok (.getfield 39, 3) := by decide +kernel
theorem d_MM_peek_153 : decode b_MM_peek 153 = .ok (.isub, 1) := by decide +kernel
theorem d_MM_peek_154 : decode b_MM_peek 154 = .ok (.bipush 31, 2) := by decide +kernel
theorem d_MM_peek_156 : decode b_MM_peek 156 = .ok (.if_icmp .le 9, 3) := by decide +kernel
theorem d_MM_peek_159 : decode b_MM_peek 159 = .ok (.sipush 303, 3) := by decide +kernel
theorem d_MM_peek_162 : decode b_MM_peek 162 = .ok (.goto 14, 3) := by decide +kernel
theorem d_MM_peek_165 : decode b_MM_peek 165 = .ok (.iload_n 1, 1) := by decide +kernel
theorem d_MM_peek_166 : decode b_MM_peek 166 = .ok (.bipush 97, 2) := by decide +kernel
theorem d_MM_peek_168 : decode b_MM_peek 168 = .ok (.if_icmp .ge 7, 3) := by decide +kernel
theorem d_MM_peek_171 : decode b_MM_peek 171 = .ok (.iconst 1, 1) := by decide +kernel
theorem d_MM_peek_172 : decode b_MM_peek 172 = .ok (.goto 4, 3) := by decide +kernel
theorem d_MM_peek_175 : decode b_MM_peek 175 = .ok (.iconst 2, 1) := by decide +kernel
theorem d_MM_peek_176 : decode b_MM_peek 176 = .ok (.putfield 36, 3) := by decide +kernel
theorem d_MM_peek_179 : decode b_MM_peek 179 = .ok (.aload_n 0, 1) := by decide +kernel
theorem d_MM_peek_180 : decode b_MM_peek 180 = .ok (.getfield 36, 3) := by decide +kernel
theorem d_MM_peek_183 : decode b_MM_peek 183 = .ok (.ireturn, 1) := by decide +kernel
theorem d_MM_peek_184 : decode b_MM_peek 184 = .ok (.aload_n 0, 1) := by decide +kernel
theorem d_MM_peek_185 : decode b_MM_peek 185 = .ok (.aload_n 0, 1) := by decide +kernel
theorem d_MM_peek_186 : decode b_MM_peek 186 = .ok (.iload_n 1, 1) := by decide +kernel
theorem d_MM_peek_187 : decode b_MM_peek 187 = .ok (.invokevirtual 415, 3) := by decide +kernel
theorem d_MM_peek_190 : decode b_MM_peek 190 = .ok (.putfield 36, 3) := by decide +kernel
theorem d_MM_peek_193 : decode b_MM_peek 193 = .ok (.aload_n 0, 1) := by decide +kernel
theorem d_MM_peek_194 : decode b_MM_peek 194 = .ok (.getfield 36, 3) := by decide +kernel
theorem d_MM_peek_197 : decode b_MM_peek 197 = .ok (.ireturn, 1) := by decide +kernel
abbrev b_MM_parts : ByteArray := prog_14_method_8_code
def y_MM_parts : MethodName := ⟨"ClauseProverModel", "parts", "()V"⟩
theorem d_MM_parts_0 : decode b_MM_parts 0 = .ok (.iconst 1, 1) := by decide +kernel
theorem d_MM_parts_1 : decode b_MM_parts 1 = .ok (.istore_n 1, 1) := by decide +kernel
theorem d_MM_parts_2 : decode b_MM_parts 2 = .ok (.iload_n 1, 1) := by decide +kernel
theorem d_MM_parts_3 : decode b_MM_parts 3 = .ok (.ifCond .eq 153, 3) := by decide +kernel
theorem d_MM_parts_6 : decode b_MM_parts 6 = .ok (.iconst 0, 1) := by decide +kernel
theorem d_MM_parts_7 : decode b_MM_parts 7 = .ok (.istore_n 1, 1) := by decide +kernel
theorem d_MM_parts_8 : decode b_MM_parts 8 = .ok (.aload_n 0, 1) := by decide +kernel
theorem d_MM_parts_9 : decode b_MM_parts 9 = .ok (.getfield 33, 3) := by decide +kernel
theorem d_MM_parts_12 : decode b_MM_parts 12 = .ok (.aload_n 0, 1) := by decide +kernel
theorem d_MM_parts_13 : decode b_MM_parts 13 = .ok (.getfield 17, 3) := by decide +kernel
theorem d_MM_parts_16 : decode b_MM_parts 16 = .ok (.if_icmp .ge 72, 3) := by decide +kernel
theorem d_MM_parts_19 : decode b_MM_parts 19 = .ok (.aload_n 0, 1) := by decide +kernel
theorem d_MM_parts_20 : decode b_MM_parts 20 = .ok (.getfield 8, 3) := by decide +kernel
theorem d_MM_parts_23 : decode b_MM_parts 23 = .ok (.aload_n 0, 1) := by decide +kernel
theorem d_MM_parts_24 : decode b_MM_parts 24 = .ok (.getfield 33, 3) := by decide +kernel
theorem d_MM_parts_27 : decode b_MM_parts 27 = .ok (.baload, 1) := by decide +kernel
theorem d_MM_parts_28 : decode b_MM_parts 28 = .ok (.bipush 32, 2) := by decide +kernel
theorem d_MM_parts_30 : decode b_MM_parts 30 = .ok (.if_icmp .eq 45, 3) := by decide +kernel
theorem d_MM_parts_33 : decode b_MM_parts 33 = .ok (.aload_n 0, 1) := by decide +kernel
theorem d_MM_parts_34 : decode b_MM_parts 34 = .ok (.getfield 8, 3) := by decide +kernel
theorem d_MM_parts_37 : decode b_MM_parts 37 = .ok (.aload_n 0, 1) := by decide +kernel
theorem d_MM_parts_38 : decode b_MM_parts 38 = .ok (.getfield 33, 3) := by decide +kernel
theorem d_MM_parts_41 : decode b_MM_parts 41 = .ok (.baload, 1) := by decide +kernel
theorem d_MM_parts_42 : decode b_MM_parts 42 = .ok (.bipush 9, 2) := by decide +kernel
theorem d_MM_parts_44 : decode b_MM_parts 44 = .ok (.if_icmp .eq 31, 3) := by decide +kernel
theorem d_MM_parts_47 : decode b_MM_parts 47 = .ok (.aload_n 0, 1) := by decide +kernel
theorem d_MM_parts_48 : decode b_MM_parts 48 = .ok (.getfield 8, 3) := by decide +kernel
theorem d_MM_parts_51 : decode b_MM_parts 51 = .ok (.aload_n 0, 1) := by decide +kernel
theorem d_MM_parts_52 : decode b_MM_parts 52 = .ok (.getfield 33, 3) := by decide +kernel
theorem d_MM_parts_55 : decode b_MM_parts 55 = .ok (.baload, 1) := by decide +kernel
theorem d_MM_parts_56 : decode b_MM_parts 56 = .ok (.bipush 10, 2) := by decide +kernel
theorem d_MM_parts_58 : decode b_MM_parts 58 = .ok (.if_icmp .eq 17, 3) := by decide +kernel
theorem d_MM_parts_61 : decode b_MM_parts 61 = .ok (.aload_n 0, 1) := by decide +kernel
theorem d_MM_parts_62 : decode b_MM_parts 62 = .ok (.getfield 8, 3) := by decide +kernel
theorem d_MM_parts_65 : decode b_MM_parts 65 = .ok (.aload_n 0, 1) := by decide +kernel
theorem d_MM_parts_66 : decode b_MM_parts 66 = .ok (.getfield 33, 3) := by decide +kernel
theorem d_MM_parts_69 : decode b_MM_parts 69 = .ok (.baload, 1) := by decide +kernel
theorem d_MM_parts_70 : decode b_MM_parts 70 = .ok (.bipush 13, 2) := by decide +kernel
theorem d_MM_parts_72 : decode b_MM_parts 72 = .ok (.if_icmp .ne 16, 3) := by decide +kernel
theorem d_MM_parts_75 : decode b_MM_parts 75 = .ok (.aload_n 0, 1) := by decide +kernel
theorem d_MM_parts_76 : decode b_MM_parts 76 = .ok (.dup, 1) := by decide +kernel
theorem d_MM_parts_77 : decode b_MM_parts 77 = .ok (.getfield 33, 3) := by decide +kernel
theorem d_MM_parts_80 : decode b_MM_parts 80 = .ok (.iconst 1, 1) := by decide +kernel
theorem d_MM_parts_81 : decode b_MM_parts 81 = .ok (.iadd, 1) := by decide +kernel
theorem d_MM_parts_82 : decode b_MM_parts 82 = .ok (.putfield 33, 3) := by decide +kernel
theorem d_MM_parts_85 : decode b_MM_parts 85 = .ok (.goto (-77), 3) := by decide +kernel
theorem d_MM_parts_88 : decode b_MM_parts 88 = .ok (.aload_n 0, 1) := by decide +kernel
theorem d_MM_parts_89 : decode b_MM_parts 89 = .ok (.getfield 33, 3) := by decide +kernel
theorem d_MM_parts_92 : decode b_MM_parts 92 = .ok (.aload_n 0, 1) := by decide +kernel
theorem d_MM_parts_93 : decode b_MM_parts 93 = .ok (.getfield 17, 3) := by decide +kernel
theorem d_MM_parts_96 : decode b_MM_parts 96 = .ok (.if_icmp .ge (-94), 3) := by decide +kernel
theorem d_MM_parts_99 : decode b_MM_parts 99 = .ok (.aload_n 0, 1) := by decide +kernel
theorem d_MM_parts_100 : decode b_MM_parts 100 = .ok (.getfield 8, 3) := by decide +kernel
theorem d_MM_parts_103 : decode b_MM_parts 103 = .ok (.aload_n 0, 1) := by decide +kernel
theorem d_MM_parts_104 : decode b_MM_parts 104 = .ok (.getfield 33, 3) := by decide +kernel
theorem d_MM_parts_107 : decode b_MM_parts 107 = .ok (.baload, 1) := by decide +kernel
theorem d_MM_parts_108 : decode b_MM_parts 108 = .ok (.bipush 37, 2) := by decide +kernel
theorem d_MM_parts_110 : decode b_MM_parts 110 = .ok (.if_icmp .ne (-108), 3) := by decide +kernel
theorem d_MM_parts_113 : decode b_MM_parts 113 = .ok (.aload_n 0, 1) := by decide +kernel
theorem d_MM_parts_114 : decode b_MM_parts 114 = .ok (.getfield 33, 3) := by decide +kernel
theorem d_MM_parts_117 : decode b_MM_parts 117 = .ok (.aload_n 0, 1) := by decide +kernel
theorem d_MM_parts_118 : decode b_MM_parts 118 = .ok (.getfield 17, 3) := by decide +kernel
theorem d_MM_parts_121 : decode b_MM_parts 121 = .ok (.if_icmp .ge 30, 3) := by decide +kernel
theorem d_MM_parts_124 : decode b_MM_parts 124 = .ok (.aload_n 0, 1) := by decide +kernel
theorem d_MM_parts_125 : decode b_MM_parts 125 = .ok (.getfield 8, 3) := by decide +kernel
theorem d_MM_parts_128 : decode b_MM_parts 128 = .ok (.aload_n 0, 1) := by decide +kernel
theorem d_MM_parts_129 : decode b_MM_parts 129 = .ok (.getfield 33, 3) := by decide +kernel
theorem d_MM_parts_132 : decode b_MM_parts 132 = .ok (.baload, 1) := by decide +kernel
theorem d_MM_parts_133 : decode b_MM_parts 133 = .ok (.bipush 10, 2) := by decide +kernel
theorem d_MM_parts_135 : decode b_MM_parts 135 = .ok (.if_icmp .eq 16, 3) := by decide +kernel
theorem d_MM_parts_138 : decode b_MM_parts 138 = .ok (.aload_n 0, 1) := by decide +kernel
theorem d_MM_parts_139 : decode b_MM_parts 139 = .ok (.dup, 1) := by decide +kernel
theorem d_MM_parts_140 : decode b_MM_parts 140 = .ok (.getfield 33, 3) := by decide +kernel
theorem d_MM_parts_143 : decode b_MM_parts 143 = .ok (.iconst 1, 1) := by decide +kernel
theorem d_MM_parts_144 : decode b_MM_parts 144 = .ok (.iadd, 1) := by decide +kernel
theorem d_MM_parts_145 : decode b_MM_parts 145 = .ok (.putfield 33, 3) := by decide +kernel
theorem d_MM_parts_148 : decode b_MM_parts 148 = .ok (.goto (-35), 3) := by decide +kernel
theorem d_MM_parts_151 : decode b_MM_parts 151 = .ok (.iconst 1, 1) := by decide +kernel
theorem d_MM_parts_152 : decode b_MM_parts 152 = .ok (.istore_n 1, 1) := by decide +kernel
theorem d_MM_parts_153 : decode b_MM_parts 153 = .ok (.goto (-151), 3) := by decide +kernel
theorem d_MM_parts_156 : decode b_MM_parts 156 = .ok (.return_, 1) := by decide +kernel
abbrev b_MM_letter : ByteArray := prog_14_method_6_code
def y_MM_letter : MethodName := ⟨"ClauseProverModel", "letter", "(I)Z"⟩
theorem d_MM_letter_0 : decode b_MM_letter 0 = .ok (.iload_n 1, 1) := by decide +kernel
theorem d_MM_letter_1 : decode b_MM_letter 1 = .ok (.bipush 97, 2) := by decide +kernel
theorem d_MM_letter_3 : decode b_MM_letter 3 = .ok (.if_icmp .lt 9, 3) := by decide +kernel
theorem d_MM_letter_6 : decode b_MM_letter 6 = .ok (.iload_n 1, 1) := by decide +kernel
theorem d_MM_letter_7 : decode b_MM_letter 7 = .ok (.bipush 122, 2) := by decide +kernel
theorem d_MM_letter_9 : decode b_MM_letter 9 = .ok (.if_icmp .le 15, 3) := by decide +kernel
theorem d_MM_letter_12 : decode b_MM_letter 12 = .ok (.iload_n 1, 1) := by decide +kernel
theorem d_MM_letter_13 : decode b_MM_letter 13 = .ok (.bipush 65, 2) := by decide +kernel
theorem d_MM_letter_15 : decode b_MM_letter 15 = .ok (.if_icmp .lt 13, 3) := by decide +kernel
theorem d_MM_letter_18 : decode b_MM_letter 18 = .ok (.iload_n 1, 1) := by decide +kernel
theorem d_MM_letter_19 : decode b_MM_letter 19 = .ok (.bipush 90, 2) := by decide +kernel
theorem d_MM_letter_21 : decode b_MM_letter 21 = .ok (.if_icmp .gt 7, 3) := by decide +kernel
theorem d_MM_letter_24 : decode b_MM_letter 24 = .ok (.iconst 1, 1) := by decide +kernel
theorem d_MM_letter_25 : decode b_MM_letter 25 = .ok (.goto 4, 3) := by decide +kernel
theorem d_MM_letter_28 : decode b_MM_letter 28 = .ok (.iconst 0, 1) := by decide +kernel
theorem d_MM_letter_29 : decode b_MM_letter 29 = .ok (.ireturn, 1) := by decide +kernel
abbrev b_MM_inWord : ByteArray := prog_14_method_7_code
def y_MM_inWord : MethodName := ⟨"ClauseProverModel", "inWord", "(I)Z"⟩
theorem d_MM_inWord_0 : decode b_MM_inWord 0 = .ok (.aload_n 0, 1) := by decide +kernel
theorem d_MM_inWord_1 : decode b_MM_inWord 1 = .ok (.iload_n 1, 1) := by decide +kernel
theorem d_MM_inWord_2 : decode b_MM_inWord 2 = .ok (.invokevirtual 405, 3) := by decide +kernel
theorem d_MM_inWord_5 : decode b_MM_inWord 5 = .ok (.ifCond .ne 21, 3) := by decide +kernel
theorem d_MM_inWord_8 : decode b_MM_inWord 8 = .ok (.iload_n 1, 1) := by decide +kernel
theorem d_MM_inWord_9 : decode b_MM_inWord 9 = .ok (.bipush 48, 2) := by decide +kernel
theorem d_MM_inWord_11 : decode b_MM_inWord 11 = .ok (.if_icmp .lt 9, 3) := by decide +kernel
theorem d_MM_inWord_14 : decode b_MM_inWord 14 = .ok (.iload_n 1, 1) := by decide +kernel
theorem d_MM_inWord_15 : decode b_MM_inWord 15 = .ok (.bipush 57, 2) := by decide +kernel
theorem d_MM_inWord_17 : decode b_MM_inWord 17 = .ok (.if_icmp .le 9, 3) := by decide +kernel
theorem d_MM_inWord_20 : decode b_MM_inWord 20 = .ok (.iload_n 1, 1) := by decide +kernel
theorem d_MM_inWord_21 : decode b_MM_inWord 21 = .ok (.bipush 95, 2) := by decide +kernel
theorem d_MM_inWord_23 : decode b_MM_inWord 23 = .ok (.if_icmp .ne 7, 3) := by decide +kernel
theorem d_MM_inWord_26 : decode b_MM_inWord 26 = .ok (.iconst 1, 1) := by decide +kernel
theorem d_MM_inWord_27 : decode b_MM_inWord 27 = .ok (.goto 4, 3) := by decide +kernel
theorem d_MM_inWord_30 : decode b_MM_inWord 30 = .ok (.iconst 0, 1) := by decide +kernel
theorem d_MM_inWord_31 : decode b_MM_inWord 31 = .ok (.ireturn, 1) := by decide +kernel
abbrev b_MM_sign : ByteArray := prog_14_method_11_code
def y_MM_sign : MethodName := ⟨"ClauseProverModel", "sign", "(I)I"⟩
theorem d_MM_sign_0 : decode b_MM_sign 0 = .ok (.aload_n 0, 1) := by decide +kernel
theorem d_MM_sign_1 : decode b_MM_sign 1 = .ok (.aload_n 0, 1) := by decide +kernel
theorem d_MM_sign_2 : decode b_MM_sign 2 = .ok (.getfield 33, 3) := by decide +kernel
theorem d_MM_sign_5 : decode b_MM_sign 5 = .ok (.iconst 1, 1) := by decide +kernel
theorem d_MM_sign_6 : decode b_MM_sign 6 = .ok (.iadd, 1) := by decide +kernel
theorem d_MM_sign_7 : decode b_MM_sign 7 = .ok (.putfield 42, 3) := by decide +kernel
theorem d_MM_sign_10 : decode b_MM_sign 10 = .ok (.iload_n 1, 1) := by decide +kernel
theorem d_MM_sign_11 : decode b_MM_sign 11 = .ok (.lookupswitch 217 #[(33, 107), (38, 105), (40, 105), (41, 105), (44, 105), (46, 105), (58, 105), (60, 169), (61, 138), (63, 105), (124, 105), (126, 105)], 105) := by decide +kernel
theorem d_MM_sign_116 : decode b_MM_sign 116 = .ok (.iload_n 1, 1) := by decide +kernel
theorem d_MM_sign_117 : decode b_MM_sign 117 = .ok (.ireturn, 1) := by decide +kernel
theorem d_MM_sign_118 : decode b_MM_sign 118 = .ok (.aload_n 0, 1) := by decide +kernel
theorem d_MM_sign_119 : decode b_MM_sign 119 = .ok (.aload_n 0, 1) := by decide +kernel
theorem d_MM_sign_120 : decode b_MM_sign 120 = .ok (.getfield 33, 3) := by decide +kernel
theorem d_MM_sign_123 : decode b_MM_sign 123 = .ok (.iconst 1, 1) := by decide +kernel
theorem d_MM_sign_124 : decode b_MM_sign 124 = .ok (.iadd, 1) := by decide +kernel
theorem d_MM_sign_125 : decode b_MM_sign 125 = .ok (.bipush 61, 2) := by decide +kernel
theorem d_MM_sign_127 : decode b_MM_sign 127 = .ok (.invokevirtual 419, 3) := by decide +kernel
theorem d_MM_sign_130 : decode b_MM_sign 130 = .ok (.ifCond .ne 5, 3) := by decide +kernel
theorem d_MM_sign_133 : decode b_MM_sign 133 = .ok (.iload_n 1, 1) := by decide +kernel
theorem d_MM_sign_134 : decode b_MM_sign 134 = .ok (.ireturn, 1) := by decide +kernel
theorem d_MM_sign_135 : decode b_MM_sign 135 = .ok (.aload_n 0, 1) := by decide +kernel
theorem d_MM_sign_136 : decode b_MM_sign 136 = .ok (.dup, 1) := by decide +kernel
theorem d_MM_sign_137 : decode b_MM_sign 137 = .ok (.getfield 42, 3) := by decide +kernel
theorem d_MM_sign_140 : decode b_MM_sign 140 = .ok (.iconst 1, 1) := by decide +kernel
theorem d_MM_sign_141 : decode b_MM_sign 141 = .ok (.iadd, 1) := by decide +kernel
theorem d_MM_sign_142 : decode b_MM_sign 142 = .ok (.putfield 42, 3) := by decide +kernel
theorem d_MM_sign_145 : decode b_MM_sign 145 = .ok (.sipush 300, 3) := by decide +kernel
theorem d_MM_sign_148 : decode b_MM_sign 148 = .ok (.ireturn, 1) := by decide +kernel
theorem d_MM_sign_149 : decode b_MM_sign 149 = .ok (.aload_n 0, 1) := by decide +kernel
theorem d_MM_sign_150 : decode b_MM_sign 150 = .ok (.aload_n 0, 1) := by decide +kernel
theorem d_MM_sign_151 : decode b_MM_sign 151 = .ok (.getfield 33, 3) := by decide +kernel
theorem d_MM_sign_154 : decode b_MM_sign 154 = .ok (.iconst 1, 1) := by decide +kernel
theorem d_MM_sign_155 : decode b_MM_sign 155 = .ok (.iadd, 1) := by decide +kernel
theorem d_MM_sign_156 : decode b_MM_sign 156 = .ok (.bipush 62, 2) := by decide +kernel
theorem d_MM_sign_158 : decode b_MM_sign 158 = .ok (.invokevirtual 419, 3) := by decide +kernel
theorem d_MM_sign_161 : decode b_MM_sign 161 = .ok (.ifCond .ne 5, 3) := by decide +kernel
theorem d_MM_sign_164 : decode b_MM_sign 164 = .ok (.iload_n 1, 1) := by decide +kernel
theorem d_MM_sign_165 : decode b_MM_sign 165 = .ok (.ireturn, 1) := by decide +kernel
theorem d_MM_sign_166 : decode b_MM_sign 166 = .ok (.aload_n 0, 1) := by decide +kernel
theorem d_MM_sign_167 : decode b_MM_sign 167 = .ok (.dup, 1) := by decide +kernel
theorem d_MM_sign_168 : decode b_MM_sign 168 = .ok (.getfield 42, 3) := by decide +kernel
theorem d_MM_sign_171 : decode b_MM_sign 171 = .ok (.iconst 1, 1) := by decide +kernel
theorem d_MM_sign_172 : decode b_MM_sign 172 = .ok (.iadd, 1) := by decide +kernel
theorem d_MM_sign_173 : decode b_MM_sign 173 = .ok (.putfield 42, 3) := by decide +kernel
theorem d_MM_sign_176 : decode b_MM_sign 176 = .ok (.sipush 301, 3) := by decide +kernel
theorem d_MM_sign_179 : decode b_MM_sign 179 = .ok (.ireturn, 1) := by decide +kernel
theorem d_MM_sign_180 : decode b_MM_sign 180 = .ok (.aload_n 0, 1) := by decide +kernel
theorem d_MM_sign_181 : decode b_MM_sign 181 = .ok (.aload_n 0, 1) := by decide +kernel
theorem d_MM_sign_182 : decode b_MM_sign 182 = .ok (.getfield 33, 3) := by decide +kernel
theorem d_MM_sign_185 : decode b_MM_sign 185 = .ok (.iconst 1, 1) := by decide +kernel
theorem d_MM_sign_186 : decode b_MM_sign 186 = .ok (.iadd, 1) := by decide +kernel
theorem d_MM_sign_187 : decode b_MM_sign 187 = .ok (.bipush 61, 2) := by decide +kernel
theorem d_MM_sign_189 : decode b_MM_sign 189 = .ok (.invokevirtual 419, 3) := by decide +kernel
theorem d_MM_sign_192 : decode b_MM_sign 192 = .ok (.ifCond .eq 18, 3) := by decide +kernel
theorem d_MM_sign_195 : decode b_MM_sign 195 = .ok (.aload_n 0, 1) := by decide +kernel
theorem d_MM_sign_196 : decode b_MM_sign 196 = .ok (.aload_n 0, 1) := by decide +kernel
theorem d_MM_sign_197 : decode b_MM_sign 197 = .ok (.getfield 33, 3) := by decide +kernel
theorem d_MM_sign_200 : decode b_MM_sign 200 = .ok (.iconst 2, 1) := by decide +kernel
theorem d_MM_sign_201 : decode b_MM_sign 201 = .ok (.iadd, 1) := by decide +kernel
theorem d_MM_sign_202 : decode b_MM_sign 202 = .ok (.bipush 62, 2) := by decide +kernel
theorem d_MM_sign_204 : decode b_MM_sign 204 = .ok (.invokevirtual 419, 3) := by decide +kernel
theorem d_MM_sign_207 : decode b_MM_sign 207 = .ok (.ifCond .ne 7, 3) := by decide +kernel
theorem d_MM_sign_210 : decode b_MM_sign 210 = .ok (.sipush 303, 3) := by decide +kernel
theorem d_MM_sign_213 : decode b_MM_sign 213 = .ok (.ireturn, 1) := by decide +kernel
theorem d_MM_sign_214 : decode b_MM_sign 214 = .ok (.aload_n 0, 1) := by decide +kernel
theorem d_MM_sign_215 : decode b_MM_sign 215 = .ok (.dup, 1) := by decide +kernel
theorem d_MM_sign_216 : decode b_MM_sign 216 = .ok (.getfield 42, 3) := by decide +kernel
theorem d_MM_sign_219 : decode b_MM_sign 219 = .ok (.iconst 2, 1) := by decide +kernel
theorem d_MM_sign_220 : decode b_MM_sign 220 = .ok (.iadd, 1) := by decide +kernel
theorem d_MM_sign_221 : decode b_MM_sign 221 = .ok (.putfield 42, 3) := by decide +kernel
theorem d_MM_sign_224 : decode b_MM_sign 224 = .ok (.sipush 302, 3) := by decide +kernel
theorem d_MM_sign_227 : decode b_MM_sign 227 = .ok (.ireturn, 1) := by decide +kernel
theorem d_MM_sign_228 : decode b_MM_sign 228 = .ok (.sipush 303, 3) := by decide +kernel
theorem d_MM_sign_231 : decode b_MM_sign 231 = .ok (.ireturn, 1) := by decide +kernel
abbrev b_MM_at : ByteArray := prog_14_method_9_code
def y_MM_at : MethodName := ⟨"ClauseProverModel", "at", "(II)Z"⟩
theorem d_MM_at_0 : decode b_MM_at 0 = .ok (.iload_n 1, 1) := by decide +kernel
theorem d_MM_at_1 : decode b_MM_at 1 = .ok (.aload_n 0, 1) := by decide +kernel
theorem d_MM_at_2 : decode b_MM_at 2 = .ok (.getfield 17, 3) := by decide +kernel
theorem d_MM_at_5 : decode b_MM_at 5 = .ok (.if_icmp .ge 17, 3) := by decide +kernel
theorem d_MM_at_8 : decode b_MM_at 8 = .ok (.aload_n 0, 1) := by decide +kernel
theorem d_MM_at_9 : decode b_MM_at 9 = .ok (.getfield 8, 3) := by decide +kernel
theorem d_MM_at_12 : decode b_MM_at 12 = .ok (.iload_n 1, 1) := by decide +kernel
theorem d_MM_at_13 : decode b_MM_at 13 = .ok (.baload, 1) := by decide +kernel
theorem d_MM_at_14 : decode b_MM_at 14 = .ok (.iload_n 2, 1) := by decide +kernel
theorem d_MM_at_15 : decode b_MM_at 15 = .ok (.if_icmp .ne 7, 3) := by decide +kernel
theorem d_MM_at_18 : decode b_MM_at 18 = .ok (.iconst 1, 1) := by decide +kernel
theorem d_MM_at_19 : decode b_MM_at 19 = .ok (.goto 4, 3) := by decide +kernel
theorem d_MM_at_22 : decode b_MM_at 22 = .ok (.iconst 0, 1) := by decide +kernel
theorem d_MM_at_23 : decode b_MM_at 23 = .ok (.ireturn, 1) := by decide +kernel
abbrev b_MM_take : ByteArray := prog_14_method_12_code
def y_MM_take : MethodName := ⟨"ClauseProverModel", "take", "()V"⟩
theorem d_MM_take_0 : decode b_MM_take 0 = .ok (.aload_n 0, 1) := by decide +kernel
theorem d_MM_take_1 : decode b_MM_take 1 = .ok (.invokevirtual 422, 3) := by decide +kernel
theorem d_MM_take_4 : decode b_MM_take 4 = .ok (.pop, 1) := by decide +kernel
theorem d_MM_take_5 : decode b_MM_take 5 = .ok (.aload_n 0, 1) := by decide +kernel
theorem d_MM_take_6 : decode b_MM_take 6 = .ok (.aload_n 0, 1) := by decide +kernel
theorem d_MM_take_7 : decode b_MM_take 7 = .ok (.getfield 42, 3) := by decide +kernel
theorem d_MM_take_10 : decode b_MM_take 10 = .ok (.putfield 33, 3) := by decide +kernel
theorem d_MM_take_13 : decode b_MM_take 13 = .ok (.aload_n 0, 1) := by decide +kernel
theorem d_MM_take_14 : decode b_MM_take 14 = .ok (.iconst 0, 1) := by decide +kernel
theorem d_MM_take_15 : decode b_MM_take 15 = .ok (.putfield 45, 3) := by decide +kernel
theorem d_MM_take_18 : decode b_MM_take 18 = .ok (.return_, 1) := by decide +kernel
abbrev b_MM_node : ByteArray := prog_14_method_21_code
def y_MM_node : MethodName := ⟨"ClauseProverModel", "node", "(IIII)I"⟩
theorem d_MM_node_0 : decode b_MM_node 0 = .ok (.aload_n 0, 1) := by decide +kernel
theorem d_MM_node_1 : decode b_MM_node 1 = .ok (.getfield 105, 3) := by decide +kernel
theorem d_MM_node_4 : decode b_MM_node 4 = .ok (.aload_n 0, 1) := by decide +kernel
theorem d_MM_node_5 : decode b_MM_node 5 = .ok (.getfield 126, 3) := by decide +kernel
theorem d_MM_node_8 : decode b_MM_node 8 = .ok (.iload_n 1, 1) := by decide +kernel
theorem d_MM_node_9 : decode b_MM_node 9 = .ok (.iastore, 1) := by decide +kernel
theorem d_MM_node_10 : decode b_MM_node 10 = .ok (.aload_n 0, 1) := by decide +kernel
theorem d_MM_node_11 : decode b_MM_node 11 = .ok (.getfield 108, 3) := by decide +kernel
theorem d_MM_node_14 : decode b_MM_node 14 = .ok (.aload_n 0, 1) := by decide +kernel
theorem d_MM_node_15 : decode b_MM_node 15 = .ok (.getfield 126, 3) := by decide +kernel
theorem d_MM_node_18 : decode b_MM_node 18 = .ok (.iload_n 2, 1) := by decide +kernel
theorem d_MM_node_19 : decode b_MM_node 19 = .ok (.iastore, 1) := by decide +kernel
theorem d_MM_node_20 : decode b_MM_node 20 = .ok (.aload_n 0, 1) := by decide +kernel
theorem d_MM_node_21 : decode b_MM_node 21 = .ok (.getfield 111, 3) := by decide +kernel
theorem d_MM_node_24 : decode b_MM_node 24 = .ok (.aload_n 0, 1) := by decide +kernel
theorem d_MM_node_25 : decode b_MM_node 25 = .ok (.getfield 126, 3) := by decide +kernel
theorem d_MM_node_28 : decode b_MM_node 28 = .ok (.iload_n 3, 1) := by decide +kernel
theorem d_MM_node_29 : decode b_MM_node 29 = .ok (.iastore, 1) := by decide +kernel
theorem d_MM_node_30 : decode b_MM_node 30 = .ok (.aload_n 0, 1) := by decide +kernel
theorem d_MM_node_31 : decode b_MM_node 31 = .ok (.getfield 114, 3) := by decide +kernel
theorem d_MM_node_34 : decode b_MM_node 34 = .ok (.aload_n 0, 1) := by decide +kernel
theorem d_MM_node_35 : decode b_MM_node 35 = .ok (.getfield 126, 3) := by decide +kernel
theorem d_MM_node_38 : decode b_MM_node 38 = .ok (.iload 4, 2) := by decide +kernel
theorem d_MM_node_40 : decode b_MM_node 40 = .ok (.iastore, 1) := by decide +kernel
theorem d_MM_node_41 : decode b_MM_node 41 = .ok (.aload_n 0, 1) := by decide +kernel
theorem d_MM_node_42 : decode b_MM_node 42 = .ok (.dup, 1) := by decide +kernel
theorem d_MM_node_43 : decode b_MM_node 43 = .ok (.getfield 126, 3) := by decide +kernel
theorem d_MM_node_46 : decode b_MM_node 46 = .ok (.dup_x1, 1) := by decide +kernel
theorem d_MM_node_47 : decode b_MM_node 47 = .ok (.iconst 1, 1) := by decide +kernel
theorem d_MM_node_48 : decode b_MM_node 48 = .ok (.iadd, 1) := by decide +kernel
theorem d_MM_node_49 : decode b_MM_node 49 = .ok (.putfield 126, 3) := by decide +kernel
theorem d_MM_node_52 : decode b_MM_node 52 = .ok (.ireturn, 1) := by decide +kernel
abbrev b_MM_isBinder : ByteArray := prog_14_method_18_code
def y_MM_isBinder : MethodName := ⟨"ClauseProverModel", "isBinder", "(I)Z"⟩
theorem d_MM_isBinder_0 : decode b_MM_isBinder 0 = .ok (.aload_n 0, 1) := by decide +kernel
theorem d_MM_isBinder_1 : decode b_MM_isBinder 1 = .ok (.getfield 80, 3) := by decide +kernel
theorem d_MM_isBinder_4 : decode b_MM_isBinder 4 = .ok (.iload_n 1, 1) := by decide +kernel
theorem d_MM_isBinder_5 : decode b_MM_isBinder 5 = .ok (.iaload, 1) := by decide +kernel
theorem d_MM_isBinder_6 : decode b_MM_isBinder 6 = .ok (.aload_n 0, 1) := by decide +kernel
theorem d_MM_isBinder_7 : decode b_MM_isBinder 7 = .ok (.getfield 42, 3) := by decide +kernel
theorem d_MM_isBinder_10 : decode b_MM_isBinder 10 = .ok (.aload_n 0, 1) := by decide +kernel
theorem d_MM_isBinder_11 : decode b_MM_isBinder 11 = .ok (.getfield 39, 3) := by decide +kernel
theorem d_MM_isBinder_14 : decode b_MM_isBinder 14 = .ok (.isub, 1) := by decide +kernel
theorem d_MM_isBinder_15 : decode b_MM_isBinder 15 = .ok (.if_icmp .eq 5, 3) := by decide +kernel
theorem d_MM_isBinder_18 : decode b_MM_isBinder 18 = .ok (.iconst 0, 1) := by decide +kernel
theorem d_MM_isBinder_19 : decode b_MM_isBinder 19 = .ok (.ireturn, 1) := by decide +kernel
theorem d_MM_isBinder_20 : decode b_MM_isBinder 20 = .ok (.iconst 0, 1) := by decide +kernel
theorem d_MM_isBinder_21 : decode b_MM_isBinder 21 = .ok (.istore_n 2, 1) := by decide +kernel
theorem d_MM_isBinder_22 : decode b_MM_isBinder 22 = .ok (.iload_n 2, 1) := by decide +kernel
theorem d_MM_isBinder_23 : decode b_MM_isBinder 23 = .ok (.aload_n 0, 1) := by decide +kernel
theorem d_MM_isBinder_24 : decode b_MM_isBinder 24 = .ok (.getfield 80, 3) := by decide +kernel
theorem d_MM_isBinder_27 : decode b_MM_isBinder 27 = .ok (.iload_n 1, 1) := by decide +kernel
theorem d_MM_isBinder_28 : decode b_MM_isBinder 28 = .ok (.iaload, 1) := by decide +kernel
theorem d_MM_isBinder_29 : decode b_MM_isBinder 29 = .ok (.if_icmp .ge 38, 3) := by decide +kernel
theorem d_MM_isBinder_32 : decode b_MM_isBinder 32 = .ok (.aload_n 0, 1) := by decide +kernel
theorem d_MM_isBinder_33 : decode b_MM_isBinder 33 = .ok (.getfield 8, 3) := by decide +kernel
theorem d_MM_isBinder_36 : decode b_MM_isBinder 36 = .ok (.aload_n 0, 1) := by decide +kernel
theorem d_MM_isBinder_37 : decode b_MM_isBinder 37 = .ok (.getfield 77, 3) := by decide +kernel
theorem d_MM_isBinder_40 : decode b_MM_isBinder 40 = .ok (.iload_n 1, 1) := by decide +kernel
theorem d_MM_isBinder_41 : decode b_MM_isBinder 41 = .ok (.iaload, 1) := by decide +kernel
theorem d_MM_isBinder_42 : decode b_MM_isBinder 42 = .ok (.iload_n 2, 1) := by decide +kernel
theorem d_MM_isBinder_43 : decode b_MM_isBinder 43 = .ok (.iadd, 1) := by decide +kernel
theorem d_MM_isBinder_44 : decode b_MM_isBinder 44 = .ok (.baload, 1) := by decide +kernel
theorem d_MM_isBinder_45 : decode b_MM_isBinder 45 = .ok (.aload_n 0, 1) := by decide +kernel
theorem d_MM_isBinder_46 : decode b_MM_isBinder 46 = .ok (.getfield 8, 3) := by decide +kernel
theorem d_MM_isBinder_49 : decode b_MM_isBinder 49 = .ok (.aload_n 0, 1) := by decide +kernel
theorem d_MM_isBinder_50 : decode b_MM_isBinder 50 = .ok (.getfield 39, 3) := by decide +kernel
theorem d_MM_isBinder_53 : decode b_MM_isBinder 53 = .ok (.iload_n 2, 1) := by decide +kernel
theorem d_MM_isBinder_54 : decode b_MM_isBinder 54 = .ok (.iadd, 1) := by decide +kernel
theorem d_MM_isBinder_55 : decode b_MM_isBinder 55 = .ok (.baload, 1) := by decide +kernel
theorem d_MM_isBinder_56 : decode b_MM_isBinder 56 = .ok (.if_icmp .eq 5, 3) := by decide +kernel
theorem d_MM_isBinder_59 : decode b_MM_isBinder 59 = .ok (.iconst 0, 1) := by decide +kernel
theorem d_MM_isBinder_60 : decode b_MM_isBinder 60 = .ok (.ireturn, 1) := by decide +kernel
theorem d_MM_isBinder_61 : decode b_MM_isBinder 61 = .ok (.iinc 2 1, 3) := by decide +kernel
theorem d_MM_isBinder_64 : decode b_MM_isBinder 64 = .ok (.goto (-42), 3) := by decide +kernel
theorem d_MM_isBinder_67 : decode b_MM_isBinder 67 = .ok (.iconst 1, 1) := by decide +kernel
theorem d_MM_isBinder_68 : decode b_MM_isBinder 68 = .ok (.ireturn, 1) := by decide +kernel
abbrev b_MM_term : ByteArray := prog_14_method_22_code
def y_MM_term : MethodName := ⟨"ClauseProverModel", "term", "(II)I"⟩
theorem d_MM_term_0 : decode b_MM_term 0 = .ok (.aload_n 0, 1) := by decide +kernel
theorem d_MM_term_1 : decode b_MM_term 1 = .ok (.getfield 117, 3) := by decide +kernel
theorem d_MM_term_4 : decode b_MM_term 4 = .ok (.aload_n 0, 1) := by decide +kernel
theorem d_MM_term_5 : decode b_MM_term 5 = .ok (.getfield 129, 3) := by decide +kernel
theorem d_MM_term_8 : decode b_MM_term 8 = .ok (.iload_n 1, 1) := by decide +kernel
theorem d_MM_term_9 : decode b_MM_term 9 = .ok (.iastore, 1) := by decide +kernel
theorem d_MM_term_10 : decode b_MM_term 10 = .ok (.aload_n 0, 1) := by decide +kernel
theorem d_MM_term_11 : decode b_MM_term 11 = .ok (.getfield 120, 3) := by decide +kernel
theorem d_MM_term_14 : decode b_MM_term 14 = .ok (.aload_n 0, 1) := by decide +kernel
theorem d_MM_term_15 : decode b_MM_term 15 = .ok (.getfield 129, 3) := by decide +kernel
theorem d_MM_term_18 : decode b_MM_term 18 = .ok (.iload_n 2, 1) := by decide +kernel
theorem d_MM_term_19 : decode b_MM_term 19 = .ok (.iastore, 1) := by decide +kernel
theorem d_MM_term_20 : decode b_MM_term 20 = .ok (.aload_n 0, 1) := by decide +kernel
theorem d_MM_term_21 : decode b_MM_term 21 = .ok (.getfield 123, 3) := by decide +kernel
theorem d_MM_term_24 : decode b_MM_term 24 = .ok (.aload_n 0, 1) := by decide +kernel
theorem d_MM_term_25 : decode b_MM_term 25 = .ok (.getfield 129, 3) := by decide +kernel
theorem d_MM_term_28 : decode b_MM_term 28 = .ok (.iconst (-1), 1) := by decide +kernel
theorem d_MM_term_29 : decode b_MM_term 29 = .ok (.iastore, 1) := by decide +kernel
theorem d_MM_term_30 : decode b_MM_term 30 = .ok (.aload_n 0, 1) := by decide +kernel
theorem d_MM_term_31 : decode b_MM_term 31 = .ok (.dup, 1) := by decide +kernel
theorem d_MM_term_32 : decode b_MM_term 32 = .ok (.getfield 129, 3) := by decide +kernel
theorem d_MM_term_35 : decode b_MM_term 35 = .ok (.dup_x1, 1) := by decide +kernel
theorem d_MM_term_36 : decode b_MM_term 36 = .ok (.iconst 1, 1) := by decide +kernel
theorem d_MM_term_37 : decode b_MM_term 37 = .ok (.iadd, 1) := by decide +kernel
theorem d_MM_term_38 : decode b_MM_term 38 = .ok (.putfield 129, 3) := by decide +kernel
theorem d_MM_term_41 : decode b_MM_term 41 = .ok (.ireturn, 1) := by decide +kernel
abbrev b_MM_length : ByteArray := prog_14_method_33_code
def y_MM_length : MethodName := ⟨"ClauseProverModel", "length", "(I)I"⟩
theorem d_MM_length_0 : decode b_MM_length 0 = .ok (.iconst 0, 1) := by decide +kernel
theorem d_MM_length_1 : decode b_MM_length 1 = .ok (.istore_n 2, 1) := by decide +kernel
theorem d_MM_length_2 : decode b_MM_length 2 = .ok (.iload_n 1, 1) := by decide +kernel
theorem d_MM_length_3 : decode b_MM_length 3 = .ok (.istore_n 3, 1) := by decide +kernel
theorem d_MM_length_4 : decode b_MM_length 4 = .ok (.iload_n 3, 1) := by decide +kernel
theorem d_MM_length_5 : decode b_MM_length 5 = .ok (.ifCond .lt 16, 3) := by decide +kernel
theorem d_MM_length_8 : decode b_MM_length 8 = .ok (.iinc 2 1, 3) := by decide +kernel
theorem d_MM_length_11 : decode b_MM_length 11 = .ok (.aload_n 0, 1) := by decide +kernel
theorem d_MM_length_12 : decode b_MM_length 12 = .ok (.getfield 123, 3) := by decide +kernel
theorem d_MM_length_15 : decode b_MM_length 15 = .ok (.iload_n 3, 1) := by decide +kernel
theorem d_MM_length_16 : decode b_MM_length 16 = .ok (.iaload, 1) := by decide +kernel
theorem d_MM_length_17 : decode b_MM_length 17 = .ok (.istore_n 3, 1) := by decide +kernel
theorem d_MM_length_18 : decode b_MM_length 18 = .ok (.goto (-14), 3) := by decide +kernel
theorem d_MM_length_21 : decode b_MM_length 21 = .ok (.iload_n 2, 1) := by decide +kernel
theorem d_MM_length_22 : decode b_MM_length 22 = .ok (.ireturn, 1) := by decide +kernel
abbrev b_MM_termOf : ByteArray := prog_14_method_31_code
def y_MM_termOf : MethodName := ⟨"ClauseProverModel", "termOf", "(II)V"⟩
theorem d_MM_termOf_0 : decode b_MM_termOf 0 = .ok (.aload_n 0, 1) := by decide +kernel
theorem d_MM_termOf_1 : decode b_MM_termOf 1 = .ok (.getfield 138, 3) := by decide +kernel
theorem d_MM_termOf_4 : decode b_MM_termOf 4 = .ok (.aload_n 0, 1) := by decide +kernel
theorem d_MM_termOf_5 : decode b_MM_termOf 5 = .ok (.getfield 135, 3) := by decide +kernel
theorem d_MM_termOf_8 : decode b_MM_termOf 8 = .ok (.iload_n 1, 1) := by decide +kernel
theorem d_MM_termOf_9 : decode b_MM_termOf 9 = .ok (.iastore, 1) := by decide +kernel
theorem d_MM_termOf_10 : decode b_MM_termOf 10 = .ok (.aload_n 0, 1) := by decide +kernel
theorem d_MM_termOf_11 : decode b_MM_termOf 11 = .ok (.getfield 141, 3) := by decide +kernel
theorem d_MM_termOf_14 : decode b_MM_termOf 14 = .ok (.aload_n 0, 1) := by decide +kernel
theorem d_MM_termOf_15 : decode b_MM_termOf 15 = .ok (.getfield 135, 3) := by decide +kernel
theorem d_MM_termOf_18 : decode b_MM_termOf 18 = .ok (.iload_n 2, 1) := by decide +kernel
theorem d_MM_termOf_19 : decode b_MM_termOf 19 = .ok (.iastore, 1) := by decide +kernel
theorem d_MM_termOf_20 : decode b_MM_termOf 20 = .ok (.aload_n 0, 1) := by decide +kernel
theorem d_MM_termOf_21 : decode b_MM_termOf 21 = .ok (.aload_n 0, 1) := by decide +kernel
theorem d_MM_termOf_22 : decode b_MM_termOf 22 = .ok (.dup, 1) := by decide +kernel
theorem d_MM_termOf_23 : decode b_MM_termOf 23 = .ok (.getfield 135, 3) := by decide +kernel
theorem d_MM_termOf_26 : decode b_MM_termOf 26 = .ok (.dup_x1, 1) := by decide +kernel
theorem d_MM_termOf_27 : decode b_MM_termOf 27 = .ok (.iconst 1, 1) := by decide +kernel
theorem d_MM_termOf_28 : decode b_MM_termOf 28 = .ok (.iadd, 1) := by decide +kernel
theorem d_MM_termOf_29 : decode b_MM_termOf 29 = .ok (.putfield 135, 3) := by decide +kernel
theorem d_MM_termOf_32 : decode b_MM_termOf 32 = .ok (.putfield 132, 3) := by decide +kernel
theorem d_MM_termOf_35 : decode b_MM_termOf 35 = .ok (.return_, 1) := by decide +kernel
abbrev b_MM_joined1 : ByteArray := prog_14_method_23_code
def y_MM_joined1 : MethodName := ⟨"ClauseProverModel", "joined", "(III)I"⟩
theorem d_MM_joined1_0 : decode b_MM_joined1 0 = .ok (.aload_n 0, 1) := by decide +kernel
theorem d_MM_joined1_1 : decode b_MM_joined1 1 = .ok (.iload_n 1, 1) := by decide +kernel
theorem d_MM_joined1_2 : decode b_MM_joined1 2 = .ok (.iload_n 2, 1) := by decide +kernel
theorem d_MM_joined1_3 : decode b_MM_joined1 3 = .ok (.iload_n 3, 1) := by decide +kernel
theorem d_MM_joined1_4 : decode b_MM_joined1 4 = .ok (.iconst 1, 1) := by decide +kernel
theorem d_MM_joined1_5 : decode b_MM_joined1 5 = .ok (.aload_n 0, 1) := by decide +kernel
theorem d_MM_joined1_6 : decode b_MM_joined1 6 = .ok (.getfield 114, 3) := by decide +kernel
theorem d_MM_joined1_9 : decode b_MM_joined1 9 = .ok (.iload_n 2, 1) := by decide +kernel
theorem d_MM_joined1_10 : decode b_MM_joined1 10 = .ok (.iaload, 1) := by decide +kernel
theorem d_MM_joined1_11 : decode b_MM_joined1 11 = .ok (.aload_n 0, 1) := by decide +kernel
theorem d_MM_joined1_12 : decode b_MM_joined1 12 = .ok (.getfield 114, 3) := by decide +kernel
theorem d_MM_joined1_15 : decode b_MM_joined1 15 = .ok (.iload_n 3, 1) := by decide +kernel
theorem d_MM_joined1_16 : decode b_MM_joined1 16 = .ok (.iaload, 1) := by decide +kernel
theorem d_MM_joined1_17 : decode b_MM_joined1 17 = .ok (.invokestatic 444, 3) := by decide +kernel
theorem d_MM_joined1_20 : decode b_MM_joined1 20 = .ok (.iadd, 1) := by decide +kernel
theorem d_MM_joined1_21 : decode b_MM_joined1 21 = .ok (.invokevirtual 450, 3) := by decide +kernel
theorem d_MM_joined1_24 : decode b_MM_joined1 24 = .ok (.ireturn, 1) := by decide +kernel
abbrev b_MM_mark : ByteArray := prog_14_method_41_code
def y_MM_mark : MethodName := ⟨"ClauseProverModel", "mark", "(IZI)V"⟩
theorem d_MM_mark_0 : decode b_MM_mark 0 = .ok (.aload_n 0, 1) := by decide +kernel
theorem d_MM_mark_1 : decode b_MM_mark 1 = .ok (.getfield 105, 3) := by decide +kernel
theorem d_MM_mark_4 : decode b_MM_mark 4 = .ok (.iload_n 1, 1) := by decide +kernel
theorem d_MM_mark_5 : decode b_MM_mark 5 = .ok (.iaload, 1) := by decide +kernel
theorem d_MM_mark_6 : decode b_MM_mark 6 = .ok (.tableswitch 151 0 5 #[38, 41, 64, 64, 91, 126], 38) := by decide +kernel
theorem d_MM_mark_44 : decode b_MM_mark 44 = .ok (.goto 167, 3) := by decide +kernel
theorem d_MM_mark_47 : decode b_MM_mark 47 = .ok (.aload_n 0, 1) := by decide +kernel
theorem d_MM_mark_48 : decode b_MM_mark 48 = .ok (.aload_n 0, 1) := by decide +kernel
theorem d_MM_mark_49 : decode b_MM_mark 49 = .ok (.getfield 108, 3) := by decide +kernel
theorem d_MM_mark_52 : decode b_MM_mark 52 = .ok (.iload_n 1, 1) := by decide +kernel
theorem d_MM_mark_53 : decode b_MM_mark 53 = .ok (.iaload, 1) := by decide +kernel
theorem d_MM_mark_54 : decode b_MM_mark 54 = .ok (.iload_n 2, 1) := by decide +kernel
theorem d_MM_mark_55 : decode b_MM_mark 55 = .ok (.ifCond .ne 7, 3) := by decide +kernel
theorem d_MM_mark_58 : decode b_MM_mark 58 = .ok (.iconst 1, 1) := by decide +kernel
theorem d_MM_mark_59 : decode b_MM_mark 59 = .ok (.goto 4, 3) := by decide +kernel
theorem d_MM_mark_62 : decode b_MM_mark 62 = .ok (.iconst 0, 1) := by decide +kernel
theorem d_MM_mark_63 : decode b_MM_mark 63 = .ok (.iload_n 3, 1) := by decide +kernel
theorem d_MM_mark_64 : decode b_MM_mark 64 = .ok (.invokevirtual 522, 3) := by decide +kernel
theorem d_MM_mark_67 : decode b_MM_mark 67 = .ok (.goto 144, 3) := by decide +kernel
theorem d_MM_mark_70 : decode b_MM_mark 70 = .ok (.aload_n 0, 1) := by decide +kernel
theorem d_MM_mark_71 : decode b_MM_mark 71 = .ok (.aload_n 0, 1) := by decide +kernel
theorem d_MM_mark_72 : decode b_MM_mark 72 = .ok (.getfield 108, 3) := by decide +kernel
theorem d_MM_mark_75 : decode b_MM_mark 75 = .ok (.iload_n 1, 1) := by decide +kernel
theorem d_MM_mark_76 : decode b_MM_mark 76 = .ok (.iaload, 1) := by decide +kernel
theorem d_MM_mark_77 : decode b_MM_mark 77 = .ok (.iload_n 2, 1) := by decide +kernel
theorem d_MM_mark_78 : decode b_MM_mark 78 = .ok (.iload_n 3, 1) := by decide +kernel
theorem d_MM_mark_79 : decode b_MM_mark 79 = .ok (.invokevirtual 522, 3) := by decide +kernel
theorem d_MM_mark_82 : decode b_MM_mark 82 = .ok (.aload_n 0, 1) := by decide +kernel
theorem d_MM_mark_83 : decode b_MM_mark 83 = .ok (.aload_n 0, 1) := by decide +kernel
theorem d_MM_mark_84 : decode b_MM_mark 84 = .ok (.getfield 111, 3) := by decide +kernel
theorem d_MM_mark_87 : decode b_MM_mark 87 = .ok (.iload_n 1, 1) := by decide +kernel
theorem d_MM_mark_88 : decode b_MM_mark 88 = .ok (.iaload, 1) := by decide +kernel
theorem d_MM_mark_89 : decode b_MM_mark 89 = .ok (.iload_n 2, 1) := by decide +kernel
theorem d_MM_mark_90 : decode b_MM_mark 90 = .ok (.iload_n 3, 1) := by decide +kernel
theorem d_MM_mark_91 : decode b_MM_mark 91 = .ok (.invokevirtual 522, 3) := by decide +kernel
theorem d_MM_mark_94 : decode b_MM_mark 94 = .ok (.goto 117, 3) := by decide +kernel
theorem d_MM_mark_97 : decode b_MM_mark 97 = .ok (.aload_n 0, 1) := by decide +kernel
theorem d_MM_mark_98 : decode b_MM_mark 98 = .ok (.aload_n 0, 1) := by decide +kernel
theorem d_MM_mark_99 : decode b_MM_mark 99 = .ok (.getfield 108, 3) := by decide +kernel
theorem d_MM_mark_102 : decode b_MM_mark 102 = .ok (.iload_n 1, 1) := by decide +kernel
theorem d_MM_mark_103 : decode b_MM_mark 103 = .ok (.iaload, 1) := by decide +kernel
theorem d_MM_mark_104 : decode b_MM_mark 104 = .ok (.iload_n 2, 1) := by decide +kernel
theorem d_MM_mark_105 : decode b_MM_mark 105 = .ok (.ifCond .ne 7, 3) := by decide +kernel
theorem d_MM_mark_108 : decode b_MM_mark 108 = .ok (.iconst 1, 1) := by decide +kernel
theorem d_MM_mark_109 : decode b_MM_mark 109 = .ok (.goto 4, 3) := by decide +kernel
theorem d_MM_mark_112 : decode b_MM_mark 112 = .ok (.iconst 0, 1) := by decide +kernel
theorem d_MM_mark_113 : decode b_MM_mark 113 = .ok (.iload_n 3, 1) := by decide +kernel
theorem d_MM_mark_114 : decode b_MM_mark 114 = .ok (.invokevirtual 522, 3) := by decide +kernel
theorem d_MM_mark_117 : decode b_MM_mark 117 = .ok (.aload_n 0, 1) := by decide +kernel
theorem d_MM_mark_118 : decode b_MM_mark 118 = .ok (.aload_n 0, 1) := by decide +kernel
theorem d_MM_mark_119 : decode b_MM_mark 119 = .ok (.getfield 111, 3) := by decide +kernel
theorem d_MM_mark_122 : decode b_MM_mark 122 = .ok (.iload_n 1, 1) := by decide +kernel
theorem d_MM_mark_123 : decode b_MM_mark 123 = .ok (.iaload, 1) := by decide +kernel
theorem d_MM_mark_124 : decode b_MM_mark 124 = .ok (.iload_n 2, 1) := by decide +kernel
theorem d_MM_mark_125 : decode b_MM_mark 125 = .ok (.iload_n 3, 1) := by decide +kernel
theorem d_MM_mark_126 : decode b_MM_mark 126 = .ok (.invokevirtual 522, 3) := by decide +kernel
theorem d_MM_mark_129 : decode b_MM_mark 129 = .ok (.goto 82, 3) := by decide +kernel
theorem d_MM_mark_132 : decode b_MM_mark 132 = .ok (.aload_n 0, 1) := by decide +kernel
theorem d_MM_mark_133 : decode b_MM_mark 133 = .ok (.aload_n 0, 1) := by decide +kernel
theorem d_MM_mark_134 : decode b_MM_mark 134 = .ok (.getfield 108, 3) := by decide +kernel
theorem d_MM_mark_137 : decode b_MM_mark 137 = .ok (.iload_n 1, 1) := by decide +kernel
theorem d_MM_mark_138 : decode b_MM_mark 138 = .ok (.iaload, 1) := by decide +kernel
theorem d_MM_mark_139 : decode b_MM_mark 139 = .ok (.iload_n 3, 1) := by decide +kernel
theorem d_MM_mark_140 : decode b_MM_mark 140 = .ok (.invokevirtual 526, 3) := by decide +kernel
theorem d_MM_mark_143 : decode b_MM_mark 143 = .ok (.aload_n 0, 1) := by decide +kernel
theorem d_MM_mark_144 : decode b_MM_mark 144 = .ok (.aload_n 0, 1) := by decide +kernel
theorem d_MM_mark_145 : decode b_MM_mark 145 = .ok (.getfield 111, 3) := by decide +kernel
theorem d_MM_mark_148 : decode b_MM_mark 148 = .ok (.iload_n 1, 1) := by decide +kernel
theorem d_MM_mark_149 : decode b_MM_mark 149 = .ok (.iaload, 1) := by decide +kernel
theorem d_MM_mark_150 : decode b_MM_mark 150 = .ok (.iload_n 3, 1) := by decide +kernel
theorem d_MM_mark_151 : decode b_MM_mark 151 = .ok (.invokevirtual 526, 3) := by decide +kernel
theorem d_MM_mark_154 : decode b_MM_mark 154 = .ok (.goto 57, 3) := by decide +kernel
theorem d_MM_mark_157 : decode b_MM_mark 157 = .ok (.aload_n 0, 1) := by decide +kernel
theorem d_MM_mark_158 : decode b_MM_mark 158 = .ok (.iload_n 1, 1) := by decide +kernel
theorem d_MM_mark_159 : decode b_MM_mark 159 = .ok (.aload_n 0, 1) := by decide +kernel
theorem d_MM_mark_160 : decode b_MM_mark 160 = .ok (.getfield 105, 3) := by decide +kernel
theorem d_MM_mark_163 : decode b_MM_mark 163 = .ok (.iload_n 1, 1) := by decide +kernel
theorem d_MM_mark_164 : decode b_MM_mark 164 = .ok (.iaload, 1) := by decide +kernel
theorem d_MM_mark_165 : decode b_MM_mark 165 = .ok (.bipush 6, 2) := by decide +kernel
theorem d_MM_mark_167 : decode b_MM_mark 167 = .ok (.if_icmp .ne 7, 3) := by decide +kernel
theorem d_MM_mark_170 : decode b_MM_mark 170 = .ok (.iconst 1, 1) := by decide +kernel
theorem d_MM_mark_171 : decode b_MM_mark 171 = .ok (.goto 4, 3) := by decide +kernel
theorem d_MM_mark_174 : decode b_MM_mark 174 = .ok (.iconst 0, 1) := by decide +kernel
theorem d_MM_mark_175 : decode b_MM_mark 175 = .ok (.iload_n 2, 1) := by decide +kernel
theorem d_MM_mark_176 : decode b_MM_mark 176 = .ok (.if_icmp .eq 7, 3) := by decide +kernel
theorem d_MM_mark_179 : decode b_MM_mark 179 = .ok (.iconst 1, 1) := by decide +kernel
theorem d_MM_mark_180 : decode b_MM_mark 180 = .ok (.goto 4, 3) := by decide +kernel
theorem d_MM_mark_183 : decode b_MM_mark 183 = .ok (.iconst 0, 1) := by decide +kernel
theorem d_MM_mark_184 : decode b_MM_mark 184 = .ok (.iload_n 3, 1) := by decide +kernel
theorem d_MM_mark_185 : decode b_MM_mark 185 = .ok (.invokevirtual 529, 3) := by decide +kernel
theorem d_MM_mark_188 : decode b_MM_mark 188 = .ok (.aload_n 0, 1) := by decide +kernel
theorem d_MM_mark_189 : decode b_MM_mark 189 = .ok (.aload_n 0, 1) := by decide +kernel
theorem d_MM_mark_190 : decode b_MM_mark 190 = .ok (.getfield 108, 3) := by decide +kernel
theorem d_MM_mark_193 : decode b_MM_mark 193 = .ok (.iload_n 1, 1) := by decide +kernel
theorem d_MM_mark_194 : decode b_MM_mark 194 = .ok (.iaload, 1) := by decide +kernel
theorem d_MM_mark_195 : decode b_MM_mark 195 = .ok (.iload_n 2, 1) := by decide +kernel
theorem d_MM_mark_196 : decode b_MM_mark 196 = .ok (.iload_n 3, 1) := by decide +kernel
theorem d_MM_mark_197 : decode b_MM_mark 197 = .ok (.aload_n 0, 1) := by decide +kernel
theorem d_MM_mark_198 : decode b_MM_mark 198 = .ok (.getfield 111, 3) := by decide +kernel
theorem d_MM_mark_201 : decode b_MM_mark 201 = .ok (.iload_n 1, 1) := by decide +kernel
theorem d_MM_mark_202 : decode b_MM_mark 202 = .ok (.iaload, 1) := by decide +kernel
theorem d_MM_mark_203 : decode b_MM_mark 203 = .ok (.sipush 1000, 3) := by decide +kernel
theorem d_MM_mark_206 : decode b_MM_mark 206 = .ok (.irem, 1) := by decide +kernel
theorem d_MM_mark_207 : decode b_MM_mark 207 = .ok (.iadd, 1) := by decide +kernel
theorem d_MM_mark_208 : decode b_MM_mark 208 = .ok (.invokevirtual 522, 3) := by decide +kernel
theorem d_MM_mark_211 : decode b_MM_mark 211 = .ok (.return_, 1) := by decide +kernel
abbrev b_MM_mark2 : ByteArray := prog_14_method_43_code
def y_MM_mark2 : MethodName := ⟨"ClauseProverModel", "mark2", "(II)V"⟩
theorem d_MM_mark2_0 : decode b_MM_mark2 0 = .ok (.aload_n 0, 1) := by decide +kernel
theorem d_MM_mark2_1 : decode b_MM_mark2 1 = .ok (.getfield 105, 3) := by decide +kernel
theorem d_MM_mark2_4 : decode b_MM_mark2 4 = .ok (.iload_n 1, 1) := by decide +kernel
theorem d_MM_mark2_5 : decode b_MM_mark2 5 = .ok (.iaload, 1) := by decide +kernel
theorem d_MM_mark2_6 : decode b_MM_mark2 6 = .ok (.ifCond .ne 4, 3) := by decide +kernel
theorem d_MM_mark2_9 : decode b_MM_mark2 9 = .ok (.return_, 1) := by decide +kernel
theorem d_MM_mark2_10 : decode b_MM_mark2 10 = .ok (.aload_n 0, 1) := by decide +kernel
theorem d_MM_mark2_11 : decode b_MM_mark2 11 = .ok (.getfield 105, 3) := by decide +kernel
theorem d_MM_mark2_14 : decode b_MM_mark2 14 = .ok (.iload_n 1, 1) := by decide +kernel
theorem d_MM_mark2_15 : decode b_MM_mark2 15 = .ok (.iaload, 1) := by decide +kernel
theorem d_MM_mark2_16 : decode b_MM_mark2 16 = .ok (.bipush 6, 2) := by decide +kernel
theorem d_MM_mark2_18 : decode b_MM_mark2 18 = .ok (.if_icmp .eq 14, 3) := by decide +kernel
theorem d_MM_mark2_21 : decode b_MM_mark2 21 = .ok (.aload_n 0, 1) := by decide +kernel
theorem d_MM_mark2_22 : decode b_MM_mark2 22 = .ok (.getfield 105, 3) := by decide +kernel
theorem d_MM_mark2_25 : decode b_MM_mark2 25 = .ok (.iload_n 1, 1) := by decide +kernel
theorem d_MM_mark2_26 : decode b_MM_mark2 26 = .ok (.iaload, 1) := by decide +kernel
theorem d_MM_mark2_27 : decode b_MM_mark2 27 = .ok (.bipush 7, 2) := by decide +kernel
theorem d_MM_mark2_29 : decode b_MM_mark2 29 = .ok (.if_icmp .ne 16, 3) := by decide +kernel
theorem d_MM_mark2_32 : decode b_MM_mark2 32 = .ok (.aload_n 0, 1) := by decide +kernel
theorem d_MM_mark2_33 : decode b_MM_mark2 33 = .ok (.getfield 111, 3) := by decide +kernel
theorem d_MM_mark2_36 : decode b_MM_mark2 36 = .ok (.iload_n 1, 1) := by decide +kernel
theorem d_MM_mark2_37 : decode b_MM_mark2 37 = .ok (.iaload, 1) := by decide +kernel
theorem d_MM_mark2_38 : decode b_MM_mark2 38 = .ok (.sipush 1000, 3) := by decide +kernel
theorem d_MM_mark2_41 : decode b_MM_mark2 41 = .ok (.irem, 1) := by decide +kernel
theorem d_MM_mark2_42 : decode b_MM_mark2 42 = .ok (.goto 4, 3) := by decide +kernel
theorem d_MM_mark2_45 : decode b_MM_mark2 45 = .ok (.iconst 0, 1) := by decide +kernel
theorem d_MM_mark2_46 : decode b_MM_mark2 46 = .ok (.istore_n 3, 1) := by decide +kernel
theorem d_MM_mark2_47 : decode b_MM_mark2 47 = .ok (.iload_n 3, 1) := by decide +kernel
theorem d_MM_mark2_48 : decode b_MM_mark2 48 = .ok (.ifCond .le 10, 3) := by decide +kernel
theorem d_MM_mark2_51 : decode b_MM_mark2 51 = .ok (.aload_n 0, 1) := by decide +kernel
theorem d_MM_mark2_52 : decode b_MM_mark2 52 = .ok (.iload_n 1, 1) := by decide +kernel
theorem d_MM_mark2_53 : decode b_MM_mark2 53 = .ok (.iconst 1, 1) := by decide +kernel
theorem d_MM_mark2_54 : decode b_MM_mark2 54 = .ok (.iload_n 2, 1) := by decide +kernel
theorem d_MM_mark2_55 : decode b_MM_mark2 55 = .ok (.invokevirtual 529, 3) := by decide +kernel
theorem d_MM_mark2_58 : decode b_MM_mark2 58 = .ok (.aload_n 0, 1) := by decide +kernel
theorem d_MM_mark2_59 : decode b_MM_mark2 59 = .ok (.aload_n 0, 1) := by decide +kernel
theorem d_MM_mark2_60 : decode b_MM_mark2 60 = .ok (.getfield 108, 3) := by decide +kernel
theorem d_MM_mark2_63 : decode b_MM_mark2 63 = .ok (.iload_n 1, 1) := by decide +kernel
theorem d_MM_mark2_64 : decode b_MM_mark2 64 = .ok (.iaload, 1) := by decide +kernel
theorem d_MM_mark2_65 : decode b_MM_mark2 65 = .ok (.iload_n 2, 1) := by decide +kernel
theorem d_MM_mark2_66 : decode b_MM_mark2 66 = .ok (.iload_n 3, 1) := by decide +kernel
theorem d_MM_mark2_67 : decode b_MM_mark2 67 = .ok (.iadd, 1) := by decide +kernel
theorem d_MM_mark2_68 : decode b_MM_mark2 68 = .ok (.invokevirtual 526, 3) := by decide +kernel
theorem d_MM_mark2_71 : decode b_MM_mark2 71 = .ok (.aload_n 0, 1) := by decide +kernel
theorem d_MM_mark2_72 : decode b_MM_mark2 72 = .ok (.getfield 105, 3) := by decide +kernel
theorem d_MM_mark2_75 : decode b_MM_mark2 75 = .ok (.iload_n 1, 1) := by decide +kernel
theorem d_MM_mark2_76 : decode b_MM_mark2 76 = .ok (.iaload, 1) := by decide +kernel
theorem d_MM_mark2_77 : decode b_MM_mark2 77 = .ok (.iconst 2, 1) := by decide +kernel
theorem d_MM_mark2_78 : decode b_MM_mark2 78 = .ok (.if_icmp .lt 24, 3) := by decide +kernel
theorem d_MM_mark2_81 : decode b_MM_mark2 81 = .ok (.aload_n 0, 1) := by decide +kernel
theorem d_MM_mark2_82 : decode b_MM_mark2 82 = .ok (.getfield 105, 3) := by decide +kernel
theorem d_MM_mark2_85 : decode b_MM_mark2 85 = .ok (.iload_n 1, 1) := by decide +kernel
theorem d_MM_mark2_86 : decode b_MM_mark2 86 = .ok (.iaload, 1) := by decide +kernel
theorem d_MM_mark2_87 : decode b_MM_mark2 87 = .ok (.iconst 5, 1) := by decide +kernel
theorem d_MM_mark2_88 : decode b_MM_mark2 88 = .ok (.if_icmp .gt 14, 3) := by decide +kernel
theorem d_MM_mark2_91 : decode b_MM_mark2 91 = .ok (.aload_n 0, 1) := by decide +kernel
theorem d_MM_mark2_92 : decode b_MM_mark2 92 = .ok (.aload_n 0, 1) := by decide +kernel
theorem d_MM_mark2_93 : decode b_MM_mark2 93 = .ok (.getfield 111, 3) := by decide +kernel
theorem d_MM_mark2_96 : decode b_MM_mark2 96 = .ok (.iload_n 1, 1) := by decide +kernel
theorem d_MM_mark2_97 : decode b_MM_mark2 97 = .ok (.iaload, 1) := by decide +kernel
theorem d_MM_mark2_98 : decode b_MM_mark2 98 = .ok (.iload_n 2, 1) := by decide +kernel
theorem d_MM_mark2_99 : decode b_MM_mark2 99 = .ok (.invokevirtual 526, 3) := by decide +kernel
theorem d_MM_mark2_102 : decode b_MM_mark2 102 = .ok (.return_, 1) := by decide +kernel
abbrev b_MM_marked : ByteArray := prog_14_method_42_code
def y_MM_marked : MethodName := ⟨"ClauseProverModel", "marked", "(IZI)V"⟩
theorem d_MM_marked_0 : decode b_MM_marked 0 = .ok (.iconst 0, 1) := by decide +kernel
theorem d_MM_marked_1 : decode b_MM_marked 1 = .ok (.istore 4, 2) := by decide +kernel
theorem d_MM_marked_3 : decode b_MM_marked 3 = .ok (.iload 4, 2) := by decide +kernel
theorem d_MM_marked_5 : decode b_MM_marked 5 = .ok (.aload_n 0, 1) := by decide +kernel
theorem d_MM_marked_6 : decode b_MM_marked 6 = .ok (.getfield 111, 3) := by decide +kernel
theorem d_MM_marked_9 : decode b_MM_marked 9 = .ok (.iload_n 1, 1) := by decide +kernel
theorem d_MM_marked_10 : decode b_MM_marked 10 = .ok (.iaload, 1) := by decide +kernel
theorem d_MM_marked_11 : decode b_MM_marked 11 = .ok (.sipush 1000, 3) := by decide +kernel
theorem d_MM_marked_14 : decode b_MM_marked 14 = .ok (.irem, 1) := by decide +kernel
theorem d_MM_marked_15 : decode b_MM_marked 15 = .ok (.if_icmp .ge 47, 3) := by decide +kernel
theorem d_MM_marked_18 : decode b_MM_marked 18 = .ok (.aload_n 0, 1) := by decide +kernel
theorem d_MM_marked_19 : decode b_MM_marked 19 = .ok (.getfield 111, 3) := by decide +kernel
theorem d_MM_marked_22 : decode b_MM_marked 22 = .ok (.iload_n 1, 1) := by decide +kernel
theorem d_MM_marked_23 : decode b_MM_marked 23 = .ok (.iaload, 1) := by decide +kernel
theorem d_MM_marked_24 : decode b_MM_marked 24 = .ok (.sipush 1000, 3) := by decide +kernel
theorem d_MM_marked_27 : decode b_MM_marked 27 = .ok (.idiv, 1) := by decide +kernel
theorem d_MM_marked_28 : decode b_MM_marked 28 = .ok (.iload 4, 2) := by decide +kernel
theorem d_MM_marked_30 : decode b_MM_marked 30 = .ok (.iadd, 1) := by decide +kernel
theorem d_MM_marked_31 : decode b_MM_marked 31 = .ok (.istore 5, 2) := by decide +kernel
theorem d_MM_marked_33 : decode b_MM_marked 33 = .ok (.iload_n 2, 1) := by decide +kernel
theorem d_MM_marked_34 : decode b_MM_marked 34 = .ok (.ifCond .eq 11, 3) := by decide +kernel
theorem d_MM_marked_37 : decode b_MM_marked 37 = .ok (.aload_n 0, 1) := by decide +kernel
theorem d_MM_marked_38 : decode b_MM_marked 38 = .ok (.getfield 86, 3) := by decide +kernel
theorem d_MM_marked_41 : decode b_MM_marked 41 = .ok (.iload 5, 2) := by decide +kernel
theorem d_MM_marked_43 : decode b_MM_marked 43 = .ok (.iconst 1, 1) := by decide +kernel
theorem d_MM_marked_44 : decode b_MM_marked 44 = .ok (.bastore, 1) := by decide +kernel
theorem d_MM_marked_45 : decode b_MM_marked 45 = .ok (.aload_n 0, 1) := by decide +kernel
theorem d_MM_marked_46 : decode b_MM_marked 46 = .ok (.getfield 190, 3) := by decide +kernel
theorem d_MM_marked_49 : decode b_MM_marked 49 = .ok (.iload 5, 2) := by decide +kernel
theorem d_MM_marked_51 : decode b_MM_marked 51 = .ok (.iload_n 3, 1) := by decide +kernel
theorem d_MM_marked_52 : decode b_MM_marked 52 = .ok (.iload 4, 2) := by decide +kernel
theorem d_MM_marked_54 : decode b_MM_marked 54 = .ok (.iadd, 1) := by decide +kernel
theorem d_MM_marked_55 : decode b_MM_marked 55 = .ok (.iastore, 1) := by decide +kernel
theorem d_MM_marked_56 : decode b_MM_marked 56 = .ok (.iinc 4 1, 3) := by decide +kernel
theorem d_MM_marked_59 : decode b_MM_marked 59 = .ok (.goto (-56), 3) := by decide +kernel
theorem d_MM_marked_62 : decode b_MM_marked 62 = .ok (.return_, 1) := by decide +kernel
abbrev b_MM_count2 : ByteArray := prog_14_method_44_code
def y_MM_count2 : MethodName := ⟨"ClauseProverModel", "count", "(IZ)I"⟩
theorem d_MM_count2_0 : decode b_MM_count2 0 = .ok (.aload_n 0, 1) := by decide +kernel
theorem d_MM_count2_1 : decode b_MM_count2 1 = .ok (.getfield 105, 3) := by decide +kernel
theorem d_MM_count2_4 : decode b_MM_count2 4 = .ok (.iload_n 1, 1) := by decide +kernel
theorem d_MM_count2_5 : decode b_MM_count2 5 = .ok (.iaload, 1) := by decide +kernel
theorem d_MM_count2_6 : decode b_MM_count2 6 = .ok (.tableswitch 299 0 5 #[38, 40, 60, 60, 135, 195], 38) := by decide +kernel
theorem d_MM_count2_44 : decode b_MM_count2 44 = .ok (.iconst 1, 1) := by decide +kernel
theorem d_MM_count2_45 : decode b_MM_count2 45 = .ok (.ireturn, 1) := by decide +kernel
theorem d_MM_count2_46 : decode b_MM_count2 46 = .ok (.aload_n 0, 1) := by decide +kernel
theorem d_MM_count2_47 : decode b_MM_count2 47 = .ok (.aload_n 0, 1) := by decide +kernel
theorem d_MM_count2_48 : decode b_MM_count2 48 = .ok (.getfield 108, 3) := by decide +kernel
theorem d_MM_count2_51 : decode b_MM_count2 51 = .ok (.iload_n 1, 1) := by decide +kernel
theorem d_MM_count2_52 : decode b_MM_count2 52 = .ok (.iaload, 1) := by decide +kernel
theorem d_MM_count2_53 : decode b_MM_count2 53 = .ok (.iload_n 2, 1) := by decide +kernel
theorem d_MM_count2_54 : decode b_MM_count2 54 = .ok (.ifCond .ne 7, 3) := by decide +kernel
theorem d_MM_count2_57 : decode b_MM_count2 57 = .ok (.iconst 1, 1) := by decide +kernel
theorem d_MM_count2_58 : decode b_MM_count2 58 = .ok (.goto 4, 3) := by decide +kernel
theorem d_MM_count2_61 : decode b_MM_count2 61 = .ok (.iconst 0, 1) := by decide +kernel
theorem d_MM_count2_62 : decode b_MM_count2 62 = .ok (.invokevirtual 532, 3) := by decide +kernel
theorem d_MM_count2_65 : decode b_MM_count2 65 = .ok (.ireturn, 1) := by decide +kernel
theorem d_MM_count2_66 : decode b_MM_count2 66 = .ok (.aload_n 0, 1) := by decide +kernel
theorem d_MM_count2_67 : decode b_MM_count2 67 = .ok (.getfield 105, 3) := by decide +kernel
theorem d_MM_count2_70 : decode b_MM_count2 70 = .ok (.iload_n 1, 1) := by decide +kernel
theorem d_MM_count2_71 : decode b_MM_count2 71 = .ok (.iaload, 1) := by decide +kernel
theorem d_MM_count2_72 : decode b_MM_count2 72 = .ok (.iconst 2, 1) := by decide +kernel
theorem d_MM_count2_73 : decode b_MM_count2 73 = .ok (.if_icmp .ne 7, 3) := by decide +kernel
theorem d_MM_count2_76 : decode b_MM_count2 76 = .ok (.iconst 1, 1) := by decide +kernel
theorem d_MM_count2_77 : decode b_MM_count2 77 = .ok (.goto 4, 3) := by decide +kernel
theorem d_MM_count2_80 : decode b_MM_count2 80 = .ok (.iconst 0, 1) := by decide +kernel
theorem d_MM_count2_81 : decode b_MM_count2 81 = .ok (.iload_n 2, 1) := by decide +kernel
theorem d_MM_count2_82 : decode b_MM_count2 82 = .ok (.if_icmp .ne 32, 3) := by decide +kernel
theorem d_MM_count2_85 : decode b_MM_count2 85 = .ok (.aload_n 0, 1) := by decide +kernel
theorem d_MM_count2_86 : decode b_MM_count2 86 = .ok (.aload_n 0, 1) := by decide +kernel
theorem d_MM_count2_87 : decode b_MM_count2 87 = .ok (.getfield 108, 3) := by decide +kernel
theorem d_MM_count2_90 : decode b_MM_count2 90 = .ok (.iload_n 1, 1) := by decide +kernel
theorem d_MM_count2_91 : decode b_MM_count2 91 = .ok (.iaload, 1) := by decide +kernel
theorem d_MM_count2_92 : decode b_MM_count2 92 = .ok (.iload_n 2, 1) := by decide +kernel
theorem d_MM_count2_93 : decode b_MM_count2 93 = .ok (.invokevirtual 532, 3) := by decide +kernel
theorem d_MM_count2_96 : decode b_MM_count2 96 = .ok (.aload_n 0, 1) := by decide +kernel
theorem d_MM_count2_97 : decode b_MM_count2 97 = .ok (.aload_n 0, 1) := by decide +kernel
theorem d_MM_count2_98 : decode b_MM_count2 98 = .ok (.getfield 111, 3) := by decide +kernel
theorem d_MM_count2_101 : decode b_MM_count2 101 = .ok (.iload_n 1, 1) := by decide +kernel
theorem d_MM_count2_102 : decode b_MM_count2 102 = .ok (.iaload, 1) := by decide +kernel
theorem d_MM_count2_103 : decode b_MM_count2 103 = .ok (.iload_n 2, 1) := by decide +kernel
theorem d_MM_count2_104 : decode b_MM_count2 104 = .ok (.invokevirtual 532, 3) := by decide +kernel
theorem d_MM_count2_107 : decode b_MM_count2 107 = .ok (.iadd, 1) := by decide +kernel
theorem d_MM_count2_108 : decode b_MM_count2 108 = .ok (.invokestatic 535, 3) := by decide +kernel
theorem d_MM_count2_111 : decode b_MM_count2 111 = .ok (.goto 29, 3) := by decide +kernel
theorem d_MM_count2_114 : decode b_MM_count2 114 = .ok (.aload_n 0, 1) := by decide +kernel
theorem d_MM_count2_115 : decode b_MM_count2 115 = .ok (.aload_n 0, 1) := by decide +kernel
theorem d_MM_count2_116 : decode b_MM_count2 116 = .ok (.getfield 108, 3) := by decide +kernel
theorem d_MM_count2_119 : decode b_MM_count2 119 = .ok (.iload_n 1, 1) := by decide +kernel
theorem d_MM_count2_120 : decode b_MM_count2 120 = .ok (.iaload, 1) := by decide +kernel
theorem d_MM_count2_121 : decode b_MM_count2 121 = .ok (.iload_n 2, 1) := by decide +kernel
theorem d_MM_count2_122 : decode b_MM_count2 122 = .ok (.invokevirtual 532, 3) := by decide +kernel
theorem d_MM_count2_125 : decode b_MM_count2 125 = .ok (.aload_n 0, 1) := by decide +kernel
theorem d_MM_count2_126 : decode b_MM_count2 126 = .ok (.aload_n 0, 1) := by decide +kernel
theorem d_MM_count2_127 : decode b_MM_count2 127 = .ok (.getfield 111, 3) := by decide +kernel
theorem d_MM_count2_130 : decode b_MM_count2 130 = .ok (.iload_n 1, 1) := by decide +kernel
theorem d_MM_count2_131 : decode b_MM_count2 131 = .ok (.iaload, 1) := by decide +kernel
theorem d_MM_count2_132 : decode b_MM_count2 132 = .ok (.iload_n 2, 1) := by decide +kernel
theorem d_MM_count2_133 : decode b_MM_count2 133 = .ok (.invokevirtual 532, 3) := by decide +kernel
theorem d_MM_count2_136 : decode b_MM_count2 136 = .ok (.imul, 1) := by decide +kernel
theorem d_MM_count2_137 : decode b_MM_count2 137 = .ok (.invokestatic 535, 3) := by decide +kernel
theorem d_MM_count2_140 : decode b_MM_count2 140 = .ok (.ireturn, 1) := by decide +kernel
theorem d_MM_count2_141 : decode b_MM_count2 141 = .ok (.iload_n 2, 1) := by decide +kernel
theorem d_MM_count2_142 : decode b_MM_count2 142 = .ok (.ifCond .eq 32, 3) := by decide +kernel
theorem d_MM_count2_145 : decode b_MM_count2 145 = .ok (.aload_n 0, 1) := by decide +kernel
theorem d_MM_count2_146 : decode b_MM_count2 146 = .ok (.aload_n 0, 1) := by decide +kernel
theorem d_MM_count2_147 : decode b_MM_count2 147 = .ok (.getfield 108, 3) := by decide +kernel
theorem d_MM_count2_150 : decode b_MM_count2 150 = .ok (.iload_n 1, 1) := by decide +kernel
theorem d_MM_count2_151 : decode b_MM_count2 151 = .ok (.iaload, 1) := by decide +kernel
theorem d_MM_count2_152 : decode b_MM_count2 152 = .ok (.iconst 0, 1) := by decide +kernel
theorem d_MM_count2_153 : decode b_MM_count2 153 = .ok (.invokevirtual 532, 3) := by decide +kernel
theorem d_MM_count2_156 : decode b_MM_count2 156 = .ok (.aload_n 0, 1) := by decide +kernel
theorem d_MM_count2_157 : decode b_MM_count2 157 = .ok (.aload_n 0, 1) := by decide +kernel
theorem d_MM_count2_158 : decode b_MM_count2 158 = .ok (.getfield 111, 3) := by decide +kernel
theorem d_MM_count2_161 : decode b_MM_count2 161 = .ok (.iload_n 1, 1) := by decide +kernel
theorem d_MM_count2_162 : decode b_MM_count2 162 = .ok (.iaload, 1) := by decide +kernel
theorem d_MM_count2_163 : decode b_MM_count2 163 = .ok (.iconst 1, 1) := by decide +kernel
theorem d_MM_count2_164 : decode b_MM_count2 164 = .ok (.invokevirtual 532, 3) := by decide +kernel
theorem d_MM_count2_167 : decode b_MM_count2 167 = .ok (.imul, 1) := by decide +kernel
theorem d_MM_count2_168 : decode b_MM_count2 168 = .ok (.invokestatic 535, 3) := by decide +kernel
theorem d_MM_count2_171 : decode b_MM_count2 171 = .ok (.goto 29, 3) := by decide +kernel
theorem d_MM_count2_174 : decode b_MM_count2 174 = .ok (.aload_n 0, 1) := by decide +kernel
theorem d_MM_count2_175 : decode b_MM_count2 175 = .ok (.aload_n 0, 1) := by decide +kernel
theorem d_MM_count2_176 : decode b_MM_count2 176 = .ok (.getfield 108, 3) := by decide +kernel
theorem d_MM_count2_179 : decode b_MM_count2 179 = .ok (.iload_n 1, 1) := by decide +kernel
theorem d_MM_count2_180 : decode b_MM_count2 180 = .ok (.iaload, 1) := by decide +kernel
theorem d_MM_count2_181 : decode b_MM_count2 181 = .ok (.iconst 1, 1) := by decide +kernel
theorem d_MM_count2_182 : decode b_MM_count2 182 = .ok (.invokevirtual 532, 3) := by decide +kernel
theorem d_MM_count2_185 : decode b_MM_count2 185 = .ok (.aload_n 0, 1) := by decide +kernel
theorem d_MM_count2_186 : decode b_MM_count2 186 = .ok (.aload_n 0, 1) := by decide +kernel
theorem d_MM_count2_187 : decode b_MM_count2 187 = .ok (.getfield 111, 3) := by decide +kernel
theorem d_MM_count2_190 : decode b_MM_count2 190 = .ok (.iload_n 1, 1) := by decide +kernel
theorem d_MM_count2_191 : decode b_MM_count2 191 = .ok (.iaload, 1) := by decide +kernel
theorem d_MM_count2_192 : decode b_MM_count2 192 = .ok (.iconst 0, 1) := by decide +kernel
theorem d_MM_count2_193 : decode b_MM_count2 193 = .ok (.invokevirtual 532, 3) := by decide +kernel
theorem d_MM_count2_196 : decode b_MM_count2 196 = .ok (.iadd, 1) := by decide +kernel
theorem d_MM_count2_197 : decode b_MM_count2 197 = .ok (.invokestatic 535, 3) := by decide +kernel
theorem d_MM_count2_200 : decode b_MM_count2 200 = .ok (.ireturn, 1) := by decide +kernel
theorem d_MM_count2_201 : decode b_MM_count2 201 = .ok (.aload_n 0, 1) := by decide +kernel
theorem d_MM_count2_202 : decode b_MM_count2 202 = .ok (.aload_n 0, 1) := by decide +kernel
theorem d_MM_count2_203 : decode b_MM_count2 203 = .ok (.getfield 108, 3) := by decide +kernel
theorem d_MM_count2_206 : decode b_MM_count2 206 = .ok (.iload_n 1, 1) := by decide +kernel
theorem d_MM_count2_207 : decode b_MM_count2 207 = .ok (.iaload, 1) := by decide +kernel
theorem d_MM_count2_208 : decode b_MM_count2 208 = .ok (.iconst 1, 1) := by decide +kernel
theorem d_MM_count2_209 : decode b_MM_count2 209 = .ok (.invokevirtual 532, 3) := by decide +kernel
theorem d_MM_count2_212 : decode b_MM_count2 212 = .ok (.istore_n 3, 1) := by decide +kernel
theorem d_MM_count2_213 : decode b_MM_count2 213 = .ok (.aload_n 0, 1) := by decide +kernel
theorem d_MM_count2_214 : decode b_MM_count2 214 = .ok (.aload_n 0, 1) := by decide +kernel
theorem d_MM_count2_215 : decode b_MM_count2 215 = .ok (.getfield 111, 3) := by decide +kernel
theorem d_MM_count2_218 : decode b_MM_count2 218 = .ok (.iload_n 1, 1) := by decide +kernel
theorem d_MM_count2_219 : decode b_MM_count2 219 = .ok (.iaload, 1) := by decide +kernel
theorem d_MM_count2_220 : decode b_MM_count2 220 = .ok (.iconst 1, 1) := by decide +kernel
theorem d_MM_count2_221 : decode b_MM_count2 221 = .ok (.invokevirtual 532, 3) := by decide +kernel
theorem d_MM_count2_224 : decode b_MM_count2 224 = .ok (.istore 4, 2) := by decide +kernel
theorem d_MM_count2_226 : decode b_MM_count2 226 = .ok (.iload_n 3, 1) := by decide +kernel
theorem d_MM_count2_227 : decode b_MM_count2 227 = .ok (.sipush 200, 3) := by decide +kernel
theorem d_MM_count2_230 : decode b_MM_count2 230 = .ok (.if_icmp .gt 11, 3) := by decide +kernel
theorem d_MM_count2_233 : decode b_MM_count2 233 = .ok (.iload 4, 2) := by decide +kernel
theorem d_MM_count2_235 : decode b_MM_count2 235 = .ok (.sipush 200, 3) := by decide +kernel
theorem d_MM_count2_238 : decode b_MM_count2 238 = .ok (.if_icmp .le 7, 3) := by decide +kernel
theorem d_MM_count2_241 : decode b_MM_count2 241 = .ok (.sipush 201, 3) := by decide +kernel
theorem d_MM_count2_244 : decode b_MM_count2 244 = .ok (.ireturn, 1) := by decide +kernel
theorem d_MM_count2_245 : decode b_MM_count2 245 = .ok (.aload_n 0, 1) := by decide +kernel
theorem d_MM_count2_246 : decode b_MM_count2 246 = .ok (.aload_n 0, 1) := by decide +kernel
theorem d_MM_count2_247 : decode b_MM_count2 247 = .ok (.getfield 108, 3) := by decide +kernel
theorem d_MM_count2_250 : decode b_MM_count2 250 = .ok (.iload_n 1, 1) := by decide +kernel
theorem d_MM_count2_251 : decode b_MM_count2 251 = .ok (.iaload, 1) := by decide +kernel
theorem d_MM_count2_252 : decode b_MM_count2 252 = .ok (.iconst 0, 1) := by decide +kernel
theorem d_MM_count2_253 : decode b_MM_count2 253 = .ok (.invokevirtual 532, 3) := by decide +kernel
theorem d_MM_count2_256 : decode b_MM_count2 256 = .ok (.istore 5, 2) := by decide +kernel
theorem d_MM_count2_258 : decode b_MM_count2 258 = .ok (.aload_n 0, 1) := by decide +kernel
theorem d_MM_count2_259 : decode b_MM_count2 259 = .ok (.aload_n 0, 1) := by decide +kernel
theorem d_MM_count2_260 : decode b_MM_count2 260 = .ok (.getfield 111, 3) := by decide +kernel
theorem d_MM_count2_263 : decode b_MM_count2 263 = .ok (.iload_n 1, 1) := by decide +kernel
theorem d_MM_count2_264 : decode b_MM_count2 264 = .ok (.iaload, 1) := by decide +kernel
theorem d_MM_count2_265 : decode b_MM_count2 265 = .ok (.iconst 0, 1) := by decide +kernel
theorem d_MM_count2_266 : decode b_MM_count2 266 = .ok (.invokevirtual 532, 3) := by decide +kernel
theorem d_MM_count2_269 : decode b_MM_count2 269 = .ok (.istore 6, 2) := by decide +kernel
theorem d_MM_count2_271 : decode b_MM_count2 271 = .ok (.iload_n 2, 1) := by decide +kernel
theorem d_MM_count2_272 : decode b_MM_count2 272 = .ok (.ifCond .eq 19, 3) := by decide +kernel
theorem d_MM_count2_275 : decode b_MM_count2 275 = .ok (.iload 5, 2) := by decide +kernel
theorem d_MM_count2_277 : decode b_MM_count2 277 = .ok (.iload 4, 2) := by decide +kernel
theorem d_MM_count2_279 : decode b_MM_count2 279 = .ok (.imul, 1) := by decide +kernel
theorem d_MM_count2_280 : decode b_MM_count2 280 = .ok (.iload 6, 2) := by decide +kernel
theorem d_MM_count2_282 : decode b_MM_count2 282 = .ok (.iload_n 3, 1) := by decide +kernel
theorem d_MM_count2_283 : decode b_MM_count2 283 = .ok (.imul, 1) := by decide +kernel
theorem d_MM_count2_284 : decode b_MM_count2 284 = .ok (.iadd, 1) := by decide +kernel
theorem d_MM_count2_285 : decode b_MM_count2 285 = .ok (.invokestatic 535, 3) := by decide +kernel
theorem d_MM_count2_288 : decode b_MM_count2 288 = .ok (.goto 16, 3) := by decide +kernel
theorem d_MM_count2_291 : decode b_MM_count2 291 = .ok (.iload_n 3, 1) := by decide +kernel
theorem d_MM_count2_292 : decode b_MM_count2 292 = .ok (.iload 4, 2) := by decide +kernel
theorem d_MM_count2_294 : decode b_MM_count2 294 = .ok (.imul, 1) := by decide +kernel
theorem d_MM_count2_295 : decode b_MM_count2 295 = .ok (.iload 5, 2) := by decide +kernel
theorem d_MM_count2_297 : decode b_MM_count2 297 = .ok (.iload 6, 2) := by decide +kernel
theorem d_MM_count2_299 : decode b_MM_count2 299 = .ok (.imul, 1) := by decide +kernel
theorem d_MM_count2_300 : decode b_MM_count2 300 = .ok (.iadd, 1) := by decide +kernel
theorem d_MM_count2_301 : decode b_MM_count2 301 = .ok (.invokestatic 535, 3) := by decide +kernel
theorem d_MM_count2_304 : decode b_MM_count2 304 = .ok (.ireturn, 1) := by decide +kernel
theorem d_MM_count2_305 : decode b_MM_count2 305 = .ok (.aload_n 0, 1) := by decide +kernel
theorem d_MM_count2_306 : decode b_MM_count2 306 = .ok (.aload_n 0, 1) := by decide +kernel
theorem d_MM_count2_307 : decode b_MM_count2 307 = .ok (.getfield 108, 3) := by decide +kernel
theorem d_MM_count2_310 : decode b_MM_count2 310 = .ok (.iload_n 1, 1) := by decide +kernel
theorem d_MM_count2_311 : decode b_MM_count2 311 = .ok (.iaload, 1) := by decide +kernel
theorem d_MM_count2_312 : decode b_MM_count2 312 = .ok (.iload_n 2, 1) := by decide +kernel
theorem d_MM_count2_313 : decode b_MM_count2 313 = .ok (.invokevirtual 532, 3) := by decide +kernel
theorem d_MM_count2_316 : decode b_MM_count2 316 = .ok (.ireturn, 1) := by decide +kernel
abbrev b_MM_capped : ByteArray := prog_14_method_45_code
def y_MM_capped : MethodName := ⟨"ClauseProverModel", "capped", "(I)I"⟩
theorem d_MM_capped_0 : decode b_MM_capped 0 = .ok (.sipush 201, 3) := by decide +kernel
theorem d_MM_capped_3 : decode b_MM_capped 3 = .ok (.iload_n 0, 1) := by decide +kernel
theorem d_MM_capped_4 : decode b_MM_capped 4 = .ok (.invokestatic 538, 3) := by decide +kernel
theorem d_MM_capped_7 : decode b_MM_capped 7 = .ok (.ireturn, 1) := by decide +kernel
abbrev b_MM_bind2 : ByteArray := prog_14_method_46_code
def y_MM_bind2 : MethodName := ⟨"ClauseProverModel", "bind", "(IZ)V"⟩
theorem d_MM_bind2_0 : decode b_MM_bind2 0 = .ok (.iconst 1, 1) := by decide +kernel
theorem d_MM_bind2_1 : decode b_MM_bind2 1 = .ok (.istore_n 3, 1) := by decide +kernel
theorem d_MM_bind2_2 : decode b_MM_bind2 2 = .ok (.iload_n 2, 1) := by decide +kernel
theorem d_MM_bind2_3 : decode b_MM_bind2 3 = .ok (.ifCond .ne 37, 3) := by decide +kernel
theorem d_MM_bind2_6 : decode b_MM_bind2 6 = .ok (.iconst 0, 1) := by decide +kernel
theorem d_MM_bind2_7 : decode b_MM_bind2 7 = .ok (.istore 4, 2) := by decide +kernel
theorem d_MM_bind2_9 : decode b_MM_bind2 9 = .ok (.iload 4, 2) := by decide +kernel
theorem d_MM_bind2_11 : decode b_MM_bind2 11 = .ok (.aload_n 0, 1) := by decide +kernel
theorem d_MM_bind2_12 : decode b_MM_bind2 12 = .ok (.getfield 202, 3) := by decide +kernel
theorem d_MM_bind2_15 : decode b_MM_bind2 15 = .ok (.if_icmp .ge 25, 3) := by decide +kernel
theorem d_MM_bind2_18 : decode b_MM_bind2 18 = .ok (.sipush 1000, 3) := by decide +kernel
theorem d_MM_bind2_21 : decode b_MM_bind2 21 = .ok (.iload_n 3, 1) := by decide +kernel
theorem d_MM_bind2_22 : decode b_MM_bind2 22 = .ok (.aload_n 0, 1) := by decide +kernel
theorem d_MM_bind2_23 : decode b_MM_bind2 23 = .ok (.getfield 196, 3) := by decide +kernel
theorem d_MM_bind2_26 : decode b_MM_bind2 26 = .ok (.iload 4, 2) := by decide +kernel
theorem d_MM_bind2_28 : decode b_MM_bind2 28 = .ok (.iaload, 1) := by decide +kernel
theorem d_MM_bind2_29 : decode b_MM_bind2 29 = .ok (.iadd, 1) := by decide +kernel
theorem d_MM_bind2_30 : decode b_MM_bind2 30 = .ok (.invokestatic 538, 3) := by decide +kernel
theorem d_MM_bind2_33 : decode b_MM_bind2 33 = .ok (.istore_n 3, 1) := by decide +kernel
theorem d_MM_bind2_34 : decode b_MM_bind2 34 = .ok (.iinc 4 1, 3) := by decide +kernel
theorem d_MM_bind2_37 : decode b_MM_bind2 37 = .ok (.goto (-28), 3) := by decide +kernel
theorem d_MM_bind2_40 : decode b_MM_bind2 40 = .ok (.aload_n 0, 1) := by decide +kernel
theorem d_MM_bind2_41 : decode b_MM_bind2 41 = .ok (.getfield 199, 3) := by decide +kernel
theorem d_MM_bind2_44 : decode b_MM_bind2 44 = .ok (.iload_n 1, 1) := by decide +kernel
theorem d_MM_bind2_45 : decode b_MM_bind2 45 = .ok (.iload_n 2, 1) := by decide +kernel
theorem d_MM_bind2_46 : decode b_MM_bind2 46 = .ok (.ifCond .eq 7, 3) := by decide +kernel
theorem d_MM_bind2_49 : decode b_MM_bind2 49 = .ok (.iconst (-1), 1) := by decide +kernel
theorem d_MM_bind2_50 : decode b_MM_bind2 50 = .ok (.goto 7, 3) := by decide +kernel
theorem d_MM_bind2_53 : decode b_MM_bind2 53 = .ok (.aload_n 0, 1) := by decide +kernel
theorem d_MM_bind2_54 : decode b_MM_bind2 54 = .ok (.getfield 202, 3) := by decide +kernel
theorem d_MM_bind2_57 : decode b_MM_bind2 57 = .ok (.iastore, 1) := by decide +kernel
theorem d_MM_bind2_58 : decode b_MM_bind2 58 = .ok (.aload_n 0, 1) := by decide +kernel
theorem d_MM_bind2_59 : decode b_MM_bind2 59 = .ok (.getfield 196, 3) := by decide +kernel
theorem d_MM_bind2_62 : decode b_MM_bind2 62 = .ok (.aload_n 0, 1) := by decide +kernel
theorem d_MM_bind2_63 : decode b_MM_bind2 63 = .ok (.getfield 202, 3) := by decide +kernel
theorem d_MM_bind2_66 : decode b_MM_bind2 66 = .ok (.iload_n 3, 1) := by decide +kernel
theorem d_MM_bind2_67 : decode b_MM_bind2 67 = .ok (.iastore, 1) := by decide +kernel
theorem d_MM_bind2_68 : decode b_MM_bind2 68 = .ok (.aload_n 0, 1) := by decide +kernel
theorem d_MM_bind2_69 : decode b_MM_bind2 69 = .ok (.getfield 193, 3) := by decide +kernel
theorem d_MM_bind2_72 : decode b_MM_bind2 72 = .ok (.aload_n 0, 1) := by decide +kernel
theorem d_MM_bind2_73 : decode b_MM_bind2 73 = .ok (.dup, 1) := by decide +kernel
theorem d_MM_bind2_74 : decode b_MM_bind2 74 = .ok (.getfield 202, 3) := by decide +kernel
theorem d_MM_bind2_77 : decode b_MM_bind2 77 = .ok (.dup_x1, 1) := by decide +kernel
theorem d_MM_bind2_78 : decode b_MM_bind2 78 = .ok (.iconst 1, 1) := by decide +kernel
theorem d_MM_bind2_79 : decode b_MM_bind2 79 = .ok (.iadd, 1) := by decide +kernel
theorem d_MM_bind2_80 : decode b_MM_bind2 80 = .ok (.putfield 202, 3) := by decide +kernel
theorem d_MM_bind2_83 : decode b_MM_bind2 83 = .ok (.iload_n 1, 1) := by decide +kernel
theorem d_MM_bind2_84 : decode b_MM_bind2 84 = .ok (.iastore, 1) := by decide +kernel
theorem d_MM_bind2_85 : decode b_MM_bind2 85 = .ok (.return_, 1) := by decide +kernel
abbrev b_MM_weightOf : ByteArray := prog_14_method_47_code
def y_MM_weightOf : MethodName := ⟨"ClauseProverModel", "weightOf", "(I)I"⟩
theorem d_MM_weightOf_0 : decode b_MM_weightOf 0 = .ok (.aload_n 0, 1) := by decide +kernel
theorem d_MM_weightOf_1 : decode b_MM_weightOf 1 = .ok (.getfield 117, 3) := by decide +kernel
theorem d_MM_weightOf_4 : decode b_MM_weightOf 4 = .ok (.iload_n 1, 1) := by decide +kernel
theorem d_MM_weightOf_5 : decode b_MM_weightOf 5 = .ok (.iaload, 1) := by decide +kernel
theorem d_MM_weightOf_6 : decode b_MM_weightOf 6 = .ok (.ifCond .ge 35, 3) := by decide +kernel
theorem d_MM_weightOf_9 : decode b_MM_weightOf 9 = .ok (.iconst 0, 1) := by decide +kernel
theorem d_MM_weightOf_10 : decode b_MM_weightOf 10 = .ok (.istore_n 2, 1) := by decide +kernel
theorem d_MM_weightOf_11 : decode b_MM_weightOf 11 = .ok (.aload_n 0, 1) := by decide +kernel
theorem d_MM_weightOf_12 : decode b_MM_weightOf 12 = .ok (.getfield 193, 3) := by decide +kernel
theorem d_MM_weightOf_15 : decode b_MM_weightOf 15 = .ok (.iload_n 2, 1) := by decide +kernel
theorem d_MM_weightOf_16 : decode b_MM_weightOf 16 = .ok (.iaload, 1) := by decide +kernel
theorem d_MM_weightOf_17 : decode b_MM_weightOf 17 = .ok (.iconst (-1), 1) := by decide +kernel
theorem d_MM_weightOf_18 : decode b_MM_weightOf 18 = .ok (.aload_n 0, 1) := by decide +kernel
theorem d_MM_weightOf_19 : decode b_MM_weightOf 19 = .ok (.getfield 117, 3) := by decide +kernel
theorem d_MM_weightOf_22 : decode b_MM_weightOf 22 = .ok (.iload_n 1, 1) := by decide +kernel
theorem d_MM_weightOf_23 : decode b_MM_weightOf 23 = .ok (.iaload, 1) := by decide +kernel
theorem d_MM_weightOf_24 : decode b_MM_weightOf 24 = .ok (.isub, 1) := by decide +kernel
theorem d_MM_weightOf_25 : decode b_MM_weightOf 25 = .ok (.if_icmp .eq 9, 3) := by decide +kernel
theorem d_MM_weightOf_28 : decode b_MM_weightOf 28 = .ok (.iinc 2 1, 3) := by decide +kernel
theorem d_MM_weightOf_31 : decode b_MM_weightOf 31 = .ok (.goto (-20), 3) := by decide +kernel
theorem d_MM_weightOf_34 : decode b_MM_weightOf 34 = .ok (.aload_n 0, 1) := by decide +kernel
theorem d_MM_weightOf_35 : decode b_MM_weightOf 35 = .ok (.getfield 196, 3) := by decide +kernel
theorem d_MM_weightOf_38 : decode b_MM_weightOf 38 = .ok (.iload_n 2, 1) := by decide +kernel
theorem d_MM_weightOf_39 : decode b_MM_weightOf 39 = .ok (.iaload, 1) := by decide +kernel
theorem d_MM_weightOf_40 : decode b_MM_weightOf 40 = .ok (.ireturn, 1) := by decide +kernel
theorem d_MM_weightOf_41 : decode b_MM_weightOf 41 = .ok (.iconst 1, 1) := by decide +kernel
theorem d_MM_weightOf_42 : decode b_MM_weightOf 42 = .ok (.istore_n 2, 1) := by decide +kernel
theorem d_MM_weightOf_43 : decode b_MM_weightOf 43 = .ok (.aload_n 0, 1) := by decide +kernel
theorem d_MM_weightOf_44 : decode b_MM_weightOf 44 = .ok (.getfield 120, 3) := by decide +kernel
theorem d_MM_weightOf_47 : decode b_MM_weightOf 47 = .ok (.iload_n 1, 1) := by decide +kernel
theorem d_MM_weightOf_48 : decode b_MM_weightOf 48 = .ok (.iaload, 1) := by decide +kernel
theorem d_MM_weightOf_49 : decode b_MM_weightOf 49 = .ok (.istore_n 3, 1) := by decide +kernel
theorem d_MM_weightOf_50 : decode b_MM_weightOf 50 = .ok (.iload_n 3, 1) := by decide +kernel
theorem d_MM_weightOf_51 : decode b_MM_weightOf 51 = .ok (.ifCond .lt 27, 3) := by decide +kernel
theorem d_MM_weightOf_54 : decode b_MM_weightOf 54 = .ok (.sipush 1000, 3) := by decide +kernel
theorem d_MM_weightOf_57 : decode b_MM_weightOf 57 = .ok (.iload_n 2, 1) := by decide +kernel
theorem d_MM_weightOf_58 : decode b_MM_weightOf 58 = .ok (.aload_n 0, 1) := by decide +kernel
theorem d_MM_weightOf_59 : decode b_MM_weightOf 59 = .ok (.iload_n 3, 1) := by decide +kernel
theorem d_MM_weightOf_60 : decode b_MM_weightOf 60 = .ok (.invokevirtual 541, 3) := by decide +kernel
theorem d_MM_weightOf_63 : decode b_MM_weightOf 63 = .ok (.iadd, 1) := by decide +kernel
theorem d_MM_weightOf_64 : decode b_MM_weightOf 64 = .ok (.invokestatic 538, 3) := by decide +kernel
theorem d_MM_weightOf_67 : decode b_MM_weightOf 67 = .ok (.istore_n 2, 1) := by decide +kernel
theorem d_MM_weightOf_68 : decode b_MM_weightOf 68 = .ok (.aload_n 0, 1) := by decide +kernel
theorem d_MM_weightOf_69 : decode b_MM_weightOf 69 = .ok (.getfield 123, 3) := by decide +kernel
theorem d_MM_weightOf_72 : decode b_MM_weightOf 72 = .ok (.iload_n 3, 1) := by decide +kernel
theorem d_MM_weightOf_73 : decode b_MM_weightOf 73 = .ok (.iaload, 1) := by decide +kernel
theorem d_MM_weightOf_74 : decode b_MM_weightOf 74 = .ok (.istore_n 3, 1) := by decide +kernel
theorem d_MM_weightOf_75 : decode b_MM_weightOf 75 = .ok (.goto (-25), 3) := by decide +kernel
theorem d_MM_weightOf_78 : decode b_MM_weightOf 78 = .ok (.iload_n 2, 1) := by decide +kernel
theorem d_MM_weightOf_79 : decode b_MM_weightOf 79 = .ok (.ireturn, 1) := by decide +kernel
abbrev b_MM_built1 : ByteArray := prog_14_method_49_code
def y_MM_built1 : MethodName := ⟨"ClauseProverModel", "built", "(I)I"⟩
theorem d_MM_built1_0 : decode b_MM_built1 0 = .ok (.aload_n 0, 1) := by decide +kernel
theorem d_MM_built1_1 : decode b_MM_built1 1 = .ok (.getfield 117, 3) := by decide +kernel
theorem d_MM_built1_4 : decode b_MM_built1 4 = .ok (.iload_n 1, 1) := by decide +kernel
theorem d_MM_built1_5 : decode b_MM_built1 5 = .ok (.iaload, 1) := by decide +kernel
theorem d_MM_built1_6 : decode b_MM_built1 6 = .ok (.ifCond .ge 18, 3) := by decide +kernel
theorem d_MM_built1_9 : decode b_MM_built1 9 = .ok (.aload_n 0, 1) := by decide +kernel
theorem d_MM_built1_10 : decode b_MM_built1 10 = .ok (.iconst (-1), 1) := by decide +kernel
theorem d_MM_built1_11 : decode b_MM_built1 11 = .ok (.aload_n 0, 1) := by decide +kernel
theorem d_MM_built1_12 : decode b_MM_built1 12 = .ok (.getfield 117, 3) := by decide +kernel
theorem d_MM_built1_15 : decode b_MM_built1 15 = .ok (.iload_n 1, 1) := by decide +kernel
theorem d_MM_built1_16 : decode b_MM_built1 16 = .ok (.iaload, 1) := by decide +kernel
theorem d_MM_built1_17 : decode b_MM_built1 17 = .ok (.isub, 1) := by decide +kernel
theorem d_MM_built1_18 : decode b_MM_built1 18 = .ok (.invokevirtual 544, 3) := by decide +kernel
theorem d_MM_built1_21 : decode b_MM_built1 21 = .ok (.goto 19, 3) := by decide +kernel
theorem d_MM_built1_24 : decode b_MM_built1 24 = .ok (.aload_n 0, 1) := by decide +kernel
theorem d_MM_built1_25 : decode b_MM_built1 25 = .ok (.aload_n 0, 1) := by decide +kernel
theorem d_MM_built1_26 : decode b_MM_built1 26 = .ok (.getfield 117, 3) := by decide +kernel
theorem d_MM_built1_29 : decode b_MM_built1 29 = .ok (.iload_n 1, 1) := by decide +kernel
theorem d_MM_built1_30 : decode b_MM_built1 30 = .ok (.iaload, 1) := by decide +kernel
theorem d_MM_built1_31 : decode b_MM_built1 31 = .ok (.aload_n 0, 1) := by decide +kernel
theorem d_MM_built1_32 : decode b_MM_built1 32 = .ok (.getfield 120, 3) := by decide +kernel
theorem d_MM_built1_35 : decode b_MM_built1 35 = .ok (.iload_n 1, 1) := by decide +kernel
theorem d_MM_built1_36 : decode b_MM_built1 36 = .ok (.iaload, 1) := by decide +kernel
theorem d_MM_built1_37 : decode b_MM_built1 37 = .ok (.invokevirtual 546, 3) := by decide +kernel
theorem d_MM_built1_40 : decode b_MM_built1 40 = .ok (.ireturn, 1) := by decide +kernel
abbrev b_MM_bound1 : ByteArray := prog_14_method_48_code
def y_MM_bound1 : MethodName := ⟨"ClauseProverModel", "bound", "(I)I"⟩
theorem d_MM_bound1_0 : decode b_MM_bound1 0 = .ok (.aload_n 0, 1) := by decide +kernel
theorem d_MM_bound1_1 : decode b_MM_bound1 1 = .ok (.getfield 199, 3) := by decide +kernel
theorem d_MM_bound1_4 : decode b_MM_bound1 4 = .ok (.iload_n 1, 1) := by decide +kernel
theorem d_MM_bound1_5 : decode b_MM_bound1 5 = .ok (.iaload, 1) := by decide +kernel
theorem d_MM_bound1_6 : decode b_MM_bound1 6 = .ok (.ifCond .ge 11, 3) := by decide +kernel
theorem d_MM_bound1_9 : decode b_MM_bound1 9 = .ok (.aload_n 0, 1) := by decide +kernel
theorem d_MM_bound1_10 : decode b_MM_bound1 10 = .ok (.iconst (-1), 1) := by decide +kernel
theorem d_MM_bound1_11 : decode b_MM_bound1 11 = .ok (.iload_n 1, 1) := by decide +kernel
theorem d_MM_bound1_12 : decode b_MM_bound1 12 = .ok (.isub, 1) := by decide +kernel
theorem d_MM_bound1_13 : decode b_MM_bound1 13 = .ok (.invokevirtual 516, 3) := by decide +kernel
theorem d_MM_bound1_16 : decode b_MM_bound1 16 = .ok (.ireturn, 1) := by decide +kernel
theorem d_MM_bound1_17 : decode b_MM_bound1 17 = .ok (.aload_n 0, 1) := by decide +kernel
theorem d_MM_bound1_18 : decode b_MM_bound1 18 = .ok (.aload_n 0, 1) := by decide +kernel
theorem d_MM_bound1_19 : decode b_MM_bound1 19 = .ok (.getfield 83, 3) := by decide +kernel
theorem d_MM_bound1_22 : decode b_MM_bound1 22 = .ok (.iload_n 1, 1) := by decide +kernel
theorem d_MM_bound1_23 : decode b_MM_bound1 23 = .ok (.iaload, 1) := by decide +kernel
theorem d_MM_bound1_24 : decode b_MM_bound1 24 = .ok (.invokevirtual 516, 3) := by decide +kernel
theorem d_MM_bound1_27 : decode b_MM_bound1 27 = .ok (.istore_n 2, 1) := by decide +kernel
theorem d_MM_bound1_28 : decode b_MM_bound1 28 = .ok (.aload_n 0, 1) := by decide +kernel
theorem d_MM_bound1_29 : decode b_MM_bound1 29 = .ok (.getfield 199, 3) := by decide +kernel
theorem d_MM_bound1_32 : decode b_MM_bound1 32 = .ok (.iload_n 1, 1) := by decide +kernel
theorem d_MM_bound1_33 : decode b_MM_bound1 33 = .ok (.iaload, 1) := by decide +kernel
theorem d_MM_bound1_34 : decode b_MM_bound1 34 = .ok (.istore_n 3, 1) := by decide +kernel
theorem d_MM_bound1_35 : decode b_MM_bound1 35 = .ok (.iconst (-1), 1) := by decide +kernel
theorem d_MM_bound1_36 : decode b_MM_bound1 36 = .ok (.istore 4, 2) := by decide +kernel
theorem d_MM_bound1_38 : decode b_MM_bound1 38 = .ok (.iconst 0, 1) := by decide +kernel
theorem d_MM_bound1_39 : decode b_MM_bound1 39 = .ok (.istore 5, 2) := by decide +kernel
theorem d_MM_bound1_41 : decode b_MM_bound1 41 = .ok (.iload 5, 2) := by decide +kernel
theorem d_MM_bound1_43 : decode b_MM_bound1 43 = .ok (.iload_n 3, 1) := by decide +kernel
theorem d_MM_bound1_44 : decode b_MM_bound1 44 = .ok (.if_icmp .ge 67, 3) := by decide +kernel
theorem d_MM_bound1_47 : decode b_MM_bound1 47 = .ok (.aload_n 0, 1) := by decide +kernel
theorem d_MM_bound1_48 : decode b_MM_bound1 48 = .ok (.aload_n 0, 1) := by decide +kernel
theorem d_MM_bound1_49 : decode b_MM_bound1 49 = .ok (.getfield 193, 3) := by decide +kernel
theorem d_MM_bound1_52 : decode b_MM_bound1 52 = .ok (.iload 5, 2) := by decide +kernel
theorem d_MM_bound1_54 : decode b_MM_bound1 54 = .ok (.iaload, 1) := by decide +kernel
theorem d_MM_bound1_55 : decode b_MM_bound1 55 = .ok (.invokevirtual 544, 3) := by decide +kernel
theorem d_MM_bound1_58 : decode b_MM_bound1 58 = .ok (.istore 6, 2) := by decide +kernel
theorem d_MM_bound1_60 : decode b_MM_bound1 60 = .ok (.iload 4, 2) := by decide +kernel
theorem d_MM_bound1_62 : decode b_MM_bound1 62 = .ok (.ifCond .ge 14, 3) := by decide +kernel
theorem d_MM_bound1_65 : decode b_MM_bound1 65 = .ok (.aload_n 0, 1) := by decide +kernel
theorem d_MM_bound1_66 : decode b_MM_bound1 66 = .ok (.getfield 148, 3) := by decide +kernel
theorem d_MM_bound1_69 : decode b_MM_bound1 69 = .ok (.iload_n 2, 1) := by decide +kernel
theorem d_MM_bound1_70 : decode b_MM_bound1 70 = .ok (.iload 6, 2) := by decide +kernel
theorem d_MM_bound1_72 : decode b_MM_bound1 72 = .ok (.iastore, 1) := by decide +kernel
theorem d_MM_bound1_73 : decode b_MM_bound1 73 = .ok (.goto 12, 3) := by decide +kernel
theorem d_MM_bound1_76 : decode b_MM_bound1 76 = .ok (.aload_n 0, 1) := by decide +kernel
theorem d_MM_bound1_77 : decode b_MM_bound1 77 = .ok (.getfield 151, 3) := by decide +kernel
theorem d_MM_bound1_80 : decode b_MM_bound1 80 = .ok (.iload 4, 2) := by decide +kernel
theorem d_MM_bound1_82 : decode b_MM_bound1 82 = .ok (.iload 6, 2) := by decide +kernel
theorem d_MM_bound1_84 : decode b_MM_bound1 84 = .ok (.iastore, 1) := by decide +kernel
theorem d_MM_bound1_85 : decode b_MM_bound1 85 = .ok (.iload 6, 2) := by decide +kernel
theorem d_MM_bound1_87 : decode b_MM_bound1 87 = .ok (.istore 4, 2) := by decide +kernel
theorem d_MM_bound1_89 : decode b_MM_bound1 89 = .ok (.aload_n 0, 1) := by decide +kernel
theorem d_MM_bound1_90 : decode b_MM_bound1 90 = .ok (.getfield 154, 3) := by decide +kernel
theorem d_MM_bound1_93 : decode b_MM_bound1 93 = .ok (.iload_n 2, 1) := by decide +kernel
theorem d_MM_bound1_94 : decode b_MM_bound1 94 = .ok (.dup2, 1) := by decide +kernel
theorem d_MM_bound1_95 : decode b_MM_bound1 95 = .ok (.iaload, 1) := by decide +kernel
theorem d_MM_bound1_96 : decode b_MM_bound1 96 = .ok (.aload_n 0, 1) := by decide +kernel
theorem d_MM_bound1_97 : decode b_MM_bound1 97 = .ok (.getfield 154, 3) := by decide +kernel
theorem d_MM_bound1_100 : decode b_MM_bound1 100 = .ok (.iload 6, 2) := by decide +kernel
theorem d_MM_bound1_102 : decode b_MM_bound1 102 = .ok (.iaload, 1) := by decide +kernel
theorem d_MM_bound1_103 : decode b_MM_bound1 103 = .ok (.iadd, 1) := by decide +kernel
theorem d_MM_bound1_104 : decode b_MM_bound1 104 = .ok (.iastore, 1) := by decide +kernel
theorem d_MM_bound1_105 : decode b_MM_bound1 105 = .ok (.iinc 5 1, 3) := by decide +kernel
theorem d_MM_bound1_108 : decode b_MM_bound1 108 = .ok (.goto (-67), 3) := by decide +kernel
theorem d_MM_bound1_111 : decode b_MM_bound1 111 = .ok (.iload_n 2, 1) := by decide +kernel
theorem d_MM_bound1_112 : decode b_MM_bound1 112 = .ok (.ireturn, 1) := by decide +kernel
abbrev b_MM_fresh : ByteArray := prog_14_method_36_code
def y_MM_fresh : MethodName := ⟨"ClauseProverModel", "fresh", "(I)I"⟩
theorem d_MM_fresh_0 : decode b_MM_fresh 0 = .ok (.aload_n 0, 1) := by decide +kernel
theorem d_MM_fresh_1 : decode b_MM_fresh 1 = .ok (.getfield 145, 3) := by decide +kernel
theorem d_MM_fresh_4 : decode b_MM_fresh 4 = .ok (.aload_n 0, 1) := by decide +kernel
theorem d_MM_fresh_5 : decode b_MM_fresh 5 = .ok (.getfield 157, 3) := by decide +kernel
theorem d_MM_fresh_8 : decode b_MM_fresh 8 = .ok (.iload_n 1, 1) := by decide +kernel
theorem d_MM_fresh_9 : decode b_MM_fresh 9 = .ok (.iastore, 1) := by decide +kernel
theorem d_MM_fresh_10 : decode b_MM_fresh 10 = .ok (.aload_n 0, 1) := by decide +kernel
theorem d_MM_fresh_11 : decode b_MM_fresh 11 = .ok (.getfield 148, 3) := by decide +kernel
theorem d_MM_fresh_14 : decode b_MM_fresh 14 = .ok (.aload_n 0, 1) := by decide +kernel
theorem d_MM_fresh_15 : decode b_MM_fresh 15 = .ok (.getfield 157, 3) := by decide +kernel
theorem d_MM_fresh_18 : decode b_MM_fresh 18 = .ok (.iconst (-1), 1) := by decide +kernel
theorem d_MM_fresh_19 : decode b_MM_fresh 19 = .ok (.iastore, 1) := by decide +kernel
theorem d_MM_fresh_20 : decode b_MM_fresh 20 = .ok (.aload_n 0, 1) := by decide +kernel
theorem d_MM_fresh_21 : decode b_MM_fresh 21 = .ok (.getfield 151, 3) := by decide +kernel
theorem d_MM_fresh_24 : decode b_MM_fresh 24 = .ok (.aload_n 0, 1) := by decide +kernel
theorem d_MM_fresh_25 : decode b_MM_fresh 25 = .ok (.getfield 157, 3) := by decide +kernel
theorem d_MM_fresh_28 : decode b_MM_fresh 28 = .ok (.iconst (-1), 1) := by decide +kernel
theorem d_MM_fresh_29 : decode b_MM_fresh 29 = .ok (.iastore, 1) := by decide +kernel
theorem d_MM_fresh_30 : decode b_MM_fresh 30 = .ok (.aload_n 0, 1) := by decide +kernel
theorem d_MM_fresh_31 : decode b_MM_fresh 31 = .ok (.getfield 154, 3) := by decide +kernel
theorem d_MM_fresh_34 : decode b_MM_fresh 34 = .ok (.aload_n 0, 1) := by decide +kernel
theorem d_MM_fresh_35 : decode b_MM_fresh 35 = .ok (.getfield 157, 3) := by decide +kernel
theorem d_MM_fresh_38 : decode b_MM_fresh 38 = .ok (.iconst 1, 1) := by decide +kernel
theorem d_MM_fresh_39 : decode b_MM_fresh 39 = .ok (.iastore, 1) := by decide +kernel
theorem d_MM_fresh_40 : decode b_MM_fresh 40 = .ok (.aload_n 0, 1) := by decide +kernel
theorem d_MM_fresh_41 : decode b_MM_fresh 41 = .ok (.dup, 1) := by decide +kernel
theorem d_MM_fresh_42 : decode b_MM_fresh 42 = .ok (.getfield 157, 3) := by decide +kernel
theorem d_MM_fresh_45 : decode b_MM_fresh 45 = .ok (.dup_x1, 1) := by decide +kernel
theorem d_MM_fresh_46 : decode b_MM_fresh 46 = .ok (.iconst 1, 1) := by decide +kernel
theorem d_MM_fresh_47 : decode b_MM_fresh 47 = .ok (.iadd, 1) := by decide +kernel
theorem d_MM_fresh_48 : decode b_MM_fresh 48 = .ok (.putfield 157, 3) := by decide +kernel
theorem d_MM_fresh_51 : decode b_MM_fresh 51 = .ok (.ireturn, 1) := by decide +kernel
abbrev b_MM_built2 : ByteArray := prog_14_method_50_code
def y_MM_built2 : MethodName := ⟨"ClauseProverModel", "built", "(II)I"⟩
theorem d_MM_built2_0 : decode b_MM_built2 0 = .ok (.aload_n 0, 1) := by decide +kernel
theorem d_MM_built2_1 : decode b_MM_built2 1 = .ok (.iload_n 1, 1) := by decide +kernel
theorem d_MM_built2_2 : decode b_MM_built2 2 = .ok (.invokevirtual 516, 3) := by decide +kernel
theorem d_MM_built2_5 : decode b_MM_built2 5 = .ok (.istore_n 3, 1) := by decide +kernel
theorem d_MM_built2_6 : decode b_MM_built2 6 = .ok (.iconst (-1), 1) := by decide +kernel
theorem d_MM_built2_7 : decode b_MM_built2 7 = .ok (.istore 4, 2) := by decide +kernel
theorem d_MM_built2_9 : decode b_MM_built2 9 = .ok (.iload_n 2, 1) := by decide +kernel
theorem d_MM_built2_10 : decode b_MM_built2 10 = .ok (.istore 5, 2) := by decide +kernel
theorem d_MM_built2_12 : decode b_MM_built2 12 = .ok (.iload 5, 2) := by decide +kernel
theorem d_MM_built2_14 : decode b_MM_built2 14 = .ok (.ifCond .lt 68, 3) := by decide +kernel
theorem d_MM_built2_17 : decode b_MM_built2 17 = .ok (.aload_n 0, 1) := by decide +kernel
theorem d_MM_built2_18 : decode b_MM_built2 18 = .ok (.iload 5, 2) := by decide +kernel
theorem d_MM_built2_20 : decode b_MM_built2 20 = .ok (.invokevirtual 549, 3) := by decide +kernel
theorem d_MM_built2_23 : decode b_MM_built2 23 = .ok (.istore 6, 2) := by decide +kernel
theorem d_MM_built2_25 : decode b_MM_built2 25 = .ok (.iload 4, 2) := by decide +kernel
theorem d_MM_built2_27 : decode b_MM_built2 27 = .ok (.ifCond .ge 14, 3) := by decide +kernel
theorem d_MM_built2_30 : decode b_MM_built2 30 = .ok (.aload_n 0, 1) := by decide +kernel
theorem d_MM_built2_31 : decode b_MM_built2 31 = .ok (.getfield 148, 3) := by decide +kernel
theorem d_MM_built2_34 : decode b_MM_built2 34 = .ok (.iload_n 3, 1) := by decide +kernel
theorem d_MM_built2_35 : decode b_MM_built2 35 = .ok (.iload 6, 2) := by decide +kernel
theorem d_MM_built2_37 : decode b_MM_built2 37 = .ok (.iastore, 1) := by decide +kernel
theorem d_MM_built2_38 : decode b_MM_built2 38 = .ok (.goto 12, 3) := by decide +kernel
theorem d_MM_built2_41 : decode b_MM_built2 41 = .ok (.aload_n 0, 1) := by decide +kernel
theorem d_MM_built2_42 : decode b_MM_built2 42 = .ok (.getfield 151, 3) := by decide +kernel
theorem d_MM_built2_45 : decode b_MM_built2 45 = .ok (.iload 4, 2) := by decide +kernel
theorem d_MM_built2_47 : decode b_MM_built2 47 = .ok (.iload 6, 2) := by decide +kernel
theorem d_MM_built2_49 : decode b_MM_built2 49 = .ok (.iastore, 1) := by decide +kernel
theorem d_MM_built2_50 : decode b_MM_built2 50 = .ok (.iload 6, 2) := by decide +kernel
theorem d_MM_built2_52 : decode b_MM_built2 52 = .ok (.istore 4, 2) := by decide +kernel
theorem d_MM_built2_54 : decode b_MM_built2 54 = .ok (.aload_n 0, 1) := by decide +kernel
theorem d_MM_built2_55 : decode b_MM_built2 55 = .ok (.getfield 154, 3) := by decide +kernel
theorem d_MM_built2_58 : decode b_MM_built2 58 = .ok (.iload_n 3, 1) := by decide +kernel
theorem d_MM_built2_59 : decode b_MM_built2 59 = .ok (.dup2, 1) := by decide +kernel
theorem d_MM_built2_60 : decode b_MM_built2 60 = .ok (.iaload, 1) := by decide +kernel
theorem d_MM_built2_61 : decode b_MM_built2 61 = .ok (.aload_n 0, 1) := by decide +kernel
theorem d_MM_built2_62 : decode b_MM_built2 62 = .ok (.getfield 154, 3) := by decide +kernel
theorem d_MM_built2_65 : decode b_MM_built2 65 = .ok (.iload 6, 2) := by decide +kernel
theorem d_MM_built2_67 : decode b_MM_built2 67 = .ok (.iaload, 1) := by decide +kernel
theorem d_MM_built2_68 : decode b_MM_built2 68 = .ok (.iadd, 1) := by decide +kernel
theorem d_MM_built2_69 : decode b_MM_built2 69 = .ok (.iastore, 1) := by decide +kernel
theorem d_MM_built2_70 : decode b_MM_built2 70 = .ok (.aload_n 0, 1) := by decide +kernel
theorem d_MM_built2_71 : decode b_MM_built2 71 = .ok (.getfield 123, 3) := by decide +kernel
theorem d_MM_built2_74 : decode b_MM_built2 74 = .ok (.iload 5, 2) := by decide +kernel
theorem d_MM_built2_76 : decode b_MM_built2 76 = .ok (.iaload, 1) := by decide +kernel
theorem d_MM_built2_77 : decode b_MM_built2 77 = .ok (.istore 5, 2) := by decide +kernel
theorem d_MM_built2_79 : decode b_MM_built2 79 = .ok (.goto (-67), 3) := by decide +kernel
theorem d_MM_built2_82 : decode b_MM_built2 82 = .ok (.iload_n 3, 1) := by decide +kernel
theorem d_MM_built2_83 : decode b_MM_built2 83 = .ok (.ireturn, 1) := by decide +kernel
abbrev b_MM_fits : ByteArray := prog_14_method_109_code
def y_MM_fits : MethodName := ⟨"ClauseProverModel", "fits", "(II)Z"⟩
theorem d_MM_fits_0 : decode b_MM_fits 0 = .ok (.iconst 0, 1) := by decide +kernel
theorem d_MM_fits_1 : decode b_MM_fits 1 = .ok (.istore_n 3, 1) := by decide +kernel
theorem d_MM_fits_2 : decode b_MM_fits 2 = .ok (.aload_n 0, 1) := by decide +kernel
theorem d_MM_fits_3 : decode b_MM_fits 3 = .ok (.iconst 0, 1) := by decide +kernel
theorem d_MM_fits_4 : decode b_MM_fits 4 = .ok (.putfield 311, 3) := by decide +kernel
theorem d_MM_fits_7 : decode b_MM_fits 7 = .ok (.iload_n 1, 1) := by decide +kernel
theorem d_MM_fits_8 : decode b_MM_fits 8 = .ok (.istore 4, 2) := by decide +kernel
theorem d_MM_fits_10 : decode b_MM_fits 10 = .ok (.iload 4, 2) := by decide +kernel
theorem d_MM_fits_12 : decode b_MM_fits 12 = .ok (.iload_n 1, 1) := by decide +kernel
theorem d_MM_fits_13 : decode b_MM_fits 13 = .ok (.iload_n 2, 1) := by decide +kernel
theorem d_MM_fits_14 : decode b_MM_fits 14 = .ok (.iadd, 1) := by decide +kernel
theorem d_MM_fits_15 : decode b_MM_fits 15 = .ok (.if_icmp .ge 60, 3) := by decide +kernel
theorem d_MM_fits_18 : decode b_MM_fits 18 = .ok (.iload_n 3, 1) := by decide +kernel
theorem d_MM_fits_19 : decode b_MM_fits 19 = .ok (.aload_n 0, 1) := by decide +kernel
theorem d_MM_fits_20 : decode b_MM_fits 20 = .ok (.getfield 154, 3) := by decide +kernel
theorem d_MM_fits_23 : decode b_MM_fits 23 = .ok (.aload_n 0, 1) := by decide +kernel
theorem d_MM_fits_24 : decode b_MM_fits 24 = .ok (.getfield 205, 3) := by decide +kernel
theorem d_MM_fits_27 : decode b_MM_fits 27 = .ok (.iload 4, 2) := by decide +kernel
theorem d_MM_fits_29 : decode b_MM_fits 29 = .ok (.iaload, 1) := by decide +kernel
theorem d_MM_fits_30 : decode b_MM_fits 30 = .ok (.iaload, 1) := by decide +kernel
theorem d_MM_fits_31 : decode b_MM_fits 31 = .ok (.aload_n 0, 1) := by decide +kernel
theorem d_MM_fits_32 : decode b_MM_fits 32 = .ok (.getfield 154, 3) := by decide +kernel
theorem d_MM_fits_35 : decode b_MM_fits 35 = .ok (.aload_n 0, 1) := by decide +kernel
theorem d_MM_fits_36 : decode b_MM_fits 36 = .ok (.getfield 205, 3) := by decide +kernel
theorem d_MM_fits_39 : decode b_MM_fits 39 = .ok (.iload 4, 2) := by decide +kernel
theorem d_MM_fits_41 : decode b_MM_fits 41 = .ok (.iconst 1, 1) := by decide +kernel
theorem d_MM_fits_42 : decode b_MM_fits 42 = .ok (.iadd, 1) := by decide +kernel
theorem d_MM_fits_43 : decode b_MM_fits 43 = .ok (.iaload, 1) := by decide +kernel
theorem d_MM_fits_44 : decode b_MM_fits 44 = .ok (.iaload, 1) := by decide +kernel
theorem d_MM_fits_45 : decode b_MM_fits 45 = .ok (.iadd, 1) := by decide +kernel
theorem d_MM_fits_46 : decode b_MM_fits 46 = .ok (.iadd, 1) := by decide +kernel
theorem d_MM_fits_47 : decode b_MM_fits 47 = .ok (.istore_n 3, 1) := by decide +kernel
theorem d_MM_fits_48 : decode b_MM_fits 48 = .ok (.aload_n 0, 1) := by decide +kernel
theorem d_MM_fits_49 : decode b_MM_fits 49 = .ok (.aload_n 0, 1) := by decide +kernel
theorem d_MM_fits_50 : decode b_MM_fits 50 = .ok (.getfield 205, 3) := by decide +kernel
theorem d_MM_fits_53 : decode b_MM_fits 53 = .ok (.iload 4, 2) := by decide +kernel
theorem d_MM_fits_55 : decode b_MM_fits 55 = .ok (.iaload, 1) := by decide +kernel
theorem d_MM_fits_56 : decode b_MM_fits 56 = .ok (.aload_n 0, 1) := by decide +kernel
theorem d_MM_fits_57 : decode b_MM_fits 57 = .ok (.getfield 205, 3) := by decide +kernel
theorem d_MM_fits_60 : decode b_MM_fits 60 = .ok (.iload 4, 2) := by decide +kernel
theorem d_MM_fits_62 : decode b_MM_fits 62 = .ok (.iconst 1, 1) := by decide +kernel
theorem d_MM_fits_63 : decode b_MM_fits 63 = .ok (.iadd, 1) := by decide +kernel
theorem d_MM_fits_64 : decode b_MM_fits 64 = .ok (.iaload, 1) := by decide +kernel
theorem d_MM_fits_65 : decode b_MM_fits 65 = .ok (.iconst 1, 1) := by decide +kernel
theorem d_MM_fits_66 : decode b_MM_fits 66 = .ok (.invokevirtual 634, 3) := by decide +kernel
theorem d_MM_fits_69 : decode b_MM_fits 69 = .ok (.iinc 4 3, 3) := by decide +kernel
theorem d_MM_fits_72 : decode b_MM_fits 72 = .ok (.goto (-62), 3) := by decide +kernel
theorem d_MM_fits_75 : decode b_MM_fits 75 = .ok (.iload_n 3, 1) := by decide +kernel
theorem d_MM_fits_76 : decode b_MM_fits 76 = .ok (.bipush 100, 2) := by decide +kernel
theorem d_MM_fits_78 : decode b_MM_fits 78 = .ok (.if_icmp .gt 16, 3) := by decide +kernel
theorem d_MM_fits_81 : decode b_MM_fits 81 = .ok (.aload_n 0, 1) := by decide +kernel
theorem d_MM_fits_82 : decode b_MM_fits 82 = .ok (.invokevirtual 638, 3) := by decide +kernel
theorem d_MM_fits_85 : decode b_MM_fits 85 = .ok (.bipush 6, 2) := by decide +kernel
theorem d_MM_fits_87 : decode b_MM_fits 87 = .ok (.if_icmp .gt 7, 3) := by decide +kernel
theorem d_MM_fits_90 : decode b_MM_fits 90 = .ok (.iconst 1, 1) := by decide +kernel
theorem d_MM_fits_91 : decode b_MM_fits 91 = .ok (.goto 4, 3) := by decide +kernel
theorem d_MM_fits_94 : decode b_MM_fits 94 = .ok (.iconst 0, 1) := by decide +kernel
theorem d_MM_fits_95 : decode b_MM_fits 95 = .ok (.ireturn, 1) := by decide +kernel
abbrev b_MM_add : ByteArray := prog_14_method_55_code
def y_MM_add : MethodName := ⟨"ClauseProverModel", "add", "(IIZ)V"⟩
theorem d_MM_add_0 : decode b_MM_add 0 = .ok (.aload_n 0, 1) := by decide +kernel
theorem d_MM_add_1 : decode b_MM_add 1 = .ok (.getfield 302, 3) := by decide +kernel
theorem d_MM_add_4 : decode b_MM_add 4 = .ok (.aload_n 0, 1) := by decide +kernel
theorem d_MM_add_5 : decode b_MM_add 5 = .ok (.getfield 311, 3) := by decide +kernel
theorem d_MM_add_8 : decode b_MM_add 8 = .ok (.iload_n 1, 1) := by decide +kernel
theorem d_MM_add_9 : decode b_MM_add 9 = .ok (.iastore, 1) := by decide +kernel
theorem d_MM_add_10 : decode b_MM_add 10 = .ok (.aload_n 0, 1) := by decide +kernel
theorem d_MM_add_11 : decode b_MM_add 11 = .ok (.getfield 305, 3) := by decide +kernel
theorem d_MM_add_14 : decode b_MM_add 14 = .ok (.aload_n 0, 1) := by decide +kernel
theorem d_MM_add_15 : decode b_MM_add 15 = .ok (.getfield 311, 3) := by decide +kernel
theorem d_MM_add_18 : decode b_MM_add 18 = .ok (.iload_n 2, 1) := by decide +kernel
theorem d_MM_add_19 : decode b_MM_add 19 = .ok (.iastore, 1) := by decide +kernel
theorem d_MM_add_20 : decode b_MM_add 20 = .ok (.aload_n 0, 1) := by decide +kernel
theorem d_MM_add_21 : decode b_MM_add 21 = .ok (.getfield 308, 3) := by decide +kernel
theorem d_MM_add_24 : decode b_MM_add 24 = .ok (.aload_n 0, 1) := by decide +kernel
theorem d_MM_add_25 : decode b_MM_add 25 = .ok (.dup, 1) := by decide +kernel
theorem d_MM_add_26 : decode b_MM_add 26 = .ok (.getfield 311, 3) := by decide +kernel
theorem d_MM_add_29 : decode b_MM_add 29 = .ok (.dup_x1, 1) := by decide +kernel
theorem d_MM_add_30 : decode b_MM_add 30 = .ok (.iconst 1, 1) := by decide +kernel
theorem d_MM_add_31 : decode b_MM_add 31 = .ok (.iadd, 1) := by decide +kernel
theorem d_MM_add_32 : decode b_MM_add 32 = .ok (.putfield 311, 3) := by decide +kernel
theorem d_MM_add_35 : decode b_MM_add 35 = .ok (.iload_n 3, 1) := by decide +kernel
theorem d_MM_add_36 : decode b_MM_add 36 = .ok (.bastore, 1) := by decide +kernel
theorem d_MM_add_37 : decode b_MM_add 37 = .ok (.return_, 1) := by decide +kernel
abbrev b_MM_distinct : ByteArray := prog_14_method_60_code
def y_MM_distinct : MethodName := ⟨"ClauseProverModel", "distinct", "()I"⟩
theorem d_MM_distinct_0 : decode b_MM_distinct 0 = .ok (.aload_n 0, 1) := by decide +kernel
theorem d_MM_distinct_1 : decode b_MM_distinct 1 = .ok (.iconst 0, 1) := by decide +kernel
theorem d_MM_distinct_2 : decode b_MM_distinct 2 = .ok (.putfield 320, 3) := by decide +kernel
theorem d_MM_distinct_5 : decode b_MM_distinct 5 = .ok (.iconst 0, 1) := by decide +kernel
theorem d_MM_distinct_6 : decode b_MM_distinct 6 = .ok (.istore_n 1, 1) := by decide +kernel
theorem d_MM_distinct_7 : decode b_MM_distinct 7 = .ok (.iload_n 1, 1) := by decide +kernel
theorem d_MM_distinct_8 : decode b_MM_distinct 8 = .ok (.aload_n 0, 1) := by decide +kernel
theorem d_MM_distinct_9 : decode b_MM_distinct 9 = .ok (.getfield 311, 3) := by decide +kernel
theorem d_MM_distinct_12 : decode b_MM_distinct 12 = .ok (.if_icmp .ge 29, 3) := by decide +kernel
theorem d_MM_distinct_15 : decode b_MM_distinct 15 = .ok (.aload_n 0, 1) := by decide +kernel
theorem d_MM_distinct_16 : decode b_MM_distinct 16 = .ok (.aload_n 0, 1) := by decide +kernel
theorem d_MM_distinct_17 : decode b_MM_distinct 17 = .ok (.getfield 302, 3) := by decide +kernel
theorem d_MM_distinct_20 : decode b_MM_distinct 20 = .ok (.iload_n 1, 1) := by decide +kernel
theorem d_MM_distinct_21 : decode b_MM_distinct 21 = .ok (.iaload, 1) := by decide +kernel
theorem d_MM_distinct_22 : decode b_MM_distinct 22 = .ok (.invokevirtual 583, 3) := by decide +kernel
theorem d_MM_distinct_25 : decode b_MM_distinct 25 = .ok (.aload_n 0, 1) := by decide +kernel
theorem d_MM_distinct_26 : decode b_MM_distinct 26 = .ok (.aload_n 0, 1) := by decide +kernel
theorem d_MM_distinct_27 : decode b_MM_distinct 27 = .ok (.getfield 305, 3) := by decide +kernel
theorem d_MM_distinct_30 : decode b_MM_distinct 30 = .ok (.iload_n 1, 1) := by decide +kernel
theorem d_MM_distinct_31 : decode b_MM_distinct 31 = .ok (.iaload, 1) := by decide +kernel
theorem d_MM_distinct_32 : decode b_MM_distinct 32 = .ok (.invokevirtual 583, 3) := by decide +kernel
theorem d_MM_distinct_35 : decode b_MM_distinct 35 = .ok (.iinc 1 1, 3) := by decide +kernel
theorem d_MM_distinct_38 : decode b_MM_distinct 38 = .ok (.goto (-31), 3) := by decide +kernel
theorem d_MM_distinct_41 : decode b_MM_distinct 41 = .ok (.aload_n 0, 1) := by decide +kernel
theorem d_MM_distinct_42 : decode b_MM_distinct 42 = .ok (.getfield 320, 3) := by decide +kernel
theorem d_MM_distinct_45 : decode b_MM_distinct 45 = .ok (.ireturn, 1) := by decide +kernel
abbrev b_MM_note : ByteArray := prog_14_method_61_code
def y_MM_note : MethodName := ⟨"ClauseProverModel", "note", "(I)V"⟩
theorem d_MM_note_0 : decode b_MM_note 0 = .ok (.aload_n 0, 1) := by decide +kernel
theorem d_MM_note_1 : decode b_MM_note 1 = .ok (.getfield 145, 3) := by decide +kernel
theorem d_MM_note_4 : decode b_MM_note 4 = .ok (.iload_n 1, 1) := by decide +kernel
theorem d_MM_note_5 : decode b_MM_note 5 = .ok (.iaload, 1) := by decide +kernel
theorem d_MM_note_6 : decode b_MM_note 6 = .ok (.ifCond .ge 58, 3) := by decide +kernel
theorem d_MM_note_9 : decode b_MM_note 9 = .ok (.iconst 0, 1) := by decide +kernel
theorem d_MM_note_10 : decode b_MM_note 10 = .ok (.istore_n 2, 1) := by decide +kernel
theorem d_MM_note_11 : decode b_MM_note 11 = .ok (.iload_n 2, 1) := by decide +kernel
theorem d_MM_note_12 : decode b_MM_note 12 = .ok (.aload_n 0, 1) := by decide +kernel
theorem d_MM_note_13 : decode b_MM_note 13 = .ok (.getfield 320, 3) := by decide +kernel
theorem d_MM_note_16 : decode b_MM_note 16 = .ok (.if_icmp .ge 25, 3) := by decide +kernel
theorem d_MM_note_19 : decode b_MM_note 19 = .ok (.aload_n 0, 1) := by decide +kernel
theorem d_MM_note_20 : decode b_MM_note 20 = .ok (.getfield 317, 3) := by decide +kernel
theorem d_MM_note_23 : decode b_MM_note 23 = .ok (.iload_n 2, 1) := by decide +kernel
theorem d_MM_note_24 : decode b_MM_note 24 = .ok (.iaload, 1) := by decide +kernel
theorem d_MM_note_25 : decode b_MM_note 25 = .ok (.aload_n 0, 1) := by decide +kernel
theorem d_MM_note_26 : decode b_MM_note 26 = .ok (.getfield 145, 3) := by decide +kernel
theorem d_MM_note_29 : decode b_MM_note 29 = .ok (.iload_n 1, 1) := by decide +kernel
theorem d_MM_note_30 : decode b_MM_note 30 = .ok (.iaload, 1) := by decide +kernel
theorem d_MM_note_31 : decode b_MM_note 31 = .ok (.if_icmp .ne 4, 3) := by decide +kernel
theorem d_MM_note_34 : decode b_MM_note 34 = .ok (.return_, 1) := by decide +kernel
theorem d_MM_note_35 : decode b_MM_note 35 = .ok (.iinc 2 1, 3) := by decide +kernel
theorem d_MM_note_38 : decode b_MM_note 38 = .ok (.goto (-27), 3) := by decide +kernel
theorem d_MM_note_41 : decode b_MM_note 41 = .ok (.aload_n 0, 1) := by decide +kernel
theorem d_MM_note_42 : decode b_MM_note 42 = .ok (.getfield 317, 3) := by decide +kernel
theorem d_MM_note_45 : decode b_MM_note 45 = .ok (.aload_n 0, 1) := by decide +kernel
theorem d_MM_note_46 : decode b_MM_note 46 = .ok (.dup, 1) := by decide +kernel
theorem d_MM_note_47 : decode b_MM_note 47 = .ok (.getfield 320, 3) := by decide +kernel
theorem d_MM_note_50 : decode b_MM_note 50 = .ok (.dup_x1, 1) := by decide +kernel
theorem d_MM_note_51 : decode b_MM_note 51 = .ok (.iconst 1, 1) := by decide +kernel
theorem d_MM_note_52 : decode b_MM_note 52 = .ok (.iadd, 1) := by decide +kernel
theorem d_MM_note_53 : decode b_MM_note 53 = .ok (.putfield 320, 3) := by decide +kernel
theorem d_MM_note_56 : decode b_MM_note 56 = .ok (.aload_n 0, 1) := by decide +kernel
theorem d_MM_note_57 : decode b_MM_note 57 = .ok (.getfield 145, 3) := by decide +kernel
theorem d_MM_note_60 : decode b_MM_note 60 = .ok (.iload_n 1, 1) := by decide +kernel
theorem d_MM_note_61 : decode b_MM_note 61 = .ok (.iaload, 1) := by decide +kernel
theorem d_MM_note_62 : decode b_MM_note 62 = .ok (.iastore, 1) := by decide +kernel
theorem d_MM_note_63 : decode b_MM_note 63 = .ok (.return_, 1) := by decide +kernel
theorem d_MM_note_64 : decode b_MM_note 64 = .ok (.aload_n 0, 1) := by decide +kernel
theorem d_MM_note_65 : decode b_MM_note 65 = .ok (.getfield 148, 3) := by decide +kernel
theorem d_MM_note_68 : decode b_MM_note 68 = .ok (.iload_n 1, 1) := by decide +kernel
theorem d_MM_note_69 : decode b_MM_note 69 = .ok (.iaload, 1) := by decide +kernel
theorem d_MM_note_70 : decode b_MM_note 70 = .ok (.istore_n 2, 1) := by decide +kernel
theorem d_MM_note_71 : decode b_MM_note 71 = .ok (.iload_n 2, 1) := by decide +kernel
theorem d_MM_note_72 : decode b_MM_note 72 = .ok (.ifCond .lt 18, 3) := by decide +kernel
theorem d_MM_note_75 : decode b_MM_note 75 = .ok (.aload_n 0, 1) := by decide +kernel
theorem d_MM_note_76 : decode b_MM_note 76 = .ok (.iload_n 2, 1) := by decide +kernel
theorem d_MM_note_77 : decode b_MM_note 77 = .ok (.invokevirtual 583, 3) := by decide +kernel
theorem d_MM_note_80 : decode b_MM_note 80 = .ok (.aload_n 0, 1) := by decide +kernel
theorem d_MM_note_81 : decode b_MM_note 81 = .ok (.getfield 151, 3) := by decide +kernel
theorem d_MM_note_84 : decode b_MM_note 84 = .ok (.iload_n 2, 1) := by decide +kernel
theorem d_MM_note_85 : decode b_MM_note 85 = .ok (.iaload, 1) := by decide +kernel
theorem d_MM_note_86 : decode b_MM_note 86 = .ok (.istore_n 2, 1) := by decide +kernel
theorem d_MM_note_87 : decode b_MM_note 87 = .ok (.goto (-16), 3) := by decide +kernel
theorem d_MM_note_90 : decode b_MM_note 90 = .ok (.return_, 1) := by decide +kernel
abbrev b_MM_copy : ByteArray := prog_14_method_39_code
def y_MM_copy : MethodName := ⟨"ClauseProverModel", "copy", "(I)I"⟩
theorem d_MM_copy_0 : decode b_MM_copy 0 = .ok (.aload_n 0, 1) := by decide +kernel
theorem d_MM_copy_1 : decode b_MM_copy 1 = .ok (.aload_n 0, 1) := by decide +kernel
theorem d_MM_copy_2 : decode b_MM_copy 2 = .ok (.getfield 145, 3) := by decide +kernel
theorem d_MM_copy_5 : decode b_MM_copy 5 = .ok (.iload_n 1, 1) := by decide +kernel
theorem d_MM_copy_6 : decode b_MM_copy 6 = .ok (.iaload, 1) := by decide +kernel
theorem d_MM_copy_7 : decode b_MM_copy 7 = .ok (.invokevirtual 516, 3) := by decide +kernel
theorem d_MM_copy_10 : decode b_MM_copy 10 = .ok (.istore_n 2, 1) := by decide +kernel
theorem d_MM_copy_11 : decode b_MM_copy 11 = .ok (.iconst (-1), 1) := by decide +kernel
theorem d_MM_copy_12 : decode b_MM_copy 12 = .ok (.istore_n 3, 1) := by decide +kernel
theorem d_MM_copy_13 : decode b_MM_copy 13 = .ok (.aload_n 0, 1) := by decide +kernel
theorem d_MM_copy_14 : decode b_MM_copy 14 = .ok (.getfield 148, 3) := by decide +kernel
theorem d_MM_copy_17 : decode b_MM_copy 17 = .ok (.iload_n 1, 1) := by decide +kernel
theorem d_MM_copy_18 : decode b_MM_copy 18 = .ok (.iaload, 1) := by decide +kernel
theorem d_MM_copy_19 : decode b_MM_copy 19 = .ok (.istore 4, 2) := by decide +kernel
theorem d_MM_copy_21 : decode b_MM_copy 21 = .ok (.iload 4, 2) := by decide +kernel
theorem d_MM_copy_23 : decode b_MM_copy 23 = .ok (.ifCond .lt 65, 3) := by decide +kernel
theorem d_MM_copy_26 : decode b_MM_copy 26 = .ok (.aload_n 0, 1) := by decide +kernel
theorem d_MM_copy_27 : decode b_MM_copy 27 = .ok (.iload 4, 2) := by decide +kernel
theorem d_MM_copy_29 : decode b_MM_copy 29 = .ok (.invokevirtual 519, 3) := by decide +kernel
theorem d_MM_copy_32 : decode b_MM_copy 32 = .ok (.istore 5, 2) := by decide +kernel
theorem d_MM_copy_34 : decode b_MM_copy 34 = .ok (.iload_n 3, 1) := by decide +kernel
theorem d_MM_copy_35 : decode b_MM_copy 35 = .ok (.ifCond .ge 14, 3) := by decide +kernel
theorem d_MM_copy_38 : decode b_MM_copy 38 = .ok (.aload_n 0, 1) := by decide +kernel
theorem d_MM_copy_39 : decode b_MM_copy 39 = .ok (.getfield 148, 3) := by decide +kernel
theorem d_MM_copy_42 : decode b_MM_copy 42 = .ok (.iload_n 2, 1) := by decide +kernel
theorem d_MM_copy_43 : decode b_MM_copy 43 = .ok (.iload 5, 2) := by decide +kernel
theorem d_MM_copy_45 : decode b_MM_copy 45 = .ok (.iastore, 1) := by decide +kernel
theorem d_MM_copy_46 : decode b_MM_copy 46 = .ok (.goto 11, 3) := by decide +kernel
theorem d_MM_copy_49 : decode b_MM_copy 49 = .ok (.aload_n 0, 1) := by decide +kernel
theorem d_MM_copy_50 : decode b_MM_copy 50 = .ok (.getfield 151, 3) := by decide +kernel
theorem d_MM_copy_53 : decode b_MM_copy 53 = .ok (.iload_n 3, 1) := by decide +kernel
theorem d_MM_copy_54 : decode b_MM_copy 54 = .ok (.iload 5, 2) := by decide +kernel
theorem d_MM_copy_56 : decode b_MM_copy 56 = .ok (.iastore, 1) := by decide +kernel
theorem d_MM_copy_57 : decode b_MM_copy 57 = .ok (.iload 5, 2) := by decide +kernel
theorem d_MM_copy_59 : decode b_MM_copy 59 = .ok (.istore_n 3, 1) := by decide +kernel
theorem d_MM_copy_60 : decode b_MM_copy 60 = .ok (.aload_n 0, 1) := by decide +kernel
theorem d_MM_copy_61 : decode b_MM_copy 61 = .ok (.getfield 154, 3) := by decide +kernel
theorem d_MM_copy_64 : decode b_MM_copy 64 = .ok (.iload_n 2, 1) := by decide +kernel
theorem d_MM_copy_65 : decode b_MM_copy 65 = .ok (.dup2, 1) := by decide +kernel
theorem d_MM_copy_66 : decode b_MM_copy 66 = .ok (.iaload, 1) := by decide +kernel
theorem d_MM_copy_67 : decode b_MM_copy 67 = .ok (.aload_n 0, 1) := by decide +kernel
theorem d_MM_copy_68 : decode b_MM_copy 68 = .ok (.getfield 154, 3) := by decide +kernel
theorem d_MM_copy_71 : decode b_MM_copy 71 = .ok (.iload 5, 2) := by decide +kernel
theorem d_MM_copy_73 : decode b_MM_copy 73 = .ok (.iaload, 1) := by decide +kernel
theorem d_MM_copy_74 : decode b_MM_copy 74 = .ok (.iadd, 1) := by decide +kernel
theorem d_MM_copy_75 : decode b_MM_copy 75 = .ok (.iastore, 1) := by decide +kernel
theorem d_MM_copy_76 : decode b_MM_copy 76 = .ok (.aload_n 0, 1) := by decide +kernel
theorem d_MM_copy_77 : decode b_MM_copy 77 = .ok (.getfield 151, 3) := by decide +kernel
theorem d_MM_copy_80 : decode b_MM_copy 80 = .ok (.iload 4, 2) := by decide +kernel
theorem d_MM_copy_82 : decode b_MM_copy 82 = .ok (.iaload, 1) := by decide +kernel
theorem d_MM_copy_83 : decode b_MM_copy 83 = .ok (.istore 4, 2) := by decide +kernel
theorem d_MM_copy_85 : decode b_MM_copy 85 = .ok (.goto (-64), 3) := by decide +kernel
theorem d_MM_copy_88 : decode b_MM_copy 88 = .ok (.iload_n 2, 1) := by decide +kernel
theorem d_MM_copy_89 : decode b_MM_copy 89 = .ok (.ireturn, 1) := by decide +kernel
abbrev b_MM_reduce : ByteArray := prog_14_method_58_code
def y_MM_reduce : MethodName := ⟨"ClauseProverModel", "reduce", "()V"⟩
theorem d_MM_reduce_0 : decode b_MM_reduce 0 = .ok (.iconst 0, 1) := by decide +kernel
theorem d_MM_reduce_1 : decode b_MM_reduce 1 = .ok (.istore_n 1, 1) := by decide +kernel
theorem d_MM_reduce_2 : decode b_MM_reduce 2 = .ok (.iconst 0, 1) := by decide +kernel
theorem d_MM_reduce_3 : decode b_MM_reduce 3 = .ok (.istore_n 2, 1) := by decide +kernel
theorem d_MM_reduce_4 : decode b_MM_reduce 4 = .ok (.iload_n 2, 1) := by decide +kernel
theorem d_MM_reduce_5 : decode b_MM_reduce 5 = .ok (.aload_n 0, 1) := by decide +kernel
theorem d_MM_reduce_6 : decode b_MM_reduce 6 = .ok (.getfield 311, 3) := by decide +kernel
theorem d_MM_reduce_9 : decode b_MM_reduce 9 = .ok (.if_icmp .ge 120, 3) := by decide +kernel
theorem d_MM_reduce_12 : decode b_MM_reduce 12 = .ok (.aload_n 0, 1) := by decide +kernel
theorem d_MM_reduce_13 : decode b_MM_reduce 13 = .ok (.getfield 308, 3) := by decide +kernel
theorem d_MM_reduce_16 : decode b_MM_reduce 16 = .ok (.iload_n 2, 1) := by decide +kernel
theorem d_MM_reduce_17 : decode b_MM_reduce 17 = .ok (.baload, 1) := by decide +kernel
theorem d_MM_reduce_18 : decode b_MM_reduce 18 = .ok (.ifCond .ne 25, 3) := by decide +kernel
theorem d_MM_reduce_21 : decode b_MM_reduce 21 = .ok (.aload_n 0, 1) := by decide +kernel
theorem d_MM_reduce_22 : decode b_MM_reduce 22 = .ok (.aload_n 0, 1) := by decide +kernel
theorem d_MM_reduce_23 : decode b_MM_reduce 23 = .ok (.getfield 302, 3) := by decide +kernel
theorem d_MM_reduce_26 : decode b_MM_reduce 26 = .ok (.iload_n 2, 1) := by decide +kernel
theorem d_MM_reduce_27 : decode b_MM_reduce 27 = .ok (.iaload, 1) := by decide +kernel
theorem d_MM_reduce_28 : decode b_MM_reduce 28 = .ok (.aload_n 0, 1) := by decide +kernel
theorem d_MM_reduce_29 : decode b_MM_reduce 29 = .ok (.getfield 305, 3) := by decide +kernel
theorem d_MM_reduce_32 : decode b_MM_reduce 32 = .ok (.iload_n 2, 1) := by decide +kernel
theorem d_MM_reduce_33 : decode b_MM_reduce 33 = .ok (.iaload, 1) := by decide +kernel
theorem d_MM_reduce_34 : decode b_MM_reduce 34 = .ok (.invokevirtual 513, 3) := by decide +kernel
theorem d_MM_reduce_37 : decode b_MM_reduce 37 = .ok (.ifCond .eq 6, 3) := by decide +kernel
theorem d_MM_reduce_40 : decode b_MM_reduce 40 = .ok (.goto 83, 3) := by decide +kernel
theorem d_MM_reduce_43 : decode b_MM_reduce 43 = .ok (.aload_n 0, 1) := by decide +kernel
theorem d_MM_reduce_44 : decode b_MM_reduce 44 = .ok (.getfield 302, 3) := by decide +kernel
theorem d_MM_reduce_47 : decode b_MM_reduce 47 = .ok (.iload_n 1, 1) := by decide +kernel
theorem d_MM_reduce_48 : decode b_MM_reduce 48 = .ok (.aload_n 0, 1) := by decide +kernel
theorem d_MM_reduce_49 : decode b_MM_reduce 49 = .ok (.getfield 302, 3) := by decide +kernel
theorem d_MM_reduce_52 : decode b_MM_reduce 52 = .ok (.iload_n 2, 1) := by decide +kernel
theorem d_MM_reduce_53 : decode b_MM_reduce 53 = .ok (.iaload, 1) := by decide +kernel
theorem d_MM_reduce_54 : decode b_MM_reduce 54 = .ok (.iastore, 1) := by decide +kernel
theorem d_MM_reduce_55 : decode b_MM_reduce 55 = .ok (.aload_n 0, 1) := by decide +kernel
theorem d_MM_reduce_56 : decode b_MM_reduce 56 = .ok (.getfield 305, 3) := by decide +kernel
theorem d_MM_reduce_59 : decode b_MM_reduce 59 = .ok (.iload_n 1, 1) := by decide +kernel
theorem d_MM_reduce_60 : decode b_MM_reduce 60 = .ok (.aload_n 0, 1) := by decide +kernel
theorem d_MM_reduce_61 : decode b_MM_reduce 61 = .ok (.getfield 305, 3) := by decide +kernel
theorem d_MM_reduce_64 : decode b_MM_reduce 64 = .ok (.iload_n 2, 1) := by decide +kernel
theorem d_MM_reduce_65 : decode b_MM_reduce 65 = .ok (.iaload, 1) := by decide +kernel
theorem d_MM_reduce_66 : decode b_MM_reduce 66 = .ok (.iastore, 1) := by decide +kernel
theorem d_MM_reduce_67 : decode b_MM_reduce 67 = .ok (.aload_n 0, 1) := by decide +kernel
theorem d_MM_reduce_68 : decode b_MM_reduce 68 = .ok (.getfield 308, 3) := by decide +kernel
theorem d_MM_reduce_71 : decode b_MM_reduce 71 = .ok (.iload_n 1, 1) := by decide +kernel
theorem d_MM_reduce_72 : decode b_MM_reduce 72 = .ok (.aload_n 0, 1) := by decide +kernel
theorem d_MM_reduce_73 : decode b_MM_reduce 73 = .ok (.getfield 308, 3) := by decide +kernel
theorem d_MM_reduce_76 : decode b_MM_reduce 76 = .ok (.iload_n 2, 1) := by decide +kernel
theorem d_MM_reduce_77 : decode b_MM_reduce 77 = .ok (.baload, 1) := by decide +kernel
theorem d_MM_reduce_78 : decode b_MM_reduce 78 = .ok (.bastore, 1) := by decide +kernel
theorem d_MM_reduce_79 : decode b_MM_reduce 79 = .ok (.iconst 0, 1) := by decide +kernel
theorem d_MM_reduce_80 : decode b_MM_reduce 80 = .ok (.istore_n 3, 1) := by decide +kernel
theorem d_MM_reduce_81 : decode b_MM_reduce 81 = .ok (.iconst 0, 1) := by decide +kernel
theorem d_MM_reduce_82 : decode b_MM_reduce 82 = .ok (.istore 4, 2) := by decide +kernel
theorem d_MM_reduce_84 : decode b_MM_reduce 84 = .ok (.iload 4, 2) := by decide +kernel
theorem d_MM_reduce_86 : decode b_MM_reduce 86 = .ok (.iload_n 1, 1) := by decide +kernel
theorem d_MM_reduce_87 : decode b_MM_reduce 87 = .ok (.if_icmp .ge 29, 3) := by decide +kernel
theorem d_MM_reduce_90 : decode b_MM_reduce 90 = .ok (.iload_n 3, 1) := by decide +kernel
theorem d_MM_reduce_91 : decode b_MM_reduce 91 = .ok (.ifCond .ne 13, 3) := by decide +kernel
theorem d_MM_reduce_94 : decode b_MM_reduce 94 = .ok (.aload_n 0, 1) := by decide +kernel
theorem d_MM_reduce_95 : decode b_MM_reduce 95 = .ok (.iload 4, 2) := by decide +kernel
theorem d_MM_reduce_97 : decode b_MM_reduce 97 = .ok (.iload_n 1, 1) := by decide +kernel
theorem d_MM_reduce_98 : decode b_MM_reduce 98 = .ok (.invokevirtual 577, 3) := by decide +kernel
theorem d_MM_reduce_101 : decode b_MM_reduce 101 = .ok (.ifCond .eq 7, 3) := by decide +kernel
theorem d_MM_reduce_104 : decode b_MM_reduce 104 = .ok (.iconst 1, 1) := by decide +kernel
theorem d_MM_reduce_105 : decode b_MM_reduce 105 = .ok (.goto 4, 3) := by decide +kernel
theorem d_MM_reduce_108 : decode b_MM_reduce 108 = .ok (.iconst 0, 1) := by decide +kernel
theorem d_MM_reduce_109 : decode b_MM_reduce 109 = .ok (.istore_n 3, 1) := by decide +kernel
theorem d_MM_reduce_110 : decode b_MM_reduce 110 = .ok (.iinc 4 1, 3) := by decide +kernel
theorem d_MM_reduce_113 : decode b_MM_reduce 113 = .ok (.goto (-29), 3) := by decide +kernel
theorem d_MM_reduce_116 : decode b_MM_reduce 116 = .ok (.iload_n 3, 1) := by decide +kernel
theorem d_MM_reduce_117 : decode b_MM_reduce 117 = .ok (.ifCond .ne 6, 3) := by decide +kernel
theorem d_MM_reduce_120 : decode b_MM_reduce 120 = .ok (.iinc 1 1, 3) := by decide +kernel
theorem d_MM_reduce_123 : decode b_MM_reduce 123 = .ok (.iinc 2 1, 3) := by decide +kernel
theorem d_MM_reduce_126 : decode b_MM_reduce 126 = .ok (.goto (-122), 3) := by decide +kernel
theorem d_MM_reduce_129 : decode b_MM_reduce 129 = .ok (.aload_n 0, 1) := by decide +kernel
theorem d_MM_reduce_130 : decode b_MM_reduce 130 = .ok (.iload_n 1, 1) := by decide +kernel
theorem d_MM_reduce_131 : decode b_MM_reduce 131 = .ok (.putfield 311, 3) := by decide +kernel
theorem d_MM_reduce_134 : decode b_MM_reduce 134 = .ok (.aload_n 0, 1) := by decide +kernel
theorem d_MM_reduce_135 : decode b_MM_reduce 135 = .ok (.iconst 0, 1) := by decide +kernel
theorem d_MM_reduce_136 : decode b_MM_reduce 136 = .ok (.putfield 320, 3) := by decide +kernel
theorem d_MM_reduce_139 : decode b_MM_reduce 139 = .ok (.iconst 0, 1) := by decide +kernel
theorem d_MM_reduce_140 : decode b_MM_reduce 140 = .ok (.istore_n 2, 1) := by decide +kernel
theorem d_MM_reduce_141 : decode b_MM_reduce 141 = .ok (.iload_n 2, 1) := by decide +kernel
theorem d_MM_reduce_142 : decode b_MM_reduce 142 = .ok (.aload_n 0, 1) := by decide +kernel
theorem d_MM_reduce_143 : decode b_MM_reduce 143 = .ok (.getfield 311, 3) := by decide +kernel
theorem d_MM_reduce_146 : decode b_MM_reduce 146 = .ok (.if_icmp .ge 29, 3) := by decide +kernel
theorem d_MM_reduce_149 : decode b_MM_reduce 149 = .ok (.aload_n 0, 1) := by decide +kernel
theorem d_MM_reduce_150 : decode b_MM_reduce 150 = .ok (.aload_n 0, 1) := by decide +kernel
theorem d_MM_reduce_151 : decode b_MM_reduce 151 = .ok (.getfield 302, 3) := by decide +kernel
theorem d_MM_reduce_154 : decode b_MM_reduce 154 = .ok (.iload_n 2, 1) := by decide +kernel
theorem d_MM_reduce_155 : decode b_MM_reduce 155 = .ok (.iaload, 1) := by decide +kernel
theorem d_MM_reduce_156 : decode b_MM_reduce 156 = .ok (.invokevirtual 580, 3) := by decide +kernel
theorem d_MM_reduce_159 : decode b_MM_reduce 159 = .ok (.aload_n 0, 1) := by decide +kernel
theorem d_MM_reduce_160 : decode b_MM_reduce 160 = .ok (.aload_n 0, 1) := by decide +kernel
theorem d_MM_reduce_161 : decode b_MM_reduce 161 = .ok (.getfield 305, 3) := by decide +kernel
theorem d_MM_reduce_164 : decode b_MM_reduce 164 = .ok (.iload_n 2, 1) := by decide +kernel
theorem d_MM_reduce_165 : decode b_MM_reduce 165 = .ok (.iaload, 1) := by decide +kernel
theorem d_MM_reduce_166 : decode b_MM_reduce 166 = .ok (.invokevirtual 580, 3) := by decide +kernel
theorem d_MM_reduce_169 : decode b_MM_reduce 169 = .ok (.iinc 2 1, 3) := by decide +kernel
theorem d_MM_reduce_172 : decode b_MM_reduce 172 = .ok (.goto (-31), 3) := by decide +kernel
theorem d_MM_reduce_175 : decode b_MM_reduce 175 = .ok (.return_, 1) := by decide +kernel
abbrev b_MM_same : ByteArray := prog_14_method_38_code
def y_MM_same : MethodName := ⟨"ClauseProverModel", "same", "(II)Z"⟩
theorem d_MM_same_0 : decode b_MM_same 0 = .ok (.aload_n 0, 1) := by decide +kernel
theorem d_MM_same_1 : decode b_MM_same 1 = .ok (.getfield 145, 3) := by decide +kernel
theorem d_MM_same_4 : decode b_MM_same 4 = .ok (.iload_n 1, 1) := by decide +kernel
theorem d_MM_same_5 : decode b_MM_same 5 = .ok (.iaload, 1) := by decide +kernel
theorem d_MM_same_6 : decode b_MM_same 6 = .ok (.aload_n 0, 1) := by decide +kernel
theorem d_MM_same_7 : decode b_MM_same 7 = .ok (.getfield 145, 3) := by decide +kernel
theorem d_MM_same_10 : decode b_MM_same 10 = .ok (.iload_n 2, 1) := by decide +kernel
theorem d_MM_same_11 : decode b_MM_same 11 = .ok (.iaload, 1) := by decide +kernel
theorem d_MM_same_12 : decode b_MM_same 12 = .ok (.if_icmp .ne 18, 3) := by decide +kernel
theorem d_MM_same_15 : decode b_MM_same 15 = .ok (.aload_n 0, 1) := by decide +kernel
theorem d_MM_same_16 : decode b_MM_same 16 = .ok (.getfield 154, 3) := by decide +kernel
theorem d_MM_same_19 : decode b_MM_same 19 = .ok (.iload_n 1, 1) := by decide +kernel
theorem d_MM_same_20 : decode b_MM_same 20 = .ok (.iaload, 1) := by decide +kernel
theorem d_MM_same_21 : decode b_MM_same 21 = .ok (.aload_n 0, 1) := by decide +kernel
theorem d_MM_same_22 : decode b_MM_same 22 = .ok (.getfield 154, 3) := by decide +kernel
theorem d_MM_same_25 : decode b_MM_same 25 = .ok (.iload_n 2, 1) := by decide +kernel
theorem d_MM_same_26 : decode b_MM_same 26 = .ok (.iaload, 1) := by decide +kernel
theorem d_MM_same_27 : decode b_MM_same 27 = .ok (.if_icmp .eq 5, 3) := by decide +kernel
theorem d_MM_same_30 : decode b_MM_same 30 = .ok (.iconst 0, 1) := by decide +kernel
theorem d_MM_same_31 : decode b_MM_same 31 = .ok (.ireturn, 1) := by decide +kernel
theorem d_MM_same_32 : decode b_MM_same 32 = .ok (.aload_n 0, 1) := by decide +kernel
theorem d_MM_same_33 : decode b_MM_same 33 = .ok (.getfield 148, 3) := by decide +kernel
theorem d_MM_same_36 : decode b_MM_same 36 = .ok (.iload_n 2, 1) := by decide +kernel
theorem d_MM_same_37 : decode b_MM_same 37 = .ok (.iaload, 1) := by decide +kernel
theorem d_MM_same_38 : decode b_MM_same 38 = .ok (.istore_n 3, 1) := by decide +kernel
theorem d_MM_same_39 : decode b_MM_same 39 = .ok (.aload_n 0, 1) := by decide +kernel
theorem d_MM_same_40 : decode b_MM_same 40 = .ok (.getfield 148, 3) := by decide +kernel
theorem d_MM_same_43 : decode b_MM_same 43 = .ok (.iload_n 1, 1) := by decide +kernel
theorem d_MM_same_44 : decode b_MM_same 44 = .ok (.iaload, 1) := by decide +kernel
theorem d_MM_same_45 : decode b_MM_same 45 = .ok (.istore 4, 2) := by decide +kernel
theorem d_MM_same_47 : decode b_MM_same 47 = .ok (.iload 4, 2) := by decide +kernel
theorem d_MM_same_49 : decode b_MM_same 49 = .ok (.ifCond .lt 34, 3) := by decide +kernel
theorem d_MM_same_52 : decode b_MM_same 52 = .ok (.aload_n 0, 1) := by decide +kernel
theorem d_MM_same_53 : decode b_MM_same 53 = .ok (.iload 4, 2) := by decide +kernel
theorem d_MM_same_55 : decode b_MM_same 55 = .ok (.iload_n 3, 1) := by decide +kernel
theorem d_MM_same_56 : decode b_MM_same 56 = .ok (.invokevirtual 513, 3) := by decide +kernel
theorem d_MM_same_59 : decode b_MM_same 59 = .ok (.ifCond .ne 5, 3) := by decide +kernel
theorem d_MM_same_62 : decode b_MM_same 62 = .ok (.iconst 0, 1) := by decide +kernel
theorem d_MM_same_63 : decode b_MM_same 63 = .ok (.ireturn, 1) := by decide +kernel
theorem d_MM_same_64 : decode b_MM_same 64 = .ok (.aload_n 0, 1) := by decide +kernel
theorem d_MM_same_65 : decode b_MM_same 65 = .ok (.getfield 151, 3) := by decide +kernel
theorem d_MM_same_68 : decode b_MM_same 68 = .ok (.iload_n 3, 1) := by decide +kernel
theorem d_MM_same_69 : decode b_MM_same 69 = .ok (.iaload, 1) := by decide +kernel
theorem d_MM_same_70 : decode b_MM_same 70 = .ok (.istore_n 3, 1) := by decide +kernel
theorem d_MM_same_71 : decode b_MM_same 71 = .ok (.aload_n 0, 1) := by decide +kernel
theorem d_MM_same_72 : decode b_MM_same 72 = .ok (.getfield 151, 3) := by decide +kernel
theorem d_MM_same_75 : decode b_MM_same 75 = .ok (.iload 4, 2) := by decide +kernel
theorem d_MM_same_77 : decode b_MM_same 77 = .ok (.iaload, 1) := by decide +kernel
theorem d_MM_same_78 : decode b_MM_same 78 = .ok (.istore 4, 2) := by decide +kernel
theorem d_MM_same_80 : decode b_MM_same 80 = .ok (.goto (-33), 3) := by decide +kernel
theorem d_MM_same_83 : decode b_MM_same 83 = .ok (.iconst 1, 1) := by decide +kernel
theorem d_MM_same_84 : decode b_MM_same 84 = .ok (.ireturn, 1) := by decide +kernel
abbrev b_MM_sameLiteral : ByteArray := prog_14_method_56_code
def y_MM_sameLiteral : MethodName := ⟨"ClauseProverModel", "sameLiteral", "(II)Z"⟩
theorem d_MM_sameLiteral_0 : decode b_MM_sameLiteral 0 = .ok (.aload_n 0, 1) := by decide +kernel
theorem d_MM_sameLiteral_1 : decode b_MM_sameLiteral 1 = .ok (.getfield 308, 3) := by decide +kernel
theorem d_MM_sameLiteral_4 : decode b_MM_sameLiteral 4 = .ok (.iload_n 1, 1) := by decide +kernel
theorem d_MM_sameLiteral_5 : decode b_MM_sameLiteral 5 = .ok (.baload, 1) := by decide +kernel
theorem d_MM_sameLiteral_6 : decode b_MM_sameLiteral 6 = .ok (.aload_n 0, 1) := by decide +kernel
theorem d_MM_sameLiteral_7 : decode b_MM_sameLiteral 7 = .ok (.getfield 308, 3) := by decide +kernel
theorem d_MM_sameLiteral_10 : decode b_MM_sameLiteral 10 = .ok (.iload_n 2, 1) := by decide +kernel
theorem d_MM_sameLiteral_11 : decode b_MM_sameLiteral 11 = .ok (.baload, 1) := by decide +kernel
theorem d_MM_sameLiteral_12 : decode b_MM_sameLiteral 12 = .ok (.if_icmp .ne 16, 3) := by decide +kernel
theorem d_MM_sameLiteral_15 : decode b_MM_sameLiteral 15 = .ok (.aload_n 0, 1) := by decide +kernel
theorem d_MM_sameLiteral_16 : decode b_MM_sameLiteral 16 = .ok (.iload_n 1, 1) := by decide +kernel
theorem d_MM_sameLiteral_17 : decode b_MM_sameLiteral 17 = .ok (.iload_n 2, 1) := by decide +kernel
theorem d_MM_sameLiteral_18 : decode b_MM_sameLiteral 18 = .ok (.invokevirtual 574, 3) := by decide +kernel
theorem d_MM_sameLiteral_21 : decode b_MM_sameLiteral 21 = .ok (.ifCond .eq 7, 3) := by decide +kernel
theorem d_MM_sameLiteral_24 : decode b_MM_sameLiteral 24 = .ok (.iconst 1, 1) := by decide +kernel
theorem d_MM_sameLiteral_25 : decode b_MM_sameLiteral 25 = .ok (.goto 4, 3) := by decide +kernel
theorem d_MM_sameLiteral_28 : decode b_MM_sameLiteral 28 = .ok (.iconst 0, 1) := by decide +kernel
theorem d_MM_sameLiteral_29 : decode b_MM_sameLiteral 29 = .ok (.ireturn, 1) := by decide +kernel
abbrev b_MM_alike : ByteArray := prog_14_method_57_code
def y_MM_alike : MethodName := ⟨"ClauseProverModel", "alike", "(II)Z"⟩
theorem d_MM_alike_0 : decode b_MM_alike 0 = .ok (.aload_n 0, 1) := by decide +kernel
theorem d_MM_alike_1 : decode b_MM_alike 1 = .ok (.aload_n 0, 1) := by decide +kernel
theorem d_MM_alike_2 : decode b_MM_alike 2 = .ok (.getfield 302, 3) := by decide +kernel
theorem d_MM_alike_5 : decode b_MM_alike 5 = .ok (.iload_n 1, 1) := by decide +kernel
theorem d_MM_alike_6 : decode b_MM_alike 6 = .ok (.iaload, 1) := by decide +kernel
theorem d_MM_alike_7 : decode b_MM_alike 7 = .ok (.aload_n 0, 1) := by decide +kernel
theorem d_MM_alike_8 : decode b_MM_alike 8 = .ok (.getfield 302, 3) := by decide +kernel
theorem d_MM_alike_11 : decode b_MM_alike 11 = .ok (.iload_n 2, 1) := by decide +kernel
theorem d_MM_alike_12 : decode b_MM_alike 12 = .ok (.iaload, 1) := by decide +kernel
theorem d_MM_alike_13 : decode b_MM_alike 13 = .ok (.invokevirtual 513, 3) := by decide +kernel
theorem d_MM_alike_16 : decode b_MM_alike 16 = .ok (.ifCond .eq 22, 3) := by decide +kernel
theorem d_MM_alike_19 : decode b_MM_alike 19 = .ok (.aload_n 0, 1) := by decide +kernel
theorem d_MM_alike_20 : decode b_MM_alike 20 = .ok (.aload_n 0, 1) := by decide +kernel
theorem d_MM_alike_21 : decode b_MM_alike 21 = .ok (.getfield 305, 3) := by decide +kernel
theorem d_MM_alike_24 : decode b_MM_alike 24 = .ok (.iload_n 1, 1) := by decide +kernel
theorem d_MM_alike_25 : decode b_MM_alike 25 = .ok (.iaload, 1) := by decide +kernel
theorem d_MM_alike_26 : decode b_MM_alike 26 = .ok (.aload_n 0, 1) := by decide +kernel
theorem d_MM_alike_27 : decode b_MM_alike 27 = .ok (.getfield 305, 3) := by decide +kernel
theorem d_MM_alike_30 : decode b_MM_alike 30 = .ok (.iload_n 2, 1) := by decide +kernel
theorem d_MM_alike_31 : decode b_MM_alike 31 = .ok (.iaload, 1) := by decide +kernel
theorem d_MM_alike_32 : decode b_MM_alike 32 = .ok (.invokevirtual 513, 3) := by decide +kernel
theorem d_MM_alike_35 : decode b_MM_alike 35 = .ok (.ifCond .ne 41, 3) := by decide +kernel
theorem d_MM_alike_38 : decode b_MM_alike 38 = .ok (.aload_n 0, 1) := by decide +kernel
theorem d_MM_alike_39 : decode b_MM_alike 39 = .ok (.aload_n 0, 1) := by decide +kernel
theorem d_MM_alike_40 : decode b_MM_alike 40 = .ok (.getfield 302, 3) := by decide +kernel
theorem d_MM_alike_43 : decode b_MM_alike 43 = .ok (.iload_n 1, 1) := by decide +kernel
theorem d_MM_alike_44 : decode b_MM_alike 44 = .ok (.iaload, 1) := by decide +kernel
theorem d_MM_alike_45 : decode b_MM_alike 45 = .ok (.aload_n 0, 1) := by decide +kernel
theorem d_MM_alike_46 : decode b_MM_alike 46 = .ok (.getfield 305, 3) := by decide +kernel
theorem d_MM_alike_49 : decode b_MM_alike 49 = .ok (.iload_n 2, 1) := by decide +kernel
theorem d_MM_alike_50 : decode b_MM_alike 50 = .ok (.iaload, 1) := by decide +kernel
theorem d_MM_alike_51 : decode b_MM_alike 51 = .ok (.invokevirtual 513, 3) := by decide +kernel
theorem d_MM_alike_54 : decode b_MM_alike 54 = .ok (.ifCond .eq 26, 3) := by decide +kernel
theorem d_MM_alike_57 : decode b_MM_alike 57 = .ok (.aload_n 0, 1) := by decide +kernel
theorem d_MM_alike_58 : decode b_MM_alike 58 = .ok (.aload_n 0, 1) := by decide +kernel
theorem d_MM_alike_59 : decode b_MM_alike 59 = .ok (.getfield 305, 3) := by decide +kernel
theorem d_MM_alike_62 : decode b_MM_alike 62 = .ok (.iload_n 1, 1) := by decide +kernel
theorem d_MM_alike_63 : decode b_MM_alike 63 = .ok (.iaload, 1) := by decide +kernel
theorem d_MM_alike_64 : decode b_MM_alike 64 = .ok (.aload_n 0, 1) := by decide +kernel
theorem d_MM_alike_65 : decode b_MM_alike 65 = .ok (.getfield 302, 3) := by decide +kernel
theorem d_MM_alike_68 : decode b_MM_alike 68 = .ok (.iload_n 2, 1) := by decide +kernel
theorem d_MM_alike_69 : decode b_MM_alike 69 = .ok (.iaload, 1) := by decide +kernel
theorem d_MM_alike_70 : decode b_MM_alike 70 = .ok (.invokevirtual 513, 3) := by decide +kernel
theorem d_MM_alike_73 : decode b_MM_alike 73 = .ok (.ifCond .eq 7, 3) := by decide +kernel
theorem d_MM_alike_76 : decode b_MM_alike 76 = .ok (.iconst 1, 1) := by decide +kernel
theorem d_MM_alike_77 : decode b_MM_alike 77 = .ok (.goto 4, 3) := by decide +kernel
theorem d_MM_alike_80 : decode b_MM_alike 80 = .ok (.iconst 0, 1) := by decide +kernel
theorem d_MM_alike_81 : decode b_MM_alike 81 = .ok (.ireturn, 1) := by decide +kernel
abbrev b_MM_number : ByteArray := prog_14_method_59_code
def y_MM_number : MethodName := ⟨"ClauseProverModel", "number", "(I)V"⟩
theorem d_MM_number_0 : decode b_MM_number 0 = .ok (.aload_n 0, 1) := by decide +kernel
theorem d_MM_number_1 : decode b_MM_number 1 = .ok (.getfield 145, 3) := by decide +kernel
theorem d_MM_number_4 : decode b_MM_number 4 = .ok (.iload_n 1, 1) := by decide +kernel
theorem d_MM_number_5 : decode b_MM_number 5 = .ok (.iaload, 1) := by decide +kernel
theorem d_MM_number_6 : decode b_MM_number 6 = .ok (.ifCond .ge 74, 3) := by decide +kernel
theorem d_MM_number_9 : decode b_MM_number 9 = .ok (.iconst 0, 1) := by decide +kernel
theorem d_MM_number_10 : decode b_MM_number 10 = .ok (.istore_n 2, 1) := by decide +kernel
theorem d_MM_number_11 : decode b_MM_number 11 = .ok (.iload_n 2, 1) := by decide +kernel
theorem d_MM_number_12 : decode b_MM_number 12 = .ok (.aload_n 0, 1) := by decide +kernel
theorem d_MM_number_13 : decode b_MM_number 13 = .ok (.getfield 320, 3) := by decide +kernel
theorem d_MM_number_16 : decode b_MM_number 16 = .ok (.if_icmp .ge 24, 3) := by decide +kernel
theorem d_MM_number_19 : decode b_MM_number 19 = .ok (.aload_n 0, 1) := by decide +kernel
theorem d_MM_number_20 : decode b_MM_number 20 = .ok (.getfield 317, 3) := by decide +kernel
theorem d_MM_number_23 : decode b_MM_number 23 = .ok (.iload_n 2, 1) := by decide +kernel
theorem d_MM_number_24 : decode b_MM_number 24 = .ok (.iaload, 1) := by decide +kernel
theorem d_MM_number_25 : decode b_MM_number 25 = .ok (.aload_n 0, 1) := by decide +kernel
theorem d_MM_number_26 : decode b_MM_number 26 = .ok (.getfield 145, 3) := by decide +kernel
theorem d_MM_number_29 : decode b_MM_number 29 = .ok (.iload_n 1, 1) := by decide +kernel
theorem d_MM_number_30 : decode b_MM_number 30 = .ok (.iaload, 1) := by decide +kernel
theorem d_MM_number_31 : decode b_MM_number 31 = .ok (.if_icmp .eq 9, 3) := by decide +kernel
theorem d_MM_number_34 : decode b_MM_number 34 = .ok (.iinc 2 1, 3) := by decide +kernel
theorem d_MM_number_37 : decode b_MM_number 37 = .ok (.goto (-26), 3) := by decide +kernel
theorem d_MM_number_40 : decode b_MM_number 40 = .ok (.iload_n 2, 1) := by decide +kernel
theorem d_MM_number_41 : decode b_MM_number 41 = .ok (.aload_n 0, 1) := by decide +kernel
theorem d_MM_number_42 : decode b_MM_number 42 = .ok (.getfield 320, 3) := by decide +kernel
theorem d_MM_number_45 : decode b_MM_number 45 = .ok (.if_icmp .ne 25, 3) := by decide +kernel
theorem d_MM_number_48 : decode b_MM_number 48 = .ok (.aload_n 0, 1) := by decide +kernel
theorem d_MM_number_49 : decode b_MM_number 49 = .ok (.getfield 317, 3) := by decide +kernel
theorem d_MM_number_52 : decode b_MM_number 52 = .ok (.aload_n 0, 1) := by decide +kernel
theorem d_MM_number_53 : decode b_MM_number 53 = .ok (.dup, 1) := by decide +kernel
theorem d_MM_number_54 : decode b_MM_number 54 = .ok (.getfield 320, 3) := by decide +kernel
theorem d_MM_number_57 : decode b_MM_number 57 = .ok (.dup_x1, 1) := by decide +kernel
theorem d_MM_number_58 : decode b_MM_number 58 = .ok (.iconst 1, 1) := by decide +kernel
theorem d_MM_number_59 : decode b_MM_number 59 = .ok (.iadd, 1) := by decide +kernel
theorem d_MM_number_60 : decode b_MM_number 60 = .ok (.putfield 320, 3) := by decide +kernel
theorem d_MM_number_63 : decode b_MM_number 63 = .ok (.aload_n 0, 1) := by decide +kernel
theorem d_MM_number_64 : decode b_MM_number 64 = .ok (.getfield 145, 3) := by decide +kernel
theorem d_MM_number_67 : decode b_MM_number 67 = .ok (.iload_n 1, 1) := by decide +kernel
theorem d_MM_number_68 : decode b_MM_number 68 = .ok (.iaload, 1) := by decide +kernel
theorem d_MM_number_69 : decode b_MM_number 69 = .ok (.iastore, 1) := by decide +kernel
theorem d_MM_number_70 : decode b_MM_number 70 = .ok (.aload_n 0, 1) := by decide +kernel
theorem d_MM_number_71 : decode b_MM_number 71 = .ok (.getfield 145, 3) := by decide +kernel
theorem d_MM_number_74 : decode b_MM_number 74 = .ok (.iload_n 1, 1) := by decide +kernel
theorem d_MM_number_75 : decode b_MM_number 75 = .ok (.iconst (-1), 1) := by decide +kernel
theorem d_MM_number_76 : decode b_MM_number 76 = .ok (.iload_n 2, 1) := by decide +kernel
theorem d_MM_number_77 : decode b_MM_number 77 = .ok (.isub, 1) := by decide +kernel
theorem d_MM_number_78 : decode b_MM_number 78 = .ok (.iastore, 1) := by decide +kernel
theorem d_MM_number_79 : decode b_MM_number 79 = .ok (.return_, 1) := by decide +kernel
theorem d_MM_number_80 : decode b_MM_number 80 = .ok (.aload_n 0, 1) := by decide +kernel
theorem d_MM_number_81 : decode b_MM_number 81 = .ok (.getfield 148, 3) := by decide +kernel
theorem d_MM_number_84 : decode b_MM_number 84 = .ok (.iload_n 1, 1) := by decide +kernel
theorem d_MM_number_85 : decode b_MM_number 85 = .ok (.iaload, 1) := by decide +kernel
theorem d_MM_number_86 : decode b_MM_number 86 = .ok (.istore_n 2, 1) := by decide +kernel
theorem d_MM_number_87 : decode b_MM_number 87 = .ok (.iload_n 2, 1) := by decide +kernel
theorem d_MM_number_88 : decode b_MM_number 88 = .ok (.ifCond .lt 18, 3) := by decide +kernel
theorem d_MM_number_91 : decode b_MM_number 91 = .ok (.aload_n 0, 1) := by decide +kernel
theorem d_MM_number_92 : decode b_MM_number 92 = .ok (.iload_n 2, 1) := by decide +kernel
theorem d_MM_number_93 : decode b_MM_number 93 = .ok (.invokevirtual 580, 3) := by decide +kernel
theorem d_MM_number_96 : decode b_MM_number 96 = .ok (.aload_n 0, 1) := by decide +kernel
theorem d_MM_number_97 : decode b_MM_number 97 = .ok (.getfield 151, 3) := by decide +kernel
theorem d_MM_number_100 : decode b_MM_number 100 = .ok (.iload_n 2, 1) := by decide +kernel
theorem d_MM_number_101 : decode b_MM_number 101 = .ok (.iaload, 1) := by decide +kernel
theorem d_MM_number_102 : decode b_MM_number 102 = .ok (.istore_n 2, 1) := by decide +kernel
theorem d_MM_number_103 : decode b_MM_number 103 = .ok (.goto (-16), 3) := by decide +kernel
theorem d_MM_number_106 : decode b_MM_number 106 = .ok (.return_, 1) := by decide +kernel
abbrev b_MM_tautology : ByteArray := prog_14_method_62_code
def y_MM_tautology : MethodName := ⟨"ClauseProverModel", "tautology", "()Z"⟩
theorem d_MM_tautology_0 : decode b_MM_tautology 0 = .ok (.iconst 0, 1) := by decide +kernel
theorem d_MM_tautology_1 : decode b_MM_tautology 1 = .ok (.istore_n 1, 1) := by decide +kernel
theorem d_MM_tautology_2 : decode b_MM_tautology 2 = .ok (.iload_n 1, 1) := by decide +kernel
theorem d_MM_tautology_3 : decode b_MM_tautology 3 = .ok (.aload_n 0, 1) := by decide +kernel
theorem d_MM_tautology_4 : decode b_MM_tautology 4 = .ok (.getfield 311, 3) := by decide +kernel
theorem d_MM_tautology_7 : decode b_MM_tautology 7 = .ok (.if_icmp .ge 78, 3) := by decide +kernel
theorem d_MM_tautology_10 : decode b_MM_tautology 10 = .ok (.aload_n 0, 1) := by decide +kernel
theorem d_MM_tautology_11 : decode b_MM_tautology 11 = .ok (.getfield 308, 3) := by decide +kernel
theorem d_MM_tautology_14 : decode b_MM_tautology 14 = .ok (.iload_n 1, 1) := by decide +kernel
theorem d_MM_tautology_15 : decode b_MM_tautology 15 = .ok (.baload, 1) := by decide +kernel
theorem d_MM_tautology_16 : decode b_MM_tautology 16 = .ok (.ifCond .ne 6, 3) := by decide +kernel
theorem d_MM_tautology_19 : decode b_MM_tautology 19 = .ok (.goto 60, 3) := by decide +kernel
theorem d_MM_tautology_22 : decode b_MM_tautology 22 = .ok (.aload_n 0, 1) := by decide +kernel
theorem d_MM_tautology_23 : decode b_MM_tautology 23 = .ok (.aload_n 0, 1) := by decide +kernel
theorem d_MM_tautology_24 : decode b_MM_tautology 24 = .ok (.getfield 302, 3) := by decide +kernel
theorem d_MM_tautology_27 : decode b_MM_tautology 27 = .ok (.iload_n 1, 1) := by decide +kernel
theorem d_MM_tautology_28 : decode b_MM_tautology 28 = .ok (.iaload, 1) := by decide +kernel
theorem d_MM_tautology_29 : decode b_MM_tautology 29 = .ok (.aload_n 0, 1) := by decide +kernel
theorem d_MM_tautology_30 : decode b_MM_tautology 30 = .ok (.getfield 305, 3) := by decide +kernel
theorem d_MM_tautology_33 : decode b_MM_tautology 33 = .ok (.iload_n 1, 1) := by decide +kernel
theorem d_MM_tautology_34 : decode b_MM_tautology 34 = .ok (.iaload, 1) := by decide +kernel
theorem d_MM_tautology_35 : decode b_MM_tautology 35 = .ok (.invokevirtual 513, 3) := by decide +kernel
theorem d_MM_tautology_38 : decode b_MM_tautology 38 = .ok (.ifCond .eq 5, 3) := by decide +kernel
theorem d_MM_tautology_41 : decode b_MM_tautology 41 = .ok (.iconst 1, 1) := by decide +kernel
theorem d_MM_tautology_42 : decode b_MM_tautology 42 = .ok (.ireturn, 1) := by decide +kernel
theorem d_MM_tautology_43 : decode b_MM_tautology 43 = .ok (.iconst 0, 1) := by decide +kernel
theorem d_MM_tautology_44 : decode b_MM_tautology 44 = .ok (.istore_n 2, 1) := by decide +kernel
theorem d_MM_tautology_45 : decode b_MM_tautology 45 = .ok (.iload_n 2, 1) := by decide +kernel
theorem d_MM_tautology_46 : decode b_MM_tautology 46 = .ok (.aload_n 0, 1) := by decide +kernel
theorem d_MM_tautology_47 : decode b_MM_tautology 47 = .ok (.getfield 311, 3) := by decide +kernel
theorem d_MM_tautology_50 : decode b_MM_tautology 50 = .ok (.if_icmp .ge 29, 3) := by decide +kernel
theorem d_MM_tautology_53 : decode b_MM_tautology 53 = .ok (.aload_n 0, 1) := by decide +kernel
theorem d_MM_tautology_54 : decode b_MM_tautology 54 = .ok (.getfield 308, 3) := by decide +kernel
theorem d_MM_tautology_57 : decode b_MM_tautology 57 = .ok (.iload_n 2, 1) := by decide +kernel
theorem d_MM_tautology_58 : decode b_MM_tautology 58 = .ok (.baload, 1) := by decide +kernel
theorem d_MM_tautology_59 : decode b_MM_tautology 59 = .ok (.ifCond .ne 14, 3) := by decide +kernel
theorem d_MM_tautology_62 : decode b_MM_tautology 62 = .ok (.aload_n 0, 1) := by decide +kernel
theorem d_MM_tautology_63 : decode b_MM_tautology 63 = .ok (.iload_n 1, 1) := by decide +kernel
theorem d_MM_tautology_64 : decode b_MM_tautology 64 = .ok (.iload_n 2, 1) := by decide +kernel
theorem d_MM_tautology_65 : decode b_MM_tautology 65 = .ok (.invokevirtual 574, 3) := by decide +kernel
theorem d_MM_tautology_68 : decode b_MM_tautology 68 = .ok (.ifCond .eq 5, 3) := by decide +kernel
theorem d_MM_tautology_71 : decode b_MM_tautology 71 = .ok (.iconst 1, 1) := by decide +kernel
theorem d_MM_tautology_72 : decode b_MM_tautology 72 = .ok (.ireturn, 1) := by decide +kernel
theorem d_MM_tautology_73 : decode b_MM_tautology 73 = .ok (.iinc 2 1, 3) := by decide +kernel
theorem d_MM_tautology_76 : decode b_MM_tautology 76 = .ok (.goto (-31), 3) := by decide +kernel
theorem d_MM_tautology_79 : decode b_MM_tautology 79 = .ok (.iinc 1 1, 3) := by decide +kernel
theorem d_MM_tautology_82 : decode b_MM_tautology 82 = .ok (.goto (-80), 3) := by decide +kernel
theorem d_MM_tautology_85 : decode b_MM_tautology 85 = .ok (.iconst 0, 1) := by decide +kernel
theorem d_MM_tautology_86 : decode b_MM_tautology 86 = .ok (.ireturn, 1) := by decide +kernel
abbrev b_MM_keep : ByteArray := prog_14_method_68_code
def y_MM_keep : MethodName := ⟨"ClauseProverModel", "keep", "(III)Z"⟩
theorem d_MM_keep_0 : decode b_MM_keep 0 = .ok (.aload_n 0, 1) := by decide +kernel
theorem d_MM_keep_1 : decode b_MM_keep 1 = .ok (.getfield 269, 3) := by decide +kernel
theorem d_MM_keep_4 : decode b_MM_keep 4 = .ok (.sipush 2000, 3) := by decide +kernel
theorem d_MM_keep_7 : decode b_MM_keep 7 = .ok (.if_icmp .ne 10, 3) := by decide +kernel
theorem d_MM_keep_10 : decode b_MM_keep 10 = .ok (.aload_n 0, 1) := by decide +kernel
theorem d_MM_keep_11 : decode b_MM_keep 11 = .ok (.iconst 3, 1) := by decide +kernel
theorem d_MM_keep_12 : decode b_MM_keep 12 = .ok (.putfield 278, 3) := by decide +kernel
theorem d_MM_keep_15 : decode b_MM_keep 15 = .ok (.iconst 0, 1) := by decide +kernel
theorem d_MM_keep_16 : decode b_MM_keep 16 = .ok (.ireturn, 1) := by decide +kernel
theorem d_MM_keep_17 : decode b_MM_keep 17 = .ok (.aload_n 0, 1) := by decide +kernel
theorem d_MM_keep_18 : decode b_MM_keep 18 = .ok (.getfield 269, 3) := by decide +kernel
theorem d_MM_keep_21 : decode b_MM_keep 21 = .ok (.istore 4, 2) := by decide +kernel
theorem d_MM_keep_23 : decode b_MM_keep 23 = .ok (.aload_n 0, 1) := by decide +kernel
theorem d_MM_keep_24 : decode b_MM_keep 24 = .ok (.getfield 235, 3) := by decide +kernel
theorem d_MM_keep_27 : decode b_MM_keep 27 = .ok (.iload 4, 2) := by decide +kernel
theorem d_MM_keep_29 : decode b_MM_keep 29 = .ok (.aload_n 0, 1) := by decide +kernel
theorem d_MM_keep_30 : decode b_MM_keep 30 = .ok (.getfield 232, 3) := by decide +kernel
theorem d_MM_keep_33 : decode b_MM_keep 33 = .ok (.iastore, 1) := by decide +kernel
theorem d_MM_keep_34 : decode b_MM_keep 34 = .ok (.aload_n 0, 1) := by decide +kernel
theorem d_MM_keep_35 : decode b_MM_keep 35 = .ok (.getfield 238, 3) := by decide +kernel
theorem d_MM_keep_38 : decode b_MM_keep 38 = .ok (.iload 4, 2) := by decide +kernel
theorem d_MM_keep_40 : decode b_MM_keep 40 = .ok (.aload_n 0, 1) := by decide +kernel
theorem d_MM_keep_41 : decode b_MM_keep 41 = .ok (.getfield 311, 3) := by decide +kernel
theorem d_MM_keep_44 : decode b_MM_keep 44 = .ok (.iastore, 1) := by decide +kernel
theorem d_MM_keep_45 : decode b_MM_keep 45 = .ok (.aload_n 0, 1) := by decide +kernel
theorem d_MM_keep_46 : decode b_MM_keep 46 = .ok (.getfield 247, 3) := by decide +kernel
theorem d_MM_keep_49 : decode b_MM_keep 49 = .ok (.iload 4, 2) := by decide +kernel
theorem d_MM_keep_51 : decode b_MM_keep 51 = .ok (.iload_n 1, 1) := by decide +kernel
theorem d_MM_keep_52 : decode b_MM_keep 52 = .ok (.iastore, 1) := by decide +kernel
theorem d_MM_keep_53 : decode b_MM_keep 53 = .ok (.aload_n 0, 1) := by decide +kernel
theorem d_MM_keep_54 : decode b_MM_keep 54 = .ok (.getfield 250, 3) := by decide +kernel
theorem d_MM_keep_57 : decode b_MM_keep 57 = .ok (.iload 4, 2) := by decide +kernel
theorem d_MM_keep_59 : decode b_MM_keep 59 = .ok (.iload_n 2, 1) := by decide +kernel
theorem d_MM_keep_60 : decode b_MM_keep 60 = .ok (.iastore, 1) := by decide +kernel
theorem d_MM_keep_61 : decode b_MM_keep 61 = .ok (.aload_n 0, 1) := by decide +kernel
theorem d_MM_keep_62 : decode b_MM_keep 62 = .ok (.getfield 253, 3) := by decide +kernel
theorem d_MM_keep_65 : decode b_MM_keep 65 = .ok (.iload 4, 2) := by decide +kernel
theorem d_MM_keep_67 : decode b_MM_keep 67 = .ok (.iload_n 3, 1) := by decide +kernel
theorem d_MM_keep_68 : decode b_MM_keep 68 = .ok (.iastore, 1) := by decide +kernel
theorem d_MM_keep_69 : decode b_MM_keep 69 = .ok (.aload_n 0, 1) := by decide +kernel
theorem d_MM_keep_70 : decode b_MM_keep 70 = .ok (.getfield 256, 3) := by decide +kernel
theorem d_MM_keep_73 : decode b_MM_keep 73 = .ok (.iload 4, 2) := by decide +kernel
theorem d_MM_keep_75 : decode b_MM_keep 75 = .ok (.iconst 0, 1) := by decide +kernel
theorem d_MM_keep_76 : decode b_MM_keep 76 = .ok (.iastore, 1) := by decide +kernel
theorem d_MM_keep_77 : decode b_MM_keep 77 = .ok (.aload_n 0, 1) := by decide +kernel
theorem d_MM_keep_78 : decode b_MM_keep 78 = .ok (.getfield 259, 3) := by decide +kernel
theorem d_MM_keep_81 : decode b_MM_keep 81 = .ok (.iload 4, 2) := by decide +kernel
theorem d_MM_keep_83 : decode b_MM_keep 83 = .ok (.aload_n 0, 1) := by decide +kernel
theorem d_MM_keep_84 : decode b_MM_keep 84 = .ok (.getfield 275, 3) := by decide +kernel
theorem d_MM_keep_87 : decode b_MM_keep 87 = .ok (.iastore, 1) := by decide +kernel
theorem d_MM_keep_88 : decode b_MM_keep 88 = .ok (.aload_n 0, 1) := by decide +kernel
theorem d_MM_keep_89 : decode b_MM_keep 89 = .ok (.getfield 262, 3) := by decide +kernel
theorem d_MM_keep_92 : decode b_MM_keep 92 = .ok (.iload 4, 2) := by decide +kernel
theorem d_MM_keep_94 : decode b_MM_keep 94 = .ok (.iconst 0, 1) := by decide +kernel
theorem d_MM_keep_95 : decode b_MM_keep 95 = .ok (.iastore, 1) := by decide +kernel
theorem d_MM_keep_96 : decode b_MM_keep 96 = .ok (.aload_n 0, 1) := by decide +kernel
theorem d_MM_keep_97 : decode b_MM_keep 97 = .ok (.getfield 244, 3) := by decide +kernel
theorem d_MM_keep_100 : decode b_MM_keep 100 = .ok (.iload 4, 2) := by decide +kernel
theorem d_MM_keep_102 : decode b_MM_keep 102 = .ok (.aload_n 0, 1) := by decide +kernel
theorem d_MM_keep_103 : decode b_MM_keep 103 = .ok (.getfield 320, 3) := by decide +kernel
theorem d_MM_keep_106 : decode b_MM_keep 106 = .ok (.iastore, 1) := by decide +kernel
theorem d_MM_keep_107 : decode b_MM_keep 107 = .ok (.aload_n 0, 1) := by decide +kernel
theorem d_MM_keep_108 : decode b_MM_keep 108 = .ok (.getfield 241, 3) := by decide +kernel
theorem d_MM_keep_111 : decode b_MM_keep 111 = .ok (.iload 4, 2) := by decide +kernel
theorem d_MM_keep_113 : decode b_MM_keep 113 = .ok (.iconst 0, 1) := by decide +kernel
theorem d_MM_keep_114 : decode b_MM_keep 114 = .ok (.iastore, 1) := by decide +kernel
theorem d_MM_keep_115 : decode b_MM_keep 115 = .ok (.aload_n 0, 1) := by decide +kernel
theorem d_MM_keep_116 : decode b_MM_keep 116 = .ok (.aload_n 0, 1) := by decide +kernel
theorem d_MM_keep_117 : decode b_MM_keep 117 = .ok (.getfield 332, 3) := by decide +kernel
theorem d_MM_keep_120 : decode b_MM_keep 120 = .ok (.putfield 157, 3) := by decide +kernel
theorem d_MM_keep_123 : decode b_MM_keep 123 = .ok (.iconst 0, 1) := by decide +kernel
theorem d_MM_keep_124 : decode b_MM_keep 124 = .ok (.istore 5, 2) := by decide +kernel
theorem d_MM_keep_126 : decode b_MM_keep 126 = .ok (.iload 5, 2) := by decide +kernel
theorem d_MM_keep_128 : decode b_MM_keep 128 = .ok (.aload_n 0, 1) := by decide +kernel
theorem d_MM_keep_129 : decode b_MM_keep 129 = .ok (.getfield 311, 3) := by decide +kernel
theorem d_MM_keep_132 : decode b_MM_keep 132 = .ok (.if_icmp .ge 125, 3) := by decide +kernel
theorem d_MM_keep_135 : decode b_MM_keep 135 = .ok (.aload_n 0, 1) := by decide +kernel
theorem d_MM_keep_136 : decode b_MM_keep 136 = .ok (.getfield 214, 3) := by decide +kernel
theorem d_MM_keep_139 : decode b_MM_keep 139 = .ok (.aload_n 0, 1) := by decide +kernel
theorem d_MM_keep_140 : decode b_MM_keep 140 = .ok (.getfield 232, 3) := by decide +kernel
theorem d_MM_keep_143 : decode b_MM_keep 143 = .ok (.aload_n 0, 1) := by decide +kernel
theorem d_MM_keep_144 : decode b_MM_keep 144 = .ok (.aload_n 0, 1) := by decide +kernel
theorem d_MM_keep_145 : decode b_MM_keep 145 = .ok (.getfield 302, 3) := by decide +kernel
theorem d_MM_keep_148 : decode b_MM_keep 148 = .ok (.iload 5, 2) := by decide +kernel
theorem d_MM_keep_150 : decode b_MM_keep 150 = .ok (.iaload, 1) := by decide +kernel
theorem d_MM_keep_151 : decode b_MM_keep 151 = .ok (.invokevirtual 519, 3) := by decide +kernel
theorem d_MM_keep_154 : decode b_MM_keep 154 = .ok (.iastore, 1) := by decide +kernel
theorem d_MM_keep_155 : decode b_MM_keep 155 = .ok (.aload_n 0, 1) := by decide +kernel
theorem d_MM_keep_156 : decode b_MM_keep 156 = .ok (.getfield 217, 3) := by decide +kernel
theorem d_MM_keep_159 : decode b_MM_keep 159 = .ok (.aload_n 0, 1) := by decide +kernel
theorem d_MM_keep_160 : decode b_MM_keep 160 = .ok (.getfield 232, 3) := by decide +kernel
theorem d_MM_keep_163 : decode b_MM_keep 163 = .ok (.aload_n 0, 1) := by decide +kernel
theorem d_MM_keep_164 : decode b_MM_keep 164 = .ok (.aload_n 0, 1) := by decide +kernel
theorem d_MM_keep_165 : decode b_MM_keep 165 = .ok (.getfield 305, 3) := by decide +kernel
theorem d_MM_keep_168 : decode b_MM_keep 168 = .ok (.iload 5, 2) := by decide +kernel
theorem d_MM_keep_170 : decode b_MM_keep 170 = .ok (.iaload, 1) := by decide +kernel
theorem d_MM_keep_171 : decode b_MM_keep 171 = .ok (.invokevirtual 519, 3) := by decide +kernel
theorem d_MM_keep_174 : decode b_MM_keep 174 = .ok (.iastore, 1) := by decide +kernel
theorem d_MM_keep_175 : decode b_MM_keep 175 = .ok (.aload_n 0, 1) := by decide +kernel
theorem d_MM_keep_176 : decode b_MM_keep 176 = .ok (.getfield 220, 3) := by decide +kernel
theorem d_MM_keep_179 : decode b_MM_keep 179 = .ok (.aload_n 0, 1) := by decide +kernel
theorem d_MM_keep_180 : decode b_MM_keep 180 = .ok (.getfield 232, 3) := by decide +kernel
theorem d_MM_keep_183 : decode b_MM_keep 183 = .ok (.aload_n 0, 1) := by decide +kernel
theorem d_MM_keep_184 : decode b_MM_keep 184 = .ok (.getfield 308, 3) := by decide +kernel
theorem d_MM_keep_187 : decode b_MM_keep 187 = .ok (.iload 5, 2) := by decide +kernel
theorem d_MM_keep_189 : decode b_MM_keep 189 = .ok (.baload, 1) := by decide +kernel
theorem d_MM_keep_190 : decode b_MM_keep 190 = .ok (.bastore, 1) := by decide +kernel
theorem d_MM_keep_191 : decode b_MM_keep 191 = .ok (.aload_n 0, 1) := by decide +kernel
theorem d_MM_keep_192 : decode b_MM_keep 192 = .ok (.getfield 226, 3) := by decide +kernel
theorem d_MM_keep_195 : decode b_MM_keep 195 = .ok (.aload_n 0, 1) := by decide +kernel
theorem d_MM_keep_196 : decode b_MM_keep 196 = .ok (.getfield 232, 3) := by decide +kernel
theorem d_MM_keep_199 : decode b_MM_keep 199 = .ok (.aload_n 0, 1) := by decide +kernel
theorem d_MM_keep_200 : decode b_MM_keep 200 = .ok (.getfield 154, 3) := by decide +kernel
theorem d_MM_keep_203 : decode b_MM_keep 203 = .ok (.aload_n 0, 1) := by decide +kernel
theorem d_MM_keep_204 : decode b_MM_keep 204 = .ok (.getfield 302, 3) := by decide +kernel
theorem d_MM_keep_207 : decode b_MM_keep 207 = .ok (.iload 5, 2) := by decide +kernel
theorem d_MM_keep_209 : decode b_MM_keep 209 = .ok (.iaload, 1) := by decide +kernel
theorem d_MM_keep_210 : decode b_MM_keep 210 = .ok (.iaload, 1) := by decide +kernel
theorem d_MM_keep_211 : decode b_MM_keep 211 = .ok (.aload_n 0, 1) := by decide +kernel
theorem d_MM_keep_212 : decode b_MM_keep 212 = .ok (.getfield 154, 3) := by decide +kernel
theorem d_MM_keep_215 : decode b_MM_keep 215 = .ok (.aload_n 0, 1) := by decide +kernel
theorem d_MM_keep_216 : decode b_MM_keep 216 = .ok (.getfield 305, 3) := by decide +kernel
theorem d_MM_keep_219 : decode b_MM_keep 219 = .ok (.iload 5, 2) := by decide +kernel
theorem d_MM_keep_221 : decode b_MM_keep 221 = .ok (.iaload, 1) := by decide +kernel
theorem d_MM_keep_222 : decode b_MM_keep 222 = .ok (.iaload, 1) := by decide +kernel
theorem d_MM_keep_223 : decode b_MM_keep 223 = .ok (.iadd, 1) := by decide +kernel
theorem d_MM_keep_224 : decode b_MM_keep 224 = .ok (.iastore, 1) := by decide +kernel
theorem d_MM_keep_225 : decode b_MM_keep 225 = .ok (.aload_n 0, 1) := by decide +kernel
theorem d_MM_keep_226 : decode b_MM_keep 226 = .ok (.getfield 241, 3) := by decide +kernel
theorem d_MM_keep_229 : decode b_MM_keep 229 = .ok (.iload 4, 2) := by decide +kernel
theorem d_MM_keep_231 : decode b_MM_keep 231 = .ok (.dup2, 1) := by decide +kernel
theorem d_MM_keep_232 : decode b_MM_keep 232 = .ok (.iaload, 1) := by decide +kernel
theorem d_MM_keep_233 : decode b_MM_keep 233 = .ok (.aload_n 0, 1) := by decide +kernel
theorem d_MM_keep_234 : decode b_MM_keep 234 = .ok (.getfield 226, 3) := by decide +kernel
theorem d_MM_keep_237 : decode b_MM_keep 237 = .ok (.aload_n 0, 1) := by decide +kernel
theorem d_MM_keep_238 : decode b_MM_keep 238 = .ok (.dup, 1) := by decide +kernel
theorem d_MM_keep_239 : decode b_MM_keep 239 = .ok (.getfield 232, 3) := by decide +kernel
theorem d_MM_keep_242 : decode b_MM_keep 242 = .ok (.dup_x1, 1) := by decide +kernel
theorem d_MM_keep_243 : decode b_MM_keep 243 = .ok (.iconst 1, 1) := by decide +kernel
theorem d_MM_keep_244 : decode b_MM_keep 244 = .ok (.iadd, 1) := by decide +kernel
theorem d_MM_keep_245 : decode b_MM_keep 245 = .ok (.putfield 232, 3) := by decide +kernel
theorem d_MM_keep_248 : decode b_MM_keep 248 = .ok (.iaload, 1) := by decide +kernel
theorem d_MM_keep_249 : decode b_MM_keep 249 = .ok (.iadd, 1) := by decide +kernel
theorem d_MM_keep_250 : decode b_MM_keep 250 = .ok (.iastore, 1) := by decide +kernel
theorem d_MM_keep_251 : decode b_MM_keep 251 = .ok (.iinc 5 1, 3) := by decide +kernel
theorem d_MM_keep_254 : decode b_MM_keep 254 = .ok (.goto (-128), 3) := by decide +kernel
theorem d_MM_keep_257 : decode b_MM_keep 257 = .ok (.aload_n 0, 1) := by decide +kernel
theorem d_MM_keep_258 : decode b_MM_keep 258 = .ok (.aload_n 0, 1) := by decide +kernel
theorem d_MM_keep_259 : decode b_MM_keep 259 = .ok (.getfield 157, 3) := by decide +kernel
theorem d_MM_keep_262 : decode b_MM_keep 262 = .ok (.putfield 332, 3) := by decide +kernel
theorem d_MM_keep_265 : decode b_MM_keep 265 = .ok (.aload_n 0, 1) := by decide +kernel
theorem d_MM_keep_266 : decode b_MM_keep 266 = .ok (.dup, 1) := by decide +kernel
theorem d_MM_keep_267 : decode b_MM_keep 267 = .ok (.getfield 269, 3) := by decide +kernel
theorem d_MM_keep_270 : decode b_MM_keep 270 = .ok (.iconst 1, 1) := by decide +kernel
theorem d_MM_keep_271 : decode b_MM_keep 271 = .ok (.iadd, 1) := by decide +kernel
theorem d_MM_keep_272 : decode b_MM_keep 272 = .ok (.putfield 269, 3) := by decide +kernel
theorem d_MM_keep_275 : decode b_MM_keep 275 = .ok (.aload_n 0, 1) := by decide +kernel
theorem d_MM_keep_276 : decode b_MM_keep 276 = .ok (.iload 4, 2) := by decide +kernel
theorem d_MM_keep_278 : decode b_MM_keep 278 = .ok (.invokevirtual 604, 3) := by decide +kernel
theorem d_MM_keep_281 : decode b_MM_keep 281 = .ok (.iconst 1, 1) := by decide +kernel
theorem d_MM_keep_282 : decode b_MM_keep 282 = .ok (.ireturn, 1) := by decide +kernel
abbrev b_MM_looked : ByteArray := prog_14_method_69_code
def y_MM_looked : MethodName := ⟨"ClauseProverModel", "looked", "(I)V"⟩
theorem d_MM_looked_0 : decode b_MM_looked 0 = .ok (.aload_n 0, 1) := by decide +kernel
theorem d_MM_looked_1 : decode b_MM_looked 1 = .ok (.getfield 235, 3) := by decide +kernel
theorem d_MM_looked_4 : decode b_MM_looked 4 = .ok (.iload_n 1, 1) := by decide +kernel
theorem d_MM_looked_5 : decode b_MM_looked 5 = .ok (.iaload, 1) := by decide +kernel
theorem d_MM_looked_6 : decode b_MM_looked 6 = .ok (.istore_n 2, 1) := by decide +kernel
theorem d_MM_looked_7 : decode b_MM_looked 7 = .ok (.iload_n 2, 1) := by decide +kernel
theorem d_MM_looked_8 : decode b_MM_looked 8 = .ok (.aload_n 0, 1) := by decide +kernel
theorem d_MM_looked_9 : decode b_MM_looked 9 = .ok (.getfield 238, 3) := by decide +kernel
theorem d_MM_looked_12 : decode b_MM_looked 12 = .ok (.iload_n 1, 1) := by decide +kernel
theorem d_MM_looked_13 : decode b_MM_looked 13 = .ok (.iaload, 1) := by decide +kernel
theorem d_MM_looked_14 : decode b_MM_looked 14 = .ok (.iadd, 1) := by decide +kernel
theorem d_MM_looked_15 : decode b_MM_looked 15 = .ok (.istore_n 3, 1) := by decide +kernel
theorem d_MM_looked_16 : decode b_MM_looked 16 = .ok (.iconst (-1), 1) := by decide +kernel
theorem d_MM_looked_17 : decode b_MM_looked 17 = .ok (.istore 4, 2) := by decide +kernel
theorem d_MM_looked_19 : decode b_MM_looked 19 = .ok (.iload_n 2, 1) := by decide +kernel
theorem d_MM_looked_20 : decode b_MM_looked 20 = .ok (.istore 5, 2) := by decide +kernel
theorem d_MM_looked_22 : decode b_MM_looked 22 = .ok (.iload 5, 2) := by decide +kernel
theorem d_MM_looked_24 : decode b_MM_looked 24 = .ok (.iload_n 3, 1) := by decide +kernel
theorem d_MM_looked_25 : decode b_MM_looked 25 = .ok (.if_icmp .ge 103, 3) := by decide +kernel
theorem d_MM_looked_28 : decode b_MM_looked 28 = .ok (.aload_n 0, 1) := by decide +kernel
theorem d_MM_looked_29 : decode b_MM_looked 29 = .ok (.getfield 223, 3) := by decide +kernel
theorem d_MM_looked_32 : decode b_MM_looked 32 = .ok (.iload 5, 2) := by decide +kernel
theorem d_MM_looked_34 : decode b_MM_looked 34 = .ok (.aload_n 0, 1) := by decide +kernel
theorem d_MM_looked_35 : decode b_MM_looked 35 = .ok (.aload_n 0, 1) := by decide +kernel
theorem d_MM_looked_36 : decode b_MM_looked 36 = .ok (.getfield 214, 3) := by decide +kernel
theorem d_MM_looked_39 : decode b_MM_looked 39 = .ok (.iload 5, 2) := by decide +kernel
theorem d_MM_looked_41 : decode b_MM_looked 41 = .ok (.iaload, 1) := by decide +kernel
theorem d_MM_looked_42 : decode b_MM_looked 42 = .ok (.aload_n 0, 1) := by decide +kernel
theorem d_MM_looked_43 : decode b_MM_looked 43 = .ok (.getfield 217, 3) := by decide +kernel
theorem d_MM_looked_46 : decode b_MM_looked 46 = .ok (.iload 5, 2) := by decide +kernel
theorem d_MM_looked_48 : decode b_MM_looked 48 = .ok (.iaload, 1) := by decide +kernel
theorem d_MM_looked_49 : decode b_MM_looked 49 = .ok (.invokevirtual 597, 3) := by decide +kernel
theorem d_MM_looked_52 : decode b_MM_looked 52 = .ok (.ifCond .eq 7, 3) := by decide +kernel
theorem d_MM_looked_55 : decode b_MM_looked 55 = .ok (.iconst 1, 1) := by decide +kernel
theorem d_MM_looked_56 : decode b_MM_looked 56 = .ok (.goto 29, 3) := by decide +kernel
theorem d_MM_looked_59 : decode b_MM_looked 59 = .ok (.aload_n 0, 1) := by decide +kernel
theorem d_MM_looked_60 : decode b_MM_looked 60 = .ok (.aload_n 0, 1) := by decide +kernel
theorem d_MM_looked_61 : decode b_MM_looked 61 = .ok (.getfield 217, 3) := by decide +kernel
theorem d_MM_looked_64 : decode b_MM_looked 64 = .ok (.iload 5, 2) := by decide +kernel
theorem d_MM_looked_66 : decode b_MM_looked 66 = .ok (.iaload, 1) := by decide +kernel
theorem d_MM_looked_67 : decode b_MM_looked 67 = .ok (.aload_n 0, 1) := by decide +kernel
theorem d_MM_looked_68 : decode b_MM_looked 68 = .ok (.getfield 214, 3) := by decide +kernel
theorem d_MM_looked_71 : decode b_MM_looked 71 = .ok (.iload 5, 2) := by decide +kernel
theorem d_MM_looked_73 : decode b_MM_looked 73 = .ok (.iaload, 1) := by decide +kernel
theorem d_MM_looked_74 : decode b_MM_looked 74 = .ok (.invokevirtual 597, 3) := by decide +kernel
theorem d_MM_looked_77 : decode b_MM_looked 77 = .ok (.ifCond .eq 7, 3) := by decide +kernel
theorem d_MM_looked_80 : decode b_MM_looked 80 = .ok (.iconst 2, 1) := by decide +kernel
theorem d_MM_looked_81 : decode b_MM_looked 81 = .ok (.goto 4, 3) := by decide +kernel
theorem d_MM_looked_84 : decode b_MM_looked 84 = .ok (.iconst 0, 1) := by decide +kernel
theorem d_MM_looked_85 : decode b_MM_looked 85 = .ok (.iastore, 1) := by decide +kernel
theorem d_MM_looked_86 : decode b_MM_looked 86 = .ok (.aload_n 0, 1) := by decide +kernel
theorem d_MM_looked_87 : decode b_MM_looked 87 = .ok (.getfield 220, 3) := by decide +kernel
theorem d_MM_looked_90 : decode b_MM_looked 90 = .ok (.iload 5, 2) := by decide +kernel
theorem d_MM_looked_92 : decode b_MM_looked 92 = .ok (.baload, 1) := by decide +kernel
theorem d_MM_looked_93 : decode b_MM_looked 93 = .ok (.ifCond .ne 29, 3) := by decide +kernel
theorem d_MM_looked_96 : decode b_MM_looked 96 = .ok (.iload 4, 2) := by decide +kernel
theorem d_MM_looked_98 : decode b_MM_looked 98 = .ok (.ifCond .lt 20, 3) := by decide +kernel
theorem d_MM_looked_101 : decode b_MM_looked 101 = .ok (.aload_n 0, 1) := by decide +kernel
theorem d_MM_looked_102 : decode b_MM_looked 102 = .ok (.getfield 226, 3) := by decide +kernel
theorem d_MM_looked_105 : decode b_MM_looked 105 = .ok (.iload 5, 2) := by decide +kernel
theorem d_MM_looked_107 : decode b_MM_looked 107 = .ok (.iaload, 1) := by decide +kernel
theorem d_MM_looked_108 : decode b_MM_looked 108 = .ok (.aload_n 0, 1) := by decide +kernel
theorem d_MM_looked_109 : decode b_MM_looked 109 = .ok (.getfield 226, 3) := by decide +kernel
theorem d_MM_looked_112 : decode b_MM_looked 112 = .ok (.iload 4, 2) := by decide +kernel
theorem d_MM_looked_114 : decode b_MM_looked 114 = .ok (.iaload, 1) := by decide +kernel
theorem d_MM_looked_115 : decode b_MM_looked 115 = .ok (.if_icmp .le 7, 3) := by decide +kernel
theorem d_MM_looked_118 : decode b_MM_looked 118 = .ok (.iload 5, 2) := by decide +kernel
theorem d_MM_looked_120 : decode b_MM_looked 120 = .ok (.istore 4, 2) := by decide +kernel
theorem d_MM_looked_122 : decode b_MM_looked 122 = .ok (.iinc 5 1, 3) := by decide +kernel
theorem d_MM_looked_125 : decode b_MM_looked 125 = .ok (.goto (-103), 3) := by decide +kernel
theorem d_MM_looked_128 : decode b_MM_looked 128 = .ok (.iload_n 2, 1) := by decide +kernel
theorem d_MM_looked_129 : decode b_MM_looked 129 = .ok (.istore 5, 2) := by decide +kernel
theorem d_MM_looked_131 : decode b_MM_looked 131 = .ok (.iload 5, 2) := by decide +kernel
theorem d_MM_looked_133 : decode b_MM_looked 133 = .ok (.iload_n 3, 1) := by decide +kernel
theorem d_MM_looked_134 : decode b_MM_looked 134 = .ok (.if_icmp .ge 79, 3) := by decide +kernel
theorem d_MM_looked_137 : decode b_MM_looked 137 = .ok (.aload_n 0, 1) := by decide +kernel
theorem d_MM_looked_138 : decode b_MM_looked 138 = .ok (.getfield 229, 3) := by decide +kernel
theorem d_MM_looked_141 : decode b_MM_looked 141 = .ok (.iload 5, 2) := by decide +kernel
theorem d_MM_looked_143 : decode b_MM_looked 143 = .ok (.iload 4, 2) := by decide +kernel
theorem d_MM_looked_145 : decode b_MM_looked 145 = .ok (.ifCond .lt 10, 3) := by decide +kernel
theorem d_MM_looked_148 : decode b_MM_looked 148 = .ok (.iload 4, 2) := by decide +kernel
theorem d_MM_looked_150 : decode b_MM_looked 150 = .ok (.iload 5, 2) := by decide +kernel
theorem d_MM_looked_152 : decode b_MM_looked 152 = .ok (.if_icmp .ne 7, 3) := by decide +kernel
theorem d_MM_looked_155 : decode b_MM_looked 155 = .ok (.iconst 1, 1) := by decide +kernel
theorem d_MM_looked_156 : decode b_MM_looked 156 = .ok (.goto 4, 3) := by decide +kernel
theorem d_MM_looked_159 : decode b_MM_looked 159 = .ok (.iconst 0, 1) := by decide +kernel
theorem d_MM_looked_160 : decode b_MM_looked 160 = .ok (.bastore, 1) := by decide +kernel
theorem d_MM_looked_161 : decode b_MM_looked 161 = .ok (.iload_n 2, 1) := by decide +kernel
theorem d_MM_looked_162 : decode b_MM_looked 162 = .ok (.istore 6, 2) := by decide +kernel
theorem d_MM_looked_164 : decode b_MM_looked 164 = .ok (.iload 6, 2) := by decide +kernel
theorem d_MM_looked_166 : decode b_MM_looked 166 = .ok (.iload_n 3, 1) := by decide +kernel
theorem d_MM_looked_167 : decode b_MM_looked 167 = .ok (.if_icmp .ge 40, 3) := by decide +kernel
theorem d_MM_looked_170 : decode b_MM_looked 170 = .ok (.iload 4, 2) := by decide +kernel
theorem d_MM_looked_172 : decode b_MM_looked 172 = .ok (.ifCond .ge 35, 3) := by decide +kernel
theorem d_MM_looked_175 : decode b_MM_looked 175 = .ok (.iload 6, 2) := by decide +kernel
theorem d_MM_looked_177 : decode b_MM_looked 177 = .ok (.iload 5, 2) := by decide +kernel
theorem d_MM_looked_179 : decode b_MM_looked 179 = .ok (.if_icmp .eq 22, 3) := by decide +kernel
theorem d_MM_looked_182 : decode b_MM_looked 182 = .ok (.aload_n 0, 1) := by decide +kernel
theorem d_MM_looked_183 : decode b_MM_looked 183 = .ok (.iload 6, 2) := by decide +kernel
theorem d_MM_looked_185 : decode b_MM_looked 185 = .ok (.iload 5, 2) := by decide +kernel
theorem d_MM_looked_187 : decode b_MM_looked 187 = .ok (.invokevirtual 607, 3) := by decide +kernel
theorem d_MM_looked_190 : decode b_MM_looked 190 = .ok (.ifCond .eq 11, 3) := by decide +kernel
theorem d_MM_looked_193 : decode b_MM_looked 193 = .ok (.aload_n 0, 1) := by decide +kernel
theorem d_MM_looked_194 : decode b_MM_looked 194 = .ok (.getfield 229, 3) := by decide +kernel
theorem d_MM_looked_197 : decode b_MM_looked 197 = .ok (.iload 5, 2) := by decide +kernel
theorem d_MM_looked_199 : decode b_MM_looked 199 = .ok (.iconst 0, 1) := by decide +kernel
theorem d_MM_looked_200 : decode b_MM_looked 200 = .ok (.bastore, 1) := by decide +kernel
theorem d_MM_looked_201 : decode b_MM_looked 201 = .ok (.iinc 6 1, 3) := by decide +kernel
theorem d_MM_looked_204 : decode b_MM_looked 204 = .ok (.goto (-40), 3) := by decide +kernel
theorem d_MM_looked_207 : decode b_MM_looked 207 = .ok (.iinc 5 1, 3) := by decide +kernel
theorem d_MM_looked_210 : decode b_MM_looked 210 = .ok (.goto (-79), 3) := by decide +kernel
theorem d_MM_looked_213 : decode b_MM_looked 213 = .ok (.return_, 1) := by decide +kernel
abbrev b_MM_greater : ByteArray := prog_14_method_64_code
def y_MM_greater : MethodName := ⟨"ClauseProverModel", "greater", "(II)Z"⟩
theorem d_MM_greater_0 : decode b_MM_greater 0 = .ok (.aload_n 0, 1) := by decide +kernel
theorem d_MM_greater_1 : decode b_MM_greater 1 = .ok (.getfield 145, 3) := by decide +kernel
theorem d_MM_greater_4 : decode b_MM_greater 4 = .ok (.iload_n 1, 1) := by decide +kernel
theorem d_MM_greater_5 : decode b_MM_greater 5 = .ok (.iaload, 1) := by decide +kernel
theorem d_MM_greater_6 : decode b_MM_greater 6 = .ok (.ifCond .ge 5, 3) := by decide +kernel
theorem d_MM_greater_9 : decode b_MM_greater 9 = .ok (.iconst 0, 1) := by decide +kernel
theorem d_MM_greater_10 : decode b_MM_greater 10 = .ok (.ireturn, 1) := by decide +kernel
theorem d_MM_greater_11 : decode b_MM_greater 11 = .ok (.aload_n 0, 1) := by decide +kernel
theorem d_MM_greater_12 : decode b_MM_greater 12 = .ok (.getfield 323, 3) := by decide +kernel
theorem d_MM_greater_15 : decode b_MM_greater 15 = .ok (.iconst 0, 1) := by decide +kernel
theorem d_MM_greater_16 : decode b_MM_greater 16 = .ok (.invokestatic 588, 3) := by decide +kernel
theorem d_MM_greater_19 : decode b_MM_greater 19 = .ok (.aload_n 0, 1) := by decide +kernel
theorem d_MM_greater_20 : decode b_MM_greater 20 = .ok (.iload_n 1, 1) := by decide +kernel
theorem d_MM_greater_21 : decode b_MM_greater 21 = .ok (.iconst 1, 1) := by decide +kernel
theorem d_MM_greater_22 : decode b_MM_greater 22 = .ok (.invokevirtual 586, 3) := by decide +kernel
theorem d_MM_greater_25 : decode b_MM_greater 25 = .ok (.aload_n 0, 1) := by decide +kernel
theorem d_MM_greater_26 : decode b_MM_greater 26 = .ok (.iload_n 2, 1) := by decide +kernel
theorem d_MM_greater_27 : decode b_MM_greater 27 = .ok (.iconst (-1), 1) := by decide +kernel
theorem d_MM_greater_28 : decode b_MM_greater 28 = .ok (.invokevirtual 586, 3) := by decide +kernel
theorem d_MM_greater_31 : decode b_MM_greater 31 = .ok (.iconst 0, 1) := by decide +kernel
theorem d_MM_greater_32 : decode b_MM_greater 32 = .ok (.istore_n 3, 1) := by decide +kernel
theorem d_MM_greater_33 : decode b_MM_greater 33 = .ok (.iload_n 3, 1) := by decide +kernel
theorem d_MM_greater_34 : decode b_MM_greater 34 = .ok (.bipush 8, 2) := by decide +kernel
theorem d_MM_greater_36 : decode b_MM_greater 36 = .ok (.if_icmp .ge 20, 3) := by decide +kernel
theorem d_MM_greater_39 : decode b_MM_greater 39 = .ok (.aload_n 0, 1) := by decide +kernel
theorem d_MM_greater_40 : decode b_MM_greater 40 = .ok (.getfield 323, 3) := by decide +kernel
theorem d_MM_greater_43 : decode b_MM_greater 43 = .ok (.iload_n 3, 1) := by decide +kernel
theorem d_MM_greater_44 : decode b_MM_greater 44 = .ok (.iaload, 1) := by decide +kernel
theorem d_MM_greater_45 : decode b_MM_greater 45 = .ok (.ifCond .ge 5, 3) := by decide +kernel
theorem d_MM_greater_48 : decode b_MM_greater 48 = .ok (.iconst 0, 1) := by decide +kernel
theorem d_MM_greater_49 : decode b_MM_greater 49 = .ok (.ireturn, 1) := by decide +kernel
theorem d_MM_greater_50 : decode b_MM_greater 50 = .ok (.iinc 3 1, 3) := by decide +kernel
theorem d_MM_greater_53 : decode b_MM_greater 53 = .ok (.goto (-20), 3) := by decide +kernel
theorem d_MM_greater_56 : decode b_MM_greater 56 = .ok (.aload_n 0, 1) := by decide +kernel
theorem d_MM_greater_57 : decode b_MM_greater 57 = .ok (.iload_n 1, 1) := by decide +kernel
theorem d_MM_greater_58 : decode b_MM_greater 58 = .ok (.iload_n 2, 1) := by decide +kernel
theorem d_MM_greater_59 : decode b_MM_greater 59 = .ok (.invokevirtual 594, 3) := by decide +kernel
theorem d_MM_greater_62 : decode b_MM_greater 62 = .ok (.ireturn, 1) := by decide +kernel
abbrev b_MM_times : ByteArray := prog_14_method_63_code
def y_MM_times : MethodName := ⟨"ClauseProverModel", "times", "(II)V"⟩
theorem d_MM_times_0 : decode b_MM_times 0 = .ok (.aload_n 0, 1) := by decide +kernel
theorem d_MM_times_1 : decode b_MM_times 1 = .ok (.getfield 145, 3) := by decide +kernel
theorem d_MM_times_4 : decode b_MM_times 4 = .ok (.iload_n 1, 1) := by decide +kernel
theorem d_MM_times_5 : decode b_MM_times 5 = .ok (.iaload, 1) := by decide +kernel
theorem d_MM_times_6 : decode b_MM_times 6 = .ok (.ifCond .ge 21, 3) := by decide +kernel
theorem d_MM_times_9 : decode b_MM_times 9 = .ok (.aload_n 0, 1) := by decide +kernel
theorem d_MM_times_10 : decode b_MM_times 10 = .ok (.getfield 323, 3) := by decide +kernel
theorem d_MM_times_13 : decode b_MM_times 13 = .ok (.iconst (-1), 1) := by decide +kernel
theorem d_MM_times_14 : decode b_MM_times 14 = .ok (.aload_n 0, 1) := by decide +kernel
theorem d_MM_times_15 : decode b_MM_times 15 = .ok (.getfield 145, 3) := by decide +kernel
theorem d_MM_times_18 : decode b_MM_times 18 = .ok (.iload_n 1, 1) := by decide +kernel
theorem d_MM_times_19 : decode b_MM_times 19 = .ok (.iaload, 1) := by decide +kernel
theorem d_MM_times_20 : decode b_MM_times 20 = .ok (.isub, 1) := by decide +kernel
theorem d_MM_times_21 : decode b_MM_times 21 = .ok (.dup2, 1) := by decide +kernel
theorem d_MM_times_22 : decode b_MM_times 22 = .ok (.iaload, 1) := by decide +kernel
theorem d_MM_times_23 : decode b_MM_times 23 = .ok (.iload_n 2, 1) := by decide +kernel
theorem d_MM_times_24 : decode b_MM_times 24 = .ok (.iadd, 1) := by decide +kernel
theorem d_MM_times_25 : decode b_MM_times 25 = .ok (.iastore, 1) := by decide +kernel
theorem d_MM_times_26 : decode b_MM_times 26 = .ok (.return_, 1) := by decide +kernel
theorem d_MM_times_27 : decode b_MM_times 27 = .ok (.aload_n 0, 1) := by decide +kernel
theorem d_MM_times_28 : decode b_MM_times 28 = .ok (.getfield 148, 3) := by decide +kernel
theorem d_MM_times_31 : decode b_MM_times 31 = .ok (.iload_n 1, 1) := by decide +kernel
theorem d_MM_times_32 : decode b_MM_times 32 = .ok (.iaload, 1) := by decide +kernel
theorem d_MM_times_33 : decode b_MM_times 33 = .ok (.istore_n 3, 1) := by decide +kernel
theorem d_MM_times_34 : decode b_MM_times 34 = .ok (.iload_n 3, 1) := by decide +kernel
theorem d_MM_times_35 : decode b_MM_times 35 = .ok (.ifCond .lt 19, 3) := by decide +kernel
theorem d_MM_times_38 : decode b_MM_times 38 = .ok (.aload_n 0, 1) := by decide +kernel
theorem d_MM_times_39 : decode b_MM_times 39 = .ok (.iload_n 3, 1) := by decide +kernel
theorem d_MM_times_40 : decode b_MM_times 40 = .ok (.iload_n 2, 1) := by decide +kernel
theorem d_MM_times_41 : decode b_MM_times 41 = .ok (.invokevirtual 586, 3) := by decide +kernel
theorem d_MM_times_44 : decode b_MM_times 44 = .ok (.aload_n 0, 1) := by decide +kernel
theorem d_MM_times_45 : decode b_MM_times 45 = .ok (.getfield 151, 3) := by decide +kernel
theorem d_MM_times_48 : decode b_MM_times 48 = .ok (.iload_n 3, 1) := by decide +kernel
theorem d_MM_times_49 : decode b_MM_times 49 = .ok (.iaload, 1) := by decide +kernel
theorem d_MM_times_50 : decode b_MM_times 50 = .ok (.istore_n 3, 1) := by decide +kernel
theorem d_MM_times_51 : decode b_MM_times 51 = .ok (.goto (-17), 3) := by decide +kernel
theorem d_MM_times_54 : decode b_MM_times 54 = .ok (.return_, 1) := by decide +kernel
abbrev b_MM_above : ByteArray := prog_14_method_65_code
def y_MM_above : MethodName := ⟨"ClauseProverModel", "above", "(II)Z"⟩
theorem d_MM_above_0 : decode b_MM_above 0 = .ok (.aload_n 0, 1) := by decide +kernel
theorem d_MM_above_1 : decode b_MM_above 1 = .ok (.getfield 154, 3) := by decide +kernel
theorem d_MM_above_4 : decode b_MM_above 4 = .ok (.iload_n 1, 1) := by decide +kernel
theorem d_MM_above_5 : decode b_MM_above 5 = .ok (.iaload, 1) := by decide +kernel
theorem d_MM_above_6 : decode b_MM_above 6 = .ok (.aload_n 0, 1) := by decide +kernel
theorem d_MM_above_7 : decode b_MM_above 7 = .ok (.getfield 154, 3) := by decide +kernel
theorem d_MM_above_10 : decode b_MM_above 10 = .ok (.iload_n 2, 1) := by decide +kernel
theorem d_MM_above_11 : decode b_MM_above 11 = .ok (.iaload, 1) := by decide +kernel
theorem d_MM_above_12 : decode b_MM_above 12 = .ok (.if_icmp .eq 24, 3) := by decide +kernel
theorem d_MM_above_15 : decode b_MM_above 15 = .ok (.aload_n 0, 1) := by decide +kernel
theorem d_MM_above_16 : decode b_MM_above 16 = .ok (.getfield 154, 3) := by decide +kernel
theorem d_MM_above_19 : decode b_MM_above 19 = .ok (.iload_n 1, 1) := by decide +kernel
theorem d_MM_above_20 : decode b_MM_above 20 = .ok (.iaload, 1) := by decide +kernel
theorem d_MM_above_21 : decode b_MM_above 21 = .ok (.aload_n 0, 1) := by decide +kernel
theorem d_MM_above_22 : decode b_MM_above 22 = .ok (.getfield 154, 3) := by decide +kernel
theorem d_MM_above_25 : decode b_MM_above 25 = .ok (.iload_n 2, 1) := by decide +kernel
theorem d_MM_above_26 : decode b_MM_above 26 = .ok (.iaload, 1) := by decide +kernel
theorem d_MM_above_27 : decode b_MM_above 27 = .ok (.if_icmp .le 7, 3) := by decide +kernel
theorem d_MM_above_30 : decode b_MM_above 30 = .ok (.iconst 1, 1) := by decide +kernel
theorem d_MM_above_31 : decode b_MM_above 31 = .ok (.goto 4, 3) := by decide +kernel
theorem d_MM_above_34 : decode b_MM_above 34 = .ok (.iconst 0, 1) := by decide +kernel
theorem d_MM_above_35 : decode b_MM_above 35 = .ok (.ireturn, 1) := by decide +kernel
theorem d_MM_above_36 : decode b_MM_above 36 = .ok (.aload_n 0, 1) := by decide +kernel
theorem d_MM_above_37 : decode b_MM_above 37 = .ok (.getfield 145, 3) := by decide +kernel
theorem d_MM_above_40 : decode b_MM_above 40 = .ok (.iload_n 2, 1) := by decide +kernel
theorem d_MM_above_41 : decode b_MM_above 41 = .ok (.iaload, 1) := by decide +kernel
theorem d_MM_above_42 : decode b_MM_above 42 = .ok (.ifCond .ge 5, 3) := by decide +kernel
theorem d_MM_above_45 : decode b_MM_above 45 = .ok (.iconst 0, 1) := by decide +kernel
theorem d_MM_above_46 : decode b_MM_above 46 = .ok (.ireturn, 1) := by decide +kernel
theorem d_MM_above_47 : decode b_MM_above 47 = .ok (.aload_n 0, 1) := by decide +kernel
theorem d_MM_above_48 : decode b_MM_above 48 = .ok (.getfield 145, 3) := by decide +kernel
theorem d_MM_above_51 : decode b_MM_above 51 = .ok (.iload_n 1, 1) := by decide +kernel
theorem d_MM_above_52 : decode b_MM_above 52 = .ok (.iaload, 1) := by decide +kernel
theorem d_MM_above_53 : decode b_MM_above 53 = .ok (.aload_n 0, 1) := by decide +kernel
theorem d_MM_above_54 : decode b_MM_above 54 = .ok (.getfield 145, 3) := by decide +kernel
theorem d_MM_above_57 : decode b_MM_above 57 = .ok (.iload_n 2, 1) := by decide +kernel
theorem d_MM_above_58 : decode b_MM_above 58 = .ok (.iaload, 1) := by decide +kernel
theorem d_MM_above_59 : decode b_MM_above 59 = .ok (.if_icmp .eq 24, 3) := by decide +kernel
theorem d_MM_above_62 : decode b_MM_above 62 = .ok (.aload_n 0, 1) := by decide +kernel
theorem d_MM_above_63 : decode b_MM_above 63 = .ok (.getfield 145, 3) := by decide +kernel
theorem d_MM_above_66 : decode b_MM_above 66 = .ok (.iload_n 1, 1) := by decide +kernel
theorem d_MM_above_67 : decode b_MM_above 67 = .ok (.iaload, 1) := by decide +kernel
theorem d_MM_above_68 : decode b_MM_above 68 = .ok (.aload_n 0, 1) := by decide +kernel
theorem d_MM_above_69 : decode b_MM_above 69 = .ok (.getfield 145, 3) := by decide +kernel
theorem d_MM_above_72 : decode b_MM_above 72 = .ok (.iload_n 2, 1) := by decide +kernel
theorem d_MM_above_73 : decode b_MM_above 73 = .ok (.iaload, 1) := by decide +kernel
theorem d_MM_above_74 : decode b_MM_above 74 = .ok (.if_icmp .le 7, 3) := by decide +kernel
theorem d_MM_above_77 : decode b_MM_above 77 = .ok (.iconst 1, 1) := by decide +kernel
theorem d_MM_above_78 : decode b_MM_above 78 = .ok (.goto 4, 3) := by decide +kernel
theorem d_MM_above_81 : decode b_MM_above 81 = .ok (.iconst 0, 1) := by decide +kernel
theorem d_MM_above_82 : decode b_MM_above 82 = .ok (.ireturn, 1) := by decide +kernel
theorem d_MM_above_83 : decode b_MM_above 83 = .ok (.aload_n 0, 1) := by decide +kernel
theorem d_MM_above_84 : decode b_MM_above 84 = .ok (.getfield 148, 3) := by decide +kernel
theorem d_MM_above_87 : decode b_MM_above 87 = .ok (.iload_n 2, 1) := by decide +kernel
theorem d_MM_above_88 : decode b_MM_above 88 = .ok (.iaload, 1) := by decide +kernel
theorem d_MM_above_89 : decode b_MM_above 89 = .ok (.istore_n 3, 1) := by decide +kernel
theorem d_MM_above_90 : decode b_MM_above 90 = .ok (.aload_n 0, 1) := by decide +kernel
theorem d_MM_above_91 : decode b_MM_above 91 = .ok (.getfield 148, 3) := by decide +kernel
theorem d_MM_above_94 : decode b_MM_above 94 = .ok (.iload_n 1, 1) := by decide +kernel
theorem d_MM_above_95 : decode b_MM_above 95 = .ok (.iaload, 1) := by decide +kernel
theorem d_MM_above_96 : decode b_MM_above 96 = .ok (.istore 4, 2) := by decide +kernel
theorem d_MM_above_98 : decode b_MM_above 98 = .ok (.iload 4, 2) := by decide +kernel
theorem d_MM_above_100 : decode b_MM_above 100 = .ok (.ifCond .lt 40, 3) := by decide +kernel
theorem d_MM_above_103 : decode b_MM_above 103 = .ok (.aload_n 0, 1) := by decide +kernel
theorem d_MM_above_104 : decode b_MM_above 104 = .ok (.iload 4, 2) := by decide +kernel
theorem d_MM_above_106 : decode b_MM_above 106 = .ok (.iload_n 3, 1) := by decide +kernel
theorem d_MM_above_107 : decode b_MM_above 107 = .ok (.invokevirtual 513, 3) := by decide +kernel
theorem d_MM_above_110 : decode b_MM_above 110 = .ok (.ifCond .ne 11, 3) := by decide +kernel
theorem d_MM_above_113 : decode b_MM_above 113 = .ok (.aload_n 0, 1) := by decide +kernel
theorem d_MM_above_114 : decode b_MM_above 114 = .ok (.iload 4, 2) := by decide +kernel
theorem d_MM_above_116 : decode b_MM_above 116 = .ok (.iload_n 3, 1) := by decide +kernel
theorem d_MM_above_117 : decode b_MM_above 117 = .ok (.invokevirtual 597, 3) := by decide +kernel
theorem d_MM_above_120 : decode b_MM_above 120 = .ok (.ireturn, 1) := by decide +kernel
theorem d_MM_above_121 : decode b_MM_above 121 = .ok (.aload_n 0, 1) := by decide +kernel
theorem d_MM_above_122 : decode b_MM_above 122 = .ok (.getfield 151, 3) := by decide +kernel
theorem d_MM_above_125 : decode b_MM_above 125 = .ok (.iload_n 3, 1) := by decide +kernel
theorem d_MM_above_126 : decode b_MM_above 126 = .ok (.iaload, 1) := by decide +kernel
theorem d_MM_above_127 : decode b_MM_above 127 = .ok (.istore_n 3, 1) := by decide +kernel
theorem d_MM_above_128 : decode b_MM_above 128 = .ok (.aload_n 0, 1) := by decide +kernel
theorem d_MM_above_129 : decode b_MM_above 129 = .ok (.getfield 151, 3) := by decide +kernel
theorem d_MM_above_132 : decode b_MM_above 132 = .ok (.iload 4, 2) := by decide +kernel
theorem d_MM_above_134 : decode b_MM_above 134 = .ok (.iaload, 1) := by decide +kernel
theorem d_MM_above_135 : decode b_MM_above 135 = .ok (.istore 4, 2) := by decide +kernel
theorem d_MM_above_137 : decode b_MM_above 137 = .ok (.goto (-39), 3) := by decide +kernel
theorem d_MM_above_140 : decode b_MM_above 140 = .ok (.iconst 0, 1) := by decide +kernel
theorem d_MM_above_141 : decode b_MM_above 141 = .ok (.ireturn, 1) := by decide +kernel
abbrev b_MM_greaterLiteral : ByteArray := prog_14_method_67_code
def y_MM_greaterLiteral : MethodName := ⟨"ClauseProverModel", "greaterLiteral", "(II)Z"⟩
theorem d_MM_greaterLiteral_0 : decode b_MM_greaterLiteral 0 = .ok (.aload_n 0, 1) := by decide +kernel
theorem d_MM_greaterLiteral_1 : decode b_MM_greaterLiteral 1 = .ok (.iload_n 1, 1) := by decide +kernel
theorem d_MM_greaterLiteral_2 : decode b_MM_greaterLiteral 2 = .ok (.aload_n 0, 1) := by decide +kernel
theorem d_MM_greaterLiteral_3 : decode b_MM_greaterLiteral 3 = .ok (.getfield 326, 3) := by decide +kernel
theorem d_MM_greaterLiteral_6 : decode b_MM_greaterLiteral 6 = .ok (.invokevirtual 600, 3) := by decide +kernel
theorem d_MM_greaterLiteral_9 : decode b_MM_greaterLiteral 9 = .ok (.istore_n 3, 1) := by decide +kernel
theorem d_MM_greaterLiteral_10 : decode b_MM_greaterLiteral 10 = .ok (.aload_n 0, 1) := by decide +kernel
theorem d_MM_greaterLiteral_11 : decode b_MM_greaterLiteral 11 = .ok (.iload_n 2, 1) := by decide +kernel
theorem d_MM_greaterLiteral_12 : decode b_MM_greaterLiteral 12 = .ok (.aload_n 0, 1) := by decide +kernel
theorem d_MM_greaterLiteral_13 : decode b_MM_greaterLiteral 13 = .ok (.getfield 329, 3) := by decide +kernel
theorem d_MM_greaterLiteral_16 : decode b_MM_greaterLiteral 16 = .ok (.invokevirtual 600, 3) := by decide +kernel
theorem d_MM_greaterLiteral_19 : decode b_MM_greaterLiteral 19 = .ok (.istore 4, 2) := by decide +kernel
theorem d_MM_greaterLiteral_21 : decode b_MM_greaterLiteral 21 = .ok (.iconst 0, 1) := by decide +kernel
theorem d_MM_greaterLiteral_22 : decode b_MM_greaterLiteral 22 = .ok (.istore 5, 2) := by decide +kernel
theorem d_MM_greaterLiteral_24 : decode b_MM_greaterLiteral 24 = .ok (.iload 5, 2) := by decide +kernel
theorem d_MM_greaterLiteral_26 : decode b_MM_greaterLiteral 26 = .ok (.iload_n 3, 1) := by decide +kernel
theorem d_MM_greaterLiteral_27 : decode b_MM_greaterLiteral 27 = .ok (.if_icmp .ge 85, 3) := by decide +kernel
theorem d_MM_greaterLiteral_30 : decode b_MM_greaterLiteral 30 = .ok (.iconst 0, 1) := by decide +kernel
theorem d_MM_greaterLiteral_31 : decode b_MM_greaterLiteral 31 = .ok (.istore 6, 2) := by decide +kernel
theorem d_MM_greaterLiteral_33 : decode b_MM_greaterLiteral 33 = .ok (.iload 6, 2) := by decide +kernel
theorem d_MM_greaterLiteral_35 : decode b_MM_greaterLiteral 35 = .ok (.iload 4, 2) := by decide +kernel
theorem d_MM_greaterLiteral_37 : decode b_MM_greaterLiteral 37 = .ok (.if_icmp .ge 69, 3) := by decide +kernel
theorem d_MM_greaterLiteral_40 : decode b_MM_greaterLiteral 40 = .ok (.aload_n 0, 1) := by decide +kernel
theorem d_MM_greaterLiteral_41 : decode b_MM_greaterLiteral 41 = .ok (.getfield 326, 3) := by decide +kernel
theorem d_MM_greaterLiteral_44 : decode b_MM_greaterLiteral 44 = .ok (.iload 5, 2) := by decide +kernel
theorem d_MM_greaterLiteral_46 : decode b_MM_greaterLiteral 46 = .ok (.iaload, 1) := by decide +kernel
theorem d_MM_greaterLiteral_47 : decode b_MM_greaterLiteral 47 = .ok (.ifCond .lt 53, 3) := by decide +kernel
theorem d_MM_greaterLiteral_50 : decode b_MM_greaterLiteral 50 = .ok (.aload_n 0, 1) := by decide +kernel
theorem d_MM_greaterLiteral_51 : decode b_MM_greaterLiteral 51 = .ok (.getfield 329, 3) := by decide +kernel
theorem d_MM_greaterLiteral_54 : decode b_MM_greaterLiteral 54 = .ok (.iload 6, 2) := by decide +kernel
theorem d_MM_greaterLiteral_56 : decode b_MM_greaterLiteral 56 = .ok (.iaload, 1) := by decide +kernel
theorem d_MM_greaterLiteral_57 : decode b_MM_greaterLiteral 57 = .ok (.ifCond .lt 43, 3) := by decide +kernel
theorem d_MM_greaterLiteral_60 : decode b_MM_greaterLiteral 60 = .ok (.aload_n 0, 1) := by decide +kernel
theorem d_MM_greaterLiteral_61 : decode b_MM_greaterLiteral 61 = .ok (.aload_n 0, 1) := by decide +kernel
theorem d_MM_greaterLiteral_62 : decode b_MM_greaterLiteral 62 = .ok (.getfield 326, 3) := by decide +kernel
theorem d_MM_greaterLiteral_65 : decode b_MM_greaterLiteral 65 = .ok (.iload 5, 2) := by decide +kernel
theorem d_MM_greaterLiteral_67 : decode b_MM_greaterLiteral 67 = .ok (.iaload, 1) := by decide +kernel
theorem d_MM_greaterLiteral_68 : decode b_MM_greaterLiteral 68 = .ok (.aload_n 0, 1) := by decide +kernel
theorem d_MM_greaterLiteral_69 : decode b_MM_greaterLiteral 69 = .ok (.getfield 329, 3) := by decide +kernel
theorem d_MM_greaterLiteral_72 : decode b_MM_greaterLiteral 72 = .ok (.iload 6, 2) := by decide +kernel
theorem d_MM_greaterLiteral_74 : decode b_MM_greaterLiteral 74 = .ok (.iaload, 1) := by decide +kernel
theorem d_MM_greaterLiteral_75 : decode b_MM_greaterLiteral 75 = .ok (.invokevirtual 513, 3) := by decide +kernel
theorem d_MM_greaterLiteral_78 : decode b_MM_greaterLiteral 78 = .ok (.ifCond .ne 6, 3) := by decide +kernel
theorem d_MM_greaterLiteral_81 : decode b_MM_greaterLiteral 81 = .ok (.goto 19, 3) := by decide +kernel
theorem d_MM_greaterLiteral_84 : decode b_MM_greaterLiteral 84 = .ok (.aload_n 0, 1) := by decide +kernel
theorem d_MM_greaterLiteral_85 : decode b_MM_greaterLiteral 85 = .ok (.getfield 326, 3) := by decide +kernel
theorem d_MM_greaterLiteral_88 : decode b_MM_greaterLiteral 88 = .ok (.iload 5, 2) := by decide +kernel
theorem d_MM_greaterLiteral_90 : decode b_MM_greaterLiteral 90 = .ok (.iconst (-1), 1) := by decide +kernel
theorem d_MM_greaterLiteral_91 : decode b_MM_greaterLiteral 91 = .ok (.iastore, 1) := by decide +kernel
theorem d_MM_greaterLiteral_92 : decode b_MM_greaterLiteral 92 = .ok (.aload_n 0, 1) := by decide +kernel
theorem d_MM_greaterLiteral_93 : decode b_MM_greaterLiteral 93 = .ok (.getfield 329, 3) := by decide +kernel
theorem d_MM_greaterLiteral_96 : decode b_MM_greaterLiteral 96 = .ok (.iload 6, 2) := by decide +kernel
theorem d_MM_greaterLiteral_98 : decode b_MM_greaterLiteral 98 = .ok (.iconst (-1), 1) := by decide +kernel
theorem d_MM_greaterLiteral_99 : decode b_MM_greaterLiteral 99 = .ok (.iastore, 1) := by decide +kernel
theorem d_MM_greaterLiteral_100 : decode b_MM_greaterLiteral 100 = .ok (.iinc 6 1, 3) := by decide +kernel
theorem d_MM_greaterLiteral_103 : decode b_MM_greaterLiteral 103 = .ok (.goto (-70), 3) := by decide +kernel
theorem d_MM_greaterLiteral_106 : decode b_MM_greaterLiteral 106 = .ok (.iinc 5 1, 3) := by decide +kernel
theorem d_MM_greaterLiteral_109 : decode b_MM_greaterLiteral 109 = .ok (.goto (-85), 3) := by decide +kernel
theorem d_MM_greaterLiteral_112 : decode b_MM_greaterLiteral 112 = .ok (.iconst 0, 1) := by decide +kernel
theorem d_MM_greaterLiteral_113 : decode b_MM_greaterLiteral 113 = .ok (.istore 5, 2) := by decide +kernel
theorem d_MM_greaterLiteral_115 : decode b_MM_greaterLiteral 115 = .ok (.iconst 0, 1) := by decide +kernel
theorem d_MM_greaterLiteral_116 : decode b_MM_greaterLiteral 116 = .ok (.istore 6, 2) := by decide +kernel
theorem d_MM_greaterLiteral_118 : decode b_MM_greaterLiteral 118 = .ok (.iload 6, 2) := by decide +kernel
theorem d_MM_greaterLiteral_120 : decode b_MM_greaterLiteral 120 = .ok (.iload_n 3, 1) := by decide +kernel
theorem d_MM_greaterLiteral_121 : decode b_MM_greaterLiteral 121 = .ok (.if_icmp .ge 31, 3) := by decide +kernel
theorem d_MM_greaterLiteral_124 : decode b_MM_greaterLiteral 124 = .ok (.iload 5, 2) := by decide +kernel
theorem d_MM_greaterLiteral_126 : decode b_MM_greaterLiteral 126 = .ok (.ifCond .ne 13, 3) := by decide +kernel
theorem d_MM_greaterLiteral_129 : decode b_MM_greaterLiteral 129 = .ok (.aload_n 0, 1) := by decide +kernel
theorem d_MM_greaterLiteral_130 : decode b_MM_greaterLiteral 130 = .ok (.getfield 326, 3) := by decide +kernel
theorem d_MM_greaterLiteral_133 : decode b_MM_greaterLiteral 133 = .ok (.iload 6, 2) := by decide +kernel
theorem d_MM_greaterLiteral_135 : decode b_MM_greaterLiteral 135 = .ok (.iaload, 1) := by decide +kernel
theorem d_MM_greaterLiteral_136 : decode b_MM_greaterLiteral 136 = .ok (.ifCond .lt 7, 3) := by decide +kernel
theorem d_MM_greaterLiteral_139 : decode b_MM_greaterLiteral 139 = .ok (.iconst 1, 1) := by decide +kernel
theorem d_MM_greaterLiteral_140 : decode b_MM_greaterLiteral 140 = .ok (.goto 4, 3) := by decide +kernel
theorem d_MM_greaterLiteral_143 : decode b_MM_greaterLiteral 143 = .ok (.iconst 0, 1) := by decide +kernel
theorem d_MM_greaterLiteral_144 : decode b_MM_greaterLiteral 144 = .ok (.istore 5, 2) := by decide +kernel
theorem d_MM_greaterLiteral_146 : decode b_MM_greaterLiteral 146 = .ok (.iinc 6 1, 3) := by decide +kernel
theorem d_MM_greaterLiteral_149 : decode b_MM_greaterLiteral 149 = .ok (.goto (-31), 3) := by decide +kernel
theorem d_MM_greaterLiteral_152 : decode b_MM_greaterLiteral 152 = .ok (.iload 5, 2) := by decide +kernel
theorem d_MM_greaterLiteral_154 : decode b_MM_greaterLiteral 154 = .ok (.ifCond .ne 5, 3) := by decide +kernel
theorem d_MM_greaterLiteral_157 : decode b_MM_greaterLiteral 157 = .ok (.iconst 0, 1) := by decide +kernel
theorem d_MM_greaterLiteral_158 : decode b_MM_greaterLiteral 158 = .ok (.ireturn, 1) := by decide +kernel
theorem d_MM_greaterLiteral_159 : decode b_MM_greaterLiteral 159 = .ok (.iconst 0, 1) := by decide +kernel
theorem d_MM_greaterLiteral_160 : decode b_MM_greaterLiteral 160 = .ok (.istore 6, 2) := by decide +kernel
theorem d_MM_greaterLiteral_162 : decode b_MM_greaterLiteral 162 = .ok (.iload 6, 2) := by decide +kernel
theorem d_MM_greaterLiteral_164 : decode b_MM_greaterLiteral 164 = .ok (.iload 4, 2) := by decide +kernel
theorem d_MM_greaterLiteral_166 : decode b_MM_greaterLiteral 166 = .ok (.if_icmp .ge 90, 3) := by decide +kernel
theorem d_MM_greaterLiteral_169 : decode b_MM_greaterLiteral 169 = .ok (.aload_n 0, 1) := by decide +kernel
theorem d_MM_greaterLiteral_170 : decode b_MM_greaterLiteral 170 = .ok (.getfield 329, 3) := by decide +kernel
theorem d_MM_greaterLiteral_173 : decode b_MM_greaterLiteral 173 = .ok (.iload 6, 2) := by decide +kernel
theorem d_MM_greaterLiteral_175 : decode b_MM_greaterLiteral 175 = .ok (.iaload, 1) := by decide +kernel
theorem d_MM_greaterLiteral_176 : decode b_MM_greaterLiteral 176 = .ok (.ifCond .ge 6, 3) := by decide +kernel
theorem d_MM_greaterLiteral_179 : decode b_MM_greaterLiteral 179 = .ok (.goto 71, 3) := by decide +kernel
theorem d_MM_greaterLiteral_182 : decode b_MM_greaterLiteral 182 = .ok (.iconst 0, 1) := by decide +kernel
theorem d_MM_greaterLiteral_183 : decode b_MM_greaterLiteral 183 = .ok (.istore 7, 2) := by decide +kernel
theorem d_MM_greaterLiteral_185 : decode b_MM_greaterLiteral 185 = .ok (.iconst 0, 1) := by decide +kernel
theorem d_MM_greaterLiteral_186 : decode b_MM_greaterLiteral 186 = .ok (.istore 8, 2) := by decide +kernel
theorem d_MM_greaterLiteral_188 : decode b_MM_greaterLiteral 188 = .ok (.iload 8, 2) := by decide +kernel
theorem d_MM_greaterLiteral_190 : decode b_MM_greaterLiteral 190 = .ok (.iload_n 3, 1) := by decide +kernel
theorem d_MM_greaterLiteral_191 : decode b_MM_greaterLiteral 191 = .ok (.if_icmp .ge 52, 3) := by decide +kernel
theorem d_MM_greaterLiteral_194 : decode b_MM_greaterLiteral 194 = .ok (.iload 7, 2) := by decide +kernel
theorem d_MM_greaterLiteral_196 : decode b_MM_greaterLiteral 196 = .ok (.ifCond .ne 34, 3) := by decide +kernel
theorem d_MM_greaterLiteral_199 : decode b_MM_greaterLiteral 199 = .ok (.aload_n 0, 1) := by decide +kernel
theorem d_MM_greaterLiteral_200 : decode b_MM_greaterLiteral 200 = .ok (.getfield 326, 3) := by decide +kernel
theorem d_MM_greaterLiteral_203 : decode b_MM_greaterLiteral 203 = .ok (.iload 8, 2) := by decide +kernel
theorem d_MM_greaterLiteral_205 : decode b_MM_greaterLiteral 205 = .ok (.iaload, 1) := by decide +kernel
theorem d_MM_greaterLiteral_206 : decode b_MM_greaterLiteral 206 = .ok (.ifCond .lt 28, 3) := by decide +kernel
theorem d_MM_greaterLiteral_209 : decode b_MM_greaterLiteral 209 = .ok (.aload_n 0, 1) := by decide +kernel
theorem d_MM_greaterLiteral_210 : decode b_MM_greaterLiteral 210 = .ok (.aload_n 0, 1) := by decide +kernel
theorem d_MM_greaterLiteral_211 : decode b_MM_greaterLiteral 211 = .ok (.getfield 326, 3) := by decide +kernel
theorem d_MM_greaterLiteral_214 : decode b_MM_greaterLiteral 214 = .ok (.iload 8, 2) := by decide +kernel
theorem d_MM_greaterLiteral_216 : decode b_MM_greaterLiteral 216 = .ok (.iaload, 1) := by decide +kernel
theorem d_MM_greaterLiteral_217 : decode b_MM_greaterLiteral 217 = .ok (.aload_n 0, 1) := by decide +kernel
theorem d_MM_greaterLiteral_218 : decode b_MM_greaterLiteral 218 = .ok (.getfield 329, 3) := by decide +kernel
theorem d_MM_greaterLiteral_221 : decode b_MM_greaterLiteral 221 = .ok (.iload 6, 2) := by decide +kernel
theorem d_MM_greaterLiteral_223 : decode b_MM_greaterLiteral 223 = .ok (.iaload, 1) := by decide +kernel
theorem d_MM_greaterLiteral_224 : decode b_MM_greaterLiteral 224 = .ok (.invokevirtual 597, 3) := by decide +kernel
theorem d_MM_greaterLiteral_227 : decode b_MM_greaterLiteral 227 = .ok (.ifCond .eq 7, 3) := by decide +kernel
theorem d_MM_greaterLiteral_230 : decode b_MM_greaterLiteral 230 = .ok (.iconst 1, 1) := by decide +kernel
theorem d_MM_greaterLiteral_231 : decode b_MM_greaterLiteral 231 = .ok (.goto 4, 3) := by decide +kernel
theorem d_MM_greaterLiteral_234 : decode b_MM_greaterLiteral 234 = .ok (.iconst 0, 1) := by decide +kernel
theorem d_MM_greaterLiteral_235 : decode b_MM_greaterLiteral 235 = .ok (.istore 7, 2) := by decide +kernel
theorem d_MM_greaterLiteral_237 : decode b_MM_greaterLiteral 237 = .ok (.iinc 8 1, 3) := by decide +kernel
theorem d_MM_greaterLiteral_240 : decode b_MM_greaterLiteral 240 = .ok (.goto (-52), 3) := by decide +kernel
theorem d_MM_greaterLiteral_243 : decode b_MM_greaterLiteral 243 = .ok (.iload 7, 2) := by decide +kernel
theorem d_MM_greaterLiteral_245 : decode b_MM_greaterLiteral 245 = .ok (.ifCond .ne 5, 3) := by decide +kernel
theorem d_MM_greaterLiteral_248 : decode b_MM_greaterLiteral 248 = .ok (.iconst 0, 1) := by decide +kernel
theorem d_MM_greaterLiteral_249 : decode b_MM_greaterLiteral 249 = .ok (.ireturn, 1) := by decide +kernel
theorem d_MM_greaterLiteral_250 : decode b_MM_greaterLiteral 250 = .ok (.iinc 6 1, 3) := by decide +kernel
theorem d_MM_greaterLiteral_253 : decode b_MM_greaterLiteral 253 = .ok (.goto (-91), 3) := by decide +kernel
theorem d_MM_greaterLiteral_256 : decode b_MM_greaterLiteral 256 = .ok (.iconst 1, 1) := by decide +kernel
theorem d_MM_greaterLiteral_257 : decode b_MM_greaterLiteral 257 = .ok (.ireturn, 1) := by decide +kernel
abbrev b_MM_fault : ByteArray := prog_14_method_110_code
def y_MM_fault : MethodName := ⟨"ClauseProverModel", "fault", "(I)I"⟩
theorem d_MM_fault_0 : decode b_MM_fault 0 = .ok (.aload_n 0, 1) := by decide +kernel
theorem d_MM_fault_1 : decode b_MM_fault 1 = .ok (.iconst 0, 1) := by decide +kernel
theorem d_MM_fault_2 : decode b_MM_fault 2 = .ok (.putfield 24, 3) := by decide +kernel
theorem d_MM_fault_5 : decode b_MM_fault 5 = .ok (.iload_n 1, 1) := by decide +kernel
theorem d_MM_fault_6 : decode b_MM_fault 6 = .ok (.ifCond .ne 10, 3) := by decide +kernel
theorem d_MM_fault_9 : decode b_MM_fault 9 = .ok (.aload_n 0, 1) := by decide +kernel
theorem d_MM_fault_10 : decode b_MM_fault 10 = .ok (.getfield 27, 3) := by decide +kernel
theorem d_MM_fault_13 : decode b_MM_fault 13 = .ok (.goto 16, 3) := by decide +kernel
theorem d_MM_fault_16 : decode b_MM_fault 16 = .ok (.iload_n 1, 1) := by decide +kernel
theorem d_MM_fault_17 : decode b_MM_fault 17 = .ok (.iconst 1, 1) := by decide +kernel
theorem d_MM_fault_18 : decode b_MM_fault 18 = .ok (.if_icmp .ne 10, 3) := by decide +kernel
theorem d_MM_fault_21 : decode b_MM_fault 21 = .ok (.aload_n 0, 1) := by decide +kernel
theorem d_MM_fault_22 : decode b_MM_fault 22 = .ok (.getfield 30, 3) := by decide +kernel
theorem d_MM_fault_25 : decode b_MM_fault 25 = .ok (.goto 4, 3) := by decide +kernel
theorem d_MM_fault_28 : decode b_MM_fault 28 = .ok (.iconst (-1), 1) := by decide +kernel
theorem d_MM_fault_29 : decode b_MM_fault 29 = .ok (.ireturn, 1) := by decide +kernel
abbrev b_MM_run : ByteArray := prog_14_method_111_code
def y_MM_run : MethodName := ⟨"ClauseProverModel", "run", "(I)I"⟩
theorem d_MM_run_0 : decode b_MM_run 0 = .ok (.aload_n 0, 1) := by decide +kernel
theorem d_MM_run_1 : decode b_MM_run 1 = .ok (.iconst 0, 1) := by decide +kernel
theorem d_MM_run_2 : decode b_MM_run 2 = .ok (.putfield 24, 3) := by decide +kernel
theorem d_MM_run_5 : decode b_MM_run 5 = .ok (.aload_n 0, 1) := by decide +kernel
theorem d_MM_run_6 : decode b_MM_run 6 = .ok (.iconst 1, 1) := by decide +kernel
theorem d_MM_run_7 : decode b_MM_run 7 = .ok (.iload_n 1, 1) := by decide +kernel
theorem d_MM_run_8 : decode b_MM_run 8 = .ok (.iconst 1, 1) := by decide +kernel
theorem d_MM_run_9 : decode b_MM_run 9 = .ok (.if_icmp .lt 9, 3) := by decide +kernel
theorem d_MM_run_12 : decode b_MM_run 12 = .ok (.iload_n 1, 1) := by decide +kernel
theorem d_MM_run_13 : decode b_MM_run 13 = .ok (.bipush 100, 2) := by decide +kernel
theorem d_MM_run_15 : decode b_MM_run 15 = .ok (.if_icmp .le 7, 3) := by decide +kernel
theorem d_MM_run_18 : decode b_MM_run 18 = .ok (.iconst 1, 1) := by decide +kernel
theorem d_MM_run_19 : decode b_MM_run 19 = .ok (.goto 4, 3) := by decide +kernel
theorem d_MM_run_22 : decode b_MM_run 22 = .ok (.iconst 0, 1) := by decide +kernel
theorem d_MM_run_23 : decode b_MM_run 23 = .ok (.invokevirtual 401, 3) := by decide +kernel
theorem d_MM_run_26 : decode b_MM_run 26 = .ok (.ifCond .eq 5, 3) := by decide +kernel
theorem d_MM_run_29 : decode b_MM_run 29 = .ok (.iconst 0, 1) := by decide +kernel
theorem d_MM_run_30 : decode b_MM_run 30 = .ok (.ireturn, 1) := by decide +kernel
theorem d_MM_run_31 : decode b_MM_run 31 = .ok (.iconst 0, 1) := by decide +kernel
theorem d_MM_run_32 : decode b_MM_run 32 = .ok (.istore_n 2, 1) := by decide +kernel
theorem d_MM_run_33 : decode b_MM_run 33 = .ok (.iload_n 2, 1) := by decide +kernel
theorem d_MM_run_34 : decode b_MM_run 34 = .ok (.iload_n 1, 1) := by decide +kernel
theorem d_MM_run_35 : decode b_MM_run 35 = .ok (.if_icmp .ge 20, 3) := by decide +kernel
theorem d_MM_run_38 : decode b_MM_run 38 = .ok (.aload_n 0, 1) := by decide +kernel
theorem d_MM_run_39 : decode b_MM_run 39 = .ok (.getfield 278, 3) := by decide +kernel
theorem d_MM_run_42 : decode b_MM_run 42 = .ok (.ifCond .ne 13, 3) := by decide +kernel
theorem d_MM_run_45 : decode b_MM_run 45 = .ok (.aload_n 0, 1) := by decide +kernel
theorem d_MM_run_46 : decode b_MM_run 46 = .ok (.invokevirtual 756, 3) := by decide +kernel
theorem d_MM_run_49 : decode b_MM_run 49 = .ok (.iinc 2 1, 3) := by decide +kernel
theorem d_MM_run_52 : decode b_MM_run 52 = .ok (.goto (-19), 3) := by decide +kernel
theorem d_MM_run_55 : decode b_MM_run 55 = .ok (.aload_n 0, 1) := by decide +kernel
theorem d_MM_run_56 : decode b_MM_run 56 = .ok (.getfield 278, 3) := by decide +kernel
theorem d_MM_run_59 : decode b_MM_run 59 = .ok (.ireturn, 1) := by decide +kernel
abbrev b_MM_step1 : ByteArray := prog_14_method_103_code
def y_MM_step1 : MethodName := ⟨"ClauseProverModel", "step", "()V"⟩
theorem d_MM_step1_0 : decode b_MM_step1 0 = .ok (.aload_n 0, 1) := by decide +kernel
theorem d_MM_step1_1 : decode b_MM_step1 1 = .ok (.invokevirtual 715, 3) := by decide +kernel
theorem d_MM_step1_4 : decode b_MM_step1 4 = .ok (.istore_n 1, 1) := by decide +kernel
theorem d_MM_step1_5 : decode b_MM_step1 5 = .ok (.iload_n 1, 1) := by decide +kernel
theorem d_MM_step1_6 : decode b_MM_step1 6 = .ok (.ifCond .ge 9, 3) := by decide +kernel
theorem d_MM_step1_9 : decode b_MM_step1 9 = .ok (.aload_n 0, 1) := by decide +kernel
theorem d_MM_step1_10 : decode b_MM_step1 10 = .ok (.iconst 2, 1) := by decide +kernel
theorem d_MM_step1_11 : decode b_MM_step1 11 = .ok (.putfield 278, 3) := by decide +kernel
theorem d_MM_step1_14 : decode b_MM_step1 14 = .ok (.return_, 1) := by decide +kernel
theorem d_MM_step1_15 : decode b_MM_step1 15 = .ok (.aload_n 0, 1) := by decide +kernel
theorem d_MM_step1_16 : decode b_MM_step1 16 = .ok (.dup, 1) := by decide +kernel
theorem d_MM_step1_17 : decode b_MM_step1 17 = .ok (.getfield 284, 3) := by decide +kernel
theorem d_MM_step1_20 : decode b_MM_step1 20 = .ok (.iconst 1, 1) := by decide +kernel
theorem d_MM_step1_21 : decode b_MM_step1 21 = .ok (.iadd, 1) := by decide +kernel
theorem d_MM_step1_22 : decode b_MM_step1 22 = .ok (.putfield 284, 3) := by decide +kernel
theorem d_MM_step1_25 : decode b_MM_step1 25 = .ok (.aload_n 0, 1) := by decide +kernel
theorem d_MM_step1_26 : decode b_MM_step1 26 = .ok (.getfield 256, 3) := by decide +kernel
theorem d_MM_step1_29 : decode b_MM_step1 29 = .ok (.iload_n 1, 1) := by decide +kernel
theorem d_MM_step1_30 : decode b_MM_step1 30 = .ok (.iconst 2, 1) := by decide +kernel
theorem d_MM_step1_31 : decode b_MM_step1 31 = .ok (.iastore, 1) := by decide +kernel
theorem d_MM_step1_32 : decode b_MM_step1 32 = .ok (.aload_n 0, 1) := by decide +kernel
theorem d_MM_step1_33 : decode b_MM_step1 33 = .ok (.getfield 238, 3) := by decide +kernel
theorem d_MM_step1_36 : decode b_MM_step1 36 = .ok (.iload_n 1, 1) := by decide +kernel
theorem d_MM_step1_37 : decode b_MM_step1 37 = .ok (.iaload, 1) := by decide +kernel
theorem d_MM_step1_38 : decode b_MM_step1 38 = .ok (.ifCond .ne 9, 3) := by decide +kernel
theorem d_MM_step1_41 : decode b_MM_step1 41 = .ok (.aload_n 0, 1) := by decide +kernel
theorem d_MM_step1_42 : decode b_MM_step1 42 = .ok (.iload_n 1, 1) := by decide +kernel
theorem d_MM_step1_43 : decode b_MM_step1 43 = .ok (.invokevirtual 718, 3) := by decide +kernel
theorem d_MM_step1_46 : decode b_MM_step1 46 = .ok (.return_, 1) := by decide +kernel
theorem d_MM_step1_47 : decode b_MM_step1 47 = .ok (.aload_n 0, 1) := by decide +kernel
theorem d_MM_step1_48 : decode b_MM_step1 48 = .ok (.iload_n 1, 1) := by decide +kernel
theorem d_MM_step1_49 : decode b_MM_step1 49 = .ok (.invokevirtual 721, 3) := by decide +kernel
theorem d_MM_step1_52 : decode b_MM_step1 52 = .ok (.istore_n 2, 1) := by decide +kernel
theorem d_MM_step1_53 : decode b_MM_step1 53 = .ok (.iload_n 2, 1) := by decide +kernel
theorem d_MM_step1_54 : decode b_MM_step1 54 = .ok (.ifCond .le 138, 3) := by decide +kernel
theorem d_MM_step1_57 : decode b_MM_step1 57 = .ok (.aload_n 0, 1) := by decide +kernel
theorem d_MM_step1_58 : decode b_MM_step1 58 = .ok (.dup, 1) := by decide +kernel
theorem d_MM_step1_59 : decode b_MM_step1 59 = .ok (.getfield 296, 3) := by decide +kernel
theorem d_MM_step1_62 : decode b_MM_step1 62 = .ok (.iload_n 2, 1) := by decide +kernel
theorem d_MM_step1_63 : decode b_MM_step1 63 = .ok (.iadd, 1) := by decide +kernel
theorem d_MM_step1_64 : decode b_MM_step1 64 = .ok (.putfield 296, 3) := by decide +kernel
theorem d_MM_step1_67 : decode b_MM_step1 67 = .ok (.aload_n 0, 1) := by decide +kernel
theorem d_MM_step1_68 : decode b_MM_step1 68 = .ok (.invokevirtual 641, 3) := by decide +kernel
theorem d_MM_step1_71 : decode b_MM_step1 71 = .ok (.aload_n 0, 1) := by decide +kernel
theorem d_MM_step1_72 : decode b_MM_step1 72 = .ok (.invokevirtual 644, 3) := by decide +kernel
theorem d_MM_step1_75 : decode b_MM_step1 75 = .ok (.ifCond .eq 14, 3) := by decide +kernel
theorem d_MM_step1_78 : decode b_MM_step1 78 = .ok (.aload_n 0, 1) := by decide +kernel
theorem d_MM_step1_79 : decode b_MM_step1 79 = .ok (.dup, 1) := by decide +kernel
theorem d_MM_step1_80 : decode b_MM_step1 80 = .ok (.getfield 299, 3) := by decide +kernel
theorem d_MM_step1_83 : decode b_MM_step1 83 = .ok (.iconst 1, 1) := by decide +kernel
theorem d_MM_step1_84 : decode b_MM_step1 84 = .ok (.iadd, 1) := by decide +kernel
theorem d_MM_step1_85 : decode b_MM_step1 85 = .ok (.putfield 299, 3) := by decide +kernel
theorem d_MM_step1_88 : decode b_MM_step1 88 = .ok (.return_, 1) := by decide +kernel
theorem d_MM_step1_89 : decode b_MM_step1 89 = .ok (.aload_n 0, 1) := by decide +kernel
theorem d_MM_step1_90 : decode b_MM_step1 90 = .ok (.iconst 4, 1) := by decide +kernel
theorem d_MM_step1_91 : decode b_MM_step1 91 = .ok (.iload_n 1, 1) := by decide +kernel
theorem d_MM_step1_92 : decode b_MM_step1 92 = .ok (.iconst (-1), 1) := by decide +kernel
theorem d_MM_step1_93 : decode b_MM_step1 93 = .ok (.invokevirtual 648, 3) := by decide +kernel
theorem d_MM_step1_96 : decode b_MM_step1 96 = .ok (.ifCond .ne 4, 3) := by decide +kernel
theorem d_MM_step1_99 : decode b_MM_step1 99 = .ok (.return_, 1) := by decide +kernel
theorem d_MM_step1_100 : decode b_MM_step1 100 = .ok (.iload_n 1, 1) := by decide +kernel
theorem d_MM_step1_101 : decode b_MM_step1 101 = .ok (.istore_n 3, 1) := by decide +kernel
theorem d_MM_step1_102 : decode b_MM_step1 102 = .ok (.aload_n 0, 1) := by decide +kernel
theorem d_MM_step1_103 : decode b_MM_step1 103 = .ok (.getfield 269, 3) := by decide +kernel
theorem d_MM_step1_106 : decode b_MM_step1 106 = .ok (.iconst 1, 1) := by decide +kernel
theorem d_MM_step1_107 : decode b_MM_step1 107 = .ok (.isub, 1) := by decide +kernel
theorem d_MM_step1_108 : decode b_MM_step1 108 = .ok (.istore_n 1, 1) := by decide +kernel
theorem d_MM_step1_109 : decode b_MM_step1 109 = .ok (.aload_n 0, 1) := by decide +kernel
theorem d_MM_step1_110 : decode b_MM_step1 110 = .ok (.getfield 256, 3) := by decide +kernel
theorem d_MM_step1_113 : decode b_MM_step1 113 = .ok (.iload_n 1, 1) := by decide +kernel
theorem d_MM_step1_114 : decode b_MM_step1 114 = .ok (.iconst 2, 1) := by decide +kernel
theorem d_MM_step1_115 : decode b_MM_step1 115 = .ok (.iastore, 1) := by decide +kernel
theorem d_MM_step1_116 : decode b_MM_step1 116 = .ok (.aload_n 0, 1) := by decide +kernel
theorem d_MM_step1_117 : decode b_MM_step1 117 = .ok (.getfield 259, 3) := by decide +kernel
theorem d_MM_step1_120 : decode b_MM_step1 120 = .ok (.iload_n 1, 1) := by decide +kernel
theorem d_MM_step1_121 : decode b_MM_step1 121 = .ok (.aload_n 0, 1) := by decide +kernel
theorem d_MM_step1_122 : decode b_MM_step1 122 = .ok (.getfield 275, 3) := by decide +kernel
theorem d_MM_step1_125 : decode b_MM_step1 125 = .ok (.iastore, 1) := by decide +kernel
theorem d_MM_step1_126 : decode b_MM_step1 126 = .ok (.aload_n 0, 1) := by decide +kernel
theorem d_MM_step1_127 : decode b_MM_step1 127 = .ok (.getfield 262, 3) := by decide +kernel
theorem d_MM_step1_130 : decode b_MM_step1 130 = .ok (.iload_n 1, 1) := by decide +kernel
theorem d_MM_step1_131 : decode b_MM_step1 131 = .ok (.aload_n 0, 1) := by decide +kernel
theorem d_MM_step1_132 : decode b_MM_step1 132 = .ok (.getfield 377, 3) := by decide +kernel
theorem d_MM_step1_135 : decode b_MM_step1 135 = .ok (.iastore, 1) := by decide +kernel
theorem d_MM_step1_136 : decode b_MM_step1 136 = .ok (.iconst 0, 1) := by decide +kernel
theorem d_MM_step1_137 : decode b_MM_step1 137 = .ok (.istore 4, 2) := by decide +kernel
theorem d_MM_step1_139 : decode b_MM_step1 139 = .ok (.iload 4, 2) := by decide +kernel
theorem d_MM_step1_141 : decode b_MM_step1 141 = .ok (.aload_n 0, 1) := by decide +kernel
theorem d_MM_step1_142 : decode b_MM_step1 142 = .ok (.getfield 377, 3) := by decide +kernel
theorem d_MM_step1_145 : decode b_MM_step1 145 = .ok (.if_icmp .ge 32, 3) := by decide +kernel
theorem d_MM_step1_148 : decode b_MM_step1 148 = .ok (.aload_n 0, 1) := by decide +kernel
theorem d_MM_step1_149 : decode b_MM_step1 149 = .ok (.getfield 266, 3) := by decide +kernel
theorem d_MM_step1_152 : decode b_MM_step1 152 = .ok (.aload_n 0, 1) := by decide +kernel
theorem d_MM_step1_153 : decode b_MM_step1 153 = .ok (.dup, 1) := by decide +kernel
theorem d_MM_step1_154 : decode b_MM_step1 154 = .ok (.getfield 275, 3) := by decide +kernel
theorem d_MM_step1_157 : decode b_MM_step1 157 = .ok (.dup_x1, 1) := by decide +kernel
theorem d_MM_step1_158 : decode b_MM_step1 158 = .ok (.iconst 1, 1) := by decide +kernel
theorem d_MM_step1_159 : decode b_MM_step1 159 = .ok (.iadd, 1) := by decide +kernel
theorem d_MM_step1_160 : decode b_MM_step1 160 = .ok (.putfield 275, 3) := by decide +kernel
theorem d_MM_step1_163 : decode b_MM_step1 163 = .ok (.aload_n 0, 1) := by decide +kernel
theorem d_MM_step1_164 : decode b_MM_step1 164 = .ok (.getfield 374, 3) := by decide +kernel
theorem d_MM_step1_167 : decode b_MM_step1 167 = .ok (.iload 4, 2) := by decide +kernel
theorem d_MM_step1_169 : decode b_MM_step1 169 = .ok (.iaload, 1) := by decide +kernel
theorem d_MM_step1_170 : decode b_MM_step1 170 = .ok (.iastore, 1) := by decide +kernel
theorem d_MM_step1_171 : decode b_MM_step1 171 = .ok (.iinc 4 1, 3) := by decide +kernel
theorem d_MM_step1_174 : decode b_MM_step1 174 = .ok (.goto (-35), 3) := by decide +kernel
theorem d_MM_step1_177 : decode b_MM_step1 177 = .ok (.aload_n 0, 1) := by decide +kernel
theorem d_MM_step1_178 : decode b_MM_step1 178 = .ok (.getfield 238, 3) := by decide +kernel
theorem d_MM_step1_181 : decode b_MM_step1 181 = .ok (.iload_n 1, 1) := by decide +kernel
theorem d_MM_step1_182 : decode b_MM_step1 182 = .ok (.iaload, 1) := by decide +kernel
theorem d_MM_step1_183 : decode b_MM_step1 183 = .ok (.ifCond .ne 9, 3) := by decide +kernel
theorem d_MM_step1_186 : decode b_MM_step1 186 = .ok (.aload_n 0, 1) := by decide +kernel
theorem d_MM_step1_187 : decode b_MM_step1 187 = .ok (.iload_n 1, 1) := by decide +kernel
theorem d_MM_step1_188 : decode b_MM_step1 188 = .ok (.invokevirtual 718, 3) := by decide +kernel
theorem d_MM_step1_191 : decode b_MM_step1 191 = .ok (.return_, 1) := by decide +kernel
theorem d_MM_step1_192 : decode b_MM_step1 192 = .ok (.iconst 0, 1) := by decide +kernel
theorem d_MM_step1_193 : decode b_MM_step1 193 = .ok (.istore_n 3, 1) := by decide +kernel
theorem d_MM_step1_194 : decode b_MM_step1 194 = .ok (.iload_n 3, 1) := by decide +kernel
theorem d_MM_step1_195 : decode b_MM_step1 195 = .ok (.aload_n 0, 1) := by decide +kernel
theorem d_MM_step1_196 : decode b_MM_step1 196 = .ok (.getfield 269, 3) := by decide +kernel
theorem d_MM_step1_199 : decode b_MM_step1 199 = .ok (.if_icmp .ge 42, 3) := by decide +kernel
theorem d_MM_step1_202 : decode b_MM_step1 202 = .ok (.aload_n 0, 1) := by decide +kernel
theorem d_MM_step1_203 : decode b_MM_step1 203 = .ok (.getfield 256, 3) := by decide +kernel
theorem d_MM_step1_206 : decode b_MM_step1 206 = .ok (.iload_n 3, 1) := by decide +kernel
theorem d_MM_step1_207 : decode b_MM_step1 207 = .ok (.iaload, 1) := by decide +kernel
theorem d_MM_step1_208 : decode b_MM_step1 208 = .ok (.iconst 1, 1) := by decide +kernel
theorem d_MM_step1_209 : decode b_MM_step1 209 = .ok (.if_icmp .ne 26, 3) := by decide +kernel
theorem d_MM_step1_212 : decode b_MM_step1 212 = .ok (.aload_n 0, 1) := by decide +kernel
theorem d_MM_step1_213 : decode b_MM_step1 213 = .ok (.iload_n 3, 1) := by decide +kernel
theorem d_MM_step1_214 : decode b_MM_step1 214 = .ok (.iload_n 1, 1) := by decide +kernel
theorem d_MM_step1_215 : decode b_MM_step1 215 = .ok (.invokevirtual 724, 3) := by decide +kernel
theorem d_MM_step1_218 : decode b_MM_step1 218 = .ok (.ifCond .ne 6, 3) := by decide +kernel
theorem d_MM_step1_221 : decode b_MM_step1 221 = .ok (.goto 14, 3) := by decide +kernel
theorem d_MM_step1_224 : decode b_MM_step1 224 = .ok (.aload_n 0, 1) := by decide +kernel
theorem d_MM_step1_225 : decode b_MM_step1 225 = .ok (.dup, 1) := by decide +kernel
theorem d_MM_step1_226 : decode b_MM_step1 226 = .ok (.getfield 293, 3) := by decide +kernel
theorem d_MM_step1_229 : decode b_MM_step1 229 = .ok (.iconst 1, 1) := by decide +kernel
theorem d_MM_step1_230 : decode b_MM_step1 230 = .ok (.iadd, 1) := by decide +kernel
theorem d_MM_step1_231 : decode b_MM_step1 231 = .ok (.putfield 293, 3) := by decide +kernel
theorem d_MM_step1_234 : decode b_MM_step1 234 = .ok (.return_, 1) := by decide +kernel
theorem d_MM_step1_235 : decode b_MM_step1 235 = .ok (.iinc 3 1, 3) := by decide +kernel
theorem d_MM_step1_238 : decode b_MM_step1 238 = .ok (.goto (-44), 3) := by decide +kernel
theorem d_MM_step1_241 : decode b_MM_step1 241 = .ok (.aload_n 0, 1) := by decide +kernel
theorem d_MM_step1_242 : decode b_MM_step1 242 = .ok (.iload_n 1, 1) := by decide +kernel
theorem d_MM_step1_243 : decode b_MM_step1 243 = .ok (.invokevirtual 727, 3) := by decide +kernel
theorem d_MM_step1_246 : decode b_MM_step1 246 = .ok (.return_, 1) := by decide +kernel
abbrev b_MM_given : ByteArray := prog_14_method_102_code
def y_MM_given : MethodName := ⟨"ClauseProverModel", "given", "()I"⟩
theorem d_MM_given_0 : decode b_MM_given 0 = .ok (.iconst (-1), 1) := by decide +kernel
theorem d_MM_given_1 : decode b_MM_given 1 = .ok (.istore_n 1, 1) := by decide +kernel
theorem d_MM_given_2 : decode b_MM_given 2 = .ok (.aload_n 0, 1) := by decide +kernel
theorem d_MM_given_3 : decode b_MM_given 3 = .ok (.getfield 284, 3) := by decide +kernel
theorem d_MM_given_6 : decode b_MM_given 6 = .ok (.iconst 1, 1) := by decide +kernel
theorem d_MM_given_7 : decode b_MM_given 7 = .ok (.iadd, 1) := by decide +kernel
theorem d_MM_given_8 : decode b_MM_given 8 = .ok (.iconst 5, 1) := by decide +kernel
theorem d_MM_given_9 : decode b_MM_given 9 = .ok (.irem, 1) := by decide +kernel
theorem d_MM_given_10 : decode b_MM_given 10 = .ok (.ifCond .ne 7, 3) := by decide +kernel
theorem d_MM_given_13 : decode b_MM_given 13 = .ok (.iconst 1, 1) := by decide +kernel
theorem d_MM_given_14 : decode b_MM_given 14 = .ok (.goto 4, 3) := by decide +kernel
theorem d_MM_given_17 : decode b_MM_given 17 = .ok (.iconst 0, 1) := by decide +kernel
theorem d_MM_given_18 : decode b_MM_given 18 = .ok (.istore_n 2, 1) := by decide +kernel
theorem d_MM_given_19 : decode b_MM_given 19 = .ok (.iconst 0, 1) := by decide +kernel
theorem d_MM_given_20 : decode b_MM_given 20 = .ok (.istore_n 3, 1) := by decide +kernel
theorem d_MM_given_21 : decode b_MM_given 21 = .ok (.iload_n 3, 1) := by decide +kernel
theorem d_MM_given_22 : decode b_MM_given 22 = .ok (.aload_n 0, 1) := by decide +kernel
theorem d_MM_given_23 : decode b_MM_given 23 = .ok (.getfield 269, 3) := by decide +kernel
theorem d_MM_given_26 : decode b_MM_given 26 = .ok (.if_icmp .ge 46, 3) := by decide +kernel
theorem d_MM_given_29 : decode b_MM_given 29 = .ok (.aload_n 0, 1) := by decide +kernel
theorem d_MM_given_30 : decode b_MM_given 30 = .ok (.getfield 256, 3) := by decide +kernel
theorem d_MM_given_33 : decode b_MM_given 33 = .ok (.iload_n 3, 1) := by decide +kernel
theorem d_MM_given_34 : decode b_MM_given 34 = .ok (.iaload, 1) := by decide +kernel
theorem d_MM_given_35 : decode b_MM_given 35 = .ok (.ifCond .eq 6, 3) := by decide +kernel
theorem d_MM_given_38 : decode b_MM_given 38 = .ok (.goto 28, 3) := by decide +kernel
theorem d_MM_given_41 : decode b_MM_given 41 = .ok (.iload_n 1, 1) := by decide +kernel
theorem d_MM_given_42 : decode b_MM_given 42 = .ok (.ifCond .lt 22, 3) := by decide +kernel
theorem d_MM_given_45 : decode b_MM_given 45 = .ok (.iload_n 2, 1) := by decide +kernel
theorem d_MM_given_46 : decode b_MM_given 46 = .ok (.ifCond .ne 20, 3) := by decide +kernel
theorem d_MM_given_49 : decode b_MM_given 49 = .ok (.aload_n 0, 1) := by decide +kernel
theorem d_MM_given_50 : decode b_MM_given 50 = .ok (.getfield 241, 3) := by decide +kernel
theorem d_MM_given_53 : decode b_MM_given 53 = .ok (.iload_n 3, 1) := by decide +kernel
theorem d_MM_given_54 : decode b_MM_given 54 = .ok (.iaload, 1) := by decide +kernel
theorem d_MM_given_55 : decode b_MM_given 55 = .ok (.aload_n 0, 1) := by decide +kernel
theorem d_MM_given_56 : decode b_MM_given 56 = .ok (.getfield 241, 3) := by decide +kernel
theorem d_MM_given_59 : decode b_MM_given 59 = .ok (.iload_n 1, 1) := by decide +kernel
theorem d_MM_given_60 : decode b_MM_given 60 = .ok (.iaload, 1) := by decide +kernel
theorem d_MM_given_61 : decode b_MM_given 61 = .ok (.if_icmp .ge 5, 3) := by decide +kernel
theorem d_MM_given_64 : decode b_MM_given 64 = .ok (.iload_n 3, 1) := by decide +kernel
theorem d_MM_given_65 : decode b_MM_given 65 = .ok (.istore_n 1, 1) := by decide +kernel
theorem d_MM_given_66 : decode b_MM_given 66 = .ok (.iinc 3 1, 3) := by decide +kernel
theorem d_MM_given_69 : decode b_MM_given 69 = .ok (.goto (-48), 3) := by decide +kernel
theorem d_MM_given_72 : decode b_MM_given 72 = .ok (.iload_n 1, 1) := by decide +kernel
theorem d_MM_given_73 : decode b_MM_given 73 = .ok (.ireturn, 1) := by decide +kernel
abbrev b_MM_refuted : ByteArray := prog_14_method_104_code
def y_MM_refuted : MethodName := ⟨"ClauseProverModel", "refuted", "(I)V"⟩
theorem d_MM_refuted_0 : decode b_MM_refuted 0 = .ok (.aload_n 0, 1) := by decide +kernel
theorem d_MM_refuted_1 : decode b_MM_refuted 1 = .ok (.iconst 1, 1) := by decide +kernel
theorem d_MM_refuted_2 : decode b_MM_refuted 2 = .ok (.putfield 278, 3) := by decide +kernel
theorem d_MM_refuted_5 : decode b_MM_refuted 5 = .ok (.aload_n 0, 1) := by decide +kernel
theorem d_MM_refuted_6 : decode b_MM_refuted 6 = .ok (.iload_n 1, 1) := by decide +kernel
theorem d_MM_refuted_7 : decode b_MM_refuted 7 = .ok (.putfield 281, 3) := by decide +kernel
theorem d_MM_refuted_10 : decode b_MM_refuted 10 = .ok (.return_, 1) := by decide +kernel
abbrev b_MM_rewrite : ByteArray := prog_14_method_97_code
def y_MM_rewrite : MethodName := ⟨"ClauseProverModel", "rewrite", "(I)I"⟩
theorem d_MM_rewrite_0 : decode b_MM_rewrite 0 = .ok (.aload_n 0, 1) := by decide +kernel
theorem d_MM_rewrite_1 : decode b_MM_rewrite 1 = .ok (.ldc_w 633, 3) := by decide +kernel
theorem d_MM_rewrite_4 : decode b_MM_rewrite 4 = .ok (.putfield 157, 3) := by decide +kernel
theorem d_MM_rewrite_7 : decode b_MM_rewrite 7 = .ok (.aload_n 0, 1) := by decide +kernel
theorem d_MM_rewrite_8 : decode b_MM_rewrite 8 = .ok (.iconst 0, 1) := by decide +kernel
theorem d_MM_rewrite_9 : decode b_MM_rewrite 9 = .ok (.putfield 311, 3) := by decide +kernel
theorem d_MM_rewrite_12 : decode b_MM_rewrite 12 = .ok (.aload_n 0, 1) := by decide +kernel
theorem d_MM_rewrite_13 : decode b_MM_rewrite 13 = .ok (.iconst 0, 1) := by decide +kernel
theorem d_MM_rewrite_14 : decode b_MM_rewrite 14 = .ok (.putfield 377, 3) := by decide +kernel
theorem d_MM_rewrite_17 : decode b_MM_rewrite 17 = .ok (.aload_n 0, 1) := by decide +kernel
theorem d_MM_rewrite_18 : decode b_MM_rewrite 18 = .ok (.getfield 235, 3) := by decide +kernel
theorem d_MM_rewrite_21 : decode b_MM_rewrite 21 = .ok (.iload_n 1, 1) := by decide +kernel
theorem d_MM_rewrite_22 : decode b_MM_rewrite 22 = .ok (.iaload, 1) := by decide +kernel
theorem d_MM_rewrite_23 : decode b_MM_rewrite 23 = .ok (.istore_n 2, 1) := by decide +kernel
theorem d_MM_rewrite_24 : decode b_MM_rewrite 24 = .ok (.iload_n 2, 1) := by decide +kernel
theorem d_MM_rewrite_25 : decode b_MM_rewrite 25 = .ok (.aload_n 0, 1) := by decide +kernel
theorem d_MM_rewrite_26 : decode b_MM_rewrite 26 = .ok (.getfield 235, 3) := by decide +kernel
theorem d_MM_rewrite_29 : decode b_MM_rewrite 29 = .ok (.iload_n 1, 1) := by decide +kernel
theorem d_MM_rewrite_30 : decode b_MM_rewrite 30 = .ok (.iaload, 1) := by decide +kernel
theorem d_MM_rewrite_31 : decode b_MM_rewrite 31 = .ok (.aload_n 0, 1) := by decide +kernel
theorem d_MM_rewrite_32 : decode b_MM_rewrite 32 = .ok (.getfield 238, 3) := by decide +kernel
theorem d_MM_rewrite_35 : decode b_MM_rewrite 35 = .ok (.iload_n 1, 1) := by decide +kernel
theorem d_MM_rewrite_36 : decode b_MM_rewrite 36 = .ok (.iaload, 1) := by decide +kernel
theorem d_MM_rewrite_37 : decode b_MM_rewrite 37 = .ok (.iadd, 1) := by decide +kernel
theorem d_MM_rewrite_38 : decode b_MM_rewrite 38 = .ok (.if_icmp .ge 39, 3) := by decide +kernel
theorem d_MM_rewrite_41 : decode b_MM_rewrite 41 = .ok (.aload_n 0, 1) := by decide +kernel
theorem d_MM_rewrite_42 : decode b_MM_rewrite 42 = .ok (.aload_n 0, 1) := by decide +kernel
theorem d_MM_rewrite_43 : decode b_MM_rewrite 43 = .ok (.aload_n 0, 1) := by decide +kernel
theorem d_MM_rewrite_44 : decode b_MM_rewrite 44 = .ok (.getfield 214, 3) := by decide +kernel
theorem d_MM_rewrite_47 : decode b_MM_rewrite 47 = .ok (.iload_n 2, 1) := by decide +kernel
theorem d_MM_rewrite_48 : decode b_MM_rewrite 48 = .ok (.iaload, 1) := by decide +kernel
theorem d_MM_rewrite_49 : decode b_MM_rewrite 49 = .ok (.invokevirtual 519, 3) := by decide +kernel
theorem d_MM_rewrite_52 : decode b_MM_rewrite 52 = .ok (.aload_n 0, 1) := by decide +kernel
theorem d_MM_rewrite_53 : decode b_MM_rewrite 53 = .ok (.aload_n 0, 1) := by decide +kernel
theorem d_MM_rewrite_54 : decode b_MM_rewrite 54 = .ok (.getfield 217, 3) := by decide +kernel
theorem d_MM_rewrite_57 : decode b_MM_rewrite 57 = .ok (.iload_n 2, 1) := by decide +kernel
theorem d_MM_rewrite_58 : decode b_MM_rewrite 58 = .ok (.iaload, 1) := by decide +kernel
theorem d_MM_rewrite_59 : decode b_MM_rewrite 59 = .ok (.invokevirtual 519, 3) := by decide +kernel
theorem d_MM_rewrite_62 : decode b_MM_rewrite 62 = .ok (.aload_n 0, 1) := by decide +kernel
theorem d_MM_rewrite_63 : decode b_MM_rewrite 63 = .ok (.getfield 220, 3) := by decide +kernel
theorem d_MM_rewrite_66 : decode b_MM_rewrite 66 = .ok (.iload_n 2, 1) := by decide +kernel
theorem d_MM_rewrite_67 : decode b_MM_rewrite 67 = .ok (.baload, 1) := by decide +kernel
theorem d_MM_rewrite_68 : decode b_MM_rewrite 68 = .ok (.invokevirtual 634, 3) := by decide +kernel
theorem d_MM_rewrite_71 : decode b_MM_rewrite 71 = .ok (.iinc 2 1, 3) := by decide +kernel
theorem d_MM_rewrite_74 : decode b_MM_rewrite 74 = .ok (.goto (-50), 3) := by decide +kernel
theorem d_MM_rewrite_77 : decode b_MM_rewrite 77 = .ok (.iconst 0, 1) := by decide +kernel
theorem d_MM_rewrite_78 : decode b_MM_rewrite 78 = .ok (.istore_n 2, 1) := by decide +kernel
theorem d_MM_rewrite_79 : decode b_MM_rewrite 79 = .ok (.iconst 1, 1) := by decide +kernel
theorem d_MM_rewrite_80 : decode b_MM_rewrite 80 = .ok (.istore_n 3, 1) := by decide +kernel
theorem d_MM_rewrite_81 : decode b_MM_rewrite 81 = .ok (.iload_n 3, 1) := by decide +kernel
theorem d_MM_rewrite_82 : decode b_MM_rewrite 82 = .ok (.ifCond .eq 189, 3) := by decide +kernel
theorem d_MM_rewrite_85 : decode b_MM_rewrite 85 = .ok (.iload_n 2, 1) := by decide +kernel
theorem d_MM_rewrite_86 : decode b_MM_rewrite 86 = .ok (.bipush 60, 2) := by decide +kernel
theorem d_MM_rewrite_88 : decode b_MM_rewrite 88 = .ok (.if_icmp .ge 183, 3) := by decide +kernel
theorem d_MM_rewrite_91 : decode b_MM_rewrite 91 = .ok (.iconst 0, 1) := by decide +kernel
theorem d_MM_rewrite_92 : decode b_MM_rewrite 92 = .ok (.istore_n 3, 1) := by decide +kernel
theorem d_MM_rewrite_93 : decode b_MM_rewrite 93 = .ok (.iconst 0, 1) := by decide +kernel
theorem d_MM_rewrite_94 : decode b_MM_rewrite 94 = .ok (.istore 4, 2) := by decide +kernel
theorem d_MM_rewrite_96 : decode b_MM_rewrite 96 = .ok (.iload 4, 2) := by decide +kernel
theorem d_MM_rewrite_98 : decode b_MM_rewrite 98 = .ok (.aload_n 0, 1) := by decide +kernel
theorem d_MM_rewrite_99 : decode b_MM_rewrite 99 = .ok (.getfield 311, 3) := by decide +kernel
theorem d_MM_rewrite_102 : decode b_MM_rewrite 102 = .ok (.if_icmp .ge 84, 3) := by decide +kernel
theorem d_MM_rewrite_105 : decode b_MM_rewrite 105 = .ok (.iload_n 3, 1) := by decide +kernel
theorem d_MM_rewrite_106 : decode b_MM_rewrite 106 = .ok (.ifCond .ne 80, 3) := by decide +kernel
theorem d_MM_rewrite_109 : decode b_MM_rewrite 109 = .ok (.aload_n 0, 1) := by decide +kernel
theorem d_MM_rewrite_110 : decode b_MM_rewrite 110 = .ok (.aload_n 0, 1) := by decide +kernel
theorem d_MM_rewrite_111 : decode b_MM_rewrite 111 = .ok (.getfield 302, 3) := by decide +kernel
theorem d_MM_rewrite_114 : decode b_MM_rewrite 114 = .ok (.iload 4, 2) := by decide +kernel
theorem d_MM_rewrite_116 : decode b_MM_rewrite 116 = .ok (.iaload, 1) := by decide +kernel
theorem d_MM_rewrite_117 : decode b_MM_rewrite 117 = .ok (.invokevirtual 703, 3) := by decide +kernel
theorem d_MM_rewrite_120 : decode b_MM_rewrite 120 = .ok (.ifCond .eq 26, 3) := by decide +kernel
theorem d_MM_rewrite_123 : decode b_MM_rewrite 123 = .ok (.aload_n 0, 1) := by decide +kernel
theorem d_MM_rewrite_124 : decode b_MM_rewrite 124 = .ok (.getfield 302, 3) := by decide +kernel
theorem d_MM_rewrite_127 : decode b_MM_rewrite 127 = .ok (.iload 4, 2) := by decide +kernel
theorem d_MM_rewrite_129 : decode b_MM_rewrite 129 = .ok (.aload_n 0, 1) := by decide +kernel
theorem d_MM_rewrite_130 : decode b_MM_rewrite 130 = .ok (.aload_n 0, 1) := by decide +kernel
theorem d_MM_rewrite_131 : decode b_MM_rewrite 131 = .ok (.getfield 302, 3) := by decide +kernel
theorem d_MM_rewrite_134 : decode b_MM_rewrite 134 = .ok (.iload 4, 2) := by decide +kernel
theorem d_MM_rewrite_136 : decode b_MM_rewrite 136 = .ok (.iaload, 1) := by decide +kernel
theorem d_MM_rewrite_137 : decode b_MM_rewrite 137 = .ok (.invokevirtual 706, 3) := by decide +kernel
theorem d_MM_rewrite_140 : decode b_MM_rewrite 140 = .ok (.iastore, 1) := by decide +kernel
theorem d_MM_rewrite_141 : decode b_MM_rewrite 141 = .ok (.iconst 1, 1) := by decide +kernel
theorem d_MM_rewrite_142 : decode b_MM_rewrite 142 = .ok (.istore_n 3, 1) := by decide +kernel
theorem d_MM_rewrite_143 : decode b_MM_rewrite 143 = .ok (.goto 37, 3) := by decide +kernel
theorem d_MM_rewrite_146 : decode b_MM_rewrite 146 = .ok (.aload_n 0, 1) := by decide +kernel
theorem d_MM_rewrite_147 : decode b_MM_rewrite 147 = .ok (.aload_n 0, 1) := by decide +kernel
theorem d_MM_rewrite_148 : decode b_MM_rewrite 148 = .ok (.getfield 305, 3) := by decide +kernel
theorem d_MM_rewrite_151 : decode b_MM_rewrite 151 = .ok (.iload 4, 2) := by decide +kernel
theorem d_MM_rewrite_153 : decode b_MM_rewrite 153 = .ok (.iaload, 1) := by decide +kernel
theorem d_MM_rewrite_154 : decode b_MM_rewrite 154 = .ok (.invokevirtual 703, 3) := by decide +kernel
theorem d_MM_rewrite_157 : decode b_MM_rewrite 157 = .ok (.ifCond .eq 23, 3) := by decide +kernel
theorem d_MM_rewrite_160 : decode b_MM_rewrite 160 = .ok (.aload_n 0, 1) := by decide +kernel
theorem d_MM_rewrite_161 : decode b_MM_rewrite 161 = .ok (.getfield 305, 3) := by decide +kernel
theorem d_MM_rewrite_164 : decode b_MM_rewrite 164 = .ok (.iload 4, 2) := by decide +kernel
theorem d_MM_rewrite_166 : decode b_MM_rewrite 166 = .ok (.aload_n 0, 1) := by decide +kernel
theorem d_MM_rewrite_167 : decode b_MM_rewrite 167 = .ok (.aload_n 0, 1) := by decide +kernel
theorem d_MM_rewrite_168 : decode b_MM_rewrite 168 = .ok (.getfield 305, 3) := by decide +kernel
theorem d_MM_rewrite_171 : decode b_MM_rewrite 171 = .ok (.iload 4, 2) := by decide +kernel
theorem d_MM_rewrite_173 : decode b_MM_rewrite 173 = .ok (.iaload, 1) := by decide +kernel
theorem d_MM_rewrite_174 : decode b_MM_rewrite 174 = .ok (.invokevirtual 706, 3) := by decide +kernel
theorem d_MM_rewrite_177 : decode b_MM_rewrite 177 = .ok (.iastore, 1) := by decide +kernel
theorem d_MM_rewrite_178 : decode b_MM_rewrite 178 = .ok (.iconst 1, 1) := by decide +kernel
theorem d_MM_rewrite_179 : decode b_MM_rewrite 179 = .ok (.istore_n 3, 1) := by decide +kernel
theorem d_MM_rewrite_180 : decode b_MM_rewrite 180 = .ok (.iinc 4 1, 3) := by decide +kernel
theorem d_MM_rewrite_183 : decode b_MM_rewrite 183 = .ok (.goto (-87), 3) := by decide +kernel
theorem d_MM_rewrite_186 : decode b_MM_rewrite 186 = .ok (.iload_n 3, 1) := by decide +kernel
theorem d_MM_rewrite_187 : decode b_MM_rewrite 187 = .ok (.ifCond .ne 6, 3) := by decide +kernel
theorem d_MM_rewrite_190 : decode b_MM_rewrite 190 = .ok (.goto 81, 3) := by decide +kernel
theorem d_MM_rewrite_193 : decode b_MM_rewrite 193 = .ok (.iinc 2 1, 3) := by decide +kernel
theorem d_MM_rewrite_196 : decode b_MM_rewrite 196 = .ok (.iconst 0, 1) := by decide +kernel
theorem d_MM_rewrite_197 : decode b_MM_rewrite 197 = .ok (.istore 4, 2) := by decide +kernel
theorem d_MM_rewrite_199 : decode b_MM_rewrite 199 = .ok (.iconst 0, 1) := by decide +kernel
theorem d_MM_rewrite_200 : decode b_MM_rewrite 200 = .ok (.istore 5, 2) := by decide +kernel
theorem d_MM_rewrite_202 : decode b_MM_rewrite 202 = .ok (.iload 5, 2) := by decide +kernel
theorem d_MM_rewrite_204 : decode b_MM_rewrite 204 = .ok (.aload_n 0, 1) := by decide +kernel
theorem d_MM_rewrite_205 : decode b_MM_rewrite 205 = .ok (.getfield 377, 3) := by decide +kernel
theorem d_MM_rewrite_208 : decode b_MM_rewrite 208 = .ok (.if_icmp .ge 35, 3) := by decide +kernel
theorem d_MM_rewrite_211 : decode b_MM_rewrite 211 = .ok (.iload 4, 2) := by decide +kernel
theorem d_MM_rewrite_213 : decode b_MM_rewrite 213 = .ok (.ifCond .ne 17, 3) := by decide +kernel
theorem d_MM_rewrite_216 : decode b_MM_rewrite 216 = .ok (.aload_n 0, 1) := by decide +kernel
theorem d_MM_rewrite_217 : decode b_MM_rewrite 217 = .ok (.getfield 374, 3) := by decide +kernel
theorem d_MM_rewrite_220 : decode b_MM_rewrite 220 = .ok (.iload 5, 2) := by decide +kernel
theorem d_MM_rewrite_222 : decode b_MM_rewrite 222 = .ok (.iaload, 1) := by decide +kernel
theorem d_MM_rewrite_223 : decode b_MM_rewrite 223 = .ok (.aload_n 0, 1) := by decide +kernel
theorem d_MM_rewrite_224 : decode b_MM_rewrite 224 = .ok (.getfield 371, 3) := by decide +kernel
theorem d_MM_rewrite_227 : decode b_MM_rewrite 227 = .ok (.if_icmp .ne 7, 3) := by decide +kernel
theorem d_MM_rewrite_230 : decode b_MM_rewrite 230 = .ok (.iconst 1, 1) := by decide +kernel
theorem d_MM_rewrite_231 : decode b_MM_rewrite 231 = .ok (.goto 4, 3) := by decide +kernel
theorem d_MM_rewrite_234 : decode b_MM_rewrite 234 = .ok (.iconst 0, 1) := by decide +kernel
theorem d_MM_rewrite_235 : decode b_MM_rewrite 235 = .ok (.istore 4, 2) := by decide +kernel
theorem d_MM_rewrite_237 : decode b_MM_rewrite 237 = .ok (.iinc 5 1, 3) := by decide +kernel
theorem d_MM_rewrite_240 : decode b_MM_rewrite 240 = .ok (.goto (-38), 3) := by decide +kernel
theorem d_MM_rewrite_243 : decode b_MM_rewrite 243 = .ok (.iload 4, 2) := by decide +kernel
theorem d_MM_rewrite_245 : decode b_MM_rewrite 245 = .ok (.ifCond .ne 23, 3) := by decide +kernel
theorem d_MM_rewrite_248 : decode b_MM_rewrite 248 = .ok (.aload_n 0, 1) := by decide +kernel
theorem d_MM_rewrite_249 : decode b_MM_rewrite 249 = .ok (.getfield 374, 3) := by decide +kernel
theorem d_MM_rewrite_252 : decode b_MM_rewrite 252 = .ok (.aload_n 0, 1) := by decide +kernel
theorem d_MM_rewrite_253 : decode b_MM_rewrite 253 = .ok (.dup, 1) := by decide +kernel
theorem d_MM_rewrite_254 : decode b_MM_rewrite 254 = .ok (.getfield 377, 3) := by decide +kernel
theorem d_MM_rewrite_257 : decode b_MM_rewrite 257 = .ok (.dup_x1, 1) := by decide +kernel
theorem d_MM_rewrite_258 : decode b_MM_rewrite 258 = .ok (.iconst 1, 1) := by decide +kernel
theorem d_MM_rewrite_259 : decode b_MM_rewrite 259 = .ok (.iadd, 1) := by decide +kernel
theorem d_MM_rewrite_260 : decode b_MM_rewrite 260 = .ok (.putfield 377, 3) := by decide +kernel
theorem d_MM_rewrite_263 : decode b_MM_rewrite 263 = .ok (.aload_n 0, 1) := by decide +kernel
theorem d_MM_rewrite_264 : decode b_MM_rewrite 264 = .ok (.getfield 371, 3) := by decide +kernel
theorem d_MM_rewrite_267 : decode b_MM_rewrite 267 = .ok (.iastore, 1) := by decide +kernel
theorem d_MM_rewrite_268 : decode b_MM_rewrite 268 = .ok (.goto (-187), 3) := by decide +kernel
theorem d_MM_rewrite_271 : decode b_MM_rewrite 271 = .ok (.iload_n 2, 1) := by decide +kernel
theorem d_MM_rewrite_272 : decode b_MM_rewrite 272 = .ok (.ireturn, 1) := by decide +kernel
abbrev b_MM_findPlace : ByteArray := prog_14_method_95_code
def y_MM_findPlace : MethodName := ⟨"ClauseProverModel", "findPlace", "(I)Z"⟩
theorem d_MM_findPlace_0 : decode b_MM_findPlace 0 = .ok (.iconst 0, 1) := by decide +kernel
theorem d_MM_findPlace_1 : decode b_MM_findPlace 1 = .ok (.istore_n 2, 1) := by decide +kernel
theorem d_MM_findPlace_2 : decode b_MM_findPlace 2 = .ok (.iload_n 2, 1) := by decide +kernel
theorem d_MM_findPlace_3 : decode b_MM_findPlace 3 = .ok (.aload_n 0, 1) := by decide +kernel
theorem d_MM_findPlace_4 : decode b_MM_findPlace 4 = .ok (.getfield 269, 3) := by decide +kernel
theorem d_MM_findPlace_7 : decode b_MM_findPlace 7 = .ok (.if_icmp .ge 90, 3) := by decide +kernel
theorem d_MM_findPlace_10 : decode b_MM_findPlace 10 = .ok (.aload_n 0, 1) := by decide +kernel
theorem d_MM_findPlace_11 : decode b_MM_findPlace 11 = .ok (.getfield 256, 3) := by decide +kernel
theorem d_MM_findPlace_14 : decode b_MM_findPlace 14 = .ok (.iload_n 2, 1) := by decide +kernel
theorem d_MM_findPlace_15 : decode b_MM_findPlace 15 = .ok (.iaload, 1) := by decide +kernel
theorem d_MM_findPlace_16 : decode b_MM_findPlace 16 = .ok (.iconst 1, 1) := by decide +kernel
theorem d_MM_findPlace_17 : decode b_MM_findPlace 17 = .ok (.if_icmp .ne 74, 3) := by decide +kernel
theorem d_MM_findPlace_20 : decode b_MM_findPlace 20 = .ok (.aload_n 0, 1) := by decide +kernel
theorem d_MM_findPlace_21 : decode b_MM_findPlace 21 = .ok (.iload_n 2, 1) := by decide +kernel
theorem d_MM_findPlace_22 : decode b_MM_findPlace 22 = .ok (.invokevirtual 697, 3) := by decide +kernel
theorem d_MM_findPlace_25 : decode b_MM_findPlace 25 = .ok (.ifCond .ne 6, 3) := by decide +kernel
theorem d_MM_findPlace_28 : decode b_MM_findPlace 28 = .ok (.goto 63, 3) := by decide +kernel
theorem d_MM_findPlace_31 : decode b_MM_findPlace 31 = .ok (.iconst 0, 1) := by decide +kernel
theorem d_MM_findPlace_32 : decode b_MM_findPlace 32 = .ok (.istore_n 3, 1) := by decide +kernel
theorem d_MM_findPlace_33 : decode b_MM_findPlace 33 = .ok (.iload_n 3, 1) := by decide +kernel
theorem d_MM_findPlace_34 : decode b_MM_findPlace 34 = .ok (.iconst 2, 1) := by decide +kernel
theorem d_MM_findPlace_35 : decode b_MM_findPlace 35 = .ok (.if_icmp .ge 56, 3) := by decide +kernel
theorem d_MM_findPlace_38 : decode b_MM_findPlace 38 = .ok (.aload_n 0, 1) := by decide +kernel
theorem d_MM_findPlace_39 : decode b_MM_findPlace 39 = .ok (.getfield 157, 3) := by decide +kernel
theorem d_MM_findPlace_42 : decode b_MM_findPlace 42 = .ok (.istore 4, 2) := by decide +kernel
theorem d_MM_findPlace_44 : decode b_MM_findPlace 44 = .ok (.aload_n 0, 1) := by decide +kernel
theorem d_MM_findPlace_45 : decode b_MM_findPlace 45 = .ok (.iload_n 2, 1) := by decide +kernel
theorem d_MM_findPlace_46 : decode b_MM_findPlace 46 = .ok (.iload_n 3, 1) := by decide +kernel
theorem d_MM_findPlace_47 : decode b_MM_findPlace 47 = .ok (.iload_n 1, 1) := by decide +kernel
theorem d_MM_findPlace_48 : decode b_MM_findPlace 48 = .ok (.invokevirtual 700, 3) := by decide +kernel
theorem d_MM_findPlace_51 : decode b_MM_findPlace 51 = .ok (.istore 5, 2) := by decide +kernel
theorem d_MM_findPlace_53 : decode b_MM_findPlace 53 = .ok (.iload 5, 2) := by decide +kernel
theorem d_MM_findPlace_55 : decode b_MM_findPlace 55 = .ok (.ifCond .ge 12, 3) := by decide +kernel
theorem d_MM_findPlace_58 : decode b_MM_findPlace 58 = .ok (.aload_n 0, 1) := by decide +kernel
theorem d_MM_findPlace_59 : decode b_MM_findPlace 59 = .ok (.iload 4, 2) := by decide +kernel
theorem d_MM_findPlace_61 : decode b_MM_findPlace 61 = .ok (.putfield 157, 3) := by decide +kernel
theorem d_MM_findPlace_64 : decode b_MM_findPlace 64 = .ok (.goto 21, 3) := by decide +kernel
theorem d_MM_findPlace_67 : decode b_MM_findPlace 67 = .ok (.aload_n 0, 1) := by decide +kernel
theorem d_MM_findPlace_68 : decode b_MM_findPlace 68 = .ok (.iload_n 1, 1) := by decide +kernel
theorem d_MM_findPlace_69 : decode b_MM_findPlace 69 = .ok (.putfield 365, 3) := by decide +kernel
theorem d_MM_findPlace_72 : decode b_MM_findPlace 72 = .ok (.aload_n 0, 1) := by decide +kernel
theorem d_MM_findPlace_73 : decode b_MM_findPlace 73 = .ok (.iload 5, 2) := by decide +kernel
theorem d_MM_findPlace_75 : decode b_MM_findPlace 75 = .ok (.putfield 368, 3) := by decide +kernel
theorem d_MM_findPlace_78 : decode b_MM_findPlace 78 = .ok (.aload_n 0, 1) := by decide +kernel
theorem d_MM_findPlace_79 : decode b_MM_findPlace 79 = .ok (.iload_n 2, 1) := by decide +kernel
theorem d_MM_findPlace_80 : decode b_MM_findPlace 80 = .ok (.putfield 371, 3) := by decide +kernel
theorem d_MM_findPlace_83 : decode b_MM_findPlace 83 = .ok (.iconst 1, 1) := by decide +kernel
theorem d_MM_findPlace_84 : decode b_MM_findPlace 84 = .ok (.ireturn, 1) := by decide +kernel
theorem d_MM_findPlace_85 : decode b_MM_findPlace 85 = .ok (.iinc 3 1, 3) := by decide +kernel
theorem d_MM_findPlace_88 : decode b_MM_findPlace 88 = .ok (.goto (-55), 3) := by decide +kernel
theorem d_MM_findPlace_91 : decode b_MM_findPlace 91 = .ok (.iinc 2 1, 3) := by decide +kernel
theorem d_MM_findPlace_94 : decode b_MM_findPlace 94 = .ok (.goto (-92), 3) := by decide +kernel
theorem d_MM_findPlace_97 : decode b_MM_findPlace 97 = .ok (.aload_n 0, 1) := by decide +kernel
theorem d_MM_findPlace_98 : decode b_MM_findPlace 98 = .ok (.getfield 148, 3) := by decide +kernel
theorem d_MM_findPlace_101 : decode b_MM_findPlace 101 = .ok (.iload_n 1, 1) := by decide +kernel
theorem d_MM_findPlace_102 : decode b_MM_findPlace 102 = .ok (.iaload, 1) := by decide +kernel
theorem d_MM_findPlace_103 : decode b_MM_findPlace 103 = .ok (.istore_n 2, 1) := by decide +kernel
theorem d_MM_findPlace_104 : decode b_MM_findPlace 104 = .ok (.iload_n 2, 1) := by decide +kernel
theorem d_MM_findPlace_105 : decode b_MM_findPlace 105 = .ok (.ifCond .lt 23, 3) := by decide +kernel
theorem d_MM_findPlace_108 : decode b_MM_findPlace 108 = .ok (.aload_n 0, 1) := by decide +kernel
theorem d_MM_findPlace_109 : decode b_MM_findPlace 109 = .ok (.iload_n 2, 1) := by decide +kernel
theorem d_MM_findPlace_110 : decode b_MM_findPlace 110 = .ok (.invokevirtual 703, 3) := by decide +kernel
theorem d_MM_findPlace_113 : decode b_MM_findPlace 113 = .ok (.ifCond .eq 5, 3) := by decide +kernel
theorem d_MM_findPlace_116 : decode b_MM_findPlace 116 = .ok (.iconst 1, 1) := by decide +kernel
theorem d_MM_findPlace_117 : decode b_MM_findPlace 117 = .ok (.ireturn, 1) := by decide +kernel
theorem d_MM_findPlace_118 : decode b_MM_findPlace 118 = .ok (.aload_n 0, 1) := by decide +kernel
theorem d_MM_findPlace_119 : decode b_MM_findPlace 119 = .ok (.getfield 151, 3) := by decide +kernel
theorem d_MM_findPlace_122 : decode b_MM_findPlace 122 = .ok (.iload_n 2, 1) := by decide +kernel
theorem d_MM_findPlace_123 : decode b_MM_findPlace 123 = .ok (.iaload, 1) := by decide +kernel
theorem d_MM_findPlace_124 : decode b_MM_findPlace 124 = .ok (.istore_n 2, 1) := by decide +kernel
theorem d_MM_findPlace_125 : decode b_MM_findPlace 125 = .ok (.goto (-21), 3) := by decide +kernel
theorem d_MM_findPlace_128 : decode b_MM_findPlace 128 = .ok (.iconst 0, 1) := by decide +kernel
theorem d_MM_findPlace_129 : decode b_MM_findPlace 129 = .ok (.ireturn, 1) := by decide +kernel
abbrev b_MM_isUnit : ByteArray := prog_14_method_93_code
def y_MM_isUnit : MethodName := ⟨"ClauseProverModel", "isUnit", "(I)Z"⟩
theorem d_MM_isUnit_0 : decode b_MM_isUnit 0 = .ok (.aload_n 0, 1) := by decide +kernel
theorem d_MM_isUnit_1 : decode b_MM_isUnit 1 = .ok (.getfield 238, 3) := by decide +kernel
theorem d_MM_isUnit_4 : decode b_MM_isUnit 4 = .ok (.iload_n 1, 1) := by decide +kernel
theorem d_MM_isUnit_5 : decode b_MM_isUnit 5 = .ok (.iaload, 1) := by decide +kernel
theorem d_MM_isUnit_6 : decode b_MM_isUnit 6 = .ok (.iconst 1, 1) := by decide +kernel
theorem d_MM_isUnit_7 : decode b_MM_isUnit 7 = .ok (.if_icmp .ne 21, 3) := by decide +kernel
theorem d_MM_isUnit_10 : decode b_MM_isUnit 10 = .ok (.aload_n 0, 1) := by decide +kernel
theorem d_MM_isUnit_11 : decode b_MM_isUnit 11 = .ok (.getfield 220, 3) := by decide +kernel
theorem d_MM_isUnit_14 : decode b_MM_isUnit 14 = .ok (.aload_n 0, 1) := by decide +kernel
theorem d_MM_isUnit_15 : decode b_MM_isUnit 15 = .ok (.getfield 235, 3) := by decide +kernel
theorem d_MM_isUnit_18 : decode b_MM_isUnit 18 = .ok (.iload_n 1, 1) := by decide +kernel
theorem d_MM_isUnit_19 : decode b_MM_isUnit 19 = .ok (.iaload, 1) := by decide +kernel
theorem d_MM_isUnit_20 : decode b_MM_isUnit 20 = .ok (.baload, 1) := by decide +kernel
theorem d_MM_isUnit_21 : decode b_MM_isUnit 21 = .ok (.ifCond .eq 7, 3) := by decide +kernel
theorem d_MM_isUnit_24 : decode b_MM_isUnit 24 = .ok (.iconst 1, 1) := by decide +kernel
theorem d_MM_isUnit_25 : decode b_MM_isUnit 25 = .ok (.goto 4, 3) := by decide +kernel
theorem d_MM_isUnit_28 : decode b_MM_isUnit 28 = .ok (.iconst 0, 1) := by decide +kernel
theorem d_MM_isUnit_29 : decode b_MM_isUnit 29 = .ok (.ireturn, 1) := by decide +kernel
abbrev b_MM_becomes : ByteArray := prog_14_method_94_code
def y_MM_becomes : MethodName := ⟨"ClauseProverModel", "becomes", "(III)I"⟩
theorem d_MM_becomes_0 : decode b_MM_becomes 0 = .ok (.aload_n 0, 1) := by decide +kernel
theorem d_MM_becomes_1 : decode b_MM_becomes 1 = .ok (.getfield 362, 3) := by decide +kernel
theorem d_MM_becomes_4 : decode b_MM_becomes 4 = .ok (.iconst (-1), 1) := by decide +kernel
theorem d_MM_becomes_5 : decode b_MM_becomes 5 = .ok (.invokestatic 588, 3) := by decide +kernel
theorem d_MM_becomes_8 : decode b_MM_becomes 8 = .ok (.aload_n 0, 1) := by decide +kernel
theorem d_MM_becomes_9 : decode b_MM_becomes 9 = .ok (.aload_n 0, 1) := by decide +kernel
theorem d_MM_becomes_10 : decode b_MM_becomes 10 = .ok (.aload_n 0, 1) := by decide +kernel
theorem d_MM_becomes_11 : decode b_MM_becomes 11 = .ok (.getfield 235, 3) := by decide +kernel
theorem d_MM_becomes_14 : decode b_MM_becomes 14 = .ok (.iload_n 1, 1) := by decide +kernel
theorem d_MM_becomes_15 : decode b_MM_becomes 15 = .ok (.iaload, 1) := by decide +kernel
theorem d_MM_becomes_16 : decode b_MM_becomes 16 = .ok (.iload_n 2, 1) := by decide +kernel
theorem d_MM_becomes_17 : decode b_MM_becomes 17 = .ok (.iconst 0, 1) := by decide +kernel
theorem d_MM_becomes_18 : decode b_MM_becomes 18 = .ok (.invokevirtual 658, 3) := by decide +kernel
theorem d_MM_becomes_21 : decode b_MM_becomes 21 = .ok (.iload_n 3, 1) := by decide +kernel
theorem d_MM_becomes_22 : decode b_MM_becomes 22 = .ok (.invokevirtual 685, 3) := by decide +kernel
theorem d_MM_becomes_25 : decode b_MM_becomes 25 = .ok (.ifCond .ne 5, 3) := by decide +kernel
theorem d_MM_becomes_28 : decode b_MM_becomes 28 = .ok (.iconst (-1), 1) := by decide +kernel
theorem d_MM_becomes_29 : decode b_MM_becomes 29 = .ok (.ireturn, 1) := by decide +kernel
theorem d_MM_becomes_30 : decode b_MM_becomes 30 = .ok (.aload_n 0, 1) := by decide +kernel
theorem d_MM_becomes_31 : decode b_MM_becomes 31 = .ok (.aload_n 0, 1) := by decide +kernel
theorem d_MM_becomes_32 : decode b_MM_becomes 32 = .ok (.getfield 235, 3) := by decide +kernel
theorem d_MM_becomes_35 : decode b_MM_becomes 35 = .ok (.iload_n 1, 1) := by decide +kernel
theorem d_MM_becomes_36 : decode b_MM_becomes 36 = .ok (.iaload, 1) := by decide +kernel
theorem d_MM_becomes_37 : decode b_MM_becomes 37 = .ok (.iload_n 2, 1) := by decide +kernel
theorem d_MM_becomes_38 : decode b_MM_becomes 38 = .ok (.iconst 1, 1) := by decide +kernel
theorem d_MM_becomes_39 : decode b_MM_becomes 39 = .ok (.invokevirtual 658, 3) := by decide +kernel
theorem d_MM_becomes_42 : decode b_MM_becomes 42 = .ok (.istore 4, 2) := by decide +kernel
theorem d_MM_becomes_44 : decode b_MM_becomes 44 = .ok (.aload_n 0, 1) := by decide +kernel
theorem d_MM_becomes_45 : decode b_MM_becomes 45 = .ok (.iload 4, 2) := by decide +kernel
theorem d_MM_becomes_47 : decode b_MM_becomes 47 = .ok (.invokevirtual 688, 3) := by decide +kernel
theorem d_MM_becomes_50 : decode b_MM_becomes 50 = .ok (.ifCond .eq 18, 3) := by decide +kernel
theorem d_MM_becomes_53 : decode b_MM_becomes 53 = .ok (.aload_n 0, 1) := by decide +kernel
theorem d_MM_becomes_54 : decode b_MM_becomes 54 = .ok (.iload 4, 2) := by decide +kernel
theorem d_MM_becomes_56 : decode b_MM_becomes 56 = .ok (.invokevirtual 691, 3) := by decide +kernel
theorem d_MM_becomes_59 : decode b_MM_becomes 59 = .ok (.aload_n 0, 1) := by decide +kernel
theorem d_MM_becomes_60 : decode b_MM_becomes 60 = .ok (.getfield 154, 3) := by decide +kernel
theorem d_MM_becomes_63 : decode b_MM_becomes 63 = .ok (.iload_n 3, 1) := by decide +kernel
theorem d_MM_becomes_64 : decode b_MM_becomes 64 = .ok (.iaload, 1) := by decide +kernel
theorem d_MM_becomes_65 : decode b_MM_becomes 65 = .ok (.if_icmp .le 5, 3) := by decide +kernel
theorem d_MM_becomes_68 : decode b_MM_becomes 68 = .ok (.iconst (-1), 1) := by decide +kernel
theorem d_MM_becomes_69 : decode b_MM_becomes 69 = .ok (.ireturn, 1) := by decide +kernel
theorem d_MM_becomes_70 : decode b_MM_becomes 70 = .ok (.aload_n 0, 1) := by decide +kernel
theorem d_MM_becomes_71 : decode b_MM_becomes 71 = .ok (.iload 4, 2) := by decide +kernel
theorem d_MM_becomes_73 : decode b_MM_becomes 73 = .ok (.invokevirtual 694, 3) := by decide +kernel
theorem d_MM_becomes_76 : decode b_MM_becomes 76 = .ok (.istore 5, 2) := by decide +kernel
theorem d_MM_becomes_78 : decode b_MM_becomes 78 = .ok (.aload_n 0, 1) := by decide +kernel
theorem d_MM_becomes_79 : decode b_MM_becomes 79 = .ok (.iload_n 3, 1) := by decide +kernel
theorem d_MM_becomes_80 : decode b_MM_becomes 80 = .ok (.iload 5, 2) := by decide +kernel
theorem d_MM_becomes_82 : decode b_MM_becomes 82 = .ok (.invokevirtual 597, 3) := by decide +kernel
theorem d_MM_becomes_85 : decode b_MM_becomes 85 = .ok (.ifCond .eq 8, 3) := by decide +kernel
theorem d_MM_becomes_88 : decode b_MM_becomes 88 = .ok (.iload 5, 2) := by decide +kernel
theorem d_MM_becomes_90 : decode b_MM_becomes 90 = .ok (.goto 4, 3) := by decide +kernel
theorem d_MM_becomes_93 : decode b_MM_becomes 93 = .ok (.iconst (-1), 1) := by decide +kernel
theorem d_MM_becomes_94 : decode b_MM_becomes 94 = .ok (.ireturn, 1) := by decide +kernel
abbrev b_MM_side2 : ByteArray := prog_14_method_72_code
def y_MM_side2 : MethodName := ⟨"ClauseProverModel", "side", "(IIZ)I"⟩
theorem d_MM_side2_0 : decode b_MM_side2 0 = .ok (.iload_n 2, 1) := by decide +kernel
theorem d_MM_side2_1 : decode b_MM_side2 1 = .ok (.ifCond .ne 7, 3) := by decide +kernel
theorem d_MM_side2_4 : decode b_MM_side2 4 = .ok (.iconst 1, 1) := by decide +kernel
theorem d_MM_side2_5 : decode b_MM_side2 5 = .ok (.goto 4, 3) := by decide +kernel
theorem d_MM_side2_8 : decode b_MM_side2 8 = .ok (.iconst 0, 1) := by decide +kernel
theorem d_MM_side2_9 : decode b_MM_side2 9 = .ok (.iload_n 3, 1) := by decide +kernel
theorem d_MM_side2_10 : decode b_MM_side2 10 = .ok (.if_icmp .eq 12, 3) := by decide +kernel
theorem d_MM_side2_13 : decode b_MM_side2 13 = .ok (.aload_n 0, 1) := by decide +kernel
theorem d_MM_side2_14 : decode b_MM_side2 14 = .ok (.getfield 214, 3) := by decide +kernel
theorem d_MM_side2_17 : decode b_MM_side2 17 = .ok (.iload_n 1, 1) := by decide +kernel
theorem d_MM_side2_18 : decode b_MM_side2 18 = .ok (.iaload, 1) := by decide +kernel
theorem d_MM_side2_19 : decode b_MM_side2 19 = .ok (.goto 9, 3) := by decide +kernel
theorem d_MM_side2_22 : decode b_MM_side2 22 = .ok (.aload_n 0, 1) := by decide +kernel
theorem d_MM_side2_23 : decode b_MM_side2 23 = .ok (.getfield 217, 3) := by decide +kernel
theorem d_MM_side2_26 : decode b_MM_side2 26 = .ok (.iload_n 1, 1) := by decide +kernel
theorem d_MM_side2_27 : decode b_MM_side2 27 = .ok (.iaload, 1) := by decide +kernel
theorem d_MM_side2_28 : decode b_MM_side2 28 = .ok (.ireturn, 1) := by decide +kernel
abbrev b_MM_match : ByteArray := prog_14_method_89_code
def y_MM_match : MethodName := ⟨"ClauseProverModel", "match", "(II)Z"⟩
theorem d_MM_match_0 : decode b_MM_match 0 = .ok (.aload_n 0, 1) := by decide +kernel
theorem d_MM_match_1 : decode b_MM_match 1 = .ok (.getfield 145, 3) := by decide +kernel
theorem d_MM_match_4 : decode b_MM_match 4 = .ok (.iload_n 1, 1) := by decide +kernel
theorem d_MM_match_5 : decode b_MM_match 5 = .ok (.iaload, 1) := by decide +kernel
theorem d_MM_match_6 : decode b_MM_match 6 = .ok (.ifCond .ge 52, 3) := by decide +kernel
theorem d_MM_match_9 : decode b_MM_match 9 = .ok (.iconst (-1), 1) := by decide +kernel
theorem d_MM_match_10 : decode b_MM_match 10 = .ok (.aload_n 0, 1) := by decide +kernel
theorem d_MM_match_11 : decode b_MM_match 11 = .ok (.getfield 145, 3) := by decide +kernel
theorem d_MM_match_14 : decode b_MM_match 14 = .ok (.iload_n 1, 1) := by decide +kernel
theorem d_MM_match_15 : decode b_MM_match 15 = .ok (.iaload, 1) := by decide +kernel
theorem d_MM_match_16 : decode b_MM_match 16 = .ok (.isub, 1) := by decide +kernel
theorem d_MM_match_17 : decode b_MM_match 17 = .ok (.istore_n 3, 1) := by decide +kernel
theorem d_MM_match_18 : decode b_MM_match 18 = .ok (.aload_n 0, 1) := by decide +kernel
theorem d_MM_match_19 : decode b_MM_match 19 = .ok (.getfield 362, 3) := by decide +kernel
theorem d_MM_match_22 : decode b_MM_match 22 = .ok (.iload_n 3, 1) := by decide +kernel
theorem d_MM_match_23 : decode b_MM_match 23 = .ok (.iaload, 1) := by decide +kernel
theorem d_MM_match_24 : decode b_MM_match 24 = .ok (.ifCond .lt 15, 3) := by decide +kernel
theorem d_MM_match_27 : decode b_MM_match 27 = .ok (.aload_n 0, 1) := by decide +kernel
theorem d_MM_match_28 : decode b_MM_match 28 = .ok (.aload_n 0, 1) := by decide +kernel
theorem d_MM_match_29 : decode b_MM_match 29 = .ok (.getfield 362, 3) := by decide +kernel
theorem d_MM_match_32 : decode b_MM_match 32 = .ok (.iload_n 3, 1) := by decide +kernel
theorem d_MM_match_33 : decode b_MM_match 33 = .ok (.iaload, 1) := by decide +kernel
theorem d_MM_match_34 : decode b_MM_match 34 = .ok (.iload_n 2, 1) := by decide +kernel
theorem d_MM_match_35 : decode b_MM_match 35 = .ok (.invokevirtual 513, 3) := by decide +kernel
theorem d_MM_match_38 : decode b_MM_match 38 = .ok (.ireturn, 1) := by decide +kernel
theorem d_MM_match_39 : decode b_MM_match 39 = .ok (.aload_n 0, 1) := by decide +kernel
theorem d_MM_match_40 : decode b_MM_match 40 = .ok (.iload_n 2, 1) := by decide +kernel
theorem d_MM_match_41 : decode b_MM_match 41 = .ok (.invokevirtual 617, 3) := by decide +kernel
theorem d_MM_match_44 : decode b_MM_match 44 = .ok (.ifCond .eq 5, 3) := by decide +kernel
theorem d_MM_match_47 : decode b_MM_match 47 = .ok (.iconst 0, 1) := by decide +kernel
theorem d_MM_match_48 : decode b_MM_match 48 = .ok (.ireturn, 1) := by decide +kernel
theorem d_MM_match_49 : decode b_MM_match 49 = .ok (.aload_n 0, 1) := by decide +kernel
theorem d_MM_match_50 : decode b_MM_match 50 = .ok (.getfield 362, 3) := by decide +kernel
theorem d_MM_match_53 : decode b_MM_match 53 = .ok (.iload_n 3, 1) := by decide +kernel
theorem d_MM_match_54 : decode b_MM_match 54 = .ok (.iload_n 2, 1) := by decide +kernel
theorem d_MM_match_55 : decode b_MM_match 55 = .ok (.iastore, 1) := by decide +kernel
theorem d_MM_match_56 : decode b_MM_match 56 = .ok (.iconst 1, 1) := by decide +kernel
theorem d_MM_match_57 : decode b_MM_match 57 = .ok (.ireturn, 1) := by decide +kernel
theorem d_MM_match_58 : decode b_MM_match 58 = .ok (.aload_n 0, 1) := by decide +kernel
theorem d_MM_match_59 : decode b_MM_match 59 = .ok (.getfield 145, 3) := by decide +kernel
theorem d_MM_match_62 : decode b_MM_match 62 = .ok (.iload_n 1, 1) := by decide +kernel
theorem d_MM_match_63 : decode b_MM_match 63 = .ok (.iaload, 1) := by decide +kernel
theorem d_MM_match_64 : decode b_MM_match 64 = .ok (.aload_n 0, 1) := by decide +kernel
theorem d_MM_match_65 : decode b_MM_match 65 = .ok (.getfield 145, 3) := by decide +kernel
theorem d_MM_match_68 : decode b_MM_match 68 = .ok (.iload_n 2, 1) := by decide +kernel
theorem d_MM_match_69 : decode b_MM_match 69 = .ok (.iaload, 1) := by decide +kernel
theorem d_MM_match_70 : decode b_MM_match 70 = .ok (.if_icmp .eq 5, 3) := by decide +kernel
theorem d_MM_match_73 : decode b_MM_match 73 = .ok (.iconst 0, 1) := by decide +kernel
theorem d_MM_match_74 : decode b_MM_match 74 = .ok (.ireturn, 1) := by decide +kernel
theorem d_MM_match_75 : decode b_MM_match 75 = .ok (.aload_n 0, 1) := by decide +kernel
theorem d_MM_match_76 : decode b_MM_match 76 = .ok (.getfield 148, 3) := by decide +kernel
theorem d_MM_match_79 : decode b_MM_match 79 = .ok (.iload_n 2, 1) := by decide +kernel
theorem d_MM_match_80 : decode b_MM_match 80 = .ok (.iaload, 1) := by decide +kernel
theorem d_MM_match_81 : decode b_MM_match 81 = .ok (.istore_n 3, 1) := by decide +kernel
theorem d_MM_match_82 : decode b_MM_match 82 = .ok (.aload_n 0, 1) := by decide +kernel
theorem d_MM_match_83 : decode b_MM_match 83 = .ok (.getfield 148, 3) := by decide +kernel
theorem d_MM_match_86 : decode b_MM_match 86 = .ok (.iload_n 1, 1) := by decide +kernel
theorem d_MM_match_87 : decode b_MM_match 87 = .ok (.iaload, 1) := by decide +kernel
theorem d_MM_match_88 : decode b_MM_match 88 = .ok (.istore 4, 2) := by decide +kernel
theorem d_MM_match_90 : decode b_MM_match 90 = .ok (.iload 4, 2) := by decide +kernel
theorem d_MM_match_92 : decode b_MM_match 92 = .ok (.ifCond .lt 34, 3) := by decide +kernel
theorem d_MM_match_95 : decode b_MM_match 95 = .ok (.aload_n 0, 1) := by decide +kernel
theorem d_MM_match_96 : decode b_MM_match 96 = .ok (.iload 4, 2) := by decide +kernel
theorem d_MM_match_98 : decode b_MM_match 98 = .ok (.iload_n 3, 1) := by decide +kernel
theorem d_MM_match_99 : decode b_MM_match 99 = .ok (.invokevirtual 685, 3) := by decide +kernel
theorem d_MM_match_102 : decode b_MM_match 102 = .ok (.ifCond .ne 5, 3) := by decide +kernel
theorem d_MM_match_105 : decode b_MM_match 105 = .ok (.iconst 0, 1) := by decide +kernel
theorem d_MM_match_106 : decode b_MM_match 106 = .ok (.ireturn, 1) := by decide +kernel
theorem d_MM_match_107 : decode b_MM_match 107 = .ok (.aload_n 0, 1) := by decide +kernel
theorem d_MM_match_108 : decode b_MM_match 108 = .ok (.getfield 151, 3) := by decide +kernel
theorem d_MM_match_111 : decode b_MM_match 111 = .ok (.iload_n 3, 1) := by decide +kernel
theorem d_MM_match_112 : decode b_MM_match 112 = .ok (.iaload, 1) := by decide +kernel
theorem d_MM_match_113 : decode b_MM_match 113 = .ok (.istore_n 3, 1) := by decide +kernel
theorem d_MM_match_114 : decode b_MM_match 114 = .ok (.aload_n 0, 1) := by decide +kernel
theorem d_MM_match_115 : decode b_MM_match 115 = .ok (.getfield 151, 3) := by decide +kernel
theorem d_MM_match_118 : decode b_MM_match 118 = .ok (.iload 4, 2) := by decide +kernel
theorem d_MM_match_120 : decode b_MM_match 120 = .ok (.iaload, 1) := by decide +kernel
theorem d_MM_match_121 : decode b_MM_match 121 = .ok (.istore 4, 2) := by decide +kernel
theorem d_MM_match_123 : decode b_MM_match 123 = .ok (.goto (-33), 3) := by decide +kernel
theorem d_MM_match_126 : decode b_MM_match 126 = .ok (.iconst 1, 1) := by decide +kernel
theorem d_MM_match_127 : decode b_MM_match 127 = .ok (.ireturn, 1) := by decide +kernel
abbrev b_MM_isPredicate : ByteArray := prog_14_method_37_code
def y_MM_isPredicate : MethodName := ⟨"ClauseProverModel", "isPredicate", "(I)Z"⟩
theorem d_MM_isPredicate_0 : decode b_MM_isPredicate 0 = .ok (.aload_n 0, 1) := by decide +kernel
theorem d_MM_isPredicate_1 : decode b_MM_isPredicate 1 = .ok (.getfield 145, 3) := by decide +kernel
theorem d_MM_isPredicate_4 : decode b_MM_isPredicate 4 = .ok (.iload_n 1, 1) := by decide +kernel
theorem d_MM_isPredicate_5 : decode b_MM_isPredicate 5 = .ok (.iaload, 1) := by decide +kernel
theorem d_MM_isPredicate_6 : decode b_MM_isPredicate 6 = .ok (.ifCond .lt 21, 3) := by decide +kernel
theorem d_MM_isPredicate_9 : decode b_MM_isPredicate 9 = .ok (.aload_n 0, 1) := by decide +kernel
theorem d_MM_isPredicate_10 : decode b_MM_isPredicate 10 = .ok (.getfield 163, 3) := by decide +kernel
theorem d_MM_isPredicate_13 : decode b_MM_isPredicate 13 = .ok (.aload_n 0, 1) := by decide +kernel
theorem d_MM_isPredicate_14 : decode b_MM_isPredicate 14 = .ok (.getfield 145, 3) := by decide +kernel
theorem d_MM_isPredicate_17 : decode b_MM_isPredicate 17 = .ok (.iload_n 1, 1) := by decide +kernel
theorem d_MM_isPredicate_18 : decode b_MM_isPredicate 18 = .ok (.iaload, 1) := by decide +kernel
theorem d_MM_isPredicate_19 : decode b_MM_isPredicate 19 = .ok (.baload, 1) := by decide +kernel
theorem d_MM_isPredicate_20 : decode b_MM_isPredicate 20 = .ok (.ifCond .eq 7, 3) := by decide +kernel
theorem d_MM_isPredicate_23 : decode b_MM_isPredicate 23 = .ok (.iconst 1, 1) := by decide +kernel
theorem d_MM_isPredicate_24 : decode b_MM_isPredicate 24 = .ok (.goto 4, 3) := by decide +kernel
theorem d_MM_isPredicate_27 : decode b_MM_isPredicate 27 = .ok (.iconst 0, 1) := by decide +kernel
theorem d_MM_isPredicate_28 : decode b_MM_isPredicate 28 = .ok (.ireturn, 1) := by decide +kernel
abbrev b_MM_hasAll : ByteArray := prog_14_method_90_code
def y_MM_hasAll : MethodName := ⟨"ClauseProverModel", "hasAll", "(I)Z"⟩
theorem d_MM_hasAll_0 : decode b_MM_hasAll 0 = .ok (.aload_n 0, 1) := by decide +kernel
theorem d_MM_hasAll_1 : decode b_MM_hasAll 1 = .ok (.getfield 145, 3) := by decide +kernel
theorem d_MM_hasAll_4 : decode b_MM_hasAll 4 = .ok (.iload_n 1, 1) := by decide +kernel
theorem d_MM_hasAll_5 : decode b_MM_hasAll 5 = .ok (.iaload, 1) := by decide +kernel
theorem d_MM_hasAll_6 : decode b_MM_hasAll 6 = .ok (.ifCond .ge 25, 3) := by decide +kernel
theorem d_MM_hasAll_9 : decode b_MM_hasAll 9 = .ok (.aload_n 0, 1) := by decide +kernel
theorem d_MM_hasAll_10 : decode b_MM_hasAll 10 = .ok (.getfield 362, 3) := by decide +kernel
theorem d_MM_hasAll_13 : decode b_MM_hasAll 13 = .ok (.iconst (-1), 1) := by decide +kernel
theorem d_MM_hasAll_14 : decode b_MM_hasAll 14 = .ok (.aload_n 0, 1) := by decide +kernel
theorem d_MM_hasAll_15 : decode b_MM_hasAll 15 = .ok (.getfield 145, 3) := by decide +kernel
theorem d_MM_hasAll_18 : decode b_MM_hasAll 18 = .ok (.iload_n 1, 1) := by decide +kernel
theorem d_MM_hasAll_19 : decode b_MM_hasAll 19 = .ok (.iaload, 1) := by decide +kernel
theorem d_MM_hasAll_20 : decode b_MM_hasAll 20 = .ok (.isub, 1) := by decide +kernel
theorem d_MM_hasAll_21 : decode b_MM_hasAll 21 = .ok (.iaload, 1) := by decide +kernel
theorem d_MM_hasAll_22 : decode b_MM_hasAll 22 = .ok (.ifCond .lt 7, 3) := by decide +kernel
theorem d_MM_hasAll_25 : decode b_MM_hasAll 25 = .ok (.iconst 1, 1) := by decide +kernel
theorem d_MM_hasAll_26 : decode b_MM_hasAll 26 = .ok (.goto 4, 3) := by decide +kernel
theorem d_MM_hasAll_29 : decode b_MM_hasAll 29 = .ok (.iconst 0, 1) := by decide +kernel
theorem d_MM_hasAll_30 : decode b_MM_hasAll 30 = .ok (.ireturn, 1) := by decide +kernel
theorem d_MM_hasAll_31 : decode b_MM_hasAll 31 = .ok (.aload_n 0, 1) := by decide +kernel
theorem d_MM_hasAll_32 : decode b_MM_hasAll 32 = .ok (.getfield 148, 3) := by decide +kernel
theorem d_MM_hasAll_35 : decode b_MM_hasAll 35 = .ok (.iload_n 1, 1) := by decide +kernel
theorem d_MM_hasAll_36 : decode b_MM_hasAll 36 = .ok (.iaload, 1) := by decide +kernel
theorem d_MM_hasAll_37 : decode b_MM_hasAll 37 = .ok (.istore_n 2, 1) := by decide +kernel
theorem d_MM_hasAll_38 : decode b_MM_hasAll 38 = .ok (.iload_n 2, 1) := by decide +kernel
theorem d_MM_hasAll_39 : decode b_MM_hasAll 39 = .ok (.ifCond .lt 23, 3) := by decide +kernel
theorem d_MM_hasAll_42 : decode b_MM_hasAll 42 = .ok (.aload_n 0, 1) := by decide +kernel
theorem d_MM_hasAll_43 : decode b_MM_hasAll 43 = .ok (.iload_n 2, 1) := by decide +kernel
theorem d_MM_hasAll_44 : decode b_MM_hasAll 44 = .ok (.invokevirtual 688, 3) := by decide +kernel
theorem d_MM_hasAll_47 : decode b_MM_hasAll 47 = .ok (.ifCond .ne 5, 3) := by decide +kernel
theorem d_MM_hasAll_50 : decode b_MM_hasAll 50 = .ok (.iconst 0, 1) := by decide +kernel
theorem d_MM_hasAll_51 : decode b_MM_hasAll 51 = .ok (.ireturn, 1) := by decide +kernel
theorem d_MM_hasAll_52 : decode b_MM_hasAll 52 = .ok (.aload_n 0, 1) := by decide +kernel
theorem d_MM_hasAll_53 : decode b_MM_hasAll 53 = .ok (.getfield 151, 3) := by decide +kernel
theorem d_MM_hasAll_56 : decode b_MM_hasAll 56 = .ok (.iload_n 2, 1) := by decide +kernel
theorem d_MM_hasAll_57 : decode b_MM_hasAll 57 = .ok (.iaload, 1) := by decide +kernel
theorem d_MM_hasAll_58 : decode b_MM_hasAll 58 = .ok (.istore_n 2, 1) := by decide +kernel
theorem d_MM_hasAll_59 : decode b_MM_hasAll 59 = .ok (.goto (-21), 3) := by decide +kernel
theorem d_MM_hasAll_62 : decode b_MM_hasAll 62 = .ok (.iconst 1, 1) := by decide +kernel
theorem d_MM_hasAll_63 : decode b_MM_hasAll 63 = .ok (.ireturn, 1) := by decide +kernel
abbrev b_MM_weighMatched : ByteArray := prog_14_method_91_code
def y_MM_weighMatched : MethodName := ⟨"ClauseProverModel", "weighMatched", "(I)I"⟩
theorem d_MM_weighMatched_0 : decode b_MM_weighMatched 0 = .ok (.aload_n 0, 1) := by decide +kernel
theorem d_MM_weighMatched_1 : decode b_MM_weighMatched 1 = .ok (.getfield 145, 3) := by decide +kernel
theorem d_MM_weighMatched_4 : decode b_MM_weighMatched 4 = .ok (.iload_n 1, 1) := by decide +kernel
theorem d_MM_weighMatched_5 : decode b_MM_weighMatched 5 = .ok (.iaload, 1) := by decide +kernel
theorem d_MM_weighMatched_6 : decode b_MM_weighMatched 6 = .ok (.ifCond .ge 22, 3) := by decide +kernel
theorem d_MM_weighMatched_9 : decode b_MM_weighMatched 9 = .ok (.aload_n 0, 1) := by decide +kernel
theorem d_MM_weighMatched_10 : decode b_MM_weighMatched 10 = .ok (.getfield 154, 3) := by decide +kernel
theorem d_MM_weighMatched_13 : decode b_MM_weighMatched 13 = .ok (.aload_n 0, 1) := by decide +kernel
theorem d_MM_weighMatched_14 : decode b_MM_weighMatched 14 = .ok (.getfield 362, 3) := by decide +kernel
theorem d_MM_weighMatched_17 : decode b_MM_weighMatched 17 = .ok (.iconst (-1), 1) := by decide +kernel
theorem d_MM_weighMatched_18 : decode b_MM_weighMatched 18 = .ok (.aload_n 0, 1) := by decide +kernel
theorem d_MM_weighMatched_19 : decode b_MM_weighMatched 19 = .ok (.getfield 145, 3) := by decide +kernel
theorem d_MM_weighMatched_22 : decode b_MM_weighMatched 22 = .ok (.iload_n 1, 1) := by decide +kernel
theorem d_MM_weighMatched_23 : decode b_MM_weighMatched 23 = .ok (.iaload, 1) := by decide +kernel
theorem d_MM_weighMatched_24 : decode b_MM_weighMatched 24 = .ok (.isub, 1) := by decide +kernel
theorem d_MM_weighMatched_25 : decode b_MM_weighMatched 25 = .ok (.iaload, 1) := by decide +kernel
theorem d_MM_weighMatched_26 : decode b_MM_weighMatched 26 = .ok (.iaload, 1) := by decide +kernel
theorem d_MM_weighMatched_27 : decode b_MM_weighMatched 27 = .ok (.ireturn, 1) := by decide +kernel
theorem d_MM_weighMatched_28 : decode b_MM_weighMatched 28 = .ok (.iconst 1, 1) := by decide +kernel
theorem d_MM_weighMatched_29 : decode b_MM_weighMatched 29 = .ok (.istore_n 2, 1) := by decide +kernel
theorem d_MM_weighMatched_30 : decode b_MM_weighMatched 30 = .ok (.aload_n 0, 1) := by decide +kernel
theorem d_MM_weighMatched_31 : decode b_MM_weighMatched 31 = .ok (.getfield 148, 3) := by decide +kernel
theorem d_MM_weighMatched_34 : decode b_MM_weighMatched 34 = .ok (.iload_n 1, 1) := by decide +kernel
theorem d_MM_weighMatched_35 : decode b_MM_weighMatched 35 = .ok (.iaload, 1) := by decide +kernel
theorem d_MM_weighMatched_36 : decode b_MM_weighMatched 36 = .ok (.istore_n 3, 1) := by decide +kernel
theorem d_MM_weighMatched_37 : decode b_MM_weighMatched 37 = .ok (.iload_n 3, 1) := by decide +kernel
theorem d_MM_weighMatched_38 : decode b_MM_weighMatched 38 = .ok (.ifCond .lt 21, 3) := by decide +kernel
theorem d_MM_weighMatched_41 : decode b_MM_weighMatched 41 = .ok (.iload_n 2, 1) := by decide +kernel
theorem d_MM_weighMatched_42 : decode b_MM_weighMatched 42 = .ok (.aload_n 0, 1) := by decide +kernel
theorem d_MM_weighMatched_43 : decode b_MM_weighMatched 43 = .ok (.iload_n 3, 1) := by decide +kernel
theorem d_MM_weighMatched_44 : decode b_MM_weighMatched 44 = .ok (.invokevirtual 691, 3) := by decide +kernel
theorem d_MM_weighMatched_47 : decode b_MM_weighMatched 47 = .ok (.iadd, 1) := by decide +kernel
theorem d_MM_weighMatched_48 : decode b_MM_weighMatched 48 = .ok (.istore_n 2, 1) := by decide +kernel
theorem d_MM_weighMatched_49 : decode b_MM_weighMatched 49 = .ok (.aload_n 0, 1) := by decide +kernel
theorem d_MM_weighMatched_50 : decode b_MM_weighMatched 50 = .ok (.getfield 151, 3) := by decide +kernel
theorem d_MM_weighMatched_53 : decode b_MM_weighMatched 53 = .ok (.iload_n 3, 1) := by decide +kernel
theorem d_MM_weighMatched_54 : decode b_MM_weighMatched 54 = .ok (.iaload, 1) := by decide +kernel
theorem d_MM_weighMatched_55 : decode b_MM_weighMatched 55 = .ok (.istore_n 3, 1) := by decide +kernel
theorem d_MM_weighMatched_56 : decode b_MM_weighMatched 56 = .ok (.goto (-19), 3) := by decide +kernel
theorem d_MM_weighMatched_59 : decode b_MM_weighMatched 59 = .ok (.iload_n 2, 1) := by decide +kernel
theorem d_MM_weighMatched_60 : decode b_MM_weighMatched 60 = .ok (.ireturn, 1) := by decide +kernel
abbrev b_MM_withMatched : ByteArray := prog_14_method_92_code
def y_MM_withMatched : MethodName := ⟨"ClauseProverModel", "withMatched", "(I)I"⟩
theorem d_MM_withMatched_0 : decode b_MM_withMatched 0 = .ok (.aload_n 0, 1) := by decide +kernel
theorem d_MM_withMatched_1 : decode b_MM_withMatched 1 = .ok (.getfield 145, 3) := by decide +kernel
theorem d_MM_withMatched_4 : decode b_MM_withMatched 4 = .ok (.iload_n 1, 1) := by decide +kernel
theorem d_MM_withMatched_5 : decode b_MM_withMatched 5 = .ok (.iaload, 1) := by decide +kernel
theorem d_MM_withMatched_6 : decode b_MM_withMatched 6 = .ok (.ifCond .ge 21, 3) := by decide +kernel
theorem d_MM_withMatched_9 : decode b_MM_withMatched 9 = .ok (.aload_n 0, 1) := by decide +kernel
theorem d_MM_withMatched_10 : decode b_MM_withMatched 10 = .ok (.aload_n 0, 1) := by decide +kernel
theorem d_MM_withMatched_11 : decode b_MM_withMatched 11 = .ok (.getfield 362, 3) := by decide +kernel
theorem d_MM_withMatched_14 : decode b_MM_withMatched 14 = .ok (.iconst (-1), 1) := by decide +kernel
theorem d_MM_withMatched_15 : decode b_MM_withMatched 15 = .ok (.aload_n 0, 1) := by decide +kernel
theorem d_MM_withMatched_16 : decode b_MM_withMatched 16 = .ok (.getfield 145, 3) := by decide +kernel
theorem d_MM_withMatched_19 : decode b_MM_withMatched 19 = .ok (.iload_n 1, 1) := by decide +kernel
theorem d_MM_withMatched_20 : decode b_MM_withMatched 20 = .ok (.iaload, 1) := by decide +kernel
theorem d_MM_withMatched_21 : decode b_MM_withMatched 21 = .ok (.isub, 1) := by decide +kernel
theorem d_MM_withMatched_22 : decode b_MM_withMatched 22 = .ok (.iaload, 1) := by decide +kernel
theorem d_MM_withMatched_23 : decode b_MM_withMatched 23 = .ok (.invokevirtual 519, 3) := by decide +kernel
theorem d_MM_withMatched_26 : decode b_MM_withMatched 26 = .ok (.ireturn, 1) := by decide +kernel
theorem d_MM_withMatched_27 : decode b_MM_withMatched 27 = .ok (.aload_n 0, 1) := by decide +kernel
theorem d_MM_withMatched_28 : decode b_MM_withMatched 28 = .ok (.aload_n 0, 1) := by decide +kernel
theorem d_MM_withMatched_29 : decode b_MM_withMatched 29 = .ok (.getfield 145, 3) := by decide +kernel
theorem d_MM_withMatched_32 : decode b_MM_withMatched 32 = .ok (.iload_n 1, 1) := by decide +kernel
theorem d_MM_withMatched_33 : decode b_MM_withMatched 33 = .ok (.iaload, 1) := by decide +kernel
theorem d_MM_withMatched_34 : decode b_MM_withMatched 34 = .ok (.invokevirtual 516, 3) := by decide +kernel
theorem d_MM_withMatched_37 : decode b_MM_withMatched 37 = .ok (.istore_n 2, 1) := by decide +kernel
theorem d_MM_withMatched_38 : decode b_MM_withMatched 38 = .ok (.iconst (-1), 1) := by decide +kernel
theorem d_MM_withMatched_39 : decode b_MM_withMatched 39 = .ok (.istore_n 3, 1) := by decide +kernel
theorem d_MM_withMatched_40 : decode b_MM_withMatched 40 = .ok (.aload_n 0, 1) := by decide +kernel
theorem d_MM_withMatched_41 : decode b_MM_withMatched 41 = .ok (.getfield 148, 3) := by decide +kernel
theorem d_MM_withMatched_44 : decode b_MM_withMatched 44 = .ok (.iload_n 1, 1) := by decide +kernel
theorem d_MM_withMatched_45 : decode b_MM_withMatched 45 = .ok (.iaload, 1) := by decide +kernel
theorem d_MM_withMatched_46 : decode b_MM_withMatched 46 = .ok (.istore 4, 2) := by decide +kernel
theorem d_MM_withMatched_48 : decode b_MM_withMatched 48 = .ok (.iload 4, 2) := by decide +kernel
theorem d_MM_withMatched_50 : decode b_MM_withMatched 50 = .ok (.ifCond .lt 65, 3) := by decide +kernel
theorem d_MM_withMatched_53 : decode b_MM_withMatched 53 = .ok (.aload_n 0, 1) := by decide +kernel
theorem d_MM_withMatched_54 : decode b_MM_withMatched 54 = .ok (.iload 4, 2) := by decide +kernel
theorem d_MM_withMatched_56 : decode b_MM_withMatched 56 = .ok (.invokevirtual 694, 3) := by decide +kernel
theorem d_MM_withMatched_59 : decode b_MM_withMatched 59 = .ok (.istore 5, 2) := by decide +kernel
theorem d_MM_withMatched_61 : decode b_MM_withMatched 61 = .ok (.iload_n 3, 1) := by decide +kernel
theorem d_MM_withMatched_62 : decode b_MM_withMatched 62 = .ok (.ifCond .ge 14, 3) := by decide +kernel
theorem d_MM_withMatched_65 : decode b_MM_withMatched 65 = .ok (.aload_n 0, 1) := by decide +kernel
theorem d_MM_withMatched_66 : decode b_MM_withMatched 66 = .ok (.getfield 148, 3) := by decide +kernel
theorem d_MM_withMatched_69 : decode b_MM_withMatched 69 = .ok (.iload_n 2, 1) := by decide +kernel
theorem d_MM_withMatched_70 : decode b_MM_withMatched 70 = .ok (.iload 5, 2) := by decide +kernel
theorem d_MM_withMatched_72 : decode b_MM_withMatched 72 = .ok (.iastore, 1) := by decide +kernel
theorem d_MM_withMatched_73 : decode b_MM_withMatched 73 = .ok (.goto 11, 3) := by decide +kernel
theorem d_MM_withMatched_76 : decode b_MM_withMatched 76 = .ok (.aload_n 0, 1) := by decide +kernel
theorem d_MM_withMatched_77 : decode b_MM_withMatched 77 = .ok (.getfield 151, 3) := by decide +kernel
theorem d_MM_withMatched_80 : decode b_MM_withMatched 80 = .ok (.iload_n 3, 1) := by decide +kernel
theorem d_MM_withMatched_81 : decode b_MM_withMatched 81 = .ok (.iload 5, 2) := by decide +kernel
theorem d_MM_withMatched_83 : decode b_MM_withMatched 83 = .ok (.iastore, 1) := by decide +kernel
theorem d_MM_withMatched_84 : decode b_MM_withMatched 84 = .ok (.iload 5, 2) := by decide +kernel
theorem d_MM_withMatched_86 : decode b_MM_withMatched 86 = .ok (.istore_n 3, 1) := by decide +kernel
theorem d_MM_withMatched_87 : decode b_MM_withMatched 87 = .ok (.aload_n 0, 1) := by decide +kernel
theorem d_MM_withMatched_88 : decode b_MM_withMatched 88 = .ok (.getfield 154, 3) := by decide +kernel
theorem d_MM_withMatched_91 : decode b_MM_withMatched 91 = .ok (.iload_n 2, 1) := by decide +kernel
theorem d_MM_withMatched_92 : decode b_MM_withMatched 92 = .ok (.dup2, 1) := by decide +kernel
theorem d_MM_withMatched_93 : decode b_MM_withMatched 93 = .ok (.iaload, 1) := by decide +kernel
theorem d_MM_withMatched_94 : decode b_MM_withMatched 94 = .ok (.aload_n 0, 1) := by decide +kernel
theorem d_MM_withMatched_95 : decode b_MM_withMatched 95 = .ok (.getfield 154, 3) := by decide +kernel
theorem d_MM_withMatched_98 : decode b_MM_withMatched 98 = .ok (.iload 5, 2) := by decide +kernel
theorem d_MM_withMatched_100 : decode b_MM_withMatched 100 = .ok (.iaload, 1) := by decide +kernel
theorem d_MM_withMatched_101 : decode b_MM_withMatched 101 = .ok (.iadd, 1) := by decide +kernel
theorem d_MM_withMatched_102 : decode b_MM_withMatched 102 = .ok (.iastore, 1) := by decide +kernel
theorem d_MM_withMatched_103 : decode b_MM_withMatched 103 = .ok (.aload_n 0, 1) := by decide +kernel
theorem d_MM_withMatched_104 : decode b_MM_withMatched 104 = .ok (.getfield 151, 3) := by decide +kernel
theorem d_MM_withMatched_107 : decode b_MM_withMatched 107 = .ok (.iload 4, 2) := by decide +kernel
theorem d_MM_withMatched_109 : decode b_MM_withMatched 109 = .ok (.iaload, 1) := by decide +kernel
theorem d_MM_withMatched_110 : decode b_MM_withMatched 110 = .ok (.istore 4, 2) := by decide +kernel
theorem d_MM_withMatched_112 : decode b_MM_withMatched 112 = .ok (.goto (-64), 3) := by decide +kernel
theorem d_MM_withMatched_115 : decode b_MM_withMatched 115 = .ok (.iload_n 2, 1) := by decide +kernel
theorem d_MM_withMatched_116 : decode b_MM_withMatched 116 = .ok (.ireturn, 1) := by decide +kernel
abbrev b_MM_replacedIn : ByteArray := prog_14_method_96_code
def y_MM_replacedIn : MethodName := ⟨"ClauseProverModel", "replacedIn", "(I)I"⟩
theorem d_MM_replacedIn_0 : decode b_MM_replacedIn 0 = .ok (.iload_n 1, 1) := by decide +kernel
theorem d_MM_replacedIn_1 : decode b_MM_replacedIn 1 = .ok (.aload_n 0, 1) := by decide +kernel
theorem d_MM_replacedIn_2 : decode b_MM_replacedIn 2 = .ok (.getfield 365, 3) := by decide +kernel
theorem d_MM_replacedIn_5 : decode b_MM_replacedIn 5 = .ok (.if_icmp .ne 12, 3) := by decide +kernel
theorem d_MM_replacedIn_8 : decode b_MM_replacedIn 8 = .ok (.aload_n 0, 1) := by decide +kernel
theorem d_MM_replacedIn_9 : decode b_MM_replacedIn 9 = .ok (.aload_n 0, 1) := by decide +kernel
theorem d_MM_replacedIn_10 : decode b_MM_replacedIn 10 = .ok (.getfield 368, 3) := by decide +kernel
theorem d_MM_replacedIn_13 : decode b_MM_replacedIn 13 = .ok (.invokevirtual 519, 3) := by decide +kernel
theorem d_MM_replacedIn_16 : decode b_MM_replacedIn 16 = .ok (.ireturn, 1) := by decide +kernel
theorem d_MM_replacedIn_17 : decode b_MM_replacedIn 17 = .ok (.aload_n 0, 1) := by decide +kernel
theorem d_MM_replacedIn_18 : decode b_MM_replacedIn 18 = .ok (.aload_n 0, 1) := by decide +kernel
theorem d_MM_replacedIn_19 : decode b_MM_replacedIn 19 = .ok (.getfield 145, 3) := by decide +kernel
theorem d_MM_replacedIn_22 : decode b_MM_replacedIn 22 = .ok (.iload_n 1, 1) := by decide +kernel
theorem d_MM_replacedIn_23 : decode b_MM_replacedIn 23 = .ok (.iaload, 1) := by decide +kernel
theorem d_MM_replacedIn_24 : decode b_MM_replacedIn 24 = .ok (.invokevirtual 516, 3) := by decide +kernel
theorem d_MM_replacedIn_27 : decode b_MM_replacedIn 27 = .ok (.istore_n 2, 1) := by decide +kernel
theorem d_MM_replacedIn_28 : decode b_MM_replacedIn 28 = .ok (.iconst (-1), 1) := by decide +kernel
theorem d_MM_replacedIn_29 : decode b_MM_replacedIn 29 = .ok (.istore_n 3, 1) := by decide +kernel
theorem d_MM_replacedIn_30 : decode b_MM_replacedIn 30 = .ok (.aload_n 0, 1) := by decide +kernel
theorem d_MM_replacedIn_31 : decode b_MM_replacedIn 31 = .ok (.getfield 148, 3) := by decide +kernel
theorem d_MM_replacedIn_34 : decode b_MM_replacedIn 34 = .ok (.iload_n 1, 1) := by decide +kernel
theorem d_MM_replacedIn_35 : decode b_MM_replacedIn 35 = .ok (.iaload, 1) := by decide +kernel
theorem d_MM_replacedIn_36 : decode b_MM_replacedIn 36 = .ok (.istore 4, 2) := by decide +kernel
theorem d_MM_replacedIn_38 : decode b_MM_replacedIn 38 = .ok (.iload 4, 2) := by decide +kernel
theorem d_MM_replacedIn_40 : decode b_MM_replacedIn 40 = .ok (.ifCond .lt 65, 3) := by decide +kernel
theorem d_MM_replacedIn_43 : decode b_MM_replacedIn 43 = .ok (.aload_n 0, 1) := by decide +kernel
theorem d_MM_replacedIn_44 : decode b_MM_replacedIn 44 = .ok (.iload 4, 2) := by decide +kernel
theorem d_MM_replacedIn_46 : decode b_MM_replacedIn 46 = .ok (.invokevirtual 706, 3) := by decide +kernel
theorem d_MM_replacedIn_49 : decode b_MM_replacedIn 49 = .ok (.istore 5, 2) := by decide +kernel
theorem d_MM_replacedIn_51 : decode b_MM_replacedIn 51 = .ok (.iload_n 3, 1) := by decide +kernel
theorem d_MM_replacedIn_52 : decode b_MM_replacedIn 52 = .ok (.ifCond .ge 14, 3) := by decide +kernel
theorem d_MM_replacedIn_55 : decode b_MM_replacedIn 55 = .ok (.aload_n 0, 1) := by decide +kernel
theorem d_MM_replacedIn_56 : decode b_MM_replacedIn 56 = .ok (.getfield 148, 3) := by decide +kernel
theorem d_MM_replacedIn_59 : decode b_MM_replacedIn 59 = .ok (.iload_n 2, 1) := by decide +kernel
theorem d_MM_replacedIn_60 : decode b_MM_replacedIn 60 = .ok (.iload 5, 2) := by decide +kernel
theorem d_MM_replacedIn_62 : decode b_MM_replacedIn 62 = .ok (.iastore, 1) := by decide +kernel
theorem d_MM_replacedIn_63 : decode b_MM_replacedIn 63 = .ok (.goto 11, 3) := by decide +kernel
theorem d_MM_replacedIn_66 : decode b_MM_replacedIn 66 = .ok (.aload_n 0, 1) := by decide +kernel
theorem d_MM_replacedIn_67 : decode b_MM_replacedIn 67 = .ok (.getfield 151, 3) := by decide +kernel
theorem d_MM_replacedIn_70 : decode b_MM_replacedIn 70 = .ok (.iload_n 3, 1) := by decide +kernel
theorem d_MM_replacedIn_71 : decode b_MM_replacedIn 71 = .ok (.iload 5, 2) := by decide +kernel
theorem d_MM_replacedIn_73 : decode b_MM_replacedIn 73 = .ok (.iastore, 1) := by decide +kernel
theorem d_MM_replacedIn_74 : decode b_MM_replacedIn 74 = .ok (.iload 5, 2) := by decide +kernel
theorem d_MM_replacedIn_76 : decode b_MM_replacedIn 76 = .ok (.istore_n 3, 1) := by decide +kernel
theorem d_MM_replacedIn_77 : decode b_MM_replacedIn 77 = .ok (.aload_n 0, 1) := by decide +kernel
theorem d_MM_replacedIn_78 : decode b_MM_replacedIn 78 = .ok (.getfield 154, 3) := by decide +kernel
theorem d_MM_replacedIn_81 : decode b_MM_replacedIn 81 = .ok (.iload_n 2, 1) := by decide +kernel
theorem d_MM_replacedIn_82 : decode b_MM_replacedIn 82 = .ok (.dup2, 1) := by decide +kernel
theorem d_MM_replacedIn_83 : decode b_MM_replacedIn 83 = .ok (.iaload, 1) := by decide +kernel
theorem d_MM_replacedIn_84 : decode b_MM_replacedIn 84 = .ok (.aload_n 0, 1) := by decide +kernel
theorem d_MM_replacedIn_85 : decode b_MM_replacedIn 85 = .ok (.getfield 154, 3) := by decide +kernel
theorem d_MM_replacedIn_88 : decode b_MM_replacedIn 88 = .ok (.iload 5, 2) := by decide +kernel
theorem d_MM_replacedIn_90 : decode b_MM_replacedIn 90 = .ok (.iaload, 1) := by decide +kernel
theorem d_MM_replacedIn_91 : decode b_MM_replacedIn 91 = .ok (.iadd, 1) := by decide +kernel
theorem d_MM_replacedIn_92 : decode b_MM_replacedIn 92 = .ok (.iastore, 1) := by decide +kernel
theorem d_MM_replacedIn_93 : decode b_MM_replacedIn 93 = .ok (.aload_n 0, 1) := by decide +kernel
theorem d_MM_replacedIn_94 : decode b_MM_replacedIn 94 = .ok (.getfield 151, 3) := by decide +kernel
theorem d_MM_replacedIn_97 : decode b_MM_replacedIn 97 = .ok (.iload 4, 2) := by decide +kernel
theorem d_MM_replacedIn_99 : decode b_MM_replacedIn 99 = .ok (.iaload, 1) := by decide +kernel
theorem d_MM_replacedIn_100 : decode b_MM_replacedIn 100 = .ok (.istore 4, 2) := by decide +kernel
theorem d_MM_replacedIn_102 : decode b_MM_replacedIn 102 = .ok (.goto (-64), 3) := by decide +kernel
theorem d_MM_replacedIn_105 : decode b_MM_replacedIn 105 = .ok (.iload_n 2, 1) := by decide +kernel
theorem d_MM_replacedIn_106 : decode b_MM_replacedIn 106 = .ok (.ireturn, 1) := by decide +kernel
abbrev b_MM_subsumes : ByteArray := prog_14_method_100_code
def y_MM_subsumes : MethodName := ⟨"ClauseProverModel", "subsumes", "(II)Z"⟩
theorem d_MM_subsumes_0 : decode b_MM_subsumes 0 = .ok (.aload_n 0, 1) := by decide +kernel
theorem d_MM_subsumes_1 : decode b_MM_subsumes 1 = .ok (.getfield 238, 3) := by decide +kernel
theorem d_MM_subsumes_4 : decode b_MM_subsumes 4 = .ok (.iload_n 1, 1) := by decide +kernel
theorem d_MM_subsumes_5 : decode b_MM_subsumes 5 = .ok (.iaload, 1) := by decide +kernel
theorem d_MM_subsumes_6 : decode b_MM_subsumes 6 = .ok (.aload_n 0, 1) := by decide +kernel
theorem d_MM_subsumes_7 : decode b_MM_subsumes 7 = .ok (.getfield 238, 3) := by decide +kernel
theorem d_MM_subsumes_10 : decode b_MM_subsumes 10 = .ok (.iload_n 2, 1) := by decide +kernel
theorem d_MM_subsumes_11 : decode b_MM_subsumes 11 = .ok (.iaload, 1) := by decide +kernel
theorem d_MM_subsumes_12 : decode b_MM_subsumes 12 = .ok (.if_icmp .le 5, 3) := by decide +kernel
theorem d_MM_subsumes_15 : decode b_MM_subsumes 15 = .ok (.iconst 0, 1) := by decide +kernel
theorem d_MM_subsumes_16 : decode b_MM_subsumes 16 = .ok (.ireturn, 1) := by decide +kernel
theorem d_MM_subsumes_17 : decode b_MM_subsumes 17 = .ok (.aload_n 0, 1) := by decide +kernel
theorem d_MM_subsumes_18 : decode b_MM_subsumes 18 = .ok (.getfield 362, 3) := by decide +kernel
theorem d_MM_subsumes_21 : decode b_MM_subsumes 21 = .ok (.iconst (-1), 1) := by decide +kernel
theorem d_MM_subsumes_22 : decode b_MM_subsumes 22 = .ok (.invokestatic 588, 3) := by decide +kernel
theorem d_MM_subsumes_25 : decode b_MM_subsumes 25 = .ok (.aload_n 0, 1) := by decide +kernel
theorem d_MM_subsumes_26 : decode b_MM_subsumes 26 = .ok (.iload_n 1, 1) := by decide +kernel
theorem d_MM_subsumes_27 : decode b_MM_subsumes 27 = .ok (.iload_n 2, 1) := by decide +kernel
theorem d_MM_subsumes_28 : decode b_MM_subsumes 28 = .ok (.iconst 0, 1) := by decide +kernel
theorem d_MM_subsumes_29 : decode b_MM_subsumes 29 = .ok (.invokevirtual 712, 3) := by decide +kernel
theorem d_MM_subsumes_32 : decode b_MM_subsumes 32 = .ok (.ireturn, 1) := by decide +kernel
abbrev b_MM_covers : ByteArray := prog_14_method_101_code
def y_MM_covers : MethodName := ⟨"ClauseProverModel", "covers", "(III)Z"⟩
theorem d_MM_covers_0 : decode b_MM_covers 0 = .ok (.iload_n 3, 1) := by decide +kernel
theorem d_MM_covers_1 : decode b_MM_covers 1 = .ok (.aload_n 0, 1) := by decide +kernel
theorem d_MM_covers_2 : decode b_MM_covers 2 = .ok (.getfield 238, 3) := by decide +kernel
theorem d_MM_covers_5 : decode b_MM_covers 5 = .ok (.iload_n 1, 1) := by decide +kernel
theorem d_MM_covers_6 : decode b_MM_covers 6 = .ok (.iaload, 1) := by decide +kernel
theorem d_MM_covers_7 : decode b_MM_covers 7 = .ok (.if_icmp .ne 5, 3) := by decide +kernel
theorem d_MM_covers_10 : decode b_MM_covers 10 = .ok (.iconst 1, 1) := by decide +kernel
theorem d_MM_covers_11 : decode b_MM_covers 11 = .ok (.ireturn, 1) := by decide +kernel
theorem d_MM_covers_12 : decode b_MM_covers 12 = .ok (.aload_n 0, 1) := by decide +kernel
theorem d_MM_covers_13 : decode b_MM_covers 13 = .ok (.getfield 235, 3) := by decide +kernel
theorem d_MM_covers_16 : decode b_MM_covers 16 = .ok (.iload_n 1, 1) := by decide +kernel
theorem d_MM_covers_17 : decode b_MM_covers 17 = .ok (.iaload, 1) := by decide +kernel
theorem d_MM_covers_18 : decode b_MM_covers 18 = .ok (.iload_n 3, 1) := by decide +kernel
theorem d_MM_covers_19 : decode b_MM_covers 19 = .ok (.iadd, 1) := by decide +kernel
theorem d_MM_covers_20 : decode b_MM_covers 20 = .ok (.istore 4, 2) := by decide +kernel
theorem d_MM_covers_22 : decode b_MM_covers 22 = .ok (.aload_n 0, 1) := by decide +kernel
theorem d_MM_covers_23 : decode b_MM_covers 23 = .ok (.getfield 362, 3) := by decide +kernel
theorem d_MM_covers_26 : decode b_MM_covers 26 = .ok (.iconst 0, 1) := by decide +kernel
theorem d_MM_covers_27 : decode b_MM_covers 27 = .ok (.aload_n 0, 1) := by decide +kernel
theorem d_MM_covers_28 : decode b_MM_covers 28 = .ok (.getfield 382, 3) := by decide +kernel
theorem d_MM_covers_31 : decode b_MM_covers 31 = .ok (.iload_n 3, 1) := by decide +kernel
theorem d_MM_covers_32 : decode b_MM_covers 32 = .ok (.aaload, 1) := by decide +kernel
theorem d_MM_covers_33 : decode b_MM_covers 33 = .ok (.iconst 0, 1) := by decide +kernel
theorem d_MM_covers_34 : decode b_MM_covers 34 = .ok (.bipush 6, 2) := by decide +kernel
theorem d_MM_covers_36 : decode b_MM_covers 36 = .ok (.invokestatic 554, 3) := by decide +kernel
theorem d_MM_covers_39 : decode b_MM_covers 39 = .ok (.aload_n 0, 1) := by decide +kernel
theorem d_MM_covers_40 : decode b_MM_covers 40 = .ok (.getfield 235, 3) := by decide +kernel
theorem d_MM_covers_43 : decode b_MM_covers 43 = .ok (.iload_n 2, 1) := by decide +kernel
theorem d_MM_covers_44 : decode b_MM_covers 44 = .ok (.iaload, 1) := by decide +kernel
theorem d_MM_covers_45 : decode b_MM_covers 45 = .ok (.istore 5, 2) := by decide +kernel
theorem d_MM_covers_47 : decode b_MM_covers 47 = .ok (.iload 5, 2) := by decide +kernel
theorem d_MM_covers_49 : decode b_MM_covers 49 = .ok (.aload_n 0, 1) := by decide +kernel
theorem d_MM_covers_50 : decode b_MM_covers 50 = .ok (.getfield 235, 3) := by decide +kernel
theorem d_MM_covers_53 : decode b_MM_covers 53 = .ok (.iload_n 2, 1) := by decide +kernel
theorem d_MM_covers_54 : decode b_MM_covers 54 = .ok (.iaload, 1) := by decide +kernel
theorem d_MM_covers_55 : decode b_MM_covers 55 = .ok (.aload_n 0, 1) := by decide +kernel
theorem d_MM_covers_56 : decode b_MM_covers 56 = .ok (.getfield 238, 3) := by decide +kernel
theorem d_MM_covers_59 : decode b_MM_covers 59 = .ok (.iload_n 2, 1) := by decide +kernel
theorem d_MM_covers_60 : decode b_MM_covers 60 = .ok (.iaload, 1) := by decide +kernel
theorem d_MM_covers_61 : decode b_MM_covers 61 = .ok (.iadd, 1) := by decide +kernel
theorem d_MM_covers_62 : decode b_MM_covers 62 = .ok (.if_icmp .ge 147, 3) := by decide +kernel
theorem d_MM_covers_65 : decode b_MM_covers 65 = .ok (.aload_n 0, 1) := by decide +kernel
theorem d_MM_covers_66 : decode b_MM_covers 66 = .ok (.getfield 220, 3) := by decide +kernel
theorem d_MM_covers_69 : decode b_MM_covers 69 = .ok (.iload 5, 2) := by decide +kernel
theorem d_MM_covers_71 : decode b_MM_covers 71 = .ok (.baload, 1) := by decide +kernel
theorem d_MM_covers_72 : decode b_MM_covers 72 = .ok (.aload_n 0, 1) := by decide +kernel
theorem d_MM_covers_73 : decode b_MM_covers 73 = .ok (.getfield 220, 3) := by decide +kernel
theorem d_MM_covers_76 : decode b_MM_covers 76 = .ok (.iload 4, 2) := by decide +kernel
theorem d_MM_covers_78 : decode b_MM_covers 78 = .ok (.baload, 1) := by decide +kernel
theorem d_MM_covers_79 : decode b_MM_covers 79 = .ok (.if_icmp .eq 6, 3) := by decide +kernel
theorem d_MM_covers_82 : decode b_MM_covers 82 = .ok (.goto 121, 3) := by decide +kernel
theorem d_MM_covers_85 : decode b_MM_covers 85 = .ok (.iconst 0, 1) := by decide +kernel
theorem d_MM_covers_86 : decode b_MM_covers 86 = .ok (.istore 6, 2) := by decide +kernel
theorem d_MM_covers_88 : decode b_MM_covers 88 = .ok (.iload 6, 2) := by decide +kernel
theorem d_MM_covers_90 : decode b_MM_covers 90 = .ok (.iconst 2, 1) := by decide +kernel
theorem d_MM_covers_91 : decode b_MM_covers 91 = .ok (.if_icmp .ge 112, 3) := by decide +kernel
theorem d_MM_covers_94 : decode b_MM_covers 94 = .ok (.aload_n 0, 1) := by decide +kernel
theorem d_MM_covers_95 : decode b_MM_covers 95 = .ok (.getfield 382, 3) := by decide +kernel
theorem d_MM_covers_98 : decode b_MM_covers 98 = .ok (.iload_n 3, 1) := by decide +kernel
theorem d_MM_covers_99 : decode b_MM_covers 99 = .ok (.aaload, 1) := by decide +kernel
theorem d_MM_covers_100 : decode b_MM_covers 100 = .ok (.iconst 0, 1) := by decide +kernel
theorem d_MM_covers_101 : decode b_MM_covers 101 = .ok (.aload_n 0, 1) := by decide +kernel
theorem d_MM_covers_102 : decode b_MM_covers 102 = .ok (.getfield 362, 3) := by decide +kernel
theorem d_MM_covers_105 : decode b_MM_covers 105 = .ok (.iconst 0, 1) := by decide +kernel
theorem d_MM_covers_106 : decode b_MM_covers 106 = .ok (.bipush 6, 2) := by decide +kernel
theorem d_MM_covers_108 : decode b_MM_covers 108 = .ok (.invokestatic 554, 3) := by decide +kernel
theorem d_MM_covers_111 : decode b_MM_covers 111 = .ok (.aload_n 0, 1) := by decide +kernel
theorem d_MM_covers_112 : decode b_MM_covers 112 = .ok (.aload_n 0, 1) := by decide +kernel
theorem d_MM_covers_113 : decode b_MM_covers 113 = .ok (.getfield 214, 3) := by decide +kernel
theorem d_MM_covers_116 : decode b_MM_covers 116 = .ok (.iload 4, 2) := by decide +kernel
theorem d_MM_covers_118 : decode b_MM_covers 118 = .ok (.iaload, 1) := by decide +kernel
theorem d_MM_covers_119 : decode b_MM_covers 119 = .ok (.iload 6, 2) := by decide +kernel
theorem d_MM_covers_121 : decode b_MM_covers 121 = .ok (.ifCond .ne 13, 3) := by decide +kernel
theorem d_MM_covers_124 : decode b_MM_covers 124 = .ok (.aload_n 0, 1) := by decide +kernel
theorem d_MM_covers_125 : decode b_MM_covers 125 = .ok (.getfield 214, 3) := by decide +kernel
theorem d_MM_covers_128 : decode b_MM_covers 128 = .ok (.iload 5, 2) := by decide +kernel
theorem d_MM_covers_130 : decode b_MM_covers 130 = .ok (.iaload, 1) := by decide +kernel
theorem d_MM_covers_131 : decode b_MM_covers 131 = .ok (.goto 10, 3) := by decide +kernel
theorem d_MM_covers_134 : decode b_MM_covers 134 = .ok (.aload_n 0, 1) := by decide +kernel
theorem d_MM_covers_135 : decode b_MM_covers 135 = .ok (.getfield 217, 3) := by decide +kernel
theorem d_MM_covers_138 : decode b_MM_covers 138 = .ok (.iload 5, 2) := by decide +kernel
theorem d_MM_covers_140 : decode b_MM_covers 140 = .ok (.iaload, 1) := by decide +kernel
theorem d_MM_covers_141 : decode b_MM_covers 141 = .ok (.invokevirtual 685, 3) := by decide +kernel
theorem d_MM_covers_144 : decode b_MM_covers 144 = .ok (.ifCond .eq 53, 3) := by decide +kernel
theorem d_MM_covers_147 : decode b_MM_covers 147 = .ok (.aload_n 0, 1) := by decide +kernel
theorem d_MM_covers_148 : decode b_MM_covers 148 = .ok (.aload_n 0, 1) := by decide +kernel
theorem d_MM_covers_149 : decode b_MM_covers 149 = .ok (.getfield 217, 3) := by decide +kernel
theorem d_MM_covers_152 : decode b_MM_covers 152 = .ok (.iload 4, 2) := by decide +kernel
theorem d_MM_covers_154 : decode b_MM_covers 154 = .ok (.iaload, 1) := by decide +kernel
theorem d_MM_covers_155 : decode b_MM_covers 155 = .ok (.iload 6, 2) := by decide +kernel
theorem d_MM_covers_157 : decode b_MM_covers 157 = .ok (.ifCond .ne 13, 3) := by decide +kernel
theorem d_MM_covers_160 : decode b_MM_covers 160 = .ok (.aload_n 0, 1) := by decide +kernel
theorem d_MM_covers_161 : decode b_MM_covers 161 = .ok (.getfield 217, 3) := by decide +kernel
theorem d_MM_covers_164 : decode b_MM_covers 164 = .ok (.iload 5, 2) := by decide +kernel
theorem d_MM_covers_166 : decode b_MM_covers 166 = .ok (.iaload, 1) := by decide +kernel
theorem d_MM_covers_167 : decode b_MM_covers 167 = .ok (.goto 10, 3) := by decide +kernel
theorem d_MM_covers_170 : decode b_MM_covers 170 = .ok (.aload_n 0, 1) := by decide +kernel
theorem d_MM_covers_171 : decode b_MM_covers 171 = .ok (.getfield 214, 3) := by decide +kernel
theorem d_MM_covers_174 : decode b_MM_covers 174 = .ok (.iload 5, 2) := by decide +kernel
theorem d_MM_covers_176 : decode b_MM_covers 176 = .ok (.iaload, 1) := by decide +kernel
theorem d_MM_covers_177 : decode b_MM_covers 177 = .ok (.invokevirtual 685, 3) := by decide +kernel
theorem d_MM_covers_180 : decode b_MM_covers 180 = .ok (.ifCond .eq 17, 3) := by decide +kernel
theorem d_MM_covers_183 : decode b_MM_covers 183 = .ok (.aload_n 0, 1) := by decide +kernel
theorem d_MM_covers_184 : decode b_MM_covers 184 = .ok (.iload_n 1, 1) := by decide +kernel
theorem d_MM_covers_185 : decode b_MM_covers 185 = .ok (.iload_n 2, 1) := by decide +kernel
theorem d_MM_covers_186 : decode b_MM_covers 186 = .ok (.iload_n 3, 1) := by decide +kernel
theorem d_MM_covers_187 : decode b_MM_covers 187 = .ok (.iconst 1, 1) := by decide +kernel
theorem d_MM_covers_188 : decode b_MM_covers 188 = .ok (.iadd, 1) := by decide +kernel
theorem d_MM_covers_189 : decode b_MM_covers 189 = .ok (.invokevirtual 712, 3) := by decide +kernel
theorem d_MM_covers_192 : decode b_MM_covers 192 = .ok (.ifCond .eq 5, 3) := by decide +kernel
theorem d_MM_covers_195 : decode b_MM_covers 195 = .ok (.iconst 1, 1) := by decide +kernel
theorem d_MM_covers_196 : decode b_MM_covers 196 = .ok (.ireturn, 1) := by decide +kernel
theorem d_MM_covers_197 : decode b_MM_covers 197 = .ok (.iinc 6 1, 3) := by decide +kernel
theorem d_MM_covers_200 : decode b_MM_covers 200 = .ok (.goto (-112), 3) := by decide +kernel
theorem d_MM_covers_203 : decode b_MM_covers 203 = .ok (.iinc 5 1, 3) := by decide +kernel
theorem d_MM_covers_206 : decode b_MM_covers 206 = .ok (.goto (-159), 3) := by decide +kernel
theorem d_MM_covers_209 : decode b_MM_covers 209 = .ok (.iconst 0, 1) := by decide +kernel
theorem d_MM_covers_210 : decode b_MM_covers 210 = .ok (.ireturn, 1) := by decide +kernel
abbrev b_MM_settle : ByteArray := prog_14_method_105_code
def y_MM_settle : MethodName := ⟨"ClauseProverModel", "settle", "(I)V"⟩
theorem d_MM_settle_0 : decode b_MM_settle 0 = .ok (.iconst 0, 1) := by decide +kernel
theorem d_MM_settle_1 : decode b_MM_settle 1 = .ok (.istore_n 2, 1) := by decide +kernel
theorem d_MM_settle_2 : decode b_MM_settle 2 = .ok (.iload_n 2, 1) := by decide +kernel
theorem d_MM_settle_3 : decode b_MM_settle 3 = .ok (.aload_n 0, 1) := by decide +kernel
theorem d_MM_settle_4 : decode b_MM_settle 4 = .ok (.getfield 269, 3) := by decide +kernel
theorem d_MM_settle_7 : decode b_MM_settle 7 = .ok (.if_icmp .ge 48, 3) := by decide +kernel
theorem d_MM_settle_10 : decode b_MM_settle 10 = .ok (.aload_n 0, 1) := by decide +kernel
theorem d_MM_settle_11 : decode b_MM_settle 11 = .ok (.getfield 256, 3) := by decide +kernel
theorem d_MM_settle_14 : decode b_MM_settle 14 = .ok (.iload_n 2, 1) := by decide +kernel
theorem d_MM_settle_15 : decode b_MM_settle 15 = .ok (.iaload, 1) := by decide +kernel
theorem d_MM_settle_16 : decode b_MM_settle 16 = .ok (.iconst 1, 1) := by decide +kernel
theorem d_MM_settle_17 : decode b_MM_settle 17 = .ok (.if_icmp .ne 32, 3) := by decide +kernel
theorem d_MM_settle_20 : decode b_MM_settle 20 = .ok (.aload_n 0, 1) := by decide +kernel
theorem d_MM_settle_21 : decode b_MM_settle 21 = .ok (.iload_n 1, 1) := by decide +kernel
theorem d_MM_settle_22 : decode b_MM_settle 22 = .ok (.iload_n 2, 1) := by decide +kernel
theorem d_MM_settle_23 : decode b_MM_settle 23 = .ok (.invokevirtual 724, 3) := by decide +kernel
theorem d_MM_settle_26 : decode b_MM_settle 26 = .ok (.ifCond .ne 6, 3) := by decide +kernel
theorem d_MM_settle_29 : decode b_MM_settle 29 = .ok (.goto 20, 3) := by decide +kernel
theorem d_MM_settle_32 : decode b_MM_settle 32 = .ok (.aload_n 0, 1) := by decide +kernel
theorem d_MM_settle_33 : decode b_MM_settle 33 = .ok (.dup, 1) := by decide +kernel
theorem d_MM_settle_34 : decode b_MM_settle 34 = .ok (.getfield 293, 3) := by decide +kernel
theorem d_MM_settle_37 : decode b_MM_settle 37 = .ok (.iconst 1, 1) := by decide +kernel
theorem d_MM_settle_38 : decode b_MM_settle 38 = .ok (.iadd, 1) := by decide +kernel
theorem d_MM_settle_39 : decode b_MM_settle 39 = .ok (.putfield 293, 3) := by decide +kernel
theorem d_MM_settle_42 : decode b_MM_settle 42 = .ok (.aload_n 0, 1) := by decide +kernel
theorem d_MM_settle_43 : decode b_MM_settle 43 = .ok (.getfield 256, 3) := by decide +kernel
theorem d_MM_settle_46 : decode b_MM_settle 46 = .ok (.iload_n 2, 1) := by decide +kernel
theorem d_MM_settle_47 : decode b_MM_settle 47 = .ok (.iconst 2, 1) := by decide +kernel
theorem d_MM_settle_48 : decode b_MM_settle 48 = .ok (.iastore, 1) := by decide +kernel
theorem d_MM_settle_49 : decode b_MM_settle 49 = .ok (.iinc 2 1, 3) := by decide +kernel
theorem d_MM_settle_52 : decode b_MM_settle 52 = .ok (.goto (-50), 3) := by decide +kernel
theorem d_MM_settle_55 : decode b_MM_settle 55 = .ok (.iconst 0, 1) := by decide +kernel
theorem d_MM_settle_56 : decode b_MM_settle 56 = .ok (.istore_n 2, 1) := by decide +kernel
theorem d_MM_settle_57 : decode b_MM_settle 57 = .ok (.iload_n 2, 1) := by decide +kernel
theorem d_MM_settle_58 : decode b_MM_settle 58 = .ok (.aload_n 0, 1) := by decide +kernel
theorem d_MM_settle_59 : decode b_MM_settle 59 = .ok (.getfield 269, 3) := by decide +kernel
theorem d_MM_settle_62 : decode b_MM_settle 62 = .ok (.if_icmp .ge 43, 3) := by decide +kernel
theorem d_MM_settle_65 : decode b_MM_settle 65 = .ok (.aload_n 0, 1) := by decide +kernel
theorem d_MM_settle_66 : decode b_MM_settle 66 = .ok (.iload_n 1, 1) := by decide +kernel
theorem d_MM_settle_67 : decode b_MM_settle 67 = .ok (.invokevirtual 697, 3) := by decide +kernel
theorem d_MM_settle_70 : decode b_MM_settle 70 = .ok (.ifCond .eq 35, 3) := by decide +kernel
theorem d_MM_settle_73 : decode b_MM_settle 73 = .ok (.aload_n 0, 1) := by decide +kernel
theorem d_MM_settle_74 : decode b_MM_settle 74 = .ok (.getfield 256, 3) := by decide +kernel
theorem d_MM_settle_77 : decode b_MM_settle 77 = .ok (.iload_n 2, 1) := by decide +kernel
theorem d_MM_settle_78 : decode b_MM_settle 78 = .ok (.iaload, 1) := by decide +kernel
theorem d_MM_settle_79 : decode b_MM_settle 79 = .ok (.iconst 1, 1) := by decide +kernel
theorem d_MM_settle_80 : decode b_MM_settle 80 = .ok (.if_icmp .ne 19, 3) := by decide +kernel
theorem d_MM_settle_83 : decode b_MM_settle 83 = .ok (.aload_n 0, 1) := by decide +kernel
theorem d_MM_settle_84 : decode b_MM_settle 84 = .ok (.iload_n 1, 1) := by decide +kernel
theorem d_MM_settle_85 : decode b_MM_settle 85 = .ok (.iload_n 2, 1) := by decide +kernel
theorem d_MM_settle_86 : decode b_MM_settle 86 = .ok (.invokevirtual 730, 3) := by decide +kernel
theorem d_MM_settle_89 : decode b_MM_settle 89 = .ok (.ifCond .eq 10, 3) := by decide +kernel
theorem d_MM_settle_92 : decode b_MM_settle 92 = .ok (.aload_n 0, 1) := by decide +kernel
theorem d_MM_settle_93 : decode b_MM_settle 93 = .ok (.getfield 256, 3) := by decide +kernel
theorem d_MM_settle_96 : decode b_MM_settle 96 = .ok (.iload_n 2, 1) := by decide +kernel
theorem d_MM_settle_97 : decode b_MM_settle 97 = .ok (.iconst 0, 1) := by decide +kernel
theorem d_MM_settle_98 : decode b_MM_settle 98 = .ok (.iastore, 1) := by decide +kernel
theorem d_MM_settle_99 : decode b_MM_settle 99 = .ok (.iinc 2 1, 3) := by decide +kernel
theorem d_MM_settle_102 : decode b_MM_settle 102 = .ok (.goto (-45), 3) := by decide +kernel
theorem d_MM_settle_105 : decode b_MM_settle 105 = .ok (.aload_n 0, 1) := by decide +kernel
theorem d_MM_settle_106 : decode b_MM_settle 106 = .ok (.getfield 256, 3) := by decide +kernel
theorem d_MM_settle_109 : decode b_MM_settle 109 = .ok (.iload_n 1, 1) := by decide +kernel
theorem d_MM_settle_110 : decode b_MM_settle 110 = .ok (.iconst 1, 1) := by decide +kernel
theorem d_MM_settle_111 : decode b_MM_settle 111 = .ok (.iastore, 1) := by decide +kernel
theorem d_MM_settle_112 : decode b_MM_settle 112 = .ok (.aload_n 0, 1) := by decide +kernel
theorem d_MM_settle_113 : decode b_MM_settle 113 = .ok (.getfield 269, 3) := by decide +kernel
theorem d_MM_settle_116 : decode b_MM_settle 116 = .ok (.istore_n 2, 1) := by decide +kernel
theorem d_MM_settle_117 : decode b_MM_settle 117 = .ok (.iconst 0, 1) := by decide +kernel
theorem d_MM_settle_118 : decode b_MM_settle 118 = .ok (.istore_n 3, 1) := by decide +kernel
theorem d_MM_settle_119 : decode b_MM_settle 119 = .ok (.iload_n 3, 1) := by decide +kernel
theorem d_MM_settle_120 : decode b_MM_settle 120 = .ok (.iload_n 2, 1) := by decide +kernel
theorem d_MM_settle_121 : decode b_MM_settle 121 = .ok (.if_icmp .ge 53, 3) := by decide +kernel
theorem d_MM_settle_124 : decode b_MM_settle 124 = .ok (.aload_n 0, 1) := by decide +kernel
theorem d_MM_settle_125 : decode b_MM_settle 125 = .ok (.getfield 278, 3) := by decide +kernel
theorem d_MM_settle_128 : decode b_MM_settle 128 = .ok (.ifCond .ne 46, 3) := by decide +kernel
theorem d_MM_settle_131 : decode b_MM_settle 131 = .ok (.aload_n 0, 1) := by decide +kernel
theorem d_MM_settle_132 : decode b_MM_settle 132 = .ok (.getfield 256, 3) := by decide +kernel
theorem d_MM_settle_135 : decode b_MM_settle 135 = .ok (.iload_n 3, 1) := by decide +kernel
theorem d_MM_settle_136 : decode b_MM_settle 136 = .ok (.iaload, 1) := by decide +kernel
theorem d_MM_settle_137 : decode b_MM_settle 137 = .ok (.iconst 1, 1) := by decide +kernel
theorem d_MM_settle_138 : decode b_MM_settle 138 = .ok (.if_icmp .eq 6, 3) := by decide +kernel
theorem d_MM_settle_141 : decode b_MM_settle 141 = .ok (.goto 27, 3) := by decide +kernel
theorem d_MM_settle_144 : decode b_MM_settle 144 = .ok (.aload_n 0, 1) := by decide +kernel
theorem d_MM_settle_145 : decode b_MM_settle 145 = .ok (.iload_n 3, 1) := by decide +kernel
theorem d_MM_settle_146 : decode b_MM_settle 146 = .ok (.iload_n 1, 1) := by decide +kernel
theorem d_MM_settle_147 : decode b_MM_settle 147 = .ok (.invokevirtual 733, 3) := by decide +kernel
theorem d_MM_settle_150 : decode b_MM_settle 150 = .ok (.iload_n 3, 1) := by decide +kernel
theorem d_MM_settle_151 : decode b_MM_settle 151 = .ok (.iload_n 1, 1) := by decide +kernel
theorem d_MM_settle_152 : decode b_MM_settle 152 = .ok (.if_icmp .eq 16, 3) := by decide +kernel
theorem d_MM_settle_155 : decode b_MM_settle 155 = .ok (.aload_n 0, 1) := by decide +kernel
theorem d_MM_settle_156 : decode b_MM_settle 156 = .ok (.getfield 278, 3) := by decide +kernel
theorem d_MM_settle_159 : decode b_MM_settle 159 = .ok (.ifCond .ne 9, 3) := by decide +kernel
theorem d_MM_settle_162 : decode b_MM_settle 162 = .ok (.aload_n 0, 1) := by decide +kernel
theorem d_MM_settle_163 : decode b_MM_settle 163 = .ok (.iload_n 1, 1) := by decide +kernel
theorem d_MM_settle_164 : decode b_MM_settle 164 = .ok (.iload_n 3, 1) := by decide +kernel
theorem d_MM_settle_165 : decode b_MM_settle 165 = .ok (.invokevirtual 733, 3) := by decide +kernel
theorem d_MM_settle_168 : decode b_MM_settle 168 = .ok (.iinc 3 1, 3) := by decide +kernel
theorem d_MM_settle_171 : decode b_MM_settle 171 = .ok (.goto (-52), 3) := by decide +kernel
theorem d_MM_settle_174 : decode b_MM_settle 174 = .ok (.aload_n 0, 1) := by decide +kernel
theorem d_MM_settle_175 : decode b_MM_settle 175 = .ok (.getfield 278, 3) := by decide +kernel
theorem d_MM_settle_178 : decode b_MM_settle 178 = .ok (.ifCond .ne 8, 3) := by decide +kernel
theorem d_MM_settle_181 : decode b_MM_settle 181 = .ok (.aload_n 0, 1) := by decide +kernel
theorem d_MM_settle_182 : decode b_MM_settle 182 = .ok (.iload_n 1, 1) := by decide +kernel
theorem d_MM_settle_183 : decode b_MM_settle 183 = .ok (.invokevirtual 736, 3) := by decide +kernel
theorem d_MM_settle_186 : decode b_MM_settle 186 = .ok (.aload_n 0, 1) := by decide +kernel
theorem d_MM_settle_187 : decode b_MM_settle 187 = .ok (.getfield 278, 3) := by decide +kernel
theorem d_MM_settle_190 : decode b_MM_settle 190 = .ok (.ifCond .ne 8, 3) := by decide +kernel
theorem d_MM_settle_193 : decode b_MM_settle 193 = .ok (.aload_n 0, 1) := by decide +kernel
theorem d_MM_settle_194 : decode b_MM_settle 194 = .ok (.iload_n 1, 1) := by decide +kernel
theorem d_MM_settle_195 : decode b_MM_settle 195 = .ok (.invokevirtual 739, 3) := by decide +kernel
theorem d_MM_settle_198 : decode b_MM_settle 198 = .ok (.return_, 1) := by decide +kernel
abbrev b_MM_couldRewrite : ByteArray := prog_14_method_98_code
def y_MM_couldRewrite : MethodName := ⟨"ClauseProverModel", "couldRewrite", "(II)Z"⟩
theorem d_MM_couldRewrite_0 : decode b_MM_couldRewrite 0 = .ok (.aload_n 0, 1) := by decide +kernel
theorem d_MM_couldRewrite_1 : decode b_MM_couldRewrite 1 = .ok (.getfield 235, 3) := by decide +kernel
theorem d_MM_couldRewrite_4 : decode b_MM_couldRewrite 4 = .ok (.iload_n 2, 1) := by decide +kernel
theorem d_MM_couldRewrite_5 : decode b_MM_couldRewrite 5 = .ok (.iaload, 1) := by decide +kernel
theorem d_MM_couldRewrite_6 : decode b_MM_couldRewrite 6 = .ok (.istore_n 3, 1) := by decide +kernel
theorem d_MM_couldRewrite_7 : decode b_MM_couldRewrite 7 = .ok (.iload_n 3, 1) := by decide +kernel
theorem d_MM_couldRewrite_8 : decode b_MM_couldRewrite 8 = .ok (.aload_n 0, 1) := by decide +kernel
theorem d_MM_couldRewrite_9 : decode b_MM_couldRewrite 9 = .ok (.getfield 235, 3) := by decide +kernel
theorem d_MM_couldRewrite_12 : decode b_MM_couldRewrite 12 = .ok (.iload_n 2, 1) := by decide +kernel
theorem d_MM_couldRewrite_13 : decode b_MM_couldRewrite 13 = .ok (.iaload, 1) := by decide +kernel
theorem d_MM_couldRewrite_14 : decode b_MM_couldRewrite 14 = .ok (.aload_n 0, 1) := by decide +kernel
theorem d_MM_couldRewrite_15 : decode b_MM_couldRewrite 15 = .ok (.getfield 238, 3) := by decide +kernel
theorem d_MM_couldRewrite_18 : decode b_MM_couldRewrite 18 = .ok (.iload_n 2, 1) := by decide +kernel
theorem d_MM_couldRewrite_19 : decode b_MM_couldRewrite 19 = .ok (.iaload, 1) := by decide +kernel
theorem d_MM_couldRewrite_20 : decode b_MM_couldRewrite 20 = .ok (.iadd, 1) := by decide +kernel
theorem d_MM_couldRewrite_21 : decode b_MM_couldRewrite 21 = .ok (.if_icmp .ge 39, 3) := by decide +kernel
theorem d_MM_couldRewrite_24 : decode b_MM_couldRewrite 24 = .ok (.aload_n 0, 1) := by decide +kernel
theorem d_MM_couldRewrite_25 : decode b_MM_couldRewrite 25 = .ok (.iload_n 1, 1) := by decide +kernel
theorem d_MM_couldRewrite_26 : decode b_MM_couldRewrite 26 = .ok (.aload_n 0, 1) := by decide +kernel
theorem d_MM_couldRewrite_27 : decode b_MM_couldRewrite 27 = .ok (.getfield 214, 3) := by decide +kernel
theorem d_MM_couldRewrite_30 : decode b_MM_couldRewrite 30 = .ok (.iload_n 3, 1) := by decide +kernel
theorem d_MM_couldRewrite_31 : decode b_MM_couldRewrite 31 = .ok (.iaload, 1) := by decide +kernel
theorem d_MM_couldRewrite_32 : decode b_MM_couldRewrite 32 = .ok (.invokevirtual 709, 3) := by decide +kernel
theorem d_MM_couldRewrite_35 : decode b_MM_couldRewrite 35 = .ok (.ifCond .ne 17, 3) := by decide +kernel
theorem d_MM_couldRewrite_38 : decode b_MM_couldRewrite 38 = .ok (.aload_n 0, 1) := by decide +kernel
theorem d_MM_couldRewrite_39 : decode b_MM_couldRewrite 39 = .ok (.iload_n 1, 1) := by decide +kernel
theorem d_MM_couldRewrite_40 : decode b_MM_couldRewrite 40 = .ok (.aload_n 0, 1) := by decide +kernel
theorem d_MM_couldRewrite_41 : decode b_MM_couldRewrite 41 = .ok (.getfield 217, 3) := by decide +kernel
theorem d_MM_couldRewrite_44 : decode b_MM_couldRewrite 44 = .ok (.iload_n 3, 1) := by decide +kernel
theorem d_MM_couldRewrite_45 : decode b_MM_couldRewrite 45 = .ok (.iaload, 1) := by decide +kernel
theorem d_MM_couldRewrite_46 : decode b_MM_couldRewrite 46 = .ok (.invokevirtual 709, 3) := by decide +kernel
theorem d_MM_couldRewrite_49 : decode b_MM_couldRewrite 49 = .ok (.ifCond .eq 5, 3) := by decide +kernel
theorem d_MM_couldRewrite_52 : decode b_MM_couldRewrite 52 = .ok (.iconst 1, 1) := by decide +kernel
theorem d_MM_couldRewrite_53 : decode b_MM_couldRewrite 53 = .ok (.ireturn, 1) := by decide +kernel
theorem d_MM_couldRewrite_54 : decode b_MM_couldRewrite 54 = .ok (.iinc 3 1, 3) := by decide +kernel
theorem d_MM_couldRewrite_57 : decode b_MM_couldRewrite 57 = .ok (.goto (-50), 3) := by decide +kernel
theorem d_MM_couldRewrite_60 : decode b_MM_couldRewrite 60 = .ok (.iconst 0, 1) := by decide +kernel
theorem d_MM_couldRewrite_61 : decode b_MM_couldRewrite 61 = .ok (.ireturn, 1) := by decide +kernel
abbrev b_MM_could : ByteArray := prog_14_method_99_code
def y_MM_could : MethodName := ⟨"ClauseProverModel", "could", "(II)Z"⟩
theorem d_MM_could_0 : decode b_MM_could 0 = .ok (.iconst 0, 1) := by decide +kernel
theorem d_MM_could_1 : decode b_MM_could 1 = .ok (.istore_n 3, 1) := by decide +kernel
theorem d_MM_could_2 : decode b_MM_could 2 = .ok (.iload_n 3, 1) := by decide +kernel
theorem d_MM_could_3 : decode b_MM_could 3 = .ok (.iconst 2, 1) := by decide +kernel
theorem d_MM_could_4 : decode b_MM_could 4 = .ok (.if_icmp .ge 28, 3) := by decide +kernel
theorem d_MM_could_7 : decode b_MM_could 7 = .ok (.aload_n 0, 1) := by decide +kernel
theorem d_MM_could_8 : decode b_MM_could 8 = .ok (.ldc_w 633, 3) := by decide +kernel
theorem d_MM_could_11 : decode b_MM_could 11 = .ok (.putfield 157, 3) := by decide +kernel
theorem d_MM_could_14 : decode b_MM_could 14 = .ok (.aload_n 0, 1) := by decide +kernel
theorem d_MM_could_15 : decode b_MM_could 15 = .ok (.iload_n 1, 1) := by decide +kernel
theorem d_MM_could_16 : decode b_MM_could 16 = .ok (.iload_n 3, 1) := by decide +kernel
theorem d_MM_could_17 : decode b_MM_could 17 = .ok (.iload_n 2, 1) := by decide +kernel
theorem d_MM_could_18 : decode b_MM_could 18 = .ok (.invokevirtual 700, 3) := by decide +kernel
theorem d_MM_could_21 : decode b_MM_could 21 = .ok (.ifCond .lt 5, 3) := by decide +kernel
theorem d_MM_could_24 : decode b_MM_could 24 = .ok (.iconst 1, 1) := by decide +kernel
theorem d_MM_could_25 : decode b_MM_could 25 = .ok (.ireturn, 1) := by decide +kernel
theorem d_MM_could_26 : decode b_MM_could 26 = .ok (.iinc 3 1, 3) := by decide +kernel
theorem d_MM_could_29 : decode b_MM_could 29 = .ok (.goto (-27), 3) := by decide +kernel
theorem d_MM_could_32 : decode b_MM_could 32 = .ok (.aload_n 0, 1) := by decide +kernel
theorem d_MM_could_33 : decode b_MM_could 33 = .ok (.getfield 148, 3) := by decide +kernel
theorem d_MM_could_36 : decode b_MM_could 36 = .ok (.iload_n 2, 1) := by decide +kernel
theorem d_MM_could_37 : decode b_MM_could 37 = .ok (.iaload, 1) := by decide +kernel
theorem d_MM_could_38 : decode b_MM_could 38 = .ok (.istore_n 3, 1) := by decide +kernel
theorem d_MM_could_39 : decode b_MM_could 39 = .ok (.iload_n 3, 1) := by decide +kernel
theorem d_MM_could_40 : decode b_MM_could 40 = .ok (.ifCond .lt 24, 3) := by decide +kernel
theorem d_MM_could_43 : decode b_MM_could 43 = .ok (.aload_n 0, 1) := by decide +kernel
theorem d_MM_could_44 : decode b_MM_could 44 = .ok (.iload_n 1, 1) := by decide +kernel
theorem d_MM_could_45 : decode b_MM_could 45 = .ok (.iload_n 3, 1) := by decide +kernel
theorem d_MM_could_46 : decode b_MM_could 46 = .ok (.invokevirtual 709, 3) := by decide +kernel
theorem d_MM_could_49 : decode b_MM_could 49 = .ok (.ifCond .eq 5, 3) := by decide +kernel
theorem d_MM_could_52 : decode b_MM_could 52 = .ok (.iconst 1, 1) := by decide +kernel
theorem d_MM_could_53 : decode b_MM_could 53 = .ok (.ireturn, 1) := by decide +kernel
theorem d_MM_could_54 : decode b_MM_could 54 = .ok (.aload_n 0, 1) := by decide +kernel
theorem d_MM_could_55 : decode b_MM_could 55 = .ok (.getfield 151, 3) := by decide +kernel
theorem d_MM_could_58 : decode b_MM_could 58 = .ok (.iload_n 3, 1) := by decide +kernel
theorem d_MM_could_59 : decode b_MM_could 59 = .ok (.iaload, 1) := by decide +kernel
theorem d_MM_could_60 : decode b_MM_could 60 = .ok (.istore_n 3, 1) := by decide +kernel
theorem d_MM_could_61 : decode b_MM_could 61 = .ok (.goto (-22), 3) := by decide +kernel
theorem d_MM_could_64 : decode b_MM_could 64 = .ok (.iconst 0, 1) := by decide +kernel
theorem d_MM_could_65 : decode b_MM_could 65 = .ok (.ireturn, 1) := by decide +kernel
abbrev b_MM_superpose : ByteArray := prog_14_method_84_code
def y_MM_superpose : MethodName := ⟨"ClauseProverModel", "superpose", "(II)V"⟩
theorem d_MM_superpose_0 : decode b_MM_superpose 0 = .ok (.aload_n 0, 1) := by decide +kernel
theorem d_MM_superpose_1 : decode b_MM_superpose 1 = .ok (.getfield 235, 3) := by decide +kernel
theorem d_MM_superpose_4 : decode b_MM_superpose 4 = .ok (.iload_n 1, 1) := by decide +kernel
theorem d_MM_superpose_5 : decode b_MM_superpose 5 = .ok (.iaload, 1) := by decide +kernel
theorem d_MM_superpose_6 : decode b_MM_superpose 6 = .ok (.istore_n 3, 1) := by decide +kernel
theorem d_MM_superpose_7 : decode b_MM_superpose 7 = .ok (.iload_n 3, 1) := by decide +kernel
theorem d_MM_superpose_8 : decode b_MM_superpose 8 = .ok (.aload_n 0, 1) := by decide +kernel
theorem d_MM_superpose_9 : decode b_MM_superpose 9 = .ok (.getfield 235, 3) := by decide +kernel
theorem d_MM_superpose_12 : decode b_MM_superpose 12 = .ok (.iload_n 1, 1) := by decide +kernel
theorem d_MM_superpose_13 : decode b_MM_superpose 13 = .ok (.iaload, 1) := by decide +kernel
theorem d_MM_superpose_14 : decode b_MM_superpose 14 = .ok (.aload_n 0, 1) := by decide +kernel
theorem d_MM_superpose_15 : decode b_MM_superpose 15 = .ok (.getfield 238, 3) := by decide +kernel
theorem d_MM_superpose_18 : decode b_MM_superpose 18 = .ok (.iload_n 1, 1) := by decide +kernel
theorem d_MM_superpose_19 : decode b_MM_superpose 19 = .ok (.iaload, 1) := by decide +kernel
theorem d_MM_superpose_20 : decode b_MM_superpose 20 = .ok (.iadd, 1) := by decide +kernel
theorem d_MM_superpose_21 : decode b_MM_superpose 21 = .ok (.if_icmp .ge 156, 3) := by decide +kernel
theorem d_MM_superpose_24 : decode b_MM_superpose 24 = .ok (.aload_n 0, 1) := by decide +kernel
theorem d_MM_superpose_25 : decode b_MM_superpose 25 = .ok (.getfield 220, 3) := by decide +kernel
theorem d_MM_superpose_28 : decode b_MM_superpose 28 = .ok (.iload_n 3, 1) := by decide +kernel
theorem d_MM_superpose_29 : decode b_MM_superpose 29 = .ok (.baload, 1) := by decide +kernel
theorem d_MM_superpose_30 : decode b_MM_superpose 30 = .ok (.ifCond .eq 141, 3) := by decide +kernel
theorem d_MM_superpose_33 : decode b_MM_superpose 33 = .ok (.aload_n 0, 1) := by decide +kernel
theorem d_MM_superpose_34 : decode b_MM_superpose 34 = .ok (.getfield 229, 3) := by decide +kernel
theorem d_MM_superpose_37 : decode b_MM_superpose 37 = .ok (.iload_n 3, 1) := by decide +kernel
theorem d_MM_superpose_38 : decode b_MM_superpose 38 = .ok (.baload, 1) := by decide +kernel
theorem d_MM_superpose_39 : decode b_MM_superpose 39 = .ok (.ifCond .ne 6, 3) := by decide +kernel
theorem d_MM_superpose_42 : decode b_MM_superpose 42 = .ok (.goto 129, 3) := by decide +kernel
theorem d_MM_superpose_45 : decode b_MM_superpose 45 = .ok (.iconst 0, 1) := by decide +kernel
theorem d_MM_superpose_46 : decode b_MM_superpose 46 = .ok (.istore 4, 2) := by decide +kernel
theorem d_MM_superpose_48 : decode b_MM_superpose 48 = .ok (.iload 4, 2) := by decide +kernel
theorem d_MM_superpose_50 : decode b_MM_superpose 50 = .ok (.iconst 2, 1) := by decide +kernel
theorem d_MM_superpose_51 : decode b_MM_superpose 51 = .ok (.if_icmp .ge 120, 3) := by decide +kernel
theorem d_MM_superpose_54 : decode b_MM_superpose 54 = .ok (.aload_n 0, 1) := by decide +kernel
theorem d_MM_superpose_55 : decode b_MM_superpose 55 = .ok (.iload_n 3, 1) := by decide +kernel
theorem d_MM_superpose_56 : decode b_MM_superpose 56 = .ok (.iload 4, 2) := by decide +kernel
theorem d_MM_superpose_58 : decode b_MM_superpose 58 = .ok (.invokevirtual 655, 3) := by decide +kernel
theorem d_MM_superpose_61 : decode b_MM_superpose 61 = .ok (.ifCond .ne 6, 3) := by decide +kernel
theorem d_MM_superpose_64 : decode b_MM_superpose 64 = .ok (.goto 101, 3) := by decide +kernel
theorem d_MM_superpose_67 : decode b_MM_superpose 67 = .ok (.aload_n 0, 1) := by decide +kernel
theorem d_MM_superpose_68 : decode b_MM_superpose 68 = .ok (.getfield 235, 3) := by decide +kernel
theorem d_MM_superpose_71 : decode b_MM_superpose 71 = .ok (.iload_n 2, 1) := by decide +kernel
theorem d_MM_superpose_72 : decode b_MM_superpose 72 = .ok (.iaload, 1) := by decide +kernel
theorem d_MM_superpose_73 : decode b_MM_superpose 73 = .ok (.istore 5, 2) := by decide +kernel
theorem d_MM_superpose_75 : decode b_MM_superpose 75 = .ok (.iload 5, 2) := by decide +kernel
theorem d_MM_superpose_77 : decode b_MM_superpose 77 = .ok (.aload_n 0, 1) := by decide +kernel
theorem d_MM_superpose_78 : decode b_MM_superpose 78 = .ok (.getfield 235, 3) := by decide +kernel
theorem d_MM_superpose_81 : decode b_MM_superpose 81 = .ok (.iload_n 2, 1) := by decide +kernel
theorem d_MM_superpose_82 : decode b_MM_superpose 82 = .ok (.iaload, 1) := by decide +kernel
theorem d_MM_superpose_83 : decode b_MM_superpose 83 = .ok (.aload_n 0, 1) := by decide +kernel
theorem d_MM_superpose_84 : decode b_MM_superpose 84 = .ok (.getfield 238, 3) := by decide +kernel
theorem d_MM_superpose_87 : decode b_MM_superpose 87 = .ok (.iload_n 2, 1) := by decide +kernel
theorem d_MM_superpose_88 : decode b_MM_superpose 88 = .ok (.iaload, 1) := by decide +kernel
theorem d_MM_superpose_89 : decode b_MM_superpose 89 = .ok (.iadd, 1) := by decide +kernel
theorem d_MM_superpose_90 : decode b_MM_superpose 90 = .ok (.if_icmp .ge 75, 3) := by decide +kernel
theorem d_MM_superpose_93 : decode b_MM_superpose 93 = .ok (.aload_n 0, 1) := by decide +kernel
theorem d_MM_superpose_94 : decode b_MM_superpose 94 = .ok (.getfield 229, 3) := by decide +kernel
theorem d_MM_superpose_97 : decode b_MM_superpose 97 = .ok (.iload 5, 2) := by decide +kernel
theorem d_MM_superpose_99 : decode b_MM_superpose 99 = .ok (.baload, 1) := by decide +kernel
theorem d_MM_superpose_100 : decode b_MM_superpose 100 = .ok (.ifCond .ne 6, 3) := by decide +kernel
theorem d_MM_superpose_103 : decode b_MM_superpose 103 = .ok (.goto 56, 3) := by decide +kernel
theorem d_MM_superpose_106 : decode b_MM_superpose 106 = .ok (.iconst 0, 1) := by decide +kernel
theorem d_MM_superpose_107 : decode b_MM_superpose 107 = .ok (.istore 6, 2) := by decide +kernel
theorem d_MM_superpose_109 : decode b_MM_superpose 109 = .ok (.iload 6, 2) := by decide +kernel
theorem d_MM_superpose_111 : decode b_MM_superpose 111 = .ok (.iconst 2, 1) := by decide +kernel
theorem d_MM_superpose_112 : decode b_MM_superpose 112 = .ok (.if_icmp .ge 47, 3) := by decide +kernel
theorem d_MM_superpose_115 : decode b_MM_superpose 115 = .ok (.aload_n 0, 1) := by decide +kernel
theorem d_MM_superpose_116 : decode b_MM_superpose 116 = .ok (.getfield 278, 3) := by decide +kernel
theorem d_MM_superpose_119 : decode b_MM_superpose 119 = .ok (.ifCond .ne 40, 3) := by decide +kernel
theorem d_MM_superpose_122 : decode b_MM_superpose 122 = .ok (.aload_n 0, 1) := by decide +kernel
theorem d_MM_superpose_123 : decode b_MM_superpose 123 = .ok (.iload 5, 2) := by decide +kernel
theorem d_MM_superpose_125 : decode b_MM_superpose 125 = .ok (.iload 6, 2) := by decide +kernel
theorem d_MM_superpose_127 : decode b_MM_superpose 127 = .ok (.invokevirtual 655, 3) := by decide +kernel
theorem d_MM_superpose_130 : decode b_MM_superpose 130 = .ok (.ifCond .eq 23, 3) := by decide +kernel
theorem d_MM_superpose_133 : decode b_MM_superpose 133 = .ok (.aload_n 0, 1) := by decide +kernel
theorem d_MM_superpose_134 : decode b_MM_superpose 134 = .ok (.iload_n 1, 1) := by decide +kernel
theorem d_MM_superpose_135 : decode b_MM_superpose 135 = .ok (.iload_n 2, 1) := by decide +kernel
theorem d_MM_superpose_136 : decode b_MM_superpose 136 = .ok (.iload_n 3, 1) := by decide +kernel
theorem d_MM_superpose_137 : decode b_MM_superpose 137 = .ok (.iload 4, 2) := by decide +kernel
theorem d_MM_superpose_139 : decode b_MM_superpose 139 = .ok (.iload 5, 2) := by decide +kernel
theorem d_MM_superpose_141 : decode b_MM_superpose 141 = .ok (.aload_n 0, 1) := by decide +kernel
theorem d_MM_superpose_142 : decode b_MM_superpose 142 = .ok (.iload 5, 2) := by decide +kernel
theorem d_MM_superpose_144 : decode b_MM_superpose 144 = .ok (.iload 6, 2) := by decide +kernel
theorem d_MM_superpose_146 : decode b_MM_superpose 146 = .ok (.iconst 0, 1) := by decide +kernel
theorem d_MM_superpose_147 : decode b_MM_superpose 147 = .ok (.invokevirtual 658, 3) := by decide +kernel
theorem d_MM_superpose_150 : decode b_MM_superpose 150 = .ok (.invokevirtual 661, 3) := by decide +kernel
theorem d_MM_superpose_153 : decode b_MM_superpose 153 = .ok (.iinc 6 1, 3) := by decide +kernel
theorem d_MM_superpose_156 : decode b_MM_superpose 156 = .ok (.goto (-47), 3) := by decide +kernel
theorem d_MM_superpose_159 : decode b_MM_superpose 159 = .ok (.iinc 5 1, 3) := by decide +kernel
theorem d_MM_superpose_162 : decode b_MM_superpose 162 = .ok (.goto (-87), 3) := by decide +kernel
theorem d_MM_superpose_165 : decode b_MM_superpose 165 = .ok (.iinc 4 1, 3) := by decide +kernel
theorem d_MM_superpose_168 : decode b_MM_superpose 168 = .ok (.goto (-120), 3) := by decide +kernel
theorem d_MM_superpose_171 : decode b_MM_superpose 171 = .ok (.iinc 3 1, 3) := by decide +kernel
theorem d_MM_superpose_174 : decode b_MM_superpose 174 = .ok (.goto (-167), 3) := by decide +kernel
theorem d_MM_superpose_177 : decode b_MM_superpose 177 = .ok (.return_, 1) := by decide +kernel
abbrev b_MM_usable : ByteArray := prog_14_method_71_code
def y_MM_usable : MethodName := ⟨"ClauseProverModel", "usable", "(II)Z"⟩
theorem d_MM_usable_0 : decode b_MM_usable 0 = .ok (.aload_n 0, 1) := by decide +kernel
theorem d_MM_usable_1 : decode b_MM_usable 1 = .ok (.getfield 223, 3) := by decide +kernel
theorem d_MM_usable_4 : decode b_MM_usable 4 = .ok (.iload_n 1, 1) := by decide +kernel
theorem d_MM_usable_5 : decode b_MM_usable 5 = .ok (.iaload, 1) := by decide +kernel
theorem d_MM_usable_6 : decode b_MM_usable 6 = .ok (.iconst 2, 1) := by decide +kernel
theorem d_MM_usable_7 : decode b_MM_usable 7 = .ok (.iload_n 2, 1) := by decide +kernel
theorem d_MM_usable_8 : decode b_MM_usable 8 = .ok (.isub, 1) := by decide +kernel
theorem d_MM_usable_9 : decode b_MM_usable 9 = .ok (.if_icmp .eq 7, 3) := by decide +kernel
theorem d_MM_usable_12 : decode b_MM_usable 12 = .ok (.iconst 1, 1) := by decide +kernel
theorem d_MM_usable_13 : decode b_MM_usable 13 = .ok (.goto 4, 3) := by decide +kernel
theorem d_MM_usable_16 : decode b_MM_usable 16 = .ok (.iconst 0, 1) := by decide +kernel
theorem d_MM_usable_17 : decode b_MM_usable 17 = .ok (.ireturn, 1) := by decide +kernel
abbrev b_MM_into : ByteArray := prog_14_method_85_code
def y_MM_into : MethodName := ⟨"ClauseProverModel", "into", "(IIIIII)V"⟩
theorem d_MM_into_0 : decode b_MM_into 0 = .ok (.aload_n 0, 1) := by decide +kernel
theorem d_MM_into_1 : decode b_MM_into 1 = .ok (.getfield 145, 3) := by decide +kernel
theorem d_MM_into_4 : decode b_MM_into 4 = .ok (.iload 6, 2) := by decide +kernel
theorem d_MM_into_6 : decode b_MM_into 6 = .ok (.iaload, 1) := by decide +kernel
theorem d_MM_into_7 : decode b_MM_into 7 = .ok (.ifCond .lt 10, 3) := by decide +kernel
theorem d_MM_into_10 : decode b_MM_into 10 = .ok (.aload_n 0, 1) := by decide +kernel
theorem d_MM_into_11 : decode b_MM_into 11 = .ok (.getfield 278, 3) := by decide +kernel
theorem d_MM_into_14 : decode b_MM_into 14 = .ok (.ifCond .eq 4, 3) := by decide +kernel
theorem d_MM_into_17 : decode b_MM_into 17 = .ok (.return_, 1) := by decide +kernel
theorem d_MM_into_18 : decode b_MM_into 18 = .ok (.aload_n 0, 1) := by decide +kernel
theorem d_MM_into_19 : decode b_MM_into 19 = .ok (.invokevirtual 665, 3) := by decide +kernel
theorem d_MM_into_22 : decode b_MM_into 22 = .ok (.aload_n 0, 1) := by decide +kernel
theorem d_MM_into_23 : decode b_MM_into 23 = .ok (.aload_n 0, 1) := by decide +kernel
theorem d_MM_into_24 : decode b_MM_into 24 = .ok (.iload_n 3, 1) := by decide +kernel
theorem d_MM_into_25 : decode b_MM_into 25 = .ok (.iload 4, 2) := by decide +kernel
theorem d_MM_into_27 : decode b_MM_into 27 = .ok (.iconst 0, 1) := by decide +kernel
theorem d_MM_into_28 : decode b_MM_into 28 = .ok (.invokevirtual 658, 3) := by decide +kernel
theorem d_MM_into_31 : decode b_MM_into 31 = .ok (.iconst 0, 1) := by decide +kernel
theorem d_MM_into_32 : decode b_MM_into 32 = .ok (.iload 6, 2) := by decide +kernel
theorem d_MM_into_34 : decode b_MM_into 34 = .ok (.bipush 6, 2) := by decide +kernel
theorem d_MM_into_36 : decode b_MM_into 36 = .ok (.invokevirtual 613, 3) := by decide +kernel
theorem d_MM_into_39 : decode b_MM_into 39 = .ok (.ifCond .eq 49, 3) := by decide +kernel
theorem d_MM_into_42 : decode b_MM_into 42 = .ok (.aload_n 0, 1) := by decide +kernel
theorem d_MM_into_43 : decode b_MM_into 43 = .ok (.invokevirtual 668, 3) := by decide +kernel
theorem d_MM_into_46 : decode b_MM_into 46 = .ok (.aload_n 0, 1) := by decide +kernel
theorem d_MM_into_47 : decode b_MM_into 47 = .ok (.iload_n 1, 1) := by decide +kernel
theorem d_MM_into_48 : decode b_MM_into 48 = .ok (.iconst 0, 1) := by decide +kernel
theorem d_MM_into_49 : decode b_MM_into 49 = .ok (.iload_n 3, 1) := by decide +kernel
theorem d_MM_into_50 : decode b_MM_into 50 = .ok (.iconst (-1), 1) := by decide +kernel
theorem d_MM_into_51 : decode b_MM_into 51 = .ok (.invokevirtual 671, 3) := by decide +kernel
theorem d_MM_into_54 : decode b_MM_into 54 = .ok (.aload_n 0, 1) := by decide +kernel
theorem d_MM_into_55 : decode b_MM_into 55 = .ok (.iload_n 2, 1) := by decide +kernel
theorem d_MM_into_56 : decode b_MM_into 56 = .ok (.bipush 6, 2) := by decide +kernel
theorem d_MM_into_58 : decode b_MM_into 58 = .ok (.iconst (-1), 1) := by decide +kernel
theorem d_MM_into_59 : decode b_MM_into 59 = .ok (.iconst (-1), 1) := by decide +kernel
theorem d_MM_into_60 : decode b_MM_into 60 = .ok (.invokevirtual 671, 3) := by decide +kernel
theorem d_MM_into_63 : decode b_MM_into 63 = .ok (.aload_n 0, 1) := by decide +kernel
theorem d_MM_into_64 : decode b_MM_into 64 = .ok (.iload 6, 2) := by decide +kernel
theorem d_MM_into_66 : decode b_MM_into 66 = .ok (.putfield 356, 3) := by decide +kernel
theorem d_MM_into_69 : decode b_MM_into 69 = .ok (.aload_n 0, 1) := by decide +kernel
theorem d_MM_into_70 : decode b_MM_into 70 = .ok (.aload_n 0, 1) := by decide +kernel
theorem d_MM_into_71 : decode b_MM_into 71 = .ok (.iload_n 3, 1) := by decide +kernel
theorem d_MM_into_72 : decode b_MM_into 72 = .ok (.iload 4, 2) := by decide +kernel
theorem d_MM_into_74 : decode b_MM_into 74 = .ok (.iconst 1, 1) := by decide +kernel
theorem d_MM_into_75 : decode b_MM_into 75 = .ok (.invokevirtual 658, 3) := by decide +kernel
theorem d_MM_into_78 : decode b_MM_into 78 = .ok (.putfield 359, 3) := by decide +kernel
theorem d_MM_into_81 : decode b_MM_into 81 = .ok (.aload_n 0, 1) := by decide +kernel
theorem d_MM_into_82 : decode b_MM_into 82 = .ok (.iconst 1, 1) := by decide +kernel
theorem d_MM_into_83 : decode b_MM_into 83 = .ok (.iload_n 1, 1) := by decide +kernel
theorem d_MM_into_84 : decode b_MM_into 84 = .ok (.iload_n 2, 1) := by decide +kernel
theorem d_MM_into_85 : decode b_MM_into 85 = .ok (.invokevirtual 674, 3) := by decide +kernel
theorem d_MM_into_88 : decode b_MM_into 88 = .ok (.aload_n 0, 1) := by decide +kernel
theorem d_MM_into_89 : decode b_MM_into 89 = .ok (.getfield 148, 3) := by decide +kernel
theorem d_MM_into_92 : decode b_MM_into 92 = .ok (.iload 6, 2) := by decide +kernel
theorem d_MM_into_94 : decode b_MM_into 94 = .ok (.iaload, 1) := by decide +kernel
theorem d_MM_into_95 : decode b_MM_into 95 = .ok (.istore 7, 2) := by decide +kernel
theorem d_MM_into_97 : decode b_MM_into 97 = .ok (.iload 7, 2) := by decide +kernel
theorem d_MM_into_99 : decode b_MM_into 99 = .ok (.ifCond .lt 28, 3) := by decide +kernel
theorem d_MM_into_102 : decode b_MM_into 102 = .ok (.aload_n 0, 1) := by decide +kernel
theorem d_MM_into_103 : decode b_MM_into 103 = .ok (.iload_n 1, 1) := by decide +kernel
theorem d_MM_into_104 : decode b_MM_into 104 = .ok (.iload_n 2, 1) := by decide +kernel
theorem d_MM_into_105 : decode b_MM_into 105 = .ok (.iload_n 3, 1) := by decide +kernel
theorem d_MM_into_106 : decode b_MM_into 106 = .ok (.iload 4, 2) := by decide +kernel
theorem d_MM_into_108 : decode b_MM_into 108 = .ok (.iload 5, 2) := by decide +kernel
theorem d_MM_into_110 : decode b_MM_into 110 = .ok (.iload 7, 2) := by decide +kernel
theorem d_MM_into_112 : decode b_MM_into 112 = .ok (.invokevirtual 661, 3) := by decide +kernel
theorem d_MM_into_115 : decode b_MM_into 115 = .ok (.aload_n 0, 1) := by decide +kernel
theorem d_MM_into_116 : decode b_MM_into 116 = .ok (.getfield 151, 3) := by decide +kernel
theorem d_MM_into_119 : decode b_MM_into 119 = .ok (.iload 7, 2) := by decide +kernel
theorem d_MM_into_121 : decode b_MM_into 121 = .ok (.iaload, 1) := by decide +kernel
theorem d_MM_into_122 : decode b_MM_into 122 = .ok (.istore 7, 2) := by decide +kernel
theorem d_MM_into_124 : decode b_MM_into 124 = .ok (.goto (-27), 3) := by decide +kernel
theorem d_MM_into_127 : decode b_MM_into 127 = .ok (.return_, 1) := by decide +kernel
abbrev b_MM_unbind : ByteArray := prog_14_method_76_code
def y_MM_unbind : MethodName := ⟨"ClauseProverModel", "unbind", "()V"⟩
theorem d_MM_unbind_0 : decode b_MM_unbind 0 = .ok (.aload_n 0, 1) := by decide +kernel
theorem d_MM_unbind_1 : decode b_MM_unbind 1 = .ok (.getfield 335, 3) := by decide +kernel
theorem d_MM_unbind_4 : decode b_MM_unbind 4 = .ok (.iconst (-1), 1) := by decide +kernel
theorem d_MM_unbind_5 : decode b_MM_unbind 5 = .ok (.invokestatic 588, 3) := by decide +kernel
theorem d_MM_unbind_8 : decode b_MM_unbind 8 = .ok (.return_, 1) := by decide +kernel
abbrev b_MM_unify : ByteArray := prog_14_method_73_code
def y_MM_unify : MethodName := ⟨"ClauseProverModel", "unify", "(IIII)Z"⟩
theorem d_MM_unify_0 : decode b_MM_unify 0 = .ok (.iload_n 1, 1) := by decide +kernel
theorem d_MM_unify_1 : decode b_MM_unify 1 = .ok (.istore 5, 2) := by decide +kernel
theorem d_MM_unify_3 : decode b_MM_unify 3 = .ok (.iload_n 2, 1) := by decide +kernel
theorem d_MM_unify_4 : decode b_MM_unify 4 = .ok (.istore 6, 2) := by decide +kernel
theorem d_MM_unify_6 : decode b_MM_unify 6 = .ok (.aload_n 0, 1) := by decide +kernel
theorem d_MM_unify_7 : decode b_MM_unify 7 = .ok (.getfield 145, 3) := by decide +kernel
theorem d_MM_unify_10 : decode b_MM_unify 10 = .ok (.iload 5, 2) := by decide +kernel
theorem d_MM_unify_12 : decode b_MM_unify 12 = .ok (.iaload, 1) := by decide +kernel
theorem d_MM_unify_13 : decode b_MM_unify 13 = .ok (.ifCond .ge 58, 3) := by decide +kernel
theorem d_MM_unify_16 : decode b_MM_unify 16 = .ok (.aload_n 0, 1) := by decide +kernel
theorem d_MM_unify_17 : decode b_MM_unify 17 = .ok (.getfield 335, 3) := by decide +kernel
theorem d_MM_unify_20 : decode b_MM_unify 20 = .ok (.iconst (-1), 1) := by decide +kernel
theorem d_MM_unify_21 : decode b_MM_unify 21 = .ok (.aload_n 0, 1) := by decide +kernel
theorem d_MM_unify_22 : decode b_MM_unify 22 = .ok (.getfield 145, 3) := by decide +kernel
theorem d_MM_unify_25 : decode b_MM_unify 25 = .ok (.iload 5, 2) := by decide +kernel
theorem d_MM_unify_27 : decode b_MM_unify 27 = .ok (.iaload, 1) := by decide +kernel
theorem d_MM_unify_28 : decode b_MM_unify 28 = .ok (.isub, 1) := by decide +kernel
theorem d_MM_unify_29 : decode b_MM_unify 29 = .ok (.iload 6, 2) := by decide +kernel
theorem d_MM_unify_31 : decode b_MM_unify 31 = .ok (.iadd, 1) := by decide +kernel
theorem d_MM_unify_32 : decode b_MM_unify 32 = .ok (.iaload, 1) := by decide +kernel
theorem d_MM_unify_33 : decode b_MM_unify 33 = .ok (.ifCond .lt 38, 3) := by decide +kernel
theorem d_MM_unify_36 : decode b_MM_unify 36 = .ok (.iconst (-1), 1) := by decide +kernel
theorem d_MM_unify_37 : decode b_MM_unify 37 = .ok (.aload_n 0, 1) := by decide +kernel
theorem d_MM_unify_38 : decode b_MM_unify 38 = .ok (.getfield 145, 3) := by decide +kernel
theorem d_MM_unify_41 : decode b_MM_unify 41 = .ok (.iload 5, 2) := by decide +kernel
theorem d_MM_unify_43 : decode b_MM_unify 43 = .ok (.iaload, 1) := by decide +kernel
theorem d_MM_unify_44 : decode b_MM_unify 44 = .ok (.isub, 1) := by decide +kernel
theorem d_MM_unify_45 : decode b_MM_unify 45 = .ok (.iload 6, 2) := by decide +kernel
theorem d_MM_unify_47 : decode b_MM_unify 47 = .ok (.iadd, 1) := by decide +kernel
theorem d_MM_unify_48 : decode b_MM_unify 48 = .ok (.istore 7, 2) := by decide +kernel
theorem d_MM_unify_50 : decode b_MM_unify 50 = .ok (.aload_n 0, 1) := by decide +kernel
theorem d_MM_unify_51 : decode b_MM_unify 51 = .ok (.getfield 335, 3) := by decide +kernel
theorem d_MM_unify_54 : decode b_MM_unify 54 = .ok (.iload 7, 2) := by decide +kernel
theorem d_MM_unify_56 : decode b_MM_unify 56 = .ok (.iaload, 1) := by decide +kernel
theorem d_MM_unify_57 : decode b_MM_unify 57 = .ok (.istore 5, 2) := by decide +kernel
theorem d_MM_unify_59 : decode b_MM_unify 59 = .ok (.aload_n 0, 1) := by decide +kernel
theorem d_MM_unify_60 : decode b_MM_unify 60 = .ok (.getfield 338, 3) := by decide +kernel
theorem d_MM_unify_63 : decode b_MM_unify 63 = .ok (.iload 7, 2) := by decide +kernel
theorem d_MM_unify_65 : decode b_MM_unify 65 = .ok (.iaload, 1) := by decide +kernel
theorem d_MM_unify_66 : decode b_MM_unify 66 = .ok (.istore 6, 2) := by decide +kernel
theorem d_MM_unify_68 : decode b_MM_unify 68 = .ok (.goto (-62), 3) := by decide +kernel
theorem d_MM_unify_71 : decode b_MM_unify 71 = .ok (.iload_n 3, 1) := by decide +kernel
theorem d_MM_unify_72 : decode b_MM_unify 72 = .ok (.istore 7, 2) := by decide +kernel
theorem d_MM_unify_74 : decode b_MM_unify 74 = .ok (.iload 4, 2) := by decide +kernel
theorem d_MM_unify_76 : decode b_MM_unify 76 = .ok (.istore 8, 2) := by decide +kernel
theorem d_MM_unify_78 : decode b_MM_unify 78 = .ok (.aload_n 0, 1) := by decide +kernel
theorem d_MM_unify_79 : decode b_MM_unify 79 = .ok (.getfield 145, 3) := by decide +kernel
theorem d_MM_unify_82 : decode b_MM_unify 82 = .ok (.iload 7, 2) := by decide +kernel
theorem d_MM_unify_84 : decode b_MM_unify 84 = .ok (.iaload, 1) := by decide +kernel
theorem d_MM_unify_85 : decode b_MM_unify 85 = .ok (.ifCond .ge 58, 3) := by decide +kernel
theorem d_MM_unify_88 : decode b_MM_unify 88 = .ok (.aload_n 0, 1) := by decide +kernel
theorem d_MM_unify_89 : decode b_MM_unify 89 = .ok (.getfield 335, 3) := by decide +kernel
theorem d_MM_unify_92 : decode b_MM_unify 92 = .ok (.iconst (-1), 1) := by decide +kernel
theorem d_MM_unify_93 : decode b_MM_unify 93 = .ok (.aload_n 0, 1) := by decide +kernel
theorem d_MM_unify_94 : decode b_MM_unify 94 = .ok (.getfield 145, 3) := by decide +kernel
theorem d_MM_unify_97 : decode b_MM_unify 97 = .ok (.iload 7, 2) := by decide +kernel
theorem d_MM_unify_99 : decode b_MM_unify 99 = .ok (.iaload, 1) := by decide +kernel
theorem d_MM_unify_100 : decode b_MM_unify 100 = .ok (.isub, 1) := by decide +kernel
theorem d_MM_unify_101 : decode b_MM_unify 101 = .ok (.iload 8, 2) := by decide +kernel
theorem d_MM_unify_103 : decode b_MM_unify 103 = .ok (.iadd, 1) := by decide +kernel
theorem d_MM_unify_104 : decode b_MM_unify 104 = .ok (.iaload, 1) := by decide +kernel
theorem d_MM_unify_105 : decode b_MM_unify 105 = .ok (.ifCond .lt 38, 3) := by decide +kernel
theorem d_MM_unify_108 : decode b_MM_unify 108 = .ok (.iconst (-1), 1) := by decide +kernel
theorem d_MM_unify_109 : decode b_MM_unify 109 = .ok (.aload_n 0, 1) := by decide +kernel
theorem d_MM_unify_110 : decode b_MM_unify 110 = .ok (.getfield 145, 3) := by decide +kernel
theorem d_MM_unify_113 : decode b_MM_unify 113 = .ok (.iload 7, 2) := by decide +kernel
theorem d_MM_unify_115 : decode b_MM_unify 115 = .ok (.iaload, 1) := by decide +kernel
theorem d_MM_unify_116 : decode b_MM_unify 116 = .ok (.isub, 1) := by decide +kernel
theorem d_MM_unify_117 : decode b_MM_unify 117 = .ok (.iload 8, 2) := by decide +kernel
theorem d_MM_unify_119 : decode b_MM_unify 119 = .ok (.iadd, 1) := by decide +kernel
theorem d_MM_unify_120 : decode b_MM_unify 120 = .ok (.istore 9, 2) := by decide +kernel
theorem d_MM_unify_122 : decode b_MM_unify 122 = .ok (.aload_n 0, 1) := by decide +kernel
theorem d_MM_unify_123 : decode b_MM_unify 123 = .ok (.getfield 335, 3) := by decide +kernel
theorem d_MM_unify_126 : decode b_MM_unify 126 = .ok (.iload 9, 2) := by decide +kernel
theorem d_MM_unify_128 : decode b_MM_unify 128 = .ok (.iaload, 1) := by decide +kernel
theorem d_MM_unify_129 : decode b_MM_unify 129 = .ok (.istore 7, 2) := by decide +kernel
theorem d_MM_unify_131 : decode b_MM_unify 131 = .ok (.aload_n 0, 1) := by decide +kernel
theorem d_MM_unify_132 : decode b_MM_unify 132 = .ok (.getfield 338, 3) := by decide +kernel
theorem d_MM_unify_135 : decode b_MM_unify 135 = .ok (.iload 9, 2) := by decide +kernel
theorem d_MM_unify_137 : decode b_MM_unify 137 = .ok (.iaload, 1) := by decide +kernel
theorem d_MM_unify_138 : decode b_MM_unify 138 = .ok (.istore 8, 2) := by decide +kernel
theorem d_MM_unify_140 : decode b_MM_unify 140 = .ok (.goto (-62), 3) := by decide +kernel
theorem d_MM_unify_143 : decode b_MM_unify 143 = .ok (.aload_n 0, 1) := by decide +kernel
theorem d_MM_unify_144 : decode b_MM_unify 144 = .ok (.getfield 145, 3) := by decide +kernel
theorem d_MM_unify_147 : decode b_MM_unify 147 = .ok (.iload 5, 2) := by decide +kernel
theorem d_MM_unify_149 : decode b_MM_unify 149 = .ok (.iaload, 1) := by decide +kernel
theorem d_MM_unify_150 : decode b_MM_unify 150 = .ok (.ifCond .ge 39, 3) := by decide +kernel
theorem d_MM_unify_153 : decode b_MM_unify 153 = .ok (.aload_n 0, 1) := by decide +kernel
theorem d_MM_unify_154 : decode b_MM_unify 154 = .ok (.getfield 145, 3) := by decide +kernel
theorem d_MM_unify_157 : decode b_MM_unify 157 = .ok (.iload 7, 2) := by decide +kernel
theorem d_MM_unify_159 : decode b_MM_unify 159 = .ok (.iaload, 1) := by decide +kernel
theorem d_MM_unify_160 : decode b_MM_unify 160 = .ok (.ifCond .ge 29, 3) := by decide +kernel
theorem d_MM_unify_163 : decode b_MM_unify 163 = .ok (.aload_n 0, 1) := by decide +kernel
theorem d_MM_unify_164 : decode b_MM_unify 164 = .ok (.getfield 145, 3) := by decide +kernel
theorem d_MM_unify_167 : decode b_MM_unify 167 = .ok (.iload 5, 2) := by decide +kernel
theorem d_MM_unify_169 : decode b_MM_unify 169 = .ok (.iaload, 1) := by decide +kernel
theorem d_MM_unify_170 : decode b_MM_unify 170 = .ok (.aload_n 0, 1) := by decide +kernel
theorem d_MM_unify_171 : decode b_MM_unify 171 = .ok (.getfield 145, 3) := by decide +kernel
theorem d_MM_unify_174 : decode b_MM_unify 174 = .ok (.iload 7, 2) := by decide +kernel
theorem d_MM_unify_176 : decode b_MM_unify 176 = .ok (.iaload, 1) := by decide +kernel
theorem d_MM_unify_177 : decode b_MM_unify 177 = .ok (.if_icmp .ne 12, 3) := by decide +kernel
theorem d_MM_unify_180 : decode b_MM_unify 180 = .ok (.iload 6, 2) := by decide +kernel
theorem d_MM_unify_182 : decode b_MM_unify 182 = .ok (.iload 8, 2) := by decide +kernel
theorem d_MM_unify_184 : decode b_MM_unify 184 = .ok (.if_icmp .ne 5, 3) := by decide +kernel
theorem d_MM_unify_187 : decode b_MM_unify 187 = .ok (.iconst 1, 1) := by decide +kernel
theorem d_MM_unify_188 : decode b_MM_unify 188 = .ok (.ireturn, 1) := by decide +kernel
theorem d_MM_unify_189 : decode b_MM_unify 189 = .ok (.aload_n 0, 1) := by decide +kernel
theorem d_MM_unify_190 : decode b_MM_unify 190 = .ok (.getfield 145, 3) := by decide +kernel
theorem d_MM_unify_193 : decode b_MM_unify 193 = .ok (.iload 5, 2) := by decide +kernel
theorem d_MM_unify_195 : decode b_MM_unify 195 = .ok (.iaload, 1) := by decide +kernel
theorem d_MM_unify_196 : decode b_MM_unify 196 = .ok (.ifCond .ge 24, 3) := by decide +kernel
theorem d_MM_unify_199 : decode b_MM_unify 199 = .ok (.aload_n 0, 1) := by decide +kernel
theorem d_MM_unify_200 : decode b_MM_unify 200 = .ok (.iconst (-1), 1) := by decide +kernel
theorem d_MM_unify_201 : decode b_MM_unify 201 = .ok (.aload_n 0, 1) := by decide +kernel
theorem d_MM_unify_202 : decode b_MM_unify 202 = .ok (.getfield 145, 3) := by decide +kernel
theorem d_MM_unify_205 : decode b_MM_unify 205 = .ok (.iload 5, 2) := by decide +kernel
theorem d_MM_unify_207 : decode b_MM_unify 207 = .ok (.iaload, 1) := by decide +kernel
theorem d_MM_unify_208 : decode b_MM_unify 208 = .ok (.isub, 1) := by decide +kernel
theorem d_MM_unify_209 : decode b_MM_unify 209 = .ok (.iload 6, 2) := by decide +kernel
theorem d_MM_unify_211 : decode b_MM_unify 211 = .ok (.iadd, 1) := by decide +kernel
theorem d_MM_unify_212 : decode b_MM_unify 212 = .ok (.iload 7, 2) := by decide +kernel
theorem d_MM_unify_214 : decode b_MM_unify 214 = .ok (.iload 8, 2) := by decide +kernel
theorem d_MM_unify_216 : decode b_MM_unify 216 = .ok (.invokevirtual 610, 3) := by decide +kernel
theorem d_MM_unify_219 : decode b_MM_unify 219 = .ok (.ireturn, 1) := by decide +kernel
theorem d_MM_unify_220 : decode b_MM_unify 220 = .ok (.aload_n 0, 1) := by decide +kernel
theorem d_MM_unify_221 : decode b_MM_unify 221 = .ok (.getfield 145, 3) := by decide +kernel
theorem d_MM_unify_224 : decode b_MM_unify 224 = .ok (.iload 7, 2) := by decide +kernel
theorem d_MM_unify_226 : decode b_MM_unify 226 = .ok (.iaload, 1) := by decide +kernel
theorem d_MM_unify_227 : decode b_MM_unify 227 = .ok (.ifCond .ge 24, 3) := by decide +kernel
theorem d_MM_unify_230 : decode b_MM_unify 230 = .ok (.aload_n 0, 1) := by decide +kernel
theorem d_MM_unify_231 : decode b_MM_unify 231 = .ok (.iconst (-1), 1) := by decide +kernel
theorem d_MM_unify_232 : decode b_MM_unify 232 = .ok (.aload_n 0, 1) := by decide +kernel
theorem d_MM_unify_233 : decode b_MM_unify 233 = .ok (.getfield 145, 3) := by decide +kernel
theorem d_MM_unify_236 : decode b_MM_unify 236 = .ok (.iload 7, 2) := by decide +kernel
theorem d_MM_unify_238 : decode b_MM_unify 238 = .ok (.iaload, 1) := by decide +kernel
theorem d_MM_unify_239 : decode b_MM_unify 239 = .ok (.isub, 1) := by decide +kernel
theorem d_MM_unify_240 : decode b_MM_unify 240 = .ok (.iload 8, 2) := by decide +kernel
theorem d_MM_unify_242 : decode b_MM_unify 242 = .ok (.iadd, 1) := by decide +kernel
theorem d_MM_unify_243 : decode b_MM_unify 243 = .ok (.iload 5, 2) := by decide +kernel
theorem d_MM_unify_245 : decode b_MM_unify 245 = .ok (.iload 6, 2) := by decide +kernel
theorem d_MM_unify_247 : decode b_MM_unify 247 = .ok (.invokevirtual 610, 3) := by decide +kernel
theorem d_MM_unify_250 : decode b_MM_unify 250 = .ok (.ireturn, 1) := by decide +kernel
theorem d_MM_unify_251 : decode b_MM_unify 251 = .ok (.aload_n 0, 1) := by decide +kernel
theorem d_MM_unify_252 : decode b_MM_unify 252 = .ok (.getfield 145, 3) := by decide +kernel
theorem d_MM_unify_255 : decode b_MM_unify 255 = .ok (.iload 5, 2) := by decide +kernel
theorem d_MM_unify_257 : decode b_MM_unify 257 = .ok (.iaload, 1) := by decide +kernel
theorem d_MM_unify_258 : decode b_MM_unify 258 = .ok (.aload_n 0, 1) := by decide +kernel
theorem d_MM_unify_259 : decode b_MM_unify 259 = .ok (.getfield 145, 3) := by decide +kernel
theorem d_MM_unify_262 : decode b_MM_unify 262 = .ok (.iload 7, 2) := by decide +kernel
theorem d_MM_unify_264 : decode b_MM_unify 264 = .ok (.iaload, 1) := by decide +kernel
theorem d_MM_unify_265 : decode b_MM_unify 265 = .ok (.if_icmp .eq 5, 3) := by decide +kernel
theorem d_MM_unify_268 : decode b_MM_unify 268 = .ok (.iconst 0, 1) := by decide +kernel
theorem d_MM_unify_269 : decode b_MM_unify 269 = .ok (.ireturn, 1) := by decide +kernel
theorem d_MM_unify_270 : decode b_MM_unify 270 = .ok (.aload_n 0, 1) := by decide +kernel
theorem d_MM_unify_271 : decode b_MM_unify 271 = .ok (.getfield 148, 3) := by decide +kernel
theorem d_MM_unify_274 : decode b_MM_unify 274 = .ok (.iload 7, 2) := by decide +kernel
theorem d_MM_unify_276 : decode b_MM_unify 276 = .ok (.iaload, 1) := by decide +kernel
theorem d_MM_unify_277 : decode b_MM_unify 277 = .ok (.istore 9, 2) := by decide +kernel
theorem d_MM_unify_279 : decode b_MM_unify 279 = .ok (.aload_n 0, 1) := by decide +kernel
theorem d_MM_unify_280 : decode b_MM_unify 280 = .ok (.getfield 148, 3) := by decide +kernel
theorem d_MM_unify_283 : decode b_MM_unify 283 = .ok (.iload 5, 2) := by decide +kernel
theorem d_MM_unify_285 : decode b_MM_unify 285 = .ok (.iaload, 1) := by decide +kernel
theorem d_MM_unify_286 : decode b_MM_unify 286 = .ok (.istore 10, 2) := by decide +kernel
theorem d_MM_unify_288 : decode b_MM_unify 288 = .ok (.iload 10, 2) := by decide +kernel
theorem d_MM_unify_290 : decode b_MM_unify 290 = .ok (.ifCond .lt 41, 3) := by decide +kernel
theorem d_MM_unify_293 : decode b_MM_unify 293 = .ok (.aload_n 0, 1) := by decide +kernel
theorem d_MM_unify_294 : decode b_MM_unify 294 = .ok (.iload 10, 2) := by decide +kernel
theorem d_MM_unify_296 : decode b_MM_unify 296 = .ok (.iload 6, 2) := by decide +kernel
theorem d_MM_unify_298 : decode b_MM_unify 298 = .ok (.iload 9, 2) := by decide +kernel
theorem d_MM_unify_300 : decode b_MM_unify 300 = .ok (.iload 8, 2) := by decide +kernel
theorem d_MM_unify_302 : decode b_MM_unify 302 = .ok (.invokevirtual 613, 3) := by decide +kernel
theorem d_MM_unify_305 : decode b_MM_unify 305 = .ok (.ifCond .ne 5, 3) := by decide +kernel
theorem d_MM_unify_308 : decode b_MM_unify 308 = .ok (.iconst 0, 1) := by decide +kernel
theorem d_MM_unify_309 : decode b_MM_unify 309 = .ok (.ireturn, 1) := by decide +kernel
theorem d_MM_unify_310 : decode b_MM_unify 310 = .ok (.aload_n 0, 1) := by decide +kernel
theorem d_MM_unify_311 : decode b_MM_unify 311 = .ok (.getfield 151, 3) := by decide +kernel
theorem d_MM_unify_314 : decode b_MM_unify 314 = .ok (.iload 9, 2) := by decide +kernel
theorem d_MM_unify_316 : decode b_MM_unify 316 = .ok (.iaload, 1) := by decide +kernel
theorem d_MM_unify_317 : decode b_MM_unify 317 = .ok (.istore 9, 2) := by decide +kernel
theorem d_MM_unify_319 : decode b_MM_unify 319 = .ok (.aload_n 0, 1) := by decide +kernel
theorem d_MM_unify_320 : decode b_MM_unify 320 = .ok (.getfield 151, 3) := by decide +kernel
theorem d_MM_unify_323 : decode b_MM_unify 323 = .ok (.iload 10, 2) := by decide +kernel
theorem d_MM_unify_325 : decode b_MM_unify 325 = .ok (.iaload, 1) := by decide +kernel
theorem d_MM_unify_326 : decode b_MM_unify 326 = .ok (.istore 10, 2) := by decide +kernel
theorem d_MM_unify_328 : decode b_MM_unify 328 = .ok (.goto (-40), 3) := by decide +kernel
theorem d_MM_unify_331 : decode b_MM_unify 331 = .ok (.iconst 1, 1) := by decide +kernel
theorem d_MM_unify_332 : decode b_MM_unify 332 = .ok (.ireturn, 1) := by decide +kernel
abbrev b_MM_bind1 : ByteArray := prog_14_method_74_code
def y_MM_bind1 : MethodName := ⟨"ClauseProverModel", "bind", "(III)Z"⟩
theorem d_MM_bind1_0 : decode b_MM_bind1 0 = .ok (.aload_n 0, 1) := by decide +kernel
theorem d_MM_bind1_1 : decode b_MM_bind1 1 = .ok (.iload_n 2, 1) := by decide +kernel
theorem d_MM_bind1_2 : decode b_MM_bind1 2 = .ok (.invokevirtual 617, 3) := by decide +kernel
theorem d_MM_bind1_5 : decode b_MM_bind1 5 = .ok (.ifCond .ne 13, 3) := by decide +kernel
theorem d_MM_bind1_8 : decode b_MM_bind1 8 = .ok (.aload_n 0, 1) := by decide +kernel
theorem d_MM_bind1_9 : decode b_MM_bind1 9 = .ok (.iload_n 1, 1) := by decide +kernel
theorem d_MM_bind1_10 : decode b_MM_bind1 10 = .ok (.iload_n 2, 1) := by decide +kernel
theorem d_MM_bind1_11 : decode b_MM_bind1 11 = .ok (.iload_n 3, 1) := by decide +kernel
theorem d_MM_bind1_12 : decode b_MM_bind1 12 = .ok (.invokevirtual 620, 3) := by decide +kernel
theorem d_MM_bind1_15 : decode b_MM_bind1 15 = .ok (.ifCond .eq 5, 3) := by decide +kernel
theorem d_MM_bind1_18 : decode b_MM_bind1 18 = .ok (.iconst 0, 1) := by decide +kernel
theorem d_MM_bind1_19 : decode b_MM_bind1 19 = .ok (.ireturn, 1) := by decide +kernel
theorem d_MM_bind1_20 : decode b_MM_bind1 20 = .ok (.aload_n 0, 1) := by decide +kernel
theorem d_MM_bind1_21 : decode b_MM_bind1 21 = .ok (.getfield 335, 3) := by decide +kernel
theorem d_MM_bind1_24 : decode b_MM_bind1 24 = .ok (.iload_n 1, 1) := by decide +kernel
theorem d_MM_bind1_25 : decode b_MM_bind1 25 = .ok (.iload_n 2, 1) := by decide +kernel
theorem d_MM_bind1_26 : decode b_MM_bind1 26 = .ok (.iastore, 1) := by decide +kernel
theorem d_MM_bind1_27 : decode b_MM_bind1 27 = .ok (.aload_n 0, 1) := by decide +kernel
theorem d_MM_bind1_28 : decode b_MM_bind1 28 = .ok (.getfield 338, 3) := by decide +kernel
theorem d_MM_bind1_31 : decode b_MM_bind1 31 = .ok (.iload_n 1, 1) := by decide +kernel
theorem d_MM_bind1_32 : decode b_MM_bind1 32 = .ok (.iload_n 3, 1) := by decide +kernel
theorem d_MM_bind1_33 : decode b_MM_bind1 33 = .ok (.iastore, 1) := by decide +kernel
theorem d_MM_bind1_34 : decode b_MM_bind1 34 = .ok (.iconst 1, 1) := by decide +kernel
theorem d_MM_bind1_35 : decode b_MM_bind1 35 = .ok (.ireturn, 1) := by decide +kernel
abbrev b_MM_occurs : ByteArray := prog_14_method_75_code
def y_MM_occurs : MethodName := ⟨"ClauseProverModel", "occurs", "(III)Z"⟩
theorem d_MM_occurs_0 : decode b_MM_occurs 0 = .ok (.aload_n 0, 1) := by decide +kernel
theorem d_MM_occurs_1 : decode b_MM_occurs 1 = .ok (.getfield 145, 3) := by decide +kernel
theorem d_MM_occurs_4 : decode b_MM_occurs 4 = .ok (.iload_n 2, 1) := by decide +kernel
theorem d_MM_occurs_5 : decode b_MM_occurs 5 = .ok (.iaload, 1) := by decide +kernel
theorem d_MM_occurs_6 : decode b_MM_occurs 6 = .ok (.ifCond .ge 61, 3) := by decide +kernel
theorem d_MM_occurs_9 : decode b_MM_occurs 9 = .ok (.iconst (-1), 1) := by decide +kernel
theorem d_MM_occurs_10 : decode b_MM_occurs 10 = .ok (.aload_n 0, 1) := by decide +kernel
theorem d_MM_occurs_11 : decode b_MM_occurs 11 = .ok (.getfield 145, 3) := by decide +kernel
theorem d_MM_occurs_14 : decode b_MM_occurs 14 = .ok (.iload_n 2, 1) := by decide +kernel
theorem d_MM_occurs_15 : decode b_MM_occurs 15 = .ok (.iaload, 1) := by decide +kernel
theorem d_MM_occurs_16 : decode b_MM_occurs 16 = .ok (.isub, 1) := by decide +kernel
theorem d_MM_occurs_17 : decode b_MM_occurs 17 = .ok (.iload_n 3, 1) := by decide +kernel
theorem d_MM_occurs_18 : decode b_MM_occurs 18 = .ok (.iadd, 1) := by decide +kernel
theorem d_MM_occurs_19 : decode b_MM_occurs 19 = .ok (.istore 4, 2) := by decide +kernel
theorem d_MM_occurs_21 : decode b_MM_occurs 21 = .ok (.iload 4, 2) := by decide +kernel
theorem d_MM_occurs_23 : decode b_MM_occurs 23 = .ok (.iload_n 1, 1) := by decide +kernel
theorem d_MM_occurs_24 : decode b_MM_occurs 24 = .ok (.if_icmp .ne 5, 3) := by decide +kernel
theorem d_MM_occurs_27 : decode b_MM_occurs 27 = .ok (.iconst 1, 1) := by decide +kernel
theorem d_MM_occurs_28 : decode b_MM_occurs 28 = .ok (.ireturn, 1) := by decide +kernel
theorem d_MM_occurs_29 : decode b_MM_occurs 29 = .ok (.aload_n 0, 1) := by decide +kernel
theorem d_MM_occurs_30 : decode b_MM_occurs 30 = .ok (.getfield 335, 3) := by decide +kernel
theorem d_MM_occurs_33 : decode b_MM_occurs 33 = .ok (.iload 4, 2) := by decide +kernel
theorem d_MM_occurs_35 : decode b_MM_occurs 35 = .ok (.iaload, 1) := by decide +kernel
theorem d_MM_occurs_36 : decode b_MM_occurs 36 = .ok (.ifCond .lt 29, 3) := by decide +kernel
theorem d_MM_occurs_39 : decode b_MM_occurs 39 = .ok (.aload_n 0, 1) := by decide +kernel
theorem d_MM_occurs_40 : decode b_MM_occurs 40 = .ok (.iload_n 1, 1) := by decide +kernel
theorem d_MM_occurs_41 : decode b_MM_occurs 41 = .ok (.aload_n 0, 1) := by decide +kernel
theorem d_MM_occurs_42 : decode b_MM_occurs 42 = .ok (.getfield 335, 3) := by decide +kernel
theorem d_MM_occurs_45 : decode b_MM_occurs 45 = .ok (.iload 4, 2) := by decide +kernel
theorem d_MM_occurs_47 : decode b_MM_occurs 47 = .ok (.iaload, 1) := by decide +kernel
theorem d_MM_occurs_48 : decode b_MM_occurs 48 = .ok (.aload_n 0, 1) := by decide +kernel
theorem d_MM_occurs_49 : decode b_MM_occurs 49 = .ok (.getfield 338, 3) := by decide +kernel
theorem d_MM_occurs_52 : decode b_MM_occurs 52 = .ok (.iload 4, 2) := by decide +kernel
theorem d_MM_occurs_54 : decode b_MM_occurs 54 = .ok (.iaload, 1) := by decide +kernel
theorem d_MM_occurs_55 : decode b_MM_occurs 55 = .ok (.invokevirtual 620, 3) := by decide +kernel
theorem d_MM_occurs_58 : decode b_MM_occurs 58 = .ok (.ifCond .eq 7, 3) := by decide +kernel
theorem d_MM_occurs_61 : decode b_MM_occurs 61 = .ok (.iconst 1, 1) := by decide +kernel
theorem d_MM_occurs_62 : decode b_MM_occurs 62 = .ok (.goto 4, 3) := by decide +kernel
theorem d_MM_occurs_65 : decode b_MM_occurs 65 = .ok (.iconst 0, 1) := by decide +kernel
theorem d_MM_occurs_66 : decode b_MM_occurs 66 = .ok (.ireturn, 1) := by decide +kernel
theorem d_MM_occurs_67 : decode b_MM_occurs 67 = .ok (.aload_n 0, 1) := by decide +kernel
theorem d_MM_occurs_68 : decode b_MM_occurs 68 = .ok (.getfield 148, 3) := by decide +kernel
theorem d_MM_occurs_71 : decode b_MM_occurs 71 = .ok (.iload_n 2, 1) := by decide +kernel
theorem d_MM_occurs_72 : decode b_MM_occurs 72 = .ok (.iaload, 1) := by decide +kernel
theorem d_MM_occurs_73 : decode b_MM_occurs 73 = .ok (.istore 4, 2) := by decide +kernel
theorem d_MM_occurs_75 : decode b_MM_occurs 75 = .ok (.iload 4, 2) := by decide +kernel
theorem d_MM_occurs_77 : decode b_MM_occurs 77 = .ok (.ifCond .lt 28, 3) := by decide +kernel
theorem d_MM_occurs_80 : decode b_MM_occurs 80 = .ok (.aload_n 0, 1) := by decide +kernel
theorem d_MM_occurs_81 : decode b_MM_occurs 81 = .ok (.iload_n 1, 1) := by decide +kernel
theorem d_MM_occurs_82 : decode b_MM_occurs 82 = .ok (.iload 4, 2) := by decide +kernel
theorem d_MM_occurs_84 : decode b_MM_occurs 84 = .ok (.iload_n 3, 1) := by decide +kernel
theorem d_MM_occurs_85 : decode b_MM_occurs 85 = .ok (.invokevirtual 620, 3) := by decide +kernel
theorem d_MM_occurs_88 : decode b_MM_occurs 88 = .ok (.ifCond .eq 5, 3) := by decide +kernel
theorem d_MM_occurs_91 : decode b_MM_occurs 91 = .ok (.iconst 1, 1) := by decide +kernel
theorem d_MM_occurs_92 : decode b_MM_occurs 92 = .ok (.ireturn, 1) := by decide +kernel
theorem d_MM_occurs_93 : decode b_MM_occurs 93 = .ok (.aload_n 0, 1) := by decide +kernel
theorem d_MM_occurs_94 : decode b_MM_occurs 94 = .ok (.getfield 151, 3) := by decide +kernel
theorem d_MM_occurs_97 : decode b_MM_occurs 97 = .ok (.iload 4, 2) := by decide +kernel
theorem d_MM_occurs_99 : decode b_MM_occurs 99 = .ok (.iaload, 1) := by decide +kernel
theorem d_MM_occurs_100 : decode b_MM_occurs 100 = .ok (.istore 4, 2) := by decide +kernel
theorem d_MM_occurs_102 : decode b_MM_occurs 102 = .ok (.goto (-27), 3) := by decide +kernel
theorem d_MM_occurs_105 : decode b_MM_occurs 105 = .ok (.iconst 0, 1) := by decide +kernel
theorem d_MM_occurs_106 : decode b_MM_occurs 106 = .ok (.ireturn, 1) := by decide +kernel
abbrev b_MM_begin : ByteArray := prog_14_method_83_code
def y_MM_begin : MethodName := ⟨"ClauseProverModel", "begin", "()V"⟩
theorem d_MM_begin_0 : decode b_MM_begin 0 = .ok (.aload_n 0, 1) := by decide +kernel
theorem d_MM_begin_1 : decode b_MM_begin 1 = .ok (.iconst 0, 1) := by decide +kernel
theorem d_MM_begin_2 : decode b_MM_begin 2 = .ok (.putfield 353, 3) := by decide +kernel
theorem d_MM_begin_5 : decode b_MM_begin 5 = .ok (.aload_n 0, 1) := by decide +kernel
theorem d_MM_begin_6 : decode b_MM_begin 6 = .ok (.iconst (-1), 1) := by decide +kernel
theorem d_MM_begin_7 : decode b_MM_begin 7 = .ok (.putfield 356, 3) := by decide +kernel
theorem d_MM_begin_10 : decode b_MM_begin 10 = .ok (.return_, 1) := by decide +kernel
abbrev b_MM_planOthers : ByteArray := prog_14_method_82_code
def y_MM_planOthers : MethodName := ⟨"ClauseProverModel", "planOthers", "(IIII)V"⟩
theorem d_MM_planOthers_0 : decode b_MM_planOthers 0 = .ok (.aload_n 0, 1) := by decide +kernel
theorem d_MM_planOthers_1 : decode b_MM_planOthers 1 = .ok (.getfield 235, 3) := by decide +kernel
theorem d_MM_planOthers_4 : decode b_MM_planOthers 4 = .ok (.iload_n 1, 1) := by decide +kernel
theorem d_MM_planOthers_5 : decode b_MM_planOthers 5 = .ok (.iaload, 1) := by decide +kernel
theorem d_MM_planOthers_6 : decode b_MM_planOthers 6 = .ok (.istore 5, 2) := by decide +kernel
theorem d_MM_planOthers_8 : decode b_MM_planOthers 8 = .ok (.iload 5, 2) := by decide +kernel
theorem d_MM_planOthers_10 : decode b_MM_planOthers 10 = .ok (.aload_n 0, 1) := by decide +kernel
theorem d_MM_planOthers_11 : decode b_MM_planOthers 11 = .ok (.getfield 235, 3) := by decide +kernel
theorem d_MM_planOthers_14 : decode b_MM_planOthers 14 = .ok (.iload_n 1, 1) := by decide +kernel
theorem d_MM_planOthers_15 : decode b_MM_planOthers 15 = .ok (.iaload, 1) := by decide +kernel
theorem d_MM_planOthers_16 : decode b_MM_planOthers 16 = .ok (.aload_n 0, 1) := by decide +kernel
theorem d_MM_planOthers_17 : decode b_MM_planOthers 17 = .ok (.getfield 238, 3) := by decide +kernel
theorem d_MM_planOthers_20 : decode b_MM_planOthers 20 = .ok (.iload_n 1, 1) := by decide +kernel
theorem d_MM_planOthers_21 : decode b_MM_planOthers 21 = .ok (.iaload, 1) := by decide +kernel
theorem d_MM_planOthers_22 : decode b_MM_planOthers 22 = .ok (.iadd, 1) := by decide +kernel
theorem d_MM_planOthers_23 : decode b_MM_planOthers 23 = .ok (.if_icmp .ge 48, 3) := by decide +kernel
theorem d_MM_planOthers_26 : decode b_MM_planOthers 26 = .ok (.iload 5, 2) := by decide +kernel
theorem d_MM_planOthers_28 : decode b_MM_planOthers 28 = .ok (.iload_n 3, 1) := by decide +kernel
theorem d_MM_planOthers_29 : decode b_MM_planOthers 29 = .ok (.if_icmp .eq 36, 3) := by decide +kernel
theorem d_MM_planOthers_32 : decode b_MM_planOthers 32 = .ok (.iload 5, 2) := by decide +kernel
theorem d_MM_planOthers_34 : decode b_MM_planOthers 34 = .ok (.iload 4, 2) := by decide +kernel
theorem d_MM_planOthers_36 : decode b_MM_planOthers 36 = .ok (.if_icmp .eq 29, 3) := by decide +kernel
theorem d_MM_planOthers_39 : decode b_MM_planOthers 39 = .ok (.aload_n 0, 1) := by decide +kernel
theorem d_MM_planOthers_40 : decode b_MM_planOthers 40 = .ok (.aload_n 0, 1) := by decide +kernel
theorem d_MM_planOthers_41 : decode b_MM_planOthers 41 = .ok (.getfield 214, 3) := by decide +kernel
theorem d_MM_planOthers_44 : decode b_MM_planOthers 44 = .ok (.iload 5, 2) := by decide +kernel
theorem d_MM_planOthers_46 : decode b_MM_planOthers 46 = .ok (.iaload, 1) := by decide +kernel
theorem d_MM_planOthers_47 : decode b_MM_planOthers 47 = .ok (.aload_n 0, 1) := by decide +kernel
theorem d_MM_planOthers_48 : decode b_MM_planOthers 48 = .ok (.getfield 217, 3) := by decide +kernel
theorem d_MM_planOthers_51 : decode b_MM_planOthers 51 = .ok (.iload 5, 2) := by decide +kernel
theorem d_MM_planOthers_53 : decode b_MM_planOthers 53 = .ok (.iaload, 1) := by decide +kernel
theorem d_MM_planOthers_54 : decode b_MM_planOthers 54 = .ok (.iload_n 2, 1) := by decide +kernel
theorem d_MM_planOthers_55 : decode b_MM_planOthers 55 = .ok (.aload_n 0, 1) := by decide +kernel
theorem d_MM_planOthers_56 : decode b_MM_planOthers 56 = .ok (.getfield 220, 3) := by decide +kernel
theorem d_MM_planOthers_59 : decode b_MM_planOthers 59 = .ok (.iload 5, 2) := by decide +kernel
theorem d_MM_planOthers_61 : decode b_MM_planOthers 61 = .ok (.baload, 1) := by decide +kernel
theorem d_MM_planOthers_62 : decode b_MM_planOthers 62 = .ok (.invokevirtual 651, 3) := by decide +kernel
theorem d_MM_planOthers_65 : decode b_MM_planOthers 65 = .ok (.iinc 5 1, 3) := by decide +kernel
theorem d_MM_planOthers_68 : decode b_MM_planOthers 68 = .ok (.goto (-60), 3) := by decide +kernel
theorem d_MM_planOthers_71 : decode b_MM_planOthers 71 = .ok (.return_, 1) := by decide +kernel
abbrev b_MM_plan : ByteArray := prog_14_method_81_code
def y_MM_plan : MethodName := ⟨"ClauseProverModel", "plan", "(IIIZ)V"⟩
theorem d_MM_plan_0 : decode b_MM_plan 0 = .ok (.aload_n 0, 1) := by decide +kernel
theorem d_MM_plan_1 : decode b_MM_plan 1 = .ok (.getfield 341, 3) := by decide +kernel
theorem d_MM_plan_4 : decode b_MM_plan 4 = .ok (.aload_n 0, 1) := by decide +kernel
theorem d_MM_plan_5 : decode b_MM_plan 5 = .ok (.getfield 353, 3) := by decide +kernel
theorem d_MM_plan_8 : decode b_MM_plan 8 = .ok (.iload_n 1, 1) := by decide +kernel
theorem d_MM_plan_9 : decode b_MM_plan 9 = .ok (.iastore, 1) := by decide +kernel
theorem d_MM_plan_10 : decode b_MM_plan 10 = .ok (.aload_n 0, 1) := by decide +kernel
theorem d_MM_plan_11 : decode b_MM_plan 11 = .ok (.getfield 344, 3) := by decide +kernel
theorem d_MM_plan_14 : decode b_MM_plan 14 = .ok (.aload_n 0, 1) := by decide +kernel
theorem d_MM_plan_15 : decode b_MM_plan 15 = .ok (.getfield 353, 3) := by decide +kernel
theorem d_MM_plan_18 : decode b_MM_plan 18 = .ok (.iload_n 2, 1) := by decide +kernel
theorem d_MM_plan_19 : decode b_MM_plan 19 = .ok (.iastore, 1) := by decide +kernel
theorem d_MM_plan_20 : decode b_MM_plan 20 = .ok (.aload_n 0, 1) := by decide +kernel
theorem d_MM_plan_21 : decode b_MM_plan 21 = .ok (.getfield 347, 3) := by decide +kernel
theorem d_MM_plan_24 : decode b_MM_plan 24 = .ok (.aload_n 0, 1) := by decide +kernel
theorem d_MM_plan_25 : decode b_MM_plan 25 = .ok (.getfield 353, 3) := by decide +kernel
theorem d_MM_plan_28 : decode b_MM_plan 28 = .ok (.iload_n 3, 1) := by decide +kernel
theorem d_MM_plan_29 : decode b_MM_plan 29 = .ok (.iastore, 1) := by decide +kernel
theorem d_MM_plan_30 : decode b_MM_plan 30 = .ok (.aload_n 0, 1) := by decide +kernel
theorem d_MM_plan_31 : decode b_MM_plan 31 = .ok (.getfield 350, 3) := by decide +kernel
theorem d_MM_plan_34 : decode b_MM_plan 34 = .ok (.aload_n 0, 1) := by decide +kernel
theorem d_MM_plan_35 : decode b_MM_plan 35 = .ok (.dup, 1) := by decide +kernel
theorem d_MM_plan_36 : decode b_MM_plan 36 = .ok (.getfield 353, 3) := by decide +kernel
theorem d_MM_plan_39 : decode b_MM_plan 39 = .ok (.dup_x1, 1) := by decide +kernel
theorem d_MM_plan_40 : decode b_MM_plan 40 = .ok (.iconst 1, 1) := by decide +kernel
theorem d_MM_plan_41 : decode b_MM_plan 41 = .ok (.iadd, 1) := by decide +kernel
theorem d_MM_plan_42 : decode b_MM_plan 42 = .ok (.putfield 353, 3) := by decide +kernel
theorem d_MM_plan_45 : decode b_MM_plan 45 = .ok (.iload 4, 2) := by decide +kernel
theorem d_MM_plan_47 : decode b_MM_plan 47 = .ok (.bastore, 1) := by decide +kernel
theorem d_MM_plan_48 : decode b_MM_plan 48 = .ok (.return_, 1) := by decide +kernel
abbrev b_MM_conclude : ByteArray := prog_14_method_79_code
def y_MM_conclude : MethodName := ⟨"ClauseProverModel", "conclude", "(III)V"⟩
theorem d_MM_conclude_0 : decode b_MM_conclude 0 = .ok (.aload_n 0, 1) := by decide +kernel
theorem d_MM_conclude_1 : decode b_MM_conclude 1 = .ok (.dup, 1) := by decide +kernel
theorem d_MM_conclude_2 : decode b_MM_conclude 2 = .ok (.getfield 287, 3) := by decide +kernel
theorem d_MM_conclude_5 : decode b_MM_conclude 5 = .ok (.iconst 1, 1) := by decide +kernel
theorem d_MM_conclude_6 : decode b_MM_conclude 6 = .ok (.iadd, 1) := by decide +kernel
theorem d_MM_conclude_7 : decode b_MM_conclude 7 = .ok (.putfield 287, 3) := by decide +kernel
theorem d_MM_conclude_10 : decode b_MM_conclude 10 = .ok (.aload_n 0, 1) := by decide +kernel
theorem d_MM_conclude_11 : decode b_MM_conclude 11 = .ok (.getfield 353, 3) := by decide +kernel
theorem d_MM_conclude_14 : decode b_MM_conclude 14 = .ok (.bipush 8, 2) := by decide +kernel
theorem d_MM_conclude_16 : decode b_MM_conclude 16 = .ok (.if_icmp .le 14, 3) := by decide +kernel
theorem d_MM_conclude_19 : decode b_MM_conclude 19 = .ok (.aload_n 0, 1) := by decide +kernel
theorem d_MM_conclude_20 : decode b_MM_conclude 20 = .ok (.dup, 1) := by decide +kernel
theorem d_MM_conclude_21 : decode b_MM_conclude 21 = .ok (.getfield 290, 3) := by decide +kernel
theorem d_MM_conclude_24 : decode b_MM_conclude 24 = .ok (.iconst 1, 1) := by decide +kernel
theorem d_MM_conclude_25 : decode b_MM_conclude 25 = .ok (.iadd, 1) := by decide +kernel
theorem d_MM_conclude_26 : decode b_MM_conclude 26 = .ok (.putfield 290, 3) := by decide +kernel
theorem d_MM_conclude_29 : decode b_MM_conclude 29 = .ok (.return_, 1) := by decide +kernel
theorem d_MM_conclude_30 : decode b_MM_conclude 30 = .ok (.iconst 0, 1) := by decide +kernel
theorem d_MM_conclude_31 : decode b_MM_conclude 31 = .ok (.istore 4, 2) := by decide +kernel
theorem d_MM_conclude_33 : decode b_MM_conclude 33 = .ok (.iconst 0, 1) := by decide +kernel
theorem d_MM_conclude_34 : decode b_MM_conclude 34 = .ok (.istore 5, 2) := by decide +kernel
theorem d_MM_conclude_36 : decode b_MM_conclude 36 = .ok (.iload 5, 2) := by decide +kernel
theorem d_MM_conclude_38 : decode b_MM_conclude 38 = .ok (.aload_n 0, 1) := by decide +kernel
theorem d_MM_conclude_39 : decode b_MM_conclude 39 = .ok (.getfield 353, 3) := by decide +kernel
theorem d_MM_conclude_42 : decode b_MM_conclude 42 = .ok (.if_icmp .ge 73, 3) := by decide +kernel
theorem d_MM_conclude_45 : decode b_MM_conclude 45 = .ok (.iload 4, 2) := by decide +kernel
theorem d_MM_conclude_47 : decode b_MM_conclude 47 = .ok (.aload_n 0, 1) := by decide +kernel
theorem d_MM_conclude_48 : decode b_MM_conclude 48 = .ok (.aload_n 0, 1) := by decide +kernel
theorem d_MM_conclude_49 : decode b_MM_conclude 49 = .ok (.getfield 341, 3) := by decide +kernel
theorem d_MM_conclude_52 : decode b_MM_conclude 52 = .ok (.iload 5, 2) := by decide +kernel
theorem d_MM_conclude_54 : decode b_MM_conclude 54 = .ok (.iaload, 1) := by decide +kernel
theorem d_MM_conclude_55 : decode b_MM_conclude 55 = .ok (.aload_n 0, 1) := by decide +kernel
theorem d_MM_conclude_56 : decode b_MM_conclude 56 = .ok (.getfield 347, 3) := by decide +kernel
theorem d_MM_conclude_59 : decode b_MM_conclude 59 = .ok (.iload 5, 2) := by decide +kernel
theorem d_MM_conclude_61 : decode b_MM_conclude 61 = .ok (.iaload, 1) := by decide +kernel
theorem d_MM_conclude_62 : decode b_MM_conclude 62 = .ok (.aload_n 0, 1) := by decide +kernel
theorem d_MM_conclude_63 : decode b_MM_conclude 63 = .ok (.iload 5, 2) := by decide +kernel
theorem d_MM_conclude_65 : decode b_MM_conclude 65 = .ok (.invokevirtual 630, 3) := by decide +kernel
theorem d_MM_conclude_68 : decode b_MM_conclude 68 = .ok (.aload_n 0, 1) := by decide +kernel
theorem d_MM_conclude_69 : decode b_MM_conclude 69 = .ok (.getfield 359, 3) := by decide +kernel
theorem d_MM_conclude_72 : decode b_MM_conclude 72 = .ok (.iconst 0, 1) := by decide +kernel
theorem d_MM_conclude_73 : decode b_MM_conclude 73 = .ok (.invokevirtual 623, 3) := by decide +kernel
theorem d_MM_conclude_76 : decode b_MM_conclude 76 = .ok (.aload_n 0, 1) := by decide +kernel
theorem d_MM_conclude_77 : decode b_MM_conclude 77 = .ok (.aload_n 0, 1) := by decide +kernel
theorem d_MM_conclude_78 : decode b_MM_conclude 78 = .ok (.getfield 344, 3) := by decide +kernel
theorem d_MM_conclude_81 : decode b_MM_conclude 81 = .ok (.iload 5, 2) := by decide +kernel
theorem d_MM_conclude_83 : decode b_MM_conclude 83 = .ok (.iaload, 1) := by decide +kernel
theorem d_MM_conclude_84 : decode b_MM_conclude 84 = .ok (.aload_n 0, 1) := by decide +kernel
theorem d_MM_conclude_85 : decode b_MM_conclude 85 = .ok (.getfield 347, 3) := by decide +kernel
theorem d_MM_conclude_88 : decode b_MM_conclude 88 = .ok (.iload 5, 2) := by decide +kernel
theorem d_MM_conclude_90 : decode b_MM_conclude 90 = .ok (.iaload, 1) := by decide +kernel
theorem d_MM_conclude_91 : decode b_MM_conclude 91 = .ok (.aload_n 0, 1) := by decide +kernel
theorem d_MM_conclude_92 : decode b_MM_conclude 92 = .ok (.iload 5, 2) := by decide +kernel
theorem d_MM_conclude_94 : decode b_MM_conclude 94 = .ok (.invokevirtual 630, 3) := by decide +kernel
theorem d_MM_conclude_97 : decode b_MM_conclude 97 = .ok (.aload_n 0, 1) := by decide +kernel
theorem d_MM_conclude_98 : decode b_MM_conclude 98 = .ok (.getfield 359, 3) := by decide +kernel
theorem d_MM_conclude_101 : decode b_MM_conclude 101 = .ok (.iconst 0, 1) := by decide +kernel
theorem d_MM_conclude_102 : decode b_MM_conclude 102 = .ok (.invokevirtual 623, 3) := by decide +kernel
theorem d_MM_conclude_105 : decode b_MM_conclude 105 = .ok (.iadd, 1) := by decide +kernel
theorem d_MM_conclude_106 : decode b_MM_conclude 106 = .ok (.iadd, 1) := by decide +kernel
theorem d_MM_conclude_107 : decode b_MM_conclude 107 = .ok (.istore 4, 2) := by decide +kernel
theorem d_MM_conclude_109 : decode b_MM_conclude 109 = .ok (.iinc 5 1, 3) := by decide +kernel
theorem d_MM_conclude_112 : decode b_MM_conclude 112 = .ok (.goto (-76), 3) := by decide +kernel
theorem d_MM_conclude_115 : decode b_MM_conclude 115 = .ok (.iload 4, 2) := by decide +kernel
theorem d_MM_conclude_117 : decode b_MM_conclude 117 = .ok (.bipush 100, 2) := by decide +kernel
theorem d_MM_conclude_119 : decode b_MM_conclude 119 = .ok (.if_icmp .le 14, 3) := by decide +kernel
theorem d_MM_conclude_122 : decode b_MM_conclude 122 = .ok (.aload_n 0, 1) := by decide +kernel
theorem d_MM_conclude_123 : decode b_MM_conclude 123 = .ok (.dup, 1) := by decide +kernel
theorem d_MM_conclude_124 : decode b_MM_conclude 124 = .ok (.getfield 290, 3) := by decide +kernel
theorem d_MM_conclude_127 : decode b_MM_conclude 127 = .ok (.iconst 1, 1) := by decide +kernel
theorem d_MM_conclude_128 : decode b_MM_conclude 128 = .ok (.iadd, 1) := by decide +kernel
theorem d_MM_conclude_129 : decode b_MM_conclude 129 = .ok (.putfield 290, 3) := by decide +kernel
theorem d_MM_conclude_132 : decode b_MM_conclude 132 = .ok (.return_, 1) := by decide +kernel
theorem d_MM_conclude_133 : decode b_MM_conclude 133 = .ok (.aload_n 0, 1) := by decide +kernel
theorem d_MM_conclude_134 : decode b_MM_conclude 134 = .ok (.ldc_w 633, 3) := by decide +kernel
theorem d_MM_conclude_137 : decode b_MM_conclude 137 = .ok (.putfield 157, 3) := by decide +kernel
theorem d_MM_conclude_140 : decode b_MM_conclude 140 = .ok (.aload_n 0, 1) := by decide +kernel
theorem d_MM_conclude_141 : decode b_MM_conclude 141 = .ok (.iconst 0, 1) := by decide +kernel
theorem d_MM_conclude_142 : decode b_MM_conclude 142 = .ok (.putfield 311, 3) := by decide +kernel
theorem d_MM_conclude_145 : decode b_MM_conclude 145 = .ok (.iconst 0, 1) := by decide +kernel
theorem d_MM_conclude_146 : decode b_MM_conclude 146 = .ok (.istore 5, 2) := by decide +kernel
theorem d_MM_conclude_148 : decode b_MM_conclude 148 = .ok (.iload 5, 2) := by decide +kernel
theorem d_MM_conclude_150 : decode b_MM_conclude 150 = .ok (.aload_n 0, 1) := by decide +kernel
theorem d_MM_conclude_151 : decode b_MM_conclude 151 = .ok (.getfield 353, 3) := by decide +kernel
theorem d_MM_conclude_154 : decode b_MM_conclude 154 = .ok (.if_icmp .ge 78, 3) := by decide +kernel
theorem d_MM_conclude_157 : decode b_MM_conclude 157 = .ok (.aload_n 0, 1) := by decide +kernel
theorem d_MM_conclude_158 : decode b_MM_conclude 158 = .ok (.aload_n 0, 1) := by decide +kernel
theorem d_MM_conclude_159 : decode b_MM_conclude 159 = .ok (.aload_n 0, 1) := by decide +kernel
theorem d_MM_conclude_160 : decode b_MM_conclude 160 = .ok (.getfield 341, 3) := by decide +kernel
theorem d_MM_conclude_163 : decode b_MM_conclude 163 = .ok (.iload 5, 2) := by decide +kernel
theorem d_MM_conclude_165 : decode b_MM_conclude 165 = .ok (.iaload, 1) := by decide +kernel
theorem d_MM_conclude_166 : decode b_MM_conclude 166 = .ok (.aload_n 0, 1) := by decide +kernel
theorem d_MM_conclude_167 : decode b_MM_conclude 167 = .ok (.getfield 347, 3) := by decide +kernel
theorem d_MM_conclude_170 : decode b_MM_conclude 170 = .ok (.iload 5, 2) := by decide +kernel
theorem d_MM_conclude_172 : decode b_MM_conclude 172 = .ok (.iaload, 1) := by decide +kernel
theorem d_MM_conclude_173 : decode b_MM_conclude 173 = .ok (.aload_n 0, 1) := by decide +kernel
theorem d_MM_conclude_174 : decode b_MM_conclude 174 = .ok (.iload 5, 2) := by decide +kernel
theorem d_MM_conclude_176 : decode b_MM_conclude 176 = .ok (.invokevirtual 630, 3) := by decide +kernel
theorem d_MM_conclude_179 : decode b_MM_conclude 179 = .ok (.aload_n 0, 1) := by decide +kernel
theorem d_MM_conclude_180 : decode b_MM_conclude 180 = .ok (.getfield 359, 3) := by decide +kernel
theorem d_MM_conclude_183 : decode b_MM_conclude 183 = .ok (.iconst 0, 1) := by decide +kernel
theorem d_MM_conclude_184 : decode b_MM_conclude 184 = .ok (.invokevirtual 627, 3) := by decide +kernel
theorem d_MM_conclude_187 : decode b_MM_conclude 187 = .ok (.aload_n 0, 1) := by decide +kernel
theorem d_MM_conclude_188 : decode b_MM_conclude 188 = .ok (.aload_n 0, 1) := by decide +kernel
theorem d_MM_conclude_189 : decode b_MM_conclude 189 = .ok (.getfield 344, 3) := by decide +kernel
theorem d_MM_conclude_192 : decode b_MM_conclude 192 = .ok (.iload 5, 2) := by decide +kernel
theorem d_MM_conclude_194 : decode b_MM_conclude 194 = .ok (.iaload, 1) := by decide +kernel
theorem d_MM_conclude_195 : decode b_MM_conclude 195 = .ok (.aload_n 0, 1) := by decide +kernel
theorem d_MM_conclude_196 : decode b_MM_conclude 196 = .ok (.getfield 347, 3) := by decide +kernel
theorem d_MM_conclude_199 : decode b_MM_conclude 199 = .ok (.iload 5, 2) := by decide +kernel
theorem d_MM_conclude_201 : decode b_MM_conclude 201 = .ok (.iaload, 1) := by decide +kernel
theorem d_MM_conclude_202 : decode b_MM_conclude 202 = .ok (.aload_n 0, 1) := by decide +kernel
theorem d_MM_conclude_203 : decode b_MM_conclude 203 = .ok (.iload 5, 2) := by decide +kernel
theorem d_MM_conclude_205 : decode b_MM_conclude 205 = .ok (.invokevirtual 630, 3) := by decide +kernel
theorem d_MM_conclude_208 : decode b_MM_conclude 208 = .ok (.aload_n 0, 1) := by decide +kernel
theorem d_MM_conclude_209 : decode b_MM_conclude 209 = .ok (.getfield 359, 3) := by decide +kernel
theorem d_MM_conclude_212 : decode b_MM_conclude 212 = .ok (.iconst 0, 1) := by decide +kernel
theorem d_MM_conclude_213 : decode b_MM_conclude 213 = .ok (.invokevirtual 627, 3) := by decide +kernel
theorem d_MM_conclude_216 : decode b_MM_conclude 216 = .ok (.aload_n 0, 1) := by decide +kernel
theorem d_MM_conclude_217 : decode b_MM_conclude 217 = .ok (.getfield 350, 3) := by decide +kernel
theorem d_MM_conclude_220 : decode b_MM_conclude 220 = .ok (.iload 5, 2) := by decide +kernel
theorem d_MM_conclude_222 : decode b_MM_conclude 222 = .ok (.baload, 1) := by decide +kernel
theorem d_MM_conclude_223 : decode b_MM_conclude 223 = .ok (.invokevirtual 634, 3) := by decide +kernel
theorem d_MM_conclude_226 : decode b_MM_conclude 226 = .ok (.iinc 5 1, 3) := by decide +kernel
theorem d_MM_conclude_229 : decode b_MM_conclude 229 = .ok (.goto (-81), 3) := by decide +kernel
theorem d_MM_conclude_232 : decode b_MM_conclude 232 = .ok (.aload_n 0, 1) := by decide +kernel
theorem d_MM_conclude_233 : decode b_MM_conclude 233 = .ok (.invokevirtual 638, 3) := by decide +kernel
theorem d_MM_conclude_236 : decode b_MM_conclude 236 = .ok (.bipush 6, 2) := by decide +kernel
theorem d_MM_conclude_238 : decode b_MM_conclude 238 = .ok (.if_icmp .le 14, 3) := by decide +kernel
theorem d_MM_conclude_241 : decode b_MM_conclude 241 = .ok (.aload_n 0, 1) := by decide +kernel
theorem d_MM_conclude_242 : decode b_MM_conclude 242 = .ok (.dup, 1) := by decide +kernel
theorem d_MM_conclude_243 : decode b_MM_conclude 243 = .ok (.getfield 290, 3) := by decide +kernel
theorem d_MM_conclude_246 : decode b_MM_conclude 246 = .ok (.iconst 1, 1) := by decide +kernel
theorem d_MM_conclude_247 : decode b_MM_conclude 247 = .ok (.iadd, 1) := by decide +kernel
theorem d_MM_conclude_248 : decode b_MM_conclude 248 = .ok (.putfield 290, 3) := by decide +kernel
theorem d_MM_conclude_251 : decode b_MM_conclude 251 = .ok (.return_, 1) := by decide +kernel
theorem d_MM_conclude_252 : decode b_MM_conclude 252 = .ok (.aload_n 0, 1) := by decide +kernel
theorem d_MM_conclude_253 : decode b_MM_conclude 253 = .ok (.invokevirtual 641, 3) := by decide +kernel
theorem d_MM_conclude_256 : decode b_MM_conclude 256 = .ok (.aload_n 0, 1) := by decide +kernel
theorem d_MM_conclude_257 : decode b_MM_conclude 257 = .ok (.invokevirtual 644, 3) := by decide +kernel
theorem d_MM_conclude_260 : decode b_MM_conclude 260 = .ok (.ifCond .eq 16, 3) := by decide +kernel
theorem d_MM_conclude_263 : decode b_MM_conclude 263 = .ok (.aload_n 0, 1) := by decide +kernel
theorem d_MM_conclude_264 : decode b_MM_conclude 264 = .ok (.dup, 1) := by decide +kernel
theorem d_MM_conclude_265 : decode b_MM_conclude 265 = .ok (.getfield 299, 3) := by decide +kernel
theorem d_MM_conclude_268 : decode b_MM_conclude 268 = .ok (.iconst 1, 1) := by decide +kernel
theorem d_MM_conclude_269 : decode b_MM_conclude 269 = .ok (.iadd, 1) := by decide +kernel
theorem d_MM_conclude_270 : decode b_MM_conclude 270 = .ok (.putfield 299, 3) := by decide +kernel
theorem d_MM_conclude_273 : decode b_MM_conclude 273 = .ok (.goto 11, 3) := by decide +kernel
theorem d_MM_conclude_276 : decode b_MM_conclude 276 = .ok (.aload_n 0, 1) := by decide +kernel
theorem d_MM_conclude_277 : decode b_MM_conclude 277 = .ok (.iload_n 1, 1) := by decide +kernel
theorem d_MM_conclude_278 : decode b_MM_conclude 278 = .ok (.iload_n 2, 1) := by decide +kernel
theorem d_MM_conclude_279 : decode b_MM_conclude 279 = .ok (.iload_n 3, 1) := by decide +kernel
theorem d_MM_conclude_280 : decode b_MM_conclude 280 = .ok (.invokevirtual 648, 3) := by decide +kernel
theorem d_MM_conclude_283 : decode b_MM_conclude 283 = .ok (.pop, 1) := by decide +kernel
theorem d_MM_conclude_284 : decode b_MM_conclude 284 = .ok (.return_, 1) := by decide +kernel
abbrev b_MM_placeIn : ByteArray := prog_14_method_80_code
def y_MM_placeIn : MethodName := ⟨"ClauseProverModel", "placeIn", "(I)I"⟩
theorem d_MM_placeIn_0 : decode b_MM_placeIn 0 = .ok (.aload_n 0, 1) := by decide +kernel
theorem d_MM_placeIn_1 : decode b_MM_placeIn 1 = .ok (.getfield 347, 3) := by decide +kernel
theorem d_MM_placeIn_4 : decode b_MM_placeIn 4 = .ok (.iload_n 1, 1) := by decide +kernel
theorem d_MM_placeIn_5 : decode b_MM_placeIn 5 = .ok (.iaload, 1) := by decide +kernel
theorem d_MM_placeIn_6 : decode b_MM_placeIn 6 = .ok (.bipush 6, 2) := by decide +kernel
theorem d_MM_placeIn_8 : decode b_MM_placeIn 8 = .ok (.if_icmp .ne 10, 3) := by decide +kernel
theorem d_MM_placeIn_11 : decode b_MM_placeIn 11 = .ok (.aload_n 0, 1) := by decide +kernel
theorem d_MM_placeIn_12 : decode b_MM_placeIn 12 = .ok (.getfield 356, 3) := by decide +kernel
theorem d_MM_placeIn_15 : decode b_MM_placeIn 15 = .ok (.goto 4, 3) := by decide +kernel
theorem d_MM_placeIn_18 : decode b_MM_placeIn 18 = .ok (.iconst (-1), 1) := by decide +kernel
theorem d_MM_placeIn_19 : decode b_MM_placeIn 19 = .ok (.ireturn, 1) := by decide +kernel
abbrev b_MM_weigh : ByteArray := prog_14_method_77_code
def y_MM_weigh : MethodName := ⟨"ClauseProverModel", "weigh", "(IIIII)I"⟩
theorem d_MM_weigh_0 : decode b_MM_weigh 0 = .ok (.iload_n 1, 1) := by decide +kernel
theorem d_MM_weigh_1 : decode b_MM_weigh 1 = .ok (.iload_n 3, 1) := by decide +kernel
theorem d_MM_weigh_2 : decode b_MM_weigh 2 = .ok (.if_icmp .ne 15, 3) := by decide +kernel
theorem d_MM_weigh_5 : decode b_MM_weigh 5 = .ok (.aload_n 0, 1) := by decide +kernel
theorem d_MM_weigh_6 : decode b_MM_weigh 6 = .ok (.iload 4, 2) := by decide +kernel
theorem d_MM_weigh_8 : decode b_MM_weigh 8 = .ok (.iload 5, 2) := by decide +kernel
theorem d_MM_weigh_10 : decode b_MM_weigh 10 = .ok (.iconst (-1), 1) := by decide +kernel
theorem d_MM_weigh_11 : decode b_MM_weigh 11 = .ok (.iconst (-1), 1) := by decide +kernel
theorem d_MM_weigh_12 : decode b_MM_weigh 12 = .ok (.iconst 0, 1) := by decide +kernel
theorem d_MM_weigh_13 : decode b_MM_weigh 13 = .ok (.invokevirtual 623, 3) := by decide +kernel
theorem d_MM_weigh_16 : decode b_MM_weigh 16 = .ok (.ireturn, 1) := by decide +kernel
theorem d_MM_weigh_17 : decode b_MM_weigh 17 = .ok (.aload_n 0, 1) := by decide +kernel
theorem d_MM_weigh_18 : decode b_MM_weigh 18 = .ok (.getfield 145, 3) := by decide +kernel
theorem d_MM_weigh_21 : decode b_MM_weigh 21 = .ok (.iload_n 1, 1) := by decide +kernel
theorem d_MM_weigh_22 : decode b_MM_weigh 22 = .ok (.iaload, 1) := by decide +kernel
theorem d_MM_weigh_23 : decode b_MM_weigh 23 = .ok (.ifCond .ge 51, 3) := by decide +kernel
theorem d_MM_weigh_26 : decode b_MM_weigh 26 = .ok (.iconst (-1), 1) := by decide +kernel
theorem d_MM_weigh_27 : decode b_MM_weigh 27 = .ok (.aload_n 0, 1) := by decide +kernel
theorem d_MM_weigh_28 : decode b_MM_weigh 28 = .ok (.getfield 145, 3) := by decide +kernel
theorem d_MM_weigh_31 : decode b_MM_weigh 31 = .ok (.iload_n 1, 1) := by decide +kernel
theorem d_MM_weigh_32 : decode b_MM_weigh 32 = .ok (.iaload, 1) := by decide +kernel
theorem d_MM_weigh_33 : decode b_MM_weigh 33 = .ok (.isub, 1) := by decide +kernel
theorem d_MM_weigh_34 : decode b_MM_weigh 34 = .ok (.iload_n 2, 1) := by decide +kernel
theorem d_MM_weigh_35 : decode b_MM_weigh 35 = .ok (.iadd, 1) := by decide +kernel
theorem d_MM_weigh_36 : decode b_MM_weigh 36 = .ok (.istore 6, 2) := by decide +kernel
theorem d_MM_weigh_38 : decode b_MM_weigh 38 = .ok (.aload_n 0, 1) := by decide +kernel
theorem d_MM_weigh_39 : decode b_MM_weigh 39 = .ok (.getfield 335, 3) := by decide +kernel
theorem d_MM_weigh_42 : decode b_MM_weigh 42 = .ok (.iload 6, 2) := by decide +kernel
theorem d_MM_weigh_44 : decode b_MM_weigh 44 = .ok (.iaload, 1) := by decide +kernel
theorem d_MM_weigh_45 : decode b_MM_weigh 45 = .ok (.ifCond .ge 7, 3) := by decide +kernel
theorem d_MM_weigh_48 : decode b_MM_weigh 48 = .ok (.iconst 1, 1) := by decide +kernel
theorem d_MM_weigh_49 : decode b_MM_weigh 49 = .ok (.goto 24, 3) := by decide +kernel
theorem d_MM_weigh_52 : decode b_MM_weigh 52 = .ok (.aload_n 0, 1) := by decide +kernel
theorem d_MM_weigh_53 : decode b_MM_weigh 53 = .ok (.aload_n 0, 1) := by decide +kernel
theorem d_MM_weigh_54 : decode b_MM_weigh 54 = .ok (.getfield 335, 3) := by decide +kernel
theorem d_MM_weigh_57 : decode b_MM_weigh 57 = .ok (.iload 6, 2) := by decide +kernel
theorem d_MM_weigh_59 : decode b_MM_weigh 59 = .ok (.iaload, 1) := by decide +kernel
theorem d_MM_weigh_60 : decode b_MM_weigh 60 = .ok (.aload_n 0, 1) := by decide +kernel
theorem d_MM_weigh_61 : decode b_MM_weigh 61 = .ok (.getfield 338, 3) := by decide +kernel
theorem d_MM_weigh_64 : decode b_MM_weigh 64 = .ok (.iload 6, 2) := by decide +kernel
theorem d_MM_weigh_66 : decode b_MM_weigh 66 = .ok (.iaload, 1) := by decide +kernel
theorem d_MM_weigh_67 : decode b_MM_weigh 67 = .ok (.iconst (-1), 1) := by decide +kernel
theorem d_MM_weigh_68 : decode b_MM_weigh 68 = .ok (.iconst (-1), 1) := by decide +kernel
theorem d_MM_weigh_69 : decode b_MM_weigh 69 = .ok (.iconst 0, 1) := by decide +kernel
theorem d_MM_weigh_70 : decode b_MM_weigh 70 = .ok (.invokevirtual 623, 3) := by decide +kernel
theorem d_MM_weigh_73 : decode b_MM_weigh 73 = .ok (.ireturn, 1) := by decide +kernel
theorem d_MM_weigh_74 : decode b_MM_weigh 74 = .ok (.iconst 1, 1) := by decide +kernel
theorem d_MM_weigh_75 : decode b_MM_weigh 75 = .ok (.istore 6, 2) := by decide +kernel
theorem d_MM_weigh_77 : decode b_MM_weigh 77 = .ok (.aload_n 0, 1) := by decide +kernel
theorem d_MM_weigh_78 : decode b_MM_weigh 78 = .ok (.getfield 148, 3) := by decide +kernel
theorem d_MM_weigh_81 : decode b_MM_weigh 81 = .ok (.iload_n 1, 1) := by decide +kernel
theorem d_MM_weigh_82 : decode b_MM_weigh 82 = .ok (.iaload, 1) := by decide +kernel
theorem d_MM_weigh_83 : decode b_MM_weigh 83 = .ok (.istore 7, 2) := by decide +kernel
theorem d_MM_weigh_85 : decode b_MM_weigh 85 = .ok (.iload 7, 2) := by decide +kernel
theorem d_MM_weigh_87 : decode b_MM_weigh 87 = .ok (.ifCond .lt 40, 3) := by decide +kernel
theorem d_MM_weigh_90 : decode b_MM_weigh 90 = .ok (.iload 6, 2) := by decide +kernel
theorem d_MM_weigh_92 : decode b_MM_weigh 92 = .ok (.sipush 1000, 3) := by decide +kernel
theorem d_MM_weigh_95 : decode b_MM_weigh 95 = .ok (.if_icmp .ge 32, 3) := by decide +kernel
theorem d_MM_weigh_98 : decode b_MM_weigh 98 = .ok (.iload 6, 2) := by decide +kernel
theorem d_MM_weigh_100 : decode b_MM_weigh 100 = .ok (.aload_n 0, 1) := by decide +kernel
theorem d_MM_weigh_101 : decode b_MM_weigh 101 = .ok (.iload 7, 2) := by decide +kernel
theorem d_MM_weigh_103 : decode b_MM_weigh 103 = .ok (.iload_n 2, 1) := by decide +kernel
theorem d_MM_weigh_104 : decode b_MM_weigh 104 = .ok (.iload_n 3, 1) := by decide +kernel
theorem d_MM_weigh_105 : decode b_MM_weigh 105 = .ok (.iload 4, 2) := by decide +kernel
theorem d_MM_weigh_107 : decode b_MM_weigh 107 = .ok (.iload 5, 2) := by decide +kernel
theorem d_MM_weigh_109 : decode b_MM_weigh 109 = .ok (.invokevirtual 623, 3) := by decide +kernel
theorem d_MM_weigh_112 : decode b_MM_weigh 112 = .ok (.iadd, 1) := by decide +kernel
theorem d_MM_weigh_113 : decode b_MM_weigh 113 = .ok (.istore 6, 2) := by decide +kernel
theorem d_MM_weigh_115 : decode b_MM_weigh 115 = .ok (.aload_n 0, 1) := by decide +kernel
theorem d_MM_weigh_116 : decode b_MM_weigh 116 = .ok (.getfield 151, 3) := by decide +kernel
theorem d_MM_weigh_119 : decode b_MM_weigh 119 = .ok (.iload 7, 2) := by decide +kernel
theorem d_MM_weigh_121 : decode b_MM_weigh 121 = .ok (.iaload, 1) := by decide +kernel
theorem d_MM_weigh_122 : decode b_MM_weigh 122 = .ok (.istore 7, 2) := by decide +kernel
theorem d_MM_weigh_124 : decode b_MM_weigh 124 = .ok (.goto (-39), 3) := by decide +kernel
theorem d_MM_weigh_127 : decode b_MM_weigh 127 = .ok (.sipush 1000, 3) := by decide +kernel
theorem d_MM_weigh_130 : decode b_MM_weigh 130 = .ok (.iload 6, 2) := by decide +kernel
theorem d_MM_weigh_132 : decode b_MM_weigh 132 = .ok (.invokestatic 538, 3) := by decide +kernel
theorem d_MM_weigh_135 : decode b_MM_weigh 135 = .ok (.ireturn, 1) := by decide +kernel
abbrev b_MM_with : ByteArray := prog_14_method_78_code
def y_MM_with : MethodName := ⟨"ClauseProverModel", "with", "(IIIII)I"⟩
theorem d_MM_with_0 : decode b_MM_with 0 = .ok (.iload_n 1, 1) := by decide +kernel
theorem d_MM_with_1 : decode b_MM_with 1 = .ok (.iload_n 3, 1) := by decide +kernel
theorem d_MM_with_2 : decode b_MM_with 2 = .ok (.if_icmp .ne 15, 3) := by decide +kernel
theorem d_MM_with_5 : decode b_MM_with 5 = .ok (.aload_n 0, 1) := by decide +kernel
theorem d_MM_with_6 : decode b_MM_with 6 = .ok (.iload 4, 2) := by decide +kernel
theorem d_MM_with_8 : decode b_MM_with 8 = .ok (.iload 5, 2) := by decide +kernel
theorem d_MM_with_10 : decode b_MM_with 10 = .ok (.iconst (-1), 1) := by decide +kernel
theorem d_MM_with_11 : decode b_MM_with 11 = .ok (.iconst (-1), 1) := by decide +kernel
theorem d_MM_with_12 : decode b_MM_with 12 = .ok (.iconst 0, 1) := by decide +kernel
theorem d_MM_with_13 : decode b_MM_with 13 = .ok (.invokevirtual 627, 3) := by decide +kernel
theorem d_MM_with_16 : decode b_MM_with 16 = .ok (.ireturn, 1) := by decide +kernel
theorem d_MM_with_17 : decode b_MM_with 17 = .ok (.aload_n 0, 1) := by decide +kernel
theorem d_MM_with_18 : decode b_MM_with 18 = .ok (.getfield 145, 3) := by decide +kernel
theorem d_MM_with_21 : decode b_MM_with 21 = .ok (.iload_n 1, 1) := by decide +kernel
theorem d_MM_with_22 : decode b_MM_with 22 = .ok (.iaload, 1) := by decide +kernel
theorem d_MM_with_23 : decode b_MM_with 23 = .ok (.ifCond .ge 58, 3) := by decide +kernel
theorem d_MM_with_26 : decode b_MM_with 26 = .ok (.iconst (-1), 1) := by decide +kernel
theorem d_MM_with_27 : decode b_MM_with 27 = .ok (.aload_n 0, 1) := by decide +kernel
theorem d_MM_with_28 : decode b_MM_with 28 = .ok (.getfield 145, 3) := by decide +kernel
theorem d_MM_with_31 : decode b_MM_with 31 = .ok (.iload_n 1, 1) := by decide +kernel
theorem d_MM_with_32 : decode b_MM_with 32 = .ok (.iaload, 1) := by decide +kernel
theorem d_MM_with_33 : decode b_MM_with 33 = .ok (.isub, 1) := by decide +kernel
theorem d_MM_with_34 : decode b_MM_with 34 = .ok (.iload_n 2, 1) := by decide +kernel
theorem d_MM_with_35 : decode b_MM_with 35 = .ok (.iadd, 1) := by decide +kernel
theorem d_MM_with_36 : decode b_MM_with 36 = .ok (.istore 6, 2) := by decide +kernel
theorem d_MM_with_38 : decode b_MM_with 38 = .ok (.aload_n 0, 1) := by decide +kernel
theorem d_MM_with_39 : decode b_MM_with 39 = .ok (.getfield 335, 3) := by decide +kernel
theorem d_MM_with_42 : decode b_MM_with 42 = .ok (.iload 6, 2) := by decide +kernel
theorem d_MM_with_44 : decode b_MM_with 44 = .ok (.iaload, 1) := by decide +kernel
theorem d_MM_with_45 : decode b_MM_with 45 = .ok (.ifCond .ge 14, 3) := by decide +kernel
theorem d_MM_with_48 : decode b_MM_with 48 = .ok (.aload_n 0, 1) := by decide +kernel
theorem d_MM_with_49 : decode b_MM_with 49 = .ok (.iconst (-1), 1) := by decide +kernel
theorem d_MM_with_50 : decode b_MM_with 50 = .ok (.iload 6, 2) := by decide +kernel
theorem d_MM_with_52 : decode b_MM_with 52 = .ok (.isub, 1) := by decide +kernel
theorem d_MM_with_53 : decode b_MM_with 53 = .ok (.invokevirtual 516, 3) := by decide +kernel
theorem d_MM_with_56 : decode b_MM_with 56 = .ok (.goto 24, 3) := by decide +kernel
theorem d_MM_with_59 : decode b_MM_with 59 = .ok (.aload_n 0, 1) := by decide +kernel
theorem d_MM_with_60 : decode b_MM_with 60 = .ok (.aload_n 0, 1) := by decide +kernel
theorem d_MM_with_61 : decode b_MM_with 61 = .ok (.getfield 335, 3) := by decide +kernel
theorem d_MM_with_64 : decode b_MM_with 64 = .ok (.iload 6, 2) := by decide +kernel
theorem d_MM_with_66 : decode b_MM_with 66 = .ok (.iaload, 1) := by decide +kernel
theorem d_MM_with_67 : decode b_MM_with 67 = .ok (.aload_n 0, 1) := by decide +kernel
theorem d_MM_with_68 : decode b_MM_with 68 = .ok (.getfield 338, 3) := by decide +kernel
theorem d_MM_with_71 : decode b_MM_with 71 = .ok (.iload 6, 2) := by decide +kernel
theorem d_MM_with_73 : decode b_MM_with 73 = .ok (.iaload, 1) := by decide +kernel
theorem d_MM_with_74 : decode b_MM_with 74 = .ok (.iconst (-1), 1) := by decide +kernel
theorem d_MM_with_75 : decode b_MM_with 75 = .ok (.iconst (-1), 1) := by decide +kernel
theorem d_MM_with_76 : decode b_MM_with 76 = .ok (.iconst 0, 1) := by decide +kernel
theorem d_MM_with_77 : decode b_MM_with 77 = .ok (.invokevirtual 627, 3) := by decide +kernel
theorem d_MM_with_80 : decode b_MM_with 80 = .ok (.ireturn, 1) := by decide +kernel
theorem d_MM_with_81 : decode b_MM_with 81 = .ok (.aload_n 0, 1) := by decide +kernel
theorem d_MM_with_82 : decode b_MM_with 82 = .ok (.aload_n 0, 1) := by decide +kernel
theorem d_MM_with_83 : decode b_MM_with 83 = .ok (.getfield 145, 3) := by decide +kernel
theorem d_MM_with_86 : decode b_MM_with 86 = .ok (.iload_n 1, 1) := by decide +kernel
theorem d_MM_with_87 : decode b_MM_with 87 = .ok (.iaload, 1) := by decide +kernel
theorem d_MM_with_88 : decode b_MM_with 88 = .ok (.invokevirtual 516, 3) := by decide +kernel
theorem d_MM_with_91 : decode b_MM_with 91 = .ok (.istore 6, 2) := by decide +kernel
theorem d_MM_with_93 : decode b_MM_with 93 = .ok (.iconst (-1), 1) := by decide +kernel
theorem d_MM_with_94 : decode b_MM_with 94 = .ok (.istore 7, 2) := by decide +kernel
theorem d_MM_with_96 : decode b_MM_with 96 = .ok (.aload_n 0, 1) := by decide +kernel
theorem d_MM_with_97 : decode b_MM_with 97 = .ok (.getfield 148, 3) := by decide +kernel
theorem d_MM_with_100 : decode b_MM_with 100 = .ok (.iload_n 1, 1) := by decide +kernel
theorem d_MM_with_101 : decode b_MM_with 101 = .ok (.iaload, 1) := by decide +kernel
theorem d_MM_with_102 : decode b_MM_with 102 = .ok (.istore 8, 2) := by decide +kernel
theorem d_MM_with_104 : decode b_MM_with 104 = .ok (.iload 8, 2) := by decide +kernel
theorem d_MM_with_106 : decode b_MM_with 106 = .ok (.ifCond .lt 76, 3) := by decide +kernel
theorem d_MM_with_109 : decode b_MM_with 109 = .ok (.aload_n 0, 1) := by decide +kernel
theorem d_MM_with_110 : decode b_MM_with 110 = .ok (.iload 8, 2) := by decide +kernel
theorem d_MM_with_112 : decode b_MM_with 112 = .ok (.iload_n 2, 1) := by decide +kernel
theorem d_MM_with_113 : decode b_MM_with 113 = .ok (.iload_n 3, 1) := by decide +kernel
theorem d_MM_with_114 : decode b_MM_with 114 = .ok (.iload 4, 2) := by decide +kernel
theorem d_MM_with_116 : decode b_MM_with 116 = .ok (.iload 5, 2) := by decide +kernel
theorem d_MM_with_118 : decode b_MM_with 118 = .ok (.invokevirtual 627, 3) := by decide +kernel
theorem d_MM_with_121 : decode b_MM_with 121 = .ok (.istore 9, 2) := by decide +kernel
theorem d_MM_with_123 : decode b_MM_with 123 = .ok (.iload 7, 2) := by decide +kernel
theorem d_MM_with_125 : decode b_MM_with 125 = .ok (.ifCond .ge 15, 3) := by decide +kernel
theorem d_MM_with_128 : decode b_MM_with 128 = .ok (.aload_n 0, 1) := by decide +kernel
theorem d_MM_with_129 : decode b_MM_with 129 = .ok (.getfield 148, 3) := by decide +kernel
theorem d_MM_with_132 : decode b_MM_with 132 = .ok (.iload 6, 2) := by decide +kernel
theorem d_MM_with_134 : decode b_MM_with 134 = .ok (.iload 9, 2) := by decide +kernel
theorem d_MM_with_136 : decode b_MM_with 136 = .ok (.iastore, 1) := by decide +kernel
theorem d_MM_with_137 : decode b_MM_with 137 = .ok (.goto 12, 3) := by decide +kernel
theorem d_MM_with_140 : decode b_MM_with 140 = .ok (.aload_n 0, 1) := by decide +kernel
theorem d_MM_with_141 : decode b_MM_with 141 = .ok (.getfield 151, 3) := by decide +kernel
theorem d_MM_with_144 : decode b_MM_with 144 = .ok (.iload 7, 2) := by decide +kernel
theorem d_MM_with_146 : decode b_MM_with 146 = .ok (.iload 9, 2) := by decide +kernel
theorem d_MM_with_148 : decode b_MM_with 148 = .ok (.iastore, 1) := by decide +kernel
theorem d_MM_with_149 : decode b_MM_with 149 = .ok (.iload 9, 2) := by decide +kernel
theorem d_MM_with_151 : decode b_MM_with 151 = .ok (.istore 7, 2) := by decide +kernel
theorem d_MM_with_153 : decode b_MM_with 153 = .ok (.aload_n 0, 1) := by decide +kernel
theorem d_MM_with_154 : decode b_MM_with 154 = .ok (.getfield 154, 3) := by decide +kernel
theorem d_MM_with_157 : decode b_MM_with 157 = .ok (.iload 6, 2) := by decide +kernel
theorem d_MM_with_159 : decode b_MM_with 159 = .ok (.dup2, 1) := by decide +kernel
theorem d_MM_with_160 : decode b_MM_with 160 = .ok (.iaload, 1) := by decide +kernel
theorem d_MM_with_161 : decode b_MM_with 161 = .ok (.aload_n 0, 1) := by decide +kernel
theorem d_MM_with_162 : decode b_MM_with 162 = .ok (.getfield 154, 3) := by decide +kernel
theorem d_MM_with_165 : decode b_MM_with 165 = .ok (.iload 9, 2) := by decide +kernel
theorem d_MM_with_167 : decode b_MM_with 167 = .ok (.iaload, 1) := by decide +kernel
theorem d_MM_with_168 : decode b_MM_with 168 = .ok (.iadd, 1) := by decide +kernel
theorem d_MM_with_169 : decode b_MM_with 169 = .ok (.iastore, 1) := by decide +kernel
theorem d_MM_with_170 : decode b_MM_with 170 = .ok (.aload_n 0, 1) := by decide +kernel
theorem d_MM_with_171 : decode b_MM_with 171 = .ok (.getfield 151, 3) := by decide +kernel
theorem d_MM_with_174 : decode b_MM_with 174 = .ok (.iload 8, 2) := by decide +kernel
theorem d_MM_with_176 : decode b_MM_with 176 = .ok (.iaload, 1) := by decide +kernel
theorem d_MM_with_177 : decode b_MM_with 177 = .ok (.istore 8, 2) := by decide +kernel
theorem d_MM_with_179 : decode b_MM_with 179 = .ok (.goto (-75), 3) := by decide +kernel
theorem d_MM_with_182 : decode b_MM_with 182 = .ok (.iload 6, 2) := by decide +kernel
theorem d_MM_with_184 : decode b_MM_with 184 = .ok (.ireturn, 1) := by decide +kernel
abbrev b_MM_resolve : ByteArray := prog_14_method_86_code
def y_MM_resolve : MethodName := ⟨"ClauseProverModel", "resolve", "(I)V"⟩
theorem d_MM_resolve_0 : decode b_MM_resolve 0 = .ok (.aload_n 0, 1) := by decide +kernel
theorem d_MM_resolve_1 : decode b_MM_resolve 1 = .ok (.getfield 235, 3) := by decide +kernel
theorem d_MM_resolve_4 : decode b_MM_resolve 4 = .ok (.iload_n 1, 1) := by decide +kernel
theorem d_MM_resolve_5 : decode b_MM_resolve 5 = .ok (.iaload, 1) := by decide +kernel
theorem d_MM_resolve_6 : decode b_MM_resolve 6 = .ok (.istore_n 2, 1) := by decide +kernel
theorem d_MM_resolve_7 : decode b_MM_resolve 7 = .ok (.iload_n 2, 1) := by decide +kernel
theorem d_MM_resolve_8 : decode b_MM_resolve 8 = .ok (.aload_n 0, 1) := by decide +kernel
theorem d_MM_resolve_9 : decode b_MM_resolve 9 = .ok (.getfield 235, 3) := by decide +kernel
theorem d_MM_resolve_12 : decode b_MM_resolve 12 = .ok (.iload_n 1, 1) := by decide +kernel
theorem d_MM_resolve_13 : decode b_MM_resolve 13 = .ok (.iaload, 1) := by decide +kernel
theorem d_MM_resolve_14 : decode b_MM_resolve 14 = .ok (.aload_n 0, 1) := by decide +kernel
theorem d_MM_resolve_15 : decode b_MM_resolve 15 = .ok (.getfield 238, 3) := by decide +kernel
theorem d_MM_resolve_18 : decode b_MM_resolve 18 = .ok (.iload_n 1, 1) := by decide +kernel
theorem d_MM_resolve_19 : decode b_MM_resolve 19 = .ok (.iaload, 1) := by decide +kernel
theorem d_MM_resolve_20 : decode b_MM_resolve 20 = .ok (.iadd, 1) := by decide +kernel
theorem d_MM_resolve_21 : decode b_MM_resolve 21 = .ok (.if_icmp .ge 84, 3) := by decide +kernel
theorem d_MM_resolve_24 : decode b_MM_resolve 24 = .ok (.aload_n 0, 1) := by decide +kernel
theorem d_MM_resolve_25 : decode b_MM_resolve 25 = .ok (.getfield 278, 3) := by decide +kernel
theorem d_MM_resolve_28 : decode b_MM_resolve 28 = .ok (.ifCond .ne 77, 3) := by decide +kernel
theorem d_MM_resolve_31 : decode b_MM_resolve 31 = .ok (.aload_n 0, 1) := by decide +kernel
theorem d_MM_resolve_32 : decode b_MM_resolve 32 = .ok (.getfield 220, 3) := by decide +kernel
theorem d_MM_resolve_35 : decode b_MM_resolve 35 = .ok (.iload_n 2, 1) := by decide +kernel
theorem d_MM_resolve_36 : decode b_MM_resolve 36 = .ok (.baload, 1) := by decide +kernel
theorem d_MM_resolve_37 : decode b_MM_resolve 37 = .ok (.ifCond .ne 62, 3) := by decide +kernel
theorem d_MM_resolve_40 : decode b_MM_resolve 40 = .ok (.aload_n 0, 1) := by decide +kernel
theorem d_MM_resolve_41 : decode b_MM_resolve 41 = .ok (.getfield 229, 3) := by decide +kernel
theorem d_MM_resolve_44 : decode b_MM_resolve 44 = .ok (.iload_n 2, 1) := by decide +kernel
theorem d_MM_resolve_45 : decode b_MM_resolve 45 = .ok (.baload, 1) := by decide +kernel
theorem d_MM_resolve_46 : decode b_MM_resolve 46 = .ok (.ifCond .ne 6, 3) := by decide +kernel
theorem d_MM_resolve_49 : decode b_MM_resolve 49 = .ok (.goto 50, 3) := by decide +kernel
theorem d_MM_resolve_52 : decode b_MM_resolve 52 = .ok (.aload_n 0, 1) := by decide +kernel
theorem d_MM_resolve_53 : decode b_MM_resolve 53 = .ok (.invokevirtual 665, 3) := by decide +kernel
theorem d_MM_resolve_56 : decode b_MM_resolve 56 = .ok (.aload_n 0, 1) := by decide +kernel
theorem d_MM_resolve_57 : decode b_MM_resolve 57 = .ok (.aload_n 0, 1) := by decide +kernel
theorem d_MM_resolve_58 : decode b_MM_resolve 58 = .ok (.getfield 214, 3) := by decide +kernel
theorem d_MM_resolve_61 : decode b_MM_resolve 61 = .ok (.iload_n 2, 1) := by decide +kernel
theorem d_MM_resolve_62 : decode b_MM_resolve 62 = .ok (.iaload, 1) := by decide +kernel
theorem d_MM_resolve_63 : decode b_MM_resolve 63 = .ok (.iconst 0, 1) := by decide +kernel
theorem d_MM_resolve_64 : decode b_MM_resolve 64 = .ok (.aload_n 0, 1) := by decide +kernel
theorem d_MM_resolve_65 : decode b_MM_resolve 65 = .ok (.getfield 217, 3) := by decide +kernel
theorem d_MM_resolve_68 : decode b_MM_resolve 68 = .ok (.iload_n 2, 1) := by decide +kernel
theorem d_MM_resolve_69 : decode b_MM_resolve 69 = .ok (.iaload, 1) := by decide +kernel
theorem d_MM_resolve_70 : decode b_MM_resolve 70 = .ok (.iconst 0, 1) := by decide +kernel
theorem d_MM_resolve_71 : decode b_MM_resolve 71 = .ok (.invokevirtual 613, 3) := by decide +kernel
theorem d_MM_resolve_74 : decode b_MM_resolve 74 = .ok (.ifCond .ne 6, 3) := by decide +kernel
theorem d_MM_resolve_77 : decode b_MM_resolve 77 = .ok (.goto 22, 3) := by decide +kernel
theorem d_MM_resolve_80 : decode b_MM_resolve 80 = .ok (.aload_n 0, 1) := by decide +kernel
theorem d_MM_resolve_81 : decode b_MM_resolve 81 = .ok (.invokevirtual 668, 3) := by decide +kernel
theorem d_MM_resolve_84 : decode b_MM_resolve 84 = .ok (.aload_n 0, 1) := by decide +kernel
theorem d_MM_resolve_85 : decode b_MM_resolve 85 = .ok (.iload_n 1, 1) := by decide +kernel
theorem d_MM_resolve_86 : decode b_MM_resolve 86 = .ok (.iconst 0, 1) := by decide +kernel
theorem d_MM_resolve_87 : decode b_MM_resolve 87 = .ok (.iload_n 2, 1) := by decide +kernel
theorem d_MM_resolve_88 : decode b_MM_resolve 88 = .ok (.iconst (-1), 1) := by decide +kernel
theorem d_MM_resolve_89 : decode b_MM_resolve 89 = .ok (.invokevirtual 671, 3) := by decide +kernel
theorem d_MM_resolve_92 : decode b_MM_resolve 92 = .ok (.aload_n 0, 1) := by decide +kernel
theorem d_MM_resolve_93 : decode b_MM_resolve 93 = .ok (.iconst 2, 1) := by decide +kernel
theorem d_MM_resolve_94 : decode b_MM_resolve 94 = .ok (.iload_n 1, 1) := by decide +kernel
theorem d_MM_resolve_95 : decode b_MM_resolve 95 = .ok (.iconst (-1), 1) := by decide +kernel
theorem d_MM_resolve_96 : decode b_MM_resolve 96 = .ok (.invokevirtual 674, 3) := by decide +kernel
theorem d_MM_resolve_99 : decode b_MM_resolve 99 = .ok (.iinc 2 1, 3) := by decide +kernel
theorem d_MM_resolve_102 : decode b_MM_resolve 102 = .ok (.goto (-95), 3) := by decide +kernel
theorem d_MM_resolve_105 : decode b_MM_resolve 105 = .ok (.return_, 1) := by decide +kernel
abbrev b_MM_factor1 : ByteArray := prog_14_method_87_code
def y_MM_factor1 : MethodName := ⟨"ClauseProverModel", "factor", "(I)V"⟩
theorem d_MM_factor1_0 : decode b_MM_factor1 0 = .ok (.aload_n 0, 1) := by decide +kernel
theorem d_MM_factor1_1 : decode b_MM_factor1 1 = .ok (.iload_n 1, 1) := by decide +kernel
theorem d_MM_factor1_2 : decode b_MM_factor1 2 = .ok (.invokevirtual 678, 3) := by decide +kernel
theorem d_MM_factor1_5 : decode b_MM_factor1 5 = .ok (.ifCond .eq 4, 3) := by decide +kernel
theorem d_MM_factor1_8 : decode b_MM_factor1 8 = .ok (.return_, 1) := by decide +kernel
theorem d_MM_factor1_9 : decode b_MM_factor1 9 = .ok (.aload_n 0, 1) := by decide +kernel
theorem d_MM_factor1_10 : decode b_MM_factor1 10 = .ok (.getfield 235, 3) := by decide +kernel
theorem d_MM_factor1_13 : decode b_MM_factor1 13 = .ok (.iload_n 1, 1) := by decide +kernel
theorem d_MM_factor1_14 : decode b_MM_factor1 14 = .ok (.iaload, 1) := by decide +kernel
theorem d_MM_factor1_15 : decode b_MM_factor1 15 = .ok (.istore_n 2, 1) := by decide +kernel
theorem d_MM_factor1_16 : decode b_MM_factor1 16 = .ok (.iload_n 2, 1) := by decide +kernel
theorem d_MM_factor1_17 : decode b_MM_factor1 17 = .ok (.aload_n 0, 1) := by decide +kernel
theorem d_MM_factor1_18 : decode b_MM_factor1 18 = .ok (.getfield 235, 3) := by decide +kernel
theorem d_MM_factor1_21 : decode b_MM_factor1 21 = .ok (.iload_n 1, 1) := by decide +kernel
theorem d_MM_factor1_22 : decode b_MM_factor1 22 = .ok (.iaload, 1) := by decide +kernel
theorem d_MM_factor1_23 : decode b_MM_factor1 23 = .ok (.aload_n 0, 1) := by decide +kernel
theorem d_MM_factor1_24 : decode b_MM_factor1 24 = .ok (.getfield 238, 3) := by decide +kernel
theorem d_MM_factor1_27 : decode b_MM_factor1 27 = .ok (.iload_n 1, 1) := by decide +kernel
theorem d_MM_factor1_28 : decode b_MM_factor1 28 = .ok (.iaload, 1) := by decide +kernel
theorem d_MM_factor1_29 : decode b_MM_factor1 29 = .ok (.iadd, 1) := by decide +kernel
theorem d_MM_factor1_30 : decode b_MM_factor1 30 = .ok (.if_icmp .ge 108, 3) := by decide +kernel
theorem d_MM_factor1_33 : decode b_MM_factor1 33 = .ok (.aload_n 0, 1) := by decide +kernel
theorem d_MM_factor1_34 : decode b_MM_factor1 34 = .ok (.getfield 229, 3) := by decide +kernel
theorem d_MM_factor1_37 : decode b_MM_factor1 37 = .ok (.iload_n 2, 1) := by decide +kernel
theorem d_MM_factor1_38 : decode b_MM_factor1 38 = .ok (.baload, 1) := by decide +kernel
theorem d_MM_factor1_39 : decode b_MM_factor1 39 = .ok (.ifCond .ne 6, 3) := by decide +kernel
theorem d_MM_factor1_42 : decode b_MM_factor1 42 = .ok (.goto 90, 3) := by decide +kernel
theorem d_MM_factor1_45 : decode b_MM_factor1 45 = .ok (.aload_n 0, 1) := by decide +kernel
theorem d_MM_factor1_46 : decode b_MM_factor1 46 = .ok (.getfield 235, 3) := by decide +kernel
theorem d_MM_factor1_49 : decode b_MM_factor1 49 = .ok (.iload_n 1, 1) := by decide +kernel
theorem d_MM_factor1_50 : decode b_MM_factor1 50 = .ok (.iaload, 1) := by decide +kernel
theorem d_MM_factor1_51 : decode b_MM_factor1 51 = .ok (.istore_n 3, 1) := by decide +kernel
theorem d_MM_factor1_52 : decode b_MM_factor1 52 = .ok (.iload_n 3, 1) := by decide +kernel
theorem d_MM_factor1_53 : decode b_MM_factor1 53 = .ok (.aload_n 0, 1) := by decide +kernel
theorem d_MM_factor1_54 : decode b_MM_factor1 54 = .ok (.getfield 235, 3) := by decide +kernel
theorem d_MM_factor1_57 : decode b_MM_factor1 57 = .ok (.iload_n 1, 1) := by decide +kernel
theorem d_MM_factor1_58 : decode b_MM_factor1 58 = .ok (.iaload, 1) := by decide +kernel
theorem d_MM_factor1_59 : decode b_MM_factor1 59 = .ok (.aload_n 0, 1) := by decide +kernel
theorem d_MM_factor1_60 : decode b_MM_factor1 60 = .ok (.getfield 238, 3) := by decide +kernel
theorem d_MM_factor1_63 : decode b_MM_factor1 63 = .ok (.iload_n 1, 1) := by decide +kernel
theorem d_MM_factor1_64 : decode b_MM_factor1 64 = .ok (.iaload, 1) := by decide +kernel
theorem d_MM_factor1_65 : decode b_MM_factor1 65 = .ok (.iadd, 1) := by decide +kernel
theorem d_MM_factor1_66 : decode b_MM_factor1 66 = .ok (.if_icmp .ge 66, 3) := by decide +kernel
theorem d_MM_factor1_69 : decode b_MM_factor1 69 = .ok (.iload_n 3, 1) := by decide +kernel
theorem d_MM_factor1_70 : decode b_MM_factor1 70 = .ok (.iload_n 2, 1) := by decide +kernel
theorem d_MM_factor1_71 : decode b_MM_factor1 71 = .ok (.if_icmp .ne 6, 3) := by decide +kernel
theorem d_MM_factor1_74 : decode b_MM_factor1 74 = .ok (.goto 52, 3) := by decide +kernel
theorem d_MM_factor1_77 : decode b_MM_factor1 77 = .ok (.iconst 0, 1) := by decide +kernel
theorem d_MM_factor1_78 : decode b_MM_factor1 78 = .ok (.istore 4, 2) := by decide +kernel
theorem d_MM_factor1_80 : decode b_MM_factor1 80 = .ok (.iload 4, 2) := by decide +kernel
theorem d_MM_factor1_82 : decode b_MM_factor1 82 = .ok (.iconst 4, 1) := by decide +kernel
theorem d_MM_factor1_83 : decode b_MM_factor1 83 = .ok (.if_icmp .ge 43, 3) := by decide +kernel
theorem d_MM_factor1_86 : decode b_MM_factor1 86 = .ok (.aload_n 0, 1) := by decide +kernel
theorem d_MM_factor1_87 : decode b_MM_factor1 87 = .ok (.getfield 278, 3) := by decide +kernel
theorem d_MM_factor1_90 : decode b_MM_factor1 90 = .ok (.ifCond .ne 36, 3) := by decide +kernel
theorem d_MM_factor1_93 : decode b_MM_factor1 93 = .ok (.aload_n 0, 1) := by decide +kernel
theorem d_MM_factor1_94 : decode b_MM_factor1 94 = .ok (.iload_n 2, 1) := by decide +kernel
theorem d_MM_factor1_95 : decode b_MM_factor1 95 = .ok (.iload 4, 2) := by decide +kernel
theorem d_MM_factor1_97 : decode b_MM_factor1 97 = .ok (.iconst 2, 1) := by decide +kernel
theorem d_MM_factor1_98 : decode b_MM_factor1 98 = .ok (.idiv, 1) := by decide +kernel
theorem d_MM_factor1_99 : decode b_MM_factor1 99 = .ok (.invokevirtual 655, 3) := by decide +kernel
theorem d_MM_factor1_102 : decode b_MM_factor1 102 = .ok (.ifCond .eq 18, 3) := by decide +kernel
theorem d_MM_factor1_105 : decode b_MM_factor1 105 = .ok (.aload_n 0, 1) := by decide +kernel
theorem d_MM_factor1_106 : decode b_MM_factor1 106 = .ok (.iload_n 1, 1) := by decide +kernel
theorem d_MM_factor1_107 : decode b_MM_factor1 107 = .ok (.iload_n 2, 1) := by decide +kernel
theorem d_MM_factor1_108 : decode b_MM_factor1 108 = .ok (.iload_n 3, 1) := by decide +kernel
theorem d_MM_factor1_109 : decode b_MM_factor1 109 = .ok (.iload 4, 2) := by decide +kernel
theorem d_MM_factor1_111 : decode b_MM_factor1 111 = .ok (.iconst 2, 1) := by decide +kernel
theorem d_MM_factor1_112 : decode b_MM_factor1 112 = .ok (.idiv, 1) := by decide +kernel
theorem d_MM_factor1_113 : decode b_MM_factor1 113 = .ok (.iload 4, 2) := by decide +kernel
theorem d_MM_factor1_115 : decode b_MM_factor1 115 = .ok (.iconst 2, 1) := by decide +kernel
theorem d_MM_factor1_116 : decode b_MM_factor1 116 = .ok (.irem, 1) := by decide +kernel
theorem d_MM_factor1_117 : decode b_MM_factor1 117 = .ok (.invokevirtual 681, 3) := by decide +kernel
theorem d_MM_factor1_120 : decode b_MM_factor1 120 = .ok (.iinc 4 1, 3) := by decide +kernel
theorem d_MM_factor1_123 : decode b_MM_factor1 123 = .ok (.goto (-43), 3) := by decide +kernel
theorem d_MM_factor1_126 : decode b_MM_factor1 126 = .ok (.iinc 3 1, 3) := by decide +kernel
theorem d_MM_factor1_129 : decode b_MM_factor1 129 = .ok (.goto (-77), 3) := by decide +kernel
theorem d_MM_factor1_132 : decode b_MM_factor1 132 = .ok (.iinc 2 1, 3) := by decide +kernel
theorem d_MM_factor1_135 : decode b_MM_factor1 135 = .ok (.goto (-119), 3) := by decide +kernel
theorem d_MM_factor1_138 : decode b_MM_factor1 138 = .ok (.return_, 1) := by decide +kernel
abbrev b_MM_isSelected : ByteArray := prog_14_method_70_code
def y_MM_isSelected : MethodName := ⟨"ClauseProverModel", "isSelected", "(I)Z"⟩
theorem d_MM_isSelected_0 : decode b_MM_isSelected 0 = .ok (.aload_n 0, 1) := by decide +kernel
theorem d_MM_isSelected_1 : decode b_MM_isSelected 1 = .ok (.getfield 235, 3) := by decide +kernel
theorem d_MM_isSelected_4 : decode b_MM_isSelected 4 = .ok (.iload_n 1, 1) := by decide +kernel
theorem d_MM_isSelected_5 : decode b_MM_isSelected 5 = .ok (.iaload, 1) := by decide +kernel
theorem d_MM_isSelected_6 : decode b_MM_isSelected 6 = .ok (.istore_n 2, 1) := by decide +kernel
theorem d_MM_isSelected_7 : decode b_MM_isSelected 7 = .ok (.iload_n 2, 1) := by decide +kernel
theorem d_MM_isSelected_8 : decode b_MM_isSelected 8 = .ok (.aload_n 0, 1) := by decide +kernel
theorem d_MM_isSelected_9 : decode b_MM_isSelected 9 = .ok (.getfield 235, 3) := by decide +kernel
theorem d_MM_isSelected_12 : decode b_MM_isSelected 12 = .ok (.iload_n 1, 1) := by decide +kernel
theorem d_MM_isSelected_13 : decode b_MM_isSelected 13 = .ok (.iaload, 1) := by decide +kernel
theorem d_MM_isSelected_14 : decode b_MM_isSelected 14 = .ok (.aload_n 0, 1) := by decide +kernel
theorem d_MM_isSelected_15 : decode b_MM_isSelected 15 = .ok (.getfield 238, 3) := by decide +kernel
theorem d_MM_isSelected_18 : decode b_MM_isSelected 18 = .ok (.iload_n 1, 1) := by decide +kernel
theorem d_MM_isSelected_19 : decode b_MM_isSelected 19 = .ok (.iaload, 1) := by decide +kernel
theorem d_MM_isSelected_20 : decode b_MM_isSelected 20 = .ok (.iadd, 1) := by decide +kernel
theorem d_MM_isSelected_21 : decode b_MM_isSelected 21 = .ok (.if_icmp .ge 20, 3) := by decide +kernel
theorem d_MM_isSelected_24 : decode b_MM_isSelected 24 = .ok (.aload_n 0, 1) := by decide +kernel
theorem d_MM_isSelected_25 : decode b_MM_isSelected 25 = .ok (.getfield 220, 3) := by decide +kernel
theorem d_MM_isSelected_28 : decode b_MM_isSelected 28 = .ok (.iload_n 2, 1) := by decide +kernel
theorem d_MM_isSelected_29 : decode b_MM_isSelected 29 = .ok (.baload, 1) := by decide +kernel
theorem d_MM_isSelected_30 : decode b_MM_isSelected 30 = .ok (.ifCond .ne 5, 3) := by decide +kernel
theorem d_MM_isSelected_33 : decode b_MM_isSelected 33 = .ok (.iconst 1, 1) := by decide +kernel
theorem d_MM_isSelected_34 : decode b_MM_isSelected 34 = .ok (.ireturn, 1) := by decide +kernel
theorem d_MM_isSelected_35 : decode b_MM_isSelected 35 = .ok (.iinc 2 1, 3) := by decide +kernel
theorem d_MM_isSelected_38 : decode b_MM_isSelected 38 = .ok (.goto (-31), 3) := by decide +kernel
theorem d_MM_isSelected_41 : decode b_MM_isSelected 41 = .ok (.iconst 0, 1) := by decide +kernel
theorem d_MM_isSelected_42 : decode b_MM_isSelected 42 = .ok (.ireturn, 1) := by decide +kernel
abbrev b_MM_factor2 : ByteArray := prog_14_method_88_code
def y_MM_factor2 : MethodName := ⟨"ClauseProverModel", "factor", "(IIIII)V"⟩
theorem d_MM_factor2_0 : decode b_MM_factor2 0 = .ok (.aload_n 0, 1) := by decide +kernel
theorem d_MM_factor2_1 : decode b_MM_factor2 1 = .ok (.invokevirtual 665, 3) := by decide +kernel
theorem d_MM_factor2_4 : decode b_MM_factor2 4 = .ok (.aload_n 0, 1) := by decide +kernel
theorem d_MM_factor2_5 : decode b_MM_factor2 5 = .ok (.aload_n 0, 1) := by decide +kernel
theorem d_MM_factor2_6 : decode b_MM_factor2 6 = .ok (.iload_n 2, 1) := by decide +kernel
theorem d_MM_factor2_7 : decode b_MM_factor2 7 = .ok (.iload 4, 2) := by decide +kernel
theorem d_MM_factor2_9 : decode b_MM_factor2 9 = .ok (.iconst 0, 1) := by decide +kernel
theorem d_MM_factor2_10 : decode b_MM_factor2 10 = .ok (.invokevirtual 658, 3) := by decide +kernel
theorem d_MM_factor2_13 : decode b_MM_factor2 13 = .ok (.iconst 0, 1) := by decide +kernel
theorem d_MM_factor2_14 : decode b_MM_factor2 14 = .ok (.aload_n 0, 1) := by decide +kernel
theorem d_MM_factor2_15 : decode b_MM_factor2 15 = .ok (.iload_n 3, 1) := by decide +kernel
theorem d_MM_factor2_16 : decode b_MM_factor2 16 = .ok (.iload 5, 2) := by decide +kernel
theorem d_MM_factor2_18 : decode b_MM_factor2 18 = .ok (.iconst 0, 1) := by decide +kernel
theorem d_MM_factor2_19 : decode b_MM_factor2 19 = .ok (.invokevirtual 658, 3) := by decide +kernel
theorem d_MM_factor2_22 : decode b_MM_factor2 22 = .ok (.iconst 0, 1) := by decide +kernel
theorem d_MM_factor2_23 : decode b_MM_factor2 23 = .ok (.invokevirtual 613, 3) := by decide +kernel
theorem d_MM_factor2_26 : decode b_MM_factor2 26 = .ok (.ifCond .ne 4, 3) := by decide +kernel
theorem d_MM_factor2_29 : decode b_MM_factor2 29 = .ok (.return_, 1) := by decide +kernel
theorem d_MM_factor2_30 : decode b_MM_factor2 30 = .ok (.aload_n 0, 1) := by decide +kernel
theorem d_MM_factor2_31 : decode b_MM_factor2 31 = .ok (.invokevirtual 668, 3) := by decide +kernel
theorem d_MM_factor2_34 : decode b_MM_factor2 34 = .ok (.aload_n 0, 1) := by decide +kernel
theorem d_MM_factor2_35 : decode b_MM_factor2 35 = .ok (.iload_n 1, 1) := by decide +kernel
theorem d_MM_factor2_36 : decode b_MM_factor2 36 = .ok (.iconst 0, 1) := by decide +kernel
theorem d_MM_factor2_37 : decode b_MM_factor2 37 = .ok (.iload_n 2, 1) := by decide +kernel
theorem d_MM_factor2_38 : decode b_MM_factor2 38 = .ok (.iload_n 3, 1) := by decide +kernel
theorem d_MM_factor2_39 : decode b_MM_factor2 39 = .ok (.invokevirtual 671, 3) := by decide +kernel
theorem d_MM_factor2_42 : decode b_MM_factor2 42 = .ok (.aload_n 0, 1) := by decide +kernel
theorem d_MM_factor2_43 : decode b_MM_factor2 43 = .ok (.aload_n 0, 1) := by decide +kernel
theorem d_MM_factor2_44 : decode b_MM_factor2 44 = .ok (.iload_n 2, 1) := by decide +kernel
theorem d_MM_factor2_45 : decode b_MM_factor2 45 = .ok (.iload 4, 2) := by decide +kernel
theorem d_MM_factor2_47 : decode b_MM_factor2 47 = .ok (.iconst 1, 1) := by decide +kernel
theorem d_MM_factor2_48 : decode b_MM_factor2 48 = .ok (.invokevirtual 658, 3) := by decide +kernel
theorem d_MM_factor2_51 : decode b_MM_factor2 51 = .ok (.aload_n 0, 1) := by decide +kernel
theorem d_MM_factor2_52 : decode b_MM_factor2 52 = .ok (.iload_n 3, 1) := by decide +kernel
theorem d_MM_factor2_53 : decode b_MM_factor2 53 = .ok (.iload 5, 2) := by decide +kernel
theorem d_MM_factor2_55 : decode b_MM_factor2 55 = .ok (.iconst 1, 1) := by decide +kernel
theorem d_MM_factor2_56 : decode b_MM_factor2 56 = .ok (.invokevirtual 658, 3) := by decide +kernel
theorem d_MM_factor2_59 : decode b_MM_factor2 59 = .ok (.iconst 0, 1) := by decide +kernel
theorem d_MM_factor2_60 : decode b_MM_factor2 60 = .ok (.iconst 0, 1) := by decide +kernel
theorem d_MM_factor2_61 : decode b_MM_factor2 61 = .ok (.invokevirtual 651, 3) := by decide +kernel
theorem d_MM_factor2_64 : decode b_MM_factor2 64 = .ok (.aload_n 0, 1) := by decide +kernel
theorem d_MM_factor2_65 : decode b_MM_factor2 65 = .ok (.aload_n 0, 1) := by decide +kernel
theorem d_MM_factor2_66 : decode b_MM_factor2 66 = .ok (.iload_n 2, 1) := by decide +kernel
theorem d_MM_factor2_67 : decode b_MM_factor2 67 = .ok (.iload 4, 2) := by decide +kernel
theorem d_MM_factor2_69 : decode b_MM_factor2 69 = .ok (.iconst 0, 1) := by decide +kernel
theorem d_MM_factor2_70 : decode b_MM_factor2 70 = .ok (.invokevirtual 658, 3) := by decide +kernel
theorem d_MM_factor2_73 : decode b_MM_factor2 73 = .ok (.aload_n 0, 1) := by decide +kernel
theorem d_MM_factor2_74 : decode b_MM_factor2 74 = .ok (.iload_n 3, 1) := by decide +kernel
theorem d_MM_factor2_75 : decode b_MM_factor2 75 = .ok (.iload 5, 2) := by decide +kernel
theorem d_MM_factor2_77 : decode b_MM_factor2 77 = .ok (.iconst 1, 1) := by decide +kernel
theorem d_MM_factor2_78 : decode b_MM_factor2 78 = .ok (.invokevirtual 658, 3) := by decide +kernel
theorem d_MM_factor2_81 : decode b_MM_factor2 81 = .ok (.iconst 0, 1) := by decide +kernel
theorem d_MM_factor2_82 : decode b_MM_factor2 82 = .ok (.iconst 1, 1) := by decide +kernel
theorem d_MM_factor2_83 : decode b_MM_factor2 83 = .ok (.invokevirtual 651, 3) := by decide +kernel
theorem d_MM_factor2_86 : decode b_MM_factor2 86 = .ok (.aload_n 0, 1) := by decide +kernel
theorem d_MM_factor2_87 : decode b_MM_factor2 87 = .ok (.iconst 3, 1) := by decide +kernel
theorem d_MM_factor2_88 : decode b_MM_factor2 88 = .ok (.iload_n 1, 1) := by decide +kernel
theorem d_MM_factor2_89 : decode b_MM_factor2 89 = .ok (.iconst (-1), 1) := by decide +kernel
theorem d_MM_factor2_90 : decode b_MM_factor2 90 = .ok (.invokevirtual 674, 3) := by decide +kernel
theorem d_MM_factor2_93 : decode b_MM_factor2 93 = .ok (.return_, 1) := by decide +kernel
abbrev b_MM_clause : ByteArray := prog_14_method_113_code
def y_MM_clause : MethodName := ⟨"ClauseProverModel", "clause", "(II)I"⟩
theorem d_MM_clause_0 : decode b_MM_clause 0 = .ok (.aload_n 0, 1) := by decide +kernel
theorem d_MM_clause_1 : decode b_MM_clause 1 = .ok (.iload_n 1, 1) := by decide +kernel
theorem d_MM_clause_2 : decode b_MM_clause 2 = .ok (.invokevirtual 759, 3) := by decide +kernel
theorem d_MM_clause_5 : decode b_MM_clause 5 = .ok (.ifCond .eq 5, 3) := by decide +kernel
theorem d_MM_clause_8 : decode b_MM_clause 8 = .ok (.iconst 0, 1) := by decide +kernel
theorem d_MM_clause_9 : decode b_MM_clause 9 = .ok (.ireturn, 1) := by decide +kernel
theorem d_MM_clause_10 : decode b_MM_clause 10 = .ok (.iload_n 2, 1) := by decide +kernel
theorem d_MM_clause_11 : decode b_MM_clause 11 = .ok (.tableswitch 101 0 7 #[45, 52, 59, 66, 73, 80, 87, 94], 45) := by decide +kernel
theorem d_MM_clause_56 : decode b_MM_clause 56 = .ok (.aload_n 0, 1) := by decide +kernel
theorem d_MM_clause_57 : decode b_MM_clause 57 = .ok (.getfield 247, 3) := by decide +kernel
theorem d_MM_clause_60 : decode b_MM_clause 60 = .ok (.iload_n 1, 1) := by decide +kernel
theorem d_MM_clause_61 : decode b_MM_clause 61 = .ok (.iaload, 1) := by decide +kernel
theorem d_MM_clause_62 : decode b_MM_clause 62 = .ok (.ireturn, 1) := by decide +kernel
theorem d_MM_clause_63 : decode b_MM_clause 63 = .ok (.aload_n 0, 1) := by decide +kernel
theorem d_MM_clause_64 : decode b_MM_clause 64 = .ok (.getfield 250, 3) := by decide +kernel
theorem d_MM_clause_67 : decode b_MM_clause 67 = .ok (.iload_n 1, 1) := by decide +kernel
theorem d_MM_clause_68 : decode b_MM_clause 68 = .ok (.iaload, 1) := by decide +kernel
theorem d_MM_clause_69 : decode b_MM_clause 69 = .ok (.ireturn, 1) := by decide +kernel
theorem d_MM_clause_70 : decode b_MM_clause 70 = .ok (.aload_n 0, 1) := by decide +kernel
theorem d_MM_clause_71 : decode b_MM_clause 71 = .ok (.getfield 253, 3) := by decide +kernel
theorem d_MM_clause_74 : decode b_MM_clause 74 = .ok (.iload_n 1, 1) := by decide +kernel
theorem d_MM_clause_75 : decode b_MM_clause 75 = .ok (.iaload, 1) := by decide +kernel
theorem d_MM_clause_76 : decode b_MM_clause 76 = .ok (.ireturn, 1) := by decide +kernel
theorem d_MM_clause_77 : decode b_MM_clause 77 = .ok (.aload_n 0, 1) := by decide +kernel
theorem d_MM_clause_78 : decode b_MM_clause 78 = .ok (.getfield 238, 3) := by decide +kernel
theorem d_MM_clause_81 : decode b_MM_clause 81 = .ok (.iload_n 1, 1) := by decide +kernel
theorem d_MM_clause_82 : decode b_MM_clause 82 = .ok (.iaload, 1) := by decide +kernel
theorem d_MM_clause_83 : decode b_MM_clause 83 = .ok (.ireturn, 1) := by decide +kernel
theorem d_MM_clause_84 : decode b_MM_clause 84 = .ok (.aload_n 0, 1) := by decide +kernel
theorem d_MM_clause_85 : decode b_MM_clause 85 = .ok (.getfield 241, 3) := by decide +kernel
theorem d_MM_clause_88 : decode b_MM_clause 88 = .ok (.iload_n 1, 1) := by decide +kernel
theorem d_MM_clause_89 : decode b_MM_clause 89 = .ok (.iaload, 1) := by decide +kernel
theorem d_MM_clause_90 : decode b_MM_clause 90 = .ok (.ireturn, 1) := by decide +kernel
theorem d_MM_clause_91 : decode b_MM_clause 91 = .ok (.aload_n 0, 1) := by decide +kernel
theorem d_MM_clause_92 : decode b_MM_clause 92 = .ok (.getfield 244, 3) := by decide +kernel
theorem d_MM_clause_95 : decode b_MM_clause 95 = .ok (.iload_n 1, 1) := by decide +kernel
theorem d_MM_clause_96 : decode b_MM_clause 96 = .ok (.iaload, 1) := by decide +kernel
theorem d_MM_clause_97 : decode b_MM_clause 97 = .ok (.ireturn, 1) := by decide +kernel
theorem d_MM_clause_98 : decode b_MM_clause 98 = .ok (.aload_n 0, 1) := by decide +kernel
theorem d_MM_clause_99 : decode b_MM_clause 99 = .ok (.getfield 256, 3) := by decide +kernel
theorem d_MM_clause_102 : decode b_MM_clause 102 = .ok (.iload_n 1, 1) := by decide +kernel
theorem d_MM_clause_103 : decode b_MM_clause 103 = .ok (.iaload, 1) := by decide +kernel
theorem d_MM_clause_104 : decode b_MM_clause 104 = .ok (.ireturn, 1) := by decide +kernel
theorem d_MM_clause_105 : decode b_MM_clause 105 = .ok (.aload_n 0, 1) := by decide +kernel
theorem d_MM_clause_106 : decode b_MM_clause 106 = .ok (.getfield 262, 3) := by decide +kernel
theorem d_MM_clause_109 : decode b_MM_clause 109 = .ok (.iload_n 1, 1) := by decide +kernel
theorem d_MM_clause_110 : decode b_MM_clause 110 = .ok (.iaload, 1) := by decide +kernel
theorem d_MM_clause_111 : decode b_MM_clause 111 = .ok (.ireturn, 1) := by decide +kernel
theorem d_MM_clause_112 : decode b_MM_clause 112 = .ok (.aload_n 0, 1) := by decide +kernel
theorem d_MM_clause_113 : decode b_MM_clause 113 = .ok (.iconst 2, 1) := by decide +kernel
theorem d_MM_clause_114 : decode b_MM_clause 114 = .ok (.putfield 24, 3) := by decide +kernel
theorem d_MM_clause_117 : decode b_MM_clause 117 = .ok (.iconst 0, 1) := by decide +kernel
theorem d_MM_clause_118 : decode b_MM_clause 118 = .ok (.ireturn, 1) := by decide +kernel
abbrev b_MM_none : ByteArray := prog_14_method_112_code
def y_MM_none : MethodName := ⟨"ClauseProverModel", "none", "(I)Z"⟩
theorem d_MM_none_0 : decode b_MM_none 0 = .ok (.aload_n 0, 1) := by decide +kernel
theorem d_MM_none_1 : decode b_MM_none 1 = .ok (.iconst 0, 1) := by decide +kernel
theorem d_MM_none_2 : decode b_MM_none 2 = .ok (.putfield 24, 3) := by decide +kernel
theorem d_MM_none_5 : decode b_MM_none 5 = .ok (.aload_n 0, 1) := by decide +kernel
theorem d_MM_none_6 : decode b_MM_none 6 = .ok (.iconst 1, 1) := by decide +kernel
theorem d_MM_none_7 : decode b_MM_none 7 = .ok (.iload_n 1, 1) := by decide +kernel
theorem d_MM_none_8 : decode b_MM_none 8 = .ok (.ifCond .lt 11, 3) := by decide +kernel
theorem d_MM_none_11 : decode b_MM_none 11 = .ok (.iload_n 1, 1) := by decide +kernel
theorem d_MM_none_12 : decode b_MM_none 12 = .ok (.aload_n 0, 1) := by decide +kernel
theorem d_MM_none_13 : decode b_MM_none 13 = .ok (.getfield 269, 3) := by decide +kernel
theorem d_MM_none_16 : decode b_MM_none 16 = .ok (.if_icmp .lt 7, 3) := by decide +kernel
theorem d_MM_none_19 : decode b_MM_none 19 = .ok (.iconst 1, 1) := by decide +kernel
theorem d_MM_none_20 : decode b_MM_none 20 = .ok (.goto 4, 3) := by decide +kernel
theorem d_MM_none_23 : decode b_MM_none 23 = .ok (.iconst 0, 1) := by decide +kernel
theorem d_MM_none_24 : decode b_MM_none 24 = .ok (.invokevirtual 401, 3) := by decide +kernel
theorem d_MM_none_27 : decode b_MM_none 27 = .ok (.ireturn, 1) := by decide +kernel
abbrev b_MM_rewrote : ByteArray := prog_14_method_114_code
def y_MM_rewrote : MethodName := ⟨"ClauseProverModel", "rewrote", "(II)I"⟩
theorem d_MM_rewrote_0 : decode b_MM_rewrote 0 = .ok (.aload_n 0, 1) := by decide +kernel
theorem d_MM_rewrote_1 : decode b_MM_rewrote 1 = .ok (.iload_n 1, 1) := by decide +kernel
theorem d_MM_rewrote_2 : decode b_MM_rewrote 2 = .ok (.invokevirtual 759, 3) := by decide +kernel
theorem d_MM_rewrote_5 : decode b_MM_rewrote 5 = .ok (.ifCond .ne 30, 3) := by decide +kernel
theorem d_MM_rewrote_8 : decode b_MM_rewrote 8 = .ok (.aload_n 0, 1) := by decide +kernel
theorem d_MM_rewrote_9 : decode b_MM_rewrote 9 = .ok (.iconst 1, 1) := by decide +kernel
theorem d_MM_rewrote_10 : decode b_MM_rewrote 10 = .ok (.iload_n 2, 1) := by decide +kernel
theorem d_MM_rewrote_11 : decode b_MM_rewrote 11 = .ok (.ifCond .lt 13, 3) := by decide +kernel
theorem d_MM_rewrote_14 : decode b_MM_rewrote 14 = .ok (.iload_n 2, 1) := by decide +kernel
theorem d_MM_rewrote_15 : decode b_MM_rewrote 15 = .ok (.aload_n 0, 1) := by decide +kernel
theorem d_MM_rewrote_16 : decode b_MM_rewrote 16 = .ok (.getfield 262, 3) := by decide +kernel
theorem d_MM_rewrote_19 : decode b_MM_rewrote 19 = .ok (.iload_n 1, 1) := by decide +kernel
theorem d_MM_rewrote_20 : decode b_MM_rewrote 20 = .ok (.iaload, 1) := by decide +kernel
theorem d_MM_rewrote_21 : decode b_MM_rewrote 21 = .ok (.if_icmp .lt 7, 3) := by decide +kernel
theorem d_MM_rewrote_24 : decode b_MM_rewrote 24 = .ok (.iconst 1, 1) := by decide +kernel
theorem d_MM_rewrote_25 : decode b_MM_rewrote 25 = .ok (.goto 4, 3) := by decide +kernel
theorem d_MM_rewrote_28 : decode b_MM_rewrote 28 = .ok (.iconst 0, 1) := by decide +kernel
theorem d_MM_rewrote_29 : decode b_MM_rewrote 29 = .ok (.invokevirtual 401, 3) := by decide +kernel
theorem d_MM_rewrote_32 : decode b_MM_rewrote 32 = .ok (.ifCond .eq 5, 3) := by decide +kernel
theorem d_MM_rewrote_35 : decode b_MM_rewrote 35 = .ok (.iconst 0, 1) := by decide +kernel
theorem d_MM_rewrote_36 : decode b_MM_rewrote 36 = .ok (.ireturn, 1) := by decide +kernel
theorem d_MM_rewrote_37 : decode b_MM_rewrote 37 = .ok (.aload_n 0, 1) := by decide +kernel
theorem d_MM_rewrote_38 : decode b_MM_rewrote 38 = .ok (.getfield 266, 3) := by decide +kernel
theorem d_MM_rewrote_41 : decode b_MM_rewrote 41 = .ok (.aload_n 0, 1) := by decide +kernel
theorem d_MM_rewrote_42 : decode b_MM_rewrote 42 = .ok (.getfield 259, 3) := by decide +kernel
theorem d_MM_rewrote_45 : decode b_MM_rewrote 45 = .ok (.iload_n 1, 1) := by decide +kernel
theorem d_MM_rewrote_46 : decode b_MM_rewrote 46 = .ok (.iaload, 1) := by decide +kernel
theorem d_MM_rewrote_47 : decode b_MM_rewrote 47 = .ok (.iload_n 2, 1) := by decide +kernel
theorem d_MM_rewrote_48 : decode b_MM_rewrote 48 = .ok (.iadd, 1) := by decide +kernel
theorem d_MM_rewrote_49 : decode b_MM_rewrote 49 = .ok (.iaload, 1) := by decide +kernel
theorem d_MM_rewrote_50 : decode b_MM_rewrote 50 = .ok (.ireturn, 1) := by decide +kernel
abbrev b_MM_literal : ByteArray := prog_14_method_115_code
def y_MM_literal : MethodName := ⟨"ClauseProverModel", "literal", "(III)I"⟩
theorem d_MM_literal_0 : decode b_MM_literal 0 = .ok (.aload_n 0, 1) := by decide +kernel
theorem d_MM_literal_1 : decode b_MM_literal 1 = .ok (.iload_n 1, 1) := by decide +kernel
theorem d_MM_literal_2 : decode b_MM_literal 2 = .ok (.invokevirtual 759, 3) := by decide +kernel
theorem d_MM_literal_5 : decode b_MM_literal 5 = .ok (.ifCond .ne 30, 3) := by decide +kernel
theorem d_MM_literal_8 : decode b_MM_literal 8 = .ok (.aload_n 0, 1) := by decide +kernel
theorem d_MM_literal_9 : decode b_MM_literal 9 = .ok (.iconst 1, 1) := by decide +kernel
theorem d_MM_literal_10 : decode b_MM_literal 10 = .ok (.iload_n 2, 1) := by decide +kernel
theorem d_MM_literal_11 : decode b_MM_literal 11 = .ok (.ifCond .lt 13, 3) := by decide +kernel
theorem d_MM_literal_14 : decode b_MM_literal 14 = .ok (.iload_n 2, 1) := by decide +kernel
theorem d_MM_literal_15 : decode b_MM_literal 15 = .ok (.aload_n 0, 1) := by decide +kernel
theorem d_MM_literal_16 : decode b_MM_literal 16 = .ok (.getfield 238, 3) := by decide +kernel
theorem d_MM_literal_19 : decode b_MM_literal 19 = .ok (.iload_n 1, 1) := by decide +kernel
theorem d_MM_literal_20 : decode b_MM_literal 20 = .ok (.iaload, 1) := by decide +kernel
theorem d_MM_literal_21 : decode b_MM_literal 21 = .ok (.if_icmp .lt 7, 3) := by decide +kernel
theorem d_MM_literal_24 : decode b_MM_literal 24 = .ok (.iconst 1, 1) := by decide +kernel
theorem d_MM_literal_25 : decode b_MM_literal 25 = .ok (.goto 4, 3) := by decide +kernel
theorem d_MM_literal_28 : decode b_MM_literal 28 = .ok (.iconst 0, 1) := by decide +kernel
theorem d_MM_literal_29 : decode b_MM_literal 29 = .ok (.invokevirtual 401, 3) := by decide +kernel
theorem d_MM_literal_32 : decode b_MM_literal 32 = .ok (.ifCond .eq 5, 3) := by decide +kernel
theorem d_MM_literal_35 : decode b_MM_literal 35 = .ok (.iconst 0, 1) := by decide +kernel
theorem d_MM_literal_36 : decode b_MM_literal 36 = .ok (.ireturn, 1) := by decide +kernel
theorem d_MM_literal_37 : decode b_MM_literal 37 = .ok (.aload_n 0, 1) := by decide +kernel
theorem d_MM_literal_38 : decode b_MM_literal 38 = .ok (.getfield 235, 3) := by decide +kernel
theorem d_MM_literal_41 : decode b_MM_literal 41 = .ok (.iload_n 1, 1) := by decide +kernel
theorem d_MM_literal_42 : decode b_MM_literal 42 = .ok (.iaload, 1) := by decide +kernel
theorem d_MM_literal_43 : decode b_MM_literal 43 = .ok (.iload_n 2, 1) := by decide +kernel
theorem d_MM_literal_44 : decode b_MM_literal 44 = .ok (.iadd, 1) := by decide +kernel
theorem d_MM_literal_45 : decode b_MM_literal 45 = .ok (.istore 4, 2) := by decide +kernel
theorem d_MM_literal_47 : decode b_MM_literal 47 = .ok (.iload_n 3, 1) := by decide +kernel
theorem d_MM_literal_48 : decode b_MM_literal 48 = .ok (.tableswitch 80 0 3 #[32, 48, 56, 72], 32) := by decide +kernel
theorem d_MM_literal_80 : decode b_MM_literal 80 = .ok (.aload_n 0, 1) := by decide +kernel
theorem d_MM_literal_81 : decode b_MM_literal 81 = .ok (.getfield 220, 3) := by decide +kernel
theorem d_MM_literal_84 : decode b_MM_literal 84 = .ok (.iload 4, 2) := by decide +kernel
theorem d_MM_literal_86 : decode b_MM_literal 86 = .ok (.baload, 1) := by decide +kernel
theorem d_MM_literal_87 : decode b_MM_literal 87 = .ok (.ifCond .eq 7, 3) := by decide +kernel
theorem d_MM_literal_90 : decode b_MM_literal 90 = .ok (.iconst 1, 1) := by decide +kernel
theorem d_MM_literal_91 : decode b_MM_literal 91 = .ok (.goto 4, 3) := by decide +kernel
theorem d_MM_literal_94 : decode b_MM_literal 94 = .ok (.iconst 0, 1) := by decide +kernel
theorem d_MM_literal_95 : decode b_MM_literal 95 = .ok (.ireturn, 1) := by decide +kernel
theorem d_MM_literal_96 : decode b_MM_literal 96 = .ok (.aload_n 0, 1) := by decide +kernel
theorem d_MM_literal_97 : decode b_MM_literal 97 = .ok (.getfield 223, 3) := by decide +kernel
theorem d_MM_literal_100 : decode b_MM_literal 100 = .ok (.iload 4, 2) := by decide +kernel
theorem d_MM_literal_102 : decode b_MM_literal 102 = .ok (.iaload, 1) := by decide +kernel
theorem d_MM_literal_103 : decode b_MM_literal 103 = .ok (.ireturn, 1) := by decide +kernel
theorem d_MM_literal_104 : decode b_MM_literal 104 = .ok (.aload_n 0, 1) := by decide +kernel
theorem d_MM_literal_105 : decode b_MM_literal 105 = .ok (.getfield 229, 3) := by decide +kernel
theorem d_MM_literal_108 : decode b_MM_literal 108 = .ok (.iload 4, 2) := by decide +kernel
theorem d_MM_literal_110 : decode b_MM_literal 110 = .ok (.baload, 1) := by decide +kernel
theorem d_MM_literal_111 : decode b_MM_literal 111 = .ok (.ifCond .eq 7, 3) := by decide +kernel
theorem d_MM_literal_114 : decode b_MM_literal 114 = .ok (.iconst 1, 1) := by decide +kernel
theorem d_MM_literal_115 : decode b_MM_literal 115 = .ok (.goto 4, 3) := by decide +kernel
theorem d_MM_literal_118 : decode b_MM_literal 118 = .ok (.iconst 0, 1) := by decide +kernel
theorem d_MM_literal_119 : decode b_MM_literal 119 = .ok (.ireturn, 1) := by decide +kernel
theorem d_MM_literal_120 : decode b_MM_literal 120 = .ok (.aload_n 0, 1) := by decide +kernel
theorem d_MM_literal_121 : decode b_MM_literal 121 = .ok (.getfield 226, 3) := by decide +kernel
theorem d_MM_literal_124 : decode b_MM_literal 124 = .ok (.iload 4, 2) := by decide +kernel
theorem d_MM_literal_126 : decode b_MM_literal 126 = .ok (.iaload, 1) := by decide +kernel
theorem d_MM_literal_127 : decode b_MM_literal 127 = .ok (.ireturn, 1) := by decide +kernel
theorem d_MM_literal_128 : decode b_MM_literal 128 = .ok (.aload_n 0, 1) := by decide +kernel
theorem d_MM_literal_129 : decode b_MM_literal 129 = .ok (.iconst 2, 1) := by decide +kernel
theorem d_MM_literal_130 : decode b_MM_literal 130 = .ok (.putfield 24, 3) := by decide +kernel
theorem d_MM_literal_133 : decode b_MM_literal 133 = .ok (.iconst 0, 1) := by decide +kernel
theorem d_MM_literal_134 : decode b_MM_literal 134 = .ok (.ireturn, 1) := by decide +kernel
abbrev b_MM_out : ByteArray := prog_14_method_121_code
def y_MM_out : MethodName := ⟨"ClauseProverModel", "out", "(I)I"⟩
theorem d_MM_out_0 : decode b_MM_out 0 = .ok (.aload_n 0, 1) := by decide +kernel
theorem d_MM_out_1 : decode b_MM_out 1 = .ok (.iconst 0, 1) := by decide +kernel
theorem d_MM_out_2 : decode b_MM_out 2 = .ok (.putfield 24, 3) := by decide +kernel
theorem d_MM_out_5 : decode b_MM_out 5 = .ok (.aload_n 0, 1) := by decide +kernel
theorem d_MM_out_6 : decode b_MM_out 6 = .ok (.iconst 1, 1) := by decide +kernel
theorem d_MM_out_7 : decode b_MM_out 7 = .ok (.iload_n 1, 1) := by decide +kernel
theorem d_MM_out_8 : decode b_MM_out 8 = .ok (.ifCond .lt 11, 3) := by decide +kernel
theorem d_MM_out_11 : decode b_MM_out 11 = .ok (.iload_n 1, 1) := by decide +kernel
theorem d_MM_out_12 : decode b_MM_out 12 = .ok (.aload_n 0, 1) := by decide +kernel
theorem d_MM_out_13 : decode b_MM_out 13 = .ok (.getfield 21, 3) := by decide +kernel
theorem d_MM_out_16 : decode b_MM_out 16 = .ok (.if_icmp .lt 7, 3) := by decide +kernel
theorem d_MM_out_19 : decode b_MM_out 19 = .ok (.iconst 1, 1) := by decide +kernel
theorem d_MM_out_20 : decode b_MM_out 20 = .ok (.goto 4, 3) := by decide +kernel
theorem d_MM_out_23 : decode b_MM_out 23 = .ok (.iconst 0, 1) := by decide +kernel
theorem d_MM_out_24 : decode b_MM_out 24 = .ok (.invokevirtual 401, 3) := by decide +kernel
theorem d_MM_out_27 : decode b_MM_out 27 = .ok (.ifCond .eq 5, 3) := by decide +kernel
theorem d_MM_out_30 : decode b_MM_out 30 = .ok (.iconst 0, 1) := by decide +kernel
theorem d_MM_out_31 : decode b_MM_out 31 = .ok (.ireturn, 1) := by decide +kernel
theorem d_MM_out_32 : decode b_MM_out 32 = .ok (.aload_n 0, 1) := by decide +kernel
theorem d_MM_out_33 : decode b_MM_out 33 = .ok (.getfield 14, 3) := by decide +kernel
theorem d_MM_out_36 : decode b_MM_out 36 = .ok (.iload_n 1, 1) := by decide +kernel
theorem d_MM_out_37 : decode b_MM_out 37 = .ok (.baload, 1) := by decide +kernel
theorem d_MM_out_38 : decode b_MM_out 38 = .ok (.ireturn, 1) := by decide +kernel
abbrev b_MM_symbol2 : ByteArray := prog_14_method_122_code
def y_MM_symbol2 : MethodName := ⟨"ClauseProverModel", "symbol", "(II)I"⟩
theorem d_MM_symbol2_0 : decode b_MM_symbol2 0 = .ok (.aload_n 0, 1) := by decide +kernel
theorem d_MM_symbol2_1 : decode b_MM_symbol2 1 = .ok (.iconst 0, 1) := by decide +kernel
theorem d_MM_symbol2_2 : decode b_MM_symbol2 2 = .ok (.putfield 24, 3) := by decide +kernel
theorem d_MM_symbol2_5 : decode b_MM_symbol2 5 = .ok (.aload_n 0, 1) := by decide +kernel
theorem d_MM_symbol2_6 : decode b_MM_symbol2 6 = .ok (.iconst 1, 1) := by decide +kernel
theorem d_MM_symbol2_7 : decode b_MM_symbol2 7 = .ok (.iload_n 1, 1) := by decide +kernel
theorem d_MM_symbol2_8 : decode b_MM_symbol2 8 = .ok (.ifCond .lt 11, 3) := by decide +kernel
theorem d_MM_symbol2_11 : decode b_MM_symbol2 11 = .ok (.iload_n 1, 1) := by decide +kernel
theorem d_MM_symbol2_12 : decode b_MM_symbol2 12 = .ok (.aload_n 0, 1) := by decide +kernel
theorem d_MM_symbol2_13 : decode b_MM_symbol2 13 = .ok (.getfield 71, 3) := by decide +kernel
theorem d_MM_symbol2_16 : decode b_MM_symbol2 16 = .ok (.if_icmp .lt 7, 3) := by decide +kernel
theorem d_MM_symbol2_19 : decode b_MM_symbol2 19 = .ok (.iconst 1, 1) := by decide +kernel
theorem d_MM_symbol2_20 : decode b_MM_symbol2 20 = .ok (.goto 4, 3) := by decide +kernel
theorem d_MM_symbol2_23 : decode b_MM_symbol2 23 = .ok (.iconst 0, 1) := by decide +kernel
theorem d_MM_symbol2_24 : decode b_MM_symbol2 24 = .ok (.invokevirtual 401, 3) := by decide +kernel
theorem d_MM_symbol2_27 : decode b_MM_symbol2 27 = .ok (.ifCond .ne 25, 3) := by decide +kernel
theorem d_MM_symbol2_30 : decode b_MM_symbol2 30 = .ok (.aload_n 0, 1) := by decide +kernel
theorem d_MM_symbol2_31 : decode b_MM_symbol2 31 = .ok (.iconst 2, 1) := by decide +kernel
theorem d_MM_symbol2_32 : decode b_MM_symbol2 32 = .ok (.iload_n 2, 1) := by decide +kernel
theorem d_MM_symbol2_33 : decode b_MM_symbol2 33 = .ok (.ifCond .lt 8, 3) := by decide +kernel
theorem d_MM_symbol2_36 : decode b_MM_symbol2 36 = .ok (.iload_n 2, 1) := by decide +kernel
theorem d_MM_symbol2_37 : decode b_MM_symbol2 37 = .ok (.iconst 2, 1) := by decide +kernel
theorem d_MM_symbol2_38 : decode b_MM_symbol2 38 = .ok (.if_icmp .le 7, 3) := by decide +kernel
theorem d_MM_symbol2_41 : decode b_MM_symbol2 41 = .ok (.iconst 1, 1) := by decide +kernel
theorem d_MM_symbol2_42 : decode b_MM_symbol2 42 = .ok (.goto 4, 3) := by decide +kernel
theorem d_MM_symbol2_45 : decode b_MM_symbol2 45 = .ok (.iconst 0, 1) := by decide +kernel
theorem d_MM_symbol2_46 : decode b_MM_symbol2 46 = .ok (.invokevirtual 401, 3) := by decide +kernel
theorem d_MM_symbol2_49 : decode b_MM_symbol2 49 = .ok (.ifCond .eq 5, 3) := by decide +kernel
theorem d_MM_symbol2_52 : decode b_MM_symbol2 52 = .ok (.iconst 0, 1) := by decide +kernel
theorem d_MM_symbol2_53 : decode b_MM_symbol2 53 = .ok (.ireturn, 1) := by decide +kernel
theorem d_MM_symbol2_54 : decode b_MM_symbol2 54 = .ok (.iload_n 2, 1) := by decide +kernel
theorem d_MM_symbol2_55 : decode b_MM_symbol2 55 = .ok (.ifCond .ne 12, 3) := by decide +kernel
theorem d_MM_symbol2_58 : decode b_MM_symbol2 58 = .ok (.aload_n 0, 1) := by decide +kernel
theorem d_MM_symbol2_59 : decode b_MM_symbol2 59 = .ok (.getfield 160, 3) := by decide +kernel
theorem d_MM_symbol2_62 : decode b_MM_symbol2 62 = .ok (.iload_n 1, 1) := by decide +kernel
theorem d_MM_symbol2_63 : decode b_MM_symbol2 63 = .ok (.iaload, 1) := by decide +kernel
theorem d_MM_symbol2_64 : decode b_MM_symbol2 64 = .ok (.goto 38, 3) := by decide +kernel
theorem d_MM_symbol2_67 : decode b_MM_symbol2 67 = .ok (.iload_n 2, 1) := by decide +kernel
theorem d_MM_symbol2_68 : decode b_MM_symbol2 68 = .ok (.iconst 1, 1) := by decide +kernel
theorem d_MM_symbol2_69 : decode b_MM_symbol2 69 = .ok (.if_icmp .ne 20, 3) := by decide +kernel
theorem d_MM_symbol2_72 : decode b_MM_symbol2 72 = .ok (.aload_n 0, 1) := by decide +kernel
theorem d_MM_symbol2_73 : decode b_MM_symbol2 73 = .ok (.getfield 163, 3) := by decide +kernel
theorem d_MM_symbol2_76 : decode b_MM_symbol2 76 = .ok (.iload_n 1, 1) := by decide +kernel
theorem d_MM_symbol2_77 : decode b_MM_symbol2 77 = .ok (.baload, 1) := by decide +kernel
theorem d_MM_symbol2_78 : decode b_MM_symbol2 78 = .ok (.ifCond .eq 7, 3) := by decide +kernel
theorem d_MM_symbol2_81 : decode b_MM_symbol2 81 = .ok (.iconst 1, 1) := by decide +kernel
theorem d_MM_symbol2_82 : decode b_MM_symbol2 82 = .ok (.goto 20, 3) := by decide +kernel
theorem d_MM_symbol2_85 : decode b_MM_symbol2 85 = .ok (.iconst 0, 1) := by decide +kernel
theorem d_MM_symbol2_86 : decode b_MM_symbol2 86 = .ok (.goto 16, 3) := by decide +kernel
theorem d_MM_symbol2_89 : decode b_MM_symbol2 89 = .ok (.iload_n 1, 1) := by decide +kernel
theorem d_MM_symbol2_90 : decode b_MM_symbol2 90 = .ok (.aload_n 0, 1) := by decide +kernel
theorem d_MM_symbol2_91 : decode b_MM_symbol2 91 = .ok (.getfield 74, 3) := by decide +kernel
theorem d_MM_symbol2_94 : decode b_MM_symbol2 94 = .ok (.if_icmp .le 7, 3) := by decide +kernel
theorem d_MM_symbol2_97 : decode b_MM_symbol2 97 = .ok (.iconst 1, 1) := by decide +kernel
theorem d_MM_symbol2_98 : decode b_MM_symbol2 98 = .ok (.goto 4, 3) := by decide +kernel
theorem d_MM_symbol2_101 : decode b_MM_symbol2 101 = .ok (.iconst 0, 1) := by decide +kernel
theorem d_MM_symbol2_102 : decode b_MM_symbol2 102 = .ok (.ireturn, 1) := by decide +kernel
abbrev b_MM_proof : ByteArray := prog_14_method_124_code
def y_MM_proof : MethodName := ⟨"ClauseProverModel", "proof", "()I"⟩
theorem d_MM_proof_0 : decode b_MM_proof 0 = .ok (.aload_n 0, 1) := by decide +kernel
theorem d_MM_proof_1 : decode b_MM_proof 1 = .ok (.iconst 0, 1) := by decide +kernel
theorem d_MM_proof_2 : decode b_MM_proof 2 = .ok (.putfield 24, 3) := by decide +kernel
theorem d_MM_proof_5 : decode b_MM_proof 5 = .ok (.aload_n 0, 1) := by decide +kernel
theorem d_MM_proof_6 : decode b_MM_proof 6 = .ok (.invokevirtual 777, 3) := by decide +kernel
theorem d_MM_proof_9 : decode b_MM_proof 9 = .ok (.ireturn, 1) := by decide +kernel
abbrev b_MM_prove : ByteArray := prog_14_method_123_code
def y_MM_prove : MethodName := ⟨"ClauseProverModel", "prove", "()I"⟩
theorem d_MM_prove_0 : decode b_MM_prove 0 = .ok (.aload_n 0, 1) := by decide +kernel
theorem d_MM_prove_1 : decode b_MM_prove 1 = .ok (.getfield 388, 3) := by decide +kernel
theorem d_MM_prove_4 : decode b_MM_prove 4 = .ok (.iconst 0, 1) := by decide +kernel
theorem d_MM_prove_5 : decode b_MM_prove 5 = .ok (.invokestatic 774, 3) := by decide +kernel
theorem d_MM_prove_8 : decode b_MM_prove 8 = .ok (.aload_n 0, 1) := by decide +kernel
theorem d_MM_prove_9 : decode b_MM_prove 9 = .ok (.getfield 281, 3) := by decide +kernel
theorem d_MM_prove_12 : decode b_MM_prove 12 = .ok (.ifCond .ge 5, 3) := by decide +kernel
theorem d_MM_prove_15 : decode b_MM_prove 15 = .ok (.iconst 0, 1) := by decide +kernel
theorem d_MM_prove_16 : decode b_MM_prove 16 = .ok (.ireturn, 1) := by decide +kernel
theorem d_MM_prove_17 : decode b_MM_prove 17 = .ok (.aload_n 0, 1) := by decide +kernel
theorem d_MM_prove_18 : decode b_MM_prove 18 = .ok (.getfield 388, 3) := by decide +kernel
theorem d_MM_prove_21 : decode b_MM_prove 21 = .ok (.aload_n 0, 1) := by decide +kernel
theorem d_MM_prove_22 : decode b_MM_prove 22 = .ok (.getfield 281, 3) := by decide +kernel
theorem d_MM_prove_25 : decode b_MM_prove 25 = .ok (.iconst 1, 1) := by decide +kernel
theorem d_MM_prove_26 : decode b_MM_prove 26 = .ok (.bastore, 1) := by decide +kernel
theorem d_MM_prove_27 : decode b_MM_prove 27 = .ok (.iconst 0, 1) := by decide +kernel
theorem d_MM_prove_28 : decode b_MM_prove 28 = .ok (.istore_n 1, 1) := by decide +kernel
theorem d_MM_prove_29 : decode b_MM_prove 29 = .ok (.aload_n 0, 1) := by decide +kernel
theorem d_MM_prove_30 : decode b_MM_prove 30 = .ok (.getfield 269, 3) := by decide +kernel
theorem d_MM_prove_33 : decode b_MM_prove 33 = .ok (.iconst 1, 1) := by decide +kernel
theorem d_MM_prove_34 : decode b_MM_prove 34 = .ok (.isub, 1) := by decide +kernel
theorem d_MM_prove_35 : decode b_MM_prove 35 = .ok (.istore_n 2, 1) := by decide +kernel
theorem d_MM_prove_36 : decode b_MM_prove 36 = .ok (.iload_n 2, 1) := by decide +kernel
theorem d_MM_prove_37 : decode b_MM_prove 37 = .ok (.ifCond .lt 103, 3) := by decide +kernel
theorem d_MM_prove_40 : decode b_MM_prove 40 = .ok (.aload_n 0, 1) := by decide +kernel
theorem d_MM_prove_41 : decode b_MM_prove 41 = .ok (.getfield 388, 3) := by decide +kernel
theorem d_MM_prove_44 : decode b_MM_prove 44 = .ok (.iload_n 2, 1) := by decide +kernel
theorem d_MM_prove_45 : decode b_MM_prove 45 = .ok (.baload, 1) := by decide +kernel
theorem d_MM_prove_46 : decode b_MM_prove 46 = .ok (.ifCond .ne 6, 3) := by decide +kernel
theorem d_MM_prove_49 : decode b_MM_prove 49 = .ok (.goto 85, 3) := by decide +kernel
theorem d_MM_prove_52 : decode b_MM_prove 52 = .ok (.iinc 1 1, 3) := by decide +kernel
theorem d_MM_prove_55 : decode b_MM_prove 55 = .ok (.aload_n 0, 1) := by decide +kernel
theorem d_MM_prove_56 : decode b_MM_prove 56 = .ok (.getfield 250, 3) := by decide +kernel
theorem d_MM_prove_59 : decode b_MM_prove 59 = .ok (.iload_n 2, 1) := by decide +kernel
theorem d_MM_prove_60 : decode b_MM_prove 60 = .ok (.iaload, 1) := by decide +kernel
theorem d_MM_prove_61 : decode b_MM_prove 61 = .ok (.ifCond .lt 15, 3) := by decide +kernel
theorem d_MM_prove_64 : decode b_MM_prove 64 = .ok (.aload_n 0, 1) := by decide +kernel
theorem d_MM_prove_65 : decode b_MM_prove 65 = .ok (.getfield 388, 3) := by decide +kernel
theorem d_MM_prove_68 : decode b_MM_prove 68 = .ok (.aload_n 0, 1) := by decide +kernel
theorem d_MM_prove_69 : decode b_MM_prove 69 = .ok (.getfield 250, 3) := by decide +kernel
theorem d_MM_prove_72 : decode b_MM_prove 72 = .ok (.iload_n 2, 1) := by decide +kernel
theorem d_MM_prove_73 : decode b_MM_prove 73 = .ok (.iaload, 1) := by decide +kernel
theorem d_MM_prove_74 : decode b_MM_prove 74 = .ok (.iconst 1, 1) := by decide +kernel
theorem d_MM_prove_75 : decode b_MM_prove 75 = .ok (.bastore, 1) := by decide +kernel
theorem d_MM_prove_76 : decode b_MM_prove 76 = .ok (.aload_n 0, 1) := by decide +kernel
theorem d_MM_prove_77 : decode b_MM_prove 77 = .ok (.getfield 253, 3) := by decide +kernel
theorem d_MM_prove_80 : decode b_MM_prove 80 = .ok (.iload_n 2, 1) := by decide +kernel
theorem d_MM_prove_81 : decode b_MM_prove 81 = .ok (.iaload, 1) := by decide +kernel
theorem d_MM_prove_82 : decode b_MM_prove 82 = .ok (.ifCond .lt 15, 3) := by decide +kernel
theorem d_MM_prove_85 : decode b_MM_prove 85 = .ok (.aload_n 0, 1) := by decide +kernel
theorem d_MM_prove_86 : decode b_MM_prove 86 = .ok (.getfield 388, 3) := by decide +kernel
theorem d_MM_prove_89 : decode b_MM_prove 89 = .ok (.aload_n 0, 1) := by decide +kernel
theorem d_MM_prove_90 : decode b_MM_prove 90 = .ok (.getfield 253, 3) := by decide +kernel
theorem d_MM_prove_93 : decode b_MM_prove 93 = .ok (.iload_n 2, 1) := by decide +kernel
theorem d_MM_prove_94 : decode b_MM_prove 94 = .ok (.iaload, 1) := by decide +kernel
theorem d_MM_prove_95 : decode b_MM_prove 95 = .ok (.iconst 1, 1) := by decide +kernel
theorem d_MM_prove_96 : decode b_MM_prove 96 = .ok (.bastore, 1) := by decide +kernel
theorem d_MM_prove_97 : decode b_MM_prove 97 = .ok (.iconst 0, 1) := by decide +kernel
theorem d_MM_prove_98 : decode b_MM_prove 98 = .ok (.istore_n 3, 1) := by decide +kernel
theorem d_MM_prove_99 : decode b_MM_prove 99 = .ok (.iload_n 3, 1) := by decide +kernel
theorem d_MM_prove_100 : decode b_MM_prove 100 = .ok (.aload_n 0, 1) := by decide +kernel
theorem d_MM_prove_101 : decode b_MM_prove 101 = .ok (.getfield 262, 3) := by decide +kernel
theorem d_MM_prove_104 : decode b_MM_prove 104 = .ok (.iload_n 2, 1) := by decide +kernel
theorem d_MM_prove_105 : decode b_MM_prove 105 = .ok (.iaload, 1) := by decide +kernel
theorem d_MM_prove_106 : decode b_MM_prove 106 = .ok (.if_icmp .ge 28, 3) := by decide +kernel
theorem d_MM_prove_109 : decode b_MM_prove 109 = .ok (.aload_n 0, 1) := by decide +kernel
theorem d_MM_prove_110 : decode b_MM_prove 110 = .ok (.getfield 388, 3) := by decide +kernel
theorem d_MM_prove_113 : decode b_MM_prove 113 = .ok (.aload_n 0, 1) := by decide +kernel
theorem d_MM_prove_114 : decode b_MM_prove 114 = .ok (.getfield 266, 3) := by decide +kernel
theorem d_MM_prove_117 : decode b_MM_prove 117 = .ok (.aload_n 0, 1) := by decide +kernel
theorem d_MM_prove_118 : decode b_MM_prove 118 = .ok (.getfield 259, 3) := by decide +kernel
theorem d_MM_prove_121 : decode b_MM_prove 121 = .ok (.iload_n 2, 1) := by decide +kernel
theorem d_MM_prove_122 : decode b_MM_prove 122 = .ok (.iaload, 1) := by decide +kernel
theorem d_MM_prove_123 : decode b_MM_prove 123 = .ok (.iload_n 3, 1) := by decide +kernel
theorem d_MM_prove_124 : decode b_MM_prove 124 = .ok (.iadd, 1) := by decide +kernel
theorem d_MM_prove_125 : decode b_MM_prove 125 = .ok (.iaload, 1) := by decide +kernel
theorem d_MM_prove_126 : decode b_MM_prove 126 = .ok (.iconst 1, 1) := by decide +kernel
theorem d_MM_prove_127 : decode b_MM_prove 127 = .ok (.bastore, 1) := by decide +kernel
theorem d_MM_prove_128 : decode b_MM_prove 128 = .ok (.iinc 3 1, 3) := by decide +kernel
theorem d_MM_prove_131 : decode b_MM_prove 131 = .ok (.goto (-32), 3) := by decide +kernel
theorem d_MM_prove_134 : decode b_MM_prove 134 = .ok (.iinc 2 (-1), 3) := by decide +kernel
theorem d_MM_prove_137 : decode b_MM_prove 137 = .ok (.goto (-101), 3) := by decide +kernel
theorem d_MM_prove_140 : decode b_MM_prove 140 = .ok (.iload_n 1, 1) := by decide +kernel
theorem d_MM_prove_141 : decode b_MM_prove 141 = .ok (.ireturn, 1) := by decide +kernel
abbrev b_MM_step2 : ByteArray := prog_14_method_125_code
def y_MM_step2 : MethodName := ⟨"ClauseProverModel", "step", "(I)I"⟩
theorem d_MM_step2_0 : decode b_MM_step2 0 = .ok (.aload_n 0, 1) := by decide +kernel
theorem d_MM_step2_1 : decode b_MM_step2 1 = .ok (.iconst 0, 1) := by decide +kernel
theorem d_MM_step2_2 : decode b_MM_step2 2 = .ok (.putfield 24, 3) := by decide +kernel
theorem d_MM_step2_5 : decode b_MM_step2 5 = .ok (.aload_n 0, 1) := by decide +kernel
theorem d_MM_step2_6 : decode b_MM_step2 6 = .ok (.invokevirtual 777, 3) := by decide +kernel
theorem d_MM_step2_9 : decode b_MM_step2 9 = .ok (.istore_n 2, 1) := by decide +kernel
theorem d_MM_step2_10 : decode b_MM_step2 10 = .ok (.aload_n 0, 1) := by decide +kernel
theorem d_MM_step2_11 : decode b_MM_step2 11 = .ok (.iconst 1, 1) := by decide +kernel
theorem d_MM_step2_12 : decode b_MM_step2 12 = .ok (.iload_n 1, 1) := by decide +kernel
theorem d_MM_step2_13 : decode b_MM_step2 13 = .ok (.ifCond .lt 8, 3) := by decide +kernel
theorem d_MM_step2_16 : decode b_MM_step2 16 = .ok (.iload_n 1, 1) := by decide +kernel
theorem d_MM_step2_17 : decode b_MM_step2 17 = .ok (.iload_n 2, 1) := by decide +kernel
theorem d_MM_step2_18 : decode b_MM_step2 18 = .ok (.if_icmp .lt 7, 3) := by decide +kernel
theorem d_MM_step2_21 : decode b_MM_step2 21 = .ok (.iconst 1, 1) := by decide +kernel
theorem d_MM_step2_22 : decode b_MM_step2 22 = .ok (.goto 4, 3) := by decide +kernel
theorem d_MM_step2_25 : decode b_MM_step2 25 = .ok (.iconst 0, 1) := by decide +kernel
theorem d_MM_step2_26 : decode b_MM_step2 26 = .ok (.invokevirtual 401, 3) := by decide +kernel
theorem d_MM_step2_29 : decode b_MM_step2 29 = .ok (.ifCond .eq 5, 3) := by decide +kernel
theorem d_MM_step2_32 : decode b_MM_step2 32 = .ok (.iconst 0, 1) := by decide +kernel
theorem d_MM_step2_33 : decode b_MM_step2 33 = .ok (.ireturn, 1) := by decide +kernel
theorem d_MM_step2_34 : decode b_MM_step2 34 = .ok (.iconst (-1), 1) := by decide +kernel
theorem d_MM_step2_35 : decode b_MM_step2 35 = .ok (.istore_n 3, 1) := by decide +kernel
theorem d_MM_step2_36 : decode b_MM_step2 36 = .ok (.iload_n 1, 1) := by decide +kernel
theorem d_MM_step2_37 : decode b_MM_step2 37 = .ok (.istore 4, 2) := by decide +kernel
theorem d_MM_step2_39 : decode b_MM_step2 39 = .ok (.iload 4, 2) := by decide +kernel
theorem d_MM_step2_41 : decode b_MM_step2 41 = .ok (.ifCond .lt 27, 3) := by decide +kernel
theorem d_MM_step2_44 : decode b_MM_step2 44 = .ok (.iinc 3 1, 3) := by decide +kernel
theorem d_MM_step2_47 : decode b_MM_step2 47 = .ok (.aload_n 0, 1) := by decide +kernel
theorem d_MM_step2_48 : decode b_MM_step2 48 = .ok (.getfield 388, 3) := by decide +kernel
theorem d_MM_step2_51 : decode b_MM_step2 51 = .ok (.iload_n 3, 1) := by decide +kernel
theorem d_MM_step2_52 : decode b_MM_step2 52 = .ok (.baload, 1) := by decide +kernel
theorem d_MM_step2_53 : decode b_MM_step2 53 = .ok (.ifCond .ne 9, 3) := by decide +kernel
theorem d_MM_step2_56 : decode b_MM_step2 56 = .ok (.iinc 3 1, 3) := by decide +kernel
theorem d_MM_step2_59 : decode b_MM_step2 59 = .ok (.goto (-12), 3) := by decide +kernel
theorem d_MM_step2_62 : decode b_MM_step2 62 = .ok (.iinc 4 (-1), 3) := by decide +kernel
theorem d_MM_step2_65 : decode b_MM_step2 65 = .ok (.goto (-26), 3) := by decide +kernel
theorem d_MM_step2_68 : decode b_MM_step2 68 = .ok (.iload_n 3, 1) := by decide +kernel
theorem d_MM_step2_69 : decode b_MM_step2 69 = .ok (.ireturn, 1) := by decide +kernel
abbrev b_MM_look : ByteArray := prog_14_method_130_code
def y_MM_look : MethodName := ⟨"ClauseProverModel", "look", "(II)I"⟩
theorem d_MM_look_0 : decode b_MM_look 0 = .ok (.aload_n 0, 1) := by decide +kernel
theorem d_MM_look_1 : decode b_MM_look 1 = .ok (.iconst 0, 1) := by decide +kernel
theorem d_MM_look_2 : decode b_MM_look 2 = .ok (.putfield 24, 3) := by decide +kernel
theorem d_MM_look_5 : decode b_MM_look 5 = .ok (.aload_n 0, 1) := by decide +kernel
theorem d_MM_look_6 : decode b_MM_look 6 = .ok (.iconst 1, 1) := by decide +kernel
theorem d_MM_look_7 : decode b_MM_look 7 = .ok (.iload_n 2, 1) := by decide +kernel
theorem d_MM_look_8 : decode b_MM_look 8 = .ok (.iconst 1, 1) := by decide +kernel
theorem d_MM_look_9 : decode b_MM_look 9 = .ok (.if_icmp .lt 8, 3) := by decide +kernel
theorem d_MM_look_12 : decode b_MM_look 12 = .ok (.iload_n 2, 1) := by decide +kernel
theorem d_MM_look_13 : decode b_MM_look 13 = .ok (.iconst 3, 1) := by decide +kernel
theorem d_MM_look_14 : decode b_MM_look 14 = .ok (.if_icmp .le 7, 3) := by decide +kernel
theorem d_MM_look_17 : decode b_MM_look 17 = .ok (.iconst 1, 1) := by decide +kernel
theorem d_MM_look_18 : decode b_MM_look 18 = .ok (.goto 4, 3) := by decide +kernel
theorem d_MM_look_21 : decode b_MM_look 21 = .ok (.iconst 0, 1) := by decide +kernel
theorem d_MM_look_22 : decode b_MM_look 22 = .ok (.invokevirtual 401, 3) := by decide +kernel
theorem d_MM_look_25 : decode b_MM_look 25 = .ok (.ifCond .eq 5, 3) := by decide +kernel
theorem d_MM_look_28 : decode b_MM_look 28 = .ok (.iconst 0, 1) := by decide +kernel
theorem d_MM_look_29 : decode b_MM_look 29 = .ok (.ireturn, 1) := by decide +kernel
theorem d_MM_look_30 : decode b_MM_look 30 = .ok (.aload_n 0, 1) := by decide +kernel
theorem d_MM_look_31 : decode b_MM_look 31 = .ok (.iload_n 1, 1) := by decide +kernel
theorem d_MM_look_32 : decode b_MM_look 32 = .ok (.putfield 391, 3) := by decide +kernel
theorem d_MM_look_35 : decode b_MM_look 35 = .ok (.aload_n 0, 1) := by decide +kernel
theorem d_MM_look_36 : decode b_MM_look 36 = .ok (.iload_n 2, 1) := by decide +kernel
theorem d_MM_look_37 : decode b_MM_look 37 = .ok (.putfield 394, 3) := by decide +kernel
theorem d_MM_look_40 : decode b_MM_look 40 = .ok (.aload_n 0, 1) := by decide +kernel
theorem d_MM_look_41 : decode b_MM_look 41 = .ok (.invokevirtual 791, 3) := by decide +kernel
theorem d_MM_look_44 : decode b_MM_look 44 = .ok (.ifCond .ne 5, 3) := by decide +kernel
theorem d_MM_look_47 : decode b_MM_look 47 = .ok (.iconst (-1), 1) := by decide +kernel
theorem d_MM_look_48 : decode b_MM_look 48 = .ok (.ireturn, 1) := by decide +kernel
theorem d_MM_look_49 : decode b_MM_look 49 = .ok (.iconst 0, 1) := by decide +kernel
theorem d_MM_look_50 : decode b_MM_look 50 = .ok (.istore_n 3, 1) := by decide +kernel
theorem d_MM_look_51 : decode b_MM_look 51 = .ok (.iconst 0, 1) := by decide +kernel
theorem d_MM_look_52 : decode b_MM_look 52 = .ok (.istore 4, 2) := by decide +kernel
theorem d_MM_look_54 : decode b_MM_look 54 = .ok (.iload 4, 2) := by decide +kernel
theorem d_MM_look_56 : decode b_MM_look 56 = .ok (.aload_n 0, 1) := by decide +kernel
theorem d_MM_look_57 : decode b_MM_look 57 = .ok (.getfield 269, 3) := by decide +kernel
theorem d_MM_look_60 : decode b_MM_look 60 = .ok (.if_icmp .ge 21, 3) := by decide +kernel
theorem d_MM_look_63 : decode b_MM_look 63 = .ok (.aload_n 0, 1) := by decide +kernel
theorem d_MM_look_64 : decode b_MM_look 64 = .ok (.iload 4, 2) := by decide +kernel
theorem d_MM_look_66 : decode b_MM_look 66 = .ok (.invokevirtual 788, 3) := by decide +kernel
theorem d_MM_look_69 : decode b_MM_look 69 = .ok (.ifCond .ne 6, 3) := by decide +kernel
theorem d_MM_look_72 : decode b_MM_look 72 = .ok (.iinc 3 1, 3) := by decide +kernel
theorem d_MM_look_75 : decode b_MM_look 75 = .ok (.iinc 4 1, 3) := by decide +kernel
theorem d_MM_look_78 : decode b_MM_look 78 = .ok (.goto (-24), 3) := by decide +kernel
theorem d_MM_look_81 : decode b_MM_look 81 = .ok (.iload_n 3, 1) := by decide +kernel
theorem d_MM_look_82 : decode b_MM_look 82 = .ok (.ireturn, 1) := by decide +kernel
abbrev b_MM_textIsTrue : ByteArray := prog_14_method_129_code
def y_MM_textIsTrue : MethodName := ⟨"ClauseProverModel", "textIsTrue", "()Z"⟩
theorem d_MM_textIsTrue_0 : decode b_MM_textIsTrue 0 = .ok (.iconst 0, 1) := by decide +kernel
theorem d_MM_textIsTrue_1 : decode b_MM_textIsTrue 1 = .ok (.istore_n 1, 1) := by decide +kernel
theorem d_MM_textIsTrue_2 : decode b_MM_textIsTrue 2 = .ok (.iload_n 1, 1) := by decide +kernel
theorem d_MM_textIsTrue_3 : decode b_MM_textIsTrue 3 = .ok (.aload_n 0, 1) := by decide +kernel
theorem d_MM_textIsTrue_4 : decode b_MM_textIsTrue 4 = .ok (.getfield 272, 3) := by decide +kernel
theorem d_MM_textIsTrue_7 : decode b_MM_textIsTrue 7 = .ok (.if_icmp .ge 19, 3) := by decide +kernel
theorem d_MM_textIsTrue_10 : decode b_MM_textIsTrue 10 = .ok (.aload_n 0, 1) := by decide +kernel
theorem d_MM_textIsTrue_11 : decode b_MM_textIsTrue 11 = .ok (.iload_n 1, 1) := by decide +kernel
theorem d_MM_textIsTrue_12 : decode b_MM_textIsTrue 12 = .ok (.invokevirtual 788, 3) := by decide +kernel
theorem d_MM_textIsTrue_15 : decode b_MM_textIsTrue 15 = .ok (.ifCond .ne 5, 3) := by decide +kernel
theorem d_MM_textIsTrue_18 : decode b_MM_textIsTrue 18 = .ok (.iconst 0, 1) := by decide +kernel
theorem d_MM_textIsTrue_19 : decode b_MM_textIsTrue 19 = .ok (.ireturn, 1) := by decide +kernel
theorem d_MM_textIsTrue_20 : decode b_MM_textIsTrue 20 = .ok (.iinc 1 1, 3) := by decide +kernel
theorem d_MM_textIsTrue_23 : decode b_MM_textIsTrue 23 = .ok (.goto (-21), 3) := by decide +kernel
theorem d_MM_textIsTrue_26 : decode b_MM_textIsTrue 26 = .ok (.iconst 1, 1) := by decide +kernel
theorem d_MM_textIsTrue_27 : decode b_MM_textIsTrue 27 = .ok (.ireturn, 1) := by decide +kernel
abbrev b_MM_isTrue : ByteArray := prog_14_method_128_code
def y_MM_isTrue : MethodName := ⟨"ClauseProverModel", "isTrue", "(I)Z"⟩
theorem d_MM_isTrue_0 : decode b_MM_isTrue 0 = .ok (.iconst 1, 1) := by decide +kernel
theorem d_MM_isTrue_1 : decode b_MM_isTrue 1 = .ok (.istore_n 2, 1) := by decide +kernel
theorem d_MM_isTrue_2 : decode b_MM_isTrue 2 = .ok (.iconst 0, 1) := by decide +kernel
theorem d_MM_isTrue_3 : decode b_MM_isTrue 3 = .ok (.istore_n 3, 1) := by decide +kernel
theorem d_MM_isTrue_4 : decode b_MM_isTrue 4 = .ok (.iload_n 3, 1) := by decide +kernel
theorem d_MM_isTrue_5 : decode b_MM_isTrue 5 = .ok (.aload_n 0, 1) := by decide +kernel
theorem d_MM_isTrue_6 : decode b_MM_isTrue 6 = .ok (.getfield 244, 3) := by decide +kernel
theorem d_MM_isTrue_9 : decode b_MM_isTrue 9 = .ok (.iload_n 1, 1) := by decide +kernel
theorem d_MM_isTrue_10 : decode b_MM_isTrue 10 = .ok (.iaload, 1) := by decide +kernel
theorem d_MM_isTrue_11 : decode b_MM_isTrue 11 = .ok (.if_icmp .ge 16, 3) := by decide +kernel
theorem d_MM_isTrue_14 : decode b_MM_isTrue 14 = .ok (.iload_n 2, 1) := by decide +kernel
theorem d_MM_isTrue_15 : decode b_MM_isTrue 15 = .ok (.aload_n 0, 1) := by decide +kernel
theorem d_MM_isTrue_16 : decode b_MM_isTrue 16 = .ok (.getfield 394, 3) := by decide +kernel
theorem d_MM_isTrue_19 : decode b_MM_isTrue 19 = .ok (.imul, 1) := by decide +kernel
theorem d_MM_isTrue_20 : decode b_MM_isTrue 20 = .ok (.istore_n 2, 1) := by decide +kernel
theorem d_MM_isTrue_21 : decode b_MM_isTrue 21 = .ok (.iinc 3 1, 3) := by decide +kernel
theorem d_MM_isTrue_24 : decode b_MM_isTrue 24 = .ok (.goto (-20), 3) := by decide +kernel
theorem d_MM_isTrue_27 : decode b_MM_isTrue 27 = .ok (.iconst 0, 1) := by decide +kernel
theorem d_MM_isTrue_28 : decode b_MM_isTrue 28 = .ok (.istore_n 3, 1) := by decide +kernel
theorem d_MM_isTrue_29 : decode b_MM_isTrue 29 = .ok (.iload_n 3, 1) := by decide +kernel
theorem d_MM_isTrue_30 : decode b_MM_isTrue 30 = .ok (.iload_n 2, 1) := by decide +kernel
theorem d_MM_isTrue_31 : decode b_MM_isTrue 31 = .ok (.if_icmp .ge 149, 3) := by decide +kernel
theorem d_MM_isTrue_34 : decode b_MM_isTrue 34 = .ok (.iload_n 3, 1) := by decide +kernel
theorem d_MM_isTrue_35 : decode b_MM_isTrue 35 = .ok (.istore 4, 2) := by decide +kernel
theorem d_MM_isTrue_37 : decode b_MM_isTrue 37 = .ok (.iconst 0, 1) := by decide +kernel
theorem d_MM_isTrue_38 : decode b_MM_isTrue 38 = .ok (.istore 5, 2) := by decide +kernel
theorem d_MM_isTrue_40 : decode b_MM_isTrue 40 = .ok (.iload 5, 2) := by decide +kernel
theorem d_MM_isTrue_42 : decode b_MM_isTrue 42 = .ok (.aload_n 0, 1) := by decide +kernel
theorem d_MM_isTrue_43 : decode b_MM_isTrue 43 = .ok (.getfield 244, 3) := by decide +kernel
theorem d_MM_isTrue_46 : decode b_MM_isTrue 46 = .ok (.iload_n 1, 1) := by decide +kernel
theorem d_MM_isTrue_47 : decode b_MM_isTrue 47 = .ok (.iaload, 1) := by decide +kernel
theorem d_MM_isTrue_48 : decode b_MM_isTrue 48 = .ok (.if_icmp .ge 32, 3) := by decide +kernel
theorem d_MM_isTrue_51 : decode b_MM_isTrue 51 = .ok (.aload_n 0, 1) := by decide +kernel
theorem d_MM_isTrue_52 : decode b_MM_isTrue 52 = .ok (.getfield 397, 3) := by decide +kernel
theorem d_MM_isTrue_55 : decode b_MM_isTrue 55 = .ok (.iload 5, 2) := by decide +kernel
theorem d_MM_isTrue_57 : decode b_MM_isTrue 57 = .ok (.iload 4, 2) := by decide +kernel
theorem d_MM_isTrue_59 : decode b_MM_isTrue 59 = .ok (.aload_n 0, 1) := by decide +kernel
theorem d_MM_isTrue_60 : decode b_MM_isTrue 60 = .ok (.getfield 394, 3) := by decide +kernel
theorem d_MM_isTrue_63 : decode b_MM_isTrue 63 = .ok (.irem, 1) := by decide +kernel
theorem d_MM_isTrue_64 : decode b_MM_isTrue 64 = .ok (.iastore, 1) := by decide +kernel
theorem d_MM_isTrue_65 : decode b_MM_isTrue 65 = .ok (.iload 4, 2) := by decide +kernel
theorem d_MM_isTrue_67 : decode b_MM_isTrue 67 = .ok (.aload_n 0, 1) := by decide +kernel
theorem d_MM_isTrue_68 : decode b_MM_isTrue 68 = .ok (.getfield 394, 3) := by decide +kernel
theorem d_MM_isTrue_71 : decode b_MM_isTrue 71 = .ok (.idiv, 1) := by decide +kernel
theorem d_MM_isTrue_72 : decode b_MM_isTrue 72 = .ok (.istore 4, 2) := by decide +kernel
theorem d_MM_isTrue_74 : decode b_MM_isTrue 74 = .ok (.iinc 5 1, 3) := by decide +kernel
theorem d_MM_isTrue_77 : decode b_MM_isTrue 77 = .ok (.goto (-37), 3) := by decide +kernel
theorem d_MM_isTrue_80 : decode b_MM_isTrue 80 = .ok (.iconst 0, 1) := by decide +kernel
theorem d_MM_isTrue_81 : decode b_MM_isTrue 81 = .ok (.istore 5, 2) := by decide +kernel
theorem d_MM_isTrue_83 : decode b_MM_isTrue 83 = .ok (.aload_n 0, 1) := by decide +kernel
theorem d_MM_isTrue_84 : decode b_MM_isTrue 84 = .ok (.getfield 235, 3) := by decide +kernel
theorem d_MM_isTrue_87 : decode b_MM_isTrue 87 = .ok (.iload_n 1, 1) := by decide +kernel
theorem d_MM_isTrue_88 : decode b_MM_isTrue 88 = .ok (.iaload, 1) := by decide +kernel
theorem d_MM_isTrue_89 : decode b_MM_isTrue 89 = .ok (.istore 6, 2) := by decide +kernel
theorem d_MM_isTrue_91 : decode b_MM_isTrue 91 = .ok (.iload 6, 2) := by decide +kernel
theorem d_MM_isTrue_93 : decode b_MM_isTrue 93 = .ok (.aload_n 0, 1) := by decide +kernel
theorem d_MM_isTrue_94 : decode b_MM_isTrue 94 = .ok (.getfield 235, 3) := by decide +kernel
theorem d_MM_isTrue_97 : decode b_MM_isTrue 97 = .ok (.iload_n 1, 1) := by decide +kernel
theorem d_MM_isTrue_98 : decode b_MM_isTrue 98 = .ok (.iaload, 1) := by decide +kernel
theorem d_MM_isTrue_99 : decode b_MM_isTrue 99 = .ok (.aload_n 0, 1) := by decide +kernel
theorem d_MM_isTrue_100 : decode b_MM_isTrue 100 = .ok (.getfield 238, 3) := by decide +kernel
theorem d_MM_isTrue_103 : decode b_MM_isTrue 103 = .ok (.iload_n 1, 1) := by decide +kernel
theorem d_MM_isTrue_104 : decode b_MM_isTrue 104 = .ok (.iaload, 1) := by decide +kernel
theorem d_MM_isTrue_105 : decode b_MM_isTrue 105 = .ok (.iadd, 1) := by decide +kernel
theorem d_MM_isTrue_106 : decode b_MM_isTrue 106 = .ok (.if_icmp .ge 61, 3) := by decide +kernel
theorem d_MM_isTrue_109 : decode b_MM_isTrue 109 = .ok (.iload 5, 2) := by decide +kernel
theorem d_MM_isTrue_111 : decode b_MM_isTrue 111 = .ok (.ifCond .ne 56, 3) := by decide +kernel
theorem d_MM_isTrue_114 : decode b_MM_isTrue 114 = .ok (.aload_n 0, 1) := by decide +kernel
theorem d_MM_isTrue_115 : decode b_MM_isTrue 115 = .ok (.aload_n 0, 1) := by decide +kernel
theorem d_MM_isTrue_116 : decode b_MM_isTrue 116 = .ok (.getfield 214, 3) := by decide +kernel
theorem d_MM_isTrue_119 : decode b_MM_isTrue 119 = .ok (.iload 6, 2) := by decide +kernel
theorem d_MM_isTrue_121 : decode b_MM_isTrue 121 = .ok (.iaload, 1) := by decide +kernel
theorem d_MM_isTrue_122 : decode b_MM_isTrue 122 = .ok (.invokevirtual 783, 3) := by decide +kernel
theorem d_MM_isTrue_125 : decode b_MM_isTrue 125 = .ok (.aload_n 0, 1) := by decide +kernel
theorem d_MM_isTrue_126 : decode b_MM_isTrue 126 = .ok (.aload_n 0, 1) := by decide +kernel
theorem d_MM_isTrue_127 : decode b_MM_isTrue 127 = .ok (.getfield 217, 3) := by decide +kernel
theorem d_MM_isTrue_130 : decode b_MM_isTrue 130 = .ok (.iload 6, 2) := by decide +kernel
theorem d_MM_isTrue_132 : decode b_MM_isTrue 132 = .ok (.iaload, 1) := by decide +kernel
theorem d_MM_isTrue_133 : decode b_MM_isTrue 133 = .ok (.invokevirtual 783, 3) := by decide +kernel
theorem d_MM_isTrue_136 : decode b_MM_isTrue 136 = .ok (.if_icmp .ne 7, 3) := by decide +kernel
theorem d_MM_isTrue_139 : decode b_MM_isTrue 139 = .ok (.iconst 1, 1) := by decide +kernel
theorem d_MM_isTrue_140 : decode b_MM_isTrue 140 = .ok (.goto 4, 3) := by decide +kernel
theorem d_MM_isTrue_143 : decode b_MM_isTrue 143 = .ok (.iconst 0, 1) := by decide +kernel
theorem d_MM_isTrue_144 : decode b_MM_isTrue 144 = .ok (.aload_n 0, 1) := by decide +kernel
theorem d_MM_isTrue_145 : decode b_MM_isTrue 145 = .ok (.getfield 220, 3) := by decide +kernel
theorem d_MM_isTrue_148 : decode b_MM_isTrue 148 = .ok (.iload 6, 2) := by decide +kernel
theorem d_MM_isTrue_150 : decode b_MM_isTrue 150 = .ok (.baload, 1) := by decide +kernel
theorem d_MM_isTrue_151 : decode b_MM_isTrue 151 = .ok (.if_icmp .ne 7, 3) := by decide +kernel
theorem d_MM_isTrue_154 : decode b_MM_isTrue 154 = .ok (.iconst 1, 1) := by decide +kernel
theorem d_MM_isTrue_155 : decode b_MM_isTrue 155 = .ok (.goto 4, 3) := by decide +kernel
theorem d_MM_isTrue_158 : decode b_MM_isTrue 158 = .ok (.iconst 0, 1) := by decide +kernel
theorem d_MM_isTrue_159 : decode b_MM_isTrue 159 = .ok (.istore 5, 2) := by decide +kernel
theorem d_MM_isTrue_161 : decode b_MM_isTrue 161 = .ok (.iinc 6 1, 3) := by decide +kernel
theorem d_MM_isTrue_164 : decode b_MM_isTrue 164 = .ok (.goto (-73), 3) := by decide +kernel
theorem d_MM_isTrue_167 : decode b_MM_isTrue 167 = .ok (.iload 5, 2) := by decide +kernel
theorem d_MM_isTrue_169 : decode b_MM_isTrue 169 = .ok (.ifCond .ne 5, 3) := by decide +kernel
theorem d_MM_isTrue_172 : decode b_MM_isTrue 172 = .ok (.iconst 0, 1) := by decide +kernel
theorem d_MM_isTrue_173 : decode b_MM_isTrue 173 = .ok (.ireturn, 1) := by decide +kernel
theorem d_MM_isTrue_174 : decode b_MM_isTrue 174 = .ok (.iinc 3 1, 3) := by decide +kernel
theorem d_MM_isTrue_177 : decode b_MM_isTrue 177 = .ok (.goto (-148), 3) := by decide +kernel
theorem d_MM_isTrue_180 : decode b_MM_isTrue 180 = .ok (.iconst 1, 1) := by decide +kernel
theorem d_MM_isTrue_181 : decode b_MM_isTrue 181 = .ok (.ireturn, 1) := by decide +kernel
abbrev b_MM_meaning : ByteArray := prog_14_method_127_code
def y_MM_meaning : MethodName := ⟨"ClauseProverModel", "meaning", "(I)I"⟩
theorem d_MM_meaning_0 : decode b_MM_meaning 0 = .ok (.aload_n 0, 1) := by decide +kernel
theorem d_MM_meaning_1 : decode b_MM_meaning 1 = .ok (.getfield 145, 3) := by decide +kernel
theorem d_MM_meaning_4 : decode b_MM_meaning 4 = .ok (.iload_n 1, 1) := by decide +kernel
theorem d_MM_meaning_5 : decode b_MM_meaning 5 = .ok (.iaload, 1) := by decide +kernel
theorem d_MM_meaning_6 : decode b_MM_meaning 6 = .ok (.ifCond .ge 17, 3) := by decide +kernel
theorem d_MM_meaning_9 : decode b_MM_meaning 9 = .ok (.aload_n 0, 1) := by decide +kernel
theorem d_MM_meaning_10 : decode b_MM_meaning 10 = .ok (.getfield 397, 3) := by decide +kernel
theorem d_MM_meaning_13 : decode b_MM_meaning 13 = .ok (.iconst (-1), 1) := by decide +kernel
theorem d_MM_meaning_14 : decode b_MM_meaning 14 = .ok (.aload_n 0, 1) := by decide +kernel
theorem d_MM_meaning_15 : decode b_MM_meaning 15 = .ok (.getfield 145, 3) := by decide +kernel
theorem d_MM_meaning_18 : decode b_MM_meaning 18 = .ok (.iload_n 1, 1) := by decide +kernel
theorem d_MM_meaning_19 : decode b_MM_meaning 19 = .ok (.iaload, 1) := by decide +kernel
theorem d_MM_meaning_20 : decode b_MM_meaning 20 = .ok (.isub, 1) := by decide +kernel
theorem d_MM_meaning_21 : decode b_MM_meaning 21 = .ok (.iaload, 1) := by decide +kernel
theorem d_MM_meaning_22 : decode b_MM_meaning 22 = .ok (.ireturn, 1) := by decide +kernel
theorem d_MM_meaning_23 : decode b_MM_meaning 23 = .ok (.aload_n 0, 1) := by decide +kernel
theorem d_MM_meaning_24 : decode b_MM_meaning 24 = .ok (.getfield 145, 3) := by decide +kernel
theorem d_MM_meaning_27 : decode b_MM_meaning 27 = .ok (.iload_n 1, 1) := by decide +kernel
theorem d_MM_meaning_28 : decode b_MM_meaning 28 = .ok (.iaload, 1) := by decide +kernel
theorem d_MM_meaning_29 : decode b_MM_meaning 29 = .ok (.ifCond .ne 5, 3) := by decide +kernel
theorem d_MM_meaning_32 : decode b_MM_meaning 32 = .ok (.iconst 1, 1) := by decide +kernel
theorem d_MM_meaning_33 : decode b_MM_meaning 33 = .ok (.ireturn, 1) := by decide +kernel
theorem d_MM_meaning_34 : decode b_MM_meaning 34 = .ok (.aload_n 0, 1) := by decide +kernel
theorem d_MM_meaning_35 : decode b_MM_meaning 35 = .ok (.aload_n 0, 1) := by decide +kernel
theorem d_MM_meaning_36 : decode b_MM_meaning 36 = .ok (.getfield 391, 3) := by decide +kernel
theorem d_MM_meaning_39 : decode b_MM_meaning 39 = .ok (.aload_n 0, 1) := by decide +kernel
theorem d_MM_meaning_40 : decode b_MM_meaning 40 = .ok (.getfield 145, 3) := by decide +kernel
theorem d_MM_meaning_43 : decode b_MM_meaning 43 = .ok (.iload_n 1, 1) := by decide +kernel
theorem d_MM_meaning_44 : decode b_MM_meaning 44 = .ok (.iaload, 1) := by decide +kernel
theorem d_MM_meaning_45 : decode b_MM_meaning 45 = .ok (.invokevirtual 780, 3) := by decide +kernel
theorem d_MM_meaning_48 : decode b_MM_meaning 48 = .ok (.istore_n 2, 1) := by decide +kernel
theorem d_MM_meaning_49 : decode b_MM_meaning 49 = .ok (.aload_n 0, 1) := by decide +kernel
theorem d_MM_meaning_50 : decode b_MM_meaning 50 = .ok (.getfield 148, 3) := by decide +kernel
theorem d_MM_meaning_53 : decode b_MM_meaning 53 = .ok (.iload_n 1, 1) := by decide +kernel
theorem d_MM_meaning_54 : decode b_MM_meaning 54 = .ok (.iaload, 1) := by decide +kernel
theorem d_MM_meaning_55 : decode b_MM_meaning 55 = .ok (.istore_n 3, 1) := by decide +kernel
theorem d_MM_meaning_56 : decode b_MM_meaning 56 = .ok (.iload_n 3, 1) := by decide +kernel
theorem d_MM_meaning_57 : decode b_MM_meaning 57 = .ok (.ifCond .lt 24, 3) := by decide +kernel
theorem d_MM_meaning_60 : decode b_MM_meaning 60 = .ok (.aload_n 0, 1) := by decide +kernel
theorem d_MM_meaning_61 : decode b_MM_meaning 61 = .ok (.iload_n 2, 1) := by decide +kernel
theorem d_MM_meaning_62 : decode b_MM_meaning 62 = .ok (.aload_n 0, 1) := by decide +kernel
theorem d_MM_meaning_63 : decode b_MM_meaning 63 = .ok (.iload_n 3, 1) := by decide +kernel
theorem d_MM_meaning_64 : decode b_MM_meaning 64 = .ok (.invokevirtual 783, 3) := by decide +kernel
theorem d_MM_meaning_67 : decode b_MM_meaning 67 = .ok (.invokevirtual 780, 3) := by decide +kernel
theorem d_MM_meaning_70 : decode b_MM_meaning 70 = .ok (.istore_n 2, 1) := by decide +kernel
theorem d_MM_meaning_71 : decode b_MM_meaning 71 = .ok (.aload_n 0, 1) := by decide +kernel
theorem d_MM_meaning_72 : decode b_MM_meaning 72 = .ok (.getfield 151, 3) := by decide +kernel
theorem d_MM_meaning_75 : decode b_MM_meaning 75 = .ok (.iload_n 3, 1) := by decide +kernel
theorem d_MM_meaning_76 : decode b_MM_meaning 76 = .ok (.iaload, 1) := by decide +kernel
theorem d_MM_meaning_77 : decode b_MM_meaning 77 = .ok (.istore_n 3, 1) := by decide +kernel
theorem d_MM_meaning_78 : decode b_MM_meaning 78 = .ok (.goto (-22), 3) := by decide +kernel
theorem d_MM_meaning_81 : decode b_MM_meaning 81 = .ok (.iload_n 2, 1) := by decide +kernel
theorem d_MM_meaning_82 : decode b_MM_meaning 82 = .ok (.iload_n 2, 1) := by decide +kernel
theorem d_MM_meaning_83 : decode b_MM_meaning 83 = .ok (.bipush 15, 2) := by decide +kernel
theorem d_MM_meaning_85 : decode b_MM_meaning 85 = .ok (.iushr, 1) := by decide +kernel
theorem d_MM_meaning_86 : decode b_MM_meaning 86 = .ok (.ixor, 1) := by decide +kernel
theorem d_MM_meaning_87 : decode b_MM_meaning 87 = .ok (.ldc_w 786, 3) := by decide +kernel
theorem d_MM_meaning_90 : decode b_MM_meaning 90 = .ok (.imul, 1) := by decide +kernel
theorem d_MM_meaning_91 : decode b_MM_meaning 91 = .ok (.istore_n 2, 1) := by decide +kernel
theorem d_MM_meaning_92 : decode b_MM_meaning 92 = .ok (.iload_n 2, 1) := by decide +kernel
theorem d_MM_meaning_93 : decode b_MM_meaning 93 = .ok (.iload_n 2, 1) := by decide +kernel
theorem d_MM_meaning_94 : decode b_MM_meaning 94 = .ok (.bipush 12, 2) := by decide +kernel
theorem d_MM_meaning_96 : decode b_MM_meaning 96 = .ok (.iushr, 1) := by decide +kernel
theorem d_MM_meaning_97 : decode b_MM_meaning 97 = .ok (.ixor, 1) := by decide +kernel
theorem d_MM_meaning_98 : decode b_MM_meaning 98 = .ok (.istore_n 2, 1) := by decide +kernel
theorem d_MM_meaning_99 : decode b_MM_meaning 99 = .ok (.aload_n 0, 1) := by decide +kernel
theorem d_MM_meaning_100 : decode b_MM_meaning 100 = .ok (.getfield 163, 3) := by decide +kernel
theorem d_MM_meaning_103 : decode b_MM_meaning 103 = .ok (.aload_n 0, 1) := by decide +kernel
theorem d_MM_meaning_104 : decode b_MM_meaning 104 = .ok (.getfield 145, 3) := by decide +kernel
theorem d_MM_meaning_107 : decode b_MM_meaning 107 = .ok (.iload_n 1, 1) := by decide +kernel
theorem d_MM_meaning_108 : decode b_MM_meaning 108 = .ok (.iaload, 1) := by decide +kernel
theorem d_MM_meaning_109 : decode b_MM_meaning 109 = .ok (.baload, 1) := by decide +kernel
theorem d_MM_meaning_110 : decode b_MM_meaning 110 = .ok (.ifCond .eq 9, 3) := by decide +kernel
theorem d_MM_meaning_113 : decode b_MM_meaning 113 = .ok (.iload_n 2, 1) := by decide +kernel
theorem d_MM_meaning_114 : decode b_MM_meaning 114 = .ok (.iconst 1, 1) := by decide +kernel
theorem d_MM_meaning_115 : decode b_MM_meaning 115 = .ok (.iand, 1) := by decide +kernel
theorem d_MM_meaning_116 : decode b_MM_meaning 116 = .ok (.goto 13, 3) := by decide +kernel
theorem d_MM_meaning_119 : decode b_MM_meaning 119 = .ok (.iload_n 2, 1) := by decide +kernel
theorem d_MM_meaning_120 : decode b_MM_meaning 120 = .ok (.ldc_w 787, 3) := by decide +kernel
theorem d_MM_meaning_123 : decode b_MM_meaning 123 = .ok (.iand, 1) := by decide +kernel
theorem d_MM_meaning_124 : decode b_MM_meaning 124 = .ok (.aload_n 0, 1) := by decide +kernel
theorem d_MM_meaning_125 : decode b_MM_meaning 125 = .ok (.getfield 394, 3) := by decide +kernel
theorem d_MM_meaning_128 : decode b_MM_meaning 128 = .ok (.irem, 1) := by decide +kernel
theorem d_MM_meaning_129 : decode b_MM_meaning 129 = .ok (.ireturn, 1) := by decide +kernel
abbrev b_MM_mixed : ByteArray := prog_14_method_126_code
def y_MM_mixed : MethodName := ⟨"ClauseProverModel", "mixed", "(II)I"⟩
theorem d_MM_mixed_0 : decode b_MM_mixed 0 = .ok (.bipush 31, 2) := by decide +kernel
theorem d_MM_mixed_2 : decode b_MM_mixed 2 = .ok (.iload_n 1, 1) := by decide +kernel
theorem d_MM_mixed_3 : decode b_MM_mixed 3 = .ok (.iload_n 1, 1) := by decide +kernel
theorem d_MM_mixed_4 : decode b_MM_mixed 4 = .ok (.bipush 7, 2) := by decide +kernel
theorem d_MM_mixed_6 : decode b_MM_mixed 6 = .ok (.iushr, 1) := by decide +kernel
theorem d_MM_mixed_7 : decode b_MM_mixed 7 = .ok (.ixor, 1) := by decide +kernel
theorem d_MM_mixed_8 : decode b_MM_mixed 8 = .ok (.imul, 1) := by decide +kernel
theorem d_MM_mixed_9 : decode b_MM_mixed 9 = .ok (.iload_n 2, 1) := by decide +kernel
theorem d_MM_mixed_10 : decode b_MM_mixed 10 = .ok (.iadd, 1) := by decide +kernel
theorem d_MM_mixed_11 : decode b_MM_mixed 11 = .ok (.iconst 1, 1) := by decide +kernel
theorem d_MM_mixed_12 : decode b_MM_mixed 12 = .ok (.iadd, 1) := by decide +kernel
theorem d_MM_mixed_13 : decode b_MM_mixed 13 = .ok (.ireturn, 1) := by decide +kernel
abbrev b_MM_search : ByteArray := prog_14_method_131_code
def y_MM_search : MethodName := ⟨"ClauseProverModel", "search", "(III)I"⟩
theorem d_MM_search_0 : decode b_MM_search 0 = .ok (.aload_n 0, 1) := by decide +kernel
theorem d_MM_search_1 : decode b_MM_search 1 = .ok (.iconst 0, 1) := by decide +kernel
theorem d_MM_search_2 : decode b_MM_search 2 = .ok (.putfield 24, 3) := by decide +kernel
theorem d_MM_search_5 : decode b_MM_search 5 = .ok (.aload_n 0, 1) := by decide +kernel
theorem d_MM_search_6 : decode b_MM_search 6 = .ok (.iconst 1, 1) := by decide +kernel
theorem d_MM_search_7 : decode b_MM_search 7 = .ok (.iload_n 2, 1) := by decide +kernel
theorem d_MM_search_8 : decode b_MM_search 8 = .ok (.iconst 1, 1) := by decide +kernel
theorem d_MM_search_9 : decode b_MM_search 9 = .ok (.if_icmp .lt 19, 3) := by decide +kernel
theorem d_MM_search_12 : decode b_MM_search 12 = .ok (.iload_n 2, 1) := by decide +kernel
theorem d_MM_search_13 : decode b_MM_search 13 = .ok (.iconst 3, 1) := by decide +kernel
theorem d_MM_search_14 : decode b_MM_search 14 = .ok (.if_icmp .gt 14, 3) := by decide +kernel
theorem d_MM_search_17 : decode b_MM_search 17 = .ok (.iload_n 3, 1) := by decide +kernel
theorem d_MM_search_18 : decode b_MM_search 18 = .ok (.iconst 1, 1) := by decide +kernel
theorem d_MM_search_19 : decode b_MM_search 19 = .ok (.if_icmp .lt 9, 3) := by decide +kernel
theorem d_MM_search_22 : decode b_MM_search 22 = .ok (.iload_n 3, 1) := by decide +kernel
theorem d_MM_search_23 : decode b_MM_search 23 = .ok (.bipush 50, 2) := by decide +kernel
theorem d_MM_search_25 : decode b_MM_search 25 = .ok (.if_icmp .le 7, 3) := by decide +kernel
theorem d_MM_search_28 : decode b_MM_search 28 = .ok (.iconst 1, 1) := by decide +kernel
theorem d_MM_search_29 : decode b_MM_search 29 = .ok (.goto 4, 3) := by decide +kernel
theorem d_MM_search_32 : decode b_MM_search 32 = .ok (.iconst 0, 1) := by decide +kernel
theorem d_MM_search_33 : decode b_MM_search 33 = .ok (.invokevirtual 401, 3) := by decide +kernel
theorem d_MM_search_36 : decode b_MM_search 36 = .ok (.ifCond .eq 5, 3) := by decide +kernel
theorem d_MM_search_39 : decode b_MM_search 39 = .ok (.iconst 0, 1) := by decide +kernel
theorem d_MM_search_40 : decode b_MM_search 40 = .ok (.ireturn, 1) := by decide +kernel
theorem d_MM_search_41 : decode b_MM_search 41 = .ok (.aload_n 0, 1) := by decide +kernel
theorem d_MM_search_42 : decode b_MM_search 42 = .ok (.iload_n 2, 1) := by decide +kernel
theorem d_MM_search_43 : decode b_MM_search 43 = .ok (.putfield 394, 3) := by decide +kernel
theorem d_MM_search_46 : decode b_MM_search 46 = .ok (.iconst 0, 1) := by decide +kernel
theorem d_MM_search_47 : decode b_MM_search 47 = .ok (.istore 4, 2) := by decide +kernel
theorem d_MM_search_49 : decode b_MM_search 49 = .ok (.iload 4, 2) := by decide +kernel
theorem d_MM_search_51 : decode b_MM_search 51 = .ok (.iload_n 3, 1) := by decide +kernel
theorem d_MM_search_52 : decode b_MM_search 52 = .ok (.if_icmp .ge 27, 3) := by decide +kernel
theorem d_MM_search_55 : decode b_MM_search 55 = .ok (.aload_n 0, 1) := by decide +kernel
theorem d_MM_search_56 : decode b_MM_search 56 = .ok (.iload_n 1, 1) := by decide +kernel
theorem d_MM_search_57 : decode b_MM_search 57 = .ok (.iload 4, 2) := by decide +kernel
theorem d_MM_search_59 : decode b_MM_search 59 = .ok (.iadd, 1) := by decide +kernel
theorem d_MM_search_60 : decode b_MM_search 60 = .ok (.putfield 391, 3) := by decide +kernel
theorem d_MM_search_63 : decode b_MM_search 63 = .ok (.aload_n 0, 1) := by decide +kernel
theorem d_MM_search_64 : decode b_MM_search 64 = .ok (.invokevirtual 791, 3) := by decide +kernel
theorem d_MM_search_67 : decode b_MM_search 67 = .ok (.ifCond .eq 6, 3) := by decide +kernel
theorem d_MM_search_70 : decode b_MM_search 70 = .ok (.iload 4, 2) := by decide +kernel
theorem d_MM_search_72 : decode b_MM_search 72 = .ok (.ireturn, 1) := by decide +kernel
theorem d_MM_search_73 : decode b_MM_search 73 = .ok (.iinc 4 1, 3) := by decide +kernel
theorem d_MM_search_76 : decode b_MM_search 76 = .ok (.goto (-27), 3) := by decide +kernel
theorem d_MM_search_79 : decode b_MM_search 79 = .ok (.iconst (-1), 1) := by decide +kernel
theorem d_MM_search_80 : decode b_MM_search 80 = .ok (.ireturn, 1) := by decide +kernel
abbrev b_MM_count1 : ByteArray := prog_14_method_133_code
def y_MM_count1 : MethodName := ⟨"ClauseProverModel", "count", "(I)I"⟩
theorem d_MM_count1_0 : decode b_MM_count1 0 = .ok (.aload_n 0, 1) := by decide +kernel
theorem d_MM_count1_1 : decode b_MM_count1 1 = .ok (.iconst 0, 1) := by decide +kernel
theorem d_MM_count1_2 : decode b_MM_count1 2 = .ok (.putfield 24, 3) := by decide +kernel
theorem d_MM_count1_5 : decode b_MM_count1 5 = .ok (.iload_n 1, 1) := by decide +kernel
theorem d_MM_count1_6 : decode b_MM_count1 6 = .ok (.tableswitch 142 0 13 #[70, 75, 80, 86, 92, 97, 102, 107, 112, 117, 122, 127, 132, 137], 70) := by decide +kernel
theorem d_MM_count1_76 : decode b_MM_count1 76 = .ok (.aload_n 0, 1) := by decide +kernel
theorem d_MM_count1_77 : decode b_MM_count1 77 = .ok (.getfield 269, 3) := by decide +kernel
theorem d_MM_count1_80 : decode b_MM_count1 80 = .ok (.ireturn, 1) := by decide +kernel
theorem d_MM_count1_81 : decode b_MM_count1 81 = .ok (.aload_n 0, 1) := by decide +kernel
theorem d_MM_count1_82 : decode b_MM_count1 82 = .ok (.getfield 272, 3) := by decide +kernel
theorem d_MM_count1_85 : decode b_MM_count1 85 = .ok (.ireturn, 1) := by decide +kernel
theorem d_MM_count1_86 : decode b_MM_count1 86 = .ok (.aload_n 0, 1) := by decide +kernel
theorem d_MM_count1_87 : decode b_MM_count1 87 = .ok (.iconst 0, 1) := by decide +kernel
theorem d_MM_count1_88 : decode b_MM_count1 88 = .ok (.invokevirtual 794, 3) := by decide +kernel
theorem d_MM_count1_91 : decode b_MM_count1 91 = .ok (.ireturn, 1) := by decide +kernel
theorem d_MM_count1_92 : decode b_MM_count1 92 = .ok (.aload_n 0, 1) := by decide +kernel
theorem d_MM_count1_93 : decode b_MM_count1 93 = .ok (.iconst 1, 1) := by decide +kernel
theorem d_MM_count1_94 : decode b_MM_count1 94 = .ok (.invokevirtual 794, 3) := by decide +kernel
theorem d_MM_count1_97 : decode b_MM_count1 97 = .ok (.ireturn, 1) := by decide +kernel
theorem d_MM_count1_98 : decode b_MM_count1 98 = .ok (.aload_n 0, 1) := by decide +kernel
theorem d_MM_count1_99 : decode b_MM_count1 99 = .ok (.getfield 284, 3) := by decide +kernel
theorem d_MM_count1_102 : decode b_MM_count1 102 = .ok (.ireturn, 1) := by decide +kernel
theorem d_MM_count1_103 : decode b_MM_count1 103 = .ok (.aload_n 0, 1) := by decide +kernel
theorem d_MM_count1_104 : decode b_MM_count1 104 = .ok (.getfield 287, 3) := by decide +kernel
theorem d_MM_count1_107 : decode b_MM_count1 107 = .ok (.ireturn, 1) := by decide +kernel
theorem d_MM_count1_108 : decode b_MM_count1 108 = .ok (.aload_n 0, 1) := by decide +kernel
theorem d_MM_count1_109 : decode b_MM_count1 109 = .ok (.getfield 290, 3) := by decide +kernel
theorem d_MM_count1_112 : decode b_MM_count1 112 = .ok (.ireturn, 1) := by decide +kernel
theorem d_MM_count1_113 : decode b_MM_count1 113 = .ok (.aload_n 0, 1) := by decide +kernel
theorem d_MM_count1_114 : decode b_MM_count1 114 = .ok (.getfield 293, 3) := by decide +kernel
theorem d_MM_count1_117 : decode b_MM_count1 117 = .ok (.ireturn, 1) := by decide +kernel
theorem d_MM_count1_118 : decode b_MM_count1 118 = .ok (.aload_n 0, 1) := by decide +kernel
theorem d_MM_count1_119 : decode b_MM_count1 119 = .ok (.getfield 296, 3) := by decide +kernel
theorem d_MM_count1_122 : decode b_MM_count1 122 = .ok (.ireturn, 1) := by decide +kernel
theorem d_MM_count1_123 : decode b_MM_count1 123 = .ok (.aload_n 0, 1) := by decide +kernel
theorem d_MM_count1_124 : decode b_MM_count1 124 = .ok (.getfield 299, 3) := by decide +kernel
theorem d_MM_count1_127 : decode b_MM_count1 127 = .ok (.ireturn, 1) := by decide +kernel
theorem d_MM_count1_128 : decode b_MM_count1 128 = .ok (.aload_n 0, 1) := by decide +kernel
theorem d_MM_count1_129 : decode b_MM_count1 129 = .ok (.getfield 278, 3) := by decide +kernel
theorem d_MM_count1_132 : decode b_MM_count1 132 = .ok (.ireturn, 1) := by decide +kernel
theorem d_MM_count1_133 : decode b_MM_count1 133 = .ok (.aload_n 0, 1) := by decide +kernel
theorem d_MM_count1_134 : decode b_MM_count1 134 = .ok (.getfield 71, 3) := by decide +kernel
theorem d_MM_count1_137 : decode b_MM_count1 137 = .ok (.ireturn, 1) := by decide +kernel
theorem d_MM_count1_138 : decode b_MM_count1 138 = .ok (.aload_n 0, 1) := by decide +kernel
theorem d_MM_count1_139 : decode b_MM_count1 139 = .ok (.getfield 17, 3) := by decide +kernel
theorem d_MM_count1_142 : decode b_MM_count1 142 = .ok (.ireturn, 1) := by decide +kernel
theorem d_MM_count1_143 : decode b_MM_count1 143 = .ok (.aload_n 0, 1) := by decide +kernel
theorem d_MM_count1_144 : decode b_MM_count1 144 = .ok (.getfield 21, 3) := by decide +kernel
theorem d_MM_count1_147 : decode b_MM_count1 147 = .ok (.ireturn, 1) := by decide +kernel
theorem d_MM_count1_148 : decode b_MM_count1 148 = .ok (.iconst (-1), 1) := by decide +kernel
theorem d_MM_count1_149 : decode b_MM_count1 149 = .ok (.ireturn, 1) := by decide +kernel
abbrev b_MM_inState : ByteArray := prog_14_method_132_code
def y_MM_inState : MethodName := ⟨"ClauseProverModel", "inState", "(I)I"⟩
theorem d_MM_inState_0 : decode b_MM_inState 0 = .ok (.iconst 0, 1) := by decide +kernel
theorem d_MM_inState_1 : decode b_MM_inState 1 = .ok (.istore_n 2, 1) := by decide +kernel
theorem d_MM_inState_2 : decode b_MM_inState 2 = .ok (.iconst 0, 1) := by decide +kernel
theorem d_MM_inState_3 : decode b_MM_inState 3 = .ok (.istore_n 3, 1) := by decide +kernel
theorem d_MM_inState_4 : decode b_MM_inState 4 = .ok (.iload_n 3, 1) := by decide +kernel
theorem d_MM_inState_5 : decode b_MM_inState 5 = .ok (.aload_n 0, 1) := by decide +kernel
theorem d_MM_inState_6 : decode b_MM_inState 6 = .ok (.getfield 269, 3) := by decide +kernel
theorem d_MM_inState_9 : decode b_MM_inState 9 = .ok (.if_icmp .ge 22, 3) := by decide +kernel
theorem d_MM_inState_12 : decode b_MM_inState 12 = .ok (.aload_n 0, 1) := by decide +kernel
theorem d_MM_inState_13 : decode b_MM_inState 13 = .ok (.getfield 256, 3) := by decide +kernel
theorem d_MM_inState_16 : decode b_MM_inState 16 = .ok (.iload_n 3, 1) := by decide +kernel
theorem d_MM_inState_17 : decode b_MM_inState 17 = .ok (.iaload, 1) := by decide +kernel
theorem d_MM_inState_18 : decode b_MM_inState 18 = .ok (.iload_n 1, 1) := by decide +kernel
theorem d_MM_inState_19 : decode b_MM_inState 19 = .ok (.if_icmp .ne 6, 3) := by decide +kernel
theorem d_MM_inState_22 : decode b_MM_inState 22 = .ok (.iinc 2 1, 3) := by decide +kernel
theorem d_MM_inState_25 : decode b_MM_inState 25 = .ok (.iinc 3 1, 3) := by decide +kernel
theorem d_MM_inState_28 : decode b_MM_inState 28 = .ok (.goto (-24), 3) := by decide +kernel
theorem d_MM_inState_31 : decode b_MM_inState 31 = .ok (.iload_n 2, 1) := by decide +kernel
theorem d_MM_inState_32 : decode b_MM_inState 32 = .ok (.ireturn, 1) := by decide +kernel
abbrev b_MM_sides : ByteArray := prog_14_method_66_code
def y_MM_sides : MethodName := ⟨"ClauseProverModel", "sides", "(I[I)I"⟩
theorem d_MM_sides_0 : decode b_MM_sides 0 = .ok (.aload_n 2, 1) := by decide +kernel
theorem d_MM_sides_1 : decode b_MM_sides 1 = .ok (.iconst 0, 1) := by decide +kernel
theorem d_MM_sides_2 : decode b_MM_sides 2 = .ok (.aload_n 0, 1) := by decide +kernel
theorem d_MM_sides_3 : decode b_MM_sides 3 = .ok (.getfield 214, 3) := by decide +kernel
theorem d_MM_sides_6 : decode b_MM_sides 6 = .ok (.iload_n 1, 1) := by decide +kernel
theorem d_MM_sides_7 : decode b_MM_sides 7 = .ok (.iaload, 1) := by decide +kernel
theorem d_MM_sides_8 : decode b_MM_sides 8 = .ok (.iastore, 1) := by decide +kernel
theorem d_MM_sides_9 : decode b_MM_sides 9 = .ok (.aload_n 2, 1) := by decide +kernel
theorem d_MM_sides_10 : decode b_MM_sides 10 = .ok (.iconst 1, 1) := by decide +kernel
theorem d_MM_sides_11 : decode b_MM_sides 11 = .ok (.aload_n 0, 1) := by decide +kernel
theorem d_MM_sides_12 : decode b_MM_sides 12 = .ok (.getfield 217, 3) := by decide +kernel
theorem d_MM_sides_15 : decode b_MM_sides 15 = .ok (.iload_n 1, 1) := by decide +kernel
theorem d_MM_sides_16 : decode b_MM_sides 16 = .ok (.iaload, 1) := by decide +kernel
theorem d_MM_sides_17 : decode b_MM_sides 17 = .ok (.iastore, 1) := by decide +kernel
theorem d_MM_sides_18 : decode b_MM_sides 18 = .ok (.aload_n 0, 1) := by decide +kernel
theorem d_MM_sides_19 : decode b_MM_sides 19 = .ok (.getfield 220, 3) := by decide +kernel
theorem d_MM_sides_22 : decode b_MM_sides 22 = .ok (.iload_n 1, 1) := by decide +kernel
theorem d_MM_sides_23 : decode b_MM_sides 23 = .ok (.baload, 1) := by decide +kernel
theorem d_MM_sides_24 : decode b_MM_sides 24 = .ok (.ifCond .eq 5, 3) := by decide +kernel
theorem d_MM_sides_27 : decode b_MM_sides 27 = .ok (.iconst 2, 1) := by decide +kernel
theorem d_MM_sides_28 : decode b_MM_sides 28 = .ok (.ireturn, 1) := by decide +kernel
theorem d_MM_sides_29 : decode b_MM_sides 29 = .ok (.aload_n 2, 1) := by decide +kernel
theorem d_MM_sides_30 : decode b_MM_sides 30 = .ok (.iconst 2, 1) := by decide +kernel
theorem d_MM_sides_31 : decode b_MM_sides 31 = .ok (.aload_n 0, 1) := by decide +kernel
theorem d_MM_sides_32 : decode b_MM_sides 32 = .ok (.getfield 214, 3) := by decide +kernel
theorem d_MM_sides_35 : decode b_MM_sides 35 = .ok (.iload_n 1, 1) := by decide +kernel
theorem d_MM_sides_36 : decode b_MM_sides 36 = .ok (.iaload, 1) := by decide +kernel
theorem d_MM_sides_37 : decode b_MM_sides 37 = .ok (.iastore, 1) := by decide +kernel
theorem d_MM_sides_38 : decode b_MM_sides 38 = .ok (.aload_n 2, 1) := by decide +kernel
theorem d_MM_sides_39 : decode b_MM_sides 39 = .ok (.iconst 3, 1) := by decide +kernel
theorem d_MM_sides_40 : decode b_MM_sides 40 = .ok (.aload_n 0, 1) := by decide +kernel
theorem d_MM_sides_41 : decode b_MM_sides 41 = .ok (.getfield 217, 3) := by decide +kernel
theorem d_MM_sides_44 : decode b_MM_sides 44 = .ok (.iload_n 1, 1) := by decide +kernel
theorem d_MM_sides_45 : decode b_MM_sides 45 = .ok (.iaload, 1) := by decide +kernel
theorem d_MM_sides_46 : decode b_MM_sides 46 = .ok (.iastore, 1) := by decide +kernel
theorem d_MM_sides_47 : decode b_MM_sides 47 = .ok (.iconst 4, 1) := by decide +kernel
theorem d_MM_sides_48 : decode b_MM_sides 48 = .ok (.ireturn, 1) := by decide +kernel
