abbrev b_MM_thrown : ByteArray := prog_14_method_2_code
def y_MM_thrown : MethodName := ⟨"ClauseProverModel", "thrown", "()I"⟩
theorem d_MM_thrown_0 : decode b_MM_thrown 0 = .ok (.aload_n 0, 1) := by decide +kernel
theorem d_MM_thrown_1 : decode b_MM_thrown 1 = .ok (.getfield 24, 3) := by decide +kernel
theorem d_MM_thrown_4 : decode b_MM_thrown 4 = .ok (.ireturn, 1) := by decide +kernel
abbrev b_MM_feed : ByteArray := prog_14_method_4_code
def y_MM_feed : MethodName := ⟨"ClauseProverModel", "feed", "(IIIII)I"⟩
theorem d_MM_feed_0 : decode b_MM_feed 0 = .ok (.aload_n 0, 1) := by decide +kernel
theorem d_MM_feed_1 : decode b_MM_feed 1 = .ok (.iconst 0, 1) := by decide +kernel
theorem d_MM_feed_2 : decode b_MM_feed 2 = .ok (.putfield 24, 3) := by decide +kernel
theorem d_MM_feed_5 : decode b_MM_feed 5 = .ok (.aload_n 0, 1) := by decide +kernel
theorem d_MM_feed_6 : decode b_MM_feed 6 = .ok (.iconst 1, 1) := by decide +kernel
theorem d_MM_feed_7 : decode b_MM_feed 7 = .ok (.aload_n 0, 1) := by decide +kernel
theorem d_MM_feed_8 : decode b_MM_feed 8 = .ok (.getfield 17, 3) := by decide +kernel
theorem d_MM_feed_11 : decode b_MM_feed 11 = .ok (.ldc_w 400, 3) := by decide +kernel
theorem d_MM_feed_14 : decode b_MM_feed 14 = .ok (.if_icmp .le 7, 3) := by decide +kernel
theorem d_MM_feed_17 : decode b_MM_feed 17 = .ok (.iconst 1, 1) := by decide +kernel
theorem d_MM_feed_18 : decode b_MM_feed 18 = .ok (.goto 4, 3) := by decide +kernel
theorem d_MM_feed_21 : decode b_MM_feed 21 = .ok (.iconst 0, 1) := by decide +kernel
theorem d_MM_feed_22 : decode b_MM_feed 22 = .ok (.invokevirtual 401, 3) := by decide +kernel
theorem d_MM_feed_25 : decode b_MM_feed 25 = .ok (.ifCond .eq 5, 3) := by decide +kernel
theorem d_MM_feed_28 : decode b_MM_feed 28 = .ok (.iconst 0, 1) := by decide +kernel
theorem d_MM_feed_29 : decode b_MM_feed 29 = .ok (.ireturn, 1) := by decide +kernel
theorem d_MM_feed_30 : decode b_MM_feed 30 = .ok (.iconst 0, 1) := by decide +kernel
theorem d_MM_feed_31 : decode b_MM_feed 31 = .ok (.istore 6, 2) := by decide +kernel
theorem d_MM_feed_33 : decode b_MM_feed 33 = .ok (.iload 6, 2) := by decide +kernel
theorem d_MM_feed_35 : decode b_MM_feed 35 = .ok (.bipush 20, 2) := by decide +kernel
theorem d_MM_feed_37 : decode b_MM_feed 37 = .ok (.if_icmp .ge 87, 3) := by decide +kernel
theorem d_MM_feed_40 : decode b_MM_feed 40 = .ok (.iload 6, 2) := by decide +kernel
theorem d_MM_feed_42 : decode b_MM_feed 42 = .ok (.iconst 4, 1) := by decide +kernel
theorem d_MM_feed_43 : decode b_MM_feed 43 = .ok (.if_icmp .ge 7, 3) := by decide +kernel
theorem d_MM_feed_46 : decode b_MM_feed 46 = .ok (.iload_n 1, 1) := by decide +kernel
theorem d_MM_feed_47 : decode b_MM_feed 47 = .ok (.goto 39, 3) := by decide +kernel
theorem d_MM_feed_50 : decode b_MM_feed 50 = .ok (.iload 6, 2) := by decide +kernel
theorem d_MM_feed_52 : decode b_MM_feed 52 = .ok (.bipush 8, 2) := by decide +kernel
theorem d_MM_feed_54 : decode b_MM_feed 54 = .ok (.if_icmp .ge 7, 3) := by decide +kernel
theorem d_MM_feed_57 : decode b_MM_feed 57 = .ok (.iload_n 2, 1) := by decide +kernel
theorem d_MM_feed_58 : decode b_MM_feed 58 = .ok (.goto 28, 3) := by decide +kernel
theorem d_MM_feed_61 : decode b_MM_feed 61 = .ok (.iload 6, 2) := by decide +kernel
theorem d_MM_feed_63 : decode b_MM_feed 63 = .ok (.bipush 12, 2) := by decide +kernel
theorem d_MM_feed_65 : decode b_MM_feed 65 = .ok (.if_icmp .ge 7, 3) := by decide +kernel
theorem d_MM_feed_68 : decode b_MM_feed 68 = .ok (.iload_n 3, 1) := by decide +kernel
theorem d_MM_feed_69 : decode b_MM_feed 69 = .ok (.goto 17, 3) := by decide +kernel
theorem d_MM_feed_72 : decode b_MM_feed 72 = .ok (.iload 6, 2) := by decide +kernel
theorem d_MM_feed_74 : decode b_MM_feed 74 = .ok (.bipush 16, 2) := by decide +kernel
theorem d_MM_feed_76 : decode b_MM_feed 76 = .ok (.if_icmp .ge 8, 3) := by decide +kernel
theorem d_MM_feed_79 : decode b_MM_feed 79 = .ok (.iload 4, 2) := by decide +kernel
theorem d_MM_feed_81 : decode b_MM_feed 81 = .ok (.goto 5, 3) := by decide +kernel
theorem d_MM_feed_84 : decode b_MM_feed 84 = .ok (.iload 5, 2) := by decide +kernel
theorem d_MM_feed_86 : decode b_MM_feed 86 = .ok (.istore 7, 2) := by decide +kernel
theorem d_MM_feed_88 : decode b_MM_feed 88 = .ok (.aload_n 0, 1) := by decide +kernel
theorem d_MM_feed_89 : decode b_MM_feed 89 = .ok (.getfield 8, 3) := by decide +kernel
theorem d_MM_feed_92 : decode b_MM_feed 92 = .ok (.aload_n 0, 1) := by decide +kernel
theorem d_MM_feed_93 : decode b_MM_feed 93 = .ok (.dup, 1) := by decide +kernel
theorem d_MM_feed_94 : decode b_MM_feed 94 = .ok (.getfield 17, 3) := by decide +kernel
theorem d_MM_feed_97 : decode b_MM_feed 97 = .ok (.dup_x1, 1) := by decide +kernel
theorem d_MM_feed_98 : decode b_MM_feed 98 = .ok (.iconst 1, 1) := by decide +kernel
theorem d_MM_feed_99 : decode b_MM_feed 99 = .ok (.iadd, 1) := by decide +kernel
theorem d_MM_feed_100 : decode b_MM_feed 100 = .ok (.putfield 17, 3) := by decide +kernel
theorem d_MM_feed_103 : decode b_MM_feed 103 = .ok (.iload 7, 2) := by decide +kernel
theorem d_MM_feed_105 : decode b_MM_feed 105 = .ok (.bipush 24, 2) := by decide +kernel
theorem d_MM_feed_107 : decode b_MM_feed 107 = .ok (.bipush 8, 2) := by decide +kernel
theorem d_MM_feed_109 : decode b_MM_feed 109 = .ok (.iload 6, 2) := by decide +kernel
theorem d_MM_feed_111 : decode b_MM_feed 111 = .ok (.iconst 4, 1) := by decide +kernel
theorem d_MM_feed_112 : decode b_MM_feed 112 = .ok (.irem, 1) := by decide +kernel
theorem d_MM_feed_113 : decode b_MM_feed 113 = .ok (.imul, 1) := by decide +kernel
theorem d_MM_feed_114 : decode b_MM_feed 114 = .ok (.isub, 1) := by decide +kernel
theorem d_MM_feed_115 : decode b_MM_feed 115 = .ok (.iushr, 1) := by decide +kernel
theorem d_MM_feed_116 : decode b_MM_feed 116 = .ok (.i2b, 1) := by decide +kernel
theorem d_MM_feed_117 : decode b_MM_feed 117 = .ok (.bastore, 1) := by decide +kernel
theorem d_MM_feed_118 : decode b_MM_feed 118 = .ok (.iinc 6 1, 3) := by decide +kernel
theorem d_MM_feed_121 : decode b_MM_feed 121 = .ok (.goto (-88), 3) := by decide +kernel
theorem d_MM_feed_124 : decode b_MM_feed 124 = .ok (.aload_n 0, 1) := by decide +kernel
theorem d_MM_feed_125 : decode b_MM_feed 125 = .ok (.getfield 17, 3) := by decide +kernel
theorem d_MM_feed_128 : decode b_MM_feed 128 = .ok (.ireturn, 1) := by decide +kernel
abbrev b_MM_refuse : ByteArray := prog_14_method_3_code
def y_MM_refuse : MethodName := ⟨"ClauseProverModel", "refuse", "(IZ)Z"⟩
theorem d_MM_refuse_0 : decode b_MM_refuse 0 = .ok (.iload_n 2, 1) := by decide +kernel
theorem d_MM_refuse_1 : decode b_MM_refuse 1 = .ok (.ifCond .eq 8, 3) := by decide +kernel
theorem d_MM_refuse_4 : decode b_MM_refuse 4 = .ok (.aload_n 0, 1) := by decide +kernel
theorem d_MM_refuse_5 : decode b_MM_refuse 5 = .ok (.iload_n 1, 1) := by decide +kernel
theorem d_MM_refuse_6 : decode b_MM_refuse 6 = .ok (.putfield 24, 3) := by decide +kernel
theorem d_MM_refuse_9 : decode b_MM_refuse 9 = .ok (.iload_n 2, 1) := by decide +kernel
theorem d_MM_refuse_10 : decode b_MM_refuse 10 = .ok (.ireturn, 1) := by decide +kernel
abbrev b_MM_end : ByteArray := prog_14_method_5_code
def y_MM_end : MethodName := ⟨"ClauseProverModel", "end", "(I)I"⟩
theorem d_MM_end_0 : decode b_MM_end 0 = .ok (.aload_n 0, 1) := by decide +kernel
theorem d_MM_end_1 : decode b_MM_end 1 = .ok (.iconst 0, 1) := by decide +kernel
theorem d_MM_end_2 : decode b_MM_end 2 = .ok (.putfield 24, 3) := by decide +kernel
theorem d_MM_end_5 : decode b_MM_end 5 = .ok (.aload_n 0, 1) := by decide +kernel
theorem d_MM_end_6 : decode b_MM_end 6 = .ok (.iconst 1, 1) := by decide +kernel
theorem d_MM_end_7 : decode b_MM_end 7 = .ok (.iload_n 1, 1) := by decide +kernel
theorem d_MM_end_8 : decode b_MM_end 8 = .ok (.ifCond .lt 11, 3) := by decide +kernel
theorem d_MM_end_11 : decode b_MM_end 11 = .ok (.iload_n 1, 1) := by decide +kernel
theorem d_MM_end_12 : decode b_MM_end 12 = .ok (.aload_n 0, 1) := by decide +kernel
theorem d_MM_end_13 : decode b_MM_end 13 = .ok (.getfield 17, 3) := by decide +kernel
theorem d_MM_end_16 : decode b_MM_end 16 = .ok (.if_icmp .le 7, 3) := by decide +kernel
theorem d_MM_end_19 : decode b_MM_end 19 = .ok (.iconst 1, 1) := by decide +kernel
theorem d_MM_end_20 : decode b_MM_end 20 = .ok (.goto 4, 3) := by decide +kernel
theorem d_MM_end_23 : decode b_MM_end 23 = .ok (.iconst 0, 1) := by decide +kernel
theorem d_MM_end_24 : decode b_MM_end 24 = .ok (.invokevirtual 401, 3) := by decide +kernel
theorem d_MM_end_27 : decode b_MM_end 27 = .ok (.ifCond .eq 5, 3) := by decide +kernel
theorem d_MM_end_30 : decode b_MM_end 30 = .ok (.iconst 0, 1) := by decide +kernel
theorem d_MM_end_31 : decode b_MM_end 31 = .ok (.ireturn, 1) := by decide +kernel
theorem d_MM_end_32 : decode b_MM_end 32 = .ok (.aload_n 0, 1) := by decide +kernel
theorem d_MM_end_33 : decode b_MM_end 33 = .ok (.iload_n 1, 1) := by decide +kernel
theorem d_MM_end_34 : decode b_MM_end 34 = .ok (.putfield 17, 3) := by decide +kernel
theorem d_MM_end_37 : decode b_MM_end 37 = .ok (.iload_n 1, 1) := by decide +kernel
theorem d_MM_end_38 : decode b_MM_end 38 = .ok (.ireturn, 1) := by decide +kernel
abbrev b_MM_parts : ByteArray := prog_14_method_8_code
def y_MM_parts : MethodName := ⟨"ClauseProverModel", "parts", "()V"⟩
theorem d_MM_parts_0 : decode b_MM_parts 0 = .ok (.iconst 1, 1) := by decide +kernel
theorem d_MM_parts_1 : decode b_MM_parts 1 = .ok (.istore_n 1, 1) := by decide +kernel
theorem d_MM_parts_2 : decode b_MM_parts 2 = .ok (.iload_n 1, 1) := by decide +kernel
theorem d_MM_parts_3 : decode b_MM_parts 3 = .ok (.ifCond .eq 153, 3) := by decide +kernel
theorem d_MM_parts_6 : decode b_MM_parts 6 = .ok (.iconst 0, 1) := by decide +kernel
theorem d_MM_parts_7 : decode b_MM_parts 7 = .ok (.istore_n 1, 1) := by decide +kernel
theorem d_MM_parts_8 : decode b_MM_parts 8 = .ok (.aload_n 0, 1) := by decide +kernel
theorem d_MM_parts_9 : decode b_MM_parts 9 = .ok (.getfield 33, 3) := by decide +kernel
theorem d_MM_parts_12 : decode b_MM_parts 12 = .ok (.aload_n 0, 1) := by decide +kernel
theorem d_MM_parts_13 : decode b_MM_parts 13 = .ok (.getfield 17, 3) := by decide +kernel
theorem d_MM_parts_16 : decode b_MM_parts 16 = .ok (.if_icmp .ge 72, 3) := by decide +kernel
theorem d_MM_parts_19 : decode b_MM_parts 19 = .ok (.aload_n 0, 1) := by decide +kernel
theorem d_MM_parts_20 : decode b_MM_parts 20 = .ok (.getfield 8, 3) := by decide +kernel
theorem d_MM_parts_23 : decode b_MM_parts 23 = .ok (.aload_n 0, 1) := by decide +kernel
theorem d_MM_parts_24 : decode b_MM_parts 24 = .ok (.getfield 33, 3) := by decide +kernel
theorem d_MM_parts_27 : decode b_MM_parts 27 = .ok (.baload, 1) := by decide +kernel
theorem d_MM_parts_28 : decode b_MM_parts 28 = .ok (.bipush 32, 2) := by decide +kernel
theorem d_MM_parts_30 : decode b_MM_parts 30 = .ok (.if_icmp .eq 45, 3) := by decide +kernel
theorem d_MM_parts_33 : decode b_MM_parts 33 = .ok (.aload_n 0, 1) := by decide +kernel
theorem d_MM_parts_34 : decode b_MM_parts 34 = .ok (.getfield 8, 3) := by decide +kernel
theorem d_MM_parts_37 : decode b_MM_parts 37 = .ok (.aload_n 0, 1) := by decide +kernel
theorem d_MM_parts_38 : decode b_MM_parts 38 = .ok (.getfield 33, 3) := by decide +kernel
theorem d_MM_parts_41 : decode b_MM_parts 41 = .ok (.baload, 1) := by decide +kernel
theorem d_MM_parts_42 : decode b_MM_parts 42 = .ok (.bipush 9, 2) := by decide +kernel
theorem d_MM_parts_44 : decode b_MM_parts 44 = .ok (.if_icmp .eq 31, 3) := by decide +kernel
theorem d_MM_parts_47 : decode b_MM_parts 47 = .ok (.aload_n 0, 1) := by decide +kernel
theorem d_MM_parts_48 : decode b_MM_parts 48 = .ok (.getfield 8, 3) := by decide +kernel
theorem d_MM_parts_51 : decode b_MM_parts 51 = .ok (.aload_n 0, 1) := by decide +kernel
theorem d_MM_parts_52 : decode b_MM_parts 52 = .ok (.getfield 33, 3) := by decide +kernel
theorem d_MM_parts_55 : decode b_MM_parts 55 = .ok (.baload, 1) := by decide +kernel
theorem d_MM_parts_56 : decode b_MM_parts 56 = .ok (.bipush 10, 2) := by decide +kernel
theorem d_MM_parts_58 : decode b_MM_parts 58 = .ok (.if_icmp .eq 17, 3) := by decide +kernel
theorem d_MM_parts_61 : decode b_MM_parts 61 = .ok (.aload_n 0, 1) := by decide +kernel
theorem d_MM_parts_62 : decode b_MM_parts 62 = .ok (.getfield 8, 3) := by decide +kernel
theorem d_MM_parts_65 : decode b_MM_parts 65 = .ok (.aload_n 0, 1) := by decide +kernel
theorem d_MM_parts_66 : decode b_MM_parts 66 = .ok (.getfield 33, 3) := by decide +kernel
theorem d_MM_parts_69 : decode b_MM_parts 69 = .ok (.baload, 1) := by decide +kernel
theorem d_MM_parts_70 : decode b_MM_parts 70 = .ok (.bipush 13, 2) := by decide +kernel
theorem d_MM_parts_72 : decode b_MM_parts 72 = .ok (.if_icmp .ne 16, 3) := by decide +kernel
theorem d_MM_parts_75 : decode b_MM_parts 75 = .ok (.aload_n 0, 1) := by decide +kernel
theorem d_MM_parts_76 : decode b_MM_parts 76 = .ok (.dup, 1) := by decide +kernel
theorem d_MM_parts_77 : decode b_MM_parts 77 = .ok (.getfield 33, 3) := by decide +kernel
theorem d_MM_parts_80 : decode b_MM_parts 80 = .ok (.iconst 1, 1) := by decide +kernel
theorem d_MM_parts_81 : decode b_MM_parts 81 = .ok (.iadd, 1) := by decide +kernel
theorem d_MM_parts_82 : decode b_MM_parts 82 = .ok (.putfield 33, 3) := by decide +kernel
theorem d_MM_parts_85 : decode b_MM_parts 85 = .ok (.goto (-77), 3) := by decide +kernel
theorem d_MM_parts_88 : decode b_MM_parts 88 = .ok (.aload_n 0, 1) := by decide +kernel
theorem d_MM_parts_89 : decode b_MM_parts 89 = .ok (.getfield 33, 3) := by decide +kernel
theorem d_MM_parts_92 : decode b_MM_parts 92 = .ok (.aload_n 0, 1) := by decide +kernel
theorem d_MM_parts_93 : decode b_MM_parts 93 = .ok (.getfield 17, 3) := by decide +kernel
theorem d_MM_parts_96 : decode b_MM_parts 96 = .ok (.if_icmp .ge (-94), 3) := by decide +kernel
theorem d_MM_parts_99 : decode b_MM_parts 99 = .ok (.aload_n 0, 1) := by decide +kernel
theorem d_MM_parts_100 : decode b_MM_parts 100 = .ok (.getfield 8, 3) := by decide +kernel
theorem d_MM_parts_103 : decode b_MM_parts 103 = .ok (.aload_n 0, 1) := by decide +kernel
theorem d_MM_parts_104 : decode b_MM_parts 104 = .ok (.getfield 33, 3) := by decide +kernel
theorem d_MM_parts_107 : decode b_MM_parts 107 = .ok (.baload, 1) := by decide +kernel
theorem d_MM_parts_108 : decode b_MM_parts 108 = .ok (.bipush 37, 2) := by decide +kernel
theorem d_MM_parts_110 : decode b_MM_parts 110 = .ok (.if_icmp .ne (-108), 3) := by decide +kernel
theorem d_MM_parts_113 : decode b_MM_parts 113 = .ok (.aload_n 0, 1) := by decide +kernel
theorem d_MM_parts_114 : decode b_MM_parts 114 = .ok (.getfield 33, 3) := by decide +kernel
theorem d_MM_parts_117 : decode b_MM_parts 117 = .ok (.aload_n 0, 1) := by decide +kernel
theorem d_MM_parts_118 : decode b_MM_parts 118 = .ok (.getfield 17, 3) := by decide +kernel
theorem d_MM_parts_121 : decode b_MM_parts 121 = .ok (.if_icmp .ge 30, 3) := by decide +kernel
theorem d_MM_parts_124 : decode b_MM_parts 124 = .ok (.aload_n 0, 1) := by decide +kernel
theorem d_MM_parts_125 : decode b_MM_parts 125 = .ok (.getfield 8, 3) := by decide +kernel
theorem d_MM_parts_128 : decode b_MM_parts 128 = .ok (.aload_n 0, 1) := by decide +kernel
theorem d_MM_parts_129 : decode b_MM_parts 129 = .ok (.getfield 33, 3) := by decide +kernel
theorem d_MM_parts_132 : decode b_MM_parts 132 = .ok (.baload, 1) := by decide +kernel
theorem d_MM_parts_133 : decode b_MM_parts 133 = .ok (.bipush 10, 2) := by decide +kernel
theorem d_MM_parts_135 : decode b_MM_parts 135 = .ok (.if_icmp .eq 16, 3) := by decide +kernel
theorem d_MM_parts_138 : decode b_MM_parts 138 = .ok (.aload_n 0, 1) := by decide +kernel
theorem d_MM_parts_139 : decode b_MM_parts 139 = .ok (.dup, 1) := by decide +kernel
theorem d_MM_parts_140 : decode b_MM_parts 140 = .ok (.getfield 33, 3) := by decide +kernel
theorem d_MM_parts_143 : decode b_MM_parts 143 = .ok (.iconst 1, 1) := by decide +kernel
theorem d_MM_parts_144 : decode b_MM_parts 144 = .ok (.iadd, 1) := by decide +kernel
theorem d_MM_parts_145 : decode b_MM_parts 145 = .ok (.putfield 33, 3) := by decide +kernel
theorem d_MM_parts_148 : decode b_MM_parts 148 = .ok (.goto (-35), 3) := by decide +kernel
theorem d_MM_parts_151 : decode b_MM_parts 151 = .ok (.iconst 1, 1) := by decide +kernel
theorem d_MM_parts_152 : decode b_MM_parts 152 = .ok (.istore_n 1, 1) := by decide +kernel
theorem d_MM_parts_153 : decode b_MM_parts 153 = .ok (.goto (-151), 3) := by decide +kernel
theorem d_MM_parts_156 : decode b_MM_parts 156 = .ok (.return_, 1) := by decide +kernel
abbrev b_MM_letter : ByteArray := prog_14_method_6_code
def y_MM_letter : MethodName := ⟨"ClauseProverModel", "letter", "(I)Z"⟩
theorem d_MM_letter_0 : decode b_MM_letter 0 = .ok (.iload_n 1, 1) := by decide +kernel
theorem d_MM_letter_1 : decode b_MM_letter 1 = .ok (.bipush 97, 2) := by decide +kernel
theorem d_MM_letter_3 : decode b_MM_letter 3 = .ok (.if_icmp .lt 9, 3) := by decide +kernel
theorem d_MM_letter_6 : decode b_MM_letter 6 = .ok (.iload_n 1, 1) := by decide +kernel
theorem d_MM_letter_7 : decode b_MM_letter 7 = .ok (.bipush 122, 2) := by decide +kernel
theorem d_MM_letter_9 : decode b_MM_letter 9 = .ok (.if_icmp .le 15, 3) := by decide +kernel
theorem d_MM_letter_12 : decode b_MM_letter 12 = .ok (.iload_n 1, 1) := by decide +kernel
theorem d_MM_letter_13 : decode b_MM_letter 13 = .ok (.bipush 65, 2) := by decide +kernel
theorem d_MM_letter_15 : decode b_MM_letter 15 = .ok (.if_icmp .lt 13, 3) := by decide +kernel
theorem d_MM_letter_18 : decode b_MM_letter 18 = .ok (.iload_n 1, 1) := by decide +kernel
theorem d_MM_letter_19 : decode b_MM_letter 19 = .ok (.bipush 90, 2) := by decide +kernel
theorem d_MM_letter_21 : decode b_MM_letter 21 = .ok (.if_icmp .gt 7, 3) := by decide +kernel
theorem d_MM_letter_24 : decode b_MM_letter 24 = .ok (.iconst 1, 1) := by decide +kernel
theorem d_MM_letter_25 : decode b_MM_letter 25 = .ok (.goto 4, 3) := by decide +kernel
theorem d_MM_letter_28 : decode b_MM_letter 28 = .ok (.iconst 0, 1) := by decide +kernel
theorem d_MM_letter_29 : decode b_MM_letter 29 = .ok (.ireturn, 1) := by decide +kernel
abbrev b_MM_inWord : ByteArray := prog_14_method_7_code
def y_MM_inWord : MethodName := ⟨"ClauseProverModel", "inWord", "(I)Z"⟩
theorem d_MM_inWord_0 : decode b_MM_inWord 0 = .ok (.aload_n 0, 1) := by decide +kernel
theorem d_MM_inWord_1 : decode b_MM_inWord 1 = .ok (.iload_n 1, 1) := by decide +kernel
theorem d_MM_inWord_2 : decode b_MM_inWord 2 = .ok (.invokevirtual 405, 3) := by decide +kernel
theorem d_MM_inWord_5 : decode b_MM_inWord 5 = .ok (.ifCond .ne 21, 3) := by decide +kernel
theorem d_MM_inWord_8 : decode b_MM_inWord 8 = .ok (.iload_n 1, 1) := by decide +kernel
theorem d_MM_inWord_9 : decode b_MM_inWord 9 = .ok (.bipush 48, 2) := by decide +kernel
theorem d_MM_inWord_11 : decode b_MM_inWord 11 = .ok (.if_icmp .lt 9, 3) := by decide +kernel
theorem d_MM_inWord_14 : decode b_MM_inWord 14 = .ok (.iload_n 1, 1) := by decide +kernel
theorem d_MM_inWord_15 : decode b_MM_inWord 15 = .ok (.bipush 57, 2) := by decide +kernel
theorem d_MM_inWord_17 : decode b_MM_inWord 17 = .ok (.if_icmp .le 9, 3) := by decide +kernel
theorem d_MM_inWord_20 : decode b_MM_inWord 20 = .ok (.iload_n 1, 1) := by decide +kernel
theorem d_MM_inWord_21 : decode b_MM_inWord 21 = .ok (.bipush 95, 2) := by decide +kernel
theorem d_MM_inWord_23 : decode b_MM_inWord 23 = .ok (.if_icmp .ne 7, 3) := by decide +kernel
theorem d_MM_inWord_26 : decode b_MM_inWord 26 = .ok (.iconst 1, 1) := by decide +kernel
theorem d_MM_inWord_27 : decode b_MM_inWord 27 = .ok (.goto 4, 3) := by decide +kernel
theorem d_MM_inWord_30 : decode b_MM_inWord 30 = .ok (.iconst 0, 1) := by decide +kernel
theorem d_MM_inWord_31 : decode b_MM_inWord 31 = .ok (.ireturn, 1) := by decide +kernel
abbrev b_MM_at : ByteArray := prog_14_method_9_code
def y_MM_at : MethodName := ⟨"ClauseProverModel", "at", "(II)Z"⟩
theorem d_MM_at_0 : decode b_MM_at 0 = .ok (.iload_n 1, 1) := by decide +kernel
theorem d_MM_at_1 : decode b_MM_at 1 = .ok (.aload_n 0, 1) := by decide +kernel
theorem d_MM_at_2 : decode b_MM_at 2 = .ok (.getfield 17, 3) := by decide +kernel
theorem d_MM_at_5 : decode b_MM_at 5 = .ok (.if_icmp .ge 17, 3) := by decide +kernel
theorem d_MM_at_8 : decode b_MM_at 8 = .ok (.aload_n 0, 1) := by decide +kernel
theorem d_MM_at_9 : decode b_MM_at 9 = .ok (.getfield 8, 3) := by decide +kernel
theorem d_MM_at_12 : decode b_MM_at 12 = .ok (.iload_n 1, 1) := by decide +kernel
theorem d_MM_at_13 : decode b_MM_at 13 = .ok (.baload, 1) := by decide +kernel
theorem d_MM_at_14 : decode b_MM_at 14 = .ok (.iload_n 2, 1) := by decide +kernel
theorem d_MM_at_15 : decode b_MM_at 15 = .ok (.if_icmp .ne 7, 3) := by decide +kernel
theorem d_MM_at_18 : decode b_MM_at 18 = .ok (.iconst 1, 1) := by decide +kernel
theorem d_MM_at_19 : decode b_MM_at 19 = .ok (.goto 4, 3) := by decide +kernel
theorem d_MM_at_22 : decode b_MM_at 22 = .ok (.iconst 0, 1) := by decide +kernel
theorem d_MM_at_23 : decode b_MM_at 23 = .ok (.ireturn, 1) := by decide +kernel
abbrev b_MM_count2 : ByteArray := prog_14_method_44_code
def y_MM_count2 : MethodName := ⟨"ClauseProverModel", "count", "(IZ)I"⟩
theorem d_MM_count2_0 : decode b_MM_count2 0 = .ok (.aload_n 0, 1) := by decide +kernel
theorem d_MM_count2_1 : decode b_MM_count2 1 = .ok (.getfield 105, 3) := by decide +kernel
theorem d_MM_count2_4 : decode b_MM_count2 4 = .ok (.iload_n 1, 1) := by decide +kernel
theorem d_MM_count2_5 : decode b_MM_count2 5 = .ok (.iaload, 1) := by decide +kernel
theorem d_MM_count2_6 : decode b_MM_count2 6 = .ok (.tableswitch 299 0 5 #[38, 40, 60, 60, 135, 195], 38) := by decide +kernel
theorem d_MM_count2_44 : decode b_MM_count2 44 = .ok (.iconst 1, 1) := by decide +kernel
theorem d_MM_count2_45 : decode b_MM_count2 45 = .ok (.ireturn, 1) := by decide +kernel
theorem d_MM_count2_46 : decode b_MM_count2 46 = .ok (.aload_n 0, 1) := by decide +kernel
theorem d_MM_count2_47 : decode b_MM_count2 47 = .ok (.aload_n 0, 1) := by decide +kernel
theorem d_MM_count2_48 : decode b_MM_count2 48 = .ok (.getfield 108, 3) := by decide +kernel
theorem d_MM_count2_51 : decode b_MM_count2 51 = .ok (.iload_n 1, 1) := by decide +kernel
theorem d_MM_count2_52 : decode b_MM_count2 52 = .ok (.iaload, 1) := by decide +kernel
theorem d_MM_count2_53 : decode b_MM_count2 53 = .ok (.iload_n 2, 1) := by decide +kernel
theorem d_MM_count2_54 : decode b_MM_count2 54 = .ok (.ifCond .ne 7, 3) := by decide +kernel
theorem d_MM_count2_57 : decode b_MM_count2 57 = .ok (.iconst 1, 1) := by decide +kernel
theorem d_MM_count2_58 : decode b_MM_count2 58 = .ok (.goto 4, 3) := by decide +kernel
theorem d_MM_count2_61 : decode b_MM_count2 61 = .ok (.iconst 0, 1) := by decide +kernel
theorem d_MM_count2_62 : decode b_MM_count2 62 = .ok (.invokevirtual 532, 3) := by decide +kernel
theorem d_MM_count2_65 : decode b_MM_count2 65 = .ok (.ireturn, 1) := by decide +kernel
theorem d_MM_count2_66 : decode b_MM_count2 66 = .ok (.aload_n 0, 1) := by decide +kernel
theorem d_MM_count2_67 : decode b_MM_count2 67 = .ok (.getfield 105, 3) := by decide +kernel
theorem d_MM_count2_70 : decode b_MM_count2 70 = .ok (.iload_n 1, 1) := by decide +kernel
theorem d_MM_count2_71 : decode b_MM_count2 71 = .ok (.iaload, 1) := by decide +kernel
theorem d_MM_count2_72 : decode b_MM_count2 72 = .ok (.iconst 2, 1) := by decide +kernel
theorem d_MM_count2_73 : decode b_MM_count2 73 = .ok (.if_icmp .ne 7, 3) := by decide +kernel
theorem d_MM_count2_76 : decode b_MM_count2 76 = .ok (.iconst 1, 1) := by decide +kernel
theorem d_MM_count2_77 : decode b_MM_count2 77 = .ok (.goto 4, 3) := by decide +kernel
theorem d_MM_count2_80 : decode b_MM_count2 80 = .ok (.iconst 0, 1) := by decide +kernel
theorem d_MM_count2_81 : decode b_MM_count2 81 = .ok (.iload_n 2, 1) := by decide +kernel
theorem d_MM_count2_82 : decode b_MM_count2 82 = .ok (.if_icmp .ne 32, 3) := by decide +kernel
theorem d_MM_count2_85 : decode b_MM_count2 85 = .ok (.aload_n 0, 1) := by decide +kernel
theorem d_MM_count2_86 : decode b_MM_count2 86 = .ok (.aload_n 0, 1) := by decide +kernel
theorem d_MM_count2_87 : decode b_MM_count2 87 = .ok (.getfield 108, 3) := by decide +kernel
theorem d_MM_count2_90 : decode b_MM_count2 90 = .ok (.iload_n 1, 1) := by decide +kernel
theorem d_MM_count2_91 : decode b_MM_count2 91 = .ok (.iaload, 1) := by decide +kernel
theorem d_MM_count2_92 : decode b_MM_count2 92 = .ok (.iload_n 2, 1) := by decide +kernel
theorem d_MM_count2_93 : decode b_MM_count2 93 = .ok (.invokevirtual 532, 3) := by decide +kernel
theorem d_MM_count2_96 : decode b_MM_count2 96 = .ok (.aload_n 0, 1) := by decide +kernel
theorem d_MM_count2_97 : decode b_MM_count2 97 = .ok (.aload_n 0, 1) := by decide +kernel
theorem d_MM_count2_98 : decode b_MM_count2 98 = .ok (.getfield 111, 3) := by decide +kernel
theorem d_MM_count2_101 : decode b_MM_count2 101 = .ok (.iload_n 1, 1) := by decide +kernel
theorem d_MM_count2_102 : decode b_MM_count2 102 = .ok (.iaload, 1) := by decide +kernel
theorem d_MM_count2_103 : decode b_MM_count2 103 = .ok (.iload_n 2, 1) := by decide +kernel
theorem d_MM_count2_104 : decode b_MM_count2 104 = .ok (.invokevirtual 532, 3) := by decide +kernel
theorem d_MM_count2_107 : decode b_MM_count2 107 = .ok (.iadd, 1) := by decide +kernel
theorem d_MM_count2_108 : decode b_MM_count2 108 = .ok (.invokestatic 535, 3) := by decide +kernel
theorem d_MM_count2_111 : decode b_MM_count2 111 = .ok (.goto 29, 3) := by decide +kernel
theorem d_MM_count2_114 : decode b_MM_count2 114 = .ok (.aload_n 0, 1) := by decide +kernel
theorem d_MM_count2_115 : decode b_MM_count2 115 = .ok (.aload_n 0, 1) := by decide +kernel
theorem d_MM_count2_116 : decode b_MM_count2 116 = .ok (.getfield 108, 3) := by decide +kernel
theorem d_MM_count2_119 : decode b_MM_count2 119 = .ok (.iload_n 1, 1) := by decide +kernel
theorem d_MM_count2_120 : decode b_MM_count2 120 = .ok (.iaload, 1) := by decide +kernel
theorem d_MM_count2_121 : decode b_MM_count2 121 = .ok (.iload_n 2, 1) := by decide +kernel
theorem d_MM_count2_122 : decode b_MM_count2 122 = .ok (.invokevirtual 532, 3) := by decide +kernel
theorem d_MM_count2_125 : decode b_MM_count2 125 = .ok (.aload_n 0, 1) := by decide +kernel
theorem d_MM_count2_126 : decode b_MM_count2 126 = .ok (.aload_n 0, 1) := by decide +kernel
theorem d_MM_count2_127 : decode b_MM_count2 127 = .ok (.getfield 111, 3) := by decide +kernel
theorem d_MM_count2_130 : decode b_MM_count2 130 = .ok (.iload_n 1, 1) := by decide +kernel
theorem d_MM_count2_131 : decode b_MM_count2 131 = .ok (.iaload, 1) := by decide +kernel
theorem d_MM_count2_132 : decode b_MM_count2 132 = .ok (.iload_n 2, 1) := by decide +kernel
theorem d_MM_count2_133 : decode b_MM_count2 133 = .ok (.invokevirtual 532, 3) := by decide +kernel
theorem d_MM_count2_136 : decode b_MM_count2 136 = .ok (.imul, 1) := by decide +kernel
theorem d_MM_count2_137 : decode b_MM_count2 137 = .ok (.invokestatic 535, 3) := by decide +kernel
theorem d_MM_count2_140 : decode b_MM_count2 140 = .ok (.ireturn, 1) := by decide +kernel
theorem d_MM_count2_141 : decode b_MM_count2 141 = .ok (.iload_n 2, 1) := by decide +kernel
theorem d_MM_count2_142 : decode b_MM_count2 142 = .ok (.ifCond .eq 32, 3) := by decide +kernel
theorem d_MM_count2_145 : decode b_MM_count2 145 = .ok (.aload_n 0, 1) := by decide +kernel
theorem d_MM_count2_146 : decode b_MM_count2 146 = .ok (.aload_n 0, 1) := by decide +kernel
theorem d_MM_count2_147 : decode b_MM_count2 147 = .ok (.getfield 108, 3) := by decide +kernel
theorem d_MM_count2_150 : decode b_MM_count2 150 = .ok (.iload_n 1, 1) := by decide +kernel
theorem d_MM_count2_151 : decode b_MM_count2 151 = .ok (.iaload, 1) := by decide +kernel
theorem d_MM_count2_152 : decode b_MM_count2 152 = .ok (.iconst 0, 1) := by decide +kernel
theorem d_MM_count2_153 : decode b_MM_count2 153 = .ok (.invokevirtual 532, 3) := by decide +kernel
theorem d_MM_count2_156 : decode b_MM_count2 156 = .ok (.aload_n 0, 1) := by decide +kernel
theorem d_MM_count2_157 : decode b_MM_count2 157 = .ok (.aload_n 0, 1) := by decide +kernel
theorem d_MM_count2_158 : decode b_MM_count2 158 = .ok (.getfield 111, 3) := by decide +kernel
theorem d_MM_count2_161 : decode b_MM_count2 161 = .ok (.iload_n 1, 1) := by decide +kernel
theorem d_MM_count2_162 : decode b_MM_count2 162 = .ok (.iaload, 1) := by decide +kernel
theorem d_MM_count2_163 : decode b_MM_count2 163 = .ok (.iconst 1, 1) := by decide +kernel
theorem d_MM_count2_164 : decode b_MM_count2 164 = .ok (.invokevirtual 532, 3) := by decide +kernel
theorem d_MM_count2_167 : decode b_MM_count2 167 = .ok (.imul, 1) := by decide +kernel
theorem d_MM_count2_168 : decode b_MM_count2 168 = .ok (.invokestatic 535, 3) := by decide +kernel
theorem d_MM_count2_171 : decode b_MM_count2 171 = .ok (.goto 29, 3) := by decide +kernel
theorem d_MM_count2_174 : decode b_MM_count2 174 = .ok (.aload_n 0, 1) := by decide +kernel
theorem d_MM_count2_175 : decode b_MM_count2 175 = .ok (.aload_n 0, 1) := by decide +kernel
theorem d_MM_count2_176 : decode b_MM_count2 176 = .ok (.getfield 108, 3) := by decide +kernel
theorem d_MM_count2_179 : decode b_MM_count2 179 = .ok (.iload_n 1, 1) := by decide +kernel
theorem d_MM_count2_180 : decode b_MM_count2 180 = .ok (.iaload, 1) := by decide +kernel
theorem d_MM_count2_181 : decode b_MM_count2 181 = .ok (.iconst 1, 1) := by decide +kernel
theorem d_MM_count2_182 : decode b_MM_count2 182 = .ok (.invokevirtual 532, 3) := by decide +kernel
theorem d_MM_count2_185 : decode b_MM_count2 185 = .ok (.aload_n 0, 1) := by decide +kernel
theorem d_MM_count2_186 : decode b_MM_count2 186 = .ok (.aload_n 0, 1) := by decide +kernel
theorem d_MM_count2_187 : decode b_MM_count2 187 = .ok (.getfield 111, 3) := by decide +kernel
theorem d_MM_count2_190 : decode b_MM_count2 190 = .ok (.iload_n 1, 1) := by decide +kernel
theorem d_MM_count2_191 : decode b_MM_count2 191 = .ok (.iaload, 1) := by decide +kernel
theorem d_MM_count2_192 : decode b_MM_count2 192 = .ok (.iconst 0, 1) := by decide +kernel
theorem d_MM_count2_193 : decode b_MM_count2 193 = .ok (.invokevirtual 532, 3) := by decide +kernel
theorem d_MM_count2_196 : decode b_MM_count2 196 = .ok (.iadd, 1) := by decide +kernel
theorem d_MM_count2_197 : decode b_MM_count2 197 = .ok (.invokestatic 535, 3) := by decide +kernel
theorem d_MM_count2_200 : decode b_MM_count2 200 = .ok (.ireturn, 1) := by decide +kernel
theorem d_MM_count2_201 : decode b_MM_count2 201 = .ok (.aload_n 0, 1) := by decide +kernel
theorem d_MM_count2_202 : decode b_MM_count2 202 = .ok (.aload_n 0, 1) := by decide +kernel
theorem d_MM_count2_203 : decode b_MM_count2 203 = .ok (.getfield 108, 3) := by decide +kernel
theorem d_MM_count2_206 : decode b_MM_count2 206 = .ok (.iload_n 1, 1) := by decide +kernel
theorem d_MM_count2_207 : decode b_MM_count2 207 = .ok (.iaload, 1) := by decide +kernel
theorem d_MM_count2_208 : decode b_MM_count2 208 = .ok (.iconst 1, 1) := by decide +kernel
theorem d_MM_count2_209 : decode b_MM_count2 209 = .ok (.invokevirtual 532, 3) := by decide +kernel
theorem d_MM_count2_212 : decode b_MM_count2 212 = .ok (.istore_n 3, 1) := by decide +kernel
theorem d_MM_count2_213 : decode b_MM_count2 213 = .ok (.aload_n 0, 1) := by decide +kernel
theorem d_MM_count2_214 : decode b_MM_count2 214 = .ok (.aload_n 0, 1) := by decide +kernel
theorem d_MM_count2_215 : decode b_MM_count2 215 = .ok (.getfield 111, 3) := by decide +kernel
theorem d_MM_count2_218 : decode b_MM_count2 218 = .ok (.iload_n 1, 1) := by decide +kernel
theorem d_MM_count2_219 : decode b_MM_count2 219 = .ok (.iaload, 1) := by decide +kernel
theorem d_MM_count2_220 : decode b_MM_count2 220 = .ok (.iconst 1, 1) := by decide +kernel
theorem d_MM_count2_221 : decode b_MM_count2 221 = .ok (.invokevirtual 532, 3) := by decide +kernel
theorem d_MM_count2_224 : decode b_MM_count2 224 = .ok (.istore 4, 2) := by decide +kernel
theorem d_MM_count2_226 : decode b_MM_count2 226 = .ok (.iload_n 3, 1) := by decide +kernel
theorem d_MM_count2_227 : decode b_MM_count2 227 = .ok (.sipush 200, 3) := by decide +kernel
theorem d_MM_count2_230 : decode b_MM_count2 230 = .ok (.if_icmp .gt 11, 3) := by decide +kernel
theorem d_MM_count2_233 : decode b_MM_count2 233 = .ok (.iload 4, 2) := by decide +kernel
theorem d_MM_count2_235 : decode b_MM_count2 235 = .ok (.sipush 200, 3) := by decide +kernel
theorem d_MM_count2_238 : decode b_MM_count2 238 = .ok (.if_icmp .le 7, 3) := by decide +kernel
theorem d_MM_count2_241 : decode b_MM_count2 241 = .ok (.sipush 201, 3) := by decide +kernel
theorem d_MM_count2_244 : decode b_MM_count2 244 = .ok (.ireturn, 1) := by decide +kernel
theorem d_MM_count2_245 : decode b_MM_count2 245 = .ok (.aload_n 0, 1) := by decide +kernel
theorem d_MM_count2_246 : decode b_MM_count2 246 = .ok (.aload_n 0, 1) := by decide +kernel
theorem d_MM_count2_247 : decode b_MM_count2 247 = .ok (.getfield 108, 3) := by decide +kernel
theorem d_MM_count2_250 : decode b_MM_count2 250 = .ok (.iload_n 1, 1) := by decide +kernel
theorem d_MM_count2_251 : decode b_MM_count2 251 = .ok (.iaload, 1) := by decide +kernel
theorem d_MM_count2_252 : decode b_MM_count2 252 = .ok (.iconst 0, 1) := by decide +kernel
theorem d_MM_count2_253 : decode b_MM_count2 253 = .ok (.invokevirtual 532, 3) := by decide +kernel
theorem d_MM_count2_256 : decode b_MM_count2 256 = .ok (.istore 5, 2) := by decide +kernel
theorem d_MM_count2_258 : decode b_MM_count2 258 = .ok (.aload_n 0, 1) := by decide +kernel
theorem d_MM_count2_259 : decode b_MM_count2 259 = .ok (.aload_n 0, 1) := by decide +kernel
theorem d_MM_count2_260 : decode b_MM_count2 260 = .ok (.getfield 111, 3) := by decide +kernel
theorem d_MM_count2_263 : decode b_MM_count2 263 = .ok (.iload_n 1, 1) := by decide +kernel
theorem d_MM_count2_264 : decode b_MM_count2 264 = .ok (.iaload, 1) := by decide +kernel
theorem d_MM_count2_265 : decode b_MM_count2 265 = .ok (.iconst 0, 1) := by decide +kernel
theorem d_MM_count2_266 : decode b_MM_count2 266 = .ok (.invokevirtual 532, 3) := by decide +kernel
theorem d_MM_count2_269 : decode b_MM_count2 269 = .ok (.istore 6, 2) := by decide +kernel
theorem d_MM_count2_271 : decode b_MM_count2 271 = .ok (.iload_n 2, 1) := by decide +kernel
theorem d_MM_count2_272 : decode b_MM_count2 272 = .ok (.ifCond .eq 19, 3) := by decide +kernel
theorem d_MM_count2_275 : decode b_MM_count2 275 = .ok (.iload 5, 2) := by decide +kernel
theorem d_MM_count2_277 : decode b_MM_count2 277 = .ok (.iload 4, 2) := by decide +kernel
theorem d_MM_count2_279 : decode b_MM_count2 279 = .ok (.imul, 1) := by decide +kernel
theorem d_MM_count2_280 : decode b_MM_count2 280 = .ok (.iload 6, 2) := by decide +kernel
theorem d_MM_count2_282 : decode b_MM_count2 282 = .ok (.iload_n 3, 1) := by decide +kernel
theorem d_MM_count2_283 : decode b_MM_count2 283 = .ok (.imul, 1) := by decide +kernel
theorem d_MM_count2_284 : decode b_MM_count2 284 = .ok (.iadd, 1) := by decide +kernel
theorem d_MM_count2_285 : decode b_MM_count2 285 = .ok (.invokestatic 535, 3) := by decide +kernel
theorem d_MM_count2_288 : decode b_MM_count2 288 = .ok (.goto 16, 3) := by decide +kernel
theorem d_MM_count2_291 : decode b_MM_count2 291 = .ok (.iload_n 3, 1) := by decide +kernel
theorem d_MM_count2_292 : decode b_MM_count2 292 = .ok (.iload 4, 2) := by decide +kernel
theorem d_MM_count2_294 : decode b_MM_count2 294 = .ok (.imul, 1) := by decide +kernel
theorem d_MM_count2_295 : decode b_MM_count2 295 = .ok (.iload 5, 2) := by decide +kernel
theorem d_MM_count2_297 : decode b_MM_count2 297 = .ok (.iload 6, 2) := by decide +kernel
theorem d_MM_count2_299 : decode b_MM_count2 299 = .ok (.imul, 1) := by decide +kernel
theorem d_MM_count2_300 : decode b_MM_count2 300 = .ok (.iadd, 1) := by decide +kernel
theorem d_MM_count2_301 : decode b_MM_count2 301 = .ok (.invokestatic 535, 3) := by decide +kernel
theorem d_MM_count2_304 : decode b_MM_count2 304 = .ok (.ireturn, 1) := by decide +kernel
theorem d_MM_count2_305 : decode b_MM_count2 305 = .ok (.aload_n 0, 1) := by decide +kernel
theorem d_MM_count2_306 : decode b_MM_count2 306 = .ok (.aload_n 0, 1) := by decide +kernel
theorem d_MM_count2_307 : decode b_MM_count2 307 = .ok (.getfield 108, 3) := by decide +kernel
theorem d_MM_count2_310 : decode b_MM_count2 310 = .ok (.iload_n 1, 1) := by decide +kernel
theorem d_MM_count2_311 : decode b_MM_count2 311 = .ok (.iaload, 1) := by decide +kernel
theorem d_MM_count2_312 : decode b_MM_count2 312 = .ok (.iload_n 2, 1) := by decide +kernel
theorem d_MM_count2_313 : decode b_MM_count2 313 = .ok (.invokevirtual 532, 3) := by decide +kernel
theorem d_MM_count2_316 : decode b_MM_count2 316 = .ok (.ireturn, 1) := by decide +kernel
abbrev b_MM_copy : ByteArray := prog_14_method_39_code
def y_MM_copy : MethodName := ⟨"ClauseProverModel", "copy", "(I)I"⟩
theorem d_MM_copy_0 : decode b_MM_copy 0 = .ok (.aload_n 0, 1) := by decide +kernel
theorem d_MM_copy_1 : decode b_MM_copy 1 = .ok (.aload_n 0, 1) := by decide +kernel
theorem d_MM_copy_2 : decode b_MM_copy 2 = .ok (.getfield 145, 3) := by decide +kernel
theorem d_MM_copy_5 : decode b_MM_copy 5 = .ok (.iload_n 1, 1) := by decide +kernel
theorem d_MM_copy_6 : decode b_MM_copy 6 = .ok (.iaload, 1) := by decide +kernel
theorem d_MM_copy_7 : decode b_MM_copy 7 = .ok (.invokevirtual 516, 3) := by decide +kernel
theorem d_MM_copy_10 : decode b_MM_copy 10 = .ok (.istore_n 2, 1) := by decide +kernel
theorem d_MM_copy_11 : decode b_MM_copy 11 = .ok (.iconst (-1), 1) := by decide +kernel
theorem d_MM_copy_12 : decode b_MM_copy 12 = .ok (.istore_n 3, 1) := by decide +kernel
theorem d_MM_copy_13 : decode b_MM_copy 13 = .ok (.aload_n 0, 1) := by decide +kernel
theorem d_MM_copy_14 : decode b_MM_copy 14 = .ok (.getfield 148, 3) := by decide +kernel
theorem d_MM_copy_17 : decode b_MM_copy 17 = .ok (.iload_n 1, 1) := by decide +kernel
theorem d_MM_copy_18 : decode b_MM_copy 18 = .ok (.iaload, 1) := by decide +kernel
theorem d_MM_copy_19 : decode b_MM_copy 19 = .ok (.istore 4, 2) := by decide +kernel
theorem d_MM_copy_21 : decode b_MM_copy 21 = .ok (.iload 4, 2) := by decide +kernel
theorem d_MM_copy_23 : decode b_MM_copy 23 = .ok (.ifCond .lt 65, 3) := by decide +kernel
theorem d_MM_copy_26 : decode b_MM_copy 26 = .ok (.aload_n 0, 1) := by decide +kernel
theorem d_MM_copy_27 : decode b_MM_copy 27 = .ok (.iload 4, 2) := by decide +kernel
theorem d_MM_copy_29 : decode b_MM_copy 29 = .ok (.invokevirtual 519, 3) := by decide +kernel
theorem d_MM_copy_32 : decode b_MM_copy 32 = .ok (.istore 5, 2) := by decide +kernel
theorem d_MM_copy_34 : decode b_MM_copy 34 = .ok (.iload_n 3, 1) := by decide +kernel
theorem d_MM_copy_35 : decode b_MM_copy 35 = .ok (.ifCond .ge 14, 3) := by decide +kernel
theorem d_MM_copy_38 : decode b_MM_copy 38 = .ok (.aload_n 0, 1) := by decide +kernel
theorem d_MM_copy_39 : decode b_MM_copy 39 = .ok (.getfield 148, 3) := by decide +kernel
theorem d_MM_copy_42 : decode b_MM_copy 42 = .ok (.iload_n 2, 1) := by decide +kernel
theorem d_MM_copy_43 : decode b_MM_copy 43 = .ok (.iload 5, 2) := by decide +kernel
theorem d_MM_copy_45 : decode b_MM_copy 45 = .ok (.iastore, 1) := by decide +kernel
theorem d_MM_copy_46 : decode b_MM_copy 46 = .ok (.goto 11, 3) := by decide +kernel
theorem d_MM_copy_49 : decode b_MM_copy 49 = .ok (.aload_n 0, 1) := by decide +kernel
theorem d_MM_copy_50 : decode b_MM_copy 50 = .ok (.getfield 151, 3) := by decide +kernel
theorem d_MM_copy_53 : decode b_MM_copy 53 = .ok (.iload_n 3, 1) := by decide +kernel
theorem d_MM_copy_54 : decode b_MM_copy 54 = .ok (.iload 5, 2) := by decide +kernel
theorem d_MM_copy_56 : decode b_MM_copy 56 = .ok (.iastore, 1) := by decide +kernel
theorem d_MM_copy_57 : decode b_MM_copy 57 = .ok (.iload 5, 2) := by decide +kernel
theorem d_MM_copy_59 : decode b_MM_copy 59 = .ok (.istore_n 3, 1) := by decide +kernel
theorem d_MM_copy_60 : decode b_MM_copy 60 = .ok (.aload_n 0, 1) := by decide +kernel
theorem d_MM_copy_61 : decode b_MM_copy 61 = .ok (.getfield 154, 3) := by decide +kernel
theorem d_MM_copy_64 : decode b_MM_copy 64 = .ok (.iload_n 2, 1) := by decide +kernel
theorem d_MM_copy_65 : decode b_MM_copy 65 = .ok (.dup2, 1) := by decide +kernel
theorem d_MM_copy_66 : decode b_MM_copy 66 = .ok (.iaload, 1) := by decide +kernel
theorem d_MM_copy_67 : decode b_MM_copy 67 = .ok (.aload_n 0, 1) := by decide +kernel
theorem d_MM_copy_68 : decode b_MM_copy 68 = .ok (.getfield 154, 3) := by decide +kernel
theorem d_MM_copy_71 : decode b_MM_copy 71 = .ok (.iload 5, 2) := by decide +kernel
theorem d_MM_copy_73 : decode b_MM_copy 73 = .ok (.iaload, 1) := by decide +kernel
theorem d_MM_copy_74 : decode b_MM_copy 74 = .ok (.iadd, 1) := by decide +kernel
theorem d_MM_copy_75 : decode b_MM_copy 75 = .ok (.iastore, 1) := by decide +kernel
theorem d_MM_copy_76 : decode b_MM_copy 76 = .ok (.aload_n 0, 1) := by decide +kernel
theorem d_MM_copy_77 : decode b_MM_copy 77 = .ok (.getfield 151, 3) := by decide +kernel
theorem d_MM_copy_80 : decode b_MM_copy 80 = .ok (.iload 4, 2) := by decide +kernel
theorem d_MM_copy_82 : decode b_MM_copy 82 = .ok (.iaload, 1) := by decide +kernel
theorem d_MM_copy_83 : decode b_MM_copy 83 = .ok (.istore 4, 2) := by decide +kernel
theorem d_MM_copy_85 : decode b_MM_copy 85 = .ok (.goto (-64), 3) := by decide +kernel
theorem d_MM_copy_88 : decode b_MM_copy 88 = .ok (.iload_n 2, 1) := by decide +kernel
theorem d_MM_copy_89 : decode b_MM_copy 89 = .ok (.ireturn, 1) := by decide +kernel
abbrev b_MM_same : ByteArray := prog_14_method_38_code
def y_MM_same : MethodName := ⟨"ClauseProverModel", "same", "(II)Z"⟩
theorem d_MM_same_0 : decode b_MM_same 0 = .ok (.aload_n 0, 1) := by decide +kernel
theorem d_MM_same_1 : decode b_MM_same 1 = .ok (.getfield 145, 3) := by decide +kernel
theorem d_MM_same_4 : decode b_MM_same 4 = .ok (.iload_n 1, 1) := by decide +kernel
theorem d_MM_same_5 : decode b_MM_same 5 = .ok (.iaload, 1) := by decide +kernel
theorem d_MM_same_6 : decode b_MM_same 6 = .ok (.aload_n 0, 1) := by decide +kernel
theorem d_MM_same_7 : decode b_MM_same 7 = .ok (.getfield 145, 3) := by decide +kernel
theorem d_MM_same_10 : decode b_MM_same 10 = .ok (.iload_n 2, 1) := by decide +kernel
theorem d_MM_same_11 : decode b_MM_same 11 = .ok (.iaload, 1) := by decide +kernel
theorem d_MM_same_12 : decode b_MM_same 12 = .ok (.if_icmp .ne 18, 3) := by decide +kernel
theorem d_MM_same_15 : decode b_MM_same 15 = .ok (.aload_n 0, 1) := by decide +kernel
theorem d_MM_same_16 : decode b_MM_same 16 = .ok (.getfield 154, 3) := by decide +kernel
theorem d_MM_same_19 : decode b_MM_same 19 = .ok (.iload_n 1, 1) := by decide +kernel
theorem d_MM_same_20 : decode b_MM_same 20 = .ok (.iaload, 1) := by decide +kernel
theorem d_MM_same_21 : decode b_MM_same 21 = .ok (.aload_n 0, 1) := by decide +kernel
theorem d_MM_same_22 : decode b_MM_same 22 = .ok (.getfield 154, 3) := by decide +kernel
theorem d_MM_same_25 : decode b_MM_same 25 = .ok (.iload_n 2, 1) := by decide +kernel
theorem d_MM_same_26 : decode b_MM_same 26 = .ok (.iaload, 1) := by decide +kernel
theorem d_MM_same_27 : decode b_MM_same 27 = .ok (.if_icmp .eq 5, 3) := by decide +kernel
theorem d_MM_same_30 : decode b_MM_same 30 = .ok (.iconst 0, 1) := by decide +kernel
theorem d_MM_same_31 : decode b_MM_same 31 = .ok (.ireturn, 1) := by decide +kernel
theorem d_MM_same_32 : decode b_MM_same 32 = .ok (.aload_n 0, 1) := by decide +kernel
theorem d_MM_same_33 : decode b_MM_same 33 = .ok (.getfield 148, 3) := by decide +kernel
theorem d_MM_same_36 : decode b_MM_same 36 = .ok (.iload_n 2, 1) := by decide +kernel
theorem d_MM_same_37 : decode b_MM_same 37 = .ok (.iaload, 1) := by decide +kernel
theorem d_MM_same_38 : decode b_MM_same 38 = .ok (.istore_n 3, 1) := by decide +kernel
theorem d_MM_same_39 : decode b_MM_same 39 = .ok (.aload_n 0, 1) := by decide +kernel
theorem d_MM_same_40 : decode b_MM_same 40 = .ok (.getfield 148, 3) := by decide +kernel
theorem d_MM_same_43 : decode b_MM_same 43 = .ok (.iload_n 1, 1) := by decide +kernel
theorem d_MM_same_44 : decode b_MM_same 44 = .ok (.iaload, 1) := by decide +kernel
theorem d_MM_same_45 : decode b_MM_same 45 = .ok (.istore 4, 2) := by decide +kernel
theorem d_MM_same_47 : decode b_MM_same 47 = .ok (.iload 4, 2) := by decide +kernel
theorem d_MM_same_49 : decode b_MM_same 49 = .ok (.ifCond .lt 34, 3) := by decide +kernel
theorem d_MM_same_52 : decode b_MM_same 52 = .ok (.aload_n 0, 1) := by decide +kernel
theorem d_MM_same_53 : decode b_MM_same 53 = .ok (.iload 4, 2) := by decide +kernel
theorem d_MM_same_55 : decode b_MM_same 55 = .ok (.iload_n 3, 1) := by decide +kernel
theorem d_MM_same_56 : decode b_MM_same 56 = .ok (.invokevirtual 513, 3) := by decide +kernel
theorem d_MM_same_59 : decode b_MM_same 59 = .ok (.ifCond .ne 5, 3) := by decide +kernel
theorem d_MM_same_62 : decode b_MM_same 62 = .ok (.iconst 0, 1) := by decide +kernel
theorem d_MM_same_63 : decode b_MM_same 63 = .ok (.ireturn, 1) := by decide +kernel
theorem d_MM_same_64 : decode b_MM_same 64 = .ok (.aload_n 0, 1) := by decide +kernel
theorem d_MM_same_65 : decode b_MM_same 65 = .ok (.getfield 151, 3) := by decide +kernel
theorem d_MM_same_68 : decode b_MM_same 68 = .ok (.iload_n 3, 1) := by decide +kernel
theorem d_MM_same_69 : decode b_MM_same 69 = .ok (.iaload, 1) := by decide +kernel
theorem d_MM_same_70 : decode b_MM_same 70 = .ok (.istore_n 3, 1) := by decide +kernel
theorem d_MM_same_71 : decode b_MM_same 71 = .ok (.aload_n 0, 1) := by decide +kernel
theorem d_MM_same_72 : decode b_MM_same 72 = .ok (.getfield 151, 3) := by decide +kernel
theorem d_MM_same_75 : decode b_MM_same 75 = .ok (.iload 4, 2) := by decide +kernel
theorem d_MM_same_77 : decode b_MM_same 77 = .ok (.iaload, 1) := by decide +kernel
theorem d_MM_same_78 : decode b_MM_same 78 = .ok (.istore 4, 2) := by decide +kernel
theorem d_MM_same_80 : decode b_MM_same 80 = .ok (.goto (-33), 3) := by decide +kernel
theorem d_MM_same_83 : decode b_MM_same 83 = .ok (.iconst 1, 1) := by decide +kernel
theorem d_MM_same_84 : decode b_MM_same 84 = .ok (.ireturn, 1) := by decide +kernel
abbrev b_MM_greater : ByteArray := prog_14_method_64_code
def y_MM_greater : MethodName := ⟨"ClauseProverModel", "greater", "(II)Z"⟩
theorem d_MM_greater_0 : decode b_MM_greater 0 = .ok (.aload_n 0, 1) := by decide +kernel
theorem d_MM_greater_1 : decode b_MM_greater 1 = .ok (.getfield 145, 3) := by decide +kernel
theorem d_MM_greater_4 : decode b_MM_greater 4 = .ok (.iload_n 1, 1) := by decide +kernel
theorem d_MM_greater_5 : decode b_MM_greater 5 = .ok (.iaload, 1) := by decide +kernel
theorem d_MM_greater_6 : decode b_MM_greater 6 = .ok (.ifCond .ge 5, 3) := by decide +kernel
theorem d_MM_greater_9 : decode b_MM_greater 9 = .ok (.iconst 0, 1) := by decide +kernel
theorem d_MM_greater_10 : decode b_MM_greater 10 = .ok (.ireturn, 1) := by decide +kernel
theorem d_MM_greater_11 : decode b_MM_greater 11 = .ok (.aload_n 0, 1) := by decide +kernel
theorem d_MM_greater_12 : decode b_MM_greater 12 = .ok (.getfield 323, 3) := by decide +kernel
theorem d_MM_greater_15 : decode b_MM_greater 15 = .ok (.iconst 0, 1) := by decide +kernel
theorem d_MM_greater_16 : decode b_MM_greater 16 = .ok (.invokestatic 588, 3) := by decide +kernel
theorem d_MM_greater_19 : decode b_MM_greater 19 = .ok (.aload_n 0, 1) := by decide +kernel
theorem d_MM_greater_20 : decode b_MM_greater 20 = .ok (.iload_n 1, 1) := by decide +kernel
theorem d_MM_greater_21 : decode b_MM_greater 21 = .ok (.iconst 1, 1) := by decide +kernel
theorem d_MM_greater_22 : decode b_MM_greater 22 = .ok (.invokevirtual 586, 3) := by decide +kernel
theorem d_MM_greater_25 : decode b_MM_greater 25 = .ok (.aload_n 0, 1) := by decide +kernel
theorem d_MM_greater_26 : decode b_MM_greater 26 = .ok (.iload_n 2, 1) := by decide +kernel
theorem d_MM_greater_27 : decode b_MM_greater 27 = .ok (.iconst (-1), 1) := by decide +kernel
theorem d_MM_greater_28 : decode b_MM_greater 28 = .ok (.invokevirtual 586, 3) := by decide +kernel
theorem d_MM_greater_31 : decode b_MM_greater 31 = .ok (.iconst 0, 1) := by decide +kernel
theorem d_MM_greater_32 : decode b_MM_greater 32 = .ok (.istore_n 3, 1) := by decide +kernel
theorem d_MM_greater_33 : decode b_MM_greater 33 = .ok (.iload_n 3, 1) := by decide +kernel
theorem d_MM_greater_34 : decode b_MM_greater 34 = .ok (.bipush 8, 2) := by decide +kernel
theorem d_MM_greater_36 : decode b_MM_greater 36 = .ok (.if_icmp .ge 20, 3) := by decide +kernel
theorem d_MM_greater_39 : decode b_MM_greater 39 = .ok (.aload_n 0, 1) := by decide +kernel
theorem d_MM_greater_40 : decode b_MM_greater 40 = .ok (.getfield 323, 3) := by decide +kernel
theorem d_MM_greater_43 : decode b_MM_greater 43 = .ok (.iload_n 3, 1) := by decide +kernel
theorem d_MM_greater_44 : decode b_MM_greater 44 = .ok (.iaload, 1) := by decide +kernel
theorem d_MM_greater_45 : decode b_MM_greater 45 = .ok (.ifCond .ge 5, 3) := by decide +kernel
theorem d_MM_greater_48 : decode b_MM_greater 48 = .ok (.iconst 0, 1) := by decide +kernel
theorem d_MM_greater_49 : decode b_MM_greater 49 = .ok (.ireturn, 1) := by decide +kernel
theorem d_MM_greater_50 : decode b_MM_greater 50 = .ok (.iinc 3 1, 3) := by decide +kernel
theorem d_MM_greater_53 : decode b_MM_greater 53 = .ok (.goto (-20), 3) := by decide +kernel
theorem d_MM_greater_56 : decode b_MM_greater 56 = .ok (.aload_n 0, 1) := by decide +kernel
theorem d_MM_greater_57 : decode b_MM_greater 57 = .ok (.iload_n 1, 1) := by decide +kernel
theorem d_MM_greater_58 : decode b_MM_greater 58 = .ok (.iload_n 2, 1) := by decide +kernel
theorem d_MM_greater_59 : decode b_MM_greater 59 = .ok (.invokevirtual 594, 3) := by decide +kernel
theorem d_MM_greater_62 : decode b_MM_greater 62 = .ok (.ireturn, 1) := by decide +kernel
abbrev b_MM_count1 : ByteArray := prog_14_method_133_code
def y_MM_count1 : MethodName := ⟨"ClauseProverModel", "count", "(I)I"⟩
theorem d_MM_count1_0 : decode b_MM_count1 0 = .ok (.aload_n 0, 1) := by decide +kernel
theorem d_MM_count1_1 : decode b_MM_count1 1 = .ok (.iconst 0, 1) := by decide +kernel
theorem d_MM_count1_2 : decode b_MM_count1 2 = .ok (.putfield 24, 3) := by decide +kernel
theorem d_MM_count1_5 : decode b_MM_count1 5 = .ok (.iload_n 1, 1) := by decide +kernel
theorem d_MM_count1_6 : decode b_MM_count1 6 = .ok (.tableswitch 142 0 13 #[70, 75, 80, 86, 92, 97, 102, 107, 112, 117, 122, 127, 132, 137], 70) := by decide +kernel
theorem d_MM_count1_76 : decode b_MM_count1 76 = .ok (.aload_n 0, 1) := by decide +kernel
theorem d_MM_count1_77 : decode b_MM_count1 77 = .ok (.getfield 269, 3) := by decide +kernel
theorem d_MM_count1_80 : decode b_MM_count1 80 = .ok (.ireturn, 1) := by decide +kernel
theorem d_MM_count1_81 : decode b_MM_count1 81 = .ok (.aload_n 0, 1) := by decide +kernel
theorem d_MM_count1_82 : decode b_MM_count1 82 = .ok (.getfield 272, 3) := by decide +kernel
theorem d_MM_count1_85 : decode b_MM_count1 85 = .ok (.ireturn, 1) := by decide +kernel
theorem d_MM_count1_86 : decode b_MM_count1 86 = .ok (.aload_n 0, 1) := by decide +kernel
theorem d_MM_count1_87 : decode b_MM_count1 87 = .ok (.iconst 0, 1) := by decide +kernel
theorem d_MM_count1_88 : decode b_MM_count1 88 = .ok (.invokevirtual 794, 3) := by decide +kernel
theorem d_MM_count1_91 : decode b_MM_count1 91 = .ok (.ireturn, 1) := by decide +kernel
theorem d_MM_count1_92 : decode b_MM_count1 92 = .ok (.aload_n 0, 1) := by decide +kernel
theorem d_MM_count1_93 : decode b_MM_count1 93 = .ok (.iconst 1, 1) := by decide +kernel
theorem d_MM_count1_94 : decode b_MM_count1 94 = .ok (.invokevirtual 794, 3) := by decide +kernel
theorem d_MM_count1_97 : decode b_MM_count1 97 = .ok (.ireturn, 1) := by decide +kernel
theorem d_MM_count1_98 : decode b_MM_count1 98 = .ok (.aload_n 0, 1) := by decide +kernel
theorem d_MM_count1_99 : decode b_MM_count1 99 = .ok (.getfield 284, 3) := by decide +kernel
theorem d_MM_count1_102 : decode b_MM_count1 102 = .ok (.ireturn, 1) := by decide +kernel
theorem d_MM_count1_103 : decode b_MM_count1 103 = .ok (.aload_n 0, 1) := by decide +kernel
theorem d_MM_count1_104 : decode b_MM_count1 104 = .ok (.getfield 287, 3) := by decide +kernel
theorem d_MM_count1_107 : decode b_MM_count1 107 = .ok (.ireturn, 1) := by decide +kernel
theorem d_MM_count1_108 : decode b_MM_count1 108 = .ok (.aload_n 0, 1) := by decide +kernel
theorem d_MM_count1_109 : decode b_MM_count1 109 = .ok (.getfield 290, 3) := by decide +kernel
theorem d_MM_count1_112 : decode b_MM_count1 112 = .ok (.ireturn, 1) := by decide +kernel
theorem d_MM_count1_113 : decode b_MM_count1 113 = .ok (.aload_n 0, 1) := by decide +kernel
theorem d_MM_count1_114 : decode b_MM_count1 114 = .ok (.getfield 293, 3) := by decide +kernel
theorem d_MM_count1_117 : decode b_MM_count1 117 = .ok (.ireturn, 1) := by decide +kernel
theorem d_MM_count1_118 : decode b_MM_count1 118 = .ok (.aload_n 0, 1) := by decide +kernel
theorem d_MM_count1_119 : decode b_MM_count1 119 = .ok (.getfield 296, 3) := by decide +kernel
theorem d_MM_count1_122 : decode b_MM_count1 122 = .ok (.ireturn, 1) := by decide +kernel
theorem d_MM_count1_123 : decode b_MM_count1 123 = .ok (.aload_n 0, 1) := by decide +kernel
theorem d_MM_count1_124 : decode b_MM_count1 124 = .ok (.getfield 299, 3) := by decide +kernel
theorem d_MM_count1_127 : decode b_MM_count1 127 = .ok (.ireturn, 1) := by decide +kernel
theorem d_MM_count1_128 : decode b_MM_count1 128 = .ok (.aload_n 0, 1) := by decide +kernel
theorem d_MM_count1_129 : decode b_MM_count1 129 = .ok (.getfield 278, 3) := by decide +kernel
theorem d_MM_count1_132 : decode b_MM_count1 132 = .ok (.ireturn, 1) := by decide +kernel
theorem d_MM_count1_133 : decode b_MM_count1 133 = .ok (.aload_n 0, 1) := by decide +kernel
theorem d_MM_count1_134 : decode b_MM_count1 134 = .ok (.getfield 71, 3) := by decide +kernel
theorem d_MM_count1_137 : decode b_MM_count1 137 = .ok (.ireturn, 1) := by decide +kernel
theorem d_MM_count1_138 : decode b_MM_count1 138 = .ok (.aload_n 0, 1) := by decide +kernel
theorem d_MM_count1_139 : decode b_MM_count1 139 = .ok (.getfield 17, 3) := by decide +kernel
theorem d_MM_count1_142 : decode b_MM_count1 142 = .ok (.ireturn, 1) := by decide +kernel
theorem d_MM_count1_143 : decode b_MM_count1 143 = .ok (.aload_n 0, 1) := by decide +kernel
theorem d_MM_count1_144 : decode b_MM_count1 144 = .ok (.getfield 21, 3) := by decide +kernel
theorem d_MM_count1_147 : decode b_MM_count1 147 = .ok (.ireturn, 1) := by decide +kernel
theorem d_MM_count1_148 : decode b_MM_count1 148 = .ok (.iconst (-1), 1) := by decide +kernel
theorem d_MM_count1_149 : decode b_MM_count1 149 = .ok (.ireturn, 1) := by decide +kernel
abbrev b_MM_capped : ByteArray := prog_14_method_45_code
def y_MM_capped : MethodName := ⟨"ClauseProverModel", "capped", "(I)I"⟩
theorem d_MM_capped_0 : decode b_MM_capped 0 = .ok (.sipush 201, 3) := by decide +kernel
theorem d_MM_capped_3 : decode b_MM_capped 3 = .ok (.iload_n 0, 1) := by decide +kernel
theorem d_MM_capped_4 : decode b_MM_capped 4 = .ok (.invokestatic 538, 3) := by decide +kernel
theorem d_MM_capped_7 : decode b_MM_capped 7 = .ok (.ireturn, 1) := by decide +kernel
abbrev b_MM_fresh : ByteArray := prog_14_method_36_code
def y_MM_fresh : MethodName := ⟨"ClauseProverModel", "fresh", "(I)I"⟩
theorem d_MM_fresh_0 : decode b_MM_fresh 0 = .ok (.aload_n 0, 1) := by decide +kernel
theorem d_MM_fresh_1 : decode b_MM_fresh 1 = .ok (.getfield 145, 3) := by decide +kernel
theorem d_MM_fresh_4 : decode b_MM_fresh 4 = .ok (.aload_n 0, 1) := by decide +kernel
theorem d_MM_fresh_5 : decode b_MM_fresh 5 = .ok (.getfield 157, 3) := by decide +kernel
theorem d_MM_fresh_8 : decode b_MM_fresh 8 = .ok (.iload_n 1, 1) := by decide +kernel
theorem d_MM_fresh_9 : decode b_MM_fresh 9 = .ok (.iastore, 1) := by decide +kernel
theorem d_MM_fresh_10 : decode b_MM_fresh 10 = .ok (.aload_n 0, 1) := by decide +kernel
theorem d_MM_fresh_11 : decode b_MM_fresh 11 = .ok (.getfield 148, 3) := by decide +kernel
theorem d_MM_fresh_14 : decode b_MM_fresh 14 = .ok (.aload_n 0, 1) := by decide +kernel
theorem d_MM_fresh_15 : decode b_MM_fresh 15 = .ok (.getfield 157, 3) := by decide +kernel
theorem d_MM_fresh_18 : decode b_MM_fresh 18 = .ok (.iconst (-1), 1) := by decide +kernel
theorem d_MM_fresh_19 : decode b_MM_fresh 19 = .ok (.iastore, 1) := by decide +kernel
theorem d_MM_fresh_20 : decode b_MM_fresh 20 = .ok (.aload_n 0, 1) := by decide +kernel
theorem d_MM_fresh_21 : decode b_MM_fresh 21 = .ok (.getfield 151, 3) := by decide +kernel
theorem d_MM_fresh_24 : decode b_MM_fresh 24 = .ok (.aload_n 0, 1) := by decide +kernel
theorem d_MM_fresh_25 : decode b_MM_fresh 25 = .ok (.getfield 157, 3) := by decide +kernel
theorem d_MM_fresh_28 : decode b_MM_fresh 28 = .ok (.iconst (-1), 1) := by decide +kernel
theorem d_MM_fresh_29 : decode b_MM_fresh 29 = .ok (.iastore, 1) := by decide +kernel
theorem d_MM_fresh_30 : decode b_MM_fresh 30 = .ok (.aload_n 0, 1) := by decide +kernel
theorem d_MM_fresh_31 : decode b_MM_fresh 31 = .ok (.getfield 154, 3) := by decide +kernel
theorem d_MM_fresh_34 : decode b_MM_fresh 34 = .ok (.aload_n 0, 1) := by decide +kernel
theorem d_MM_fresh_35 : decode b_MM_fresh 35 = .ok (.getfield 157, 3) := by decide +kernel
theorem d_MM_fresh_38 : decode b_MM_fresh 38 = .ok (.iconst 1, 1) := by decide +kernel
theorem d_MM_fresh_39 : decode b_MM_fresh 39 = .ok (.iastore, 1) := by decide +kernel
theorem d_MM_fresh_40 : decode b_MM_fresh 40 = .ok (.aload_n 0, 1) := by decide +kernel
theorem d_MM_fresh_41 : decode b_MM_fresh 41 = .ok (.dup, 1) := by decide +kernel
theorem d_MM_fresh_42 : decode b_MM_fresh 42 = .ok (.getfield 157, 3) := by decide +kernel
theorem d_MM_fresh_45 : decode b_MM_fresh 45 = .ok (.dup_x1, 1) := by decide +kernel
theorem d_MM_fresh_46 : decode b_MM_fresh 46 = .ok (.iconst 1, 1) := by decide +kernel
theorem d_MM_fresh_47 : decode b_MM_fresh 47 = .ok (.iadd, 1) := by decide +kernel
theorem d_MM_fresh_48 : decode b_MM_fresh 48 = .ok (.putfield 157, 3) := by decide +kernel
theorem d_MM_fresh_51 : decode b_MM_fresh 51 = .ok (.ireturn, 1) := by decide +kernel
abbrev b_MM_above : ByteArray := prog_14_method_65_code
def y_MM_above : MethodName := ⟨"ClauseProverModel", "above", "(II)Z"⟩
theorem d_MM_above_0 : decode b_MM_above 0 = .ok (.aload_n 0, 1) := by decide +kernel
theorem d_MM_above_1 : decode b_MM_above 1 = .ok (.getfield 154, 3) := by decide +kernel
theorem d_MM_above_4 : decode b_MM_above 4 = .ok (.iload_n 1, 1) := by decide +kernel
theorem d_MM_above_5 : decode b_MM_above 5 = .ok (.iaload, 1) := by decide +kernel
theorem d_MM_above_6 : decode b_MM_above 6 = .ok (.aload_n 0, 1) := by decide +kernel
theorem d_MM_above_7 : decode b_MM_above 7 = .ok (.getfield 154, 3) := by decide +kernel
theorem d_MM_above_10 : decode b_MM_above 10 = .ok (.iload_n 2, 1) := by decide +kernel
theorem d_MM_above_11 : decode b_MM_above 11 = .ok (.iaload, 1) := by decide +kernel
theorem d_MM_above_12 : decode b_MM_above 12 = .ok (.if_icmp .eq 24, 3) := by decide +kernel
theorem d_MM_above_15 : decode b_MM_above 15 = .ok (.aload_n 0, 1) := by decide +kernel
theorem d_MM_above_16 : decode b_MM_above 16 = .ok (.getfield 154, 3) := by decide +kernel
theorem d_MM_above_19 : decode b_MM_above 19 = .ok (.iload_n 1, 1) := by decide +kernel
theorem d_MM_above_20 : decode b_MM_above 20 = .ok (.iaload, 1) := by decide +kernel
theorem d_MM_above_21 : decode b_MM_above 21 = .ok (.aload_n 0, 1) := by decide +kernel
theorem d_MM_above_22 : decode b_MM_above 22 = .ok (.getfield 154, 3) := by decide +kernel
theorem d_MM_above_25 : decode b_MM_above 25 = .ok (.iload_n 2, 1) := by decide +kernel
theorem d_MM_above_26 : decode b_MM_above 26 = .ok (.iaload, 1) := by decide +kernel
theorem d_MM_above_27 : decode b_MM_above 27 = .ok (.if_icmp .le 7, 3) := by decide +kernel
theorem d_MM_above_30 : decode b_MM_above 30 = .ok (.iconst 1, 1) := by decide +kernel
theorem d_MM_above_31 : decode b_MM_above 31 = .ok (.goto 4, 3) := by decide +kernel
theorem d_MM_above_34 : decode b_MM_above 34 = .ok (.iconst 0, 1) := by decide +kernel
theorem d_MM_above_35 : decode b_MM_above 35 = .ok (.ireturn, 1) := by decide +kernel
theorem d_MM_above_36 : decode b_MM_above 36 = .ok (.aload_n 0, 1) := by decide +kernel
theorem d_MM_above_37 : decode b_MM_above 37 = .ok (.getfield 145, 3) := by decide +kernel
theorem d_MM_above_40 : decode b_MM_above 40 = .ok (.iload_n 2, 1) := by decide +kernel
theorem d_MM_above_41 : decode b_MM_above 41 = .ok (.iaload, 1) := by decide +kernel
theorem d_MM_above_42 : decode b_MM_above 42 = .ok (.ifCond .ge 5, 3) := by decide +kernel
theorem d_MM_above_45 : decode b_MM_above 45 = .ok (.iconst 0, 1) := by decide +kernel
theorem d_MM_above_46 : decode b_MM_above 46 = .ok (.ireturn, 1) := by decide +kernel
theorem d_MM_above_47 : decode b_MM_above 47 = .ok (.aload_n 0, 1) := by decide +kernel
theorem d_MM_above_48 : decode b_MM_above 48 = .ok (.getfield 145, 3) := by decide +kernel
theorem d_MM_above_51 : decode b_MM_above 51 = .ok (.iload_n 1, 1) := by decide +kernel
theorem d_MM_above_52 : decode b_MM_above 52 = .ok (.iaload, 1) := by decide +kernel
theorem d_MM_above_53 : decode b_MM_above 53 = .ok (.aload_n 0, 1) := by decide +kernel
theorem d_MM_above_54 : decode b_MM_above 54 = .ok (.getfield 145, 3) := by decide +kernel
theorem d_MM_above_57 : decode b_MM_above 57 = .ok (.iload_n 2, 1) := by decide +kernel
theorem d_MM_above_58 : decode b_MM_above 58 = .ok (.iaload, 1) := by decide +kernel
theorem d_MM_above_59 : decode b_MM_above 59 = .ok (.if_icmp .eq 24, 3) := by decide +kernel
theorem d_MM_above_62 : decode b_MM_above 62 = .ok (.aload_n 0, 1) := by decide +kernel
theorem d_MM_above_63 : decode b_MM_above 63 = .ok (.getfield 145, 3) := by decide +kernel
theorem d_MM_above_66 : decode b_MM_above 66 = .ok (.iload_n 1, 1) := by decide +kernel
theorem d_MM_above_67 : decode b_MM_above 67 = .ok (.iaload, 1) := by decide +kernel
theorem d_MM_above_68 : decode b_MM_above 68 = .ok (.aload_n 0, 1) := by decide +kernel
theorem d_MM_above_69 : decode b_MM_above 69 = .ok (.getfield 145, 3) := by decide +kernel
theorem d_MM_above_72 : decode b_MM_above 72 = .ok (.iload_n 2, 1) := by decide +kernel
theorem d_MM_above_73 : decode b_MM_above 73 = .ok (.iaload, 1) := by decide +kernel
theorem d_MM_above_74 : decode b_MM_above 74 = .ok (.if_icmp .le 7, 3) := by decide +kernel
theorem d_MM_above_77 : decode b_MM_above 77 = .ok (.iconst 1, 1) := by decide +kernel
theorem d_MM_above_78 : decode b_MM_above 78 = .ok (.goto 4, 3) := by decide +kernel
theorem d_MM_above_81 : decode b_MM_above 81 = .ok (.iconst 0, 1) := by decide +kernel
theorem d_MM_above_82 : decode b_MM_above 82 = .ok (.ireturn, 1) := by decide +kernel
theorem d_MM_above_83 : decode b_MM_above 83 = .ok (.aload_n 0, 1) := by decide +kernel
theorem d_MM_above_84 : decode b_MM_above 84 = .ok (.getfield 148, 3) := by decide +kernel
theorem d_MM_above_87 : decode b_MM_above 87 = .ok (.iload_n 2, 1) := by decide +kernel
theorem d_MM_above_88 : decode b_MM_above 88 = .ok (.iaload, 1) := by decide +kernel
theorem d_MM_above_89 : decode b_MM_above 89 = .ok (.istore_n 3, 1) := by decide +kernel
theorem d_MM_above_90 : decode b_MM_above 90 = .ok (.aload_n 0, 1) := by decide +kernel
theorem d_MM_above_91 : decode b_MM_above 91 = .ok (.getfield 148, 3) := by decide +kernel
theorem d_MM_above_94 : decode b_MM_above 94 = .ok (.iload_n 1, 1) := by decide +kernel
theorem d_MM_above_95 : decode b_MM_above 95 = .ok (.iaload, 1) := by decide +kernel
theorem d_MM_above_96 : decode b_MM_above 96 = .ok (.istore 4, 2) := by decide +kernel
theorem d_MM_above_98 : decode b_MM_above 98 = .ok (.iload 4, 2) := by decide +kernel
theorem d_MM_above_100 : decode b_MM_above 100 = .ok (.ifCond .lt 40, 3) := by decide +kernel
theorem d_MM_above_103 : decode b_MM_above 103 = .ok (.aload_n 0, 1) := by decide +kernel
theorem d_MM_above_104 : decode b_MM_above 104 = .ok (.iload 4, 2) := by decide +kernel
theorem d_MM_above_106 : decode b_MM_above 106 = .ok (.iload_n 3, 1) := by decide +kernel
theorem d_MM_above_107 : decode b_MM_above 107 = .ok (.invokevirtual 513, 3) := by decide +kernel
theorem d_MM_above_110 : decode b_MM_above 110 = .ok (.ifCond .ne 11, 3) := by decide +kernel
theorem d_MM_above_113 : decode b_MM_above 113 = .ok (.aload_n 0, 1) := by decide +kernel
theorem d_MM_above_114 : decode b_MM_above 114 = .ok (.iload 4, 2) := by decide +kernel
theorem d_MM_above_116 : decode b_MM_above 116 = .ok (.iload_n 3, 1) := by decide +kernel
theorem d_MM_above_117 : decode b_MM_above 117 = .ok (.invokevirtual 597, 3) := by decide +kernel
theorem d_MM_above_120 : decode b_MM_above 120 = .ok (.ireturn, 1) := by decide +kernel
theorem d_MM_above_121 : decode b_MM_above 121 = .ok (.aload_n 0, 1) := by decide +kernel
theorem d_MM_above_122 : decode b_MM_above 122 = .ok (.getfield 151, 3) := by decide +kernel
theorem d_MM_above_125 : decode b_MM_above 125 = .ok (.iload_n 3, 1) := by decide +kernel
theorem d_MM_above_126 : decode b_MM_above 126 = .ok (.iaload, 1) := by decide +kernel
theorem d_MM_above_127 : decode b_MM_above 127 = .ok (.istore_n 3, 1) := by decide +kernel
theorem d_MM_above_128 : decode b_MM_above 128 = .ok (.aload_n 0, 1) := by decide +kernel
theorem d_MM_above_129 : decode b_MM_above 129 = .ok (.getfield 151, 3) := by decide +kernel
theorem d_MM_above_132 : decode b_MM_above 132 = .ok (.iload 4, 2) := by decide +kernel
theorem d_MM_above_134 : decode b_MM_above 134 = .ok (.iaload, 1) := by decide +kernel
theorem d_MM_above_135 : decode b_MM_above 135 = .ok (.istore 4, 2) := by decide +kernel
theorem d_MM_above_137 : decode b_MM_above 137 = .ok (.goto (-39), 3) := by decide +kernel
theorem d_MM_above_140 : decode b_MM_above 140 = .ok (.iconst 0, 1) := by decide +kernel
theorem d_MM_above_141 : decode b_MM_above 141 = .ok (.ireturn, 1) := by decide +kernel
abbrev b_MM_times : ByteArray := prog_14_method_63_code
def y_MM_times : MethodName := ⟨"ClauseProverModel", "times", "(II)V"⟩
theorem d_MM_times_0 : decode b_MM_times 0 = .ok (.aload_n 0, 1) := by decide +kernel
theorem d_MM_times_1 : decode b_MM_times 1 = .ok (.getfield 145, 3) := by decide +kernel
theorem d_MM_times_4 : decode b_MM_times 4 = .ok (.iload_n 1, 1) := by decide +kernel
theorem d_MM_times_5 : decode b_MM_times 5 = .ok (.iaload, 1) := by decide +kernel
theorem d_MM_times_6 : decode b_MM_times 6 = .ok (.ifCond .ge 21, 3) := by decide +kernel
theorem d_MM_times_9 : decode b_MM_times 9 = .ok (.aload_n 0, 1) := by decide +kernel
theorem d_MM_times_10 : decode b_MM_times 10 = .ok (.getfield 323, 3) := by decide +kernel
theorem d_MM_times_13 : decode b_MM_times 13 = .ok (.iconst (-1), 1) := by decide +kernel
theorem d_MM_times_14 : decode b_MM_times 14 = .ok (.aload_n 0, 1) := by decide +kernel
theorem d_MM_times_15 : decode b_MM_times 15 = .ok (.getfield 145, 3) := by decide +kernel
theorem d_MM_times_18 : decode b_MM_times 18 = .ok (.iload_n 1, 1) := by decide +kernel
theorem d_MM_times_19 : decode b_MM_times 19 = .ok (.iaload, 1) := by decide +kernel
theorem d_MM_times_20 : decode b_MM_times 20 = .ok (.isub, 1) := by decide +kernel
theorem d_MM_times_21 : decode b_MM_times 21 = .ok (.dup2, 1) := by decide +kernel
theorem d_MM_times_22 : decode b_MM_times 22 = .ok (.iaload, 1) := by decide +kernel
theorem d_MM_times_23 : decode b_MM_times 23 = .ok (.iload_n 2, 1) := by decide +kernel
theorem d_MM_times_24 : decode b_MM_times 24 = .ok (.iadd, 1) := by decide +kernel
theorem d_MM_times_25 : decode b_MM_times 25 = .ok (.iastore, 1) := by decide +kernel
theorem d_MM_times_26 : decode b_MM_times 26 = .ok (.return_, 1) := by decide +kernel
theorem d_MM_times_27 : decode b_MM_times 27 = .ok (.aload_n 0, 1) := by decide +kernel
theorem d_MM_times_28 : decode b_MM_times 28 = .ok (.getfield 148, 3) := by decide +kernel
theorem d_MM_times_31 : decode b_MM_times 31 = .ok (.iload_n 1, 1) := by decide +kernel
theorem d_MM_times_32 : decode b_MM_times 32 = .ok (.iaload, 1) := by decide +kernel
theorem d_MM_times_33 : decode b_MM_times 33 = .ok (.istore_n 3, 1) := by decide +kernel
theorem d_MM_times_34 : decode b_MM_times 34 = .ok (.iload_n 3, 1) := by decide +kernel
theorem d_MM_times_35 : decode b_MM_times 35 = .ok (.ifCond .lt 19, 3) := by decide +kernel
theorem d_MM_times_38 : decode b_MM_times 38 = .ok (.aload_n 0, 1) := by decide +kernel
theorem d_MM_times_39 : decode b_MM_times 39 = .ok (.iload_n 3, 1) := by decide +kernel
theorem d_MM_times_40 : decode b_MM_times 40 = .ok (.iload_n 2, 1) := by decide +kernel
theorem d_MM_times_41 : decode b_MM_times 41 = .ok (.invokevirtual 586, 3) := by decide +kernel
theorem d_MM_times_44 : decode b_MM_times 44 = .ok (.aload_n 0, 1) := by decide +kernel
theorem d_MM_times_45 : decode b_MM_times 45 = .ok (.getfield 151, 3) := by decide +kernel
theorem d_MM_times_48 : decode b_MM_times 48 = .ok (.iload_n 3, 1) := by decide +kernel
theorem d_MM_times_49 : decode b_MM_times 49 = .ok (.iaload, 1) := by decide +kernel
theorem d_MM_times_50 : decode b_MM_times 50 = .ok (.istore_n 3, 1) := by decide +kernel
theorem d_MM_times_51 : decode b_MM_times 51 = .ok (.goto (-17), 3) := by decide +kernel
theorem d_MM_times_54 : decode b_MM_times 54 = .ok (.return_, 1) := by decide +kernel
abbrev b_MM_inState : ByteArray := prog_14_method_132_code
def y_MM_inState : MethodName := ⟨"ClauseProverModel", "inState", "(I)I"⟩
theorem d_MM_inState_0 : decode b_MM_inState 0 = .ok (.iconst 0, 1) := by decide +kernel
theorem d_MM_inState_1 : decode b_MM_inState 1 = .ok (.istore_n 2, 1) := by decide +kernel
theorem d_MM_inState_2 : decode b_MM_inState 2 = .ok (.iconst 0, 1) := by decide +kernel
theorem d_MM_inState_3 : decode b_MM_inState 3 = .ok (.istore_n 3, 1) := by decide +kernel
theorem d_MM_inState_4 : decode b_MM_inState 4 = .ok (.iload_n 3, 1) := by decide +kernel
theorem d_MM_inState_5 : decode b_MM_inState 5 = .ok (.aload_n 0, 1) := by decide +kernel
theorem d_MM_inState_6 : decode b_MM_inState 6 = .ok (.getfield 269, 3) := by decide +kernel
theorem d_MM_inState_9 : decode b_MM_inState 9 = .ok (.if_icmp .ge 22, 3) := by decide +kernel
theorem d_MM_inState_12 : decode b_MM_inState 12 = .ok (.aload_n 0, 1) := by decide +kernel
theorem d_MM_inState_13 : decode b_MM_inState 13 = .ok (.getfield 256, 3) := by decide +kernel
theorem d_MM_inState_16 : decode b_MM_inState 16 = .ok (.iload_n 3, 1) := by decide +kernel
theorem d_MM_inState_17 : decode b_MM_inState 17 = .ok (.iaload, 1) := by decide +kernel
theorem d_MM_inState_18 : decode b_MM_inState 18 = .ok (.iload_n 1, 1) := by decide +kernel
theorem d_MM_inState_19 : decode b_MM_inState 19 = .ok (.if_icmp .ne 6, 3) := by decide +kernel
theorem d_MM_inState_22 : decode b_MM_inState 22 = .ok (.iinc 2 1, 3) := by decide +kernel
theorem d_MM_inState_25 : decode b_MM_inState 25 = .ok (.iinc 3 1, 3) := by decide +kernel
theorem d_MM_inState_28 : decode b_MM_inState 28 = .ok (.goto (-24), 3) := by decide +kernel
theorem d_MM_inState_31 : decode b_MM_inState 31 = .ok (.iload_n 2, 1) := by decide +kernel
theorem d_MM_inState_32 : decode b_MM_inState 32 = .ok (.ireturn, 1) := by decide +kernel
theorem tb_constant_1908 : Cond.constant "ClauseProverModel" 400 65516 ∈ lw_tbg := tb_in (i := 1908) (by decide +kernel) rfl
theorem tc_MM_refuse : Cond.code y_MM_refuse b_MM_refuse 3 (some (.boolean)) ∈ lw_tbg := tb_in (i := 1912) (by decide +kernel) rfl
theorem ti_MM : Cond.initialized "ClauseProverModel" ∈ lw_tbg := tb_in (i := 14) (by decide +kernel) rfl
theorem ml_MM_401 : ax_LV "ClauseProverModel" 401 y_MM_refuse b_MM_refuse 3 (some (.boolean)) 2 := ax_LV.mk (tb_in (i := 1909) (by decide +kernel) rfl) (tb_in (i := 1911) (by decide +kernel) rfl) (pv_in (i := 90) (by decide +kernel) rfl) ti_MM tc_MM_refuse (by decide +kernel)
theorem tc_MM_letter : Cond.code y_MM_letter b_MM_letter 2 (some (.boolean)) ∈ lw_tbg := tb_in (i := 1937) (by decide +kernel) rfl
theorem ml_MM_405 : ax_LV "ClauseProverModel" 405 y_MM_letter b_MM_letter 2 (some (.boolean)) 1 := ax_LV.mk (tb_in (i := 1934) (by decide +kernel) rfl) (tb_in (i := 1936) (by decide +kernel) rfl) (pv_in (i := 94) (by decide +kernel) rfl) ti_MM tc_MM_letter (by decide +kernel)
theorem tc_MM_count2 : Cond.code y_MM_count2 b_MM_count2 7 (some (.int)) ∈ lw_tbg := tb_in (i := 2096) (by decide +kernel) rfl
theorem ml_MM_532 : ax_LV "ClauseProverModel" 532 y_MM_count2 b_MM_count2 7 (some (.int)) 2 := ax_LV.mk (tb_in (i := 2093) (by decide +kernel) rfl) (tb_in (i := 2095) (by decide +kernel) rfl) (pv_in (i := 126) (by decide +kernel) rfl) ti_MM tc_MM_count2 (by decide +kernel)
theorem tc_MM_capped : Cond.code y_MM_capped b_MM_capped 1 (some (.int)) ∈ lw_tbg := tb_in (i := 2099) (by decide +kernel) rfl
theorem ml_MM_535 : ax_LS "ClauseProverModel" 535 y_MM_capped b_MM_capped 1 (some (.int)) 1 := ax_LS.mk (tb_in (i := 2097) (by decide +kernel) rfl) (tb_in (i := 2098) (by decide +kernel) rfl) ti_MM tc_MM_capped (by decide +kernel)
theorem tc_MM_fresh : Cond.code y_MM_fresh b_MM_fresh 2 (some (.int)) ∈ lw_tbg := tb_in (i := 2148) (by decide +kernel) rfl
theorem ml_MM_516 : ax_LV "ClauseProverModel" 516 y_MM_fresh b_MM_fresh 2 (some (.int)) 1 := ax_LV.mk (tb_in (i := 2145) (by decide +kernel) rfl) (tb_in (i := 2147) (by decide +kernel) rfl) (pv_in (i := 134) (by decide +kernel) rfl) ti_MM tc_MM_fresh (by decide +kernel)
theorem tc_MM_copy : Cond.code y_MM_copy b_MM_copy 6 (some (.int)) ∈ lw_tbg := tb_in (i := 2181) (by decide +kernel) rfl
theorem ml_MM_519 : ax_LV "ClauseProverModel" 519 y_MM_copy b_MM_copy 6 (some (.int)) 1 := ax_LV.mk (tb_in (i := 2178) (by decide +kernel) rfl) (tb_in (i := 2180) (by decide +kernel) rfl) (pv_in (i := 142) (by decide +kernel) rfl) ti_MM tc_MM_copy (by decide +kernel)
theorem tc_MM_same : Cond.code y_MM_same b_MM_same 5 (some (.boolean)) ∈ lw_tbg := tb_in (i := 2189) (by decide +kernel) rfl
theorem ml_MM_513 : ax_LV "ClauseProverModel" 513 y_MM_same b_MM_same 5 (some (.boolean)) 2 := ax_LV.mk (tb_in (i := 2186) (by decide +kernel) rfl) (tb_in (i := 2188) (by decide +kernel) rfl) (pv_in (i := 144) (by decide +kernel) rfl) ti_MM tc_MM_same (by decide +kernel)
theorem ml_MM_588 : ax_LS "ClauseProverModel" 588 y_Arr_fill1 b_Arr_fill1 4 none 2 := ax_LS.mk (tb_in (i := 2218) (by decide +kernel) rfl) (tb_in (i := 259) (by decide +kernel) rfl) ti_Arr tc_Arr_fill1 (by decide +kernel)
theorem tc_MM_times : Cond.code y_MM_times b_MM_times 4 none ∈ lw_tbg := tb_in (i := 2222) (by decide +kernel) rfl
theorem ml_MM_586 : ax_LV "ClauseProverModel" 586 y_MM_times b_MM_times 4 none 2 := ax_LV.mk (tb_in (i := 2219) (by decide +kernel) rfl) (tb_in (i := 2221) (by decide +kernel) rfl) (pv_in (i := 152) (by decide +kernel) rfl) ti_MM tc_MM_times (by decide +kernel)
theorem tc_MM_above : Cond.code y_MM_above b_MM_above 5 (some (.boolean)) ∈ lw_tbg := tb_in (i := 2226) (by decide +kernel) rfl
theorem ml_MM_594 : ax_LV "ClauseProverModel" 594 y_MM_above b_MM_above 5 (some (.boolean)) 2 := ax_LV.mk (tb_in (i := 2223) (by decide +kernel) rfl) (tb_in (i := 2225) (by decide +kernel) rfl) (pv_in (i := 153) (by decide +kernel) rfl) ti_MM tc_MM_above (by decide +kernel)
theorem tc_MM_inState : Cond.code y_MM_inState b_MM_inState 4 (some (.int)) ∈ lw_tbg := tb_in (i := 2483) (by decide +kernel) rfl
theorem ml_MM_794 : ax_LV "ClauseProverModel" 794 y_MM_inState b_MM_inState 4 (some (.int)) 1 := ax_LV.mk (tb_in (i := 2480) (by decide +kernel) rfl) (tb_in (i := 2482) (by decide +kernel) rfl) (pv_in (i := 203) (by decide +kernel) rfl) ti_MM tc_MM_inState (by decide +kernel)
theorem tb_methodLink_2100 : Cond.methodLink "ClauseProverModel" 538 ⟨"java/lang/Math", "min", "(II)I"⟩ ∈ lw_tbg := tb_in (i := 2100) (by decide +kernel) rfl
theorem tb_static_610 : Cond.static ⟨"java/lang/Math", "min", "(II)I"⟩ ∈ lw_tbg := tb_in (i := 610) (by decide +kernel) rfl
theorem tb_initialized_19 : Cond.initialized "java/lang/Math" ∈ lw_tbg := tb_in (i := 19) (by decide +kernel) rfl
theorem tcm_min : Cond.code Lib.Math.min.name Lib.Math.min.code 2 (some .int) ∈ lw_tbg := tb_in (i := 611) (by decide +kernel) rfl
theorem tc_MM_greater : Cond.code y_MM_greater b_MM_greater 4 (some (.boolean)) ∈ lw_tbg := tb_in (i := 2217) (by decide +kernel) rfl
theorem ml_MM_597 : ax_LV "ClauseProverModel" 597 y_MM_greater b_MM_greater 4 (some (.boolean)) 2 := ax_LV.mk (tb_in (i := 2214) (by decide +kernel) rfl) (tb_in (i := 2216) (by decide +kernel) rfl) (pv_in (i := 151) (by decide +kernel) rfl) ti_MM tc_MM_greater (by decide +kernel)
section MCR
variable {p : Program} {l : Launch} {e : Env} {R : Room} {s : State} {m : MethodId} {args : Array Value} {below : List Frame} {meth : Method} {c : Code} {Q : State → Prop} {D : va_G} {kA : Nat → ClassId} {A : Nat → Prop} {nL : Nat} {cc : ByteArray} {ret : Option FieldType} {pc cells slots : Nat} {ls : List (Nat × Value)} {st rest : List Value} {z : Nat} {v : Nat → Nat} {σ : mS} {σ2 : mS}
theorem rg_all {α : Type} (L : List α) : (List.range L.length).map (fun i => L[i]?) = L.map some := by
  apply List.ext_getElem?
  intro i
  by_cases h : i < L.length
  · simp [h]
  · simp [h]
theorem rg_take {α : Type} (L : List α) (q : Nat) (hq : q ≤ L.length) : (List.range q).map (fun i => L[i]?) = (L.take q).map some := by
  apply List.ext_getElem?
  intro i
  by_cases h : i < q
  · have h2 : i < L.length := by omega
    simp [h, h2]
  · simp [h]
    omega
theorem rg_drop {α : Type} (L : List α) (q : Nat) : (List.range (L.length - q)).map (fun i => L[q + i]?) = (L.drop q).map some := by
  apply List.ext_getElem?
  intro i
  by_cases h : i < L.length - q
  · have h2 : q + i < L.length := by omega
    simp [h, h2]
  · have h2 : ¬ q + i < L.length := by omega
    simp [h, h2]
theorem rg_rm {α : Type} (L : List α) (q n : Nat) (hn : L.length = n) (hq : q < n) : (List.range q ++ (List.range (n - (q + 1))).map (q + 1 + ·)).map (fun i => L[i]?) = (L.take q ++ L.drop (q + 1)).map some := by
  subst hn
  rw [List.map_append, List.map_append, rg_take L q (by omega), List.map_map, ← rg_drop L (q + 1)]
  rfl
theorem rg_put {α : Type} (L : List α) (q n : Nat) (c : α) (hn : L.length = n) (hq : q < n) : (List.range q ++ (n - 1) :: (List.range (n - (q + 1))).map (q + ·)).map (fun i => ((L.take q ++ L.drop (q + 1)) ++ [c])[i]?) = (L.set q c).map some := by
  subst hn
  have hl : (L.take q ++ L.drop (q + 1)).length = L.length - 1 := by simp; omega
  have e1 : L.set q c = L.take q ++ c :: L.drop (q + 1) := List.set_eq_take_append_cons_drop .. ▸ (by simp [hq])
  rw [e1, List.map_append, List.map_append, List.map_cons, List.map_cons]
  congr 1
  · rw [← rg_take L q (by omega)]
    apply List.map_congr_left
    intro i hi
    have hi : i < q := List.mem_range.mp hi
    rw [List.append_assoc, List.getElem?_append_left (by simp; omega), List.getElem?_take_of_lt hi]
  · congr 1
    · rw [List.getElem?_append_right (by omega), hl]; simp
    · rw [← rg_drop L (q + 1), List.map_map]
      apply List.map_congr_left
      intro i hi
      have hi : i < L.length - (q + 1) := List.mem_range.mp hi
      show ((L.take q ++ L.drop (q + 1)) ++ [c])[q + i]? = _
      rw [List.getElem?_append_left (by rw [hl]; omega), List.getElem?_append_right (by simp; omega)]
      simp
      congr 1
      omega
set_option maxRecDepth 4000 in
theorem mm_len : (mmW kA z v σ).length = 86 := rfl
theorem mm_all : (List.range 86).map (fun i => (mmW kA z v σ)[i]?) = (mmW kA z v σ).map some := by have h := rg_all (mmW kA z v σ); rw [mm_len] at h; exact h
theorem mc_Vi (C : ax_C p s m args meth c cc "ClauseProverModel" nL ret D kA A) {idx n : Nat} {y : MethodName} {cc2 : ByteArray} {nL2 : Nat} {ret2 : FieldType} {fr lo : Nat} {As : List Value} {r0 : Int32} (hM : ax_Mi l D kA y cc2 nL2 ret2 fr lo 0 0 (.ref z :: As) (mmW kA z v σ) (fun r w1 => r = r0 ∧ w1 = mmW kA z v σ2)) (L : ax_LV "ClauseProverModel" idx y cc2 nL2 (some ret2) n) (hdg : decode cc pc = .ok (.invokevirtual idx, 3)) (hst : st = As.reverse ++ .ref z :: rest) (hlen : As.length = n) (hfr : fr + 1 ≤ R.frames) (hlo : 8 + (nL2 + 11) + lo ≤ R.locals) (hce : cells ≤ R.cells) (hsl : slots ≤ R.slots) (hsum : (rest.map fun v => v.category).sum ≤ 8) (k : AW p l e R s m args below meth c D kA A nL Q (pc + 3) ls (.int r0 :: rest) (mmW kA z v σ2) cells slots) (hy : R_MM = y.cls := by rfl) : AW p l e R s m args below meth c D kA A nL Q pc ls st (mmW kA z v σ) cells slots :=
  ax_callVi C (wr := []) hM L 0 rfl rfl hy hdg hst hlen (List.range 86) [] mm_all (by decide +kernel) rfl (by decide) (by intro i h; cases h) hfr hlo hce hsl hsum (fun r w1 hw => by obtain ⟨rfl, rfl⟩ := hw; exact k)
theorem mc_Vv (C : ax_C p s m args meth c cc "ClauseProverModel" nL ret D kA A) {idx n : Nat} {y : MethodName} {cc2 : ByteArray} {nL2 : Nat} {fr lo : Nat} {As : List Value} (hM : ax_Mv l D kA y cc2 nL2 fr lo 0 0 (.ref z :: As) (mmW kA z v σ) (fun w1 => w1 = mmW kA z v σ2)) (L : ax_LV "ClauseProverModel" idx y cc2 nL2 none n) (hdg : decode cc pc = .ok (.invokevirtual idx, 3)) (hst : st = As.reverse ++ .ref z :: rest) (hlen : As.length = n) (hfr : fr + 1 ≤ R.frames) (hlo : 8 + (nL2 + 11) + lo ≤ R.locals) (hce : cells ≤ R.cells) (hsl : slots ≤ R.slots) (hsum : (rest.map fun v => v.category).sum ≤ 8) (k : AW p l e R s m args below meth c D kA A nL Q (pc + 3) ls rest (mmW kA z v σ2) cells slots) (hy : R_MM = y.cls := by rfl) : AW p l e R s m args below meth c D kA A nL Q pc ls st (mmW kA z v σ) cells slots :=
  ax_callVv C (wr := []) hM L 0 rfl rfl hy hdg hst hlen (List.range 86) [] mm_all (by decide +kernel) rfl (by decide) (by intro i h; cases h) hfr hlo hce hsl hsum (fun w1 hw => by obtain rfl := hw; exact k)
theorem mc_Si (C : ax_C p s m args meth c cc "ClauseProverModel" nL ret D kA A) {idx n : Nat} {y : MethodName} {cc2 : ByteArray} {nL2 : Nat} {ret2 : FieldType} {fr lo : Nat} {As : List Value} {r0 : Int32} (hM : ax_Mi l D kA y cc2 nL2 ret2 fr lo 0 0 As (mmW kA z v σ) (fun r w1 => r = r0 ∧ w1 = mmW kA z v σ2)) (L : ax_LS "ClauseProverModel" idx y cc2 nL2 (some ret2) n) (hdg : decode cc pc = .ok (.invokestatic idx, 3)) (hst : st = As.reverse ++ rest) (hlen : As.length = n) (hfr : fr + 1 ≤ R.frames) (hlo : 8 + (nL2 + 11) + lo ≤ R.locals) (hce : cells ≤ R.cells) (hsl : slots ≤ R.slots) (hsum : (rest.map fun v => v.category).sum ≤ 8) (k : AW p l e R s m args below meth c D kA A nL Q (pc + 3) ls (.int r0 :: rest) (mmW kA z v σ2) cells slots) : AW p l e R s m args below meth c D kA A nL Q pc ls st (mmW kA z v σ) cells slots :=
  ax_callSi C (wr := []) hM L hdg hst hlen (List.range 86) [] mm_all (by decide +kernel) rfl (by decide) (by intro i h; cases h) hfr hlo hce hsl hsum (fun r w1 hw => by obtain ⟨rfl, rfl⟩ := hw; exact k)
theorem i32q {x y : Int32} (h : x.toInt = y.toInt) : x = y := Int32.toInt_inj.mp h
theorem mx_max (C : ax_C p s m args meth c cc "ClauseProverModel" nL ret D kA A) {idx d F Lo : Nat} {x y : Int32} {ws : va_W} (h1 : Cond.methodLink "ClauseProverModel" idx Lib.Math.max.name ∈ lw_tbg) (h2 : Cond.static Lib.Math.max.name ∈ lw_tbg) (h3 : Cond.initialized "java/lang/Math" ∈ lw_tbg) (h4 : Cond.code Lib.Math.max.name Lib.Math.max.code 2 (some .int) ∈ lw_tbg) (hdg : decode cc pc = .ok (.invokestatic idx, 3)) (hF : d + 1 ≤ F) (hsum : (rest.map fun v => v.category).sum ≤ 8) (k : AW p l e { frames := F, cells := 0, slots := 0, locals := Lo } s m args below meth c D kA A nL Q (pc + 3) ls (.int (if x < y then y else x) :: rest) ws 0 0) (hLo : 21 ≤ Lo := by omega) : AW p l e { frames := F, cells := 0, slots := 0, locals := Lo } s m args below meth c D kA A nL Q pc ls (.int y :: .int x :: rest) ws 0 0 := fun H locs la hP hD hS hl =>
  va_mmax C.1 C.2.1 (by rw [C.2.2.1]; exact hl.1.symm) C.2.2.2.1 (C.2.2.2.2.1 _ h1) (C.2.2.2.2.1 _ h2) (C.2.2.2.2.1 _ h3) (C.2.2.2.2.1 _ h4) (by show 1 ≤ F; omega) (by show _ + 13 ≤ Lo; omega) (Nat.le_refl _) (Nat.le_refl _) hdg (k H locs la hP hD hS hl)
theorem mx_min (C : ax_C p s m args meth c cc "ClauseProverModel" nL ret D kA A) {idx d F Lo : Nat} {x y : Int32} {ws : va_W} (h1 : Cond.methodLink "ClauseProverModel" idx Lib.Math.min.name ∈ lw_tbg) (h2 : Cond.static Lib.Math.min.name ∈ lw_tbg) (h3 : Cond.initialized "java/lang/Math" ∈ lw_tbg) (h4 : Cond.code Lib.Math.min.name Lib.Math.min.code 2 (some .int) ∈ lw_tbg) (hdg : decode cc pc = .ok (.invokestatic idx, 3)) (hF : d + 1 ≤ F) (hsum : (rest.map fun v => v.category).sum ≤ 8) (k : AW p l e { frames := F, cells := 0, slots := 0, locals := Lo } s m args below meth c D kA A nL Q (pc + 3) ls (.int (if y < x then y else x) :: rest) ws 0 0) (hLo : 21 ≤ Lo := by omega) : AW p l e { frames := F, cells := 0, slots := 0, locals := Lo } s m args below meth c D kA A nL Q pc ls (.int y :: .int x :: rest) ws 0 0 := fun H locs la hP hD hS hl =>
  va_mmin C.1 C.2.1 (by rw [C.2.2.1]; exact hl.1.symm) C.2.2.2.1 (C.2.2.2.2.1 _ h1) (C.2.2.2.2.1 _ h2) (C.2.2.2.2.1 _ h3) (C.2.2.2.2.1 _ h4) (by show 1 ≤ F; omega) (by show _ + 13 ≤ Lo; omega) (Nat.le_refl _) (Nat.le_refl _) hdg (k H locs la hP hD hS hl)
set_option maxRecDepth 4000 in
theorem mf_102 (C : ax_C p s m args meth c cc "ClauseProverModel" nL ret D kA A) {idx d F Lo : Nat} {x : Int32} (L : ax_LS "ClauseProverModel" idx y_Arr_fill1 b_Arr_fill1 4 none 2) (hdg : decode cc pc = .ok (.invokestatic idx, 3)) (hst : st = [.int x, .ref (v 62)] ++ rest) (hF : d + 1 ≤ F) (hLo : 64 * d + 64 ≤ Lo) (hsum : (rest.map fun v => v.category).sum ≤ 8) (k : AW p l e { frames := F, cells := 0, slots := 0, locals := Lo } s m args below meth c D kA A nL Q (pc + 3) ls rest (mmW kA z v (mFl σ 102 x 8)) 0 0) : AW p l e { frames := F, cells := 0, slots := 0, locals := Lo } s m args below meth c D kA A nL Q pc ls st (mmW kA z v σ) 0 0 := by
  refine ax_callSv C (As := [.ref (v 62), .int x]) (rest := rest) (wr := (mmW kA z v σ).take 63 ++ (mmW kA z v σ).drop (63 + 1)) (c_Arr_fill1 l D kA (v 62) 8 (σ.2.1 102) x (by decide)) L hdg hst rfl [63] (List.range 63 ++ (List.range (86 - (63 + 1))).map (63 + 1 + ·)) rfl (by decide) (rg_rm _ 63 86 mm_len (by decide)) (by decide +kernel) (by decide +kernel) (by show 0 + 1 ≤ F; omega) (by show 8 + (4 + 11) + 0 ≤ Lo; omega) (Nat.le_refl _) (Nat.le_refl _) hsum (fun w1 hw => ?_)
  obtain rfl := hw
  exact ax_sub (List.range 63 ++ (86 - 1) :: (List.range (86 - (63 + 1))).map (63 + ·)) _ (by decide +kernel) (rg_put (mmW kA z v σ) 63 86 ((v 62), .inl (kA 0, 8, .inl (ax_fill (σ.2.1 102) x 8))) mm_len (by decide)) (ax_w (mmW kA z v (mFl σ 102 x 8)) rfl k)
end MCR
