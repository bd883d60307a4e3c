abbrev b_MM_sayNumber : ByteArray := prog_14_method_117_code
def y_MM_sayNumber : MethodName := ⟨"ClauseProverModel", "sayNumber", "(I)V"⟩
theorem d_MM_sayNumber_0 : decode b_MM_sayNumber 0 = .ok (.iload_n 1, 1) := by decide +kernel
theorem d_MM_sayNumber_1 : decode b_MM_sayNumber 1 = .ok (.bipush 9, 2) := by decide +kernel
theorem d_MM_sayNumber_3 : decode b_MM_sayNumber 3 = .ok (.if_icmp .le 11, 3) := by decide +kernel
theorem d_MM_sayNumber_6 : decode b_MM_sayNumber 6 = .ok (.aload_n 0, 1) := by decide +kernel
theorem d_MM_sayNumber_7 : decode b_MM_sayNumber 7 = .ok (.iload_n 1, 1) := by decide +kernel
theorem d_MM_sayNumber_8 : decode b_MM_sayNumber 8 = .ok (.bipush 10, 2) := by decide +kernel
theorem d_MM_sayNumber_10 : decode b_MM_sayNumber 10 = .ok (.idiv, 1) := by decide +kernel
theorem d_MM_sayNumber_11 : decode b_MM_sayNumber 11 = .ok (.invokevirtual 762, 3) := by decide +kernel
theorem d_MM_sayNumber_14 : decode b_MM_sayNumber 14 = .ok (.aload_n 0, 1) := by decide +kernel
theorem d_MM_sayNumber_15 : decode b_MM_sayNumber 15 = .ok (.bipush 48, 2) := by decide +kernel
theorem d_MM_sayNumber_17 : decode b_MM_sayNumber 17 = .ok (.iload_n 1, 1) := by decide +kernel
theorem d_MM_sayNumber_18 : decode b_MM_sayNumber 18 = .ok (.bipush 10, 2) := by decide +kernel
theorem d_MM_sayNumber_20 : decode b_MM_sayNumber 20 = .ok (.irem, 1) := by decide +kernel
theorem d_MM_sayNumber_21 : decode b_MM_sayNumber 21 = .ok (.iadd, 1) := by decide +kernel
theorem d_MM_sayNumber_22 : decode b_MM_sayNumber 22 = .ok (.invokevirtual 765, 3) := by decide +kernel
theorem d_MM_sayNumber_25 : decode b_MM_sayNumber 25 = .ok (.return_, 1) := by decide +kernel
abbrev b_MM_sayTerm : ByteArray := prog_14_method_118_code
def y_MM_sayTerm : MethodName := ⟨"ClauseProverModel", "sayTerm", "(I)V"⟩
theorem d_MM_sayTerm_0 : decode b_MM_sayTerm 0 = .ok (.aload_n 0, 1) := by decide +kernel
theorem d_MM_sayTerm_1 : decode b_MM_sayTerm 1 = .ok (.getfield 145, 3) := by decide +kernel
theorem d_MM_sayTerm_4 : decode b_MM_sayTerm 4 = .ok (.iload_n 1, 1) := by decide +kernel
theorem d_MM_sayTerm_5 : decode b_MM_sayTerm 5 = .ok (.iaload, 1) := by decide +kernel
theorem d_MM_sayTerm_6 : decode b_MM_sayTerm 6 = .ok (.ifCond .ge 22, 3) := by decide +kernel
theorem d_MM_sayTerm_9 : decode b_MM_sayTerm 9 = .ok (.aload_n 0, 1) := by decide +kernel
theorem d_MM_sayTerm_10 : decode b_MM_sayTerm 10 = .ok (.bipush 88, 2) := by decide +kernel
theorem d_MM_sayTerm_12 : decode b_MM_sayTerm 12 = .ok (.invokevirtual 765, 3) := by decide +kernel
theorem d_MM_sayTerm_15 : decode b_MM_sayTerm 15 = .ok (.aload_n 0, 1) := by decide +kernel
theorem d_MM_sayTerm_16 : decode b_MM_sayTerm 16 = .ok (.iconst (-1), 1) := by decide +kernel
theorem d_MM_sayTerm_17 : decode b_MM_sayTerm 17 = .ok (.aload_n 0, 1) := by decide +kernel
theorem d_MM_sayTerm_18 : decode b_MM_sayTerm 18 = .ok (.getfield 145, 3) := by decide +kernel
theorem d_MM_sayTerm_21 : decode b_MM_sayTerm 21 = .ok (.iload_n 1, 1) := by decide +kernel
theorem d_MM_sayTerm_22 : decode b_MM_sayTerm 22 = .ok (.iaload, 1) := by decide +kernel
theorem d_MM_sayTerm_23 : decode b_MM_sayTerm 23 = .ok (.isub, 1) := by decide +kernel
theorem d_MM_sayTerm_24 : decode b_MM_sayTerm 24 = .ok (.invokevirtual 762, 3) := by decide +kernel
theorem d_MM_sayTerm_27 : decode b_MM_sayTerm 27 = .ok (.return_, 1) := by decide +kernel
theorem d_MM_sayTerm_28 : decode b_MM_sayTerm 28 = .ok (.aload_n 0, 1) := by decide +kernel
theorem d_MM_sayTerm_29 : decode b_MM_sayTerm 29 = .ok (.getfield 145, 3) := by decide +kernel
theorem d_MM_sayTerm_32 : decode b_MM_sayTerm 32 = .ok (.iload_n 1, 1) := by decide +kernel
theorem d_MM_sayTerm_33 : decode b_MM_sayTerm 33 = .ok (.iaload, 1) := by decide +kernel
theorem d_MM_sayTerm_34 : decode b_MM_sayTerm 34 = .ok (.aload_n 0, 1) := by decide +kernel
theorem d_MM_sayTerm_35 : decode b_MM_sayTerm 35 = .ok (.getfield 74, 3) := by decide +kernel
theorem d_MM_sayTerm_38 : decode b_MM_sayTerm 38 = .ok (.if_icmp .le 29, 3) := by decide +kernel
theorem d_MM_sayTerm_41 : decode b_MM_sayTerm 41 = .ok (.aload_n 0, 1) := by decide +kernel
theorem d_MM_sayTerm_42 : decode b_MM_sayTerm 42 = .ok (.bipush 119, 2) := by decide +kernel
theorem d_MM_sayTerm_44 : decode b_MM_sayTerm 44 = .ok (.invokevirtual 765, 3) := by decide +kernel
theorem d_MM_sayTerm_47 : decode b_MM_sayTerm 47 = .ok (.aload_n 0, 1) := by decide +kernel
theorem d_MM_sayTerm_48 : decode b_MM_sayTerm 48 = .ok (.aload_n 0, 1) := by decide +kernel
theorem d_MM_sayTerm_49 : decode b_MM_sayTerm 49 = .ok (.getfield 145, 3) := by decide +kernel
theorem d_MM_sayTerm_52 : decode b_MM_sayTerm 52 = .ok (.iload_n 1, 1) := by decide +kernel
theorem d_MM_sayTerm_53 : decode b_MM_sayTerm 53 = .ok (.iaload, 1) := by decide +kernel
theorem d_MM_sayTerm_54 : decode b_MM_sayTerm 54 = .ok (.aload_n 0, 1) := by decide +kernel
theorem d_MM_sayTerm_55 : decode b_MM_sayTerm 55 = .ok (.getfield 74, 3) := by decide +kernel
theorem d_MM_sayTerm_58 : decode b_MM_sayTerm 58 = .ok (.isub, 1) := by decide +kernel
theorem d_MM_sayTerm_59 : decode b_MM_sayTerm 59 = .ok (.iconst 1, 1) := by decide +kernel
theorem d_MM_sayTerm_60 : decode b_MM_sayTerm 60 = .ok (.isub, 1) := by decide +kernel
theorem d_MM_sayTerm_61 : decode b_MM_sayTerm 61 = .ok (.invokevirtual 762, 3) := by decide +kernel
theorem d_MM_sayTerm_64 : decode b_MM_sayTerm 64 = .ok (.goto 48, 3) := by decide +kernel
theorem d_MM_sayTerm_67 : decode b_MM_sayTerm 67 = .ok (.iconst 0, 1) := by decide +kernel
theorem d_MM_sayTerm_68 : decode b_MM_sayTerm 68 = .ok (.istore_n 2, 1) := by decide +kernel
theorem d_MM_sayTerm_69 : decode b_MM_sayTerm 69 = .ok (.iload_n 2, 1) := by decide +kernel
theorem d_MM_sayTerm_70 : decode b_MM_sayTerm 70 = .ok (.aload_n 0, 1) := by decide +kernel
theorem d_MM_sayTerm_71 : decode b_MM_sayTerm 71 = .ok (.getfield 56, 3) := by decide +kernel
theorem d_MM_sayTerm_74 : decode b_MM_sayTerm 74 = .ok (.aload_n 0, 1) := by decide +kernel
theorem d_MM_sayTerm_75 : decode b_MM_sayTerm 75 = .ok (.getfield 145, 3) := by decide +kernel
theorem d_MM_sayTerm_78 : decode b_MM_sayTerm 78 = .ok (.iload_n 1, 1) := by decide +kernel
theorem d_MM_sayTerm_79 : decode b_MM_sayTerm 79 = .ok (.iaload, 1) := by decide +kernel
theorem d_MM_sayTerm_80 : decode b_MM_sayTerm 80 = .ok (.iaload, 1) := by decide +kernel
theorem d_MM_sayTerm_81 : decode b_MM_sayTerm 81 = .ok (.if_icmp .ge 31, 3) := by decide +kernel
theorem d_MM_sayTerm_84 : decode b_MM_sayTerm 84 = .ok (.aload_n 0, 1) := by decide +kernel
theorem d_MM_sayTerm_85 : decode b_MM_sayTerm 85 = .ok (.aload_n 0, 1) := by decide +kernel
theorem d_MM_sayTerm_86 : decode b_MM_sayTerm 86 = .ok (.getfield 65, 3) := by decide +kernel
theorem d_MM_sayTerm_89 : decode b_MM_sayTerm 89 = .ok (.aload_n 0, 1) := by decide +kernel
theorem d_MM_sayTerm_90 : decode b_MM_sayTerm 90 = .ok (.getfield 52, 3) := by decide +kernel
theorem d_MM_sayTerm_93 : decode b_MM_sayTerm 93 = .ok (.aload_n 0, 1) := by decide +kernel
theorem d_MM_sayTerm_94 : decode b_MM_sayTerm 94 = .ok (.getfield 145, 3) := by decide +kernel
theorem d_MM_sayTerm_97 : decode b_MM_sayTerm 97 = .ok (.iload_n 1, 1) := by decide +kernel
theorem d_MM_sayTerm_98 : decode b_MM_sayTerm 98 = .ok (.iaload, 1) := by decide +kernel
theorem d_MM_sayTerm_99 : decode b_MM_sayTerm 99 = .ok (.iaload, 1) := by decide +kernel
theorem d_MM_sayTerm_100 : decode b_MM_sayTerm 100 = .ok (.iload_n 2, 1) := by decide +kernel
theorem d_MM_sayTerm_101 : decode b_MM_sayTerm 101 = .ok (.iadd, 1) := by decide +kernel
theorem d_MM_sayTerm_102 : decode b_MM_sayTerm 102 = .ok (.baload, 1) := by decide +kernel
theorem d_MM_sayTerm_103 : decode b_MM_sayTerm 103 = .ok (.invokevirtual 765, 3) := by decide +kernel
theorem d_MM_sayTerm_106 : decode b_MM_sayTerm 106 = .ok (.iinc 2 1, 3) := by decide +kernel
theorem d_MM_sayTerm_109 : decode b_MM_sayTerm 109 = .ok (.goto (-40), 3) := by decide +kernel
theorem d_MM_sayTerm_112 : decode b_MM_sayTerm 112 = .ok (.aload_n 0, 1) := by decide +kernel
theorem d_MM_sayTerm_113 : decode b_MM_sayTerm 113 = .ok (.getfield 148, 3) := by decide +kernel
theorem d_MM_sayTerm_116 : decode b_MM_sayTerm 116 = .ok (.iload_n 1, 1) := by decide +kernel
theorem d_MM_sayTerm_117 : decode b_MM_sayTerm 117 = .ok (.iaload, 1) := by decide +kernel
theorem d_MM_sayTerm_118 : decode b_MM_sayTerm 118 = .ok (.ifCond .ge 4, 3) := by decide +kernel
theorem d_MM_sayTerm_121 : decode b_MM_sayTerm 121 = .ok (.return_, 1) := by decide +kernel
theorem d_MM_sayTerm_122 : decode b_MM_sayTerm 122 = .ok (.bipush 40, 2) := by decide +kernel
theorem d_MM_sayTerm_124 : decode b_MM_sayTerm 124 = .ok (.istore_n 2, 1) := by decide +kernel
theorem d_MM_sayTerm_125 : decode b_MM_sayTerm 125 = .ok (.aload_n 0, 1) := by decide +kernel
theorem d_MM_sayTerm_126 : decode b_MM_sayTerm 126 = .ok (.getfield 148, 3) := by decide +kernel
theorem d_MM_sayTerm_129 : decode b_MM_sayTerm 129 = .ok (.iload_n 1, 1) := by decide +kernel
theorem d_MM_sayTerm_130 : decode b_MM_sayTerm 130 = .ok (.iaload, 1) := by decide +kernel
theorem d_MM_sayTerm_131 : decode b_MM_sayTerm 131 = .ok (.istore_n 3, 1) := by decide +kernel
theorem d_MM_sayTerm_132 : decode b_MM_sayTerm 132 = .ok (.iload_n 3, 1) := by decide +kernel
theorem d_MM_sayTerm_133 : decode b_MM_sayTerm 133 = .ok (.ifCond .lt 26, 3) := by decide +kernel
theorem d_MM_sayTerm_136 : decode b_MM_sayTerm 136 = .ok (.aload_n 0, 1) := by decide +kernel
theorem d_MM_sayTerm_137 : decode b_MM_sayTerm 137 = .ok (.iload_n 2, 1) := by decide +kernel
theorem d_MM_sayTerm_138 : decode b_MM_sayTerm 138 = .ok (.invokevirtual 765, 3) := by decide +kernel
theorem d_MM_sayTerm_141 : decode b_MM_sayTerm 141 = .ok (.aload_n 0, 1) := by decide +kernel
theorem d_MM_sayTerm_142 : decode b_MM_sayTerm 142 = .ok (.iload_n 3, 1) := by decide +kernel
theorem d_MM_sayTerm_143 : decode b_MM_sayTerm 143 = .ok (.invokevirtual 768, 3) := by decide +kernel
theorem d_MM_sayTerm_146 : decode b_MM_sayTerm 146 = .ok (.bipush 44, 2) := by decide +kernel
theorem d_MM_sayTerm_148 : decode b_MM_sayTerm 148 = .ok (.istore_n 2, 1) := by decide +kernel
theorem d_MM_sayTerm_149 : decode b_MM_sayTerm 149 = .ok (.aload_n 0, 1) := by decide +kernel
theorem d_MM_sayTerm_150 : decode b_MM_sayTerm 150 = .ok (.getfield 151, 3) := by decide +kernel
theorem d_MM_sayTerm_153 : decode b_MM_sayTerm 153 = .ok (.iload_n 3, 1) := by decide +kernel
theorem d_MM_sayTerm_154 : decode b_MM_sayTerm 154 = .ok (.iaload, 1) := by decide +kernel
theorem d_MM_sayTerm_155 : decode b_MM_sayTerm 155 = .ok (.istore_n 3, 1) := by decide +kernel
theorem d_MM_sayTerm_156 : decode b_MM_sayTerm 156 = .ok (.goto (-24), 3) := by decide +kernel
theorem d_MM_sayTerm_159 : decode b_MM_sayTerm 159 = .ok (.aload_n 0, 1) := by decide +kernel
theorem d_MM_sayTerm_160 : decode b_MM_sayTerm 160 = .ok (.bipush 41, 2) := by decide +kernel
theorem d_MM_sayTerm_162 : decode b_MM_sayTerm 162 = .ok (.invokevirtual 765, 3) := by decide +kernel
theorem d_MM_sayTerm_165 : decode b_MM_sayTerm 165 = .ok (.return_, 1) := by decide +kernel
abbrev b_MM_sayLiteral : ByteArray := prog_14_method_120_code
def y_MM_sayLiteral : MethodName := ⟨"ClauseProverModel", "sayLiteral", "(I)V"⟩
theorem d_MM_sayLiteral_0 : decode b_MM_sayLiteral 0 = .ok (.aload_n 0, 1) := by decide +kernel
theorem d_MM_sayLiteral_1 : decode b_MM_sayLiteral 1 = .ok (.aload_n 0, 1) := by decide +kernel
theorem d_MM_sayLiteral_2 : decode b_MM_sayLiteral 2 = .ok (.getfield 214, 3) := by decide +kernel
theorem d_MM_sayLiteral_5 : decode b_MM_sayLiteral 5 = .ok (.iload_n 1, 1) := by decide +kernel
theorem d_MM_sayLiteral_6 : decode b_MM_sayLiteral 6 = .ok (.iaload, 1) := by decide +kernel
theorem d_MM_sayLiteral_7 : decode b_MM_sayLiteral 7 = .ok (.invokevirtual 617, 3) := by decide +kernel
theorem d_MM_sayLiteral_10 : decode b_MM_sayLiteral 10 = .ok (.ifCond .eq 26, 3) := by decide +kernel
theorem d_MM_sayLiteral_13 : decode b_MM_sayLiteral 13 = .ok (.aload_n 0, 1) := by decide +kernel
theorem d_MM_sayLiteral_14 : decode b_MM_sayLiteral 14 = .ok (.getfield 145, 3) := by decide +kernel
theorem d_MM_sayLiteral_17 : decode b_MM_sayLiteral 17 = .ok (.aload_n 0, 1) := by decide +kernel
theorem d_MM_sayLiteral_18 : decode b_MM_sayLiteral 18 = .ok (.getfield 214, 3) := by decide +kernel
theorem d_MM_sayLiteral_21 : decode b_MM_sayLiteral 21 = .ok (.iload_n 1, 1) := by decide +kernel
theorem d_MM_sayLiteral_22 : decode b_MM_sayLiteral 22 = .ok (.iaload, 1) := by decide +kernel
theorem d_MM_sayLiteral_23 : decode b_MM_sayLiteral 23 = .ok (.iaload, 1) := by decide +kernel
theorem d_MM_sayLiteral_24 : decode b_MM_sayLiteral 24 = .ok (.ifCond .le 12, 3) := by decide +kernel
theorem d_MM_sayLiteral_27 : decode b_MM_sayLiteral 27 = .ok (.aload_n 0, 1) := by decide +kernel
theorem d_MM_sayLiteral_28 : decode b_MM_sayLiteral 28 = .ok (.getfield 214, 3) := by decide +kernel
theorem d_MM_sayLiteral_31 : decode b_MM_sayLiteral 31 = .ok (.iload_n 1, 1) := by decide +kernel
theorem d_MM_sayLiteral_32 : decode b_MM_sayLiteral 32 = .ok (.iaload, 1) := by decide +kernel
theorem d_MM_sayLiteral_33 : decode b_MM_sayLiteral 33 = .ok (.goto 40, 3) := by decide +kernel
theorem d_MM_sayLiteral_36 : decode b_MM_sayLiteral 36 = .ok (.aload_n 0, 1) := by decide +kernel
theorem d_MM_sayLiteral_37 : decode b_MM_sayLiteral 37 = .ok (.aload_n 0, 1) := by decide +kernel
theorem d_MM_sayLiteral_38 : decode b_MM_sayLiteral 38 = .ok (.getfield 217, 3) := by decide +kernel
theorem d_MM_sayLiteral_41 : decode b_MM_sayLiteral 41 = .ok (.iload_n 1, 1) := by decide +kernel
theorem d_MM_sayLiteral_42 : decode b_MM_sayLiteral 42 = .ok (.iaload, 1) := by decide +kernel
theorem d_MM_sayLiteral_43 : decode b_MM_sayLiteral 43 = .ok (.invokevirtual 617, 3) := by decide +kernel
theorem d_MM_sayLiteral_46 : decode b_MM_sayLiteral 46 = .ok (.ifCond .eq 26, 3) := by decide +kernel
theorem d_MM_sayLiteral_49 : decode b_MM_sayLiteral 49 = .ok (.aload_n 0, 1) := by decide +kernel
theorem d_MM_sayLiteral_50 : decode b_MM_sayLiteral 50 = .ok (.getfield 145, 3) := by decide +kernel
theorem d_MM_sayLiteral_53 : decode b_MM_sayLiteral 53 = .ok (.aload_n 0, 1) := by decide +kernel
theorem d_MM_sayLiteral_54 : decode b_MM_sayLiteral 54 = .ok (.getfield 217, 3) := by decide +kernel
theorem d_MM_sayLiteral_57 : decode b_MM_sayLiteral 57 = .ok (.iload_n 1, 1) := by decide +kernel
theorem d_MM_sayLiteral_58 : decode b_MM_sayLiteral 58 = .ok (.iaload, 1) := by decide +kernel
theorem d_MM_sayLiteral_59 : decode b_MM_sayLiteral 59 = .ok (.iaload, 1) := by decide +kernel
theorem d_MM_sayLiteral_60 : decode b_MM_sayLiteral 60 = .ok (.ifCond .le 12, 3) := by decide +kernel
theorem d_MM_sayLiteral_63 : decode b_MM_sayLiteral 63 = .ok (.aload_n 0, 1) := by decide +kernel
theorem d_MM_sayLiteral_64 : decode b_MM_sayLiteral 64 = .ok (.getfield 217, 3) := by decide +kernel
theorem d_MM_sayLiteral_67 : decode b_MM_sayLiteral 67 = .ok (.iload_n 1, 1) := by decide +kernel
theorem d_MM_sayLiteral_68 : decode b_MM_sayLiteral 68 = .ok (.iaload, 1) := by decide +kernel
theorem d_MM_sayLiteral_69 : decode b_MM_sayLiteral 69 = .ok (.goto 4, 3) := by decide +kernel
theorem d_MM_sayLiteral_72 : decode b_MM_sayLiteral 72 = .ok (.iconst (-1), 1) := by decide +kernel
theorem d_MM_sayLiteral_73 : decode b_MM_sayLiteral 73 = .ok (.istore_n 2, 1) := by decide +kernel
theorem d_MM_sayLiteral_74 : decode b_MM_sayLiteral 74 = .ok (.iload_n 2, 1) := by decide +kernel
theorem d_MM_sayLiteral_75 : decode b_MM_sayLiteral 75 = .ok (.ifCond .lt 24, 3) := by decide +kernel
theorem d_MM_sayLiteral_78 : decode b_MM_sayLiteral 78 = .ok (.aload_n 0, 1) := by decide +kernel
theorem d_MM_sayLiteral_79 : decode b_MM_sayLiteral 79 = .ok (.getfield 220, 3) := by decide +kernel
theorem d_MM_sayLiteral_82 : decode b_MM_sayLiteral 82 = .ok (.iload_n 1, 1) := by decide +kernel
theorem d_MM_sayLiteral_83 : decode b_MM_sayLiteral 83 = .ok (.baload, 1) := by decide +kernel
theorem d_MM_sayLiteral_84 : decode b_MM_sayLiteral 84 = .ok (.ifCond .ne 9, 3) := by decide +kernel
theorem d_MM_sayLiteral_87 : decode b_MM_sayLiteral 87 = .ok (.aload_n 0, 1) := by decide +kernel
theorem d_MM_sayLiteral_88 : decode b_MM_sayLiteral 88 = .ok (.bipush 126, 2) := by decide +kernel
theorem d_MM_sayLiteral_90 : decode b_MM_sayLiteral 90 = .ok (.invokevirtual 765, 3) := by decide +kernel
theorem d_MM_sayLiteral_93 : decode b_MM_sayLiteral 93 = .ok (.aload_n 0, 1) := by decide +kernel
theorem d_MM_sayLiteral_94 : decode b_MM_sayLiteral 94 = .ok (.iload_n 2, 1) := by decide +kernel
theorem d_MM_sayLiteral_95 : decode b_MM_sayLiteral 95 = .ok (.invokevirtual 768, 3) := by decide +kernel
theorem d_MM_sayLiteral_98 : decode b_MM_sayLiteral 98 = .ok (.return_, 1) := by decide +kernel
theorem d_MM_sayLiteral_99 : decode b_MM_sayLiteral 99 = .ok (.aload_n 0, 1) := by decide +kernel
theorem d_MM_sayLiteral_100 : decode b_MM_sayLiteral 100 = .ok (.aload_n 0, 1) := by decide +kernel
theorem d_MM_sayLiteral_101 : decode b_MM_sayLiteral 101 = .ok (.getfield 214, 3) := by decide +kernel
theorem d_MM_sayLiteral_104 : decode b_MM_sayLiteral 104 = .ok (.iload_n 1, 1) := by decide +kernel
theorem d_MM_sayLiteral_105 : decode b_MM_sayLiteral 105 = .ok (.iaload, 1) := by decide +kernel
theorem d_MM_sayLiteral_106 : decode b_MM_sayLiteral 106 = .ok (.invokevirtual 768, 3) := by decide +kernel
theorem d_MM_sayLiteral_109 : decode b_MM_sayLiteral 109 = .ok (.aload_n 0, 1) := by decide +kernel
theorem d_MM_sayLiteral_110 : decode b_MM_sayLiteral 110 = .ok (.bipush 32, 2) := by decide +kernel
theorem d_MM_sayLiteral_112 : decode b_MM_sayLiteral 112 = .ok (.invokevirtual 765, 3) := by decide +kernel
theorem d_MM_sayLiteral_115 : decode b_MM_sayLiteral 115 = .ok (.aload_n 0, 1) := by decide +kernel
theorem d_MM_sayLiteral_116 : decode b_MM_sayLiteral 116 = .ok (.getfield 220, 3) := by decide +kernel
theorem d_MM_sayLiteral_119 : decode b_MM_sayLiteral 119 = .ok (.iload_n 1, 1) := by decide +kernel
theorem d_MM_sayLiteral_120 : decode b_MM_sayLiteral 120 = .ok (.baload, 1) := by decide +kernel
theorem d_MM_sayLiteral_121 : decode b_MM_sayLiteral 121 = .ok (.ifCond .ne 9, 3) := by decide +kernel
theorem d_MM_sayLiteral_124 : decode b_MM_sayLiteral 124 = .ok (.aload_n 0, 1) := by decide +kernel
theorem d_MM_sayLiteral_125 : decode b_MM_sayLiteral 125 = .ok (.bipush 33, 2) := by decide +kernel
theorem d_MM_sayLiteral_127 : decode b_MM_sayLiteral 127 = .ok (.invokevirtual 765, 3) := by decide +kernel
theorem d_MM_sayLiteral_130 : decode b_MM_sayLiteral 130 = .ok (.aload_n 0, 1) := by decide +kernel
theorem d_MM_sayLiteral_131 : decode b_MM_sayLiteral 131 = .ok (.bipush 61, 2) := by decide +kernel
theorem d_MM_sayLiteral_133 : decode b_MM_sayLiteral 133 = .ok (.invokevirtual 765, 3) := by decide +kernel
theorem d_MM_sayLiteral_136 : decode b_MM_sayLiteral 136 = .ok (.aload_n 0, 1) := by decide +kernel
theorem d_MM_sayLiteral_137 : decode b_MM_sayLiteral 137 = .ok (.bipush 32, 2) := by decide +kernel
theorem d_MM_sayLiteral_139 : decode b_MM_sayLiteral 139 = .ok (.invokevirtual 765, 3) := by decide +kernel
theorem d_MM_sayLiteral_142 : decode b_MM_sayLiteral 142 = .ok (.aload_n 0, 1) := by decide +kernel
theorem d_MM_sayLiteral_143 : decode b_MM_sayLiteral 143 = .ok (.aload_n 0, 1) := by decide +kernel
theorem d_MM_sayLiteral_144 : decode b_MM_sayLiteral 144 = .ok (.getfield 217, 3) := by decide +kernel
theorem d_MM_sayLiteral_147 : decode b_MM_sayLiteral 147 = .ok (.iload_n 1, 1) := by decide +kernel
theorem d_MM_sayLiteral_148 : decode b_MM_sayLiteral 148 = .ok (.iaload, 1) := by decide +kernel
theorem d_MM_sayLiteral_149 : decode b_MM_sayLiteral 149 = .ok (.invokevirtual 768, 3) := by decide +kernel
theorem d_MM_sayLiteral_152 : decode b_MM_sayLiteral 152 = .ok (.return_, 1) := by decide +kernel
theorem d_MM_show_0 : decode b_MM_show 0 = .ok (.aload_n 0, 1) := by decide +kernel
theorem d_MM_show_1 : decode b_MM_show 1 = .ok (.iload_n 1, 1) := by decide +kernel
theorem d_MM_show_2 : decode b_MM_show 2 = .ok (.invokevirtual 759, 3) := by decide +kernel
theorem d_MM_show_5 : decode b_MM_show 5 = .ok (.ifCond .eq 5, 3) := by decide +kernel
theorem d_MM_show_8 : decode b_MM_show 8 = .ok (.iconst 0, 1) := by decide +kernel
theorem d_MM_show_9 : decode b_MM_show 9 = .ok (.ireturn, 1) := by decide +kernel
theorem d_MM_show_10 : decode b_MM_show 10 = .ok (.aload_n 0, 1) := by decide +kernel
theorem d_MM_show_11 : decode b_MM_show 11 = .ok (.iconst 0, 1) := by decide +kernel
theorem d_MM_show_12 : decode b_MM_show 12 = .ok (.putfield 21, 3) := by decide +kernel
theorem d_MM_show_15 : decode b_MM_show 15 = .ok (.aload_n 0, 1) := by decide +kernel
theorem d_MM_show_16 : decode b_MM_show 16 = .ok (.getfield 235, 3) := by decide +kernel
theorem d_MM_show_19 : decode b_MM_show 19 = .ok (.iload_n 1, 1) := by decide +kernel
theorem d_MM_show_20 : decode b_MM_show 20 = .ok (.iaload, 1) := by decide +kernel
theorem d_MM_show_21 : decode b_MM_show 21 = .ok (.istore_n 2, 1) := by decide +kernel
theorem d_MM_show_22 : decode b_MM_show 22 = .ok (.iload_n 2, 1) := by decide +kernel
theorem d_MM_show_23 : decode b_MM_show 23 = .ok (.aload_n 0, 1) := by decide +kernel
theorem d_MM_show_24 : decode b_MM_show 24 = .ok (.getfield 235, 3) := by decide +kernel
theorem d_MM_show_27 : decode b_MM_show 27 = .ok (.iload_n 1, 1) := by decide +kernel
theorem d_MM_show_28 : decode b_MM_show 28 = .ok (.iaload, 1) := by decide +kernel
theorem d_MM_show_29 : decode b_MM_show 29 = .ok (.aload_n 0, 1) := by decide +kernel
theorem d_MM_show_30 : decode b_MM_show 30 = .ok (.getfield 238, 3) := by decide +kernel
theorem d_MM_show_33 : decode b_MM_show 33 = .ok (.iload_n 1, 1) := by decide +kernel
theorem d_MM_show_34 : decode b_MM_show 34 = .ok (.iaload, 1) := by decide +kernel
theorem d_MM_show_35 : decode b_MM_show 35 = .ok (.iadd, 1) := by decide +kernel
theorem d_MM_show_36 : decode b_MM_show 36 = .ok (.if_icmp .ge 42, 3) := by decide +kernel
theorem d_MM_show_39 : decode b_MM_show 39 = .ok (.iload_n 2, 1) := by decide +kernel
theorem d_MM_show_40 : decode b_MM_show 40 = .ok (.aload_n 0, 1) := by decide +kernel
theorem d_MM_show_41 : decode b_MM_show 41 = .ok (.getfield 235, 3) := by decide +kernel
theorem d_MM_show_44 : decode b_MM_show 44 = .ok (.iload_n 1, 1) := by decide +kernel
theorem d_MM_show_45 : decode b_MM_show 45 = .ok (.iaload, 1) := by decide +kernel
theorem d_MM_show_46 : decode b_MM_show 46 = .ok (.if_icmp .le 21, 3) := by decide +kernel
theorem d_MM_show_49 : decode b_MM_show 49 = .ok (.aload_n 0, 1) := by decide +kernel
theorem d_MM_show_50 : decode b_MM_show 50 = .ok (.bipush 32, 2) := by decide +kernel
theorem d_MM_show_52 : decode b_MM_show 52 = .ok (.invokevirtual 765, 3) := by decide +kernel
theorem d_MM_show_55 : decode b_MM_show 55 = .ok (.aload_n 0, 1) := by decide +kernel
theorem d_MM_show_56 : decode b_MM_show 56 = .ok (.bipush 124, 2) := by decide +kernel
theorem d_MM_show_58 : decode b_MM_show 58 = .ok (.invokevirtual 765, 3) := by decide +kernel
theorem d_MM_show_61 : decode b_MM_show 61 = .ok (.aload_n 0, 1) := by decide +kernel
theorem d_MM_show_62 : decode b_MM_show 62 = .ok (.bipush 32, 2) := by decide +kernel
theorem d_MM_show_64 : decode b_MM_show 64 = .ok (.invokevirtual 765, 3) := by decide +kernel
theorem d_MM_show_67 : decode b_MM_show 67 = .ok (.aload_n 0, 1) := by decide +kernel
theorem d_MM_show_68 : decode b_MM_show 68 = .ok (.iload_n 2, 1) := by decide +kernel
theorem d_MM_show_69 : decode b_MM_show 69 = .ok (.invokevirtual 771, 3) := by decide +kernel
theorem d_MM_show_72 : decode b_MM_show 72 = .ok (.iinc 2 1, 3) := by decide +kernel
theorem d_MM_show_75 : decode b_MM_show 75 = .ok (.goto (-53), 3) := by decide +kernel
theorem d_MM_show_78 : decode b_MM_show 78 = .ok (.aload_n 0, 1) := by decide +kernel
theorem d_MM_show_79 : decode b_MM_show 79 = .ok (.getfield 238, 3) := by decide +kernel
theorem d_MM_show_82 : decode b_MM_show 82 = .ok (.iload_n 1, 1) := by decide +kernel
theorem d_MM_show_83 : decode b_MM_show 83 = .ok (.iaload, 1) := by decide +kernel
theorem d_MM_show_84 : decode b_MM_show 84 = .ok (.ifCond .ne 33, 3) := by decide +kernel
theorem d_MM_show_87 : decode b_MM_show 87 = .ok (.aload_n 0, 1) := by decide +kernel
theorem d_MM_show_88 : decode b_MM_show 88 = .ok (.bipush 102, 2) := by decide +kernel
theorem d_MM_show_90 : decode b_MM_show 90 = .ok (.invokevirtual 765, 3) := by decide +kernel
theorem d_MM_show_93 : decode b_MM_show 93 = .ok (.aload_n 0, 1) := by decide +kernel
theorem d_MM_show_94 : decode b_MM_show 94 = .ok (.bipush 97, 2) := by decide +kernel
theorem d_MM_show_96 : decode b_MM_show 96 = .ok (.invokevirtual 765, 3) := by decide +kernel
theorem d_MM_show_99 : decode b_MM_show 99 = .ok (.aload_n 0, 1) := by decide +kernel
theorem d_MM_show_100 : decode b_MM_show 100 = .ok (.bipush 108, 2) := by decide +kernel
theorem d_MM_show_102 : decode b_MM_show 102 = .ok (.invokevirtual 765, 3) := by decide +kernel
theorem d_MM_show_105 : decode b_MM_show 105 = .ok (.aload_n 0, 1) := by decide +kernel
theorem d_MM_show_106 : decode b_MM_show 106 = .ok (.bipush 115, 2) := by decide +kernel
theorem d_MM_show_108 : decode b_MM_show 108 = .ok (.invokevirtual 765, 3) := by decide +kernel
theorem d_MM_show_111 : decode b_MM_show 111 = .ok (.aload_n 0, 1) := by decide +kernel
theorem d_MM_show_112 : decode b_MM_show 112 = .ok (.bipush 101, 2) := by decide +kernel
theorem d_MM_show_114 : decode b_MM_show 114 = .ok (.invokevirtual 765, 3) := by decide +kernel
theorem d_MM_show_117 : decode b_MM_show 117 = .ok (.aload_n 0, 1) := by decide +kernel
theorem d_MM_show_118 : decode b_MM_show 118 = .ok (.getfield 21, 3) := by decide +kernel
theorem d_MM_show_121 : decode b_MM_show 121 = .ok (.ireturn, 1) := by decide +kernel
theorem tc_MM_sayNumber : Cond.code y_MM_sayNumber b_MM_sayNumber 2 none ∈ lw_tbg := tb_in (i := 2429) (by decide +kernel) rfl
theorem ml_MM_762 : ax_LV "ClauseProverModel" 762 y_MM_sayNumber b_MM_sayNumber 2 none 1 := ax_LV.mk (tb_in (i := 2426) (by decide +kernel) rfl) (tb_in (i := 2428) (by decide +kernel) rfl) (pv_in (i := 197) (by decide +kernel) rfl) ti_MM tc_MM_sayNumber (by decide +kernel)
theorem tc_MM_say : Cond.code y_MM_say b_MM_say 3 none ∈ lw_tbg := tb_in (i := 2417) (by decide +kernel) rfl
theorem ml_MM_765 : ax_LV "ClauseProverModel" 765 y_MM_say b_MM_say 3 none 1 := ax_LV.mk (tb_in (i := 2414) (by decide +kernel) rfl) (tb_in (i := 2416) (by decide +kernel) rfl) (pv_in (i := 194) (by decide +kernel) rfl) ti_MM tc_MM_say (by decide +kernel)
theorem tc_MM_sayTerm : Cond.code y_MM_sayTerm b_MM_sayTerm 4 none ∈ lw_tbg := tb_in (i := 2425) (by decide +kernel) rfl
theorem ml_MM_768 : ax_LV "ClauseProverModel" 768 y_MM_sayTerm b_MM_sayTerm 4 none 1 := ax_LV.mk (tb_in (i := 2422) (by decide +kernel) rfl) (tb_in (i := 2424) (by decide +kernel) rfl) (pv_in (i := 196) (by decide +kernel) rfl) ti_MM tc_MM_sayTerm (by decide +kernel)
theorem tc_MM_sayLiteral : Cond.code y_MM_sayLiteral b_MM_sayLiteral 3 none ∈ lw_tbg := tb_in (i := 2421) (by decide +kernel) rfl
theorem ml_MM_771 : ax_LV "ClauseProverModel" 771 y_MM_sayLiteral b_MM_sayLiteral 3 none 1 := ax_LV.mk (tb_in (i := 2418) (by decide +kernel) rfl) (tb_in (i := 2420) (by decide +kernel) rfl) (pv_in (i := 195) (by decide +kernel) rfl) ti_MM tc_MM_sayLiteral (by decide +kernel)
theorem mSay_le (σ : mS) (x : Int32) : gle σ (mSay σ x) := by
  unfold mSay gle
  split
  · refine ⟨?_, ?_, ?_⟩
    · simp [va_up]
    · simp [va_up]
    · simp [va_up]
  · exact ⟨Nat.le_refl _, Nat.le_refl _, rfl⟩
def GMs (rec : mF) : Prop := ∀ t σ xs res, rec t σ xs = some res → gle σ res.1
theorem gs_tail {σ : mS} {rec : mF} {t : Nat} {xs : List Int32} (h : GMs rec) : gm σ (rec t σ xs) := fun res e => h t σ xs res e
theorem gs_bnd {σ : mS} {rec : mF} {t : Nat} {xs : List Int32} {k : mS → Int32 → Option mR} (h : GMs rec) (g : ∀ σ1 r1, gm σ1 (k σ1 r1)) : gm σ (bnd (rec t σ xs) k) := fun res e => by
  obtain ⟨σf, rf, d⟩ := res
  obtain ⟨σ1, r1, d1, d2, h1, h2, _, _⟩ := it_b e
  exact gle.trans (h _ _ _ _ h1) (g σ1 r1 (σf, rf, d2) h2)
section SRU
variable {p : Program} {l : Launch} {e : Env} {R : Room} {s : State} {m : MethodId} {args : Array Value} {below : List Frame} {meth : Method} {c : Code} {Q : State → Prop} {D : va_G} {kA : Nat → ClassId} {A : Nat → Prop} {nL : Nat} {cc : ByteArray} {ret : Option FieldType} {pc F Lo mc ms cells slots : Nat} {ls : List (Nat × Value)} {st rest : List Value} {z : Nat} {v : Nat → Nat} {σ : mS}
set_option maxRecDepth 4000 in
theorem ma_say (C : ax_C p s m args meth c cc "ClauseProverModel" nL ret D kA A) {idx d : Nat} {x : Int32} (L : ax_LV "ClauseProverModel" idx y_MM_say b_MM_say 3 none 1) (hdg : decode cc pc = .ok (.invokevirtual idx, 3)) (hb : sok σ = true) (hF : d + 3 ≤ F) (hLo : 48 * d + 144 ≤ Lo) (hce : cells + ((mSay σ x).2.2 3001 - σ.2.2 3001) ≤ mc) (hsl : slots + ((mSay σ x).2.2 3002 - σ.2.2 3002) ≤ ms) (hsum : (rest.map fun v => v.category).sum ≤ 8)
    (k : ∀ v2 : Nat → Nat, (∀ i, i ≠ 1 → v2 i = v i) → AW p l e { frames := F, cells := mc, slots := ms, locals := Lo } s m args below meth c D kA A nL Q (pc + 3) ls rest (mmW kA z v2 (mSay σ x)) (cells + ((mSay σ x).2.2 3001 - σ.2.2 3001)) (slots + ((mSay σ x).2.2 3002 - σ.2.2 3002))) : AW p l e { frames := F, cells := mc, slots := ms, locals := Lo } s m args below meth c D kA A nL Q pc ls (.int x :: .ref z :: rest) (mmW kA z v σ) cells slots := by
  simp only [sok, Bool.and_eq_true, Bool.or_eq_true, decide_eq_true_eq] at hb
  obtain ⟨⟨hL0, hL, hby⟩, hb⟩ := hb
  by_cases hfull : σ.1 3 = Int32.ofNat (σ.2.2 1)
  · have e1 : (mSay σ x).2.2 = va_up (va_up (va_up σ.2.2 1 (2 * σ.2.2 1)) 3001 (σ.2.2 3001 + 1)) 3002 (σ.2.2 3002 + 2 * σ.2.2 1) := by unfold mSay; rw [if_pos hfull]
    have g1 : (mSay σ x).2.2 3001 - σ.2.2 3001 = 1 := by rw [e1]; simp [va_up]
    have g2 : (mSay σ x).2.2 3002 - σ.2.2 3002 = 2 * σ.2.2 1 := by rw [e1]; simp [va_up]
    rw [g1, g2] at k
    rw [g1] at hce; rw [g2] at hsl
    exact ax_callVv C (As := [.int x]) (rest := rest) (wr := []) (c_say2 l D kA z v σ x hfull hL0 hL hby) L 0 rfl rfl rfl hdg rfl rfl (List.range 86) [] mm_all (by decide +kernel) rfl (by decide) (by intro i h; cases h) (by show 1 + 1 ≤ F; omega) (by show 8 + (3 + 11) + 60 ≤ Lo; omega) hce hsl hsum (fun w1 hw => by
      obtain ⟨q, rfl⟩ := hw
      exact k (va_up v 1 q) (fun i hi => by simp [va_up, hi]))
  · have e1 : (mSay σ x).2.2 = σ.2.2 := by unfold mSay; rw [if_neg hfull]
    have g1 : (mSay σ x).2.2 3001 - σ.2.2 3001 = 0 := by rw [e1]; simp
    have g2 : (mSay σ x).2.2 3002 - σ.2.2 3002 = 0 := by rw [e1]; simp
    rw [g1, g2] at k
    rw [g1] at hce; rw [g2] at hsl
    exact ax_callVv C (As := [.int x]) (rest := rest) (wr := []) (c_say1 l D kA z v σ x hfull (bin_in (hb.resolve_left hfull))) L 0 rfl rfl rfl hdg rfl rfl (List.range 86) [] mm_all (by decide +kernel) rfl (by decide) (by intro i h; cases h) (by show 0 + 1 ≤ F; omega) (by show 8 + (3 + 11) + 0 ≤ Lo; omega) hce hsl hsum (fun w1 hw => by
      obtain rfl := hw
      exact k v (fun i _ => rfl))
theorem gcS_v (C : ax_C p s m args meth c cc "ClauseProverModel" nL ret D kA A) {idx n : Nat} {y : MethodName} {cc2 : ByteArray} {nL2 : Nat} {fr lo mc2 ms2 : Nat} {As : List Value} {post : va_W → Prop} (hM : ax_Mv l D kA y cc2 nL2 fr lo mc2 ms2 (.ref z :: As) (mmW kA z v σ) post) (L : ax_LV "ClauseProverModel" idx y cc2 nL2 none n) (hdg : decode cc pc = .ok (.invokevirtual idx, 3)) (hst : st = As.reverse ++ .ref z :: rest) (hlen : As.length = n) (hfr : fr + 1 ≤ R.frames) (hlo : 8 + (nL2 + 11) + lo ≤ R.locals) (hce : cells + mc2 ≤ R.cells) (hsl : slots + ms2 ≤ R.slots) (hsum : (rest.map fun v => v.category).sum ≤ 8) (k : ∀ w1 : va_W, post w1 → AW p l e R s m args below meth c D kA A nL Q (pc + 3) ls (rest) w1 (cells + mc2) (slots + ms2)) (hy : R_MM = y.cls := by rfl) : AW p l e R s m args below meth c D kA A nL Q pc ls st (mmW kA z v σ) cells slots :=
  ax_callVv C (wr := []) hM L 0 rfl rfl hy hdg hst hlen (List.range 86) [] mm_all (by decide +kernel) rfl (by decide) (by intro i h; cases h) hfr hlo hce hsl hsum (fun w1 hw => k w1 hw)
theorem gcS_i (C : ax_C p s m args meth c cc "ClauseProverModel" nL ret D kA A) {idx n : Nat} {y : MethodName} {cc2 : ByteArray} {nL2 : Nat} {fr lo mc2 ms2 : Nat} {As : List Value} {post : Int32 → va_W → Prop} {ret2 : FieldType} (hM : ax_Mi l D kA y cc2 nL2 ret2 fr lo mc2 ms2 (.ref z :: As) (mmW kA z v σ) post) (L : ax_LV "ClauseProverModel" idx y cc2 nL2 (some ret2) n) (hdg : decode cc pc = .ok (.invokevirtual idx, 3)) (hst : st = As.reverse ++ .ref z :: rest) (hlen : As.length = n) (hfr : fr + 1 ≤ R.frames) (hlo : 8 + (nL2 + 11) + lo ≤ R.locals) (hce : cells + mc2 ≤ R.cells) (hsl : slots + ms2 ≤ R.slots) (hsum : (rest.map fun v => v.category).sum ≤ 8) (k : ∀ (r : Int32) (w1 : va_W), post r w1 → AW p l e R s m args below meth c D kA A nL Q (pc + 3) ls (.int r :: rest) w1 (cells + mc2) (slots + ms2)) (hy : R_MM = y.cls := by rfl) : AW p l e R s m args below meth c D kA A nL Q pc ls st (mmW kA z v σ) cells slots :=
  ax_callVi C (wr := []) hM L 0 rfl rfl hy hdg hst hlen (List.range 86) [] mm_all (by decide +kernel) rfl (by decide) (by intro i h; cases h) hfr hlo hce hsl hsum (fun r w1 hw => k r w1 hw)
set_option maxRecDepth 4000 in
theorem mp_21 (C : ax_C p s m args meth c cc "ClauseProverModel" nL ret D kA A) {x : Int32} (hdg : decode cc pc = .ok (.putfield 21, 3)) (k : AW p l e R s m args below meth c D kA A nL Q (pc + 3) ls (rest) (mmW kA z v (mI σ 3 x)) (cells) (slots)) : AW p l e R s m args below meth c D kA A nL Q (pc) ls (.int x :: .ref z :: rest) (mmW kA z v σ) (cells) (slots) := ax_put C k_MM 3 lk_MM_21 hdg (Nat.le_of_ble_eq_true rfl) 0 rfl rfl rfl rfl (Nat.le_of_ble_eq_true rfl) (ax_w (mmW kA z v (mI σ 3 x)) rfl k)
end SRU
abbrev tS_refuse : Nat := 0
abbrev tS_refuse_9 : Nat := 1
abbrev tS_none : Nat := 2
abbrev tS_none_19 : Nat := 3
abbrev tS_none_24 : Nat := 4
abbrev tS_isPredicate : Nat := 5
abbrev tS_isPredicate_27 : Nat := 6
abbrev tS_isPredicate_28 : Nat := 7
abbrev tS_sayNumber : Nat := 8
abbrev tS_sayNumber_14 : Nat := 9
abbrev tS_sayTerm : Nat := 10
abbrev tS_sayTerm_69 : Nat := 11
abbrev tS_sayTerm_112 : Nat := 12
abbrev tS_sayTerm_132 : Nat := 13
abbrev tS_sayLiteral : Nat := 14
abbrev tS_sayLiteral_36 : Nat := 15
abbrev tS_sayLiteral_72 : Nat := 16
abbrev tS_sayLiteral_73 : Nat := 17
abbrev tS_sayLiteral_93 : Nat := 18
abbrev tS_sayLiteral_130 : Nat := 19
abbrev tS_show : Nat := 20
abbrev tS_show_22 : Nat := 21
abbrev tS_show_67 : Nat := 22
abbrev tS_show_117 : Nat := 23
def sS_refuse (l : Launch) (D : va_G) (kA : Nat → ClassId) (z : Nat) (σ : mS) (xs : List Int32) (res : mR) : Prop := ∀ (x0 x1 : Int32), xs = [x0, x1] → ∀ v : Nat → Nat, ax_Mi l D kA y_MM_refuse b_MM_refuse 3 .boolean (res.2.2 + 3) (48 * res.2.2 + 144) (res.1.2.2 3001 - σ.2.2 3001) (res.1.2.2 3002 - σ.2.2 3002) [.ref z, .int x0, .int x1] (mmW kA z v σ) (fun r w1 => r = res.2.1 ∧ ∃ v2 : Nat → Nat, (∀ i, i ≠ 1 → v2 i = v i) ∧ w1 = mmW kA z v2 res.1)
def sS_refuse_9 (l : Launch) (D : va_G) (kA : Nat → ClassId) (z : Nat) (σ : mS) (xs : List Int32) (res : mR) : Prop := ∀ (x0 x1 : Int32), xs = [x0, x1] → ∀ v : Nat → Nat, ∀ (p : Program) (e : Env) (s : State) (m : MethodId) (args : Array Value) (below : List Frame) (meth : Method) (c : Code) (F Lo mc ms cells slots : Nat) (σ0 : mS) (v0 : Nat → Nat), res.2.2 + 3 ≤ F → 48 * res.2.2 + 144 ≤ Lo → cells + res.1.2.2 3001 ≤ mc + σ.2.2 3001 → slots + res.1.2.2 3002 ≤ ms + σ.2.2 3002 → (∀ i, i ≠ 1 → v i = v0 i) → ax_C p s m args meth c b_MM_refuse "ClauseProverModel" 3 (some .boolean) D kA (va_A (mmW kA z v0 σ0) s.heap.size) → AW p l e { frames := F, cells := mc, slots := ms, locals := Lo } s m args below meth c D kA (va_A (mmW kA z v0 σ0) s.heap.size) 3 (ax_Qi below args s D kA (mmW kA z v0 σ0) mc ms (fun r w1 => r = res.2.1 ∧ ∃ v2 : Nat → Nat, (∀ i, i ≠ 1 → v2 i = v0 i) ∧ w1 = mmW kA z v2 res.1)) 9 [(0, .ref z), (1, .int x0), (2, .int x1)] [] (mmW kA z v σ) cells slots
def sS_none (l : Launch) (D : va_G) (kA : Nat → ClassId) (z : Nat) (σ : mS) (xs : List Int32) (res : mR) : Prop := ∀ (x0 : Int32), xs = [x0] → ∀ v : Nat → Nat, ax_Mi l D kA y_MM_none b_MM_none 2 .boolean (res.2.2 + 3) (48 * res.2.2 + 144) (res.1.2.2 3001 - σ.2.2 3001) (res.1.2.2 3002 - σ.2.2 3002) [.ref z, .int x0] (mmW kA z v σ) (fun r w1 => r = res.2.1 ∧ ∃ v2 : Nat → Nat, (∀ i, i ≠ 1 → v2 i = v i) ∧ w1 = mmW kA z v2 res.1)
def sS_none_19 (l : Launch) (D : va_G) (kA : Nat → ClassId) (z : Nat) (σ : mS) (xs : List Int32) (res : mR) : Prop := ∀ (x0 x1 : Int32), xs = [x0, x1] → ∀ v : Nat → Nat, ∀ (p : Program) (e : Env) (s : State) (m : MethodId) (args : Array Value) (below : List Frame) (meth : Method) (c : Code) (F Lo mc ms cells slots : Nat) (σ0 : mS) (v0 : Nat → Nat), res.2.2 + 3 ≤ F → 48 * res.2.2 + 144 ≤ Lo → cells + res.1.2.2 3001 ≤ mc + σ.2.2 3001 → slots + res.1.2.2 3002 ≤ ms + σ.2.2 3002 → (∀ i, i ≠ 1 → v i = v0 i) → ax_C p s m args meth c b_MM_none "ClauseProverModel" 2 (some .boolean) D kA (va_A (mmW kA z v0 σ0) s.heap.size) → AW p l e { frames := F, cells := mc, slots := ms, locals := Lo } s m args below meth c D kA (va_A (mmW kA z v0 σ0) s.heap.size) 2 (ax_Qi below args s D kA (mmW kA z v0 σ0) mc ms (fun r w1 => r = res.2.1 ∧ ∃ v2 : Nat → Nat, (∀ i, i ≠ 1 → v2 i = v0 i) ∧ w1 = mmW kA z v2 res.1)) 19 [(0, .ref z), (1, .int x0)] [.int x1, .ref z] (mmW kA z v σ) cells slots
def sS_none_24 (l : Launch) (D : va_G) (kA : Nat → ClassId) (z : Nat) (σ : mS) (xs : List Int32) (res : mR) : Prop := ∀ (x0 x1 x2 : Int32), xs = [x0, x1, x2] → ∀ v : Nat → Nat, ∀ (p : Program) (e : Env) (s : State) (m : MethodId) (args : Array Value) (below : List Frame) (meth : Method) (c : Code) (F Lo mc ms cells slots : Nat) (σ0 : mS) (v0 : Nat → Nat), res.2.2 + 3 ≤ F → 48 * res.2.2 + 144 ≤ Lo → cells + res.1.2.2 3001 ≤ mc + σ.2.2 3001 → slots + res.1.2.2 3002 ≤ ms + σ.2.2 3002 → (∀ i, i ≠ 1 → v i = v0 i) → ax_C p s m args meth c b_MM_none "ClauseProverModel" 2 (some .boolean) D kA (va_A (mmW kA z v0 σ0) s.heap.size) → AW p l e { frames := F, cells := mc, slots := ms, locals := Lo } s m args below meth c D kA (va_A (mmW kA z v0 σ0) s.heap.size) 2 (ax_Qi below args s D kA (mmW kA z v0 σ0) mc ms (fun r w1 => r = res.2.1 ∧ ∃ v2 : Nat → Nat, (∀ i, i ≠ 1 → v2 i = v0 i) ∧ w1 = mmW kA z v2 res.1)) 24 [(0, .ref z), (1, .int x0)] [.int x1, .int x2, .ref z] (mmW kA z v σ) cells slots
def sS_isPredicate (l : Launch) (D : va_G) (kA : Nat → ClassId) (z : Nat) (σ : mS) (xs : List Int32) (res : mR) : Prop := ∀ (x0 : Int32), xs = [x0] → ∀ v : Nat → Nat, ax_Mi l D kA y_MM_isPredicate b_MM_isPredicate 2 .boolean (res.2.2 + 3) (48 * res.2.2 + 144) (res.1.2.2 3001 - σ.2.2 3001) (res.1.2.2 3002 - σ.2.2 3002) [.ref z, .int x0] (mmW kA z v σ) (fun r w1 => r = res.2.1 ∧ ∃ v2 : Nat → Nat, (∀ i, i ≠ 1 → v2 i = v i) ∧ w1 = mmW kA z v2 res.1)
def sS_isPredicate_27 (l : Launch) (D : va_G) (kA : Nat → ClassId) (z : Nat) (σ : mS) (xs : List Int32) (res : mR) : Prop := ∀ (x0 : Int32), xs = [x0] → ∀ v : Nat → Nat, ∀ (p : Program) (e : Env) (s : State) (m : MethodId) (args : Array Value) (below : List Frame) (meth : Method) (c : Code) (F Lo mc ms cells slots : Nat) (σ0 : mS) (v0 : Nat → Nat), res.2.2 + 3 ≤ F → 48 * res.2.2 + 144 ≤ Lo → cells + res.1.2.2 3001 ≤ mc + σ.2.2 3001 → slots + res.1.2.2 3002 ≤ ms + σ.2.2 3002 → (∀ i, i ≠ 1 → v i = v0 i) → ax_C p s m args meth c b_MM_isPredicate "ClauseProverModel" 2 (some .boolean) D kA (va_A (mmW kA z v0 σ0) s.heap.size) → AW p l e { frames := F, cells := mc, slots := ms, locals := Lo } s m args below meth c D kA (va_A (mmW kA z v0 σ0) s.heap.size) 2 (ax_Qi below args s D kA (mmW kA z v0 σ0) mc ms (fun r w1 => r = res.2.1 ∧ ∃ v2 : Nat → Nat, (∀ i, i ≠ 1 → v2 i = v0 i) ∧ w1 = mmW kA z v2 res.1)) 27 [(0, .ref z), (1, .int x0)] [] (mmW kA z v σ) cells slots
def sS_isPredicate_28 (l : Launch) (D : va_G) (kA : Nat → ClassId) (z : Nat) (σ : mS) (xs : List Int32) (res : mR) : Prop := ∀ (x0 x1 : Int32), xs = [x0, x1] → ∀ v : Nat → Nat, ∀ (p : Program) (e : Env) (s : State) (m : MethodId) (args : Array Value) (below : List Frame) (meth : Method) (c : Code) (F Lo mc ms cells slots : Nat) (σ0 : mS) (v0 : Nat → Nat), res.2.2 + 3 ≤ F → 48 * res.2.2 + 144 ≤ Lo → cells + res.1.2.2 3001 ≤ mc + σ.2.2 3001 → slots + res.1.2.2 3002 ≤ ms + σ.2.2 3002 → (∀ i, i ≠ 1 → v i = v0 i) → ax_C p s m args meth c b_MM_isPredicate "ClauseProverModel" 2 (some .boolean) D kA (va_A (mmW kA z v0 σ0) s.heap.size) → AW p l e { frames := F, cells := mc, slots := ms, locals := Lo } s m args below meth c D kA (va_A (mmW kA z v0 σ0) s.heap.size) 2 (ax_Qi below args s D kA (mmW kA z v0 σ0) mc ms (fun r w1 => r = res.2.1 ∧ ∃ v2 : Nat → Nat, (∀ i, i ≠ 1 → v2 i = v0 i) ∧ w1 = mmW kA z v2 res.1)) 28 [(0, .ref z), (1, .int x0)] [.int x1] (mmW kA z v σ) cells slots
def sS_sayNumber (l : Launch) (D : va_G) (kA : Nat → ClassId) (z : Nat) (σ : mS) (xs : List Int32) (res : mR) : Prop := ∀ (x0 : Int32), xs = [x0] → ∀ v : Nat → Nat, ax_Mv l D kA y_MM_sayNumber b_MM_sayNumber 2 (res.2.2 + 3) (48 * res.2.2 + 144) (res.1.2.2 3001 - σ.2.2 3001) (res.1.2.2 3002 - σ.2.2 3002) [.ref z, .int x0] (mmW kA z v σ) (fun w1 => ∃ v2 : Nat → Nat, (∀ i, i ≠ 1 → v2 i = v i) ∧ w1 = mmW kA z v2 res.1)
def sS_sayNumber_14 (l : Launch) (D : va_G) (kA : Nat → ClassId) (z : Nat) (σ : mS) (xs : List Int32) (res : mR) : Prop := ∀ (x0 : Int32), xs = [x0] → ∀ v : Nat → Nat, ∀ (p : Program) (e : Env) (s : State) (m : MethodId) (args : Array Value) (below : List Frame) (meth : Method) (c : Code) (F Lo mc ms cells slots : Nat) (σ0 : mS) (v0 : Nat → Nat), res.2.2 + 3 ≤ F → 48 * res.2.2 + 144 ≤ Lo → cells + res.1.2.2 3001 ≤ mc + σ.2.2 3001 → slots + res.1.2.2 3002 ≤ ms + σ.2.2 3002 → (∀ i, i ≠ 1 → v i = v0 i) → ax_C p s m args meth c b_MM_sayNumber "ClauseProverModel" 2 none D kA (va_A (mmW kA z v0 σ0) s.heap.size) → AW p l e { frames := F, cells := mc, slots := ms, locals := Lo } s m args below meth c D kA (va_A (mmW kA z v0 σ0) s.heap.size) 2 (ax_Qv below args s D kA (mmW kA z v0 σ0) mc ms (fun w1 => ∃ v2 : Nat → Nat, (∀ i, i ≠ 1 → v2 i = v0 i) ∧ w1 = mmW kA z v2 res.1)) 14 [(0, .ref z), (1, .int x0)] [] (mmW kA z v σ) cells slots
def sS_sayTerm (l : Launch) (D : va_G) (kA : Nat → ClassId) (z : Nat) (σ : mS) (xs : List Int32) (res : mR) : Prop := ∀ (x0 : Int32), xs = [x0] → ∀ v : Nat → Nat, ax_Mv l D kA y_MM_sayTerm b_MM_sayTerm 4 (res.2.2 + 3) (48 * res.2.2 + 144) (res.1.2.2 3001 - σ.2.2 3001) (res.1.2.2 3002 - σ.2.2 3002) [.ref z, .int x0] (mmW kA z v σ) (fun w1 => ∃ v2 : Nat → Nat, (∀ i, i ≠ 1 → v2 i = v i) ∧ w1 = mmW kA z v2 res.1)
def sS_sayTerm_69 (l : Launch) (D : va_G) (kA : Nat → ClassId) (z : Nat) (σ : mS) (xs : List Int32) (res : mR) : Prop := ∀ (x0 x1 : Int32), xs = [x0, x1] → ∀ v : Nat → Nat, ∀ (p : Program) (e : Env) (s : State) (m : MethodId) (args : Array Value) (below : List Frame) (meth : Method) (c : Code) (F Lo mc ms cells slots : Nat) (σ0 : mS) (v0 : Nat → Nat), res.2.2 + 3 ≤ F → 48 * res.2.2 + 144 ≤ Lo → cells + res.1.2.2 3001 ≤ mc + σ.2.2 3001 → slots + res.1.2.2 3002 ≤ ms + σ.2.2 3002 → (∀ i, i ≠ 1 → v i = v0 i) → ax_C p s m args meth c b_MM_sayTerm "ClauseProverModel" 4 none D kA (va_A (mmW kA z v0 σ0) s.heap.size) → AW p l e { frames := F, cells := mc, slots := ms, locals := Lo } s m args below meth c D kA (va_A (mmW kA z v0 σ0) s.heap.size) 4 (ax_Qv below args s D kA (mmW kA z v0 σ0) mc ms (fun w1 => ∃ v2 : Nat → Nat, (∀ i, i ≠ 1 → v2 i = v0 i) ∧ w1 = mmW kA z v2 res.1)) 69 [(0, .ref z), (1, .int x0), (2, .int x1)] [] (mmW kA z v σ) cells slots
def sS_sayTerm_112 (l : Launch) (D : va_G) (kA : Nat → ClassId) (z : Nat) (σ : mS) (xs : List Int32) (res : mR) : Prop := ∀ (x0 : Int32), xs = [x0] → ∀ v : Nat → Nat, ∀ (p : Program) (e : Env) (s : State) (m : MethodId) (args : Array Value) (below : List Frame) (meth : Method) (c : Code) (F Lo mc ms cells slots : Nat) (σ0 : mS) (v0 : Nat → Nat), res.2.2 + 3 ≤ F → 48 * res.2.2 + 144 ≤ Lo → cells + res.1.2.2 3001 ≤ mc + σ.2.2 3001 → slots + res.1.2.2 3002 ≤ ms + σ.2.2 3002 → (∀ i, i ≠ 1 → v i = v0 i) → ax_C p s m args meth c b_MM_sayTerm "ClauseProverModel" 4 none D kA (va_A (mmW kA z v0 σ0) s.heap.size) → AW p l e { frames := F, cells := mc, slots := ms, locals := Lo } s m args below meth c D kA (va_A (mmW kA z v0 σ0) s.heap.size) 4 (ax_Qv below args s D kA (mmW kA z v0 σ0) mc ms (fun w1 => ∃ v2 : Nat → Nat, (∀ i, i ≠ 1 → v2 i = v0 i) ∧ w1 = mmW kA z v2 res.1)) 112 [(0, .ref z), (1, .int x0)] [] (mmW kA z v σ) cells slots
def sS_sayTerm_132 (l : Launch) (D : va_G) (kA : Nat → ClassId) (z : Nat) (σ : mS) (xs : List Int32) (res : mR) : Prop := ∀ (x0 x1 x2 : Int32), xs = [x0, x1, x2] → ∀ v : Nat → Nat, ∀ (p : Program) (e : Env) (s : State) (m : MethodId) (args : Array Value) (below : List Frame) (meth : Method) (c : Code) (F Lo mc ms cells slots : Nat) (σ0 : mS) (v0 : Nat → Nat), res.2.2 + 3 ≤ F → 48 * res.2.2 + 144 ≤ Lo → cells + res.1.2.2 3001 ≤ mc + σ.2.2 3001 → slots + res.1.2.2 3002 ≤ ms + σ.2.2 3002 → (∀ i, i ≠ 1 → v i = v0 i) → ax_C p s m args meth c b_MM_sayTerm "ClauseProverModel" 4 none D kA (va_A (mmW kA z v0 σ0) s.heap.size) → AW p l e { frames := F, cells := mc, slots := ms, locals := Lo } s m args below meth c D kA (va_A (mmW kA z v0 σ0) s.heap.size) 4 (ax_Qv below args s D kA (mmW kA z v0 σ0) mc ms (fun w1 => ∃ v2 : Nat → Nat, (∀ i, i ≠ 1 → v2 i = v0 i) ∧ w1 = mmW kA z v2 res.1)) 132 [(0, .ref z), (1, .int x0), (2, .int x1), (3, .int x2)] [] (mmW kA z v σ) cells slots
def sS_sayLiteral (l : Launch) (D : va_G) (kA : Nat → ClassId) (z : Nat) (σ : mS) (xs : List Int32) (res : mR) : Prop := ∀ (x0 : Int32), xs = [x0] → ∀ v : Nat → Nat, ax_Mv l D kA y_MM_sayLiteral b_MM_sayLiteral 3 (res.2.2 + 3) (48 * res.2.2 + 144) (res.1.2.2 3001 - σ.2.2 3001) (res.1.2.2 3002 - σ.2.2 3002) [.ref z, .int x0] (mmW kA z v σ) (fun w1 => ∃ v2 : Nat → Nat, (∀ i, i ≠ 1 → v2 i = v i) ∧ w1 = mmW kA z v2 res.1)
def sS_sayLiteral_36 (l : Launch) (D : va_G) (kA : Nat → ClassId) (z : Nat) (σ : mS) (xs : List Int32) (res : mR) : Prop := ∀ (x0 : Int32), xs = [x0] → ∀ v : Nat → Nat, ∀ (p : Program) (e : Env) (s : State) (m : MethodId) (args : Array Value) (below : List Frame) (meth : Method) (c : Code) (F Lo mc ms cells slots : Nat) (σ0 : mS) (v0 : Nat → Nat), res.2.2 + 3 ≤ F → 48 * res.2.2 + 144 ≤ Lo → cells + res.1.2.2 3001 ≤ mc + σ.2.2 3001 → slots + res.1.2.2 3002 ≤ ms + σ.2.2 3002 → (∀ i, i ≠ 1 → v i = v0 i) → ax_C p s m args meth c b_MM_sayLiteral "ClauseProverModel" 3 none D kA (va_A (mmW kA z v0 σ0) s.heap.size) → AW p l e { frames := F, cells := mc, slots := ms, locals := Lo } s m args below meth c D kA (va_A (mmW kA z v0 σ0) s.heap.size) 3 (ax_Qv below args s D kA (mmW kA z v0 σ0) mc ms (fun w1 => ∃ v2 : Nat → Nat, (∀ i, i ≠ 1 → v2 i = v0 i) ∧ w1 = mmW kA z v2 res.1)) 36 [(0, .ref z), (1, .int x0)] [] (mmW kA z v σ) cells slots
def sS_sayLiteral_72 (l : Launch) (D : va_G) (kA : Nat → ClassId) (z : Nat) (σ : mS) (xs : List Int32) (res : mR) : Prop := ∀ (x0 : Int32), xs = [x0] → ∀ v : Nat → Nat, ∀ (p : Program) (e : Env) (s : State) (m : MethodId) (args : Array Value) (below : List Frame) (meth : Method) (c : Code) (F Lo mc ms cells slots : Nat) (σ0 : mS) (v0 : Nat → Nat), res.2.2 + 3 ≤ F → 48 * res.2.2 + 144 ≤ Lo → cells + res.1.2.2 3001 ≤ mc + σ.2.2 3001 → slots + res.1.2.2 3002 ≤ ms + σ.2.2 3002 → (∀ i, i ≠ 1 → v i = v0 i) → ax_C p s m args meth c b_MM_sayLiteral "ClauseProverModel" 3 none D kA (va_A (mmW kA z v0 σ0) s.heap.size) → AW p l e { frames := F, cells := mc, slots := ms, locals := Lo } s m args below meth c D kA (va_A (mmW kA z v0 σ0) s.heap.size) 3 (ax_Qv below args s D kA (mmW kA z v0 σ0) mc ms (fun w1 => ∃ v2 : Nat → Nat, (∀ i, i ≠ 1 → v2 i = v0 i) ∧ w1 = mmW kA z v2 res.1)) 72 [(0, .ref z), (1, .int x0)] [] (mmW kA z v σ) cells slots
def sS_sayLiteral_73 (l : Launch) (D : va_G) (kA : Nat → ClassId) (z : Nat) (σ : mS) (xs : List Int32) (res : mR) : Prop := ∀ (x0 x1 : Int32), xs = [x0, x1] → ∀ v : Nat → Nat, ∀ (p : Program) (e : Env) (s : State) (m : MethodId) (args : Array Value) (below : List Frame) (meth : Method) (c : Code) (F Lo mc ms cells slots : Nat) (σ0 : mS) (v0 : Nat → Nat), res.2.2 + 3 ≤ F → 48 * res.2.2 + 144 ≤ Lo → cells + res.1.2.2 3001 ≤ mc + σ.2.2 3001 → slots + res.1.2.2 3002 ≤ ms + σ.2.2 3002 → (∀ i, i ≠ 1 → v i = v0 i) → ax_C p s m args meth c b_MM_sayLiteral "ClauseProverModel" 3 none D kA (va_A (mmW kA z v0 σ0) s.heap.size) → AW p l e { frames := F, cells := mc, slots := ms, locals := Lo } s m args below meth c D kA (va_A (mmW kA z v0 σ0) s.heap.size) 3 (ax_Qv below args s D kA (mmW kA z v0 σ0) mc ms (fun w1 => ∃ v2 : Nat → Nat, (∀ i, i ≠ 1 → v2 i = v0 i) ∧ w1 = mmW kA z v2 res.1)) 73 [(0, .ref z), (1, .int x0)] [.int x1] (mmW kA z v σ) cells slots
def sS_sayLiteral_93 (l : Launch) (D : va_G) (kA : Nat → ClassId) (z : Nat) (σ : mS) (xs : List Int32) (res : mR) : Prop := ∀ (x0 x1 : Int32), xs = [x0, x1] → ∀ v : Nat → Nat, ∀ (p : Program) (e : Env) (s : State) (m : MethodId) (args : Array Value) (below : List Frame) (meth : Method) (c : Code) (F Lo mc ms cells slots : Nat) (σ0 : mS) (v0 : Nat → Nat), res.2.2 + 3 ≤ F → 48 * res.2.2 + 144 ≤ Lo → cells + res.1.2.2 3001 ≤ mc + σ.2.2 3001 → slots + res.1.2.2 3002 ≤ ms + σ.2.2 3002 → (∀ i, i ≠ 1 → v i = v0 i) → ax_C p s m args meth c b_MM_sayLiteral "ClauseProverModel" 3 none D kA (va_A (mmW kA z v0 σ0) s.heap.size) → AW p l e { frames := F, cells := mc, slots := ms, locals := Lo } s m args below meth c D kA (va_A (mmW kA z v0 σ0) s.heap.size) 3 (ax_Qv below args s D kA (mmW kA z v0 σ0) mc ms (fun w1 => ∃ v2 : Nat → Nat, (∀ i, i ≠ 1 → v2 i = v0 i) ∧ w1 = mmW kA z v2 res.1)) 93 [(0, .ref z), (1, .int x0), (2, .int x1)] [] (mmW kA z v σ) cells slots
def sS_sayLiteral_130 (l : Launch) (D : va_G) (kA : Nat → ClassId) (z : Nat) (σ : mS) (xs : List Int32) (res : mR) : Prop := ∀ (x0 x1 : Int32), xs = [x0, x1] → ∀ v : Nat → Nat, ∀ (p : Program) (e : Env) (s : State) (m : MethodId) (args : Array Value) (below : List Frame) (meth : Method) (c : Code) (F Lo mc ms cells slots : Nat) (σ0 : mS) (v0 : Nat → Nat), res.2.2 + 3 ≤ F → 48 * res.2.2 + 144 ≤ Lo → cells + res.1.2.2 3001 ≤ mc + σ.2.2 3001 → slots + res.1.2.2 3002 ≤ ms + σ.2.2 3002 → (∀ i, i ≠ 1 → v i = v0 i) → ax_C p s m args meth c b_MM_sayLiteral "ClauseProverModel" 3 none D kA (va_A (mmW kA z v0 σ0) s.heap.size) → AW p l e { frames := F, cells := mc, slots := ms, locals := Lo } s m args below meth c D kA (va_A (mmW kA z v0 σ0) s.heap.size) 3 (ax_Qv below args s D kA (mmW kA z v0 σ0) mc ms (fun w1 => ∃ v2 : Nat → Nat, (∀ i, i ≠ 1 → v2 i = v0 i) ∧ w1 = mmW kA z v2 res.1)) 130 [(0, .ref z), (1, .int x0), (2, .int x1)] [] (mmW kA z v σ) cells slots
def sS_show (l : Launch) (D : va_G) (kA : Nat → ClassId) (z : Nat) (σ : mS) (xs : List Int32) (res : mR) : Prop := ∀ (x0 : Int32), xs = [x0] → ∀ v : Nat → Nat, ax_Mi l D kA y_MM_show b_MM_show 3 .int (res.2.2 + 3) (48 * res.2.2 + 144) (res.1.2.2 3001 - σ.2.2 3001) (res.1.2.2 3002 - σ.2.2 3002) [.ref z, .int x0] (mmW kA z v σ) (fun r w1 => r = res.2.1 ∧ ∃ v2 : Nat → Nat, (∀ i, i ≠ 1 → v2 i = v i) ∧ w1 = mmW kA z v2 res.1)
def sS_show_22 (l : Launch) (D : va_G) (kA : Nat → ClassId) (z : Nat) (σ : mS) (xs : List Int32) (res : mR) : Prop := ∀ (x0 x1 : Int32), xs = [x0, x1] → ∀ v : Nat → Nat, ∀ (p : Program) (e : Env) (s : State) (m : MethodId) (args : Array Value) (below : List Frame) (meth : Method) (c : Code) (F Lo mc ms cells slots : Nat) (σ0 : mS) (v0 : Nat → Nat), res.2.2 + 3 ≤ F → 48 * res.2.2 + 144 ≤ Lo → cells + res.1.2.2 3001 ≤ mc + σ.2.2 3001 → slots + res.1.2.2 3002 ≤ ms + σ.2.2 3002 → (∀ i, i ≠ 1 → v i = v0 i) → ax_C p s m args meth c b_MM_show "ClauseProverModel" 3 (some .int) D kA (va_A (mmW kA z v0 σ0) s.heap.size) → AW p l e { frames := F, cells := mc, slots := ms, locals := Lo } s m args below meth c D kA (va_A (mmW kA z v0 σ0) s.heap.size) 3 (ax_Qi below args s D kA (mmW kA z v0 σ0) mc ms (fun r w1 => r = res.2.1 ∧ ∃ v2 : Nat → Nat, (∀ i, i ≠ 1 → v2 i = v0 i) ∧ w1 = mmW kA z v2 res.1)) 22 [(0, .ref z), (1, .int x0), (2, .int x1)] [] (mmW kA z v σ) cells slots
def sS_show_67 (l : Launch) (D : va_G) (kA : Nat → ClassId) (z : Nat) (σ : mS) (xs : List Int32) (res : mR) : Prop := ∀ (x0 x1 : Int32), xs = [x0, x1] → ∀ v : Nat → Nat, ∀ (p : Program) (e : Env) (s : State) (m : MethodId) (args : Array Value) (below : List Frame) (meth : Method) (c : Code) (F Lo mc ms cells slots : Nat) (σ0 : mS) (v0 : Nat → Nat), res.2.2 + 3 ≤ F → 48 * res.2.2 + 144 ≤ Lo → cells + res.1.2.2 3001 ≤ mc + σ.2.2 3001 → slots + res.1.2.2 3002 ≤ ms + σ.2.2 3002 → (∀ i, i ≠ 1 → v i = v0 i) → ax_C p s m args meth c b_MM_show "ClauseProverModel" 3 (some .int) D kA (va_A (mmW kA z v0 σ0) s.heap.size) → AW p l e { frames := F, cells := mc, slots := ms, locals := Lo } s m args below meth c D kA (va_A (mmW kA z v0 σ0) s.heap.size) 3 (ax_Qi below args s D kA (mmW kA z v0 σ0) mc ms (fun r w1 => r = res.2.1 ∧ ∃ v2 : Nat → Nat, (∀ i, i ≠ 1 → v2 i = v0 i) ∧ w1 = mmW kA z v2 res.1)) 67 [(0, .ref z), (1, .int x0), (2, .int x1)] [] (mmW kA z v σ) cells slots
def sS_show_117 (l : Launch) (D : va_G) (kA : Nat → ClassId) (z : Nat) (σ : mS) (xs : List Int32) (res : mR) : Prop := ∀ (x0 x1 : Int32), xs = [x0, x1] → ∀ v : Nat → Nat, ∀ (p : Program) (e : Env) (s : State) (m : MethodId) (args : Array Value) (below : List Frame) (meth : Method) (c : Code) (F Lo mc ms cells slots : Nat) (σ0 : mS) (v0 : Nat → Nat), res.2.2 + 3 ≤ F → 48 * res.2.2 + 144 ≤ Lo → cells + res.1.2.2 3001 ≤ mc + σ.2.2 3001 → slots + res.1.2.2 3002 ≤ ms + σ.2.2 3002 → (∀ i, i ≠ 1 → v i = v0 i) → ax_C p s m args meth c b_MM_show "ClauseProverModel" 3 (some .int) D kA (va_A (mmW kA z v0 σ0) s.heap.size) → AW p l e { frames := F, cells := mc, slots := ms, locals := Lo } s m args below meth c D kA (va_A (mmW kA z v0 σ0) s.heap.size) 3 (ax_Qi below args s D kA (mmW kA z v0 σ0) mc ms (fun r w1 => r = res.2.1 ∧ ∃ v2 : Nat → Nat, (∀ i, i ≠ 1 → v2 i = v0 i) ∧ w1 = mmW kA z v2 res.1)) 117 [(0, .ref z), (1, .int x0), (2, .int x1)] [] (mmW kA z v σ) cells slots
def sTab (l : Launch) (D : va_G) (kA : Nat → ClassId) (z : Nat) : List (mS → List Int32 → mR → Prop) := [sS_refuse l D kA z, sS_refuse_9 l D kA z, sS_none l D kA z, sS_none_19 l D kA z, sS_none_24 l D kA z, sS_isPredicate l D kA z, sS_isPredicate_27 l D kA z, sS_isPredicate_28 l D kA z, sS_sayNumber l D kA z, sS_sayNumber_14 l D kA z, sS_sayTerm l D kA z, sS_sayTerm_69 l D kA z, sS_sayTerm_112 l D kA z, sS_sayTerm_132 l D kA z, sS_sayLiteral l D kA z, sS_sayLiteral_36 l D kA z, sS_sayLiteral_72 l D kA z, sS_sayLiteral_73 l D kA z, sS_sayLiteral_93 l D kA z, sS_sayLiteral_130 l D kA z, sS_show l D kA z, sS_show_22 l D kA z, sS_show_67 l D kA z, sS_show_117 l D kA z]
def sSem (l : Launch) (D : va_G) (kA : Nat → ClassId) (z : Nat) (t : Nat) (σ : mS) (xs : List Int32) (res : mR) : Prop := ((sTab l D kA z).getD t (fun _ _ _ => True)) σ xs res
def kS_refuse (rec : mF) (σ : mS) (x0 x1 : Int32) : Option mR := if x1 = 0 then (rec tS_refuse_9 σ [x0, x1]) else (lt_ (mI σ 4 x0) (fun σ1 => rec tS_refuse_9 σ1 [x0, x1]))
def kS_refuse_9 (rec : mF) (σ : mS) (x0 x1 : Int32) : Option mR := if x1 = 0 ∨ x1 = 1 then some (σ, x1, 0) else none
def kS_none (rec : mF) (σ : mS) (x0 : Int32) : Option mR := lt_ (mI σ 4 0) (fun σ1 => if x0 < 0 then (rec tS_none_19 σ1 [x0, 1]) else (if x0 < (σ1.1 84) then (rec tS_none_24 σ1 [x0, 0, 1]) else (rec tS_none_19 σ1 [x0, 1])))
def kS_none_19 (rec : mF) (σ : mS) (x0 x1 : Int32) : Option mR := rec tS_none_24 σ [x0, 1, x1]
def kS_none_24 (rec : mF) (σ : mS) (x0 x1 x2 : Int32) : Option mR := bnd (rec tS_refuse σ [x2, x1]) (fun σ1 r1 => if r1 = 0 ∨ r1 = 1 then some (σ1, r1, 0) else none)
def kS_isPredicate (rec : mF) (σ : mS) (x0 : Int32) : Option mR := if bin x0 420000 = true then (if (σ.2.1 43 (Int32.toNatClampNeg x0)) < 0 then (rec tS_isPredicate_27 σ [x0]) else (if bin x0 420000 = true then (if bin (σ.2.1 43 (Int32.toNatClampNeg x0)) 900 = true then (if (σ.2.1 49 (Int32.toNatClampNeg (σ.2.1 43 (Int32.toNatClampNeg x0)))) = 0 then (rec tS_isPredicate_27 σ [x0]) else (rec tS_isPredicate_28 σ [x0, 1])) else none) else none)) else none
def kS_isPredicate_27 (rec : mF) (σ : mS) (x0 : Int32) : Option mR := rec tS_isPredicate_28 σ [x0, 0]
def kS_isPredicate_28 (rec : mF) (σ : mS) (x0 x1 : Int32) : Option mR := if x1 = 0 ∨ x1 = 1 then some (σ, x1, 0) else none
def kS_sayNumber (rec : mF) (σ : mS) (x0 : Int32) : Option mR := if x0 ≤ 9 then (rec tS_sayNumber_14 σ [x0]) else (if (10 : Int32) = 0 then none else (bnd (rec tS_sayNumber σ [(x0 / 10)]) (fun σ1 r1 => rec tS_sayNumber_14 σ1 [x0])))
def kS_sayNumber_14 (rec : mF) (σ : mS) (x0 : Int32) : Option mR := if (10 : Int32) = 0 then none else (if sok σ = true then (lt_ (mSay σ ((48 : Int32) + (x0 - x0 / 10 * 10))) (fun σ1 => some (σ1, 0, 0))) else none)
def kS_sayTerm (rec : mF) (σ : mS) (x0 : Int32) : Option mR := if bin x0 420000 = true then (if 0 ≤ (σ.2.1 43 (Int32.toNatClampNeg x0)) then (if bin x0 420000 = true then (if (σ.2.1 43 (Int32.toNatClampNeg x0)) ≤ (σ.1 20) then (rec tS_sayTerm_69 σ [x0, 0]) else (if sok σ = true then (lt_ (mSay σ 119) (fun σ1 => if bin x0 420000 = true then (bnd (rec tS_sayNumber σ1 [(((((σ1.2.1 43 (Int32.toNatClampNeg x0)) : Int32) - (σ1.1 20)) : Int32) - 1)]) (fun σ2 r2 => rec tS_sayTerm_112 σ2 [x0])) else none)) else none)) else none) else (if sok σ = true then (lt_ (mSay σ 88) (fun σ3 => if bin x0 420000 = true then (bnd (rec tS_sayNumber σ3 [(((-1) : Int32) - (σ3.2.1 43 (Int32.toNatClampNeg x0)))]) (fun σ4 r4 => some (σ4, 0, 0))) else none)) else none)) else none
def kS_sayTerm_69 (rec : mF) (σ : mS) (x0 x1 : Int32) : Option mR := if bin x0 420000 = true then (if bin (σ.2.1 43 (Int32.toNatClampNeg x0)) 900 = true then (if (σ.2.1 14 (Int32.toNatClampNeg (σ.2.1 43 (Int32.toNatClampNeg x0)))) ≤ x1 then (rec tS_sayTerm_112 σ [x0]) else (if bin x0 420000 = true then (if bin (σ.2.1 43 (Int32.toNatClampNeg x0)) 900 = true then (if bin (((σ.2.1 13 (Int32.toNatClampNeg (σ.2.1 43 (Int32.toNatClampNeg x0)))) : Int32) + x1) 9000 = true then (if sok σ = true then (lt_ (mSay σ (σ.2.1 17 (Int32.toNatClampNeg (((σ.2.1 13 (Int32.toNatClampNeg (σ.2.1 43 (Int32.toNatClampNeg x0)))) : Int32) + x1)))) (fun σ1 => rec tS_sayTerm_69 σ1 [x0, (x1 + 1)])) else none) else none) else none) else none)) else none) else none
def kS_sayTerm_112 (rec : mF) (σ : mS) (x0 : Int32) : Option mR := if bin x0 420000 = true then (if 0 ≤ (σ.2.1 44 (Int32.toNatClampNeg x0)) then (if bin x0 420000 = true then (rec tS_sayTerm_132 σ [x0, 40, (σ.2.1 44 (Int32.toNatClampNeg x0))]) else none) else (some (σ, 0, 0))) else none
def kS_sayTerm_132 (rec : mF) (σ : mS) (x0 x1 x2 : Int32) : Option mR := if x2 < 0 then (if sok σ = true then (lt_ (mSay σ 41) (fun σ1 => some (σ1, 0, 0))) else none) else (if sok σ = true then (lt_ (mSay σ x1) (fun σ2 => bnd (rec tS_sayTerm σ2 [x2]) (fun σ3 r3 => if bin x2 420000 = true then (rec tS_sayTerm_132 σ3 [x0, 44, (σ3.2.1 45 (Int32.toNatClampNeg x2))]) else none))) else none)
def kS_sayLiteral (rec : mF) (σ : mS) (x0 : Int32) : Option mR := if bin x0 16100 = true then (bnd (rec tS_isPredicate σ [(σ.2.1 66 (Int32.toNatClampNeg x0))]) (fun σ1 r1 => if r1 = 0 then (rec tS_sayLiteral_36 σ1 [x0]) else (if bin x0 16100 = true then (if bin (σ1.2.1 66 (Int32.toNatClampNeg x0)) 420000 = true then (if (σ1.2.1 43 (Int32.toNatClampNeg (σ1.2.1 66 (Int32.toNatClampNeg x0)))) ≤ 0 then (rec tS_sayLiteral_36 σ1 [x0]) else (if bin x0 16100 = true then (rec tS_sayLiteral_73 σ1 [x0, (σ1.2.1 66 (Int32.toNatClampNeg x0))]) else none)) else none) else none))) else none
def kS_sayLiteral_36 (rec : mF) (σ : mS) (x0 : Int32) : Option mR := if bin x0 16100 = true then (bnd (rec tS_isPredicate σ [(σ.2.1 67 (Int32.toNatClampNeg x0))]) (fun σ1 r1 => if r1 = 0 then (rec tS_sayLiteral_72 σ1 [x0]) else (if bin x0 16100 = true then (if bin (σ1.2.1 67 (Int32.toNatClampNeg x0)) 420000 = true then (if (σ1.2.1 43 (Int32.toNatClampNeg (σ1.2.1 67 (Int32.toNatClampNeg x0)))) ≤ 0 then (rec tS_sayLiteral_72 σ1 [x0]) else (if bin x0 16100 = true then (rec tS_sayLiteral_73 σ1 [x0, (σ1.2.1 67 (Int32.toNatClampNeg x0))]) else none)) else none) else none))) else none
def kS_sayLiteral_72 (rec : mF) (σ : mS) (x0 : Int32) : Option mR := rec tS_sayLiteral_73 σ [x0, (-1)]
def kS_sayLiteral_73 (rec : mF) (σ : mS) (x0 x1 : Int32) : Option mR := if x1 < 0 then (if bin x0 16100 = true then (bnd (rec tS_sayTerm σ [(σ.2.1 66 (Int32.toNatClampNeg x0))]) (fun σ1 r1 => if sok σ1 = true then (lt_ (mSay σ1 32) (fun σ2 => if bin x0 16100 = true then (if (σ2.2.1 68 (Int32.toNatClampNeg x0)) = 0 then (if sok σ2 = true then (lt_ (mSay σ2 33) (fun σ3 => rec tS_sayLiteral_130 σ3 [x0, x1])) else none) else (rec tS_sayLiteral_130 σ2 [x0, x1])) else none)) else none)) else none) else (if bin x0 16100 = true then (if (σ.2.1 68 (Int32.toNatClampNeg x0)) = 0 then (if sok σ = true then (lt_ (mSay σ 126) (fun σ4 => rec tS_sayLiteral_93 σ4 [x0, x1])) else none) else (rec tS_sayLiteral_93 σ [x0, x1])) else none)
def kS_sayLiteral_93 (rec : mF) (σ : mS) (x0 x1 : Int32) : Option mR := bnd (rec tS_sayTerm σ [x1]) (fun σ1 r1 => some (σ1, 0, 0))
def kS_sayLiteral_130 (rec : mF) (σ : mS) (x0 x1 : Int32) : Option mR := if sok σ = true then (lt_ (mSay σ 61) (fun σ1 => if sok σ1 = true then (lt_ (mSay σ1 32) (fun σ2 => if bin x0 16100 = true then (bnd (rec tS_sayTerm σ2 [(σ2.2.1 67 (Int32.toNatClampNeg x0))]) (fun σ3 r3 => some (σ3, 0, 0))) else none)) else none)) else none
def kS_show (rec : mF) (σ : mS) (x0 : Int32) : Option mR := bnd (rec tS_none σ [x0]) (fun σ1 r1 => if r1 = 0 then (lt_ (mI σ1 3 0) (fun σ2 => if bin x0 2001 = true then (rec tS_show_22 σ2 [x0, (σ2.2.1 73 (Int32.toNatClampNeg x0))]) else none)) else (some (σ1, 0, 0)))
def kS_show_22 (rec : mF) (σ : mS) (x0 x1 : Int32) : Option mR := if bin x0 2001 = true then (if bin x0 2001 = true then (if (((σ.2.1 73 (Int32.toNatClampNeg x0)) : Int32) + (σ.2.1 74 (Int32.toNatClampNeg x0))) ≤ x1 then (if bin x0 2001 = true then (if (σ.2.1 74 (Int32.toNatClampNeg x0)) = 0 then (if sok σ = true then (lt_ (mSay σ 102) (fun σ1 => if sok σ1 = true then (lt_ (mSay σ1 97) (fun σ2 => if sok σ2 = true then (lt_ (mSay σ2 108) (fun σ3 => if sok σ3 = true then (lt_ (mSay σ3 115) (fun σ4 => if sok σ4 = true then (lt_ (mSay σ4 101) (fun σ5 => rec tS_show_117 σ5 [x0, x1])) else none)) else none)) else none)) else none)) else none) else (rec tS_show_117 σ [x0, x1])) else none) else (if bin x0 2001 = true then (if x1 ≤ (σ.2.1 73 (Int32.toNatClampNeg x0)) then (rec tS_show_67 σ [x0, x1]) else (if sok σ = true then (lt_ (mSay σ 32) (fun σ6 => if sok σ6 = true then (lt_ (mSay σ6 124) (fun σ7 => if sok σ7 = true then (lt_ (mSay σ7 32) (fun σ8 => rec tS_show_67 σ8 [x0, x1])) else none)) else none)) else none)) else none)) else none) else none
def kS_show_67 (rec : mF) (σ : mS) (x0 x1 : Int32) : Option mR := bnd (rec tS_sayLiteral σ [x1]) (fun σ1 r1 => rec tS_show_22 σ1 [x0, (x1 + 1)])
def kS_show_117 (rec : mF) (σ : mS) (x0 x1 : Int32) : Option mR := some (σ, (σ.1 3), 0)
theorem qS_refuse (rec : mF) (hG : GMs rec) (σ : mS) (x0 x1 : Int32) : gm σ (kS_refuse rec σ x0 x1) := by
  unfold kS_refuse
  exact (gm_if (gs_tail hG) (gm_lt ⟨Nat.le_refl _, Nat.le_refl _, rfl⟩ (gs_tail hG)))
theorem qS_refuse_9 (rec : mF) (hG : GMs rec) (σ : mS) (x0 x1 : Int32) : gm σ (kS_refuse_9 rec σ x0 x1) := by
  unfold kS_refuse_9
  exact (gm_if gm_some gm_none)
theorem qS_none (rec : mF) (hG : GMs rec) (σ : mS) (x0 : Int32) : gm σ (kS_none rec σ x0) := by
  unfold kS_none
  exact (gm_lt ⟨Nat.le_refl _, Nat.le_refl _, rfl⟩ (gm_if (gs_tail hG) (gm_if (gs_tail hG) (gs_tail hG))))
theorem qS_none_19 (rec : mF) (hG : GMs rec) (σ : mS) (x0 x1 : Int32) : gm σ (kS_none_19 rec σ x0 x1) := by
  unfold kS_none_19
  exact (gs_tail hG)
theorem qS_none_24 (rec : mF) (hG : GMs rec) (σ : mS) (x0 x1 x2 : Int32) : gm σ (kS_none_24 rec σ x0 x1 x2) := by
  unfold kS_none_24
  exact (gs_bnd hG (fun _ _ => (gm_if gm_some gm_none)))
theorem qS_isPredicate (rec : mF) (hG : GMs rec) (σ : mS) (x0 : Int32) : gm σ (kS_isPredicate rec σ x0) := by
  unfold kS_isPredicate
  exact (gm_if (gm_if (gs_tail hG) (gm_if (gm_if (gm_if (gs_tail hG) (gs_tail hG)) gm_none) gm_none)) gm_none)
theorem qS_isPredicate_27 (rec : mF) (hG : GMs rec) (σ : mS) (x0 : Int32) : gm σ (kS_isPredicate_27 rec σ x0) := by
  unfold kS_isPredicate_27
  exact (gs_tail hG)
theorem qS_isPredicate_28 (rec : mF) (hG : GMs rec) (σ : mS) (x0 x1 : Int32) : gm σ (kS_isPredicate_28 rec σ x0 x1) := by
  unfold kS_isPredicate_28
  exact (gm_if gm_some gm_none)
theorem qS_sayNumber (rec : mF) (hG : GMs rec) (σ : mS) (x0 : Int32) : gm σ (kS_sayNumber rec σ x0) := by
  unfold kS_sayNumber
  exact (gm_if (gs_tail hG) (gm_if gm_none (gs_bnd hG (fun _ _ => (gs_tail hG)))))
theorem qS_sayNumber_14 (rec : mF) (hG : GMs rec) (σ : mS) (x0 : Int32) : gm σ (kS_sayNumber_14 rec σ x0) := by
  unfold kS_sayNumber_14
  exact (gm_if gm_none (gm_if (gm_lt (mSay_le _ _) gm_some) gm_none))
theorem qS_sayTerm (rec : mF) (hG : GMs rec) (σ : mS) (x0 : Int32) : gm σ (kS_sayTerm rec σ x0) := by
  unfold kS_sayTerm
  exact (gm_if (gm_if (gm_if (gm_if (gs_tail hG) (gm_if (gm_lt (mSay_le _ _) (gm_if (gs_bnd hG (fun _ _ => (gs_tail hG))) gm_none)) gm_none)) gm_none) (gm_if (gm_lt (mSay_le _ _) (gm_if (gs_bnd hG (fun _ _ => gm_some)) gm_none)) gm_none)) gm_none)
theorem qS_sayTerm_69 (rec : mF) (hG : GMs rec) (σ : mS) (x0 x1 : Int32) : gm σ (kS_sayTerm_69 rec σ x0 x1) := by
  unfold kS_sayTerm_69
  exact (gm_if (gm_if (gm_if (gs_tail hG) (gm_if (gm_if (gm_if (gm_if (gm_lt (mSay_le _ _) (gs_tail hG)) gm_none) gm_none) gm_none) gm_none)) gm_none) gm_none)
theorem qS_sayTerm_112 (rec : mF) (hG : GMs rec) (σ : mS) (x0 : Int32) : gm σ (kS_sayTerm_112 rec σ x0) := by
  unfold kS_sayTerm_112
  exact (gm_if (gm_if (gm_if (gs_tail hG) gm_none) gm_some) gm_none)
theorem qS_sayTerm_132 (rec : mF) (hG : GMs rec) (σ : mS) (x0 x1 x2 : Int32) : gm σ (kS_sayTerm_132 rec σ x0 x1 x2) := by
  unfold kS_sayTerm_132
  exact (gm_if (gm_if (gm_lt (mSay_le _ _) gm_some) gm_none) (gm_if (gm_lt (mSay_le _ _) (gs_bnd hG (fun _ _ => (gm_if (gs_tail hG) gm_none)))) gm_none))
theorem qS_sayLiteral (rec : mF) (hG : GMs rec) (σ : mS) (x0 : Int32) : gm σ (kS_sayLiteral rec σ x0) := by
  unfold kS_sayLiteral
  exact (gm_if (gs_bnd hG (fun _ _ => (gm_if (gs_tail hG) (gm_if (gm_if (gm_if (gs_tail hG) (gm_if (gs_tail hG) gm_none)) gm_none) gm_none)))) gm_none)
theorem qS_sayLiteral_36 (rec : mF) (hG : GMs rec) (σ : mS) (x0 : Int32) : gm σ (kS_sayLiteral_36 rec σ x0) := by
  unfold kS_sayLiteral_36
  exact (gm_if (gs_bnd hG (fun _ _ => (gm_if (gs_tail hG) (gm_if (gm_if (gm_if (gs_tail hG) (gm_if (gs_tail hG) gm_none)) gm_none) gm_none)))) gm_none)
theorem qS_sayLiteral_72 (rec : mF) (hG : GMs rec) (σ : mS) (x0 : Int32) : gm σ (kS_sayLiteral_72 rec σ x0) := by
  unfold kS_sayLiteral_72
  exact (gs_tail hG)
theorem qS_sayLiteral_73 (rec : mF) (hG : GMs rec) (σ : mS) (x0 x1 : Int32) : gm σ (kS_sayLiteral_73 rec σ x0 x1) := by
  unfold kS_sayLiteral_73
  exact (gm_if (gm_if (gs_bnd hG (fun _ _ => (gm_if (gm_lt (mSay_le _ _) (gm_if (gm_if (gm_if (gm_lt (mSay_le _ _) (gs_tail hG)) gm_none) (gs_tail hG)) gm_none)) gm_none))) gm_none) (gm_if (gm_if (gm_if (gm_lt (mSay_le _ _) (gs_tail hG)) gm_none) (gs_tail hG)) gm_none))
theorem qS_sayLiteral_93 (rec : mF) (hG : GMs rec) (σ : mS) (x0 x1 : Int32) : gm σ (kS_sayLiteral_93 rec σ x0 x1) := by
  unfold kS_sayLiteral_93
  exact (gs_bnd hG (fun _ _ => gm_some))
theorem qS_sayLiteral_130 (rec : mF) (hG : GMs rec) (σ : mS) (x0 x1 : Int32) : gm σ (kS_sayLiteral_130 rec σ x0 x1) := by
  unfold kS_sayLiteral_130
  exact (gm_if (gm_lt (mSay_le _ _) (gm_if (gm_lt (mSay_le _ _) (gm_if (gs_bnd hG (fun _ _ => gm_some)) gm_none)) gm_none)) gm_none)
theorem qS_show (rec : mF) (hG : GMs rec) (σ : mS) (x0 : Int32) : gm σ (kS_show rec σ x0) := by
  unfold kS_show
  exact (gs_bnd hG (fun _ _ => (gm_if (gm_lt ⟨Nat.le_refl _, Nat.le_refl _, rfl⟩ (gm_if (gs_tail hG) gm_none)) gm_some)))
theorem qS_show_22 (rec : mF) (hG : GMs rec) (σ : mS) (x0 x1 : Int32) : gm σ (kS_show_22 rec σ x0 x1) := by
  unfold kS_show_22
  exact (gm_if (gm_if (gm_if (gm_if (gm_if (gm_if (gm_lt (mSay_le _ _) (gm_if (gm_lt (mSay_le _ _) (gm_if (gm_lt (mSay_le _ _) (gm_if (gm_lt (mSay_le _ _) (gm_if (gm_lt (mSay_le _ _) (gs_tail hG)) gm_none)) gm_none)) gm_none)) gm_none)) gm_none) (gs_tail hG)) gm_none) (gm_if (gm_if (gs_tail hG) (gm_if (gm_lt (mSay_le _ _) (gm_if (gm_lt (mSay_le _ _) (gm_if (gm_lt (mSay_le _ _) (gs_tail hG)) gm_none)) gm_none)) gm_none)) gm_none)) gm_none) gm_none)
theorem qS_show_67 (rec : mF) (hG : GMs rec) (σ : mS) (x0 x1 : Int32) : gm σ (kS_show_67 rec σ x0 x1) := by
  unfold kS_show_67
  exact (gs_bnd hG (fun _ _ => (gs_tail hG)))
theorem qS_show_117 (rec : mF) (hG : GMs rec) (σ : mS) (x0 x1 : Int32) : gm σ (kS_show_117 rec σ x0 x1) := by
  unfold kS_show_117
  exact gm_some
def sBlk : List (mF → mS → List Int32 → Option mR) := [fun rec σ xs => u_2 (kS_refuse rec σ) xs, fun rec σ xs => u_2 (kS_refuse_9 rec σ) xs, fun rec σ xs => u_1 (kS_none rec σ) xs, fun rec σ xs => u_2 (kS_none_19 rec σ) xs, fun rec σ xs => u_3 (kS_none_24 rec σ) xs, fun rec σ xs => u_1 (kS_isPredicate rec σ) xs, fun rec σ xs => u_1 (kS_isPredicate_27 rec σ) xs, fun rec σ xs => u_2 (kS_isPredicate_28 rec σ) xs, fun rec σ xs => u_1 (kS_sayNumber rec σ) xs, fun rec σ xs => u_1 (kS_sayNumber_14 rec σ) xs, fun rec σ xs => u_1 (kS_sayTerm rec σ) xs, fun rec σ xs => u_2 (kS_sayTerm_69 rec σ) xs, fun rec σ xs => u_1 (kS_sayTerm_112 rec σ) xs, fun rec σ xs => u_3 (kS_sayTerm_132 rec σ) xs, fun rec σ xs => u_1 (kS_sayLiteral rec σ) xs, fun rec σ xs => u_1 (kS_sayLiteral_36 rec σ) xs, fun rec σ xs => u_1 (kS_sayLiteral_72 rec σ) xs, fun rec σ xs => u_2 (kS_sayLiteral_73 rec σ) xs, fun rec σ xs => u_2 (kS_sayLiteral_93 rec σ) xs, fun rec σ xs => u_2 (kS_sayLiteral_130 rec σ) xs, fun rec σ xs => u_1 (kS_show rec σ) xs, fun rec σ xs => u_2 (kS_show_22 rec σ) xs, fun rec σ xs => u_2 (kS_show_67 rec σ) xs, fun rec σ xs => u_2 (kS_show_117 rec σ) xs]
