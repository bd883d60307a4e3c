abbrev b_CP_addBytes : ByteArray := prog_1_method_3_code
def y_CP_addBytes : MethodName := ⟨"ClauseProver", "addBytes", "(I)V"⟩
theorem d_CP_addBytes_0 : decode b_CP_addBytes 0 = .ok (.bipush 24, 2) := by decide +kernel
theorem d_CP_addBytes_2 : decode b_CP_addBytes 2 = .ok (.istore_n 2, 1) := by decide +kernel
theorem d_CP_addBytes_3 : decode b_CP_addBytes 3 = .ok (.iload_n 2, 1) := by decide +kernel
theorem d_CP_addBytes_4 : decode b_CP_addBytes 4 = .ok (.ifCond .lt 23, 3) := by decide +kernel
theorem d_CP_addBytes_7 : decode b_CP_addBytes 7 = .ok (.aload_n 0, 1) := by decide +kernel
theorem d_CP_addBytes_8 : decode b_CP_addBytes 8 = .ok (.getfield 14, 3) := by decide +kernel
theorem d_CP_addBytes_11 : decode b_CP_addBytes 11 = .ok (.iload_n 1, 1) := by decide +kernel
theorem d_CP_addBytes_12 : decode b_CP_addBytes 12 = .ok (.iload_n 2, 1) := by decide +kernel
theorem d_CP_addBytes_13 : decode b_CP_addBytes 13 = .ok (.iushr, 1) := by decide +kernel
theorem d_CP_addBytes_14 : decode b_CP_addBytes 14 = .ok (.sipush 255, 3) := by decide +kernel
theorem d_CP_addBytes_17 : decode b_CP_addBytes 17 = .ok (.iand, 1) := by decide +kernel
theorem d_CP_addBytes_18 : decode b_CP_addBytes 18 = .ok (.invokevirtual 97, 3) := by decide +kernel
theorem d_CP_addBytes_21 : decode b_CP_addBytes 21 = .ok (.iinc 2 (-8), 3) := by decide +kernel
theorem d_CP_addBytes_24 : decode b_CP_addBytes 24 = .ok (.goto (-21), 3) := by decide +kernel
theorem d_CP_addBytes_27 : decode b_CP_addBytes 27 = .ok (.return_, 1) := by decide +kernel
abbrev b_CP_read : ByteArray := prog_1_method_5_code
def y_CP_read : MethodName := ⟨"ClauseProver", "read", "()I"⟩
theorem d_CP_read_0 : decode b_CP_read 0 = .ok (.aload_n 0, 1) := by decide +kernel
theorem d_CP_read_1 : decode b_CP_read 1 = .ok (.getfield 28, 3) := by decide +kernel
theorem d_CP_read_4 : decode b_CP_read 4 = .ok (.invokevirtual 105, 3) := by decide +kernel
theorem d_CP_read_7 : decode b_CP_read 7 = .ok (.aload_n 0, 1) := by decide +kernel
theorem d_CP_read_8 : decode b_CP_read 8 = .ok (.getfield 60, 3) := by decide +kernel
theorem d_CP_read_11 : decode b_CP_read 11 = .ok (.invokevirtual 108, 3) := by decide +kernel
theorem d_CP_read_14 : decode b_CP_read 14 = .ok (.aload_n 0, 1) := by decide +kernel
theorem d_CP_read_15 : decode b_CP_read 15 = .ok (.getfield 69, 3) := by decide +kernel
theorem d_CP_read_18 : decode b_CP_read 18 = .ok (.invokevirtual 109, 3) := by decide +kernel
theorem d_CP_read_21 : decode b_CP_read 21 = .ok (.aload_n 0, 1) := by decide +kernel
theorem d_CP_read_22 : decode b_CP_read 22 = .ok (.getfield 46, 3) := by decide +kernel
theorem d_CP_read_25 : decode b_CP_read 25 = .ok (.aload_n 0, 1) := by decide +kernel
theorem d_CP_read_26 : decode b_CP_read 26 = .ok (.getfield 14, 3) := by decide +kernel
theorem d_CP_read_29 : decode b_CP_read 29 = .ok (.getfield 110, 3) := by decide +kernel
theorem d_CP_read_32 : decode b_CP_read 32 = .ok (.aload_n 0, 1) := by decide +kernel
theorem d_CP_read_33 : decode b_CP_read 33 = .ok (.getfield 14, 3) := by decide +kernel
theorem d_CP_read_36 : decode b_CP_read 36 = .ok (.getfield 82, 3) := by decide +kernel
theorem d_CP_read_39 : decode b_CP_read 39 = .ok (.invokevirtual 113, 3) := by decide +kernel
theorem d_CP_read_42 : decode b_CP_read 42 = .ok (.aload_n 0, 1) := by decide +kernel
theorem d_CP_read_43 : decode b_CP_read 43 = .ok (.getfield 14, 3) := by decide +kernel
theorem d_CP_read_46 : decode b_CP_read 46 = .ok (.iconst 0, 1) := by decide +kernel
theorem d_CP_read_47 : decode b_CP_read 47 = .ok (.putfield 82, 3) := by decide +kernel
theorem d_CP_read_50 : decode b_CP_read 50 = .ok (.aload_n 0, 1) := by decide +kernel
theorem d_CP_read_51 : decode b_CP_read 51 = .ok (.aload_n 0, 1) := by decide +kernel
theorem d_CP_read_52 : decode b_CP_read 52 = .ok (.getfield 46, 3) := by decide +kernel
theorem d_CP_read_55 : decode b_CP_read 55 = .ok (.getfield 117, 3) := by decide +kernel
theorem d_CP_read_58 : decode b_CP_read 58 = .ok (.putfield 120, 3) := by decide +kernel
theorem d_CP_read_61 : decode b_CP_read 61 = .ok (.aload_n 0, 1) := by decide +kernel
theorem d_CP_read_62 : decode b_CP_read 62 = .ok (.aload_n 0, 1) := by decide +kernel
theorem d_CP_read_63 : decode b_CP_read 63 = .ok (.getfield 46, 3) := by decide +kernel
theorem d_CP_read_66 : decode b_CP_read 66 = .ok (.getfield 123, 3) := by decide +kernel
theorem d_CP_read_69 : decode b_CP_read 69 = .ok (.putfield 126, 3) := by decide +kernel
theorem d_CP_read_72 : decode b_CP_read 72 = .ok (.aload_n 0, 1) := by decide +kernel
theorem d_CP_read_73 : decode b_CP_read 73 = .ok (.getfield 120, 3) := by decide +kernel
theorem d_CP_read_76 : decode b_CP_read 76 = .ok (.ifCond .ne 54, 3) := by decide +kernel
theorem d_CP_read_79 : decode b_CP_read 79 = .ok (.aload_n 0, 1) := by decide +kernel
theorem d_CP_read_80 : decode b_CP_read 80 = .ok (.getfield 37, 3) := by decide +kernel
theorem d_CP_read_83 : decode b_CP_read 83 = .ok (.invokevirtual 127, 3) := by decide +kernel
theorem d_CP_read_86 : decode b_CP_read 86 = .ok (.aload_n 0, 1) := by decide +kernel
theorem d_CP_read_87 : decode b_CP_read 87 = .ok (.getfield 37, 3) := by decide +kernel
theorem d_CP_read_90 : decode b_CP_read 90 = .ok (.aload_n 0, 1) := by decide +kernel
theorem d_CP_read_91 : decode b_CP_read 91 = .ok (.getfield 53, 3) := by decide +kernel
theorem d_CP_read_94 : decode b_CP_read 94 = .ok (.aload_n 0, 1) := by decide +kernel
theorem d_CP_read_95 : decode b_CP_read 95 = .ok (.getfield 60, 3) := by decide +kernel
theorem d_CP_read_98 : decode b_CP_read 98 = .ok (.invokevirtual 130, 3) := by decide +kernel
theorem d_CP_read_101 : decode b_CP_read 101 = .ok (.istore_n 1, 1) := by decide +kernel
theorem d_CP_read_102 : decode b_CP_read 102 = .ok (.aload_n 0, 1) := by decide +kernel
theorem d_CP_read_103 : decode b_CP_read 103 = .ok (.iload_n 1, 1) := by decide +kernel
theorem d_CP_read_104 : decode b_CP_read 104 = .ok (.iconst (-1), 1) := by decide +kernel
theorem d_CP_read_105 : decode b_CP_read 105 = .ok (.if_icmp .ne 7, 3) := by decide +kernel
theorem d_CP_read_108 : decode b_CP_read 108 = .ok (.iconst 0, 1) := by decide +kernel
theorem d_CP_read_109 : decode b_CP_read 109 = .ok (.goto 4, 3) := by decide +kernel
theorem d_CP_read_112 : decode b_CP_read 112 = .ok (.iconst 3, 1) := by decide +kernel
theorem d_CP_read_113 : decode b_CP_read 113 = .ok (.putfield 120, 3) := by decide +kernel
theorem d_CP_read_116 : decode b_CP_read 116 = .ok (.aload_n 0, 1) := by decide +kernel
theorem d_CP_read_117 : decode b_CP_read 117 = .ok (.iload_n 1, 1) := by decide +kernel
theorem d_CP_read_118 : decode b_CP_read 118 = .ok (.iconst (-1), 1) := by decide +kernel
theorem d_CP_read_119 : decode b_CP_read 119 = .ok (.if_icmp .ne 7, 3) := by decide +kernel
theorem d_CP_read_122 : decode b_CP_read 122 = .ok (.iconst 0, 1) := by decide +kernel
theorem d_CP_read_123 : decode b_CP_read 123 = .ok (.goto 4, 3) := by decide +kernel
theorem d_CP_read_126 : decode b_CP_read 126 = .ok (.iload_n 1, 1) := by decide +kernel
theorem d_CP_read_127 : decode b_CP_read 127 = .ok (.putfield 126, 3) := by decide +kernel
theorem d_CP_read_130 : decode b_CP_read 130 = .ok (.aload_n 0, 1) := by decide +kernel
theorem d_CP_read_131 : decode b_CP_read 131 = .ok (.getfield 120, 3) := by decide +kernel
theorem d_CP_read_134 : decode b_CP_read 134 = .ok (.ifCond .eq 19, 3) := by decide +kernel
theorem d_CP_read_137 : decode b_CP_read 137 = .ok (.aload_n 0, 1) := by decide +kernel
theorem d_CP_read_138 : decode b_CP_read 138 = .ok (.getfield 28, 3) := by decide +kernel
theorem d_CP_read_141 : decode b_CP_read 141 = .ok (.invokevirtual 105, 3) := by decide +kernel
theorem d_CP_read_144 : decode b_CP_read 144 = .ok (.aload_n 0, 1) := by decide +kernel
theorem d_CP_read_145 : decode b_CP_read 145 = .ok (.getfield 60, 3) := by decide +kernel
theorem d_CP_read_148 : decode b_CP_read 148 = .ok (.invokevirtual 108, 3) := by decide +kernel
theorem d_CP_read_151 : decode b_CP_read 151 = .ok (.iconst (-1), 1) := by decide +kernel
theorem d_CP_read_152 : decode b_CP_read 152 = .ok (.ireturn, 1) := by decide +kernel
theorem d_CP_read_153 : decode b_CP_read 153 = .ok (.aload_n 0, 1) := by decide +kernel
theorem d_CP_read_154 : decode b_CP_read 154 = .ok (.getfield 60, 3) := by decide +kernel
theorem d_CP_read_157 : decode b_CP_read 157 = .ok (.aload_n 0, 1) := by decide +kernel
theorem d_CP_read_158 : decode b_CP_read 158 = .ok (.getfield 60, 3) := by decide +kernel
theorem d_CP_read_161 : decode b_CP_read 161 = .ok (.getfield 134, 3) := by decide +kernel
theorem d_CP_read_164 : decode b_CP_read 164 = .ok (.putfield 135, 3) := by decide +kernel
theorem d_CP_read_167 : decode b_CP_read 167 = .ok (.aload_n 0, 1) := by decide +kernel
theorem d_CP_read_168 : decode b_CP_read 168 = .ok (.getfield 60, 3) := by decide +kernel
theorem d_CP_read_171 : decode b_CP_read 171 = .ok (.getfield 134, 3) := by decide +kernel
theorem d_CP_read_174 : decode b_CP_read 174 = .ok (.ireturn, 1) := by decide +kernel
abbrev b_CP_writeNumber : ByteArray := prog_1_method_16_code
def y_CP_writeNumber : MethodName := ⟨"ClauseProver", "writeNumber", "(I)V"⟩
theorem d_CP_writeNumber_0 : decode b_CP_writeNumber 0 = .ok (.iload_n 1, 1) := by decide +kernel
theorem d_CP_writeNumber_1 : decode b_CP_writeNumber 1 = .ok (.bipush 100, 2) := by decide +kernel
theorem d_CP_writeNumber_3 : decode b_CP_writeNumber 3 = .ok (.if_icmp .lt 8, 3) := by decide +kernel
theorem d_CP_writeNumber_6 : decode b_CP_writeNumber 6 = .ok (.bipush 100, 2) := by decide +kernel
theorem d_CP_writeNumber_8 : decode b_CP_writeNumber 8 = .ok (.goto 15, 3) := by decide +kernel
theorem d_CP_writeNumber_11 : decode b_CP_writeNumber 11 = .ok (.iload_n 1, 1) := by decide +kernel
theorem d_CP_writeNumber_12 : decode b_CP_writeNumber 12 = .ok (.bipush 10, 2) := by decide +kernel
theorem d_CP_writeNumber_14 : decode b_CP_writeNumber 14 = .ok (.if_icmp .lt 8, 3) := by decide +kernel
theorem d_CP_writeNumber_17 : decode b_CP_writeNumber 17 = .ok (.bipush 10, 2) := by decide +kernel
theorem d_CP_writeNumber_19 : decode b_CP_writeNumber 19 = .ok (.goto 4, 3) := by decide +kernel
theorem d_CP_writeNumber_22 : decode b_CP_writeNumber 22 = .ok (.iconst 1, 1) := by decide +kernel
theorem d_CP_writeNumber_23 : decode b_CP_writeNumber 23 = .ok (.istore_n 2, 1) := by decide +kernel
theorem d_CP_writeNumber_24 : decode b_CP_writeNumber 24 = .ok (.iload_n 2, 1) := by decide +kernel
theorem d_CP_writeNumber_25 : decode b_CP_writeNumber 25 = .ok (.ifCond .le 27, 3) := by decide +kernel
theorem d_CP_writeNumber_28 : decode b_CP_writeNumber 28 = .ok (.aload_n 0, 1) := by decide +kernel
theorem d_CP_writeNumber_29 : decode b_CP_writeNumber 29 = .ok (.getfield 18, 3) := by decide +kernel
theorem d_CP_writeNumber_32 : decode b_CP_writeNumber 32 = .ok (.bipush 48, 2) := by decide +kernel
theorem d_CP_writeNumber_34 : decode b_CP_writeNumber 34 = .ok (.iload_n 1, 1) := by decide +kernel
theorem d_CP_writeNumber_35 : decode b_CP_writeNumber 35 = .ok (.iload_n 2, 1) := by decide +kernel
theorem d_CP_writeNumber_36 : decode b_CP_writeNumber 36 = .ok (.idiv, 1) := by decide +kernel
theorem d_CP_writeNumber_37 : decode b_CP_writeNumber 37 = .ok (.bipush 10, 2) := by decide +kernel
theorem d_CP_writeNumber_39 : decode b_CP_writeNumber 39 = .ok (.irem, 1) := by decide +kernel
theorem d_CP_writeNumber_40 : decode b_CP_writeNumber 40 = .ok (.iadd, 1) := by decide +kernel
theorem d_CP_writeNumber_41 : decode b_CP_writeNumber 41 = .ok (.invokevirtual 97, 3) := by decide +kernel
theorem d_CP_writeNumber_44 : decode b_CP_writeNumber 44 = .ok (.iload_n 2, 1) := by decide +kernel
theorem d_CP_writeNumber_45 : decode b_CP_writeNumber 45 = .ok (.bipush 10, 2) := by decide +kernel
theorem d_CP_writeNumber_47 : decode b_CP_writeNumber 47 = .ok (.idiv, 1) := by decide +kernel
theorem d_CP_writeNumber_48 : decode b_CP_writeNumber 48 = .ok (.istore_n 2, 1) := by decide +kernel
theorem d_CP_writeNumber_49 : decode b_CP_writeNumber 49 = .ok (.goto (-25), 3) := by decide +kernel
theorem d_CP_writeNumber_52 : decode b_CP_writeNumber 52 = .ok (.return_, 1) := by decide +kernel
abbrev b_For_addNode : ByteArray := prog_3_method_9_code
def y_For_addNode : MethodName := ⟨"ClauseProver$Formulas", "addNode", "(III)I"⟩
theorem d_For_addNode_0 : decode b_For_addNode 0 = .ok (.iload_n 1, 1) := by decide +kernel
theorem d_For_addNode_1 : decode b_For_addNode 1 = .ok (.bipush 11, 2) := by decide +kernel
theorem d_For_addNode_3 : decode b_For_addNode 3 = .ok (.if_icmp .lt 10, 3) := by decide +kernel
theorem d_For_addNode_6 : decode b_For_addNode 6 = .ok (.iload_n 2, 1) := by decide +kernel
theorem d_For_addNode_7 : decode b_For_addNode 7 = .ok (.bipush 7, 2) := by decide +kernel
theorem d_For_addNode_9 : decode b_For_addNode 9 = .ok (.imul, 1) := by decide +kernel
theorem d_For_addNode_10 : decode b_For_addNode 10 = .ok (.goto 4, 3) := by decide +kernel
theorem d_For_addNode_13 : decode b_For_addNode 13 = .ok (.iconst (-1), 1) := by decide +kernel
theorem d_For_addNode_14 : decode b_For_addNode 14 = .ok (.istore 4, 2) := by decide +kernel
theorem d_For_addNode_16 : decode b_For_addNode 16 = .ok (.iload_n 1, 1) := by decide +kernel
theorem d_For_addNode_17 : decode b_For_addNode 17 = .ok (.bipush 14, 2) := by decide +kernel
theorem d_For_addNode_19 : decode b_For_addNode 19 = .ok (.if_icmp .lt 10, 3) := by decide +kernel
theorem d_For_addNode_22 : decode b_For_addNode 22 = .ok (.iload_n 3, 1) := by decide +kernel
theorem d_For_addNode_23 : decode b_For_addNode 23 = .ok (.bipush 7, 2) := by decide +kernel
theorem d_For_addNode_25 : decode b_For_addNode 25 = .ok (.imul, 1) := by decide +kernel
theorem d_For_addNode_26 : decode b_For_addNode 26 = .ok (.goto 4, 3) := by decide +kernel
theorem d_For_addNode_29 : decode b_For_addNode 29 = .ok (.iconst (-1), 1) := by decide +kernel
theorem d_For_addNode_30 : decode b_For_addNode 30 = .ok (.istore 5, 2) := by decide +kernel
theorem d_For_addNode_32 : decode b_For_addNode 32 = .ok (.iload 4, 2) := by decide +kernel
theorem d_For_addNode_34 : decode b_For_addNode 34 = .ok (.iconst (-1), 1) := by decide +kernel
theorem d_For_addNode_35 : decode b_For_addNode 35 = .ok (.if_icmp .ne 7, 3) := by decide +kernel
theorem d_For_addNode_38 : decode b_For_addNode 38 = .ok (.iconst 1, 1) := by decide +kernel
theorem d_For_addNode_39 : decode b_For_addNode 39 = .ok (.goto 15, 3) := by decide +kernel
theorem d_For_addNode_42 : decode b_For_addNode 42 = .ok (.aload_n 0, 1) := by decide +kernel
theorem d_For_addNode_43 : decode b_For_addNode 43 = .ok (.getfield 24, 3) := by decide +kernel
theorem d_For_addNode_46 : decode b_For_addNode 46 = .ok (.getfield 75, 3) := by decide +kernel
theorem d_For_addNode_49 : decode b_For_addNode 49 = .ok (.iload 4, 2) := by decide +kernel
theorem d_For_addNode_51 : decode b_For_addNode 51 = .ok (.iconst 4, 1) := by decide +kernel
theorem d_For_addNode_52 : decode b_For_addNode 52 = .ok (.iadd, 1) := by decide +kernel
theorem d_For_addNode_53 : decode b_For_addNode 53 = .ok (.iaload, 1) := by decide +kernel
theorem d_For_addNode_54 : decode b_For_addNode 54 = .ok (.istore 6, 2) := by decide +kernel
theorem d_For_addNode_56 : decode b_For_addNode 56 = .ok (.iload 4, 2) := by decide +kernel
theorem d_For_addNode_58 : decode b_For_addNode 58 = .ok (.iconst (-1), 1) := by decide +kernel
theorem d_For_addNode_59 : decode b_For_addNode 59 = .ok (.if_icmp .ne 7, 3) := by decide +kernel
theorem d_For_addNode_62 : decode b_For_addNode 62 = .ok (.iconst 1, 1) := by decide +kernel
theorem d_For_addNode_63 : decode b_For_addNode 63 = .ok (.goto 15, 3) := by decide +kernel
theorem d_For_addNode_66 : decode b_For_addNode 66 = .ok (.aload_n 0, 1) := by decide +kernel
theorem d_For_addNode_67 : decode b_For_addNode 67 = .ok (.getfield 24, 3) := by decide +kernel
theorem d_For_addNode_70 : decode b_For_addNode 70 = .ok (.getfield 75, 3) := by decide +kernel
theorem d_For_addNode_73 : decode b_For_addNode 73 = .ok (.iload 4, 2) := by decide +kernel
theorem d_For_addNode_75 : decode b_For_addNode 75 = .ok (.iconst 5, 1) := by decide +kernel
theorem d_For_addNode_76 : decode b_For_addNode 76 = .ok (.iadd, 1) := by decide +kernel
theorem d_For_addNode_77 : decode b_For_addNode 77 = .ok (.iaload, 1) := by decide +kernel
theorem d_For_addNode_78 : decode b_For_addNode 78 = .ok (.istore 7, 2) := by decide +kernel
theorem d_For_addNode_80 : decode b_For_addNode 80 = .ok (.iload 5, 2) := by decide +kernel
theorem d_For_addNode_82 : decode b_For_addNode 82 = .ok (.iconst (-1), 1) := by decide +kernel
theorem d_For_addNode_83 : decode b_For_addNode 83 = .ok (.if_icmp .ne 7, 3) := by decide +kernel
theorem d_For_addNode_86 : decode b_For_addNode 86 = .ok (.iconst 1, 1) := by decide +kernel
theorem d_For_addNode_87 : decode b_For_addNode 87 = .ok (.goto 15, 3) := by decide +kernel
theorem d_For_addNode_90 : decode b_For_addNode 90 = .ok (.aload_n 0, 1) := by decide +kernel
theorem d_For_addNode_91 : decode b_For_addNode 91 = .ok (.getfield 24, 3) := by decide +kernel
theorem d_For_addNode_94 : decode b_For_addNode 94 = .ok (.getfield 75, 3) := by decide +kernel
theorem d_For_addNode_97 : decode b_For_addNode 97 = .ok (.iload 5, 2) := by decide +kernel
theorem d_For_addNode_99 : decode b_For_addNode 99 = .ok (.iconst 4, 1) := by decide +kernel
theorem d_For_addNode_100 : decode b_For_addNode 100 = .ok (.iadd, 1) := by decide +kernel
theorem d_For_addNode_101 : decode b_For_addNode 101 = .ok (.iaload, 1) := by decide +kernel
theorem d_For_addNode_102 : decode b_For_addNode 102 = .ok (.istore 8, 2) := by decide +kernel
theorem d_For_addNode_104 : decode b_For_addNode 104 = .ok (.iload 5, 2) := by decide +kernel
theorem d_For_addNode_106 : decode b_For_addNode 106 = .ok (.iconst (-1), 1) := by decide +kernel
theorem d_For_addNode_107 : decode b_For_addNode 107 = .ok (.if_icmp .ne 7, 3) := by decide +kernel
theorem d_For_addNode_110 : decode b_For_addNode 110 = .ok (.iconst 1, 1) := by decide +kernel
theorem d_For_addNode_111 : decode b_For_addNode 111 = .ok (.goto 15, 3) := by decide +kernel
theorem d_For_addNode_114 : decode b_For_addNode 114 = .ok (.aload_n 0, 1) := by decide +kernel
theorem d_For_addNode_115 : decode b_For_addNode 115 = .ok (.getfield 24, 3) := by decide +kernel
theorem d_For_addNode_118 : decode b_For_addNode 118 = .ok (.getfield 75, 3) := by decide +kernel
theorem d_For_addNode_121 : decode b_For_addNode 121 = .ok (.iload 5, 2) := by decide +kernel
theorem d_For_addNode_123 : decode b_For_addNode 123 = .ok (.iconst 5, 1) := by decide +kernel
theorem d_For_addNode_124 : decode b_For_addNode 124 = .ok (.iadd, 1) := by decide +kernel
theorem d_For_addNode_125 : decode b_For_addNode 125 = .ok (.iaload, 1) := by decide +kernel
theorem d_For_addNode_126 : decode b_For_addNode 126 = .ok (.istore 9, 2) := by decide +kernel
theorem d_For_addNode_128 : decode b_For_addNode 128 = .ok (.iload 6, 2) := by decide +kernel
theorem d_For_addNode_130 : decode b_For_addNode 130 = .ok (.istore 10, 2) := by decide +kernel
theorem d_For_addNode_132 : decode b_For_addNode 132 = .ok (.iload 7, 2) := by decide +kernel
theorem d_For_addNode_134 : decode b_For_addNode 134 = .ok (.istore 11, 2) := by decide +kernel
theorem d_For_addNode_136 : decode b_For_addNode 136 = .ok (.iload_n 1, 1) := by decide +kernel
theorem d_For_addNode_137 : decode b_For_addNode 137 = .ok (.tableswitch 134 11 17 #[43, 134, 134, 54, 71, 88, 105], 43) := by decide +kernel
theorem d_For_addNode_180 : decode b_For_addNode 180 = .ok (.iload 7, 2) := by decide +kernel
theorem d_For_addNode_182 : decode b_For_addNode 182 = .ok (.istore 10, 2) := by decide +kernel
theorem d_For_addNode_184 : decode b_For_addNode 184 = .ok (.iload 6, 2) := by decide +kernel
theorem d_For_addNode_186 : decode b_For_addNode 186 = .ok (.istore 11, 2) := by decide +kernel
theorem d_For_addNode_188 : decode b_For_addNode 188 = .ok (.goto 83, 3) := by decide +kernel
theorem d_For_addNode_191 : decode b_For_addNode 191 = .ok (.iload 6, 2) := by decide +kernel
theorem d_For_addNode_193 : decode b_For_addNode 193 = .ok (.iload 8, 2) := by decide +kernel
theorem d_For_addNode_195 : decode b_For_addNode 195 = .ok (.imul, 1) := by decide +kernel
theorem d_For_addNode_196 : decode b_For_addNode 196 = .ok (.istore 10, 2) := by decide +kernel
theorem d_For_addNode_198 : decode b_For_addNode 198 = .ok (.iload 7, 2) := by decide +kernel
theorem d_For_addNode_200 : decode b_For_addNode 200 = .ok (.iload 9, 2) := by decide +kernel
theorem d_For_addNode_202 : decode b_For_addNode 202 = .ok (.iadd, 1) := by decide +kernel
theorem d_For_addNode_203 : decode b_For_addNode 203 = .ok (.istore 11, 2) := by decide +kernel
theorem d_For_addNode_205 : decode b_For_addNode 205 = .ok (.goto 66, 3) := by decide +kernel
theorem d_For_addNode_208 : decode b_For_addNode 208 = .ok (.iload 6, 2) := by decide +kernel
theorem d_For_addNode_210 : decode b_For_addNode 210 = .ok (.iload 8, 2) := by decide +kernel
theorem d_For_addNode_212 : decode b_For_addNode 212 = .ok (.iadd, 1) := by decide +kernel
theorem d_For_addNode_213 : decode b_For_addNode 213 = .ok (.istore 10, 2) := by decide +kernel
theorem d_For_addNode_215 : decode b_For_addNode 215 = .ok (.iload 7, 2) := by decide +kernel
theorem d_For_addNode_217 : decode b_For_addNode 217 = .ok (.iload 9, 2) := by decide +kernel
theorem d_For_addNode_219 : decode b_For_addNode 219 = .ok (.imul, 1) := by decide +kernel
theorem d_For_addNode_220 : decode b_For_addNode 220 = .ok (.istore 11, 2) := by decide +kernel
theorem d_For_addNode_222 : decode b_For_addNode 222 = .ok (.goto 49, 3) := by decide +kernel
theorem d_For_addNode_225 : decode b_For_addNode 225 = .ok (.iload 7, 2) := by decide +kernel
theorem d_For_addNode_227 : decode b_For_addNode 227 = .ok (.iload 8, 2) := by decide +kernel
theorem d_For_addNode_229 : decode b_For_addNode 229 = .ok (.iadd, 1) := by decide +kernel
theorem d_For_addNode_230 : decode b_For_addNode 230 = .ok (.istore 10, 2) := by decide +kernel
theorem d_For_addNode_232 : decode b_For_addNode 232 = .ok (.iload 6, 2) := by decide +kernel
theorem d_For_addNode_234 : decode b_For_addNode 234 = .ok (.iload 9, 2) := by decide +kernel
theorem d_For_addNode_236 : decode b_For_addNode 236 = .ok (.imul, 1) := by decide +kernel
theorem d_For_addNode_237 : decode b_For_addNode 237 = .ok (.istore 11, 2) := by decide +kernel
theorem d_For_addNode_239 : decode b_For_addNode 239 = .ok (.goto 32, 3) := by decide +kernel
theorem d_For_addNode_242 : decode b_For_addNode 242 = .ok (.iload 7, 2) := by decide +kernel
theorem d_For_addNode_244 : decode b_For_addNode 244 = .ok (.iload 9, 2) := by decide +kernel
theorem d_For_addNode_246 : decode b_For_addNode 246 = .ok (.imul, 1) := by decide +kernel
theorem d_For_addNode_247 : decode b_For_addNode 247 = .ok (.iload 6, 2) := by decide +kernel
theorem d_For_addNode_249 : decode b_For_addNode 249 = .ok (.iload 8, 2) := by decide +kernel
theorem d_For_addNode_251 : decode b_For_addNode 251 = .ok (.imul, 1) := by decide +kernel
theorem d_For_addNode_252 : decode b_For_addNode 252 = .ok (.iadd, 1) := by decide +kernel
theorem d_For_addNode_253 : decode b_For_addNode 253 = .ok (.istore 10, 2) := by decide +kernel
theorem d_For_addNode_255 : decode b_For_addNode 255 = .ok (.iload 6, 2) := by decide +kernel
theorem d_For_addNode_257 : decode b_For_addNode 257 = .ok (.iload 9, 2) := by decide +kernel
theorem d_For_addNode_259 : decode b_For_addNode 259 = .ok (.imul, 1) := by decide +kernel
theorem d_For_addNode_260 : decode b_For_addNode 260 = .ok (.iload 8, 2) := by decide +kernel
theorem d_For_addNode_262 : decode b_For_addNode 262 = .ok (.iload 7, 2) := by decide +kernel
theorem d_For_addNode_264 : decode b_For_addNode 264 = .ok (.imul, 1) := by decide +kernel
theorem d_For_addNode_265 : decode b_For_addNode 265 = .ok (.iadd, 1) := by decide +kernel
theorem d_For_addNode_266 : decode b_For_addNode 266 = .ok (.istore 11, 2) := by decide +kernel
theorem d_For_addNode_268 : decode b_For_addNode 268 = .ok (.goto 3, 3) := by decide +kernel
theorem d_For_addNode_271 : decode b_For_addNode 271 = .ok (.iload 4, 2) := by decide +kernel
theorem d_For_addNode_273 : decode b_For_addNode 273 = .ok (.iconst (-1), 1) := by decide +kernel
theorem d_For_addNode_274 : decode b_For_addNode 274 = .ok (.if_icmp .ne 7, 3) := by decide +kernel
theorem d_For_addNode_277 : decode b_For_addNode 277 = .ok (.iconst 0, 1) := by decide +kernel
theorem d_For_addNode_278 : decode b_For_addNode 278 = .ok (.goto 15, 3) := by decide +kernel
theorem d_For_addNode_281 : decode b_For_addNode 281 = .ok (.aload_n 0, 1) := by decide +kernel
theorem d_For_addNode_282 : decode b_For_addNode 282 = .ok (.getfield 24, 3) := by decide +kernel
theorem d_For_addNode_285 : decode b_For_addNode 285 = .ok (.getfield 75, 3) := by decide +kernel
theorem d_For_addNode_288 : decode b_For_addNode 288 = .ok (.iload 4, 2) := by decide +kernel
theorem d_For_addNode_290 : decode b_For_addNode 290 = .ok (.iconst 3, 1) := by decide +kernel
theorem d_For_addNode_291 : decode b_For_addNode 291 = .ok (.iadd, 1) := by decide +kernel
theorem d_For_addNode_292 : decode b_For_addNode 292 = .ok (.iaload, 1) := by decide +kernel
theorem d_For_addNode_293 : decode b_For_addNode 293 = .ok (.iload 5, 2) := by decide +kernel
theorem d_For_addNode_295 : decode b_For_addNode 295 = .ok (.iconst (-1), 1) := by decide +kernel
theorem d_For_addNode_296 : decode b_For_addNode 296 = .ok (.if_icmp .ne 7, 3) := by decide +kernel
theorem d_For_addNode_299 : decode b_For_addNode 299 = .ok (.iconst 0, 1) := by decide +kernel
theorem d_For_addNode_300 : decode b_For_addNode 300 = .ok (.goto 15, 3) := by decide +kernel
theorem d_For_addNode_303 : decode b_For_addNode 303 = .ok (.aload_n 0, 1) := by decide +kernel
theorem d_For_addNode_304 : decode b_For_addNode 304 = .ok (.getfield 24, 3) := by decide +kernel
theorem d_For_addNode_307 : decode b_For_addNode 307 = .ok (.getfield 75, 3) := by decide +kernel
theorem d_For_addNode_310 : decode b_For_addNode 310 = .ok (.iload 5, 2) := by decide +kernel
theorem d_For_addNode_312 : decode b_For_addNode 312 = .ok (.iconst 3, 1) := by decide +kernel
theorem d_For_addNode_313 : decode b_For_addNode 313 = .ok (.iadd, 1) := by decide +kernel
theorem d_For_addNode_314 : decode b_For_addNode 314 = .ok (.iaload, 1) := by decide +kernel
theorem d_For_addNode_315 : decode b_For_addNode 315 = .ok (.invokestatic 95, 3) := by decide +kernel
theorem d_For_addNode_318 : decode b_For_addNode 318 = .ok (.istore 12, 2) := by decide +kernel
theorem d_For_addNode_320 : decode b_For_addNode 320 = .ok (.aload_n 0, 1) := by decide +kernel
theorem d_For_addNode_321 : decode b_For_addNode 321 = .ok (.getfield 24, 3) := by decide +kernel
theorem d_For_addNode_324 : decode b_For_addNode 324 = .ok (.iload_n 1, 1) := by decide +kernel
theorem d_For_addNode_325 : decode b_For_addNode 325 = .ok (.invokevirtual 72, 3) := by decide +kernel
theorem d_For_addNode_328 : decode b_For_addNode 328 = .ok (.aload_n 0, 1) := by decide +kernel
theorem d_For_addNode_329 : decode b_For_addNode 329 = .ok (.getfield 24, 3) := by decide +kernel
theorem d_For_addNode_332 : decode b_For_addNode 332 = .ok (.iload_n 2, 1) := by decide +kernel
theorem d_For_addNode_333 : decode b_For_addNode 333 = .ok (.invokevirtual 72, 3) := by decide +kernel
theorem d_For_addNode_336 : decode b_For_addNode 336 = .ok (.aload_n 0, 1) := by decide +kernel
theorem d_For_addNode_337 : decode b_For_addNode 337 = .ok (.getfield 24, 3) := by decide +kernel
theorem d_For_addNode_340 : decode b_For_addNode 340 = .ok (.iload_n 3, 1) := by decide +kernel
theorem d_For_addNode_341 : decode b_For_addNode 341 = .ok (.invokevirtual 72, 3) := by decide +kernel
theorem d_For_addNode_344 : decode b_For_addNode 344 = .ok (.aload_n 0, 1) := by decide +kernel
theorem d_For_addNode_345 : decode b_For_addNode 345 = .ok (.getfield 24, 3) := by decide +kernel
theorem d_For_addNode_348 : decode b_For_addNode 348 = .ok (.iload 12, 2) := by decide +kernel
theorem d_For_addNode_350 : decode b_For_addNode 350 = .ok (.iconst 1, 1) := by decide +kernel
theorem d_For_addNode_351 : decode b_For_addNode 351 = .ok (.iadd, 1) := by decide +kernel
theorem d_For_addNode_352 : decode b_For_addNode 352 = .ok (.invokevirtual 72, 3) := by decide +kernel
theorem d_For_addNode_355 : decode b_For_addNode 355 = .ok (.aload_n 0, 1) := by decide +kernel
theorem d_For_addNode_356 : decode b_For_addNode 356 = .ok (.getfield 24, 3) := by decide +kernel
theorem d_For_addNode_359 : decode b_For_addNode 359 = .ok (.iload 10, 2) := by decide +kernel
theorem d_For_addNode_361 : decode b_For_addNode 361 = .ok (.sipush 201, 3) := by decide +kernel
theorem d_For_addNode_364 : decode b_For_addNode 364 = .ok (.invokestatic 101, 3) := by decide +kernel
theorem d_For_addNode_367 : decode b_For_addNode 367 = .ok (.invokevirtual 72, 3) := by decide +kernel
theorem d_For_addNode_370 : decode b_For_addNode 370 = .ok (.aload_n 0, 1) := by decide +kernel
theorem d_For_addNode_371 : decode b_For_addNode 371 = .ok (.getfield 24, 3) := by decide +kernel
theorem d_For_addNode_374 : decode b_For_addNode 374 = .ok (.iload 11, 2) := by decide +kernel
theorem d_For_addNode_376 : decode b_For_addNode 376 = .ok (.sipush 201, 3) := by decide +kernel
theorem d_For_addNode_379 : decode b_For_addNode 379 = .ok (.invokestatic 101, 3) := by decide +kernel
theorem d_For_addNode_382 : decode b_For_addNode 382 = .ok (.invokevirtual 72, 3) := by decide +kernel
theorem d_For_addNode_385 : decode b_For_addNode 385 = .ok (.aload_n 0, 1) := by decide +kernel
theorem d_For_addNode_386 : decode b_For_addNode 386 = .ok (.getfield 24, 3) := by decide +kernel
theorem d_For_addNode_389 : decode b_For_addNode 389 = .ok (.iconst 0, 1) := by decide +kernel
theorem d_For_addNode_390 : decode b_For_addNode 390 = .ok (.invokevirtual 72, 3) := by decide +kernel
theorem d_For_addNode_393 : decode b_For_addNode 393 = .ok (.aload_n 0, 1) := by decide +kernel
theorem d_For_addNode_394 : decode b_For_addNode 394 = .ok (.getfield 24, 3) := by decide +kernel
theorem d_For_addNode_397 : decode b_For_addNode 397 = .ok (.getfield 59, 3) := by decide +kernel
theorem d_For_addNode_400 : decode b_For_addNode 400 = .ok (.bipush 7, 2) := by decide +kernel
theorem d_For_addNode_402 : decode b_For_addNode 402 = .ok (.idiv, 1) := by decide +kernel
theorem d_For_addNode_403 : decode b_For_addNode 403 = .ok (.iconst 1, 1) := by decide +kernel
theorem d_For_addNode_404 : decode b_For_addNode 404 = .ok (.isub, 1) := by decide +kernel
theorem d_For_addNode_405 : decode b_For_addNode 405 = .ok (.ireturn, 1) := by decide +kernel
abbrev b_For_equivalent : ByteArray := prog_3_method_22_code
def y_For_equivalent : MethodName := ⟨"ClauseProver$Formulas", "equivalent", "(IIZI)V"⟩
theorem d_For_equivalent_0 : decode b_For_equivalent 0 = .ok (.aload_n 0, 1) := by decide +kernel
theorem d_For_equivalent_1 : decode b_For_equivalent 1 = .ok (.iload_n 1, 1) := by decide +kernel
theorem d_For_equivalent_2 : decode b_For_equivalent 2 = .ok (.iload_n 3, 1) := by decide +kernel
theorem d_For_equivalent_3 : decode b_For_equivalent 3 = .ok (.ifCond .ne 7, 3) := by decide +kernel
theorem d_For_equivalent_6 : decode b_For_equivalent 6 = .ok (.iconst 1, 1) := by decide +kernel
theorem d_For_equivalent_7 : decode b_For_equivalent 7 = .ok (.goto 4, 3) := by decide +kernel
theorem d_For_equivalent_10 : decode b_For_equivalent 10 = .ok (.iconst 0, 1) := by decide +kernel
theorem d_For_equivalent_11 : decode b_For_equivalent 11 = .ok (.invokevirtual 127, 3) := by decide +kernel
theorem d_For_equivalent_14 : decode b_For_equivalent 14 = .ok (.aload_n 0, 1) := by decide +kernel
theorem d_For_equivalent_15 : decode b_For_equivalent 15 = .ok (.iload_n 2, 1) := by decide +kernel
theorem d_For_equivalent_16 : decode b_For_equivalent 16 = .ok (.iconst 1, 1) := by decide +kernel
theorem d_For_equivalent_17 : decode b_For_equivalent 17 = .ok (.invokevirtual 127, 3) := by decide +kernel
theorem d_For_equivalent_20 : decode b_For_equivalent 20 = .ok (.imul, 1) := by decide +kernel
theorem d_For_equivalent_21 : decode b_For_equivalent 21 = .ok (.istore 5, 2) := by decide +kernel
theorem d_For_equivalent_23 : decode b_For_equivalent 23 = .ok (.iload 4, 2) := by decide +kernel
theorem d_For_equivalent_25 : decode b_For_equivalent 25 = .ok (.iload 5, 2) := by decide +kernel
theorem d_For_equivalent_27 : decode b_For_equivalent 27 = .ok (.if_icmp .ge 25, 3) := by decide +kernel
theorem d_For_equivalent_30 : decode b_For_equivalent 30 = .ok (.aload_n 0, 1) := by decide +kernel
theorem d_For_equivalent_31 : decode b_For_equivalent 31 = .ok (.iconst 0, 1) := by decide +kernel
theorem d_For_equivalent_32 : decode b_For_equivalent 32 = .ok (.iload_n 1, 1) := by decide +kernel
theorem d_For_equivalent_33 : decode b_For_equivalent 33 = .ok (.iload_n 3, 1) := by decide +kernel
theorem d_For_equivalent_34 : decode b_For_equivalent 34 = .ok (.ifCond .ne 7, 3) := by decide +kernel
theorem d_For_equivalent_37 : decode b_For_equivalent 37 = .ok (.iconst 1, 1) := by decide +kernel
theorem d_For_equivalent_38 : decode b_For_equivalent 38 = .ok (.goto 4, 3) := by decide +kernel
theorem d_For_equivalent_41 : decode b_For_equivalent 41 = .ok (.iconst 0, 1) := by decide +kernel
theorem d_For_equivalent_42 : decode b_For_equivalent 42 = .ok (.iload_n 2, 1) := by decide +kernel
theorem d_For_equivalent_43 : decode b_For_equivalent 43 = .ok (.iconst 1, 1) := by decide +kernel
theorem d_For_equivalent_44 : decode b_For_equivalent 44 = .ok (.iload 4, 2) := by decide +kernel
theorem d_For_equivalent_46 : decode b_For_equivalent 46 = .ok (.invokevirtual 164, 3) := by decide +kernel
theorem d_For_equivalent_49 : decode b_For_equivalent 49 = .ok (.goto 38, 3) := by decide +kernel
theorem d_For_equivalent_52 : decode b_For_equivalent 52 = .ok (.iload_n 3, 1) := by decide +kernel
theorem d_For_equivalent_53 : decode b_For_equivalent 53 = .ok (.ifCond .eq 20, 3) := by decide +kernel
theorem d_For_equivalent_56 : decode b_For_equivalent 56 = .ok (.aload_n 0, 1) := by decide +kernel
theorem d_For_equivalent_57 : decode b_For_equivalent 57 = .ok (.iconst 0, 1) := by decide +kernel
theorem d_For_equivalent_58 : decode b_For_equivalent 58 = .ok (.iload_n 2, 1) := by decide +kernel
theorem d_For_equivalent_59 : decode b_For_equivalent 59 = .ok (.iconst 0, 1) := by decide +kernel
theorem d_For_equivalent_60 : decode b_For_equivalent 60 = .ok (.iload_n 1, 1) := by decide +kernel
theorem d_For_equivalent_61 : decode b_For_equivalent 61 = .ok (.iconst 1, 1) := by decide +kernel
theorem d_For_equivalent_62 : decode b_For_equivalent 62 = .ok (.iload 4, 2) := by decide +kernel
theorem d_For_equivalent_64 : decode b_For_equivalent 64 = .ok (.iload 5, 2) := by decide +kernel
theorem d_For_equivalent_66 : decode b_For_equivalent 66 = .ok (.isub, 1) := by decide +kernel
theorem d_For_equivalent_67 : decode b_For_equivalent 67 = .ok (.invokevirtual 164, 3) := by decide +kernel
theorem d_For_equivalent_70 : decode b_For_equivalent 70 = .ok (.goto 17, 3) := by decide +kernel
theorem d_For_equivalent_73 : decode b_For_equivalent 73 = .ok (.aload_n 0, 1) := by decide +kernel
theorem d_For_equivalent_74 : decode b_For_equivalent 74 = .ok (.iconst 0, 1) := by decide +kernel
theorem d_For_equivalent_75 : decode b_For_equivalent 75 = .ok (.iload_n 1, 1) := by decide +kernel
theorem d_For_equivalent_76 : decode b_For_equivalent 76 = .ok (.iconst 0, 1) := by decide +kernel
theorem d_For_equivalent_77 : decode b_For_equivalent 77 = .ok (.iload_n 2, 1) := by decide +kernel
theorem d_For_equivalent_78 : decode b_For_equivalent 78 = .ok (.iconst 0, 1) := by decide +kernel
theorem d_For_equivalent_79 : decode b_For_equivalent 79 = .ok (.iload 4, 2) := by decide +kernel
theorem d_For_equivalent_81 : decode b_For_equivalent 81 = .ok (.iload 5, 2) := by decide +kernel
theorem d_For_equivalent_83 : decode b_For_equivalent 83 = .ok (.isub, 1) := by decide +kernel
theorem d_For_equivalent_84 : decode b_For_equivalent 84 = .ok (.invokevirtual 164, 3) := by decide +kernel
theorem d_For_equivalent_87 : decode b_For_equivalent 87 = .ok (.return_, 1) := by decide +kernel
abbrev b_For_joined : ByteArray := prog_3_method_23_code
def y_For_joined : MethodName := ⟨"ClauseProver$Formulas", "joined", "(ZIZIZI)V"⟩
theorem d_For_joined_0 : decode b_For_joined 0 = .ok (.iconst 1, 1) := by decide +kernel
theorem d_For_joined_1 : decode b_For_joined 1 = .ok (.aload_n 0, 1) := by decide +kernel
theorem d_For_joined_2 : decode b_For_joined 2 = .ok (.iload_n 1, 1) := by decide +kernel
theorem d_For_joined_3 : decode b_For_joined 3 = .ok (.ifCond .eq 7, 3) := by decide +kernel
theorem d_For_joined_6 : decode b_For_joined 6 = .ok (.iload_n 2, 1) := by decide +kernel
theorem d_For_joined_7 : decode b_For_joined 7 = .ok (.goto 5, 3) := by decide +kernel
theorem d_For_joined_10 : decode b_For_joined 10 = .ok (.iload 4, 2) := by decide +kernel
theorem d_For_joined_12 : decode b_For_joined 12 = .ok (.iload_n 1, 1) := by decide +kernel
theorem d_For_joined_13 : decode b_For_joined 13 = .ok (.ifCond .eq 7, 3) := by decide +kernel
theorem d_For_joined_16 : decode b_For_joined 16 = .ok (.iload_n 3, 1) := by decide +kernel
theorem d_For_joined_17 : decode b_For_joined 17 = .ok (.goto 5, 3) := by decide +kernel
theorem d_For_joined_20 : decode b_For_joined 20 = .ok (.iload 5, 2) := by decide +kernel
theorem d_For_joined_22 : decode b_For_joined 22 = .ok (.invokevirtual 127, 3) := by decide +kernel
theorem d_For_joined_25 : decode b_For_joined 25 = .ok (.invokestatic 95, 3) := by decide +kernel
theorem d_For_joined_28 : decode b_For_joined 28 = .ok (.istore 7, 2) := by decide +kernel
theorem d_For_joined_30 : decode b_For_joined 30 = .ok (.iload_n 1, 1) := by decide +kernel
theorem d_For_joined_31 : decode b_For_joined 31 = .ok (.ifCond .ne 30, 3) := by decide +kernel
theorem d_For_joined_34 : decode b_For_joined 34 = .ok (.aload_n 0, 1) := by decide +kernel
theorem d_For_joined_35 : decode b_For_joined 35 = .ok (.iload 4, 2) := by decide +kernel
theorem d_For_joined_37 : decode b_For_joined 37 = .ok (.iload 5, 2) := by decide +kernel
theorem d_For_joined_39 : decode b_For_joined 39 = .ok (.iload 6, 2) := by decide +kernel
theorem d_For_joined_41 : decode b_For_joined 41 = .ok (.iload 7, 2) := by decide +kernel
theorem d_For_joined_43 : decode b_For_joined 43 = .ok (.irem, 1) := by decide +kernel
theorem d_For_joined_44 : decode b_For_joined 44 = .ok (.invokevirtual 156, 3) := by decide +kernel
theorem d_For_joined_47 : decode b_For_joined 47 = .ok (.aload_n 0, 1) := by decide +kernel
theorem d_For_joined_48 : decode b_For_joined 48 = .ok (.iload_n 2, 1) := by decide +kernel
theorem d_For_joined_49 : decode b_For_joined 49 = .ok (.iload_n 3, 1) := by decide +kernel
theorem d_For_joined_50 : decode b_For_joined 50 = .ok (.iload 6, 2) := by decide +kernel
theorem d_For_joined_52 : decode b_For_joined 52 = .ok (.iload 7, 2) := by decide +kernel
theorem d_For_joined_54 : decode b_For_joined 54 = .ok (.idiv, 1) := by decide +kernel
theorem d_For_joined_55 : decode b_For_joined 55 = .ok (.invokevirtual 156, 3) := by decide +kernel
theorem d_For_joined_58 : decode b_For_joined 58 = .ok (.goto 34, 3) := by decide +kernel
theorem d_For_joined_61 : decode b_For_joined 61 = .ok (.iload 6, 2) := by decide +kernel
theorem d_For_joined_63 : decode b_For_joined 63 = .ok (.iload 7, 2) := by decide +kernel
theorem d_For_joined_65 : decode b_For_joined 65 = .ok (.if_icmp .ge 14, 3) := by decide +kernel
theorem d_For_joined_68 : decode b_For_joined 68 = .ok (.aload_n 0, 1) := by decide +kernel
theorem d_For_joined_69 : decode b_For_joined 69 = .ok (.iload_n 2, 1) := by decide +kernel
theorem d_For_joined_70 : decode b_For_joined 70 = .ok (.iload_n 3, 1) := by decide +kernel
theorem d_For_joined_71 : decode b_For_joined 71 = .ok (.iload 6, 2) := by decide +kernel
theorem d_For_joined_73 : decode b_For_joined 73 = .ok (.invokevirtual 156, 3) := by decide +kernel
theorem d_For_joined_76 : decode b_For_joined 76 = .ok (.goto 16, 3) := by decide +kernel
theorem d_For_joined_79 : decode b_For_joined 79 = .ok (.aload_n 0, 1) := by decide +kernel
theorem d_For_joined_80 : decode b_For_joined 80 = .ok (.iload 4, 2) := by decide +kernel
theorem d_For_joined_82 : decode b_For_joined 82 = .ok (.iload 5, 2) := by decide +kernel
theorem d_For_joined_84 : decode b_For_joined 84 = .ok (.iload 6, 2) := by decide +kernel
theorem d_For_joined_86 : decode b_For_joined 86 = .ok (.iload 7, 2) := by decide +kernel
theorem d_For_joined_88 : decode b_For_joined 88 = .ok (.isub, 1) := by decide +kernel
theorem d_For_joined_89 : decode b_For_joined 89 = .ok (.invokevirtual 156, 3) := by decide +kernel
theorem d_For_joined_92 : decode b_For_joined 92 = .ok (.return_, 1) := by decide +kernel
abbrev b_For_later : ByteArray := prog_3_method_20_code
def y_For_later : MethodName := ⟨"ClauseProver$Formulas", "later", "(IZI)V"⟩
theorem d_For_later_0 : decode b_For_later 0 = .ok (.aload_n 0, 1) := by decide +kernel
theorem d_For_later_1 : decode b_For_later 1 = .ok (.getfield 52, 3) := by decide +kernel
theorem d_For_later_4 : decode b_For_later 4 = .ok (.iload_n 1, 1) := by decide +kernel
theorem d_For_later_5 : decode b_For_later 5 = .ok (.invokevirtual 72, 3) := by decide +kernel
theorem d_For_later_8 : decode b_For_later 8 = .ok (.aload_n 0, 1) := by decide +kernel
theorem d_For_later_9 : decode b_For_later 9 = .ok (.getfield 52, 3) := by decide +kernel
theorem d_For_later_12 : decode b_For_later 12 = .ok (.iload_n 2, 1) := by decide +kernel
theorem d_For_later_13 : decode b_For_later 13 = .ok (.ifCond .eq 7, 3) := by decide +kernel
theorem d_For_later_16 : decode b_For_later 16 = .ok (.iconst 1, 1) := by decide +kernel
theorem d_For_later_17 : decode b_For_later 17 = .ok (.goto 4, 3) := by decide +kernel
theorem d_For_later_20 : decode b_For_later 20 = .ok (.iconst 0, 1) := by decide +kernel
theorem d_For_later_21 : decode b_For_later 21 = .ok (.invokevirtual 72, 3) := by decide +kernel
theorem d_For_later_24 : decode b_For_later 24 = .ok (.aload_n 0, 1) := by decide +kernel
theorem d_For_later_25 : decode b_For_later 25 = .ok (.getfield 52, 3) := by decide +kernel
theorem d_For_later_28 : decode b_For_later 28 = .ok (.iload_n 3, 1) := by decide +kernel
theorem d_For_later_29 : decode b_For_later 29 = .ok (.invokevirtual 72, 3) := by decide +kernel
theorem d_For_later_32 : decode b_For_later 32 = .ok (.return_, 1) := by decide +kernel
abbrev b_For_makeClauses : ByteArray := prog_3_method_18_code
def y_For_makeClauses : MethodName := ⟨"ClauseProver$Formulas", "makeClauses", "(LClauseProver$Draft;LClauseProver$Store;)I"⟩
theorem d_For_makeClauses_0 : decode b_For_makeClauses 0 = .ok (.iconst 0, 1) := by decide +kernel
theorem d_For_makeClauses_1 : decode b_For_makeClauses 1 = .ok (.istore_n 3, 1) := by decide +kernel
theorem d_For_makeClauses_2 : decode b_For_makeClauses 2 = .ok (.iconst 0, 1) := by decide +kernel
theorem d_For_makeClauses_3 : decode b_For_makeClauses 3 = .ok (.istore 4, 2) := by decide +kernel
theorem d_For_makeClauses_5 : decode b_For_makeClauses 5 = .ok (.iload 4, 2) := by decide +kernel
theorem d_For_makeClauses_7 : decode b_For_makeClauses 7 = .ok (.aload_n 0, 1) := by decide +kernel
theorem d_For_makeClauses_8 : decode b_For_makeClauses 8 = .ok (.getfield 27, 3) := by decide +kernel
theorem d_For_makeClauses_11 : decode b_For_makeClauses 11 = .ok (.getfield 59, 3) := by decide +kernel
theorem d_For_makeClauses_14 : decode b_For_makeClauses 14 = .ok (.if_icmp .ge 162, 3) := by decide +kernel
theorem d_For_makeClauses_17 : decode b_For_makeClauses 17 = .ok (.aload_n 0, 1) := by decide +kernel
theorem d_For_makeClauses_18 : decode b_For_makeClauses 18 = .ok (.getfield 27, 3) := by decide +kernel
theorem d_For_makeClauses_21 : decode b_For_makeClauses 21 = .ok (.getfield 75, 3) := by decide +kernel
theorem d_For_makeClauses_24 : decode b_For_makeClauses 24 = .ok (.iload 4, 2) := by decide +kernel
theorem d_For_makeClauses_26 : decode b_For_makeClauses 26 = .ok (.iconst 2, 1) := by decide +kernel
theorem d_For_makeClauses_27 : decode b_For_makeClauses 27 = .ok (.iadd, 1) := by decide +kernel
theorem d_For_makeClauses_28 : decode b_For_makeClauses 28 = .ok (.iaload, 1) := by decide +kernel
theorem d_For_makeClauses_29 : decode b_For_makeClauses 29 = .ok (.istore 5, 2) := by decide +kernel
theorem d_For_makeClauses_31 : decode b_For_makeClauses 31 = .ok (.aload_n 0, 1) := by decide +kernel
theorem d_For_makeClauses_32 : decode b_For_makeClauses 32 = .ok (.getfield 27, 3) := by decide +kernel
theorem d_For_makeClauses_35 : decode b_For_makeClauses 35 = .ok (.getfield 75, 3) := by decide +kernel
theorem d_For_makeClauses_38 : decode b_For_makeClauses 38 = .ok (.iload 4, 2) := by decide +kernel
theorem d_For_makeClauses_40 : decode b_For_makeClauses 40 = .ok (.iconst 1, 1) := by decide +kernel
theorem d_For_makeClauses_41 : decode b_For_makeClauses 41 = .ok (.iadd, 1) := by decide +kernel
theorem d_For_makeClauses_42 : decode b_For_makeClauses 42 = .ok (.iaload, 1) := by decide +kernel
theorem d_For_makeClauses_43 : decode b_For_makeClauses 43 = .ok (.ifCond .ne 7, 3) := by decide +kernel
theorem d_For_makeClauses_46 : decode b_For_makeClauses 46 = .ok (.iconst 1, 1) := by decide +kernel
theorem d_For_makeClauses_47 : decode b_For_makeClauses 47 = .ok (.goto 4, 3) := by decide +kernel
theorem d_For_makeClauses_50 : decode b_For_makeClauses 50 = .ok (.iconst 0, 1) := by decide +kernel
theorem d_For_makeClauses_51 : decode b_For_makeClauses 51 = .ok (.istore 6, 2) := by decide +kernel
theorem d_For_makeClauses_53 : decode b_For_makeClauses 53 = .ok (.iload_n 3, 1) := by decide +kernel
theorem d_For_makeClauses_54 : decode b_For_makeClauses 54 = .ok (.aload_n 0, 1) := by decide +kernel
theorem d_For_makeClauses_55 : decode b_For_makeClauses 55 = .ok (.iload 5, 2) := by decide +kernel
theorem d_For_makeClauses_57 : decode b_For_makeClauses 57 = .ok (.iload 6, 2) := by decide +kernel
theorem d_For_makeClauses_59 : decode b_For_makeClauses 59 = .ok (.invokevirtual 127, 3) := by decide +kernel
theorem d_For_makeClauses_62 : decode b_For_makeClauses 62 = .ok (.iadd, 1) := by decide +kernel
theorem d_For_makeClauses_63 : decode b_For_makeClauses 63 = .ok (.istore_n 3, 1) := by decide +kernel
theorem d_For_makeClauses_64 : decode b_For_makeClauses 64 = .ok (.aload_n 0, 1) := by decide +kernel
theorem d_For_makeClauses_65 : decode b_For_makeClauses 65 = .ok (.iload 5, 2) := by decide +kernel
theorem d_For_makeClauses_67 : decode b_For_makeClauses 67 = .ok (.iconst 3, 1) := by decide +kernel
theorem d_For_makeClauses_68 : decode b_For_makeClauses 68 = .ok (.invokevirtual 104, 3) := by decide +kernel
theorem d_For_makeClauses_71 : decode b_For_makeClauses 71 = .ok (.sipush 200, 3) := by decide +kernel
theorem d_For_makeClauses_74 : decode b_For_makeClauses 74 = .ok (.if_icmp .gt 10, 3) := by decide +kernel
theorem d_For_makeClauses_77 : decode b_For_makeClauses 77 = .ok (.iload_n 3, 1) := by decide +kernel
theorem d_For_makeClauses_78 : decode b_For_makeClauses 78 = .ok (.sipush 200, 3) := by decide +kernel
theorem d_For_makeClauses_81 : decode b_For_makeClauses 81 = .ok (.if_icmp .le 16, 3) := by decide +kernel
theorem d_For_makeClauses_84 : decode b_For_makeClauses 84 = .ok (.aload_n 0, 1) := by decide +kernel
theorem d_For_makeClauses_85 : decode b_For_makeClauses 85 = .ok (.getfield 27, 3) := by decide +kernel
theorem d_For_makeClauses_88 : decode b_For_makeClauses 88 = .ok (.getfield 75, 3) := by decide +kernel
theorem d_For_makeClauses_91 : decode b_For_makeClauses 91 = .ok (.iload 4, 2) := by decide +kernel
theorem d_For_makeClauses_93 : decode b_For_makeClauses 93 = .ok (.iconst 0, 1) := by decide +kernel
theorem d_For_makeClauses_94 : decode b_For_makeClauses 94 = .ok (.iadd, 1) := by decide +kernel
theorem d_For_makeClauses_95 : decode b_For_makeClauses 95 = .ok (.iaload, 1) := by decide +kernel
theorem d_For_makeClauses_96 : decode b_For_makeClauses 96 = .ok (.ireturn, 1) := by decide +kernel
theorem d_For_makeClauses_97 : decode b_For_makeClauses 97 = .ok (.iconst 0, 1) := by decide +kernel
theorem d_For_makeClauses_98 : decode b_For_makeClauses 98 = .ok (.istore 7, 2) := by decide +kernel
theorem d_For_makeClauses_100 : decode b_For_makeClauses 100 = .ok (.iload 7, 2) := by decide +kernel
theorem d_For_makeClauses_102 : decode b_For_makeClauses 102 = .ok (.aload_n 0, 1) := by decide +kernel
theorem d_For_makeClauses_103 : decode b_For_makeClauses 103 = .ok (.iload 5, 2) := by decide +kernel
theorem d_For_makeClauses_105 : decode b_For_makeClauses 105 = .ok (.iload 6, 2) := by decide +kernel
theorem d_For_makeClauses_107 : decode b_For_makeClauses 107 = .ok (.invokevirtual 127, 3) := by decide +kernel
theorem d_For_makeClauses_110 : decode b_For_makeClauses 110 = .ok (.if_icmp .ge 60, 3) := by decide +kernel
theorem d_For_makeClauses_113 : decode b_For_makeClauses 113 = .ok (.aload_n 0, 1) := by decide +kernel
theorem d_For_makeClauses_114 : decode b_For_makeClauses 114 = .ok (.aload_n 1, 1) := by decide +kernel
theorem d_For_makeClauses_115 : decode b_For_makeClauses 115 = .ok (.iload 5, 2) := by decide +kernel
theorem d_For_makeClauses_117 : decode b_For_makeClauses 117 = .ok (.iload 6, 2) := by decide +kernel
theorem d_For_makeClauses_119 : decode b_For_makeClauses 119 = .ok (.iload 7, 2) := by decide +kernel
theorem d_For_makeClauses_121 : decode b_For_makeClauses 121 = .ok (.invokevirtual 131, 3) := by decide +kernel
theorem d_For_makeClauses_124 : decode b_For_makeClauses 124 = .ok (.aload_n 1, 1) := by decide +kernel
theorem d_For_makeClauses_125 : decode b_For_makeClauses 125 = .ok (.getfield 135, 3) := by decide +kernel
theorem d_For_makeClauses_128 : decode b_For_makeClauses 128 = .ok (.ifCond .eq 16, 3) := by decide +kernel
theorem d_For_makeClauses_131 : decode b_For_makeClauses 131 = .ok (.aload_n 0, 1) := by decide +kernel
theorem d_For_makeClauses_132 : decode b_For_makeClauses 132 = .ok (.getfield 27, 3) := by decide +kernel
theorem d_For_makeClauses_135 : decode b_For_makeClauses 135 = .ok (.getfield 75, 3) := by decide +kernel
theorem d_For_makeClauses_138 : decode b_For_makeClauses 138 = .ok (.iload 4, 2) := by decide +kernel
theorem d_For_makeClauses_140 : decode b_For_makeClauses 140 = .ok (.iconst 0, 1) := by decide +kernel
theorem d_For_makeClauses_141 : decode b_For_makeClauses 141 = .ok (.iadd, 1) := by decide +kernel
theorem d_For_makeClauses_142 : decode b_For_makeClauses 142 = .ok (.iaload, 1) := by decide +kernel
theorem d_For_makeClauses_143 : decode b_For_makeClauses 143 = .ok (.ireturn, 1) := by decide +kernel
theorem d_For_makeClauses_144 : decode b_For_makeClauses 144 = .ok (.aload_n 1, 1) := by decide +kernel
theorem d_For_makeClauses_145 : decode b_For_makeClauses 145 = .ok (.invokevirtual 141, 3) := by decide +kernel
theorem d_For_makeClauses_148 : decode b_For_makeClauses 148 = .ok (.aload_n 1, 1) := by decide +kernel
theorem d_For_makeClauses_149 : decode b_For_makeClauses 149 = .ok (.invokevirtual 144, 3) := by decide +kernel
theorem d_For_makeClauses_152 : decode b_For_makeClauses 152 = .ok (.ifCond .ne 12, 3) := by decide +kernel
theorem d_For_makeClauses_155 : decode b_For_makeClauses 155 = .ok (.aload_n 2, 1) := by decide +kernel
theorem d_For_makeClauses_156 : decode b_For_makeClauses 156 = .ok (.aload_n 1, 1) := by decide +kernel
theorem d_For_makeClauses_157 : decode b_For_makeClauses 157 = .ok (.iconst 0, 1) := by decide +kernel
theorem d_For_makeClauses_158 : decode b_For_makeClauses 158 = .ok (.iconst (-1), 1) := by decide +kernel
theorem d_For_makeClauses_159 : decode b_For_makeClauses 159 = .ok (.iconst (-1), 1) := by decide +kernel
theorem d_For_makeClauses_160 : decode b_For_makeClauses 160 = .ok (.invokevirtual 148, 3) := by decide +kernel
theorem d_For_makeClauses_163 : decode b_For_makeClauses 163 = .ok (.pop, 1) := by decide +kernel
theorem d_For_makeClauses_164 : decode b_For_makeClauses 164 = .ok (.iinc 7 1, 3) := by decide +kernel
theorem d_For_makeClauses_167 : decode b_For_makeClauses 167 = .ok (.goto (-67), 3) := by decide +kernel
theorem d_For_makeClauses_170 : decode b_For_makeClauses 170 = .ok (.iinc 4 5, 3) := by decide +kernel
theorem d_For_makeClauses_173 : decode b_For_makeClauses 173 = .ok (.goto (-168), 3) := by decide +kernel
theorem d_For_makeClauses_176 : decode b_For_makeClauses 176 = .ok (.iconst (-1), 1) := by decide +kernel
theorem d_For_makeClauses_177 : decode b_For_makeClauses 177 = .ok (.ireturn, 1) := by decide +kernel
abbrev b_For_openSentence : ByteArray := prog_3_method_3_code
def y_For_openSentence : MethodName := ⟨"ClauseProver$Formulas", "openSentence", "(IZ)V"⟩
theorem d_For_openSentence_0 : decode b_For_openSentence 0 = .ok (.aload_n 0, 1) := by decide +kernel
theorem d_For_openSentence_1 : decode b_For_openSentence 1 = .ok (.getfield 27, 3) := by decide +kernel
theorem d_For_openSentence_4 : decode b_For_openSentence 4 = .ok (.iload_n 1, 1) := by decide +kernel
theorem d_For_openSentence_5 : decode b_For_openSentence 5 = .ok (.invokevirtual 72, 3) := by decide +kernel
theorem d_For_openSentence_8 : decode b_For_openSentence 8 = .ok (.aload_n 0, 1) := by decide +kernel
theorem d_For_openSentence_9 : decode b_For_openSentence 9 = .ok (.getfield 27, 3) := by decide +kernel
theorem d_For_openSentence_12 : decode b_For_openSentence 12 = .ok (.iload_n 2, 1) := by decide +kernel
theorem d_For_openSentence_13 : decode b_For_openSentence 13 = .ok (.ifCond .eq 7, 3) := by decide +kernel
theorem d_For_openSentence_16 : decode b_For_openSentence 16 = .ok (.iconst 1, 1) := by decide +kernel
theorem d_For_openSentence_17 : decode b_For_openSentence 17 = .ok (.goto 4, 3) := by decide +kernel
theorem d_For_openSentence_20 : decode b_For_openSentence 20 = .ok (.iconst 0, 1) := by decide +kernel
theorem d_For_openSentence_21 : decode b_For_openSentence 21 = .ok (.invokevirtual 72, 3) := by decide +kernel
theorem d_For_openSentence_24 : decode b_For_openSentence 24 = .ok (.aload_n 0, 1) := by decide +kernel
theorem d_For_openSentence_25 : decode b_For_openSentence 25 = .ok (.getfield 27, 3) := by decide +kernel
theorem d_For_openSentence_28 : decode b_For_openSentence 28 = .ok (.iconst (-1), 1) := by decide +kernel
theorem d_For_openSentence_29 : decode b_For_openSentence 29 = .ok (.invokevirtual 72, 3) := by decide +kernel
theorem d_For_openSentence_32 : decode b_For_openSentence 32 = .ok (.aload_n 0, 1) := by decide +kernel
theorem d_For_openSentence_33 : decode b_For_openSentence 33 = .ok (.getfield 27, 3) := by decide +kernel
theorem d_For_openSentence_36 : decode b_For_openSentence 36 = .ok (.aload_n 0, 1) := by decide +kernel
theorem d_For_openSentence_37 : decode b_For_openSentence 37 = .ok (.getfield 66, 3) := by decide +kernel
theorem d_For_openSentence_40 : decode b_For_openSentence 40 = .ok (.invokevirtual 72, 3) := by decide +kernel
theorem d_For_openSentence_43 : decode b_For_openSentence 43 = .ok (.aload_n 0, 1) := by decide +kernel
theorem d_For_openSentence_44 : decode b_For_openSentence 44 = .ok (.getfield 27, 3) := by decide +kernel
theorem d_For_openSentence_47 : decode b_For_openSentence 47 = .ok (.aload_n 0, 1) := by decide +kernel
theorem d_For_openSentence_48 : decode b_For_openSentence 48 = .ok (.getfield 66, 3) := by decide +kernel
theorem d_For_openSentence_51 : decode b_For_openSentence 51 = .ok (.invokevirtual 72, 3) := by decide +kernel
theorem d_For_openSentence_54 : decode b_For_openSentence 54 = .ok (.aload_n 0, 1) := by decide +kernel
theorem d_For_openSentence_55 : decode b_For_openSentence 55 = .ok (.iconst (-1), 1) := by decide +kernel
theorem d_For_openSentence_56 : decode b_For_openSentence 56 = .ok (.putfield 69, 3) := by decide +kernel
theorem d_For_openSentence_59 : decode b_For_openSentence 59 = .ok (.return_, 1) := by decide +kernel
abbrev b_For_writeClause : ByteArray := prog_3_method_19_code
def y_For_writeClause : MethodName := ⟨"ClauseProver$Formulas", "writeClause", "(LClauseProver$Draft;IZI)V"⟩
theorem d_For_writeClause_0 : decode b_For_writeClause 0 = .ok (.aload_n 1, 1) := by decide +kernel
theorem d_For_writeClause_1 : decode b_For_writeClause 1 = .ok (.invokevirtual 153, 3) := by decide +kernel
theorem d_For_writeClause_4 : decode b_For_writeClause 4 = .ok (.aload_n 0, 1) := by decide +kernel
theorem d_For_writeClause_5 : decode b_For_writeClause 5 = .ok (.getfield 52, 3) := by decide +kernel
theorem d_For_writeClause_8 : decode b_For_writeClause 8 = .ok (.iconst 0, 1) := by decide +kernel
theorem d_For_writeClause_9 : decode b_For_writeClause 9 = .ok (.putfield 59, 3) := by decide +kernel
theorem d_For_writeClause_12 : decode b_For_writeClause 12 = .ok (.aload_n 0, 1) := by decide +kernel
theorem d_For_writeClause_13 : decode b_For_writeClause 13 = .ok (.iload_n 2, 1) := by decide +kernel
theorem d_For_writeClause_14 : decode b_For_writeClause 14 = .ok (.iload_n 3, 1) := by decide +kernel
theorem d_For_writeClause_15 : decode b_For_writeClause 15 = .ok (.iload 4, 2) := by decide +kernel
theorem d_For_writeClause_17 : decode b_For_writeClause 17 = .ok (.invokevirtual 156, 3) := by decide +kernel
theorem d_For_writeClause_20 : decode b_For_writeClause 20 = .ok (.iconst 0, 1) := by decide +kernel
theorem d_For_writeClause_21 : decode b_For_writeClause 21 = .ok (.istore 5, 2) := by decide +kernel
theorem d_For_writeClause_23 : decode b_For_writeClause 23 = .ok (.iload 5, 2) := by decide +kernel
theorem d_For_writeClause_25 : decode b_For_writeClause 25 = .ok (.ldc 160, 2) := by decide +kernel
theorem d_For_writeClause_27 : decode b_For_writeClause 27 = .ok (.if_icmp .ge 110, 3) := by decide +kernel
theorem d_For_writeClause_30 : decode b_For_writeClause 30 = .ok (.aload_n 0, 1) := by decide +kernel
theorem d_For_writeClause_31 : decode b_For_writeClause 31 = .ok (.getfield 52, 3) := by decide +kernel
theorem d_For_writeClause_34 : decode b_For_writeClause 34 = .ok (.getfield 59, 3) := by decide +kernel
theorem d_For_writeClause_37 : decode b_For_writeClause 37 = .ok (.ifCond .le 100, 3) := by decide +kernel
theorem d_For_writeClause_40 : decode b_For_writeClause 40 = .ok (.aload_n 1, 1) := by decide +kernel
theorem d_For_writeClause_41 : decode b_For_writeClause 41 = .ok (.getfield 135, 3) := by decide +kernel
theorem d_For_writeClause_44 : decode b_For_writeClause 44 = .ok (.ifCond .ne 93, 3) := by decide +kernel
theorem d_For_writeClause_47 : decode b_For_writeClause 47 = .ok (.aload_n 0, 1) := by decide +kernel
theorem d_For_writeClause_48 : decode b_For_writeClause 48 = .ok (.getfield 52, 3) := by decide +kernel
theorem d_For_writeClause_51 : decode b_For_writeClause 51 = .ok (.dup, 1) := by decide +kernel
theorem d_For_writeClause_52 : decode b_For_writeClause 52 = .ok (.getfield 59, 3) := by decide +kernel
theorem d_For_writeClause_55 : decode b_For_writeClause 55 = .ok (.iconst 3, 1) := by decide +kernel
theorem d_For_writeClause_56 : decode b_For_writeClause 56 = .ok (.isub, 1) := by decide +kernel
theorem d_For_writeClause_57 : decode b_For_writeClause 57 = .ok (.putfield 59, 3) := by decide +kernel
theorem d_For_writeClause_60 : decode b_For_writeClause 60 = .ok (.aload_n 0, 1) := by decide +kernel
theorem d_For_writeClause_61 : decode b_For_writeClause 61 = .ok (.getfield 52, 3) := by decide +kernel
theorem d_For_writeClause_64 : decode b_For_writeClause 64 = .ok (.getfield 75, 3) := by decide +kernel
theorem d_For_writeClause_67 : decode b_For_writeClause 67 = .ok (.aload_n 0, 1) := by decide +kernel
theorem d_For_writeClause_68 : decode b_For_writeClause 68 = .ok (.getfield 52, 3) := by decide +kernel
theorem d_For_writeClause_71 : decode b_For_writeClause 71 = .ok (.getfield 59, 3) := by decide +kernel
theorem d_For_writeClause_74 : decode b_For_writeClause 74 = .ok (.iaload, 1) := by decide +kernel
theorem d_For_writeClause_75 : decode b_For_writeClause 75 = .ok (.istore 6, 2) := by decide +kernel
theorem d_For_writeClause_77 : decode b_For_writeClause 77 = .ok (.aload_n 0, 1) := by decide +kernel
theorem d_For_writeClause_78 : decode b_For_writeClause 78 = .ok (.getfield 52, 3) := by decide +kernel
theorem d_For_writeClause_81 : decode b_For_writeClause 81 = .ok (.getfield 75, 3) := by decide +kernel
theorem d_For_writeClause_84 : decode b_For_writeClause 84 = .ok (.aload_n 0, 1) := by decide +kernel
theorem d_For_writeClause_85 : decode b_For_writeClause 85 = .ok (.getfield 52, 3) := by decide +kernel
theorem d_For_writeClause_88 : decode b_For_writeClause 88 = .ok (.getfield 59, 3) := by decide +kernel
theorem d_For_writeClause_91 : decode b_For_writeClause 91 = .ok (.iconst 1, 1) := by decide +kernel
theorem d_For_writeClause_92 : decode b_For_writeClause 92 = .ok (.iadd, 1) := by decide +kernel
theorem d_For_writeClause_93 : decode b_For_writeClause 93 = .ok (.iaload, 1) := by decide +kernel
theorem d_For_writeClause_94 : decode b_For_writeClause 94 = .ok (.iconst 1, 1) := by decide +kernel
theorem d_For_writeClause_95 : decode b_For_writeClause 95 = .ok (.if_icmp .ne 7, 3) := by decide +kernel
theorem d_For_writeClause_98 : decode b_For_writeClause 98 = .ok (.iconst 1, 1) := by decide +kernel
theorem d_For_writeClause_99 : decode b_For_writeClause 99 = .ok (.goto 4, 3) := by decide +kernel
theorem d_For_writeClause_102 : decode b_For_writeClause 102 = .ok (.iconst 0, 1) := by decide +kernel
theorem d_For_writeClause_103 : decode b_For_writeClause 103 = .ok (.istore 7, 2) := by decide +kernel
theorem d_For_writeClause_105 : decode b_For_writeClause 105 = .ok (.aload_n 0, 1) := by decide +kernel
theorem d_For_writeClause_106 : decode b_For_writeClause 106 = .ok (.aload_n 1, 1) := by decide +kernel
theorem d_For_writeClause_107 : decode b_For_writeClause 107 = .ok (.iload 6, 2) := by decide +kernel
theorem d_For_writeClause_109 : decode b_For_writeClause 109 = .ok (.iload 7, 2) := by decide +kernel
theorem d_For_writeClause_111 : decode b_For_writeClause 111 = .ok (.aload_n 0, 1) := by decide +kernel
theorem d_For_writeClause_112 : decode b_For_writeClause 112 = .ok (.getfield 52, 3) := by decide +kernel
theorem d_For_writeClause_115 : decode b_For_writeClause 115 = .ok (.getfield 75, 3) := by decide +kernel
theorem d_For_writeClause_118 : decode b_For_writeClause 118 = .ok (.aload_n 0, 1) := by decide +kernel
theorem d_For_writeClause_119 : decode b_For_writeClause 119 = .ok (.getfield 52, 3) := by decide +kernel
theorem d_For_writeClause_122 : decode b_For_writeClause 122 = .ok (.getfield 59, 3) := by decide +kernel
theorem d_For_writeClause_125 : decode b_For_writeClause 125 = .ok (.iconst 2, 1) := by decide +kernel
theorem d_For_writeClause_126 : decode b_For_writeClause 126 = .ok (.iadd, 1) := by decide +kernel
theorem d_For_writeClause_127 : decode b_For_writeClause 127 = .ok (.iaload, 1) := by decide +kernel
theorem d_For_writeClause_128 : decode b_For_writeClause 128 = .ok (.invokevirtual 161, 3) := by decide +kernel
theorem d_For_writeClause_131 : decode b_For_writeClause 131 = .ok (.iinc 5 1, 3) := by decide +kernel
theorem d_For_writeClause_134 : decode b_For_writeClause 134 = .ok (.goto (-111), 3) := by decide +kernel
theorem d_For_writeClause_137 : decode b_For_writeClause 137 = .ok (.return_, 1) := by decide +kernel
abbrev b_For_writePart : ByteArray := prog_3_method_21_code
def y_For_writePart : MethodName := ⟨"ClauseProver$Formulas", "writePart", "(LClauseProver$Draft;IZI)V"⟩
theorem d_For_writePart_0 : decode b_For_writePart 0 = .ok (.aload_n 0, 1) := by decide +kernel
theorem d_For_writePart_1 : decode b_For_writePart 1 = .ok (.iload_n 2, 1) := by decide +kernel
theorem d_For_writePart_2 : decode b_For_writePart 2 = .ok (.iconst 0, 1) := by decide +kernel
theorem d_For_writePart_3 : decode b_For_writePart 3 = .ok (.invokevirtual 104, 3) := by decide +kernel
theorem d_For_writePart_6 : decode b_For_writePart 6 = .ok (.istore 5, 2) := by decide +kernel
theorem d_For_writePart_8 : decode b_For_writePart 8 = .ok (.aload_n 0, 1) := by decide +kernel
theorem d_For_writePart_9 : decode b_For_writePart 9 = .ok (.iload_n 2, 1) := by decide +kernel
theorem d_For_writePart_10 : decode b_For_writePart 10 = .ok (.iconst 1, 1) := by decide +kernel
theorem d_For_writePart_11 : decode b_For_writePart 11 = .ok (.invokevirtual 104, 3) := by decide +kernel
theorem d_For_writePart_14 : decode b_For_writePart 14 = .ok (.istore 6, 2) := by decide +kernel
theorem d_For_writePart_16 : decode b_For_writePart 16 = .ok (.aload_n 0, 1) := by decide +kernel
theorem d_For_writePart_17 : decode b_For_writePart 17 = .ok (.iload_n 2, 1) := by decide +kernel
theorem d_For_writePart_18 : decode b_For_writePart 18 = .ok (.iconst 2, 1) := by decide +kernel
theorem d_For_writePart_19 : decode b_For_writePart 19 = .ok (.invokevirtual 104, 3) := by decide +kernel
theorem d_For_writePart_22 : decode b_For_writePart 22 = .ok (.istore 7, 2) := by decide +kernel
theorem d_For_writePart_24 : decode b_For_writePart 24 = .ok (.iload 5, 2) := by decide +kernel
theorem d_For_writePart_26 : decode b_For_writePart 26 = .ok (.tableswitch 184 11 17 #[42, 62, 62, 102, 102, 138, 170], 42) := by decide +kernel
theorem d_For_writePart_68 : decode b_For_writePart 68 = .ok (.aload_n 0, 1) := by decide +kernel
theorem d_For_writePart_69 : decode b_For_writePart 69 = .ok (.iload 6, 2) := by decide +kernel
theorem d_For_writePart_71 : decode b_For_writePart 71 = .ok (.iload_n 3, 1) := by decide +kernel
theorem d_For_writePart_72 : decode b_For_writePart 72 = .ok (.ifCond .ne 7, 3) := by decide +kernel
theorem d_For_writePart_75 : decode b_For_writePart 75 = .ok (.iconst 1, 1) := by decide +kernel
theorem d_For_writePart_76 : decode b_For_writePart 76 = .ok (.goto 4, 3) := by decide +kernel
theorem d_For_writePart_79 : decode b_For_writePart 79 = .ok (.iconst 0, 1) := by decide +kernel
theorem d_For_writePart_80 : decode b_For_writePart 80 = .ok (.iload 4, 2) := by decide +kernel
theorem d_For_writePart_82 : decode b_For_writePart 82 = .ok (.invokevirtual 156, 3) := by decide +kernel
theorem d_For_writePart_85 : decode b_For_writePart 85 = .ok (.goto 155, 3) := by decide +kernel
theorem d_For_writePart_88 : decode b_For_writePart 88 = .ok (.aload_n 0, 1) := by decide +kernel
theorem d_For_writePart_89 : decode b_For_writePart 89 = .ok (.getfield 45, 3) := by decide +kernel
theorem d_For_writePart_92 : decode b_For_writePart 92 = .ok (.iload 7, 2) := by decide +kernel
theorem d_For_writePart_94 : decode b_For_writePart 94 = .ok (.iload 5, 2) := by decide +kernel
theorem d_For_writePart_96 : decode b_For_writePart 96 = .ok (.bipush 13, 2) := by decide +kernel
theorem d_For_writePart_98 : decode b_For_writePart 98 = .ok (.if_icmp .ne 7, 3) := by decide +kernel
theorem d_For_writePart_101 : decode b_For_writePart 101 = .ok (.iconst 1, 1) := by decide +kernel
theorem d_For_writePart_102 : decode b_For_writePart 102 = .ok (.goto 4, 3) := by decide +kernel
theorem d_For_writePart_105 : decode b_For_writePart 105 = .ok (.iconst 0, 1) := by decide +kernel
theorem d_For_writePart_106 : decode b_For_writePart 106 = .ok (.iload_n 3, 1) := by decide +kernel
theorem d_For_writePart_107 : decode b_For_writePart 107 = .ok (.if_icmp .ne 7, 3) := by decide +kernel
theorem d_For_writePart_110 : decode b_For_writePart 110 = .ok (.iconst 1, 1) := by decide +kernel
theorem d_For_writePart_111 : decode b_For_writePart 111 = .ok (.goto 4, 3) := by decide +kernel
theorem d_For_writePart_114 : decode b_For_writePart 114 = .ok (.iconst 0, 1) := by decide +kernel
theorem d_For_writePart_115 : decode b_For_writePart 115 = .ok (.bastore, 1) := by decide +kernel
theorem d_For_writePart_116 : decode b_For_writePart 116 = .ok (.aload_n 0, 1) := by decide +kernel
theorem d_For_writePart_117 : decode b_For_writePart 117 = .ok (.iload 6, 2) := by decide +kernel
theorem d_For_writePart_119 : decode b_For_writePart 119 = .ok (.iload_n 3, 1) := by decide +kernel
theorem d_For_writePart_120 : decode b_For_writePart 120 = .ok (.iload 4, 2) := by decide +kernel
theorem d_For_writePart_122 : decode b_For_writePart 122 = .ok (.invokevirtual 156, 3) := by decide +kernel
theorem d_For_writePart_125 : decode b_For_writePart 125 = .ok (.goto 115, 3) := by decide +kernel
theorem d_For_writePart_128 : decode b_For_writePart 128 = .ok (.aload_n 0, 1) := by decide +kernel
theorem d_For_writePart_129 : decode b_For_writePart 129 = .ok (.iload 5, 2) := by decide +kernel
theorem d_For_writePart_131 : decode b_For_writePart 131 = .ok (.bipush 14, 2) := by decide +kernel
theorem d_For_writePart_133 : decode b_For_writePart 133 = .ok (.if_icmp .ne 7, 3) := by decide +kernel
theorem d_For_writePart_136 : decode b_For_writePart 136 = .ok (.iconst 1, 1) := by decide +kernel
theorem d_For_writePart_137 : decode b_For_writePart 137 = .ok (.goto 4, 3) := by decide +kernel
theorem d_For_writePart_140 : decode b_For_writePart 140 = .ok (.iconst 0, 1) := by decide +kernel
theorem d_For_writePart_141 : decode b_For_writePart 141 = .ok (.iload_n 3, 1) := by decide +kernel
theorem d_For_writePart_142 : decode b_For_writePart 142 = .ok (.if_icmp .ne 7, 3) := by decide +kernel
theorem d_For_writePart_145 : decode b_For_writePart 145 = .ok (.iconst 1, 1) := by decide +kernel
theorem d_For_writePart_146 : decode b_For_writePart 146 = .ok (.goto 4, 3) := by decide +kernel
theorem d_For_writePart_149 : decode b_For_writePart 149 = .ok (.iconst 0, 1) := by decide +kernel
theorem d_For_writePart_150 : decode b_For_writePart 150 = .ok (.iload 6, 2) := by decide +kernel
theorem d_For_writePart_152 : decode b_For_writePart 152 = .ok (.iload_n 3, 1) := by decide +kernel
theorem d_For_writePart_153 : decode b_For_writePart 153 = .ok (.iload 7, 2) := by decide +kernel
theorem d_For_writePart_155 : decode b_For_writePart 155 = .ok (.iload_n 3, 1) := by decide +kernel
theorem d_For_writePart_156 : decode b_For_writePart 156 = .ok (.iload 4, 2) := by decide +kernel
theorem d_For_writePart_158 : decode b_For_writePart 158 = .ok (.invokevirtual 164, 3) := by decide +kernel
theorem d_For_writePart_161 : decode b_For_writePart 161 = .ok (.goto 79, 3) := by decide +kernel
theorem d_For_writePart_164 : decode b_For_writePart 164 = .ok (.aload_n 0, 1) := by decide +kernel
theorem d_For_writePart_165 : decode b_For_writePart 165 = .ok (.iload_n 3, 1) := by decide +kernel
theorem d_For_writePart_166 : decode b_For_writePart 166 = .ok (.ifCond .ne 7, 3) := by decide +kernel
theorem d_For_writePart_169 : decode b_For_writePart 169 = .ok (.iconst 1, 1) := by decide +kernel
theorem d_For_writePart_170 : decode b_For_writePart 170 = .ok (.goto 4, 3) := by decide +kernel
theorem d_For_writePart_173 : decode b_For_writePart 173 = .ok (.iconst 0, 1) := by decide +kernel
theorem d_For_writePart_174 : decode b_For_writePart 174 = .ok (.iload 6, 2) := by decide +kernel
theorem d_For_writePart_176 : decode b_For_writePart 176 = .ok (.iload_n 3, 1) := by decide +kernel
theorem d_For_writePart_177 : decode b_For_writePart 177 = .ok (.ifCond .ne 7, 3) := by decide +kernel
theorem d_For_writePart_180 : decode b_For_writePart 180 = .ok (.iconst 1, 1) := by decide +kernel
theorem d_For_writePart_181 : decode b_For_writePart 181 = .ok (.goto 4, 3) := by decide +kernel
theorem d_For_writePart_184 : decode b_For_writePart 184 = .ok (.iconst 0, 1) := by decide +kernel
theorem d_For_writePart_185 : decode b_For_writePart 185 = .ok (.iload 7, 2) := by decide +kernel
theorem d_For_writePart_187 : decode b_For_writePart 187 = .ok (.iload_n 3, 1) := by decide +kernel
theorem d_For_writePart_188 : decode b_For_writePart 188 = .ok (.iload 4, 2) := by decide +kernel
theorem d_For_writePart_190 : decode b_For_writePart 190 = .ok (.invokevirtual 164, 3) := by decide +kernel
theorem d_For_writePart_193 : decode b_For_writePart 193 = .ok (.goto 47, 3) := by decide +kernel
theorem d_For_writePart_196 : decode b_For_writePart 196 = .ok (.aload_n 0, 1) := by decide +kernel
theorem d_For_writePart_197 : decode b_For_writePart 197 = .ok (.iload 6, 2) := by decide +kernel
theorem d_For_writePart_199 : decode b_For_writePart 199 = .ok (.iload 7, 2) := by decide +kernel
theorem d_For_writePart_201 : decode b_For_writePart 201 = .ok (.iload_n 3, 1) := by decide +kernel
theorem d_For_writePart_202 : decode b_For_writePart 202 = .ok (.iload 4, 2) := by decide +kernel
theorem d_For_writePart_204 : decode b_For_writePart 204 = .ok (.invokevirtual 168, 3) := by decide +kernel
theorem d_For_writePart_207 : decode b_For_writePart 207 = .ok (.goto 33, 3) := by decide +kernel
theorem d_For_writePart_210 : decode b_For_writePart 210 = .ok (.aload_n 0, 1) := by decide +kernel
theorem d_For_writePart_211 : decode b_For_writePart 211 = .ok (.aload_n 1, 1) := by decide +kernel
theorem d_For_writePart_212 : decode b_For_writePart 212 = .ok (.iload 5, 2) := by decide +kernel
theorem d_For_writePart_214 : decode b_For_writePart 214 = .ok (.bipush 9, 2) := by decide +kernel
theorem d_For_writePart_216 : decode b_For_writePart 216 = .ok (.if_icmp .ne 7, 3) := by decide +kernel
theorem d_For_writePart_219 : decode b_For_writePart 219 = .ok (.iconst 1, 1) := by decide +kernel
theorem d_For_writePart_220 : decode b_For_writePart 220 = .ok (.goto 4, 3) := by decide +kernel
theorem d_For_writePart_223 : decode b_For_writePart 223 = .ok (.iconst 0, 1) := by decide +kernel
theorem d_For_writePart_224 : decode b_For_writePart 224 = .ok (.iload_n 3, 1) := by decide +kernel
theorem d_For_writePart_225 : decode b_For_writePart 225 = .ok (.if_icmp .ne 7, 3) := by decide +kernel
theorem d_For_writePart_228 : decode b_For_writePart 228 = .ok (.iconst 1, 1) := by decide +kernel
theorem d_For_writePart_229 : decode b_For_writePart 229 = .ok (.goto 4, 3) := by decide +kernel
theorem d_For_writePart_232 : decode b_For_writePart 232 = .ok (.iconst 0, 1) := by decide +kernel
theorem d_For_writePart_233 : decode b_For_writePart 233 = .ok (.iload 6, 2) := by decide +kernel
theorem d_For_writePart_235 : decode b_For_writePart 235 = .ok (.iload 7, 2) := by decide +kernel
theorem d_For_writePart_237 : decode b_For_writePart 237 = .ok (.invokevirtual 172, 3) := by decide +kernel
theorem d_For_writePart_240 : decode b_For_writePart 240 = .ok (.return_, 1) := by decide +kernel
abbrev b_Par_closeBracket : ByteArray := prog_6_method_16_code
def y_Par_closeBracket : MethodName := ⟨"ClauseProver$Parser", "closeBracket", "()Z"⟩
theorem d_Par_closeBracket_0 : decode b_Par_closeBracket 0 = .ok (.aload_n 0, 1) := by decide +kernel
theorem d_Par_closeBracket_1 : decode b_Par_closeBracket 1 = .ok (.bipush 12, 2) := by decide +kernel
theorem d_Par_closeBracket_3 : decode b_Par_closeBracket 3 = .ok (.invokestatic 166, 3) := by decide +kernel
theorem d_Par_closeBracket_6 : decode b_Par_closeBracket 6 = .ok (.invokevirtual 169, 3) := by decide +kernel
theorem d_Par_closeBracket_9 : decode b_Par_closeBracket 9 = .ok (.aload_n 0, 1) := by decide +kernel
theorem d_Par_closeBracket_10 : decode b_Par_closeBracket 10 = .ok (.getfield 23, 3) := by decide +kernel
theorem d_Par_closeBracket_13 : decode b_Par_closeBracket 13 = .ok (.getfield 83, 3) := by decide +kernel
theorem d_Par_closeBracket_16 : decode b_Par_closeBracket 16 = .ok (.ifCond .ne 5, 3) := by decide +kernel
theorem d_Par_closeBracket_19 : decode b_Par_closeBracket 19 = .ok (.iconst 0, 1) := by decide +kernel
theorem d_Par_closeBracket_20 : decode b_Par_closeBracket 20 = .ok (.ireturn, 1) := by decide +kernel
theorem d_Par_closeBracket_21 : decode b_Par_closeBracket 21 = .ok (.aload_n 0, 1) := by decide +kernel
theorem d_Par_closeBracket_22 : decode b_Par_closeBracket 22 = .ok (.invokevirtual 178, 3) := by decide +kernel
theorem d_Par_closeBracket_25 : decode b_Par_closeBracket 25 = .ok (.aload_n 0, 1) := by decide +kernel
theorem d_Par_closeBracket_26 : decode b_Par_closeBracket 26 = .ok (.getfield 12, 3) := by decide +kernel
theorem d_Par_closeBracket_29 : decode b_Par_closeBracket 29 = .ok (.invokevirtual 89, 3) := by decide +kernel
theorem d_Par_closeBracket_32 : decode b_Par_closeBracket 32 = .ok (.iconst 1, 1) := by decide +kernel
theorem d_Par_closeBracket_33 : decode b_Par_closeBracket 33 = .ok (.ireturn, 1) := by decide +kernel
abbrev b_Par_closeSentence : ByteArray := prog_6_method_17_code
def y_Par_closeSentence : MethodName := ⟨"ClauseProver$Parser", "closeSentence", "()V"⟩
theorem d_Par_closeSentence_0 : decode b_Par_closeSentence 0 = .ok (.aload_n 0, 1) := by decide +kernel
theorem d_Par_closeSentence_1 : decode b_Par_closeSentence 1 = .ok (.bipush 12, 2) := by decide +kernel
theorem d_Par_closeSentence_3 : decode b_Par_closeSentence 3 = .ok (.invokestatic 166, 3) := by decide +kernel
theorem d_Par_closeSentence_6 : decode b_Par_closeSentence 6 = .ok (.invokevirtual 169, 3) := by decide +kernel
theorem d_Par_closeSentence_9 : decode b_Par_closeSentence 9 = .ok (.aload_n 0, 1) := by decide +kernel
theorem d_Par_closeSentence_10 : decode b_Par_closeSentence 10 = .ok (.getfield 23, 3) := by decide +kernel
theorem d_Par_closeSentence_13 : decode b_Par_closeSentence 13 = .ok (.getfield 83, 3) := by decide +kernel
theorem d_Par_closeSentence_16 : decode b_Par_closeSentence 16 = .ok (.ifCond .gt 14, 3) := by decide +kernel
theorem d_Par_closeSentence_19 : decode b_Par_closeSentence 19 = .ok (.aload_n 0, 1) := by decide +kernel
theorem d_Par_closeSentence_20 : decode b_Par_closeSentence 20 = .ok (.getfield 30, 3) := by decide +kernel
theorem d_Par_closeSentence_23 : decode b_Par_closeSentence 23 = .ok (.getfield 83, 3) := by decide +kernel
theorem d_Par_closeSentence_26 : decode b_Par_closeSentence 26 = .ok (.iconst 1, 1) := by decide +kernel
theorem d_Par_closeSentence_27 : decode b_Par_closeSentence 27 = .ok (.if_icmp .eq 8, 3) := by decide +kernel
theorem d_Par_closeSentence_30 : decode b_Par_closeSentence 30 = .ok (.aload_n 0, 1) := by decide +kernel
theorem d_Par_closeSentence_31 : decode b_Par_closeSentence 31 = .ok (.invokevirtual 117, 3) := by decide +kernel
theorem d_Par_closeSentence_34 : decode b_Par_closeSentence 34 = .ok (.return_, 1) := by decide +kernel
theorem d_Par_closeSentence_35 : decode b_Par_closeSentence 35 = .ok (.aload_n 0, 1) := by decide +kernel
theorem d_Par_closeSentence_36 : decode b_Par_closeSentence 36 = .ok (.getfield 37, 3) := by decide +kernel
theorem d_Par_closeSentence_39 : decode b_Par_closeSentence 39 = .ok (.aload_n 0, 1) := by decide +kernel
theorem d_Par_closeSentence_40 : decode b_Par_closeSentence 40 = .ok (.getfield 30, 3) := by decide +kernel
theorem d_Par_closeSentence_43 : decode b_Par_closeSentence 43 = .ok (.getfield 181, 3) := by decide +kernel
theorem d_Par_closeSentence_46 : decode b_Par_closeSentence 46 = .ok (.iconst 0, 1) := by decide +kernel
theorem d_Par_closeSentence_47 : decode b_Par_closeSentence 47 = .ok (.iaload, 1) := by decide +kernel
theorem d_Par_closeSentence_48 : decode b_Par_closeSentence 48 = .ok (.invokevirtual 185, 3) := by decide +kernel
theorem d_Par_closeSentence_51 : decode b_Par_closeSentence 51 = .ok (.aload_n 0, 1) := by decide +kernel
theorem d_Par_closeSentence_52 : decode b_Par_closeSentence 52 = .ok (.getfield 12, 3) := by decide +kernel
theorem d_Par_closeSentence_55 : decode b_Par_closeSentence 55 = .ok (.invokevirtual 89, 3) := by decide +kernel
theorem d_Par_closeSentence_58 : decode b_Par_closeSentence 58 = .ok (.return_, 1) := by decide +kernel
abbrev b_Par_fold : ByteArray := prog_6_method_24_code
def y_Par_fold : MethodName := ⟨"ClauseProver$Parser", "fold", "(I)V"⟩
theorem d_Par_fold_0 : decode b_Par_fold 0 = .ok (.iconst 0, 1) := by decide +kernel
theorem d_Par_fold_1 : decode b_Par_fold 1 = .ok (.istore_n 2, 1) := by decide +kernel
theorem d_Par_fold_2 : decode b_Par_fold 2 = .ok (.iload_n 2, 1) := by decide +kernel
theorem d_Par_fold_3 : decode b_Par_fold 3 = .ok (.ldc 57, 2) := by decide +kernel
theorem d_Par_fold_5 : decode b_Par_fold 5 = .ok (.if_icmp .ge 24, 3) := by decide +kernel
theorem d_Par_fold_8 : decode b_Par_fold 8 = .ok (.aload_n 0, 1) := by decide +kernel
theorem d_Par_fold_9 : decode b_Par_fold 9 = .ok (.invokevirtual 187, 3) := by decide +kernel
theorem d_Par_fold_12 : decode b_Par_fold 12 = .ok (.invokestatic 166, 3) := by decide +kernel
theorem d_Par_fold_15 : decode b_Par_fold 15 = .ok (.iload_n 1, 1) := by decide +kernel
theorem d_Par_fold_16 : decode b_Par_fold 16 = .ok (.if_icmp .lt 13, 3) := by decide +kernel
theorem d_Par_fold_19 : decode b_Par_fold 19 = .ok (.aload_n 0, 1) := by decide +kernel
theorem d_Par_fold_20 : decode b_Par_fold 20 = .ok (.invokevirtual 190, 3) := by decide +kernel
theorem d_Par_fold_23 : decode b_Par_fold 23 = .ok (.iinc 2 1, 3) := by decide +kernel
theorem d_Par_fold_26 : decode b_Par_fold 26 = .ok (.goto (-24), 3) := by decide +kernel
theorem d_Par_fold_29 : decode b_Par_fold 29 = .ok (.return_, 1) := by decide +kernel
abbrev b_Par_foldTop : ByteArray := prog_6_method_25_code
def y_Par_foldTop : MethodName := ⟨"ClauseProver$Parser", "foldTop", "()V"⟩
theorem d_Par_foldTop_0 : decode b_Par_foldTop 0 = .ok (.aload_n 0, 1) := by decide +kernel
theorem d_Par_foldTop_1 : decode b_Par_foldTop 1 = .ok (.invokevirtual 187, 3) := by decide +kernel
theorem d_Par_foldTop_4 : decode b_Par_foldTop 4 = .ok (.istore_n 1, 1) := by decide +kernel
theorem d_Par_foldTop_5 : decode b_Par_foldTop 5 = .ok (.aload_n 0, 1) := by decide +kernel
theorem d_Par_foldTop_6 : decode b_Par_foldTop 6 = .ok (.getfield 30, 3) := by decide +kernel
theorem d_Par_foldTop_9 : decode b_Par_foldTop 9 = .ok (.getfield 181, 3) := by decide +kernel
theorem d_Par_foldTop_12 : decode b_Par_foldTop 12 = .ok (.aload_n 0, 1) := by decide +kernel
theorem d_Par_foldTop_13 : decode b_Par_foldTop 13 = .ok (.getfield 30, 3) := by decide +kernel
theorem d_Par_foldTop_16 : decode b_Par_foldTop 16 = .ok (.getfield 83, 3) := by decide +kernel
theorem d_Par_foldTop_19 : decode b_Par_foldTop 19 = .ok (.iconst 1, 1) := by decide +kernel
theorem d_Par_foldTop_20 : decode b_Par_foldTop 20 = .ok (.isub, 1) := by decide +kernel
theorem d_Par_foldTop_21 : decode b_Par_foldTop 21 = .ok (.iaload, 1) := by decide +kernel
theorem d_Par_foldTop_22 : decode b_Par_foldTop 22 = .ok (.istore_n 2, 1) := by decide +kernel
theorem d_Par_foldTop_23 : decode b_Par_foldTop 23 = .ok (.iload_n 1, 1) := by decide +kernel
theorem d_Par_foldTop_24 : decode b_Par_foldTop 24 = .ok (.bipush 11, 2) := by decide +kernel
theorem d_Par_foldTop_26 : decode b_Par_foldTop 26 = .ok (.if_icmp .ne 18, 3) := by decide +kernel
theorem d_Par_foldTop_29 : decode b_Par_foldTop 29 = .ok (.aload_n 0, 1) := by decide +kernel
theorem d_Par_foldTop_30 : decode b_Par_foldTop 30 = .ok (.getfield 37, 3) := by decide +kernel
theorem d_Par_foldTop_33 : decode b_Par_foldTop 33 = .ok (.bipush 11, 2) := by decide +kernel
theorem d_Par_foldTop_35 : decode b_Par_foldTop 35 = .ok (.iload_n 2, 1) := by decide +kernel
theorem d_Par_foldTop_36 : decode b_Par_foldTop 36 = .ok (.iconst (-1), 1) := by decide +kernel
theorem d_Par_foldTop_37 : decode b_Par_foldTop 37 = .ok (.invokevirtual 141, 3) := by decide +kernel
theorem d_Par_foldTop_40 : decode b_Par_foldTop 40 = .ok (.istore_n 2, 1) := by decide +kernel
theorem d_Par_foldTop_41 : decode b_Par_foldTop 41 = .ok (.goto 133, 3) := by decide +kernel
theorem d_Par_foldTop_44 : decode b_Par_foldTop 44 = .ok (.iload_n 1, 1) := by decide +kernel
theorem d_Par_foldTop_45 : decode b_Par_foldTop 45 = .ok (.bipush 12, 2) := by decide +kernel
theorem d_Par_foldTop_47 : decode b_Par_foldTop 47 = .ok (.if_icmp .eq 9, 3) := by decide +kernel
theorem d_Par_foldTop_50 : decode b_Par_foldTop 50 = .ok (.iload_n 1, 1) := by decide +kernel
theorem d_Par_foldTop_51 : decode b_Par_foldTop 51 = .ok (.bipush 13, 2) := by decide +kernel
theorem d_Par_foldTop_53 : decode b_Par_foldTop 53 = .ok (.if_icmp .ne 81, 3) := by decide +kernel
theorem d_Par_foldTop_56 : decode b_Par_foldTop 56 = .ok (.aload_n 0, 1) := by decide +kernel
theorem d_Par_foldTop_57 : decode b_Par_foldTop 57 = .ok (.getfield 37, 3) := by decide +kernel
theorem d_Par_foldTop_60 : decode b_Par_foldTop 60 = .ok (.getfield 196, 3) := by decide +kernel
theorem d_Par_foldTop_63 : decode b_Par_foldTop 63 = .ok (.istore_n 3, 1) := by decide +kernel
theorem d_Par_foldTop_64 : decode b_Par_foldTop 64 = .ok (.iconst 0, 1) := by decide +kernel
theorem d_Par_foldTop_65 : decode b_Par_foldTop 65 = .ok (.istore 4, 2) := by decide +kernel
theorem d_Par_foldTop_67 : decode b_Par_foldTop 67 = .ok (.iload 4, 2) := by decide +kernel
theorem d_Par_foldTop_69 : decode b_Par_foldTop 69 = .ok (.sipush 300, 3) := by decide +kernel
theorem d_Par_foldTop_72 : decode b_Par_foldTop 72 = .ok (.if_icmp .ge 51, 3) := by decide +kernel
theorem d_Par_foldTop_75 : decode b_Par_foldTop 75 = .ok (.iload_n 3, 1) := by decide +kernel
theorem d_Par_foldTop_76 : decode b_Par_foldTop 76 = .ok (.aload_n 0, 1) := by decide +kernel
theorem d_Par_foldTop_77 : decode b_Par_foldTop 77 = .ok (.getfield 27, 3) := by decide +kernel
theorem d_Par_foldTop_80 : decode b_Par_foldTop 80 = .ok (.getfield 181, 3) := by decide +kernel
theorem d_Par_foldTop_83 : decode b_Par_foldTop 83 = .ok (.aload_n 0, 1) := by decide +kernel
theorem d_Par_foldTop_84 : decode b_Par_foldTop 84 = .ok (.getfield 27, 3) := by decide +kernel
theorem d_Par_foldTop_87 : decode b_Par_foldTop 87 = .ok (.getfield 83, 3) := by decide +kernel
theorem d_Par_foldTop_90 : decode b_Par_foldTop 90 = .ok (.iconst 1, 1) := by decide +kernel
theorem d_Par_foldTop_91 : decode b_Par_foldTop 91 = .ok (.isub, 1) := by decide +kernel
theorem d_Par_foldTop_92 : decode b_Par_foldTop 92 = .ok (.iaload, 1) := by decide +kernel
theorem d_Par_foldTop_93 : decode b_Par_foldTop 93 = .ok (.if_icmp .lt 30, 3) := by decide +kernel
theorem d_Par_foldTop_96 : decode b_Par_foldTop 96 = .ok (.aload_n 0, 1) := by decide +kernel
theorem d_Par_foldTop_97 : decode b_Par_foldTop 97 = .ok (.getfield 37, 3) := by decide +kernel
theorem d_Par_foldTop_100 : decode b_Par_foldTop 100 = .ok (.iload_n 1, 1) := by decide +kernel
theorem d_Par_foldTop_101 : decode b_Par_foldTop 101 = .ok (.iload_n 2, 1) := by decide +kernel
theorem d_Par_foldTop_102 : decode b_Par_foldTop 102 = .ok (.iload_n 3, 1) := by decide +kernel
theorem d_Par_foldTop_103 : decode b_Par_foldTop 103 = .ok (.invokevirtual 141, 3) := by decide +kernel
theorem d_Par_foldTop_106 : decode b_Par_foldTop 106 = .ok (.istore_n 2, 1) := by decide +kernel
theorem d_Par_foldTop_107 : decode b_Par_foldTop 107 = .ok (.aload_n 0, 1) := by decide +kernel
theorem d_Par_foldTop_108 : decode b_Par_foldTop 108 = .ok (.getfield 37, 3) := by decide +kernel
theorem d_Par_foldTop_111 : decode b_Par_foldTop 111 = .ok (.getfield 199, 3) := by decide +kernel
theorem d_Par_foldTop_114 : decode b_Par_foldTop 114 = .ok (.iload_n 3, 1) := by decide +kernel
theorem d_Par_foldTop_115 : decode b_Par_foldTop 115 = .ok (.iaload, 1) := by decide +kernel
theorem d_Par_foldTop_116 : decode b_Par_foldTop 116 = .ok (.istore_n 3, 1) := by decide +kernel
theorem d_Par_foldTop_117 : decode b_Par_foldTop 117 = .ok (.iinc 4 1, 3) := by decide +kernel
theorem d_Par_foldTop_120 : decode b_Par_foldTop 120 = .ok (.goto (-53), 3) := by decide +kernel
theorem d_Par_foldTop_123 : decode b_Par_foldTop 123 = .ok (.aload_n 0, 1) := by decide +kernel
theorem d_Par_foldTop_124 : decode b_Par_foldTop 124 = .ok (.getfield 37, 3) := by decide +kernel
theorem d_Par_foldTop_127 : decode b_Par_foldTop 127 = .ok (.iload_n 3, 1) := by decide +kernel
theorem d_Par_foldTop_128 : decode b_Par_foldTop 128 = .ok (.putfield 196, 3) := by decide +kernel
theorem d_Par_foldTop_131 : decode b_Par_foldTop 131 = .ok (.goto 43, 3) := by decide +kernel
theorem d_Par_foldTop_134 : decode b_Par_foldTop 134 = .ok (.aload_n 0, 1) := by decide +kernel
theorem d_Par_foldTop_135 : decode b_Par_foldTop 135 = .ok (.getfield 30, 3) := by decide +kernel
theorem d_Par_foldTop_138 : decode b_Par_foldTop 138 = .ok (.dup, 1) := by decide +kernel
theorem d_Par_foldTop_139 : decode b_Par_foldTop 139 = .ok (.getfield 83, 3) := by decide +kernel
theorem d_Par_foldTop_142 : decode b_Par_foldTop 142 = .ok (.iconst 1, 1) := by decide +kernel
theorem d_Par_foldTop_143 : decode b_Par_foldTop 143 = .ok (.isub, 1) := by decide +kernel
theorem d_Par_foldTop_144 : decode b_Par_foldTop 144 = .ok (.putfield 83, 3) := by decide +kernel
theorem d_Par_foldTop_147 : decode b_Par_foldTop 147 = .ok (.aload_n 0, 1) := by decide +kernel
theorem d_Par_foldTop_148 : decode b_Par_foldTop 148 = .ok (.getfield 37, 3) := by decide +kernel
theorem d_Par_foldTop_151 : decode b_Par_foldTop 151 = .ok (.iload_n 1, 1) := by decide +kernel
theorem d_Par_foldTop_152 : decode b_Par_foldTop 152 = .ok (.aload_n 0, 1) := by decide +kernel
theorem d_Par_foldTop_153 : decode b_Par_foldTop 153 = .ok (.getfield 30, 3) := by decide +kernel
theorem d_Par_foldTop_156 : decode b_Par_foldTop 156 = .ok (.getfield 181, 3) := by decide +kernel
theorem d_Par_foldTop_159 : decode b_Par_foldTop 159 = .ok (.aload_n 0, 1) := by decide +kernel
theorem d_Par_foldTop_160 : decode b_Par_foldTop 160 = .ok (.getfield 30, 3) := by decide +kernel
theorem d_Par_foldTop_163 : decode b_Par_foldTop 163 = .ok (.getfield 83, 3) := by decide +kernel
theorem d_Par_foldTop_166 : decode b_Par_foldTop 166 = .ok (.iconst 1, 1) := by decide +kernel
theorem d_Par_foldTop_167 : decode b_Par_foldTop 167 = .ok (.isub, 1) := by decide +kernel
theorem d_Par_foldTop_168 : decode b_Par_foldTop 168 = .ok (.iaload, 1) := by decide +kernel
theorem d_Par_foldTop_169 : decode b_Par_foldTop 169 = .ok (.iload_n 2, 1) := by decide +kernel
theorem d_Par_foldTop_170 : decode b_Par_foldTop 170 = .ok (.invokevirtual 141, 3) := by decide +kernel
theorem d_Par_foldTop_173 : decode b_Par_foldTop 173 = .ok (.istore_n 2, 1) := by decide +kernel
theorem d_Par_foldTop_174 : decode b_Par_foldTop 174 = .ok (.aload_n 0, 1) := by decide +kernel
theorem d_Par_foldTop_175 : decode b_Par_foldTop 175 = .ok (.getfield 30, 3) := by decide +kernel
theorem d_Par_foldTop_178 : decode b_Par_foldTop 178 = .ok (.getfield 181, 3) := by decide +kernel
theorem d_Par_foldTop_181 : decode b_Par_foldTop 181 = .ok (.aload_n 0, 1) := by decide +kernel
theorem d_Par_foldTop_182 : decode b_Par_foldTop 182 = .ok (.getfield 30, 3) := by decide +kernel
theorem d_Par_foldTop_185 : decode b_Par_foldTop 185 = .ok (.getfield 83, 3) := by decide +kernel
theorem d_Par_foldTop_188 : decode b_Par_foldTop 188 = .ok (.iconst 1, 1) := by decide +kernel
theorem d_Par_foldTop_189 : decode b_Par_foldTop 189 = .ok (.isub, 1) := by decide +kernel
theorem d_Par_foldTop_190 : decode b_Par_foldTop 190 = .ok (.iload_n 2, 1) := by decide +kernel
theorem d_Par_foldTop_191 : decode b_Par_foldTop 191 = .ok (.iastore, 1) := by decide +kernel
theorem d_Par_foldTop_192 : decode b_Par_foldTop 192 = .ok (.aload_n 0, 1) := by decide +kernel
theorem d_Par_foldTop_193 : decode b_Par_foldTop 193 = .ok (.invokevirtual 178, 3) := by decide +kernel
theorem d_Par_foldTop_196 : decode b_Par_foldTop 196 = .ok (.return_, 1) := by decide +kernel
abbrev b_Par_mayBeEquivalent : ByteArray := prog_6_method_18_code
def y_Par_mayBeEquivalent : MethodName := ⟨"ClauseProver$Parser", "mayBeEquivalent", "()Z"⟩
theorem d_Par_mayBeEquivalent_0 : decode b_Par_mayBeEquivalent 0 = .ok (.aload_n 0, 1) := by decide +kernel
theorem d_Par_mayBeEquivalent_1 : decode b_Par_mayBeEquivalent 1 = .ok (.bipush 16, 2) := by decide +kernel
theorem d_Par_mayBeEquivalent_3 : decode b_Par_mayBeEquivalent 3 = .ok (.invokestatic 166, 3) := by decide +kernel
theorem d_Par_mayBeEquivalent_6 : decode b_Par_mayBeEquivalent 6 = .ok (.invokevirtual 169, 3) := by decide +kernel
theorem d_Par_mayBeEquivalent_9 : decode b_Par_mayBeEquivalent 9 = .ok (.iconst 0, 1) := by decide +kernel
theorem d_Par_mayBeEquivalent_10 : decode b_Par_mayBeEquivalent 10 = .ok (.istore_n 1, 1) := by decide +kernel
theorem d_Par_mayBeEquivalent_11 : decode b_Par_mayBeEquivalent 11 = .ok (.iload_n 1, 1) := by decide +kernel
theorem d_Par_mayBeEquivalent_12 : decode b_Par_mayBeEquivalent 12 = .ok (.ldc 57, 2) := by decide +kernel
theorem d_Par_mayBeEquivalent_14 : decode b_Par_mayBeEquivalent 14 = .ok (.if_icmp .ge 55, 3) := by decide +kernel
theorem d_Par_mayBeEquivalent_17 : decode b_Par_mayBeEquivalent 17 = .ok (.aload_n 0, 1) := by decide +kernel
theorem d_Par_mayBeEquivalent_18 : decode b_Par_mayBeEquivalent 18 = .ok (.invokevirtual 187, 3) := by decide +kernel
theorem d_Par_mayBeEquivalent_21 : decode b_Par_mayBeEquivalent 21 = .ok (.bipush 17, 2) := by decide +kernel
theorem d_Par_mayBeEquivalent_23 : decode b_Par_mayBeEquivalent 23 = .ok (.if_icmp .ne 46, 3) := by decide +kernel
theorem d_Par_mayBeEquivalent_26 : decode b_Par_mayBeEquivalent 26 = .ok (.aload_n 0, 1) := by decide +kernel
theorem d_Par_mayBeEquivalent_27 : decode b_Par_mayBeEquivalent 27 = .ok (.invokevirtual 190, 3) := by decide +kernel
theorem d_Par_mayBeEquivalent_30 : decode b_Par_mayBeEquivalent 30 = .ok (.aload_n 0, 1) := by decide +kernel
theorem d_Par_mayBeEquivalent_31 : decode b_Par_mayBeEquivalent 31 = .ok (.invokevirtual 187, 3) := by decide +kernel
theorem d_Par_mayBeEquivalent_34 : decode b_Par_mayBeEquivalent 34 = .ok (.bipush 12, 2) := by decide +kernel
theorem d_Par_mayBeEquivalent_36 : decode b_Par_mayBeEquivalent 36 = .ok (.if_icmp .eq 14, 3) := by decide +kernel
theorem d_Par_mayBeEquivalent_39 : decode b_Par_mayBeEquivalent 39 = .ok (.aload_n 0, 1) := by decide +kernel
theorem d_Par_mayBeEquivalent_40 : decode b_Par_mayBeEquivalent 40 = .ok (.invokevirtual 187, 3) := by decide +kernel
theorem d_Par_mayBeEquivalent_43 : decode b_Par_mayBeEquivalent 43 = .ok (.bipush 13, 2) := by decide +kernel
theorem d_Par_mayBeEquivalent_45 : decode b_Par_mayBeEquivalent 45 = .ok (.if_icmp .eq 5, 3) := by decide +kernel
theorem d_Par_mayBeEquivalent_48 : decode b_Par_mayBeEquivalent 48 = .ok (.iconst 0, 1) := by decide +kernel
theorem d_Par_mayBeEquivalent_49 : decode b_Par_mayBeEquivalent 49 = .ok (.ireturn, 1) := by decide +kernel
theorem d_Par_mayBeEquivalent_50 : decode b_Par_mayBeEquivalent 50 = .ok (.aload_n 0, 1) := by decide +kernel
theorem d_Par_mayBeEquivalent_51 : decode b_Par_mayBeEquivalent 51 = .ok (.invokevirtual 190, 3) := by decide +kernel
theorem d_Par_mayBeEquivalent_54 : decode b_Par_mayBeEquivalent 54 = .ok (.aload_n 0, 1) := by decide +kernel
theorem d_Par_mayBeEquivalent_55 : decode b_Par_mayBeEquivalent 55 = .ok (.bipush 16, 2) := by decide +kernel
theorem d_Par_mayBeEquivalent_57 : decode b_Par_mayBeEquivalent 57 = .ok (.invokestatic 166, 3) := by decide +kernel
theorem d_Par_mayBeEquivalent_60 : decode b_Par_mayBeEquivalent 60 = .ok (.invokevirtual 169, 3) := by decide +kernel
theorem d_Par_mayBeEquivalent_63 : decode b_Par_mayBeEquivalent 63 = .ok (.iinc 1 1, 3) := by decide +kernel
theorem d_Par_mayBeEquivalent_66 : decode b_Par_mayBeEquivalent 66 = .ok (.goto (-55), 3) := by decide +kernel
theorem d_Par_mayBeEquivalent_69 : decode b_Par_mayBeEquivalent 69 = .ok (.iconst 1, 1) := by decide +kernel
theorem d_Par_mayBeEquivalent_70 : decode b_Par_mayBeEquivalent 70 = .ok (.ireturn, 1) := by decide +kernel
abbrev b_Par_openSentence : ByteArray := prog_6_method_3_code
def y_Par_openSentence : MethodName := ⟨"ClauseProver$Parser", "openSentence", "()V"⟩
theorem d_Par_openSentence_0 : decode b_Par_openSentence 0 = .ok (.aload_n 0, 1) := by decide +kernel
theorem d_Par_openSentence_1 : decode b_Par_openSentence 1 = .ok (.getfield 12, 3) := by decide +kernel
theorem d_Par_openSentence_4 : decode b_Par_openSentence 4 = .ok (.invokevirtual 74, 3) := by decide +kernel
theorem d_Par_openSentence_7 : decode b_Par_openSentence 7 = .ok (.istore_n 1, 1) := by decide +kernel
theorem d_Par_openSentence_8 : decode b_Par_openSentence 8 = .ok (.aload_n 0, 1) := by decide +kernel
theorem d_Par_openSentence_9 : decode b_Par_openSentence 9 = .ok (.getfield 37, 3) := by decide +kernel
theorem d_Par_openSentence_12 : decode b_Par_openSentence 12 = .ok (.aload_n 0, 1) := by decide +kernel
theorem d_Par_openSentence_13 : decode b_Par_openSentence 13 = .ok (.getfield 12, 3) := by decide +kernel
theorem d_Par_openSentence_16 : decode b_Par_openSentence 16 = .ok (.getfield 77, 3) := by decide +kernel
theorem d_Par_openSentence_19 : decode b_Par_openSentence 19 = .ok (.iload_n 1, 1) := by decide +kernel
theorem d_Par_openSentence_20 : decode b_Par_openSentence 20 = .ok (.invokevirtual 80, 3) := by decide +kernel
theorem d_Par_openSentence_23 : decode b_Par_openSentence 23 = .ok (.aload_n 0, 1) := by decide +kernel
theorem d_Par_openSentence_24 : decode b_Par_openSentence 24 = .ok (.getfield 23, 3) := by decide +kernel
theorem d_Par_openSentence_27 : decode b_Par_openSentence 27 = .ok (.iconst 0, 1) := by decide +kernel
theorem d_Par_openSentence_28 : decode b_Par_openSentence 28 = .ok (.putfield 83, 3) := by decide +kernel
theorem d_Par_openSentence_31 : decode b_Par_openSentence 31 = .ok (.aload_n 0, 1) := by decide +kernel
theorem d_Par_openSentence_32 : decode b_Par_openSentence 32 = .ok (.getfield 27, 3) := by decide +kernel
theorem d_Par_openSentence_35 : decode b_Par_openSentence 35 = .ok (.iconst 0, 1) := by decide +kernel
theorem d_Par_openSentence_36 : decode b_Par_openSentence 36 = .ok (.putfield 83, 3) := by decide +kernel
theorem d_Par_openSentence_39 : decode b_Par_openSentence 39 = .ok (.aload_n 0, 1) := by decide +kernel
theorem d_Par_openSentence_40 : decode b_Par_openSentence 40 = .ok (.getfield 30, 3) := by decide +kernel
theorem d_Par_openSentence_43 : decode b_Par_openSentence 43 = .ok (.iconst 0, 1) := by decide +kernel
theorem d_Par_openSentence_44 : decode b_Par_openSentence 44 = .ok (.putfield 83, 3) := by decide +kernel
theorem d_Par_openSentence_47 : decode b_Par_openSentence 47 = .ok (.aload_n 0, 1) := by decide +kernel
theorem d_Par_openSentence_48 : decode b_Par_openSentence 48 = .ok (.iconst 0, 1) := by decide +kernel
theorem d_Par_openSentence_49 : decode b_Par_openSentence 49 = .ok (.putfield 86, 3) := by decide +kernel
theorem d_Par_openSentence_52 : decode b_Par_openSentence 52 = .ok (.iload_n 1, 1) := by decide +kernel
theorem d_Par_openSentence_53 : decode b_Par_openSentence 53 = .ok (.ifCond .eq 10, 3) := by decide +kernel
theorem d_Par_openSentence_56 : decode b_Par_openSentence 56 = .ok (.aload_n 0, 1) := by decide +kernel
theorem d_Par_openSentence_57 : decode b_Par_openSentence 57 = .ok (.getfield 12, 3) := by decide +kernel
theorem d_Par_openSentence_60 : decode b_Par_openSentence 60 = .ok (.invokevirtual 89, 3) := by decide +kernel
theorem d_Par_openSentence_63 : decode b_Par_openSentence 63 = .ok (.return_, 1) := by decide +kernel
abbrev b_Par_parse : ByteArray := prog_6_method_2_code
def y_Par_parse : MethodName := ⟨"ClauseProver$Parser", "parse", "([II)V"⟩
theorem d_Par_parse_0 : decode b_Par_parse 0 = .ok (.aload_n 0, 1) := by decide +kernel
theorem d_Par_parse_1 : decode b_Par_parse 1 = .ok (.iconst 0, 1) := by decide +kernel
theorem d_Par_parse_2 : decode b_Par_parse 2 = .ok (.putfield 41, 3) := by decide +kernel
theorem d_Par_parse_5 : decode b_Par_parse 5 = .ok (.aload_n 0, 1) := by decide +kernel
theorem d_Par_parse_6 : decode b_Par_parse 6 = .ok (.iconst 0, 1) := by decide +kernel
theorem d_Par_parse_7 : decode b_Par_parse 7 = .ok (.putfield 45, 3) := by decide +kernel
theorem d_Par_parse_10 : decode b_Par_parse 10 = .ok (.aload_n 0, 1) := by decide +kernel
theorem d_Par_parse_11 : decode b_Par_parse 11 = .ok (.getfield 37, 3) := by decide +kernel
theorem d_Par_parse_14 : decode b_Par_parse 14 = .ok (.invokevirtual 48, 3) := by decide +kernel
theorem d_Par_parse_17 : decode b_Par_parse 17 = .ok (.aload_n 0, 1) := by decide +kernel
theorem d_Par_parse_18 : decode b_Par_parse 18 = .ok (.getfield 12, 3) := by decide +kernel
theorem d_Par_parse_21 : decode b_Par_parse 21 = .ok (.aload_n 1, 1) := by decide +kernel
theorem d_Par_parse_22 : decode b_Par_parse 22 = .ok (.iload_n 2, 1) := by decide +kernel
theorem d_Par_parse_23 : decode b_Par_parse 23 = .ok (.invokevirtual 53, 3) := by decide +kernel
theorem d_Par_parse_26 : decode b_Par_parse 26 = .ok (.iconst 0, 1) := by decide +kernel
theorem d_Par_parse_27 : decode b_Par_parse 27 = .ok (.istore_n 3, 1) := by decide +kernel
theorem d_Par_parse_28 : decode b_Par_parse 28 = .ok (.iload_n 3, 1) := by decide +kernel
theorem d_Par_parse_29 : decode b_Par_parse 29 = .ok (.ldc 57, 2) := by decide +kernel
theorem d_Par_parse_31 : decode b_Par_parse 31 = .ok (.if_icmp .ge 83, 3) := by decide +kernel
theorem d_Par_parse_34 : decode b_Par_parse 34 = .ok (.aload_n 0, 1) := by decide +kernel
theorem d_Par_parse_35 : decode b_Par_parse 35 = .ok (.getfield 41, 3) := by decide +kernel
theorem d_Par_parse_38 : decode b_Par_parse 38 = .ok (.ifCond .ne 76, 3) := by decide +kernel
theorem d_Par_parse_41 : decode b_Par_parse 41 = .ok (.aload_n 0, 1) := by decide +kernel
theorem d_Par_parse_42 : decode b_Par_parse 42 = .ok (.getfield 12, 3) := by decide +kernel
theorem d_Par_parse_45 : decode b_Par_parse 45 = .ok (.getfield 58, 3) := by decide +kernel
theorem d_Par_parse_48 : decode b_Par_parse 48 = .ok (.ifCond .eq 66, 3) := by decide +kernel
theorem d_Par_parse_51 : decode b_Par_parse 51 = .ok (.aload_n 0, 1) := by decide +kernel
theorem d_Par_parse_52 : decode b_Par_parse 52 = .ok (.invokevirtual 61, 3) := by decide +kernel
theorem d_Par_parse_55 : decode b_Par_parse 55 = .ok (.iconst 1, 1) := by decide +kernel
theorem d_Par_parse_56 : decode b_Par_parse 56 = .ok (.istore 4, 2) := by decide +kernel
theorem d_Par_parse_58 : decode b_Par_parse 58 = .ok (.iconst 0, 1) := by decide +kernel
theorem d_Par_parse_59 : decode b_Par_parse 59 = .ok (.istore 5, 2) := by decide +kernel
theorem d_Par_parse_61 : decode b_Par_parse 61 = .ok (.iload 5, 2) := by decide +kernel
theorem d_Par_parse_63 : decode b_Par_parse 63 = .ok (.ldc 57, 2) := by decide +kernel
theorem d_Par_parse_65 : decode b_Par_parse 65 = .ok (.if_icmp .ge 43, 3) := by decide +kernel
theorem d_Par_parse_68 : decode b_Par_parse 68 = .ok (.iload 4, 2) := by decide +kernel
theorem d_Par_parse_70 : decode b_Par_parse 70 = .ok (.ifCond .eq 38, 3) := by decide +kernel
theorem d_Par_parse_73 : decode b_Par_parse 73 = .ok (.aload_n 0, 1) := by decide +kernel
theorem d_Par_parse_74 : decode b_Par_parse 74 = .ok (.invokevirtual 64, 3) := by decide +kernel
theorem d_Par_parse_77 : decode b_Par_parse 77 = .ok (.aload_n 0, 1) := by decide +kernel
theorem d_Par_parse_78 : decode b_Par_parse 78 = .ok (.invokevirtual 67, 3) := by decide +kernel
theorem d_Par_parse_81 : decode b_Par_parse 81 = .ok (.aload_n 0, 1) := by decide +kernel
theorem d_Par_parse_82 : decode b_Par_parse 82 = .ok (.getfield 41, 3) := by decide +kernel
theorem d_Par_parse_85 : decode b_Par_parse 85 = .ok (.ifCond .ne 14, 3) := by decide +kernel
theorem d_Par_parse_88 : decode b_Par_parse 88 = .ok (.aload_n 0, 1) := by decide +kernel
theorem d_Par_parse_89 : decode b_Par_parse 89 = .ok (.invokevirtual 70, 3) := by decide +kernel
theorem d_Par_parse_92 : decode b_Par_parse 92 = .ok (.ifCond .eq 7, 3) := by decide +kernel
theorem d_Par_parse_95 : decode b_Par_parse 95 = .ok (.iconst 1, 1) := by decide +kernel
theorem d_Par_parse_96 : decode b_Par_parse 96 = .ok (.goto 4, 3) := by decide +kernel
theorem d_Par_parse_99 : decode b_Par_parse 99 = .ok (.iconst 0, 1) := by decide +kernel
theorem d_Par_parse_100 : decode b_Par_parse 100 = .ok (.istore 4, 2) := by decide +kernel
theorem d_Par_parse_102 : decode b_Par_parse 102 = .ok (.iinc 5 1, 3) := by decide +kernel
theorem d_Par_parse_105 : decode b_Par_parse 105 = .ok (.goto (-44), 3) := by decide +kernel
theorem d_Par_parse_108 : decode b_Par_parse 108 = .ok (.iinc 3 1, 3) := by decide +kernel
theorem d_Par_parse_111 : decode b_Par_parse 111 = .ok (.goto (-83), 3) := by decide +kernel
theorem d_Par_parse_114 : decode b_Par_parse 114 = .ok (.return_, 1) := by decide +kernel
abbrev b_Par_push : ByteArray := prog_6_method_22_code
def y_Par_push : MethodName := ⟨"ClauseProver$Parser", "push", "(II)V"⟩
theorem d_Par_push_0 : decode b_Par_push 0 = .ok (.aload_n 0, 1) := by decide +kernel
theorem d_Par_push_1 : decode b_Par_push 1 = .ok (.getfield 23, 3) := by decide +kernel
theorem d_Par_push_4 : decode b_Par_push 4 = .ok (.iload_n 1, 1) := by decide +kernel
theorem d_Par_push_5 : decode b_Par_push 5 = .ok (.invokevirtual 145, 3) := by decide +kernel
theorem d_Par_push_8 : decode b_Par_push 8 = .ok (.aload_n 0, 1) := by decide +kernel
theorem d_Par_push_9 : decode b_Par_push 9 = .ok (.getfield 27, 3) := by decide +kernel
theorem d_Par_push_12 : decode b_Par_push 12 = .ok (.iload_n 2, 1) := by decide +kernel
theorem d_Par_push_13 : decode b_Par_push 13 = .ok (.invokevirtual 145, 3) := by decide +kernel
theorem d_Par_push_16 : decode b_Par_push 16 = .ok (.aload_n 0, 1) := by decide +kernel
theorem d_Par_push_17 : decode b_Par_push 17 = .ok (.dup, 1) := by decide +kernel
theorem d_Par_push_18 : decode b_Par_push 18 = .ok (.getfield 86, 3) := by decide +kernel
theorem d_Par_push_21 : decode b_Par_push 21 = .ok (.iload_n 1, 1) := by decide +kernel
theorem d_Par_push_22 : decode b_Par_push 22 = .ok (.invokestatic 193, 3) := by decide +kernel
theorem d_Par_push_25 : decode b_Par_push 25 = .ok (.ifCond .eq 7, 3) := by decide +kernel
theorem d_Par_push_28 : decode b_Par_push 28 = .ok (.iconst 1, 1) := by decide +kernel
theorem d_Par_push_29 : decode b_Par_push 29 = .ok (.goto 4, 3) := by decide +kernel
theorem d_Par_push_32 : decode b_Par_push 32 = .ok (.iconst 0, 1) := by decide +kernel
theorem d_Par_push_33 : decode b_Par_push 33 = .ok (.iadd, 1) := by decide +kernel
theorem d_Par_push_34 : decode b_Par_push 34 = .ok (.putfield 86, 3) := by decide +kernel
theorem d_Par_push_37 : decode b_Par_push 37 = .ok (.return_, 1) := by decide +kernel
abbrev b_Par_takeAtom : ByteArray := prog_6_method_8_code
def y_Par_takeAtom : MethodName := ⟨"ClauseProver$Parser", "takeAtom", "()V"⟩
theorem d_Par_takeAtom_0 : decode b_Par_takeAtom 0 = .ok (.aload_n 0, 1) := by decide +kernel
theorem d_Par_takeAtom_1 : decode b_Par_takeAtom 1 = .ok (.getfield 41, 3) := by decide +kernel
theorem d_Par_takeAtom_4 : decode b_Par_takeAtom 4 = .ok (.ifCond .eq 4, 3) := by decide +kernel
theorem d_Par_takeAtom_7 : decode b_Par_takeAtom 7 = .ok (.return_, 1) := by decide +kernel
theorem d_Par_takeAtom_8 : decode b_Par_takeAtom 8 = .ok (.aload_n 0, 1) := by decide +kernel
theorem d_Par_takeAtom_9 : decode b_Par_takeAtom 9 = .ok (.getfield 12, 3) := by decide +kernel
theorem d_Par_takeAtom_12 : decode b_Par_takeAtom 12 = .ok (.getfield 77, 3) := by decide +kernel
theorem d_Par_takeAtom_15 : decode b_Par_takeAtom 15 = .ok (.istore_n 1, 1) := by decide +kernel
theorem d_Par_takeAtom_16 : decode b_Par_takeAtom 16 = .ok (.aload_n 0, 1) := by decide +kernel
theorem d_Par_takeAtom_17 : decode b_Par_takeAtom 17 = .ok (.getfield 37, 3) := by decide +kernel
theorem d_Par_takeAtom_20 : decode b_Par_takeAtom 20 = .ok (.getfield 120, 3) := by decide +kernel
theorem d_Par_takeAtom_23 : decode b_Par_takeAtom 23 = .ok (.getfield 83, 3) := by decide +kernel
theorem d_Par_takeAtom_26 : decode b_Par_takeAtom 26 = .ok (.istore_n 2, 1) := by decide +kernel
theorem d_Par_takeAtom_27 : decode b_Par_takeAtom 27 = .ok (.aload_n 0, 1) := by decide +kernel
theorem d_Par_takeAtom_28 : decode b_Par_takeAtom 28 = .ok (.getfield 12, 3) := by decide +kernel
theorem d_Par_takeAtom_31 : decode b_Par_takeAtom 31 = .ok (.iconst 3, 1) := by decide +kernel
theorem d_Par_takeAtom_32 : decode b_Par_takeAtom 32 = .ok (.invokevirtual 100, 3) := by decide +kernel
theorem d_Par_takeAtom_35 : decode b_Par_takeAtom 35 = .ok (.ifCond .eq 13, 3) := by decide +kernel
theorem d_Par_takeAtom_38 : decode b_Par_takeAtom 38 = .ok (.aload_n 0, 1) := by decide +kernel
theorem d_Par_takeAtom_39 : decode b_Par_takeAtom 39 = .ok (.invokevirtual 123, 3) := by decide +kernel
theorem d_Par_takeAtom_42 : decode b_Par_takeAtom 42 = .ok (.aload_n 0, 1) := by decide +kernel
theorem d_Par_takeAtom_43 : decode b_Par_takeAtom 43 = .ok (.iload_n 2, 1) := by decide +kernel
theorem d_Par_takeAtom_44 : decode b_Par_takeAtom 44 = .ok (.invokevirtual 126, 3) := by decide +kernel
theorem d_Par_takeAtom_47 : decode b_Par_takeAtom 47 = .ok (.return_, 1) := by decide +kernel
theorem d_Par_takeAtom_48 : decode b_Par_takeAtom 48 = .ok (.aload_n 0, 1) := by decide +kernel
theorem d_Par_takeAtom_49 : decode b_Par_takeAtom 49 = .ok (.invokevirtual 129, 3) := by decide +kernel
theorem d_Par_takeAtom_52 : decode b_Par_takeAtom 52 = .ok (.istore_n 3, 1) := by decide +kernel
theorem d_Par_takeAtom_53 : decode b_Par_takeAtom 53 = .ok (.aload_n 0, 1) := by decide +kernel
theorem d_Par_takeAtom_54 : decode b_Par_takeAtom 54 = .ok (.aload_n 0, 1) := by decide +kernel
theorem d_Par_takeAtom_55 : decode b_Par_takeAtom 55 = .ok (.getfield 86, 3) := by decide +kernel
theorem d_Par_takeAtom_58 : decode b_Par_takeAtom 58 = .ok (.invokevirtual 133, 3) := by decide +kernel
theorem d_Par_takeAtom_61 : decode b_Par_takeAtom 61 = .ok (.istore 4, 2) := by decide +kernel
theorem d_Par_takeAtom_63 : decode b_Par_takeAtom 63 = .ok (.aload_n 0, 1) := by decide +kernel
theorem d_Par_takeAtom_64 : decode b_Par_takeAtom 64 = .ok (.getfield 41, 3) := by decide +kernel
theorem d_Par_takeAtom_67 : decode b_Par_takeAtom 67 = .ok (.ifCond .eq 4, 3) := by decide +kernel
theorem d_Par_takeAtom_70 : decode b_Par_takeAtom 70 = .ok (.return_, 1) := by decide +kernel
theorem d_Par_takeAtom_71 : decode b_Par_takeAtom 71 = .ok (.aload_n 0, 1) := by decide +kernel
theorem d_Par_takeAtom_72 : decode b_Par_takeAtom 72 = .ok (.getfield 12, 3) := by decide +kernel
theorem d_Par_takeAtom_75 : decode b_Par_takeAtom 75 = .ok (.getfield 58, 3) := by decide +kernel
theorem d_Par_takeAtom_78 : decode b_Par_takeAtom 78 = .ok (.bipush 9, 2) := by decide +kernel
theorem d_Par_takeAtom_80 : decode b_Par_takeAtom 80 = .ok (.if_icmp .eq 15, 3) := by decide +kernel
theorem d_Par_takeAtom_83 : decode b_Par_takeAtom 83 = .ok (.aload_n 0, 1) := by decide +kernel
theorem d_Par_takeAtom_84 : decode b_Par_takeAtom 84 = .ok (.getfield 12, 3) := by decide +kernel
theorem d_Par_takeAtom_87 : decode b_Par_takeAtom 87 = .ok (.getfield 58, 3) := by decide +kernel
theorem d_Par_takeAtom_90 : decode b_Par_takeAtom 90 = .ok (.bipush 10, 2) := by decide +kernel
theorem d_Par_takeAtom_92 : decode b_Par_takeAtom 92 = .ok (.if_icmp .ne 7, 3) := by decide +kernel
theorem d_Par_takeAtom_95 : decode b_Par_takeAtom 95 = .ok (.iconst 1, 1) := by decide +kernel
theorem d_Par_takeAtom_96 : decode b_Par_takeAtom 96 = .ok (.goto 4, 3) := by decide +kernel
theorem d_Par_takeAtom_99 : decode b_Par_takeAtom 99 = .ok (.iconst 0, 1) := by decide +kernel
theorem d_Par_takeAtom_100 : decode b_Par_takeAtom 100 = .ok (.istore 5, 2) := by decide +kernel
theorem d_Par_takeAtom_102 : decode b_Par_takeAtom 102 = .ok (.aload_n 0, 1) := by decide +kernel
theorem d_Par_takeAtom_103 : decode b_Par_takeAtom 103 = .ok (.iload_n 3, 1) := by decide +kernel
theorem d_Par_takeAtom_104 : decode b_Par_takeAtom 104 = .ok (.iload 5, 2) := by decide +kernel
theorem d_Par_takeAtom_106 : decode b_Par_takeAtom 106 = .ok (.ifCond .eq 7, 3) := by decide +kernel
theorem d_Par_takeAtom_109 : decode b_Par_takeAtom 109 = .ok (.iconst 2, 1) := by decide +kernel
theorem d_Par_takeAtom_110 : decode b_Par_takeAtom 110 = .ok (.goto 4, 3) := by decide +kernel
theorem d_Par_takeAtom_113 : decode b_Par_takeAtom 113 = .ok (.iconst 1, 1) := by decide +kernel
theorem d_Par_takeAtom_114 : decode b_Par_takeAtom 114 = .ok (.iload 4, 2) := by decide +kernel
theorem d_Par_takeAtom_116 : decode b_Par_takeAtom 116 = .ok (.iload_n 1, 1) := by decide +kernel
theorem d_Par_takeAtom_117 : decode b_Par_takeAtom 117 = .ok (.invokevirtual 137, 3) := by decide +kernel
theorem d_Par_takeAtom_120 : decode b_Par_takeAtom 120 = .ok (.iload 5, 2) := by decide +kernel
theorem d_Par_takeAtom_122 : decode b_Par_takeAtom 122 = .ok (.ifCond .eq 11, 3) := by decide +kernel
theorem d_Par_takeAtom_125 : decode b_Par_takeAtom 125 = .ok (.aload_n 0, 1) := by decide +kernel
theorem d_Par_takeAtom_126 : decode b_Par_takeAtom 126 = .ok (.iload_n 2, 1) := by decide +kernel
theorem d_Par_takeAtom_127 : decode b_Par_takeAtom 127 = .ok (.invokevirtual 126, 3) := by decide +kernel
theorem d_Par_takeAtom_130 : decode b_Par_takeAtom 130 = .ok (.goto 21, 3) := by decide +kernel
theorem d_Par_takeAtom_133 : decode b_Par_takeAtom 133 = .ok (.aload_n 0, 1) := by decide +kernel
theorem d_Par_takeAtom_134 : decode b_Par_takeAtom 134 = .ok (.getfield 30, 3) := by decide +kernel
theorem d_Par_takeAtom_137 : decode b_Par_takeAtom 137 = .ok (.aload_n 0, 1) := by decide +kernel
theorem d_Par_takeAtom_138 : decode b_Par_takeAtom 138 = .ok (.getfield 37, 3) := by decide +kernel
theorem d_Par_takeAtom_141 : decode b_Par_takeAtom 141 = .ok (.bipush 9, 2) := by decide +kernel
theorem d_Par_takeAtom_143 : decode b_Par_takeAtom 143 = .ok (.iload_n 2, 1) := by decide +kernel
theorem d_Par_takeAtom_144 : decode b_Par_takeAtom 144 = .ok (.iconst (-1), 1) := by decide +kernel
theorem d_Par_takeAtom_145 : decode b_Par_takeAtom 145 = .ok (.invokevirtual 141, 3) := by decide +kernel
theorem d_Par_takeAtom_148 : decode b_Par_takeAtom 148 = .ok (.invokevirtual 145, 3) := by decide +kernel
theorem d_Par_takeAtom_151 : decode b_Par_takeAtom 151 = .ok (.return_, 1) := by decide +kernel
abbrev b_Par_takeBound : ByteArray := prog_6_method_7_code
def y_Par_takeBound : MethodName := ⟨"ClauseProver$Parser", "takeBound", "()V"⟩
theorem d_Par_takeBound_0 : decode b_Par_takeBound 0 = .ok (.aload_n 0, 1) := by decide +kernel
theorem d_Par_takeBound_1 : decode b_Par_takeBound 1 = .ok (.getfield 12, 3) := by decide +kernel
theorem d_Par_takeBound_4 : decode b_Par_takeBound 4 = .ok (.getfield 58, 3) := by decide +kernel
theorem d_Par_takeBound_7 : decode b_Par_takeBound 7 = .ok (.istore_n 1, 1) := by decide +kernel
theorem d_Par_takeBound_8 : decode b_Par_takeBound 8 = .ok (.aload_n 0, 1) := by decide +kernel
theorem d_Par_takeBound_9 : decode b_Par_takeBound 9 = .ok (.getfield 37, 3) := by decide +kernel
theorem d_Par_takeBound_12 : decode b_Par_takeBound 12 = .ok (.getfield 110, 3) := by decide +kernel
theorem d_Par_takeBound_15 : decode b_Par_takeBound 15 = .ok (.istore_n 2, 1) := by decide +kernel
theorem d_Par_takeBound_16 : decode b_Par_takeBound 16 = .ok (.aload_n 0, 1) := by decide +kernel
theorem d_Par_takeBound_17 : decode b_Par_takeBound 17 = .ok (.getfield 12, 3) := by decide +kernel
theorem d_Par_takeBound_20 : decode b_Par_takeBound 20 = .ok (.invokevirtual 89, 3) := by decide +kernel
theorem d_Par_takeBound_23 : decode b_Par_takeBound 23 = .ok (.iconst 0, 1) := by decide +kernel
theorem d_Par_takeBound_24 : decode b_Par_takeBound 24 = .ok (.istore_n 3, 1) := by decide +kernel
theorem d_Par_takeBound_25 : decode b_Par_takeBound 25 = .ok (.iload_n 3, 1) := by decide +kernel
theorem d_Par_takeBound_26 : decode b_Par_takeBound 26 = .ok (.ldc 57, 2) := by decide +kernel
theorem d_Par_takeBound_28 : decode b_Par_takeBound 28 = .ok (.if_icmp .ge 55, 3) := by decide +kernel
theorem d_Par_takeBound_31 : decode b_Par_takeBound 31 = .ok (.aload_n 0, 1) := by decide +kernel
theorem d_Par_takeBound_32 : decode b_Par_takeBound 32 = .ok (.getfield 12, 3) := by decide +kernel
theorem d_Par_takeBound_35 : decode b_Par_takeBound 35 = .ok (.iconst 3, 1) := by decide +kernel
theorem d_Par_takeBound_36 : decode b_Par_takeBound 36 = .ok (.invokevirtual 100, 3) := by decide +kernel
theorem d_Par_takeBound_39 : decode b_Par_takeBound 39 = .ok (.ifCond .eq 44, 3) := by decide +kernel
theorem d_Par_takeBound_42 : decode b_Par_takeBound 42 = .ok (.aload_n 0, 1) := by decide +kernel
theorem d_Par_takeBound_43 : decode b_Par_takeBound 43 = .ok (.getfield 37, 3) := by decide +kernel
theorem d_Par_takeBound_46 : decode b_Par_takeBound 46 = .ok (.aload_n 0, 1) := by decide +kernel
theorem d_Par_takeBound_47 : decode b_Par_takeBound 47 = .ok (.getfield 12, 3) := by decide +kernel
theorem d_Par_takeBound_50 : decode b_Par_takeBound 50 = .ok (.invokevirtual 113, 3) := by decide +kernel
theorem d_Par_takeBound_53 : decode b_Par_takeBound 53 = .ok (.iconst (-1), 1) := by decide +kernel
theorem d_Par_takeBound_54 : decode b_Par_takeBound 54 = .ok (.if_icmp .ne 16, 3) := by decide +kernel
theorem d_Par_takeBound_57 : decode b_Par_takeBound 57 = .ok (.aload_n 0, 1) := by decide +kernel
theorem d_Par_takeBound_58 : decode b_Par_takeBound 58 = .ok (.iconst 3, 1) := by decide +kernel
theorem d_Par_takeBound_59 : decode b_Par_takeBound 59 = .ok (.aload_n 0, 1) := by decide +kernel
theorem d_Par_takeBound_60 : decode b_Par_takeBound 60 = .ok (.getfield 12, 3) := by decide +kernel
theorem d_Par_takeBound_63 : decode b_Par_takeBound 63 = .ok (.getfield 77, 3) := by decide +kernel
theorem d_Par_takeBound_66 : decode b_Par_takeBound 66 = .ok (.invokevirtual 96, 3) := by decide +kernel
theorem d_Par_takeBound_69 : decode b_Par_takeBound 69 = .ok (.return_, 1) := by decide +kernel
theorem d_Par_takeBound_70 : decode b_Par_takeBound 70 = .ok (.aload_n 0, 1) := by decide +kernel
theorem d_Par_takeBound_71 : decode b_Par_takeBound 71 = .ok (.getfield 12, 3) := by decide +kernel
theorem d_Par_takeBound_74 : decode b_Par_takeBound 74 = .ok (.invokevirtual 89, 3) := by decide +kernel
theorem d_Par_takeBound_77 : decode b_Par_takeBound 77 = .ok (.iinc 3 1, 3) := by decide +kernel
theorem d_Par_takeBound_80 : decode b_Par_takeBound 80 = .ok (.goto (-55), 3) := by decide +kernel
theorem d_Par_takeBound_83 : decode b_Par_takeBound 83 = .ok (.aload_n 0, 1) := by decide +kernel
theorem d_Par_takeBound_84 : decode b_Par_takeBound 84 = .ok (.getfield 37, 3) := by decide +kernel
theorem d_Par_takeBound_87 : decode b_Par_takeBound 87 = .ok (.getfield 110, 3) := by decide +kernel
theorem d_Par_takeBound_90 : decode b_Par_takeBound 90 = .ok (.iload_n 2, 1) := by decide +kernel
theorem d_Par_takeBound_91 : decode b_Par_takeBound 91 = .ok (.if_icmp .eq 15, 3) := by decide +kernel
theorem d_Par_takeBound_94 : decode b_Par_takeBound 94 = .ok (.aload_n 0, 1) := by decide +kernel
theorem d_Par_takeBound_95 : decode b_Par_takeBound 95 = .ok (.getfield 12, 3) := by decide +kernel
theorem d_Par_takeBound_98 : decode b_Par_takeBound 98 = .ok (.bipush 8, 2) := by decide +kernel
theorem d_Par_takeBound_100 : decode b_Par_takeBound 100 = .ok (.invokevirtual 100, 3) := by decide +kernel
theorem d_Par_takeBound_103 : decode b_Par_takeBound 103 = .ok (.ifCond .ne 8, 3) := by decide +kernel
theorem d_Par_takeBound_106 : decode b_Par_takeBound 106 = .ok (.aload_n 0, 1) := by decide +kernel
theorem d_Par_takeBound_107 : decode b_Par_takeBound 107 = .ok (.invokevirtual 117, 3) := by decide +kernel
theorem d_Par_takeBound_110 : decode b_Par_takeBound 110 = .ok (.return_, 1) := by decide +kernel
theorem d_Par_takeBound_111 : decode b_Par_takeBound 111 = .ok (.aload_n 0, 1) := by decide +kernel
theorem d_Par_takeBound_112 : decode b_Par_takeBound 112 = .ok (.iload_n 1, 1) := by decide +kernel
theorem d_Par_takeBound_113 : decode b_Par_takeBound 113 = .ok (.iload_n 2, 1) := by decide +kernel
theorem d_Par_takeBound_114 : decode b_Par_takeBound 114 = .ok (.invokevirtual 104, 3) := by decide +kernel
theorem d_Par_takeBound_117 : decode b_Par_takeBound 117 = .ok (.aload_n 0, 1) := by decide +kernel
theorem d_Par_takeBound_118 : decode b_Par_takeBound 118 = .ok (.getfield 12, 3) := by decide +kernel
theorem d_Par_takeBound_121 : decode b_Par_takeBound 121 = .ok (.invokevirtual 89, 3) := by decide +kernel
theorem d_Par_takeBound_124 : decode b_Par_takeBound 124 = .ok (.return_, 1) := by decide +kernel
abbrev b_Par_takeEquation : ByteArray := prog_6_method_9_code
def y_Par_takeEquation : MethodName := ⟨"ClauseProver$Parser", "takeEquation", "(I)V"⟩
theorem d_Par_takeEquation_0 : decode b_Par_takeEquation 0 = .ok (.aload_n 0, 1) := by decide +kernel
theorem d_Par_takeEquation_1 : decode b_Par_takeEquation 1 = .ok (.getfield 12, 3) := by decide +kernel
theorem d_Par_takeEquation_4 : decode b_Par_takeEquation 4 = .ok (.getfield 58, 3) := by decide +kernel
theorem d_Par_takeEquation_7 : decode b_Par_takeEquation 7 = .ok (.istore_n 2, 1) := by decide +kernel
theorem d_Par_takeEquation_8 : decode b_Par_takeEquation 8 = .ok (.aload_n 0, 1) := by decide +kernel
theorem d_Par_takeEquation_9 : decode b_Par_takeEquation 9 = .ok (.getfield 41, 3) := by decide +kernel
theorem d_Par_takeEquation_12 : decode b_Par_takeEquation 12 = .ok (.ifCond .eq 4, 3) := by decide +kernel
theorem d_Par_takeEquation_15 : decode b_Par_takeEquation 15 = .ok (.return_, 1) := by decide +kernel
theorem d_Par_takeEquation_16 : decode b_Par_takeEquation 16 = .ok (.aload_n 0, 1) := by decide +kernel
theorem d_Par_takeEquation_17 : decode b_Par_takeEquation 17 = .ok (.getfield 12, 3) := by decide +kernel
theorem d_Par_takeEquation_20 : decode b_Par_takeEquation 20 = .ok (.bipush 9, 2) := by decide +kernel
theorem d_Par_takeEquation_22 : decode b_Par_takeEquation 22 = .ok (.invokevirtual 100, 3) := by decide +kernel
theorem d_Par_takeEquation_25 : decode b_Par_takeEquation 25 = .ok (.ifCond .ne 20, 3) := by decide +kernel
theorem d_Par_takeEquation_28 : decode b_Par_takeEquation 28 = .ok (.aload_n 0, 1) := by decide +kernel
theorem d_Par_takeEquation_29 : decode b_Par_takeEquation 29 = .ok (.getfield 12, 3) := by decide +kernel
theorem d_Par_takeEquation_32 : decode b_Par_takeEquation 32 = .ok (.bipush 10, 2) := by decide +kernel
theorem d_Par_takeEquation_34 : decode b_Par_takeEquation 34 = .ok (.invokevirtual 100, 3) := by decide +kernel
theorem d_Par_takeEquation_37 : decode b_Par_takeEquation 37 = .ok (.ifCond .ne 8, 3) := by decide +kernel
theorem d_Par_takeEquation_40 : decode b_Par_takeEquation 40 = .ok (.aload_n 0, 1) := by decide +kernel
theorem d_Par_takeEquation_41 : decode b_Par_takeEquation 41 = .ok (.invokevirtual 117, 3) := by decide +kernel
theorem d_Par_takeEquation_44 : decode b_Par_takeEquation 44 = .ok (.return_, 1) := by decide +kernel
theorem d_Par_takeEquation_45 : decode b_Par_takeEquation 45 = .ok (.aload_n 0, 1) := by decide +kernel
theorem d_Par_takeEquation_46 : decode b_Par_takeEquation 46 = .ok (.getfield 12, 3) := by decide +kernel
theorem d_Par_takeEquation_49 : decode b_Par_takeEquation 49 = .ok (.invokevirtual 89, 3) := by decide +kernel
theorem d_Par_takeEquation_52 : decode b_Par_takeEquation 52 = .ok (.aload_n 0, 1) := by decide +kernel
theorem d_Par_takeEquation_53 : decode b_Par_takeEquation 53 = .ok (.getfield 37, 3) := by decide +kernel
theorem d_Par_takeEquation_56 : decode b_Par_takeEquation 56 = .ok (.getfield 120, 3) := by decide +kernel
theorem d_Par_takeEquation_59 : decode b_Par_takeEquation 59 = .ok (.getfield 83, 3) := by decide +kernel
theorem d_Par_takeEquation_62 : decode b_Par_takeEquation 62 = .ok (.istore_n 3, 1) := by decide +kernel
theorem d_Par_takeEquation_63 : decode b_Par_takeEquation 63 = .ok (.aload_n 0, 1) := by decide +kernel
theorem d_Par_takeEquation_64 : decode b_Par_takeEquation 64 = .ok (.aload_n 0, 1) := by decide +kernel
theorem d_Par_takeEquation_65 : decode b_Par_takeEquation 65 = .ok (.getfield 86, 3) := by decide +kernel
theorem d_Par_takeEquation_68 : decode b_Par_takeEquation 68 = .ok (.invokevirtual 148, 3) := by decide +kernel
theorem d_Par_takeEquation_71 : decode b_Par_takeEquation 71 = .ok (.aload_n 0, 1) := by decide +kernel
theorem d_Par_takeEquation_72 : decode b_Par_takeEquation 72 = .ok (.getfield 30, 3) := by decide +kernel
theorem d_Par_takeEquation_75 : decode b_Par_takeEquation 75 = .ok (.aload_n 0, 1) := by decide +kernel
theorem d_Par_takeEquation_76 : decode b_Par_takeEquation 76 = .ok (.getfield 37, 3) := by decide +kernel
theorem d_Par_takeEquation_79 : decode b_Par_takeEquation 79 = .ok (.iload_n 2, 1) := by decide +kernel
theorem d_Par_takeEquation_80 : decode b_Par_takeEquation 80 = .ok (.iload_n 1, 1) := by decide +kernel
theorem d_Par_takeEquation_81 : decode b_Par_takeEquation 81 = .ok (.iload_n 3, 1) := by decide +kernel
theorem d_Par_takeEquation_82 : decode b_Par_takeEquation 82 = .ok (.invokevirtual 141, 3) := by decide +kernel
theorem d_Par_takeEquation_85 : decode b_Par_takeEquation 85 = .ok (.invokevirtual 145, 3) := by decide +kernel
theorem d_Par_takeEquation_88 : decode b_Par_takeEquation 88 = .ok (.return_, 1) := by decide +kernel
abbrev b_Par_takeName : ByteArray := prog_6_method_12_code
def y_Par_takeName : MethodName := ⟨"ClauseProver$Parser", "takeName", "()I"⟩
theorem d_Par_takeName_0 : decode b_Par_takeName 0 = .ok (.aload_n 0, 1) := by decide +kernel
theorem d_Par_takeName_1 : decode b_Par_takeName 1 = .ok (.getfield 12, 3) := by decide +kernel
theorem d_Par_takeName_4 : decode b_Par_takeName 4 = .ok (.iconst 2, 1) := by decide +kernel
theorem d_Par_takeName_5 : decode b_Par_takeName 5 = .ok (.invokevirtual 100, 3) := by decide +kernel
theorem d_Par_takeName_8 : decode b_Par_takeName 8 = .ok (.ifCond .ne 9, 3) := by decide +kernel
theorem d_Par_takeName_11 : decode b_Par_takeName 11 = .ok (.aload_n 0, 1) := by decide +kernel
theorem d_Par_takeName_12 : decode b_Par_takeName 12 = .ok (.invokevirtual 117, 3) := by decide +kernel
theorem d_Par_takeName_15 : decode b_Par_takeName 15 = .ok (.iconst (-1), 1) := by decide +kernel
theorem d_Par_takeName_16 : decode b_Par_takeName 16 = .ok (.ireturn, 1) := by decide +kernel
theorem d_Par_takeName_17 : decode b_Par_takeName 17 = .ok (.aload_n 0, 1) := by decide +kernel
theorem d_Par_takeName_18 : decode b_Par_takeName 18 = .ok (.getfield 33, 3) := by decide +kernel
theorem d_Par_takeName_21 : decode b_Par_takeName 21 = .ok (.aload_n 0, 1) := by decide +kernel
theorem d_Par_takeName_22 : decode b_Par_takeName 22 = .ok (.getfield 12, 3) := by decide +kernel
theorem d_Par_takeName_25 : decode b_Par_takeName 25 = .ok (.invokevirtual 151, 3) := by decide +kernel
theorem d_Par_takeName_28 : decode b_Par_takeName 28 = .ok (.istore_n 1, 1) := by decide +kernel
theorem d_Par_takeName_29 : decode b_Par_takeName 29 = .ok (.iload_n 1, 1) := by decide +kernel
theorem d_Par_takeName_30 : decode b_Par_takeName 30 = .ok (.iconst (-1), 1) := by decide +kernel
theorem d_Par_takeName_31 : decode b_Par_takeName 31 = .ok (.if_icmp .ne 17, 3) := by decide +kernel
theorem d_Par_takeName_34 : decode b_Par_takeName 34 = .ok (.aload_n 0, 1) := by decide +kernel
theorem d_Par_takeName_35 : decode b_Par_takeName 35 = .ok (.iconst 3, 1) := by decide +kernel
theorem d_Par_takeName_36 : decode b_Par_takeName 36 = .ok (.aload_n 0, 1) := by decide +kernel
theorem d_Par_takeName_37 : decode b_Par_takeName 37 = .ok (.getfield 12, 3) := by decide +kernel
theorem d_Par_takeName_40 : decode b_Par_takeName 40 = .ok (.getfield 77, 3) := by decide +kernel
theorem d_Par_takeName_43 : decode b_Par_takeName 43 = .ok (.invokevirtual 96, 3) := by decide +kernel
theorem d_Par_takeName_46 : decode b_Par_takeName 46 = .ok (.iconst (-1), 1) := by decide +kernel
theorem d_Par_takeName_47 : decode b_Par_takeName 47 = .ok (.ireturn, 1) := by decide +kernel
theorem d_Par_takeName_48 : decode b_Par_takeName 48 = .ok (.aload_n 0, 1) := by decide +kernel
theorem d_Par_takeName_49 : decode b_Par_takeName 49 = .ok (.getfield 37, 3) := by decide +kernel
theorem d_Par_takeName_52 : decode b_Par_takeName 52 = .ok (.getfield 120, 3) := by decide +kernel
theorem d_Par_takeName_55 : decode b_Par_takeName 55 = .ok (.iload_n 1, 1) := by decide +kernel
theorem d_Par_takeName_56 : decode b_Par_takeName 56 = .ok (.invokevirtual 145, 3) := by decide +kernel
theorem d_Par_takeName_59 : decode b_Par_takeName 59 = .ok (.aload_n 0, 1) := by decide +kernel
theorem d_Par_takeName_60 : decode b_Par_takeName 60 = .ok (.getfield 12, 3) := by decide +kernel
theorem d_Par_takeName_63 : decode b_Par_takeName 63 = .ok (.invokevirtual 89, 3) := by decide +kernel
theorem d_Par_takeName_66 : decode b_Par_takeName 66 = .ok (.iload_n 1, 1) := by decide +kernel
theorem d_Par_takeName_67 : decode b_Par_takeName 67 = .ok (.ireturn, 1) := by decide +kernel
abbrev b_Par_takePrefixes : ByteArray := prog_6_method_6_code
def y_Par_takePrefixes : MethodName := ⟨"ClauseProver$Parser", "takePrefixes", "()V"⟩
theorem d_Par_takePrefixes_0 : decode b_Par_takePrefixes 0 = .ok (.iconst 1, 1) := by decide +kernel
theorem d_Par_takePrefixes_1 : decode b_Par_takePrefixes 1 = .ok (.istore_n 1, 1) := by decide +kernel
theorem d_Par_takePrefixes_2 : decode b_Par_takePrefixes 2 = .ok (.iconst 0, 1) := by decide +kernel
theorem d_Par_takePrefixes_3 : decode b_Par_takePrefixes 3 = .ok (.istore_n 2, 1) := by decide +kernel
theorem d_Par_takePrefixes_4 : decode b_Par_takePrefixes 4 = .ok (.iload_n 2, 1) := by decide +kernel
theorem d_Par_takePrefixes_5 : decode b_Par_takePrefixes 5 = .ok (.ldc 57, 2) := by decide +kernel
theorem d_Par_takePrefixes_7 : decode b_Par_takePrefixes 7 = .ok (.if_icmp .ge 122, 3) := by decide +kernel
theorem d_Par_takePrefixes_10 : decode b_Par_takePrefixes 10 = .ok (.iload_n 1, 1) := by decide +kernel
theorem d_Par_takePrefixes_11 : decode b_Par_takePrefixes 11 = .ok (.ifCond .eq 118, 3) := by decide +kernel
theorem d_Par_takePrefixes_14 : decode b_Par_takePrefixes 14 = .ok (.aload_n 0, 1) := by decide +kernel
theorem d_Par_takePrefixes_15 : decode b_Par_takePrefixes 15 = .ok (.getfield 41, 3) := by decide +kernel
theorem d_Par_takePrefixes_18 : decode b_Par_takePrefixes 18 = .ok (.ifCond .ne 111, 3) := by decide +kernel
theorem d_Par_takePrefixes_21 : decode b_Par_takePrefixes 21 = .ok (.aload_n 0, 1) := by decide +kernel
theorem d_Par_takePrefixes_22 : decode b_Par_takePrefixes 22 = .ok (.getfield 86, 3) := by decide +kernel
theorem d_Par_takePrefixes_25 : decode b_Par_takePrefixes 25 = .ok (.bipush 60, 2) := by decide +kernel
theorem d_Par_takePrefixes_27 : decode b_Par_takePrefixes 27 = .ok (.if_icmp .le 18, 3) := by decide +kernel
theorem d_Par_takePrefixes_30 : decode b_Par_takePrefixes 30 = .ok (.aload_n 0, 1) := by decide +kernel
theorem d_Par_takePrefixes_31 : decode b_Par_takePrefixes 31 = .ok (.iconst 3, 1) := by decide +kernel
theorem d_Par_takePrefixes_32 : decode b_Par_takePrefixes 32 = .ok (.aload_n 0, 1) := by decide +kernel
theorem d_Par_takePrefixes_33 : decode b_Par_takePrefixes 33 = .ok (.getfield 12, 3) := by decide +kernel
theorem d_Par_takePrefixes_36 : decode b_Par_takePrefixes 36 = .ok (.getfield 77, 3) := by decide +kernel
theorem d_Par_takePrefixes_39 : decode b_Par_takePrefixes 39 = .ok (.invokevirtual 96, 3) := by decide +kernel
theorem d_Par_takePrefixes_42 : decode b_Par_takePrefixes 42 = .ok (.goto 81, 3) := by decide +kernel
theorem d_Par_takePrefixes_45 : decode b_Par_takePrefixes 45 = .ok (.aload_n 0, 1) := by decide +kernel
theorem d_Par_takePrefixes_46 : decode b_Par_takePrefixes 46 = .ok (.getfield 12, 3) := by decide +kernel
theorem d_Par_takePrefixes_49 : decode b_Par_takePrefixes 49 = .ok (.bipush 11, 2) := by decide +kernel
theorem d_Par_takePrefixes_51 : decode b_Par_takePrefixes 51 = .ok (.invokevirtual 100, 3) := by decide +kernel
theorem d_Par_takePrefixes_54 : decode b_Par_takePrefixes 54 = .ok (.ifCond .ne 14, 3) := by decide +kernel
theorem d_Par_takePrefixes_57 : decode b_Par_takePrefixes 57 = .ok (.aload_n 0, 1) := by decide +kernel
theorem d_Par_takePrefixes_58 : decode b_Par_takePrefixes 58 = .ok (.getfield 12, 3) := by decide +kernel
theorem d_Par_takePrefixes_61 : decode b_Par_takePrefixes 61 = .ok (.iconst 5, 1) := by decide +kernel
theorem d_Par_takePrefixes_62 : decode b_Par_takePrefixes 62 = .ok (.invokevirtual 100, 3) := by decide +kernel
theorem d_Par_takePrefixes_65 : decode b_Par_takePrefixes 65 = .ok (.ifCond .eq 25, 3) := by decide +kernel
theorem d_Par_takePrefixes_68 : decode b_Par_takePrefixes 68 = .ok (.aload_n 0, 1) := by decide +kernel
theorem d_Par_takePrefixes_69 : decode b_Par_takePrefixes 69 = .ok (.aload_n 0, 1) := by decide +kernel
theorem d_Par_takePrefixes_70 : decode b_Par_takePrefixes 70 = .ok (.getfield 12, 3) := by decide +kernel
theorem d_Par_takePrefixes_73 : decode b_Par_takePrefixes 73 = .ok (.getfield 58, 3) := by decide +kernel
theorem d_Par_takePrefixes_76 : decode b_Par_takePrefixes 76 = .ok (.iconst (-1), 1) := by decide +kernel
theorem d_Par_takePrefixes_77 : decode b_Par_takePrefixes 77 = .ok (.invokevirtual 104, 3) := by decide +kernel
theorem d_Par_takePrefixes_80 : decode b_Par_takePrefixes 80 = .ok (.aload_n 0, 1) := by decide +kernel
theorem d_Par_takePrefixes_81 : decode b_Par_takePrefixes 81 = .ok (.getfield 12, 3) := by decide +kernel
theorem d_Par_takePrefixes_84 : decode b_Par_takePrefixes 84 = .ok (.invokevirtual 89, 3) := by decide +kernel
theorem d_Par_takePrefixes_87 : decode b_Par_takePrefixes 87 = .ok (.goto 36, 3) := by decide +kernel
theorem d_Par_takePrefixes_90 : decode b_Par_takePrefixes 90 = .ok (.aload_n 0, 1) := by decide +kernel
theorem d_Par_takePrefixes_91 : decode b_Par_takePrefixes 91 = .ok (.getfield 12, 3) := by decide +kernel
theorem d_Par_takePrefixes_94 : decode b_Par_takePrefixes 94 = .ok (.bipush 12, 2) := by decide +kernel
theorem d_Par_takePrefixes_96 : decode b_Par_takePrefixes 96 = .ok (.invokevirtual 100, 3) := by decide +kernel
theorem d_Par_takePrefixes_99 : decode b_Par_takePrefixes 99 = .ok (.ifCond .ne 15, 3) := by decide +kernel
theorem d_Par_takePrefixes_102 : decode b_Par_takePrefixes 102 = .ok (.aload_n 0, 1) := by decide +kernel
theorem d_Par_takePrefixes_103 : decode b_Par_takePrefixes 103 = .ok (.getfield 12, 3) := by decide +kernel
theorem d_Par_takePrefixes_106 : decode b_Par_takePrefixes 106 = .ok (.bipush 13, 2) := by decide +kernel
theorem d_Par_takePrefixes_108 : decode b_Par_takePrefixes 108 = .ok (.invokevirtual 100, 3) := by decide +kernel
theorem d_Par_takePrefixes_111 : decode b_Par_takePrefixes 111 = .ok (.ifCond .eq 10, 3) := by decide +kernel
theorem d_Par_takePrefixes_114 : decode b_Par_takePrefixes 114 = .ok (.aload_n 0, 1) := by decide +kernel
theorem d_Par_takePrefixes_115 : decode b_Par_takePrefixes 115 = .ok (.invokevirtual 107, 3) := by decide +kernel
theorem d_Par_takePrefixes_118 : decode b_Par_takePrefixes 118 = .ok (.goto 5, 3) := by decide +kernel
theorem d_Par_takePrefixes_121 : decode b_Par_takePrefixes 121 = .ok (.iconst 0, 1) := by decide +kernel
theorem d_Par_takePrefixes_122 : decode b_Par_takePrefixes 122 = .ok (.istore_n 1, 1) := by decide +kernel
theorem d_Par_takePrefixes_123 : decode b_Par_takePrefixes 123 = .ok (.iinc 2 1, 3) := by decide +kernel
theorem d_Par_takePrefixes_126 : decode b_Par_takePrefixes 126 = .ok (.goto (-122), 3) := by decide +kernel
theorem d_Par_takePrefixes_129 : decode b_Par_takePrefixes 129 = .ok (.return_, 1) := by decide +kernel
abbrev b_Par_takeSign : ByteArray := prog_6_method_15_code
def y_Par_takeSign : MethodName := ⟨"ClauseProver$Parser", "takeSign", "()Z"⟩
theorem d_Par_takeSign_0 : decode b_Par_takeSign 0 = .ok (.iconst 1, 1) := by decide +kernel
theorem d_Par_takeSign_1 : decode b_Par_takeSign 1 = .ok (.istore_n 1, 1) := by decide +kernel
theorem d_Par_takeSign_2 : decode b_Par_takeSign 2 = .ok (.iconst 0, 1) := by decide +kernel
theorem d_Par_takeSign_3 : decode b_Par_takeSign 3 = .ok (.istore_n 2, 1) := by decide +kernel
theorem d_Par_takeSign_4 : decode b_Par_takeSign 4 = .ok (.iload_n 2, 1) := by decide +kernel
theorem d_Par_takeSign_5 : decode b_Par_takeSign 5 = .ok (.ldc 57, 2) := by decide +kernel
theorem d_Par_takeSign_7 : decode b_Par_takeSign 7 = .ok (.if_icmp .ge 38, 3) := by decide +kernel
theorem d_Par_takeSign_10 : decode b_Par_takeSign 10 = .ok (.iload_n 1, 1) := by decide +kernel
theorem d_Par_takeSign_11 : decode b_Par_takeSign 11 = .ok (.ifCond .eq 34, 3) := by decide +kernel
theorem d_Par_takeSign_14 : decode b_Par_takeSign 14 = .ok (.aload_n 0, 1) := by decide +kernel
theorem d_Par_takeSign_15 : decode b_Par_takeSign 15 = .ok (.getfield 12, 3) := by decide +kernel
theorem d_Par_takeSign_18 : decode b_Par_takeSign 18 = .ok (.bipush 6, 2) := by decide +kernel
theorem d_Par_takeSign_20 : decode b_Par_takeSign 20 = .ok (.invokevirtual 100, 3) := by decide +kernel
theorem d_Par_takeSign_23 : decode b_Par_takeSign 23 = .ok (.ifCond .eq 14, 3) := by decide +kernel
theorem d_Par_takeSign_26 : decode b_Par_takeSign 26 = .ok (.aload_n 0, 1) := by decide +kernel
theorem d_Par_takeSign_27 : decode b_Par_takeSign 27 = .ok (.invokevirtual 163, 3) := by decide +kernel
theorem d_Par_takeSign_30 : decode b_Par_takeSign 30 = .ok (.ifCond .eq 7, 3) := by decide +kernel
theorem d_Par_takeSign_33 : decode b_Par_takeSign 33 = .ok (.iconst 1, 1) := by decide +kernel
theorem d_Par_takeSign_34 : decode b_Par_takeSign 34 = .ok (.goto 4, 3) := by decide +kernel
theorem d_Par_takeSign_37 : decode b_Par_takeSign 37 = .ok (.iconst 0, 1) := by decide +kernel
theorem d_Par_takeSign_38 : decode b_Par_takeSign 38 = .ok (.istore_n 1, 1) := by decide +kernel
theorem d_Par_takeSign_39 : decode b_Par_takeSign 39 = .ok (.iinc 2 1, 3) := by decide +kernel
theorem d_Par_takeSign_42 : decode b_Par_takeSign 42 = .ok (.goto (-38), 3) := by decide +kernel
theorem d_Par_takeSign_45 : decode b_Par_takeSign 45 = .ok (.aload_n 0, 1) := by decide +kernel
theorem d_Par_takeSign_46 : decode b_Par_takeSign 46 = .ok (.getfield 12, 3) := by decide +kernel
theorem d_Par_takeSign_49 : decode b_Par_takeSign 49 = .ok (.getfield 92, 3) := by decide +kernel
theorem d_Par_takeSign_52 : decode b_Par_takeSign 52 = .ok (.ifCond .eq 7, 3) := by decide +kernel
theorem d_Par_takeSign_55 : decode b_Par_takeSign 55 = .ok (.iconst 1, 1) := by decide +kernel
theorem d_Par_takeSign_56 : decode b_Par_takeSign 56 = .ok (.goto 10, 3) := by decide +kernel
theorem d_Par_takeSign_59 : decode b_Par_takeSign 59 = .ok (.aload_n 0, 1) := by decide +kernel
theorem d_Par_takeSign_60 : decode b_Par_takeSign 60 = .ok (.getfield 12, 3) := by decide +kernel
theorem d_Par_takeSign_63 : decode b_Par_takeSign 63 = .ok (.getfield 58, 3) := by decide +kernel
theorem d_Par_takeSign_66 : decode b_Par_takeSign 66 = .ok (.istore_n 2, 1) := by decide +kernel
theorem d_Par_takeSign_67 : decode b_Par_takeSign 67 = .ok (.iload_n 2, 1) := by decide +kernel
theorem d_Par_takeSign_68 : decode b_Par_takeSign 68 = .ok (.tableswitch 114 4 17 #[108, 114, 114, 114, 114, 114, 114, 114, 114, 114, 72, 72, 83, 95], 72) := by decide +kernel
theorem d_Par_takeSign_140 : decode b_Par_takeSign 140 = .ok (.aload_n 0, 1) := by decide +kernel
theorem d_Par_takeSign_141 : decode b_Par_takeSign 141 = .ok (.iload_n 2, 1) := by decide +kernel
theorem d_Par_takeSign_142 : decode b_Par_takeSign 142 = .ok (.invokestatic 166, 3) := by decide +kernel
theorem d_Par_takeSign_145 : decode b_Par_takeSign 145 = .ok (.invokevirtual 169, 3) := by decide +kernel
theorem d_Par_takeSign_148 : decode b_Par_takeSign 148 = .ok (.goto 40, 3) := by decide +kernel
theorem d_Par_takeSign_151 : decode b_Par_takeSign 151 = .ok (.aload_n 0, 1) := by decide +kernel
theorem d_Par_takeSign_152 : decode b_Par_takeSign 152 = .ok (.bipush 15, 2) := by decide +kernel
theorem d_Par_takeSign_154 : decode b_Par_takeSign 154 = .ok (.invokestatic 166, 3) := by decide +kernel
theorem d_Par_takeSign_157 : decode b_Par_takeSign 157 = .ok (.invokevirtual 169, 3) := by decide +kernel
theorem d_Par_takeSign_160 : decode b_Par_takeSign 160 = .ok (.goto 28, 3) := by decide +kernel
theorem d_Par_takeSign_163 : decode b_Par_takeSign 163 = .ok (.aload_n 0, 1) := by decide +kernel
theorem d_Par_takeSign_164 : decode b_Par_takeSign 164 = .ok (.invokevirtual 172, 3) := by decide +kernel
theorem d_Par_takeSign_167 : decode b_Par_takeSign 167 = .ok (.ifCond .ne 21, 3) := by decide +kernel
theorem d_Par_takeSign_170 : decode b_Par_takeSign 170 = .ok (.aload_n 0, 1) := by decide +kernel
theorem d_Par_takeSign_171 : decode b_Par_takeSign 171 = .ok (.invokevirtual 117, 3) := by decide +kernel
theorem d_Par_takeSign_174 : decode b_Par_takeSign 174 = .ok (.iconst 0, 1) := by decide +kernel
theorem d_Par_takeSign_175 : decode b_Par_takeSign 175 = .ok (.ireturn, 1) := by decide +kernel
theorem d_Par_takeSign_176 : decode b_Par_takeSign 176 = .ok (.aload_n 0, 1) := by decide +kernel
theorem d_Par_takeSign_177 : decode b_Par_takeSign 177 = .ok (.invokevirtual 175, 3) := by decide +kernel
theorem d_Par_takeSign_180 : decode b_Par_takeSign 180 = .ok (.iconst 0, 1) := by decide +kernel
theorem d_Par_takeSign_181 : decode b_Par_takeSign 181 = .ok (.ireturn, 1) := by decide +kernel
theorem d_Par_takeSign_182 : decode b_Par_takeSign 182 = .ok (.aload_n 0, 1) := by decide +kernel
theorem d_Par_takeSign_183 : decode b_Par_takeSign 183 = .ok (.invokevirtual 117, 3) := by decide +kernel
theorem d_Par_takeSign_186 : decode b_Par_takeSign 186 = .ok (.iconst 0, 1) := by decide +kernel
theorem d_Par_takeSign_187 : decode b_Par_takeSign 187 = .ok (.ireturn, 1) := by decide +kernel
theorem d_Par_takeSign_188 : decode b_Par_takeSign 188 = .ok (.aload_n 0, 1) := by decide +kernel
theorem d_Par_takeSign_189 : decode b_Par_takeSign 189 = .ok (.iload_n 2, 1) := by decide +kernel
theorem d_Par_takeSign_190 : decode b_Par_takeSign 190 = .ok (.iconst (-1), 1) := by decide +kernel
theorem d_Par_takeSign_191 : decode b_Par_takeSign 191 = .ok (.invokevirtual 104, 3) := by decide +kernel
theorem d_Par_takeSign_194 : decode b_Par_takeSign 194 = .ok (.aload_n 0, 1) := by decide +kernel
theorem d_Par_takeSign_195 : decode b_Par_takeSign 195 = .ok (.getfield 12, 3) := by decide +kernel
theorem d_Par_takeSign_198 : decode b_Par_takeSign 198 = .ok (.invokevirtual 89, 3) := by decide +kernel
theorem d_Par_takeSign_201 : decode b_Par_takeSign 201 = .ok (.iconst 1, 1) := by decide +kernel
theorem d_Par_takeSign_202 : decode b_Par_takeSign 202 = .ok (.ireturn, 1) := by decide +kernel
abbrev b_Par_takeTerm : ByteArray := prog_6_method_10_code
def y_Par_takeTerm : MethodName := ⟨"ClauseProver$Parser", "takeTerm", "(I)V"⟩
theorem d_Par_takeTerm_0 : decode b_Par_takeTerm 0 = .ok (.iload_n 1, 1) := by decide +kernel
theorem d_Par_takeTerm_1 : decode b_Par_takeTerm 1 = .ok (.bipush 60, 2) := by decide +kernel
theorem d_Par_takeTerm_3 : decode b_Par_takeTerm 3 = .ok (.if_icmp .le 16, 3) := by decide +kernel
theorem d_Par_takeTerm_6 : decode b_Par_takeTerm 6 = .ok (.aload_n 0, 1) := by decide +kernel
theorem d_Par_takeTerm_7 : decode b_Par_takeTerm 7 = .ok (.iconst 3, 1) := by decide +kernel
theorem d_Par_takeTerm_8 : decode b_Par_takeTerm 8 = .ok (.aload_n 0, 1) := by decide +kernel
theorem d_Par_takeTerm_9 : decode b_Par_takeTerm 9 = .ok (.getfield 12, 3) := by decide +kernel
theorem d_Par_takeTerm_12 : decode b_Par_takeTerm 12 = .ok (.getfield 77, 3) := by decide +kernel
theorem d_Par_takeTerm_15 : decode b_Par_takeTerm 15 = .ok (.invokevirtual 96, 3) := by decide +kernel
theorem d_Par_takeTerm_18 : decode b_Par_takeTerm 18 = .ok (.return_, 1) := by decide +kernel
theorem d_Par_takeTerm_19 : decode b_Par_takeTerm 19 = .ok (.aload_n 0, 1) := by decide +kernel
theorem d_Par_takeTerm_20 : decode b_Par_takeTerm 20 = .ok (.getfield 12, 3) := by decide +kernel
theorem d_Par_takeTerm_23 : decode b_Par_takeTerm 23 = .ok (.iconst 3, 1) := by decide +kernel
theorem d_Par_takeTerm_24 : decode b_Par_takeTerm 24 = .ok (.invokevirtual 100, 3) := by decide +kernel
theorem d_Par_takeTerm_27 : decode b_Par_takeTerm 27 = .ok (.ifCond .eq 8, 3) := by decide +kernel
theorem d_Par_takeTerm_30 : decode b_Par_takeTerm 30 = .ok (.aload_n 0, 1) := by decide +kernel
theorem d_Par_takeTerm_31 : decode b_Par_takeTerm 31 = .ok (.invokevirtual 123, 3) := by decide +kernel
theorem d_Par_takeTerm_34 : decode b_Par_takeTerm 34 = .ok (.return_, 1) := by decide +kernel
theorem d_Par_takeTerm_35 : decode b_Par_takeTerm 35 = .ok (.aload_n 0, 1) := by decide +kernel
theorem d_Par_takeTerm_36 : decode b_Par_takeTerm 36 = .ok (.getfield 12, 3) := by decide +kernel
theorem d_Par_takeTerm_39 : decode b_Par_takeTerm 39 = .ok (.getfield 77, 3) := by decide +kernel
theorem d_Par_takeTerm_42 : decode b_Par_takeTerm 42 = .ok (.istore_n 2, 1) := by decide +kernel
theorem d_Par_takeTerm_43 : decode b_Par_takeTerm 43 = .ok (.aload_n 0, 1) := by decide +kernel
theorem d_Par_takeTerm_44 : decode b_Par_takeTerm 44 = .ok (.invokevirtual 129, 3) := by decide +kernel
theorem d_Par_takeTerm_47 : decode b_Par_takeTerm 47 = .ok (.istore_n 3, 1) := by decide +kernel
theorem d_Par_takeTerm_48 : decode b_Par_takeTerm 48 = .ok (.aload_n 0, 1) := by decide +kernel
theorem d_Par_takeTerm_49 : decode b_Par_takeTerm 49 = .ok (.iload_n 1, 1) := by decide +kernel
theorem d_Par_takeTerm_50 : decode b_Par_takeTerm 50 = .ok (.invokevirtual 133, 3) := by decide +kernel
theorem d_Par_takeTerm_53 : decode b_Par_takeTerm 53 = .ok (.istore 4, 2) := by decide +kernel
theorem d_Par_takeTerm_55 : decode b_Par_takeTerm 55 = .ok (.aload_n 0, 1) := by decide +kernel
theorem d_Par_takeTerm_56 : decode b_Par_takeTerm 56 = .ok (.iload_n 3, 1) := by decide +kernel
theorem d_Par_takeTerm_57 : decode b_Par_takeTerm 57 = .ok (.iconst 2, 1) := by decide +kernel
theorem d_Par_takeTerm_58 : decode b_Par_takeTerm 58 = .ok (.iload 4, 2) := by decide +kernel
theorem d_Par_takeTerm_60 : decode b_Par_takeTerm 60 = .ok (.iload_n 2, 1) := by decide +kernel
theorem d_Par_takeTerm_61 : decode b_Par_takeTerm 61 = .ok (.invokevirtual 137, 3) := by decide +kernel
theorem d_Par_takeTerm_64 : decode b_Par_takeTerm 64 = .ok (.return_, 1) := by decide +kernel
abbrev b_Par_takeTerms : ByteArray := prog_6_method_11_code
def y_Par_takeTerms : MethodName := ⟨"ClauseProver$Parser", "takeTerms", "(I)I"⟩
theorem d_Par_takeTerms_0 : decode b_Par_takeTerms 0 = .ok (.aload_n 0, 1) := by decide +kernel
theorem d_Par_takeTerms_1 : decode b_Par_takeTerms 1 = .ok (.getfield 41, 3) := by decide +kernel
theorem d_Par_takeTerms_4 : decode b_Par_takeTerms 4 = .ok (.ifCond .ne 14, 3) := by decide +kernel
theorem d_Par_takeTerms_7 : decode b_Par_takeTerms 7 = .ok (.aload_n 0, 1) := by decide +kernel
theorem d_Par_takeTerms_8 : decode b_Par_takeTerms 8 = .ok (.getfield 12, 3) := by decide +kernel
theorem d_Par_takeTerms_11 : decode b_Par_takeTerms 11 = .ok (.iconst 5, 1) := by decide +kernel
theorem d_Par_takeTerms_12 : decode b_Par_takeTerms 12 = .ok (.invokevirtual 100, 3) := by decide +kernel
theorem d_Par_takeTerms_15 : decode b_Par_takeTerms 15 = .ok (.ifCond .ne 5, 3) := by decide +kernel
theorem d_Par_takeTerms_18 : decode b_Par_takeTerms 18 = .ok (.iconst 0, 1) := by decide +kernel
theorem d_Par_takeTerms_19 : decode b_Par_takeTerms 19 = .ok (.ireturn, 1) := by decide +kernel
theorem d_Par_takeTerms_20 : decode b_Par_takeTerms 20 = .ok (.iconst 0, 1) := by decide +kernel
theorem d_Par_takeTerms_21 : decode b_Par_takeTerms 21 = .ok (.istore_n 2, 1) := by decide +kernel
theorem d_Par_takeTerms_22 : decode b_Par_takeTerms 22 = .ok (.iconst 1, 1) := by decide +kernel
theorem d_Par_takeTerms_23 : decode b_Par_takeTerms 23 = .ok (.istore_n 3, 1) := by decide +kernel
theorem d_Par_takeTerms_24 : decode b_Par_takeTerms 24 = .ok (.iconst 0, 1) := by decide +kernel
theorem d_Par_takeTerms_25 : decode b_Par_takeTerms 25 = .ok (.istore 4, 2) := by decide +kernel
theorem d_Par_takeTerms_27 : decode b_Par_takeTerms 27 = .ok (.iload 4, 2) := by decide +kernel
theorem d_Par_takeTerms_29 : decode b_Par_takeTerms 29 = .ok (.ldc 57, 2) := by decide +kernel
theorem d_Par_takeTerms_31 : decode b_Par_takeTerms 31 = .ok (.if_icmp .ge 55, 3) := by decide +kernel
theorem d_Par_takeTerms_34 : decode b_Par_takeTerms 34 = .ok (.iload_n 3, 1) := by decide +kernel
theorem d_Par_takeTerms_35 : decode b_Par_takeTerms 35 = .ok (.ifCond .eq 51, 3) := by decide +kernel
theorem d_Par_takeTerms_38 : decode b_Par_takeTerms 38 = .ok (.aload_n 0, 1) := by decide +kernel
theorem d_Par_takeTerms_39 : decode b_Par_takeTerms 39 = .ok (.getfield 12, 3) := by decide +kernel
theorem d_Par_takeTerms_42 : decode b_Par_takeTerms 42 = .ok (.invokevirtual 89, 3) := by decide +kernel
theorem d_Par_takeTerms_45 : decode b_Par_takeTerms 45 = .ok (.aload_n 0, 1) := by decide +kernel
theorem d_Par_takeTerms_46 : decode b_Par_takeTerms 46 = .ok (.iload_n 1, 1) := by decide +kernel
theorem d_Par_takeTerms_47 : decode b_Par_takeTerms 47 = .ok (.iconst 1, 1) := by decide +kernel
theorem d_Par_takeTerms_48 : decode b_Par_takeTerms 48 = .ok (.iadd, 1) := by decide +kernel
theorem d_Par_takeTerms_49 : decode b_Par_takeTerms 49 = .ok (.invokevirtual 148, 3) := by decide +kernel
theorem d_Par_takeTerms_52 : decode b_Par_takeTerms 52 = .ok (.iinc 2 1, 3) := by decide +kernel
theorem d_Par_takeTerms_55 : decode b_Par_takeTerms 55 = .ok (.aload_n 0, 1) := by decide +kernel
theorem d_Par_takeTerms_56 : decode b_Par_takeTerms 56 = .ok (.getfield 41, 3) := by decide +kernel
theorem d_Par_takeTerms_59 : decode b_Par_takeTerms 59 = .ok (.ifCond .ne 19, 3) := by decide +kernel
theorem d_Par_takeTerms_62 : decode b_Par_takeTerms 62 = .ok (.aload_n 0, 1) := by decide +kernel
theorem d_Par_takeTerms_63 : decode b_Par_takeTerms 63 = .ok (.getfield 12, 3) := by decide +kernel
theorem d_Par_takeTerms_66 : decode b_Par_takeTerms 66 = .ok (.bipush 7, 2) := by decide +kernel
theorem d_Par_takeTerms_68 : decode b_Par_takeTerms 68 = .ok (.invokevirtual 100, 3) := by decide +kernel
theorem d_Par_takeTerms_71 : decode b_Par_takeTerms 71 = .ok (.ifCond .eq 7, 3) := by decide +kernel
theorem d_Par_takeTerms_74 : decode b_Par_takeTerms 74 = .ok (.iconst 1, 1) := by decide +kernel
theorem d_Par_takeTerms_75 : decode b_Par_takeTerms 75 = .ok (.goto 4, 3) := by decide +kernel
theorem d_Par_takeTerms_78 : decode b_Par_takeTerms 78 = .ok (.iconst 0, 1) := by decide +kernel
theorem d_Par_takeTerms_79 : decode b_Par_takeTerms 79 = .ok (.istore_n 3, 1) := by decide +kernel
theorem d_Par_takeTerms_80 : decode b_Par_takeTerms 80 = .ok (.iinc 4 1, 3) := by decide +kernel
theorem d_Par_takeTerms_83 : decode b_Par_takeTerms 83 = .ok (.goto (-56), 3) := by decide +kernel
theorem d_Par_takeTerms_86 : decode b_Par_takeTerms 86 = .ok (.aload_n 0, 1) := by decide +kernel
theorem d_Par_takeTerms_87 : decode b_Par_takeTerms 87 = .ok (.getfield 41, 3) := by decide +kernel
theorem d_Par_takeTerms_90 : decode b_Par_takeTerms 90 = .ok (.ifCond .ne 29, 3) := by decide +kernel
theorem d_Par_takeTerms_93 : decode b_Par_takeTerms 93 = .ok (.aload_n 0, 1) := by decide +kernel
theorem d_Par_takeTerms_94 : decode b_Par_takeTerms 94 = .ok (.getfield 12, 3) := by decide +kernel
theorem d_Par_takeTerms_97 : decode b_Par_takeTerms 97 = .ok (.bipush 6, 2) := by decide +kernel
theorem d_Par_takeTerms_99 : decode b_Par_takeTerms 99 = .ok (.invokevirtual 100, 3) := by decide +kernel
theorem d_Par_takeTerms_102 : decode b_Par_takeTerms 102 = .ok (.ifCond .eq 13, 3) := by decide +kernel
theorem d_Par_takeTerms_105 : decode b_Par_takeTerms 105 = .ok (.aload_n 0, 1) := by decide +kernel
theorem d_Par_takeTerms_106 : decode b_Par_takeTerms 106 = .ok (.getfield 12, 3) := by decide +kernel
theorem d_Par_takeTerms_109 : decode b_Par_takeTerms 109 = .ok (.invokevirtual 89, 3) := by decide +kernel
theorem d_Par_takeTerms_112 : decode b_Par_takeTerms 112 = .ok (.goto 7, 3) := by decide +kernel
theorem d_Par_takeTerms_115 : decode b_Par_takeTerms 115 = .ok (.aload_n 0, 1) := by decide +kernel
theorem d_Par_takeTerms_116 : decode b_Par_takeTerms 116 = .ok (.invokevirtual 117, 3) := by decide +kernel
theorem d_Par_takeTerms_119 : decode b_Par_takeTerms 119 = .ok (.iload_n 2, 1) := by decide +kernel
theorem d_Par_takeTerms_120 : decode b_Par_takeTerms 120 = .ok (.ireturn, 1) := by decide +kernel
abbrev b_Par_takeVariable : ByteArray := prog_6_method_13_code
def y_Par_takeVariable : MethodName := ⟨"ClauseProver$Parser", "takeVariable", "()V"⟩
theorem d_Par_takeVariable_0 : decode b_Par_takeVariable 0 = .ok (.aload_n 0, 1) := by decide +kernel
theorem d_Par_takeVariable_1 : decode b_Par_takeVariable 1 = .ok (.getfield 37, 3) := by decide +kernel
theorem d_Par_takeVariable_4 : decode b_Par_takeVariable 4 = .ok (.aload_n 0, 1) := by decide +kernel
theorem d_Par_takeVariable_5 : decode b_Par_takeVariable 5 = .ok (.getfield 12, 3) := by decide +kernel
theorem d_Par_takeVariable_8 : decode b_Par_takeVariable 8 = .ok (.invokevirtual 156, 3) := by decide +kernel
theorem d_Par_takeVariable_11 : decode b_Par_takeVariable 11 = .ok (.istore_n 1, 1) := by decide +kernel
theorem d_Par_takeVariable_12 : decode b_Par_takeVariable 12 = .ok (.iload_n 1, 1) := by decide +kernel
theorem d_Par_takeVariable_13 : decode b_Par_takeVariable 13 = .ok (.iconst (-1), 1) := by decide +kernel
theorem d_Par_takeVariable_14 : decode b_Par_takeVariable 14 = .ok (.if_icmp .ne 16, 3) := by decide +kernel
theorem d_Par_takeVariable_17 : decode b_Par_takeVariable 17 = .ok (.aload_n 0, 1) := by decide +kernel
theorem d_Par_takeVariable_18 : decode b_Par_takeVariable 18 = .ok (.iconst 3, 1) := by decide +kernel
theorem d_Par_takeVariable_19 : decode b_Par_takeVariable 19 = .ok (.aload_n 0, 1) := by decide +kernel
theorem d_Par_takeVariable_20 : decode b_Par_takeVariable 20 = .ok (.getfield 12, 3) := by decide +kernel
theorem d_Par_takeVariable_23 : decode b_Par_takeVariable 23 = .ok (.getfield 77, 3) := by decide +kernel
theorem d_Par_takeVariable_26 : decode b_Par_takeVariable 26 = .ok (.invokevirtual 96, 3) := by decide +kernel
theorem d_Par_takeVariable_29 : decode b_Par_takeVariable 29 = .ok (.return_, 1) := by decide +kernel
theorem d_Par_takeVariable_30 : decode b_Par_takeVariable 30 = .ok (.aload_n 0, 1) := by decide +kernel
theorem d_Par_takeVariable_31 : decode b_Par_takeVariable 31 = .ok (.getfield 37, 3) := by decide +kernel
theorem d_Par_takeVariable_34 : decode b_Par_takeVariable 34 = .ok (.getfield 120, 3) := by decide +kernel
theorem d_Par_takeVariable_37 : decode b_Par_takeVariable 37 = .ok (.iload_n 1, 1) := by decide +kernel
theorem d_Par_takeVariable_38 : decode b_Par_takeVariable 38 = .ok (.iconst (-1), 1) := by decide +kernel
theorem d_Par_takeVariable_39 : decode b_Par_takeVariable 39 = .ok (.ixor, 1) := by decide +kernel
theorem d_Par_takeVariable_40 : decode b_Par_takeVariable 40 = .ok (.invokevirtual 145, 3) := by decide +kernel
theorem d_Par_takeVariable_43 : decode b_Par_takeVariable 43 = .ok (.aload_n 0, 1) := by decide +kernel
theorem d_Par_takeVariable_44 : decode b_Par_takeVariable 44 = .ok (.getfield 12, 3) := by decide +kernel
theorem d_Par_takeVariable_47 : decode b_Par_takeVariable 47 = .ok (.invokevirtual 89, 3) := by decide +kernel
theorem d_Par_takeVariable_50 : decode b_Par_takeVariable 50 = .ok (.return_, 1) := by decide +kernel
abbrev b_Sat_factor : ByteArray := prog_8_method_23_code
def y_Sat_factor : MethodName := ⟨"ClauseProver$Saturation", "factor", "(I)V"⟩
theorem d_Sat_factor_0 : decode b_Sat_factor 0 = .ok (.aload_n 0, 1) := by decide +kernel
theorem d_Sat_factor_1 : decode b_Sat_factor 1 = .ok (.getfield 27, 3) := by decide +kernel
theorem d_Sat_factor_4 : decode b_Sat_factor 4 = .ok (.iload_n 1, 1) := by decide +kernel
theorem d_Sat_factor_5 : decode b_Sat_factor 5 = .ok (.iconst 3, 1) := by decide +kernel
theorem d_Sat_factor_6 : decode b_Sat_factor 6 = .ok (.invokevirtual 91, 3) := by decide +kernel
theorem d_Sat_factor_9 : decode b_Sat_factor 9 = .ok (.istore_n 2, 1) := by decide +kernel
theorem d_Sat_factor_10 : decode b_Sat_factor 10 = .ok (.iconst 0, 1) := by decide +kernel
theorem d_Sat_factor_11 : decode b_Sat_factor 11 = .ok (.istore_n 3, 1) := by decide +kernel
theorem d_Sat_factor_12 : decode b_Sat_factor 12 = .ok (.iload_n 3, 1) := by decide +kernel
theorem d_Sat_factor_13 : decode b_Sat_factor 13 = .ok (.iload_n 2, 1) := by decide +kernel
theorem d_Sat_factor_14 : decode b_Sat_factor 14 = .ok (.if_icmp .ge 70, 3) := by decide +kernel
theorem d_Sat_factor_17 : decode b_Sat_factor 17 = .ok (.aload_n 0, 1) := by decide +kernel
theorem d_Sat_factor_18 : decode b_Sat_factor 18 = .ok (.getfield 27, 3) := by decide +kernel
theorem d_Sat_factor_21 : decode b_Sat_factor 21 = .ok (.iload_n 1, 1) := by decide +kernel
theorem d_Sat_factor_22 : decode b_Sat_factor 22 = .ok (.iload_n 3, 1) := by decide +kernel
theorem d_Sat_factor_23 : decode b_Sat_factor 23 = .ok (.invokevirtual 187, 3) := by decide +kernel
theorem d_Sat_factor_26 : decode b_Sat_factor 26 = .ok (.istore 4, 2) := by decide +kernel
theorem d_Sat_factor_28 : decode b_Sat_factor 28 = .ok (.iconst 0, 1) := by decide +kernel
theorem d_Sat_factor_29 : decode b_Sat_factor 29 = .ok (.istore 5, 2) := by decide +kernel
theorem d_Sat_factor_31 : decode b_Sat_factor 31 = .ok (.iload 5, 2) := by decide +kernel
theorem d_Sat_factor_33 : decode b_Sat_factor 33 = .ok (.iload_n 2, 1) := by decide +kernel
theorem d_Sat_factor_34 : decode b_Sat_factor 34 = .ok (.if_icmp .ge 44, 3) := by decide +kernel
theorem d_Sat_factor_37 : decode b_Sat_factor 37 = .ok (.aload_n 0, 1) := by decide +kernel
theorem d_Sat_factor_38 : decode b_Sat_factor 38 = .ok (.getfield 27, 3) := by decide +kernel
theorem d_Sat_factor_41 : decode b_Sat_factor 41 = .ok (.iload 4, 2) := by decide +kernel
theorem d_Sat_factor_43 : decode b_Sat_factor 43 = .ok (.invokevirtual 190, 3) := by decide +kernel
theorem d_Sat_factor_46 : decode b_Sat_factor 46 = .ok (.ifCond .eq 32, 3) := by decide +kernel
theorem d_Sat_factor_49 : decode b_Sat_factor 49 = .ok (.iload_n 3, 1) := by decide +kernel
theorem d_Sat_factor_50 : decode b_Sat_factor 50 = .ok (.iload 5, 2) := by decide +kernel
theorem d_Sat_factor_52 : decode b_Sat_factor 52 = .ok (.if_icmp .eq 20, 3) := by decide +kernel
theorem d_Sat_factor_55 : decode b_Sat_factor 55 = .ok (.aload_n 0, 1) := by decide +kernel
theorem d_Sat_factor_56 : decode b_Sat_factor 56 = .ok (.iload_n 1, 1) := by decide +kernel
theorem d_Sat_factor_57 : decode b_Sat_factor 57 = .ok (.iload 4, 2) := by decide +kernel
theorem d_Sat_factor_59 : decode b_Sat_factor 59 = .ok (.aload_n 0, 1) := by decide +kernel
theorem d_Sat_factor_60 : decode b_Sat_factor 60 = .ok (.getfield 27, 3) := by decide +kernel
theorem d_Sat_factor_63 : decode b_Sat_factor 63 = .ok (.iload_n 1, 1) := by decide +kernel
theorem d_Sat_factor_64 : decode b_Sat_factor 64 = .ok (.iload 5, 2) := by decide +kernel
theorem d_Sat_factor_66 : decode b_Sat_factor 66 = .ok (.invokevirtual 187, 3) := by decide +kernel
theorem d_Sat_factor_69 : decode b_Sat_factor 69 = .ok (.invokevirtual 256, 3) := by decide +kernel
theorem d_Sat_factor_72 : decode b_Sat_factor 72 = .ok (.iinc 5 1, 3) := by decide +kernel
theorem d_Sat_factor_75 : decode b_Sat_factor 75 = .ok (.goto (-44), 3) := by decide +kernel
theorem d_Sat_factor_78 : decode b_Sat_factor 78 = .ok (.iinc 3 1, 3) := by decide +kernel
theorem d_Sat_factor_81 : decode b_Sat_factor 81 = .ok (.goto (-69), 3) := by decide +kernel
theorem d_Sat_factor_84 : decode b_Sat_factor 84 = .ok (.return_, 1) := by decide +kernel
abbrev b_Sat_factorTwo : ByteArray := prog_8_method_24_code
def y_Sat_factorTwo : MethodName := ⟨"ClauseProver$Saturation", "factorTwo", "(III)V"⟩
theorem d_Sat_factorTwo_0 : decode b_Sat_factorTwo 0 = .ok (.aload_n 0, 1) := by decide +kernel
theorem d_Sat_factorTwo_1 : decode b_Sat_factorTwo 1 = .ok (.getfield 27, 3) := by decide +kernel
theorem d_Sat_factorTwo_4 : decode b_Sat_factorTwo 4 = .ok (.iload_n 1, 1) := by decide +kernel
theorem d_Sat_factorTwo_5 : decode b_Sat_factorTwo 5 = .ok (.bipush 8, 2) := by decide +kernel
theorem d_Sat_factorTwo_7 : decode b_Sat_factorTwo 7 = .ok (.invokevirtual 91, 3) := by decide +kernel
theorem d_Sat_factorTwo_10 : decode b_Sat_factorTwo 10 = .ok (.istore 4, 2) := by decide +kernel
theorem d_Sat_factorTwo_12 : decode b_Sat_factorTwo 12 = .ok (.iconst 0, 1) := by decide +kernel
theorem d_Sat_factorTwo_13 : decode b_Sat_factorTwo 13 = .ok (.istore 5, 2) := by decide +kernel
theorem d_Sat_factorTwo_15 : decode b_Sat_factorTwo 15 = .ok (.iload 5, 2) := by decide +kernel
theorem d_Sat_factorTwo_17 : decode b_Sat_factorTwo 17 = .ok (.iconst 4, 1) := by decide +kernel
theorem d_Sat_factorTwo_18 : decode b_Sat_factorTwo 18 = .ok (.if_icmp .ge 138, 3) := by decide +kernel
theorem d_Sat_factorTwo_21 : decode b_Sat_factorTwo 21 = .ok (.aload_n 0, 1) := by decide +kernel
theorem d_Sat_factorTwo_22 : decode b_Sat_factorTwo 22 = .ok (.getfield 58, 3) := by decide +kernel
theorem d_Sat_factorTwo_25 : decode b_Sat_factorTwo 25 = .ok (.ifCond .ne 131, 3) := by decide +kernel
theorem d_Sat_factorTwo_28 : decode b_Sat_factorTwo 28 = .ok (.iload 5, 2) := by decide +kernel
theorem d_Sat_factorTwo_30 : decode b_Sat_factorTwo 30 = .ok (.iconst 1, 1) := by decide +kernel
theorem d_Sat_factorTwo_31 : decode b_Sat_factorTwo 31 = .ok (.ishr, 1) := by decide +kernel
theorem d_Sat_factorTwo_32 : decode b_Sat_factorTwo 32 = .ok (.istore 6, 2) := by decide +kernel
theorem d_Sat_factorTwo_34 : decode b_Sat_factorTwo 34 = .ok (.iload 5, 2) := by decide +kernel
theorem d_Sat_factorTwo_36 : decode b_Sat_factorTwo 36 = .ok (.iconst 1, 1) := by decide +kernel
theorem d_Sat_factorTwo_37 : decode b_Sat_factorTwo 37 = .ok (.iand, 1) := by decide +kernel
theorem d_Sat_factorTwo_38 : decode b_Sat_factorTwo 38 = .ok (.istore 7, 2) := by decide +kernel
theorem d_Sat_factorTwo_40 : decode b_Sat_factorTwo 40 = .ok (.aload_n 0, 1) := by decide +kernel
theorem d_Sat_factorTwo_41 : decode b_Sat_factorTwo 41 = .ok (.getfield 27, 3) := by decide +kernel
theorem d_Sat_factorTwo_44 : decode b_Sat_factorTwo 44 = .ok (.iload_n 2, 1) := by decide +kernel
theorem d_Sat_factorTwo_45 : decode b_Sat_factorTwo 45 = .ok (.iload 6, 2) := by decide +kernel
theorem d_Sat_factorTwo_47 : decode b_Sat_factorTwo 47 = .ok (.invokevirtual 193, 3) := by decide +kernel
theorem d_Sat_factorTwo_50 : decode b_Sat_factorTwo 50 = .ok (.ifCond .ne 6, 3) := by decide +kernel
theorem d_Sat_factorTwo_53 : decode b_Sat_factorTwo 53 = .ok (.goto 97, 3) := by decide +kernel
theorem d_Sat_factorTwo_56 : decode b_Sat_factorTwo 56 = .ok (.aload_n 0, 1) := by decide +kernel
theorem d_Sat_factorTwo_57 : decode b_Sat_factorTwo 57 = .ok (.getfield 45, 3) := by decide +kernel
theorem d_Sat_factorTwo_60 : decode b_Sat_factorTwo 60 = .ok (.iload 4, 2) := by decide +kernel
theorem d_Sat_factorTwo_62 : decode b_Sat_factorTwo 62 = .ok (.iload 4, 2) := by decide +kernel
theorem d_Sat_factorTwo_64 : decode b_Sat_factorTwo 64 = .ok (.invokevirtual 206, 3) := by decide +kernel
theorem d_Sat_factorTwo_67 : decode b_Sat_factorTwo 67 = .ok (.aload_n 0, 1) := by decide +kernel
theorem d_Sat_factorTwo_68 : decode b_Sat_factorTwo 68 = .ok (.getfield 45, 3) := by decide +kernel
theorem d_Sat_factorTwo_71 : decode b_Sat_factorTwo 71 = .ok (.aload_n 0, 1) := by decide +kernel
theorem d_Sat_factorTwo_72 : decode b_Sat_factorTwo 72 = .ok (.getfield 27, 3) := by decide +kernel
theorem d_Sat_factorTwo_75 : decode b_Sat_factorTwo 75 = .ok (.iload_n 2, 1) := by decide +kernel
theorem d_Sat_factorTwo_76 : decode b_Sat_factorTwo 76 = .ok (.iload 6, 2) := by decide +kernel
theorem d_Sat_factorTwo_78 : decode b_Sat_factorTwo 78 = .ok (.invokevirtual 200, 3) := by decide +kernel
theorem d_Sat_factorTwo_81 : decode b_Sat_factorTwo 81 = .ok (.iconst 0, 1) := by decide +kernel
theorem d_Sat_factorTwo_82 : decode b_Sat_factorTwo 82 = .ok (.aload_n 0, 1) := by decide +kernel
theorem d_Sat_factorTwo_83 : decode b_Sat_factorTwo 83 = .ok (.getfield 27, 3) := by decide +kernel
theorem d_Sat_factorTwo_86 : decode b_Sat_factorTwo 86 = .ok (.iload_n 3, 1) := by decide +kernel
theorem d_Sat_factorTwo_87 : decode b_Sat_factorTwo 87 = .ok (.iload 7, 2) := by decide +kernel
theorem d_Sat_factorTwo_89 : decode b_Sat_factorTwo 89 = .ok (.invokevirtual 200, 3) := by decide +kernel
theorem d_Sat_factorTwo_92 : decode b_Sat_factorTwo 92 = .ok (.iconst 0, 1) := by decide +kernel
theorem d_Sat_factorTwo_93 : decode b_Sat_factorTwo 93 = .ok (.iconst 0, 1) := by decide +kernel
theorem d_Sat_factorTwo_94 : decode b_Sat_factorTwo 94 = .ok (.invokevirtual 209, 3) := by decide +kernel
theorem d_Sat_factorTwo_97 : decode b_Sat_factorTwo 97 = .ok (.ifCond .eq 53, 3) := by decide +kernel
theorem d_Sat_factorTwo_100 : decode b_Sat_factorTwo 100 = .ok (.aload_n 0, 1) := by decide +kernel
theorem d_Sat_factorTwo_101 : decode b_Sat_factorTwo 101 = .ok (.getfield 31, 3) := by decide +kernel
theorem d_Sat_factorTwo_104 : decode b_Sat_factorTwo 104 = .ok (.invokevirtual 213, 3) := by decide +kernel
theorem d_Sat_factorTwo_107 : decode b_Sat_factorTwo 107 = .ok (.aload_n 0, 1) := by decide +kernel
theorem d_Sat_factorTwo_108 : decode b_Sat_factorTwo 108 = .ok (.iload_n 1, 1) := by decide +kernel
theorem d_Sat_factorTwo_109 : decode b_Sat_factorTwo 109 = .ok (.iload_n 2, 1) := by decide +kernel
theorem d_Sat_factorTwo_110 : decode b_Sat_factorTwo 110 = .ok (.iload_n 3, 1) := by decide +kernel
theorem d_Sat_factorTwo_111 : decode b_Sat_factorTwo 111 = .ok (.iconst 0, 1) := by decide +kernel
theorem d_Sat_factorTwo_112 : decode b_Sat_factorTwo 112 = .ok (.invokevirtual 215, 3) := by decide +kernel
theorem d_Sat_factorTwo_115 : decode b_Sat_factorTwo 115 = .ok (.aload_n 0, 1) := by decide +kernel
theorem d_Sat_factorTwo_116 : decode b_Sat_factorTwo 116 = .ok (.iconst 0, 1) := by decide +kernel
theorem d_Sat_factorTwo_117 : decode b_Sat_factorTwo 117 = .ok (.iload_n 2, 1) := by decide +kernel
theorem d_Sat_factorTwo_118 : decode b_Sat_factorTwo 118 = .ok (.iconst 1, 1) := by decide +kernel
theorem d_Sat_factorTwo_119 : decode b_Sat_factorTwo 119 = .ok (.iload 6, 2) := by decide +kernel
theorem d_Sat_factorTwo_121 : decode b_Sat_factorTwo 121 = .ok (.isub, 1) := by decide +kernel
theorem d_Sat_factorTwo_122 : decode b_Sat_factorTwo 122 = .ok (.iload_n 3, 1) := by decide +kernel
theorem d_Sat_factorTwo_123 : decode b_Sat_factorTwo 123 = .ok (.iconst 1, 1) := by decide +kernel
theorem d_Sat_factorTwo_124 : decode b_Sat_factorTwo 124 = .ok (.iload 7, 2) := by decide +kernel
theorem d_Sat_factorTwo_126 : decode b_Sat_factorTwo 126 = .ok (.isub, 1) := by decide +kernel
theorem d_Sat_factorTwo_127 : decode b_Sat_factorTwo 127 = .ok (.invokevirtual 259, 3) := by decide +kernel
theorem d_Sat_factorTwo_130 : decode b_Sat_factorTwo 130 = .ok (.aload_n 0, 1) := by decide +kernel
theorem d_Sat_factorTwo_131 : decode b_Sat_factorTwo 131 = .ok (.iconst 1, 1) := by decide +kernel
theorem d_Sat_factorTwo_132 : decode b_Sat_factorTwo 132 = .ok (.iload_n 2, 1) := by decide +kernel
theorem d_Sat_factorTwo_133 : decode b_Sat_factorTwo 133 = .ok (.iload 6, 2) := by decide +kernel
theorem d_Sat_factorTwo_135 : decode b_Sat_factorTwo 135 = .ok (.iload_n 3, 1) := by decide +kernel
theorem d_Sat_factorTwo_136 : decode b_Sat_factorTwo 136 = .ok (.iconst 1, 1) := by decide +kernel
theorem d_Sat_factorTwo_137 : decode b_Sat_factorTwo 137 = .ok (.iload 7, 2) := by decide +kernel
theorem d_Sat_factorTwo_139 : decode b_Sat_factorTwo 139 = .ok (.isub, 1) := by decide +kernel
theorem d_Sat_factorTwo_140 : decode b_Sat_factorTwo 140 = .ok (.invokevirtual 259, 3) := by decide +kernel
theorem d_Sat_factorTwo_143 : decode b_Sat_factorTwo 143 = .ok (.aload_n 0, 1) := by decide +kernel
theorem d_Sat_factorTwo_144 : decode b_Sat_factorTwo 144 = .ok (.iconst 3, 1) := by decide +kernel
theorem d_Sat_factorTwo_145 : decode b_Sat_factorTwo 145 = .ok (.iload_n 1, 1) := by decide +kernel
theorem d_Sat_factorTwo_146 : decode b_Sat_factorTwo 146 = .ok (.iconst (-1), 1) := by decide +kernel
theorem d_Sat_factorTwo_147 : decode b_Sat_factorTwo 147 = .ok (.invokevirtual 222, 3) := by decide +kernel
theorem d_Sat_factorTwo_150 : decode b_Sat_factorTwo 150 = .ok (.iinc 5 1, 3) := by decide +kernel
theorem d_Sat_factorTwo_153 : decode b_Sat_factorTwo 153 = .ok (.goto (-138), 3) := by decide +kernel
theorem d_Sat_factorTwo_156 : decode b_Sat_factorTwo 156 = .ok (.return_, 1) := by decide +kernel
abbrev b_Sat_inferFrom : ByteArray := prog_8_method_15_code
def y_Sat_inferFrom : MethodName := ⟨"ClauseProver$Saturation", "inferFrom", "(I)V"⟩
theorem d_Sat_inferFrom_0 : decode b_Sat_inferFrom 0 = .ok (.aload_n 0, 1) := by decide +kernel
theorem d_Sat_inferFrom_1 : decode b_Sat_inferFrom 1 = .ok (.getfield 27, 3) := by decide +kernel
theorem d_Sat_inferFrom_4 : decode b_Sat_inferFrom 4 = .ok (.getfield 112, 3) := by decide +kernel
theorem d_Sat_inferFrom_7 : decode b_Sat_inferFrom 7 = .ok (.istore_n 2, 1) := by decide +kernel
theorem d_Sat_inferFrom_8 : decode b_Sat_inferFrom 8 = .ok (.iconst 0, 1) := by decide +kernel
theorem d_Sat_inferFrom_9 : decode b_Sat_inferFrom 9 = .ok (.istore_n 3, 1) := by decide +kernel
theorem d_Sat_inferFrom_10 : decode b_Sat_inferFrom 10 = .ok (.iload_n 3, 1) := by decide +kernel
theorem d_Sat_inferFrom_11 : decode b_Sat_inferFrom 11 = .ok (.iload_n 2, 1) := by decide +kernel
theorem d_Sat_inferFrom_12 : decode b_Sat_inferFrom 12 = .ok (.if_icmp .ge 41, 3) := by decide +kernel
theorem d_Sat_inferFrom_15 : decode b_Sat_inferFrom 15 = .ok (.aload_n 0, 1) := by decide +kernel
theorem d_Sat_inferFrom_16 : decode b_Sat_inferFrom 16 = .ok (.getfield 58, 3) := by decide +kernel
theorem d_Sat_inferFrom_19 : decode b_Sat_inferFrom 19 = .ok (.ifCond .ne 34, 3) := by decide +kernel
theorem d_Sat_inferFrom_22 : decode b_Sat_inferFrom 22 = .ok (.aload_n 0, 1) := by decide +kernel
theorem d_Sat_inferFrom_23 : decode b_Sat_inferFrom 23 = .ok (.iload_n 3, 1) := by decide +kernel
theorem d_Sat_inferFrom_24 : decode b_Sat_inferFrom 24 = .ok (.invokevirtual 142, 3) := by decide +kernel
theorem d_Sat_inferFrom_27 : decode b_Sat_inferFrom 27 = .ok (.ifCond .eq 20, 3) := by decide +kernel
theorem d_Sat_inferFrom_30 : decode b_Sat_inferFrom 30 = .ok (.aload_n 0, 1) := by decide +kernel
theorem d_Sat_inferFrom_31 : decode b_Sat_inferFrom 31 = .ok (.iload_n 3, 1) := by decide +kernel
theorem d_Sat_inferFrom_32 : decode b_Sat_inferFrom 32 = .ok (.iload_n 1, 1) := by decide +kernel
theorem d_Sat_inferFrom_33 : decode b_Sat_inferFrom 33 = .ok (.invokevirtual 175, 3) := by decide +kernel
theorem d_Sat_inferFrom_36 : decode b_Sat_inferFrom 36 = .ok (.iload_n 3, 1) := by decide +kernel
theorem d_Sat_inferFrom_37 : decode b_Sat_inferFrom 37 = .ok (.iload_n 1, 1) := by decide +kernel
theorem d_Sat_inferFrom_38 : decode b_Sat_inferFrom 38 = .ok (.if_icmp .eq 9, 3) := by decide +kernel
theorem d_Sat_inferFrom_41 : decode b_Sat_inferFrom 41 = .ok (.aload_n 0, 1) := by decide +kernel
theorem d_Sat_inferFrom_42 : decode b_Sat_inferFrom 42 = .ok (.iload_n 1, 1) := by decide +kernel
theorem d_Sat_inferFrom_43 : decode b_Sat_inferFrom 43 = .ok (.iload_n 3, 1) := by decide +kernel
theorem d_Sat_inferFrom_44 : decode b_Sat_inferFrom 44 = .ok (.invokevirtual 175, 3) := by decide +kernel
theorem d_Sat_inferFrom_47 : decode b_Sat_inferFrom 47 = .ok (.iinc 3 1, 3) := by decide +kernel
theorem d_Sat_inferFrom_50 : decode b_Sat_inferFrom 50 = .ok (.goto (-40), 3) := by decide +kernel
theorem d_Sat_inferFrom_53 : decode b_Sat_inferFrom 53 = .ok (.aload_n 0, 1) := by decide +kernel
theorem d_Sat_inferFrom_54 : decode b_Sat_inferFrom 54 = .ok (.getfield 27, 3) := by decide +kernel
theorem d_Sat_inferFrom_57 : decode b_Sat_inferFrom 57 = .ok (.iload_n 1, 1) := by decide +kernel
theorem d_Sat_inferFrom_58 : decode b_Sat_inferFrom 58 = .ok (.invokevirtual 178, 3) := by decide +kernel
theorem d_Sat_inferFrom_61 : decode b_Sat_inferFrom 61 = .ok (.iconst (-1), 1) := by decide +kernel
theorem d_Sat_inferFrom_62 : decode b_Sat_inferFrom 62 = .ok (.if_icmp .ne 11, 3) := by decide +kernel
theorem d_Sat_inferFrom_65 : decode b_Sat_inferFrom 65 = .ok (.aload_n 0, 1) := by decide +kernel
theorem d_Sat_inferFrom_66 : decode b_Sat_inferFrom 66 = .ok (.iload_n 1, 1) := by decide +kernel
theorem d_Sat_inferFrom_67 : decode b_Sat_inferFrom 67 = .ok (.invokevirtual 181, 3) := by decide +kernel
theorem d_Sat_inferFrom_70 : decode b_Sat_inferFrom 70 = .ok (.goto 16, 3) := by decide +kernel
theorem d_Sat_inferFrom_73 : decode b_Sat_inferFrom 73 = .ok (.aload_n 0, 1) := by decide +kernel
theorem d_Sat_inferFrom_74 : decode b_Sat_inferFrom 74 = .ok (.iload_n 1, 1) := by decide +kernel
theorem d_Sat_inferFrom_75 : decode b_Sat_inferFrom 75 = .ok (.aload_n 0, 1) := by decide +kernel
theorem d_Sat_inferFrom_76 : decode b_Sat_inferFrom 76 = .ok (.getfield 27, 3) := by decide +kernel
theorem d_Sat_inferFrom_79 : decode b_Sat_inferFrom 79 = .ok (.iload_n 1, 1) := by decide +kernel
theorem d_Sat_inferFrom_80 : decode b_Sat_inferFrom 80 = .ok (.invokevirtual 178, 3) := by decide +kernel
theorem d_Sat_inferFrom_83 : decode b_Sat_inferFrom 83 = .ok (.invokevirtual 184, 3) := by decide +kernel
theorem d_Sat_inferFrom_86 : decode b_Sat_inferFrom 86 = .ok (.return_, 1) := by decide +kernel
abbrev b_Sat_keep : ByteArray := prog_8_method_21_code
def y_Sat_keep : MethodName := ⟨"ClauseProver$Saturation", "keep", "(III)V"⟩
theorem d_Sat_keep_0 : decode b_Sat_keep 0 = .ok (.aload_n 0, 1) := by decide +kernel
theorem d_Sat_keep_1 : decode b_Sat_keep 1 = .ok (.dup, 1) := by decide +kernel
theorem d_Sat_keep_2 : decode b_Sat_keep 2 = .ok (.getfield 65, 3) := by decide +kernel
theorem d_Sat_keep_5 : decode b_Sat_keep 5 = .ok (.iconst 1, 1) := by decide +kernel
theorem d_Sat_keep_6 : decode b_Sat_keep 6 = .ok (.iadd, 1) := by decide +kernel
theorem d_Sat_keep_7 : decode b_Sat_keep 7 = .ok (.putfield 65, 3) := by decide +kernel
theorem d_Sat_keep_10 : decode b_Sat_keep 10 = .ok (.aload_n 0, 1) := by decide +kernel
theorem d_Sat_keep_11 : decode b_Sat_keep 11 = .ok (.getfield 31, 3) := by decide +kernel
theorem d_Sat_keep_14 : decode b_Sat_keep 14 = .ok (.getfield 252, 3) := by decide +kernel
theorem d_Sat_keep_17 : decode b_Sat_keep 17 = .ok (.ifCond .eq 14, 3) := by decide +kernel
theorem d_Sat_keep_20 : decode b_Sat_keep 20 = .ok (.aload_n 0, 1) := by decide +kernel
theorem d_Sat_keep_21 : decode b_Sat_keep 21 = .ok (.dup, 1) := by decide +kernel
theorem d_Sat_keep_22 : decode b_Sat_keep 22 = .ok (.getfield 68, 3) := by decide +kernel
theorem d_Sat_keep_25 : decode b_Sat_keep 25 = .ok (.iconst 1, 1) := by decide +kernel
theorem d_Sat_keep_26 : decode b_Sat_keep 26 = .ok (.iadd, 1) := by decide +kernel
theorem d_Sat_keep_27 : decode b_Sat_keep 27 = .ok (.putfield 68, 3) := by decide +kernel
theorem d_Sat_keep_30 : decode b_Sat_keep 30 = .ok (.return_, 1) := by decide +kernel
theorem d_Sat_keep_31 : decode b_Sat_keep 31 = .ok (.aload_n 0, 1) := by decide +kernel
theorem d_Sat_keep_32 : decode b_Sat_keep 32 = .ok (.getfield 31, 3) := by decide +kernel
theorem d_Sat_keep_35 : decode b_Sat_keep 35 = .ok (.invokevirtual 136, 3) := by decide +kernel
theorem d_Sat_keep_38 : decode b_Sat_keep 38 = .ok (.aload_n 0, 1) := by decide +kernel
theorem d_Sat_keep_39 : decode b_Sat_keep 39 = .ok (.getfield 31, 3) := by decide +kernel
theorem d_Sat_keep_42 : decode b_Sat_keep 42 = .ok (.invokevirtual 155, 3) := by decide +kernel
theorem d_Sat_keep_45 : decode b_Sat_keep 45 = .ok (.ifCond .eq 16, 3) := by decide +kernel
theorem d_Sat_keep_48 : decode b_Sat_keep 48 = .ok (.aload_n 0, 1) := by decide +kernel
theorem d_Sat_keep_49 : decode b_Sat_keep 49 = .ok (.dup, 1) := by decide +kernel
theorem d_Sat_keep_50 : decode b_Sat_keep 50 = .ok (.getfield 77, 3) := by decide +kernel
theorem d_Sat_keep_53 : decode b_Sat_keep 53 = .ok (.iconst 1, 1) := by decide +kernel
theorem d_Sat_keep_54 : decode b_Sat_keep 54 = .ok (.iadd, 1) := by decide +kernel
theorem d_Sat_keep_55 : decode b_Sat_keep 55 = .ok (.putfield 77, 3) := by decide +kernel
theorem d_Sat_keep_58 : decode b_Sat_keep 58 = .ok (.goto 39, 3) := by decide +kernel
theorem d_Sat_keep_61 : decode b_Sat_keep 61 = .ok (.aload_n 0, 1) := by decide +kernel
theorem d_Sat_keep_62 : decode b_Sat_keep 62 = .ok (.getfield 27, 3) := by decide +kernel
theorem d_Sat_keep_65 : decode b_Sat_keep 65 = .ok (.getfield 112, 3) := by decide +kernel
theorem d_Sat_keep_68 : decode b_Sat_keep 68 = .ok (.sipush 2000, 3) := by decide +kernel
theorem d_Sat_keep_71 : decode b_Sat_keep 71 = .ok (.if_icmp .ne 11, 3) := by decide +kernel
theorem d_Sat_keep_74 : decode b_Sat_keep 74 = .ok (.aload_n 0, 1) := by decide +kernel
theorem d_Sat_keep_75 : decode b_Sat_keep 75 = .ok (.iconst 3, 1) := by decide +kernel
theorem d_Sat_keep_76 : decode b_Sat_keep 76 = .ok (.putfield 58, 3) := by decide +kernel
theorem d_Sat_keep_79 : decode b_Sat_keep 79 = .ok (.goto 18, 3) := by decide +kernel
theorem d_Sat_keep_82 : decode b_Sat_keep 82 = .ok (.aload_n 0, 1) := by decide +kernel
theorem d_Sat_keep_83 : decode b_Sat_keep 83 = .ok (.getfield 27, 3) := by decide +kernel
theorem d_Sat_keep_86 : decode b_Sat_keep 86 = .ok (.aload_n 0, 1) := by decide +kernel
theorem d_Sat_keep_87 : decode b_Sat_keep 87 = .ok (.getfield 31, 3) := by decide +kernel
theorem d_Sat_keep_90 : decode b_Sat_keep 90 = .ok (.iload_n 1, 1) := by decide +kernel
theorem d_Sat_keep_91 : decode b_Sat_keep 91 = .ok (.iload_n 2, 1) := by decide +kernel
theorem d_Sat_keep_92 : decode b_Sat_keep 92 = .ok (.iload_n 3, 1) := by decide +kernel
theorem d_Sat_keep_93 : decode b_Sat_keep 93 = .ok (.invokevirtual 159, 3) := by decide +kernel
theorem d_Sat_keep_96 : decode b_Sat_keep 96 = .ok (.pop, 1) := by decide +kernel
theorem d_Sat_keep_97 : decode b_Sat_keep 97 = .ok (.return_, 1) := by decide +kernel
abbrev b_Sat_keepRewritten : ByteArray := prog_8_method_10_code
def y_Sat_keepRewritten : MethodName := ⟨"ClauseProver$Saturation", "keepRewritten", "(II)I"⟩
theorem d_Sat_keepRewritten_0 : decode b_Sat_keepRewritten 0 = .ok (.aload_n 0, 1) := by decide +kernel
theorem d_Sat_keepRewritten_1 : decode b_Sat_keepRewritten 1 = .ok (.getfield 31, 3) := by decide +kernel
theorem d_Sat_keepRewritten_4 : decode b_Sat_keepRewritten 4 = .ok (.invokevirtual 155, 3) := by decide +kernel
theorem d_Sat_keepRewritten_7 : decode b_Sat_keepRewritten 7 = .ok (.ifCond .eq 15, 3) := by decide +kernel
theorem d_Sat_keepRewritten_10 : decode b_Sat_keepRewritten 10 = .ok (.aload_n 0, 1) := by decide +kernel
theorem d_Sat_keepRewritten_11 : decode b_Sat_keepRewritten 11 = .ok (.dup, 1) := by decide +kernel
theorem d_Sat_keepRewritten_12 : decode b_Sat_keepRewritten 12 = .ok (.getfield 77, 3) := by decide +kernel
theorem d_Sat_keepRewritten_15 : decode b_Sat_keepRewritten 15 = .ok (.iconst 1, 1) := by decide +kernel
theorem d_Sat_keepRewritten_16 : decode b_Sat_keepRewritten 16 = .ok (.iadd, 1) := by decide +kernel
theorem d_Sat_keepRewritten_17 : decode b_Sat_keepRewritten 17 = .ok (.putfield 77, 3) := by decide +kernel
theorem d_Sat_keepRewritten_20 : decode b_Sat_keepRewritten 20 = .ok (.iconst (-1), 1) := by decide +kernel
theorem d_Sat_keepRewritten_21 : decode b_Sat_keepRewritten 21 = .ok (.ireturn, 1) := by decide +kernel
theorem d_Sat_keepRewritten_22 : decode b_Sat_keepRewritten 22 = .ok (.aload_n 0, 1) := by decide +kernel
theorem d_Sat_keepRewritten_23 : decode b_Sat_keepRewritten 23 = .ok (.getfield 27, 3) := by decide +kernel
theorem d_Sat_keepRewritten_26 : decode b_Sat_keepRewritten 26 = .ok (.getfield 112, 3) := by decide +kernel
theorem d_Sat_keepRewritten_29 : decode b_Sat_keepRewritten 29 = .ok (.sipush 2000, 3) := by decide +kernel
theorem d_Sat_keepRewritten_32 : decode b_Sat_keepRewritten 32 = .ok (.if_icmp .ne 10, 3) := by decide +kernel
theorem d_Sat_keepRewritten_35 : decode b_Sat_keepRewritten 35 = .ok (.aload_n 0, 1) := by decide +kernel
theorem d_Sat_keepRewritten_36 : decode b_Sat_keepRewritten 36 = .ok (.iconst 3, 1) := by decide +kernel
theorem d_Sat_keepRewritten_37 : decode b_Sat_keepRewritten 37 = .ok (.putfield 58, 3) := by decide +kernel
theorem d_Sat_keepRewritten_40 : decode b_Sat_keepRewritten 40 = .ok (.iconst (-1), 1) := by decide +kernel
theorem d_Sat_keepRewritten_41 : decode b_Sat_keepRewritten 41 = .ok (.ireturn, 1) := by decide +kernel
theorem d_Sat_keepRewritten_42 : decode b_Sat_keepRewritten 42 = .ok (.aload_n 0, 1) := by decide +kernel
theorem d_Sat_keepRewritten_43 : decode b_Sat_keepRewritten 43 = .ok (.getfield 27, 3) := by decide +kernel
theorem d_Sat_keepRewritten_46 : decode b_Sat_keepRewritten 46 = .ok (.aload_n 0, 1) := by decide +kernel
theorem d_Sat_keepRewritten_47 : decode b_Sat_keepRewritten 47 = .ok (.getfield 31, 3) := by decide +kernel
theorem d_Sat_keepRewritten_50 : decode b_Sat_keepRewritten 50 = .ok (.iconst 4, 1) := by decide +kernel
theorem d_Sat_keepRewritten_51 : decode b_Sat_keepRewritten 51 = .ok (.iload_n 1, 1) := by decide +kernel
theorem d_Sat_keepRewritten_52 : decode b_Sat_keepRewritten 52 = .ok (.iconst (-1), 1) := by decide +kernel
theorem d_Sat_keepRewritten_53 : decode b_Sat_keepRewritten 53 = .ok (.invokevirtual 159, 3) := by decide +kernel
theorem d_Sat_keepRewritten_56 : decode b_Sat_keepRewritten 56 = .ok (.istore_n 3, 1) := by decide +kernel
theorem d_Sat_keepRewritten_57 : decode b_Sat_keepRewritten 57 = .ok (.aload_n 0, 1) := by decide +kernel
theorem d_Sat_keepRewritten_58 : decode b_Sat_keepRewritten 58 = .ok (.getfield 27, 3) := by decide +kernel
theorem d_Sat_keepRewritten_61 : decode b_Sat_keepRewritten 61 = .ok (.iload_n 3, 1) := by decide +kernel
theorem d_Sat_keepRewritten_62 : decode b_Sat_keepRewritten 62 = .ok (.bipush 6, 2) := by decide +kernel
theorem d_Sat_keepRewritten_64 : decode b_Sat_keepRewritten 64 = .ok (.iconst 2, 1) := by decide +kernel
theorem d_Sat_keepRewritten_65 : decode b_Sat_keepRewritten 65 = .ok (.invokevirtual 87, 3) := by decide +kernel
theorem d_Sat_keepRewritten_68 : decode b_Sat_keepRewritten 68 = .ok (.aload_n 0, 1) := by decide +kernel
theorem d_Sat_keepRewritten_69 : decode b_Sat_keepRewritten 69 = .ok (.getfield 27, 3) := by decide +kernel
theorem d_Sat_keepRewritten_72 : decode b_Sat_keepRewritten 72 = .ok (.iload_n 3, 1) := by decide +kernel
theorem d_Sat_keepRewritten_73 : decode b_Sat_keepRewritten 73 = .ok (.bipush 7, 2) := by decide +kernel
theorem d_Sat_keepRewritten_75 : decode b_Sat_keepRewritten 75 = .ok (.aload_n 0, 1) := by decide +kernel
theorem d_Sat_keepRewritten_76 : decode b_Sat_keepRewritten 76 = .ok (.getfield 27, 3) := by decide +kernel
theorem d_Sat_keepRewritten_79 : decode b_Sat_keepRewritten 79 = .ok (.getfield 125, 3) := by decide +kernel
theorem d_Sat_keepRewritten_82 : decode b_Sat_keepRewritten 82 = .ok (.getfield 80, 3) := by decide +kernel
theorem d_Sat_keepRewritten_85 : decode b_Sat_keepRewritten 85 = .ok (.iload_n 2, 1) := by decide +kernel
theorem d_Sat_keepRewritten_86 : decode b_Sat_keepRewritten 86 = .ok (.isub, 1) := by decide +kernel
theorem d_Sat_keepRewritten_87 : decode b_Sat_keepRewritten 87 = .ok (.invokevirtual 87, 3) := by decide +kernel
theorem d_Sat_keepRewritten_90 : decode b_Sat_keepRewritten 90 = .ok (.aload_n 0, 1) := by decide +kernel
theorem d_Sat_keepRewritten_91 : decode b_Sat_keepRewritten 91 = .ok (.getfield 27, 3) := by decide +kernel
theorem d_Sat_keepRewritten_94 : decode b_Sat_keepRewritten 94 = .ok (.iload_n 3, 1) := by decide +kernel
theorem d_Sat_keepRewritten_95 : decode b_Sat_keepRewritten 95 = .ok (.bipush 9, 2) := by decide +kernel
theorem d_Sat_keepRewritten_97 : decode b_Sat_keepRewritten 97 = .ok (.iload_n 2, 1) := by decide +kernel
theorem d_Sat_keepRewritten_98 : decode b_Sat_keepRewritten 98 = .ok (.invokevirtual 87, 3) := by decide +kernel
theorem d_Sat_keepRewritten_101 : decode b_Sat_keepRewritten 101 = .ok (.iload_n 3, 1) := by decide +kernel
theorem d_Sat_keepRewritten_102 : decode b_Sat_keepRewritten 102 = .ok (.ireturn, 1) := by decide +kernel
abbrev b_Sat_listSingles : ByteArray := prog_8_method_8_code
def y_Sat_listSingles : MethodName := ⟨"ClauseProver$Saturation", "listSingles", "()V"⟩
theorem d_Sat_listSingles_0 : decode b_Sat_listSingles 0 = .ok (.aload_n 0, 1) := by decide +kernel
theorem d_Sat_listSingles_1 : decode b_Sat_listSingles 1 = .ok (.getfield 20, 3) := by decide +kernel
theorem d_Sat_listSingles_4 : decode b_Sat_listSingles 4 = .ok (.iconst 0, 1) := by decide +kernel
theorem d_Sat_listSingles_5 : decode b_Sat_listSingles 5 = .ok (.putfield 80, 3) := by decide +kernel
theorem d_Sat_listSingles_8 : decode b_Sat_listSingles 8 = .ok (.iconst 0, 1) := by decide +kernel
theorem d_Sat_listSingles_9 : decode b_Sat_listSingles 9 = .ok (.istore_n 1, 1) := by decide +kernel
theorem d_Sat_listSingles_10 : decode b_Sat_listSingles 10 = .ok (.iload_n 1, 1) := by decide +kernel
theorem d_Sat_listSingles_11 : decode b_Sat_listSingles 11 = .ok (.aload_n 0, 1) := by decide +kernel
theorem d_Sat_listSingles_12 : decode b_Sat_listSingles 12 = .ok (.getfield 27, 3) := by decide +kernel
theorem d_Sat_listSingles_15 : decode b_Sat_listSingles 15 = .ok (.getfield 112, 3) := by decide +kernel
theorem d_Sat_listSingles_18 : decode b_Sat_listSingles 18 = .ok (.if_icmp .ge 33, 3) := by decide +kernel
theorem d_Sat_listSingles_21 : decode b_Sat_listSingles 21 = .ok (.aload_n 0, 1) := by decide +kernel
theorem d_Sat_listSingles_22 : decode b_Sat_listSingles 22 = .ok (.iload_n 1, 1) := by decide +kernel
theorem d_Sat_listSingles_23 : decode b_Sat_listSingles 23 = .ok (.invokevirtual 142, 3) := by decide +kernel
theorem d_Sat_listSingles_26 : decode b_Sat_listSingles 26 = .ok (.ifCond .eq 19, 3) := by decide +kernel
theorem d_Sat_listSingles_29 : decode b_Sat_listSingles 29 = .ok (.aload_n 0, 1) := by decide +kernel
theorem d_Sat_listSingles_30 : decode b_Sat_listSingles 30 = .ok (.iload_n 1, 1) := by decide +kernel
theorem d_Sat_listSingles_31 : decode b_Sat_listSingles 31 = .ok (.invokevirtual 145, 3) := by decide +kernel
theorem d_Sat_listSingles_34 : decode b_Sat_listSingles 34 = .ok (.ifCond .eq 11, 3) := by decide +kernel
theorem d_Sat_listSingles_37 : decode b_Sat_listSingles 37 = .ok (.aload_n 0, 1) := by decide +kernel
theorem d_Sat_listSingles_38 : decode b_Sat_listSingles 38 = .ok (.getfield 20, 3) := by decide +kernel
theorem d_Sat_listSingles_41 : decode b_Sat_listSingles 41 = .ok (.iload_n 1, 1) := by decide +kernel
theorem d_Sat_listSingles_42 : decode b_Sat_listSingles 42 = .ok (.invokevirtual 148, 3) := by decide +kernel
theorem d_Sat_listSingles_45 : decode b_Sat_listSingles 45 = .ok (.iinc 1 1, 3) := by decide +kernel
theorem d_Sat_listSingles_48 : decode b_Sat_listSingles 48 = .ok (.goto (-38), 3) := by decide +kernel
theorem d_Sat_listSingles_51 : decode b_Sat_listSingles 51 = .ok (.return_, 1) := by decide +kernel
abbrev b_Sat_noteRewriter : ByteArray := prog_8_method_9_code
def y_Sat_noteRewriter : MethodName := ⟨"ClauseProver$Saturation", "noteRewriter", "(II)V"⟩
theorem d_Sat_noteRewriter_0 : decode b_Sat_noteRewriter 0 = .ok (.iload_n 1, 1) := by decide +kernel
theorem d_Sat_noteRewriter_1 : decode b_Sat_noteRewriter 1 = .ok (.istore_n 3, 1) := by decide +kernel
theorem d_Sat_noteRewriter_2 : decode b_Sat_noteRewriter 2 = .ok (.iload_n 3, 1) := by decide +kernel
theorem d_Sat_noteRewriter_3 : decode b_Sat_noteRewriter 3 = .ok (.aload_n 0, 1) := by decide +kernel
theorem d_Sat_noteRewriter_4 : decode b_Sat_noteRewriter 4 = .ok (.getfield 27, 3) := by decide +kernel
theorem d_Sat_noteRewriter_7 : decode b_Sat_noteRewriter 7 = .ok (.getfield 125, 3) := by decide +kernel
theorem d_Sat_noteRewriter_10 : decode b_Sat_noteRewriter 10 = .ok (.getfield 80, 3) := by decide +kernel
theorem d_Sat_noteRewriter_13 : decode b_Sat_noteRewriter 13 = .ok (.if_icmp .ge 26, 3) := by decide +kernel
theorem d_Sat_noteRewriter_16 : decode b_Sat_noteRewriter 16 = .ok (.aload_n 0, 1) := by decide +kernel
theorem d_Sat_noteRewriter_17 : decode b_Sat_noteRewriter 17 = .ok (.getfield 27, 3) := by decide +kernel
theorem d_Sat_noteRewriter_20 : decode b_Sat_noteRewriter 20 = .ok (.getfield 125, 3) := by decide +kernel
theorem d_Sat_noteRewriter_23 : decode b_Sat_noteRewriter 23 = .ok (.getfield 151, 3) := by decide +kernel
theorem d_Sat_noteRewriter_26 : decode b_Sat_noteRewriter 26 = .ok (.iload_n 3, 1) := by decide +kernel
theorem d_Sat_noteRewriter_27 : decode b_Sat_noteRewriter 27 = .ok (.iaload, 1) := by decide +kernel
theorem d_Sat_noteRewriter_28 : decode b_Sat_noteRewriter 28 = .ok (.iload_n 2, 1) := by decide +kernel
theorem d_Sat_noteRewriter_29 : decode b_Sat_noteRewriter 29 = .ok (.if_icmp .ne 4, 3) := by decide +kernel
theorem d_Sat_noteRewriter_32 : decode b_Sat_noteRewriter 32 = .ok (.return_, 1) := by decide +kernel
theorem d_Sat_noteRewriter_33 : decode b_Sat_noteRewriter 33 = .ok (.iinc 3 1, 3) := by decide +kernel
theorem d_Sat_noteRewriter_36 : decode b_Sat_noteRewriter 36 = .ok (.goto (-34), 3) := by decide +kernel
theorem d_Sat_noteRewriter_39 : decode b_Sat_noteRewriter 39 = .ok (.aload_n 0, 1) := by decide +kernel
theorem d_Sat_noteRewriter_40 : decode b_Sat_noteRewriter 40 = .ok (.getfield 27, 3) := by decide +kernel
theorem d_Sat_noteRewriter_43 : decode b_Sat_noteRewriter 43 = .ok (.getfield 125, 3) := by decide +kernel
theorem d_Sat_noteRewriter_46 : decode b_Sat_noteRewriter 46 = .ok (.iload_n 2, 1) := by decide +kernel
theorem d_Sat_noteRewriter_47 : decode b_Sat_noteRewriter 47 = .ok (.invokevirtual 148, 3) := by decide +kernel
theorem d_Sat_noteRewriter_50 : decode b_Sat_noteRewriter 50 = .ok (.return_, 1) := by decide +kernel
abbrev b_Sat_refute : ByteArray := prog_8_method_11_code
def y_Sat_refute : MethodName := ⟨"ClauseProver$Saturation", "refute", "(I)V"⟩
theorem d_Sat_refute_0 : decode b_Sat_refute 0 = .ok (.aload_n 0, 1) := by decide +kernel
theorem d_Sat_refute_1 : decode b_Sat_refute 1 = .ok (.iconst 1, 1) := by decide +kernel
theorem d_Sat_refute_2 : decode b_Sat_refute 2 = .ok (.putfield 58, 3) := by decide +kernel
theorem d_Sat_refute_5 : decode b_Sat_refute 5 = .ok (.aload_n 0, 1) := by decide +kernel
theorem d_Sat_refute_6 : decode b_Sat_refute 6 = .ok (.iload_n 1, 1) := by decide +kernel
theorem d_Sat_refute_7 : decode b_Sat_refute 7 = .ok (.invokevirtual 162, 3) := by decide +kernel
theorem d_Sat_refute_10 : decode b_Sat_refute 10 = .ok (.iload_n 1, 1) := by decide +kernel
theorem d_Sat_refute_11 : decode b_Sat_refute 11 = .ok (.istore_n 2, 1) := by decide +kernel
theorem d_Sat_refute_12 : decode b_Sat_refute 12 = .ok (.iload_n 2, 1) := by decide +kernel
theorem d_Sat_refute_13 : decode b_Sat_refute 13 = .ok (.ifCond .lt 98, 3) := by decide +kernel
theorem d_Sat_refute_16 : decode b_Sat_refute 16 = .ok (.aload_n 0, 1) := by decide +kernel
theorem d_Sat_refute_17 : decode b_Sat_refute 17 = .ok (.getfield 27, 3) := by decide +kernel
theorem d_Sat_refute_20 : decode b_Sat_refute 20 = .ok (.iload_n 2, 1) := by decide +kernel
theorem d_Sat_refute_21 : decode b_Sat_refute 21 = .ok (.bipush 10, 2) := by decide +kernel
theorem d_Sat_refute_23 : decode b_Sat_refute 23 = .ok (.invokevirtual 91, 3) := by decide +kernel
theorem d_Sat_refute_26 : decode b_Sat_refute 26 = .ok (.iconst 1, 1) := by decide +kernel
theorem d_Sat_refute_27 : decode b_Sat_refute 27 = .ok (.if_icmp .ne 78, 3) := by decide +kernel
theorem d_Sat_refute_30 : decode b_Sat_refute 30 = .ok (.aload_n 0, 1) := by decide +kernel
theorem d_Sat_refute_31 : decode b_Sat_refute 31 = .ok (.aload_n 0, 1) := by decide +kernel
theorem d_Sat_refute_32 : decode b_Sat_refute 32 = .ok (.getfield 27, 3) := by decide +kernel
theorem d_Sat_refute_35 : decode b_Sat_refute 35 = .ok (.iload_n 2, 1) := by decide +kernel
theorem d_Sat_refute_36 : decode b_Sat_refute 36 = .ok (.iconst 1, 1) := by decide +kernel
theorem d_Sat_refute_37 : decode b_Sat_refute 37 = .ok (.invokevirtual 91, 3) := by decide +kernel
theorem d_Sat_refute_40 : decode b_Sat_refute 40 = .ok (.invokevirtual 162, 3) := by decide +kernel
theorem d_Sat_refute_43 : decode b_Sat_refute 43 = .ok (.aload_n 0, 1) := by decide +kernel
theorem d_Sat_refute_44 : decode b_Sat_refute 44 = .ok (.aload_n 0, 1) := by decide +kernel
theorem d_Sat_refute_45 : decode b_Sat_refute 45 = .ok (.getfield 27, 3) := by decide +kernel
theorem d_Sat_refute_48 : decode b_Sat_refute 48 = .ok (.iload_n 2, 1) := by decide +kernel
theorem d_Sat_refute_49 : decode b_Sat_refute 49 = .ok (.iconst 2, 1) := by decide +kernel
theorem d_Sat_refute_50 : decode b_Sat_refute 50 = .ok (.invokevirtual 91, 3) := by decide +kernel
theorem d_Sat_refute_53 : decode b_Sat_refute 53 = .ok (.invokevirtual 162, 3) := by decide +kernel
theorem d_Sat_refute_56 : decode b_Sat_refute 56 = .ok (.iconst 0, 1) := by decide +kernel
theorem d_Sat_refute_57 : decode b_Sat_refute 57 = .ok (.istore_n 3, 1) := by decide +kernel
theorem d_Sat_refute_58 : decode b_Sat_refute 58 = .ok (.iload_n 3, 1) := by decide +kernel
theorem d_Sat_refute_59 : decode b_Sat_refute 59 = .ok (.aload_n 0, 1) := by decide +kernel
theorem d_Sat_refute_60 : decode b_Sat_refute 60 = .ok (.getfield 27, 3) := by decide +kernel
theorem d_Sat_refute_63 : decode b_Sat_refute 63 = .ok (.iload_n 2, 1) := by decide +kernel
theorem d_Sat_refute_64 : decode b_Sat_refute 64 = .ok (.bipush 7, 2) := by decide +kernel
theorem d_Sat_refute_66 : decode b_Sat_refute 66 = .ok (.invokevirtual 91, 3) := by decide +kernel
theorem d_Sat_refute_69 : decode b_Sat_refute 69 = .ok (.if_icmp .ge 36, 3) := by decide +kernel
theorem d_Sat_refute_72 : decode b_Sat_refute 72 = .ok (.aload_n 0, 1) := by decide +kernel
theorem d_Sat_refute_73 : decode b_Sat_refute 73 = .ok (.aload_n 0, 1) := by decide +kernel
theorem d_Sat_refute_74 : decode b_Sat_refute 74 = .ok (.getfield 27, 3) := by decide +kernel
theorem d_Sat_refute_77 : decode b_Sat_refute 77 = .ok (.getfield 125, 3) := by decide +kernel
theorem d_Sat_refute_80 : decode b_Sat_refute 80 = .ok (.getfield 151, 3) := by decide +kernel
theorem d_Sat_refute_83 : decode b_Sat_refute 83 = .ok (.aload_n 0, 1) := by decide +kernel
theorem d_Sat_refute_84 : decode b_Sat_refute 84 = .ok (.getfield 27, 3) := by decide +kernel
theorem d_Sat_refute_87 : decode b_Sat_refute 87 = .ok (.iload_n 2, 1) := by decide +kernel
theorem d_Sat_refute_88 : decode b_Sat_refute 88 = .ok (.bipush 9, 2) := by decide +kernel
theorem d_Sat_refute_90 : decode b_Sat_refute 90 = .ok (.invokevirtual 91, 3) := by decide +kernel
theorem d_Sat_refute_93 : decode b_Sat_refute 93 = .ok (.iload_n 3, 1) := by decide +kernel
theorem d_Sat_refute_94 : decode b_Sat_refute 94 = .ok (.iadd, 1) := by decide +kernel
theorem d_Sat_refute_95 : decode b_Sat_refute 95 = .ok (.iaload, 1) := by decide +kernel
theorem d_Sat_refute_96 : decode b_Sat_refute 96 = .ok (.invokevirtual 162, 3) := by decide +kernel
theorem d_Sat_refute_99 : decode b_Sat_refute 99 = .ok (.iinc 3 1, 3) := by decide +kernel
theorem d_Sat_refute_102 : decode b_Sat_refute 102 = .ok (.goto (-44), 3) := by decide +kernel
theorem d_Sat_refute_105 : decode b_Sat_refute 105 = .ok (.iinc 2 (-1), 3) := by decide +kernel
theorem d_Sat_refute_108 : decode b_Sat_refute 108 = .ok (.goto (-96), 3) := by decide +kernel
theorem d_Sat_refute_111 : decode b_Sat_refute 111 = .ok (.iconst 0, 1) := by decide +kernel
theorem d_Sat_refute_112 : decode b_Sat_refute 112 = .ok (.istore_n 2, 1) := by decide +kernel
theorem d_Sat_refute_113 : decode b_Sat_refute 113 = .ok (.iload_n 2, 1) := by decide +kernel
theorem d_Sat_refute_114 : decode b_Sat_refute 114 = .ok (.iload_n 1, 1) := by decide +kernel
theorem d_Sat_refute_115 : decode b_Sat_refute 115 = .ok (.if_icmp .gt 31, 3) := by decide +kernel
theorem d_Sat_refute_118 : decode b_Sat_refute 118 = .ok (.aload_n 0, 1) := by decide +kernel
theorem d_Sat_refute_119 : decode b_Sat_refute 119 = .ok (.getfield 27, 3) := by decide +kernel
theorem d_Sat_refute_122 : decode b_Sat_refute 122 = .ok (.iload_n 2, 1) := by decide +kernel
theorem d_Sat_refute_123 : decode b_Sat_refute 123 = .ok (.bipush 10, 2) := by decide +kernel
theorem d_Sat_refute_125 : decode b_Sat_refute 125 = .ok (.invokevirtual 91, 3) := by decide +kernel
theorem d_Sat_refute_128 : decode b_Sat_refute 128 = .ok (.iconst 1, 1) := by decide +kernel
theorem d_Sat_refute_129 : decode b_Sat_refute 129 = .ok (.if_icmp .ne 11, 3) := by decide +kernel
theorem d_Sat_refute_132 : decode b_Sat_refute 132 = .ok (.aload_n 0, 1) := by decide +kernel
theorem d_Sat_refute_133 : decode b_Sat_refute 133 = .ok (.getfield 14, 3) := by decide +kernel
theorem d_Sat_refute_136 : decode b_Sat_refute 136 = .ok (.iload_n 2, 1) := by decide +kernel
theorem d_Sat_refute_137 : decode b_Sat_refute 137 = .ok (.invokevirtual 148, 3) := by decide +kernel
theorem d_Sat_refute_140 : decode b_Sat_refute 140 = .ok (.iinc 2 1, 3) := by decide +kernel
theorem d_Sat_refute_143 : decode b_Sat_refute 143 = .ok (.goto (-30), 3) := by decide +kernel
theorem d_Sat_refute_146 : decode b_Sat_refute 146 = .ok (.return_, 1) := by decide +kernel
abbrev b_Sat_resolve : ByteArray := prog_8_method_22_code
def y_Sat_resolve : MethodName := ⟨"ClauseProver$Saturation", "resolve", "(II)V"⟩
theorem d_Sat_resolve_0 : decode b_Sat_resolve 0 = .ok (.aload_n 0, 1) := by decide +kernel
theorem d_Sat_resolve_1 : decode b_Sat_resolve 1 = .ok (.getfield 27, 3) := by decide +kernel
theorem d_Sat_resolve_4 : decode b_Sat_resolve 4 = .ok (.iload_n 1, 1) := by decide +kernel
theorem d_Sat_resolve_5 : decode b_Sat_resolve 5 = .ok (.bipush 8, 2) := by decide +kernel
theorem d_Sat_resolve_7 : decode b_Sat_resolve 7 = .ok (.invokevirtual 91, 3) := by decide +kernel
theorem d_Sat_resolve_10 : decode b_Sat_resolve 10 = .ok (.istore_n 3, 1) := by decide +kernel
theorem d_Sat_resolve_11 : decode b_Sat_resolve 11 = .ok (.aload_n 0, 1) := by decide +kernel
theorem d_Sat_resolve_12 : decode b_Sat_resolve 12 = .ok (.getfield 45, 3) := by decide +kernel
theorem d_Sat_resolve_15 : decode b_Sat_resolve 15 = .ok (.iload_n 3, 1) := by decide +kernel
theorem d_Sat_resolve_16 : decode b_Sat_resolve 16 = .ok (.iload_n 3, 1) := by decide +kernel
theorem d_Sat_resolve_17 : decode b_Sat_resolve 17 = .ok (.invokevirtual 206, 3) := by decide +kernel
theorem d_Sat_resolve_20 : decode b_Sat_resolve 20 = .ok (.aload_n 0, 1) := by decide +kernel
theorem d_Sat_resolve_21 : decode b_Sat_resolve 21 = .ok (.getfield 58, 3) := by decide +kernel
theorem d_Sat_resolve_24 : decode b_Sat_resolve 24 = .ok (.ifCond .ne 56, 3) := by decide +kernel
theorem d_Sat_resolve_27 : decode b_Sat_resolve 27 = .ok (.aload_n 0, 1) := by decide +kernel
theorem d_Sat_resolve_28 : decode b_Sat_resolve 28 = .ok (.getfield 45, 3) := by decide +kernel
theorem d_Sat_resolve_31 : decode b_Sat_resolve 31 = .ok (.aload_n 0, 1) := by decide +kernel
theorem d_Sat_resolve_32 : decode b_Sat_resolve 32 = .ok (.getfield 27, 3) := by decide +kernel
theorem d_Sat_resolve_35 : decode b_Sat_resolve 35 = .ok (.iload_n 2, 1) := by decide +kernel
theorem d_Sat_resolve_36 : decode b_Sat_resolve 36 = .ok (.iconst 0, 1) := by decide +kernel
theorem d_Sat_resolve_37 : decode b_Sat_resolve 37 = .ok (.invokevirtual 200, 3) := by decide +kernel
theorem d_Sat_resolve_40 : decode b_Sat_resolve 40 = .ok (.iconst 0, 1) := by decide +kernel
theorem d_Sat_resolve_41 : decode b_Sat_resolve 41 = .ok (.aload_n 0, 1) := by decide +kernel
theorem d_Sat_resolve_42 : decode b_Sat_resolve 42 = .ok (.getfield 27, 3) := by decide +kernel
theorem d_Sat_resolve_45 : decode b_Sat_resolve 45 = .ok (.iload_n 2, 1) := by decide +kernel
theorem d_Sat_resolve_46 : decode b_Sat_resolve 46 = .ok (.iconst 1, 1) := by decide +kernel
theorem d_Sat_resolve_47 : decode b_Sat_resolve 47 = .ok (.invokevirtual 200, 3) := by decide +kernel
theorem d_Sat_resolve_50 : decode b_Sat_resolve 50 = .ok (.iconst 0, 1) := by decide +kernel
theorem d_Sat_resolve_51 : decode b_Sat_resolve 51 = .ok (.iconst 0, 1) := by decide +kernel
theorem d_Sat_resolve_52 : decode b_Sat_resolve 52 = .ok (.invokevirtual 209, 3) := by decide +kernel
theorem d_Sat_resolve_55 : decode b_Sat_resolve 55 = .ok (.ifCond .eq 25, 3) := by decide +kernel
theorem d_Sat_resolve_58 : decode b_Sat_resolve 58 = .ok (.aload_n 0, 1) := by decide +kernel
theorem d_Sat_resolve_59 : decode b_Sat_resolve 59 = .ok (.getfield 31, 3) := by decide +kernel
theorem d_Sat_resolve_62 : decode b_Sat_resolve 62 = .ok (.invokevirtual 213, 3) := by decide +kernel
theorem d_Sat_resolve_65 : decode b_Sat_resolve 65 = .ok (.aload_n 0, 1) := by decide +kernel
theorem d_Sat_resolve_66 : decode b_Sat_resolve 66 = .ok (.iload_n 1, 1) := by decide +kernel
theorem d_Sat_resolve_67 : decode b_Sat_resolve 67 = .ok (.iload_n 2, 1) := by decide +kernel
theorem d_Sat_resolve_68 : decode b_Sat_resolve 68 = .ok (.iconst (-1), 1) := by decide +kernel
theorem d_Sat_resolve_69 : decode b_Sat_resolve 69 = .ok (.iconst 0, 1) := by decide +kernel
theorem d_Sat_resolve_70 : decode b_Sat_resolve 70 = .ok (.invokevirtual 215, 3) := by decide +kernel
theorem d_Sat_resolve_73 : decode b_Sat_resolve 73 = .ok (.aload_n 0, 1) := by decide +kernel
theorem d_Sat_resolve_74 : decode b_Sat_resolve 74 = .ok (.iconst 2, 1) := by decide +kernel
theorem d_Sat_resolve_75 : decode b_Sat_resolve 75 = .ok (.iload_n 1, 1) := by decide +kernel
theorem d_Sat_resolve_76 : decode b_Sat_resolve 76 = .ok (.iconst (-1), 1) := by decide +kernel
theorem d_Sat_resolve_77 : decode b_Sat_resolve 77 = .ok (.invokevirtual 222, 3) := by decide +kernel
theorem d_Sat_resolve_80 : decode b_Sat_resolve 80 = .ok (.return_, 1) := by decide +kernel
abbrev b_Sat_rewrite : ByteArray := prog_8_method_7_code
def y_Sat_rewrite : MethodName := ⟨"ClauseProver$Saturation", "rewrite", "(I)I"⟩
theorem d_Sat_rewrite_0 : decode b_Sat_rewrite 0 = .ok (.aload_n 0, 1) := by decide +kernel
theorem d_Sat_rewrite_1 : decode b_Sat_rewrite 1 = .ok (.invokevirtual 116, 3) := by decide +kernel
theorem d_Sat_rewrite_4 : decode b_Sat_rewrite 4 = .ok (.aload_n 0, 1) := by decide +kernel
theorem d_Sat_rewrite_5 : decode b_Sat_rewrite 5 = .ok (.getfield 31, 3) := by decide +kernel
theorem d_Sat_rewrite_8 : decode b_Sat_rewrite 8 = .ok (.aload_n 0, 1) := by decide +kernel
theorem d_Sat_rewrite_9 : decode b_Sat_rewrite 9 = .ok (.getfield 27, 3) := by decide +kernel
theorem d_Sat_rewrite_12 : decode b_Sat_rewrite 12 = .ok (.iload_n 1, 1) := by decide +kernel
theorem d_Sat_rewrite_13 : decode b_Sat_rewrite 13 = .ok (.invokevirtual 119, 3) := by decide +kernel
theorem d_Sat_rewrite_16 : decode b_Sat_rewrite 16 = .ok (.aload_n 0, 1) := by decide +kernel
theorem d_Sat_rewrite_17 : decode b_Sat_rewrite 17 = .ok (.getfield 27, 3) := by decide +kernel
theorem d_Sat_rewrite_20 : decode b_Sat_rewrite 20 = .ok (.getfield 125, 3) := by decide +kernel
theorem d_Sat_rewrite_23 : decode b_Sat_rewrite 23 = .ok (.getfield 80, 3) := by decide +kernel
theorem d_Sat_rewrite_26 : decode b_Sat_rewrite 26 = .ok (.istore_n 2, 1) := by decide +kernel
theorem d_Sat_rewrite_27 : decode b_Sat_rewrite 27 = .ok (.iconst 0, 1) := by decide +kernel
theorem d_Sat_rewrite_28 : decode b_Sat_rewrite 28 = .ok (.istore_n 3, 1) := by decide +kernel
theorem d_Sat_rewrite_29 : decode b_Sat_rewrite 29 = .ok (.iload_n 3, 1) := by decide +kernel
theorem d_Sat_rewrite_30 : decode b_Sat_rewrite 30 = .ok (.bipush 60, 2) := by decide +kernel
theorem d_Sat_rewrite_32 : decode b_Sat_rewrite 32 = .ok (.if_icmp .ge 42, 3) := by decide +kernel
theorem d_Sat_rewrite_35 : decode b_Sat_rewrite 35 = .ok (.aload_n 0, 1) := by decide +kernel
theorem d_Sat_rewrite_36 : decode b_Sat_rewrite 36 = .ok (.getfield 54, 3) := by decide +kernel
theorem d_Sat_rewrite_39 : decode b_Sat_rewrite 39 = .ok (.aload_n 0, 1) := by decide +kernel
theorem d_Sat_rewrite_40 : decode b_Sat_rewrite 40 = .ok (.getfield 31, 3) := by decide +kernel
theorem d_Sat_rewrite_43 : decode b_Sat_rewrite 43 = .ok (.aload_n 0, 1) := by decide +kernel
theorem d_Sat_rewrite_44 : decode b_Sat_rewrite 44 = .ok (.getfield 20, 3) := by decide +kernel
theorem d_Sat_rewrite_47 : decode b_Sat_rewrite 47 = .ok (.invokevirtual 128, 3) := by decide +kernel
theorem d_Sat_rewrite_50 : decode b_Sat_rewrite 50 = .ok (.istore 4, 2) := by decide +kernel
theorem d_Sat_rewrite_52 : decode b_Sat_rewrite 52 = .ok (.iload 4, 2) := by decide +kernel
theorem d_Sat_rewrite_54 : decode b_Sat_rewrite 54 = .ok (.iconst (-1), 1) := by decide +kernel
theorem d_Sat_rewrite_55 : decode b_Sat_rewrite 55 = .ok (.if_icmp .ne 6, 3) := by decide +kernel
theorem d_Sat_rewrite_58 : decode b_Sat_rewrite 58 = .ok (.goto 16, 3) := by decide +kernel
theorem d_Sat_rewrite_61 : decode b_Sat_rewrite 61 = .ok (.aload_n 0, 1) := by decide +kernel
theorem d_Sat_rewrite_62 : decode b_Sat_rewrite 62 = .ok (.iload_n 2, 1) := by decide +kernel
theorem d_Sat_rewrite_63 : decode b_Sat_rewrite 63 = .ok (.iload 4, 2) := by decide +kernel
theorem d_Sat_rewrite_65 : decode b_Sat_rewrite 65 = .ok (.invokevirtual 132, 3) := by decide +kernel
theorem d_Sat_rewrite_68 : decode b_Sat_rewrite 68 = .ok (.iinc 3 1, 3) := by decide +kernel
theorem d_Sat_rewrite_71 : decode b_Sat_rewrite 71 = .ok (.goto (-42), 3) := by decide +kernel
theorem d_Sat_rewrite_74 : decode b_Sat_rewrite 74 = .ok (.iload_n 3, 1) := by decide +kernel
theorem d_Sat_rewrite_75 : decode b_Sat_rewrite 75 = .ok (.ifCond .ne 5, 3) := by decide +kernel
theorem d_Sat_rewrite_78 : decode b_Sat_rewrite 78 = .ok (.iload_n 1, 1) := by decide +kernel
theorem d_Sat_rewrite_79 : decode b_Sat_rewrite 79 = .ok (.ireturn, 1) := by decide +kernel
theorem d_Sat_rewrite_80 : decode b_Sat_rewrite 80 = .ok (.aload_n 0, 1) := by decide +kernel
theorem d_Sat_rewrite_81 : decode b_Sat_rewrite 81 = .ok (.dup, 1) := by decide +kernel
theorem d_Sat_rewrite_82 : decode b_Sat_rewrite 82 = .ok (.getfield 74, 3) := by decide +kernel
theorem d_Sat_rewrite_85 : decode b_Sat_rewrite 85 = .ok (.iload_n 3, 1) := by decide +kernel
theorem d_Sat_rewrite_86 : decode b_Sat_rewrite 86 = .ok (.iadd, 1) := by decide +kernel
theorem d_Sat_rewrite_87 : decode b_Sat_rewrite 87 = .ok (.putfield 74, 3) := by decide +kernel
theorem d_Sat_rewrite_90 : decode b_Sat_rewrite 90 = .ok (.aload_n 0, 1) := by decide +kernel
theorem d_Sat_rewrite_91 : decode b_Sat_rewrite 91 = .ok (.getfield 31, 3) := by decide +kernel
theorem d_Sat_rewrite_94 : decode b_Sat_rewrite 94 = .ok (.invokevirtual 136, 3) := by decide +kernel
theorem d_Sat_rewrite_97 : decode b_Sat_rewrite 97 = .ok (.aload_n 0, 1) := by decide +kernel
theorem d_Sat_rewrite_98 : decode b_Sat_rewrite 98 = .ok (.iload_n 1, 1) := by decide +kernel
theorem d_Sat_rewrite_99 : decode b_Sat_rewrite 99 = .ok (.iload_n 2, 1) := by decide +kernel
theorem d_Sat_rewrite_100 : decode b_Sat_rewrite 100 = .ok (.invokevirtual 139, 3) := by decide +kernel
theorem d_Sat_rewrite_103 : decode b_Sat_rewrite 103 = .ok (.istore 4, 2) := by decide +kernel
theorem d_Sat_rewrite_105 : decode b_Sat_rewrite 105 = .ok (.iload 4, 2) := by decide +kernel
theorem d_Sat_rewrite_107 : decode b_Sat_rewrite 107 = .ok (.iconst (-1), 1) := by decide +kernel
theorem d_Sat_rewrite_108 : decode b_Sat_rewrite 108 = .ok (.if_icmp .ne 14, 3) := by decide +kernel
theorem d_Sat_rewrite_111 : decode b_Sat_rewrite 111 = .ok (.aload_n 0, 1) := by decide +kernel
theorem d_Sat_rewrite_112 : decode b_Sat_rewrite 112 = .ok (.getfield 27, 3) := by decide +kernel
theorem d_Sat_rewrite_115 : decode b_Sat_rewrite 115 = .ok (.getfield 125, 3) := by decide +kernel
theorem d_Sat_rewrite_118 : decode b_Sat_rewrite 118 = .ok (.iload_n 2, 1) := by decide +kernel
theorem d_Sat_rewrite_119 : decode b_Sat_rewrite 119 = .ok (.putfield 80, 3) := by decide +kernel
theorem d_Sat_rewrite_122 : decode b_Sat_rewrite 122 = .ok (.iload 4, 2) := by decide +kernel
theorem d_Sat_rewrite_124 : decode b_Sat_rewrite 124 = .ok (.ireturn, 1) := by decide +kernel
abbrev b_Sat_superpose : ByteArray := prog_8_method_16_code
def y_Sat_superpose : MethodName := ⟨"ClauseProver$Saturation", "superpose", "(II)V"⟩
theorem d_Sat_superpose_0 : decode b_Sat_superpose 0 = .ok (.iconst 2, 1) := by decide +kernel
theorem d_Sat_superpose_1 : decode b_Sat_superpose 1 = .ok (.aload_n 0, 1) := by decide +kernel
theorem d_Sat_superpose_2 : decode b_Sat_superpose 2 = .ok (.getfield 27, 3) := by decide +kernel
theorem d_Sat_superpose_5 : decode b_Sat_superpose 5 = .ok (.iload_n 1, 1) := by decide +kernel
theorem d_Sat_superpose_6 : decode b_Sat_superpose 6 = .ok (.iconst 3, 1) := by decide +kernel
theorem d_Sat_superpose_7 : decode b_Sat_superpose 7 = .ok (.invokevirtual 91, 3) := by decide +kernel
theorem d_Sat_superpose_10 : decode b_Sat_superpose 10 = .ok (.imul, 1) := by decide +kernel
theorem d_Sat_superpose_11 : decode b_Sat_superpose 11 = .ok (.istore_n 3, 1) := by decide +kernel
theorem d_Sat_superpose_12 : decode b_Sat_superpose 12 = .ok (.iconst 2, 1) := by decide +kernel
theorem d_Sat_superpose_13 : decode b_Sat_superpose 13 = .ok (.aload_n 0, 1) := by decide +kernel
theorem d_Sat_superpose_14 : decode b_Sat_superpose 14 = .ok (.getfield 27, 3) := by decide +kernel
theorem d_Sat_superpose_17 : decode b_Sat_superpose 17 = .ok (.iload_n 2, 1) := by decide +kernel
theorem d_Sat_superpose_18 : decode b_Sat_superpose 18 = .ok (.iconst 3, 1) := by decide +kernel
theorem d_Sat_superpose_19 : decode b_Sat_superpose 19 = .ok (.invokevirtual 91, 3) := by decide +kernel
theorem d_Sat_superpose_22 : decode b_Sat_superpose 22 = .ok (.imul, 1) := by decide +kernel
theorem d_Sat_superpose_23 : decode b_Sat_superpose 23 = .ok (.istore 4, 2) := by decide +kernel
theorem d_Sat_superpose_25 : decode b_Sat_superpose 25 = .ok (.iconst 0, 1) := by decide +kernel
theorem d_Sat_superpose_26 : decode b_Sat_superpose 26 = .ok (.istore 5, 2) := by decide +kernel
theorem d_Sat_superpose_28 : decode b_Sat_superpose 28 = .ok (.iload 5, 2) := by decide +kernel
theorem d_Sat_superpose_30 : decode b_Sat_superpose 30 = .ok (.iload_n 3, 1) := by decide +kernel
theorem d_Sat_superpose_31 : decode b_Sat_superpose 31 = .ok (.if_icmp .ge 151, 3) := by decide +kernel
theorem d_Sat_superpose_34 : decode b_Sat_superpose 34 = .ok (.aload_n 0, 1) := by decide +kernel
theorem d_Sat_superpose_35 : decode b_Sat_superpose 35 = .ok (.getfield 27, 3) := by decide +kernel
theorem d_Sat_superpose_38 : decode b_Sat_superpose 38 = .ok (.iload_n 1, 1) := by decide +kernel
theorem d_Sat_superpose_39 : decode b_Sat_superpose 39 = .ok (.iload 5, 2) := by decide +kernel
theorem d_Sat_superpose_41 : decode b_Sat_superpose 41 = .ok (.iconst 1, 1) := by decide +kernel
theorem d_Sat_superpose_42 : decode b_Sat_superpose 42 = .ok (.ishr, 1) := by decide +kernel
theorem d_Sat_superpose_43 : decode b_Sat_superpose 43 = .ok (.invokevirtual 187, 3) := by decide +kernel
theorem d_Sat_superpose_46 : decode b_Sat_superpose 46 = .ok (.istore 6, 2) := by decide +kernel
theorem d_Sat_superpose_48 : decode b_Sat_superpose 48 = .ok (.aload_n 0, 1) := by decide +kernel
theorem d_Sat_superpose_49 : decode b_Sat_superpose 49 = .ok (.getfield 27, 3) := by decide +kernel
theorem d_Sat_superpose_52 : decode b_Sat_superpose 52 = .ok (.iload 6, 2) := by decide +kernel
theorem d_Sat_superpose_54 : decode b_Sat_superpose 54 = .ok (.invokevirtual 113, 3) := by decide +kernel
theorem d_Sat_superpose_57 : decode b_Sat_superpose 57 = .ok (.ifCond .eq 35, 3) := by decide +kernel
theorem d_Sat_superpose_60 : decode b_Sat_superpose 60 = .ok (.aload_n 0, 1) := by decide +kernel
theorem d_Sat_superpose_61 : decode b_Sat_superpose 61 = .ok (.getfield 27, 3) := by decide +kernel
theorem d_Sat_superpose_64 : decode b_Sat_superpose 64 = .ok (.iload 6, 2) := by decide +kernel
theorem d_Sat_superpose_66 : decode b_Sat_superpose 66 = .ok (.invokevirtual 190, 3) := by decide +kernel
theorem d_Sat_superpose_69 : decode b_Sat_superpose 69 = .ok (.ifCond .eq 23, 3) := by decide +kernel
theorem d_Sat_superpose_72 : decode b_Sat_superpose 72 = .ok (.aload_n 0, 1) := by decide +kernel
theorem d_Sat_superpose_73 : decode b_Sat_superpose 73 = .ok (.getfield 27, 3) := by decide +kernel
theorem d_Sat_superpose_76 : decode b_Sat_superpose 76 = .ok (.iload 6, 2) := by decide +kernel
theorem d_Sat_superpose_78 : decode b_Sat_superpose 78 = .ok (.iload 5, 2) := by decide +kernel
theorem d_Sat_superpose_80 : decode b_Sat_superpose 80 = .ok (.iconst 1, 1) := by decide +kernel
theorem d_Sat_superpose_81 : decode b_Sat_superpose 81 = .ok (.iand, 1) := by decide +kernel
theorem d_Sat_superpose_82 : decode b_Sat_superpose 82 = .ok (.invokevirtual 193, 3) := by decide +kernel
theorem d_Sat_superpose_85 : decode b_Sat_superpose 85 = .ok (.ifCond .eq 7, 3) := by decide +kernel
theorem d_Sat_superpose_88 : decode b_Sat_superpose 88 = .ok (.iconst 1, 1) := by decide +kernel
theorem d_Sat_superpose_89 : decode b_Sat_superpose 89 = .ok (.goto 4, 3) := by decide +kernel
theorem d_Sat_superpose_92 : decode b_Sat_superpose 92 = .ok (.iconst 0, 1) := by decide +kernel
theorem d_Sat_superpose_93 : decode b_Sat_superpose 93 = .ok (.istore 7, 2) := by decide +kernel
theorem d_Sat_superpose_95 : decode b_Sat_superpose 95 = .ok (.iconst 0, 1) := by decide +kernel
theorem d_Sat_superpose_96 : decode b_Sat_superpose 96 = .ok (.istore 8, 2) := by decide +kernel
theorem d_Sat_superpose_98 : decode b_Sat_superpose 98 = .ok (.iload 8, 2) := by decide +kernel
theorem d_Sat_superpose_100 : decode b_Sat_superpose 100 = .ok (.iload 4, 2) := by decide +kernel
theorem d_Sat_superpose_102 : decode b_Sat_superpose 102 = .ok (.if_icmp .ge 74, 3) := by decide +kernel
theorem d_Sat_superpose_105 : decode b_Sat_superpose 105 = .ok (.iload 7, 2) := by decide +kernel
theorem d_Sat_superpose_107 : decode b_Sat_superpose 107 = .ok (.ifCond .eq 69, 3) := by decide +kernel
theorem d_Sat_superpose_110 : decode b_Sat_superpose 110 = .ok (.aload_n 0, 1) := by decide +kernel
theorem d_Sat_superpose_111 : decode b_Sat_superpose 111 = .ok (.getfield 27, 3) := by decide +kernel
theorem d_Sat_superpose_114 : decode b_Sat_superpose 114 = .ok (.iload_n 2, 1) := by decide +kernel
theorem d_Sat_superpose_115 : decode b_Sat_superpose 115 = .ok (.iload 8, 2) := by decide +kernel
theorem d_Sat_superpose_117 : decode b_Sat_superpose 117 = .ok (.iconst 1, 1) := by decide +kernel
theorem d_Sat_superpose_118 : decode b_Sat_superpose 118 = .ok (.ishr, 1) := by decide +kernel
theorem d_Sat_superpose_119 : decode b_Sat_superpose 119 = .ok (.invokevirtual 187, 3) := by decide +kernel
theorem d_Sat_superpose_122 : decode b_Sat_superpose 122 = .ok (.istore 9, 2) := by decide +kernel
theorem d_Sat_superpose_124 : decode b_Sat_superpose 124 = .ok (.aload_n 0, 1) := by decide +kernel
theorem d_Sat_superpose_125 : decode b_Sat_superpose 125 = .ok (.getfield 27, 3) := by decide +kernel
theorem d_Sat_superpose_128 : decode b_Sat_superpose 128 = .ok (.iload 9, 2) := by decide +kernel
theorem d_Sat_superpose_130 : decode b_Sat_superpose 130 = .ok (.invokevirtual 190, 3) := by decide +kernel
theorem d_Sat_superpose_133 : decode b_Sat_superpose 133 = .ok (.ifCond .eq 37, 3) := by decide +kernel
theorem d_Sat_superpose_136 : decode b_Sat_superpose 136 = .ok (.aload_n 0, 1) := by decide +kernel
theorem d_Sat_superpose_137 : decode b_Sat_superpose 137 = .ok (.getfield 27, 3) := by decide +kernel
theorem d_Sat_superpose_140 : decode b_Sat_superpose 140 = .ok (.iload 9, 2) := by decide +kernel
theorem d_Sat_superpose_142 : decode b_Sat_superpose 142 = .ok (.iload 8, 2) := by decide +kernel
theorem d_Sat_superpose_144 : decode b_Sat_superpose 144 = .ok (.iconst 1, 1) := by decide +kernel
theorem d_Sat_superpose_145 : decode b_Sat_superpose 145 = .ok (.iand, 1) := by decide +kernel
theorem d_Sat_superpose_146 : decode b_Sat_superpose 146 = .ok (.invokevirtual 193, 3) := by decide +kernel
theorem d_Sat_superpose_149 : decode b_Sat_superpose 149 = .ok (.ifCond .eq 21, 3) := by decide +kernel
theorem d_Sat_superpose_152 : decode b_Sat_superpose 152 = .ok (.aload_n 0, 1) := by decide +kernel
theorem d_Sat_superpose_153 : decode b_Sat_superpose 153 = .ok (.iload_n 1, 1) := by decide +kernel
theorem d_Sat_superpose_154 : decode b_Sat_superpose 154 = .ok (.iload 6, 2) := by decide +kernel
theorem d_Sat_superpose_156 : decode b_Sat_superpose 156 = .ok (.iload 5, 2) := by decide +kernel
theorem d_Sat_superpose_158 : decode b_Sat_superpose 158 = .ok (.iconst 1, 1) := by decide +kernel
theorem d_Sat_superpose_159 : decode b_Sat_superpose 159 = .ok (.iand, 1) := by decide +kernel
theorem d_Sat_superpose_160 : decode b_Sat_superpose 160 = .ok (.iload_n 2, 1) := by decide +kernel
theorem d_Sat_superpose_161 : decode b_Sat_superpose 161 = .ok (.iload 9, 2) := by decide +kernel
theorem d_Sat_superpose_163 : decode b_Sat_superpose 163 = .ok (.iload 8, 2) := by decide +kernel
theorem d_Sat_superpose_165 : decode b_Sat_superpose 165 = .ok (.iconst 1, 1) := by decide +kernel
theorem d_Sat_superpose_166 : decode b_Sat_superpose 166 = .ok (.iand, 1) := by decide +kernel
theorem d_Sat_superpose_167 : decode b_Sat_superpose 167 = .ok (.invokevirtual 196, 3) := by decide +kernel
theorem d_Sat_superpose_170 : decode b_Sat_superpose 170 = .ok (.iinc 8 1, 3) := by decide +kernel
theorem d_Sat_superpose_173 : decode b_Sat_superpose 173 = .ok (.goto (-75), 3) := by decide +kernel
theorem d_Sat_superpose_176 : decode b_Sat_superpose 176 = .ok (.iinc 5 1, 3) := by decide +kernel
theorem d_Sat_superpose_179 : decode b_Sat_superpose 179 = .ok (.goto (-151), 3) := by decide +kernel
theorem d_Sat_superpose_182 : decode b_Sat_superpose 182 = .ok (.return_, 1) := by decide +kernel
abbrev b_Sat_superposeInto : ByteArray := prog_8_method_17_code
def y_Sat_superposeInto : MethodName := ⟨"ClauseProver$Saturation", "superposeInto", "(IIIIII)V"⟩
theorem d_Sat_superposeInto_0 : decode b_Sat_superposeInto 0 = .ok (.aload_n 0, 1) := by decide +kernel
theorem d_Sat_superposeInto_1 : decode b_Sat_superposeInto 1 = .ok (.getfield 27, 3) := by decide +kernel
theorem d_Sat_superposeInto_4 : decode b_Sat_superposeInto 4 = .ok (.iload_n 2, 1) := by decide +kernel
theorem d_Sat_superposeInto_5 : decode b_Sat_superposeInto 5 = .ok (.iload_n 3, 1) := by decide +kernel
theorem d_Sat_superposeInto_6 : decode b_Sat_superposeInto 6 = .ok (.invokevirtual 200, 3) := by decide +kernel
theorem d_Sat_superposeInto_9 : decode b_Sat_superposeInto 9 = .ok (.istore 7, 2) := by decide +kernel
theorem d_Sat_superposeInto_11 : decode b_Sat_superposeInto 11 = .ok (.aload_n 0, 1) := by decide +kernel
theorem d_Sat_superposeInto_12 : decode b_Sat_superposeInto 12 = .ok (.getfield 27, 3) := by decide +kernel
theorem d_Sat_superposeInto_15 : decode b_Sat_superposeInto 15 = .ok (.iload 5, 2) := by decide +kernel
theorem d_Sat_superposeInto_17 : decode b_Sat_superposeInto 17 = .ok (.iload 6, 2) := by decide +kernel
theorem d_Sat_superposeInto_19 : decode b_Sat_superposeInto 19 = .ok (.invokevirtual 200, 3) := by decide +kernel
theorem d_Sat_superposeInto_22 : decode b_Sat_superposeInto 22 = .ok (.istore 8, 2) := by decide +kernel
theorem d_Sat_superposeInto_24 : decode b_Sat_superposeInto 24 = .ok (.iload 8, 2) := by decide +kernel
theorem d_Sat_superposeInto_26 : decode b_Sat_superposeInto 26 = .ok (.aload_n 0, 1) := by decide +kernel
theorem d_Sat_superposeInto_27 : decode b_Sat_superposeInto 27 = .ok (.getfield 27, 3) := by decide +kernel
theorem d_Sat_superposeInto_30 : decode b_Sat_superposeInto 30 = .ok (.iload 5, 2) := by decide +kernel
theorem d_Sat_superposeInto_32 : decode b_Sat_superposeInto 32 = .ok (.iload 6, 2) := by decide +kernel
theorem d_Sat_superposeInto_34 : decode b_Sat_superposeInto 34 = .ok (.invokevirtual 203, 3) := by decide +kernel
theorem d_Sat_superposeInto_37 : decode b_Sat_superposeInto 37 = .ok (.iadd, 1) := by decide +kernel
theorem d_Sat_superposeInto_38 : decode b_Sat_superposeInto 38 = .ok (.istore 9, 2) := by decide +kernel
theorem d_Sat_superposeInto_40 : decode b_Sat_superposeInto 40 = .ok (.iload 8, 2) := by decide +kernel
theorem d_Sat_superposeInto_42 : decode b_Sat_superposeInto 42 = .ok (.istore 10, 2) := by decide +kernel
theorem d_Sat_superposeInto_44 : decode b_Sat_superposeInto 44 = .ok (.iload 10, 2) := by decide +kernel
theorem d_Sat_superposeInto_46 : decode b_Sat_superposeInto 46 = .ok (.iload 9, 2) := by decide +kernel
theorem d_Sat_superposeInto_48 : decode b_Sat_superposeInto 48 = .ok (.if_icmp .ge 147, 3) := by decide +kernel
theorem d_Sat_superposeInto_51 : decode b_Sat_superposeInto 51 = .ok (.aload_n 0, 1) := by decide +kernel
theorem d_Sat_superposeInto_52 : decode b_Sat_superposeInto 52 = .ok (.getfield 58, 3) := by decide +kernel
theorem d_Sat_superposeInto_55 : decode b_Sat_superposeInto 55 = .ok (.ifCond .ne 140, 3) := by decide +kernel
theorem d_Sat_superposeInto_58 : decode b_Sat_superposeInto 58 = .ok (.aload_n 0, 1) := by decide +kernel
theorem d_Sat_superposeInto_59 : decode b_Sat_superposeInto 59 = .ok (.getfield 27, 3) := by decide +kernel
theorem d_Sat_superposeInto_62 : decode b_Sat_superposeInto 62 = .ok (.getfield 37, 3) := by decide +kernel
theorem d_Sat_superposeInto_65 : decode b_Sat_superposeInto 65 = .ok (.getfield 151, 3) := by decide +kernel
theorem d_Sat_superposeInto_68 : decode b_Sat_superposeInto 68 = .ok (.iload 7, 2) := by decide +kernel
theorem d_Sat_superposeInto_70 : decode b_Sat_superposeInto 70 = .ok (.iaload, 1) := by decide +kernel
theorem d_Sat_superposeInto_71 : decode b_Sat_superposeInto 71 = .ok (.istore 11, 2) := by decide +kernel
theorem d_Sat_superposeInto_73 : decode b_Sat_superposeInto 73 = .ok (.aload_n 0, 1) := by decide +kernel
theorem d_Sat_superposeInto_74 : decode b_Sat_superposeInto 74 = .ok (.getfield 27, 3) := by decide +kernel
theorem d_Sat_superposeInto_77 : decode b_Sat_superposeInto 77 = .ok (.getfield 37, 3) := by decide +kernel
theorem d_Sat_superposeInto_80 : decode b_Sat_superposeInto 80 = .ok (.getfield 151, 3) := by decide +kernel
theorem d_Sat_superposeInto_83 : decode b_Sat_superposeInto 83 = .ok (.iload 10, 2) := by decide +kernel
theorem d_Sat_superposeInto_85 : decode b_Sat_superposeInto 85 = .ok (.iaload, 1) := by decide +kernel
theorem d_Sat_superposeInto_86 : decode b_Sat_superposeInto 86 = .ok (.istore 12, 2) := by decide +kernel
theorem d_Sat_superposeInto_88 : decode b_Sat_superposeInto 88 = .ok (.iload 12, 2) := by decide +kernel
theorem d_Sat_superposeInto_90 : decode b_Sat_superposeInto 90 = .ok (.ifCond .lt 99, 3) := by decide +kernel
theorem d_Sat_superposeInto_93 : decode b_Sat_superposeInto 93 = .ok (.iload 11, 2) := by decide +kernel
theorem d_Sat_superposeInto_95 : decode b_Sat_superposeInto 95 = .ok (.ifCond .lt 13, 3) := by decide +kernel
theorem d_Sat_superposeInto_98 : decode b_Sat_superposeInto 98 = .ok (.iload 11, 2) := by decide +kernel
theorem d_Sat_superposeInto_100 : decode b_Sat_superposeInto 100 = .ok (.iload 12, 2) := by decide +kernel
theorem d_Sat_superposeInto_102 : decode b_Sat_superposeInto 102 = .ok (.if_icmp .eq 6, 3) := by decide +kernel
theorem d_Sat_superposeInto_105 : decode b_Sat_superposeInto 105 = .ok (.goto 84, 3) := by decide +kernel
theorem d_Sat_superposeInto_108 : decode b_Sat_superposeInto 108 = .ok (.aload_n 0, 1) := by decide +kernel
theorem d_Sat_superposeInto_109 : decode b_Sat_superposeInto 109 = .ok (.getfield 45, 3) := by decide +kernel
theorem d_Sat_superposeInto_112 : decode b_Sat_superposeInto 112 = .ok (.aload_n 0, 1) := by decide +kernel
theorem d_Sat_superposeInto_113 : decode b_Sat_superposeInto 113 = .ok (.getfield 27, 3) := by decide +kernel
theorem d_Sat_superposeInto_116 : decode b_Sat_superposeInto 116 = .ok (.iload_n 1, 1) := by decide +kernel
theorem d_Sat_superposeInto_117 : decode b_Sat_superposeInto 117 = .ok (.bipush 8, 2) := by decide +kernel
theorem d_Sat_superposeInto_119 : decode b_Sat_superposeInto 119 = .ok (.invokevirtual 91, 3) := by decide +kernel
theorem d_Sat_superposeInto_122 : decode b_Sat_superposeInto 122 = .ok (.aload_n 0, 1) := by decide +kernel
theorem d_Sat_superposeInto_123 : decode b_Sat_superposeInto 123 = .ok (.getfield 27, 3) := by decide +kernel
theorem d_Sat_superposeInto_126 : decode b_Sat_superposeInto 126 = .ok (.iload 4, 2) := by decide +kernel
theorem d_Sat_superposeInto_128 : decode b_Sat_superposeInto 128 = .ok (.bipush 8, 2) := by decide +kernel
theorem d_Sat_superposeInto_130 : decode b_Sat_superposeInto 130 = .ok (.invokevirtual 91, 3) := by decide +kernel
theorem d_Sat_superposeInto_133 : decode b_Sat_superposeInto 133 = .ok (.invokevirtual 206, 3) := by decide +kernel
theorem d_Sat_superposeInto_136 : decode b_Sat_superposeInto 136 = .ok (.aload_n 0, 1) := by decide +kernel
theorem d_Sat_superposeInto_137 : decode b_Sat_superposeInto 137 = .ok (.getfield 45, 3) := by decide +kernel
theorem d_Sat_superposeInto_140 : decode b_Sat_superposeInto 140 = .ok (.iload 7, 2) := by decide +kernel
theorem d_Sat_superposeInto_142 : decode b_Sat_superposeInto 142 = .ok (.iconst 0, 1) := by decide +kernel
theorem d_Sat_superposeInto_143 : decode b_Sat_superposeInto 143 = .ok (.iload 10, 2) := by decide +kernel
theorem d_Sat_superposeInto_145 : decode b_Sat_superposeInto 145 = .ok (.bipush 6, 2) := by decide +kernel
theorem d_Sat_superposeInto_147 : decode b_Sat_superposeInto 147 = .ok (.iconst 0, 1) := by decide +kernel
theorem d_Sat_superposeInto_148 : decode b_Sat_superposeInto 148 = .ok (.invokevirtual 209, 3) := by decide +kernel
theorem d_Sat_superposeInto_151 : decode b_Sat_superposeInto 151 = .ok (.ifCond .eq 38, 3) := by decide +kernel
theorem d_Sat_superposeInto_154 : decode b_Sat_superposeInto 154 = .ok (.aload_n 0, 1) := by decide +kernel
theorem d_Sat_superposeInto_155 : decode b_Sat_superposeInto 155 = .ok (.getfield 31, 3) := by decide +kernel
theorem d_Sat_superposeInto_158 : decode b_Sat_superposeInto 158 = .ok (.invokevirtual 213, 3) := by decide +kernel
theorem d_Sat_superposeInto_161 : decode b_Sat_superposeInto 161 = .ok (.aload_n 0, 1) := by decide +kernel
theorem d_Sat_superposeInto_162 : decode b_Sat_superposeInto 162 = .ok (.iload_n 1, 1) := by decide +kernel
theorem d_Sat_superposeInto_163 : decode b_Sat_superposeInto 163 = .ok (.iload_n 2, 1) := by decide +kernel
theorem d_Sat_superposeInto_164 : decode b_Sat_superposeInto 164 = .ok (.iconst (-1), 1) := by decide +kernel
theorem d_Sat_superposeInto_165 : decode b_Sat_superposeInto 165 = .ok (.iconst 0, 1) := by decide +kernel
theorem d_Sat_superposeInto_166 : decode b_Sat_superposeInto 166 = .ok (.invokevirtual 215, 3) := by decide +kernel
theorem d_Sat_superposeInto_169 : decode b_Sat_superposeInto 169 = .ok (.aload_n 0, 1) := by decide +kernel
theorem d_Sat_superposeInto_170 : decode b_Sat_superposeInto 170 = .ok (.iload 4, 2) := by decide +kernel
theorem d_Sat_superposeInto_172 : decode b_Sat_superposeInto 172 = .ok (.iload 10, 2) := by decide +kernel
theorem d_Sat_superposeInto_174 : decode b_Sat_superposeInto 174 = .ok (.iload_n 2, 1) := by decide +kernel
theorem d_Sat_superposeInto_175 : decode b_Sat_superposeInto 175 = .ok (.iconst 1, 1) := by decide +kernel
theorem d_Sat_superposeInto_176 : decode b_Sat_superposeInto 176 = .ok (.iload_n 3, 1) := by decide +kernel
theorem d_Sat_superposeInto_177 : decode b_Sat_superposeInto 177 = .ok (.isub, 1) := by decide +kernel
theorem d_Sat_superposeInto_178 : decode b_Sat_superposeInto 178 = .ok (.invokevirtual 219, 3) := by decide +kernel
theorem d_Sat_superposeInto_181 : decode b_Sat_superposeInto 181 = .ok (.aload_n 0, 1) := by decide +kernel
theorem d_Sat_superposeInto_182 : decode b_Sat_superposeInto 182 = .ok (.iconst 1, 1) := by decide +kernel
theorem d_Sat_superposeInto_183 : decode b_Sat_superposeInto 183 = .ok (.iload_n 1, 1) := by decide +kernel
theorem d_Sat_superposeInto_184 : decode b_Sat_superposeInto 184 = .ok (.iload 4, 2) := by decide +kernel
theorem d_Sat_superposeInto_186 : decode b_Sat_superposeInto 186 = .ok (.invokevirtual 222, 3) := by decide +kernel
theorem d_Sat_superposeInto_189 : decode b_Sat_superposeInto 189 = .ok (.iinc 10 1, 3) := by decide +kernel
theorem d_Sat_superposeInto_192 : decode b_Sat_superposeInto 192 = .ok (.goto (-148), 3) := by decide +kernel
theorem d_Sat_superposeInto_195 : decode b_Sat_superposeInto 195 = .ok (.return_, 1) := by decide +kernel
abbrev b_Sat_takeGiven : ByteArray := prog_8_method_3_code
def y_Sat_takeGiven : MethodName := ⟨"ClauseProver$Saturation", "takeGiven", "()I"⟩
theorem d_Sat_takeGiven_0 : decode b_Sat_takeGiven 0 = .ok (.aload_n 0, 1) := by decide +kernel
theorem d_Sat_takeGiven_1 : decode b_Sat_takeGiven 1 = .ok (.invokevirtual 83, 3) := by decide +kernel
theorem d_Sat_takeGiven_4 : decode b_Sat_takeGiven 4 = .ok (.istore_n 1, 1) := by decide +kernel
theorem d_Sat_takeGiven_5 : decode b_Sat_takeGiven 5 = .ok (.iload_n 1, 1) := by decide +kernel
theorem d_Sat_takeGiven_6 : decode b_Sat_takeGiven 6 = .ok (.iconst (-1), 1) := by decide +kernel
theorem d_Sat_takeGiven_7 : decode b_Sat_takeGiven 7 = .ok (.if_icmp .ne 10, 3) := by decide +kernel
theorem d_Sat_takeGiven_10 : decode b_Sat_takeGiven 10 = .ok (.aload_n 0, 1) := by decide +kernel
theorem d_Sat_takeGiven_11 : decode b_Sat_takeGiven 11 = .ok (.iconst 2, 1) := by decide +kernel
theorem d_Sat_takeGiven_12 : decode b_Sat_takeGiven 12 = .ok (.putfield 58, 3) := by decide +kernel
theorem d_Sat_takeGiven_15 : decode b_Sat_takeGiven 15 = .ok (.iconst (-1), 1) := by decide +kernel
theorem d_Sat_takeGiven_16 : decode b_Sat_takeGiven 16 = .ok (.ireturn, 1) := by decide +kernel
theorem d_Sat_takeGiven_17 : decode b_Sat_takeGiven 17 = .ok (.aload_n 0, 1) := by decide +kernel
theorem d_Sat_takeGiven_18 : decode b_Sat_takeGiven 18 = .ok (.dup, 1) := by decide +kernel
theorem d_Sat_takeGiven_19 : decode b_Sat_takeGiven 19 = .ok (.getfield 62, 3) := by decide +kernel
theorem d_Sat_takeGiven_22 : decode b_Sat_takeGiven 22 = .ok (.iconst 1, 1) := by decide +kernel
theorem d_Sat_takeGiven_23 : decode b_Sat_takeGiven 23 = .ok (.iadd, 1) := by decide +kernel
theorem d_Sat_takeGiven_24 : decode b_Sat_takeGiven 24 = .ok (.putfield 62, 3) := by decide +kernel
theorem d_Sat_takeGiven_27 : decode b_Sat_takeGiven 27 = .ok (.aload_n 0, 1) := by decide +kernel
theorem d_Sat_takeGiven_28 : decode b_Sat_takeGiven 28 = .ok (.getfield 27, 3) := by decide +kernel
theorem d_Sat_takeGiven_31 : decode b_Sat_takeGiven 31 = .ok (.iload_n 1, 1) := by decide +kernel
theorem d_Sat_takeGiven_32 : decode b_Sat_takeGiven 32 = .ok (.bipush 6, 2) := by decide +kernel
theorem d_Sat_takeGiven_34 : decode b_Sat_takeGiven 34 = .ok (.iconst 2, 1) := by decide +kernel
theorem d_Sat_takeGiven_35 : decode b_Sat_takeGiven 35 = .ok (.invokevirtual 87, 3) := by decide +kernel
theorem d_Sat_takeGiven_38 : decode b_Sat_takeGiven 38 = .ok (.aload_n 0, 1) := by decide +kernel
theorem d_Sat_takeGiven_39 : decode b_Sat_takeGiven 39 = .ok (.getfield 27, 3) := by decide +kernel
theorem d_Sat_takeGiven_42 : decode b_Sat_takeGiven 42 = .ok (.iload_n 1, 1) := by decide +kernel
theorem d_Sat_takeGiven_43 : decode b_Sat_takeGiven 43 = .ok (.iconst 3, 1) := by decide +kernel
theorem d_Sat_takeGiven_44 : decode b_Sat_takeGiven 44 = .ok (.invokevirtual 91, 3) := by decide +kernel
theorem d_Sat_takeGiven_47 : decode b_Sat_takeGiven 47 = .ok (.ifCond .le 9, 3) := by decide +kernel
theorem d_Sat_takeGiven_50 : decode b_Sat_takeGiven 50 = .ok (.aload_n 0, 1) := by decide +kernel
theorem d_Sat_takeGiven_51 : decode b_Sat_takeGiven 51 = .ok (.iload_n 1, 1) := by decide +kernel
theorem d_Sat_takeGiven_52 : decode b_Sat_takeGiven 52 = .ok (.invokevirtual 95, 3) := by decide +kernel
theorem d_Sat_takeGiven_55 : decode b_Sat_takeGiven 55 = .ok (.istore_n 1, 1) := by decide +kernel
theorem d_Sat_takeGiven_56 : decode b_Sat_takeGiven 56 = .ok (.iload_n 1, 1) := by decide +kernel
theorem d_Sat_takeGiven_57 : decode b_Sat_takeGiven 57 = .ok (.iconst (-1), 1) := by decide +kernel
theorem d_Sat_takeGiven_58 : decode b_Sat_takeGiven 58 = .ok (.if_icmp .ne 5, 3) := by decide +kernel
theorem d_Sat_takeGiven_61 : decode b_Sat_takeGiven 61 = .ok (.iconst (-1), 1) := by decide +kernel
theorem d_Sat_takeGiven_62 : decode b_Sat_takeGiven 62 = .ok (.ireturn, 1) := by decide +kernel
theorem d_Sat_takeGiven_63 : decode b_Sat_takeGiven 63 = .ok (.aload_n 0, 1) := by decide +kernel
theorem d_Sat_takeGiven_64 : decode b_Sat_takeGiven 64 = .ok (.getfield 27, 3) := by decide +kernel
theorem d_Sat_takeGiven_67 : decode b_Sat_takeGiven 67 = .ok (.iload_n 1, 1) := by decide +kernel
theorem d_Sat_takeGiven_68 : decode b_Sat_takeGiven 68 = .ok (.iconst 3, 1) := by decide +kernel
theorem d_Sat_takeGiven_69 : decode b_Sat_takeGiven 69 = .ok (.invokevirtual 91, 3) := by decide +kernel
theorem d_Sat_takeGiven_72 : decode b_Sat_takeGiven 72 = .ok (.ifCond .ne 10, 3) := by decide +kernel
theorem d_Sat_takeGiven_75 : decode b_Sat_takeGiven 75 = .ok (.aload_n 0, 1) := by decide +kernel
theorem d_Sat_takeGiven_76 : decode b_Sat_takeGiven 76 = .ok (.iload_n 1, 1) := by decide +kernel
theorem d_Sat_takeGiven_77 : decode b_Sat_takeGiven 77 = .ok (.invokevirtual 99, 3) := by decide +kernel
theorem d_Sat_takeGiven_80 : decode b_Sat_takeGiven 80 = .ok (.iconst (-1), 1) := by decide +kernel
theorem d_Sat_takeGiven_81 : decode b_Sat_takeGiven 81 = .ok (.ireturn, 1) := by decide +kernel
theorem d_Sat_takeGiven_82 : decode b_Sat_takeGiven 82 = .ok (.aload_n 0, 1) := by decide +kernel
theorem d_Sat_takeGiven_83 : decode b_Sat_takeGiven 83 = .ok (.iload_n 1, 1) := by decide +kernel
theorem d_Sat_takeGiven_84 : decode b_Sat_takeGiven 84 = .ok (.invokevirtual 102, 3) := by decide +kernel
theorem d_Sat_takeGiven_87 : decode b_Sat_takeGiven 87 = .ok (.ifCond .eq 15, 3) := by decide +kernel
theorem d_Sat_takeGiven_90 : decode b_Sat_takeGiven 90 = .ok (.aload_n 0, 1) := by decide +kernel
theorem d_Sat_takeGiven_91 : decode b_Sat_takeGiven 91 = .ok (.dup, 1) := by decide +kernel
theorem d_Sat_takeGiven_92 : decode b_Sat_takeGiven 92 = .ok (.getfield 71, 3) := by decide +kernel
theorem d_Sat_takeGiven_95 : decode b_Sat_takeGiven 95 = .ok (.iconst 1, 1) := by decide +kernel
theorem d_Sat_takeGiven_96 : decode b_Sat_takeGiven 96 = .ok (.iadd, 1) := by decide +kernel
theorem d_Sat_takeGiven_97 : decode b_Sat_takeGiven 97 = .ok (.putfield 71, 3) := by decide +kernel
theorem d_Sat_takeGiven_100 : decode b_Sat_takeGiven 100 = .ok (.iconst (-1), 1) := by decide +kernel
theorem d_Sat_takeGiven_101 : decode b_Sat_takeGiven 101 = .ok (.ireturn, 1) := by decide +kernel
theorem d_Sat_takeGiven_102 : decode b_Sat_takeGiven 102 = .ok (.aload_n 0, 1) := by decide +kernel
theorem d_Sat_takeGiven_103 : decode b_Sat_takeGiven 103 = .ok (.iload_n 1, 1) := by decide +kernel
theorem d_Sat_takeGiven_104 : decode b_Sat_takeGiven 104 = .ok (.invokevirtual 106, 3) := by decide +kernel
theorem d_Sat_takeGiven_107 : decode b_Sat_takeGiven 107 = .ok (.aload_n 0, 1) := by decide +kernel
theorem d_Sat_takeGiven_108 : decode b_Sat_takeGiven 108 = .ok (.getfield 27, 3) := by decide +kernel
theorem d_Sat_takeGiven_111 : decode b_Sat_takeGiven 111 = .ok (.iload_n 1, 1) := by decide +kernel
theorem d_Sat_takeGiven_112 : decode b_Sat_takeGiven 112 = .ok (.bipush 6, 2) := by decide +kernel
theorem d_Sat_takeGiven_114 : decode b_Sat_takeGiven 114 = .ok (.iconst 1, 1) := by decide +kernel
theorem d_Sat_takeGiven_115 : decode b_Sat_takeGiven 115 = .ok (.invokevirtual 87, 3) := by decide +kernel
theorem d_Sat_takeGiven_118 : decode b_Sat_takeGiven 118 = .ok (.aload_n 0, 1) := by decide +kernel
theorem d_Sat_takeGiven_119 : decode b_Sat_takeGiven 119 = .ok (.getfield 27, 3) := by decide +kernel
theorem d_Sat_takeGiven_122 : decode b_Sat_takeGiven 122 = .ok (.iload_n 1, 1) := by decide +kernel
theorem d_Sat_takeGiven_123 : decode b_Sat_takeGiven 123 = .ok (.invokevirtual 109, 3) := by decide +kernel
theorem d_Sat_takeGiven_126 : decode b_Sat_takeGiven 126 = .ok (.iload_n 1, 1) := by decide +kernel
theorem d_Sat_takeGiven_127 : decode b_Sat_takeGiven 127 = .ok (.ireturn, 1) := by decide +kernel
abbrev b_Sto_add : ByteArray := prog_9_method_7_code
def y_Sto_add : MethodName := ⟨"ClauseProver$Store", "add", "(LClauseProver$Draft;III)I"⟩
theorem d_Sto_add_0 : decode b_Sto_add 0 = .ok (.aload_n 0, 1) := by decide +kernel
theorem d_Sto_add_1 : decode b_Sto_add 1 = .ok (.getfield 23, 3) := by decide +kernel
theorem d_Sto_add_4 : decode b_Sto_add 4 = .ok (.iload_n 2, 1) := by decide +kernel
theorem d_Sto_add_5 : decode b_Sto_add 5 = .ok (.invokevirtual 46, 3) := by decide +kernel
theorem d_Sto_add_8 : decode b_Sto_add 8 = .ok (.aload_n 0, 1) := by decide +kernel
theorem d_Sto_add_9 : decode b_Sto_add 9 = .ok (.getfield 23, 3) := by decide +kernel
theorem d_Sto_add_12 : decode b_Sto_add 12 = .ok (.iload_n 3, 1) := by decide +kernel
theorem d_Sto_add_13 : decode b_Sto_add 13 = .ok (.invokevirtual 46, 3) := by decide +kernel
theorem d_Sto_add_16 : decode b_Sto_add 16 = .ok (.aload_n 0, 1) := by decide +kernel
theorem d_Sto_add_17 : decode b_Sto_add 17 = .ok (.getfield 23, 3) := by decide +kernel
theorem d_Sto_add_20 : decode b_Sto_add 20 = .ok (.iload 4, 2) := by decide +kernel
theorem d_Sto_add_22 : decode b_Sto_add 22 = .ok (.invokevirtual 46, 3) := by decide +kernel
theorem d_Sto_add_25 : decode b_Sto_add 25 = .ok (.aload_n 0, 1) := by decide +kernel
theorem d_Sto_add_26 : decode b_Sto_add 26 = .ok (.getfield 23, 3) := by decide +kernel
theorem d_Sto_add_29 : decode b_Sto_add 29 = .ok (.aload_n 1, 1) := by decide +kernel
theorem d_Sto_add_30 : decode b_Sto_add 30 = .ok (.getfield 49, 3) := by decide +kernel
theorem d_Sto_add_33 : decode b_Sto_add 33 = .ok (.invokevirtual 46, 3) := by decide +kernel
theorem d_Sto_add_36 : decode b_Sto_add 36 = .ok (.aload_n 0, 1) := by decide +kernel
theorem d_Sto_add_37 : decode b_Sto_add 37 = .ok (.getfield 23, 3) := by decide +kernel
theorem d_Sto_add_40 : decode b_Sto_add 40 = .ok (.aload_n 1, 1) := by decide +kernel
theorem d_Sto_add_41 : decode b_Sto_add 41 = .ok (.getfield 54, 3) := by decide +kernel
theorem d_Sto_add_44 : decode b_Sto_add 44 = .ok (.invokevirtual 46, 3) := by decide +kernel
theorem d_Sto_add_47 : decode b_Sto_add 47 = .ok (.aload_n 0, 1) := by decide +kernel
theorem d_Sto_add_48 : decode b_Sto_add 48 = .ok (.getfield 23, 3) := by decide +kernel
theorem d_Sto_add_51 : decode b_Sto_add 51 = .ok (.aload_n 1, 1) := by decide +kernel
theorem d_Sto_add_52 : decode b_Sto_add 52 = .ok (.getfield 57, 3) := by decide +kernel
theorem d_Sto_add_55 : decode b_Sto_add 55 = .ok (.invokevirtual 46, 3) := by decide +kernel
theorem d_Sto_add_58 : decode b_Sto_add 58 = .ok (.aload_n 0, 1) := by decide +kernel
theorem d_Sto_add_59 : decode b_Sto_add 59 = .ok (.getfield 23, 3) := by decide +kernel
theorem d_Sto_add_62 : decode b_Sto_add 62 = .ok (.iconst 0, 1) := by decide +kernel
theorem d_Sto_add_63 : decode b_Sto_add 63 = .ok (.invokevirtual 46, 3) := by decide +kernel
theorem d_Sto_add_66 : decode b_Sto_add 66 = .ok (.aload_n 0, 1) := by decide +kernel
theorem d_Sto_add_67 : decode b_Sto_add 67 = .ok (.getfield 23, 3) := by decide +kernel
theorem d_Sto_add_70 : decode b_Sto_add 70 = .ok (.iconst 0, 1) := by decide +kernel
theorem d_Sto_add_71 : decode b_Sto_add 71 = .ok (.invokevirtual 46, 3) := by decide +kernel
theorem d_Sto_add_74 : decode b_Sto_add 74 = .ok (.aload_n 0, 1) := by decide +kernel
theorem d_Sto_add_75 : decode b_Sto_add 75 = .ok (.getfield 23, 3) := by decide +kernel
theorem d_Sto_add_78 : decode b_Sto_add 78 = .ok (.aload_n 0, 1) := by decide +kernel
theorem d_Sto_add_79 : decode b_Sto_add 79 = .ok (.getfield 14, 3) := by decide +kernel
theorem d_Sto_add_82 : decode b_Sto_add 82 = .ok (.getfield 30, 3) := by decide +kernel
theorem d_Sto_add_85 : decode b_Sto_add 85 = .ok (.invokevirtual 46, 3) := by decide +kernel
theorem d_Sto_add_88 : decode b_Sto_add 88 = .ok (.aload_n 0, 1) := by decide +kernel
theorem d_Sto_add_89 : decode b_Sto_add 89 = .ok (.getfield 23, 3) := by decide +kernel
theorem d_Sto_add_92 : decode b_Sto_add 92 = .ok (.aload_n 0, 1) := by decide +kernel
theorem d_Sto_add_93 : decode b_Sto_add 93 = .ok (.getfield 20, 3) := by decide +kernel
theorem d_Sto_add_96 : decode b_Sto_add 96 = .ok (.getfield 30, 3) := by decide +kernel
theorem d_Sto_add_99 : decode b_Sto_add 99 = .ok (.invokevirtual 46, 3) := by decide +kernel
theorem d_Sto_add_102 : decode b_Sto_add 102 = .ok (.aload_n 0, 1) := by decide +kernel
theorem d_Sto_add_103 : decode b_Sto_add 103 = .ok (.getfield 23, 3) := by decide +kernel
theorem d_Sto_add_106 : decode b_Sto_add 106 = .ok (.iconst 0, 1) := by decide +kernel
theorem d_Sto_add_107 : decode b_Sto_add 107 = .ok (.invokevirtual 46, 3) := by decide +kernel
theorem d_Sto_add_110 : decode b_Sto_add 110 = .ok (.iconst 0, 1) := by decide +kernel
theorem d_Sto_add_111 : decode b_Sto_add 111 = .ok (.istore 5, 2) := by decide +kernel
theorem d_Sto_add_113 : decode b_Sto_add 113 = .ok (.iload 5, 2) := by decide +kernel
theorem d_Sto_add_115 : decode b_Sto_add 115 = .ok (.aload_n 1, 1) := by decide +kernel
theorem d_Sto_add_116 : decode b_Sto_add 116 = .ok (.getfield 49, 3) := by decide +kernel
theorem d_Sto_add_119 : decode b_Sto_add 119 = .ok (.if_icmp .ge 136, 3) := by decide +kernel
theorem d_Sto_add_122 : decode b_Sto_add 122 = .ok (.aload_n 0, 1) := by decide +kernel
theorem d_Sto_add_123 : decode b_Sto_add 123 = .ok (.getfield 14, 3) := by decide +kernel
theorem d_Sto_add_126 : decode b_Sto_add 126 = .ok (.aload_n 1, 1) := by decide +kernel
theorem d_Sto_add_127 : decode b_Sto_add 127 = .ok (.getfield 60, 3) := by decide +kernel
theorem d_Sto_add_130 : decode b_Sto_add 130 = .ok (.iload 5, 2) := by decide +kernel
theorem d_Sto_add_132 : decode b_Sto_add 132 = .ok (.baload, 1) := by decide +kernel
theorem d_Sto_add_133 : decode b_Sto_add 133 = .ok (.ifCond .eq 7, 3) := by decide +kernel
theorem d_Sto_add_136 : decode b_Sto_add 136 = .ok (.iconst 1, 1) := by decide +kernel
theorem d_Sto_add_137 : decode b_Sto_add 137 = .ok (.goto 4, 3) := by decide +kernel
theorem d_Sto_add_140 : decode b_Sto_add 140 = .ok (.iconst 0, 1) := by decide +kernel
theorem d_Sto_add_141 : decode b_Sto_add 141 = .ok (.invokevirtual 46, 3) := by decide +kernel
theorem d_Sto_add_144 : decode b_Sto_add 144 = .ok (.aload_n 0, 1) := by decide +kernel
theorem d_Sto_add_145 : decode b_Sto_add 145 = .ok (.getfield 14, 3) := by decide +kernel
theorem d_Sto_add_148 : decode b_Sto_add 148 = .ok (.iconst 0, 1) := by decide +kernel
theorem d_Sto_add_149 : decode b_Sto_add 149 = .ok (.invokevirtual 46, 3) := by decide +kernel
theorem d_Sto_add_152 : decode b_Sto_add 152 = .ok (.aload_n 0, 1) := by decide +kernel
theorem d_Sto_add_153 : decode b_Sto_add 153 = .ok (.getfield 14, 3) := by decide +kernel
theorem d_Sto_add_156 : decode b_Sto_add 156 = .ok (.iconst 0, 1) := by decide +kernel
theorem d_Sto_add_157 : decode b_Sto_add 157 = .ok (.invokevirtual 46, 3) := by decide +kernel
theorem d_Sto_add_160 : decode b_Sto_add 160 = .ok (.aload_n 0, 1) := by decide +kernel
theorem d_Sto_add_161 : decode b_Sto_add 161 = .ok (.getfield 14, 3) := by decide +kernel
theorem d_Sto_add_164 : decode b_Sto_add 164 = .ok (.aload_n 1, 1) := by decide +kernel
theorem d_Sto_add_165 : decode b_Sto_add 165 = .ok (.getfield 64, 3) := by decide +kernel
theorem d_Sto_add_168 : decode b_Sto_add 168 = .ok (.iload 5, 2) := by decide +kernel
theorem d_Sto_add_170 : decode b_Sto_add 170 = .ok (.iaload, 1) := by decide +kernel
theorem d_Sto_add_171 : decode b_Sto_add 171 = .ok (.aload_n 1, 1) := by decide +kernel
theorem d_Sto_add_172 : decode b_Sto_add 172 = .ok (.getfield 67, 3) := by decide +kernel
theorem d_Sto_add_175 : decode b_Sto_add 175 = .ok (.iload 5, 2) := by decide +kernel
theorem d_Sto_add_177 : decode b_Sto_add 177 = .ok (.iaload, 1) := by decide +kernel
theorem d_Sto_add_178 : decode b_Sto_add 178 = .ok (.isub, 1) := by decide +kernel
theorem d_Sto_add_179 : decode b_Sto_add 179 = .ok (.invokevirtual 46, 3) := by decide +kernel
theorem d_Sto_add_182 : decode b_Sto_add 182 = .ok (.aload_n 0, 1) := by decide +kernel
theorem d_Sto_add_183 : decode b_Sto_add 183 = .ok (.getfield 14, 3) := by decide +kernel
theorem d_Sto_add_186 : decode b_Sto_add 186 = .ok (.aload_n 1, 1) := by decide +kernel
theorem d_Sto_add_187 : decode b_Sto_add 187 = .ok (.getfield 67, 3) := by decide +kernel
theorem d_Sto_add_190 : decode b_Sto_add 190 = .ok (.iload 5, 2) := by decide +kernel
theorem d_Sto_add_192 : decode b_Sto_add 192 = .ok (.iconst 1, 1) := by decide +kernel
theorem d_Sto_add_193 : decode b_Sto_add 193 = .ok (.iadd, 1) := by decide +kernel
theorem d_Sto_add_194 : decode b_Sto_add 194 = .ok (.iaload, 1) := by decide +kernel
theorem d_Sto_add_195 : decode b_Sto_add 195 = .ok (.aload_n 1, 1) := by decide +kernel
theorem d_Sto_add_196 : decode b_Sto_add 196 = .ok (.getfield 64, 3) := by decide +kernel
theorem d_Sto_add_199 : decode b_Sto_add 199 = .ok (.iload 5, 2) := by decide +kernel
theorem d_Sto_add_201 : decode b_Sto_add 201 = .ok (.iaload, 1) := by decide +kernel
theorem d_Sto_add_202 : decode b_Sto_add 202 = .ok (.isub, 1) := by decide +kernel
theorem d_Sto_add_203 : decode b_Sto_add 203 = .ok (.invokevirtual 46, 3) := by decide +kernel
theorem d_Sto_add_206 : decode b_Sto_add 206 = .ok (.aload_n 1, 1) := by decide +kernel
theorem d_Sto_add_207 : decode b_Sto_add 207 = .ok (.getfield 67, 3) := by decide +kernel
theorem d_Sto_add_210 : decode b_Sto_add 210 = .ok (.iload 5, 2) := by decide +kernel
theorem d_Sto_add_212 : decode b_Sto_add 212 = .ok (.iaload, 1) := by decide +kernel
theorem d_Sto_add_213 : decode b_Sto_add 213 = .ok (.istore 6, 2) := by decide +kernel
theorem d_Sto_add_215 : decode b_Sto_add 215 = .ok (.iload 6, 2) := by decide +kernel
theorem d_Sto_add_217 : decode b_Sto_add 217 = .ok (.aload_n 1, 1) := by decide +kernel
theorem d_Sto_add_218 : decode b_Sto_add 218 = .ok (.getfield 67, 3) := by decide +kernel
theorem d_Sto_add_221 : decode b_Sto_add 221 = .ok (.iload 5, 2) := by decide +kernel
theorem d_Sto_add_223 : decode b_Sto_add 223 = .ok (.iconst 1, 1) := by decide +kernel
theorem d_Sto_add_224 : decode b_Sto_add 224 = .ok (.iadd, 1) := by decide +kernel
theorem d_Sto_add_225 : decode b_Sto_add 225 = .ok (.iaload, 1) := by decide +kernel
theorem d_Sto_add_226 : decode b_Sto_add 226 = .ok (.if_icmp .ge 23, 3) := by decide +kernel
theorem d_Sto_add_229 : decode b_Sto_add 229 = .ok (.aload_n 0, 1) := by decide +kernel
theorem d_Sto_add_230 : decode b_Sto_add 230 = .ok (.getfield 14, 3) := by decide +kernel
theorem d_Sto_add_233 : decode b_Sto_add 233 = .ok (.aload_n 1, 1) := by decide +kernel
theorem d_Sto_add_234 : decode b_Sto_add 234 = .ok (.getfield 70, 3) := by decide +kernel
theorem d_Sto_add_237 : decode b_Sto_add 237 = .ok (.iload 6, 2) := by decide +kernel
theorem d_Sto_add_239 : decode b_Sto_add 239 = .ok (.iaload, 1) := by decide +kernel
theorem d_Sto_add_240 : decode b_Sto_add 240 = .ok (.invokevirtual 46, 3) := by decide +kernel
theorem d_Sto_add_243 : decode b_Sto_add 243 = .ok (.iinc 6 1, 3) := by decide +kernel
theorem d_Sto_add_246 : decode b_Sto_add 246 = .ok (.goto (-31), 3) := by decide +kernel
theorem d_Sto_add_249 : decode b_Sto_add 249 = .ok (.iinc 5 1, 3) := by decide +kernel
theorem d_Sto_add_252 : decode b_Sto_add 252 = .ok (.goto (-139), 3) := by decide +kernel
theorem d_Sto_add_255 : decode b_Sto_add 255 = .ok (.aload_n 0, 1) := by decide +kernel
theorem d_Sto_add_256 : decode b_Sto_add 256 = .ok (.dup, 1) := by decide +kernel
theorem d_Sto_add_257 : decode b_Sto_add 257 = .ok (.getfield 34, 3) := by decide +kernel
theorem d_Sto_add_260 : decode b_Sto_add 260 = .ok (.dup_x1, 1) := by decide +kernel
theorem d_Sto_add_261 : decode b_Sto_add 261 = .ok (.iconst 1, 1) := by decide +kernel
theorem d_Sto_add_262 : decode b_Sto_add 262 = .ok (.iadd, 1) := by decide +kernel
theorem d_Sto_add_263 : decode b_Sto_add 263 = .ok (.putfield 34, 3) := by decide +kernel
theorem d_Sto_add_266 : decode b_Sto_add 266 = .ok (.ireturn, 1) := by decide +kernel
abbrev b_Sym_numberOf : ByteArray := prog_10_method_3_code
def y_Sym_numberOf : MethodName := ⟨"ClauseProver$Symbols", "numberOf", "(LClauseProver$Words;)I"⟩
theorem d_Sym_numberOf_0 : decode b_Sym_numberOf 0 = .ok (.iconst 1, 1) := by decide +kernel
theorem d_Sym_numberOf_1 : decode b_Sym_numberOf 1 = .ok (.istore_n 2, 1) := by decide +kernel
theorem d_Sym_numberOf_2 : decode b_Sym_numberOf 2 = .ok (.iload_n 2, 1) := by decide +kernel
theorem d_Sym_numberOf_3 : decode b_Sym_numberOf 3 = .ok (.aload_n 0, 1) := by decide +kernel
theorem d_Sym_numberOf_4 : decode b_Sym_numberOf 4 = .ok (.getfield 40, 3) := by decide +kernel
theorem d_Sym_numberOf_7 : decode b_Sym_numberOf 7 = .ok (.if_icmp .gt 85, 3) := by decide +kernel
theorem d_Sym_numberOf_10 : decode b_Sym_numberOf 10 = .ok (.iconst 0, 1) := by decide +kernel
theorem d_Sym_numberOf_11 : decode b_Sym_numberOf 11 = .ok (.istore_n 3, 1) := by decide +kernel
theorem d_Sym_numberOf_12 : decode b_Sym_numberOf 12 = .ok (.iload_n 3, 1) := by decide +kernel
theorem d_Sym_numberOf_13 : decode b_Sym_numberOf 13 = .ok (.aload_n 0, 1) := by decide +kernel
theorem d_Sym_numberOf_14 : decode b_Sym_numberOf 14 = .ok (.getfield 18, 3) := by decide +kernel
theorem d_Sym_numberOf_17 : decode b_Sym_numberOf 17 = .ok (.iload_n 2, 1) := by decide +kernel
theorem d_Sym_numberOf_18 : decode b_Sym_numberOf 18 = .ok (.iaload, 1) := by decide +kernel
theorem d_Sym_numberOf_19 : decode b_Sym_numberOf 19 = .ok (.if_icmp .ge 47, 3) := by decide +kernel
theorem d_Sym_numberOf_22 : decode b_Sym_numberOf 22 = .ok (.iload_n 3, 1) := by decide +kernel
theorem d_Sym_numberOf_23 : decode b_Sym_numberOf 23 = .ok (.aload_n 1, 1) := by decide +kernel
theorem d_Sym_numberOf_24 : decode b_Sym_numberOf 24 = .ok (.getfield 44, 3) := by decide +kernel
theorem d_Sym_numberOf_27 : decode b_Sym_numberOf 27 = .ok (.if_icmp .ge 39, 3) := by decide +kernel
theorem d_Sym_numberOf_30 : decode b_Sym_numberOf 30 = .ok (.aload_n 0, 1) := by decide +kernel
theorem d_Sym_numberOf_31 : decode b_Sym_numberOf 31 = .ok (.getfield 26, 3) := by decide +kernel
theorem d_Sym_numberOf_34 : decode b_Sym_numberOf 34 = .ok (.getfield 47, 3) := by decide +kernel
theorem d_Sym_numberOf_37 : decode b_Sym_numberOf 37 = .ok (.aload_n 0, 1) := by decide +kernel
theorem d_Sym_numberOf_38 : decode b_Sym_numberOf 38 = .ok (.getfield 15, 3) := by decide +kernel
theorem d_Sym_numberOf_41 : decode b_Sym_numberOf 41 = .ok (.iload_n 2, 1) := by decide +kernel
theorem d_Sym_numberOf_42 : decode b_Sym_numberOf 42 = .ok (.iaload, 1) := by decide +kernel
theorem d_Sym_numberOf_43 : decode b_Sym_numberOf 43 = .ok (.iload_n 3, 1) := by decide +kernel
theorem d_Sym_numberOf_44 : decode b_Sym_numberOf 44 = .ok (.iadd, 1) := by decide +kernel
theorem d_Sym_numberOf_45 : decode b_Sym_numberOf 45 = .ok (.iaload, 1) := by decide +kernel
theorem d_Sym_numberOf_46 : decode b_Sym_numberOf 46 = .ok (.aload_n 1, 1) := by decide +kernel
theorem d_Sym_numberOf_47 : decode b_Sym_numberOf 47 = .ok (.getfield 50, 3) := by decide +kernel
theorem d_Sym_numberOf_50 : decode b_Sym_numberOf 50 = .ok (.aload_n 1, 1) := by decide +kernel
theorem d_Sym_numberOf_51 : decode b_Sym_numberOf 51 = .ok (.getfield 53, 3) := by decide +kernel
theorem d_Sym_numberOf_54 : decode b_Sym_numberOf 54 = .ok (.iload_n 3, 1) := by decide +kernel
theorem d_Sym_numberOf_55 : decode b_Sym_numberOf 55 = .ok (.iadd, 1) := by decide +kernel
theorem d_Sym_numberOf_56 : decode b_Sym_numberOf 56 = .ok (.iaload, 1) := by decide +kernel
theorem d_Sym_numberOf_57 : decode b_Sym_numberOf 57 = .ok (.if_icmp .ne 9, 3) := by decide +kernel
theorem d_Sym_numberOf_60 : decode b_Sym_numberOf 60 = .ok (.iinc 3 1, 3) := by decide +kernel
theorem d_Sym_numberOf_63 : decode b_Sym_numberOf 63 = .ok (.goto (-51), 3) := by decide +kernel
theorem d_Sym_numberOf_66 : decode b_Sym_numberOf 66 = .ok (.iload_n 3, 1) := by decide +kernel
theorem d_Sym_numberOf_67 : decode b_Sym_numberOf 67 = .ok (.aload_n 0, 1) := by decide +kernel
theorem d_Sym_numberOf_68 : decode b_Sym_numberOf 68 = .ok (.getfield 18, 3) := by decide +kernel
theorem d_Sym_numberOf_71 : decode b_Sym_numberOf 71 = .ok (.iload_n 2, 1) := by decide +kernel
theorem d_Sym_numberOf_72 : decode b_Sym_numberOf 72 = .ok (.iaload, 1) := by decide +kernel
theorem d_Sym_numberOf_73 : decode b_Sym_numberOf 73 = .ok (.if_icmp .ne 13, 3) := by decide +kernel
theorem d_Sym_numberOf_76 : decode b_Sym_numberOf 76 = .ok (.iload_n 3, 1) := by decide +kernel
theorem d_Sym_numberOf_77 : decode b_Sym_numberOf 77 = .ok (.aload_n 1, 1) := by decide +kernel
theorem d_Sym_numberOf_78 : decode b_Sym_numberOf 78 = .ok (.getfield 44, 3) := by decide +kernel
theorem d_Sym_numberOf_81 : decode b_Sym_numberOf 81 = .ok (.if_icmp .ne 5, 3) := by decide +kernel
theorem d_Sym_numberOf_84 : decode b_Sym_numberOf 84 = .ok (.iload_n 2, 1) := by decide +kernel
theorem d_Sym_numberOf_85 : decode b_Sym_numberOf 85 = .ok (.ireturn, 1) := by decide +kernel
theorem d_Sym_numberOf_86 : decode b_Sym_numberOf 86 = .ok (.iinc 2 1, 3) := by decide +kernel
theorem d_Sym_numberOf_89 : decode b_Sym_numberOf 89 = .ok (.goto (-87), 3) := by decide +kernel
theorem d_Sym_numberOf_92 : decode b_Sym_numberOf 92 = .ok (.aload_n 0, 1) := by decide +kernel
theorem d_Sym_numberOf_93 : decode b_Sym_numberOf 93 = .ok (.getfield 40, 3) := by decide +kernel
theorem d_Sym_numberOf_96 : decode b_Sym_numberOf 96 = .ok (.sipush 250, 3) := by decide +kernel
theorem d_Sym_numberOf_99 : decode b_Sym_numberOf 99 = .ok (.if_icmp .ne 5, 3) := by decide +kernel
theorem d_Sym_numberOf_102 : decode b_Sym_numberOf 102 = .ok (.iconst (-1), 1) := by decide +kernel
theorem d_Sym_numberOf_103 : decode b_Sym_numberOf 103 = .ok (.ireturn, 1) := by decide +kernel
theorem d_Sym_numberOf_104 : decode b_Sym_numberOf 104 = .ok (.aload_n 0, 1) := by decide +kernel
theorem d_Sym_numberOf_105 : decode b_Sym_numberOf 105 = .ok (.dup, 1) := by decide +kernel
theorem d_Sym_numberOf_106 : decode b_Sym_numberOf 106 = .ok (.getfield 40, 3) := by decide +kernel
theorem d_Sym_numberOf_109 : decode b_Sym_numberOf 109 = .ok (.iconst 1, 1) := by decide +kernel
theorem d_Sym_numberOf_110 : decode b_Sym_numberOf 110 = .ok (.iadd, 1) := by decide +kernel
theorem d_Sym_numberOf_111 : decode b_Sym_numberOf 111 = .ok (.putfield 40, 3) := by decide +kernel
theorem d_Sym_numberOf_114 : decode b_Sym_numberOf 114 = .ok (.aload_n 0, 1) := by decide +kernel
theorem d_Sym_numberOf_115 : decode b_Sym_numberOf 115 = .ok (.aload_n 0, 1) := by decide +kernel
theorem d_Sym_numberOf_116 : decode b_Sym_numberOf 116 = .ok (.getfield 40, 3) := by decide +kernel
theorem d_Sym_numberOf_119 : decode b_Sym_numberOf 119 = .ok (.iconst 1, 1) := by decide +kernel
theorem d_Sym_numberOf_120 : decode b_Sym_numberOf 120 = .ok (.iadd, 1) := by decide +kernel
theorem d_Sym_numberOf_121 : decode b_Sym_numberOf 121 = .ok (.putfield 36, 3) := by decide +kernel
theorem d_Sym_numberOf_124 : decode b_Sym_numberOf 124 = .ok (.aload_n 0, 1) := by decide +kernel
theorem d_Sym_numberOf_125 : decode b_Sym_numberOf 125 = .ok (.getfield 30, 3) := by decide +kernel
theorem d_Sym_numberOf_128 : decode b_Sym_numberOf 128 = .ok (.aload_n 0, 1) := by decide +kernel
theorem d_Sym_numberOf_129 : decode b_Sym_numberOf 129 = .ok (.getfield 40, 3) := by decide +kernel
theorem d_Sym_numberOf_132 : decode b_Sym_numberOf 132 = .ok (.iconst 0, 1) := by decide +kernel
theorem d_Sym_numberOf_133 : decode b_Sym_numberOf 133 = .ok (.iastore, 1) := by decide +kernel
theorem d_Sym_numberOf_134 : decode b_Sym_numberOf 134 = .ok (.aload_n 0, 1) := by decide +kernel
theorem d_Sym_numberOf_135 : decode b_Sym_numberOf 135 = .ok (.getfield 15, 3) := by decide +kernel
theorem d_Sym_numberOf_138 : decode b_Sym_numberOf 138 = .ok (.aload_n 0, 1) := by decide +kernel
theorem d_Sym_numberOf_139 : decode b_Sym_numberOf 139 = .ok (.getfield 40, 3) := by decide +kernel
theorem d_Sym_numberOf_142 : decode b_Sym_numberOf 142 = .ok (.aload_n 0, 1) := by decide +kernel
theorem d_Sym_numberOf_143 : decode b_Sym_numberOf 143 = .ok (.getfield 26, 3) := by decide +kernel
theorem d_Sym_numberOf_146 : decode b_Sym_numberOf 146 = .ok (.getfield 43, 3) := by decide +kernel
theorem d_Sym_numberOf_149 : decode b_Sym_numberOf 149 = .ok (.iastore, 1) := by decide +kernel
theorem d_Sym_numberOf_150 : decode b_Sym_numberOf 150 = .ok (.aload_n 0, 1) := by decide +kernel
theorem d_Sym_numberOf_151 : decode b_Sym_numberOf 151 = .ok (.getfield 18, 3) := by decide +kernel
theorem d_Sym_numberOf_154 : decode b_Sym_numberOf 154 = .ok (.aload_n 0, 1) := by decide +kernel
theorem d_Sym_numberOf_155 : decode b_Sym_numberOf 155 = .ok (.getfield 40, 3) := by decide +kernel
theorem d_Sym_numberOf_158 : decode b_Sym_numberOf 158 = .ok (.aload_n 1, 1) := by decide +kernel
theorem d_Sym_numberOf_159 : decode b_Sym_numberOf 159 = .ok (.getfield 44, 3) := by decide +kernel
theorem d_Sym_numberOf_162 : decode b_Sym_numberOf 162 = .ok (.iastore, 1) := by decide +kernel
theorem d_Sym_numberOf_163 : decode b_Sym_numberOf 163 = .ok (.iconst 0, 1) := by decide +kernel
theorem d_Sym_numberOf_164 : decode b_Sym_numberOf 164 = .ok (.istore_n 2, 1) := by decide +kernel
theorem d_Sym_numberOf_165 : decode b_Sym_numberOf 165 = .ok (.iload_n 2, 1) := by decide +kernel
theorem d_Sym_numberOf_166 : decode b_Sym_numberOf 166 = .ok (.aload_n 1, 1) := by decide +kernel
theorem d_Sym_numberOf_167 : decode b_Sym_numberOf 167 = .ok (.getfield 44, 3) := by decide +kernel
theorem d_Sym_numberOf_170 : decode b_Sym_numberOf 170 = .ok (.if_icmp .ge 27, 3) := by decide +kernel
theorem d_Sym_numberOf_173 : decode b_Sym_numberOf 173 = .ok (.aload_n 0, 1) := by decide +kernel
theorem d_Sym_numberOf_174 : decode b_Sym_numberOf 174 = .ok (.getfield 26, 3) := by decide +kernel
theorem d_Sym_numberOf_177 : decode b_Sym_numberOf 177 = .ok (.aload_n 1, 1) := by decide +kernel
theorem d_Sym_numberOf_178 : decode b_Sym_numberOf 178 = .ok (.getfield 50, 3) := by decide +kernel
theorem d_Sym_numberOf_181 : decode b_Sym_numberOf 181 = .ok (.aload_n 1, 1) := by decide +kernel
theorem d_Sym_numberOf_182 : decode b_Sym_numberOf 182 = .ok (.getfield 53, 3) := by decide +kernel
theorem d_Sym_numberOf_185 : decode b_Sym_numberOf 185 = .ok (.iload_n 2, 1) := by decide +kernel
theorem d_Sym_numberOf_186 : decode b_Sym_numberOf 186 = .ok (.iadd, 1) := by decide +kernel
theorem d_Sym_numberOf_187 : decode b_Sym_numberOf 187 = .ok (.iaload, 1) := by decide +kernel
theorem d_Sym_numberOf_188 : decode b_Sym_numberOf 188 = .ok (.invokevirtual 56, 3) := by decide +kernel
theorem d_Sym_numberOf_191 : decode b_Sym_numberOf 191 = .ok (.iinc 2 1, 3) := by decide +kernel
theorem d_Sym_numberOf_194 : decode b_Sym_numberOf 194 = .ok (.goto (-29), 3) := by decide +kernel
theorem d_Sym_numberOf_197 : decode b_Sym_numberOf 197 = .ok (.aload_n 0, 1) := by decide +kernel
theorem d_Sym_numberOf_198 : decode b_Sym_numberOf 198 = .ok (.getfield 40, 3) := by decide +kernel
theorem d_Sym_numberOf_201 : decode b_Sym_numberOf 201 = .ok (.ireturn, 1) := by decide +kernel
abbrev b_Uni_join : ByteArray := prog_11_method_6_code
def y_Uni_join : MethodName := ⟨"ClauseProver$Unifier", "join", "(III)Z"⟩
theorem d_Uni_join_0 : decode b_Uni_join 0 = .ok (.aload_n 0, 1) := by decide +kernel
theorem d_Uni_join_1 : decode b_Uni_join 1 = .ok (.getfield 17, 3) := by decide +kernel
theorem d_Uni_join_4 : decode b_Uni_join 4 = .ok (.iload_n 2, 1) := by decide +kernel
theorem d_Uni_join_5 : decode b_Uni_join 5 = .ok (.iaload, 1) := by decide +kernel
theorem d_Uni_join_6 : decode b_Uni_join 6 = .ok (.iconst (-1), 1) := by decide +kernel
theorem d_Uni_join_7 : decode b_Uni_join 7 = .ok (.if_icmp .eq 23, 3) := by decide +kernel
theorem d_Uni_join_10 : decode b_Uni_join 10 = .ok (.aload_n 0, 1) := by decide +kernel
theorem d_Uni_join_11 : decode b_Uni_join 11 = .ok (.iload_n 1, 1) := by decide +kernel
theorem d_Uni_join_12 : decode b_Uni_join 12 = .ok (.aload_n 0, 1) := by decide +kernel
theorem d_Uni_join_13 : decode b_Uni_join 13 = .ok (.getfield 17, 3) := by decide +kernel
theorem d_Uni_join_16 : decode b_Uni_join 16 = .ok (.iload_n 2, 1) := by decide +kernel
theorem d_Uni_join_17 : decode b_Uni_join 17 = .ok (.iaload, 1) := by decide +kernel
theorem d_Uni_join_18 : decode b_Uni_join 18 = .ok (.aload_n 0, 1) := by decide +kernel
theorem d_Uni_join_19 : decode b_Uni_join 19 = .ok (.getfield 20, 3) := by decide +kernel
theorem d_Uni_join_22 : decode b_Uni_join 22 = .ok (.iload_n 2, 1) := by decide +kernel
theorem d_Uni_join_23 : decode b_Uni_join 23 = .ok (.iaload, 1) := by decide +kernel
theorem d_Uni_join_24 : decode b_Uni_join 24 = .ok (.invokevirtual 84, 3) := by decide +kernel
theorem d_Uni_join_27 : decode b_Uni_join 27 = .ok (.ifCond .ne 33, 3) := by decide +kernel
theorem d_Uni_join_30 : decode b_Uni_join 30 = .ok (.aload_n 0, 1) := by decide +kernel
theorem d_Uni_join_31 : decode b_Uni_join 31 = .ok (.getfield 17, 3) := by decide +kernel
theorem d_Uni_join_34 : decode b_Uni_join 34 = .ok (.iload_n 1, 1) := by decide +kernel
theorem d_Uni_join_35 : decode b_Uni_join 35 = .ok (.iaload, 1) := by decide +kernel
theorem d_Uni_join_36 : decode b_Uni_join 36 = .ok (.iconst (-1), 1) := by decide +kernel
theorem d_Uni_join_37 : decode b_Uni_join 37 = .ok (.if_icmp .eq 25, 3) := by decide +kernel
theorem d_Uni_join_40 : decode b_Uni_join 40 = .ok (.aload_n 0, 1) := by decide +kernel
theorem d_Uni_join_41 : decode b_Uni_join 41 = .ok (.iload_n 2, 1) := by decide +kernel
theorem d_Uni_join_42 : decode b_Uni_join 42 = .ok (.aload_n 0, 1) := by decide +kernel
theorem d_Uni_join_43 : decode b_Uni_join 43 = .ok (.getfield 17, 3) := by decide +kernel
theorem d_Uni_join_46 : decode b_Uni_join 46 = .ok (.iload_n 1, 1) := by decide +kernel
theorem d_Uni_join_47 : decode b_Uni_join 47 = .ok (.iaload, 1) := by decide +kernel
theorem d_Uni_join_48 : decode b_Uni_join 48 = .ok (.aload_n 0, 1) := by decide +kernel
theorem d_Uni_join_49 : decode b_Uni_join 49 = .ok (.getfield 20, 3) := by decide +kernel
theorem d_Uni_join_52 : decode b_Uni_join 52 = .ok (.iload_n 1, 1) := by decide +kernel
theorem d_Uni_join_53 : decode b_Uni_join 53 = .ok (.iaload, 1) := by decide +kernel
theorem d_Uni_join_54 : decode b_Uni_join 54 = .ok (.invokevirtual 84, 3) := by decide +kernel
theorem d_Uni_join_57 : decode b_Uni_join 57 = .ok (.ifCond .eq 5, 3) := by decide +kernel
theorem d_Uni_join_60 : decode b_Uni_join 60 = .ok (.iconst 0, 1) := by decide +kernel
theorem d_Uni_join_61 : decode b_Uni_join 61 = .ok (.ireturn, 1) := by decide +kernel
theorem d_Uni_join_62 : decode b_Uni_join 62 = .ok (.aload_n 0, 1) := by decide +kernel
theorem d_Uni_join_63 : decode b_Uni_join 63 = .ok (.getfield 17, 3) := by decide +kernel
theorem d_Uni_join_66 : decode b_Uni_join 66 = .ok (.iload_n 1, 1) := by decide +kernel
theorem d_Uni_join_67 : decode b_Uni_join 67 = .ok (.iaload, 1) := by decide +kernel
theorem d_Uni_join_68 : decode b_Uni_join 68 = .ok (.iconst (-1), 1) := by decide +kernel
theorem d_Uni_join_69 : decode b_Uni_join 69 = .ok (.if_icmp .ne 7, 3) := by decide +kernel
theorem d_Uni_join_72 : decode b_Uni_join 72 = .ok (.iload_n 1, 1) := by decide +kernel
theorem d_Uni_join_73 : decode b_Uni_join 73 = .ok (.goto 4, 3) := by decide +kernel
theorem d_Uni_join_76 : decode b_Uni_join 76 = .ok (.iload_n 2, 1) := by decide +kernel
theorem d_Uni_join_77 : decode b_Uni_join 77 = .ok (.istore 4, 2) := by decide +kernel
theorem d_Uni_join_79 : decode b_Uni_join 79 = .ok (.iload_n 1, 1) := by decide +kernel
theorem d_Uni_join_80 : decode b_Uni_join 80 = .ok (.iload_n 2, 1) := by decide +kernel
theorem d_Uni_join_81 : decode b_Uni_join 81 = .ok (.iadd, 1) := by decide +kernel
theorem d_Uni_join_82 : decode b_Uni_join 82 = .ok (.iload 4, 2) := by decide +kernel
theorem d_Uni_join_84 : decode b_Uni_join 84 = .ok (.isub, 1) := by decide +kernel
theorem d_Uni_join_85 : decode b_Uni_join 85 = .ok (.istore 5, 2) := by decide +kernel
theorem d_Uni_join_87 : decode b_Uni_join 87 = .ok (.iconst 0, 1) := by decide +kernel
theorem d_Uni_join_88 : decode b_Uni_join 88 = .ok (.istore 6, 2) := by decide +kernel
theorem d_Uni_join_90 : decode b_Uni_join 90 = .ok (.iload 6, 2) := by decide +kernel
theorem d_Uni_join_92 : decode b_Uni_join 92 = .ok (.bipush 12, 2) := by decide +kernel
theorem d_Uni_join_94 : decode b_Uni_join 94 = .ok (.if_icmp .ge 40, 3) := by decide +kernel
theorem d_Uni_join_97 : decode b_Uni_join 97 = .ok (.aload_n 0, 1) := by decide +kernel
theorem d_Uni_join_98 : decode b_Uni_join 98 = .ok (.getfield 13, 3) := by decide +kernel
theorem d_Uni_join_101 : decode b_Uni_join 101 = .ok (.iload 6, 2) := by decide +kernel
theorem d_Uni_join_103 : decode b_Uni_join 103 = .ok (.aload_n 0, 1) := by decide +kernel
theorem d_Uni_join_104 : decode b_Uni_join 104 = .ok (.getfield 13, 3) := by decide +kernel
theorem d_Uni_join_107 : decode b_Uni_join 107 = .ok (.iload 6, 2) := by decide +kernel
theorem d_Uni_join_109 : decode b_Uni_join 109 = .ok (.iaload, 1) := by decide +kernel
theorem d_Uni_join_110 : decode b_Uni_join 110 = .ok (.iload 4, 2) := by decide +kernel
theorem d_Uni_join_112 : decode b_Uni_join 112 = .ok (.if_icmp .ne 8, 3) := by decide +kernel
theorem d_Uni_join_115 : decode b_Uni_join 115 = .ok (.iload 5, 2) := by decide +kernel
theorem d_Uni_join_117 : decode b_Uni_join 117 = .ok (.goto 10, 3) := by decide +kernel
theorem d_Uni_join_120 : decode b_Uni_join 120 = .ok (.aload_n 0, 1) := by decide +kernel
theorem d_Uni_join_121 : decode b_Uni_join 121 = .ok (.getfield 13, 3) := by decide +kernel
theorem d_Uni_join_124 : decode b_Uni_join 124 = .ok (.iload 6, 2) := by decide +kernel
theorem d_Uni_join_126 : decode b_Uni_join 126 = .ok (.iaload, 1) := by decide +kernel
theorem d_Uni_join_127 : decode b_Uni_join 127 = .ok (.iastore, 1) := by decide +kernel
theorem d_Uni_join_128 : decode b_Uni_join 128 = .ok (.iinc 6 1, 3) := by decide +kernel
theorem d_Uni_join_131 : decode b_Uni_join 131 = .ok (.goto (-41), 3) := by decide +kernel
theorem d_Uni_join_134 : decode b_Uni_join 134 = .ok (.aload_n 0, 1) := by decide +kernel
theorem d_Uni_join_135 : decode b_Uni_join 135 = .ok (.dup, 1) := by decide +kernel
theorem d_Uni_join_136 : decode b_Uni_join 136 = .ok (.getfield 43, 3) := by decide +kernel
theorem d_Uni_join_139 : decode b_Uni_join 139 = .ok (.iconst 1, 1) := by decide +kernel
theorem d_Uni_join_140 : decode b_Uni_join 140 = .ok (.iload 4, 2) := by decide +kernel
theorem d_Uni_join_142 : decode b_Uni_join 142 = .ok (.ishl, 1) := by decide +kernel
theorem d_Uni_join_143 : decode b_Uni_join 143 = .ok (.iconst (-1), 1) := by decide +kernel
theorem d_Uni_join_144 : decode b_Uni_join 144 = .ok (.ixor, 1) := by decide +kernel
theorem d_Uni_join_145 : decode b_Uni_join 145 = .ok (.iand, 1) := by decide +kernel
theorem d_Uni_join_146 : decode b_Uni_join 146 = .ok (.putfield 43, 3) := by decide +kernel
theorem d_Uni_join_149 : decode b_Uni_join 149 = .ok (.aload_n 0, 1) := by decide +kernel
theorem d_Uni_join_150 : decode b_Uni_join 150 = .ok (.getfield 17, 3) := by decide +kernel
theorem d_Uni_join_153 : decode b_Uni_join 153 = .ok (.iload 4, 2) := by decide +kernel
theorem d_Uni_join_155 : decode b_Uni_join 155 = .ok (.iaload, 1) := by decide +kernel
theorem d_Uni_join_156 : decode b_Uni_join 156 = .ok (.iconst (-1), 1) := by decide +kernel
theorem d_Uni_join_157 : decode b_Uni_join 157 = .ok (.if_icmp .eq 41, 3) := by decide +kernel
theorem d_Uni_join_160 : decode b_Uni_join 160 = .ok (.aload_n 0, 1) := by decide +kernel
theorem d_Uni_join_161 : decode b_Uni_join 161 = .ok (.aload_n 0, 1) := by decide +kernel
theorem d_Uni_join_162 : decode b_Uni_join 162 = .ok (.getfield 17, 3) := by decide +kernel
theorem d_Uni_join_165 : decode b_Uni_join 165 = .ok (.iload 4, 2) := by decide +kernel
theorem d_Uni_join_167 : decode b_Uni_join 167 = .ok (.iaload, 1) := by decide +kernel
theorem d_Uni_join_168 : decode b_Uni_join 168 = .ok (.aload_n 0, 1) := by decide +kernel
theorem d_Uni_join_169 : decode b_Uni_join 169 = .ok (.getfield 20, 3) := by decide +kernel
theorem d_Uni_join_172 : decode b_Uni_join 172 = .ok (.iload 4, 2) := by decide +kernel
theorem d_Uni_join_174 : decode b_Uni_join 174 = .ok (.iaload, 1) := by decide +kernel
theorem d_Uni_join_175 : decode b_Uni_join 175 = .ok (.aload_n 0, 1) := by decide +kernel
theorem d_Uni_join_176 : decode b_Uni_join 176 = .ok (.getfield 17, 3) := by decide +kernel
theorem d_Uni_join_179 : decode b_Uni_join 179 = .ok (.iload 5, 2) := by decide +kernel
theorem d_Uni_join_181 : decode b_Uni_join 181 = .ok (.iaload, 1) := by decide +kernel
theorem d_Uni_join_182 : decode b_Uni_join 182 = .ok (.aload_n 0, 1) := by decide +kernel
theorem d_Uni_join_183 : decode b_Uni_join 183 = .ok (.getfield 20, 3) := by decide +kernel
theorem d_Uni_join_186 : decode b_Uni_join 186 = .ok (.iload 5, 2) := by decide +kernel
theorem d_Uni_join_188 : decode b_Uni_join 188 = .ok (.iaload, 1) := by decide +kernel
theorem d_Uni_join_189 : decode b_Uni_join 189 = .ok (.iload_n 3, 1) := by decide +kernel
theorem d_Uni_join_190 : decode b_Uni_join 190 = .ok (.iconst 1, 1) := by decide +kernel
theorem d_Uni_join_191 : decode b_Uni_join 191 = .ok (.iadd, 1) := by decide +kernel
theorem d_Uni_join_192 : decode b_Uni_join 192 = .ok (.invokevirtual 90, 3) := by decide +kernel
theorem d_Uni_join_195 : decode b_Uni_join 195 = .ok (.ifCond .eq 7, 3) := by decide +kernel
theorem d_Uni_join_198 : decode b_Uni_join 198 = .ok (.iconst 1, 1) := by decide +kernel
theorem d_Uni_join_199 : decode b_Uni_join 199 = .ok (.goto 4, 3) := by decide +kernel
theorem d_Uni_join_202 : decode b_Uni_join 202 = .ok (.iconst 0, 1) := by decide +kernel
theorem d_Uni_join_203 : decode b_Uni_join 203 = .ok (.ireturn, 1) := by decide +kernel
abbrev b_Uni_meet : ByteArray := prog_11_method_5_code
def y_Uni_meet : MethodName := ⟨"ClauseProver$Unifier", "meet", "(IIII)Z"⟩
theorem d_Uni_meet_0 : decode b_Uni_meet 0 = .ok (.aload_n 0, 1) := by decide +kernel
theorem d_Uni_meet_1 : decode b_Uni_meet 1 = .ok (.getfield 17, 3) := by decide +kernel
theorem d_Uni_meet_4 : decode b_Uni_meet 4 = .ok (.iload_n 1, 1) := by decide +kernel
theorem d_Uni_meet_5 : decode b_Uni_meet 5 = .ok (.iaload, 1) := by decide +kernel
theorem d_Uni_meet_6 : decode b_Uni_meet 6 = .ok (.iconst (-1), 1) := by decide +kernel
theorem d_Uni_meet_7 : decode b_Uni_meet 7 = .ok (.if_icmp .ne 62, 3) := by decide +kernel
theorem d_Uni_meet_10 : decode b_Uni_meet 10 = .ok (.aload_n 0, 1) := by decide +kernel
theorem d_Uni_meet_11 : decode b_Uni_meet 11 = .ok (.getfield 36, 3) := by decide +kernel
theorem d_Uni_meet_14 : decode b_Uni_meet 14 = .ok (.aload_n 0, 1) := by decide +kernel
theorem d_Uni_meet_15 : decode b_Uni_meet 15 = .ok (.getfield 40, 3) := by decide +kernel
theorem d_Uni_meet_18 : decode b_Uni_meet 18 = .ok (.getfield 56, 3) := by decide +kernel
theorem d_Uni_meet_21 : decode b_Uni_meet 21 = .ok (.iload_n 2, 1) := by decide +kernel
theorem d_Uni_meet_22 : decode b_Uni_meet 22 = .ok (.iaload, 1) := by decide +kernel
theorem d_Uni_meet_23 : decode b_Uni_meet 23 = .ok (.invokevirtual 80, 3) := by decide +kernel
theorem d_Uni_meet_26 : decode b_Uni_meet 26 = .ok (.ifCond .ne 13, 3) := by decide +kernel
theorem d_Uni_meet_29 : decode b_Uni_meet 29 = .ok (.aload_n 0, 1) := by decide +kernel
theorem d_Uni_meet_30 : decode b_Uni_meet 30 = .ok (.iload_n 1, 1) := by decide +kernel
theorem d_Uni_meet_31 : decode b_Uni_meet 31 = .ok (.iload_n 2, 1) := by decide +kernel
theorem d_Uni_meet_32 : decode b_Uni_meet 32 = .ok (.iload_n 3, 1) := by decide +kernel
theorem d_Uni_meet_33 : decode b_Uni_meet 33 = .ok (.invokevirtual 84, 3) := by decide +kernel
theorem d_Uni_meet_36 : decode b_Uni_meet 36 = .ok (.ifCond .eq 5, 3) := by decide +kernel
theorem d_Uni_meet_39 : decode b_Uni_meet 39 = .ok (.iconst 0, 1) := by decide +kernel
theorem d_Uni_meet_40 : decode b_Uni_meet 40 = .ok (.ireturn, 1) := by decide +kernel
theorem d_Uni_meet_41 : decode b_Uni_meet 41 = .ok (.aload_n 0, 1) := by decide +kernel
theorem d_Uni_meet_42 : decode b_Uni_meet 42 = .ok (.getfield 17, 3) := by decide +kernel
theorem d_Uni_meet_45 : decode b_Uni_meet 45 = .ok (.iload_n 1, 1) := by decide +kernel
theorem d_Uni_meet_46 : decode b_Uni_meet 46 = .ok (.iload_n 2, 1) := by decide +kernel
theorem d_Uni_meet_47 : decode b_Uni_meet 47 = .ok (.iastore, 1) := by decide +kernel
theorem d_Uni_meet_48 : decode b_Uni_meet 48 = .ok (.aload_n 0, 1) := by decide +kernel
theorem d_Uni_meet_49 : decode b_Uni_meet 49 = .ok (.getfield 20, 3) := by decide +kernel
theorem d_Uni_meet_52 : decode b_Uni_meet 52 = .ok (.iload_n 1, 1) := by decide +kernel
theorem d_Uni_meet_53 : decode b_Uni_meet 53 = .ok (.iload_n 3, 1) := by decide +kernel
theorem d_Uni_meet_54 : decode b_Uni_meet 54 = .ok (.iastore, 1) := by decide +kernel
theorem d_Uni_meet_55 : decode b_Uni_meet 55 = .ok (.aload_n 0, 1) := by decide +kernel
theorem d_Uni_meet_56 : decode b_Uni_meet 56 = .ok (.dup, 1) := by decide +kernel
theorem d_Uni_meet_57 : decode b_Uni_meet 57 = .ok (.getfield 43, 3) := by decide +kernel
theorem d_Uni_meet_60 : decode b_Uni_meet 60 = .ok (.iconst 1, 1) := by decide +kernel
theorem d_Uni_meet_61 : decode b_Uni_meet 61 = .ok (.iload_n 1, 1) := by decide +kernel
theorem d_Uni_meet_62 : decode b_Uni_meet 62 = .ok (.ishl, 1) := by decide +kernel
theorem d_Uni_meet_63 : decode b_Uni_meet 63 = .ok (.ior, 1) := by decide +kernel
theorem d_Uni_meet_64 : decode b_Uni_meet 64 = .ok (.putfield 43, 3) := by decide +kernel
theorem d_Uni_meet_67 : decode b_Uni_meet 67 = .ok (.iconst 1, 1) := by decide +kernel
theorem d_Uni_meet_68 : decode b_Uni_meet 68 = .ok (.ireturn, 1) := by decide +kernel
theorem d_Uni_meet_69 : decode b_Uni_meet 69 = .ok (.iload_n 3, 1) := by decide +kernel
theorem d_Uni_meet_70 : decode b_Uni_meet 70 = .ok (.ifCond .ne 7, 3) := by decide +kernel
theorem d_Uni_meet_73 : decode b_Uni_meet 73 = .ok (.iconst 0, 1) := by decide +kernel
theorem d_Uni_meet_74 : decode b_Uni_meet 74 = .ok (.goto 4, 3) := by decide +kernel
theorem d_Uni_meet_77 : decode b_Uni_meet 77 = .ok (.iconst 1, 1) := by decide +kernel
theorem d_Uni_meet_78 : decode b_Uni_meet 78 = .ok (.istore 5, 2) := by decide +kernel
theorem d_Uni_meet_80 : decode b_Uni_meet 80 = .ok (.iconst 2, 1) := by decide +kernel
theorem d_Uni_meet_81 : decode b_Uni_meet 81 = .ok (.iload_n 1, 1) := by decide +kernel
theorem d_Uni_meet_82 : decode b_Uni_meet 82 = .ok (.imul, 1) := by decide +kernel
theorem d_Uni_meet_83 : decode b_Uni_meet 83 = .ok (.iload 5, 2) := by decide +kernel
theorem d_Uni_meet_85 : decode b_Uni_meet 85 = .ok (.iadd, 1) := by decide +kernel
theorem d_Uni_meet_86 : decode b_Uni_meet 86 = .ok (.sipush 140, 3) := by decide +kernel
theorem d_Uni_meet_89 : decode b_Uni_meet 89 = .ok (.imul, 1) := by decide +kernel
theorem d_Uni_meet_90 : decode b_Uni_meet 90 = .ok (.iload_n 2, 1) := by decide +kernel
theorem d_Uni_meet_91 : decode b_Uni_meet 91 = .ok (.iadd, 1) := by decide +kernel
theorem d_Uni_meet_92 : decode b_Uni_meet 92 = .ok (.iload_n 3, 1) := by decide +kernel
theorem d_Uni_meet_93 : decode b_Uni_meet 93 = .ok (.ifCond .ne 10, 3) := by decide +kernel
theorem d_Uni_meet_96 : decode b_Uni_meet 96 = .ok (.aload_n 0, 1) := by decide +kernel
theorem d_Uni_meet_97 : decode b_Uni_meet 97 = .ok (.getfield 47, 3) := by decide +kernel
theorem d_Uni_meet_100 : decode b_Uni_meet 100 = .ok (.goto 7, 3) := by decide +kernel
theorem d_Uni_meet_103 : decode b_Uni_meet 103 = .ok (.aload_n 0, 1) := by decide +kernel
theorem d_Uni_meet_104 : decode b_Uni_meet 104 = .ok (.getfield 50, 3) := by decide +kernel
theorem d_Uni_meet_107 : decode b_Uni_meet 107 = .ok (.isub, 1) := by decide +kernel
theorem d_Uni_meet_108 : decode b_Uni_meet 108 = .ok (.istore 6, 2) := by decide +kernel
theorem d_Uni_meet_110 : decode b_Uni_meet 110 = .ok (.iload 6, 2) := by decide +kernel
theorem d_Uni_meet_112 : decode b_Uni_meet 112 = .ok (.ifCond .lt 42, 3) := by decide +kernel
theorem d_Uni_meet_115 : decode b_Uni_meet 115 = .ok (.iload 6, 2) := by decide +kernel
theorem d_Uni_meet_117 : decode b_Uni_meet 117 = .ok (.aload_n 0, 1) := by decide +kernel
theorem d_Uni_meet_118 : decode b_Uni_meet 118 = .ok (.getfield 23, 3) := by decide +kernel
theorem d_Uni_meet_121 : decode b_Uni_meet 121 = .ok (.arraylength, 1) := by decide +kernel
theorem d_Uni_meet_122 : decode b_Uni_meet 122 = .ok (.if_icmp .ge 32, 3) := by decide +kernel
theorem d_Uni_meet_125 : decode b_Uni_meet 125 = .ok (.aload_n 0, 1) := by decide +kernel
theorem d_Uni_meet_126 : decode b_Uni_meet 126 = .ok (.getfield 23, 3) := by decide +kernel
theorem d_Uni_meet_129 : decode b_Uni_meet 129 = .ok (.iload 6, 2) := by decide +kernel
theorem d_Uni_meet_131 : decode b_Uni_meet 131 = .ok (.baload, 1) := by decide +kernel
theorem d_Uni_meet_132 : decode b_Uni_meet 132 = .ok (.ifCond .eq 5, 3) := by decide +kernel
theorem d_Uni_meet_135 : decode b_Uni_meet 135 = .ok (.iconst 1, 1) := by decide +kernel
theorem d_Uni_meet_136 : decode b_Uni_meet 136 = .ok (.ireturn, 1) := by decide +kernel
theorem d_Uni_meet_137 : decode b_Uni_meet 137 = .ok (.aload_n 0, 1) := by decide +kernel
theorem d_Uni_meet_138 : decode b_Uni_meet 138 = .ok (.getfield 23, 3) := by decide +kernel
theorem d_Uni_meet_141 : decode b_Uni_meet 141 = .ok (.iload 6, 2) := by decide +kernel
theorem d_Uni_meet_143 : decode b_Uni_meet 143 = .ok (.iconst 1, 1) := by decide +kernel
theorem d_Uni_meet_144 : decode b_Uni_meet 144 = .ok (.bastore, 1) := by decide +kernel
theorem d_Uni_meet_145 : decode b_Uni_meet 145 = .ok (.aload_n 0, 1) := by decide +kernel
theorem d_Uni_meet_146 : decode b_Uni_meet 146 = .ok (.getfield 32, 3) := by decide +kernel
theorem d_Uni_meet_149 : decode b_Uni_meet 149 = .ok (.iload 6, 2) := by decide +kernel
theorem d_Uni_meet_151 : decode b_Uni_meet 151 = .ok (.invokevirtual 87, 3) := by decide +kernel
theorem d_Uni_meet_154 : decode b_Uni_meet 154 = .ok (.aload_n 0, 1) := by decide +kernel
theorem d_Uni_meet_155 : decode b_Uni_meet 155 = .ok (.aload_n 0, 1) := by decide +kernel
theorem d_Uni_meet_156 : decode b_Uni_meet 156 = .ok (.getfield 17, 3) := by decide +kernel
theorem d_Uni_meet_159 : decode b_Uni_meet 159 = .ok (.iload_n 1, 1) := by decide +kernel
theorem d_Uni_meet_160 : decode b_Uni_meet 160 = .ok (.iaload, 1) := by decide +kernel
theorem d_Uni_meet_161 : decode b_Uni_meet 161 = .ok (.aload_n 0, 1) := by decide +kernel
theorem d_Uni_meet_162 : decode b_Uni_meet 162 = .ok (.getfield 20, 3) := by decide +kernel
theorem d_Uni_meet_165 : decode b_Uni_meet 165 = .ok (.iload_n 1, 1) := by decide +kernel
theorem d_Uni_meet_166 : decode b_Uni_meet 166 = .ok (.iaload, 1) := by decide +kernel
theorem d_Uni_meet_167 : decode b_Uni_meet 167 = .ok (.iload_n 2, 1) := by decide +kernel
theorem d_Uni_meet_168 : decode b_Uni_meet 168 = .ok (.iload_n 3, 1) := by decide +kernel
theorem d_Uni_meet_169 : decode b_Uni_meet 169 = .ok (.iload 4, 2) := by decide +kernel
theorem d_Uni_meet_171 : decode b_Uni_meet 171 = .ok (.iconst 1, 1) := by decide +kernel
theorem d_Uni_meet_172 : decode b_Uni_meet 172 = .ok (.iadd, 1) := by decide +kernel
theorem d_Uni_meet_173 : decode b_Uni_meet 173 = .ok (.invokevirtual 90, 3) := by decide +kernel
theorem d_Uni_meet_176 : decode b_Uni_meet 176 = .ok (.ireturn, 1) := by decide +kernel
abbrev b_Uni_unite : ByteArray := prog_11_method_3_code
def y_Uni_unite : MethodName := ⟨"ClauseProver$Unifier", "unite", "(IIIII)Z"⟩
theorem d_Uni_unite_0 : decode b_Uni_unite 0 = .ok (.iload 5, 2) := by decide +kernel
theorem d_Uni_unite_2 : decode b_Uni_unite 2 = .ok (.bipush 48, 2) := by decide +kernel
theorem d_Uni_unite_4 : decode b_Uni_unite 4 = .ok (.if_icmp .le 5, 3) := by decide +kernel
theorem d_Uni_unite_7 : decode b_Uni_unite 7 = .ok (.iconst 0, 1) := by decide +kernel
theorem d_Uni_unite_8 : decode b_Uni_unite 8 = .ok (.ireturn, 1) := by decide +kernel
theorem d_Uni_unite_9 : decode b_Uni_unite 9 = .ok (.aload_n 0, 1) := by decide +kernel
theorem d_Uni_unite_10 : decode b_Uni_unite 10 = .ok (.getfield 40, 3) := by decide +kernel
theorem d_Uni_unite_13 : decode b_Uni_unite 13 = .ok (.getfield 56, 3) := by decide +kernel
theorem d_Uni_unite_16 : decode b_Uni_unite 16 = .ok (.astore 6, 2) := by decide +kernel
theorem d_Uni_unite_18 : decode b_Uni_unite 18 = .ok (.iload_n 1, 1) := by decide +kernel
theorem d_Uni_unite_19 : decode b_Uni_unite 19 = .ok (.istore 7, 2) := by decide +kernel
theorem d_Uni_unite_21 : decode b_Uni_unite 21 = .ok (.iload_n 3, 1) := by decide +kernel
theorem d_Uni_unite_22 : decode b_Uni_unite 22 = .ok (.istore 8, 2) := by decide +kernel
theorem d_Uni_unite_24 : decode b_Uni_unite 24 = .ok (.iconst 1, 1) := by decide +kernel
theorem d_Uni_unite_25 : decode b_Uni_unite 25 = .ok (.istore 9, 2) := by decide +kernel
theorem d_Uni_unite_27 : decode b_Uni_unite 27 = .ok (.iconst 0, 1) := by decide +kernel
theorem d_Uni_unite_28 : decode b_Uni_unite 28 = .ok (.istore 10, 2) := by decide +kernel
theorem d_Uni_unite_30 : decode b_Uni_unite 30 = .ok (.iload 10, 2) := by decide +kernel
theorem d_Uni_unite_32 : decode b_Uni_unite 32 = .ok (.bipush 100, 2) := by decide +kernel
theorem d_Uni_unite_34 : decode b_Uni_unite 34 = .ok (.if_icmp .ge 121, 3) := by decide +kernel
theorem d_Uni_unite_37 : decode b_Uni_unite 37 = .ok (.iload 9, 2) := by decide +kernel
theorem d_Uni_unite_39 : decode b_Uni_unite 39 = .ok (.ifCond .le 116, 3) := by decide +kernel
theorem d_Uni_unite_42 : decode b_Uni_unite 42 = .ok (.aload 6, 2) := by decide +kernel
theorem d_Uni_unite_44 : decode b_Uni_unite 44 = .ok (.iload 7, 2) := by decide +kernel
theorem d_Uni_unite_46 : decode b_Uni_unite 46 = .ok (.iaload, 1) := by decide +kernel
theorem d_Uni_unite_47 : decode b_Uni_unite 47 = .ok (.ifCond .lt 11, 3) := by decide +kernel
theorem d_Uni_unite_50 : decode b_Uni_unite 50 = .ok (.aload 6, 2) := by decide +kernel
theorem d_Uni_unite_52 : decode b_Uni_unite 52 = .ok (.iload 8, 2) := by decide +kernel
theorem d_Uni_unite_54 : decode b_Uni_unite 54 = .ok (.iaload, 1) := by decide +kernel
theorem d_Uni_unite_55 : decode b_Uni_unite 55 = .ok (.ifCond .ge 53, 3) := by decide +kernel
theorem d_Uni_unite_58 : decode b_Uni_unite 58 = .ok (.aload_n 0, 1) := by decide +kernel
theorem d_Uni_unite_59 : decode b_Uni_unite 59 = .ok (.iload 7, 2) := by decide +kernel
theorem d_Uni_unite_61 : decode b_Uni_unite 61 = .ok (.iload_n 2, 1) := by decide +kernel
theorem d_Uni_unite_62 : decode b_Uni_unite 62 = .ok (.iload 8, 2) := by decide +kernel
theorem d_Uni_unite_64 : decode b_Uni_unite 64 = .ok (.iload 4, 2) := by decide +kernel
theorem d_Uni_unite_66 : decode b_Uni_unite 66 = .ok (.iload 5, 2) := by decide +kernel
theorem d_Uni_unite_68 : decode b_Uni_unite 68 = .ok (.invokevirtual 59, 3) := by decide +kernel
theorem d_Uni_unite_71 : decode b_Uni_unite 71 = .ok (.ifCond .ne 5, 3) := by decide +kernel
theorem d_Uni_unite_74 : decode b_Uni_unite 74 = .ok (.iconst 0, 1) := by decide +kernel
theorem d_Uni_unite_75 : decode b_Uni_unite 75 = .ok (.ireturn, 1) := by decide +kernel
theorem d_Uni_unite_76 : decode b_Uni_unite 76 = .ok (.aload_n 0, 1) := by decide +kernel
theorem d_Uni_unite_77 : decode b_Uni_unite 77 = .ok (.getfield 36, 3) := by decide +kernel
theorem d_Uni_unite_80 : decode b_Uni_unite 80 = .ok (.aload 6, 2) := by decide +kernel
theorem d_Uni_unite_82 : decode b_Uni_unite 82 = .ok (.iload 7, 2) := by decide +kernel
theorem d_Uni_unite_84 : decode b_Uni_unite 84 = .ok (.invokevirtual 63, 3) := by decide +kernel
theorem d_Uni_unite_87 : decode b_Uni_unite 87 = .ok (.istore 7, 2) := by decide +kernel
theorem d_Uni_unite_89 : decode b_Uni_unite 89 = .ok (.aload_n 0, 1) := by decide +kernel
theorem d_Uni_unite_90 : decode b_Uni_unite 90 = .ok (.getfield 36, 3) := by decide +kernel
theorem d_Uni_unite_93 : decode b_Uni_unite 93 = .ok (.aload 6, 2) := by decide +kernel
theorem d_Uni_unite_95 : decode b_Uni_unite 95 = .ok (.iload 8, 2) := by decide +kernel
theorem d_Uni_unite_97 : decode b_Uni_unite 97 = .ok (.invokevirtual 63, 3) := by decide +kernel
theorem d_Uni_unite_100 : decode b_Uni_unite 100 = .ok (.istore 8, 2) := by decide +kernel
theorem d_Uni_unite_102 : decode b_Uni_unite 102 = .ok (.iinc 9 (-1), 3) := by decide +kernel
theorem d_Uni_unite_105 : decode b_Uni_unite 105 = .ok (.goto 44, 3) := by decide +kernel
theorem d_Uni_unite_108 : decode b_Uni_unite 108 = .ok (.aload 6, 2) := by decide +kernel
theorem d_Uni_unite_110 : decode b_Uni_unite 110 = .ok (.iload 7, 2) := by decide +kernel
theorem d_Uni_unite_112 : decode b_Uni_unite 112 = .ok (.iaload, 1) := by decide +kernel
theorem d_Uni_unite_113 : decode b_Uni_unite 113 = .ok (.aload 6, 2) := by decide +kernel
theorem d_Uni_unite_115 : decode b_Uni_unite 115 = .ok (.iload 8, 2) := by decide +kernel
theorem d_Uni_unite_117 : decode b_Uni_unite 117 = .ok (.iaload, 1) := by decide +kernel
theorem d_Uni_unite_118 : decode b_Uni_unite 118 = .ok (.if_icmp .eq 5, 3) := by decide +kernel
theorem d_Uni_unite_121 : decode b_Uni_unite 121 = .ok (.iconst 0, 1) := by decide +kernel
theorem d_Uni_unite_122 : decode b_Uni_unite 122 = .ok (.ireturn, 1) := by decide +kernel
theorem d_Uni_unite_123 : decode b_Uni_unite 123 = .ok (.iload 9, 2) := by decide +kernel
theorem d_Uni_unite_125 : decode b_Uni_unite 125 = .ok (.aload_n 0, 1) := by decide +kernel
theorem d_Uni_unite_126 : decode b_Uni_unite 126 = .ok (.getfield 36, 3) := by decide +kernel
theorem d_Uni_unite_129 : decode b_Uni_unite 129 = .ok (.getfield 69, 3) := by decide +kernel
theorem d_Uni_unite_132 : decode b_Uni_unite 132 = .ok (.aload 6, 2) := by decide +kernel
theorem d_Uni_unite_134 : decode b_Uni_unite 134 = .ok (.iload 7, 2) := by decide +kernel
theorem d_Uni_unite_136 : decode b_Uni_unite 136 = .ok (.iaload, 1) := by decide +kernel
theorem d_Uni_unite_137 : decode b_Uni_unite 137 = .ok (.iaload, 1) := by decide +kernel
theorem d_Uni_unite_138 : decode b_Uni_unite 138 = .ok (.iconst 1, 1) := by decide +kernel
theorem d_Uni_unite_139 : decode b_Uni_unite 139 = .ok (.isub, 1) := by decide +kernel
theorem d_Uni_unite_140 : decode b_Uni_unite 140 = .ok (.iadd, 1) := by decide +kernel
theorem d_Uni_unite_141 : decode b_Uni_unite 141 = .ok (.istore 9, 2) := by decide +kernel
theorem d_Uni_unite_143 : decode b_Uni_unite 143 = .ok (.iinc 7 1, 3) := by decide +kernel
theorem d_Uni_unite_146 : decode b_Uni_unite 146 = .ok (.iinc 8 1, 3) := by decide +kernel
theorem d_Uni_unite_149 : decode b_Uni_unite 149 = .ok (.iinc 10 1, 3) := by decide +kernel
theorem d_Uni_unite_152 : decode b_Uni_unite 152 = .ok (.goto (-122), 3) := by decide +kernel
theorem d_Uni_unite_155 : decode b_Uni_unite 155 = .ok (.iconst 1, 1) := by decide +kernel
theorem d_Uni_unite_156 : decode b_Uni_unite 156 = .ok (.ireturn, 1) := by decide +kernel
abbrev b_Uni_uniteVariable : ByteArray := prog_11_method_4_code
def y_Uni_uniteVariable : MethodName := ⟨"ClauseProver$Unifier", "uniteVariable", "(IIIII)Z"⟩
theorem d_Uni_uniteVariable_0 : decode b_Uni_uniteVariable 0 = .ok (.aload_n 0, 1) := by decide +kernel
theorem d_Uni_uniteVariable_1 : decode b_Uni_uniteVariable 1 = .ok (.getfield 40, 3) := by decide +kernel
theorem d_Uni_uniteVariable_4 : decode b_Uni_uniteVariable 4 = .ok (.getfield 56, 3) := by decide +kernel
theorem d_Uni_uniteVariable_7 : decode b_Uni_uniteVariable 7 = .ok (.iload_n 1, 1) := by decide +kernel
theorem d_Uni_uniteVariable_8 : decode b_Uni_uniteVariable 8 = .ok (.iaload, 1) := by decide +kernel
theorem d_Uni_uniteVariable_9 : decode b_Uni_uniteVariable 9 = .ok (.ifCond .ge 24, 3) := by decide +kernel
theorem d_Uni_uniteVariable_12 : decode b_Uni_uniteVariable 12 = .ok (.aload_n 0, 1) := by decide +kernel
theorem d_Uni_uniteVariable_13 : decode b_Uni_uniteVariable 13 = .ok (.getfield 13, 3) := by decide +kernel
theorem d_Uni_uniteVariable_16 : decode b_Uni_uniteVariable 16 = .ok (.aload_n 0, 1) := by decide +kernel
theorem d_Uni_uniteVariable_17 : decode b_Uni_uniteVariable 17 = .ok (.getfield 40, 3) := by decide +kernel
theorem d_Uni_uniteVariable_20 : decode b_Uni_uniteVariable 20 = .ok (.getfield 56, 3) := by decide +kernel
theorem d_Uni_uniteVariable_23 : decode b_Uni_uniteVariable 23 = .ok (.iload_n 1, 1) := by decide +kernel
theorem d_Uni_uniteVariable_24 : decode b_Uni_uniteVariable 24 = .ok (.iaload, 1) := by decide +kernel
theorem d_Uni_uniteVariable_25 : decode b_Uni_uniteVariable 25 = .ok (.iconst (-1), 1) := by decide +kernel
theorem d_Uni_uniteVariable_26 : decode b_Uni_uniteVariable 26 = .ok (.ixor, 1) := by decide +kernel
theorem d_Uni_uniteVariable_27 : decode b_Uni_uniteVariable 27 = .ok (.iload_n 2, 1) := by decide +kernel
theorem d_Uni_uniteVariable_28 : decode b_Uni_uniteVariable 28 = .ok (.iadd, 1) := by decide +kernel
theorem d_Uni_uniteVariable_29 : decode b_Uni_uniteVariable 29 = .ok (.iaload, 1) := by decide +kernel
theorem d_Uni_uniteVariable_30 : decode b_Uni_uniteVariable 30 = .ok (.goto 4, 3) := by decide +kernel
theorem d_Uni_uniteVariable_33 : decode b_Uni_uniteVariable 33 = .ok (.iconst (-1), 1) := by decide +kernel
theorem d_Uni_uniteVariable_34 : decode b_Uni_uniteVariable 34 = .ok (.istore 6, 2) := by decide +kernel
theorem d_Uni_uniteVariable_36 : decode b_Uni_uniteVariable 36 = .ok (.aload_n 0, 1) := by decide +kernel
theorem d_Uni_uniteVariable_37 : decode b_Uni_uniteVariable 37 = .ok (.getfield 40, 3) := by decide +kernel
theorem d_Uni_uniteVariable_40 : decode b_Uni_uniteVariable 40 = .ok (.getfield 56, 3) := by decide +kernel
theorem d_Uni_uniteVariable_43 : decode b_Uni_uniteVariable 43 = .ok (.iload_n 3, 1) := by decide +kernel
theorem d_Uni_uniteVariable_44 : decode b_Uni_uniteVariable 44 = .ok (.iaload, 1) := by decide +kernel
theorem d_Uni_uniteVariable_45 : decode b_Uni_uniteVariable 45 = .ok (.ifCond .ge 25, 3) := by decide +kernel
theorem d_Uni_uniteVariable_48 : decode b_Uni_uniteVariable 48 = .ok (.aload_n 0, 1) := by decide +kernel
theorem d_Uni_uniteVariable_49 : decode b_Uni_uniteVariable 49 = .ok (.getfield 13, 3) := by decide +kernel
theorem d_Uni_uniteVariable_52 : decode b_Uni_uniteVariable 52 = .ok (.aload_n 0, 1) := by decide +kernel
theorem d_Uni_uniteVariable_53 : decode b_Uni_uniteVariable 53 = .ok (.getfield 40, 3) := by decide +kernel
theorem d_Uni_uniteVariable_56 : decode b_Uni_uniteVariable 56 = .ok (.getfield 56, 3) := by decide +kernel
theorem d_Uni_uniteVariable_59 : decode b_Uni_uniteVariable 59 = .ok (.iload_n 3, 1) := by decide +kernel
theorem d_Uni_uniteVariable_60 : decode b_Uni_uniteVariable 60 = .ok (.iaload, 1) := by decide +kernel
theorem d_Uni_uniteVariable_61 : decode b_Uni_uniteVariable 61 = .ok (.iconst (-1), 1) := by decide +kernel
theorem d_Uni_uniteVariable_62 : decode b_Uni_uniteVariable 62 = .ok (.ixor, 1) := by decide +kernel
theorem d_Uni_uniteVariable_63 : decode b_Uni_uniteVariable 63 = .ok (.iload 4, 2) := by decide +kernel
theorem d_Uni_uniteVariable_65 : decode b_Uni_uniteVariable 65 = .ok (.iadd, 1) := by decide +kernel
theorem d_Uni_uniteVariable_66 : decode b_Uni_uniteVariable 66 = .ok (.iaload, 1) := by decide +kernel
theorem d_Uni_uniteVariable_67 : decode b_Uni_uniteVariable 67 = .ok (.goto 4, 3) := by decide +kernel
theorem d_Uni_uniteVariable_70 : decode b_Uni_uniteVariable 70 = .ok (.iconst (-1), 1) := by decide +kernel
theorem d_Uni_uniteVariable_71 : decode b_Uni_uniteVariable 71 = .ok (.istore 7, 2) := by decide +kernel
theorem d_Uni_uniteVariable_73 : decode b_Uni_uniteVariable 73 = .ok (.iload 6, 2) := by decide +kernel
theorem d_Uni_uniteVariable_75 : decode b_Uni_uniteVariable 75 = .ok (.iload 7, 2) := by decide +kernel
theorem d_Uni_uniteVariable_77 : decode b_Uni_uniteVariable 77 = .ok (.if_icmp .ne 5, 3) := by decide +kernel
theorem d_Uni_uniteVariable_80 : decode b_Uni_uniteVariable 80 = .ok (.iconst 1, 1) := by decide +kernel
theorem d_Uni_uniteVariable_81 : decode b_Uni_uniteVariable 81 = .ok (.ireturn, 1) := by decide +kernel
theorem d_Uni_uniteVariable_82 : decode b_Uni_uniteVariable 82 = .ok (.iload 6, 2) := by decide +kernel
theorem d_Uni_uniteVariable_84 : decode b_Uni_uniteVariable 84 = .ok (.iconst (-1), 1) := by decide +kernel
theorem d_Uni_uniteVariable_85 : decode b_Uni_uniteVariable 85 = .ok (.if_icmp .ne 14, 3) := by decide +kernel
theorem d_Uni_uniteVariable_88 : decode b_Uni_uniteVariable 88 = .ok (.aload_n 0, 1) := by decide +kernel
theorem d_Uni_uniteVariable_89 : decode b_Uni_uniteVariable 89 = .ok (.iload 7, 2) := by decide +kernel
theorem d_Uni_uniteVariable_91 : decode b_Uni_uniteVariable 91 = .ok (.iload_n 1, 1) := by decide +kernel
theorem d_Uni_uniteVariable_92 : decode b_Uni_uniteVariable 92 = .ok (.iload_n 2, 1) := by decide +kernel
theorem d_Uni_uniteVariable_93 : decode b_Uni_uniteVariable 93 = .ok (.iload 5, 2) := by decide +kernel
theorem d_Uni_uniteVariable_95 : decode b_Uni_uniteVariable 95 = .ok (.invokevirtual 72, 3) := by decide +kernel
theorem d_Uni_uniteVariable_98 : decode b_Uni_uniteVariable 98 = .ok (.ireturn, 1) := by decide +kernel
theorem d_Uni_uniteVariable_99 : decode b_Uni_uniteVariable 99 = .ok (.iload 7, 2) := by decide +kernel
theorem d_Uni_uniteVariable_101 : decode b_Uni_uniteVariable 101 = .ok (.iconst (-1), 1) := by decide +kernel
theorem d_Uni_uniteVariable_102 : decode b_Uni_uniteVariable 102 = .ok (.if_icmp .ne 15, 3) := by decide +kernel
theorem d_Uni_uniteVariable_105 : decode b_Uni_uniteVariable 105 = .ok (.aload_n 0, 1) := by decide +kernel
theorem d_Uni_uniteVariable_106 : decode b_Uni_uniteVariable 106 = .ok (.iload 6, 2) := by decide +kernel
theorem d_Uni_uniteVariable_108 : decode b_Uni_uniteVariable 108 = .ok (.iload_n 3, 1) := by decide +kernel
theorem d_Uni_uniteVariable_109 : decode b_Uni_uniteVariable 109 = .ok (.iload 4, 2) := by decide +kernel
theorem d_Uni_uniteVariable_111 : decode b_Uni_uniteVariable 111 = .ok (.iload 5, 2) := by decide +kernel
theorem d_Uni_uniteVariable_113 : decode b_Uni_uniteVariable 113 = .ok (.invokevirtual 72, 3) := by decide +kernel
theorem d_Uni_uniteVariable_116 : decode b_Uni_uniteVariable 116 = .ok (.ireturn, 1) := by decide +kernel
theorem d_Uni_uniteVariable_117 : decode b_Uni_uniteVariable 117 = .ok (.aload_n 0, 1) := by decide +kernel
theorem d_Uni_uniteVariable_118 : decode b_Uni_uniteVariable 118 = .ok (.iload 6, 2) := by decide +kernel
theorem d_Uni_uniteVariable_120 : decode b_Uni_uniteVariable 120 = .ok (.iload 7, 2) := by decide +kernel
theorem d_Uni_uniteVariable_122 : decode b_Uni_uniteVariable 122 = .ok (.iload 5, 2) := by decide +kernel
theorem d_Uni_uniteVariable_124 : decode b_Uni_uniteVariable 124 = .ok (.invokevirtual 76, 3) := by decide +kernel
theorem d_Uni_uniteVariable_127 : decode b_Uni_uniteVariable 127 = .ok (.ireturn, 1) := by decide +kernel
abbrev b_Wds_open : ByteArray := prog_12_method_2_code
def y_Wds_open : MethodName := ⟨"ClauseProver$Words", "open", "([II)V"⟩
theorem d_Wds_open_0 : decode b_Wds_open 0 = .ok (.aload_n 0, 1) := by decide +kernel
theorem d_Wds_open_1 : decode b_Wds_open 1 = .ok (.aload_n 1, 1) := by decide +kernel
theorem d_Wds_open_2 : decode b_Wds_open 2 = .ok (.putfield 9, 3) := by decide +kernel
theorem d_Wds_open_5 : decode b_Wds_open 5 = .ok (.aload_n 0, 1) := by decide +kernel
theorem d_Wds_open_6 : decode b_Wds_open 6 = .ok (.iload_n 2, 1) := by decide +kernel
theorem d_Wds_open_7 : decode b_Wds_open 7 = .ok (.putfield 15, 3) := by decide +kernel
theorem d_Wds_open_10 : decode b_Wds_open 10 = .ok (.aload_n 0, 1) := by decide +kernel
theorem d_Wds_open_11 : decode b_Wds_open 11 = .ok (.iconst 0, 1) := by decide +kernel
theorem d_Wds_open_12 : decode b_Wds_open 12 = .ok (.putfield 19, 3) := by decide +kernel
theorem d_Wds_open_15 : decode b_Wds_open 15 = .ok (.aload_n 0, 1) := by decide +kernel
theorem d_Wds_open_16 : decode b_Wds_open 16 = .ok (.iconst 0, 1) := by decide +kernel
theorem d_Wds_open_17 : decode b_Wds_open 17 = .ok (.putfield 22, 3) := by decide +kernel
theorem d_Wds_open_20 : decode b_Wds_open 20 = .ok (.aload_n 0, 1) := by decide +kernel
theorem d_Wds_open_21 : decode b_Wds_open 21 = .ok (.invokevirtual 25, 3) := by decide +kernel
theorem d_Wds_open_24 : decode b_Wds_open 24 = .ok (.return_, 1) := by decide +kernel
