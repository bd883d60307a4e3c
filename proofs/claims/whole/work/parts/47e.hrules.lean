abbrev b_CP_writeWord : ByteArray := prog_1_method_14_code
def y_CP_writeWord : MethodName := ⟨"ClauseProver", "writeWord", "(I)V"⟩
theorem d_CP_writeWord_0 : decode b_CP_writeWord 0 = .ok (.iload_n 1, 1) := by decide +kernel
theorem d_CP_writeWord_1 : decode b_CP_writeWord 1 = .ok (.ifCond .ge 19, 3) := by decide +kernel
theorem d_CP_writeWord_4 : decode b_CP_writeWord 4 = .ok (.aload_n 0, 1) := by decide +kernel
theorem d_CP_writeWord_5 : decode b_CP_writeWord 5 = .ok (.ldc 222, 2) := by decide +kernel
theorem d_CP_writeWord_7 : decode b_CP_writeWord 7 = .ok (.invokevirtual 183, 3) := by decide +kernel
theorem d_CP_writeWord_10 : decode b_CP_writeWord 10 = .ok (.aload_n 0, 1) := by decide +kernel
theorem d_CP_writeWord_11 : decode b_CP_writeWord 11 = .ok (.iload_n 1, 1) := by decide +kernel
theorem d_CP_writeWord_12 : decode b_CP_writeWord 12 = .ok (.iconst (-1), 1) := by decide +kernel
theorem d_CP_writeWord_13 : decode b_CP_writeWord 13 = .ok (.ixor, 1) := by decide +kernel
theorem d_CP_writeWord_14 : decode b_CP_writeWord 14 = .ok (.invokevirtual 224, 3) := by decide +kernel
theorem d_CP_writeWord_17 : decode b_CP_writeWord 17 = .ok (.goto 92, 3) := by decide +kernel
theorem d_CP_writeWord_20 : decode b_CP_writeWord 20 = .ok (.aload_n 0, 1) := by decide +kernel
theorem d_CP_writeWord_21 : decode b_CP_writeWord 21 = .ok (.getfield 28, 3) := by decide +kernel
theorem d_CP_writeWord_24 : decode b_CP_writeWord 24 = .ok (.iload_n 1, 1) := by decide +kernel
theorem d_CP_writeWord_25 : decode b_CP_writeWord 25 = .ok (.invokevirtual 227, 3) := by decide +kernel
theorem d_CP_writeWord_28 : decode b_CP_writeWord 28 = .ok (.ifCond .eq 27, 3) := by decide +kernel
theorem d_CP_writeWord_31 : decode b_CP_writeWord 31 = .ok (.aload_n 0, 1) := by decide +kernel
theorem d_CP_writeWord_32 : decode b_CP_writeWord 32 = .ok (.ldc 230, 2) := by decide +kernel
theorem d_CP_writeWord_34 : decode b_CP_writeWord 34 = .ok (.invokevirtual 183, 3) := by decide +kernel
theorem d_CP_writeWord_37 : decode b_CP_writeWord 37 = .ok (.aload_n 0, 1) := by decide +kernel
theorem d_CP_writeWord_38 : decode b_CP_writeWord 38 = .ok (.iload_n 1, 1) := by decide +kernel
theorem d_CP_writeWord_39 : decode b_CP_writeWord 39 = .ok (.aload_n 0, 1) := by decide +kernel
theorem d_CP_writeWord_40 : decode b_CP_writeWord 40 = .ok (.getfield 28, 3) := by decide +kernel
theorem d_CP_writeWord_43 : decode b_CP_writeWord 43 = .ok (.getfield 232, 3) := by decide +kernel
theorem d_CP_writeWord_46 : decode b_CP_writeWord 46 = .ok (.isub, 1) := by decide +kernel
theorem d_CP_writeWord_47 : decode b_CP_writeWord 47 = .ok (.iconst 1, 1) := by decide +kernel
theorem d_CP_writeWord_48 : decode b_CP_writeWord 48 = .ok (.isub, 1) := by decide +kernel
theorem d_CP_writeWord_49 : decode b_CP_writeWord 49 = .ok (.invokevirtual 224, 3) := by decide +kernel
theorem d_CP_writeWord_52 : decode b_CP_writeWord 52 = .ok (.goto 57, 3) := by decide +kernel
theorem d_CP_writeWord_55 : decode b_CP_writeWord 55 = .ok (.iload_n 1, 1) := by decide +kernel
theorem d_CP_writeWord_56 : decode b_CP_writeWord 56 = .ok (.ifCond .eq 53, 3) := by decide +kernel
theorem d_CP_writeWord_59 : decode b_CP_writeWord 59 = .ok (.iconst 0, 1) := by decide +kernel
theorem d_CP_writeWord_60 : decode b_CP_writeWord 60 = .ok (.istore_n 2, 1) := by decide +kernel
theorem d_CP_writeWord_61 : decode b_CP_writeWord 61 = .ok (.iload_n 2, 1) := by decide +kernel
theorem d_CP_writeWord_62 : decode b_CP_writeWord 62 = .ok (.aload_n 0, 1) := by decide +kernel
theorem d_CP_writeWord_63 : decode b_CP_writeWord 63 = .ok (.getfield 28, 3) := by decide +kernel
theorem d_CP_writeWord_66 : decode b_CP_writeWord 66 = .ok (.getfield 235, 3) := by decide +kernel
theorem d_CP_writeWord_69 : decode b_CP_writeWord 69 = .ok (.iload_n 1, 1) := by decide +kernel
theorem d_CP_writeWord_70 : decode b_CP_writeWord 70 = .ok (.iaload, 1) := by decide +kernel
theorem d_CP_writeWord_71 : decode b_CP_writeWord 71 = .ok (.if_icmp .ge 38, 3) := by decide +kernel
theorem d_CP_writeWord_74 : decode b_CP_writeWord 74 = .ok (.aload_n 0, 1) := by decide +kernel
theorem d_CP_writeWord_75 : decode b_CP_writeWord 75 = .ok (.getfield 18, 3) := by decide +kernel
theorem d_CP_writeWord_78 : decode b_CP_writeWord 78 = .ok (.aload_n 0, 1) := by decide +kernel
theorem d_CP_writeWord_79 : decode b_CP_writeWord 79 = .ok (.getfield 28, 3) := by decide +kernel
theorem d_CP_writeWord_82 : decode b_CP_writeWord 82 = .ok (.getfield 238, 3) := by decide +kernel
theorem d_CP_writeWord_85 : decode b_CP_writeWord 85 = .ok (.getfield 110, 3) := by decide +kernel
theorem d_CP_writeWord_88 : decode b_CP_writeWord 88 = .ok (.aload_n 0, 1) := by decide +kernel
theorem d_CP_writeWord_89 : decode b_CP_writeWord 89 = .ok (.getfield 28, 3) := by decide +kernel
theorem d_CP_writeWord_92 : decode b_CP_writeWord 92 = .ok (.getfield 241, 3) := by decide +kernel
theorem d_CP_writeWord_95 : decode b_CP_writeWord 95 = .ok (.iload_n 1, 1) := by decide +kernel
theorem d_CP_writeWord_96 : decode b_CP_writeWord 96 = .ok (.iaload, 1) := by decide +kernel
theorem d_CP_writeWord_97 : decode b_CP_writeWord 97 = .ok (.iload_n 2, 1) := by decide +kernel
theorem d_CP_writeWord_98 : decode b_CP_writeWord 98 = .ok (.iadd, 1) := by decide +kernel
theorem d_CP_writeWord_99 : decode b_CP_writeWord 99 = .ok (.iaload, 1) := by decide +kernel
theorem d_CP_writeWord_100 : decode b_CP_writeWord 100 = .ok (.invokevirtual 97, 3) := by decide +kernel
theorem d_CP_writeWord_103 : decode b_CP_writeWord 103 = .ok (.iinc 2 1, 3) := by decide +kernel
theorem d_CP_writeWord_106 : decode b_CP_writeWord 106 = .ok (.goto (-45), 3) := by decide +kernel
theorem d_CP_writeWord_109 : decode b_CP_writeWord 109 = .ok (.return_, 1) := by decide +kernel
abbrev b_CP_writeTerm : ByteArray := prog_1_method_13_code
def y_CP_writeTerm : MethodName := ⟨"ClauseProver", "writeTerm", "(II)V"⟩
theorem d_CP_writeTerm_0 : decode b_CP_writeTerm 0 = .ok (.iconst 0, 1) := by decide +kernel
theorem d_CP_writeTerm_1 : decode b_CP_writeTerm 1 = .ok (.istore_n 3, 1) := by decide +kernel
theorem d_CP_writeTerm_2 : decode b_CP_writeTerm 2 = .ok (.iload_n 1, 1) := by decide +kernel
theorem d_CP_writeTerm_3 : decode b_CP_writeTerm 3 = .ok (.istore 4, 2) := by decide +kernel
theorem d_CP_writeTerm_5 : decode b_CP_writeTerm 5 = .ok (.iload 4, 2) := by decide +kernel
theorem d_CP_writeTerm_7 : decode b_CP_writeTerm 7 = .ok (.iload_n 2, 1) := by decide +kernel
theorem d_CP_writeTerm_8 : decode b_CP_writeTerm 8 = .ok (.if_icmp .ge 135, 3) := by decide +kernel
theorem d_CP_writeTerm_11 : decode b_CP_writeTerm 11 = .ok (.aload_n 0, 1) := by decide +kernel
theorem d_CP_writeTerm_12 : decode b_CP_writeTerm 12 = .ok (.getfield 60, 3) := by decide +kernel
theorem d_CP_writeTerm_15 : decode b_CP_writeTerm 15 = .ok (.getfield 178, 3) := by decide +kernel
theorem d_CP_writeTerm_18 : decode b_CP_writeTerm 18 = .ok (.getfield 110, 3) := by decide +kernel
theorem d_CP_writeTerm_21 : decode b_CP_writeTerm 21 = .ok (.iload 4, 2) := by decide +kernel
theorem d_CP_writeTerm_23 : decode b_CP_writeTerm 23 = .ok (.iaload, 1) := by decide +kernel
theorem d_CP_writeTerm_24 : decode b_CP_writeTerm 24 = .ok (.istore 5, 2) := by decide +kernel
theorem d_CP_writeTerm_26 : decode b_CP_writeTerm 26 = .ok (.aload_n 0, 1) := by decide +kernel
theorem d_CP_writeTerm_27 : decode b_CP_writeTerm 27 = .ok (.iload 5, 2) := by decide +kernel
theorem d_CP_writeTerm_29 : decode b_CP_writeTerm 29 = .ok (.invokevirtual 210, 3) := by decide +kernel
theorem d_CP_writeTerm_32 : decode b_CP_writeTerm 32 = .ok (.iload 5, 2) := by decide +kernel
theorem d_CP_writeTerm_34 : decode b_CP_writeTerm 34 = .ok (.ifCond .ge 7, 3) := by decide +kernel
theorem d_CP_writeTerm_37 : decode b_CP_writeTerm 37 = .ok (.iconst 0, 1) := by decide +kernel
theorem d_CP_writeTerm_38 : decode b_CP_writeTerm 38 = .ok (.goto 13, 3) := by decide +kernel
theorem d_CP_writeTerm_41 : decode b_CP_writeTerm 41 = .ok (.aload_n 0, 1) := by decide +kernel
theorem d_CP_writeTerm_42 : decode b_CP_writeTerm 42 = .ok (.getfield 28, 3) := by decide +kernel
theorem d_CP_writeTerm_45 : decode b_CP_writeTerm 45 = .ok (.getfield 213, 3) := by decide +kernel
theorem d_CP_writeTerm_48 : decode b_CP_writeTerm 48 = .ok (.iload 5, 2) := by decide +kernel
theorem d_CP_writeTerm_50 : decode b_CP_writeTerm 50 = .ok (.iaload, 1) := by decide +kernel
theorem d_CP_writeTerm_51 : decode b_CP_writeTerm 51 = .ok (.istore 6, 2) := by decide +kernel
theorem d_CP_writeTerm_53 : decode b_CP_writeTerm 53 = .ok (.iload 6, 2) := by decide +kernel
theorem d_CP_writeTerm_55 : decode b_CP_writeTerm 55 = .ok (.ifCond .le 32, 3) := by decide +kernel
theorem d_CP_writeTerm_58 : decode b_CP_writeTerm 58 = .ok (.iload_n 3, 1) := by decide +kernel
theorem d_CP_writeTerm_59 : decode b_CP_writeTerm 59 = .ok (.aload_n 0, 1) := by decide +kernel
theorem d_CP_writeTerm_60 : decode b_CP_writeTerm 60 = .ok (.getfield 21, 3) := by decide +kernel
theorem d_CP_writeTerm_63 : decode b_CP_writeTerm 63 = .ok (.arraylength, 1) := by decide +kernel
theorem d_CP_writeTerm_64 : decode b_CP_writeTerm 64 = .ok (.if_icmp .ge 23, 3) := by decide +kernel
theorem d_CP_writeTerm_67 : decode b_CP_writeTerm 67 = .ok (.aload_n 0, 1) := by decide +kernel
theorem d_CP_writeTerm_68 : decode b_CP_writeTerm 68 = .ok (.ldc 216, 2) := by decide +kernel
theorem d_CP_writeTerm_70 : decode b_CP_writeTerm 70 = .ok (.invokevirtual 183, 3) := by decide +kernel
theorem d_CP_writeTerm_73 : decode b_CP_writeTerm 73 = .ok (.aload_n 0, 1) := by decide +kernel
theorem d_CP_writeTerm_74 : decode b_CP_writeTerm 74 = .ok (.getfield 21, 3) := by decide +kernel
theorem d_CP_writeTerm_77 : decode b_CP_writeTerm 77 = .ok (.iload_n 3, 1) := by decide +kernel
theorem d_CP_writeTerm_78 : decode b_CP_writeTerm 78 = .ok (.iinc 3 1, 3) := by decide +kernel
theorem d_CP_writeTerm_81 : decode b_CP_writeTerm 81 = .ok (.iload 6, 2) := by decide +kernel
theorem d_CP_writeTerm_83 : decode b_CP_writeTerm 83 = .ok (.iastore, 1) := by decide +kernel
theorem d_CP_writeTerm_84 : decode b_CP_writeTerm 84 = .ok (.goto 53, 3) := by decide +kernel
theorem d_CP_writeTerm_87 : decode b_CP_writeTerm 87 = .ok (.iload_n 3, 1) := by decide +kernel
theorem d_CP_writeTerm_88 : decode b_CP_writeTerm 88 = .ok (.ifCond .le 27, 3) := by decide +kernel
theorem d_CP_writeTerm_91 : decode b_CP_writeTerm 91 = .ok (.aload_n 0, 1) := by decide +kernel
theorem d_CP_writeTerm_92 : decode b_CP_writeTerm 92 = .ok (.getfield 21, 3) := by decide +kernel
theorem d_CP_writeTerm_95 : decode b_CP_writeTerm 95 = .ok (.iload_n 3, 1) := by decide +kernel
theorem d_CP_writeTerm_96 : decode b_CP_writeTerm 96 = .ok (.iconst 1, 1) := by decide +kernel
theorem d_CP_writeTerm_97 : decode b_CP_writeTerm 97 = .ok (.isub, 1) := by decide +kernel
theorem d_CP_writeTerm_98 : decode b_CP_writeTerm 98 = .ok (.iaload, 1) := by decide +kernel
theorem d_CP_writeTerm_99 : decode b_CP_writeTerm 99 = .ok (.iconst 1, 1) := by decide +kernel
theorem d_CP_writeTerm_100 : decode b_CP_writeTerm 100 = .ok (.if_icmp .ne 15, 3) := by decide +kernel
theorem d_CP_writeTerm_103 : decode b_CP_writeTerm 103 = .ok (.aload_n 0, 1) := by decide +kernel
theorem d_CP_writeTerm_104 : decode b_CP_writeTerm 104 = .ok (.ldc 218, 2) := by decide +kernel
theorem d_CP_writeTerm_106 : decode b_CP_writeTerm 106 = .ok (.invokevirtual 183, 3) := by decide +kernel
theorem d_CP_writeTerm_109 : decode b_CP_writeTerm 109 = .ok (.iinc 3 (-1), 3) := by decide +kernel
theorem d_CP_writeTerm_112 : decode b_CP_writeTerm 112 = .ok (.goto (-25), 3) := by decide +kernel
theorem d_CP_writeTerm_115 : decode b_CP_writeTerm 115 = .ok (.iload_n 3, 1) := by decide +kernel
theorem d_CP_writeTerm_116 : decode b_CP_writeTerm 116 = .ok (.ifCond .le 21, 3) := by decide +kernel
theorem d_CP_writeTerm_119 : decode b_CP_writeTerm 119 = .ok (.aload_n 0, 1) := by decide +kernel
theorem d_CP_writeTerm_120 : decode b_CP_writeTerm 120 = .ok (.ldc 220, 2) := by decide +kernel
theorem d_CP_writeTerm_122 : decode b_CP_writeTerm 122 = .ok (.invokevirtual 183, 3) := by decide +kernel
theorem d_CP_writeTerm_125 : decode b_CP_writeTerm 125 = .ok (.aload_n 0, 1) := by decide +kernel
theorem d_CP_writeTerm_126 : decode b_CP_writeTerm 126 = .ok (.getfield 21, 3) := by decide +kernel
theorem d_CP_writeTerm_129 : decode b_CP_writeTerm 129 = .ok (.iload_n 3, 1) := by decide +kernel
theorem d_CP_writeTerm_130 : decode b_CP_writeTerm 130 = .ok (.iconst 1, 1) := by decide +kernel
theorem d_CP_writeTerm_131 : decode b_CP_writeTerm 131 = .ok (.isub, 1) := by decide +kernel
theorem d_CP_writeTerm_132 : decode b_CP_writeTerm 132 = .ok (.dup2, 1) := by decide +kernel
theorem d_CP_writeTerm_133 : decode b_CP_writeTerm 133 = .ok (.iaload, 1) := by decide +kernel
theorem d_CP_writeTerm_134 : decode b_CP_writeTerm 134 = .ok (.iconst 1, 1) := by decide +kernel
theorem d_CP_writeTerm_135 : decode b_CP_writeTerm 135 = .ok (.isub, 1) := by decide +kernel
theorem d_CP_writeTerm_136 : decode b_CP_writeTerm 136 = .ok (.iastore, 1) := by decide +kernel
theorem d_CP_writeTerm_137 : decode b_CP_writeTerm 137 = .ok (.iinc 4 1, 3) := by decide +kernel
theorem d_CP_writeTerm_140 : decode b_CP_writeTerm 140 = .ok (.goto (-135), 3) := by decide +kernel
theorem d_CP_writeTerm_143 : decode b_CP_writeTerm 143 = .ok (.return_, 1) := by decide +kernel
abbrev b_CP_writeLiteral : ByteArray := prog_1_method_12_code
def y_CP_writeLiteral : MethodName := ⟨"ClauseProver", "writeLiteral", "(I)V"⟩
theorem d_CP_writeLiteral_0 : decode b_CP_writeLiteral 0 = .ok (.aload_n 0, 1) := by decide +kernel
theorem d_CP_writeLiteral_1 : decode b_CP_writeLiteral 1 = .ok (.getfield 60, 3) := by decide +kernel
theorem d_CP_writeLiteral_4 : decode b_CP_writeLiteral 4 = .ok (.getfield 178, 3) := by decide +kernel
theorem d_CP_writeLiteral_7 : decode b_CP_writeLiteral 7 = .ok (.getfield 110, 3) := by decide +kernel
theorem d_CP_writeLiteral_10 : decode b_CP_writeLiteral 10 = .ok (.astore_n 2, 1) := by decide +kernel
theorem d_CP_writeLiteral_11 : decode b_CP_writeLiteral 11 = .ok (.aload_n 2, 1) := by decide +kernel
theorem d_CP_writeLiteral_12 : decode b_CP_writeLiteral 12 = .ok (.iload_n 1, 1) := by decide +kernel
theorem d_CP_writeLiteral_13 : decode b_CP_writeLiteral 13 = .ok (.iconst 0, 1) := by decide +kernel
theorem d_CP_writeLiteral_14 : decode b_CP_writeLiteral 14 = .ok (.iadd, 1) := by decide +kernel
theorem d_CP_writeLiteral_15 : decode b_CP_writeLiteral 15 = .ok (.iaload, 1) := by decide +kernel
theorem d_CP_writeLiteral_16 : decode b_CP_writeLiteral 16 = .ok (.iconst 1, 1) := by decide +kernel
theorem d_CP_writeLiteral_17 : decode b_CP_writeLiteral 17 = .ok (.if_icmp .ne 7, 3) := by decide +kernel
theorem d_CP_writeLiteral_20 : decode b_CP_writeLiteral 20 = .ok (.iconst 1, 1) := by decide +kernel
theorem d_CP_writeLiteral_21 : decode b_CP_writeLiteral 21 = .ok (.goto 4, 3) := by decide +kernel
theorem d_CP_writeLiteral_24 : decode b_CP_writeLiteral 24 = .ok (.iconst 0, 1) := by decide +kernel
theorem d_CP_writeLiteral_25 : decode b_CP_writeLiteral 25 = .ok (.istore_n 3, 1) := by decide +kernel
theorem d_CP_writeLiteral_26 : decode b_CP_writeLiteral 26 = .ok (.aload_n 0, 1) := by decide +kernel
theorem d_CP_writeLiteral_27 : decode b_CP_writeLiteral 27 = .ok (.getfield 60, 3) := by decide +kernel
theorem d_CP_writeLiteral_30 : decode b_CP_writeLiteral 30 = .ok (.iload_n 1, 1) := by decide +kernel
theorem d_CP_writeLiteral_31 : decode b_CP_writeLiteral 31 = .ok (.iconst 0, 1) := by decide +kernel
theorem d_CP_writeLiteral_32 : decode b_CP_writeLiteral 32 = .ok (.invokevirtual 195, 3) := by decide +kernel
theorem d_CP_writeLiteral_35 : decode b_CP_writeLiteral 35 = .ok (.istore 4, 2) := by decide +kernel
theorem d_CP_writeLiteral_37 : decode b_CP_writeLiteral 37 = .ok (.aload_n 0, 1) := by decide +kernel
theorem d_CP_writeLiteral_38 : decode b_CP_writeLiteral 38 = .ok (.getfield 60, 3) := by decide +kernel
theorem d_CP_writeLiteral_41 : decode b_CP_writeLiteral 41 = .ok (.iload_n 1, 1) := by decide +kernel
theorem d_CP_writeLiteral_42 : decode b_CP_writeLiteral 42 = .ok (.iconst 1, 1) := by decide +kernel
theorem d_CP_writeLiteral_43 : decode b_CP_writeLiteral 43 = .ok (.invokevirtual 195, 3) := by decide +kernel
theorem d_CP_writeLiteral_46 : decode b_CP_writeLiteral 46 = .ok (.istore 5, 2) := by decide +kernel
theorem d_CP_writeLiteral_48 : decode b_CP_writeLiteral 48 = .ok (.aload_n 2, 1) := by decide +kernel
theorem d_CP_writeLiteral_49 : decode b_CP_writeLiteral 49 = .ok (.iload 5, 2) := by decide +kernel
theorem d_CP_writeLiteral_51 : decode b_CP_writeLiteral 51 = .ok (.iaload, 1) := by decide +kernel
theorem d_CP_writeLiteral_52 : decode b_CP_writeLiteral 52 = .ok (.ifCond .ne 27, 3) := by decide +kernel
theorem d_CP_writeLiteral_55 : decode b_CP_writeLiteral 55 = .ok (.aload_n 0, 1) := by decide +kernel
theorem d_CP_writeLiteral_56 : decode b_CP_writeLiteral 56 = .ok (.iload_n 3, 1) := by decide +kernel
theorem d_CP_writeLiteral_57 : decode b_CP_writeLiteral 57 = .ok (.ifCond .eq 8, 3) := by decide +kernel
theorem d_CP_writeLiteral_60 : decode b_CP_writeLiteral 60 = .ok (.ldc 198, 2) := by decide +kernel
theorem d_CP_writeLiteral_62 : decode b_CP_writeLiteral 62 = .ok (.goto 5, 3) := by decide +kernel
theorem d_CP_writeLiteral_65 : decode b_CP_writeLiteral 65 = .ok (.ldc 200, 2) := by decide +kernel
theorem d_CP_writeLiteral_67 : decode b_CP_writeLiteral 67 = .ok (.invokevirtual 183, 3) := by decide +kernel
theorem d_CP_writeLiteral_70 : decode b_CP_writeLiteral 70 = .ok (.aload_n 0, 1) := by decide +kernel
theorem d_CP_writeLiteral_71 : decode b_CP_writeLiteral 71 = .ok (.iload 4, 2) := by decide +kernel
theorem d_CP_writeLiteral_73 : decode b_CP_writeLiteral 73 = .ok (.iload 5, 2) := by decide +kernel
theorem d_CP_writeLiteral_75 : decode b_CP_writeLiteral 75 = .ok (.invokevirtual 202, 3) := by decide +kernel
theorem d_CP_writeLiteral_78 : decode b_CP_writeLiteral 78 = .ok (.return_, 1) := by decide +kernel
theorem d_CP_writeLiteral_79 : decode b_CP_writeLiteral 79 = .ok (.aload_n 0, 1) := by decide +kernel
theorem d_CP_writeLiteral_80 : decode b_CP_writeLiteral 80 = .ok (.iload 4, 2) := by decide +kernel
theorem d_CP_writeLiteral_82 : decode b_CP_writeLiteral 82 = .ok (.iload 5, 2) := by decide +kernel
theorem d_CP_writeLiteral_84 : decode b_CP_writeLiteral 84 = .ok (.invokevirtual 202, 3) := by decide +kernel
theorem d_CP_writeLiteral_87 : decode b_CP_writeLiteral 87 = .ok (.aload_n 0, 1) := by decide +kernel
theorem d_CP_writeLiteral_88 : decode b_CP_writeLiteral 88 = .ok (.iload_n 3, 1) := by decide +kernel
theorem d_CP_writeLiteral_89 : decode b_CP_writeLiteral 89 = .ok (.ifCond .eq 8, 3) := by decide +kernel
theorem d_CP_writeLiteral_92 : decode b_CP_writeLiteral 92 = .ok (.ldc 206, 2) := by decide +kernel
theorem d_CP_writeLiteral_94 : decode b_CP_writeLiteral 94 = .ok (.goto 5, 3) := by decide +kernel
theorem d_CP_writeLiteral_97 : decode b_CP_writeLiteral 97 = .ok (.ldc 208, 2) := by decide +kernel
theorem d_CP_writeLiteral_99 : decode b_CP_writeLiteral 99 = .ok (.invokevirtual 183, 3) := by decide +kernel
theorem d_CP_writeLiteral_102 : decode b_CP_writeLiteral 102 = .ok (.aload_n 0, 1) := by decide +kernel
theorem d_CP_writeLiteral_103 : decode b_CP_writeLiteral 103 = .ok (.iload 5, 2) := by decide +kernel
theorem d_CP_writeLiteral_105 : decode b_CP_writeLiteral 105 = .ok (.iload 5, 2) := by decide +kernel
theorem d_CP_writeLiteral_107 : decode b_CP_writeLiteral 107 = .ok (.aload_n 2, 1) := by decide +kernel
theorem d_CP_writeLiteral_108 : decode b_CP_writeLiteral 108 = .ok (.iload_n 1, 1) := by decide +kernel
theorem d_CP_writeLiteral_109 : decode b_CP_writeLiteral 109 = .ok (.iconst 4, 1) := by decide +kernel
theorem d_CP_writeLiteral_110 : decode b_CP_writeLiteral 110 = .ok (.iadd, 1) := by decide +kernel
theorem d_CP_writeLiteral_111 : decode b_CP_writeLiteral 111 = .ok (.iaload, 1) := by decide +kernel
theorem d_CP_writeLiteral_112 : decode b_CP_writeLiteral 112 = .ok (.iadd, 1) := by decide +kernel
theorem d_CP_writeLiteral_113 : decode b_CP_writeLiteral 113 = .ok (.invokevirtual 202, 3) := by decide +kernel
theorem d_CP_writeLiteral_116 : decode b_CP_writeLiteral 116 = .ok (.return_, 1) := by decide +kernel
abbrev b_CP_show : ByteArray := prog_1_method_11_code
def y_CP_show : MethodName := ⟨"ClauseProver", "show", "(I)I"⟩
theorem d_CP_show_0 : decode b_CP_show 0 = .ok (.aload_n 0, 1) := by decide +kernel
theorem d_CP_show_1 : decode b_CP_show 1 = .ok (.getfield 60, 3) := by decide +kernel
theorem d_CP_show_4 : decode b_CP_show 4 = .ok (.iload_n 1, 1) := by decide +kernel
theorem d_CP_show_5 : decode b_CP_show 5 = .ok (.invokevirtual 150, 3) := by decide +kernel
theorem d_CP_show_8 : decode b_CP_show 8 = .ok (.ifCond .ne 13, 3) := by decide +kernel
theorem d_CP_show_11 : decode b_CP_show 11 = .ok (.new 154, 3) := by decide +kernel
theorem d_CP_show_14 : decode b_CP_show 14 = .ok (.dup, 1) := by decide +kernel
theorem d_CP_show_15 : decode b_CP_show 15 = .ok (.ldc 156, 2) := by decide +kernel
theorem d_CP_show_17 : decode b_CP_show 17 = .ok (.invokespecial 158, 3) := by decide +kernel
theorem d_CP_show_20 : decode b_CP_show 20 = .ok (.athrow, 1) := by decide +kernel
theorem d_CP_show_21 : decode b_CP_show 21 = .ok (.aload_n 0, 1) := by decide +kernel
theorem d_CP_show_22 : decode b_CP_show 22 = .ok (.getfield 18, 3) := by decide +kernel
theorem d_CP_show_25 : decode b_CP_show 25 = .ok (.iconst 0, 1) := by decide +kernel
theorem d_CP_show_26 : decode b_CP_show 26 = .ok (.putfield 82, 3) := by decide +kernel
theorem d_CP_show_29 : decode b_CP_show 29 = .ok (.aload_n 0, 1) := by decide +kernel
theorem d_CP_show_30 : decode b_CP_show 30 = .ok (.getfield 60, 3) := by decide +kernel
theorem d_CP_show_33 : decode b_CP_show 33 = .ok (.iload_n 1, 1) := by decide +kernel
theorem d_CP_show_34 : decode b_CP_show 34 = .ok (.iconst 3, 1) := by decide +kernel
theorem d_CP_show_35 : decode b_CP_show 35 = .ok (.invokevirtual 161, 3) := by decide +kernel
theorem d_CP_show_38 : decode b_CP_show 38 = .ok (.istore_n 2, 1) := by decide +kernel
theorem d_CP_show_39 : decode b_CP_show 39 = .ok (.iload_n 2, 1) := by decide +kernel
theorem d_CP_show_40 : decode b_CP_show 40 = .ok (.ifCond .ne 9, 3) := by decide +kernel
theorem d_CP_show_43 : decode b_CP_show 43 = .ok (.aload_n 0, 1) := by decide +kernel
theorem d_CP_show_44 : decode b_CP_show 44 = .ok (.ldc 181, 2) := by decide +kernel
theorem d_CP_show_46 : decode b_CP_show 46 = .ok (.invokevirtual 183, 3) := by decide +kernel
theorem d_CP_show_49 : decode b_CP_show 49 = .ok (.aload_n 0, 1) := by decide +kernel
theorem d_CP_show_50 : decode b_CP_show 50 = .ok (.getfield 60, 3) := by decide +kernel
theorem d_CP_show_53 : decode b_CP_show 53 = .ok (.iload_n 1, 1) := by decide +kernel
theorem d_CP_show_54 : decode b_CP_show 54 = .ok (.bipush 8, 2) := by decide +kernel
theorem d_CP_show_56 : decode b_CP_show 56 = .ok (.invokevirtual 161, 3) := by decide +kernel
theorem d_CP_show_59 : decode b_CP_show 59 = .ok (.istore_n 3, 1) := by decide +kernel
theorem d_CP_show_60 : decode b_CP_show 60 = .ok (.iconst 0, 1) := by decide +kernel
theorem d_CP_show_61 : decode b_CP_show 61 = .ok (.istore 4, 2) := by decide +kernel
theorem d_CP_show_63 : decode b_CP_show 63 = .ok (.iload 4, 2) := by decide +kernel
theorem d_CP_show_65 : decode b_CP_show 65 = .ok (.iload_n 2, 1) := by decide +kernel
theorem d_CP_show_66 : decode b_CP_show 66 = .ok (.if_icmp .ge 34, 3) := by decide +kernel
theorem d_CP_show_69 : decode b_CP_show 69 = .ok (.iload 4, 2) := by decide +kernel
theorem d_CP_show_71 : decode b_CP_show 71 = .ok (.ifCond .le 9, 3) := by decide +kernel
theorem d_CP_show_74 : decode b_CP_show 74 = .ok (.aload_n 0, 1) := by decide +kernel
theorem d_CP_show_75 : decode b_CP_show 75 = .ok (.ldc 186, 2) := by decide +kernel
theorem d_CP_show_77 : decode b_CP_show 77 = .ok (.invokevirtual 183, 3) := by decide +kernel
theorem d_CP_show_80 : decode b_CP_show 80 = .ok (.aload_n 0, 1) := by decide +kernel
theorem d_CP_show_81 : decode b_CP_show 81 = .ok (.iload_n 3, 1) := by decide +kernel
theorem d_CP_show_82 : decode b_CP_show 82 = .ok (.invokevirtual 188, 3) := by decide +kernel
theorem d_CP_show_85 : decode b_CP_show 85 = .ok (.aload_n 0, 1) := by decide +kernel
theorem d_CP_show_86 : decode b_CP_show 86 = .ok (.getfield 60, 3) := by decide +kernel
theorem d_CP_show_89 : decode b_CP_show 89 = .ok (.iload_n 3, 1) := by decide +kernel
theorem d_CP_show_90 : decode b_CP_show 90 = .ok (.invokevirtual 191, 3) := by decide +kernel
theorem d_CP_show_93 : decode b_CP_show 93 = .ok (.istore_n 3, 1) := by decide +kernel
theorem d_CP_show_94 : decode b_CP_show 94 = .ok (.iinc 4 1, 3) := by decide +kernel
theorem d_CP_show_97 : decode b_CP_show 97 = .ok (.goto (-34), 3) := by decide +kernel
theorem d_CP_show_100 : decode b_CP_show 100 = .ok (.aload_n 0, 1) := by decide +kernel
theorem d_CP_show_101 : decode b_CP_show 101 = .ok (.getfield 18, 3) := by decide +kernel
theorem d_CP_show_104 : decode b_CP_show 104 = .ok (.getfield 82, 3) := by decide +kernel
theorem d_CP_show_107 : decode b_CP_show 107 = .ok (.ireturn, 1) := by decide +kernel
theorem tc_CP_writeText : Cond.code y_CP_writeText b_CP_writeText 3 none ∈ lw_tbg := tb_in (i := 1337) (by decide +kernel) rfl
theorem ml_CP_183 : ax_LV "ClauseProver" 183 y_CP_writeText b_CP_writeText 3 none 1 := ax_LV.mk (tb_in (i := 1334) (by decide +kernel) rfl) (tb_in (i := 1336) (by decide +kernel) rfl) (pv_in (i := 81) (by decide +kernel) rfl) ti_CP tc_CP_writeText (by decide +kernel)
theorem tc_CP_writeNumber : Cond.code y_CP_writeNumber b_CP_writeNumber 3 none ∈ lw_tbg := tb_in (i := 1406) (by decide +kernel) rfl
theorem ml_CP_224 : ax_LV "ClauseProver" 224 y_CP_writeNumber b_CP_writeNumber 3 none 1 := ax_LV.mk (tb_in (i := 1403) (by decide +kernel) rfl) (tb_in (i := 1405) (by decide +kernel) rfl) (pv_in (i := 85) (by decide +kernel) rfl) ti_CP tc_CP_writeNumber (by decide +kernel)
theorem tc_CP_writeWord : Cond.code y_CP_writeWord b_CP_writeWord 3 none ∈ lw_tbg := tb_in (i := 1401) (by decide +kernel) rfl
theorem ml_CP_210 : ax_LV "ClauseProver" 210 y_CP_writeWord b_CP_writeWord 3 none 1 := ax_LV.mk (tb_in (i := 1398) (by decide +kernel) rfl) (tb_in (i := 1400) (by decide +kernel) rfl) (pv_in (i := 84) (by decide +kernel) rfl) ti_CP tc_CP_writeWord (by decide +kernel)
theorem ml_CP_195 : ax_LV "ClauseProver" 195 y_Sto_sideAt b_Sto_sideAt 3 (some (.int)) 2 := ax_LV.mk (tb_in (i := 1391) (by decide +kernel) rfl) (tb_in (i := 1050) (by decide +kernel) rfl) (tb_in (i := 1051) (by decide +kernel) rfl) ti_Sto tc_Sto_sideAt (by decide +kernel)
theorem tc_CP_writeTerm : Cond.code y_CP_writeTerm b_CP_writeTerm 7 none ∈ lw_tbg := tb_in (i := 1397) (by decide +kernel) rfl
theorem ml_CP_202 : ax_LV "ClauseProver" 202 y_CP_writeTerm b_CP_writeTerm 7 none 2 := ax_LV.mk (tb_in (i := 1394) (by decide +kernel) rfl) (tb_in (i := 1396) (by decide +kernel) rfl) (pv_in (i := 83) (by decide +kernel) rfl) ti_CP tc_CP_writeTerm (by decide +kernel)
theorem tc_CP_writeLiteral : Cond.code y_CP_writeLiteral b_CP_writeLiteral 6 none ∈ lw_tbg := tb_in (i := 1390) (by decide +kernel) rfl
theorem ml_CP_188 : ax_LV "ClauseProver" 188 y_CP_writeLiteral b_CP_writeLiteral 6 none 1 := ax_LV.mk (tb_in (i := 1387) (by decide +kernel) rfl) (tb_in (i := 1389) (by decide +kernel) rfl) (pv_in (i := 82) (by decide +kernel) rfl) ti_CP tc_CP_writeLiteral (by decide +kernel)
theorem ml_CP_191 : ax_LV "ClauseProver" 191 y_Sto_behind b_Sto_behind 2 (some (.int)) 1 := ax_LV.mk (tb_in (i := 1417) (by decide +kernel) rfl) (tb_in (i := 1054) (by decide +kernel) rfl) (tb_in (i := 1055) (by decide +kernel) rfl) ti_Sto tc_Sto_behind (by decide +kernel)
/-! the class's show: calls with what is known of the String constants -/
theorem tkL_c {σ : mS} {c : Int32} {L : List Int32} (h : rok σ 301 4 = true) (g : tkL (rAdd σ 301 4 c) L = true) : tkL σ (c :: L) = true := by
  show (rok σ 301 4 && tkL (rAdd σ 301 4 c) L) = true
  rw [Bool.and_eq_true]
  exact ⟨h, g⟩
def GMh (rec : mF) : Prop := ∀ t σ xs res, rec t σ xs = some res → gle σ res.1
theorem gh_tail {σ : mS} {rec : mF} {t : Nat} {xs : List Int32} (h : GMh rec) : gm σ (rec t σ xs) := fun res e => h t σ xs res e
theorem gh_bnd {σ : mS} {rec : mF} {t : Nat} {xs : List Int32} {k : mS → Int32 → Option mR} (h : GMh rec) (g : ∀ σ1 r1, gm σ1 (k σ1 r1)) : gm σ (bnd (rec t σ xs) k) := fun res e => by
  obtain ⟨σf, rf, d⟩ := res
  obtain ⟨σ1, r1, d1, d2, h1, h2, _, _⟩ := it_b e
  exact gle.trans (h _ _ _ _ h1) (g σ1 r1 (σf, rf, d2) h2)

section HR1
variable {p : Program} {l : Launch} {e : Env} {R : Room} {s : State} {m : MethodId} {args : Array Value} {below : List Frame} {meth : Method} {c : Code} {Q : State → Prop} {D : va_G} {kA : Nat → ClassId} {A : Nat → Prop} {nL : Nat} {cc : ByteArray} {ret : Option FieldType} {pc cells slots : Nat} {ls : List (Nat × Value)} {st rest : List Value} {u w : Nat → Nat} {tx : Value} {σ σ2 : mS} {own : String}
set_option maxRecDepth 4000 in
theorem cg_0_2_CP_21 (C : ax_C p s m args meth c cc "ClauseProver" nL ret D kA A) (hdg : decode cc pc = .ok (.getfield 21, 3)) (k : AW p l e R s m args below meth c D kA A nL Q (pc + 3) ls (.ref (u 5) :: rest) (cpW kA u w tx σ) cells slots) : AW p l e R s m args below meth c D kA A nL Q (pc) ls (.ref (u 0) :: rest) (cpW kA u w tx σ) cells slots := ax_get C k_CP 2 lk_CP_21 hdg (Nat.le_of_ble_eq_true rfl) 0 rfl rfl k
set_option maxRecDepth 4000 in
theorem cg_6_1_CP_241 (C : ax_C p s m args meth c cc "ClauseProver" nL ret D kA A) (hdg : decode cc pc = .ok (.getfield 241, 3)) (k : AW p l e R s m args below meth c D kA A nL Q (pc + 3) ls (.ref (u 8) :: rest) (cpW kA u w tx σ) cells slots) : AW p l e R s m args below meth c D kA A nL Q (pc) ls (.ref (u 6) :: rest) (cpW kA u w tx σ) cells slots := ax_get C k_Sym 1 lk_CP_241 hdg (Nat.le_of_ble_eq_true rfl) 6 rfl rfl k
set_option maxRecDepth 4000 in
theorem cg_6_2_CP_235 (C : ax_C p s m args meth c cc "ClauseProver" nL ret D kA A) (hdg : decode cc pc = .ok (.getfield 235, 3)) (k : AW p l e R s m args below meth c D kA A nL Q (pc + 3) ls (.ref (u 9) :: rest) (cpW kA u w tx σ) cells slots) : AW p l e R s m args below meth c D kA A nL Q (pc) ls (.ref (u 6) :: rest) (cpW kA u w tx σ) cells slots := ax_get C k_Sym 2 lk_CP_235 hdg (Nat.le_of_ble_eq_true rfl) 6 rfl rfl k
set_option maxRecDepth 4000 in
theorem cg_6_3_CP_238 (C : ax_C p s m args meth c cc "ClauseProver" nL ret D kA A) (hdg : decode cc pc = .ok (.getfield 238, 3)) (k : AW p l e R s m args below meth c D kA A nL Q (pc + 3) ls (.ref (u 10) :: rest) (cpW kA u w tx σ) cells slots) : AW p l e R s m args below meth c D kA A nL Q (pc) ls (.ref (u 6) :: rest) (cpW kA u w tx σ) cells slots := ax_get C k_Sym 3 lk_CP_238 hdg (Nat.le_of_ble_eq_true rfl) 6 rfl rfl k
set_option maxRecDepth 4000 in
theorem cg_6_4_CP_232 (C : ax_C p s m args meth c cc "ClauseProver" nL ret D kA A) (hdg : decode cc pc = .ok (.getfield 232, 3)) (k : AW p l e R s m args below meth c D kA A nL Q (pc + 3) ls (.int (σ.1 604) :: rest) (cpW kA u w tx σ) cells slots) : AW p l e R s m args below meth c D kA A nL Q (pc) ls (.ref (u 6) :: rest) (cpW kA u w tx σ) cells slots := ax_get C k_Sym 4 lk_CP_232 hdg (Nat.le_of_ble_eq_true rfl) 6 rfl rfl k
set_option maxRecDepth 4000 in
theorem cg_10_0_CP_110 (C : ax_C p s m args meth c cc "ClauseProver" nL ret D kA A) (hdg : decode cc pc = .ok (.getfield 110, 3)) (k : AW p l e R s m args below meth c D kA A nL Q (pc + 3) ls (.ref (w 11) :: rest) (cpW kA u w tx σ) cells slots) : AW p l e R s m args below meth c D kA A nL Q (pc) ls (.ref (u 10) :: rest) (cpW kA u w tx σ) cells slots := ax_get C k_Row 0 lk_CP_110 hdg (Nat.le_of_ble_eq_true rfl) 10 rfl rfl k
set_option maxRecDepth 4000 in
theorem cq_3_1_CP_82 (C : ax_C p s m args meth c cc "ClauseProver" nL ret D kA A) {x : Int32} (hdg : decode cc pc = .ok (.putfield 82, 3)) (k : AW p l e R s m args below meth c D kA A nL Q (pc + 3) ls (rest) (cpW kA u w tx (mI σ 301 x)) cells slots) : AW p l e R s m args below meth c D kA A nL Q (pc) ls (.int x :: .ref (u 3) :: rest) (cpW kA u w tx σ) cells slots := ax_put C k_Row 1 lk_CP_82 hdg (Nat.le_of_ble_eq_true rfl) 3 rfl rfl rfl rfl (Nat.le_of_ble_eq_true rfl) (ax_w (cpW kA u w tx (mI σ 301 x)) rfl k)
set_option maxRecDepth 4000 in
theorem cl_5 (C : ax_C p s m args meth c cc own nL ret D kA A) {i : Int32} (hdg : decode cc pc = .ok (.iaload, 1)) (hin : vp_in i 101) (k : AW p l e R s m args below meth c D kA A nL Q (pc + 1) ls (.int (σ.2.1 5 i.toNatClampNeg) :: rest) (cpW kA u w tx σ) cells slots) : AW p l e R s m args below meth c D kA A nL Q (pc) ls (.int i :: .ref (u 5) :: rest) (cpW kA u w tx σ) cells slots := ax_iald C 5 rfl hdg hin k
set_option maxRecDepth 4000 in
theorem cs_5 (C : ax_C p s m args meth c cc own nL ret D kA A) {i x : Int32} (hdg : decode cc pc = .ok (.iastore, 1)) (hin : vp_in i 101) (k : AW p l e R s m args below meth c D kA A nL Q (pc + 1) ls (rest) (cpW kA u w tx (mA σ 5 i.toNatClampNeg x)) cells slots) : AW p l e R s m args below meth c D kA A nL Q (pc) ls (.int x :: .int i :: .ref (u 5) :: rest) (cpW kA u w tx σ) cells slots := ax_iast C 5 rfl hdg hin (ax_w (cpW kA u w tx (mA σ 5 i.toNatClampNeg x)) rfl k)
set_option maxRecDepth 4000 in
theorem cn_5 (C : ax_C p s m args meth c cc own nL ret D kA A) (hdg : decode cc pc = .ok (.arraylength, 1)) (k : AW p l e R s m args below meth c D kA A nL Q (pc + 1) ls (.int (Int32.ofNat 101) :: rest) (cpW kA u w tx σ) cells slots) : AW p l e R s m args below meth c D kA A nL Q (pc) ls (.ref (u 5) :: rest) (cpW kA u w tx σ) cells slots := ax_alen C 5 0 rfl rfl _ rfl hdg k
theorem gh_Vv {adK adV : Nat → Nat} (C : ax_C p s m args meth c cc own nL ret D kA A) (hX : SX adK adV A s s.heap) {idx n : Nat} {b : Nat} {y : MethodName} {cc2 : ByteArray} {nL2 : Nat} {fr lo mc2 ms2 : Nat} {As : List Value} {post : va_W → Prop} (hM : ax_MvY (SX adK adV) l D kA y cc2 nL2 fr lo mc2 ms2 (.ref b :: As) (cpW kA u w tx σ) post) (L : ax_LV own idx y cc2 nL2 none n) (q0 : Nat) {ci : Nat} {fs : List Value} {r9 : vw_C} (he : (cpW kA u w tx σ)[q0]? = some (b, .inr (ci, fs))) (hc : ax_cl[ci]? = some r9) (hrc : r9.1 = y.cls) (hdg : decode cc pc = .ok (.invokevirtual idx, 3)) (hst : st = As.reverse ++ .ref b :: rest) (hlen : As.length = n) (hfr : fr + 1 ≤ R.frames) (hlo : 8 + (nL2 + 11) + lo ≤ R.locals) (hce : cells + mc2 ≤ R.cells) (hsl : slots + ms2 ≤ R.slots) (hsum : (rest.map fun v => v.category).sum ≤ 8) (k : ∀ w1 : va_W, post w1 → AW p l e R s m args below meth c D kA A nL Q (pc + 3) ls (rest) w1 (cells + mc2) (slots + ms2)) : AW p l e R s m args below meth c D kA A nL Q (pc) ls (st) (cpW kA u w tx σ) cells slots :=
  ax_callVvY (SX_ok adK adV) C hX (wr := []) hM L (fun H locs hP hS => by rw [← hrc]; exact va_recv C.2.2.2.2.2.1 hP hc he) hdg hst hlen (List.range 72) [] cp_all (by decide +kernel) rfl (by decide) (by intro i h; cases h) hfr hlo hce hsl hsum (fun w1 hw => k w1 hw)
theorem gh_Vi {adK adV : Nat → Nat} (C : ax_C p s m args meth c cc own nL ret D kA A) (hX : SX adK adV A s s.heap) {idx n : Nat} {b : Nat} {y : MethodName} {cc2 : ByteArray} {nL2 : Nat} {fr lo mc2 ms2 : Nat} {As : List Value} {post : Int32 → va_W → Prop} {ret2 : FieldType} (hM : ax_MiY (SX adK adV) l D kA y cc2 nL2 ret2 fr lo mc2 ms2 (.ref b :: As) (cpW kA u w tx σ) post) (L : ax_LV own idx y cc2 nL2 (some ret2) n) (q0 : Nat) {ci : Nat} {fs : List Value} {r9 : vw_C} (he : (cpW kA u w tx σ)[q0]? = some (b, .inr (ci, fs))) (hc : ax_cl[ci]? = some r9) (hrc : r9.1 = y.cls) (hdg : decode cc pc = .ok (.invokevirtual idx, 3)) (hst : st = As.reverse ++ .ref b :: rest) (hlen : As.length = n) (hfr : fr + 1 ≤ R.frames) (hlo : 8 + (nL2 + 11) + lo ≤ R.locals) (hce : cells + mc2 ≤ R.cells) (hsl : slots + ms2 ≤ R.slots) (hsum : (rest.map fun v => v.category).sum ≤ 8) (k : ∀ (r : Int32) (w1 : va_W), post r w1 → AW p l e R s m args below meth c D kA A nL Q (pc + 3) ls (.int r :: rest) w1 (cells + mc2) (slots + ms2)) : AW p l e R s m args below meth c D kA A nL Q (pc) ls (st) (cpW kA u w tx σ) cells slots :=
  ax_callViY (SX_ok adK adV) C hX (wr := []) hM L (fun H locs hP hS => by rw [← hrc]; exact va_recv C.2.2.2.2.2.1 hP hc he) hdg hst hlen (List.range 72) [] cp_all (by decide +kernel) rfl (by decide) (by intro i h; cases h) hfr hlo hce hsl hsum (fun r w1 hw => k r w1 hw)
end HR1
section HR2
variable {p : Program} {l : Launch} {e : Env} {R : Room} {s : State} {m : MethodId} {args : Array Value} {below : List Frame} {meth : Method} {c : Code} {Q : State → Prop} {D : va_G} {kA : Nat → ClassId} {A : Nat → Prop} {nL : Nat} {cc : ByteArray} {ret : Option FieldType} {pc F Lo mc ms cells slots : Nat} {ls : List (Nat × Value)} {st rest : List Value} {u w : Nat → Nat} {tx : Value} {σ σ2 : mS} {own : String}

end HR2
