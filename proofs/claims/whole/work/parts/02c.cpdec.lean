abbrev b_CP_count : ByteArray := prog_1_method_23_code
def y_CP_count : MethodName := ⟨"ClauseProver", "count", "(I)I"⟩
theorem d_CP_count_0 : decode b_CP_count 0 = .ok (.iload_n 1, 1) := by decide +kernel
theorem d_CP_count_1 : decode b_CP_count 1 = .ok (.tableswitch 185 0 13 #[71, 79, 87, 96, 105, 113, 121, 129, 137, 145, 153, 161, 169, 177], 71) := by decide +kernel
theorem d_CP_count_72 : decode b_CP_count 72 = .ok (.aload_n 0, 1) := by decide +kernel
theorem d_CP_count_73 : decode b_CP_count 73 = .ok (.getfield 60, 3) := by decide +kernel
theorem d_CP_count_76 : decode b_CP_count 76 = .ok (.getfield 134, 3) := by decide +kernel
theorem d_CP_count_79 : decode b_CP_count 79 = .ok (.ireturn, 1) := by decide +kernel
theorem d_CP_count_80 : decode b_CP_count 80 = .ok (.aload_n 0, 1) := by decide +kernel
theorem d_CP_count_81 : decode b_CP_count 81 = .ok (.getfield 60, 3) := by decide +kernel
theorem d_CP_count_84 : decode b_CP_count 84 = .ok (.getfield 135, 3) := by decide +kernel
theorem d_CP_count_87 : decode b_CP_count 87 = .ok (.ireturn, 1) := by decide +kernel
theorem d_CP_count_88 : decode b_CP_count 88 = .ok (.aload_n 0, 1) := by decide +kernel
theorem d_CP_count_89 : decode b_CP_count 89 = .ok (.getfield 60, 3) := by decide +kernel
theorem d_CP_count_92 : decode b_CP_count 92 = .ok (.iconst 0, 1) := by decide +kernel
theorem d_CP_count_93 : decode b_CP_count 93 = .ok (.invokevirtual 280, 3) := by decide +kernel
theorem d_CP_count_96 : decode b_CP_count 96 = .ok (.ireturn, 1) := by decide +kernel
theorem d_CP_count_97 : decode b_CP_count 97 = .ok (.aload_n 0, 1) := by decide +kernel
theorem d_CP_count_98 : decode b_CP_count 98 = .ok (.getfield 60, 3) := by decide +kernel
theorem d_CP_count_101 : decode b_CP_count 101 = .ok (.iconst 1, 1) := by decide +kernel
theorem d_CP_count_102 : decode b_CP_count 102 = .ok (.invokevirtual 280, 3) := by decide +kernel
theorem d_CP_count_105 : decode b_CP_count 105 = .ok (.ireturn, 1) := by decide +kernel
theorem d_CP_count_106 : decode b_CP_count 106 = .ok (.aload_n 0, 1) := by decide +kernel
theorem d_CP_count_107 : decode b_CP_count 107 = .ok (.getfield 69, 3) := by decide +kernel
theorem d_CP_count_110 : decode b_CP_count 110 = .ok (.getfield 283, 3) := by decide +kernel
theorem d_CP_count_113 : decode b_CP_count 113 = .ok (.ireturn, 1) := by decide +kernel
theorem d_CP_count_114 : decode b_CP_count 114 = .ok (.aload_n 0, 1) := by decide +kernel
theorem d_CP_count_115 : decode b_CP_count 115 = .ok (.getfield 69, 3) := by decide +kernel
theorem d_CP_count_118 : decode b_CP_count 118 = .ok (.getfield 286, 3) := by decide +kernel
theorem d_CP_count_121 : decode b_CP_count 121 = .ok (.ireturn, 1) := by decide +kernel
theorem d_CP_count_122 : decode b_CP_count 122 = .ok (.aload_n 0, 1) := by decide +kernel
theorem d_CP_count_123 : decode b_CP_count 123 = .ok (.getfield 69, 3) := by decide +kernel
theorem d_CP_count_126 : decode b_CP_count 126 = .ok (.getfield 289, 3) := by decide +kernel
theorem d_CP_count_129 : decode b_CP_count 129 = .ok (.ireturn, 1) := by decide +kernel
theorem d_CP_count_130 : decode b_CP_count 130 = .ok (.aload_n 0, 1) := by decide +kernel
theorem d_CP_count_131 : decode b_CP_count 131 = .ok (.getfield 69, 3) := by decide +kernel
theorem d_CP_count_134 : decode b_CP_count 134 = .ok (.getfield 292, 3) := by decide +kernel
theorem d_CP_count_137 : decode b_CP_count 137 = .ok (.ireturn, 1) := by decide +kernel
theorem d_CP_count_138 : decode b_CP_count 138 = .ok (.aload_n 0, 1) := by decide +kernel
theorem d_CP_count_139 : decode b_CP_count 139 = .ok (.getfield 69, 3) := by decide +kernel
theorem d_CP_count_142 : decode b_CP_count 142 = .ok (.getfield 295, 3) := by decide +kernel
theorem d_CP_count_145 : decode b_CP_count 145 = .ok (.ireturn, 1) := by decide +kernel
theorem d_CP_count_146 : decode b_CP_count 146 = .ok (.aload_n 0, 1) := by decide +kernel
theorem d_CP_count_147 : decode b_CP_count 147 = .ok (.getfield 69, 3) := by decide +kernel
theorem d_CP_count_150 : decode b_CP_count 150 = .ok (.getfield 298, 3) := by decide +kernel
theorem d_CP_count_153 : decode b_CP_count 153 = .ok (.ireturn, 1) := by decide +kernel
theorem d_CP_count_154 : decode b_CP_count 154 = .ok (.aload_n 0, 1) := by decide +kernel
theorem d_CP_count_155 : decode b_CP_count 155 = .ok (.getfield 69, 3) := by decide +kernel
theorem d_CP_count_158 : decode b_CP_count 158 = .ok (.getfield 140, 3) := by decide +kernel
theorem d_CP_count_161 : decode b_CP_count 161 = .ok (.ireturn, 1) := by decide +kernel
theorem d_CP_count_162 : decode b_CP_count 162 = .ok (.aload_n 0, 1) := by decide +kernel
theorem d_CP_count_163 : decode b_CP_count 163 = .ok (.getfield 28, 3) := by decide +kernel
theorem d_CP_count_166 : decode b_CP_count 166 = .ok (.getfield 258, 3) := by decide +kernel
theorem d_CP_count_169 : decode b_CP_count 169 = .ok (.ireturn, 1) := by decide +kernel
theorem d_CP_count_170 : decode b_CP_count 170 = .ok (.aload_n 0, 1) := by decide +kernel
theorem d_CP_count_171 : decode b_CP_count 171 = .ok (.getfield 14, 3) := by decide +kernel
theorem d_CP_count_174 : decode b_CP_count 174 = .ok (.getfield 82, 3) := by decide +kernel
theorem d_CP_count_177 : decode b_CP_count 177 = .ok (.ireturn, 1) := by decide +kernel
theorem d_CP_count_178 : decode b_CP_count 178 = .ok (.aload_n 0, 1) := by decide +kernel
theorem d_CP_count_179 : decode b_CP_count 179 = .ok (.getfield 18, 3) := by decide +kernel
theorem d_CP_count_182 : decode b_CP_count 182 = .ok (.getfield 82, 3) := by decide +kernel
theorem d_CP_count_185 : decode b_CP_count 185 = .ok (.ireturn, 1) := by decide +kernel
theorem d_CP_count_186 : decode b_CP_count 186 = .ok (.iconst (-1), 1) := by decide +kernel
theorem d_CP_count_187 : decode b_CP_count 187 = .ok (.ireturn, 1) := by decide +kernel
abbrev b_CP_fault : ByteArray := prog_1_method_6_code
def y_CP_fault : MethodName := ⟨"ClauseProver", "fault", "(I)I"⟩
theorem d_CP_fault_0 : decode b_CP_fault 0 = .ok (.iload_n 1, 1) := by decide +kernel
theorem d_CP_fault_1 : decode b_CP_fault 1 = .ok (.ifCond .ne 8, 3) := by decide +kernel
theorem d_CP_fault_4 : decode b_CP_fault 4 = .ok (.aload_n 0, 1) := by decide +kernel
theorem d_CP_fault_5 : decode b_CP_fault 5 = .ok (.getfield 120, 3) := by decide +kernel
theorem d_CP_fault_8 : decode b_CP_fault 8 = .ok (.ireturn, 1) := by decide +kernel
theorem d_CP_fault_9 : decode b_CP_fault 9 = .ok (.iload_n 1, 1) := by decide +kernel
theorem d_CP_fault_10 : decode b_CP_fault 10 = .ok (.iconst 1, 1) := by decide +kernel
theorem d_CP_fault_11 : decode b_CP_fault 11 = .ok (.if_icmp .ne 10, 3) := by decide +kernel
theorem d_CP_fault_14 : decode b_CP_fault 14 = .ok (.aload_n 0, 1) := by decide +kernel
theorem d_CP_fault_15 : decode b_CP_fault 15 = .ok (.getfield 126, 3) := by decide +kernel
theorem d_CP_fault_18 : decode b_CP_fault 18 = .ok (.goto 4, 3) := by decide +kernel
theorem d_CP_fault_21 : decode b_CP_fault 21 = .ok (.iconst (-1), 1) := by decide +kernel
theorem d_CP_fault_22 : decode b_CP_fault 22 = .ok (.ireturn, 1) := by decide +kernel
abbrev b_CP_proof : ByteArray := prog_1_method_19_code
def y_CP_proof : MethodName := ⟨"ClauseProver", "proof", "()I"⟩
theorem d_CP_proof_0 : decode b_CP_proof 0 = .ok (.aload_n 0, 1) := by decide +kernel
theorem d_CP_proof_1 : decode b_CP_proof 1 = .ok (.getfield 69, 3) := by decide +kernel
theorem d_CP_proof_4 : decode b_CP_proof 4 = .ok (.getfield 264, 3) := by decide +kernel
theorem d_CP_proof_7 : decode b_CP_proof 7 = .ok (.getfield 82, 3) := by decide +kernel
theorem d_CP_proof_10 : decode b_CP_proof 10 = .ok (.ireturn, 1) := by decide +kernel
abbrev b_Dra_cellOf : ByteArray := prog_2_method_7_code
def y_Dra_cellOf : MethodName := ⟨"ClauseProver$Draft", "cellOf", "(I)I"⟩
theorem d_Dra_cellOf_0 : decode b_Dra_cellOf 0 = .ok (.aload_n 0, 1) := by decide +kernel
theorem d_Dra_cellOf_1 : decode b_Dra_cellOf 1 = .ok (.getfield 25, 3) := by decide +kernel
theorem d_Dra_cellOf_4 : decode b_Dra_cellOf 4 = .ok (.iload_n 1, 1) := by decide +kernel
theorem d_Dra_cellOf_5 : decode b_Dra_cellOf 5 = .ok (.iaload, 1) := by decide +kernel
theorem d_Dra_cellOf_6 : decode b_Dra_cellOf 6 = .ok (.iconst (-1), 1) := by decide +kernel
theorem d_Dra_cellOf_7 : decode b_Dra_cellOf 7 = .ok (.if_icmp .ne 20, 3) := by decide +kernel
theorem d_Dra_cellOf_10 : decode b_Dra_cellOf 10 = .ok (.aload_n 0, 1) := by decide +kernel
theorem d_Dra_cellOf_11 : decode b_Dra_cellOf 11 = .ok (.getfield 44, 3) := by decide +kernel
theorem d_Dra_cellOf_14 : decode b_Dra_cellOf 14 = .ok (.bipush 6, 2) := by decide +kernel
theorem d_Dra_cellOf_16 : decode b_Dra_cellOf 16 = .ok (.if_icmp .ne 11, 3) := by decide +kernel
theorem d_Dra_cellOf_19 : decode b_Dra_cellOf 19 = .ok (.aload_n 0, 1) := by decide +kernel
theorem d_Dra_cellOf_20 : decode b_Dra_cellOf 20 = .ok (.iconst 1, 1) := by decide +kernel
theorem d_Dra_cellOf_21 : decode b_Dra_cellOf 21 = .ok (.putfield 54, 3) := by decide +kernel
theorem d_Dra_cellOf_24 : decode b_Dra_cellOf 24 = .ok (.goto 40, 3) := by decide +kernel
theorem d_Dra_cellOf_27 : decode b_Dra_cellOf 27 = .ok (.aload_n 0, 1) := by decide +kernel
theorem d_Dra_cellOf_28 : decode b_Dra_cellOf 28 = .ok (.getfield 25, 3) := by decide +kernel
theorem d_Dra_cellOf_31 : decode b_Dra_cellOf 31 = .ok (.iload_n 1, 1) := by decide +kernel
theorem d_Dra_cellOf_32 : decode b_Dra_cellOf 32 = .ok (.iaload, 1) := by decide +kernel
theorem d_Dra_cellOf_33 : decode b_Dra_cellOf 33 = .ok (.iconst (-1), 1) := by decide +kernel
theorem d_Dra_cellOf_34 : decode b_Dra_cellOf 34 = .ok (.if_icmp .ne 30, 3) := by decide +kernel
theorem d_Dra_cellOf_37 : decode b_Dra_cellOf 37 = .ok (.aload_n 0, 1) := by decide +kernel
theorem d_Dra_cellOf_38 : decode b_Dra_cellOf 38 = .ok (.getfield 28, 3) := by decide +kernel
theorem d_Dra_cellOf_41 : decode b_Dra_cellOf 41 = .ok (.aload_n 0, 1) := by decide +kernel
theorem d_Dra_cellOf_42 : decode b_Dra_cellOf 42 = .ok (.getfield 44, 3) := by decide +kernel
theorem d_Dra_cellOf_45 : decode b_Dra_cellOf 45 = .ok (.iload_n 1, 1) := by decide +kernel
theorem d_Dra_cellOf_46 : decode b_Dra_cellOf 46 = .ok (.iastore, 1) := by decide +kernel
theorem d_Dra_cellOf_47 : decode b_Dra_cellOf 47 = .ok (.aload_n 0, 1) := by decide +kernel
theorem d_Dra_cellOf_48 : decode b_Dra_cellOf 48 = .ok (.getfield 25, 3) := by decide +kernel
theorem d_Dra_cellOf_51 : decode b_Dra_cellOf 51 = .ok (.iload_n 1, 1) := by decide +kernel
theorem d_Dra_cellOf_52 : decode b_Dra_cellOf 52 = .ok (.aload_n 0, 1) := by decide +kernel
theorem d_Dra_cellOf_53 : decode b_Dra_cellOf 53 = .ok (.dup, 1) := by decide +kernel
theorem d_Dra_cellOf_54 : decode b_Dra_cellOf 54 = .ok (.getfield 44, 3) := by decide +kernel
theorem d_Dra_cellOf_57 : decode b_Dra_cellOf 57 = .ok (.dup_x1, 1) := by decide +kernel
theorem d_Dra_cellOf_58 : decode b_Dra_cellOf 58 = .ok (.iconst 1, 1) := by decide +kernel
theorem d_Dra_cellOf_59 : decode b_Dra_cellOf 59 = .ok (.iadd, 1) := by decide +kernel
theorem d_Dra_cellOf_60 : decode b_Dra_cellOf 60 = .ok (.putfield 44, 3) := by decide +kernel
theorem d_Dra_cellOf_63 : decode b_Dra_cellOf 63 = .ok (.iastore, 1) := by decide +kernel
theorem d_Dra_cellOf_64 : decode b_Dra_cellOf 64 = .ok (.aload_n 0, 1) := by decide +kernel
theorem d_Dra_cellOf_65 : decode b_Dra_cellOf 65 = .ok (.getfield 25, 3) := by decide +kernel
theorem d_Dra_cellOf_68 : decode b_Dra_cellOf 68 = .ok (.iload_n 1, 1) := by decide +kernel
theorem d_Dra_cellOf_69 : decode b_Dra_cellOf 69 = .ok (.iaload, 1) := by decide +kernel
theorem d_Dra_cellOf_70 : decode b_Dra_cellOf 70 = .ok (.iconst 0, 1) := by decide +kernel
theorem d_Dra_cellOf_71 : decode b_Dra_cellOf 71 = .ok (.invokestatic 58, 3) := by decide +kernel
theorem d_Dra_cellOf_74 : decode b_Dra_cellOf 74 = .ok (.iconst (-1), 1) := by decide +kernel
theorem d_Dra_cellOf_75 : decode b_Dra_cellOf 75 = .ok (.ixor, 1) := by decide +kernel
theorem d_Dra_cellOf_76 : decode b_Dra_cellOf 76 = .ok (.ireturn, 1) := by decide +kernel
abbrev b_Dra_clear : ByteArray := prog_2_method_2_code
def y_Dra_clear : MethodName := ⟨"ClauseProver$Draft", "clear", "()V"⟩
theorem d_Dra_clear_0 : decode b_Dra_clear 0 = .ok (.iconst 0, 1) := by decide +kernel
theorem d_Dra_clear_1 : decode b_Dra_clear 1 = .ok (.istore_n 1, 1) := by decide +kernel
theorem d_Dra_clear_2 : decode b_Dra_clear 2 = .ok (.iload_n 1, 1) := by decide +kernel
theorem d_Dra_clear_3 : decode b_Dra_clear 3 = .ok (.aload_n 0, 1) := by decide +kernel
theorem d_Dra_clear_4 : decode b_Dra_clear 4 = .ok (.getfield 44, 3) := by decide +kernel
theorem d_Dra_clear_7 : decode b_Dra_clear 7 = .ok (.if_icmp .ge 21, 3) := by decide +kernel
theorem d_Dra_clear_10 : decode b_Dra_clear 10 = .ok (.aload_n 0, 1) := by decide +kernel
theorem d_Dra_clear_11 : decode b_Dra_clear 11 = .ok (.getfield 25, 3) := by decide +kernel
theorem d_Dra_clear_14 : decode b_Dra_clear 14 = .ok (.aload_n 0, 1) := by decide +kernel
theorem d_Dra_clear_15 : decode b_Dra_clear 15 = .ok (.getfield 28, 3) := by decide +kernel
theorem d_Dra_clear_18 : decode b_Dra_clear 18 = .ok (.iload_n 1, 1) := by decide +kernel
theorem d_Dra_clear_19 : decode b_Dra_clear 19 = .ok (.iaload, 1) := by decide +kernel
theorem d_Dra_clear_20 : decode b_Dra_clear 20 = .ok (.iconst (-1), 1) := by decide +kernel
theorem d_Dra_clear_21 : decode b_Dra_clear 21 = .ok (.iastore, 1) := by decide +kernel
theorem d_Dra_clear_22 : decode b_Dra_clear 22 = .ok (.iinc 1 1, 3) := by decide +kernel
theorem d_Dra_clear_25 : decode b_Dra_clear 25 = .ok (.goto (-23), 3) := by decide +kernel
theorem d_Dra_clear_28 : decode b_Dra_clear 28 = .ok (.aload_n 0, 1) := by decide +kernel
theorem d_Dra_clear_29 : decode b_Dra_clear 29 = .ok (.iconst 0, 1) := by decide +kernel
theorem d_Dra_clear_30 : decode b_Dra_clear 30 = .ok (.putfield 44, 3) := by decide +kernel
theorem d_Dra_clear_33 : decode b_Dra_clear 33 = .ok (.aload_n 0, 1) := by decide +kernel
theorem d_Dra_clear_34 : decode b_Dra_clear 34 = .ok (.iconst 0, 1) := by decide +kernel
theorem d_Dra_clear_35 : decode b_Dra_clear 35 = .ok (.putfield 48, 3) := by decide +kernel
theorem d_Dra_clear_38 : decode b_Dra_clear 38 = .ok (.aload_n 0, 1) := by decide +kernel
theorem d_Dra_clear_39 : decode b_Dra_clear 39 = .ok (.iconst 0, 1) := by decide +kernel
theorem d_Dra_clear_40 : decode b_Dra_clear 40 = .ok (.putfield 51, 3) := by decide +kernel
theorem d_Dra_clear_43 : decode b_Dra_clear 43 = .ok (.aload_n 0, 1) := by decide +kernel
theorem d_Dra_clear_44 : decode b_Dra_clear 44 = .ok (.iconst 0, 1) := by decide +kernel
theorem d_Dra_clear_45 : decode b_Dra_clear 45 = .ok (.putfield 54, 3) := by decide +kernel
theorem d_Dra_clear_48 : decode b_Dra_clear 48 = .ok (.return_, 1) := by decide +kernel
abbrev b_Dra_closeLiteral : ByteArray := prog_2_method_5_code
def y_Dra_closeLiteral : MethodName := ⟨"ClauseProver$Draft", "closeLiteral", "()V"⟩
theorem d_Dra_closeLiteral_0 : decode b_Dra_closeLiteral 0 = .ok (.aload_n 0, 1) := by decide +kernel
theorem d_Dra_closeLiteral_1 : decode b_Dra_closeLiteral 1 = .ok (.getfield 54, 3) := by decide +kernel
theorem d_Dra_closeLiteral_4 : decode b_Dra_closeLiteral 4 = .ok (.ifCond .ne 26, 3) := by decide +kernel
theorem d_Dra_closeLiteral_7 : decode b_Dra_closeLiteral 7 = .ok (.aload_n 0, 1) := by decide +kernel
theorem d_Dra_closeLiteral_8 : decode b_Dra_closeLiteral 8 = .ok (.dup, 1) := by decide +kernel
theorem d_Dra_closeLiteral_9 : decode b_Dra_closeLiteral 9 = .ok (.getfield 51, 3) := by decide +kernel
theorem d_Dra_closeLiteral_12 : decode b_Dra_closeLiteral 12 = .ok (.iconst 1, 1) := by decide +kernel
theorem d_Dra_closeLiteral_13 : decode b_Dra_closeLiteral 13 = .ok (.iadd, 1) := by decide +kernel
theorem d_Dra_closeLiteral_14 : decode b_Dra_closeLiteral 14 = .ok (.putfield 51, 3) := by decide +kernel
theorem d_Dra_closeLiteral_17 : decode b_Dra_closeLiteral 17 = .ok (.aload_n 0, 1) := by decide +kernel
theorem d_Dra_closeLiteral_18 : decode b_Dra_closeLiteral 18 = .ok (.getfield 15, 3) := by decide +kernel
theorem d_Dra_closeLiteral_21 : decode b_Dra_closeLiteral 21 = .ok (.aload_n 0, 1) := by decide +kernel
theorem d_Dra_closeLiteral_22 : decode b_Dra_closeLiteral 22 = .ok (.getfield 51, 3) := by decide +kernel
theorem d_Dra_closeLiteral_25 : decode b_Dra_closeLiteral 25 = .ok (.aload_n 0, 1) := by decide +kernel
theorem d_Dra_closeLiteral_26 : decode b_Dra_closeLiteral 26 = .ok (.getfield 48, 3) := by decide +kernel
theorem d_Dra_closeLiteral_29 : decode b_Dra_closeLiteral 29 = .ok (.iastore, 1) := by decide +kernel
theorem d_Dra_closeLiteral_30 : decode b_Dra_closeLiteral 30 = .ok (.return_, 1) := by decide +kernel
abbrev b_Dra_hasSameSides : ByteArray := prog_2_method_11_code
def y_Dra_hasSameSides : MethodName := ⟨"ClauseProver$Draft", "hasSameSides", "(II)Z"⟩
theorem d_Dra_hasSameSides_0 : decode b_Dra_hasSameSides 0 = .ok (.aload_n 0, 1) := by decide +kernel
theorem d_Dra_hasSameSides_1 : decode b_Dra_hasSameSides 1 = .ok (.getfield 18, 3) := by decide +kernel
theorem d_Dra_hasSameSides_4 : decode b_Dra_hasSameSides 4 = .ok (.iload_n 1, 1) := by decide +kernel
theorem d_Dra_hasSameSides_5 : decode b_Dra_hasSameSides 5 = .ok (.iaload, 1) := by decide +kernel
theorem d_Dra_hasSameSides_6 : decode b_Dra_hasSameSides 6 = .ok (.aload_n 0, 1) := by decide +kernel
theorem d_Dra_hasSameSides_7 : decode b_Dra_hasSameSides 7 = .ok (.getfield 15, 3) := by decide +kernel
theorem d_Dra_hasSameSides_10 : decode b_Dra_hasSameSides 10 = .ok (.iload_n 1, 1) := by decide +kernel
theorem d_Dra_hasSameSides_11 : decode b_Dra_hasSameSides 11 = .ok (.iaload, 1) := by decide +kernel
theorem d_Dra_hasSameSides_12 : decode b_Dra_hasSameSides 12 = .ok (.isub, 1) := by decide +kernel
theorem d_Dra_hasSameSides_13 : decode b_Dra_hasSameSides 13 = .ok (.istore_n 3, 1) := by decide +kernel
theorem d_Dra_hasSameSides_14 : decode b_Dra_hasSameSides 14 = .ok (.aload_n 0, 1) := by decide +kernel
theorem d_Dra_hasSameSides_15 : decode b_Dra_hasSameSides 15 = .ok (.getfield 15, 3) := by decide +kernel
theorem d_Dra_hasSameSides_18 : decode b_Dra_hasSameSides 18 = .ok (.iload_n 1, 1) := by decide +kernel
theorem d_Dra_hasSameSides_19 : decode b_Dra_hasSameSides 19 = .ok (.iconst 1, 1) := by decide +kernel
theorem d_Dra_hasSameSides_20 : decode b_Dra_hasSameSides 20 = .ok (.iadd, 1) := by decide +kernel
theorem d_Dra_hasSameSides_21 : decode b_Dra_hasSameSides 21 = .ok (.iaload, 1) := by decide +kernel
theorem d_Dra_hasSameSides_22 : decode b_Dra_hasSameSides 22 = .ok (.aload_n 0, 1) := by decide +kernel
theorem d_Dra_hasSameSides_23 : decode b_Dra_hasSameSides 23 = .ok (.getfield 18, 3) := by decide +kernel
theorem d_Dra_hasSameSides_26 : decode b_Dra_hasSameSides 26 = .ok (.iload_n 1, 1) := by decide +kernel
theorem d_Dra_hasSameSides_27 : decode b_Dra_hasSameSides 27 = .ok (.iaload, 1) := by decide +kernel
theorem d_Dra_hasSameSides_28 : decode b_Dra_hasSameSides 28 = .ok (.isub, 1) := by decide +kernel
theorem d_Dra_hasSameSides_29 : decode b_Dra_hasSameSides 29 = .ok (.istore 4, 2) := by decide +kernel
theorem d_Dra_hasSameSides_31 : decode b_Dra_hasSameSides 31 = .ok (.aload_n 0, 1) := by decide +kernel
theorem d_Dra_hasSameSides_32 : decode b_Dra_hasSameSides 32 = .ok (.getfield 18, 3) := by decide +kernel
theorem d_Dra_hasSameSides_35 : decode b_Dra_hasSameSides 35 = .ok (.iload_n 2, 1) := by decide +kernel
theorem d_Dra_hasSameSides_36 : decode b_Dra_hasSameSides 36 = .ok (.iaload, 1) := by decide +kernel
theorem d_Dra_hasSameSides_37 : decode b_Dra_hasSameSides 37 = .ok (.aload_n 0, 1) := by decide +kernel
theorem d_Dra_hasSameSides_38 : decode b_Dra_hasSameSides 38 = .ok (.getfield 15, 3) := by decide +kernel
theorem d_Dra_hasSameSides_41 : decode b_Dra_hasSameSides 41 = .ok (.iload_n 2, 1) := by decide +kernel
theorem d_Dra_hasSameSides_42 : decode b_Dra_hasSameSides 42 = .ok (.iaload, 1) := by decide +kernel
theorem d_Dra_hasSameSides_43 : decode b_Dra_hasSameSides 43 = .ok (.isub, 1) := by decide +kernel
theorem d_Dra_hasSameSides_44 : decode b_Dra_hasSameSides 44 = .ok (.istore 5, 2) := by decide +kernel
theorem d_Dra_hasSameSides_46 : decode b_Dra_hasSameSides 46 = .ok (.aload_n 0, 1) := by decide +kernel
theorem d_Dra_hasSameSides_47 : decode b_Dra_hasSameSides 47 = .ok (.getfield 15, 3) := by decide +kernel
theorem d_Dra_hasSameSides_50 : decode b_Dra_hasSameSides 50 = .ok (.iload_n 2, 1) := by decide +kernel
theorem d_Dra_hasSameSides_51 : decode b_Dra_hasSameSides 51 = .ok (.iconst 1, 1) := by decide +kernel
theorem d_Dra_hasSameSides_52 : decode b_Dra_hasSameSides 52 = .ok (.iadd, 1) := by decide +kernel
theorem d_Dra_hasSameSides_53 : decode b_Dra_hasSameSides 53 = .ok (.iaload, 1) := by decide +kernel
theorem d_Dra_hasSameSides_54 : decode b_Dra_hasSameSides 54 = .ok (.aload_n 0, 1) := by decide +kernel
theorem d_Dra_hasSameSides_55 : decode b_Dra_hasSameSides 55 = .ok (.getfield 18, 3) := by decide +kernel
theorem d_Dra_hasSameSides_58 : decode b_Dra_hasSameSides 58 = .ok (.iload_n 2, 1) := by decide +kernel
theorem d_Dra_hasSameSides_59 : decode b_Dra_hasSameSides 59 = .ok (.iaload, 1) := by decide +kernel
theorem d_Dra_hasSameSides_60 : decode b_Dra_hasSameSides 60 = .ok (.isub, 1) := by decide +kernel
theorem d_Dra_hasSameSides_61 : decode b_Dra_hasSameSides 61 = .ok (.istore 6, 2) := by decide +kernel
theorem d_Dra_hasSameSides_63 : decode b_Dra_hasSameSides 63 = .ok (.aload_n 0, 1) := by decide +kernel
theorem d_Dra_hasSameSides_64 : decode b_Dra_hasSameSides 64 = .ok (.aload_n 0, 1) := by decide +kernel
theorem d_Dra_hasSameSides_65 : decode b_Dra_hasSameSides 65 = .ok (.getfield 15, 3) := by decide +kernel
theorem d_Dra_hasSameSides_68 : decode b_Dra_hasSameSides 68 = .ok (.iload_n 1, 1) := by decide +kernel
theorem d_Dra_hasSameSides_69 : decode b_Dra_hasSameSides 69 = .ok (.iaload, 1) := by decide +kernel
theorem d_Dra_hasSameSides_70 : decode b_Dra_hasSameSides 70 = .ok (.iload_n 3, 1) := by decide +kernel
theorem d_Dra_hasSameSides_71 : decode b_Dra_hasSameSides 71 = .ok (.aload_n 0, 1) := by decide +kernel
theorem d_Dra_hasSameSides_72 : decode b_Dra_hasSameSides 72 = .ok (.getfield 15, 3) := by decide +kernel
theorem d_Dra_hasSameSides_75 : decode b_Dra_hasSameSides 75 = .ok (.iload_n 2, 1) := by decide +kernel
theorem d_Dra_hasSameSides_76 : decode b_Dra_hasSameSides 76 = .ok (.iaload, 1) := by decide +kernel
theorem d_Dra_hasSameSides_77 : decode b_Dra_hasSameSides 77 = .ok (.iload 5, 2) := by decide +kernel
theorem d_Dra_hasSameSides_79 : decode b_Dra_hasSameSides 79 = .ok (.invokevirtual 114, 3) := by decide +kernel
theorem d_Dra_hasSameSides_82 : decode b_Dra_hasSameSides 82 = .ok (.ifCond .eq 26, 3) := by decide +kernel
theorem d_Dra_hasSameSides_85 : decode b_Dra_hasSameSides 85 = .ok (.aload_n 0, 1) := by decide +kernel
theorem d_Dra_hasSameSides_86 : decode b_Dra_hasSameSides 86 = .ok (.aload_n 0, 1) := by decide +kernel
theorem d_Dra_hasSameSides_87 : decode b_Dra_hasSameSides 87 = .ok (.getfield 18, 3) := by decide +kernel
theorem d_Dra_hasSameSides_90 : decode b_Dra_hasSameSides 90 = .ok (.iload_n 1, 1) := by decide +kernel
theorem d_Dra_hasSameSides_91 : decode b_Dra_hasSameSides 91 = .ok (.iaload, 1) := by decide +kernel
theorem d_Dra_hasSameSides_92 : decode b_Dra_hasSameSides 92 = .ok (.iload 4, 2) := by decide +kernel
theorem d_Dra_hasSameSides_94 : decode b_Dra_hasSameSides 94 = .ok (.aload_n 0, 1) := by decide +kernel
theorem d_Dra_hasSameSides_95 : decode b_Dra_hasSameSides 95 = .ok (.getfield 18, 3) := by decide +kernel
theorem d_Dra_hasSameSides_98 : decode b_Dra_hasSameSides 98 = .ok (.iload_n 2, 1) := by decide +kernel
theorem d_Dra_hasSameSides_99 : decode b_Dra_hasSameSides 99 = .ok (.iaload, 1) := by decide +kernel
theorem d_Dra_hasSameSides_100 : decode b_Dra_hasSameSides 100 = .ok (.iload 6, 2) := by decide +kernel
theorem d_Dra_hasSameSides_102 : decode b_Dra_hasSameSides 102 = .ok (.invokevirtual 114, 3) := by decide +kernel
theorem d_Dra_hasSameSides_105 : decode b_Dra_hasSameSides 105 = .ok (.ifCond .ne 48, 3) := by decide +kernel
theorem d_Dra_hasSameSides_108 : decode b_Dra_hasSameSides 108 = .ok (.aload_n 0, 1) := by decide +kernel
theorem d_Dra_hasSameSides_109 : decode b_Dra_hasSameSides 109 = .ok (.aload_n 0, 1) := by decide +kernel
theorem d_Dra_hasSameSides_110 : decode b_Dra_hasSameSides 110 = .ok (.getfield 15, 3) := by decide +kernel
theorem d_Dra_hasSameSides_113 : decode b_Dra_hasSameSides 113 = .ok (.iload_n 1, 1) := by decide +kernel
theorem d_Dra_hasSameSides_114 : decode b_Dra_hasSameSides 114 = .ok (.iaload, 1) := by decide +kernel
theorem d_Dra_hasSameSides_115 : decode b_Dra_hasSameSides 115 = .ok (.iload_n 3, 1) := by decide +kernel
theorem d_Dra_hasSameSides_116 : decode b_Dra_hasSameSides 116 = .ok (.aload_n 0, 1) := by decide +kernel
theorem d_Dra_hasSameSides_117 : decode b_Dra_hasSameSides 117 = .ok (.getfield 18, 3) := by decide +kernel
theorem d_Dra_hasSameSides_120 : decode b_Dra_hasSameSides 120 = .ok (.iload_n 2, 1) := by decide +kernel
theorem d_Dra_hasSameSides_121 : decode b_Dra_hasSameSides 121 = .ok (.iaload, 1) := by decide +kernel
theorem d_Dra_hasSameSides_122 : decode b_Dra_hasSameSides 122 = .ok (.iload 6, 2) := by decide +kernel
theorem d_Dra_hasSameSides_124 : decode b_Dra_hasSameSides 124 = .ok (.invokevirtual 114, 3) := by decide +kernel
theorem d_Dra_hasSameSides_127 : decode b_Dra_hasSameSides 127 = .ok (.ifCond .eq 30, 3) := by decide +kernel
theorem d_Dra_hasSameSides_130 : decode b_Dra_hasSameSides 130 = .ok (.aload_n 0, 1) := by decide +kernel
theorem d_Dra_hasSameSides_131 : decode b_Dra_hasSameSides 131 = .ok (.aload_n 0, 1) := by decide +kernel
theorem d_Dra_hasSameSides_132 : decode b_Dra_hasSameSides 132 = .ok (.getfield 18, 3) := by decide +kernel
theorem d_Dra_hasSameSides_135 : decode b_Dra_hasSameSides 135 = .ok (.iload_n 1, 1) := by decide +kernel
theorem d_Dra_hasSameSides_136 : decode b_Dra_hasSameSides 136 = .ok (.iaload, 1) := by decide +kernel
theorem d_Dra_hasSameSides_137 : decode b_Dra_hasSameSides 137 = .ok (.iload 4, 2) := by decide +kernel
theorem d_Dra_hasSameSides_139 : decode b_Dra_hasSameSides 139 = .ok (.aload_n 0, 1) := by decide +kernel
theorem d_Dra_hasSameSides_140 : decode b_Dra_hasSameSides 140 = .ok (.getfield 15, 3) := by decide +kernel
theorem d_Dra_hasSameSides_143 : decode b_Dra_hasSameSides 143 = .ok (.iload_n 2, 1) := by decide +kernel
theorem d_Dra_hasSameSides_144 : decode b_Dra_hasSameSides 144 = .ok (.iaload, 1) := by decide +kernel
theorem d_Dra_hasSameSides_145 : decode b_Dra_hasSameSides 145 = .ok (.iload 5, 2) := by decide +kernel
theorem d_Dra_hasSameSides_147 : decode b_Dra_hasSameSides 147 = .ok (.invokevirtual 114, 3) := by decide +kernel
theorem d_Dra_hasSameSides_150 : decode b_Dra_hasSameSides 150 = .ok (.ifCond .eq 7, 3) := by decide +kernel
theorem d_Dra_hasSameSides_153 : decode b_Dra_hasSameSides 153 = .ok (.iconst 1, 1) := by decide +kernel
theorem d_Dra_hasSameSides_154 : decode b_Dra_hasSameSides 154 = .ok (.goto 4, 3) := by decide +kernel
theorem d_Dra_hasSameSides_157 : decode b_Dra_hasSameSides 157 = .ok (.iconst 0, 1) := by decide +kernel
theorem d_Dra_hasSameSides_158 : decode b_Dra_hasSameSides 158 = .ok (.ireturn, 1) := by decide +kernel
abbrev b_Dra_isSame : ByteArray := prog_2_method_12_code
def y_Dra_isSame : MethodName := ⟨"ClauseProver$Draft", "isSame", "(IIII)Z"⟩
theorem d_Dra_isSame_0 : decode b_Dra_isSame 0 = .ok (.iload_n 2, 1) := by decide +kernel
theorem d_Dra_isSame_1 : decode b_Dra_isSame 1 = .ok (.iload 4, 2) := by decide +kernel
theorem d_Dra_isSame_3 : decode b_Dra_isSame 3 = .ok (.if_icmp .ne 7, 3) := by decide +kernel
theorem d_Dra_isSame_6 : decode b_Dra_isSame 6 = .ok (.iconst 1, 1) := by decide +kernel
theorem d_Dra_isSame_7 : decode b_Dra_isSame 7 = .ok (.goto 4, 3) := by decide +kernel
theorem d_Dra_isSame_10 : decode b_Dra_isSame 10 = .ok (.iconst 0, 1) := by decide +kernel
theorem d_Dra_isSame_11 : decode b_Dra_isSame 11 = .ok (.istore 5, 2) := by decide +kernel
theorem d_Dra_isSame_13 : decode b_Dra_isSame 13 = .ok (.iconst 0, 1) := by decide +kernel
theorem d_Dra_isSame_14 : decode b_Dra_isSame 14 = .ok (.istore 6, 2) := by decide +kernel
theorem d_Dra_isSame_16 : decode b_Dra_isSame 16 = .ok (.iload 6, 2) := by decide +kernel
theorem d_Dra_isSame_18 : decode b_Dra_isSame 18 = .ok (.iload_n 2, 1) := by decide +kernel
theorem d_Dra_isSame_19 : decode b_Dra_isSame 19 = .ok (.if_icmp .ge 42, 3) := by decide +kernel
theorem d_Dra_isSame_22 : decode b_Dra_isSame 22 = .ok (.iload 5, 2) := by decide +kernel
theorem d_Dra_isSame_24 : decode b_Dra_isSame 24 = .ok (.ifCond .eq 37, 3) := by decide +kernel
theorem d_Dra_isSame_27 : decode b_Dra_isSame 27 = .ok (.aload_n 0, 1) := by decide +kernel
theorem d_Dra_isSame_28 : decode b_Dra_isSame 28 = .ok (.getfield 9, 3) := by decide +kernel
theorem d_Dra_isSame_31 : decode b_Dra_isSame 31 = .ok (.iload_n 1, 1) := by decide +kernel
theorem d_Dra_isSame_32 : decode b_Dra_isSame 32 = .ok (.iload 6, 2) := by decide +kernel
theorem d_Dra_isSame_34 : decode b_Dra_isSame 34 = .ok (.iadd, 1) := by decide +kernel
theorem d_Dra_isSame_35 : decode b_Dra_isSame 35 = .ok (.iaload, 1) := by decide +kernel
theorem d_Dra_isSame_36 : decode b_Dra_isSame 36 = .ok (.aload_n 0, 1) := by decide +kernel
theorem d_Dra_isSame_37 : decode b_Dra_isSame 37 = .ok (.getfield 9, 3) := by decide +kernel
theorem d_Dra_isSame_40 : decode b_Dra_isSame 40 = .ok (.iload_n 3, 1) := by decide +kernel
theorem d_Dra_isSame_41 : decode b_Dra_isSame 41 = .ok (.iload 6, 2) := by decide +kernel
theorem d_Dra_isSame_43 : decode b_Dra_isSame 43 = .ok (.iadd, 1) := by decide +kernel
theorem d_Dra_isSame_44 : decode b_Dra_isSame 44 = .ok (.iaload, 1) := by decide +kernel
theorem d_Dra_isSame_45 : decode b_Dra_isSame 45 = .ok (.if_icmp .ne 7, 3) := by decide +kernel
theorem d_Dra_isSame_48 : decode b_Dra_isSame 48 = .ok (.iconst 1, 1) := by decide +kernel
theorem d_Dra_isSame_49 : decode b_Dra_isSame 49 = .ok (.goto 4, 3) := by decide +kernel
theorem d_Dra_isSame_52 : decode b_Dra_isSame 52 = .ok (.iconst 0, 1) := by decide +kernel
theorem d_Dra_isSame_53 : decode b_Dra_isSame 53 = .ok (.istore 5, 2) := by decide +kernel
theorem d_Dra_isSame_55 : decode b_Dra_isSame 55 = .ok (.iinc 6 1, 3) := by decide +kernel
theorem d_Dra_isSame_58 : decode b_Dra_isSame 58 = .ok (.goto (-42), 3) := by decide +kernel
theorem d_Dra_isSame_61 : decode b_Dra_isSame 61 = .ok (.iload 5, 2) := by decide +kernel
theorem d_Dra_isSame_63 : decode b_Dra_isSame 63 = .ok (.ireturn, 1) := by decide +kernel
abbrev b_Dra_isTautology : ByteArray := prog_2_method_14_code
def y_Dra_isTautology : MethodName := ⟨"ClauseProver$Draft", "isTautology", "()Z"⟩
theorem d_Dra_isTautology_0 : decode b_Dra_isTautology 0 = .ok (.iconst 0, 1) := by decide +kernel
theorem d_Dra_isTautology_1 : decode b_Dra_isTautology 1 = .ok (.istore_n 1, 1) := by decide +kernel
theorem d_Dra_isTautology_2 : decode b_Dra_isTautology 2 = .ok (.iload_n 1, 1) := by decide +kernel
theorem d_Dra_isTautology_3 : decode b_Dra_isTautology 3 = .ok (.aload_n 0, 1) := by decide +kernel
theorem d_Dra_isTautology_4 : decode b_Dra_isTautology 4 = .ok (.getfield 51, 3) := by decide +kernel
theorem d_Dra_isTautology_7 : decode b_Dra_isTautology 7 = .ok (.if_icmp .ge 108, 3) := by decide +kernel
theorem d_Dra_isTautology_10 : decode b_Dra_isTautology 10 = .ok (.aload_n 0, 1) := by decide +kernel
theorem d_Dra_isTautology_11 : decode b_Dra_isTautology 11 = .ok (.getfield 18, 3) := by decide +kernel
theorem d_Dra_isTautology_14 : decode b_Dra_isTautology 14 = .ok (.iload_n 1, 1) := by decide +kernel
theorem d_Dra_isTautology_15 : decode b_Dra_isTautology 15 = .ok (.iaload, 1) := by decide +kernel
theorem d_Dra_isTautology_16 : decode b_Dra_isTautology 16 = .ok (.aload_n 0, 1) := by decide +kernel
theorem d_Dra_isTautology_17 : decode b_Dra_isTautology 17 = .ok (.getfield 15, 3) := by decide +kernel
theorem d_Dra_isTautology_20 : decode b_Dra_isTautology 20 = .ok (.iload_n 1, 1) := by decide +kernel
theorem d_Dra_isTautology_21 : decode b_Dra_isTautology 21 = .ok (.iaload, 1) := by decide +kernel
theorem d_Dra_isTautology_22 : decode b_Dra_isTautology 22 = .ok (.isub, 1) := by decide +kernel
theorem d_Dra_isTautology_23 : decode b_Dra_isTautology 23 = .ok (.istore_n 2, 1) := by decide +kernel
theorem d_Dra_isTautology_24 : decode b_Dra_isTautology 24 = .ok (.aload_n 0, 1) := by decide +kernel
theorem d_Dra_isTautology_25 : decode b_Dra_isTautology 25 = .ok (.getfield 21, 3) := by decide +kernel
theorem d_Dra_isTautology_28 : decode b_Dra_isTautology 28 = .ok (.iload_n 1, 1) := by decide +kernel
theorem d_Dra_isTautology_29 : decode b_Dra_isTautology 29 = .ok (.baload, 1) := by decide +kernel
theorem d_Dra_isTautology_30 : decode b_Dra_isTautology 30 = .ok (.ifCond .eq 40, 3) := by decide +kernel
theorem d_Dra_isTautology_33 : decode b_Dra_isTautology 33 = .ok (.aload_n 0, 1) := by decide +kernel
theorem d_Dra_isTautology_34 : decode b_Dra_isTautology 34 = .ok (.aload_n 0, 1) := by decide +kernel
theorem d_Dra_isTautology_35 : decode b_Dra_isTautology 35 = .ok (.getfield 15, 3) := by decide +kernel
theorem d_Dra_isTautology_38 : decode b_Dra_isTautology 38 = .ok (.iload_n 1, 1) := by decide +kernel
theorem d_Dra_isTautology_39 : decode b_Dra_isTautology 39 = .ok (.iaload, 1) := by decide +kernel
theorem d_Dra_isTautology_40 : decode b_Dra_isTautology 40 = .ok (.iload_n 2, 1) := by decide +kernel
theorem d_Dra_isTautology_41 : decode b_Dra_isTautology 41 = .ok (.aload_n 0, 1) := by decide +kernel
theorem d_Dra_isTautology_42 : decode b_Dra_isTautology 42 = .ok (.getfield 18, 3) := by decide +kernel
theorem d_Dra_isTautology_45 : decode b_Dra_isTautology 45 = .ok (.iload_n 1, 1) := by decide +kernel
theorem d_Dra_isTautology_46 : decode b_Dra_isTautology 46 = .ok (.iaload, 1) := by decide +kernel
theorem d_Dra_isTautology_47 : decode b_Dra_isTautology 47 = .ok (.aload_n 0, 1) := by decide +kernel
theorem d_Dra_isTautology_48 : decode b_Dra_isTautology 48 = .ok (.getfield 15, 3) := by decide +kernel
theorem d_Dra_isTautology_51 : decode b_Dra_isTautology 51 = .ok (.iload_n 1, 1) := by decide +kernel
theorem d_Dra_isTautology_52 : decode b_Dra_isTautology 52 = .ok (.iconst 1, 1) := by decide +kernel
theorem d_Dra_isTautology_53 : decode b_Dra_isTautology 53 = .ok (.iadd, 1) := by decide +kernel
theorem d_Dra_isTautology_54 : decode b_Dra_isTautology 54 = .ok (.iaload, 1) := by decide +kernel
theorem d_Dra_isTautology_55 : decode b_Dra_isTautology 55 = .ok (.aload_n 0, 1) := by decide +kernel
theorem d_Dra_isTautology_56 : decode b_Dra_isTautology 56 = .ok (.getfield 18, 3) := by decide +kernel
theorem d_Dra_isTautology_59 : decode b_Dra_isTautology 59 = .ok (.iload_n 1, 1) := by decide +kernel
theorem d_Dra_isTautology_60 : decode b_Dra_isTautology 60 = .ok (.iaload, 1) := by decide +kernel
theorem d_Dra_isTautology_61 : decode b_Dra_isTautology 61 = .ok (.isub, 1) := by decide +kernel
theorem d_Dra_isTautology_62 : decode b_Dra_isTautology 62 = .ok (.invokevirtual 114, 3) := by decide +kernel
theorem d_Dra_isTautology_65 : decode b_Dra_isTautology 65 = .ok (.ifCond .eq 5, 3) := by decide +kernel
theorem d_Dra_isTautology_68 : decode b_Dra_isTautology 68 = .ok (.iconst 1, 1) := by decide +kernel
theorem d_Dra_isTautology_69 : decode b_Dra_isTautology 69 = .ok (.ireturn, 1) := by decide +kernel
theorem d_Dra_isTautology_70 : decode b_Dra_isTautology 70 = .ok (.iconst 0, 1) := by decide +kernel
theorem d_Dra_isTautology_71 : decode b_Dra_isTautology 71 = .ok (.istore_n 3, 1) := by decide +kernel
theorem d_Dra_isTautology_72 : decode b_Dra_isTautology 72 = .ok (.iload_n 3, 1) := by decide +kernel
theorem d_Dra_isTautology_73 : decode b_Dra_isTautology 73 = .ok (.iload_n 1, 1) := by decide +kernel
theorem d_Dra_isTautology_74 : decode b_Dra_isTautology 74 = .ok (.if_icmp .ge 35, 3) := by decide +kernel
theorem d_Dra_isTautology_77 : decode b_Dra_isTautology 77 = .ok (.aload_n 0, 1) := by decide +kernel
theorem d_Dra_isTautology_78 : decode b_Dra_isTautology 78 = .ok (.getfield 21, 3) := by decide +kernel
theorem d_Dra_isTautology_81 : decode b_Dra_isTautology 81 = .ok (.iload_n 1, 1) := by decide +kernel
theorem d_Dra_isTautology_82 : decode b_Dra_isTautology 82 = .ok (.baload, 1) := by decide +kernel
theorem d_Dra_isTautology_83 : decode b_Dra_isTautology 83 = .ok (.aload_n 0, 1) := by decide +kernel
theorem d_Dra_isTautology_84 : decode b_Dra_isTautology 84 = .ok (.getfield 21, 3) := by decide +kernel
theorem d_Dra_isTautology_87 : decode b_Dra_isTautology 87 = .ok (.iload_n 3, 1) := by decide +kernel
theorem d_Dra_isTautology_88 : decode b_Dra_isTautology 88 = .ok (.baload, 1) := by decide +kernel
theorem d_Dra_isTautology_89 : decode b_Dra_isTautology 89 = .ok (.if_icmp .eq 14, 3) := by decide +kernel
theorem d_Dra_isTautology_92 : decode b_Dra_isTautology 92 = .ok (.aload_n 0, 1) := by decide +kernel
theorem d_Dra_isTautology_93 : decode b_Dra_isTautology 93 = .ok (.iload_n 1, 1) := by decide +kernel
theorem d_Dra_isTautology_94 : decode b_Dra_isTautology 94 = .ok (.iload_n 3, 1) := by decide +kernel
theorem d_Dra_isTautology_95 : decode b_Dra_isTautology 95 = .ok (.invokevirtual 118, 3) := by decide +kernel
theorem d_Dra_isTautology_98 : decode b_Dra_isTautology 98 = .ok (.ifCond .eq 5, 3) := by decide +kernel
theorem d_Dra_isTautology_101 : decode b_Dra_isTautology 101 = .ok (.iconst 1, 1) := by decide +kernel
theorem d_Dra_isTautology_102 : decode b_Dra_isTautology 102 = .ok (.ireturn, 1) := by decide +kernel
theorem d_Dra_isTautology_103 : decode b_Dra_isTautology 103 = .ok (.iinc 3 1, 3) := by decide +kernel
theorem d_Dra_isTautology_106 : decode b_Dra_isTautology 106 = .ok (.goto (-34), 3) := by decide +kernel
theorem d_Dra_isTautology_109 : decode b_Dra_isTautology 109 = .ok (.iinc 1 1, 3) := by decide +kernel
theorem d_Dra_isTautology_112 : decode b_Dra_isTautology 112 = .ok (.goto (-110), 3) := by decide +kernel
theorem d_Dra_isTautology_115 : decode b_Dra_isTautology 115 = .ok (.iconst 0, 1) := by decide +kernel
theorem d_Dra_isTautology_116 : decode b_Dra_isTautology 116 = .ok (.ireturn, 1) := by decide +kernel
abbrev b_Dra_load : ByteArray := prog_2_method_8_code
def y_Dra_load : MethodName := ⟨"ClauseProver$Draft", "load", "(LClauseProver$Store;I)V"⟩
theorem d_Dra_load_0 : decode b_Dra_load 0 = .ok (.aload_n 0, 1) := by decide +kernel
theorem d_Dra_load_1 : decode b_Dra_load 1 = .ok (.invokevirtual 64, 3) := by decide +kernel
theorem d_Dra_load_4 : decode b_Dra_load 4 = .ok (.aload_n 1, 1) := by decide +kernel
theorem d_Dra_load_5 : decode b_Dra_load 5 = .ok (.getfield 67, 3) := by decide +kernel
theorem d_Dra_load_8 : decode b_Dra_load 8 = .ok (.getfield 73, 3) := by decide +kernel
theorem d_Dra_load_11 : decode b_Dra_load 11 = .ok (.astore_n 3, 1) := by decide +kernel
theorem d_Dra_load_12 : decode b_Dra_load 12 = .ok (.aload_n 1, 1) := by decide +kernel
theorem d_Dra_load_13 : decode b_Dra_load 13 = .ok (.iload_n 2, 1) := by decide +kernel
theorem d_Dra_load_14 : decode b_Dra_load 14 = .ok (.bipush 8, 2) := by decide +kernel
theorem d_Dra_load_16 : decode b_Dra_load 16 = .ok (.invokevirtual 78, 3) := by decide +kernel
theorem d_Dra_load_19 : decode b_Dra_load 19 = .ok (.istore 4, 2) := by decide +kernel
theorem d_Dra_load_21 : decode b_Dra_load 21 = .ok (.iconst 0, 1) := by decide +kernel
theorem d_Dra_load_22 : decode b_Dra_load 22 = .ok (.istore 5, 2) := by decide +kernel
theorem d_Dra_load_24 : decode b_Dra_load 24 = .ok (.iload 5, 2) := by decide +kernel
theorem d_Dra_load_26 : decode b_Dra_load 26 = .ok (.aload_n 1, 1) := by decide +kernel
theorem d_Dra_load_27 : decode b_Dra_load 27 = .ok (.iload_n 2, 1) := by decide +kernel
theorem d_Dra_load_28 : decode b_Dra_load 28 = .ok (.iconst 3, 1) := by decide +kernel
theorem d_Dra_load_29 : decode b_Dra_load 29 = .ok (.invokevirtual 78, 3) := by decide +kernel
theorem d_Dra_load_32 : decode b_Dra_load 32 = .ok (.if_icmp .ge 90, 3) := by decide +kernel
theorem d_Dra_load_35 : decode b_Dra_load 35 = .ok (.aload_n 0, 1) := by decide +kernel
theorem d_Dra_load_36 : decode b_Dra_load 36 = .ok (.aload_n 3, 1) := by decide +kernel
theorem d_Dra_load_37 : decode b_Dra_load 37 = .ok (.iload 4, 2) := by decide +kernel
theorem d_Dra_load_39 : decode b_Dra_load 39 = .ok (.iconst 0, 1) := by decide +kernel
theorem d_Dra_load_40 : decode b_Dra_load 40 = .ok (.iadd, 1) := by decide +kernel
theorem d_Dra_load_41 : decode b_Dra_load 41 = .ok (.iaload, 1) := by decide +kernel
theorem d_Dra_load_42 : decode b_Dra_load 42 = .ok (.iconst 1, 1) := by decide +kernel
theorem d_Dra_load_43 : decode b_Dra_load 43 = .ok (.if_icmp .ne 7, 3) := by decide +kernel
theorem d_Dra_load_46 : decode b_Dra_load 46 = .ok (.iconst 1, 1) := by decide +kernel
theorem d_Dra_load_47 : decode b_Dra_load 47 = .ok (.goto 4, 3) := by decide +kernel
theorem d_Dra_load_50 : decode b_Dra_load 50 = .ok (.iconst 0, 1) := by decide +kernel
theorem d_Dra_load_51 : decode b_Dra_load 51 = .ok (.invokevirtual 81, 3) := by decide +kernel
theorem d_Dra_load_54 : decode b_Dra_load 54 = .ok (.aload_n 1, 1) := by decide +kernel
theorem d_Dra_load_55 : decode b_Dra_load 55 = .ok (.iload 4, 2) := by decide +kernel
theorem d_Dra_load_57 : decode b_Dra_load 57 = .ok (.iconst 0, 1) := by decide +kernel
theorem d_Dra_load_58 : decode b_Dra_load 58 = .ok (.invokevirtual 85, 3) := by decide +kernel
theorem d_Dra_load_61 : decode b_Dra_load 61 = .ok (.istore 6, 2) := by decide +kernel
theorem d_Dra_load_63 : decode b_Dra_load 63 = .ok (.iload 6, 2) := by decide +kernel
theorem d_Dra_load_65 : decode b_Dra_load 65 = .ok (.aload_n 1, 1) := by decide +kernel
theorem d_Dra_load_66 : decode b_Dra_load 66 = .ok (.iload 4, 2) := by decide +kernel
theorem d_Dra_load_68 : decode b_Dra_load 68 = .ok (.invokevirtual 88, 3) := by decide +kernel
theorem d_Dra_load_71 : decode b_Dra_load 71 = .ok (.if_icmp .ge 33, 3) := by decide +kernel
theorem d_Dra_load_74 : decode b_Dra_load 74 = .ok (.iload 6, 2) := by decide +kernel
theorem d_Dra_load_76 : decode b_Dra_load 76 = .ok (.aload_n 1, 1) := by decide +kernel
theorem d_Dra_load_77 : decode b_Dra_load 77 = .ok (.iload 4, 2) := by decide +kernel
theorem d_Dra_load_79 : decode b_Dra_load 79 = .ok (.iconst 1, 1) := by decide +kernel
theorem d_Dra_load_80 : decode b_Dra_load 80 = .ok (.invokevirtual 85, 3) := by decide +kernel
theorem d_Dra_load_83 : decode b_Dra_load 83 = .ok (.if_icmp .ne 7, 3) := by decide +kernel
theorem d_Dra_load_86 : decode b_Dra_load 86 = .ok (.aload_n 0, 1) := by decide +kernel
theorem d_Dra_load_87 : decode b_Dra_load 87 = .ok (.invokevirtual 92, 3) := by decide +kernel
theorem d_Dra_load_90 : decode b_Dra_load 90 = .ok (.aload_n 0, 1) := by decide +kernel
theorem d_Dra_load_91 : decode b_Dra_load 91 = .ok (.aload_n 3, 1) := by decide +kernel
theorem d_Dra_load_92 : decode b_Dra_load 92 = .ok (.iload 6, 2) := by decide +kernel
theorem d_Dra_load_94 : decode b_Dra_load 94 = .ok (.iaload, 1) := by decide +kernel
theorem d_Dra_load_95 : decode b_Dra_load 95 = .ok (.invokevirtual 95, 3) := by decide +kernel
theorem d_Dra_load_98 : decode b_Dra_load 98 = .ok (.iinc 6 1, 3) := by decide +kernel
theorem d_Dra_load_101 : decode b_Dra_load 101 = .ok (.goto (-38), 3) := by decide +kernel
theorem d_Dra_load_104 : decode b_Dra_load 104 = .ok (.aload_n 0, 1) := by decide +kernel
theorem d_Dra_load_105 : decode b_Dra_load 105 = .ok (.invokevirtual 99, 3) := by decide +kernel
theorem d_Dra_load_108 : decode b_Dra_load 108 = .ok (.aload_n 1, 1) := by decide +kernel
theorem d_Dra_load_109 : decode b_Dra_load 109 = .ok (.iload 4, 2) := by decide +kernel
theorem d_Dra_load_111 : decode b_Dra_load 111 = .ok (.invokevirtual 88, 3) := by decide +kernel
theorem d_Dra_load_114 : decode b_Dra_load 114 = .ok (.istore 4, 2) := by decide +kernel
theorem d_Dra_load_116 : decode b_Dra_load 116 = .ok (.iinc 5 1, 3) := by decide +kernel
theorem d_Dra_load_119 : decode b_Dra_load 119 = .ok (.goto (-95), 3) := by decide +kernel
theorem d_Dra_load_122 : decode b_Dra_load 122 = .ok (.return_, 1) := by decide +kernel
abbrev b_Dra_openLiteral : ByteArray := prog_2_method_3_code
def y_Dra_openLiteral : MethodName := ⟨"ClauseProver$Draft", "openLiteral", "(Z)V"⟩
theorem d_Dra_openLiteral_0 : decode b_Dra_openLiteral 0 = .ok (.aload_n 0, 1) := by decide +kernel
theorem d_Dra_openLiteral_1 : decode b_Dra_openLiteral 1 = .ok (.getfield 51, 3) := by decide +kernel
theorem d_Dra_openLiteral_4 : decode b_Dra_openLiteral 4 = .ok (.bipush 8, 2) := by decide +kernel
theorem d_Dra_openLiteral_6 : decode b_Dra_openLiteral 6 = .ok (.if_icmp .ne 9, 3) := by decide +kernel
theorem d_Dra_openLiteral_9 : decode b_Dra_openLiteral 9 = .ok (.aload_n 0, 1) := by decide +kernel
theorem d_Dra_openLiteral_10 : decode b_Dra_openLiteral 10 = .ok (.iconst 1, 1) := by decide +kernel
theorem d_Dra_openLiteral_11 : decode b_Dra_openLiteral 11 = .ok (.putfield 54, 3) := by decide +kernel
theorem d_Dra_openLiteral_14 : decode b_Dra_openLiteral 14 = .ok (.return_, 1) := by decide +kernel
theorem d_Dra_openLiteral_15 : decode b_Dra_openLiteral 15 = .ok (.aload_n 0, 1) := by decide +kernel
theorem d_Dra_openLiteral_16 : decode b_Dra_openLiteral 16 = .ok (.getfield 21, 3) := by decide +kernel
theorem d_Dra_openLiteral_19 : decode b_Dra_openLiteral 19 = .ok (.aload_n 0, 1) := by decide +kernel
theorem d_Dra_openLiteral_20 : decode b_Dra_openLiteral 20 = .ok (.getfield 51, 3) := by decide +kernel
theorem d_Dra_openLiteral_23 : decode b_Dra_openLiteral 23 = .ok (.iload_n 1, 1) := by decide +kernel
theorem d_Dra_openLiteral_24 : decode b_Dra_openLiteral 24 = .ok (.bastore, 1) := by decide +kernel
theorem d_Dra_openLiteral_25 : decode b_Dra_openLiteral 25 = .ok (.aload_n 0, 1) := by decide +kernel
theorem d_Dra_openLiteral_26 : decode b_Dra_openLiteral 26 = .ok (.getfield 15, 3) := by decide +kernel
theorem d_Dra_openLiteral_29 : decode b_Dra_openLiteral 29 = .ok (.aload_n 0, 1) := by decide +kernel
theorem d_Dra_openLiteral_30 : decode b_Dra_openLiteral 30 = .ok (.getfield 51, 3) := by decide +kernel
theorem d_Dra_openLiteral_33 : decode b_Dra_openLiteral 33 = .ok (.aload_n 0, 1) := by decide +kernel
theorem d_Dra_openLiteral_34 : decode b_Dra_openLiteral 34 = .ok (.getfield 48, 3) := by decide +kernel
theorem d_Dra_openLiteral_37 : decode b_Dra_openLiteral 37 = .ok (.iastore, 1) := by decide +kernel
theorem d_Dra_openLiteral_38 : decode b_Dra_openLiteral 38 = .ok (.return_, 1) := by decide +kernel
abbrev b_Dra_openRight : ByteArray := prog_2_method_4_code
def y_Dra_openRight : MethodName := ⟨"ClauseProver$Draft", "openRight", "()V"⟩
theorem d_Dra_openRight_0 : decode b_Dra_openRight 0 = .ok (.aload_n 0, 1) := by decide +kernel
theorem d_Dra_openRight_1 : decode b_Dra_openRight 1 = .ok (.getfield 54, 3) := by decide +kernel
theorem d_Dra_openRight_4 : decode b_Dra_openRight 4 = .ok (.ifCond .ne 16, 3) := by decide +kernel
theorem d_Dra_openRight_7 : decode b_Dra_openRight 7 = .ok (.aload_n 0, 1) := by decide +kernel
theorem d_Dra_openRight_8 : decode b_Dra_openRight 8 = .ok (.getfield 18, 3) := by decide +kernel
theorem d_Dra_openRight_11 : decode b_Dra_openRight 11 = .ok (.aload_n 0, 1) := by decide +kernel
theorem d_Dra_openRight_12 : decode b_Dra_openRight 12 = .ok (.getfield 51, 3) := by decide +kernel
theorem d_Dra_openRight_15 : decode b_Dra_openRight 15 = .ok (.aload_n 0, 1) := by decide +kernel
theorem d_Dra_openRight_16 : decode b_Dra_openRight 16 = .ok (.getfield 48, 3) := by decide +kernel
theorem d_Dra_openRight_19 : decode b_Dra_openRight 19 = .ok (.iastore, 1) := by decide +kernel
theorem d_Dra_openRight_20 : decode b_Dra_openRight 20 = .ok (.return_, 1) := by decide +kernel
abbrev b_Dra_put : ByteArray := prog_2_method_6_code
def y_Dra_put : MethodName := ⟨"ClauseProver$Draft", "put", "(I)V"⟩
theorem d_Dra_put_0 : decode b_Dra_put 0 = .ok (.aload_n 0, 1) := by decide +kernel
theorem d_Dra_put_1 : decode b_Dra_put 1 = .ok (.getfield 48, 3) := by decide +kernel
theorem d_Dra_put_4 : decode b_Dra_put 4 = .ok (.bipush 100, 2) := by decide +kernel
theorem d_Dra_put_6 : decode b_Dra_put 6 = .ok (.if_icmp .ne 8, 3) := by decide +kernel
theorem d_Dra_put_9 : decode b_Dra_put 9 = .ok (.aload_n 0, 1) := by decide +kernel
theorem d_Dra_put_10 : decode b_Dra_put 10 = .ok (.iconst 1, 1) := by decide +kernel
theorem d_Dra_put_11 : decode b_Dra_put 11 = .ok (.putfield 54, 3) := by decide +kernel
theorem d_Dra_put_14 : decode b_Dra_put 14 = .ok (.aload_n 0, 1) := by decide +kernel
theorem d_Dra_put_15 : decode b_Dra_put 15 = .ok (.getfield 54, 3) := by decide +kernel
theorem d_Dra_put_18 : decode b_Dra_put 18 = .ok (.ifCond .ne 20, 3) := by decide +kernel
theorem d_Dra_put_21 : decode b_Dra_put 21 = .ok (.aload_n 0, 1) := by decide +kernel
theorem d_Dra_put_22 : decode b_Dra_put 22 = .ok (.getfield 9, 3) := by decide +kernel
theorem d_Dra_put_25 : decode b_Dra_put 25 = .ok (.aload_n 0, 1) := by decide +kernel
theorem d_Dra_put_26 : decode b_Dra_put 26 = .ok (.dup, 1) := by decide +kernel
theorem d_Dra_put_27 : decode b_Dra_put 27 = .ok (.getfield 48, 3) := by decide +kernel
theorem d_Dra_put_30 : decode b_Dra_put 30 = .ok (.dup_x1, 1) := by decide +kernel
theorem d_Dra_put_31 : decode b_Dra_put 31 = .ok (.iconst 1, 1) := by decide +kernel
theorem d_Dra_put_32 : decode b_Dra_put 32 = .ok (.iadd, 1) := by decide +kernel
theorem d_Dra_put_33 : decode b_Dra_put 33 = .ok (.putfield 48, 3) := by decide +kernel
theorem d_Dra_put_36 : decode b_Dra_put 36 = .ok (.iload_n 1, 1) := by decide +kernel
theorem d_Dra_put_37 : decode b_Dra_put 37 = .ok (.iastore, 1) := by decide +kernel
theorem d_Dra_put_38 : decode b_Dra_put 38 = .ok (.return_, 1) := by decide +kernel
abbrev b_Dra_reduce : ByteArray := prog_2_method_10_code
def y_Dra_reduce : MethodName := ⟨"ClauseProver$Draft", "reduce", "()V"⟩
theorem d_Dra_reduce_0 : decode b_Dra_reduce 0 = .ok (.iconst 0, 1) := by decide +kernel
theorem d_Dra_reduce_1 : decode b_Dra_reduce 1 = .ok (.istore_n 1, 1) := by decide +kernel
theorem d_Dra_reduce_2 : decode b_Dra_reduce 2 = .ok (.iconst 0, 1) := by decide +kernel
theorem d_Dra_reduce_3 : decode b_Dra_reduce 3 = .ok (.istore_n 2, 1) := by decide +kernel
theorem d_Dra_reduce_4 : decode b_Dra_reduce 4 = .ok (.iconst 0, 1) := by decide +kernel
theorem d_Dra_reduce_5 : decode b_Dra_reduce 5 = .ok (.istore_n 3, 1) := by decide +kernel
theorem d_Dra_reduce_6 : decode b_Dra_reduce 6 = .ok (.iload_n 3, 1) := by decide +kernel
theorem d_Dra_reduce_7 : decode b_Dra_reduce 7 = .ok (.aload_n 0, 1) := by decide +kernel
theorem d_Dra_reduce_8 : decode b_Dra_reduce 8 = .ok (.getfield 51, 3) := by decide +kernel
theorem d_Dra_reduce_11 : decode b_Dra_reduce 11 = .ok (.if_icmp .ge 197, 3) := by decide +kernel
theorem d_Dra_reduce_14 : decode b_Dra_reduce 14 = .ok (.aload_n 0, 1) := by decide +kernel
theorem d_Dra_reduce_15 : decode b_Dra_reduce 15 = .ok (.getfield 15, 3) := by decide +kernel
theorem d_Dra_reduce_18 : decode b_Dra_reduce 18 = .ok (.iload_n 3, 1) := by decide +kernel
theorem d_Dra_reduce_19 : decode b_Dra_reduce 19 = .ok (.iaload, 1) := by decide +kernel
theorem d_Dra_reduce_20 : decode b_Dra_reduce 20 = .ok (.istore 4, 2) := by decide +kernel
theorem d_Dra_reduce_22 : decode b_Dra_reduce 22 = .ok (.aload_n 0, 1) := by decide +kernel
theorem d_Dra_reduce_23 : decode b_Dra_reduce 23 = .ok (.getfield 15, 3) := by decide +kernel
theorem d_Dra_reduce_26 : decode b_Dra_reduce 26 = .ok (.iload_n 3, 1) := by decide +kernel
theorem d_Dra_reduce_27 : decode b_Dra_reduce 27 = .ok (.iconst 1, 1) := by decide +kernel
theorem d_Dra_reduce_28 : decode b_Dra_reduce 28 = .ok (.iadd, 1) := by decide +kernel
theorem d_Dra_reduce_29 : decode b_Dra_reduce 29 = .ok (.iaload, 1) := by decide +kernel
theorem d_Dra_reduce_30 : decode b_Dra_reduce 30 = .ok (.iload 4, 2) := by decide +kernel
theorem d_Dra_reduce_32 : decode b_Dra_reduce 32 = .ok (.isub, 1) := by decide +kernel
theorem d_Dra_reduce_33 : decode b_Dra_reduce 33 = .ok (.istore 5, 2) := by decide +kernel
theorem d_Dra_reduce_35 : decode b_Dra_reduce 35 = .ok (.aload_n 0, 1) := by decide +kernel
theorem d_Dra_reduce_36 : decode b_Dra_reduce 36 = .ok (.getfield 18, 3) := by decide +kernel
theorem d_Dra_reduce_39 : decode b_Dra_reduce 39 = .ok (.iload_n 3, 1) := by decide +kernel
theorem d_Dra_reduce_40 : decode b_Dra_reduce 40 = .ok (.iaload, 1) := by decide +kernel
theorem d_Dra_reduce_41 : decode b_Dra_reduce 41 = .ok (.iload 4, 2) := by decide +kernel
theorem d_Dra_reduce_43 : decode b_Dra_reduce 43 = .ok (.isub, 1) := by decide +kernel
theorem d_Dra_reduce_44 : decode b_Dra_reduce 44 = .ok (.istore 6, 2) := by decide +kernel
theorem d_Dra_reduce_46 : decode b_Dra_reduce 46 = .ok (.aload_n 0, 1) := by decide +kernel
theorem d_Dra_reduce_47 : decode b_Dra_reduce 47 = .ok (.getfield 21, 3) := by decide +kernel
theorem d_Dra_reduce_50 : decode b_Dra_reduce 50 = .ok (.iload_n 3, 1) := by decide +kernel
theorem d_Dra_reduce_51 : decode b_Dra_reduce 51 = .ok (.baload, 1) := by decide +kernel
theorem d_Dra_reduce_52 : decode b_Dra_reduce 52 = .ok (.ifCond .ne 29, 3) := by decide +kernel
theorem d_Dra_reduce_55 : decode b_Dra_reduce 55 = .ok (.aload_n 0, 1) := by decide +kernel
theorem d_Dra_reduce_56 : decode b_Dra_reduce 56 = .ok (.iload 4, 2) := by decide +kernel
theorem d_Dra_reduce_58 : decode b_Dra_reduce 58 = .ok (.iload 6, 2) := by decide +kernel
theorem d_Dra_reduce_60 : decode b_Dra_reduce 60 = .ok (.aload_n 0, 1) := by decide +kernel
theorem d_Dra_reduce_61 : decode b_Dra_reduce 61 = .ok (.getfield 18, 3) := by decide +kernel
theorem d_Dra_reduce_64 : decode b_Dra_reduce 64 = .ok (.iload_n 3, 1) := by decide +kernel
theorem d_Dra_reduce_65 : decode b_Dra_reduce 65 = .ok (.iaload, 1) := by decide +kernel
theorem d_Dra_reduce_66 : decode b_Dra_reduce 66 = .ok (.iload 5, 2) := by decide +kernel
theorem d_Dra_reduce_68 : decode b_Dra_reduce 68 = .ok (.iload 6, 2) := by decide +kernel
theorem d_Dra_reduce_70 : decode b_Dra_reduce 70 = .ok (.isub, 1) := by decide +kernel
theorem d_Dra_reduce_71 : decode b_Dra_reduce 71 = .ok (.invokevirtual 114, 3) := by decide +kernel
theorem d_Dra_reduce_74 : decode b_Dra_reduce 74 = .ok (.ifCond .eq 7, 3) := by decide +kernel
theorem d_Dra_reduce_77 : decode b_Dra_reduce 77 = .ok (.iconst 1, 1) := by decide +kernel
theorem d_Dra_reduce_78 : decode b_Dra_reduce 78 = .ok (.goto 4, 3) := by decide +kernel
theorem d_Dra_reduce_81 : decode b_Dra_reduce 81 = .ok (.iconst 0, 1) := by decide +kernel
theorem d_Dra_reduce_82 : decode b_Dra_reduce 82 = .ok (.istore 7, 2) := by decide +kernel
theorem d_Dra_reduce_84 : decode b_Dra_reduce 84 = .ok (.iconst 0, 1) := by decide +kernel
theorem d_Dra_reduce_85 : decode b_Dra_reduce 85 = .ok (.istore 8, 2) := by decide +kernel
theorem d_Dra_reduce_87 : decode b_Dra_reduce 87 = .ok (.iload 8, 2) := by decide +kernel
theorem d_Dra_reduce_89 : decode b_Dra_reduce 89 = .ok (.iload_n 1, 1) := by decide +kernel
theorem d_Dra_reduce_90 : decode b_Dra_reduce 90 = .ok (.if_icmp .ge 47, 3) := by decide +kernel
theorem d_Dra_reduce_93 : decode b_Dra_reduce 93 = .ok (.iload 7, 2) := by decide +kernel
theorem d_Dra_reduce_95 : decode b_Dra_reduce 95 = .ok (.ifCond .ne 42, 3) := by decide +kernel
theorem d_Dra_reduce_98 : decode b_Dra_reduce 98 = .ok (.aload_n 0, 1) := by decide +kernel
theorem d_Dra_reduce_99 : decode b_Dra_reduce 99 = .ok (.getfield 21, 3) := by decide +kernel
theorem d_Dra_reduce_102 : decode b_Dra_reduce 102 = .ok (.iload 8, 2) := by decide +kernel
theorem d_Dra_reduce_104 : decode b_Dra_reduce 104 = .ok (.baload, 1) := by decide +kernel
theorem d_Dra_reduce_105 : decode b_Dra_reduce 105 = .ok (.aload_n 0, 1) := by decide +kernel
theorem d_Dra_reduce_106 : decode b_Dra_reduce 106 = .ok (.getfield 21, 3) := by decide +kernel
theorem d_Dra_reduce_109 : decode b_Dra_reduce 109 = .ok (.iload_n 3, 1) := by decide +kernel
theorem d_Dra_reduce_110 : decode b_Dra_reduce 110 = .ok (.baload, 1) := by decide +kernel
theorem d_Dra_reduce_111 : decode b_Dra_reduce 111 = .ok (.if_icmp .ne 17, 3) := by decide +kernel
theorem d_Dra_reduce_114 : decode b_Dra_reduce 114 = .ok (.aload_n 0, 1) := by decide +kernel
theorem d_Dra_reduce_115 : decode b_Dra_reduce 115 = .ok (.iload_n 3, 1) := by decide +kernel
theorem d_Dra_reduce_116 : decode b_Dra_reduce 116 = .ok (.iload 8, 2) := by decide +kernel
theorem d_Dra_reduce_118 : decode b_Dra_reduce 118 = .ok (.invokevirtual 118, 3) := by decide +kernel
theorem d_Dra_reduce_121 : decode b_Dra_reduce 121 = .ok (.ifCond .eq 7, 3) := by decide +kernel
theorem d_Dra_reduce_124 : decode b_Dra_reduce 124 = .ok (.iconst 1, 1) := by decide +kernel
theorem d_Dra_reduce_125 : decode b_Dra_reduce 125 = .ok (.goto 4, 3) := by decide +kernel
theorem d_Dra_reduce_128 : decode b_Dra_reduce 128 = .ok (.iconst 0, 1) := by decide +kernel
theorem d_Dra_reduce_129 : decode b_Dra_reduce 129 = .ok (.istore 7, 2) := by decide +kernel
theorem d_Dra_reduce_131 : decode b_Dra_reduce 131 = .ok (.iinc 8 1, 3) := by decide +kernel
theorem d_Dra_reduce_134 : decode b_Dra_reduce 134 = .ok (.goto (-47), 3) := by decide +kernel
theorem d_Dra_reduce_137 : decode b_Dra_reduce 137 = .ok (.iload 7, 2) := by decide +kernel
theorem d_Dra_reduce_139 : decode b_Dra_reduce 139 = .ok (.ifCond .ne 63, 3) := by decide +kernel
theorem d_Dra_reduce_142 : decode b_Dra_reduce 142 = .ok (.aload_n 0, 1) := by decide +kernel
theorem d_Dra_reduce_143 : decode b_Dra_reduce 143 = .ok (.getfield 9, 3) := by decide +kernel
theorem d_Dra_reduce_146 : decode b_Dra_reduce 146 = .ok (.iload 4, 2) := by decide +kernel
theorem d_Dra_reduce_148 : decode b_Dra_reduce 148 = .ok (.aload_n 0, 1) := by decide +kernel
theorem d_Dra_reduce_149 : decode b_Dra_reduce 149 = .ok (.getfield 9, 3) := by decide +kernel
theorem d_Dra_reduce_152 : decode b_Dra_reduce 152 = .ok (.iload_n 2, 1) := by decide +kernel
theorem d_Dra_reduce_153 : decode b_Dra_reduce 153 = .ok (.iload 5, 2) := by decide +kernel
theorem d_Dra_reduce_155 : decode b_Dra_reduce 155 = .ok (.invokestatic 108, 3) := by decide +kernel
theorem d_Dra_reduce_158 : decode b_Dra_reduce 158 = .ok (.aload_n 0, 1) := by decide +kernel
theorem d_Dra_reduce_159 : decode b_Dra_reduce 159 = .ok (.getfield 21, 3) := by decide +kernel
theorem d_Dra_reduce_162 : decode b_Dra_reduce 162 = .ok (.iload_n 1, 1) := by decide +kernel
theorem d_Dra_reduce_163 : decode b_Dra_reduce 163 = .ok (.aload_n 0, 1) := by decide +kernel
theorem d_Dra_reduce_164 : decode b_Dra_reduce 164 = .ok (.getfield 21, 3) := by decide +kernel
theorem d_Dra_reduce_167 : decode b_Dra_reduce 167 = .ok (.iload_n 3, 1) := by decide +kernel
theorem d_Dra_reduce_168 : decode b_Dra_reduce 168 = .ok (.baload, 1) := by decide +kernel
theorem d_Dra_reduce_169 : decode b_Dra_reduce 169 = .ok (.bastore, 1) := by decide +kernel
theorem d_Dra_reduce_170 : decode b_Dra_reduce 170 = .ok (.aload_n 0, 1) := by decide +kernel
theorem d_Dra_reduce_171 : decode b_Dra_reduce 171 = .ok (.getfield 15, 3) := by decide +kernel
theorem d_Dra_reduce_174 : decode b_Dra_reduce 174 = .ok (.iload_n 1, 1) := by decide +kernel
theorem d_Dra_reduce_175 : decode b_Dra_reduce 175 = .ok (.iload_n 2, 1) := by decide +kernel
theorem d_Dra_reduce_176 : decode b_Dra_reduce 176 = .ok (.iastore, 1) := by decide +kernel
theorem d_Dra_reduce_177 : decode b_Dra_reduce 177 = .ok (.aload_n 0, 1) := by decide +kernel
theorem d_Dra_reduce_178 : decode b_Dra_reduce 178 = .ok (.getfield 18, 3) := by decide +kernel
theorem d_Dra_reduce_181 : decode b_Dra_reduce 181 = .ok (.iload_n 1, 1) := by decide +kernel
theorem d_Dra_reduce_182 : decode b_Dra_reduce 182 = .ok (.iload_n 2, 1) := by decide +kernel
theorem d_Dra_reduce_183 : decode b_Dra_reduce 183 = .ok (.iload 6, 2) := by decide +kernel
theorem d_Dra_reduce_185 : decode b_Dra_reduce 185 = .ok (.iadd, 1) := by decide +kernel
theorem d_Dra_reduce_186 : decode b_Dra_reduce 186 = .ok (.iastore, 1) := by decide +kernel
theorem d_Dra_reduce_187 : decode b_Dra_reduce 187 = .ok (.iinc 1 1, 3) := by decide +kernel
theorem d_Dra_reduce_190 : decode b_Dra_reduce 190 = .ok (.iload_n 2, 1) := by decide +kernel
theorem d_Dra_reduce_191 : decode b_Dra_reduce 191 = .ok (.iload 5, 2) := by decide +kernel
theorem d_Dra_reduce_193 : decode b_Dra_reduce 193 = .ok (.iadd, 1) := by decide +kernel
theorem d_Dra_reduce_194 : decode b_Dra_reduce 194 = .ok (.istore_n 2, 1) := by decide +kernel
theorem d_Dra_reduce_195 : decode b_Dra_reduce 195 = .ok (.aload_n 0, 1) := by decide +kernel
theorem d_Dra_reduce_196 : decode b_Dra_reduce 196 = .ok (.getfield 15, 3) := by decide +kernel
theorem d_Dra_reduce_199 : decode b_Dra_reduce 199 = .ok (.iload_n 1, 1) := by decide +kernel
theorem d_Dra_reduce_200 : decode b_Dra_reduce 200 = .ok (.iload_n 2, 1) := by decide +kernel
theorem d_Dra_reduce_201 : decode b_Dra_reduce 201 = .ok (.iastore, 1) := by decide +kernel
theorem d_Dra_reduce_202 : decode b_Dra_reduce 202 = .ok (.iinc 3 1, 3) := by decide +kernel
theorem d_Dra_reduce_205 : decode b_Dra_reduce 205 = .ok (.goto (-199), 3) := by decide +kernel
theorem d_Dra_reduce_208 : decode b_Dra_reduce 208 = .ok (.aload_n 0, 1) := by decide +kernel
theorem d_Dra_reduce_209 : decode b_Dra_reduce 209 = .ok (.iload_n 1, 1) := by decide +kernel
theorem d_Dra_reduce_210 : decode b_Dra_reduce 210 = .ok (.putfield 51, 3) := by decide +kernel
theorem d_Dra_reduce_213 : decode b_Dra_reduce 213 = .ok (.aload_n 0, 1) := by decide +kernel
theorem d_Dra_reduce_214 : decode b_Dra_reduce 214 = .ok (.iload_n 2, 1) := by decide +kernel
theorem d_Dra_reduce_215 : decode b_Dra_reduce 215 = .ok (.putfield 48, 3) := by decide +kernel
theorem d_Dra_reduce_218 : decode b_Dra_reduce 218 = .ok (.aload_n 0, 1) := by decide +kernel
theorem d_Dra_reduce_219 : decode b_Dra_reduce 219 = .ok (.invokevirtual 122, 3) := by decide +kernel
theorem d_Dra_reduce_222 : decode b_Dra_reduce 222 = .ok (.return_, 1) := by decide +kernel
abbrev b_Dra_renumber : ByteArray := prog_2_method_13_code
def y_Dra_renumber : MethodName := ⟨"ClauseProver$Draft", "renumber", "()V"⟩
theorem d_Dra_renumber_0 : decode b_Dra_renumber 0 = .ok (.aload_n 0, 1) := by decide +kernel
theorem d_Dra_renumber_1 : decode b_Dra_renumber 1 = .ok (.getfield 31, 3) := by decide +kernel
theorem d_Dra_renumber_4 : decode b_Dra_renumber 4 = .ok (.iconst (-1), 1) := by decide +kernel
theorem d_Dra_renumber_5 : decode b_Dra_renumber 5 = .ok (.invokestatic 38, 3) := by decide +kernel
theorem d_Dra_renumber_8 : decode b_Dra_renumber 8 = .ok (.aload_n 0, 1) := by decide +kernel
theorem d_Dra_renumber_9 : decode b_Dra_renumber 9 = .ok (.iconst 0, 1) := by decide +kernel
theorem d_Dra_renumber_10 : decode b_Dra_renumber 10 = .ok (.putfield 125, 3) := by decide +kernel
theorem d_Dra_renumber_13 : decode b_Dra_renumber 13 = .ok (.iconst 0, 1) := by decide +kernel
theorem d_Dra_renumber_14 : decode b_Dra_renumber 14 = .ok (.istore_n 1, 1) := by decide +kernel
theorem d_Dra_renumber_15 : decode b_Dra_renumber 15 = .ok (.iload_n 1, 1) := by decide +kernel
theorem d_Dra_renumber_16 : decode b_Dra_renumber 16 = .ok (.aload_n 0, 1) := by decide +kernel
theorem d_Dra_renumber_17 : decode b_Dra_renumber 17 = .ok (.getfield 48, 3) := by decide +kernel
theorem d_Dra_renumber_20 : decode b_Dra_renumber 20 = .ok (.if_icmp .ge 68, 3) := by decide +kernel
theorem d_Dra_renumber_23 : decode b_Dra_renumber 23 = .ok (.aload_n 0, 1) := by decide +kernel
theorem d_Dra_renumber_24 : decode b_Dra_renumber 24 = .ok (.getfield 9, 3) := by decide +kernel
theorem d_Dra_renumber_27 : decode b_Dra_renumber 27 = .ok (.iload_n 1, 1) := by decide +kernel
theorem d_Dra_renumber_28 : decode b_Dra_renumber 28 = .ok (.iaload, 1) := by decide +kernel
theorem d_Dra_renumber_29 : decode b_Dra_renumber 29 = .ok (.ifCond .ge 53, 3) := by decide +kernel
theorem d_Dra_renumber_32 : decode b_Dra_renumber 32 = .ok (.aload_n 0, 1) := by decide +kernel
theorem d_Dra_renumber_33 : decode b_Dra_renumber 33 = .ok (.getfield 9, 3) := by decide +kernel
theorem d_Dra_renumber_36 : decode b_Dra_renumber 36 = .ok (.iload_n 1, 1) := by decide +kernel
theorem d_Dra_renumber_37 : decode b_Dra_renumber 37 = .ok (.iaload, 1) := by decide +kernel
theorem d_Dra_renumber_38 : decode b_Dra_renumber 38 = .ok (.iconst (-1), 1) := by decide +kernel
theorem d_Dra_renumber_39 : decode b_Dra_renumber 39 = .ok (.ixor, 1) := by decide +kernel
theorem d_Dra_renumber_40 : decode b_Dra_renumber 40 = .ok (.istore_n 2, 1) := by decide +kernel
theorem d_Dra_renumber_41 : decode b_Dra_renumber 41 = .ok (.aload_n 0, 1) := by decide +kernel
theorem d_Dra_renumber_42 : decode b_Dra_renumber 42 = .ok (.getfield 31, 3) := by decide +kernel
theorem d_Dra_renumber_45 : decode b_Dra_renumber 45 = .ok (.iload_n 2, 1) := by decide +kernel
theorem d_Dra_renumber_46 : decode b_Dra_renumber 46 = .ok (.iaload, 1) := by decide +kernel
theorem d_Dra_renumber_47 : decode b_Dra_renumber 47 = .ok (.iconst (-1), 1) := by decide +kernel
theorem d_Dra_renumber_48 : decode b_Dra_renumber 48 = .ok (.if_icmp .ne 20, 3) := by decide +kernel
theorem d_Dra_renumber_51 : decode b_Dra_renumber 51 = .ok (.aload_n 0, 1) := by decide +kernel
theorem d_Dra_renumber_52 : decode b_Dra_renumber 52 = .ok (.getfield 31, 3) := by decide +kernel
theorem d_Dra_renumber_55 : decode b_Dra_renumber 55 = .ok (.iload_n 2, 1) := by decide +kernel
theorem d_Dra_renumber_56 : decode b_Dra_renumber 56 = .ok (.aload_n 0, 1) := by decide +kernel
theorem d_Dra_renumber_57 : decode b_Dra_renumber 57 = .ok (.dup, 1) := by decide +kernel
theorem d_Dra_renumber_58 : decode b_Dra_renumber 58 = .ok (.getfield 125, 3) := by decide +kernel
theorem d_Dra_renumber_61 : decode b_Dra_renumber 61 = .ok (.dup_x1, 1) := by decide +kernel
theorem d_Dra_renumber_62 : decode b_Dra_renumber 62 = .ok (.iconst 1, 1) := by decide +kernel
theorem d_Dra_renumber_63 : decode b_Dra_renumber 63 = .ok (.iadd, 1) := by decide +kernel
theorem d_Dra_renumber_64 : decode b_Dra_renumber 64 = .ok (.putfield 125, 3) := by decide +kernel
theorem d_Dra_renumber_67 : decode b_Dra_renumber 67 = .ok (.iastore, 1) := by decide +kernel
theorem d_Dra_renumber_68 : decode b_Dra_renumber 68 = .ok (.aload_n 0, 1) := by decide +kernel
theorem d_Dra_renumber_69 : decode b_Dra_renumber 69 = .ok (.getfield 9, 3) := by decide +kernel
theorem d_Dra_renumber_72 : decode b_Dra_renumber 72 = .ok (.iload_n 1, 1) := by decide +kernel
theorem d_Dra_renumber_73 : decode b_Dra_renumber 73 = .ok (.aload_n 0, 1) := by decide +kernel
theorem d_Dra_renumber_74 : decode b_Dra_renumber 74 = .ok (.getfield 31, 3) := by decide +kernel
theorem d_Dra_renumber_77 : decode b_Dra_renumber 77 = .ok (.iload_n 2, 1) := by decide +kernel
theorem d_Dra_renumber_78 : decode b_Dra_renumber 78 = .ok (.iaload, 1) := by decide +kernel
theorem d_Dra_renumber_79 : decode b_Dra_renumber 79 = .ok (.iconst (-1), 1) := by decide +kernel
theorem d_Dra_renumber_80 : decode b_Dra_renumber 80 = .ok (.ixor, 1) := by decide +kernel
theorem d_Dra_renumber_81 : decode b_Dra_renumber 81 = .ok (.iastore, 1) := by decide +kernel
theorem d_Dra_renumber_82 : decode b_Dra_renumber 82 = .ok (.iinc 1 1, 3) := by decide +kernel
theorem d_Dra_renumber_85 : decode b_Dra_renumber 85 = .ok (.goto (-70), 3) := by decide +kernel
theorem d_Dra_renumber_88 : decode b_Dra_renumber 88 = .ok (.return_, 1) := by decide +kernel
abbrev b_Dra_replace : ByteArray := prog_2_method_9_code
def y_Dra_replace : MethodName := ⟨"ClauseProver$Draft", "replace", "(I[II)V"⟩
theorem d_Dra_replace_0 : decode b_Dra_replace 0 = .ok (.aload_n 0, 1) := by decide +kernel
theorem d_Dra_replace_1 : decode b_Dra_replace 1 = .ok (.getfield 34, 3) := by decide +kernel
theorem d_Dra_replace_4 : decode b_Dra_replace 4 = .ok (.aload_n 0, 1) := by decide +kernel
theorem d_Dra_replace_5 : decode b_Dra_replace 5 = .ok (.getfield 9, 3) := by decide +kernel
theorem d_Dra_replace_8 : decode b_Dra_replace 8 = .ok (.iload_n 1, 1) := by decide +kernel
theorem d_Dra_replace_9 : decode b_Dra_replace 9 = .ok (.invokevirtual 102, 3) := by decide +kernel
theorem d_Dra_replace_12 : decode b_Dra_replace 12 = .ok (.istore 4, 2) := by decide +kernel
theorem d_Dra_replace_14 : decode b_Dra_replace 14 = .ok (.iload 4, 2) := by decide +kernel
theorem d_Dra_replace_16 : decode b_Dra_replace 16 = .ok (.iload_n 1, 1) := by decide +kernel
theorem d_Dra_replace_17 : decode b_Dra_replace 17 = .ok (.isub, 1) := by decide +kernel
theorem d_Dra_replace_18 : decode b_Dra_replace 18 = .ok (.iload_n 3, 1) := by decide +kernel
theorem d_Dra_replace_19 : decode b_Dra_replace 19 = .ok (.isub, 1) := by decide +kernel
theorem d_Dra_replace_20 : decode b_Dra_replace 20 = .ok (.istore 5, 2) := by decide +kernel
theorem d_Dra_replace_22 : decode b_Dra_replace 22 = .ok (.aload_n 2, 1) := by decide +kernel
theorem d_Dra_replace_23 : decode b_Dra_replace 23 = .ok (.iconst 0, 1) := by decide +kernel
theorem d_Dra_replace_24 : decode b_Dra_replace 24 = .ok (.aload_n 0, 1) := by decide +kernel
theorem d_Dra_replace_25 : decode b_Dra_replace 25 = .ok (.getfield 9, 3) := by decide +kernel
theorem d_Dra_replace_28 : decode b_Dra_replace 28 = .ok (.iload_n 1, 1) := by decide +kernel
theorem d_Dra_replace_29 : decode b_Dra_replace 29 = .ok (.iload_n 3, 1) := by decide +kernel
theorem d_Dra_replace_30 : decode b_Dra_replace 30 = .ok (.invokestatic 108, 3) := by decide +kernel
theorem d_Dra_replace_33 : decode b_Dra_replace 33 = .ok (.aload_n 0, 1) := by decide +kernel
theorem d_Dra_replace_34 : decode b_Dra_replace 34 = .ok (.getfield 9, 3) := by decide +kernel
theorem d_Dra_replace_37 : decode b_Dra_replace 37 = .ok (.iload 4, 2) := by decide +kernel
theorem d_Dra_replace_39 : decode b_Dra_replace 39 = .ok (.aload_n 0, 1) := by decide +kernel
theorem d_Dra_replace_40 : decode b_Dra_replace 40 = .ok (.getfield 9, 3) := by decide +kernel
theorem d_Dra_replace_43 : decode b_Dra_replace 43 = .ok (.iload_n 1, 1) := by decide +kernel
theorem d_Dra_replace_44 : decode b_Dra_replace 44 = .ok (.iload_n 3, 1) := by decide +kernel
theorem d_Dra_replace_45 : decode b_Dra_replace 45 = .ok (.iadd, 1) := by decide +kernel
theorem d_Dra_replace_46 : decode b_Dra_replace 46 = .ok (.aload_n 0, 1) := by decide +kernel
theorem d_Dra_replace_47 : decode b_Dra_replace 47 = .ok (.getfield 48, 3) := by decide +kernel
theorem d_Dra_replace_50 : decode b_Dra_replace 50 = .ok (.iload 4, 2) := by decide +kernel
theorem d_Dra_replace_52 : decode b_Dra_replace 52 = .ok (.isub, 1) := by decide +kernel
theorem d_Dra_replace_53 : decode b_Dra_replace 53 = .ok (.invokestatic 108, 3) := by decide +kernel
theorem d_Dra_replace_56 : decode b_Dra_replace 56 = .ok (.aload_n 0, 1) := by decide +kernel
theorem d_Dra_replace_57 : decode b_Dra_replace 57 = .ok (.dup, 1) := by decide +kernel
theorem d_Dra_replace_58 : decode b_Dra_replace 58 = .ok (.getfield 48, 3) := by decide +kernel
theorem d_Dra_replace_61 : decode b_Dra_replace 61 = .ok (.iload 5, 2) := by decide +kernel
theorem d_Dra_replace_63 : decode b_Dra_replace 63 = .ok (.isub, 1) := by decide +kernel
theorem d_Dra_replace_64 : decode b_Dra_replace 64 = .ok (.putfield 48, 3) := by decide +kernel
theorem d_Dra_replace_67 : decode b_Dra_replace 67 = .ok (.iconst 0, 1) := by decide +kernel
theorem d_Dra_replace_68 : decode b_Dra_replace 68 = .ok (.istore 6, 2) := by decide +kernel
theorem d_Dra_replace_70 : decode b_Dra_replace 70 = .ok (.iload 6, 2) := by decide +kernel
theorem d_Dra_replace_72 : decode b_Dra_replace 72 = .ok (.aload_n 0, 1) := by decide +kernel
theorem d_Dra_replace_73 : decode b_Dra_replace 73 = .ok (.getfield 51, 3) := by decide +kernel
theorem d_Dra_replace_76 : decode b_Dra_replace 76 = .ok (.if_icmp .ge 67, 3) := by decide +kernel
theorem d_Dra_replace_79 : decode b_Dra_replace 79 = .ok (.aload_n 0, 1) := by decide +kernel
theorem d_Dra_replace_80 : decode b_Dra_replace 80 = .ok (.getfield 18, 3) := by decide +kernel
theorem d_Dra_replace_83 : decode b_Dra_replace 83 = .ok (.iload 6, 2) := by decide +kernel
theorem d_Dra_replace_85 : decode b_Dra_replace 85 = .ok (.dup2, 1) := by decide +kernel
theorem d_Dra_replace_86 : decode b_Dra_replace 86 = .ok (.iaload, 1) := by decide +kernel
theorem d_Dra_replace_87 : decode b_Dra_replace 87 = .ok (.aload_n 0, 1) := by decide +kernel
theorem d_Dra_replace_88 : decode b_Dra_replace 88 = .ok (.getfield 18, 3) := by decide +kernel
theorem d_Dra_replace_91 : decode b_Dra_replace 91 = .ok (.iload 6, 2) := by decide +kernel
theorem d_Dra_replace_93 : decode b_Dra_replace 93 = .ok (.iaload, 1) := by decide +kernel
theorem d_Dra_replace_94 : decode b_Dra_replace 94 = .ok (.iload_n 1, 1) := by decide +kernel
theorem d_Dra_replace_95 : decode b_Dra_replace 95 = .ok (.if_icmp .le 8, 3) := by decide +kernel
theorem d_Dra_replace_98 : decode b_Dra_replace 98 = .ok (.iload 5, 2) := by decide +kernel
theorem d_Dra_replace_100 : decode b_Dra_replace 100 = .ok (.goto 4, 3) := by decide +kernel
theorem d_Dra_replace_103 : decode b_Dra_replace 103 = .ok (.iconst 0, 1) := by decide +kernel
theorem d_Dra_replace_104 : decode b_Dra_replace 104 = .ok (.isub, 1) := by decide +kernel
theorem d_Dra_replace_105 : decode b_Dra_replace 105 = .ok (.iastore, 1) := by decide +kernel
theorem d_Dra_replace_106 : decode b_Dra_replace 106 = .ok (.aload_n 0, 1) := by decide +kernel
theorem d_Dra_replace_107 : decode b_Dra_replace 107 = .ok (.getfield 15, 3) := by decide +kernel
theorem d_Dra_replace_110 : decode b_Dra_replace 110 = .ok (.iload 6, 2) := by decide +kernel
theorem d_Dra_replace_112 : decode b_Dra_replace 112 = .ok (.iconst 1, 1) := by decide +kernel
theorem d_Dra_replace_113 : decode b_Dra_replace 113 = .ok (.iadd, 1) := by decide +kernel
theorem d_Dra_replace_114 : decode b_Dra_replace 114 = .ok (.dup2, 1) := by decide +kernel
theorem d_Dra_replace_115 : decode b_Dra_replace 115 = .ok (.iaload, 1) := by decide +kernel
theorem d_Dra_replace_116 : decode b_Dra_replace 116 = .ok (.aload_n 0, 1) := by decide +kernel
theorem d_Dra_replace_117 : decode b_Dra_replace 117 = .ok (.getfield 15, 3) := by decide +kernel
theorem d_Dra_replace_120 : decode b_Dra_replace 120 = .ok (.iload 6, 2) := by decide +kernel
theorem d_Dra_replace_122 : decode b_Dra_replace 122 = .ok (.iconst 1, 1) := by decide +kernel
theorem d_Dra_replace_123 : decode b_Dra_replace 123 = .ok (.iadd, 1) := by decide +kernel
theorem d_Dra_replace_124 : decode b_Dra_replace 124 = .ok (.iaload, 1) := by decide +kernel
theorem d_Dra_replace_125 : decode b_Dra_replace 125 = .ok (.iload_n 1, 1) := by decide +kernel
theorem d_Dra_replace_126 : decode b_Dra_replace 126 = .ok (.if_icmp .le 8, 3) := by decide +kernel
theorem d_Dra_replace_129 : decode b_Dra_replace 129 = .ok (.iload 5, 2) := by decide +kernel
theorem d_Dra_replace_131 : decode b_Dra_replace 131 = .ok (.goto 4, 3) := by decide +kernel
theorem d_Dra_replace_134 : decode b_Dra_replace 134 = .ok (.iconst 0, 1) := by decide +kernel
theorem d_Dra_replace_135 : decode b_Dra_replace 135 = .ok (.isub, 1) := by decide +kernel
theorem d_Dra_replace_136 : decode b_Dra_replace 136 = .ok (.iastore, 1) := by decide +kernel
theorem d_Dra_replace_137 : decode b_Dra_replace 137 = .ok (.iinc 6 1, 3) := by decide +kernel
theorem d_Dra_replace_140 : decode b_Dra_replace 140 = .ok (.goto (-70), 3) := by decide +kernel
theorem d_Dra_replace_143 : decode b_Dra_replace 143 = .ok (.return_, 1) := by decide +kernel
abbrev b_For_addVariable : ByteArray := prog_3_method_7_code
def y_For_addVariable : MethodName := ⟨"ClauseProver$Formulas", "addVariable", "(LClauseProver$Words;)I"⟩
theorem d_For_addVariable_0 : decode b_For_addVariable 0 = .ok (.aload_n 0, 1) := by decide +kernel
theorem d_For_addVariable_1 : decode b_For_addVariable 1 = .ok (.getfield 63, 3) := by decide +kernel
theorem d_For_addVariable_4 : decode b_For_addVariable 4 = .ok (.sipush 300, 3) := by decide +kernel
theorem d_For_addVariable_7 : decode b_For_addVariable 7 = .ok (.if_icmp .ne 5, 3) := by decide +kernel
theorem d_For_addVariable_10 : decode b_For_addVariable 10 = .ok (.iconst (-1), 1) := by decide +kernel
theorem d_For_addVariable_11 : decode b_For_addVariable 11 = .ok (.ireturn, 1) := by decide +kernel
theorem d_For_addVariable_12 : decode b_For_addVariable 12 = .ok (.aload_n 0, 1) := by decide +kernel
theorem d_For_addVariable_13 : decode b_For_addVariable 13 = .ok (.getfield 30, 3) := by decide +kernel
theorem d_For_addVariable_16 : decode b_For_addVariable 16 = .ok (.aload_n 0, 1) := by decide +kernel
theorem d_For_addVariable_17 : decode b_For_addVariable 17 = .ok (.getfield 63, 3) := by decide +kernel
theorem d_For_addVariable_20 : decode b_For_addVariable 20 = .ok (.aload_n 1, 1) := by decide +kernel
theorem d_For_addVariable_21 : decode b_For_addVariable 21 = .ok (.getfield 86, 3) := by decide +kernel
theorem d_For_addVariable_24 : decode b_For_addVariable 24 = .ok (.iastore, 1) := by decide +kernel
theorem d_For_addVariable_25 : decode b_For_addVariable 25 = .ok (.aload_n 0, 1) := by decide +kernel
theorem d_For_addVariable_26 : decode b_For_addVariable 26 = .ok (.getfield 33, 3) := by decide +kernel
theorem d_For_addVariable_29 : decode b_For_addVariable 29 = .ok (.aload_n 0, 1) := by decide +kernel
theorem d_For_addVariable_30 : decode b_For_addVariable 30 = .ok (.getfield 63, 3) := by decide +kernel
theorem d_For_addVariable_33 : decode b_For_addVariable 33 = .ok (.aload_n 1, 1) := by decide +kernel
theorem d_For_addVariable_34 : decode b_For_addVariable 34 = .ok (.getfield 91, 3) := by decide +kernel
theorem d_For_addVariable_37 : decode b_For_addVariable 37 = .ok (.iastore, 1) := by decide +kernel
theorem d_For_addVariable_38 : decode b_For_addVariable 38 = .ok (.aload_n 0, 1) := by decide +kernel
theorem d_For_addVariable_39 : decode b_For_addVariable 39 = .ok (.getfield 39, 3) := by decide +kernel
theorem d_For_addVariable_42 : decode b_For_addVariable 42 = .ok (.aload_n 0, 1) := by decide +kernel
theorem d_For_addVariable_43 : decode b_For_addVariable 43 = .ok (.getfield 63, 3) := by decide +kernel
theorem d_For_addVariable_46 : decode b_For_addVariable 46 = .ok (.aload_n 0, 1) := by decide +kernel
theorem d_For_addVariable_47 : decode b_For_addVariable 47 = .ok (.getfield 27, 3) := by decide +kernel
theorem d_For_addVariable_50 : decode b_For_addVariable 50 = .ok (.getfield 59, 3) := by decide +kernel
theorem d_For_addVariable_53 : decode b_For_addVariable 53 = .ok (.iconst 5, 1) := by decide +kernel
theorem d_For_addVariable_54 : decode b_For_addVariable 54 = .ok (.isub, 1) := by decide +kernel
theorem d_For_addVariable_55 : decode b_For_addVariable 55 = .ok (.iastore, 1) := by decide +kernel
theorem d_For_addVariable_56 : decode b_For_addVariable 56 = .ok (.aload_n 0, 1) := by decide +kernel
theorem d_For_addVariable_57 : decode b_For_addVariable 57 = .ok (.dup, 1) := by decide +kernel
theorem d_For_addVariable_58 : decode b_For_addVariable 58 = .ok (.getfield 63, 3) := by decide +kernel
theorem d_For_addVariable_61 : decode b_For_addVariable 61 = .ok (.dup_x1, 1) := by decide +kernel
theorem d_For_addVariable_62 : decode b_For_addVariable 62 = .ok (.iconst 1, 1) := by decide +kernel
theorem d_For_addVariable_63 : decode b_For_addVariable 63 = .ok (.iadd, 1) := by decide +kernel
theorem d_For_addVariable_64 : decode b_For_addVariable 64 = .ok (.putfield 63, 3) := by decide +kernel
theorem d_For_addVariable_67 : decode b_For_addVariable 67 = .ok (.ireturn, 1) := by decide +kernel
abbrev b_For_around : ByteArray := prog_3_method_16_code
def y_For_around : MethodName := ⟨"ClauseProver$Formulas", "around", "(I)I"⟩
theorem d_For_around_0 : decode b_For_around 0 = .ok (.aload_n 0, 1) := by decide +kernel
theorem d_For_around_1 : decode b_For_around 1 = .ok (.getfield 39, 3) := by decide +kernel
theorem d_For_around_4 : decode b_For_around 4 = .ok (.iload_n 1, 1) := by decide +kernel
theorem d_For_around_5 : decode b_For_around 5 = .ok (.iaload, 1) := by decide +kernel
theorem d_For_around_6 : decode b_For_around 6 = .ok (.istore_n 2, 1) := by decide +kernel
theorem d_For_around_7 : decode b_For_around 7 = .ok (.aload_n 0, 1) := by decide +kernel
theorem d_For_around_8 : decode b_For_around 8 = .ok (.getfield 20, 3) := by decide +kernel
theorem d_For_around_11 : decode b_For_around 11 = .ok (.iload_n 1, 1) := by decide +kernel
theorem d_For_around_12 : decode b_For_around 12 = .ok (.iaload, 1) := by decide +kernel
theorem d_For_around_13 : decode b_For_around 13 = .ok (.bipush (-2), 2) := by decide +kernel
theorem d_For_around_15 : decode b_For_around 15 = .ok (.if_icmp .ne 12, 3) := by decide +kernel
theorem d_For_around_18 : decode b_For_around 18 = .ok (.aload_n 0, 1) := by decide +kernel
theorem d_For_around_19 : decode b_For_around 19 = .ok (.getfield 36, 3) := by decide +kernel
theorem d_For_around_22 : decode b_For_around 22 = .ok (.iload_n 1, 1) := by decide +kernel
theorem d_For_around_23 : decode b_For_around 23 = .ok (.iaload, 1) := by decide +kernel
theorem d_For_around_24 : decode b_For_around 24 = .ok (.goto 33, 3) := by decide +kernel
theorem d_For_around_27 : decode b_For_around 27 = .ok (.aload_n 0, 1) := by decide +kernel
theorem d_For_around_28 : decode b_For_around 28 = .ok (.getfield 36, 3) := by decide +kernel
theorem d_For_around_31 : decode b_For_around 31 = .ok (.iload_n 1, 1) := by decide +kernel
theorem d_For_around_32 : decode b_For_around 32 = .ok (.iaload, 1) := by decide +kernel
theorem d_For_around_33 : decode b_For_around 33 = .ok (.aload_n 0, 1) := by decide +kernel
theorem d_For_around_34 : decode b_For_around 34 = .ok (.getfield 27, 3) := by decide +kernel
theorem d_For_around_37 : decode b_For_around 37 = .ok (.getfield 75, 3) := by decide +kernel
theorem d_For_around_40 : decode b_For_around 40 = .ok (.iload_n 2, 1) := by decide +kernel
theorem d_For_around_41 : decode b_For_around 41 = .ok (.iconst 4, 1) := by decide +kernel
theorem d_For_around_42 : decode b_For_around 42 = .ok (.iadd, 1) := by decide +kernel
theorem d_For_around_43 : decode b_For_around 43 = .ok (.iaload, 1) := by decide +kernel
theorem d_For_around_44 : decode b_For_around 44 = .ok (.iadd, 1) := by decide +kernel
theorem d_For_around_45 : decode b_For_around 45 = .ok (.aload_n 0, 1) := by decide +kernel
theorem d_For_around_46 : decode b_For_around 46 = .ok (.getfield 27, 3) := by decide +kernel
theorem d_For_around_49 : decode b_For_around 49 = .ok (.getfield 75, 3) := by decide +kernel
theorem d_For_around_52 : decode b_For_around 52 = .ok (.iload_n 2, 1) := by decide +kernel
theorem d_For_around_53 : decode b_For_around 53 = .ok (.iconst 3, 1) := by decide +kernel
theorem d_For_around_54 : decode b_For_around 54 = .ok (.iadd, 1) := by decide +kernel
theorem d_For_around_55 : decode b_For_around 55 = .ok (.iaload, 1) := by decide +kernel
theorem d_For_around_56 : decode b_For_around 56 = .ok (.isub, 1) := by decide +kernel
theorem d_For_around_57 : decode b_For_around 57 = .ok (.ireturn, 1) := by decide +kernel
abbrev b_For_aroundAt : ByteArray := prog_3_method_17_code
def y_For_aroundAt : MethodName := ⟨"ClauseProver$Formulas", "aroundAt", "(II)I"⟩
theorem d_For_aroundAt_0 : decode b_For_aroundAt 0 = .ok (.aload_n 0, 1) := by decide +kernel
theorem d_For_aroundAt_1 : decode b_For_aroundAt 1 = .ok (.getfield 39, 3) := by decide +kernel
theorem d_For_aroundAt_4 : decode b_For_aroundAt 4 = .ok (.iload_n 1, 1) := by decide +kernel
theorem d_For_aroundAt_5 : decode b_For_aroundAt 5 = .ok (.iaload, 1) := by decide +kernel
theorem d_For_aroundAt_6 : decode b_For_aroundAt 6 = .ok (.istore_n 3, 1) := by decide +kernel
theorem d_For_aroundAt_7 : decode b_For_aroundAt 7 = .ok (.aload_n 0, 1) := by decide +kernel
theorem d_For_aroundAt_8 : decode b_For_aroundAt 8 = .ok (.getfield 27, 3) := by decide +kernel
theorem d_For_aroundAt_11 : decode b_For_aroundAt 11 = .ok (.getfield 75, 3) := by decide +kernel
theorem d_For_aroundAt_14 : decode b_For_aroundAt 14 = .ok (.iload_n 3, 1) := by decide +kernel
theorem d_For_aroundAt_15 : decode b_For_aroundAt 15 = .ok (.iconst 3, 1) := by decide +kernel
theorem d_For_aroundAt_16 : decode b_For_aroundAt 16 = .ok (.iadd, 1) := by decide +kernel
theorem d_For_aroundAt_17 : decode b_For_aroundAt 17 = .ok (.iaload, 1) := by decide +kernel
theorem d_For_aroundAt_18 : decode b_For_aroundAt 18 = .ok (.istore 4, 2) := by decide +kernel
theorem d_For_aroundAt_20 : decode b_For_aroundAt 20 = .ok (.aload_n 0, 1) := by decide +kernel
theorem d_For_aroundAt_21 : decode b_For_aroundAt 21 = .ok (.getfield 27, 3) := by decide +kernel
theorem d_For_aroundAt_24 : decode b_For_aroundAt 24 = .ok (.getfield 75, 3) := by decide +kernel
theorem d_For_aroundAt_27 : decode b_For_aroundAt 27 = .ok (.iload_n 3, 1) := by decide +kernel
theorem d_For_aroundAt_28 : decode b_For_aroundAt 28 = .ok (.iconst 4, 1) := by decide +kernel
theorem d_For_aroundAt_29 : decode b_For_aroundAt 29 = .ok (.iadd, 1) := by decide +kernel
theorem d_For_aroundAt_30 : decode b_For_aroundAt 30 = .ok (.iaload, 1) := by decide +kernel
theorem d_For_aroundAt_31 : decode b_For_aroundAt 31 = .ok (.iload 4, 2) := by decide +kernel
theorem d_For_aroundAt_33 : decode b_For_aroundAt 33 = .ok (.isub, 1) := by decide +kernel
theorem d_For_aroundAt_34 : decode b_For_aroundAt 34 = .ok (.istore 5, 2) := by decide +kernel
theorem d_For_aroundAt_36 : decode b_For_aroundAt 36 = .ok (.iload_n 2, 1) := by decide +kernel
theorem d_For_aroundAt_37 : decode b_For_aroundAt 37 = .ok (.iload 5, 2) := by decide +kernel
theorem d_For_aroundAt_39 : decode b_For_aroundAt 39 = .ok (.if_icmp .ge 13, 3) := by decide +kernel
theorem d_For_aroundAt_42 : decode b_For_aroundAt 42 = .ok (.aload_n 0, 1) := by decide +kernel
theorem d_For_aroundAt_43 : decode b_For_aroundAt 43 = .ok (.getfield 49, 3) := by decide +kernel
theorem d_For_aroundAt_46 : decode b_For_aroundAt 46 = .ok (.iload 4, 2) := by decide +kernel
theorem d_For_aroundAt_48 : decode b_For_aroundAt 48 = .ok (.iload_n 2, 1) := by decide +kernel
theorem d_For_aroundAt_49 : decode b_For_aroundAt 49 = .ok (.iadd, 1) := by decide +kernel
theorem d_For_aroundAt_50 : decode b_For_aroundAt 50 = .ok (.iaload, 1) := by decide +kernel
theorem d_For_aroundAt_51 : decode b_For_aroundAt 51 = .ok (.ireturn, 1) := by decide +kernel
theorem d_For_aroundAt_52 : decode b_For_aroundAt 52 = .ok (.iload_n 1, 1) := by decide +kernel
theorem d_For_aroundAt_53 : decode b_For_aroundAt 53 = .ok (.istore 6, 2) := by decide +kernel
theorem d_For_aroundAt_55 : decode b_For_aroundAt 55 = .ok (.aload_n 0, 1) := by decide +kernel
theorem d_For_aroundAt_56 : decode b_For_aroundAt 56 = .ok (.getfield 36, 3) := by decide +kernel
theorem d_For_aroundAt_59 : decode b_For_aroundAt 59 = .ok (.iload_n 1, 1) := by decide +kernel
theorem d_For_aroundAt_60 : decode b_For_aroundAt 60 = .ok (.iaload, 1) := by decide +kernel
theorem d_For_aroundAt_61 : decode b_For_aroundAt 61 = .ok (.iload_n 2, 1) := by decide +kernel
theorem d_For_aroundAt_62 : decode b_For_aroundAt 62 = .ok (.iload 5, 2) := by decide +kernel
theorem d_For_aroundAt_64 : decode b_For_aroundAt 64 = .ok (.isub, 1) := by decide +kernel
theorem d_For_aroundAt_65 : decode b_For_aroundAt 65 = .ok (.isub, 1) := by decide +kernel
theorem d_For_aroundAt_66 : decode b_For_aroundAt 66 = .ok (.istore 7, 2) := by decide +kernel
theorem d_For_aroundAt_68 : decode b_For_aroundAt 68 = .ok (.iload 7, 2) := by decide +kernel
theorem d_For_aroundAt_70 : decode b_For_aroundAt 70 = .ok (.ifCond .le 18, 3) := by decide +kernel
theorem d_For_aroundAt_73 : decode b_For_aroundAt 73 = .ok (.aload_n 0, 1) := by decide +kernel
theorem d_For_aroundAt_74 : decode b_For_aroundAt 74 = .ok (.getfield 20, 3) := by decide +kernel
theorem d_For_aroundAt_77 : decode b_For_aroundAt 77 = .ok (.iload 6, 2) := by decide +kernel
theorem d_For_aroundAt_79 : decode b_For_aroundAt 79 = .ok (.iaload, 1) := by decide +kernel
theorem d_For_aroundAt_80 : decode b_For_aroundAt 80 = .ok (.istore 6, 2) := by decide +kernel
theorem d_For_aroundAt_82 : decode b_For_aroundAt 82 = .ok (.iinc 7 (-1), 3) := by decide +kernel
theorem d_For_aroundAt_85 : decode b_For_aroundAt 85 = .ok (.goto (-17), 3) := by decide +kernel
theorem d_For_aroundAt_88 : decode b_For_aroundAt 88 = .ok (.iload 6, 2) := by decide +kernel
theorem d_For_aroundAt_90 : decode b_For_aroundAt 90 = .ok (.ireturn, 1) := by decide +kernel
abbrev b_For_bind : ByteArray := prog_3_method_5_code
def y_For_bind : MethodName := ⟨"ClauseProver$Formulas", "bind", "(LClauseProver$Words;)I"⟩
theorem d_For_bind_0 : decode b_For_bind 0 = .ok (.aload_n 0, 1) := by decide +kernel
theorem d_For_bind_1 : decode b_For_bind 1 = .ok (.aload_n 1, 1) := by decide +kernel
theorem d_For_bind_2 : decode b_For_bind 2 = .ok (.invokevirtual 78, 3) := by decide +kernel
theorem d_For_bind_5 : decode b_For_bind 5 = .ok (.istore_n 2, 1) := by decide +kernel
theorem d_For_bind_6 : decode b_For_bind 6 = .ok (.iload_n 2, 1) := by decide +kernel
theorem d_For_bind_7 : decode b_For_bind 7 = .ok (.iconst (-1), 1) := by decide +kernel
theorem d_For_bind_8 : decode b_For_bind 8 = .ok (.if_icmp .eq 47, 3) := by decide +kernel
theorem d_For_bind_11 : decode b_For_bind 11 = .ok (.aload_n 0, 1) := by decide +kernel
theorem d_For_bind_12 : decode b_For_bind 12 = .ok (.getfield 20, 3) := by decide +kernel
theorem d_For_bind_15 : decode b_For_bind 15 = .ok (.iload_n 2, 1) := by decide +kernel
theorem d_For_bind_16 : decode b_For_bind 16 = .ok (.aload_n 0, 1) := by decide +kernel
theorem d_For_bind_17 : decode b_For_bind 17 = .ok (.getfield 69, 3) := by decide +kernel
theorem d_For_bind_20 : decode b_For_bind 20 = .ok (.iastore, 1) := by decide +kernel
theorem d_For_bind_21 : decode b_For_bind 21 = .ok (.aload_n 0, 1) := by decide +kernel
theorem d_For_bind_22 : decode b_For_bind 22 = .ok (.getfield 36, 3) := by decide +kernel
theorem d_For_bind_25 : decode b_For_bind 25 = .ok (.iload_n 2, 1) := by decide +kernel
theorem d_For_bind_26 : decode b_For_bind 26 = .ok (.aload_n 0, 1) := by decide +kernel
theorem d_For_bind_27 : decode b_For_bind 27 = .ok (.getfield 69, 3) := by decide +kernel
theorem d_For_bind_30 : decode b_For_bind 30 = .ok (.iconst (-1), 1) := by decide +kernel
theorem d_For_bind_31 : decode b_For_bind 31 = .ok (.if_icmp .ne 7, 3) := by decide +kernel
theorem d_For_bind_34 : decode b_For_bind 34 = .ok (.iconst 0, 1) := by decide +kernel
theorem d_For_bind_35 : decode b_For_bind 35 = .ok (.goto 14, 3) := by decide +kernel
theorem d_For_bind_38 : decode b_For_bind 38 = .ok (.aload_n 0, 1) := by decide +kernel
theorem d_For_bind_39 : decode b_For_bind 39 = .ok (.getfield 36, 3) := by decide +kernel
theorem d_For_bind_42 : decode b_For_bind 42 = .ok (.aload_n 0, 1) := by decide +kernel
theorem d_For_bind_43 : decode b_For_bind 43 = .ok (.getfield 69, 3) := by decide +kernel
theorem d_For_bind_46 : decode b_For_bind 46 = .ok (.iaload, 1) := by decide +kernel
theorem d_For_bind_47 : decode b_For_bind 47 = .ok (.iconst 1, 1) := by decide +kernel
theorem d_For_bind_48 : decode b_For_bind 48 = .ok (.iadd, 1) := by decide +kernel
theorem d_For_bind_49 : decode b_For_bind 49 = .ok (.iastore, 1) := by decide +kernel
theorem d_For_bind_50 : decode b_For_bind 50 = .ok (.aload_n 0, 1) := by decide +kernel
theorem d_For_bind_51 : decode b_For_bind 51 = .ok (.iload_n 2, 1) := by decide +kernel
theorem d_For_bind_52 : decode b_For_bind 52 = .ok (.putfield 69, 3) := by decide +kernel
theorem d_For_bind_55 : decode b_For_bind 55 = .ok (.iload_n 2, 1) := by decide +kernel
theorem d_For_bind_56 : decode b_For_bind 56 = .ok (.ireturn, 1) := by decide +kernel
abbrev b_For_clausesOf : ByteArray := prog_3_method_11_code
def y_For_clausesOf : MethodName := ⟨"ClauseProver$Formulas", "clausesOf", "(IZ)I"⟩
theorem d_For_clausesOf_0 : decode b_For_clausesOf 0 = .ok (.aload_n 0, 1) := by decide +kernel
theorem d_For_clausesOf_1 : decode b_For_clausesOf 1 = .ok (.iload_n 1, 1) := by decide +kernel
theorem d_For_clausesOf_2 : decode b_For_clausesOf 2 = .ok (.iload_n 2, 1) := by decide +kernel
theorem d_For_clausesOf_3 : decode b_For_clausesOf 3 = .ok (.ifCond .eq 7, 3) := by decide +kernel
theorem d_For_clausesOf_6 : decode b_For_clausesOf 6 = .ok (.iconst 5, 1) := by decide +kernel
theorem d_For_clausesOf_7 : decode b_For_clausesOf 7 = .ok (.goto 4, 3) := by decide +kernel
theorem d_For_clausesOf_10 : decode b_For_clausesOf 10 = .ok (.iconst 4, 1) := by decide +kernel
theorem d_For_clausesOf_11 : decode b_For_clausesOf 11 = .ok (.invokevirtual 104, 3) := by decide +kernel
theorem d_For_clausesOf_14 : decode b_For_clausesOf 14 = .ok (.ireturn, 1) := by decide +kernel
abbrev b_For_clear : ByteArray := prog_3_method_2_code
def y_For_clear : MethodName := ⟨"ClauseProver$Formulas", "clear", "()V"⟩
theorem d_For_clear_0 : decode b_For_clear 0 = .ok (.aload_n 0, 1) := by decide +kernel
theorem d_For_clear_1 : decode b_For_clear 1 = .ok (.getfield 14, 3) := by decide +kernel
theorem d_For_clear_4 : decode b_For_clear 4 = .ok (.iconst 0, 1) := by decide +kernel
theorem d_For_clear_5 : decode b_For_clear 5 = .ok (.putfield 59, 3) := by decide +kernel
theorem d_For_clear_8 : decode b_For_clear 8 = .ok (.aload_n 0, 1) := by decide +kernel
theorem d_For_clear_9 : decode b_For_clear 9 = .ok (.getfield 24, 3) := by decide +kernel
theorem d_For_clear_12 : decode b_For_clear 12 = .ok (.iconst 0, 1) := by decide +kernel
theorem d_For_clear_13 : decode b_For_clear 13 = .ok (.putfield 59, 3) := by decide +kernel
theorem d_For_clear_16 : decode b_For_clear 16 = .ok (.aload_n 0, 1) := by decide +kernel
theorem d_For_clear_17 : decode b_For_clear 17 = .ok (.getfield 27, 3) := by decide +kernel
theorem d_For_clear_20 : decode b_For_clear 20 = .ok (.iconst 0, 1) := by decide +kernel
theorem d_For_clear_21 : decode b_For_clear 21 = .ok (.putfield 59, 3) := by decide +kernel
theorem d_For_clear_24 : decode b_For_clear 24 = .ok (.aload_n 0, 1) := by decide +kernel
theorem d_For_clear_25 : decode b_For_clear 25 = .ok (.iconst 0, 1) := by decide +kernel
theorem d_For_clear_26 : decode b_For_clear 26 = .ok (.putfield 63, 3) := by decide +kernel
theorem d_For_clear_29 : decode b_For_clear 29 = .ok (.aload_n 0, 1) := by decide +kernel
theorem d_For_clear_30 : decode b_For_clear 30 = .ok (.iconst 0, 1) := by decide +kernel
theorem d_For_clear_31 : decode b_For_clear 31 = .ok (.putfield 66, 3) := by decide +kernel
theorem d_For_clear_34 : decode b_For_clear 34 = .ok (.aload_n 0, 1) := by decide +kernel
theorem d_For_clear_35 : decode b_For_clear 35 = .ok (.iconst (-1), 1) := by decide +kernel
theorem d_For_clear_36 : decode b_For_clear 36 = .ok (.putfield 69, 3) := by decide +kernel
theorem d_For_clear_39 : decode b_For_clear 39 = .ok (.return_, 1) := by decide +kernel
abbrev b_For_closeSentence : ByteArray := prog_3_method_4_code
def y_For_closeSentence : MethodName := ⟨"ClauseProver$Formulas", "closeSentence", "(I)V"⟩
theorem d_For_closeSentence_0 : decode b_For_closeSentence 0 = .ok (.aload_n 0, 1) := by decide +kernel
theorem d_For_closeSentence_1 : decode b_For_closeSentence 1 = .ok (.getfield 27, 3) := by decide +kernel
theorem d_For_closeSentence_4 : decode b_For_closeSentence 4 = .ok (.getfield 75, 3) := by decide +kernel
theorem d_For_closeSentence_7 : decode b_For_closeSentence 7 = .ok (.aload_n 0, 1) := by decide +kernel
theorem d_For_closeSentence_8 : decode b_For_closeSentence 8 = .ok (.getfield 27, 3) := by decide +kernel
theorem d_For_closeSentence_11 : decode b_For_closeSentence 11 = .ok (.getfield 59, 3) := by decide +kernel
theorem d_For_closeSentence_14 : decode b_For_closeSentence 14 = .ok (.iconst 5, 1) := by decide +kernel
theorem d_For_closeSentence_15 : decode b_For_closeSentence 15 = .ok (.isub, 1) := by decide +kernel
theorem d_For_closeSentence_16 : decode b_For_closeSentence 16 = .ok (.iconst 2, 1) := by decide +kernel
theorem d_For_closeSentence_17 : decode b_For_closeSentence 17 = .ok (.iadd, 1) := by decide +kernel
theorem d_For_closeSentence_18 : decode b_For_closeSentence 18 = .ok (.iload_n 1, 1) := by decide +kernel
theorem d_For_closeSentence_19 : decode b_For_closeSentence 19 = .ok (.iastore, 1) := by decide +kernel
theorem d_For_closeSentence_20 : decode b_For_closeSentence 20 = .ok (.return_, 1) := by decide +kernel
abbrev b_For_get : ByteArray := prog_3_method_10_code
def y_For_get : MethodName := ⟨"ClauseProver$Formulas", "get", "(II)I"⟩
theorem d_For_get_0 : decode b_For_get 0 = .ok (.aload_n 0, 1) := by decide +kernel
theorem d_For_get_1 : decode b_For_get 1 = .ok (.getfield 24, 3) := by decide +kernel
theorem d_For_get_4 : decode b_For_get 4 = .ok (.getfield 75, 3) := by decide +kernel
theorem d_For_get_7 : decode b_For_get 7 = .ok (.iload_n 1, 1) := by decide +kernel
theorem d_For_get_8 : decode b_For_get 8 = .ok (.bipush 7, 2) := by decide +kernel
theorem d_For_get_10 : decode b_For_get 10 = .ok (.imul, 1) := by decide +kernel
theorem d_For_get_11 : decode b_For_get 11 = .ok (.iload_n 2, 1) := by decide +kernel
theorem d_For_get_12 : decode b_For_get 12 = .ok (.iadd, 1) := by decide +kernel
theorem d_For_get_13 : decode b_For_get 13 = .ok (.iaload, 1) := by decide +kernel
theorem d_For_get_14 : decode b_For_get 14 = .ok (.ireturn, 1) := by decide +kernel
abbrev b_For_isWord : ByteArray := prog_3_method_8_code
def y_For_isWord : MethodName := ⟨"ClauseProver$Formulas", "isWord", "(ILClauseProver$Words;)Z"⟩
theorem d_For_isWord_0 : decode b_For_isWord 0 = .ok (.aload_n 0, 1) := by decide +kernel
theorem d_For_isWord_1 : decode b_For_isWord 1 = .ok (.getfield 33, 3) := by decide +kernel
theorem d_For_isWord_4 : decode b_For_isWord 4 = .ok (.iload_n 1, 1) := by decide +kernel
theorem d_For_isWord_5 : decode b_For_isWord 5 = .ok (.iaload, 1) := by decide +kernel
theorem d_For_isWord_6 : decode b_For_isWord 6 = .ok (.aload_n 2, 1) := by decide +kernel
theorem d_For_isWord_7 : decode b_For_isWord 7 = .ok (.getfield 91, 3) := by decide +kernel
theorem d_For_isWord_10 : decode b_For_isWord 10 = .ok (.if_icmp .eq 5, 3) := by decide +kernel
theorem d_For_isWord_13 : decode b_For_isWord 13 = .ok (.iconst 0, 1) := by decide +kernel
theorem d_For_isWord_14 : decode b_For_isWord 14 = .ok (.ireturn, 1) := by decide +kernel
theorem d_For_isWord_15 : decode b_For_isWord 15 = .ok (.iconst 0, 1) := by decide +kernel
theorem d_For_isWord_16 : decode b_For_isWord 16 = .ok (.istore_n 3, 1) := by decide +kernel
theorem d_For_isWord_17 : decode b_For_isWord 17 = .ok (.iload_n 3, 1) := by decide +kernel
theorem d_For_isWord_18 : decode b_For_isWord 18 = .ok (.aload_n 2, 1) := by decide +kernel
theorem d_For_isWord_19 : decode b_For_isWord 19 = .ok (.getfield 91, 3) := by decide +kernel
theorem d_For_isWord_22 : decode b_For_isWord 22 = .ok (.if_icmp .ge 38, 3) := by decide +kernel
theorem d_For_isWord_25 : decode b_For_isWord 25 = .ok (.aload_n 2, 1) := by decide +kernel
theorem d_For_isWord_26 : decode b_For_isWord 26 = .ok (.getfield 92, 3) := by decide +kernel
theorem d_For_isWord_29 : decode b_For_isWord 29 = .ok (.aload_n 0, 1) := by decide +kernel
theorem d_For_isWord_30 : decode b_For_isWord 30 = .ok (.getfield 30, 3) := by decide +kernel
theorem d_For_isWord_33 : decode b_For_isWord 33 = .ok (.iload_n 1, 1) := by decide +kernel
theorem d_For_isWord_34 : decode b_For_isWord 34 = .ok (.iaload, 1) := by decide +kernel
theorem d_For_isWord_35 : decode b_For_isWord 35 = .ok (.iload_n 3, 1) := by decide +kernel
theorem d_For_isWord_36 : decode b_For_isWord 36 = .ok (.iadd, 1) := by decide +kernel
theorem d_For_isWord_37 : decode b_For_isWord 37 = .ok (.iaload, 1) := by decide +kernel
theorem d_For_isWord_38 : decode b_For_isWord 38 = .ok (.aload_n 2, 1) := by decide +kernel
theorem d_For_isWord_39 : decode b_For_isWord 39 = .ok (.getfield 92, 3) := by decide +kernel
theorem d_For_isWord_42 : decode b_For_isWord 42 = .ok (.aload_n 2, 1) := by decide +kernel
theorem d_For_isWord_43 : decode b_For_isWord 43 = .ok (.getfield 86, 3) := by decide +kernel
theorem d_For_isWord_46 : decode b_For_isWord 46 = .ok (.iload_n 3, 1) := by decide +kernel
theorem d_For_isWord_47 : decode b_For_isWord 47 = .ok (.iadd, 1) := by decide +kernel
theorem d_For_isWord_48 : decode b_For_isWord 48 = .ok (.iaload, 1) := by decide +kernel
theorem d_For_isWord_49 : decode b_For_isWord 49 = .ok (.if_icmp .eq 5, 3) := by decide +kernel
theorem d_For_isWord_52 : decode b_For_isWord 52 = .ok (.iconst 0, 1) := by decide +kernel
theorem d_For_isWord_53 : decode b_For_isWord 53 = .ok (.ireturn, 1) := by decide +kernel
theorem d_For_isWord_54 : decode b_For_isWord 54 = .ok (.iinc 3 1, 3) := by decide +kernel
theorem d_For_isWord_57 : decode b_For_isWord 57 = .ok (.goto (-40), 3) := by decide +kernel
theorem d_For_isWord_60 : decode b_For_isWord 60 = .ok (.iconst 1, 1) := by decide +kernel
theorem d_For_isWord_61 : decode b_For_isWord 61 = .ok (.ireturn, 1) := by decide +kernel
abbrev b_For_makeWitnesses : ByteArray := prog_3_method_12_code
def y_For_makeWitnesses : MethodName := ⟨"ClauseProver$Formulas", "makeWitnesses", "()V"⟩
theorem d_For_makeWitnesses_0 : decode b_For_makeWitnesses 0 = .ok (.iconst 0, 1) := by decide +kernel
theorem d_For_makeWitnesses_1 : decode b_For_makeWitnesses 1 = .ok (.istore_n 1, 1) := by decide +kernel
theorem d_For_makeWitnesses_2 : decode b_For_makeWitnesses 2 = .ok (.iload_n 1, 1) := by decide +kernel
theorem d_For_makeWitnesses_3 : decode b_For_makeWitnesses 3 = .ok (.aload_n 0, 1) := by decide +kernel
theorem d_For_makeWitnesses_4 : decode b_For_makeWitnesses 4 = .ok (.getfield 27, 3) := by decide +kernel
theorem d_For_makeWitnesses_7 : decode b_For_makeWitnesses 7 = .ok (.getfield 59, 3) := by decide +kernel
theorem d_For_makeWitnesses_10 : decode b_For_makeWitnesses 10 = .ok (.if_icmp .ge 60, 3) := by decide +kernel
theorem d_For_makeWitnesses_13 : decode b_For_makeWitnesses 13 = .ok (.aload_n 0, 1) := by decide +kernel
theorem d_For_makeWitnesses_14 : decode b_For_makeWitnesses 14 = .ok (.getfield 27, 3) := by decide +kernel
theorem d_For_makeWitnesses_17 : decode b_For_makeWitnesses 17 = .ok (.getfield 75, 3) := by decide +kernel
theorem d_For_makeWitnesses_20 : decode b_For_makeWitnesses 20 = .ok (.iload_n 1, 1) := by decide +kernel
theorem d_For_makeWitnesses_21 : decode b_For_makeWitnesses 21 = .ok (.iconst 1, 1) := by decide +kernel
theorem d_For_makeWitnesses_22 : decode b_For_makeWitnesses 22 = .ok (.iadd, 1) := by decide +kernel
theorem d_For_makeWitnesses_23 : decode b_For_makeWitnesses 23 = .ok (.iaload, 1) := by decide +kernel
theorem d_For_makeWitnesses_24 : decode b_For_makeWitnesses 24 = .ok (.iconst 1, 1) := by decide +kernel
theorem d_For_makeWitnesses_25 : decode b_For_makeWitnesses 25 = .ok (.if_icmp .ne 7, 3) := by decide +kernel
theorem d_For_makeWitnesses_28 : decode b_For_makeWitnesses 28 = .ok (.iconst 1, 1) := by decide +kernel
theorem d_For_makeWitnesses_29 : decode b_For_makeWitnesses 29 = .ok (.goto 4, 3) := by decide +kernel
theorem d_For_makeWitnesses_32 : decode b_For_makeWitnesses 32 = .ok (.iconst 0, 1) := by decide +kernel
theorem d_For_makeWitnesses_33 : decode b_For_makeWitnesses 33 = .ok (.istore_n 2, 1) := by decide +kernel
theorem d_For_makeWitnesses_34 : decode b_For_makeWitnesses 34 = .ok (.aload_n 0, 1) := by decide +kernel
theorem d_For_makeWitnesses_35 : decode b_For_makeWitnesses 35 = .ok (.aload_n 0, 1) := by decide +kernel
theorem d_For_makeWitnesses_36 : decode b_For_makeWitnesses 36 = .ok (.getfield 27, 3) := by decide +kernel
theorem d_For_makeWitnesses_39 : decode b_For_makeWitnesses 39 = .ok (.getfield 75, 3) := by decide +kernel
theorem d_For_makeWitnesses_42 : decode b_For_makeWitnesses 42 = .ok (.iload_n 1, 1) := by decide +kernel
theorem d_For_makeWitnesses_43 : decode b_For_makeWitnesses 43 = .ok (.iconst 2, 1) := by decide +kernel
theorem d_For_makeWitnesses_44 : decode b_For_makeWitnesses 44 = .ok (.iadd, 1) := by decide +kernel
theorem d_For_makeWitnesses_45 : decode b_For_makeWitnesses 45 = .ok (.iaload, 1) := by decide +kernel
theorem d_For_makeWitnesses_46 : decode b_For_makeWitnesses 46 = .ok (.iload_n 2, 1) := by decide +kernel
theorem d_For_makeWitnesses_47 : decode b_For_makeWitnesses 47 = .ok (.ifCond .eq 7, 3) := by decide +kernel
theorem d_For_makeWitnesses_50 : decode b_For_makeWitnesses 50 = .ok (.iconst 1, 1) := by decide +kernel
theorem d_For_makeWitnesses_51 : decode b_For_makeWitnesses 51 = .ok (.goto 4, 3) := by decide +kernel
theorem d_For_makeWitnesses_54 : decode b_For_makeWitnesses 54 = .ok (.iconst 2, 1) := by decide +kernel
theorem d_For_makeWitnesses_55 : decode b_For_makeWitnesses 55 = .ok (.invokevirtual 107, 3) := by decide +kernel
theorem d_For_makeWitnesses_58 : decode b_For_makeWitnesses 58 = .ok (.aload_n 0, 1) := by decide +kernel
theorem d_For_makeWitnesses_59 : decode b_For_makeWitnesses 59 = .ok (.iload_n 1, 1) := by decide +kernel
theorem d_For_makeWitnesses_60 : decode b_For_makeWitnesses 60 = .ok (.iload_n 2, 1) := by decide +kernel
theorem d_For_makeWitnesses_61 : decode b_For_makeWitnesses 61 = .ok (.invokevirtual 111, 3) := by decide +kernel
theorem d_For_makeWitnesses_64 : decode b_For_makeWitnesses 64 = .ok (.iinc 1 5, 3) := by decide +kernel
theorem d_For_makeWitnesses_67 : decode b_For_makeWitnesses 67 = .ok (.goto (-65), 3) := by decide +kernel
theorem d_For_makeWitnesses_70 : decode b_For_makeWitnesses 70 = .ok (.aload_n 0, 1) := by decide +kernel
theorem d_For_makeWitnesses_71 : decode b_For_makeWitnesses 71 = .ok (.getfield 24, 3) := by decide +kernel
theorem d_For_makeWitnesses_74 : decode b_For_makeWitnesses 74 = .ok (.getfield 59, 3) := by decide +kernel
theorem d_For_makeWitnesses_77 : decode b_For_makeWitnesses 77 = .ok (.bipush 7, 2) := by decide +kernel
theorem d_For_makeWitnesses_79 : decode b_For_makeWitnesses 79 = .ok (.idiv, 1) := by decide +kernel
theorem d_For_makeWitnesses_80 : decode b_For_makeWitnesses 80 = .ok (.iconst 1, 1) := by decide +kernel
theorem d_For_makeWitnesses_81 : decode b_For_makeWitnesses 81 = .ok (.isub, 1) := by decide +kernel
theorem d_For_makeWitnesses_82 : decode b_For_makeWitnesses 82 = .ok (.istore_n 1, 1) := by decide +kernel
theorem d_For_makeWitnesses_83 : decode b_For_makeWitnesses 83 = .ok (.iload_n 1, 1) := by decide +kernel
theorem d_For_makeWitnesses_84 : decode b_For_makeWitnesses 84 = .ok (.ifCond .lt 21, 3) := by decide +kernel
theorem d_For_makeWitnesses_87 : decode b_For_makeWitnesses 87 = .ok (.aload_n 0, 1) := by decide +kernel
theorem d_For_makeWitnesses_88 : decode b_For_makeWitnesses 88 = .ok (.iload_n 1, 1) := by decide +kernel
theorem d_For_makeWitnesses_89 : decode b_For_makeWitnesses 89 = .ok (.aload_n 0, 1) := by decide +kernel
theorem d_For_makeWitnesses_90 : decode b_For_makeWitnesses 90 = .ok (.iload_n 1, 1) := by decide +kernel
theorem d_For_makeWitnesses_91 : decode b_For_makeWitnesses 91 = .ok (.bipush 6, 2) := by decide +kernel
theorem d_For_makeWitnesses_93 : decode b_For_makeWitnesses 93 = .ok (.invokevirtual 104, 3) := by decide +kernel
theorem d_For_makeWitnesses_96 : decode b_For_makeWitnesses 96 = .ok (.invokevirtual 115, 3) := by decide +kernel
theorem d_For_makeWitnesses_99 : decode b_For_makeWitnesses 99 = .ok (.iinc 1 (-1), 3) := by decide +kernel
theorem d_For_makeWitnesses_102 : decode b_For_makeWitnesses 102 = .ok (.goto (-19), 3) := by decide +kernel
theorem d_For_makeWitnesses_105 : decode b_For_makeWitnesses 105 = .ok (.iconst 0, 1) := by decide +kernel
theorem d_For_makeWitnesses_106 : decode b_For_makeWitnesses 106 = .ok (.istore_n 1, 1) := by decide +kernel
theorem d_For_makeWitnesses_107 : decode b_For_makeWitnesses 107 = .ok (.iload_n 1, 1) := by decide +kernel
theorem d_For_makeWitnesses_108 : decode b_For_makeWitnesses 108 = .ok (.aload_n 0, 1) := by decide +kernel
theorem d_For_makeWitnesses_109 : decode b_For_makeWitnesses 109 = .ok (.getfield 63, 3) := by decide +kernel
theorem d_For_makeWitnesses_112 : decode b_For_makeWitnesses 112 = .ok (.if_icmp .ge 40, 3) := by decide +kernel
theorem d_For_makeWitnesses_115 : decode b_For_makeWitnesses 115 = .ok (.aload_n 0, 1) := by decide +kernel
theorem d_For_makeWitnesses_116 : decode b_For_makeWitnesses 116 = .ok (.getfield 42, 3) := by decide +kernel
theorem d_For_makeWitnesses_119 : decode b_For_makeWitnesses 119 = .ok (.iload_n 1, 1) := by decide +kernel
theorem d_For_makeWitnesses_120 : decode b_For_makeWitnesses 120 = .ok (.aload_n 0, 1) := by decide +kernel
theorem d_For_makeWitnesses_121 : decode b_For_makeWitnesses 121 = .ok (.getfield 45, 3) := by decide +kernel
theorem d_For_makeWitnesses_124 : decode b_For_makeWitnesses 124 = .ok (.iload_n 1, 1) := by decide +kernel
theorem d_For_makeWitnesses_125 : decode b_For_makeWitnesses 125 = .ok (.baload, 1) := by decide +kernel
theorem d_For_makeWitnesses_126 : decode b_For_makeWitnesses 126 = .ok (.ifCond .eq 18, 3) := by decide +kernel
theorem d_For_makeWitnesses_129 : decode b_For_makeWitnesses 129 = .ok (.aload_n 0, 1) := by decide +kernel
theorem d_For_makeWitnesses_130 : decode b_For_makeWitnesses 130 = .ok (.getfield 55, 3) := by decide +kernel
theorem d_For_makeWitnesses_133 : decode b_For_makeWitnesses 133 = .ok (.aload_n 0, 1) := by decide +kernel
theorem d_For_makeWitnesses_134 : decode b_For_makeWitnesses 134 = .ok (.iload_n 1, 1) := by decide +kernel
theorem d_For_makeWitnesses_135 : decode b_For_makeWitnesses 135 = .ok (.invokevirtual 118, 3) := by decide +kernel
theorem d_For_makeWitnesses_138 : decode b_For_makeWitnesses 138 = .ok (.invokevirtual 122, 3) := by decide +kernel
theorem d_For_makeWitnesses_141 : decode b_For_makeWitnesses 141 = .ok (.goto 4, 3) := by decide +kernel
theorem d_For_makeWitnesses_144 : decode b_For_makeWitnesses 144 = .ok (.iconst (-1), 1) := by decide +kernel
theorem d_For_makeWitnesses_145 : decode b_For_makeWitnesses 145 = .ok (.iastore, 1) := by decide +kernel
theorem d_For_makeWitnesses_146 : decode b_For_makeWitnesses 146 = .ok (.iinc 1 1, 3) := by decide +kernel
theorem d_For_makeWitnesses_149 : decode b_For_makeWitnesses 149 = .ok (.goto (-42), 3) := by decide +kernel
theorem d_For_makeWitnesses_152 : decode b_For_makeWitnesses 152 = .ok (.return_, 1) := by decide +kernel
abbrev b_For_reach : ByteArray := prog_3_method_14_code
def y_For_reach : MethodName := ⟨"ClauseProver$Formulas", "reach", "(II)V"⟩
theorem d_For_reach_0 : decode b_For_reach 0 = .ok (.aload_n 0, 1) := by decide +kernel
theorem d_For_reach_1 : decode b_For_reach 1 = .ok (.getfield 24, 3) := by decide +kernel
theorem d_For_reach_4 : decode b_For_reach 4 = .ok (.getfield 75, 3) := by decide +kernel
theorem d_For_reach_7 : decode b_For_reach 7 = .ok (.iload_n 1, 1) := by decide +kernel
theorem d_For_reach_8 : decode b_For_reach 8 = .ok (.bipush 7, 2) := by decide +kernel
theorem d_For_reach_10 : decode b_For_reach 10 = .ok (.imul, 1) := by decide +kernel
theorem d_For_reach_11 : decode b_For_reach 11 = .ok (.bipush 6, 2) := by decide +kernel
theorem d_For_reach_13 : decode b_For_reach 13 = .ok (.iadd, 1) := by decide +kernel
theorem d_For_reach_14 : decode b_For_reach 14 = .ok (.dup2, 1) := by decide +kernel
theorem d_For_reach_15 : decode b_For_reach 15 = .ok (.iaload, 1) := by decide +kernel
theorem d_For_reach_16 : decode b_For_reach 16 = .ok (.iload_n 2, 1) := by decide +kernel
theorem d_For_reach_17 : decode b_For_reach 17 = .ok (.ior, 1) := by decide +kernel
theorem d_For_reach_18 : decode b_For_reach 18 = .ok (.iastore, 1) := by decide +kernel
theorem d_For_reach_19 : decode b_For_reach 19 = .ok (.return_, 1) := by decide +kernel
abbrev b_For_reachParts : ByteArray := prog_3_method_15_code
def y_For_reachParts : MethodName := ⟨"ClauseProver$Formulas", "reachParts", "(II)V"⟩
theorem d_For_reachParts_0 : decode b_For_reachParts 0 = .ok (.iload_n 2, 1) := by decide +kernel
theorem d_For_reachParts_1 : decode b_For_reachParts 1 = .ok (.iconst 1, 1) := by decide +kernel
theorem d_For_reachParts_2 : decode b_For_reachParts 2 = .ok (.ishr, 1) := by decide +kernel
theorem d_For_reachParts_3 : decode b_For_reachParts 3 = .ok (.iload_n 2, 1) := by decide +kernel
theorem d_For_reachParts_4 : decode b_For_reachParts 4 = .ok (.iconst 1, 1) := by decide +kernel
theorem d_For_reachParts_5 : decode b_For_reachParts 5 = .ok (.iand, 1) := by decide +kernel
theorem d_For_reachParts_6 : decode b_For_reachParts 6 = .ok (.iconst 1, 1) := by decide +kernel
theorem d_For_reachParts_7 : decode b_For_reachParts 7 = .ok (.ishl, 1) := by decide +kernel
theorem d_For_reachParts_8 : decode b_For_reachParts 8 = .ok (.ior, 1) := by decide +kernel
theorem d_For_reachParts_9 : decode b_For_reachParts 9 = .ok (.istore_n 3, 1) := by decide +kernel
theorem d_For_reachParts_10 : decode b_For_reachParts 10 = .ok (.aload_n 0, 1) := by decide +kernel
theorem d_For_reachParts_11 : decode b_For_reachParts 11 = .ok (.iload_n 1, 1) := by decide +kernel
theorem d_For_reachParts_12 : decode b_For_reachParts 12 = .ok (.iconst 1, 1) := by decide +kernel
theorem d_For_reachParts_13 : decode b_For_reachParts 13 = .ok (.invokevirtual 104, 3) := by decide +kernel
theorem d_For_reachParts_16 : decode b_For_reachParts 16 = .ok (.istore 4, 2) := by decide +kernel
theorem d_For_reachParts_18 : decode b_For_reachParts 18 = .ok (.aload_n 0, 1) := by decide +kernel
theorem d_For_reachParts_19 : decode b_For_reachParts 19 = .ok (.iload_n 1, 1) := by decide +kernel
theorem d_For_reachParts_20 : decode b_For_reachParts 20 = .ok (.iconst 2, 1) := by decide +kernel
theorem d_For_reachParts_21 : decode b_For_reachParts 21 = .ok (.invokevirtual 104, 3) := by decide +kernel
theorem d_For_reachParts_24 : decode b_For_reachParts 24 = .ok (.istore 5, 2) := by decide +kernel
theorem d_For_reachParts_26 : decode b_For_reachParts 26 = .ok (.aload_n 0, 1) := by decide +kernel
theorem d_For_reachParts_27 : decode b_For_reachParts 27 = .ok (.iload_n 1, 1) := by decide +kernel
theorem d_For_reachParts_28 : decode b_For_reachParts 28 = .ok (.iconst 0, 1) := by decide +kernel
theorem d_For_reachParts_29 : decode b_For_reachParts 29 = .ok (.invokevirtual 104, 3) := by decide +kernel
theorem d_For_reachParts_32 : decode b_For_reachParts 32 = .ok (.tableswitch 148 11 17 #[44, 54, 54, 97, 97, 114, 131], 44) := by decide +kernel
theorem d_For_reachParts_76 : decode b_For_reachParts 76 = .ok (.aload_n 0, 1) := by decide +kernel
theorem d_For_reachParts_77 : decode b_For_reachParts 77 = .ok (.iload 4, 2) := by decide +kernel
theorem d_For_reachParts_79 : decode b_For_reachParts 79 = .ok (.iload_n 3, 1) := by decide +kernel
theorem d_For_reachParts_80 : decode b_For_reachParts 80 = .ok (.invokevirtual 107, 3) := by decide +kernel
theorem d_For_reachParts_83 : decode b_For_reachParts 83 = .ok (.goto 97, 3) := by decide +kernel
theorem d_For_reachParts_86 : decode b_For_reachParts 86 = .ok (.aload_n 0, 1) := by decide +kernel
theorem d_For_reachParts_87 : decode b_For_reachParts 87 = .ok (.iload 4, 2) := by decide +kernel
theorem d_For_reachParts_89 : decode b_For_reachParts 89 = .ok (.iload_n 2, 1) := by decide +kernel
theorem d_For_reachParts_90 : decode b_For_reachParts 90 = .ok (.invokevirtual 107, 3) := by decide +kernel
theorem d_For_reachParts_93 : decode b_For_reachParts 93 = .ok (.aload_n 0, 1) := by decide +kernel
theorem d_For_reachParts_94 : decode b_For_reachParts 94 = .ok (.getfield 45, 3) := by decide +kernel
theorem d_For_reachParts_97 : decode b_For_reachParts 97 = .ok (.iload 5, 2) := by decide +kernel
theorem d_For_reachParts_99 : decode b_For_reachParts 99 = .ok (.iload_n 2, 1) := by decide +kernel
theorem d_For_reachParts_100 : decode b_For_reachParts 100 = .ok (.aload_n 0, 1) := by decide +kernel
theorem d_For_reachParts_101 : decode b_For_reachParts 101 = .ok (.iload_n 1, 1) := by decide +kernel
theorem d_For_reachParts_102 : decode b_For_reachParts 102 = .ok (.iconst 0, 1) := by decide +kernel
theorem d_For_reachParts_103 : decode b_For_reachParts 103 = .ok (.invokevirtual 104, 3) := by decide +kernel
theorem d_For_reachParts_106 : decode b_For_reachParts 106 = .ok (.bipush 13, 2) := by decide +kernel
theorem d_For_reachParts_108 : decode b_For_reachParts 108 = .ok (.if_icmp .ne 7, 3) := by decide +kernel
theorem d_For_reachParts_111 : decode b_For_reachParts 111 = .ok (.iconst 2, 1) := by decide +kernel
theorem d_For_reachParts_112 : decode b_For_reachParts 112 = .ok (.goto 4, 3) := by decide +kernel
theorem d_For_reachParts_115 : decode b_For_reachParts 115 = .ok (.iconst 1, 1) := by decide +kernel
theorem d_For_reachParts_116 : decode b_For_reachParts 116 = .ok (.iand, 1) := by decide +kernel
theorem d_For_reachParts_117 : decode b_For_reachParts 117 = .ok (.ifCond .eq 7, 3) := by decide +kernel
theorem d_For_reachParts_120 : decode b_For_reachParts 120 = .ok (.iconst 1, 1) := by decide +kernel
theorem d_For_reachParts_121 : decode b_For_reachParts 121 = .ok (.goto 4, 3) := by decide +kernel
theorem d_For_reachParts_124 : decode b_For_reachParts 124 = .ok (.iconst 0, 1) := by decide +kernel
theorem d_For_reachParts_125 : decode b_For_reachParts 125 = .ok (.bastore, 1) := by decide +kernel
theorem d_For_reachParts_126 : decode b_For_reachParts 126 = .ok (.goto 54, 3) := by decide +kernel
theorem d_For_reachParts_129 : decode b_For_reachParts 129 = .ok (.aload_n 0, 1) := by decide +kernel
theorem d_For_reachParts_130 : decode b_For_reachParts 130 = .ok (.iload 4, 2) := by decide +kernel
theorem d_For_reachParts_132 : decode b_For_reachParts 132 = .ok (.iload_n 2, 1) := by decide +kernel
theorem d_For_reachParts_133 : decode b_For_reachParts 133 = .ok (.invokevirtual 107, 3) := by decide +kernel
theorem d_For_reachParts_136 : decode b_For_reachParts 136 = .ok (.aload_n 0, 1) := by decide +kernel
theorem d_For_reachParts_137 : decode b_For_reachParts 137 = .ok (.iload 5, 2) := by decide +kernel
theorem d_For_reachParts_139 : decode b_For_reachParts 139 = .ok (.iload_n 2, 1) := by decide +kernel
theorem d_For_reachParts_140 : decode b_For_reachParts 140 = .ok (.invokevirtual 107, 3) := by decide +kernel
theorem d_For_reachParts_143 : decode b_For_reachParts 143 = .ok (.goto 37, 3) := by decide +kernel
theorem d_For_reachParts_146 : decode b_For_reachParts 146 = .ok (.aload_n 0, 1) := by decide +kernel
theorem d_For_reachParts_147 : decode b_For_reachParts 147 = .ok (.iload 4, 2) := by decide +kernel
theorem d_For_reachParts_149 : decode b_For_reachParts 149 = .ok (.iload_n 3, 1) := by decide +kernel
theorem d_For_reachParts_150 : decode b_For_reachParts 150 = .ok (.invokevirtual 107, 3) := by decide +kernel
theorem d_For_reachParts_153 : decode b_For_reachParts 153 = .ok (.aload_n 0, 1) := by decide +kernel
theorem d_For_reachParts_154 : decode b_For_reachParts 154 = .ok (.iload 5, 2) := by decide +kernel
theorem d_For_reachParts_156 : decode b_For_reachParts 156 = .ok (.iload_n 2, 1) := by decide +kernel
theorem d_For_reachParts_157 : decode b_For_reachParts 157 = .ok (.invokevirtual 107, 3) := by decide +kernel
theorem d_For_reachParts_160 : decode b_For_reachParts 160 = .ok (.goto 20, 3) := by decide +kernel
theorem d_For_reachParts_163 : decode b_For_reachParts 163 = .ok (.aload_n 0, 1) := by decide +kernel
theorem d_For_reachParts_164 : decode b_For_reachParts 164 = .ok (.iload 4, 2) := by decide +kernel
theorem d_For_reachParts_166 : decode b_For_reachParts 166 = .ok (.iconst 3, 1) := by decide +kernel
theorem d_For_reachParts_167 : decode b_For_reachParts 167 = .ok (.invokevirtual 107, 3) := by decide +kernel
theorem d_For_reachParts_170 : decode b_For_reachParts 170 = .ok (.aload_n 0, 1) := by decide +kernel
theorem d_For_reachParts_171 : decode b_For_reachParts 171 = .ok (.iload 5, 2) := by decide +kernel
theorem d_For_reachParts_173 : decode b_For_reachParts 173 = .ok (.iconst 3, 1) := by decide +kernel
theorem d_For_reachParts_174 : decode b_For_reachParts 174 = .ok (.invokevirtual 107, 3) := by decide +kernel
theorem d_For_reachParts_177 : decode b_For_reachParts 177 = .ok (.goto 3, 3) := by decide +kernel
theorem d_For_reachParts_180 : decode b_For_reachParts 180 = .ok (.return_, 1) := by decide +kernel
abbrev b_For_replaceFree : ByteArray := prog_3_method_13_code
def y_For_replaceFree : MethodName := ⟨"ClauseProver$Formulas", "replaceFree", "(IZ)V"⟩
theorem d_For_replaceFree_0 : decode b_For_replaceFree 0 = .ok (.aload_n 0, 1) := by decide +kernel
theorem d_For_replaceFree_1 : decode b_For_replaceFree 1 = .ok (.getfield 27, 3) := by decide +kernel
theorem d_For_replaceFree_4 : decode b_For_replaceFree 4 = .ok (.getfield 75, 3) := by decide +kernel
theorem d_For_replaceFree_7 : decode b_For_replaceFree 7 = .ok (.iload_n 1, 1) := by decide +kernel
theorem d_For_replaceFree_8 : decode b_For_replaceFree 8 = .ok (.iconst 3, 1) := by decide +kernel
theorem d_For_replaceFree_9 : decode b_For_replaceFree 9 = .ok (.iadd, 1) := by decide +kernel
theorem d_For_replaceFree_10 : decode b_For_replaceFree 10 = .ok (.iaload, 1) := by decide +kernel
theorem d_For_replaceFree_11 : decode b_For_replaceFree 11 = .ok (.istore_n 3, 1) := by decide +kernel
theorem d_For_replaceFree_12 : decode b_For_replaceFree 12 = .ok (.iload_n 3, 1) := by decide +kernel
theorem d_For_replaceFree_13 : decode b_For_replaceFree 13 = .ok (.aload_n 0, 1) := by decide +kernel
theorem d_For_replaceFree_14 : decode b_For_replaceFree 14 = .ok (.getfield 27, 3) := by decide +kernel
theorem d_For_replaceFree_17 : decode b_For_replaceFree 17 = .ok (.getfield 75, 3) := by decide +kernel
theorem d_For_replaceFree_20 : decode b_For_replaceFree 20 = .ok (.iload_n 1, 1) := by decide +kernel
theorem d_For_replaceFree_21 : decode b_For_replaceFree 21 = .ok (.iconst 4, 1) := by decide +kernel
theorem d_For_replaceFree_22 : decode b_For_replaceFree 22 = .ok (.iadd, 1) := by decide +kernel
theorem d_For_replaceFree_23 : decode b_For_replaceFree 23 = .ok (.iaload, 1) := by decide +kernel
theorem d_For_replaceFree_24 : decode b_For_replaceFree 24 = .ok (.if_icmp .ge 21, 3) := by decide +kernel
theorem d_For_replaceFree_27 : decode b_For_replaceFree 27 = .ok (.aload_n 0, 1) := by decide +kernel
theorem d_For_replaceFree_28 : decode b_For_replaceFree 28 = .ok (.getfield 45, 3) := by decide +kernel
theorem d_For_replaceFree_31 : decode b_For_replaceFree 31 = .ok (.aload_n 0, 1) := by decide +kernel
theorem d_For_replaceFree_32 : decode b_For_replaceFree 32 = .ok (.getfield 49, 3) := by decide +kernel
theorem d_For_replaceFree_35 : decode b_For_replaceFree 35 = .ok (.iload_n 3, 1) := by decide +kernel
theorem d_For_replaceFree_36 : decode b_For_replaceFree 36 = .ok (.iaload, 1) := by decide +kernel
theorem d_For_replaceFree_37 : decode b_For_replaceFree 37 = .ok (.iload_n 2, 1) := by decide +kernel
theorem d_For_replaceFree_38 : decode b_For_replaceFree 38 = .ok (.bastore, 1) := by decide +kernel
theorem d_For_replaceFree_39 : decode b_For_replaceFree 39 = .ok (.iinc 3 1, 3) := by decide +kernel
theorem d_For_replaceFree_42 : decode b_For_replaceFree 42 = .ok (.goto (-30), 3) := by decide +kernel
theorem d_For_replaceFree_45 : decode b_For_replaceFree 45 = .ok (.return_, 1) := by decide +kernel
abbrev b_For_variableOf : ByteArray := prog_3_method_6_code
def y_For_variableOf : MethodName := ⟨"ClauseProver$Formulas", "variableOf", "(LClauseProver$Words;)I"⟩
theorem d_For_variableOf_0 : decode b_For_variableOf 0 = .ok (.aload_n 0, 1) := by decide +kernel
theorem d_For_variableOf_1 : decode b_For_variableOf 1 = .ok (.getfield 69, 3) := by decide +kernel
theorem d_For_variableOf_4 : decode b_For_variableOf 4 = .ok (.istore_n 2, 1) := by decide +kernel
theorem d_For_variableOf_5 : decode b_For_variableOf 5 = .ok (.iconst 0, 1) := by decide +kernel
theorem d_For_variableOf_6 : decode b_For_variableOf 6 = .ok (.istore_n 3, 1) := by decide +kernel
theorem d_For_variableOf_7 : decode b_For_variableOf 7 = .ok (.iload_n 3, 1) := by decide +kernel
theorem d_For_variableOf_8 : decode b_For_variableOf 8 = .ok (.sipush 300, 3) := by decide +kernel
theorem d_For_variableOf_11 : decode b_For_variableOf 11 = .ok (.if_icmp .ge 32, 3) := by decide +kernel
theorem d_For_variableOf_14 : decode b_For_variableOf 14 = .ok (.iload_n 2, 1) := by decide +kernel
theorem d_For_variableOf_15 : decode b_For_variableOf 15 = .ok (.iconst (-1), 1) := by decide +kernel
theorem d_For_variableOf_16 : decode b_For_variableOf 16 = .ok (.if_icmp .eq 27, 3) := by decide +kernel
theorem d_For_variableOf_19 : decode b_For_variableOf 19 = .ok (.aload_n 0, 1) := by decide +kernel
theorem d_For_variableOf_20 : decode b_For_variableOf 20 = .ok (.iload_n 2, 1) := by decide +kernel
theorem d_For_variableOf_21 : decode b_For_variableOf 21 = .ok (.aload_n 1, 1) := by decide +kernel
theorem d_For_variableOf_22 : decode b_For_variableOf 22 = .ok (.invokevirtual 82, 3) := by decide +kernel
theorem d_For_variableOf_25 : decode b_For_variableOf 25 = .ok (.ifCond .eq 5, 3) := by decide +kernel
theorem d_For_variableOf_28 : decode b_For_variableOf 28 = .ok (.iload_n 2, 1) := by decide +kernel
theorem d_For_variableOf_29 : decode b_For_variableOf 29 = .ok (.ireturn, 1) := by decide +kernel
theorem d_For_variableOf_30 : decode b_For_variableOf 30 = .ok (.aload_n 0, 1) := by decide +kernel
theorem d_For_variableOf_31 : decode b_For_variableOf 31 = .ok (.getfield 20, 3) := by decide +kernel
theorem d_For_variableOf_34 : decode b_For_variableOf 34 = .ok (.iload_n 2, 1) := by decide +kernel
theorem d_For_variableOf_35 : decode b_For_variableOf 35 = .ok (.iaload, 1) := by decide +kernel
theorem d_For_variableOf_36 : decode b_For_variableOf 36 = .ok (.istore_n 2, 1) := by decide +kernel
theorem d_For_variableOf_37 : decode b_For_variableOf 37 = .ok (.iinc 3 1, 3) := by decide +kernel
theorem d_For_variableOf_40 : decode b_For_variableOf 40 = .ok (.goto (-33), 3) := by decide +kernel
theorem d_For_variableOf_43 : decode b_For_variableOf 43 = .ok (.aload_n 0, 1) := by decide +kernel
theorem d_For_variableOf_44 : decode b_For_variableOf 44 = .ok (.getfield 27, 3) := by decide +kernel
theorem d_For_variableOf_47 : decode b_For_variableOf 47 = .ok (.getfield 59, 3) := by decide +kernel
theorem d_For_variableOf_50 : decode b_For_variableOf 50 = .ok (.iconst 5, 1) := by decide +kernel
theorem d_For_variableOf_51 : decode b_For_variableOf 51 = .ok (.isub, 1) := by decide +kernel
theorem d_For_variableOf_52 : decode b_For_variableOf 52 = .ok (.istore_n 3, 1) := by decide +kernel
theorem d_For_variableOf_53 : decode b_For_variableOf 53 = .ok (.aload_n 0, 1) := by decide +kernel
theorem d_For_variableOf_54 : decode b_For_variableOf 54 = .ok (.getfield 27, 3) := by decide +kernel
theorem d_For_variableOf_57 : decode b_For_variableOf 57 = .ok (.getfield 75, 3) := by decide +kernel
theorem d_For_variableOf_60 : decode b_For_variableOf 60 = .ok (.iload_n 3, 1) := by decide +kernel
theorem d_For_variableOf_61 : decode b_For_variableOf 61 = .ok (.iconst 3, 1) := by decide +kernel
theorem d_For_variableOf_62 : decode b_For_variableOf 62 = .ok (.iadd, 1) := by decide +kernel
theorem d_For_variableOf_63 : decode b_For_variableOf 63 = .ok (.iaload, 1) := by decide +kernel
theorem d_For_variableOf_64 : decode b_For_variableOf 64 = .ok (.istore 4, 2) := by decide +kernel
theorem d_For_variableOf_66 : decode b_For_variableOf 66 = .ok (.iload 4, 2) := by decide +kernel
theorem d_For_variableOf_68 : decode b_For_variableOf 68 = .ok (.aload_n 0, 1) := by decide +kernel
theorem d_For_variableOf_69 : decode b_For_variableOf 69 = .ok (.getfield 66, 3) := by decide +kernel
theorem d_For_variableOf_72 : decode b_For_variableOf 72 = .ok (.if_icmp .ge 32, 3) := by decide +kernel
theorem d_For_variableOf_75 : decode b_For_variableOf 75 = .ok (.aload_n 0, 1) := by decide +kernel
theorem d_For_variableOf_76 : decode b_For_variableOf 76 = .ok (.aload_n 0, 1) := by decide +kernel
theorem d_For_variableOf_77 : decode b_For_variableOf 77 = .ok (.getfield 49, 3) := by decide +kernel
theorem d_For_variableOf_80 : decode b_For_variableOf 80 = .ok (.iload 4, 2) := by decide +kernel
theorem d_For_variableOf_82 : decode b_For_variableOf 82 = .ok (.iaload, 1) := by decide +kernel
theorem d_For_variableOf_83 : decode b_For_variableOf 83 = .ok (.aload_n 1, 1) := by decide +kernel
theorem d_For_variableOf_84 : decode b_For_variableOf 84 = .ok (.invokevirtual 82, 3) := by decide +kernel
theorem d_For_variableOf_87 : decode b_For_variableOf 87 = .ok (.ifCond .eq 11, 3) := by decide +kernel
theorem d_For_variableOf_90 : decode b_For_variableOf 90 = .ok (.aload_n 0, 1) := by decide +kernel
theorem d_For_variableOf_91 : decode b_For_variableOf 91 = .ok (.getfield 49, 3) := by decide +kernel
theorem d_For_variableOf_94 : decode b_For_variableOf 94 = .ok (.iload 4, 2) := by decide +kernel
theorem d_For_variableOf_96 : decode b_For_variableOf 96 = .ok (.iaload, 1) := by decide +kernel
theorem d_For_variableOf_97 : decode b_For_variableOf 97 = .ok (.ireturn, 1) := by decide +kernel
theorem d_For_variableOf_98 : decode b_For_variableOf 98 = .ok (.iinc 4 1, 3) := by decide +kernel
theorem d_For_variableOf_101 : decode b_For_variableOf 101 = .ok (.goto (-35), 3) := by decide +kernel
theorem d_For_variableOf_104 : decode b_For_variableOf 104 = .ok (.aload_n 0, 1) := by decide +kernel
theorem d_For_variableOf_105 : decode b_For_variableOf 105 = .ok (.aload_n 1, 1) := by decide +kernel
theorem d_For_variableOf_106 : decode b_For_variableOf 106 = .ok (.invokevirtual 78, 3) := by decide +kernel
theorem d_For_variableOf_109 : decode b_For_variableOf 109 = .ok (.istore_n 2, 1) := by decide +kernel
theorem d_For_variableOf_110 : decode b_For_variableOf 110 = .ok (.iload_n 2, 1) := by decide +kernel
theorem d_For_variableOf_111 : decode b_For_variableOf 111 = .ok (.iconst (-1), 1) := by decide +kernel
theorem d_For_variableOf_112 : decode b_For_variableOf 112 = .ok (.if_icmp .eq 65, 3) := by decide +kernel
theorem d_For_variableOf_115 : decode b_For_variableOf 115 = .ok (.aload_n 0, 1) := by decide +kernel
theorem d_For_variableOf_116 : decode b_For_variableOf 116 = .ok (.getfield 20, 3) := by decide +kernel
theorem d_For_variableOf_119 : decode b_For_variableOf 119 = .ok (.iload_n 2, 1) := by decide +kernel
theorem d_For_variableOf_120 : decode b_For_variableOf 120 = .ok (.bipush (-2), 2) := by decide +kernel
theorem d_For_variableOf_122 : decode b_For_variableOf 122 = .ok (.iastore, 1) := by decide +kernel
theorem d_For_variableOf_123 : decode b_For_variableOf 123 = .ok (.aload_n 0, 1) := by decide +kernel
theorem d_For_variableOf_124 : decode b_For_variableOf 124 = .ok (.getfield 36, 3) := by decide +kernel
theorem d_For_variableOf_127 : decode b_For_variableOf 127 = .ok (.iload_n 2, 1) := by decide +kernel
theorem d_For_variableOf_128 : decode b_For_variableOf 128 = .ok (.aload_n 0, 1) := by decide +kernel
theorem d_For_variableOf_129 : decode b_For_variableOf 129 = .ok (.getfield 66, 3) := by decide +kernel
theorem d_For_variableOf_132 : decode b_For_variableOf 132 = .ok (.aload_n 0, 1) := by decide +kernel
theorem d_For_variableOf_133 : decode b_For_variableOf 133 = .ok (.getfield 27, 3) := by decide +kernel
theorem d_For_variableOf_136 : decode b_For_variableOf 136 = .ok (.getfield 75, 3) := by decide +kernel
theorem d_For_variableOf_139 : decode b_For_variableOf 139 = .ok (.iload_n 3, 1) := by decide +kernel
theorem d_For_variableOf_140 : decode b_For_variableOf 140 = .ok (.iconst 3, 1) := by decide +kernel
theorem d_For_variableOf_141 : decode b_For_variableOf 141 = .ok (.iadd, 1) := by decide +kernel
theorem d_For_variableOf_142 : decode b_For_variableOf 142 = .ok (.iaload, 1) := by decide +kernel
theorem d_For_variableOf_143 : decode b_For_variableOf 143 = .ok (.isub, 1) := by decide +kernel
theorem d_For_variableOf_144 : decode b_For_variableOf 144 = .ok (.iastore, 1) := by decide +kernel
theorem d_For_variableOf_145 : decode b_For_variableOf 145 = .ok (.aload_n 0, 1) := by decide +kernel
theorem d_For_variableOf_146 : decode b_For_variableOf 146 = .ok (.getfield 49, 3) := by decide +kernel
theorem d_For_variableOf_149 : decode b_For_variableOf 149 = .ok (.aload_n 0, 1) := by decide +kernel
theorem d_For_variableOf_150 : decode b_For_variableOf 150 = .ok (.dup, 1) := by decide +kernel
theorem d_For_variableOf_151 : decode b_For_variableOf 151 = .ok (.getfield 66, 3) := by decide +kernel
theorem d_For_variableOf_154 : decode b_For_variableOf 154 = .ok (.dup_x1, 1) := by decide +kernel
theorem d_For_variableOf_155 : decode b_For_variableOf 155 = .ok (.iconst 1, 1) := by decide +kernel
theorem d_For_variableOf_156 : decode b_For_variableOf 156 = .ok (.iadd, 1) := by decide +kernel
theorem d_For_variableOf_157 : decode b_For_variableOf 157 = .ok (.putfield 66, 3) := by decide +kernel
theorem d_For_variableOf_160 : decode b_For_variableOf 160 = .ok (.iload_n 2, 1) := by decide +kernel
theorem d_For_variableOf_161 : decode b_For_variableOf 161 = .ok (.iastore, 1) := by decide +kernel
theorem d_For_variableOf_162 : decode b_For_variableOf 162 = .ok (.aload_n 0, 1) := by decide +kernel
theorem d_For_variableOf_163 : decode b_For_variableOf 163 = .ok (.getfield 27, 3) := by decide +kernel
theorem d_For_variableOf_166 : decode b_For_variableOf 166 = .ok (.getfield 75, 3) := by decide +kernel
theorem d_For_variableOf_169 : decode b_For_variableOf 169 = .ok (.iload_n 3, 1) := by decide +kernel
theorem d_For_variableOf_170 : decode b_For_variableOf 170 = .ok (.iconst 4, 1) := by decide +kernel
theorem d_For_variableOf_171 : decode b_For_variableOf 171 = .ok (.iadd, 1) := by decide +kernel
theorem d_For_variableOf_172 : decode b_For_variableOf 172 = .ok (.aload_n 0, 1) := by decide +kernel
theorem d_For_variableOf_173 : decode b_For_variableOf 173 = .ok (.getfield 66, 3) := by decide +kernel
theorem d_For_variableOf_176 : decode b_For_variableOf 176 = .ok (.iastore, 1) := by decide +kernel
theorem d_For_variableOf_177 : decode b_For_variableOf 177 = .ok (.iload_n 2, 1) := by decide +kernel
theorem d_For_variableOf_178 : decode b_For_variableOf 178 = .ok (.ireturn, 1) := by decide +kernel
abbrev b_For_writeLiteral : ByteArray := prog_3_method_24_code
def y_For_writeLiteral : MethodName := ⟨"ClauseProver$Formulas", "writeLiteral", "(LClauseProver$Draft;ZII)V"⟩
theorem d_For_writeLiteral_0 : decode b_For_writeLiteral 0 = .ok (.aload_n 1, 1) := by decide +kernel
theorem d_For_writeLiteral_1 : decode b_For_writeLiteral 1 = .ok (.iload_n 2, 1) := by decide +kernel
theorem d_For_writeLiteral_2 : decode b_For_writeLiteral 2 = .ok (.invokevirtual 176, 3) := by decide +kernel
theorem d_For_writeLiteral_5 : decode b_For_writeLiteral 5 = .ok (.aload_n 0, 1) := by decide +kernel
theorem d_For_writeLiteral_6 : decode b_For_writeLiteral 6 = .ok (.aload_n 1, 1) := by decide +kernel
theorem d_For_writeLiteral_7 : decode b_For_writeLiteral 7 = .ok (.iload_n 3, 1) := by decide +kernel
theorem d_For_writeLiteral_8 : decode b_For_writeLiteral 8 = .ok (.invokevirtual 180, 3) := by decide +kernel
theorem d_For_writeLiteral_11 : decode b_For_writeLiteral 11 = .ok (.aload_n 1, 1) := by decide +kernel
theorem d_For_writeLiteral_12 : decode b_For_writeLiteral 12 = .ok (.invokevirtual 184, 3) := by decide +kernel
theorem d_For_writeLiteral_15 : decode b_For_writeLiteral 15 = .ok (.iload 4, 2) := by decide +kernel
theorem d_For_writeLiteral_17 : decode b_For_writeLiteral 17 = .ok (.iconst (-1), 1) := by decide +kernel
theorem d_For_writeLiteral_18 : decode b_For_writeLiteral 18 = .ok (.if_icmp .ne 11, 3) := by decide +kernel
theorem d_For_writeLiteral_21 : decode b_For_writeLiteral 21 = .ok (.aload_n 1, 1) := by decide +kernel
theorem d_For_writeLiteral_22 : decode b_For_writeLiteral 22 = .ok (.iconst 0, 1) := by decide +kernel
theorem d_For_writeLiteral_23 : decode b_For_writeLiteral 23 = .ok (.invokevirtual 187, 3) := by decide +kernel
theorem d_For_writeLiteral_26 : decode b_For_writeLiteral 26 = .ok (.goto 10, 3) := by decide +kernel
theorem d_For_writeLiteral_29 : decode b_For_writeLiteral 29 = .ok (.aload_n 0, 1) := by decide +kernel
theorem d_For_writeLiteral_30 : decode b_For_writeLiteral 30 = .ok (.aload_n 1, 1) := by decide +kernel
theorem d_For_writeLiteral_31 : decode b_For_writeLiteral 31 = .ok (.iload 4, 2) := by decide +kernel
theorem d_For_writeLiteral_33 : decode b_For_writeLiteral 33 = .ok (.invokevirtual 180, 3) := by decide +kernel
theorem d_For_writeLiteral_36 : decode b_For_writeLiteral 36 = .ok (.aload_n 1, 1) := by decide +kernel
theorem d_For_writeLiteral_37 : decode b_For_writeLiteral 37 = .ok (.invokevirtual 190, 3) := by decide +kernel
theorem d_For_writeLiteral_40 : decode b_For_writeLiteral 40 = .ok (.return_, 1) := by decide +kernel
abbrev b_For_writeTerm : ByteArray := prog_3_method_25_code
def y_For_writeTerm : MethodName := ⟨"ClauseProver$Formulas", "writeTerm", "(LClauseProver$Draft;I)V"⟩
theorem d_For_writeTerm_0 : decode b_For_writeTerm 0 = .ok (.aload_n 0, 1) := by decide +kernel
theorem d_For_writeTerm_1 : decode b_For_writeTerm 1 = .ok (.getfield 55, 3) := by decide +kernel
theorem d_For_writeTerm_4 : decode b_For_writeTerm 4 = .ok (.aload_n 0, 1) := by decide +kernel
theorem d_For_writeTerm_5 : decode b_For_writeTerm 5 = .ok (.getfield 14, 3) := by decide +kernel
theorem d_For_writeTerm_8 : decode b_For_writeTerm 8 = .ok (.getfield 75, 3) := by decide +kernel
theorem d_For_writeTerm_11 : decode b_For_writeTerm 11 = .ok (.iload_n 2, 1) := by decide +kernel
theorem d_For_writeTerm_12 : decode b_For_writeTerm 12 = .ok (.invokevirtual 193, 3) := by decide +kernel
theorem d_For_writeTerm_15 : decode b_For_writeTerm 15 = .ok (.istore_n 3, 1) := by decide +kernel
theorem d_For_writeTerm_16 : decode b_For_writeTerm 16 = .ok (.iload_n 2, 1) := by decide +kernel
theorem d_For_writeTerm_17 : decode b_For_writeTerm 17 = .ok (.istore 4, 2) := by decide +kernel
theorem d_For_writeTerm_19 : decode b_For_writeTerm 19 = .ok (.iload 4, 2) := by decide +kernel
theorem d_For_writeTerm_21 : decode b_For_writeTerm 21 = .ok (.iload_n 3, 1) := by decide +kernel
theorem d_For_writeTerm_22 : decode b_For_writeTerm 22 = .ok (.if_icmp .ge 64, 3) := by decide +kernel
theorem d_For_writeTerm_25 : decode b_For_writeTerm 25 = .ok (.aload_n 1, 1) := by decide +kernel
theorem d_For_writeTerm_26 : decode b_For_writeTerm 26 = .ok (.getfield 135, 3) := by decide +kernel
theorem d_For_writeTerm_29 : decode b_For_writeTerm 29 = .ok (.ifCond .ne 57, 3) := by decide +kernel
theorem d_For_writeTerm_32 : decode b_For_writeTerm 32 = .ok (.aload_n 0, 1) := by decide +kernel
theorem d_For_writeTerm_33 : decode b_For_writeTerm 33 = .ok (.getfield 14, 3) := by decide +kernel
theorem d_For_writeTerm_36 : decode b_For_writeTerm 36 = .ok (.getfield 75, 3) := by decide +kernel
theorem d_For_writeTerm_39 : decode b_For_writeTerm 39 = .ok (.iload 4, 2) := by decide +kernel
theorem d_For_writeTerm_41 : decode b_For_writeTerm 41 = .ok (.iaload, 1) := by decide +kernel
theorem d_For_writeTerm_42 : decode b_For_writeTerm 42 = .ok (.ifCond .ge 24, 3) := by decide +kernel
theorem d_For_writeTerm_45 : decode b_For_writeTerm 45 = .ok (.aload_n 0, 1) := by decide +kernel
theorem d_For_writeTerm_46 : decode b_For_writeTerm 46 = .ok (.aload_n 1, 1) := by decide +kernel
theorem d_For_writeTerm_47 : decode b_For_writeTerm 47 = .ok (.aload_n 0, 1) := by decide +kernel
theorem d_For_writeTerm_48 : decode b_For_writeTerm 48 = .ok (.getfield 14, 3) := by decide +kernel
theorem d_For_writeTerm_51 : decode b_For_writeTerm 51 = .ok (.getfield 75, 3) := by decide +kernel
theorem d_For_writeTerm_54 : decode b_For_writeTerm 54 = .ok (.iload 4, 2) := by decide +kernel
theorem d_For_writeTerm_56 : decode b_For_writeTerm 56 = .ok (.iaload, 1) := by decide +kernel
theorem d_For_writeTerm_57 : decode b_For_writeTerm 57 = .ok (.iconst (-1), 1) := by decide +kernel
theorem d_For_writeTerm_58 : decode b_For_writeTerm 58 = .ok (.ixor, 1) := by decide +kernel
theorem d_For_writeTerm_59 : decode b_For_writeTerm 59 = .ok (.iconst 0, 1) := by decide +kernel
theorem d_For_writeTerm_60 : decode b_For_writeTerm 60 = .ok (.invokevirtual 197, 3) := by decide +kernel
theorem d_For_writeTerm_63 : decode b_For_writeTerm 63 = .ok (.goto 17, 3) := by decide +kernel
theorem d_For_writeTerm_66 : decode b_For_writeTerm 66 = .ok (.aload_n 1, 1) := by decide +kernel
theorem d_For_writeTerm_67 : decode b_For_writeTerm 67 = .ok (.aload_n 0, 1) := by decide +kernel
theorem d_For_writeTerm_68 : decode b_For_writeTerm 68 = .ok (.getfield 14, 3) := by decide +kernel
theorem d_For_writeTerm_71 : decode b_For_writeTerm 71 = .ok (.getfield 75, 3) := by decide +kernel
theorem d_For_writeTerm_74 : decode b_For_writeTerm 74 = .ok (.iload 4, 2) := by decide +kernel
theorem d_For_writeTerm_76 : decode b_For_writeTerm 76 = .ok (.iaload, 1) := by decide +kernel
theorem d_For_writeTerm_77 : decode b_For_writeTerm 77 = .ok (.invokevirtual 187, 3) := by decide +kernel
theorem d_For_writeTerm_80 : decode b_For_writeTerm 80 = .ok (.iinc 4 1, 3) := by decide +kernel
theorem d_For_writeTerm_83 : decode b_For_writeTerm 83 = .ok (.goto (-64), 3) := by decide +kernel
theorem d_For_writeTerm_86 : decode b_For_writeTerm 86 = .ok (.return_, 1) := by decide +kernel
abbrev b_For_writeVariable : ByteArray := prog_3_method_26_code
def y_For_writeVariable : MethodName := ⟨"ClauseProver$Formulas", "writeVariable", "(LClauseProver$Draft;II)V"⟩
theorem d_For_writeVariable_0 : decode b_For_writeVariable 0 = .ok (.aload_n 0, 1) := by decide +kernel
theorem d_For_writeVariable_1 : decode b_For_writeVariable 1 = .ok (.getfield 45, 3) := by decide +kernel
theorem d_For_writeVariable_4 : decode b_For_writeVariable 4 = .ok (.iload_n 2, 1) := by decide +kernel
theorem d_For_writeVariable_5 : decode b_For_writeVariable 5 = .ok (.baload, 1) := by decide +kernel
theorem d_For_writeVariable_6 : decode b_For_writeVariable 6 = .ok (.ifCond .ne 13, 3) := by decide +kernel
theorem d_For_writeVariable_9 : decode b_For_writeVariable 9 = .ok (.aload_n 1, 1) := by decide +kernel
theorem d_For_writeVariable_10 : decode b_For_writeVariable 10 = .ok (.aload_n 1, 1) := by decide +kernel
theorem d_For_writeVariable_11 : decode b_For_writeVariable 11 = .ok (.iload_n 2, 1) := by decide +kernel
theorem d_For_writeVariable_12 : decode b_For_writeVariable 12 = .ok (.invokevirtual 201, 3) := by decide +kernel
theorem d_For_writeVariable_15 : decode b_For_writeVariable 15 = .ok (.invokevirtual 187, 3) := by decide +kernel
theorem d_For_writeVariable_18 : decode b_For_writeVariable 18 = .ok (.return_, 1) := by decide +kernel
theorem d_For_writeVariable_19 : decode b_For_writeVariable 19 = .ok (.aload_n 1, 1) := by decide +kernel
theorem d_For_writeVariable_20 : decode b_For_writeVariable 20 = .ok (.aload_n 0, 1) := by decide +kernel
theorem d_For_writeVariable_21 : decode b_For_writeVariable 21 = .ok (.getfield 42, 3) := by decide +kernel
theorem d_For_writeVariable_24 : decode b_For_writeVariable 24 = .ok (.iload_n 2, 1) := by decide +kernel
theorem d_For_writeVariable_25 : decode b_For_writeVariable 25 = .ok (.iaload, 1) := by decide +kernel
theorem d_For_writeVariable_26 : decode b_For_writeVariable 26 = .ok (.invokevirtual 187, 3) := by decide +kernel
theorem d_For_writeVariable_29 : decode b_For_writeVariable 29 = .ok (.aload_n 0, 1) := by decide +kernel
theorem d_For_writeVariable_30 : decode b_For_writeVariable 30 = .ok (.iload_n 2, 1) := by decide +kernel
theorem d_For_writeVariable_31 : decode b_For_writeVariable 31 = .ok (.invokevirtual 118, 3) := by decide +kernel
theorem d_For_writeVariable_34 : decode b_For_writeVariable 34 = .ok (.istore 4, 2) := by decide +kernel
theorem d_For_writeVariable_36 : decode b_For_writeVariable 36 = .ok (.iload_n 3, 1) := by decide +kernel
theorem d_For_writeVariable_37 : decode b_For_writeVariable 37 = .ok (.bipush 60, 2) := by decide +kernel
theorem d_For_writeVariable_39 : decode b_For_writeVariable 39 = .ok (.if_icmp .le 8, 3) := by decide +kernel
theorem d_For_writeVariable_42 : decode b_For_writeVariable 42 = .ok (.aload_n 1, 1) := by decide +kernel
theorem d_For_writeVariable_43 : decode b_For_writeVariable 43 = .ok (.iconst 1, 1) := by decide +kernel
theorem d_For_writeVariable_44 : decode b_For_writeVariable 44 = .ok (.putfield 135, 3) := by decide +kernel
theorem d_For_writeVariable_47 : decode b_For_writeVariable 47 = .ok (.iconst 0, 1) := by decide +kernel
theorem d_For_writeVariable_48 : decode b_For_writeVariable 48 = .ok (.istore 5, 2) := by decide +kernel
theorem d_For_writeVariable_50 : decode b_For_writeVariable 50 = .ok (.iload 5, 2) := by decide +kernel
theorem d_For_writeVariable_52 : decode b_For_writeVariable 52 = .ok (.iload 4, 2) := by decide +kernel
theorem d_For_writeVariable_54 : decode b_For_writeVariable 54 = .ok (.if_icmp .ge 31, 3) := by decide +kernel
theorem d_For_writeVariable_57 : decode b_For_writeVariable 57 = .ok (.aload_n 1, 1) := by decide +kernel
theorem d_For_writeVariable_58 : decode b_For_writeVariable 58 = .ok (.getfield 135, 3) := by decide +kernel
theorem d_For_writeVariable_61 : decode b_For_writeVariable 61 = .ok (.ifCond .ne 24, 3) := by decide +kernel
theorem d_For_writeVariable_64 : decode b_For_writeVariable 64 = .ok (.aload_n 0, 1) := by decide +kernel
theorem d_For_writeVariable_65 : decode b_For_writeVariable 65 = .ok (.aload_n 1, 1) := by decide +kernel
theorem d_For_writeVariable_66 : decode b_For_writeVariable 66 = .ok (.aload_n 0, 1) := by decide +kernel
theorem d_For_writeVariable_67 : decode b_For_writeVariable 67 = .ok (.iload_n 2, 1) := by decide +kernel
theorem d_For_writeVariable_68 : decode b_For_writeVariable 68 = .ok (.iload 5, 2) := by decide +kernel
theorem d_For_writeVariable_70 : decode b_For_writeVariable 70 = .ok (.invokevirtual 204, 3) := by decide +kernel
theorem d_For_writeVariable_73 : decode b_For_writeVariable 73 = .ok (.iload_n 3, 1) := by decide +kernel
theorem d_For_writeVariable_74 : decode b_For_writeVariable 74 = .ok (.iconst 1, 1) := by decide +kernel
theorem d_For_writeVariable_75 : decode b_For_writeVariable 75 = .ok (.iadd, 1) := by decide +kernel
theorem d_For_writeVariable_76 : decode b_For_writeVariable 76 = .ok (.invokevirtual 197, 3) := by decide +kernel
theorem d_For_writeVariable_79 : decode b_For_writeVariable 79 = .ok (.iinc 5 1, 3) := by decide +kernel
theorem d_For_writeVariable_82 : decode b_For_writeVariable 82 = .ok (.goto (-32), 3) := by decide +kernel
theorem d_For_writeVariable_85 : decode b_For_writeVariable 85 = .ok (.return_, 1) := by decide +kernel
abbrev b_Mat_coversAll : ByteArray := prog_4_method_8_code
def y_Mat_coversAll : MethodName := ⟨"ClauseProver$Matcher", "coversAll", "(III)Z"⟩
theorem d_Mat_coversAll_0 : decode b_Mat_coversAll 0 = .ok (.iload_n 2, 1) := by decide +kernel
theorem d_Mat_coversAll_1 : decode b_Mat_coversAll 1 = .ok (.ifCond .gt 5, 3) := by decide +kernel
theorem d_Mat_coversAll_4 : decode b_Mat_coversAll 4 = .ok (.iconst 1, 1) := by decide +kernel
theorem d_Mat_coversAll_5 : decode b_Mat_coversAll 5 = .ok (.ireturn, 1) := by decide +kernel
theorem d_Mat_coversAll_6 : decode b_Mat_coversAll 6 = .ok (.aload_n 0, 1) := by decide +kernel
theorem d_Mat_coversAll_7 : decode b_Mat_coversAll 7 = .ok (.getfield 37, 3) := by decide +kernel
theorem d_Mat_coversAll_10 : decode b_Mat_coversAll 10 = .ok (.istore 4, 2) := by decide +kernel
theorem d_Mat_coversAll_12 : decode b_Mat_coversAll 12 = .ok (.aload_n 0, 1) := by decide +kernel
theorem d_Mat_coversAll_13 : decode b_Mat_coversAll 13 = .ok (.getfield 22, 3) := by decide +kernel
theorem d_Mat_coversAll_16 : decode b_Mat_coversAll 16 = .ok (.iload_n 3, 1) := by decide +kernel
theorem d_Mat_coversAll_17 : decode b_Mat_coversAll 17 = .ok (.bipush 8, 2) := by decide +kernel
theorem d_Mat_coversAll_19 : decode b_Mat_coversAll 19 = .ok (.invokevirtual 55, 3) := by decide +kernel
theorem d_Mat_coversAll_22 : decode b_Mat_coversAll 22 = .ok (.istore 5, 2) := by decide +kernel
theorem d_Mat_coversAll_24 : decode b_Mat_coversAll 24 = .ok (.iconst 0, 1) := by decide +kernel
theorem d_Mat_coversAll_25 : decode b_Mat_coversAll 25 = .ok (.istore 6, 2) := by decide +kernel
theorem d_Mat_coversAll_27 : decode b_Mat_coversAll 27 = .ok (.iload 6, 2) := by decide +kernel
theorem d_Mat_coversAll_29 : decode b_Mat_coversAll 29 = .ok (.aload_n 0, 1) := by decide +kernel
theorem d_Mat_coversAll_30 : decode b_Mat_coversAll 30 = .ok (.getfield 22, 3) := by decide +kernel
theorem d_Mat_coversAll_33 : decode b_Mat_coversAll 33 = .ok (.iload_n 3, 1) := by decide +kernel
theorem d_Mat_coversAll_34 : decode b_Mat_coversAll 34 = .ok (.iconst 3, 1) := by decide +kernel
theorem d_Mat_coversAll_35 : decode b_Mat_coversAll 35 = .ok (.invokevirtual 55, 3) := by decide +kernel
theorem d_Mat_coversAll_38 : decode b_Mat_coversAll 38 = .ok (.if_icmp .ge 184, 3) := by decide +kernel
theorem d_Mat_coversAll_41 : decode b_Mat_coversAll 41 = .ok (.iconst 0, 1) := by decide +kernel
theorem d_Mat_coversAll_42 : decode b_Mat_coversAll 42 = .ok (.istore 7, 2) := by decide +kernel
theorem d_Mat_coversAll_44 : decode b_Mat_coversAll 44 = .ok (.iload 7, 2) := by decide +kernel
theorem d_Mat_coversAll_46 : decode b_Mat_coversAll 46 = .ok (.iconst 2, 1) := by decide +kernel
theorem d_Mat_coversAll_47 : decode b_Mat_coversAll 47 = .ok (.if_icmp .ge 158, 3) := by decide +kernel
theorem d_Mat_coversAll_50 : decode b_Mat_coversAll 50 = .ok (.aload_n 0, 1) := by decide +kernel
theorem d_Mat_coversAll_51 : decode b_Mat_coversAll 51 = .ok (.getfield 22, 3) := by decide +kernel
theorem d_Mat_coversAll_54 : decode b_Mat_coversAll 54 = .ok (.iload_n 1, 1) := by decide +kernel
theorem d_Mat_coversAll_55 : decode b_Mat_coversAll 55 = .ok (.invokevirtual 110, 3) := by decide +kernel
theorem d_Mat_coversAll_58 : decode b_Mat_coversAll 58 = .ok (.aload_n 0, 1) := by decide +kernel
theorem d_Mat_coversAll_59 : decode b_Mat_coversAll 59 = .ok (.getfield 22, 3) := by decide +kernel
theorem d_Mat_coversAll_62 : decode b_Mat_coversAll 62 = .ok (.iload 5, 2) := by decide +kernel
theorem d_Mat_coversAll_64 : decode b_Mat_coversAll 64 = .ok (.invokevirtual 110, 3) := by decide +kernel
theorem d_Mat_coversAll_67 : decode b_Mat_coversAll 67 = .ok (.if_icmp .ne 138, 3) := by decide +kernel
theorem d_Mat_coversAll_70 : decode b_Mat_coversAll 70 = .ok (.aload_n 0, 1) := by decide +kernel
theorem d_Mat_coversAll_71 : decode b_Mat_coversAll 71 = .ok (.iload 4, 2) := by decide +kernel
theorem d_Mat_coversAll_73 : decode b_Mat_coversAll 73 = .ok (.putfield 37, 3) := by decide +kernel
theorem d_Mat_coversAll_76 : decode b_Mat_coversAll 76 = .ok (.aload_n 0, 1) := by decide +kernel
theorem d_Mat_coversAll_77 : decode b_Mat_coversAll 77 = .ok (.getfield 22, 3) := by decide +kernel
theorem d_Mat_coversAll_80 : decode b_Mat_coversAll 80 = .ok (.iload 5, 2) := by decide +kernel
theorem d_Mat_coversAll_82 : decode b_Mat_coversAll 82 = .ok (.iload 7, 2) := by decide +kernel
theorem d_Mat_coversAll_84 : decode b_Mat_coversAll 84 = .ok (.invokevirtual 59, 3) := by decide +kernel
theorem d_Mat_coversAll_87 : decode b_Mat_coversAll 87 = .ok (.istore 8, 2) := by decide +kernel
theorem d_Mat_coversAll_89 : decode b_Mat_coversAll 89 = .ok (.aload_n 0, 1) := by decide +kernel
theorem d_Mat_coversAll_90 : decode b_Mat_coversAll 90 = .ok (.getfield 22, 3) := by decide +kernel
theorem d_Mat_coversAll_93 : decode b_Mat_coversAll 93 = .ok (.iload 5, 2) := by decide +kernel
theorem d_Mat_coversAll_95 : decode b_Mat_coversAll 95 = .ok (.iconst 1, 1) := by decide +kernel
theorem d_Mat_coversAll_96 : decode b_Mat_coversAll 96 = .ok (.iload 7, 2) := by decide +kernel
theorem d_Mat_coversAll_98 : decode b_Mat_coversAll 98 = .ok (.isub, 1) := by decide +kernel
theorem d_Mat_coversAll_99 : decode b_Mat_coversAll 99 = .ok (.invokevirtual 59, 3) := by decide +kernel
theorem d_Mat_coversAll_102 : decode b_Mat_coversAll 102 = .ok (.istore 9, 2) := by decide +kernel
theorem d_Mat_coversAll_104 : decode b_Mat_coversAll 104 = .ok (.aload_n 0, 1) := by decide +kernel
theorem d_Mat_coversAll_105 : decode b_Mat_coversAll 105 = .ok (.aload_n 0, 1) := by decide +kernel
theorem d_Mat_coversAll_106 : decode b_Mat_coversAll 106 = .ok (.getfield 22, 3) := by decide +kernel
theorem d_Mat_coversAll_109 : decode b_Mat_coversAll 109 = .ok (.iload_n 1, 1) := by decide +kernel
theorem d_Mat_coversAll_110 : decode b_Mat_coversAll 110 = .ok (.iconst 0, 1) := by decide +kernel
theorem d_Mat_coversAll_111 : decode b_Mat_coversAll 111 = .ok (.invokevirtual 59, 3) := by decide +kernel
theorem d_Mat_coversAll_114 : decode b_Mat_coversAll 114 = .ok (.aload_n 0, 1) := by decide +kernel
theorem d_Mat_coversAll_115 : decode b_Mat_coversAll 115 = .ok (.getfield 22, 3) := by decide +kernel
theorem d_Mat_coversAll_118 : decode b_Mat_coversAll 118 = .ok (.iload_n 1, 1) := by decide +kernel
theorem d_Mat_coversAll_119 : decode b_Mat_coversAll 119 = .ok (.iconst 0, 1) := by decide +kernel
theorem d_Mat_coversAll_120 : decode b_Mat_coversAll 120 = .ok (.invokevirtual 62, 3) := by decide +kernel
theorem d_Mat_coversAll_123 : decode b_Mat_coversAll 123 = .ok (.aload_n 0, 1) := by decide +kernel
theorem d_Mat_coversAll_124 : decode b_Mat_coversAll 124 = .ok (.getfield 22, 3) := by decide +kernel
theorem d_Mat_coversAll_127 : decode b_Mat_coversAll 127 = .ok (.getfield 26, 3) := by decide +kernel
theorem d_Mat_coversAll_130 : decode b_Mat_coversAll 130 = .ok (.getfield 32, 3) := by decide +kernel
theorem d_Mat_coversAll_133 : decode b_Mat_coversAll 133 = .ok (.iload 8, 2) := by decide +kernel
theorem d_Mat_coversAll_135 : decode b_Mat_coversAll 135 = .ok (.invokevirtual 65, 3) := by decide +kernel
theorem d_Mat_coversAll_138 : decode b_Mat_coversAll 138 = .ok (.ifCond .eq 61, 3) := by decide +kernel
theorem d_Mat_coversAll_141 : decode b_Mat_coversAll 141 = .ok (.aload_n 0, 1) := by decide +kernel
theorem d_Mat_coversAll_142 : decode b_Mat_coversAll 142 = .ok (.aload_n 0, 1) := by decide +kernel
theorem d_Mat_coversAll_143 : decode b_Mat_coversAll 143 = .ok (.getfield 22, 3) := by decide +kernel
theorem d_Mat_coversAll_146 : decode b_Mat_coversAll 146 = .ok (.iload_n 1, 1) := by decide +kernel
theorem d_Mat_coversAll_147 : decode b_Mat_coversAll 147 = .ok (.iconst 1, 1) := by decide +kernel
theorem d_Mat_coversAll_148 : decode b_Mat_coversAll 148 = .ok (.invokevirtual 59, 3) := by decide +kernel
theorem d_Mat_coversAll_151 : decode b_Mat_coversAll 151 = .ok (.aload_n 0, 1) := by decide +kernel
theorem d_Mat_coversAll_152 : decode b_Mat_coversAll 152 = .ok (.getfield 22, 3) := by decide +kernel
theorem d_Mat_coversAll_155 : decode b_Mat_coversAll 155 = .ok (.iload_n 1, 1) := by decide +kernel
theorem d_Mat_coversAll_156 : decode b_Mat_coversAll 156 = .ok (.iconst 1, 1) := by decide +kernel
theorem d_Mat_coversAll_157 : decode b_Mat_coversAll 157 = .ok (.invokevirtual 62, 3) := by decide +kernel
theorem d_Mat_coversAll_160 : decode b_Mat_coversAll 160 = .ok (.aload_n 0, 1) := by decide +kernel
theorem d_Mat_coversAll_161 : decode b_Mat_coversAll 161 = .ok (.getfield 22, 3) := by decide +kernel
theorem d_Mat_coversAll_164 : decode b_Mat_coversAll 164 = .ok (.getfield 26, 3) := by decide +kernel
theorem d_Mat_coversAll_167 : decode b_Mat_coversAll 167 = .ok (.getfield 32, 3) := by decide +kernel
theorem d_Mat_coversAll_170 : decode b_Mat_coversAll 170 = .ok (.iload 9, 2) := by decide +kernel
theorem d_Mat_coversAll_172 : decode b_Mat_coversAll 172 = .ok (.invokevirtual 65, 3) := by decide +kernel
theorem d_Mat_coversAll_175 : decode b_Mat_coversAll 175 = .ok (.ifCond .eq 24, 3) := by decide +kernel
theorem d_Mat_coversAll_178 : decode b_Mat_coversAll 178 = .ok (.aload_n 0, 1) := by decide +kernel
theorem d_Mat_coversAll_179 : decode b_Mat_coversAll 179 = .ok (.aload_n 0, 1) := by decide +kernel
theorem d_Mat_coversAll_180 : decode b_Mat_coversAll 180 = .ok (.getfield 22, 3) := by decide +kernel
theorem d_Mat_coversAll_183 : decode b_Mat_coversAll 183 = .ok (.iload_n 1, 1) := by decide +kernel
theorem d_Mat_coversAll_184 : decode b_Mat_coversAll 184 = .ok (.invokevirtual 102, 3) := by decide +kernel
theorem d_Mat_coversAll_187 : decode b_Mat_coversAll 187 = .ok (.iload_n 2, 1) := by decide +kernel
theorem d_Mat_coversAll_188 : decode b_Mat_coversAll 188 = .ok (.iconst 1, 1) := by decide +kernel
theorem d_Mat_coversAll_189 : decode b_Mat_coversAll 189 = .ok (.isub, 1) := by decide +kernel
theorem d_Mat_coversAll_190 : decode b_Mat_coversAll 190 = .ok (.iload_n 3, 1) := by decide +kernel
theorem d_Mat_coversAll_191 : decode b_Mat_coversAll 191 = .ok (.invokevirtual 106, 3) := by decide +kernel
theorem d_Mat_coversAll_194 : decode b_Mat_coversAll 194 = .ok (.ifCond .eq 5, 3) := by decide +kernel
theorem d_Mat_coversAll_197 : decode b_Mat_coversAll 197 = .ok (.iconst 1, 1) := by decide +kernel
theorem d_Mat_coversAll_198 : decode b_Mat_coversAll 198 = .ok (.ireturn, 1) := by decide +kernel
theorem d_Mat_coversAll_199 : decode b_Mat_coversAll 199 = .ok (.iinc 7 1, 3) := by decide +kernel
theorem d_Mat_coversAll_202 : decode b_Mat_coversAll 202 = .ok (.goto (-158), 3) := by decide +kernel
theorem d_Mat_coversAll_205 : decode b_Mat_coversAll 205 = .ok (.aload_n 0, 1) := by decide +kernel
theorem d_Mat_coversAll_206 : decode b_Mat_coversAll 206 = .ok (.getfield 22, 3) := by decide +kernel
theorem d_Mat_coversAll_209 : decode b_Mat_coversAll 209 = .ok (.iload 5, 2) := by decide +kernel
theorem d_Mat_coversAll_211 : decode b_Mat_coversAll 211 = .ok (.invokevirtual 102, 3) := by decide +kernel
theorem d_Mat_coversAll_214 : decode b_Mat_coversAll 214 = .ok (.istore 5, 2) := by decide +kernel
theorem d_Mat_coversAll_216 : decode b_Mat_coversAll 216 = .ok (.iinc 6 1, 3) := by decide +kernel
theorem d_Mat_coversAll_219 : decode b_Mat_coversAll 219 = .ok (.goto (-192), 3) := by decide +kernel
theorem d_Mat_coversAll_222 : decode b_Mat_coversAll 222 = .ok (.iconst 0, 1) := by decide +kernel
theorem d_Mat_coversAll_223 : decode b_Mat_coversAll 223 = .ok (.ireturn, 1) := by decide +kernel
abbrev b_Mat_makeImage : ByteArray := prog_4_method_4_code
def y_Mat_makeImage : MethodName := ⟨"ClauseProver$Matcher", "makeImage", "(II[II)Z"⟩
theorem d_Mat_makeImage_0 : decode b_Mat_makeImage 0 = .ok (.aload_n 0, 1) := by decide +kernel
theorem d_Mat_makeImage_1 : decode b_Mat_makeImage 1 = .ok (.iconst 0, 1) := by decide +kernel
theorem d_Mat_makeImage_2 : decode b_Mat_makeImage 2 = .ok (.putfield 75, 3) := by decide +kernel
theorem d_Mat_makeImage_5 : decode b_Mat_makeImage 5 = .ok (.iload_n 1, 1) := by decide +kernel
theorem d_Mat_makeImage_6 : decode b_Mat_makeImage 6 = .ok (.istore 5, 2) := by decide +kernel
theorem d_Mat_makeImage_8 : decode b_Mat_makeImage 8 = .ok (.iload 5, 2) := by decide +kernel
theorem d_Mat_makeImage_10 : decode b_Mat_makeImage 10 = .ok (.iload_n 1, 1) := by decide +kernel
theorem d_Mat_makeImage_11 : decode b_Mat_makeImage 11 = .ok (.iload_n 2, 1) := by decide +kernel
theorem d_Mat_makeImage_12 : decode b_Mat_makeImage 12 = .ok (.iadd, 1) := by decide +kernel
theorem d_Mat_makeImage_13 : decode b_Mat_makeImage 13 = .ok (.if_icmp .ge 164, 3) := by decide +kernel
theorem d_Mat_makeImage_16 : decode b_Mat_makeImage 16 = .ok (.aload_n 0, 1) := by decide +kernel
theorem d_Mat_makeImage_17 : decode b_Mat_makeImage 17 = .ok (.getfield 22, 3) := by decide +kernel
theorem d_Mat_makeImage_20 : decode b_Mat_makeImage 20 = .ok (.getfield 26, 3) := by decide +kernel
theorem d_Mat_makeImage_23 : decode b_Mat_makeImage 23 = .ok (.getfield 32, 3) := by decide +kernel
theorem d_Mat_makeImage_26 : decode b_Mat_makeImage 26 = .ok (.iload 5, 2) := by decide +kernel
theorem d_Mat_makeImage_28 : decode b_Mat_makeImage 28 = .ok (.iaload, 1) := by decide +kernel
theorem d_Mat_makeImage_29 : decode b_Mat_makeImage 29 = .ok (.istore 6, 2) := by decide +kernel
theorem d_Mat_makeImage_31 : decode b_Mat_makeImage 31 = .ok (.iload 6, 2) := by decide +kernel
theorem d_Mat_makeImage_33 : decode b_Mat_makeImage 33 = .ok (.ifCond .ge 19, 3) := by decide +kernel
theorem d_Mat_makeImage_36 : decode b_Mat_makeImage 36 = .ok (.aload_n 0, 1) := by decide +kernel
theorem d_Mat_makeImage_37 : decode b_Mat_makeImage 37 = .ok (.getfield 37, 3) := by decide +kernel
theorem d_Mat_makeImage_40 : decode b_Mat_makeImage 40 = .ok (.iload 6, 2) := by decide +kernel
theorem d_Mat_makeImage_42 : decode b_Mat_makeImage 42 = .ok (.iconst (-1), 1) := by decide +kernel
theorem d_Mat_makeImage_43 : decode b_Mat_makeImage 43 = .ok (.ixor, 1) := by decide +kernel
theorem d_Mat_makeImage_44 : decode b_Mat_makeImage 44 = .ok (.ishr, 1) := by decide +kernel
theorem d_Mat_makeImage_45 : decode b_Mat_makeImage 45 = .ok (.iconst 1, 1) := by decide +kernel
theorem d_Mat_makeImage_46 : decode b_Mat_makeImage 46 = .ok (.iand, 1) := by decide +kernel
theorem d_Mat_makeImage_47 : decode b_Mat_makeImage 47 = .ok (.ifCond .ne 5, 3) := by decide +kernel
theorem d_Mat_makeImage_50 : decode b_Mat_makeImage 50 = .ok (.iconst 0, 1) := by decide +kernel
theorem d_Mat_makeImage_51 : decode b_Mat_makeImage 51 = .ok (.ireturn, 1) := by decide +kernel
theorem d_Mat_makeImage_52 : decode b_Mat_makeImage 52 = .ok (.iload 6, 2) := by decide +kernel
theorem d_Mat_makeImage_54 : decode b_Mat_makeImage 54 = .ok (.ifCond .ge 15, 3) := by decide +kernel
theorem d_Mat_makeImage_57 : decode b_Mat_makeImage 57 = .ok (.aload_n 0, 1) := by decide +kernel
theorem d_Mat_makeImage_58 : decode b_Mat_makeImage 58 = .ok (.getfield 9, 3) := by decide +kernel
theorem d_Mat_makeImage_61 : decode b_Mat_makeImage 61 = .ok (.iload 6, 2) := by decide +kernel
theorem d_Mat_makeImage_63 : decode b_Mat_makeImage 63 = .ok (.iconst (-1), 1) := by decide +kernel
theorem d_Mat_makeImage_64 : decode b_Mat_makeImage 64 = .ok (.ixor, 1) := by decide +kernel
theorem d_Mat_makeImage_65 : decode b_Mat_makeImage 65 = .ok (.iaload, 1) := by decide +kernel
theorem d_Mat_makeImage_66 : decode b_Mat_makeImage 66 = .ok (.goto 4, 3) := by decide +kernel
theorem d_Mat_makeImage_69 : decode b_Mat_makeImage 69 = .ok (.iconst 0, 1) := by decide +kernel
theorem d_Mat_makeImage_70 : decode b_Mat_makeImage 70 = .ok (.istore 7, 2) := by decide +kernel
theorem d_Mat_makeImage_72 : decode b_Mat_makeImage 72 = .ok (.iload 6, 2) := by decide +kernel
theorem d_Mat_makeImage_74 : decode b_Mat_makeImage 74 = .ok (.ifCond .ge 19, 3) := by decide +kernel
theorem d_Mat_makeImage_77 : decode b_Mat_makeImage 77 = .ok (.aload_n 0, 1) := by decide +kernel
theorem d_Mat_makeImage_78 : decode b_Mat_makeImage 78 = .ok (.getfield 18, 3) := by decide +kernel
theorem d_Mat_makeImage_81 : decode b_Mat_makeImage 81 = .ok (.aload_n 3, 1) := by decide +kernel
theorem d_Mat_makeImage_82 : decode b_Mat_makeImage 82 = .ok (.iload 7, 2) := by decide +kernel
theorem d_Mat_makeImage_84 : decode b_Mat_makeImage 84 = .ok (.invokevirtual 51, 3) := by decide +kernel
theorem d_Mat_makeImage_87 : decode b_Mat_makeImage 87 = .ok (.iload 7, 2) := by decide +kernel
theorem d_Mat_makeImage_89 : decode b_Mat_makeImage 89 = .ok (.isub, 1) := by decide +kernel
theorem d_Mat_makeImage_90 : decode b_Mat_makeImage 90 = .ok (.goto 4, 3) := by decide +kernel
theorem d_Mat_makeImage_93 : decode b_Mat_makeImage 93 = .ok (.iconst 1, 1) := by decide +kernel
theorem d_Mat_makeImage_94 : decode b_Mat_makeImage 94 = .ok (.istore 8, 2) := by decide +kernel
theorem d_Mat_makeImage_96 : decode b_Mat_makeImage 96 = .ok (.aload_n 0, 1) := by decide +kernel
theorem d_Mat_makeImage_97 : decode b_Mat_makeImage 97 = .ok (.getfield 75, 3) := by decide +kernel
theorem d_Mat_makeImage_100 : decode b_Mat_makeImage 100 = .ok (.iload 8, 2) := by decide +kernel
theorem d_Mat_makeImage_102 : decode b_Mat_makeImage 102 = .ok (.iadd, 1) := by decide +kernel
theorem d_Mat_makeImage_103 : decode b_Mat_makeImage 103 = .ok (.iload 4, 2) := by decide +kernel
theorem d_Mat_makeImage_105 : decode b_Mat_makeImage 105 = .ok (.if_icmp .gt 18, 3) := by decide +kernel
theorem d_Mat_makeImage_108 : decode b_Mat_makeImage 108 = .ok (.aload_n 0, 1) := by decide +kernel
theorem d_Mat_makeImage_109 : decode b_Mat_makeImage 109 = .ok (.getfield 75, 3) := by decide +kernel
theorem d_Mat_makeImage_112 : decode b_Mat_makeImage 112 = .ok (.iload 8, 2) := by decide +kernel
theorem d_Mat_makeImage_114 : decode b_Mat_makeImage 114 = .ok (.iadd, 1) := by decide +kernel
theorem d_Mat_makeImage_115 : decode b_Mat_makeImage 115 = .ok (.aload_n 0, 1) := by decide +kernel
theorem d_Mat_makeImage_116 : decode b_Mat_makeImage 116 = .ok (.getfield 15, 3) := by decide +kernel
theorem d_Mat_makeImage_119 : decode b_Mat_makeImage 119 = .ok (.arraylength, 1) := by decide +kernel
theorem d_Mat_makeImage_120 : decode b_Mat_makeImage 120 = .ok (.if_icmp .le 5, 3) := by decide +kernel
theorem d_Mat_makeImage_123 : decode b_Mat_makeImage 123 = .ok (.iconst 0, 1) := by decide +kernel
theorem d_Mat_makeImage_124 : decode b_Mat_makeImage 124 = .ok (.ireturn, 1) := by decide +kernel
theorem d_Mat_makeImage_125 : decode b_Mat_makeImage 125 = .ok (.iload 6, 2) := by decide +kernel
theorem d_Mat_makeImage_127 : decode b_Mat_makeImage 127 = .ok (.ifCond .ge 22, 3) := by decide +kernel
theorem d_Mat_makeImage_130 : decode b_Mat_makeImage 130 = .ok (.aload_n 3, 1) := by decide +kernel
theorem d_Mat_makeImage_131 : decode b_Mat_makeImage 131 = .ok (.iload 7, 2) := by decide +kernel
theorem d_Mat_makeImage_133 : decode b_Mat_makeImage 133 = .ok (.aload_n 0, 1) := by decide +kernel
theorem d_Mat_makeImage_134 : decode b_Mat_makeImage 134 = .ok (.getfield 15, 3) := by decide +kernel
theorem d_Mat_makeImage_137 : decode b_Mat_makeImage 137 = .ok (.aload_n 0, 1) := by decide +kernel
theorem d_Mat_makeImage_138 : decode b_Mat_makeImage 138 = .ok (.getfield 75, 3) := by decide +kernel
theorem d_Mat_makeImage_141 : decode b_Mat_makeImage 141 = .ok (.iload 8, 2) := by decide +kernel
theorem d_Mat_makeImage_143 : decode b_Mat_makeImage 143 = .ok (.invokestatic 78, 3) := by decide +kernel
theorem d_Mat_makeImage_146 : decode b_Mat_makeImage 146 = .ok (.goto 14, 3) := by decide +kernel
theorem d_Mat_makeImage_149 : decode b_Mat_makeImage 149 = .ok (.aload_n 0, 1) := by decide +kernel
theorem d_Mat_makeImage_150 : decode b_Mat_makeImage 150 = .ok (.getfield 15, 3) := by decide +kernel
theorem d_Mat_makeImage_153 : decode b_Mat_makeImage 153 = .ok (.aload_n 0, 1) := by decide +kernel
theorem d_Mat_makeImage_154 : decode b_Mat_makeImage 154 = .ok (.getfield 75, 3) := by decide +kernel
theorem d_Mat_makeImage_157 : decode b_Mat_makeImage 157 = .ok (.iload 6, 2) := by decide +kernel
theorem d_Mat_makeImage_159 : decode b_Mat_makeImage 159 = .ok (.iastore, 1) := by decide +kernel
theorem d_Mat_makeImage_160 : decode b_Mat_makeImage 160 = .ok (.aload_n 0, 1) := by decide +kernel
theorem d_Mat_makeImage_161 : decode b_Mat_makeImage 161 = .ok (.dup, 1) := by decide +kernel
theorem d_Mat_makeImage_162 : decode b_Mat_makeImage 162 = .ok (.getfield 75, 3) := by decide +kernel
theorem d_Mat_makeImage_165 : decode b_Mat_makeImage 165 = .ok (.iload 8, 2) := by decide +kernel
theorem d_Mat_makeImage_167 : decode b_Mat_makeImage 167 = .ok (.iadd, 1) := by decide +kernel
theorem d_Mat_makeImage_168 : decode b_Mat_makeImage 168 = .ok (.putfield 75, 3) := by decide +kernel
theorem d_Mat_makeImage_171 : decode b_Mat_makeImage 171 = .ok (.iinc 5 1, 3) := by decide +kernel
theorem d_Mat_makeImage_174 : decode b_Mat_makeImage 174 = .ok (.goto (-166), 3) := by decide +kernel
theorem d_Mat_makeImage_177 : decode b_Mat_makeImage 177 = .ok (.iconst 1, 1) := by decide +kernel
theorem d_Mat_makeImage_178 : decode b_Mat_makeImage 178 = .ok (.ireturn, 1) := by decide +kernel
abbrev b_Mat_matches : ByteArray := prog_4_method_2_code
def y_Mat_matches : MethodName := ⟨"ClauseProver$Matcher", "matches", "(II[II)Z"⟩
theorem d_Mat_matches_0 : decode b_Mat_matches 0 = .ok (.aload_n 0, 1) := by decide +kernel
theorem d_Mat_matches_1 : decode b_Mat_matches 1 = .ok (.getfield 22, 3) := by decide +kernel
theorem d_Mat_matches_4 : decode b_Mat_matches 4 = .ok (.getfield 26, 3) := by decide +kernel
theorem d_Mat_matches_7 : decode b_Mat_matches 7 = .ok (.getfield 32, 3) := by decide +kernel
theorem d_Mat_matches_10 : decode b_Mat_matches 10 = .ok (.astore 5, 2) := by decide +kernel
theorem d_Mat_matches_12 : decode b_Mat_matches 12 = .ok (.iload 4, 2) := by decide +kernel
theorem d_Mat_matches_14 : decode b_Mat_matches 14 = .ok (.istore 6, 2) := by decide +kernel
theorem d_Mat_matches_16 : decode b_Mat_matches 16 = .ok (.iload_n 1, 1) := by decide +kernel
theorem d_Mat_matches_17 : decode b_Mat_matches 17 = .ok (.istore 7, 2) := by decide +kernel
theorem d_Mat_matches_19 : decode b_Mat_matches 19 = .ok (.iload 7, 2) := by decide +kernel
theorem d_Mat_matches_21 : decode b_Mat_matches 21 = .ok (.iload_n 1, 1) := by decide +kernel
theorem d_Mat_matches_22 : decode b_Mat_matches 22 = .ok (.iload_n 2, 1) := by decide +kernel
theorem d_Mat_matches_23 : decode b_Mat_matches 23 = .ok (.iadd, 1) := by decide +kernel
theorem d_Mat_matches_24 : decode b_Mat_matches 24 = .ok (.if_icmp .ge 141, 3) := by decide +kernel
theorem d_Mat_matches_27 : decode b_Mat_matches 27 = .ok (.aload 5, 2) := by decide +kernel
theorem d_Mat_matches_29 : decode b_Mat_matches 29 = .ok (.iload 7, 2) := by decide +kernel
theorem d_Mat_matches_31 : decode b_Mat_matches 31 = .ok (.iaload, 1) := by decide +kernel
theorem d_Mat_matches_32 : decode b_Mat_matches 32 = .ok (.ifCond .lt 23, 3) := by decide +kernel
theorem d_Mat_matches_35 : decode b_Mat_matches 35 = .ok (.aload 5, 2) := by decide +kernel
theorem d_Mat_matches_37 : decode b_Mat_matches 37 = .ok (.iload 7, 2) := by decide +kernel
theorem d_Mat_matches_39 : decode b_Mat_matches 39 = .ok (.iaload, 1) := by decide +kernel
theorem d_Mat_matches_40 : decode b_Mat_matches 40 = .ok (.aload_n 3, 1) := by decide +kernel
theorem d_Mat_matches_41 : decode b_Mat_matches 41 = .ok (.iload 6, 2) := by decide +kernel
theorem d_Mat_matches_43 : decode b_Mat_matches 43 = .ok (.iaload, 1) := by decide +kernel
theorem d_Mat_matches_44 : decode b_Mat_matches 44 = .ok (.if_icmp .eq 5, 3) := by decide +kernel
theorem d_Mat_matches_47 : decode b_Mat_matches 47 = .ok (.iconst 0, 1) := by decide +kernel
theorem d_Mat_matches_48 : decode b_Mat_matches 48 = .ok (.ireturn, 1) := by decide +kernel
theorem d_Mat_matches_49 : decode b_Mat_matches 49 = .ok (.iinc 6 1, 3) := by decide +kernel
theorem d_Mat_matches_52 : decode b_Mat_matches 52 = .ok (.goto 107, 3) := by decide +kernel
theorem d_Mat_matches_55 : decode b_Mat_matches 55 = .ok (.aload 5, 2) := by decide +kernel
theorem d_Mat_matches_57 : decode b_Mat_matches 57 = .ok (.iload 7, 2) := by decide +kernel
theorem d_Mat_matches_59 : decode b_Mat_matches 59 = .ok (.iaload, 1) := by decide +kernel
theorem d_Mat_matches_60 : decode b_Mat_matches 60 = .ok (.iconst (-1), 1) := by decide +kernel
theorem d_Mat_matches_61 : decode b_Mat_matches 61 = .ok (.ixor, 1) := by decide +kernel
theorem d_Mat_matches_62 : decode b_Mat_matches 62 = .ok (.istore 8, 2) := by decide +kernel
theorem d_Mat_matches_64 : decode b_Mat_matches 64 = .ok (.aload_n 0, 1) := by decide +kernel
theorem d_Mat_matches_65 : decode b_Mat_matches 65 = .ok (.getfield 37, 3) := by decide +kernel
theorem d_Mat_matches_68 : decode b_Mat_matches 68 = .ok (.iload 8, 2) := by decide +kernel
theorem d_Mat_matches_70 : decode b_Mat_matches 70 = .ok (.ishr, 1) := by decide +kernel
theorem d_Mat_matches_71 : decode b_Mat_matches 71 = .ok (.iconst 1, 1) := by decide +kernel
theorem d_Mat_matches_72 : decode b_Mat_matches 72 = .ok (.iand, 1) := by decide +kernel
theorem d_Mat_matches_73 : decode b_Mat_matches 73 = .ok (.ifCond .ne 51, 3) := by decide +kernel
theorem d_Mat_matches_76 : decode b_Mat_matches 76 = .ok (.aload_n 3, 1) := by decide +kernel
theorem d_Mat_matches_77 : decode b_Mat_matches 77 = .ok (.iload 6, 2) := by decide +kernel
theorem d_Mat_matches_79 : decode b_Mat_matches 79 = .ok (.iaload, 1) := by decide +kernel
theorem d_Mat_matches_80 : decode b_Mat_matches 80 = .ok (.ifCond .lt 19, 3) := by decide +kernel
theorem d_Mat_matches_83 : decode b_Mat_matches 83 = .ok (.aload_n 0, 1) := by decide +kernel
theorem d_Mat_matches_84 : decode b_Mat_matches 84 = .ok (.getfield 18, 3) := by decide +kernel
theorem d_Mat_matches_87 : decode b_Mat_matches 87 = .ok (.aload_n 3, 1) := by decide +kernel
theorem d_Mat_matches_88 : decode b_Mat_matches 88 = .ok (.iload 6, 2) := by decide +kernel
theorem d_Mat_matches_90 : decode b_Mat_matches 90 = .ok (.iaload, 1) := by decide +kernel
theorem d_Mat_matches_91 : decode b_Mat_matches 91 = .ok (.invokevirtual 41, 3) := by decide +kernel
theorem d_Mat_matches_94 : decode b_Mat_matches 94 = .ok (.ifCond .eq 5, 3) := by decide +kernel
theorem d_Mat_matches_97 : decode b_Mat_matches 97 = .ok (.iconst 0, 1) := by decide +kernel
theorem d_Mat_matches_98 : decode b_Mat_matches 98 = .ok (.ireturn, 1) := by decide +kernel
theorem d_Mat_matches_99 : decode b_Mat_matches 99 = .ok (.aload_n 0, 1) := by decide +kernel
theorem d_Mat_matches_100 : decode b_Mat_matches 100 = .ok (.getfield 9, 3) := by decide +kernel
theorem d_Mat_matches_103 : decode b_Mat_matches 103 = .ok (.iload 8, 2) := by decide +kernel
theorem d_Mat_matches_105 : decode b_Mat_matches 105 = .ok (.iload 6, 2) := by decide +kernel
theorem d_Mat_matches_107 : decode b_Mat_matches 107 = .ok (.iastore, 1) := by decide +kernel
theorem d_Mat_matches_108 : decode b_Mat_matches 108 = .ok (.aload_n 0, 1) := by decide +kernel
theorem d_Mat_matches_109 : decode b_Mat_matches 109 = .ok (.dup, 1) := by decide +kernel
theorem d_Mat_matches_110 : decode b_Mat_matches 110 = .ok (.getfield 37, 3) := by decide +kernel
theorem d_Mat_matches_113 : decode b_Mat_matches 113 = .ok (.iconst 1, 1) := by decide +kernel
theorem d_Mat_matches_114 : decode b_Mat_matches 114 = .ok (.iload 8, 2) := by decide +kernel
theorem d_Mat_matches_116 : decode b_Mat_matches 116 = .ok (.ishl, 1) := by decide +kernel
theorem d_Mat_matches_117 : decode b_Mat_matches 117 = .ok (.ior, 1) := by decide +kernel
theorem d_Mat_matches_118 : decode b_Mat_matches 118 = .ok (.putfield 37, 3) := by decide +kernel
theorem d_Mat_matches_121 : decode b_Mat_matches 121 = .ok (.goto 26, 3) := by decide +kernel
theorem d_Mat_matches_124 : decode b_Mat_matches 124 = .ok (.aload_n 0, 1) := by decide +kernel
theorem d_Mat_matches_125 : decode b_Mat_matches 125 = .ok (.getfield 18, 3) := by decide +kernel
theorem d_Mat_matches_128 : decode b_Mat_matches 128 = .ok (.aload_n 3, 1) := by decide +kernel
theorem d_Mat_matches_129 : decode b_Mat_matches 129 = .ok (.aload_n 0, 1) := by decide +kernel
theorem d_Mat_matches_130 : decode b_Mat_matches 130 = .ok (.getfield 9, 3) := by decide +kernel
theorem d_Mat_matches_133 : decode b_Mat_matches 133 = .ok (.iload 8, 2) := by decide +kernel
theorem d_Mat_matches_135 : decode b_Mat_matches 135 = .ok (.iaload, 1) := by decide +kernel
theorem d_Mat_matches_136 : decode b_Mat_matches 136 = .ok (.aload_n 3, 1) := by decide +kernel
theorem d_Mat_matches_137 : decode b_Mat_matches 137 = .ok (.iload 6, 2) := by decide +kernel
theorem d_Mat_matches_139 : decode b_Mat_matches 139 = .ok (.invokevirtual 47, 3) := by decide +kernel
theorem d_Mat_matches_142 : decode b_Mat_matches 142 = .ok (.ifCond .ne 5, 3) := by decide +kernel
theorem d_Mat_matches_145 : decode b_Mat_matches 145 = .ok (.iconst 0, 1) := by decide +kernel
theorem d_Mat_matches_146 : decode b_Mat_matches 146 = .ok (.ireturn, 1) := by decide +kernel
theorem d_Mat_matches_147 : decode b_Mat_matches 147 = .ok (.aload_n 0, 1) := by decide +kernel
theorem d_Mat_matches_148 : decode b_Mat_matches 148 = .ok (.getfield 18, 3) := by decide +kernel
theorem d_Mat_matches_151 : decode b_Mat_matches 151 = .ok (.aload_n 3, 1) := by decide +kernel
theorem d_Mat_matches_152 : decode b_Mat_matches 152 = .ok (.iload 6, 2) := by decide +kernel
theorem d_Mat_matches_154 : decode b_Mat_matches 154 = .ok (.invokevirtual 51, 3) := by decide +kernel
theorem d_Mat_matches_157 : decode b_Mat_matches 157 = .ok (.istore 6, 2) := by decide +kernel
theorem d_Mat_matches_159 : decode b_Mat_matches 159 = .ok (.iinc 7 1, 3) := by decide +kernel
theorem d_Mat_matches_162 : decode b_Mat_matches 162 = .ok (.goto (-143), 3) := by decide +kernel
theorem d_Mat_matches_165 : decode b_Mat_matches 165 = .ok (.iconst 1, 1) := by decide +kernel
theorem d_Mat_matches_166 : decode b_Mat_matches 166 = .ok (.ireturn, 1) := by decide +kernel
abbrev b_Mat_rewriteFirst : ByteArray := prog_4_method_5_code
def y_Mat_rewriteFirst : MethodName := ⟨"ClauseProver$Matcher", "rewriteFirst", "(LClauseProver$Draft;LClauseProver$Row;)I"⟩
theorem d_Mat_rewriteFirst_0 : decode b_Mat_rewriteFirst 0 = .ok (.iconst 0, 1) := by decide +kernel
theorem d_Mat_rewriteFirst_1 : decode b_Mat_rewriteFirst 1 = .ok (.istore_n 3, 1) := by decide +kernel
theorem d_Mat_rewriteFirst_2 : decode b_Mat_rewriteFirst 2 = .ok (.iload_n 3, 1) := by decide +kernel
theorem d_Mat_rewriteFirst_3 : decode b_Mat_rewriteFirst 3 = .ok (.aload_n 1, 1) := by decide +kernel
theorem d_Mat_rewriteFirst_4 : decode b_Mat_rewriteFirst 4 = .ok (.getfield 84, 3) := by decide +kernel
theorem d_Mat_rewriteFirst_7 : decode b_Mat_rewriteFirst 7 = .ok (.if_icmp .ge 91, 3) := by decide +kernel
theorem d_Mat_rewriteFirst_10 : decode b_Mat_rewriteFirst 10 = .ok (.iconst 0, 1) := by decide +kernel
theorem d_Mat_rewriteFirst_11 : decode b_Mat_rewriteFirst 11 = .ok (.istore 4, 2) := by decide +kernel
theorem d_Mat_rewriteFirst_13 : decode b_Mat_rewriteFirst 13 = .ok (.aload_n 1, 1) := by decide +kernel
theorem d_Mat_rewriteFirst_14 : decode b_Mat_rewriteFirst 14 = .ok (.getfield 89, 3) := by decide +kernel
theorem d_Mat_rewriteFirst_17 : decode b_Mat_rewriteFirst 17 = .ok (.iload_n 3, 1) := by decide +kernel
theorem d_Mat_rewriteFirst_18 : decode b_Mat_rewriteFirst 18 = .ok (.iaload, 1) := by decide +kernel
theorem d_Mat_rewriteFirst_19 : decode b_Mat_rewriteFirst 19 = .ok (.ifCond .lt 73, 3) := by decide +kernel
theorem d_Mat_rewriteFirst_22 : decode b_Mat_rewriteFirst 22 = .ok (.iload 4, 2) := by decide +kernel
theorem d_Mat_rewriteFirst_24 : decode b_Mat_rewriteFirst 24 = .ok (.aload_n 2, 1) := by decide +kernel
theorem d_Mat_rewriteFirst_25 : decode b_Mat_rewriteFirst 25 = .ok (.getfield 92, 3) := by decide +kernel
theorem d_Mat_rewriteFirst_28 : decode b_Mat_rewriteFirst 28 = .ok (.if_icmp .ge 64, 3) := by decide +kernel
theorem d_Mat_rewriteFirst_31 : decode b_Mat_rewriteFirst 31 = .ok (.aload_n 2, 1) := by decide +kernel
theorem d_Mat_rewriteFirst_32 : decode b_Mat_rewriteFirst 32 = .ok (.getfield 32, 3) := by decide +kernel
theorem d_Mat_rewriteFirst_35 : decode b_Mat_rewriteFirst 35 = .ok (.iload 4, 2) := by decide +kernel
theorem d_Mat_rewriteFirst_37 : decode b_Mat_rewriteFirst 37 = .ok (.iaload, 1) := by decide +kernel
theorem d_Mat_rewriteFirst_38 : decode b_Mat_rewriteFirst 38 = .ok (.istore 5, 2) := by decide +kernel
theorem d_Mat_rewriteFirst_40 : decode b_Mat_rewriteFirst 40 = .ok (.aload_n 0, 1) := by decide +kernel
theorem d_Mat_rewriteFirst_41 : decode b_Mat_rewriteFirst 41 = .ok (.iload 5, 2) := by decide +kernel
theorem d_Mat_rewriteFirst_43 : decode b_Mat_rewriteFirst 43 = .ok (.iconst 0, 1) := by decide +kernel
theorem d_Mat_rewriteFirst_44 : decode b_Mat_rewriteFirst 44 = .ok (.aload_n 1, 1) := by decide +kernel
theorem d_Mat_rewriteFirst_45 : decode b_Mat_rewriteFirst 45 = .ok (.getfield 89, 3) := by decide +kernel
theorem d_Mat_rewriteFirst_48 : decode b_Mat_rewriteFirst 48 = .ok (.iload_n 3, 1) := by decide +kernel
theorem d_Mat_rewriteFirst_49 : decode b_Mat_rewriteFirst 49 = .ok (.invokevirtual 95, 3) := by decide +kernel
theorem d_Mat_rewriteFirst_52 : decode b_Mat_rewriteFirst 52 = .ok (.ifCond .ne 18, 3) := by decide +kernel
theorem d_Mat_rewriteFirst_55 : decode b_Mat_rewriteFirst 55 = .ok (.aload_n 0, 1) := by decide +kernel
theorem d_Mat_rewriteFirst_56 : decode b_Mat_rewriteFirst 56 = .ok (.iload 5, 2) := by decide +kernel
theorem d_Mat_rewriteFirst_58 : decode b_Mat_rewriteFirst 58 = .ok (.iconst 1, 1) := by decide +kernel
theorem d_Mat_rewriteFirst_59 : decode b_Mat_rewriteFirst 59 = .ok (.aload_n 1, 1) := by decide +kernel
theorem d_Mat_rewriteFirst_60 : decode b_Mat_rewriteFirst 60 = .ok (.getfield 89, 3) := by decide +kernel
theorem d_Mat_rewriteFirst_63 : decode b_Mat_rewriteFirst 63 = .ok (.iload_n 3, 1) := by decide +kernel
theorem d_Mat_rewriteFirst_64 : decode b_Mat_rewriteFirst 64 = .ok (.invokevirtual 95, 3) := by decide +kernel
theorem d_Mat_rewriteFirst_67 : decode b_Mat_rewriteFirst 67 = .ok (.ifCond .eq 19, 3) := by decide +kernel
theorem d_Mat_rewriteFirst_70 : decode b_Mat_rewriteFirst 70 = .ok (.aload_n 1, 1) := by decide +kernel
theorem d_Mat_rewriteFirst_71 : decode b_Mat_rewriteFirst 71 = .ok (.iload_n 3, 1) := by decide +kernel
theorem d_Mat_rewriteFirst_72 : decode b_Mat_rewriteFirst 72 = .ok (.aload_n 0, 1) := by decide +kernel
theorem d_Mat_rewriteFirst_73 : decode b_Mat_rewriteFirst 73 = .ok (.getfield 15, 3) := by decide +kernel
theorem d_Mat_rewriteFirst_76 : decode b_Mat_rewriteFirst 76 = .ok (.aload_n 0, 1) := by decide +kernel
theorem d_Mat_rewriteFirst_77 : decode b_Mat_rewriteFirst 77 = .ok (.getfield 75, 3) := by decide +kernel
theorem d_Mat_rewriteFirst_80 : decode b_Mat_rewriteFirst 80 = .ok (.invokevirtual 98, 3) := by decide +kernel
theorem d_Mat_rewriteFirst_83 : decode b_Mat_rewriteFirst 83 = .ok (.iload 5, 2) := by decide +kernel
theorem d_Mat_rewriteFirst_85 : decode b_Mat_rewriteFirst 85 = .ok (.ireturn, 1) := by decide +kernel
theorem d_Mat_rewriteFirst_86 : decode b_Mat_rewriteFirst 86 = .ok (.iinc 4 1, 3) := by decide +kernel
theorem d_Mat_rewriteFirst_89 : decode b_Mat_rewriteFirst 89 = .ok (.goto (-76), 3) := by decide +kernel
theorem d_Mat_rewriteFirst_92 : decode b_Mat_rewriteFirst 92 = .ok (.iinc 3 1, 3) := by decide +kernel
theorem d_Mat_rewriteFirst_95 : decode b_Mat_rewriteFirst 95 = .ok (.goto (-93), 3) := by decide +kernel
theorem d_Mat_rewriteFirst_98 : decode b_Mat_rewriteFirst 98 = .ok (.iconst (-1), 1) := by decide +kernel
theorem d_Mat_rewriteFirst_99 : decode b_Mat_rewriteFirst 99 = .ok (.ireturn, 1) := by decide +kernel
abbrev b_Mat_rewrites : ByteArray := prog_4_method_3_code
def y_Mat_rewrites : MethodName := ⟨"ClauseProver$Matcher", "rewrites", "(II[II)Z"⟩
theorem d_Mat_rewrites_0 : decode b_Mat_rewrites 0 = .ok (.aload_n 0, 1) := by decide +kernel
theorem d_Mat_rewrites_1 : decode b_Mat_rewrites 1 = .ok (.getfield 22, 3) := by decide +kernel
theorem d_Mat_rewrites_4 : decode b_Mat_rewrites 4 = .ok (.iload_n 1, 1) := by decide +kernel
theorem d_Mat_rewrites_5 : decode b_Mat_rewrites 5 = .ok (.bipush 8, 2) := by decide +kernel
theorem d_Mat_rewrites_7 : decode b_Mat_rewrites 7 = .ok (.invokevirtual 55, 3) := by decide +kernel
theorem d_Mat_rewrites_10 : decode b_Mat_rewrites 10 = .ok (.istore 5, 2) := by decide +kernel
theorem d_Mat_rewrites_12 : decode b_Mat_rewrites 12 = .ok (.aload_n 0, 1) := by decide +kernel
theorem d_Mat_rewrites_13 : decode b_Mat_rewrites 13 = .ok (.getfield 22, 3) := by decide +kernel
theorem d_Mat_rewrites_16 : decode b_Mat_rewrites 16 = .ok (.iload 5, 2) := by decide +kernel
theorem d_Mat_rewrites_18 : decode b_Mat_rewrites 18 = .ok (.iload_n 2, 1) := by decide +kernel
theorem d_Mat_rewrites_19 : decode b_Mat_rewrites 19 = .ok (.invokevirtual 59, 3) := by decide +kernel
theorem d_Mat_rewrites_22 : decode b_Mat_rewrites 22 = .ok (.istore 6, 2) := by decide +kernel
theorem d_Mat_rewrites_24 : decode b_Mat_rewrites 24 = .ok (.aload_n 0, 1) := by decide +kernel
theorem d_Mat_rewrites_25 : decode b_Mat_rewrites 25 = .ok (.getfield 22, 3) := by decide +kernel
theorem d_Mat_rewrites_28 : decode b_Mat_rewrites 28 = .ok (.getfield 26, 3) := by decide +kernel
theorem d_Mat_rewrites_31 : decode b_Mat_rewrites 31 = .ok (.getfield 32, 3) := by decide +kernel
theorem d_Mat_rewrites_34 : decode b_Mat_rewrites 34 = .ok (.iload 6, 2) := by decide +kernel
theorem d_Mat_rewrites_36 : decode b_Mat_rewrites 36 = .ok (.iaload, 1) := by decide +kernel
theorem d_Mat_rewrites_37 : decode b_Mat_rewrites 37 = .ok (.istore 7, 2) := by decide +kernel
theorem d_Mat_rewrites_39 : decode b_Mat_rewrites 39 = .ok (.iload 7, 2) := by decide +kernel
theorem d_Mat_rewrites_41 : decode b_Mat_rewrites 41 = .ok (.ifCond .lt 14, 3) := by decide +kernel
theorem d_Mat_rewrites_44 : decode b_Mat_rewrites 44 = .ok (.iload 7, 2) := by decide +kernel
theorem d_Mat_rewrites_46 : decode b_Mat_rewrites 46 = .ok (.aload_n 3, 1) := by decide +kernel
theorem d_Mat_rewrites_47 : decode b_Mat_rewrites 47 = .ok (.iload 4, 2) := by decide +kernel
theorem d_Mat_rewrites_49 : decode b_Mat_rewrites 49 = .ok (.iaload, 1) := by decide +kernel
theorem d_Mat_rewrites_50 : decode b_Mat_rewrites 50 = .ok (.if_icmp .eq 5, 3) := by decide +kernel
theorem d_Mat_rewrites_53 : decode b_Mat_rewrites 53 = .ok (.iconst 0, 1) := by decide +kernel
theorem d_Mat_rewrites_54 : decode b_Mat_rewrites 54 = .ok (.ireturn, 1) := by decide +kernel
theorem d_Mat_rewrites_55 : decode b_Mat_rewrites 55 = .ok (.aload_n 0, 1) := by decide +kernel
theorem d_Mat_rewrites_56 : decode b_Mat_rewrites 56 = .ok (.iconst 0, 1) := by decide +kernel
theorem d_Mat_rewrites_57 : decode b_Mat_rewrites 57 = .ok (.putfield 37, 3) := by decide +kernel
theorem d_Mat_rewrites_60 : decode b_Mat_rewrites 60 = .ok (.aload_n 0, 1) := by decide +kernel
theorem d_Mat_rewrites_61 : decode b_Mat_rewrites 61 = .ok (.iload 6, 2) := by decide +kernel
theorem d_Mat_rewrites_63 : decode b_Mat_rewrites 63 = .ok (.aload_n 0, 1) := by decide +kernel
theorem d_Mat_rewrites_64 : decode b_Mat_rewrites 64 = .ok (.getfield 22, 3) := by decide +kernel
theorem d_Mat_rewrites_67 : decode b_Mat_rewrites 67 = .ok (.iload 5, 2) := by decide +kernel
theorem d_Mat_rewrites_69 : decode b_Mat_rewrites 69 = .ok (.iload_n 2, 1) := by decide +kernel
theorem d_Mat_rewrites_70 : decode b_Mat_rewrites 70 = .ok (.invokevirtual 62, 3) := by decide +kernel
theorem d_Mat_rewrites_73 : decode b_Mat_rewrites 73 = .ok (.aload_n 3, 1) := by decide +kernel
theorem d_Mat_rewrites_74 : decode b_Mat_rewrites 74 = .ok (.iload 4, 2) := by decide +kernel
theorem d_Mat_rewrites_76 : decode b_Mat_rewrites 76 = .ok (.invokevirtual 65, 3) := by decide +kernel
theorem d_Mat_rewrites_79 : decode b_Mat_rewrites 79 = .ok (.ifCond .ne 5, 3) := by decide +kernel
theorem d_Mat_rewrites_82 : decode b_Mat_rewrites 82 = .ok (.iconst 0, 1) := by decide +kernel
theorem d_Mat_rewrites_83 : decode b_Mat_rewrites 83 = .ok (.ireturn, 1) := by decide +kernel
theorem d_Mat_rewrites_84 : decode b_Mat_rewrites 84 = .ok (.aload_n 0, 1) := by decide +kernel
theorem d_Mat_rewrites_85 : decode b_Mat_rewrites 85 = .ok (.getfield 22, 3) := by decide +kernel
theorem d_Mat_rewrites_88 : decode b_Mat_rewrites 88 = .ok (.iload 5, 2) := by decide +kernel
theorem d_Mat_rewrites_90 : decode b_Mat_rewrites 90 = .ok (.iconst 1, 1) := by decide +kernel
theorem d_Mat_rewrites_91 : decode b_Mat_rewrites 91 = .ok (.iload_n 2, 1) := by decide +kernel
theorem d_Mat_rewrites_92 : decode b_Mat_rewrites 92 = .ok (.isub, 1) := by decide +kernel
theorem d_Mat_rewrites_93 : decode b_Mat_rewrites 93 = .ok (.invokevirtual 59, 3) := by decide +kernel
theorem d_Mat_rewrites_96 : decode b_Mat_rewrites 96 = .ok (.istore 8, 2) := by decide +kernel
theorem d_Mat_rewrites_98 : decode b_Mat_rewrites 98 = .ok (.aload_n 0, 1) := by decide +kernel
theorem d_Mat_rewrites_99 : decode b_Mat_rewrites 99 = .ok (.getfield 18, 3) := by decide +kernel
theorem d_Mat_rewrites_102 : decode b_Mat_rewrites 102 = .ok (.aload_n 3, 1) := by decide +kernel
theorem d_Mat_rewrites_103 : decode b_Mat_rewrites 103 = .ok (.iload 4, 2) := by decide +kernel
theorem d_Mat_rewrites_105 : decode b_Mat_rewrites 105 = .ok (.invokevirtual 51, 3) := by decide +kernel
theorem d_Mat_rewrites_108 : decode b_Mat_rewrites 108 = .ok (.iload 4, 2) := by decide +kernel
theorem d_Mat_rewrites_110 : decode b_Mat_rewrites 110 = .ok (.isub, 1) := by decide +kernel
theorem d_Mat_rewrites_111 : decode b_Mat_rewrites 111 = .ok (.istore 9, 2) := by decide +kernel
theorem d_Mat_rewrites_113 : decode b_Mat_rewrites 113 = .ok (.aload_n 0, 1) := by decide +kernel
theorem d_Mat_rewrites_114 : decode b_Mat_rewrites 114 = .ok (.iload 8, 2) := by decide +kernel
theorem d_Mat_rewrites_116 : decode b_Mat_rewrites 116 = .ok (.aload_n 0, 1) := by decide +kernel
theorem d_Mat_rewrites_117 : decode b_Mat_rewrites 117 = .ok (.getfield 22, 3) := by decide +kernel
theorem d_Mat_rewrites_120 : decode b_Mat_rewrites 120 = .ok (.iload 5, 2) := by decide +kernel
theorem d_Mat_rewrites_122 : decode b_Mat_rewrites 122 = .ok (.iconst 1, 1) := by decide +kernel
theorem d_Mat_rewrites_123 : decode b_Mat_rewrites 123 = .ok (.iload_n 2, 1) := by decide +kernel
theorem d_Mat_rewrites_124 : decode b_Mat_rewrites 124 = .ok (.isub, 1) := by decide +kernel
theorem d_Mat_rewrites_125 : decode b_Mat_rewrites 125 = .ok (.invokevirtual 62, 3) := by decide +kernel
theorem d_Mat_rewrites_128 : decode b_Mat_rewrites 128 = .ok (.aload_n 3, 1) := by decide +kernel
theorem d_Mat_rewrites_129 : decode b_Mat_rewrites 129 = .ok (.iload 9, 2) := by decide +kernel
theorem d_Mat_rewrites_131 : decode b_Mat_rewrites 131 = .ok (.invokevirtual 69, 3) := by decide +kernel
theorem d_Mat_rewrites_134 : decode b_Mat_rewrites 134 = .ok (.ifCond .eq 25, 3) := by decide +kernel
theorem d_Mat_rewrites_137 : decode b_Mat_rewrites 137 = .ok (.aload_n 0, 1) := by decide +kernel
theorem d_Mat_rewrites_138 : decode b_Mat_rewrites 138 = .ok (.getfield 18, 3) := by decide +kernel
theorem d_Mat_rewrites_141 : decode b_Mat_rewrites 141 = .ok (.aload_n 3, 1) := by decide +kernel
theorem d_Mat_rewrites_142 : decode b_Mat_rewrites 142 = .ok (.iload 4, 2) := by decide +kernel
theorem d_Mat_rewrites_144 : decode b_Mat_rewrites 144 = .ok (.aload_n 0, 1) := by decide +kernel
theorem d_Mat_rewrites_145 : decode b_Mat_rewrites 145 = .ok (.getfield 15, 3) := by decide +kernel
theorem d_Mat_rewrites_148 : decode b_Mat_rewrites 148 = .ok (.iconst 0, 1) := by decide +kernel
theorem d_Mat_rewrites_149 : decode b_Mat_rewrites 149 = .ok (.invokevirtual 72, 3) := by decide +kernel
theorem d_Mat_rewrites_152 : decode b_Mat_rewrites 152 = .ok (.ifCond .eq 7, 3) := by decide +kernel
theorem d_Mat_rewrites_155 : decode b_Mat_rewrites 155 = .ok (.iconst 1, 1) := by decide +kernel
theorem d_Mat_rewrites_156 : decode b_Mat_rewrites 156 = .ok (.goto 4, 3) := by decide +kernel
theorem d_Mat_rewrites_159 : decode b_Mat_rewrites 159 = .ok (.iconst 0, 1) := by decide +kernel
theorem d_Mat_rewrites_160 : decode b_Mat_rewrites 160 = .ok (.ireturn, 1) := by decide +kernel
abbrev b_Mat_rewritesIn : ByteArray := prog_4_method_6_code
def y_Mat_rewritesIn : MethodName := ⟨"ClauseProver$Matcher", "rewritesIn", "(II)Z"⟩
theorem d_Mat_rewritesIn_0 : decode b_Mat_rewritesIn 0 = .ok (.aload_n 0, 1) := by decide +kernel
theorem d_Mat_rewritesIn_1 : decode b_Mat_rewritesIn 1 = .ok (.getfield 22, 3) := by decide +kernel
theorem d_Mat_rewritesIn_4 : decode b_Mat_rewritesIn 4 = .ok (.iload_n 2, 1) := by decide +kernel
theorem d_Mat_rewritesIn_5 : decode b_Mat_rewritesIn 5 = .ok (.bipush 8, 2) := by decide +kernel
theorem d_Mat_rewritesIn_7 : decode b_Mat_rewritesIn 7 = .ok (.invokevirtual 55, 3) := by decide +kernel
theorem d_Mat_rewritesIn_10 : decode b_Mat_rewritesIn 10 = .ok (.istore_n 3, 1) := by decide +kernel
theorem d_Mat_rewritesIn_11 : decode b_Mat_rewritesIn 11 = .ok (.aload_n 0, 1) := by decide +kernel
theorem d_Mat_rewritesIn_12 : decode b_Mat_rewritesIn 12 = .ok (.getfield 22, 3) := by decide +kernel
theorem d_Mat_rewritesIn_15 : decode b_Mat_rewritesIn 15 = .ok (.getfield 26, 3) := by decide +kernel
theorem d_Mat_rewritesIn_18 : decode b_Mat_rewritesIn 18 = .ok (.getfield 32, 3) := by decide +kernel
theorem d_Mat_rewritesIn_21 : decode b_Mat_rewritesIn 21 = .ok (.astore 4, 2) := by decide +kernel
theorem d_Mat_rewritesIn_23 : decode b_Mat_rewritesIn 23 = .ok (.iconst 0, 1) := by decide +kernel
theorem d_Mat_rewritesIn_24 : decode b_Mat_rewritesIn 24 = .ok (.istore 5, 2) := by decide +kernel
theorem d_Mat_rewritesIn_26 : decode b_Mat_rewritesIn 26 = .ok (.iload 5, 2) := by decide +kernel
theorem d_Mat_rewritesIn_28 : decode b_Mat_rewritesIn 28 = .ok (.aload_n 0, 1) := by decide +kernel
theorem d_Mat_rewritesIn_29 : decode b_Mat_rewritesIn 29 = .ok (.getfield 22, 3) := by decide +kernel
theorem d_Mat_rewritesIn_32 : decode b_Mat_rewritesIn 32 = .ok (.iload_n 2, 1) := by decide +kernel
theorem d_Mat_rewritesIn_33 : decode b_Mat_rewritesIn 33 = .ok (.iconst 3, 1) := by decide +kernel
theorem d_Mat_rewritesIn_34 : decode b_Mat_rewritesIn 34 = .ok (.invokevirtual 55, 3) := by decide +kernel
theorem d_Mat_rewritesIn_37 : decode b_Mat_rewritesIn 37 = .ok (.if_icmp .ge 82, 3) := by decide +kernel
theorem d_Mat_rewritesIn_40 : decode b_Mat_rewritesIn 40 = .ok (.aload_n 0, 1) := by decide +kernel
theorem d_Mat_rewritesIn_41 : decode b_Mat_rewritesIn 41 = .ok (.getfield 22, 3) := by decide +kernel
theorem d_Mat_rewritesIn_44 : decode b_Mat_rewritesIn 44 = .ok (.iload_n 3, 1) := by decide +kernel
theorem d_Mat_rewritesIn_45 : decode b_Mat_rewritesIn 45 = .ok (.invokevirtual 102, 3) := by decide +kernel
theorem d_Mat_rewritesIn_48 : decode b_Mat_rewritesIn 48 = .ok (.istore 6, 2) := by decide +kernel
theorem d_Mat_rewritesIn_50 : decode b_Mat_rewritesIn 50 = .ok (.aload_n 0, 1) := by decide +kernel
theorem d_Mat_rewritesIn_51 : decode b_Mat_rewritesIn 51 = .ok (.getfield 22, 3) := by decide +kernel
theorem d_Mat_rewritesIn_54 : decode b_Mat_rewritesIn 54 = .ok (.iload_n 3, 1) := by decide +kernel
theorem d_Mat_rewritesIn_55 : decode b_Mat_rewritesIn 55 = .ok (.iconst 0, 1) := by decide +kernel
theorem d_Mat_rewritesIn_56 : decode b_Mat_rewritesIn 56 = .ok (.invokevirtual 59, 3) := by decide +kernel
theorem d_Mat_rewritesIn_59 : decode b_Mat_rewritesIn 59 = .ok (.istore 7, 2) := by decide +kernel
theorem d_Mat_rewritesIn_61 : decode b_Mat_rewritesIn 61 = .ok (.iload 7, 2) := by decide +kernel
theorem d_Mat_rewritesIn_63 : decode b_Mat_rewritesIn 63 = .ok (.iload 6, 2) := by decide +kernel
theorem d_Mat_rewritesIn_65 : decode b_Mat_rewritesIn 65 = .ok (.if_icmp .ge 45, 3) := by decide +kernel
theorem d_Mat_rewritesIn_68 : decode b_Mat_rewritesIn 68 = .ok (.aload 4, 2) := by decide +kernel
theorem d_Mat_rewritesIn_70 : decode b_Mat_rewritesIn 70 = .ok (.iload 7, 2) := by decide +kernel
theorem d_Mat_rewritesIn_72 : decode b_Mat_rewritesIn 72 = .ok (.iaload, 1) := by decide +kernel
theorem d_Mat_rewritesIn_73 : decode b_Mat_rewritesIn 73 = .ok (.ifCond .lt 31, 3) := by decide +kernel
theorem d_Mat_rewritesIn_76 : decode b_Mat_rewritesIn 76 = .ok (.aload_n 0, 1) := by decide +kernel
theorem d_Mat_rewritesIn_77 : decode b_Mat_rewritesIn 77 = .ok (.iload_n 1, 1) := by decide +kernel
theorem d_Mat_rewritesIn_78 : decode b_Mat_rewritesIn 78 = .ok (.iconst 0, 1) := by decide +kernel
theorem d_Mat_rewritesIn_79 : decode b_Mat_rewritesIn 79 = .ok (.aload 4, 2) := by decide +kernel
theorem d_Mat_rewritesIn_81 : decode b_Mat_rewritesIn 81 = .ok (.iload 7, 2) := by decide +kernel
theorem d_Mat_rewritesIn_83 : decode b_Mat_rewritesIn 83 = .ok (.invokevirtual 95, 3) := by decide +kernel
theorem d_Mat_rewritesIn_86 : decode b_Mat_rewritesIn 86 = .ok (.ifCond .ne 16, 3) := by decide +kernel
theorem d_Mat_rewritesIn_89 : decode b_Mat_rewritesIn 89 = .ok (.aload_n 0, 1) := by decide +kernel
theorem d_Mat_rewritesIn_90 : decode b_Mat_rewritesIn 90 = .ok (.iload_n 1, 1) := by decide +kernel
theorem d_Mat_rewritesIn_91 : decode b_Mat_rewritesIn 91 = .ok (.iconst 1, 1) := by decide +kernel
theorem d_Mat_rewritesIn_92 : decode b_Mat_rewritesIn 92 = .ok (.aload 4, 2) := by decide +kernel
theorem d_Mat_rewritesIn_94 : decode b_Mat_rewritesIn 94 = .ok (.iload 7, 2) := by decide +kernel
theorem d_Mat_rewritesIn_96 : decode b_Mat_rewritesIn 96 = .ok (.invokevirtual 95, 3) := by decide +kernel
theorem d_Mat_rewritesIn_99 : decode b_Mat_rewritesIn 99 = .ok (.ifCond .eq 5, 3) := by decide +kernel
theorem d_Mat_rewritesIn_102 : decode b_Mat_rewritesIn 102 = .ok (.iconst 1, 1) := by decide +kernel
theorem d_Mat_rewritesIn_103 : decode b_Mat_rewritesIn 103 = .ok (.ireturn, 1) := by decide +kernel
theorem d_Mat_rewritesIn_104 : decode b_Mat_rewritesIn 104 = .ok (.iinc 7 1, 3) := by decide +kernel
theorem d_Mat_rewritesIn_107 : decode b_Mat_rewritesIn 107 = .ok (.goto (-46), 3) := by decide +kernel
theorem d_Mat_rewritesIn_110 : decode b_Mat_rewritesIn 110 = .ok (.iload 6, 2) := by decide +kernel
theorem d_Mat_rewritesIn_112 : decode b_Mat_rewritesIn 112 = .ok (.istore_n 3, 1) := by decide +kernel
theorem d_Mat_rewritesIn_113 : decode b_Mat_rewritesIn 113 = .ok (.iinc 5 1, 3) := by decide +kernel
theorem d_Mat_rewritesIn_116 : decode b_Mat_rewritesIn 116 = .ok (.goto (-90), 3) := by decide +kernel
theorem d_Mat_rewritesIn_119 : decode b_Mat_rewritesIn 119 = .ok (.iconst 0, 1) := by decide +kernel
theorem d_Mat_rewritesIn_120 : decode b_Mat_rewritesIn 120 = .ok (.ireturn, 1) := by decide +kernel
abbrev b_Mat_subsumes : ByteArray := prog_4_method_7_code
def y_Mat_subsumes : MethodName := ⟨"ClauseProver$Matcher", "subsumes", "(II)Z"⟩
theorem d_Mat_subsumes_0 : decode b_Mat_subsumes 0 = .ok (.aload_n 0, 1) := by decide +kernel
theorem d_Mat_subsumes_1 : decode b_Mat_subsumes 1 = .ok (.getfield 22, 3) := by decide +kernel
theorem d_Mat_subsumes_4 : decode b_Mat_subsumes 4 = .ok (.iload_n 1, 1) := by decide +kernel
theorem d_Mat_subsumes_5 : decode b_Mat_subsumes 5 = .ok (.iconst 3, 1) := by decide +kernel
theorem d_Mat_subsumes_6 : decode b_Mat_subsumes 6 = .ok (.invokevirtual 55, 3) := by decide +kernel
theorem d_Mat_subsumes_9 : decode b_Mat_subsumes 9 = .ok (.istore_n 3, 1) := by decide +kernel
theorem d_Mat_subsumes_10 : decode b_Mat_subsumes 10 = .ok (.iload_n 3, 1) := by decide +kernel
theorem d_Mat_subsumes_11 : decode b_Mat_subsumes 11 = .ok (.aload_n 0, 1) := by decide +kernel
theorem d_Mat_subsumes_12 : decode b_Mat_subsumes 12 = .ok (.getfield 22, 3) := by decide +kernel
theorem d_Mat_subsumes_15 : decode b_Mat_subsumes 15 = .ok (.iload_n 2, 1) := by decide +kernel
theorem d_Mat_subsumes_16 : decode b_Mat_subsumes 16 = .ok (.iconst 3, 1) := by decide +kernel
theorem d_Mat_subsumes_17 : decode b_Mat_subsumes 17 = .ok (.invokevirtual 55, 3) := by decide +kernel
theorem d_Mat_subsumes_20 : decode b_Mat_subsumes 20 = .ok (.if_icmp .gt 7, 3) := by decide +kernel
theorem d_Mat_subsumes_23 : decode b_Mat_subsumes 23 = .ok (.iconst 1, 1) := by decide +kernel
theorem d_Mat_subsumes_24 : decode b_Mat_subsumes 24 = .ok (.goto 4, 3) := by decide +kernel
theorem d_Mat_subsumes_27 : decode b_Mat_subsumes 27 = .ok (.iconst 0, 1) := by decide +kernel
theorem d_Mat_subsumes_28 : decode b_Mat_subsumes 28 = .ok (.istore 4, 2) := by decide +kernel
theorem d_Mat_subsumes_30 : decode b_Mat_subsumes 30 = .ok (.aload_n 0, 1) := by decide +kernel
theorem d_Mat_subsumes_31 : decode b_Mat_subsumes 31 = .ok (.getfield 22, 3) := by decide +kernel
theorem d_Mat_subsumes_34 : decode b_Mat_subsumes 34 = .ok (.iload_n 1, 1) := by decide +kernel
theorem d_Mat_subsumes_35 : decode b_Mat_subsumes 35 = .ok (.bipush 8, 2) := by decide +kernel
theorem d_Mat_subsumes_37 : decode b_Mat_subsumes 37 = .ok (.invokevirtual 55, 3) := by decide +kernel
theorem d_Mat_subsumes_40 : decode b_Mat_subsumes 40 = .ok (.istore 5, 2) := by decide +kernel
theorem d_Mat_subsumes_42 : decode b_Mat_subsumes 42 = .ok (.iconst 0, 1) := by decide +kernel
theorem d_Mat_subsumes_43 : decode b_Mat_subsumes 43 = .ok (.istore 6, 2) := by decide +kernel
theorem d_Mat_subsumes_45 : decode b_Mat_subsumes 45 = .ok (.iload 6, 2) := by decide +kernel
theorem d_Mat_subsumes_47 : decode b_Mat_subsumes 47 = .ok (.iload_n 3, 1) := by decide +kernel
theorem d_Mat_subsumes_48 : decode b_Mat_subsumes 48 = .ok (.if_icmp .ge 40, 3) := by decide +kernel
theorem d_Mat_subsumes_51 : decode b_Mat_subsumes 51 = .ok (.iload 4, 2) := by decide +kernel
theorem d_Mat_subsumes_53 : decode b_Mat_subsumes 53 = .ok (.ifCond .eq 35, 3) := by decide +kernel
theorem d_Mat_subsumes_56 : decode b_Mat_subsumes 56 = .ok (.aload_n 0, 1) := by decide +kernel
theorem d_Mat_subsumes_57 : decode b_Mat_subsumes 57 = .ok (.iconst 0, 1) := by decide +kernel
theorem d_Mat_subsumes_58 : decode b_Mat_subsumes 58 = .ok (.putfield 37, 3) := by decide +kernel
theorem d_Mat_subsumes_61 : decode b_Mat_subsumes 61 = .ok (.aload_n 0, 1) := by decide +kernel
theorem d_Mat_subsumes_62 : decode b_Mat_subsumes 62 = .ok (.iload 5, 2) := by decide +kernel
theorem d_Mat_subsumes_64 : decode b_Mat_subsumes 64 = .ok (.iconst 1, 1) := by decide +kernel
theorem d_Mat_subsumes_65 : decode b_Mat_subsumes 65 = .ok (.iload_n 2, 1) := by decide +kernel
theorem d_Mat_subsumes_66 : decode b_Mat_subsumes 66 = .ok (.invokevirtual 106, 3) := by decide +kernel
theorem d_Mat_subsumes_69 : decode b_Mat_subsumes 69 = .ok (.istore 4, 2) := by decide +kernel
theorem d_Mat_subsumes_71 : decode b_Mat_subsumes 71 = .ok (.aload_n 0, 1) := by decide +kernel
theorem d_Mat_subsumes_72 : decode b_Mat_subsumes 72 = .ok (.getfield 22, 3) := by decide +kernel
theorem d_Mat_subsumes_75 : decode b_Mat_subsumes 75 = .ok (.iload 5, 2) := by decide +kernel
theorem d_Mat_subsumes_77 : decode b_Mat_subsumes 77 = .ok (.invokevirtual 102, 3) := by decide +kernel
theorem d_Mat_subsumes_80 : decode b_Mat_subsumes 80 = .ok (.istore 5, 2) := by decide +kernel
theorem d_Mat_subsumes_82 : decode b_Mat_subsumes 82 = .ok (.iinc 6 1, 3) := by decide +kernel
theorem d_Mat_subsumes_85 : decode b_Mat_subsumes 85 = .ok (.goto (-40), 3) := by decide +kernel
theorem d_Mat_subsumes_88 : decode b_Mat_subsumes 88 = .ok (.aload_n 0, 1) := by decide +kernel
theorem d_Mat_subsumes_89 : decode b_Mat_subsumes 89 = .ok (.iconst 0, 1) := by decide +kernel
theorem d_Mat_subsumes_90 : decode b_Mat_subsumes 90 = .ok (.putfield 37, 3) := by decide +kernel
theorem d_Mat_subsumes_93 : decode b_Mat_subsumes 93 = .ok (.iload 4, 2) := by decide +kernel
theorem d_Mat_subsumes_95 : decode b_Mat_subsumes 95 = .ok (.ifCond .eq 31, 3) := by decide +kernel
theorem d_Mat_subsumes_98 : decode b_Mat_subsumes 98 = .ok (.iload_n 3, 1) := by decide +kernel
theorem d_Mat_subsumes_99 : decode b_Mat_subsumes 99 = .ok (.iconst 1, 1) := by decide +kernel
theorem d_Mat_subsumes_100 : decode b_Mat_subsumes 100 = .ok (.if_icmp .eq 22, 3) := by decide +kernel
theorem d_Mat_subsumes_103 : decode b_Mat_subsumes 103 = .ok (.aload_n 0, 1) := by decide +kernel
theorem d_Mat_subsumes_104 : decode b_Mat_subsumes 104 = .ok (.aload_n 0, 1) := by decide +kernel
theorem d_Mat_subsumes_105 : decode b_Mat_subsumes 105 = .ok (.getfield 22, 3) := by decide +kernel
theorem d_Mat_subsumes_108 : decode b_Mat_subsumes 108 = .ok (.iload_n 1, 1) := by decide +kernel
theorem d_Mat_subsumes_109 : decode b_Mat_subsumes 109 = .ok (.bipush 8, 2) := by decide +kernel
theorem d_Mat_subsumes_111 : decode b_Mat_subsumes 111 = .ok (.invokevirtual 55, 3) := by decide +kernel
theorem d_Mat_subsumes_114 : decode b_Mat_subsumes 114 = .ok (.iload_n 3, 1) := by decide +kernel
theorem d_Mat_subsumes_115 : decode b_Mat_subsumes 115 = .ok (.iload_n 2, 1) := by decide +kernel
theorem d_Mat_subsumes_116 : decode b_Mat_subsumes 116 = .ok (.invokevirtual 106, 3) := by decide +kernel
theorem d_Mat_subsumes_119 : decode b_Mat_subsumes 119 = .ok (.ifCond .eq 7, 3) := by decide +kernel
theorem d_Mat_subsumes_122 : decode b_Mat_subsumes 122 = .ok (.iconst 1, 1) := by decide +kernel
theorem d_Mat_subsumes_123 : decode b_Mat_subsumes 123 = .ok (.goto 4, 3) := by decide +kernel
theorem d_Mat_subsumes_126 : decode b_Mat_subsumes 126 = .ok (.iconst 0, 1) := by decide +kernel
theorem d_Mat_subsumes_127 : decode b_Mat_subsumes 127 = .ok (.ireturn, 1) := by decide +kernel
abbrev b_Mod_apply : ByteArray := prog_5_method_7_code
def y_Mod_apply : MethodName := ⟨"ClauseProver$Model", "apply", "(II)I"⟩
theorem d_Mod_apply_0 : decode b_Mod_apply 0 = .ok (.aload_n 0, 1) := by decide +kernel
theorem d_Mod_apply_1 : decode b_Mod_apply 1 = .ok (.getfield 30, 3) := by decide +kernel
theorem d_Mod_apply_4 : decode b_Mod_apply 4 = .ok (.iload_n 1, 1) := by decide +kernel
theorem d_Mod_apply_5 : decode b_Mod_apply 5 = .ok (.invokestatic 83, 3) := by decide +kernel
theorem d_Mod_apply_8 : decode b_Mod_apply 8 = .ok (.istore_n 3, 1) := by decide +kernel
theorem d_Mod_apply_9 : decode b_Mod_apply 9 = .ok (.iload_n 2, 1) := by decide +kernel
theorem d_Mod_apply_10 : decode b_Mod_apply 10 = .ok (.aload_n 0, 1) := by decide +kernel
theorem d_Mod_apply_11 : decode b_Mod_apply 11 = .ok (.getfield 22, 3) := by decide +kernel
theorem d_Mod_apply_14 : decode b_Mod_apply 14 = .ok (.getfield 75, 3) := by decide +kernel
theorem d_Mod_apply_17 : decode b_Mod_apply 17 = .ok (.iload_n 1, 1) := by decide +kernel
theorem d_Mod_apply_18 : decode b_Mod_apply 18 = .ok (.iaload, 1) := by decide +kernel
theorem d_Mod_apply_19 : decode b_Mod_apply 19 = .ok (.iadd, 1) := by decide +kernel
theorem d_Mod_apply_20 : decode b_Mod_apply 20 = .ok (.iconst 1, 1) := by decide +kernel
theorem d_Mod_apply_21 : decode b_Mod_apply 21 = .ok (.isub, 1) := by decide +kernel
theorem d_Mod_apply_22 : decode b_Mod_apply 22 = .ok (.istore 4, 2) := by decide +kernel
theorem d_Mod_apply_24 : decode b_Mod_apply 24 = .ok (.iload 4, 2) := by decide +kernel
theorem d_Mod_apply_26 : decode b_Mod_apply 26 = .ok (.iload_n 2, 1) := by decide +kernel
theorem d_Mod_apply_27 : decode b_Mod_apply 27 = .ok (.if_icmp .lt 21, 3) := by decide +kernel
theorem d_Mod_apply_30 : decode b_Mod_apply 30 = .ok (.iload_n 3, 1) := by decide +kernel
theorem d_Mod_apply_31 : decode b_Mod_apply 31 = .ok (.aload_n 0, 1) := by decide +kernel
theorem d_Mod_apply_32 : decode b_Mod_apply 32 = .ok (.getfield 15, 3) := by decide +kernel
theorem d_Mod_apply_35 : decode b_Mod_apply 35 = .ok (.iload 4, 2) := by decide +kernel
theorem d_Mod_apply_37 : decode b_Mod_apply 37 = .ok (.iaload, 1) := by decide +kernel
theorem d_Mod_apply_38 : decode b_Mod_apply 38 = .ok (.invokestatic 83, 3) := by decide +kernel
theorem d_Mod_apply_41 : decode b_Mod_apply 41 = .ok (.istore_n 3, 1) := by decide +kernel
theorem d_Mod_apply_42 : decode b_Mod_apply 42 = .ok (.iinc 4 (-1), 3) := by decide +kernel
theorem d_Mod_apply_45 : decode b_Mod_apply 45 = .ok (.goto (-21), 3) := by decide +kernel
theorem d_Mod_apply_48 : decode b_Mod_apply 48 = .ok (.iload_n 3, 1) := by decide +kernel
theorem d_Mod_apply_49 : decode b_Mod_apply 49 = .ok (.iload_n 3, 1) := by decide +kernel
theorem d_Mod_apply_50 : decode b_Mod_apply 50 = .ok (.bipush 15, 2) := by decide +kernel
theorem d_Mod_apply_52 : decode b_Mod_apply 52 = .ok (.iushr, 1) := by decide +kernel
theorem d_Mod_apply_53 : decode b_Mod_apply 53 = .ok (.ixor, 1) := by decide +kernel
theorem d_Mod_apply_54 : decode b_Mod_apply 54 = .ok (.ldc 86, 2) := by decide +kernel
theorem d_Mod_apply_56 : decode b_Mod_apply 56 = .ok (.imul, 1) := by decide +kernel
theorem d_Mod_apply_57 : decode b_Mod_apply 57 = .ok (.istore_n 3, 1) := by decide +kernel
theorem d_Mod_apply_58 : decode b_Mod_apply 58 = .ok (.iload_n 3, 1) := by decide +kernel
theorem d_Mod_apply_59 : decode b_Mod_apply 59 = .ok (.iload_n 3, 1) := by decide +kernel
theorem d_Mod_apply_60 : decode b_Mod_apply 60 = .ok (.bipush 12, 2) := by decide +kernel
theorem d_Mod_apply_62 : decode b_Mod_apply 62 = .ok (.iushr, 1) := by decide +kernel
theorem d_Mod_apply_63 : decode b_Mod_apply 63 = .ok (.ixor, 1) := by decide +kernel
theorem d_Mod_apply_64 : decode b_Mod_apply 64 = .ok (.istore_n 3, 1) := by decide +kernel
theorem d_Mod_apply_65 : decode b_Mod_apply 65 = .ok (.aload_n 0, 1) := by decide +kernel
theorem d_Mod_apply_66 : decode b_Mod_apply 66 = .ok (.getfield 22, 3) := by decide +kernel
theorem d_Mod_apply_69 : decode b_Mod_apply 69 = .ok (.iload_n 1, 1) := by decide +kernel
theorem d_Mod_apply_70 : decode b_Mod_apply 70 = .ok (.invokevirtual 87, 3) := by decide +kernel
theorem d_Mod_apply_73 : decode b_Mod_apply 73 = .ok (.ifCond .eq 9, 3) := by decide +kernel
theorem d_Mod_apply_76 : decode b_Mod_apply 76 = .ok (.iload_n 3, 1) := by decide +kernel
theorem d_Mod_apply_77 : decode b_Mod_apply 77 = .ok (.iconst 1, 1) := by decide +kernel
theorem d_Mod_apply_78 : decode b_Mod_apply 78 = .ok (.iand, 1) := by decide +kernel
theorem d_Mod_apply_79 : decode b_Mod_apply 79 = .ok (.goto 12, 3) := by decide +kernel
theorem d_Mod_apply_82 : decode b_Mod_apply 82 = .ok (.iload_n 3, 1) := by decide +kernel
theorem d_Mod_apply_83 : decode b_Mod_apply 83 = .ok (.ldc 90, 2) := by decide +kernel
theorem d_Mod_apply_85 : decode b_Mod_apply 85 = .ok (.iand, 1) := by decide +kernel
theorem d_Mod_apply_86 : decode b_Mod_apply 86 = .ok (.aload_n 0, 1) := by decide +kernel
theorem d_Mod_apply_87 : decode b_Mod_apply 87 = .ok (.getfield 18, 3) := by decide +kernel
theorem d_Mod_apply_90 : decode b_Mod_apply 90 = .ok (.irem, 1) := by decide +kernel
theorem d_Mod_apply_91 : decode b_Mod_apply 91 = .ok (.ireturn, 1) := by decide +kernel
abbrev b_Mod_holds : ByteArray := prog_5_method_5_code
def y_Mod_holds : MethodName := ⟨"ClauseProver$Model", "holds", "(I)Z"⟩
theorem d_Mod_holds_0 : decode b_Mod_holds 0 = .ok (.aload_n 0, 1) := by decide +kernel
theorem d_Mod_holds_1 : decode b_Mod_holds 1 = .ok (.getfield 26, 3) := by decide +kernel
theorem d_Mod_holds_4 : decode b_Mod_holds 4 = .ok (.iload_n 1, 1) := by decide +kernel
theorem d_Mod_holds_5 : decode b_Mod_holds 5 = .ok (.bipush 8, 2) := by decide +kernel
theorem d_Mod_holds_7 : decode b_Mod_holds 7 = .ok (.invokevirtual 42, 3) := by decide +kernel
theorem d_Mod_holds_10 : decode b_Mod_holds 10 = .ok (.istore_n 2, 1) := by decide +kernel
theorem d_Mod_holds_11 : decode b_Mod_holds 11 = .ok (.iconst 0, 1) := by decide +kernel
theorem d_Mod_holds_12 : decode b_Mod_holds 12 = .ok (.istore_n 3, 1) := by decide +kernel
theorem d_Mod_holds_13 : decode b_Mod_holds 13 = .ok (.iload_n 3, 1) := by decide +kernel
theorem d_Mod_holds_14 : decode b_Mod_holds 14 = .ok (.aload_n 0, 1) := by decide +kernel
theorem d_Mod_holds_15 : decode b_Mod_holds 15 = .ok (.getfield 26, 3) := by decide +kernel
theorem d_Mod_holds_18 : decode b_Mod_holds 18 = .ok (.iload_n 1, 1) := by decide +kernel
theorem d_Mod_holds_19 : decode b_Mod_holds 19 = .ok (.iconst 3, 1) := by decide +kernel
theorem d_Mod_holds_20 : decode b_Mod_holds 20 = .ok (.invokevirtual 42, 3) := by decide +kernel
theorem d_Mod_holds_23 : decode b_Mod_holds 23 = .ok (.if_icmp .ge 85, 3) := by decide +kernel
theorem d_Mod_holds_26 : decode b_Mod_holds 26 = .ok (.aload_n 0, 1) := by decide +kernel
theorem d_Mod_holds_27 : decode b_Mod_holds 27 = .ok (.getfield 26, 3) := by decide +kernel
theorem d_Mod_holds_30 : decode b_Mod_holds 30 = .ok (.iload_n 2, 1) := by decide +kernel
theorem d_Mod_holds_31 : decode b_Mod_holds 31 = .ok (.iconst 0, 1) := by decide +kernel
theorem d_Mod_holds_32 : decode b_Mod_holds 32 = .ok (.invokevirtual 53, 3) := by decide +kernel
theorem d_Mod_holds_35 : decode b_Mod_holds 35 = .ok (.istore 4, 2) := by decide +kernel
theorem d_Mod_holds_37 : decode b_Mod_holds 37 = .ok (.aload_n 0, 1) := by decide +kernel
theorem d_Mod_holds_38 : decode b_Mod_holds 38 = .ok (.getfield 26, 3) := by decide +kernel
theorem d_Mod_holds_41 : decode b_Mod_holds 41 = .ok (.iload_n 2, 1) := by decide +kernel
theorem d_Mod_holds_42 : decode b_Mod_holds 42 = .ok (.iconst 1, 1) := by decide +kernel
theorem d_Mod_holds_43 : decode b_Mod_holds 43 = .ok (.invokevirtual 53, 3) := by decide +kernel
theorem d_Mod_holds_46 : decode b_Mod_holds 46 = .ok (.istore 5, 2) := by decide +kernel
theorem d_Mod_holds_48 : decode b_Mod_holds 48 = .ok (.aload_n 0, 1) := by decide +kernel
theorem d_Mod_holds_49 : decode b_Mod_holds 49 = .ok (.getfield 26, 3) := by decide +kernel
theorem d_Mod_holds_52 : decode b_Mod_holds 52 = .ok (.iload_n 2, 1) := by decide +kernel
theorem d_Mod_holds_53 : decode b_Mod_holds 53 = .ok (.invokevirtual 56, 3) := by decide +kernel
theorem d_Mod_holds_56 : decode b_Mod_holds 56 = .ok (.istore 6, 2) := by decide +kernel
theorem d_Mod_holds_58 : decode b_Mod_holds 58 = .ok (.aload_n 0, 1) := by decide +kernel
theorem d_Mod_holds_59 : decode b_Mod_holds 59 = .ok (.iload 4, 2) := by decide +kernel
theorem d_Mod_holds_61 : decode b_Mod_holds 61 = .ok (.iload 5, 2) := by decide +kernel
theorem d_Mod_holds_63 : decode b_Mod_holds 63 = .ok (.invokevirtual 60, 3) := by decide +kernel
theorem d_Mod_holds_66 : decode b_Mod_holds 66 = .ok (.aload_n 0, 1) := by decide +kernel
theorem d_Mod_holds_67 : decode b_Mod_holds 67 = .ok (.iload 5, 2) := by decide +kernel
theorem d_Mod_holds_69 : decode b_Mod_holds 69 = .ok (.iload 6, 2) := by decide +kernel
theorem d_Mod_holds_71 : decode b_Mod_holds 71 = .ok (.invokevirtual 60, 3) := by decide +kernel
theorem d_Mod_holds_74 : decode b_Mod_holds 74 = .ok (.if_icmp .ne 7, 3) := by decide +kernel
theorem d_Mod_holds_77 : decode b_Mod_holds 77 = .ok (.iconst 1, 1) := by decide +kernel
theorem d_Mod_holds_78 : decode b_Mod_holds 78 = .ok (.goto 4, 3) := by decide +kernel
theorem d_Mod_holds_81 : decode b_Mod_holds 81 = .ok (.iconst 0, 1) := by decide +kernel
theorem d_Mod_holds_82 : decode b_Mod_holds 82 = .ok (.istore 7, 2) := by decide +kernel
theorem d_Mod_holds_84 : decode b_Mod_holds 84 = .ok (.iload 7, 2) := by decide +kernel
theorem d_Mod_holds_86 : decode b_Mod_holds 86 = .ok (.aload_n 0, 1) := by decide +kernel
theorem d_Mod_holds_87 : decode b_Mod_holds 87 = .ok (.getfield 26, 3) := by decide +kernel
theorem d_Mod_holds_90 : decode b_Mod_holds 90 = .ok (.iload_n 2, 1) := by decide +kernel
theorem d_Mod_holds_91 : decode b_Mod_holds 91 = .ok (.invokevirtual 63, 3) := by decide +kernel
theorem d_Mod_holds_94 : decode b_Mod_holds 94 = .ok (.if_icmp .ne 5, 3) := by decide +kernel
theorem d_Mod_holds_97 : decode b_Mod_holds 97 = .ok (.iconst 1, 1) := by decide +kernel
theorem d_Mod_holds_98 : decode b_Mod_holds 98 = .ok (.ireturn, 1) := by decide +kernel
theorem d_Mod_holds_99 : decode b_Mod_holds 99 = .ok (.iload 6, 2) := by decide +kernel
theorem d_Mod_holds_101 : decode b_Mod_holds 101 = .ok (.istore_n 2, 1) := by decide +kernel
theorem d_Mod_holds_102 : decode b_Mod_holds 102 = .ok (.iinc 3 1, 3) := by decide +kernel
theorem d_Mod_holds_105 : decode b_Mod_holds 105 = .ok (.goto (-92), 3) := by decide +kernel
theorem d_Mod_holds_108 : decode b_Mod_holds 108 = .ok (.iconst 0, 1) := by decide +kernel
theorem d_Mod_holds_109 : decode b_Mod_holds 109 = .ok (.ireturn, 1) := by decide +kernel
abbrev b_Mod_makesTrue : ByteArray := prog_5_method_3_code
def y_Mod_makesTrue : MethodName := ⟨"ClauseProver$Model", "makesTrue", "(I)Z"⟩
theorem d_Mod_makesTrue_0 : decode b_Mod_makesTrue 0 = .ok (.aload_n 0, 1) := by decide +kernel
theorem d_Mod_makesTrue_1 : decode b_Mod_makesTrue 1 = .ok (.getfield 26, 3) := by decide +kernel
theorem d_Mod_makesTrue_4 : decode b_Mod_makesTrue 4 = .ok (.iload_n 1, 1) := by decide +kernel
theorem d_Mod_makesTrue_5 : decode b_Mod_makesTrue 5 = .ok (.iconst 5, 1) := by decide +kernel
theorem d_Mod_makesTrue_6 : decode b_Mod_makesTrue 6 = .ok (.invokevirtual 42, 3) := by decide +kernel
theorem d_Mod_makesTrue_9 : decode b_Mod_makesTrue 9 = .ok (.istore_n 2, 1) := by decide +kernel
theorem d_Mod_makesTrue_10 : decode b_Mod_makesTrue 10 = .ok (.iconst 1, 1) := by decide +kernel
theorem d_Mod_makesTrue_11 : decode b_Mod_makesTrue 11 = .ok (.istore_n 3, 1) := by decide +kernel
theorem d_Mod_makesTrue_12 : decode b_Mod_makesTrue 12 = .ok (.iconst 0, 1) := by decide +kernel
theorem d_Mod_makesTrue_13 : decode b_Mod_makesTrue 13 = .ok (.istore 4, 2) := by decide +kernel
theorem d_Mod_makesTrue_15 : decode b_Mod_makesTrue 15 = .ok (.iload 4, 2) := by decide +kernel
theorem d_Mod_makesTrue_17 : decode b_Mod_makesTrue 17 = .ok (.iload_n 2, 1) := by decide +kernel
theorem d_Mod_makesTrue_18 : decode b_Mod_makesTrue 18 = .ok (.if_icmp .ge 24, 3) := by decide +kernel
theorem d_Mod_makesTrue_21 : decode b_Mod_makesTrue 21 = .ok (.aload_n 0, 1) := by decide +kernel
theorem d_Mod_makesTrue_22 : decode b_Mod_makesTrue 22 = .ok (.getfield 9, 3) := by decide +kernel
theorem d_Mod_makesTrue_25 : decode b_Mod_makesTrue 25 = .ok (.iload 4, 2) := by decide +kernel
theorem d_Mod_makesTrue_27 : decode b_Mod_makesTrue 27 = .ok (.iconst 0, 1) := by decide +kernel
theorem d_Mod_makesTrue_28 : decode b_Mod_makesTrue 28 = .ok (.iastore, 1) := by decide +kernel
theorem d_Mod_makesTrue_29 : decode b_Mod_makesTrue 29 = .ok (.iload_n 3, 1) := by decide +kernel
theorem d_Mod_makesTrue_30 : decode b_Mod_makesTrue 30 = .ok (.aload_n 0, 1) := by decide +kernel
theorem d_Mod_makesTrue_31 : decode b_Mod_makesTrue 31 = .ok (.getfield 18, 3) := by decide +kernel
theorem d_Mod_makesTrue_34 : decode b_Mod_makesTrue 34 = .ok (.imul, 1) := by decide +kernel
theorem d_Mod_makesTrue_35 : decode b_Mod_makesTrue 35 = .ok (.istore_n 3, 1) := by decide +kernel
theorem d_Mod_makesTrue_36 : decode b_Mod_makesTrue 36 = .ok (.iinc 4 1, 3) := by decide +kernel
theorem d_Mod_makesTrue_39 : decode b_Mod_makesTrue 39 = .ok (.goto (-24), 3) := by decide +kernel
theorem d_Mod_makesTrue_42 : decode b_Mod_makesTrue 42 = .ok (.iconst 0, 1) := by decide +kernel
theorem d_Mod_makesTrue_43 : decode b_Mod_makesTrue 43 = .ok (.istore 4, 2) := by decide +kernel
theorem d_Mod_makesTrue_45 : decode b_Mod_makesTrue 45 = .ok (.iload 4, 2) := by decide +kernel
theorem d_Mod_makesTrue_47 : decode b_Mod_makesTrue 47 = .ok (.iload_n 3, 1) := by decide +kernel
theorem d_Mod_makesTrue_48 : decode b_Mod_makesTrue 48 = .ok (.if_icmp .ge 24, 3) := by decide +kernel
theorem d_Mod_makesTrue_51 : decode b_Mod_makesTrue 51 = .ok (.aload_n 0, 1) := by decide +kernel
theorem d_Mod_makesTrue_52 : decode b_Mod_makesTrue 52 = .ok (.iload_n 1, 1) := by decide +kernel
theorem d_Mod_makesTrue_53 : decode b_Mod_makesTrue 53 = .ok (.invokevirtual 46, 3) := by decide +kernel
theorem d_Mod_makesTrue_56 : decode b_Mod_makesTrue 56 = .ok (.ifCond .ne 5, 3) := by decide +kernel
theorem d_Mod_makesTrue_59 : decode b_Mod_makesTrue 59 = .ok (.iconst 0, 1) := by decide +kernel
theorem d_Mod_makesTrue_60 : decode b_Mod_makesTrue 60 = .ok (.ireturn, 1) := by decide +kernel
theorem d_Mod_makesTrue_61 : decode b_Mod_makesTrue 61 = .ok (.aload_n 0, 1) := by decide +kernel
theorem d_Mod_makesTrue_62 : decode b_Mod_makesTrue 62 = .ok (.iload_n 2, 1) := by decide +kernel
theorem d_Mod_makesTrue_63 : decode b_Mod_makesTrue 63 = .ok (.invokevirtual 49, 3) := by decide +kernel
theorem d_Mod_makesTrue_66 : decode b_Mod_makesTrue 66 = .ok (.iinc 4 1, 3) := by decide +kernel
theorem d_Mod_makesTrue_69 : decode b_Mod_makesTrue 69 = .ok (.goto (-24), 3) := by decide +kernel
theorem d_Mod_makesTrue_72 : decode b_Mod_makesTrue 72 = .ok (.iconst 1, 1) := by decide +kernel
theorem d_Mod_makesTrue_73 : decode b_Mod_makesTrue 73 = .ok (.ireturn, 1) := by decide +kernel
abbrev b_Mod_mix : ByteArray := prog_5_method_8_code
def y_Mod_mix : MethodName := ⟨"ClauseProver$Model", "mix", "(II)I"⟩
theorem d_Mod_mix_0 : decode b_Mod_mix 0 = .ok (.bipush 31, 2) := by decide +kernel
theorem d_Mod_mix_2 : decode b_Mod_mix 2 = .ok (.iload_n 0, 1) := by decide +kernel
theorem d_Mod_mix_3 : decode b_Mod_mix 3 = .ok (.iload_n 0, 1) := by decide +kernel
theorem d_Mod_mix_4 : decode b_Mod_mix 4 = .ok (.bipush 7, 2) := by decide +kernel
theorem d_Mod_mix_6 : decode b_Mod_mix 6 = .ok (.iushr, 1) := by decide +kernel
theorem d_Mod_mix_7 : decode b_Mod_mix 7 = .ok (.ixor, 1) := by decide +kernel
theorem d_Mod_mix_8 : decode b_Mod_mix 8 = .ok (.imul, 1) := by decide +kernel
theorem d_Mod_mix_9 : decode b_Mod_mix 9 = .ok (.iload_n 1, 1) := by decide +kernel
theorem d_Mod_mix_10 : decode b_Mod_mix 10 = .ok (.iadd, 1) := by decide +kernel
theorem d_Mod_mix_11 : decode b_Mod_mix 11 = .ok (.iconst 1, 1) := by decide +kernel
theorem d_Mod_mix_12 : decode b_Mod_mix 12 = .ok (.iadd, 1) := by decide +kernel
theorem d_Mod_mix_13 : decode b_Mod_mix 13 = .ok (.ireturn, 1) := by decide +kernel
abbrev b_Mod_nextElements : ByteArray := prog_5_method_4_code
def y_Mod_nextElements : MethodName := ⟨"ClauseProver$Model", "nextElements", "(I)V"⟩
theorem d_Mod_nextElements_0 : decode b_Mod_nextElements 0 = .ok (.iconst 0, 1) := by decide +kernel
theorem d_Mod_nextElements_1 : decode b_Mod_nextElements 1 = .ok (.istore_n 2, 1) := by decide +kernel
theorem d_Mod_nextElements_2 : decode b_Mod_nextElements 2 = .ok (.iload_n 2, 1) := by decide +kernel
theorem d_Mod_nextElements_3 : decode b_Mod_nextElements 3 = .ok (.iload_n 1, 1) := by decide +kernel
theorem d_Mod_nextElements_4 : decode b_Mod_nextElements 4 = .ok (.if_icmp .ge 40, 3) := by decide +kernel
theorem d_Mod_nextElements_7 : decode b_Mod_nextElements 7 = .ok (.aload_n 0, 1) := by decide +kernel
theorem d_Mod_nextElements_8 : decode b_Mod_nextElements 8 = .ok (.getfield 9, 3) := by decide +kernel
theorem d_Mod_nextElements_11 : decode b_Mod_nextElements 11 = .ok (.iload_n 2, 1) := by decide +kernel
theorem d_Mod_nextElements_12 : decode b_Mod_nextElements 12 = .ok (.dup2, 1) := by decide +kernel
theorem d_Mod_nextElements_13 : decode b_Mod_nextElements 13 = .ok (.iaload, 1) := by decide +kernel
theorem d_Mod_nextElements_14 : decode b_Mod_nextElements 14 = .ok (.iconst 1, 1) := by decide +kernel
theorem d_Mod_nextElements_15 : decode b_Mod_nextElements 15 = .ok (.iadd, 1) := by decide +kernel
theorem d_Mod_nextElements_16 : decode b_Mod_nextElements 16 = .ok (.iastore, 1) := by decide +kernel
theorem d_Mod_nextElements_17 : decode b_Mod_nextElements 17 = .ok (.aload_n 0, 1) := by decide +kernel
theorem d_Mod_nextElements_18 : decode b_Mod_nextElements 18 = .ok (.getfield 9, 3) := by decide +kernel
theorem d_Mod_nextElements_21 : decode b_Mod_nextElements 21 = .ok (.iload_n 2, 1) := by decide +kernel
theorem d_Mod_nextElements_22 : decode b_Mod_nextElements 22 = .ok (.iaload, 1) := by decide +kernel
theorem d_Mod_nextElements_23 : decode b_Mod_nextElements 23 = .ok (.aload_n 0, 1) := by decide +kernel
theorem d_Mod_nextElements_24 : decode b_Mod_nextElements 24 = .ok (.getfield 18, 3) := by decide +kernel
theorem d_Mod_nextElements_27 : decode b_Mod_nextElements 27 = .ok (.if_icmp .ge 4, 3) := by decide +kernel
theorem d_Mod_nextElements_30 : decode b_Mod_nextElements 30 = .ok (.return_, 1) := by decide +kernel
theorem d_Mod_nextElements_31 : decode b_Mod_nextElements 31 = .ok (.aload_n 0, 1) := by decide +kernel
theorem d_Mod_nextElements_32 : decode b_Mod_nextElements 32 = .ok (.getfield 9, 3) := by decide +kernel
theorem d_Mod_nextElements_35 : decode b_Mod_nextElements 35 = .ok (.iload_n 2, 1) := by decide +kernel
theorem d_Mod_nextElements_36 : decode b_Mod_nextElements 36 = .ok (.iconst 0, 1) := by decide +kernel
theorem d_Mod_nextElements_37 : decode b_Mod_nextElements 37 = .ok (.iastore, 1) := by decide +kernel
theorem d_Mod_nextElements_38 : decode b_Mod_nextElements 38 = .ok (.iinc 2 1, 3) := by decide +kernel
theorem d_Mod_nextElements_41 : decode b_Mod_nextElements 41 = .ok (.goto (-39), 3) := by decide +kernel
theorem d_Mod_nextElements_44 : decode b_Mod_nextElements 44 = .ok (.return_, 1) := by decide +kernel
abbrev b_Mod_suitsText : ByteArray := prog_5_method_2_code
def y_Mod_suitsText : MethodName := ⟨"ClauseProver$Model", "suitsText", "(II)Z"⟩
theorem d_Mod_suitsText_0 : decode b_Mod_suitsText 0 = .ok (.aload_n 0, 1) := by decide +kernel
theorem d_Mod_suitsText_1 : decode b_Mod_suitsText 1 = .ok (.iload_n 1, 1) := by decide +kernel
theorem d_Mod_suitsText_2 : decode b_Mod_suitsText 2 = .ok (.putfield 30, 3) := by decide +kernel
theorem d_Mod_suitsText_5 : decode b_Mod_suitsText 5 = .ok (.aload_n 0, 1) := by decide +kernel
theorem d_Mod_suitsText_6 : decode b_Mod_suitsText 6 = .ok (.iload_n 2, 1) := by decide +kernel
theorem d_Mod_suitsText_7 : decode b_Mod_suitsText 7 = .ok (.putfield 18, 3) := by decide +kernel
theorem d_Mod_suitsText_10 : decode b_Mod_suitsText 10 = .ok (.iconst 0, 1) := by decide +kernel
theorem d_Mod_suitsText_11 : decode b_Mod_suitsText 11 = .ok (.istore_n 3, 1) := by decide +kernel
theorem d_Mod_suitsText_12 : decode b_Mod_suitsText 12 = .ok (.iload_n 3, 1) := by decide +kernel
theorem d_Mod_suitsText_13 : decode b_Mod_suitsText 13 = .ok (.aload_n 0, 1) := by decide +kernel
theorem d_Mod_suitsText_14 : decode b_Mod_suitsText 14 = .ok (.getfield 26, 3) := by decide +kernel
theorem d_Mod_suitsText_17 : decode b_Mod_suitsText 17 = .ok (.getfield 33, 3) := by decide +kernel
theorem d_Mod_suitsText_20 : decode b_Mod_suitsText 20 = .ok (.if_icmp .ge 19, 3) := by decide +kernel
theorem d_Mod_suitsText_23 : decode b_Mod_suitsText 23 = .ok (.aload_n 0, 1) := by decide +kernel
theorem d_Mod_suitsText_24 : decode b_Mod_suitsText 24 = .ok (.iload_n 3, 1) := by decide +kernel
theorem d_Mod_suitsText_25 : decode b_Mod_suitsText 25 = .ok (.invokevirtual 38, 3) := by decide +kernel
theorem d_Mod_suitsText_28 : decode b_Mod_suitsText 28 = .ok (.ifCond .ne 5, 3) := by decide +kernel
theorem d_Mod_suitsText_31 : decode b_Mod_suitsText 31 = .ok (.iconst 0, 1) := by decide +kernel
theorem d_Mod_suitsText_32 : decode b_Mod_suitsText 32 = .ok (.ireturn, 1) := by decide +kernel
theorem d_Mod_suitsText_33 : decode b_Mod_suitsText 33 = .ok (.iinc 3 1, 3) := by decide +kernel
theorem d_Mod_suitsText_36 : decode b_Mod_suitsText 36 = .ok (.goto (-24), 3) := by decide +kernel
theorem d_Mod_suitsText_39 : decode b_Mod_suitsText 39 = .ok (.iconst 1, 1) := by decide +kernel
theorem d_Mod_suitsText_40 : decode b_Mod_suitsText 40 = .ok (.ireturn, 1) := by decide +kernel
abbrev b_Mod_valueOf : ByteArray := prog_5_method_6_code
def y_Mod_valueOf : MethodName := ⟨"ClauseProver$Model", "valueOf", "(II)I"⟩
theorem d_Mod_valueOf_0 : decode b_Mod_valueOf 0 = .ok (.iconst 0, 1) := by decide +kernel
theorem d_Mod_valueOf_1 : decode b_Mod_valueOf 1 = .ok (.istore_n 3, 1) := by decide +kernel
theorem d_Mod_valueOf_2 : decode b_Mod_valueOf 2 = .ok (.iload_n 2, 1) := by decide +kernel
theorem d_Mod_valueOf_3 : decode b_Mod_valueOf 3 = .ok (.iconst 1, 1) := by decide +kernel
theorem d_Mod_valueOf_4 : decode b_Mod_valueOf 4 = .ok (.isub, 1) := by decide +kernel
theorem d_Mod_valueOf_5 : decode b_Mod_valueOf 5 = .ok (.istore 4, 2) := by decide +kernel
theorem d_Mod_valueOf_7 : decode b_Mod_valueOf 7 = .ok (.iload 4, 2) := by decide +kernel
theorem d_Mod_valueOf_9 : decode b_Mod_valueOf 9 = .ok (.iload_n 1, 1) := by decide +kernel
theorem d_Mod_valueOf_10 : decode b_Mod_valueOf 10 = .ok (.if_icmp .lt 97, 3) := by decide +kernel
theorem d_Mod_valueOf_13 : decode b_Mod_valueOf 13 = .ok (.aload_n 0, 1) := by decide +kernel
theorem d_Mod_valueOf_14 : decode b_Mod_valueOf 14 = .ok (.getfield 26, 3) := by decide +kernel
theorem d_Mod_valueOf_17 : decode b_Mod_valueOf 17 = .ok (.getfield 66, 3) := by decide +kernel
theorem d_Mod_valueOf_20 : decode b_Mod_valueOf 20 = .ok (.getfield 70, 3) := by decide +kernel
theorem d_Mod_valueOf_23 : decode b_Mod_valueOf 23 = .ok (.iload 4, 2) := by decide +kernel
theorem d_Mod_valueOf_25 : decode b_Mod_valueOf 25 = .ok (.iaload, 1) := by decide +kernel
theorem d_Mod_valueOf_26 : decode b_Mod_valueOf 26 = .ok (.istore 5, 2) := by decide +kernel
theorem d_Mod_valueOf_28 : decode b_Mod_valueOf 28 = .ok (.iload 5, 2) := by decide +kernel
theorem d_Mod_valueOf_30 : decode b_Mod_valueOf 30 = .ok (.ifCond .ge 24, 3) := by decide +kernel
theorem d_Mod_valueOf_33 : decode b_Mod_valueOf 33 = .ok (.aload_n 0, 1) := by decide +kernel
theorem d_Mod_valueOf_34 : decode b_Mod_valueOf 34 = .ok (.getfield 15, 3) := by decide +kernel
theorem d_Mod_valueOf_37 : decode b_Mod_valueOf 37 = .ok (.iload_n 3, 1) := by decide +kernel
theorem d_Mod_valueOf_38 : decode b_Mod_valueOf 38 = .ok (.iinc 3 1, 3) := by decide +kernel
theorem d_Mod_valueOf_41 : decode b_Mod_valueOf 41 = .ok (.aload_n 0, 1) := by decide +kernel
theorem d_Mod_valueOf_42 : decode b_Mod_valueOf 42 = .ok (.getfield 9, 3) := by decide +kernel
theorem d_Mod_valueOf_45 : decode b_Mod_valueOf 45 = .ok (.iload 5, 2) := by decide +kernel
theorem d_Mod_valueOf_47 : decode b_Mod_valueOf 47 = .ok (.iconst (-1), 1) := by decide +kernel
theorem d_Mod_valueOf_48 : decode b_Mod_valueOf 48 = .ok (.ixor, 1) := by decide +kernel
theorem d_Mod_valueOf_49 : decode b_Mod_valueOf 49 = .ok (.iaload, 1) := by decide +kernel
theorem d_Mod_valueOf_50 : decode b_Mod_valueOf 50 = .ok (.iastore, 1) := by decide +kernel
theorem d_Mod_valueOf_51 : decode b_Mod_valueOf 51 = .ok (.goto 50, 3) := by decide +kernel
theorem d_Mod_valueOf_54 : decode b_Mod_valueOf 54 = .ok (.iload 5, 2) := by decide +kernel
theorem d_Mod_valueOf_56 : decode b_Mod_valueOf 56 = .ok (.ifCond .ne 16, 3) := by decide +kernel
theorem d_Mod_valueOf_59 : decode b_Mod_valueOf 59 = .ok (.aload_n 0, 1) := by decide +kernel
theorem d_Mod_valueOf_60 : decode b_Mod_valueOf 60 = .ok (.getfield 15, 3) := by decide +kernel
theorem d_Mod_valueOf_63 : decode b_Mod_valueOf 63 = .ok (.iload_n 3, 1) := by decide +kernel
theorem d_Mod_valueOf_64 : decode b_Mod_valueOf 64 = .ok (.iinc 3 1, 3) := by decide +kernel
theorem d_Mod_valueOf_67 : decode b_Mod_valueOf 67 = .ok (.iconst 1, 1) := by decide +kernel
theorem d_Mod_valueOf_68 : decode b_Mod_valueOf 68 = .ok (.iastore, 1) := by decide +kernel
theorem d_Mod_valueOf_69 : decode b_Mod_valueOf 69 = .ok (.goto 32, 3) := by decide +kernel
theorem d_Mod_valueOf_72 : decode b_Mod_valueOf 72 = .ok (.iload_n 3, 1) := by decide +kernel
theorem d_Mod_valueOf_73 : decode b_Mod_valueOf 73 = .ok (.aload_n 0, 1) := by decide +kernel
theorem d_Mod_valueOf_74 : decode b_Mod_valueOf 74 = .ok (.getfield 22, 3) := by decide +kernel
theorem d_Mod_valueOf_77 : decode b_Mod_valueOf 77 = .ok (.getfield 75, 3) := by decide +kernel
theorem d_Mod_valueOf_80 : decode b_Mod_valueOf 80 = .ok (.iload 5, 2) := by decide +kernel
theorem d_Mod_valueOf_82 : decode b_Mod_valueOf 82 = .ok (.iaload, 1) := by decide +kernel
theorem d_Mod_valueOf_83 : decode b_Mod_valueOf 83 = .ok (.isub, 1) := by decide +kernel
theorem d_Mod_valueOf_84 : decode b_Mod_valueOf 84 = .ok (.istore_n 3, 1) := by decide +kernel
theorem d_Mod_valueOf_85 : decode b_Mod_valueOf 85 = .ok (.aload_n 0, 1) := by decide +kernel
theorem d_Mod_valueOf_86 : decode b_Mod_valueOf 86 = .ok (.getfield 15, 3) := by decide +kernel
theorem d_Mod_valueOf_89 : decode b_Mod_valueOf 89 = .ok (.iload_n 3, 1) := by decide +kernel
theorem d_Mod_valueOf_90 : decode b_Mod_valueOf 90 = .ok (.aload_n 0, 1) := by decide +kernel
theorem d_Mod_valueOf_91 : decode b_Mod_valueOf 91 = .ok (.iload 5, 2) := by decide +kernel
theorem d_Mod_valueOf_93 : decode b_Mod_valueOf 93 = .ok (.iload_n 3, 1) := by decide +kernel
theorem d_Mod_valueOf_94 : decode b_Mod_valueOf 94 = .ok (.invokevirtual 80, 3) := by decide +kernel
theorem d_Mod_valueOf_97 : decode b_Mod_valueOf 97 = .ok (.iastore, 1) := by decide +kernel
theorem d_Mod_valueOf_98 : decode b_Mod_valueOf 98 = .ok (.iinc 3 1, 3) := by decide +kernel
theorem d_Mod_valueOf_101 : decode b_Mod_valueOf 101 = .ok (.iinc 4 (-1), 3) := by decide +kernel
theorem d_Mod_valueOf_104 : decode b_Mod_valueOf 104 = .ok (.goto (-97), 3) := by decide +kernel
theorem d_Mod_valueOf_107 : decode b_Mod_valueOf 107 = .ok (.aload_n 0, 1) := by decide +kernel
theorem d_Mod_valueOf_108 : decode b_Mod_valueOf 108 = .ok (.getfield 15, 3) := by decide +kernel
theorem d_Mod_valueOf_111 : decode b_Mod_valueOf 111 = .ok (.iconst 0, 1) := by decide +kernel
theorem d_Mod_valueOf_112 : decode b_Mod_valueOf 112 = .ok (.iaload, 1) := by decide +kernel
theorem d_Mod_valueOf_113 : decode b_Mod_valueOf 113 = .ok (.ireturn, 1) := by decide +kernel
abbrev b_Par_fail : ByteArray := prog_6_method_4_code
def y_Par_fail : MethodName := ⟨"ClauseProver$Parser", "fail", "(II)V"⟩
theorem d_Par_fail_0 : decode b_Par_fail 0 = .ok (.aload_n 0, 1) := by decide +kernel
theorem d_Par_fail_1 : decode b_Par_fail 1 = .ok (.iload_n 1, 1) := by decide +kernel
theorem d_Par_fail_2 : decode b_Par_fail 2 = .ok (.putfield 41, 3) := by decide +kernel
theorem d_Par_fail_5 : decode b_Par_fail 5 = .ok (.aload_n 0, 1) := by decide +kernel
theorem d_Par_fail_6 : decode b_Par_fail 6 = .ok (.iload_n 2, 1) := by decide +kernel
theorem d_Par_fail_7 : decode b_Par_fail 7 = .ok (.putfield 45, 3) := by decide +kernel
theorem d_Par_fail_10 : decode b_Par_fail 10 = .ok (.return_, 1) := by decide +kernel
abbrev b_Par_isNest : ByteArray := prog_6_method_21_code
def y_Par_isNest : MethodName := ⟨"ClauseProver$Parser", "isNest", "(I)Z"⟩
theorem d_Par_isNest_0 : decode b_Par_isNest 0 = .ok (.iload_n 0, 1) := by decide +kernel
theorem d_Par_isNest_1 : decode b_Par_isNest 1 = .ok (.bipush 11, 2) := by decide +kernel
theorem d_Par_isNest_3 : decode b_Par_isNest 3 = .ok (.if_icmp .eq 26, 3) := by decide +kernel
theorem d_Par_isNest_6 : decode b_Par_isNest 6 = .ok (.iload_n 0, 1) := by decide +kernel
theorem d_Par_isNest_7 : decode b_Par_isNest 7 = .ok (.iconst 5, 1) := by decide +kernel
theorem d_Par_isNest_8 : decode b_Par_isNest 8 = .ok (.if_icmp .eq 21, 3) := by decide +kernel
theorem d_Par_isNest_11 : decode b_Par_isNest 11 = .ok (.iload_n 0, 1) := by decide +kernel
theorem d_Par_isNest_12 : decode b_Par_isNest 12 = .ok (.bipush 12, 2) := by decide +kernel
theorem d_Par_isNest_14 : decode b_Par_isNest 14 = .ok (.if_icmp .eq 15, 3) := by decide +kernel
theorem d_Par_isNest_17 : decode b_Par_isNest 17 = .ok (.iload_n 0, 1) := by decide +kernel
theorem d_Par_isNest_18 : decode b_Par_isNest 18 = .ok (.bipush 13, 2) := by decide +kernel
theorem d_Par_isNest_20 : decode b_Par_isNest 20 = .ok (.if_icmp .eq 9, 3) := by decide +kernel
theorem d_Par_isNest_23 : decode b_Par_isNest 23 = .ok (.iload_n 0, 1) := by decide +kernel
theorem d_Par_isNest_24 : decode b_Par_isNest 24 = .ok (.bipush 16, 2) := by decide +kernel
theorem d_Par_isNest_26 : decode b_Par_isNest 26 = .ok (.if_icmp .ne 7, 3) := by decide +kernel
theorem d_Par_isNest_29 : decode b_Par_isNest 29 = .ok (.iconst 1, 1) := by decide +kernel
theorem d_Par_isNest_30 : decode b_Par_isNest 30 = .ok (.goto 4, 3) := by decide +kernel
theorem d_Par_isNest_33 : decode b_Par_isNest 33 = .ok (.iconst 0, 1) := by decide +kernel
theorem d_Par_isNest_34 : decode b_Par_isNest 34 = .ok (.ireturn, 1) := by decide +kernel
abbrev b_Par_pop : ByteArray := prog_6_method_23_code
def y_Par_pop : MethodName := ⟨"ClauseProver$Parser", "pop", "()V"⟩
theorem d_Par_pop_0 : decode b_Par_pop 0 = .ok (.aload_n 0, 1) := by decide +kernel
theorem d_Par_pop_1 : decode b_Par_pop 1 = .ok (.dup, 1) := by decide +kernel
theorem d_Par_pop_2 : decode b_Par_pop 2 = .ok (.getfield 86, 3) := by decide +kernel
theorem d_Par_pop_5 : decode b_Par_pop 5 = .ok (.aload_n 0, 1) := by decide +kernel
theorem d_Par_pop_6 : decode b_Par_pop 6 = .ok (.invokevirtual 187, 3) := by decide +kernel
theorem d_Par_pop_9 : decode b_Par_pop 9 = .ok (.invokestatic 193, 3) := by decide +kernel
theorem d_Par_pop_12 : decode b_Par_pop 12 = .ok (.ifCond .eq 7, 3) := by decide +kernel
theorem d_Par_pop_15 : decode b_Par_pop 15 = .ok (.iconst 1, 1) := by decide +kernel
theorem d_Par_pop_16 : decode b_Par_pop 16 = .ok (.goto 4, 3) := by decide +kernel
theorem d_Par_pop_19 : decode b_Par_pop 19 = .ok (.iconst 0, 1) := by decide +kernel
theorem d_Par_pop_20 : decode b_Par_pop 20 = .ok (.isub, 1) := by decide +kernel
theorem d_Par_pop_21 : decode b_Par_pop 21 = .ok (.putfield 86, 3) := by decide +kernel
theorem d_Par_pop_24 : decode b_Par_pop 24 = .ok (.aload_n 0, 1) := by decide +kernel
theorem d_Par_pop_25 : decode b_Par_pop 25 = .ok (.getfield 23, 3) := by decide +kernel
theorem d_Par_pop_28 : decode b_Par_pop 28 = .ok (.dup, 1) := by decide +kernel
theorem d_Par_pop_29 : decode b_Par_pop 29 = .ok (.getfield 83, 3) := by decide +kernel
theorem d_Par_pop_32 : decode b_Par_pop 32 = .ok (.iconst 1, 1) := by decide +kernel
theorem d_Par_pop_33 : decode b_Par_pop 33 = .ok (.isub, 1) := by decide +kernel
theorem d_Par_pop_34 : decode b_Par_pop 34 = .ok (.putfield 83, 3) := by decide +kernel
theorem d_Par_pop_37 : decode b_Par_pop 37 = .ok (.aload_n 0, 1) := by decide +kernel
theorem d_Par_pop_38 : decode b_Par_pop 38 = .ok (.getfield 27, 3) := by decide +kernel
theorem d_Par_pop_41 : decode b_Par_pop 41 = .ok (.dup, 1) := by decide +kernel
theorem d_Par_pop_42 : decode b_Par_pop 42 = .ok (.getfield 83, 3) := by decide +kernel
theorem d_Par_pop_45 : decode b_Par_pop 45 = .ok (.iconst 1, 1) := by decide +kernel
theorem d_Par_pop_46 : decode b_Par_pop 46 = .ok (.isub, 1) := by decide +kernel
theorem d_Par_pop_47 : decode b_Par_pop 47 = .ok (.putfield 83, 3) := by decide +kernel
theorem d_Par_pop_50 : decode b_Par_pop 50 = .ok (.return_, 1) := by decide +kernel
abbrev b_Par_refuse : ByteArray := prog_6_method_5_code
def y_Par_refuse : MethodName := ⟨"ClauseProver$Parser", "refuse", "()V"⟩
theorem d_Par_refuse_0 : decode b_Par_refuse 0 = .ok (.aload_n 0, 1) := by decide +kernel
theorem d_Par_refuse_1 : decode b_Par_refuse 1 = .ok (.aload_n 0, 1) := by decide +kernel
theorem d_Par_refuse_2 : decode b_Par_refuse 2 = .ok (.getfield 12, 3) := by decide +kernel
theorem d_Par_refuse_5 : decode b_Par_refuse 5 = .ok (.getfield 92, 3) := by decide +kernel
theorem d_Par_refuse_8 : decode b_Par_refuse 8 = .ok (.ifCond .eq 7, 3) := by decide +kernel
theorem d_Par_refuse_11 : decode b_Par_refuse 11 = .ok (.iconst 3, 1) := by decide +kernel
theorem d_Par_refuse_12 : decode b_Par_refuse 12 = .ok (.goto 4, 3) := by decide +kernel
theorem d_Par_refuse_15 : decode b_Par_refuse 15 = .ok (.iconst 1, 1) := by decide +kernel
theorem d_Par_refuse_16 : decode b_Par_refuse 16 = .ok (.aload_n 0, 1) := by decide +kernel
theorem d_Par_refuse_17 : decode b_Par_refuse 17 = .ok (.getfield 12, 3) := by decide +kernel
theorem d_Par_refuse_20 : decode b_Par_refuse 20 = .ok (.getfield 77, 3) := by decide +kernel
theorem d_Par_refuse_23 : decode b_Par_refuse 23 = .ok (.invokevirtual 96, 3) := by decide +kernel
theorem d_Par_refuse_26 : decode b_Par_refuse 26 = .ok (.return_, 1) := by decide +kernel
abbrev b_Par_settle : ByteArray := prog_6_method_14_code
def y_Par_settle : MethodName := ⟨"ClauseProver$Parser", "settle", "(IIII)V"⟩
theorem d_Par_settle_0 : decode b_Par_settle 0 = .ok (.aload_n 0, 1) := by decide +kernel
theorem d_Par_settle_1 : decode b_Par_settle 1 = .ok (.getfield 41, 3) := by decide +kernel
theorem d_Par_settle_4 : decode b_Par_settle 4 = .ok (.ifCond .ne 23, 3) := by decide +kernel
theorem d_Par_settle_7 : decode b_Par_settle 7 = .ok (.aload_n 0, 1) := by decide +kernel
theorem d_Par_settle_8 : decode b_Par_settle 8 = .ok (.getfield 33, 3) := by decide +kernel
theorem d_Par_settle_11 : decode b_Par_settle 11 = .ok (.iload_n 1, 1) := by decide +kernel
theorem d_Par_settle_12 : decode b_Par_settle 12 = .ok (.iload_n 2, 1) := by decide +kernel
theorem d_Par_settle_13 : decode b_Par_settle 13 = .ok (.iload_n 3, 1) := by decide +kernel
theorem d_Par_settle_14 : decode b_Par_settle 14 = .ok (.invokevirtual 159, 3) := by decide +kernel
theorem d_Par_settle_17 : decode b_Par_settle 17 = .ok (.ifCond .ne 10, 3) := by decide +kernel
theorem d_Par_settle_20 : decode b_Par_settle 20 = .ok (.aload_n 0, 1) := by decide +kernel
theorem d_Par_settle_21 : decode b_Par_settle 21 = .ok (.iconst 2, 1) := by decide +kernel
theorem d_Par_settle_22 : decode b_Par_settle 22 = .ok (.iload 4, 2) := by decide +kernel
theorem d_Par_settle_24 : decode b_Par_settle 24 = .ok (.invokevirtual 96, 3) := by decide +kernel
theorem d_Par_settle_27 : decode b_Par_settle 27 = .ok (.return_, 1) := by decide +kernel
abbrev b_Par_strength : ByteArray := prog_6_method_20_code
def y_Par_strength : MethodName := ⟨"ClauseProver$Parser", "strength", "(I)I"⟩
theorem d_Par_strength_0 : decode b_Par_strength 0 = .ok (.iload_n 0, 1) := by decide +kernel
theorem d_Par_strength_1 : decode b_Par_strength 1 = .ok (.tableswitch 56 11 17 #[43, 54, 54, 46, 48, 50, 52], 43) := by decide +kernel
theorem d_Par_strength_44 : decode b_Par_strength 44 = .ok (.bipush 6, 2) := by decide +kernel
theorem d_Par_strength_46 : decode b_Par_strength 46 = .ok (.ireturn, 1) := by decide +kernel
theorem d_Par_strength_47 : decode b_Par_strength 47 = .ok (.iconst 5, 1) := by decide +kernel
theorem d_Par_strength_48 : decode b_Par_strength 48 = .ok (.ireturn, 1) := by decide +kernel
theorem d_Par_strength_49 : decode b_Par_strength 49 = .ok (.iconst 4, 1) := by decide +kernel
theorem d_Par_strength_50 : decode b_Par_strength 50 = .ok (.ireturn, 1) := by decide +kernel
theorem d_Par_strength_51 : decode b_Par_strength 51 = .ok (.iconst 3, 1) := by decide +kernel
theorem d_Par_strength_52 : decode b_Par_strength 52 = .ok (.ireturn, 1) := by decide +kernel
theorem d_Par_strength_53 : decode b_Par_strength 53 = .ok (.iconst 2, 1) := by decide +kernel
theorem d_Par_strength_54 : decode b_Par_strength 54 = .ok (.ireturn, 1) := by decide +kernel
theorem d_Par_strength_55 : decode b_Par_strength 55 = .ok (.iconst 1, 1) := by decide +kernel
theorem d_Par_strength_56 : decode b_Par_strength 56 = .ok (.ireturn, 1) := by decide +kernel
theorem d_Par_strength_57 : decode b_Par_strength 57 = .ok (.iconst 0, 1) := by decide +kernel
theorem d_Par_strength_58 : decode b_Par_strength 58 = .ok (.ireturn, 1) := by decide +kernel
abbrev b_Par_top : ByteArray := prog_6_method_19_code
def y_Par_top : MethodName := ⟨"ClauseProver$Parser", "top", "()I"⟩
theorem d_Par_top_0 : decode b_Par_top 0 = .ok (.aload_n 0, 1) := by decide +kernel
theorem d_Par_top_1 : decode b_Par_top 1 = .ok (.getfield 23, 3) := by decide +kernel
theorem d_Par_top_4 : decode b_Par_top 4 = .ok (.getfield 83, 3) := by decide +kernel
theorem d_Par_top_7 : decode b_Par_top 7 = .ok (.ifCond .ne 7, 3) := by decide +kernel
theorem d_Par_top_10 : decode b_Par_top 10 = .ok (.iconst 0, 1) := by decide +kernel
theorem d_Par_top_11 : decode b_Par_top 11 = .ok (.goto 20, 3) := by decide +kernel
theorem d_Par_top_14 : decode b_Par_top 14 = .ok (.aload_n 0, 1) := by decide +kernel
theorem d_Par_top_15 : decode b_Par_top 15 = .ok (.getfield 23, 3) := by decide +kernel
theorem d_Par_top_18 : decode b_Par_top 18 = .ok (.getfield 181, 3) := by decide +kernel
theorem d_Par_top_21 : decode b_Par_top 21 = .ok (.aload_n 0, 1) := by decide +kernel
theorem d_Par_top_22 : decode b_Par_top 22 = .ok (.getfield 23, 3) := by decide +kernel
theorem d_Par_top_25 : decode b_Par_top 25 = .ok (.getfield 83, 3) := by decide +kernel
theorem d_Par_top_28 : decode b_Par_top 28 = .ok (.iconst 1, 1) := by decide +kernel
theorem d_Par_top_29 : decode b_Par_top 29 = .ok (.isub, 1) := by decide +kernel
theorem d_Par_top_30 : decode b_Par_top 30 = .ok (.iaload, 1) := by decide +kernel
theorem d_Par_top_31 : decode b_Par_top 31 = .ok (.ireturn, 1) := by decide +kernel
abbrev b_Sat_choose : ByteArray := prog_8_method_4_code
def y_Sat_choose : MethodName := ⟨"ClauseProver$Saturation", "choose", "()I"⟩
theorem d_Sat_choose_0 : decode b_Sat_choose 0 = .ok (.aload_n 0, 1) := by decide +kernel
theorem d_Sat_choose_1 : decode b_Sat_choose 1 = .ok (.getfield 62, 3) := by decide +kernel
theorem d_Sat_choose_4 : decode b_Sat_choose 4 = .ok (.iconst 1, 1) := by decide +kernel
theorem d_Sat_choose_5 : decode b_Sat_choose 5 = .ok (.iadd, 1) := by decide +kernel
theorem d_Sat_choose_6 : decode b_Sat_choose 6 = .ok (.iconst 5, 1) := by decide +kernel
theorem d_Sat_choose_7 : decode b_Sat_choose 7 = .ok (.irem, 1) := by decide +kernel
theorem d_Sat_choose_8 : decode b_Sat_choose 8 = .ok (.ifCond .ne 7, 3) := by decide +kernel
theorem d_Sat_choose_11 : decode b_Sat_choose 11 = .ok (.iconst 1, 1) := by decide +kernel
theorem d_Sat_choose_12 : decode b_Sat_choose 12 = .ok (.goto 4, 3) := by decide +kernel
theorem d_Sat_choose_15 : decode b_Sat_choose 15 = .ok (.iconst 0, 1) := by decide +kernel
theorem d_Sat_choose_16 : decode b_Sat_choose 16 = .ok (.istore_n 1, 1) := by decide +kernel
theorem d_Sat_choose_17 : decode b_Sat_choose 17 = .ok (.iconst (-1), 1) := by decide +kernel
theorem d_Sat_choose_18 : decode b_Sat_choose 18 = .ok (.istore_n 2, 1) := by decide +kernel
theorem d_Sat_choose_19 : decode b_Sat_choose 19 = .ok (.iconst 0, 1) := by decide +kernel
theorem d_Sat_choose_20 : decode b_Sat_choose 20 = .ok (.istore_n 3, 1) := by decide +kernel
theorem d_Sat_choose_21 : decode b_Sat_choose 21 = .ok (.iload_n 3, 1) := by decide +kernel
theorem d_Sat_choose_22 : decode b_Sat_choose 22 = .ok (.aload_n 0, 1) := by decide +kernel
theorem d_Sat_choose_23 : decode b_Sat_choose 23 = .ok (.getfield 27, 3) := by decide +kernel
theorem d_Sat_choose_26 : decode b_Sat_choose 26 = .ok (.getfield 112, 3) := by decide +kernel
theorem d_Sat_choose_29 : decode b_Sat_choose 29 = .ok (.if_icmp .ge 56, 3) := by decide +kernel
theorem d_Sat_choose_32 : decode b_Sat_choose 32 = .ok (.aload_n 0, 1) := by decide +kernel
theorem d_Sat_choose_33 : decode b_Sat_choose 33 = .ok (.getfield 27, 3) := by decide +kernel
theorem d_Sat_choose_36 : decode b_Sat_choose 36 = .ok (.iload_n 3, 1) := by decide +kernel
theorem d_Sat_choose_37 : decode b_Sat_choose 37 = .ok (.bipush 6, 2) := by decide +kernel
theorem d_Sat_choose_39 : decode b_Sat_choose 39 = .ok (.invokevirtual 91, 3) := by decide +kernel
theorem d_Sat_choose_42 : decode b_Sat_choose 42 = .ok (.ifCond .ne 37, 3) := by decide +kernel
theorem d_Sat_choose_45 : decode b_Sat_choose 45 = .ok (.iload_n 1, 1) := by decide +kernel
theorem d_Sat_choose_46 : decode b_Sat_choose 46 = .ok (.ifCond .eq 5, 3) := by decide +kernel
theorem d_Sat_choose_49 : decode b_Sat_choose 49 = .ok (.iload_n 3, 1) := by decide +kernel
theorem d_Sat_choose_50 : decode b_Sat_choose 50 = .ok (.ireturn, 1) := by decide +kernel
theorem d_Sat_choose_51 : decode b_Sat_choose 51 = .ok (.iload_n 2, 1) := by decide +kernel
theorem d_Sat_choose_52 : decode b_Sat_choose 52 = .ok (.iconst (-1), 1) := by decide +kernel
theorem d_Sat_choose_53 : decode b_Sat_choose 53 = .ok (.if_icmp .eq 24, 3) := by decide +kernel
theorem d_Sat_choose_56 : decode b_Sat_choose 56 = .ok (.aload_n 0, 1) := by decide +kernel
theorem d_Sat_choose_57 : decode b_Sat_choose 57 = .ok (.getfield 27, 3) := by decide +kernel
theorem d_Sat_choose_60 : decode b_Sat_choose 60 = .ok (.iload_n 3, 1) := by decide +kernel
theorem d_Sat_choose_61 : decode b_Sat_choose 61 = .ok (.iconst 4, 1) := by decide +kernel
theorem d_Sat_choose_62 : decode b_Sat_choose 62 = .ok (.invokevirtual 91, 3) := by decide +kernel
theorem d_Sat_choose_65 : decode b_Sat_choose 65 = .ok (.aload_n 0, 1) := by decide +kernel
theorem d_Sat_choose_66 : decode b_Sat_choose 66 = .ok (.getfield 27, 3) := by decide +kernel
theorem d_Sat_choose_69 : decode b_Sat_choose 69 = .ok (.iload_n 2, 1) := by decide +kernel
theorem d_Sat_choose_70 : decode b_Sat_choose 70 = .ok (.iconst 4, 1) := by decide +kernel
theorem d_Sat_choose_71 : decode b_Sat_choose 71 = .ok (.invokevirtual 91, 3) := by decide +kernel
theorem d_Sat_choose_74 : decode b_Sat_choose 74 = .ok (.if_icmp .ge 5, 3) := by decide +kernel
theorem d_Sat_choose_77 : decode b_Sat_choose 77 = .ok (.iload_n 3, 1) := by decide +kernel
theorem d_Sat_choose_78 : decode b_Sat_choose 78 = .ok (.istore_n 2, 1) := by decide +kernel
theorem d_Sat_choose_79 : decode b_Sat_choose 79 = .ok (.iinc 3 1, 3) := by decide +kernel
theorem d_Sat_choose_82 : decode b_Sat_choose 82 = .ok (.goto (-61), 3) := by decide +kernel
theorem d_Sat_choose_85 : decode b_Sat_choose 85 = .ok (.iload_n 2, 1) := by decide +kernel
theorem d_Sat_choose_86 : decode b_Sat_choose 86 = .ok (.ireturn, 1) := by decide +kernel
abbrev b_Sat_clear : ByteArray := prog_8_method_2_code
def y_Sat_clear : MethodName := ⟨"ClauseProver$Saturation", "clear", "()V"⟩
theorem d_Sat_clear_0 : decode b_Sat_clear 0 = .ok (.aload_n 0, 1) := by decide +kernel
theorem d_Sat_clear_1 : decode b_Sat_clear 1 = .ok (.iconst 0, 1) := by decide +kernel
theorem d_Sat_clear_2 : decode b_Sat_clear 2 = .ok (.putfield 58, 3) := by decide +kernel
theorem d_Sat_clear_5 : decode b_Sat_clear 5 = .ok (.aload_n 0, 1) := by decide +kernel
theorem d_Sat_clear_6 : decode b_Sat_clear 6 = .ok (.iconst 0, 1) := by decide +kernel
theorem d_Sat_clear_7 : decode b_Sat_clear 7 = .ok (.putfield 62, 3) := by decide +kernel
theorem d_Sat_clear_10 : decode b_Sat_clear 10 = .ok (.aload_n 0, 1) := by decide +kernel
theorem d_Sat_clear_11 : decode b_Sat_clear 11 = .ok (.iconst 0, 1) := by decide +kernel
theorem d_Sat_clear_12 : decode b_Sat_clear 12 = .ok (.putfield 65, 3) := by decide +kernel
theorem d_Sat_clear_15 : decode b_Sat_clear 15 = .ok (.aload_n 0, 1) := by decide +kernel
theorem d_Sat_clear_16 : decode b_Sat_clear 16 = .ok (.iconst 0, 1) := by decide +kernel
theorem d_Sat_clear_17 : decode b_Sat_clear 17 = .ok (.putfield 68, 3) := by decide +kernel
theorem d_Sat_clear_20 : decode b_Sat_clear 20 = .ok (.aload_n 0, 1) := by decide +kernel
theorem d_Sat_clear_21 : decode b_Sat_clear 21 = .ok (.iconst 0, 1) := by decide +kernel
theorem d_Sat_clear_22 : decode b_Sat_clear 22 = .ok (.putfield 71, 3) := by decide +kernel
theorem d_Sat_clear_25 : decode b_Sat_clear 25 = .ok (.aload_n 0, 1) := by decide +kernel
theorem d_Sat_clear_26 : decode b_Sat_clear 26 = .ok (.iconst 0, 1) := by decide +kernel
theorem d_Sat_clear_27 : decode b_Sat_clear 27 = .ok (.putfield 74, 3) := by decide +kernel
theorem d_Sat_clear_30 : decode b_Sat_clear 30 = .ok (.aload_n 0, 1) := by decide +kernel
theorem d_Sat_clear_31 : decode b_Sat_clear 31 = .ok (.iconst 0, 1) := by decide +kernel
theorem d_Sat_clear_32 : decode b_Sat_clear 32 = .ok (.putfield 77, 3) := by decide +kernel
theorem d_Sat_clear_35 : decode b_Sat_clear 35 = .ok (.aload_n 0, 1) := by decide +kernel
theorem d_Sat_clear_36 : decode b_Sat_clear 36 = .ok (.getfield 14, 3) := by decide +kernel
theorem d_Sat_clear_39 : decode b_Sat_clear 39 = .ok (.iconst 0, 1) := by decide +kernel
theorem d_Sat_clear_40 : decode b_Sat_clear 40 = .ok (.putfield 80, 3) := by decide +kernel
theorem d_Sat_clear_43 : decode b_Sat_clear 43 = .ok (.return_, 1) := by decide +kernel
abbrev b_Sat_clearAway : ByteArray := prog_8_method_14_code
def y_Sat_clearAway : MethodName := ⟨"ClauseProver$Saturation", "clearAway", "(I)V"⟩
theorem d_Sat_clearAway_0 : decode b_Sat_clearAway 0 = .ok (.aload_n 0, 1) := by decide +kernel
theorem d_Sat_clearAway_1 : decode b_Sat_clearAway 1 = .ok (.iload_n 1, 1) := by decide +kernel
theorem d_Sat_clearAway_2 : decode b_Sat_clearAway 2 = .ok (.invokevirtual 145, 3) := by decide +kernel
theorem d_Sat_clearAway_5 : decode b_Sat_clearAway 5 = .ok (.istore_n 2, 1) := by decide +kernel
theorem d_Sat_clearAway_6 : decode b_Sat_clearAway 6 = .ok (.iconst 0, 1) := by decide +kernel
theorem d_Sat_clearAway_7 : decode b_Sat_clearAway 7 = .ok (.istore_n 3, 1) := by decide +kernel
theorem d_Sat_clearAway_8 : decode b_Sat_clearAway 8 = .ok (.iload_n 3, 1) := by decide +kernel
theorem d_Sat_clearAway_9 : decode b_Sat_clearAway 9 = .ok (.aload_n 0, 1) := by decide +kernel
theorem d_Sat_clearAway_10 : decode b_Sat_clearAway 10 = .ok (.getfield 27, 3) := by decide +kernel
theorem d_Sat_clearAway_13 : decode b_Sat_clearAway 13 = .ok (.getfield 112, 3) := by decide +kernel
theorem d_Sat_clearAway_16 : decode b_Sat_clearAway 16 = .ok (.if_icmp .ge 80, 3) := by decide +kernel
theorem d_Sat_clearAway_19 : decode b_Sat_clearAway 19 = .ok (.aload_n 0, 1) := by decide +kernel
theorem d_Sat_clearAway_20 : decode b_Sat_clearAway 20 = .ok (.iload_n 3, 1) := by decide +kernel
theorem d_Sat_clearAway_21 : decode b_Sat_clearAway 21 = .ok (.invokevirtual 142, 3) := by decide +kernel
theorem d_Sat_clearAway_24 : decode b_Sat_clearAway 24 = .ok (.ifCond .eq 66, 3) := by decide +kernel
theorem d_Sat_clearAway_27 : decode b_Sat_clearAway 27 = .ok (.aload_n 0, 1) := by decide +kernel
theorem d_Sat_clearAway_28 : decode b_Sat_clearAway 28 = .ok (.getfield 54, 3) := by decide +kernel
theorem d_Sat_clearAway_31 : decode b_Sat_clearAway 31 = .ok (.iload_n 1, 1) := by decide +kernel
theorem d_Sat_clearAway_32 : decode b_Sat_clearAway 32 = .ok (.iload_n 3, 1) := by decide +kernel
theorem d_Sat_clearAway_33 : decode b_Sat_clearAway 33 = .ok (.invokevirtual 168, 3) := by decide +kernel
theorem d_Sat_clearAway_36 : decode b_Sat_clearAway 36 = .ok (.ifCond .eq 27, 3) := by decide +kernel
theorem d_Sat_clearAway_39 : decode b_Sat_clearAway 39 = .ok (.aload_n 0, 1) := by decide +kernel
theorem d_Sat_clearAway_40 : decode b_Sat_clearAway 40 = .ok (.getfield 27, 3) := by decide +kernel
theorem d_Sat_clearAway_43 : decode b_Sat_clearAway 43 = .ok (.iload_n 3, 1) := by decide +kernel
theorem d_Sat_clearAway_44 : decode b_Sat_clearAway 44 = .ok (.bipush 6, 2) := by decide +kernel
theorem d_Sat_clearAway_46 : decode b_Sat_clearAway 46 = .ok (.iconst 2, 1) := by decide +kernel
theorem d_Sat_clearAway_47 : decode b_Sat_clearAway 47 = .ok (.invokevirtual 87, 3) := by decide +kernel
theorem d_Sat_clearAway_50 : decode b_Sat_clearAway 50 = .ok (.aload_n 0, 1) := by decide +kernel
theorem d_Sat_clearAway_51 : decode b_Sat_clearAway 51 = .ok (.dup, 1) := by decide +kernel
theorem d_Sat_clearAway_52 : decode b_Sat_clearAway 52 = .ok (.getfield 71, 3) := by decide +kernel
theorem d_Sat_clearAway_55 : decode b_Sat_clearAway 55 = .ok (.iconst 1, 1) := by decide +kernel
theorem d_Sat_clearAway_56 : decode b_Sat_clearAway 56 = .ok (.iadd, 1) := by decide +kernel
theorem d_Sat_clearAway_57 : decode b_Sat_clearAway 57 = .ok (.putfield 71, 3) := by decide +kernel
theorem d_Sat_clearAway_60 : decode b_Sat_clearAway 60 = .ok (.goto 30, 3) := by decide +kernel
theorem d_Sat_clearAway_63 : decode b_Sat_clearAway 63 = .ok (.iload_n 2, 1) := by decide +kernel
theorem d_Sat_clearAway_64 : decode b_Sat_clearAway 64 = .ok (.ifCond .eq 26, 3) := by decide +kernel
theorem d_Sat_clearAway_67 : decode b_Sat_clearAway 67 = .ok (.aload_n 0, 1) := by decide +kernel
theorem d_Sat_clearAway_68 : decode b_Sat_clearAway 68 = .ok (.getfield 54, 3) := by decide +kernel
theorem d_Sat_clearAway_71 : decode b_Sat_clearAway 71 = .ok (.iload_n 1, 1) := by decide +kernel
theorem d_Sat_clearAway_72 : decode b_Sat_clearAway 72 = .ok (.iload_n 3, 1) := by decide +kernel
theorem d_Sat_clearAway_73 : decode b_Sat_clearAway 73 = .ok (.invokevirtual 172, 3) := by decide +kernel
theorem d_Sat_clearAway_76 : decode b_Sat_clearAway 76 = .ok (.ifCond .eq 14, 3) := by decide +kernel
theorem d_Sat_clearAway_79 : decode b_Sat_clearAway 79 = .ok (.aload_n 0, 1) := by decide +kernel
theorem d_Sat_clearAway_80 : decode b_Sat_clearAway 80 = .ok (.getfield 27, 3) := by decide +kernel
theorem d_Sat_clearAway_83 : decode b_Sat_clearAway 83 = .ok (.iload_n 3, 1) := by decide +kernel
theorem d_Sat_clearAway_84 : decode b_Sat_clearAway 84 = .ok (.bipush 6, 2) := by decide +kernel
theorem d_Sat_clearAway_86 : decode b_Sat_clearAway 86 = .ok (.iconst 0, 1) := by decide +kernel
theorem d_Sat_clearAway_87 : decode b_Sat_clearAway 87 = .ok (.invokevirtual 87, 3) := by decide +kernel
theorem d_Sat_clearAway_90 : decode b_Sat_clearAway 90 = .ok (.iinc 3 1, 3) := by decide +kernel
theorem d_Sat_clearAway_93 : decode b_Sat_clearAway 93 = .ok (.goto (-85), 3) := by decide +kernel
theorem d_Sat_clearAway_96 : decode b_Sat_clearAway 96 = .ok (.return_, 1) := by decide +kernel
abbrev b_Sat_isProcessed : ByteArray := prog_8_method_6_code
def y_Sat_isProcessed : MethodName := ⟨"ClauseProver$Saturation", "isProcessed", "(I)Z"⟩
theorem d_Sat_isProcessed_0 : decode b_Sat_isProcessed 0 = .ok (.aload_n 0, 1) := by decide +kernel
theorem d_Sat_isProcessed_1 : decode b_Sat_isProcessed 1 = .ok (.getfield 27, 3) := by decide +kernel
theorem d_Sat_isProcessed_4 : decode b_Sat_isProcessed 4 = .ok (.iload_n 1, 1) := by decide +kernel
theorem d_Sat_isProcessed_5 : decode b_Sat_isProcessed 5 = .ok (.bipush 6, 2) := by decide +kernel
theorem d_Sat_isProcessed_7 : decode b_Sat_isProcessed 7 = .ok (.invokevirtual 91, 3) := by decide +kernel
theorem d_Sat_isProcessed_10 : decode b_Sat_isProcessed 10 = .ok (.iconst 1, 1) := by decide +kernel
theorem d_Sat_isProcessed_11 : decode b_Sat_isProcessed 11 = .ok (.if_icmp .ne 7, 3) := by decide +kernel
theorem d_Sat_isProcessed_14 : decode b_Sat_isProcessed 14 = .ok (.iconst 1, 1) := by decide +kernel
theorem d_Sat_isProcessed_15 : decode b_Sat_isProcessed 15 = .ok (.goto 4, 3) := by decide +kernel
theorem d_Sat_isProcessed_18 : decode b_Sat_isProcessed 18 = .ok (.iconst 0, 1) := by decide +kernel
theorem d_Sat_isProcessed_19 : decode b_Sat_isProcessed 19 = .ok (.ireturn, 1) := by decide +kernel
abbrev b_Sat_isSingle : ByteArray := prog_8_method_5_code
def y_Sat_isSingle : MethodName := ⟨"ClauseProver$Saturation", "isSingle", "(I)Z"⟩
theorem d_Sat_isSingle_0 : decode b_Sat_isSingle 0 = .ok (.aload_n 0, 1) := by decide +kernel
theorem d_Sat_isSingle_1 : decode b_Sat_isSingle 1 = .ok (.getfield 27, 3) := by decide +kernel
theorem d_Sat_isSingle_4 : decode b_Sat_isSingle 4 = .ok (.iload_n 1, 1) := by decide +kernel
theorem d_Sat_isSingle_5 : decode b_Sat_isSingle 5 = .ok (.iconst 3, 1) := by decide +kernel
theorem d_Sat_isSingle_6 : decode b_Sat_isSingle 6 = .ok (.invokevirtual 91, 3) := by decide +kernel
theorem d_Sat_isSingle_9 : decode b_Sat_isSingle 9 = .ok (.iconst 1, 1) := by decide +kernel
theorem d_Sat_isSingle_10 : decode b_Sat_isSingle 10 = .ok (.if_icmp .ne 27, 3) := by decide +kernel
theorem d_Sat_isSingle_13 : decode b_Sat_isSingle 13 = .ok (.aload_n 0, 1) := by decide +kernel
theorem d_Sat_isSingle_14 : decode b_Sat_isSingle 14 = .ok (.getfield 27, 3) := by decide +kernel
theorem d_Sat_isSingle_17 : decode b_Sat_isSingle 17 = .ok (.aload_n 0, 1) := by decide +kernel
theorem d_Sat_isSingle_18 : decode b_Sat_isSingle 18 = .ok (.getfield 27, 3) := by decide +kernel
theorem d_Sat_isSingle_21 : decode b_Sat_isSingle 21 = .ok (.iload_n 1, 1) := by decide +kernel
theorem d_Sat_isSingle_22 : decode b_Sat_isSingle 22 = .ok (.bipush 8, 2) := by decide +kernel
theorem d_Sat_isSingle_24 : decode b_Sat_isSingle 24 = .ok (.invokevirtual 91, 3) := by decide +kernel
theorem d_Sat_isSingle_27 : decode b_Sat_isSingle 27 = .ok (.invokevirtual 113, 3) := by decide +kernel
theorem d_Sat_isSingle_30 : decode b_Sat_isSingle 30 = .ok (.ifCond .eq 7, 3) := by decide +kernel
theorem d_Sat_isSingle_33 : decode b_Sat_isSingle 33 = .ok (.iconst 1, 1) := by decide +kernel
theorem d_Sat_isSingle_34 : decode b_Sat_isSingle 34 = .ok (.goto 4, 3) := by decide +kernel
theorem d_Sat_isSingle_37 : decode b_Sat_isSingle 37 = .ok (.iconst 0, 1) := by decide +kernel
theorem d_Sat_isSingle_38 : decode b_Sat_isSingle 38 = .ok (.ireturn, 1) := by decide +kernel
abbrev b_Sat_isSubsumed : ByteArray := prog_8_method_13_code
def y_Sat_isSubsumed : MethodName := ⟨"ClauseProver$Saturation", "isSubsumed", "(I)Z"⟩
theorem d_Sat_isSubsumed_0 : decode b_Sat_isSubsumed 0 = .ok (.iconst 0, 1) := by decide +kernel
theorem d_Sat_isSubsumed_1 : decode b_Sat_isSubsumed 1 = .ok (.istore_n 2, 1) := by decide +kernel
theorem d_Sat_isSubsumed_2 : decode b_Sat_isSubsumed 2 = .ok (.iload_n 2, 1) := by decide +kernel
theorem d_Sat_isSubsumed_3 : decode b_Sat_isSubsumed 3 = .ok (.aload_n 0, 1) := by decide +kernel
theorem d_Sat_isSubsumed_4 : decode b_Sat_isSubsumed 4 = .ok (.getfield 27, 3) := by decide +kernel
theorem d_Sat_isSubsumed_7 : decode b_Sat_isSubsumed 7 = .ok (.getfield 112, 3) := by decide +kernel
theorem d_Sat_isSubsumed_10 : decode b_Sat_isSubsumed 10 = .ok (.if_icmp .ge 31, 3) := by decide +kernel
theorem d_Sat_isSubsumed_13 : decode b_Sat_isSubsumed 13 = .ok (.aload_n 0, 1) := by decide +kernel
theorem d_Sat_isSubsumed_14 : decode b_Sat_isSubsumed 14 = .ok (.iload_n 2, 1) := by decide +kernel
theorem d_Sat_isSubsumed_15 : decode b_Sat_isSubsumed 15 = .ok (.invokevirtual 142, 3) := by decide +kernel
theorem d_Sat_isSubsumed_18 : decode b_Sat_isSubsumed 18 = .ok (.ifCond .eq 17, 3) := by decide +kernel
theorem d_Sat_isSubsumed_21 : decode b_Sat_isSubsumed 21 = .ok (.aload_n 0, 1) := by decide +kernel
theorem d_Sat_isSubsumed_22 : decode b_Sat_isSubsumed 22 = .ok (.getfield 54, 3) := by decide +kernel
theorem d_Sat_isSubsumed_25 : decode b_Sat_isSubsumed 25 = .ok (.iload_n 2, 1) := by decide +kernel
theorem d_Sat_isSubsumed_26 : decode b_Sat_isSubsumed 26 = .ok (.iload_n 1, 1) := by decide +kernel
theorem d_Sat_isSubsumed_27 : decode b_Sat_isSubsumed 27 = .ok (.invokevirtual 168, 3) := by decide +kernel
theorem d_Sat_isSubsumed_30 : decode b_Sat_isSubsumed 30 = .ok (.ifCond .eq 5, 3) := by decide +kernel
theorem d_Sat_isSubsumed_33 : decode b_Sat_isSubsumed 33 = .ok (.iconst 1, 1) := by decide +kernel
theorem d_Sat_isSubsumed_34 : decode b_Sat_isSubsumed 34 = .ok (.ireturn, 1) := by decide +kernel
theorem d_Sat_isSubsumed_35 : decode b_Sat_isSubsumed 35 = .ok (.iinc 2 1, 3) := by decide +kernel
theorem d_Sat_isSubsumed_38 : decode b_Sat_isSubsumed 38 = .ok (.goto (-36), 3) := by decide +kernel
theorem d_Sat_isSubsumed_41 : decode b_Sat_isSubsumed 41 = .ok (.iconst 0, 1) := by decide +kernel
theorem d_Sat_isSubsumed_42 : decode b_Sat_isSubsumed 42 = .ok (.ireturn, 1) := by decide +kernel
abbrev b_Sat_markProof : ByteArray := prog_8_method_12_code
def y_Sat_markProof : MethodName := ⟨"ClauseProver$Saturation", "markProof", "(I)V"⟩
theorem d_Sat_markProof_0 : decode b_Sat_markProof 0 = .ok (.aload_n 0, 1) := by decide +kernel
theorem d_Sat_markProof_1 : decode b_Sat_markProof 1 = .ok (.getfield 27, 3) := by decide +kernel
theorem d_Sat_markProof_4 : decode b_Sat_markProof 4 = .ok (.iload_n 1, 1) := by decide +kernel
theorem d_Sat_markProof_5 : decode b_Sat_markProof 5 = .ok (.invokevirtual 165, 3) := by decide +kernel
theorem d_Sat_markProof_8 : decode b_Sat_markProof 8 = .ok (.ifCond .eq 14, 3) := by decide +kernel
theorem d_Sat_markProof_11 : decode b_Sat_markProof 11 = .ok (.aload_n 0, 1) := by decide +kernel
theorem d_Sat_markProof_12 : decode b_Sat_markProof 12 = .ok (.getfield 27, 3) := by decide +kernel
theorem d_Sat_markProof_15 : decode b_Sat_markProof 15 = .ok (.iload_n 1, 1) := by decide +kernel
theorem d_Sat_markProof_16 : decode b_Sat_markProof 16 = .ok (.bipush 10, 2) := by decide +kernel
theorem d_Sat_markProof_18 : decode b_Sat_markProof 18 = .ok (.iconst 1, 1) := by decide +kernel
theorem d_Sat_markProof_19 : decode b_Sat_markProof 19 = .ok (.invokevirtual 87, 3) := by decide +kernel
theorem d_Sat_markProof_22 : decode b_Sat_markProof 22 = .ok (.return_, 1) := by decide +kernel
abbrev b_Sat_writeOthers : ByteArray := prog_8_method_18_code
def y_Sat_writeOthers : MethodName := ⟨"ClauseProver$Saturation", "writeOthers", "(IIII)V"⟩
theorem d_Sat_writeOthers_0 : decode b_Sat_writeOthers 0 = .ok (.aload_n 0, 1) := by decide +kernel
theorem d_Sat_writeOthers_1 : decode b_Sat_writeOthers 1 = .ok (.getfield 27, 3) := by decide +kernel
theorem d_Sat_writeOthers_4 : decode b_Sat_writeOthers 4 = .ok (.iload_n 1, 1) := by decide +kernel
theorem d_Sat_writeOthers_5 : decode b_Sat_writeOthers 5 = .ok (.bipush 8, 2) := by decide +kernel
theorem d_Sat_writeOthers_7 : decode b_Sat_writeOthers 7 = .ok (.invokevirtual 91, 3) := by decide +kernel
theorem d_Sat_writeOthers_10 : decode b_Sat_writeOthers 10 = .ok (.istore 5, 2) := by decide +kernel
theorem d_Sat_writeOthers_12 : decode b_Sat_writeOthers 12 = .ok (.iconst 0, 1) := by decide +kernel
theorem d_Sat_writeOthers_13 : decode b_Sat_writeOthers 13 = .ok (.istore 6, 2) := by decide +kernel
theorem d_Sat_writeOthers_15 : decode b_Sat_writeOthers 15 = .ok (.iload 6, 2) := by decide +kernel
theorem d_Sat_writeOthers_17 : decode b_Sat_writeOthers 17 = .ok (.aload_n 0, 1) := by decide +kernel
theorem d_Sat_writeOthers_18 : decode b_Sat_writeOthers 18 = .ok (.getfield 27, 3) := by decide +kernel
theorem d_Sat_writeOthers_21 : decode b_Sat_writeOthers 21 = .ok (.iload_n 1, 1) := by decide +kernel
theorem d_Sat_writeOthers_22 : decode b_Sat_writeOthers 22 = .ok (.iconst 3, 1) := by decide +kernel
theorem d_Sat_writeOthers_23 : decode b_Sat_writeOthers 23 = .ok (.invokevirtual 91, 3) := by decide +kernel
theorem d_Sat_writeOthers_26 : decode b_Sat_writeOthers 26 = .ok (.if_icmp .ge 125, 3) := by decide +kernel
theorem d_Sat_writeOthers_29 : decode b_Sat_writeOthers 29 = .ok (.iload 5, 2) := by decide +kernel
theorem d_Sat_writeOthers_31 : decode b_Sat_writeOthers 31 = .ok (.iload_n 2, 1) := by decide +kernel
theorem d_Sat_writeOthers_32 : decode b_Sat_writeOthers 32 = .ok (.if_icmp .eq 102, 3) := by decide +kernel
theorem d_Sat_writeOthers_35 : decode b_Sat_writeOthers 35 = .ok (.iload 5, 2) := by decide +kernel
theorem d_Sat_writeOthers_37 : decode b_Sat_writeOthers 37 = .ok (.iload_n 3, 1) := by decide +kernel
theorem d_Sat_writeOthers_38 : decode b_Sat_writeOthers 38 = .ok (.if_icmp .eq 96, 3) := by decide +kernel
theorem d_Sat_writeOthers_41 : decode b_Sat_writeOthers 41 = .ok (.aload_n 0, 1) := by decide +kernel
theorem d_Sat_writeOthers_42 : decode b_Sat_writeOthers 42 = .ok (.getfield 27, 3) := by decide +kernel
theorem d_Sat_writeOthers_45 : decode b_Sat_writeOthers 45 = .ok (.iload 5, 2) := by decide +kernel
theorem d_Sat_writeOthers_47 : decode b_Sat_writeOthers 47 = .ok (.iconst 1, 1) := by decide +kernel
theorem d_Sat_writeOthers_48 : decode b_Sat_writeOthers 48 = .ok (.invokevirtual 200, 3) := by decide +kernel
theorem d_Sat_writeOthers_51 : decode b_Sat_writeOthers 51 = .ok (.istore 7, 2) := by decide +kernel
theorem d_Sat_writeOthers_53 : decode b_Sat_writeOthers 53 = .ok (.aload_n 0, 1) := by decide +kernel
theorem d_Sat_writeOthers_54 : decode b_Sat_writeOthers 54 = .ok (.getfield 31, 3) := by decide +kernel
theorem d_Sat_writeOthers_57 : decode b_Sat_writeOthers 57 = .ok (.aload_n 0, 1) := by decide +kernel
theorem d_Sat_writeOthers_58 : decode b_Sat_writeOthers 58 = .ok (.getfield 27, 3) := by decide +kernel
theorem d_Sat_writeOthers_61 : decode b_Sat_writeOthers 61 = .ok (.iload 5, 2) := by decide +kernel
theorem d_Sat_writeOthers_63 : decode b_Sat_writeOthers 63 = .ok (.invokevirtual 113, 3) := by decide +kernel
theorem d_Sat_writeOthers_66 : decode b_Sat_writeOthers 66 = .ok (.invokevirtual 225, 3) := by decide +kernel
theorem d_Sat_writeOthers_69 : decode b_Sat_writeOthers 69 = .ok (.aload_n 0, 1) := by decide +kernel
theorem d_Sat_writeOthers_70 : decode b_Sat_writeOthers 70 = .ok (.getfield 45, 3) := by decide +kernel
theorem d_Sat_writeOthers_73 : decode b_Sat_writeOthers 73 = .ok (.aload_n 0, 1) := by decide +kernel
theorem d_Sat_writeOthers_74 : decode b_Sat_writeOthers 74 = .ok (.getfield 31, 3) := by decide +kernel
theorem d_Sat_writeOthers_77 : decode b_Sat_writeOthers 77 = .ok (.aload_n 0, 1) := by decide +kernel
theorem d_Sat_writeOthers_78 : decode b_Sat_writeOthers 78 = .ok (.getfield 27, 3) := by decide +kernel
theorem d_Sat_writeOthers_81 : decode b_Sat_writeOthers 81 = .ok (.iload 5, 2) := by decide +kernel
theorem d_Sat_writeOthers_83 : decode b_Sat_writeOthers 83 = .ok (.iconst 0, 1) := by decide +kernel
theorem d_Sat_writeOthers_84 : decode b_Sat_writeOthers 84 = .ok (.invokevirtual 200, 3) := by decide +kernel
theorem d_Sat_writeOthers_87 : decode b_Sat_writeOthers 87 = .ok (.iload 7, 2) := by decide +kernel
theorem d_Sat_writeOthers_89 : decode b_Sat_writeOthers 89 = .ok (.iload 4, 2) := by decide +kernel
theorem d_Sat_writeOthers_91 : decode b_Sat_writeOthers 91 = .ok (.iconst 0, 1) := by decide +kernel
theorem d_Sat_writeOthers_92 : decode b_Sat_writeOthers 92 = .ok (.invokevirtual 229, 3) := by decide +kernel
theorem d_Sat_writeOthers_95 : decode b_Sat_writeOthers 95 = .ok (.aload_n 0, 1) := by decide +kernel
theorem d_Sat_writeOthers_96 : decode b_Sat_writeOthers 96 = .ok (.getfield 31, 3) := by decide +kernel
theorem d_Sat_writeOthers_99 : decode b_Sat_writeOthers 99 = .ok (.invokevirtual 233, 3) := by decide +kernel
theorem d_Sat_writeOthers_102 : decode b_Sat_writeOthers 102 = .ok (.aload_n 0, 1) := by decide +kernel
theorem d_Sat_writeOthers_103 : decode b_Sat_writeOthers 103 = .ok (.getfield 45, 3) := by decide +kernel
theorem d_Sat_writeOthers_106 : decode b_Sat_writeOthers 106 = .ok (.aload_n 0, 1) := by decide +kernel
theorem d_Sat_writeOthers_107 : decode b_Sat_writeOthers 107 = .ok (.getfield 31, 3) := by decide +kernel
theorem d_Sat_writeOthers_110 : decode b_Sat_writeOthers 110 = .ok (.iload 7, 2) := by decide +kernel
theorem d_Sat_writeOthers_112 : decode b_Sat_writeOthers 112 = .ok (.aload_n 0, 1) := by decide +kernel
theorem d_Sat_writeOthers_113 : decode b_Sat_writeOthers 113 = .ok (.getfield 27, 3) := by decide +kernel
theorem d_Sat_writeOthers_116 : decode b_Sat_writeOthers 116 = .ok (.iload 5, 2) := by decide +kernel
theorem d_Sat_writeOthers_118 : decode b_Sat_writeOthers 118 = .ok (.invokevirtual 236, 3) := by decide +kernel
theorem d_Sat_writeOthers_121 : decode b_Sat_writeOthers 121 = .ok (.iload 4, 2) := by decide +kernel
theorem d_Sat_writeOthers_123 : decode b_Sat_writeOthers 123 = .ok (.iconst 0, 1) := by decide +kernel
theorem d_Sat_writeOthers_124 : decode b_Sat_writeOthers 124 = .ok (.invokevirtual 229, 3) := by decide +kernel
theorem d_Sat_writeOthers_127 : decode b_Sat_writeOthers 127 = .ok (.aload_n 0, 1) := by decide +kernel
theorem d_Sat_writeOthers_128 : decode b_Sat_writeOthers 128 = .ok (.getfield 31, 3) := by decide +kernel
theorem d_Sat_writeOthers_131 : decode b_Sat_writeOthers 131 = .ok (.invokevirtual 239, 3) := by decide +kernel
theorem d_Sat_writeOthers_134 : decode b_Sat_writeOthers 134 = .ok (.aload_n 0, 1) := by decide +kernel
theorem d_Sat_writeOthers_135 : decode b_Sat_writeOthers 135 = .ok (.getfield 27, 3) := by decide +kernel
theorem d_Sat_writeOthers_138 : decode b_Sat_writeOthers 138 = .ok (.iload 5, 2) := by decide +kernel
theorem d_Sat_writeOthers_140 : decode b_Sat_writeOthers 140 = .ok (.invokevirtual 236, 3) := by decide +kernel
theorem d_Sat_writeOthers_143 : decode b_Sat_writeOthers 143 = .ok (.istore 5, 2) := by decide +kernel
theorem d_Sat_writeOthers_145 : decode b_Sat_writeOthers 145 = .ok (.iinc 6 1, 3) := by decide +kernel
theorem d_Sat_writeOthers_148 : decode b_Sat_writeOthers 148 = .ok (.goto (-133), 3) := by decide +kernel
theorem d_Sat_writeOthers_151 : decode b_Sat_writeOthers 151 = .ok (.return_, 1) := by decide +kernel
abbrev b_Sat_writePair : ByteArray := prog_8_method_25_code
def y_Sat_writePair : MethodName := ⟨"ClauseProver$Saturation", "writePair", "(ZIIII)V"⟩
theorem d_Sat_writePair_0 : decode b_Sat_writePair 0 = .ok (.aload_n 0, 1) := by decide +kernel
theorem d_Sat_writePair_1 : decode b_Sat_writePair 1 = .ok (.getfield 27, 3) := by decide +kernel
theorem d_Sat_writePair_4 : decode b_Sat_writePair 4 = .ok (.iload_n 2, 1) := by decide +kernel
theorem d_Sat_writePair_5 : decode b_Sat_writePair 5 = .ok (.iload_n 3, 1) := by decide +kernel
theorem d_Sat_writePair_6 : decode b_Sat_writePair 6 = .ok (.invokevirtual 200, 3) := by decide +kernel
theorem d_Sat_writePair_9 : decode b_Sat_writePair 9 = .ok (.istore 6, 2) := by decide +kernel
theorem d_Sat_writePair_11 : decode b_Sat_writePair 11 = .ok (.aload_n 0, 1) := by decide +kernel
theorem d_Sat_writePair_12 : decode b_Sat_writePair 12 = .ok (.getfield 27, 3) := by decide +kernel
theorem d_Sat_writePair_15 : decode b_Sat_writePair 15 = .ok (.iload 4, 2) := by decide +kernel
theorem d_Sat_writePair_17 : decode b_Sat_writePair 17 = .ok (.iload 5, 2) := by decide +kernel
theorem d_Sat_writePair_19 : decode b_Sat_writePair 19 = .ok (.invokevirtual 200, 3) := by decide +kernel
theorem d_Sat_writePair_22 : decode b_Sat_writePair 22 = .ok (.istore 7, 2) := by decide +kernel
theorem d_Sat_writePair_24 : decode b_Sat_writePair 24 = .ok (.aload_n 0, 1) := by decide +kernel
theorem d_Sat_writePair_25 : decode b_Sat_writePair 25 = .ok (.getfield 31, 3) := by decide +kernel
theorem d_Sat_writePair_28 : decode b_Sat_writePair 28 = .ok (.iload_n 1, 1) := by decide +kernel
theorem d_Sat_writePair_29 : decode b_Sat_writePair 29 = .ok (.invokevirtual 225, 3) := by decide +kernel
theorem d_Sat_writePair_32 : decode b_Sat_writePair 32 = .ok (.aload_n 0, 1) := by decide +kernel
theorem d_Sat_writePair_33 : decode b_Sat_writePair 33 = .ok (.getfield 45, 3) := by decide +kernel
theorem d_Sat_writePair_36 : decode b_Sat_writePair 36 = .ok (.aload_n 0, 1) := by decide +kernel
theorem d_Sat_writePair_37 : decode b_Sat_writePair 37 = .ok (.getfield 31, 3) := by decide +kernel
theorem d_Sat_writePair_40 : decode b_Sat_writePair 40 = .ok (.iload 6, 2) := by decide +kernel
theorem d_Sat_writePair_42 : decode b_Sat_writePair 42 = .ok (.iload 6, 2) := by decide +kernel
theorem d_Sat_writePair_44 : decode b_Sat_writePair 44 = .ok (.aload_n 0, 1) := by decide +kernel
theorem d_Sat_writePair_45 : decode b_Sat_writePair 45 = .ok (.getfield 27, 3) := by decide +kernel
theorem d_Sat_writePair_48 : decode b_Sat_writePair 48 = .ok (.iload_n 2, 1) := by decide +kernel
theorem d_Sat_writePair_49 : decode b_Sat_writePair 49 = .ok (.iload_n 3, 1) := by decide +kernel
theorem d_Sat_writePair_50 : decode b_Sat_writePair 50 = .ok (.invokevirtual 203, 3) := by decide +kernel
theorem d_Sat_writePair_53 : decode b_Sat_writePair 53 = .ok (.iadd, 1) := by decide +kernel
theorem d_Sat_writePair_54 : decode b_Sat_writePair 54 = .ok (.iconst 0, 1) := by decide +kernel
theorem d_Sat_writePair_55 : decode b_Sat_writePair 55 = .ok (.iconst 0, 1) := by decide +kernel
theorem d_Sat_writePair_56 : decode b_Sat_writePair 56 = .ok (.invokevirtual 229, 3) := by decide +kernel
theorem d_Sat_writePair_59 : decode b_Sat_writePair 59 = .ok (.aload_n 0, 1) := by decide +kernel
theorem d_Sat_writePair_60 : decode b_Sat_writePair 60 = .ok (.getfield 31, 3) := by decide +kernel
theorem d_Sat_writePair_63 : decode b_Sat_writePair 63 = .ok (.invokevirtual 233, 3) := by decide +kernel
theorem d_Sat_writePair_66 : decode b_Sat_writePair 66 = .ok (.aload_n 0, 1) := by decide +kernel
theorem d_Sat_writePair_67 : decode b_Sat_writePair 67 = .ok (.getfield 45, 3) := by decide +kernel
theorem d_Sat_writePair_70 : decode b_Sat_writePair 70 = .ok (.aload_n 0, 1) := by decide +kernel
theorem d_Sat_writePair_71 : decode b_Sat_writePair 71 = .ok (.getfield 31, 3) := by decide +kernel
theorem d_Sat_writePair_74 : decode b_Sat_writePair 74 = .ok (.iload 7, 2) := by decide +kernel
theorem d_Sat_writePair_76 : decode b_Sat_writePair 76 = .ok (.iload 7, 2) := by decide +kernel
theorem d_Sat_writePair_78 : decode b_Sat_writePair 78 = .ok (.aload_n 0, 1) := by decide +kernel
theorem d_Sat_writePair_79 : decode b_Sat_writePair 79 = .ok (.getfield 27, 3) := by decide +kernel
theorem d_Sat_writePair_82 : decode b_Sat_writePair 82 = .ok (.iload 4, 2) := by decide +kernel
theorem d_Sat_writePair_84 : decode b_Sat_writePair 84 = .ok (.iload 5, 2) := by decide +kernel
theorem d_Sat_writePair_86 : decode b_Sat_writePair 86 = .ok (.invokevirtual 203, 3) := by decide +kernel
theorem d_Sat_writePair_89 : decode b_Sat_writePair 89 = .ok (.iadd, 1) := by decide +kernel
theorem d_Sat_writePair_90 : decode b_Sat_writePair 90 = .ok (.iconst 0, 1) := by decide +kernel
theorem d_Sat_writePair_91 : decode b_Sat_writePair 91 = .ok (.iconst 0, 1) := by decide +kernel
theorem d_Sat_writePair_92 : decode b_Sat_writePair 92 = .ok (.invokevirtual 229, 3) := by decide +kernel
theorem d_Sat_writePair_95 : decode b_Sat_writePair 95 = .ok (.aload_n 0, 1) := by decide +kernel
theorem d_Sat_writePair_96 : decode b_Sat_writePair 96 = .ok (.getfield 31, 3) := by decide +kernel
theorem d_Sat_writePair_99 : decode b_Sat_writePair 99 = .ok (.invokevirtual 239, 3) := by decide +kernel
theorem d_Sat_writePair_102 : decode b_Sat_writePair 102 = .ok (.return_, 1) := by decide +kernel
abbrev b_Sat_writeRange : ByteArray := prog_8_method_20_code
def y_Sat_writeRange : MethodName := ⟨"ClauseProver$Saturation", "writeRange", "(IIIII)V"⟩
theorem d_Sat_writeRange_0 : decode b_Sat_writeRange 0 = .ok (.iload_n 3, 1) := by decide +kernel
theorem d_Sat_writeRange_1 : decode b_Sat_writeRange 1 = .ok (.iload_n 1, 1) := by decide +kernel
theorem d_Sat_writeRange_2 : decode b_Sat_writeRange 2 = .ok (.if_icmp .lt 8, 3) := by decide +kernel
theorem d_Sat_writeRange_5 : decode b_Sat_writeRange 5 = .ok (.iload_n 3, 1) := by decide +kernel
theorem d_Sat_writeRange_6 : decode b_Sat_writeRange 6 = .ok (.iload_n 2, 1) := by decide +kernel
theorem d_Sat_writeRange_7 : decode b_Sat_writeRange 7 = .ok (.if_icmp .lt 20, 3) := by decide +kernel
theorem d_Sat_writeRange_10 : decode b_Sat_writeRange 10 = .ok (.aload_n 0, 1) := by decide +kernel
theorem d_Sat_writeRange_11 : decode b_Sat_writeRange 11 = .ok (.getfield 45, 3) := by decide +kernel
theorem d_Sat_writeRange_14 : decode b_Sat_writeRange 14 = .ok (.aload_n 0, 1) := by decide +kernel
theorem d_Sat_writeRange_15 : decode b_Sat_writeRange 15 = .ok (.getfield 31, 3) := by decide +kernel
theorem d_Sat_writeRange_18 : decode b_Sat_writeRange 18 = .ok (.iload_n 1, 1) := by decide +kernel
theorem d_Sat_writeRange_19 : decode b_Sat_writeRange 19 = .ok (.iload_n 2, 1) := by decide +kernel
theorem d_Sat_writeRange_20 : decode b_Sat_writeRange 20 = .ok (.bipush 6, 2) := by decide +kernel
theorem d_Sat_writeRange_22 : decode b_Sat_writeRange 22 = .ok (.iconst 0, 1) := by decide +kernel
theorem d_Sat_writeRange_23 : decode b_Sat_writeRange 23 = .ok (.invokevirtual 229, 3) := by decide +kernel
theorem d_Sat_writeRange_26 : decode b_Sat_writeRange 26 = .ok (.return_, 1) := by decide +kernel
theorem d_Sat_writeRange_27 : decode b_Sat_writeRange 27 = .ok (.aload_n 0, 1) := by decide +kernel
theorem d_Sat_writeRange_28 : decode b_Sat_writeRange 28 = .ok (.getfield 27, 3) := by decide +kernel
theorem d_Sat_writeRange_31 : decode b_Sat_writeRange 31 = .ok (.iload 4, 2) := by decide +kernel
theorem d_Sat_writeRange_33 : decode b_Sat_writeRange 33 = .ok (.iload 5, 2) := by decide +kernel
theorem d_Sat_writeRange_35 : decode b_Sat_writeRange 35 = .ok (.invokevirtual 200, 3) := by decide +kernel
theorem d_Sat_writeRange_38 : decode b_Sat_writeRange 38 = .ok (.istore 6, 2) := by decide +kernel
theorem d_Sat_writeRange_40 : decode b_Sat_writeRange 40 = .ok (.aload_n 0, 1) := by decide +kernel
theorem d_Sat_writeRange_41 : decode b_Sat_writeRange 41 = .ok (.getfield 45, 3) := by decide +kernel
theorem d_Sat_writeRange_44 : decode b_Sat_writeRange 44 = .ok (.aload_n 0, 1) := by decide +kernel
theorem d_Sat_writeRange_45 : decode b_Sat_writeRange 45 = .ok (.getfield 31, 3) := by decide +kernel
theorem d_Sat_writeRange_48 : decode b_Sat_writeRange 48 = .ok (.iload_n 1, 1) := by decide +kernel
theorem d_Sat_writeRange_49 : decode b_Sat_writeRange 49 = .ok (.iload_n 3, 1) := by decide +kernel
theorem d_Sat_writeRange_50 : decode b_Sat_writeRange 50 = .ok (.bipush 6, 2) := by decide +kernel
theorem d_Sat_writeRange_52 : decode b_Sat_writeRange 52 = .ok (.iconst 0, 1) := by decide +kernel
theorem d_Sat_writeRange_53 : decode b_Sat_writeRange 53 = .ok (.invokevirtual 229, 3) := by decide +kernel
theorem d_Sat_writeRange_56 : decode b_Sat_writeRange 56 = .ok (.aload_n 0, 1) := by decide +kernel
theorem d_Sat_writeRange_57 : decode b_Sat_writeRange 57 = .ok (.getfield 45, 3) := by decide +kernel
theorem d_Sat_writeRange_60 : decode b_Sat_writeRange 60 = .ok (.aload_n 0, 1) := by decide +kernel
theorem d_Sat_writeRange_61 : decode b_Sat_writeRange 61 = .ok (.getfield 31, 3) := by decide +kernel
theorem d_Sat_writeRange_64 : decode b_Sat_writeRange 64 = .ok (.iload 6, 2) := by decide +kernel
theorem d_Sat_writeRange_66 : decode b_Sat_writeRange 66 = .ok (.iload 6, 2) := by decide +kernel
theorem d_Sat_writeRange_68 : decode b_Sat_writeRange 68 = .ok (.aload_n 0, 1) := by decide +kernel
theorem d_Sat_writeRange_69 : decode b_Sat_writeRange 69 = .ok (.getfield 27, 3) := by decide +kernel
theorem d_Sat_writeRange_72 : decode b_Sat_writeRange 72 = .ok (.iload 4, 2) := by decide +kernel
theorem d_Sat_writeRange_74 : decode b_Sat_writeRange 74 = .ok (.iload 5, 2) := by decide +kernel
theorem d_Sat_writeRange_76 : decode b_Sat_writeRange 76 = .ok (.invokevirtual 203, 3) := by decide +kernel
theorem d_Sat_writeRange_79 : decode b_Sat_writeRange 79 = .ok (.iadd, 1) := by decide +kernel
theorem d_Sat_writeRange_80 : decode b_Sat_writeRange 80 = .ok (.iconst 0, 1) := by decide +kernel
theorem d_Sat_writeRange_81 : decode b_Sat_writeRange 81 = .ok (.iconst 0, 1) := by decide +kernel
theorem d_Sat_writeRange_82 : decode b_Sat_writeRange 82 = .ok (.invokevirtual 229, 3) := by decide +kernel
theorem d_Sat_writeRange_85 : decode b_Sat_writeRange 85 = .ok (.aload_n 0, 1) := by decide +kernel
theorem d_Sat_writeRange_86 : decode b_Sat_writeRange 86 = .ok (.getfield 45, 3) := by decide +kernel
theorem d_Sat_writeRange_89 : decode b_Sat_writeRange 89 = .ok (.aload_n 0, 1) := by decide +kernel
theorem d_Sat_writeRange_90 : decode b_Sat_writeRange 90 = .ok (.getfield 31, 3) := by decide +kernel
theorem d_Sat_writeRange_93 : decode b_Sat_writeRange 93 = .ok (.aload_n 0, 1) := by decide +kernel
theorem d_Sat_writeRange_94 : decode b_Sat_writeRange 94 = .ok (.getfield 23, 3) := by decide +kernel
theorem d_Sat_writeRange_97 : decode b_Sat_writeRange 97 = .ok (.aload_n 0, 1) := by decide +kernel
theorem d_Sat_writeRange_98 : decode b_Sat_writeRange 98 = .ok (.getfield 27, 3) := by decide +kernel
theorem d_Sat_writeRange_101 : decode b_Sat_writeRange 101 = .ok (.getfield 37, 3) := by decide +kernel
theorem d_Sat_writeRange_104 : decode b_Sat_writeRange 104 = .ok (.getfield 151, 3) := by decide +kernel
theorem d_Sat_writeRange_107 : decode b_Sat_writeRange 107 = .ok (.iload_n 3, 1) := by decide +kernel
theorem d_Sat_writeRange_108 : decode b_Sat_writeRange 108 = .ok (.invokevirtual 246, 3) := by decide +kernel
theorem d_Sat_writeRange_111 : decode b_Sat_writeRange 111 = .ok (.iload_n 2, 1) := by decide +kernel
theorem d_Sat_writeRange_112 : decode b_Sat_writeRange 112 = .ok (.bipush 6, 2) := by decide +kernel
theorem d_Sat_writeRange_114 : decode b_Sat_writeRange 114 = .ok (.iconst 0, 1) := by decide +kernel
theorem d_Sat_writeRange_115 : decode b_Sat_writeRange 115 = .ok (.invokevirtual 229, 3) := by decide +kernel
theorem d_Sat_writeRange_118 : decode b_Sat_writeRange 118 = .ok (.return_, 1) := by decide +kernel
abbrev b_Sat_writeReplaced : ByteArray := prog_8_method_19_code
def y_Sat_writeReplaced : MethodName := ⟨"ClauseProver$Saturation", "writeReplaced", "(IIII)V"⟩
theorem d_Sat_writeReplaced_0 : decode b_Sat_writeReplaced 0 = .ok (.aload_n 0, 1) := by decide +kernel
theorem d_Sat_writeReplaced_1 : decode b_Sat_writeReplaced 1 = .ok (.getfield 27, 3) := by decide +kernel
theorem d_Sat_writeReplaced_4 : decode b_Sat_writeReplaced 4 = .ok (.iload_n 1, 1) := by decide +kernel
theorem d_Sat_writeReplaced_5 : decode b_Sat_writeReplaced 5 = .ok (.bipush 8, 2) := by decide +kernel
theorem d_Sat_writeReplaced_7 : decode b_Sat_writeReplaced 7 = .ok (.invokevirtual 91, 3) := by decide +kernel
theorem d_Sat_writeReplaced_10 : decode b_Sat_writeReplaced 10 = .ok (.istore 5, 2) := by decide +kernel
theorem d_Sat_writeReplaced_12 : decode b_Sat_writeReplaced 12 = .ok (.iconst 0, 1) := by decide +kernel
theorem d_Sat_writeReplaced_13 : decode b_Sat_writeReplaced 13 = .ok (.istore 6, 2) := by decide +kernel
theorem d_Sat_writeReplaced_15 : decode b_Sat_writeReplaced 15 = .ok (.iload 6, 2) := by decide +kernel
theorem d_Sat_writeReplaced_17 : decode b_Sat_writeReplaced 17 = .ok (.aload_n 0, 1) := by decide +kernel
theorem d_Sat_writeReplaced_18 : decode b_Sat_writeReplaced 18 = .ok (.getfield 27, 3) := by decide +kernel
theorem d_Sat_writeReplaced_21 : decode b_Sat_writeReplaced 21 = .ok (.iload_n 1, 1) := by decide +kernel
theorem d_Sat_writeReplaced_22 : decode b_Sat_writeReplaced 22 = .ok (.iconst 3, 1) := by decide +kernel
theorem d_Sat_writeReplaced_23 : decode b_Sat_writeReplaced 23 = .ok (.invokevirtual 91, 3) := by decide +kernel
theorem d_Sat_writeReplaced_26 : decode b_Sat_writeReplaced 26 = .ok (.if_icmp .ge 101, 3) := by decide +kernel
theorem d_Sat_writeReplaced_29 : decode b_Sat_writeReplaced 29 = .ok (.aload_n 0, 1) := by decide +kernel
theorem d_Sat_writeReplaced_30 : decode b_Sat_writeReplaced 30 = .ok (.getfield 27, 3) := by decide +kernel
theorem d_Sat_writeReplaced_33 : decode b_Sat_writeReplaced 33 = .ok (.iload 5, 2) := by decide +kernel
theorem d_Sat_writeReplaced_35 : decode b_Sat_writeReplaced 35 = .ok (.iconst 1, 1) := by decide +kernel
theorem d_Sat_writeReplaced_36 : decode b_Sat_writeReplaced 36 = .ok (.invokevirtual 200, 3) := by decide +kernel
theorem d_Sat_writeReplaced_39 : decode b_Sat_writeReplaced 39 = .ok (.istore 7, 2) := by decide +kernel
theorem d_Sat_writeReplaced_41 : decode b_Sat_writeReplaced 41 = .ok (.aload_n 0, 1) := by decide +kernel
theorem d_Sat_writeReplaced_42 : decode b_Sat_writeReplaced 42 = .ok (.getfield 31, 3) := by decide +kernel
theorem d_Sat_writeReplaced_45 : decode b_Sat_writeReplaced 45 = .ok (.aload_n 0, 1) := by decide +kernel
theorem d_Sat_writeReplaced_46 : decode b_Sat_writeReplaced 46 = .ok (.getfield 27, 3) := by decide +kernel
theorem d_Sat_writeReplaced_49 : decode b_Sat_writeReplaced 49 = .ok (.iload 5, 2) := by decide +kernel
theorem d_Sat_writeReplaced_51 : decode b_Sat_writeReplaced 51 = .ok (.invokevirtual 113, 3) := by decide +kernel
theorem d_Sat_writeReplaced_54 : decode b_Sat_writeReplaced 54 = .ok (.invokevirtual 225, 3) := by decide +kernel
theorem d_Sat_writeReplaced_57 : decode b_Sat_writeReplaced 57 = .ok (.aload_n 0, 1) := by decide +kernel
theorem d_Sat_writeReplaced_58 : decode b_Sat_writeReplaced 58 = .ok (.aload_n 0, 1) := by decide +kernel
theorem d_Sat_writeReplaced_59 : decode b_Sat_writeReplaced 59 = .ok (.getfield 27, 3) := by decide +kernel
theorem d_Sat_writeReplaced_62 : decode b_Sat_writeReplaced 62 = .ok (.iload 5, 2) := by decide +kernel
theorem d_Sat_writeReplaced_64 : decode b_Sat_writeReplaced 64 = .ok (.iconst 0, 1) := by decide +kernel
theorem d_Sat_writeReplaced_65 : decode b_Sat_writeReplaced 65 = .ok (.invokevirtual 200, 3) := by decide +kernel
theorem d_Sat_writeReplaced_68 : decode b_Sat_writeReplaced 68 = .ok (.iload 7, 2) := by decide +kernel
theorem d_Sat_writeReplaced_70 : decode b_Sat_writeReplaced 70 = .ok (.iload_n 2, 1) := by decide +kernel
theorem d_Sat_writeReplaced_71 : decode b_Sat_writeReplaced 71 = .ok (.iload_n 3, 1) := by decide +kernel
theorem d_Sat_writeReplaced_72 : decode b_Sat_writeReplaced 72 = .ok (.iload 4, 2) := by decide +kernel
theorem d_Sat_writeReplaced_74 : decode b_Sat_writeReplaced 74 = .ok (.invokevirtual 242, 3) := by decide +kernel
theorem d_Sat_writeReplaced_77 : decode b_Sat_writeReplaced 77 = .ok (.aload_n 0, 1) := by decide +kernel
theorem d_Sat_writeReplaced_78 : decode b_Sat_writeReplaced 78 = .ok (.getfield 31, 3) := by decide +kernel
theorem d_Sat_writeReplaced_81 : decode b_Sat_writeReplaced 81 = .ok (.invokevirtual 233, 3) := by decide +kernel
theorem d_Sat_writeReplaced_84 : decode b_Sat_writeReplaced 84 = .ok (.aload_n 0, 1) := by decide +kernel
theorem d_Sat_writeReplaced_85 : decode b_Sat_writeReplaced 85 = .ok (.iload 7, 2) := by decide +kernel
theorem d_Sat_writeReplaced_87 : decode b_Sat_writeReplaced 87 = .ok (.aload_n 0, 1) := by decide +kernel
theorem d_Sat_writeReplaced_88 : decode b_Sat_writeReplaced 88 = .ok (.getfield 27, 3) := by decide +kernel
theorem d_Sat_writeReplaced_91 : decode b_Sat_writeReplaced 91 = .ok (.iload 5, 2) := by decide +kernel
theorem d_Sat_writeReplaced_93 : decode b_Sat_writeReplaced 93 = .ok (.invokevirtual 236, 3) := by decide +kernel
theorem d_Sat_writeReplaced_96 : decode b_Sat_writeReplaced 96 = .ok (.iload_n 2, 1) := by decide +kernel
theorem d_Sat_writeReplaced_97 : decode b_Sat_writeReplaced 97 = .ok (.iload_n 3, 1) := by decide +kernel
theorem d_Sat_writeReplaced_98 : decode b_Sat_writeReplaced 98 = .ok (.iload 4, 2) := by decide +kernel
theorem d_Sat_writeReplaced_100 : decode b_Sat_writeReplaced 100 = .ok (.invokevirtual 242, 3) := by decide +kernel
theorem d_Sat_writeReplaced_103 : decode b_Sat_writeReplaced 103 = .ok (.aload_n 0, 1) := by decide +kernel
theorem d_Sat_writeReplaced_104 : decode b_Sat_writeReplaced 104 = .ok (.getfield 31, 3) := by decide +kernel
theorem d_Sat_writeReplaced_107 : decode b_Sat_writeReplaced 107 = .ok (.invokevirtual 239, 3) := by decide +kernel
theorem d_Sat_writeReplaced_110 : decode b_Sat_writeReplaced 110 = .ok (.aload_n 0, 1) := by decide +kernel
theorem d_Sat_writeReplaced_111 : decode b_Sat_writeReplaced 111 = .ok (.getfield 27, 3) := by decide +kernel
theorem d_Sat_writeReplaced_114 : decode b_Sat_writeReplaced 114 = .ok (.iload 5, 2) := by decide +kernel
theorem d_Sat_writeReplaced_116 : decode b_Sat_writeReplaced 116 = .ok (.invokevirtual 236, 3) := by decide +kernel
theorem d_Sat_writeReplaced_119 : decode b_Sat_writeReplaced 119 = .ok (.istore 5, 2) := by decide +kernel
theorem d_Sat_writeReplaced_121 : decode b_Sat_writeReplaced 121 = .ok (.iinc 6 1, 3) := by decide +kernel
theorem d_Sat_writeReplaced_124 : decode b_Sat_writeReplaced 124 = .ok (.goto (-109), 3) := by decide +kernel
theorem d_Sat_writeReplaced_127 : decode b_Sat_writeReplaced 127 = .ok (.return_, 1) := by decide +kernel
abbrev b_Sto_behind : ByteArray := prog_9_method_9_code
def y_Sto_behind : MethodName := ⟨"ClauseProver$Store", "behind", "(I)I"⟩
theorem d_Sto_behind_0 : decode b_Sto_behind 0 = .ok (.iload_n 1, 1) := by decide +kernel
theorem d_Sto_behind_1 : decode b_Sto_behind 1 = .ok (.iconst 5, 1) := by decide +kernel
theorem d_Sto_behind_2 : decode b_Sto_behind 2 = .ok (.iadd, 1) := by decide +kernel
theorem d_Sto_behind_3 : decode b_Sto_behind 3 = .ok (.aload_n 0, 1) := by decide +kernel
theorem d_Sto_behind_4 : decode b_Sto_behind 4 = .ok (.getfield 14, 3) := by decide +kernel
theorem d_Sto_behind_7 : decode b_Sto_behind 7 = .ok (.getfield 38, 3) := by decide +kernel
theorem d_Sto_behind_10 : decode b_Sto_behind 10 = .ok (.iload_n 1, 1) := by decide +kernel
theorem d_Sto_behind_11 : decode b_Sto_behind 11 = .ok (.iconst 3, 1) := by decide +kernel
theorem d_Sto_behind_12 : decode b_Sto_behind 12 = .ok (.iadd, 1) := by decide +kernel
theorem d_Sto_behind_13 : decode b_Sto_behind 13 = .ok (.iaload, 1) := by decide +kernel
theorem d_Sto_behind_14 : decode b_Sto_behind 14 = .ok (.iadd, 1) := by decide +kernel
theorem d_Sto_behind_15 : decode b_Sto_behind 15 = .ok (.aload_n 0, 1) := by decide +kernel
theorem d_Sto_behind_16 : decode b_Sto_behind 16 = .ok (.getfield 14, 3) := by decide +kernel
theorem d_Sto_behind_19 : decode b_Sto_behind 19 = .ok (.getfield 38, 3) := by decide +kernel
theorem d_Sto_behind_22 : decode b_Sto_behind 22 = .ok (.iload_n 1, 1) := by decide +kernel
theorem d_Sto_behind_23 : decode b_Sto_behind 23 = .ok (.iconst 4, 1) := by decide +kernel
theorem d_Sto_behind_24 : decode b_Sto_behind 24 = .ok (.iadd, 1) := by decide +kernel
theorem d_Sto_behind_25 : decode b_Sto_behind 25 = .ok (.iaload, 1) := by decide +kernel
theorem d_Sto_behind_26 : decode b_Sto_behind 26 = .ok (.iadd, 1) := by decide +kernel
theorem d_Sto_behind_27 : decode b_Sto_behind 27 = .ok (.ireturn, 1) := by decide +kernel
abbrev b_Sto_clear : ByteArray := prog_9_method_2_code
def y_Sto_clear : MethodName := ⟨"ClauseProver$Store", "clear", "()V"⟩
theorem d_Sto_clear_0 : decode b_Sto_clear 0 = .ok (.aload_n 0, 1) := by decide +kernel
theorem d_Sto_clear_1 : decode b_Sto_clear 1 = .ok (.getfield 14, 3) := by decide +kernel
theorem d_Sto_clear_4 : decode b_Sto_clear 4 = .ok (.iconst 0, 1) := by decide +kernel
theorem d_Sto_clear_5 : decode b_Sto_clear 5 = .ok (.putfield 30, 3) := by decide +kernel
theorem d_Sto_clear_8 : decode b_Sto_clear 8 = .ok (.aload_n 0, 1) := by decide +kernel
theorem d_Sto_clear_9 : decode b_Sto_clear 9 = .ok (.getfield 20, 3) := by decide +kernel
theorem d_Sto_clear_12 : decode b_Sto_clear 12 = .ok (.iconst 0, 1) := by decide +kernel
theorem d_Sto_clear_13 : decode b_Sto_clear 13 = .ok (.putfield 30, 3) := by decide +kernel
theorem d_Sto_clear_16 : decode b_Sto_clear 16 = .ok (.aload_n 0, 1) := by decide +kernel
theorem d_Sto_clear_17 : decode b_Sto_clear 17 = .ok (.getfield 23, 3) := by decide +kernel
theorem d_Sto_clear_20 : decode b_Sto_clear 20 = .ok (.iconst 0, 1) := by decide +kernel
theorem d_Sto_clear_21 : decode b_Sto_clear 21 = .ok (.putfield 30, 3) := by decide +kernel
theorem d_Sto_clear_24 : decode b_Sto_clear 24 = .ok (.aload_n 0, 1) := by decide +kernel
theorem d_Sto_clear_25 : decode b_Sto_clear 25 = .ok (.iconst 0, 1) := by decide +kernel
theorem d_Sto_clear_26 : decode b_Sto_clear 26 = .ok (.putfield 34, 3) := by decide +kernel
theorem d_Sto_clear_29 : decode b_Sto_clear 29 = .ok (.aload_n 0, 1) := by decide +kernel
theorem d_Sto_clear_30 : decode b_Sto_clear 30 = .ok (.iconst 0, 1) := by decide +kernel
theorem d_Sto_clear_31 : decode b_Sto_clear 31 = .ok (.putfield 35, 3) := by decide +kernel
theorem d_Sto_clear_34 : decode b_Sto_clear 34 = .ok (.return_, 1) := by decide +kernel
abbrev b_Sto_fact : ByteArray := prog_9_method_4_code
def y_Sto_fact : MethodName := ⟨"ClauseProver$Store", "fact", "(II)I"⟩
theorem d_Sto_fact_0 : decode b_Sto_fact 0 = .ok (.aload_n 0, 1) := by decide +kernel
theorem d_Sto_fact_1 : decode b_Sto_fact 1 = .ok (.getfield 23, 3) := by decide +kernel
theorem d_Sto_fact_4 : decode b_Sto_fact 4 = .ok (.getfield 38, 3) := by decide +kernel
theorem d_Sto_fact_7 : decode b_Sto_fact 7 = .ok (.iload_n 1, 1) := by decide +kernel
theorem d_Sto_fact_8 : decode b_Sto_fact 8 = .ok (.bipush 11, 2) := by decide +kernel
theorem d_Sto_fact_10 : decode b_Sto_fact 10 = .ok (.imul, 1) := by decide +kernel
theorem d_Sto_fact_11 : decode b_Sto_fact 11 = .ok (.iload_n 2, 1) := by decide +kernel
theorem d_Sto_fact_12 : decode b_Sto_fact 12 = .ok (.iadd, 1) := by decide +kernel
theorem d_Sto_fact_13 : decode b_Sto_fact 13 = .ok (.iaload, 1) := by decide +kernel
theorem d_Sto_fact_14 : decode b_Sto_fact 14 = .ok (.ireturn, 1) := by decide +kernel
abbrev b_Sto_has : ByteArray := prog_9_method_3_code
def y_Sto_has : MethodName := ⟨"ClauseProver$Store", "has", "(I)Z"⟩
theorem d_Sto_has_0 : decode b_Sto_has 0 = .ok (.iload_n 1, 1) := by decide +kernel
theorem d_Sto_has_1 : decode b_Sto_has 1 = .ok (.ifCond .lt 15, 3) := by decide +kernel
theorem d_Sto_has_4 : decode b_Sto_has 4 = .ok (.iload_n 1, 1) := by decide +kernel
theorem d_Sto_has_5 : decode b_Sto_has 5 = .ok (.aload_n 0, 1) := by decide +kernel
theorem d_Sto_has_6 : decode b_Sto_has 6 = .ok (.getfield 34, 3) := by decide +kernel
theorem d_Sto_has_9 : decode b_Sto_has 9 = .ok (.if_icmp .ge 7, 3) := by decide +kernel
theorem d_Sto_has_12 : decode b_Sto_has 12 = .ok (.iconst 1, 1) := by decide +kernel
theorem d_Sto_has_13 : decode b_Sto_has 13 = .ok (.goto 4, 3) := by decide +kernel
theorem d_Sto_has_16 : decode b_Sto_has 16 = .ok (.iconst 0, 1) := by decide +kernel
theorem d_Sto_has_17 : decode b_Sto_has 17 = .ok (.ireturn, 1) := by decide +kernel
abbrev b_Sto_headOf : ByteArray := prog_9_method_8_code
def y_Sto_headOf : MethodName := ⟨"ClauseProver$Store", "headOf", "(II)I"⟩
theorem d_Sto_headOf_0 : decode b_Sto_headOf 0 = .ok (.aload_n 0, 1) := by decide +kernel
theorem d_Sto_headOf_1 : decode b_Sto_headOf 1 = .ok (.iload_n 1, 1) := by decide +kernel
theorem d_Sto_headOf_2 : decode b_Sto_headOf 2 = .ok (.bipush 8, 2) := by decide +kernel
theorem d_Sto_headOf_4 : decode b_Sto_headOf 4 = .ok (.invokevirtual 42, 3) := by decide +kernel
theorem d_Sto_headOf_7 : decode b_Sto_headOf 7 = .ok (.istore_n 3, 1) := by decide +kernel
theorem d_Sto_headOf_8 : decode b_Sto_headOf 8 = .ok (.iconst 0, 1) := by decide +kernel
theorem d_Sto_headOf_9 : decode b_Sto_headOf 9 = .ok (.istore 4, 2) := by decide +kernel
theorem d_Sto_headOf_11 : decode b_Sto_headOf 11 = .ok (.iload 4, 2) := by decide +kernel
theorem d_Sto_headOf_13 : decode b_Sto_headOf 13 = .ok (.iload_n 2, 1) := by decide +kernel
theorem d_Sto_headOf_14 : decode b_Sto_headOf 14 = .ok (.if_icmp .ge 15, 3) := by decide +kernel
theorem d_Sto_headOf_17 : decode b_Sto_headOf 17 = .ok (.aload_n 0, 1) := by decide +kernel
theorem d_Sto_headOf_18 : decode b_Sto_headOf 18 = .ok (.iload_n 3, 1) := by decide +kernel
theorem d_Sto_headOf_19 : decode b_Sto_headOf 19 = .ok (.invokevirtual 73, 3) := by decide +kernel
theorem d_Sto_headOf_22 : decode b_Sto_headOf 22 = .ok (.istore_n 3, 1) := by decide +kernel
theorem d_Sto_headOf_23 : decode b_Sto_headOf 23 = .ok (.iinc 4 1, 3) := by decide +kernel
theorem d_Sto_headOf_26 : decode b_Sto_headOf 26 = .ok (.goto (-15), 3) := by decide +kernel
theorem d_Sto_headOf_29 : decode b_Sto_headOf 29 = .ok (.iload_n 3, 1) := by decide +kernel
theorem d_Sto_headOf_30 : decode b_Sto_headOf 30 = .ok (.ireturn, 1) := by decide +kernel
abbrev b_Sto_howMany : ByteArray := prog_9_method_6_code
def y_Sto_howMany : MethodName := ⟨"ClauseProver$Store", "howMany", "(I)I"⟩
theorem d_Sto_howMany_0 : decode b_Sto_howMany 0 = .ok (.iconst 0, 1) := by decide +kernel
theorem d_Sto_howMany_1 : decode b_Sto_howMany 1 = .ok (.istore_n 2, 1) := by decide +kernel
theorem d_Sto_howMany_2 : decode b_Sto_howMany 2 = .ok (.iconst 0, 1) := by decide +kernel
theorem d_Sto_howMany_3 : decode b_Sto_howMany 3 = .ok (.istore_n 3, 1) := by decide +kernel
theorem d_Sto_howMany_4 : decode b_Sto_howMany 4 = .ok (.iload_n 3, 1) := by decide +kernel
theorem d_Sto_howMany_5 : decode b_Sto_howMany 5 = .ok (.aload_n 0, 1) := by decide +kernel
theorem d_Sto_howMany_6 : decode b_Sto_howMany 6 = .ok (.getfield 34, 3) := by decide +kernel
theorem d_Sto_howMany_9 : decode b_Sto_howMany 9 = .ok (.if_icmp .ge 28, 3) := by decide +kernel
theorem d_Sto_howMany_12 : decode b_Sto_howMany 12 = .ok (.iload_n 2, 1) := by decide +kernel
theorem d_Sto_howMany_13 : decode b_Sto_howMany 13 = .ok (.aload_n 0, 1) := by decide +kernel
theorem d_Sto_howMany_14 : decode b_Sto_howMany 14 = .ok (.iload_n 3, 1) := by decide +kernel
theorem d_Sto_howMany_15 : decode b_Sto_howMany 15 = .ok (.bipush 6, 2) := by decide +kernel
theorem d_Sto_howMany_17 : decode b_Sto_howMany 17 = .ok (.invokevirtual 42, 3) := by decide +kernel
theorem d_Sto_howMany_20 : decode b_Sto_howMany 20 = .ok (.iload_n 1, 1) := by decide +kernel
theorem d_Sto_howMany_21 : decode b_Sto_howMany 21 = .ok (.if_icmp .ne 7, 3) := by decide +kernel
theorem d_Sto_howMany_24 : decode b_Sto_howMany 24 = .ok (.iconst 1, 1) := by decide +kernel
theorem d_Sto_howMany_25 : decode b_Sto_howMany 25 = .ok (.goto 4, 3) := by decide +kernel
theorem d_Sto_howMany_28 : decode b_Sto_howMany 28 = .ok (.iconst 0, 1) := by decide +kernel
theorem d_Sto_howMany_29 : decode b_Sto_howMany 29 = .ok (.iadd, 1) := by decide +kernel
theorem d_Sto_howMany_30 : decode b_Sto_howMany 30 = .ok (.istore_n 2, 1) := by decide +kernel
theorem d_Sto_howMany_31 : decode b_Sto_howMany 31 = .ok (.iinc 3 1, 3) := by decide +kernel
theorem d_Sto_howMany_34 : decode b_Sto_howMany 34 = .ok (.goto (-30), 3) := by decide +kernel
theorem d_Sto_howMany_37 : decode b_Sto_howMany 37 = .ok (.iload_n 2, 1) := by decide +kernel
theorem d_Sto_howMany_38 : decode b_Sto_howMany 38 = .ok (.ireturn, 1) := by decide +kernel
abbrev b_Sto_isEligible : ByteArray := prog_9_method_13_code
def y_Sto_isEligible : MethodName := ⟨"ClauseProver$Store", "isEligible", "(I)Z"⟩
theorem d_Sto_isEligible_0 : decode b_Sto_isEligible 0 = .ok (.aload_n 0, 1) := by decide +kernel
theorem d_Sto_isEligible_1 : decode b_Sto_isEligible 1 = .ok (.getfield 14, 3) := by decide +kernel
theorem d_Sto_isEligible_4 : decode b_Sto_isEligible 4 = .ok (.getfield 38, 3) := by decide +kernel
theorem d_Sto_isEligible_7 : decode b_Sto_isEligible 7 = .ok (.iload_n 1, 1) := by decide +kernel
theorem d_Sto_isEligible_8 : decode b_Sto_isEligible 8 = .ok (.iconst 2, 1) := by decide +kernel
theorem d_Sto_isEligible_9 : decode b_Sto_isEligible 9 = .ok (.iadd, 1) := by decide +kernel
theorem d_Sto_isEligible_10 : decode b_Sto_isEligible 10 = .ok (.iaload, 1) := by decide +kernel
theorem d_Sto_isEligible_11 : decode b_Sto_isEligible 11 = .ok (.iconst 1, 1) := by decide +kernel
theorem d_Sto_isEligible_12 : decode b_Sto_isEligible 12 = .ok (.if_icmp .ne 7, 3) := by decide +kernel
theorem d_Sto_isEligible_15 : decode b_Sto_isEligible 15 = .ok (.iconst 1, 1) := by decide +kernel
theorem d_Sto_isEligible_16 : decode b_Sto_isEligible 16 = .ok (.goto 4, 3) := by decide +kernel
theorem d_Sto_isEligible_19 : decode b_Sto_isEligible 19 = .ok (.iconst 0, 1) := by decide +kernel
theorem d_Sto_isEligible_20 : decode b_Sto_isEligible 20 = .ok (.ireturn, 1) := by decide +kernel
abbrev b_Sto_isGreater : ByteArray := prog_9_method_18_code
def y_Sto_isGreater : MethodName := ⟨"ClauseProver$Store", "isGreater", "(II)Z"⟩
theorem d_Sto_isGreater_0 : decode b_Sto_isGreater 0 = .ok (.iconst 3, 1) := by decide +kernel
theorem d_Sto_isGreater_1 : decode b_Sto_isGreater 1 = .ok (.istore_n 3, 1) := by decide +kernel
theorem d_Sto_isGreater_2 : decode b_Sto_isGreater 2 = .ok (.iconst 3, 1) := by decide +kernel
theorem d_Sto_isGreater_3 : decode b_Sto_isGreater 3 = .ok (.istore 4, 2) := by decide +kernel
theorem d_Sto_isGreater_5 : decode b_Sto_isGreater 5 = .ok (.iconst 0, 1) := by decide +kernel
theorem d_Sto_isGreater_6 : decode b_Sto_isGreater 6 = .ok (.istore 5, 2) := by decide +kernel
theorem d_Sto_isGreater_8 : decode b_Sto_isGreater 8 = .ok (.iload 5, 2) := by decide +kernel
theorem d_Sto_isGreater_10 : decode b_Sto_isGreater 10 = .ok (.iconst 2, 1) := by decide +kernel
theorem d_Sto_isGreater_11 : decode b_Sto_isGreater 11 = .ok (.if_icmp .ge 115, 3) := by decide +kernel
theorem d_Sto_isGreater_14 : decode b_Sto_isGreater 14 = .ok (.iconst 0, 1) := by decide +kernel
theorem d_Sto_isGreater_15 : decode b_Sto_isGreater 15 = .ok (.istore 6, 2) := by decide +kernel
theorem d_Sto_isGreater_17 : decode b_Sto_isGreater 17 = .ok (.iload 6, 2) := by decide +kernel
theorem d_Sto_isGreater_19 : decode b_Sto_isGreater 19 = .ok (.iconst 2, 1) := by decide +kernel
theorem d_Sto_isGreater_20 : decode b_Sto_isGreater 20 = .ok (.if_icmp .ge 100, 3) := by decide +kernel
theorem d_Sto_isGreater_23 : decode b_Sto_isGreater 23 = .ok (.iload_n 3, 1) := by decide +kernel
theorem d_Sto_isGreater_24 : decode b_Sto_isGreater 24 = .ok (.iload 5, 2) := by decide +kernel
theorem d_Sto_isGreater_26 : decode b_Sto_isGreater 26 = .ok (.ishr, 1) := by decide +kernel
theorem d_Sto_isGreater_27 : decode b_Sto_isGreater 27 = .ok (.iconst 1, 1) := by decide +kernel
theorem d_Sto_isGreater_28 : decode b_Sto_isGreater 28 = .ok (.iand, 1) := by decide +kernel
theorem d_Sto_isGreater_29 : decode b_Sto_isGreater 29 = .ok (.iconst 1, 1) := by decide +kernel
theorem d_Sto_isGreater_30 : decode b_Sto_isGreater 30 = .ok (.if_icmp .ne 18, 3) := by decide +kernel
theorem d_Sto_isGreater_33 : decode b_Sto_isGreater 33 = .ok (.iload 4, 2) := by decide +kernel
theorem d_Sto_isGreater_35 : decode b_Sto_isGreater 35 = .ok (.iload 6, 2) := by decide +kernel
theorem d_Sto_isGreater_37 : decode b_Sto_isGreater 37 = .ok (.ishr, 1) := by decide +kernel
theorem d_Sto_isGreater_38 : decode b_Sto_isGreater 38 = .ok (.iconst 1, 1) := by decide +kernel
theorem d_Sto_isGreater_39 : decode b_Sto_isGreater 39 = .ok (.iand, 1) := by decide +kernel
theorem d_Sto_isGreater_40 : decode b_Sto_isGreater 40 = .ok (.iconst 1, 1) := by decide +kernel
theorem d_Sto_isGreater_41 : decode b_Sto_isGreater 41 = .ok (.if_icmp .ne 7, 3) := by decide +kernel
theorem d_Sto_isGreater_44 : decode b_Sto_isGreater 44 = .ok (.iconst 1, 1) := by decide +kernel
theorem d_Sto_isGreater_45 : decode b_Sto_isGreater 45 = .ok (.goto 4, 3) := by decide +kernel
theorem d_Sto_isGreater_48 : decode b_Sto_isGreater 48 = .ok (.iconst 0, 1) := by decide +kernel
theorem d_Sto_isGreater_49 : decode b_Sto_isGreater 49 = .ok (.istore 7, 2) := by decide +kernel
theorem d_Sto_isGreater_51 : decode b_Sto_isGreater 51 = .ok (.iload 7, 2) := by decide +kernel
theorem d_Sto_isGreater_53 : decode b_Sto_isGreater 53 = .ok (.ifCond .eq 61, 3) := by decide +kernel
theorem d_Sto_isGreater_56 : decode b_Sto_isGreater 56 = .ok (.aload_n 0, 1) := by decide +kernel
theorem d_Sto_isGreater_57 : decode b_Sto_isGreater 57 = .ok (.getfield 26, 3) := by decide +kernel
theorem d_Sto_isGreater_60 : decode b_Sto_isGreater 60 = .ok (.aload_n 0, 1) := by decide +kernel
theorem d_Sto_isGreater_61 : decode b_Sto_isGreater 61 = .ok (.getfield 14, 3) := by decide +kernel
theorem d_Sto_isGreater_64 : decode b_Sto_isGreater 64 = .ok (.getfield 38, 3) := by decide +kernel
theorem d_Sto_isGreater_67 : decode b_Sto_isGreater 67 = .ok (.aload_n 0, 1) := by decide +kernel
theorem d_Sto_isGreater_68 : decode b_Sto_isGreater 68 = .ok (.iload_n 1, 1) := by decide +kernel
theorem d_Sto_isGreater_69 : decode b_Sto_isGreater 69 = .ok (.iload 5, 2) := by decide +kernel
theorem d_Sto_isGreater_71 : decode b_Sto_isGreater 71 = .ok (.invokevirtual 80, 3) := by decide +kernel
theorem d_Sto_isGreater_74 : decode b_Sto_isGreater 74 = .ok (.aload_n 0, 1) := by decide +kernel
theorem d_Sto_isGreater_75 : decode b_Sto_isGreater 75 = .ok (.getfield 14, 3) := by decide +kernel
theorem d_Sto_isGreater_78 : decode b_Sto_isGreater 78 = .ok (.getfield 38, 3) := by decide +kernel
theorem d_Sto_isGreater_81 : decode b_Sto_isGreater 81 = .ok (.aload_n 0, 1) := by decide +kernel
theorem d_Sto_isGreater_82 : decode b_Sto_isGreater 82 = .ok (.iload_n 2, 1) := by decide +kernel
theorem d_Sto_isGreater_83 : decode b_Sto_isGreater 83 = .ok (.iload 6, 2) := by decide +kernel
theorem d_Sto_isGreater_85 : decode b_Sto_isGreater 85 = .ok (.invokevirtual 80, 3) := by decide +kernel
theorem d_Sto_isGreater_88 : decode b_Sto_isGreater 88 = .ok (.invokevirtual 100, 3) := by decide +kernel
theorem d_Sto_isGreater_91 : decode b_Sto_isGreater 91 = .ok (.ifCond .eq 23, 3) := by decide +kernel
theorem d_Sto_isGreater_94 : decode b_Sto_isGreater 94 = .ok (.iload_n 3, 1) := by decide +kernel
theorem d_Sto_isGreater_95 : decode b_Sto_isGreater 95 = .ok (.iconst 1, 1) := by decide +kernel
theorem d_Sto_isGreater_96 : decode b_Sto_isGreater 96 = .ok (.iload 5, 2) := by decide +kernel
theorem d_Sto_isGreater_98 : decode b_Sto_isGreater 98 = .ok (.ishl, 1) := by decide +kernel
theorem d_Sto_isGreater_99 : decode b_Sto_isGreater 99 = .ok (.iconst (-1), 1) := by decide +kernel
theorem d_Sto_isGreater_100 : decode b_Sto_isGreater 100 = .ok (.ixor, 1) := by decide +kernel
theorem d_Sto_isGreater_101 : decode b_Sto_isGreater 101 = .ok (.iand, 1) := by decide +kernel
theorem d_Sto_isGreater_102 : decode b_Sto_isGreater 102 = .ok (.istore_n 3, 1) := by decide +kernel
theorem d_Sto_isGreater_103 : decode b_Sto_isGreater 103 = .ok (.iload 4, 2) := by decide +kernel
theorem d_Sto_isGreater_105 : decode b_Sto_isGreater 105 = .ok (.iconst 1, 1) := by decide +kernel
theorem d_Sto_isGreater_106 : decode b_Sto_isGreater 106 = .ok (.iload 6, 2) := by decide +kernel
theorem d_Sto_isGreater_108 : decode b_Sto_isGreater 108 = .ok (.ishl, 1) := by decide +kernel
theorem d_Sto_isGreater_109 : decode b_Sto_isGreater 109 = .ok (.iconst (-1), 1) := by decide +kernel
theorem d_Sto_isGreater_110 : decode b_Sto_isGreater 110 = .ok (.ixor, 1) := by decide +kernel
theorem d_Sto_isGreater_111 : decode b_Sto_isGreater 111 = .ok (.iand, 1) := by decide +kernel
theorem d_Sto_isGreater_112 : decode b_Sto_isGreater 112 = .ok (.istore 4, 2) := by decide +kernel
theorem d_Sto_isGreater_114 : decode b_Sto_isGreater 114 = .ok (.iinc 6 1, 3) := by decide +kernel
theorem d_Sto_isGreater_117 : decode b_Sto_isGreater 117 = .ok (.goto (-100), 3) := by decide +kernel
theorem d_Sto_isGreater_120 : decode b_Sto_isGreater 120 = .ok (.iinc 5 1, 3) := by decide +kernel
theorem d_Sto_isGreater_123 : decode b_Sto_isGreater 123 = .ok (.goto (-115), 3) := by decide +kernel
theorem d_Sto_isGreater_126 : decode b_Sto_isGreater 126 = .ok (.iconst 0, 1) := by decide +kernel
theorem d_Sto_isGreater_127 : decode b_Sto_isGreater 127 = .ok (.istore 5, 2) := by decide +kernel
theorem d_Sto_isGreater_129 : decode b_Sto_isGreater 129 = .ok (.iload 5, 2) := by decide +kernel
theorem d_Sto_isGreater_131 : decode b_Sto_isGreater 131 = .ok (.iconst 2, 1) := by decide +kernel
theorem d_Sto_isGreater_132 : decode b_Sto_isGreater 132 = .ok (.if_icmp .ge 108, 3) := by decide +kernel
theorem d_Sto_isGreater_135 : decode b_Sto_isGreater 135 = .ok (.iload 4, 2) := by decide +kernel
theorem d_Sto_isGreater_137 : decode b_Sto_isGreater 137 = .ok (.iload 5, 2) := by decide +kernel
theorem d_Sto_isGreater_139 : decode b_Sto_isGreater 139 = .ok (.ishr, 1) := by decide +kernel
theorem d_Sto_isGreater_140 : decode b_Sto_isGreater 140 = .ok (.iconst 1, 1) := by decide +kernel
theorem d_Sto_isGreater_141 : decode b_Sto_isGreater 141 = .ok (.iand, 1) := by decide +kernel
theorem d_Sto_isGreater_142 : decode b_Sto_isGreater 142 = .ok (.ifCond .ne 7, 3) := by decide +kernel
theorem d_Sto_isGreater_145 : decode b_Sto_isGreater 145 = .ok (.iconst 1, 1) := by decide +kernel
theorem d_Sto_isGreater_146 : decode b_Sto_isGreater 146 = .ok (.goto 4, 3) := by decide +kernel
theorem d_Sto_isGreater_149 : decode b_Sto_isGreater 149 = .ok (.iconst 0, 1) := by decide +kernel
theorem d_Sto_isGreater_150 : decode b_Sto_isGreater 150 = .ok (.istore 6, 2) := by decide +kernel
theorem d_Sto_isGreater_152 : decode b_Sto_isGreater 152 = .ok (.iconst 0, 1) := by decide +kernel
theorem d_Sto_isGreater_153 : decode b_Sto_isGreater 153 = .ok (.istore 7, 2) := by decide +kernel
theorem d_Sto_isGreater_155 : decode b_Sto_isGreater 155 = .ok (.iload 7, 2) := by decide +kernel
theorem d_Sto_isGreater_157 : decode b_Sto_isGreater 157 = .ok (.iconst 2, 1) := by decide +kernel
theorem d_Sto_isGreater_158 : decode b_Sto_isGreater 158 = .ok (.if_icmp .ge 69, 3) := by decide +kernel
theorem d_Sto_isGreater_161 : decode b_Sto_isGreater 161 = .ok (.iload 6, 2) := by decide +kernel
theorem d_Sto_isGreater_163 : decode b_Sto_isGreater 163 = .ok (.ifCond .ne 64, 3) := by decide +kernel
theorem d_Sto_isGreater_166 : decode b_Sto_isGreater 166 = .ok (.iload_n 3, 1) := by decide +kernel
theorem d_Sto_isGreater_167 : decode b_Sto_isGreater 167 = .ok (.iload 7, 2) := by decide +kernel
theorem d_Sto_isGreater_169 : decode b_Sto_isGreater 169 = .ok (.ishr, 1) := by decide +kernel
theorem d_Sto_isGreater_170 : decode b_Sto_isGreater 170 = .ok (.iconst 1, 1) := by decide +kernel
theorem d_Sto_isGreater_171 : decode b_Sto_isGreater 171 = .ok (.iand, 1) := by decide +kernel
theorem d_Sto_isGreater_172 : decode b_Sto_isGreater 172 = .ok (.iconst 1, 1) := by decide +kernel
theorem d_Sto_isGreater_173 : decode b_Sto_isGreater 173 = .ok (.if_icmp .ne 45, 3) := by decide +kernel
theorem d_Sto_isGreater_176 : decode b_Sto_isGreater 176 = .ok (.aload_n 0, 1) := by decide +kernel
theorem d_Sto_isGreater_177 : decode b_Sto_isGreater 177 = .ok (.getfield 26, 3) := by decide +kernel
theorem d_Sto_isGreater_180 : decode b_Sto_isGreater 180 = .ok (.aload_n 0, 1) := by decide +kernel
theorem d_Sto_isGreater_181 : decode b_Sto_isGreater 181 = .ok (.getfield 14, 3) := by decide +kernel
theorem d_Sto_isGreater_184 : decode b_Sto_isGreater 184 = .ok (.getfield 38, 3) := by decide +kernel
theorem d_Sto_isGreater_187 : decode b_Sto_isGreater 187 = .ok (.aload_n 0, 1) := by decide +kernel
theorem d_Sto_isGreater_188 : decode b_Sto_isGreater 188 = .ok (.iload_n 1, 1) := by decide +kernel
theorem d_Sto_isGreater_189 : decode b_Sto_isGreater 189 = .ok (.iload 7, 2) := by decide +kernel
theorem d_Sto_isGreater_191 : decode b_Sto_isGreater 191 = .ok (.invokevirtual 80, 3) := by decide +kernel
theorem d_Sto_isGreater_194 : decode b_Sto_isGreater 194 = .ok (.aload_n 0, 1) := by decide +kernel
theorem d_Sto_isGreater_195 : decode b_Sto_isGreater 195 = .ok (.getfield 14, 3) := by decide +kernel
theorem d_Sto_isGreater_198 : decode b_Sto_isGreater 198 = .ok (.getfield 38, 3) := by decide +kernel
theorem d_Sto_isGreater_201 : decode b_Sto_isGreater 201 = .ok (.aload_n 0, 1) := by decide +kernel
theorem d_Sto_isGreater_202 : decode b_Sto_isGreater 202 = .ok (.iload_n 2, 1) := by decide +kernel
theorem d_Sto_isGreater_203 : decode b_Sto_isGreater 203 = .ok (.iload 5, 2) := by decide +kernel
theorem d_Sto_isGreater_205 : decode b_Sto_isGreater 205 = .ok (.invokevirtual 80, 3) := by decide +kernel
theorem d_Sto_isGreater_208 : decode b_Sto_isGreater 208 = .ok (.invokevirtual 87, 3) := by decide +kernel
theorem d_Sto_isGreater_211 : decode b_Sto_isGreater 211 = .ok (.ifCond .eq 7, 3) := by decide +kernel
theorem d_Sto_isGreater_214 : decode b_Sto_isGreater 214 = .ok (.iconst 1, 1) := by decide +kernel
theorem d_Sto_isGreater_215 : decode b_Sto_isGreater 215 = .ok (.goto 4, 3) := by decide +kernel
theorem d_Sto_isGreater_218 : decode b_Sto_isGreater 218 = .ok (.iconst 0, 1) := by decide +kernel
theorem d_Sto_isGreater_219 : decode b_Sto_isGreater 219 = .ok (.istore 6, 2) := by decide +kernel
theorem d_Sto_isGreater_221 : decode b_Sto_isGreater 221 = .ok (.iinc 7 1, 3) := by decide +kernel
theorem d_Sto_isGreater_224 : decode b_Sto_isGreater 224 = .ok (.goto (-69), 3) := by decide +kernel
theorem d_Sto_isGreater_227 : decode b_Sto_isGreater 227 = .ok (.iload 6, 2) := by decide +kernel
theorem d_Sto_isGreater_229 : decode b_Sto_isGreater 229 = .ok (.ifCond .ne 5, 3) := by decide +kernel
theorem d_Sto_isGreater_232 : decode b_Sto_isGreater 232 = .ok (.iconst 0, 1) := by decide +kernel
theorem d_Sto_isGreater_233 : decode b_Sto_isGreater 233 = .ok (.ireturn, 1) := by decide +kernel
theorem d_Sto_isGreater_234 : decode b_Sto_isGreater 234 = .ok (.iinc 5 1, 3) := by decide +kernel
theorem d_Sto_isGreater_237 : decode b_Sto_isGreater 237 = .ok (.goto (-108), 3) := by decide +kernel
theorem d_Sto_isGreater_240 : decode b_Sto_isGreater 240 = .ok (.iload_n 3, 1) := by decide +kernel
theorem d_Sto_isGreater_241 : decode b_Sto_isGreater 241 = .ok (.ifCond .eq 7, 3) := by decide +kernel
theorem d_Sto_isGreater_244 : decode b_Sto_isGreater 244 = .ok (.iconst 1, 1) := by decide +kernel
theorem d_Sto_isGreater_245 : decode b_Sto_isGreater 245 = .ok (.goto 4, 3) := by decide +kernel
theorem d_Sto_isGreater_248 : decode b_Sto_isGreater 248 = .ok (.iconst 0, 1) := by decide +kernel
theorem d_Sto_isGreater_249 : decode b_Sto_isGreater 249 = .ok (.ireturn, 1) := by decide +kernel
abbrev b_Sto_isPositive : ByteArray := prog_9_method_12_code
def y_Sto_isPositive : MethodName := ⟨"ClauseProver$Store", "isPositive", "(I)Z"⟩
theorem d_Sto_isPositive_0 : decode b_Sto_isPositive 0 = .ok (.aload_n 0, 1) := by decide +kernel
theorem d_Sto_isPositive_1 : decode b_Sto_isPositive 1 = .ok (.getfield 14, 3) := by decide +kernel
theorem d_Sto_isPositive_4 : decode b_Sto_isPositive 4 = .ok (.getfield 38, 3) := by decide +kernel
theorem d_Sto_isPositive_7 : decode b_Sto_isPositive 7 = .ok (.iload_n 1, 1) := by decide +kernel
theorem d_Sto_isPositive_8 : decode b_Sto_isPositive 8 = .ok (.iconst 0, 1) := by decide +kernel
theorem d_Sto_isPositive_9 : decode b_Sto_isPositive 9 = .ok (.iadd, 1) := by decide +kernel
theorem d_Sto_isPositive_10 : decode b_Sto_isPositive 10 = .ok (.iaload, 1) := by decide +kernel
theorem d_Sto_isPositive_11 : decode b_Sto_isPositive 11 = .ok (.iconst 1, 1) := by decide +kernel
theorem d_Sto_isPositive_12 : decode b_Sto_isPositive 12 = .ok (.if_icmp .ne 7, 3) := by decide +kernel
theorem d_Sto_isPositive_15 : decode b_Sto_isPositive 15 = .ok (.iconst 1, 1) := by decide +kernel
theorem d_Sto_isPositive_16 : decode b_Sto_isPositive 16 = .ok (.goto 4, 3) := by decide +kernel
theorem d_Sto_isPositive_19 : decode b_Sto_isPositive 19 = .ok (.iconst 0, 1) := by decide +kernel
theorem d_Sto_isPositive_20 : decode b_Sto_isPositive 20 = .ok (.ireturn, 1) := by decide +kernel
abbrev b_Sto_isTopmost : ByteArray := prog_9_method_17_code
def y_Sto_isTopmost : MethodName := ⟨"ClauseProver$Store", "isTopmost", "(II)Z"⟩
theorem d_Sto_isTopmost_0 : decode b_Sto_isTopmost 0 = .ok (.aload_n 0, 1) := by decide +kernel
theorem d_Sto_isTopmost_1 : decode b_Sto_isTopmost 1 = .ok (.iload_n 1, 1) := by decide +kernel
theorem d_Sto_isTopmost_2 : decode b_Sto_isTopmost 2 = .ok (.bipush 8, 2) := by decide +kernel
theorem d_Sto_isTopmost_4 : decode b_Sto_isTopmost 4 = .ok (.invokevirtual 42, 3) := by decide +kernel
theorem d_Sto_isTopmost_7 : decode b_Sto_isTopmost 7 = .ok (.istore_n 3, 1) := by decide +kernel
theorem d_Sto_isTopmost_8 : decode b_Sto_isTopmost 8 = .ok (.iconst 0, 1) := by decide +kernel
theorem d_Sto_isTopmost_9 : decode b_Sto_isTopmost 9 = .ok (.istore 4, 2) := by decide +kernel
theorem d_Sto_isTopmost_11 : decode b_Sto_isTopmost 11 = .ok (.iload 4, 2) := by decide +kernel
theorem d_Sto_isTopmost_13 : decode b_Sto_isTopmost 13 = .ok (.aload_n 0, 1) := by decide +kernel
theorem d_Sto_isTopmost_14 : decode b_Sto_isTopmost 14 = .ok (.iload_n 1, 1) := by decide +kernel
theorem d_Sto_isTopmost_15 : decode b_Sto_isTopmost 15 = .ok (.iconst 3, 1) := by decide +kernel
theorem d_Sto_isTopmost_16 : decode b_Sto_isTopmost 16 = .ok (.invokevirtual 42, 3) := by decide +kernel
theorem d_Sto_isTopmost_19 : decode b_Sto_isTopmost 19 = .ok (.if_icmp .ge 31, 3) := by decide +kernel
theorem d_Sto_isTopmost_22 : decode b_Sto_isTopmost 22 = .ok (.iload_n 3, 1) := by decide +kernel
theorem d_Sto_isTopmost_23 : decode b_Sto_isTopmost 23 = .ok (.iload_n 2, 1) := by decide +kernel
theorem d_Sto_isTopmost_24 : decode b_Sto_isTopmost 24 = .ok (.if_icmp .eq 14, 3) := by decide +kernel
theorem d_Sto_isTopmost_27 : decode b_Sto_isTopmost 27 = .ok (.aload_n 0, 1) := by decide +kernel
theorem d_Sto_isTopmost_28 : decode b_Sto_isTopmost 28 = .ok (.iload_n 3, 1) := by decide +kernel
theorem d_Sto_isTopmost_29 : decode b_Sto_isTopmost 29 = .ok (.iload_n 2, 1) := by decide +kernel
theorem d_Sto_isTopmost_30 : decode b_Sto_isTopmost 30 = .ok (.invokevirtual 97, 3) := by decide +kernel
theorem d_Sto_isTopmost_33 : decode b_Sto_isTopmost 33 = .ok (.ifCond .eq 5, 3) := by decide +kernel
theorem d_Sto_isTopmost_36 : decode b_Sto_isTopmost 36 = .ok (.iconst 0, 1) := by decide +kernel
theorem d_Sto_isTopmost_37 : decode b_Sto_isTopmost 37 = .ok (.ireturn, 1) := by decide +kernel
theorem d_Sto_isTopmost_38 : decode b_Sto_isTopmost 38 = .ok (.aload_n 0, 1) := by decide +kernel
theorem d_Sto_isTopmost_39 : decode b_Sto_isTopmost 39 = .ok (.iload_n 3, 1) := by decide +kernel
theorem d_Sto_isTopmost_40 : decode b_Sto_isTopmost 40 = .ok (.invokevirtual 73, 3) := by decide +kernel
theorem d_Sto_isTopmost_43 : decode b_Sto_isTopmost 43 = .ok (.istore_n 3, 1) := by decide +kernel
theorem d_Sto_isTopmost_44 : decode b_Sto_isTopmost 44 = .ok (.iinc 4 1, 3) := by decide +kernel
theorem d_Sto_isTopmost_47 : decode b_Sto_isTopmost 47 = .ok (.goto (-36), 3) := by decide +kernel
theorem d_Sto_isTopmost_50 : decode b_Sto_isTopmost 50 = .ok (.iconst 1, 1) := by decide +kernel
theorem d_Sto_isTopmost_51 : decode b_Sto_isTopmost 51 = .ok (.ireturn, 1) := by decide +kernel
abbrev b_Sto_isUsable : ByteArray := prog_9_method_14_code
def y_Sto_isUsable : MethodName := ⟨"ClauseProver$Store", "isUsable", "(II)Z"⟩
theorem d_Sto_isUsable_0 : decode b_Sto_isUsable 0 = .ok (.aload_n 0, 1) := by decide +kernel
theorem d_Sto_isUsable_1 : decode b_Sto_isUsable 1 = .ok (.getfield 14, 3) := by decide +kernel
theorem d_Sto_isUsable_4 : decode b_Sto_isUsable 4 = .ok (.getfield 38, 3) := by decide +kernel
theorem d_Sto_isUsable_7 : decode b_Sto_isUsable 7 = .ok (.iload_n 1, 1) := by decide +kernel
theorem d_Sto_isUsable_8 : decode b_Sto_isUsable 8 = .ok (.iconst 1, 1) := by decide +kernel
theorem d_Sto_isUsable_9 : decode b_Sto_isUsable 9 = .ok (.iadd, 1) := by decide +kernel
theorem d_Sto_isUsable_10 : decode b_Sto_isUsable 10 = .ok (.iaload, 1) := by decide +kernel
theorem d_Sto_isUsable_11 : decode b_Sto_isUsable 11 = .ok (.istore_n 3, 1) := by decide +kernel
theorem d_Sto_isUsable_12 : decode b_Sto_isUsable 12 = .ok (.iload_n 3, 1) := by decide +kernel
theorem d_Sto_isUsable_13 : decode b_Sto_isUsable 13 = .ok (.ifCond .eq 10, 3) := by decide +kernel
theorem d_Sto_isUsable_16 : decode b_Sto_isUsable 16 = .ok (.iload_n 3, 1) := by decide +kernel
theorem d_Sto_isUsable_17 : decode b_Sto_isUsable 17 = .ok (.iload_n 2, 1) := by decide +kernel
theorem d_Sto_isUsable_18 : decode b_Sto_isUsable 18 = .ok (.iconst 1, 1) := by decide +kernel
theorem d_Sto_isUsable_19 : decode b_Sto_isUsable 19 = .ok (.iadd, 1) := by decide +kernel
theorem d_Sto_isUsable_20 : decode b_Sto_isUsable 20 = .ok (.if_icmp .ne 7, 3) := by decide +kernel
theorem d_Sto_isUsable_23 : decode b_Sto_isUsable 23 = .ok (.iconst 1, 1) := by decide +kernel
theorem d_Sto_isUsable_24 : decode b_Sto_isUsable 24 = .ok (.goto 4, 3) := by decide +kernel
theorem d_Sto_isUsable_27 : decode b_Sto_isUsable 27 = .ok (.iconst 0, 1) := by decide +kernel
theorem d_Sto_isUsable_28 : decode b_Sto_isUsable 28 = .ok (.ireturn, 1) := by decide +kernel
abbrev b_Sto_judge : ByteArray := prog_9_method_15_code
def y_Sto_judge : MethodName := ⟨"ClauseProver$Store", "judge", "(I)V"⟩
theorem d_Sto_judge_0 : decode b_Sto_judge 0 = .ok (.aload_n 0, 1) := by decide +kernel
theorem d_Sto_judge_1 : decode b_Sto_judge 1 = .ok (.iload_n 1, 1) := by decide +kernel
theorem d_Sto_judge_2 : decode b_Sto_judge 2 = .ok (.invokevirtual 77, 3) := by decide +kernel
theorem d_Sto_judge_5 : decode b_Sto_judge 5 = .ok (.istore_n 2, 1) := by decide +kernel
theorem d_Sto_judge_6 : decode b_Sto_judge 6 = .ok (.aload_n 0, 1) := by decide +kernel
theorem d_Sto_judge_7 : decode b_Sto_judge 7 = .ok (.iload_n 1, 1) := by decide +kernel
theorem d_Sto_judge_8 : decode b_Sto_judge 8 = .ok (.bipush 8, 2) := by decide +kernel
theorem d_Sto_judge_10 : decode b_Sto_judge 10 = .ok (.invokevirtual 42, 3) := by decide +kernel
theorem d_Sto_judge_13 : decode b_Sto_judge 13 = .ok (.istore_n 3, 1) := by decide +kernel
theorem d_Sto_judge_14 : decode b_Sto_judge 14 = .ok (.iconst 0, 1) := by decide +kernel
theorem d_Sto_judge_15 : decode b_Sto_judge 15 = .ok (.istore 4, 2) := by decide +kernel
theorem d_Sto_judge_17 : decode b_Sto_judge 17 = .ok (.iload 4, 2) := by decide +kernel
theorem d_Sto_judge_19 : decode b_Sto_judge 19 = .ok (.aload_n 0, 1) := by decide +kernel
theorem d_Sto_judge_20 : decode b_Sto_judge 20 = .ok (.iload_n 1, 1) := by decide +kernel
theorem d_Sto_judge_21 : decode b_Sto_judge 21 = .ok (.iconst 3, 1) := by decide +kernel
theorem d_Sto_judge_22 : decode b_Sto_judge 22 = .ok (.invokevirtual 42, 3) := by decide +kernel
theorem d_Sto_judge_25 : decode b_Sto_judge 25 = .ok (.if_icmp .ge 154, 3) := by decide +kernel
theorem d_Sto_judge_28 : decode b_Sto_judge 28 = .ok (.aload_n 0, 1) := by decide +kernel
theorem d_Sto_judge_29 : decode b_Sto_judge 29 = .ok (.iload_n 3, 1) := by decide +kernel
theorem d_Sto_judge_30 : decode b_Sto_judge 30 = .ok (.iconst 0, 1) := by decide +kernel
theorem d_Sto_judge_31 : decode b_Sto_judge 31 = .ok (.invokevirtual 80, 3) := by decide +kernel
theorem d_Sto_judge_34 : decode b_Sto_judge 34 = .ok (.istore 5, 2) := by decide +kernel
theorem d_Sto_judge_36 : decode b_Sto_judge 36 = .ok (.aload_n 0, 1) := by decide +kernel
theorem d_Sto_judge_37 : decode b_Sto_judge 37 = .ok (.iload_n 3, 1) := by decide +kernel
theorem d_Sto_judge_38 : decode b_Sto_judge 38 = .ok (.iconst 1, 1) := by decide +kernel
theorem d_Sto_judge_39 : decode b_Sto_judge 39 = .ok (.invokevirtual 80, 3) := by decide +kernel
theorem d_Sto_judge_42 : decode b_Sto_judge 42 = .ok (.istore 6, 2) := by decide +kernel
theorem d_Sto_judge_44 : decode b_Sto_judge 44 = .ok (.iload_n 2, 1) := by decide +kernel
theorem d_Sto_judge_45 : decode b_Sto_judge 45 = .ok (.iconst (-1), 1) := by decide +kernel
theorem d_Sto_judge_46 : decode b_Sto_judge 46 = .ok (.if_icmp .ne 12, 3) := by decide +kernel
theorem d_Sto_judge_49 : decode b_Sto_judge 49 = .ok (.aload_n 0, 1) := by decide +kernel
theorem d_Sto_judge_50 : decode b_Sto_judge 50 = .ok (.iload_n 1, 1) := by decide +kernel
theorem d_Sto_judge_51 : decode b_Sto_judge 51 = .ok (.iload_n 3, 1) := by decide +kernel
theorem d_Sto_judge_52 : decode b_Sto_judge 52 = .ok (.invokevirtual 83, 3) := by decide +kernel
theorem d_Sto_judge_55 : decode b_Sto_judge 55 = .ok (.goto 13, 3) := by decide +kernel
theorem d_Sto_judge_58 : decode b_Sto_judge 58 = .ok (.iload_n 2, 1) := by decide +kernel
theorem d_Sto_judge_59 : decode b_Sto_judge 59 = .ok (.iload_n 3, 1) := by decide +kernel
theorem d_Sto_judge_60 : decode b_Sto_judge 60 = .ok (.if_icmp .ne 7, 3) := by decide +kernel
theorem d_Sto_judge_63 : decode b_Sto_judge 63 = .ok (.iconst 1, 1) := by decide +kernel
theorem d_Sto_judge_64 : decode b_Sto_judge 64 = .ok (.goto 4, 3) := by decide +kernel
theorem d_Sto_judge_67 : decode b_Sto_judge 67 = .ok (.iconst 0, 1) := by decide +kernel
theorem d_Sto_judge_68 : decode b_Sto_judge 68 = .ok (.istore 7, 2) := by decide +kernel
theorem d_Sto_judge_70 : decode b_Sto_judge 70 = .ok (.aload_n 0, 1) := by decide +kernel
theorem d_Sto_judge_71 : decode b_Sto_judge 71 = .ok (.getfield 14, 3) := by decide +kernel
theorem d_Sto_judge_74 : decode b_Sto_judge 74 = .ok (.getfield 38, 3) := by decide +kernel
theorem d_Sto_judge_77 : decode b_Sto_judge 77 = .ok (.iload_n 3, 1) := by decide +kernel
theorem d_Sto_judge_78 : decode b_Sto_judge 78 = .ok (.iconst 1, 1) := by decide +kernel
theorem d_Sto_judge_79 : decode b_Sto_judge 79 = .ok (.iadd, 1) := by decide +kernel
theorem d_Sto_judge_80 : decode b_Sto_judge 80 = .ok (.aload_n 0, 1) := by decide +kernel
theorem d_Sto_judge_81 : decode b_Sto_judge 81 = .ok (.getfield 26, 3) := by decide +kernel
theorem d_Sto_judge_84 : decode b_Sto_judge 84 = .ok (.aload_n 0, 1) := by decide +kernel
theorem d_Sto_judge_85 : decode b_Sto_judge 85 = .ok (.getfield 14, 3) := by decide +kernel
theorem d_Sto_judge_88 : decode b_Sto_judge 88 = .ok (.getfield 38, 3) := by decide +kernel
theorem d_Sto_judge_91 : decode b_Sto_judge 91 = .ok (.iload 5, 2) := by decide +kernel
theorem d_Sto_judge_93 : decode b_Sto_judge 93 = .ok (.aload_n 0, 1) := by decide +kernel
theorem d_Sto_judge_94 : decode b_Sto_judge 94 = .ok (.getfield 14, 3) := by decide +kernel
theorem d_Sto_judge_97 : decode b_Sto_judge 97 = .ok (.getfield 38, 3) := by decide +kernel
theorem d_Sto_judge_100 : decode b_Sto_judge 100 = .ok (.iload 6, 2) := by decide +kernel
theorem d_Sto_judge_102 : decode b_Sto_judge 102 = .ok (.invokevirtual 87, 3) := by decide +kernel
theorem d_Sto_judge_105 : decode b_Sto_judge 105 = .ok (.ifCond .eq 7, 3) := by decide +kernel
theorem d_Sto_judge_108 : decode b_Sto_judge 108 = .ok (.iconst 1, 1) := by decide +kernel
theorem d_Sto_judge_109 : decode b_Sto_judge 109 = .ok (.goto 36, 3) := by decide +kernel
theorem d_Sto_judge_112 : decode b_Sto_judge 112 = .ok (.aload_n 0, 1) := by decide +kernel
theorem d_Sto_judge_113 : decode b_Sto_judge 113 = .ok (.getfield 26, 3) := by decide +kernel
theorem d_Sto_judge_116 : decode b_Sto_judge 116 = .ok (.aload_n 0, 1) := by decide +kernel
theorem d_Sto_judge_117 : decode b_Sto_judge 117 = .ok (.getfield 14, 3) := by decide +kernel
theorem d_Sto_judge_120 : decode b_Sto_judge 120 = .ok (.getfield 38, 3) := by decide +kernel
theorem d_Sto_judge_123 : decode b_Sto_judge 123 = .ok (.iload 6, 2) := by decide +kernel
theorem d_Sto_judge_125 : decode b_Sto_judge 125 = .ok (.aload_n 0, 1) := by decide +kernel
theorem d_Sto_judge_126 : decode b_Sto_judge 126 = .ok (.getfield 14, 3) := by decide +kernel
theorem d_Sto_judge_129 : decode b_Sto_judge 129 = .ok (.getfield 38, 3) := by decide +kernel
theorem d_Sto_judge_132 : decode b_Sto_judge 132 = .ok (.iload 5, 2) := by decide +kernel
theorem d_Sto_judge_134 : decode b_Sto_judge 134 = .ok (.invokevirtual 87, 3) := by decide +kernel
theorem d_Sto_judge_137 : decode b_Sto_judge 137 = .ok (.ifCond .eq 7, 3) := by decide +kernel
theorem d_Sto_judge_140 : decode b_Sto_judge 140 = .ok (.iconst 2, 1) := by decide +kernel
theorem d_Sto_judge_141 : decode b_Sto_judge 141 = .ok (.goto 4, 3) := by decide +kernel
theorem d_Sto_judge_144 : decode b_Sto_judge 144 = .ok (.iconst 0, 1) := by decide +kernel
theorem d_Sto_judge_145 : decode b_Sto_judge 145 = .ok (.iastore, 1) := by decide +kernel
theorem d_Sto_judge_146 : decode b_Sto_judge 146 = .ok (.aload_n 0, 1) := by decide +kernel
theorem d_Sto_judge_147 : decode b_Sto_judge 147 = .ok (.getfield 14, 3) := by decide +kernel
theorem d_Sto_judge_150 : decode b_Sto_judge 150 = .ok (.getfield 38, 3) := by decide +kernel
theorem d_Sto_judge_153 : decode b_Sto_judge 153 = .ok (.iload_n 3, 1) := by decide +kernel
theorem d_Sto_judge_154 : decode b_Sto_judge 154 = .ok (.iconst 2, 1) := by decide +kernel
theorem d_Sto_judge_155 : decode b_Sto_judge 155 = .ok (.iadd, 1) := by decide +kernel
theorem d_Sto_judge_156 : decode b_Sto_judge 156 = .ok (.iload 7, 2) := by decide +kernel
theorem d_Sto_judge_158 : decode b_Sto_judge 158 = .ok (.ifCond .eq 7, 3) := by decide +kernel
theorem d_Sto_judge_161 : decode b_Sto_judge 161 = .ok (.iconst 1, 1) := by decide +kernel
theorem d_Sto_judge_162 : decode b_Sto_judge 162 = .ok (.goto 4, 3) := by decide +kernel
theorem d_Sto_judge_165 : decode b_Sto_judge 165 = .ok (.iconst 0, 1) := by decide +kernel
theorem d_Sto_judge_166 : decode b_Sto_judge 166 = .ok (.iastore, 1) := by decide +kernel
theorem d_Sto_judge_167 : decode b_Sto_judge 167 = .ok (.aload_n 0, 1) := by decide +kernel
theorem d_Sto_judge_168 : decode b_Sto_judge 168 = .ok (.iload_n 3, 1) := by decide +kernel
theorem d_Sto_judge_169 : decode b_Sto_judge 169 = .ok (.invokevirtual 73, 3) := by decide +kernel
theorem d_Sto_judge_172 : decode b_Sto_judge 172 = .ok (.istore_n 3, 1) := by decide +kernel
theorem d_Sto_judge_173 : decode b_Sto_judge 173 = .ok (.iinc 4 1, 3) := by decide +kernel
theorem d_Sto_judge_176 : decode b_Sto_judge 176 = .ok (.goto (-159), 3) := by decide +kernel
theorem d_Sto_judge_179 : decode b_Sto_judge 179 = .ok (.return_, 1) := by decide +kernel
abbrev b_Sto_selectedOf : ByteArray := prog_9_method_16_code
def y_Sto_selectedOf : MethodName := ⟨"ClauseProver$Store", "selectedOf", "(I)I"⟩
theorem d_Sto_selectedOf_0 : decode b_Sto_selectedOf 0 = .ok (.iconst (-1), 1) := by decide +kernel
theorem d_Sto_selectedOf_1 : decode b_Sto_selectedOf 1 = .ok (.istore_n 2, 1) := by decide +kernel
theorem d_Sto_selectedOf_2 : decode b_Sto_selectedOf 2 = .ok (.iconst 0, 1) := by decide +kernel
theorem d_Sto_selectedOf_3 : decode b_Sto_selectedOf 3 = .ok (.istore_n 3, 1) := by decide +kernel
theorem d_Sto_selectedOf_4 : decode b_Sto_selectedOf 4 = .ok (.aload_n 0, 1) := by decide +kernel
theorem d_Sto_selectedOf_5 : decode b_Sto_selectedOf 5 = .ok (.iload_n 1, 1) := by decide +kernel
theorem d_Sto_selectedOf_6 : decode b_Sto_selectedOf 6 = .ok (.bipush 8, 2) := by decide +kernel
theorem d_Sto_selectedOf_8 : decode b_Sto_selectedOf 8 = .ok (.invokevirtual 42, 3) := by decide +kernel
theorem d_Sto_selectedOf_11 : decode b_Sto_selectedOf 11 = .ok (.istore 4, 2) := by decide +kernel
theorem d_Sto_selectedOf_13 : decode b_Sto_selectedOf 13 = .ok (.iconst 0, 1) := by decide +kernel
theorem d_Sto_selectedOf_14 : decode b_Sto_selectedOf 14 = .ok (.istore 5, 2) := by decide +kernel
theorem d_Sto_selectedOf_16 : decode b_Sto_selectedOf 16 = .ok (.iload 5, 2) := by decide +kernel
theorem d_Sto_selectedOf_18 : decode b_Sto_selectedOf 18 = .ok (.aload_n 0, 1) := by decide +kernel
theorem d_Sto_selectedOf_19 : decode b_Sto_selectedOf 19 = .ok (.iload_n 1, 1) := by decide +kernel
theorem d_Sto_selectedOf_20 : decode b_Sto_selectedOf 20 = .ok (.iconst 3, 1) := by decide +kernel
theorem d_Sto_selectedOf_21 : decode b_Sto_selectedOf 21 = .ok (.invokevirtual 42, 3) := by decide +kernel
theorem d_Sto_selectedOf_24 : decode b_Sto_selectedOf 24 = .ok (.if_icmp .ge 65, 3) := by decide +kernel
theorem d_Sto_selectedOf_27 : decode b_Sto_selectedOf 27 = .ok (.aload_n 0, 1) := by decide +kernel
theorem d_Sto_selectedOf_28 : decode b_Sto_selectedOf 28 = .ok (.getfield 14, 3) := by decide +kernel
theorem d_Sto_selectedOf_31 : decode b_Sto_selectedOf 31 = .ok (.getfield 38, 3) := by decide +kernel
theorem d_Sto_selectedOf_34 : decode b_Sto_selectedOf 34 = .ok (.iload 4, 2) := by decide +kernel
theorem d_Sto_selectedOf_36 : decode b_Sto_selectedOf 36 = .ok (.iconst 3, 1) := by decide +kernel
theorem d_Sto_selectedOf_37 : decode b_Sto_selectedOf 37 = .ok (.iadd, 1) := by decide +kernel
theorem d_Sto_selectedOf_38 : decode b_Sto_selectedOf 38 = .ok (.iaload, 1) := by decide +kernel
theorem d_Sto_selectedOf_39 : decode b_Sto_selectedOf 39 = .ok (.aload_n 0, 1) := by decide +kernel
theorem d_Sto_selectedOf_40 : decode b_Sto_selectedOf 40 = .ok (.getfield 14, 3) := by decide +kernel
theorem d_Sto_selectedOf_43 : decode b_Sto_selectedOf 43 = .ok (.getfield 38, 3) := by decide +kernel
theorem d_Sto_selectedOf_46 : decode b_Sto_selectedOf 46 = .ok (.iload 4, 2) := by decide +kernel
theorem d_Sto_selectedOf_48 : decode b_Sto_selectedOf 48 = .ok (.iconst 4, 1) := by decide +kernel
theorem d_Sto_selectedOf_49 : decode b_Sto_selectedOf 49 = .ok (.iadd, 1) := by decide +kernel
theorem d_Sto_selectedOf_50 : decode b_Sto_selectedOf 50 = .ok (.iaload, 1) := by decide +kernel
theorem d_Sto_selectedOf_51 : decode b_Sto_selectedOf 51 = .ok (.iadd, 1) := by decide +kernel
theorem d_Sto_selectedOf_52 : decode b_Sto_selectedOf 52 = .ok (.istore 6, 2) := by decide +kernel
theorem d_Sto_selectedOf_54 : decode b_Sto_selectedOf 54 = .ok (.aload_n 0, 1) := by decide +kernel
theorem d_Sto_selectedOf_55 : decode b_Sto_selectedOf 55 = .ok (.iload 4, 2) := by decide +kernel
theorem d_Sto_selectedOf_57 : decode b_Sto_selectedOf 57 = .ok (.invokevirtual 93, 3) := by decide +kernel
theorem d_Sto_selectedOf_60 : decode b_Sto_selectedOf 60 = .ok (.ifCond .ne 15, 3) := by decide +kernel
theorem d_Sto_selectedOf_63 : decode b_Sto_selectedOf 63 = .ok (.iload 6, 2) := by decide +kernel
theorem d_Sto_selectedOf_65 : decode b_Sto_selectedOf 65 = .ok (.iload_n 3, 1) := by decide +kernel
theorem d_Sto_selectedOf_66 : decode b_Sto_selectedOf 66 = .ok (.if_icmp .le 9, 3) := by decide +kernel
theorem d_Sto_selectedOf_69 : decode b_Sto_selectedOf 69 = .ok (.iload 4, 2) := by decide +kernel
theorem d_Sto_selectedOf_71 : decode b_Sto_selectedOf 71 = .ok (.istore_n 2, 1) := by decide +kernel
theorem d_Sto_selectedOf_72 : decode b_Sto_selectedOf 72 = .ok (.iload 6, 2) := by decide +kernel
theorem d_Sto_selectedOf_74 : decode b_Sto_selectedOf 74 = .ok (.istore_n 3, 1) := by decide +kernel
theorem d_Sto_selectedOf_75 : decode b_Sto_selectedOf 75 = .ok (.aload_n 0, 1) := by decide +kernel
theorem d_Sto_selectedOf_76 : decode b_Sto_selectedOf 76 = .ok (.iload 4, 2) := by decide +kernel
theorem d_Sto_selectedOf_78 : decode b_Sto_selectedOf 78 = .ok (.invokevirtual 73, 3) := by decide +kernel
theorem d_Sto_selectedOf_81 : decode b_Sto_selectedOf 81 = .ok (.istore 4, 2) := by decide +kernel
theorem d_Sto_selectedOf_83 : decode b_Sto_selectedOf 83 = .ok (.iinc 5 1, 3) := by decide +kernel
theorem d_Sto_selectedOf_86 : decode b_Sto_selectedOf 86 = .ok (.goto (-70), 3) := by decide +kernel
theorem d_Sto_selectedOf_89 : decode b_Sto_selectedOf 89 = .ok (.iload_n 2, 1) := by decide +kernel
theorem d_Sto_selectedOf_90 : decode b_Sto_selectedOf 90 = .ok (.ireturn, 1) := by decide +kernel
abbrev b_Sto_setFact : ByteArray := prog_9_method_5_code
def y_Sto_setFact : MethodName := ⟨"ClauseProver$Store", "setFact", "(III)V"⟩
theorem d_Sto_setFact_0 : decode b_Sto_setFact 0 = .ok (.aload_n 0, 1) := by decide +kernel
theorem d_Sto_setFact_1 : decode b_Sto_setFact 1 = .ok (.getfield 23, 3) := by decide +kernel
theorem d_Sto_setFact_4 : decode b_Sto_setFact 4 = .ok (.getfield 38, 3) := by decide +kernel
theorem d_Sto_setFact_7 : decode b_Sto_setFact 7 = .ok (.iload_n 1, 1) := by decide +kernel
theorem d_Sto_setFact_8 : decode b_Sto_setFact 8 = .ok (.bipush 11, 2) := by decide +kernel
theorem d_Sto_setFact_10 : decode b_Sto_setFact 10 = .ok (.imul, 1) := by decide +kernel
theorem d_Sto_setFact_11 : decode b_Sto_setFact 11 = .ok (.iload_n 2, 1) := by decide +kernel
theorem d_Sto_setFact_12 : decode b_Sto_setFact 12 = .ok (.iadd, 1) := by decide +kernel
theorem d_Sto_setFact_13 : decode b_Sto_setFact 13 = .ok (.iload_n 3, 1) := by decide +kernel
theorem d_Sto_setFact_14 : decode b_Sto_setFact 14 = .ok (.iastore, 1) := by decide +kernel
theorem d_Sto_setFact_15 : decode b_Sto_setFact 15 = .ok (.return_, 1) := by decide +kernel
abbrev b_Sto_sideAt : ByteArray := prog_9_method_10_code
def y_Sto_sideAt : MethodName := ⟨"ClauseProver$Store", "sideAt", "(II)I"⟩
theorem d_Sto_sideAt_0 : decode b_Sto_sideAt 0 = .ok (.iload_n 1, 1) := by decide +kernel
theorem d_Sto_sideAt_1 : decode b_Sto_sideAt 1 = .ok (.iconst 5, 1) := by decide +kernel
theorem d_Sto_sideAt_2 : decode b_Sto_sideAt 2 = .ok (.iadd, 1) := by decide +kernel
theorem d_Sto_sideAt_3 : decode b_Sto_sideAt 3 = .ok (.iload_n 2, 1) := by decide +kernel
theorem d_Sto_sideAt_4 : decode b_Sto_sideAt 4 = .ok (.ifCond .ne 7, 3) := by decide +kernel
theorem d_Sto_sideAt_7 : decode b_Sto_sideAt 7 = .ok (.iconst 0, 1) := by decide +kernel
theorem d_Sto_sideAt_8 : decode b_Sto_sideAt 8 = .ok (.goto 14, 3) := by decide +kernel
theorem d_Sto_sideAt_11 : decode b_Sto_sideAt 11 = .ok (.aload_n 0, 1) := by decide +kernel
theorem d_Sto_sideAt_12 : decode b_Sto_sideAt 12 = .ok (.getfield 14, 3) := by decide +kernel
theorem d_Sto_sideAt_15 : decode b_Sto_sideAt 15 = .ok (.getfield 38, 3) := by decide +kernel
theorem d_Sto_sideAt_18 : decode b_Sto_sideAt 18 = .ok (.iload_n 1, 1) := by decide +kernel
theorem d_Sto_sideAt_19 : decode b_Sto_sideAt 19 = .ok (.iconst 3, 1) := by decide +kernel
theorem d_Sto_sideAt_20 : decode b_Sto_sideAt 20 = .ok (.iadd, 1) := by decide +kernel
theorem d_Sto_sideAt_21 : decode b_Sto_sideAt 21 = .ok (.iaload, 1) := by decide +kernel
theorem d_Sto_sideAt_22 : decode b_Sto_sideAt 22 = .ok (.iadd, 1) := by decide +kernel
theorem d_Sto_sideAt_23 : decode b_Sto_sideAt 23 = .ok (.ireturn, 1) := by decide +kernel
abbrev b_Sto_sideSize : ByteArray := prog_9_method_11_code
def y_Sto_sideSize : MethodName := ⟨"ClauseProver$Store", "sideSize", "(II)I"⟩
theorem d_Sto_sideSize_0 : decode b_Sto_sideSize 0 = .ok (.aload_n 0, 1) := by decide +kernel
theorem d_Sto_sideSize_1 : decode b_Sto_sideSize 1 = .ok (.getfield 14, 3) := by decide +kernel
theorem d_Sto_sideSize_4 : decode b_Sto_sideSize 4 = .ok (.getfield 38, 3) := by decide +kernel
theorem d_Sto_sideSize_7 : decode b_Sto_sideSize 7 = .ok (.iload_n 1, 1) := by decide +kernel
theorem d_Sto_sideSize_8 : decode b_Sto_sideSize 8 = .ok (.iload_n 2, 1) := by decide +kernel
theorem d_Sto_sideSize_9 : decode b_Sto_sideSize 9 = .ok (.ifCond .ne 7, 3) := by decide +kernel
theorem d_Sto_sideSize_12 : decode b_Sto_sideSize 12 = .ok (.iconst 3, 1) := by decide +kernel
theorem d_Sto_sideSize_13 : decode b_Sto_sideSize 13 = .ok (.goto 4, 3) := by decide +kernel
theorem d_Sto_sideSize_16 : decode b_Sto_sideSize 16 = .ok (.iconst 4, 1) := by decide +kernel
theorem d_Sto_sideSize_17 : decode b_Sto_sideSize 17 = .ok (.iadd, 1) := by decide +kernel
theorem d_Sto_sideSize_18 : decode b_Sto_sideSize 18 = .ok (.iaload, 1) := by decide +kernel
theorem d_Sto_sideSize_19 : decode b_Sto_sideSize 19 = .ok (.ireturn, 1) := by decide +kernel
abbrev b_Sym_addWitness : ByteArray := prog_10_method_5_code
def y_Sym_addWitness : MethodName := ⟨"ClauseProver$Symbols", "addWitness", "(I)I"⟩
theorem d_Sym_addWitness_0 : decode b_Sym_addWitness 0 = .ok (.aload_n 0, 1) := by decide +kernel
theorem d_Sym_addWitness_1 : decode b_Sym_addWitness 1 = .ok (.getfield 36, 3) := by decide +kernel
theorem d_Sym_addWitness_4 : decode b_Sym_addWitness 4 = .ok (.sipush 551, 3) := by decide +kernel
theorem d_Sym_addWitness_7 : decode b_Sym_addWitness 7 = .ok (.if_icmp .ne 5, 3) := by decide +kernel
theorem d_Sym_addWitness_10 : decode b_Sym_addWitness 10 = .ok (.iconst (-1), 1) := by decide +kernel
theorem d_Sym_addWitness_11 : decode b_Sym_addWitness 11 = .ok (.ireturn, 1) := by decide +kernel
theorem d_Sym_addWitness_12 : decode b_Sym_addWitness 12 = .ok (.aload_n 0, 1) := by decide +kernel
theorem d_Sym_addWitness_13 : decode b_Sym_addWitness 13 = .ok (.getfield 30, 3) := by decide +kernel
theorem d_Sym_addWitness_16 : decode b_Sym_addWitness 16 = .ok (.aload_n 0, 1) := by decide +kernel
theorem d_Sym_addWitness_17 : decode b_Sym_addWitness 17 = .ok (.getfield 36, 3) := by decide +kernel
theorem d_Sym_addWitness_20 : decode b_Sym_addWitness 20 = .ok (.iconst 2, 1) := by decide +kernel
theorem d_Sym_addWitness_21 : decode b_Sym_addWitness 21 = .ok (.iastore, 1) := by decide +kernel
theorem d_Sym_addWitness_22 : decode b_Sym_addWitness 22 = .ok (.aload_n 0, 1) := by decide +kernel
theorem d_Sym_addWitness_23 : decode b_Sym_addWitness 23 = .ok (.getfield 9, 3) := by decide +kernel
theorem d_Sym_addWitness_26 : decode b_Sym_addWitness 26 = .ok (.aload_n 0, 1) := by decide +kernel
theorem d_Sym_addWitness_27 : decode b_Sym_addWitness 27 = .ok (.getfield 36, 3) := by decide +kernel
theorem d_Sym_addWitness_30 : decode b_Sym_addWitness 30 = .ok (.iload_n 1, 1) := by decide +kernel
theorem d_Sym_addWitness_31 : decode b_Sym_addWitness 31 = .ok (.iastore, 1) := by decide +kernel
theorem d_Sym_addWitness_32 : decode b_Sym_addWitness 32 = .ok (.aload_n 0, 1) := by decide +kernel
theorem d_Sym_addWitness_33 : decode b_Sym_addWitness 33 = .ok (.dup, 1) := by decide +kernel
theorem d_Sym_addWitness_34 : decode b_Sym_addWitness 34 = .ok (.getfield 36, 3) := by decide +kernel
theorem d_Sym_addWitness_37 : decode b_Sym_addWitness 37 = .ok (.dup_x1, 1) := by decide +kernel
theorem d_Sym_addWitness_38 : decode b_Sym_addWitness 38 = .ok (.iconst 1, 1) := by decide +kernel
theorem d_Sym_addWitness_39 : decode b_Sym_addWitness 39 = .ok (.iadd, 1) := by decide +kernel
theorem d_Sym_addWitness_40 : decode b_Sym_addWitness 40 = .ok (.putfield 36, 3) := by decide +kernel
theorem d_Sym_addWitness_43 : decode b_Sym_addWitness 43 = .ok (.ireturn, 1) := by decide +kernel
abbrev b_Sym_after : ByteArray := prog_10_method_8_code
def y_Sym_after : MethodName := ⟨"ClauseProver$Symbols", "after", "([II)I"⟩
theorem d_Sym_after_0 : decode b_Sym_after 0 = .ok (.iconst 1, 1) := by decide +kernel
theorem d_Sym_after_1 : decode b_Sym_after 1 = .ok (.istore_n 3, 1) := by decide +kernel
theorem d_Sym_after_2 : decode b_Sym_after 2 = .ok (.iload_n 2, 1) := by decide +kernel
theorem d_Sym_after_3 : decode b_Sym_after 3 = .ok (.istore 4, 2) := by decide +kernel
theorem d_Sym_after_5 : decode b_Sym_after 5 = .ok (.iload 4, 2) := by decide +kernel
theorem d_Sym_after_7 : decode b_Sym_after 7 = .ok (.aload_n 1, 1) := by decide +kernel
theorem d_Sym_after_8 : decode b_Sym_after 8 = .ok (.arraylength, 1) := by decide +kernel
theorem d_Sym_after_9 : decode b_Sym_after 9 = .ok (.if_icmp .ge 38, 3) := by decide +kernel
theorem d_Sym_after_12 : decode b_Sym_after 12 = .ok (.iload_n 3, 1) := by decide +kernel
theorem d_Sym_after_13 : decode b_Sym_after 13 = .ok (.ifCond .le 34, 3) := by decide +kernel
theorem d_Sym_after_16 : decode b_Sym_after 16 = .ok (.iload_n 3, 1) := by decide +kernel
theorem d_Sym_after_17 : decode b_Sym_after 17 = .ok (.aload_n 1, 1) := by decide +kernel
theorem d_Sym_after_18 : decode b_Sym_after 18 = .ok (.iload 4, 2) := by decide +kernel
theorem d_Sym_after_20 : decode b_Sym_after 20 = .ok (.iaload, 1) := by decide +kernel
theorem d_Sym_after_21 : decode b_Sym_after 21 = .ok (.ifCond .ge 7, 3) := by decide +kernel
theorem d_Sym_after_24 : decode b_Sym_after 24 = .ok (.iconst (-1), 1) := by decide +kernel
theorem d_Sym_after_25 : decode b_Sym_after 25 = .ok (.goto 14, 3) := by decide +kernel
theorem d_Sym_after_28 : decode b_Sym_after 28 = .ok (.aload_n 0, 1) := by decide +kernel
theorem d_Sym_after_29 : decode b_Sym_after 29 = .ok (.getfield 9, 3) := by decide +kernel
theorem d_Sym_after_32 : decode b_Sym_after 32 = .ok (.aload_n 1, 1) := by decide +kernel
theorem d_Sym_after_33 : decode b_Sym_after 33 = .ok (.iload 4, 2) := by decide +kernel
theorem d_Sym_after_35 : decode b_Sym_after 35 = .ok (.iaload, 1) := by decide +kernel
theorem d_Sym_after_36 : decode b_Sym_after 36 = .ok (.iaload, 1) := by decide +kernel
theorem d_Sym_after_37 : decode b_Sym_after 37 = .ok (.iconst 1, 1) := by decide +kernel
theorem d_Sym_after_38 : decode b_Sym_after 38 = .ok (.isub, 1) := by decide +kernel
theorem d_Sym_after_39 : decode b_Sym_after 39 = .ok (.iadd, 1) := by decide +kernel
theorem d_Sym_after_40 : decode b_Sym_after 40 = .ok (.istore_n 3, 1) := by decide +kernel
theorem d_Sym_after_41 : decode b_Sym_after 41 = .ok (.iinc 4 1, 3) := by decide +kernel
theorem d_Sym_after_44 : decode b_Sym_after 44 = .ok (.goto (-39), 3) := by decide +kernel
theorem d_Sym_after_47 : decode b_Sym_after 47 = .ok (.iload 4, 2) := by decide +kernel
theorem d_Sym_after_49 : decode b_Sym_after 49 = .ok (.ireturn, 1) := by decide +kernel
abbrev b_Sym_clear : ByteArray := prog_10_method_2_code
def y_Sym_clear : MethodName := ⟨"ClauseProver$Symbols", "clear", "()V"⟩
theorem d_Sym_clear_0 : decode b_Sym_clear 0 = .ok (.aload_n 0, 1) := by decide +kernel
theorem d_Sym_clear_1 : decode b_Sym_clear 1 = .ok (.iconst 0, 1) := by decide +kernel
theorem d_Sym_clear_2 : decode b_Sym_clear 2 = .ok (.putfield 40, 3) := by decide +kernel
theorem d_Sym_clear_5 : decode b_Sym_clear 5 = .ok (.aload_n 0, 1) := by decide +kernel
theorem d_Sym_clear_6 : decode b_Sym_clear 6 = .ok (.iconst 1, 1) := by decide +kernel
theorem d_Sym_clear_7 : decode b_Sym_clear 7 = .ok (.putfield 36, 3) := by decide +kernel
theorem d_Sym_clear_10 : decode b_Sym_clear 10 = .ok (.aload_n 0, 1) := by decide +kernel
theorem d_Sym_clear_11 : decode b_Sym_clear 11 = .ok (.getfield 26, 3) := by decide +kernel
theorem d_Sym_clear_14 : decode b_Sym_clear 14 = .ok (.iconst 0, 1) := by decide +kernel
theorem d_Sym_clear_15 : decode b_Sym_clear 15 = .ok (.putfield 43, 3) := by decide +kernel
theorem d_Sym_clear_18 : decode b_Sym_clear 18 = .ok (.return_, 1) := by decide +kernel
abbrev b_Sym_greater : ByteArray := prog_10_method_10_code
def y_Sym_greater : MethodName := ⟨"ClauseProver$Symbols", "greater", "([II[II)Z"⟩
theorem d_Sym_greater_0 : decode b_Sym_greater 0 = .ok (.iload_n 2, 1) := by decide +kernel
theorem d_Sym_greater_1 : decode b_Sym_greater 1 = .ok (.istore 5, 2) := by decide +kernel
theorem d_Sym_greater_3 : decode b_Sym_greater 3 = .ok (.iload 4, 2) := by decide +kernel
theorem d_Sym_greater_5 : decode b_Sym_greater 5 = .ok (.istore 6, 2) := by decide +kernel
theorem d_Sym_greater_7 : decode b_Sym_greater 7 = .ok (.iconst 0, 1) := by decide +kernel
theorem d_Sym_greater_8 : decode b_Sym_greater 8 = .ok (.istore 7, 2) := by decide +kernel
theorem d_Sym_greater_10 : decode b_Sym_greater 10 = .ok (.iload 7, 2) := by decide +kernel
theorem d_Sym_greater_12 : decode b_Sym_greater 12 = .ok (.bipush 100, 2) := by decide +kernel
theorem d_Sym_greater_14 : decode b_Sym_greater 14 = .ok (.if_icmp .gt 138, 3) := by decide +kernel
theorem d_Sym_greater_17 : decode b_Sym_greater 17 = .ok (.aload_n 0, 1) := by decide +kernel
theorem d_Sym_greater_18 : decode b_Sym_greater 18 = .ok (.aload_n 1, 1) := by decide +kernel
theorem d_Sym_greater_19 : decode b_Sym_greater 19 = .ok (.iload 5, 2) := by decide +kernel
theorem d_Sym_greater_21 : decode b_Sym_greater 21 = .ok (.invokevirtual 59, 3) := by decide +kernel
theorem d_Sym_greater_24 : decode b_Sym_greater 24 = .ok (.iload 5, 2) := by decide +kernel
theorem d_Sym_greater_26 : decode b_Sym_greater 26 = .ok (.isub, 1) := by decide +kernel
theorem d_Sym_greater_27 : decode b_Sym_greater 27 = .ok (.istore 8, 2) := by decide +kernel
theorem d_Sym_greater_29 : decode b_Sym_greater 29 = .ok (.aload_n 0, 1) := by decide +kernel
theorem d_Sym_greater_30 : decode b_Sym_greater 30 = .ok (.aload_n 3, 1) := by decide +kernel
theorem d_Sym_greater_31 : decode b_Sym_greater 31 = .ok (.iload 6, 2) := by decide +kernel
theorem d_Sym_greater_33 : decode b_Sym_greater 33 = .ok (.invokevirtual 59, 3) := by decide +kernel
theorem d_Sym_greater_36 : decode b_Sym_greater 36 = .ok (.iload 6, 2) := by decide +kernel
theorem d_Sym_greater_38 : decode b_Sym_greater 38 = .ok (.isub, 1) := by decide +kernel
theorem d_Sym_greater_39 : decode b_Sym_greater 39 = .ok (.istore 9, 2) := by decide +kernel
theorem d_Sym_greater_41 : decode b_Sym_greater 41 = .ok (.aload_n 1, 1) := by decide +kernel
theorem d_Sym_greater_42 : decode b_Sym_greater 42 = .ok (.iload 5, 2) := by decide +kernel
theorem d_Sym_greater_44 : decode b_Sym_greater 44 = .ok (.iaload, 1) := by decide +kernel
theorem d_Sym_greater_45 : decode b_Sym_greater 45 = .ok (.ifCond .lt 27, 3) := by decide +kernel
theorem d_Sym_greater_48 : decode b_Sym_greater 48 = .ok (.iload 8, 2) := by decide +kernel
theorem d_Sym_greater_50 : decode b_Sym_greater 50 = .ok (.iload 9, 2) := by decide +kernel
theorem d_Sym_greater_52 : decode b_Sym_greater 52 = .ok (.if_icmp .lt 20, 3) := by decide +kernel
theorem d_Sym_greater_55 : decode b_Sym_greater 55 = .ok (.aload_n 0, 1) := by decide +kernel
theorem d_Sym_greater_56 : decode b_Sym_greater 56 = .ok (.aload_n 1, 1) := by decide +kernel
theorem d_Sym_greater_57 : decode b_Sym_greater 57 = .ok (.iload 5, 2) := by decide +kernel
theorem d_Sym_greater_59 : decode b_Sym_greater 59 = .ok (.iload 8, 2) := by decide +kernel
theorem d_Sym_greater_61 : decode b_Sym_greater 61 = .ok (.aload_n 3, 1) := by decide +kernel
theorem d_Sym_greater_62 : decode b_Sym_greater 62 = .ok (.iload 6, 2) := by decide +kernel
theorem d_Sym_greater_64 : decode b_Sym_greater 64 = .ok (.iload 9, 2) := by decide +kernel
theorem d_Sym_greater_66 : decode b_Sym_greater 66 = .ok (.invokevirtual 63, 3) := by decide +kernel
theorem d_Sym_greater_69 : decode b_Sym_greater 69 = .ok (.ifCond .ne 5, 3) := by decide +kernel
theorem d_Sym_greater_72 : decode b_Sym_greater 72 = .ok (.iconst 0, 1) := by decide +kernel
theorem d_Sym_greater_73 : decode b_Sym_greater 73 = .ok (.ireturn, 1) := by decide +kernel
theorem d_Sym_greater_74 : decode b_Sym_greater 74 = .ok (.iload 8, 2) := by decide +kernel
theorem d_Sym_greater_76 : decode b_Sym_greater 76 = .ok (.iload 9, 2) := by decide +kernel
theorem d_Sym_greater_78 : decode b_Sym_greater 78 = .ok (.if_icmp .le 5, 3) := by decide +kernel
theorem d_Sym_greater_81 : decode b_Sym_greater 81 = .ok (.iconst 1, 1) := by decide +kernel
theorem d_Sym_greater_82 : decode b_Sym_greater 82 = .ok (.ireturn, 1) := by decide +kernel
theorem d_Sym_greater_83 : decode b_Sym_greater 83 = .ok (.aload_n 1, 1) := by decide +kernel
theorem d_Sym_greater_84 : decode b_Sym_greater 84 = .ok (.iload 5, 2) := by decide +kernel
theorem d_Sym_greater_86 : decode b_Sym_greater 86 = .ok (.iaload, 1) := by decide +kernel
theorem d_Sym_greater_87 : decode b_Sym_greater 87 = .ok (.aload_n 3, 1) := by decide +kernel
theorem d_Sym_greater_88 : decode b_Sym_greater 88 = .ok (.iload 6, 2) := by decide +kernel
theorem d_Sym_greater_90 : decode b_Sym_greater 90 = .ok (.iaload, 1) := by decide +kernel
theorem d_Sym_greater_91 : decode b_Sym_greater 91 = .ok (.if_icmp .eq 20, 3) := by decide +kernel
theorem d_Sym_greater_94 : decode b_Sym_greater 94 = .ok (.aload_n 1, 1) := by decide +kernel
theorem d_Sym_greater_95 : decode b_Sym_greater 95 = .ok (.iload 5, 2) := by decide +kernel
theorem d_Sym_greater_97 : decode b_Sym_greater 97 = .ok (.iaload, 1) := by decide +kernel
theorem d_Sym_greater_98 : decode b_Sym_greater 98 = .ok (.aload_n 3, 1) := by decide +kernel
theorem d_Sym_greater_99 : decode b_Sym_greater 99 = .ok (.iload 6, 2) := by decide +kernel
theorem d_Sym_greater_101 : decode b_Sym_greater 101 = .ok (.iaload, 1) := by decide +kernel
theorem d_Sym_greater_102 : decode b_Sym_greater 102 = .ok (.if_icmp .le 7, 3) := by decide +kernel
theorem d_Sym_greater_105 : decode b_Sym_greater 105 = .ok (.iconst 1, 1) := by decide +kernel
theorem d_Sym_greater_106 : decode b_Sym_greater 106 = .ok (.goto 4, 3) := by decide +kernel
theorem d_Sym_greater_109 : decode b_Sym_greater 109 = .ok (.iconst 0, 1) := by decide +kernel
theorem d_Sym_greater_110 : decode b_Sym_greater 110 = .ok (.ireturn, 1) := by decide +kernel
theorem d_Sym_greater_111 : decode b_Sym_greater 111 = .ok (.aload_n 0, 1) := by decide +kernel
theorem d_Sym_greater_112 : decode b_Sym_greater 112 = .ok (.aload_n 1, 1) := by decide +kernel
theorem d_Sym_greater_113 : decode b_Sym_greater 113 = .ok (.iload 5, 2) := by decide +kernel
theorem d_Sym_greater_115 : decode b_Sym_greater 115 = .ok (.aload_n 3, 1) := by decide +kernel
theorem d_Sym_greater_116 : decode b_Sym_greater 116 = .ok (.iload 6, 2) := by decide +kernel
theorem d_Sym_greater_118 : decode b_Sym_greater 118 = .ok (.iload 8, 2) := by decide +kernel
theorem d_Sym_greater_120 : decode b_Sym_greater 120 = .ok (.invokevirtual 67, 3) := by decide +kernel
theorem d_Sym_greater_123 : decode b_Sym_greater 123 = .ok (.istore 10, 2) := by decide +kernel
theorem d_Sym_greater_125 : decode b_Sym_greater 125 = .ok (.iload 10, 2) := by decide +kernel
theorem d_Sym_greater_127 : decode b_Sym_greater 127 = .ok (.ifCond .ne 5, 3) := by decide +kernel
theorem d_Sym_greater_130 : decode b_Sym_greater 130 = .ok (.iconst 0, 1) := by decide +kernel
theorem d_Sym_greater_131 : decode b_Sym_greater 131 = .ok (.ireturn, 1) := by decide +kernel
theorem d_Sym_greater_132 : decode b_Sym_greater 132 = .ok (.iload 5, 2) := by decide +kernel
theorem d_Sym_greater_134 : decode b_Sym_greater 134 = .ok (.iload 10, 2) := by decide +kernel
theorem d_Sym_greater_136 : decode b_Sym_greater 136 = .ok (.iadd, 1) := by decide +kernel
theorem d_Sym_greater_137 : decode b_Sym_greater 137 = .ok (.istore 5, 2) := by decide +kernel
theorem d_Sym_greater_139 : decode b_Sym_greater 139 = .ok (.iload 6, 2) := by decide +kernel
theorem d_Sym_greater_141 : decode b_Sym_greater 141 = .ok (.iload 10, 2) := by decide +kernel
theorem d_Sym_greater_143 : decode b_Sym_greater 143 = .ok (.iadd, 1) := by decide +kernel
theorem d_Sym_greater_144 : decode b_Sym_greater 144 = .ok (.istore 6, 2) := by decide +kernel
theorem d_Sym_greater_146 : decode b_Sym_greater 146 = .ok (.iinc 7 1, 3) := by decide +kernel
theorem d_Sym_greater_149 : decode b_Sym_greater 149 = .ok (.goto (-139), 3) := by decide +kernel
theorem d_Sym_greater_152 : decode b_Sym_greater 152 = .ok (.iconst 0, 1) := by decide +kernel
theorem d_Sym_greater_153 : decode b_Sym_greater 153 = .ok (.ireturn, 1) := by decide +kernel
abbrev b_Sym_hasAllVariables : ByteArray := prog_10_method_11_code
def y_Sym_hasAllVariables : MethodName := ⟨"ClauseProver$Symbols", "hasAllVariables", "([III[III)Z"⟩
theorem d_Sym_hasAllVariables_0 : decode b_Sym_hasAllVariables 0 = .ok (.aload_n 0, 1) := by decide +kernel
theorem d_Sym_hasAllVariables_1 : decode b_Sym_hasAllVariables 1 = .ok (.getfield 33, 3) := by decide +kernel
theorem d_Sym_hasAllVariables_4 : decode b_Sym_hasAllVariables 4 = .ok (.iconst 0, 1) := by decide +kernel
theorem d_Sym_hasAllVariables_5 : decode b_Sym_hasAllVariables 5 = .ok (.invokestatic 71, 3) := by decide +kernel
theorem d_Sym_hasAllVariables_8 : decode b_Sym_hasAllVariables 8 = .ok (.iload_n 2, 1) := by decide +kernel
theorem d_Sym_hasAllVariables_9 : decode b_Sym_hasAllVariables 9 = .ok (.istore 7, 2) := by decide +kernel
theorem d_Sym_hasAllVariables_11 : decode b_Sym_hasAllVariables 11 = .ok (.iload 7, 2) := by decide +kernel
theorem d_Sym_hasAllVariables_13 : decode b_Sym_hasAllVariables 13 = .ok (.iload_n 2, 1) := by decide +kernel
theorem d_Sym_hasAllVariables_14 : decode b_Sym_hasAllVariables 14 = .ok (.iload_n 3, 1) := by decide +kernel
theorem d_Sym_hasAllVariables_15 : decode b_Sym_hasAllVariables 15 = .ok (.iadd, 1) := by decide +kernel
theorem d_Sym_hasAllVariables_16 : decode b_Sym_hasAllVariables 16 = .ok (.if_icmp .ge 31, 3) := by decide +kernel
theorem d_Sym_hasAllVariables_19 : decode b_Sym_hasAllVariables 19 = .ok (.aload_n 1, 1) := by decide +kernel
theorem d_Sym_hasAllVariables_20 : decode b_Sym_hasAllVariables 20 = .ok (.iload 7, 2) := by decide +kernel
theorem d_Sym_hasAllVariables_22 : decode b_Sym_hasAllVariables 22 = .ok (.iaload, 1) := by decide +kernel
theorem d_Sym_hasAllVariables_23 : decode b_Sym_hasAllVariables 23 = .ok (.ifCond .ge 18, 3) := by decide +kernel
theorem d_Sym_hasAllVariables_26 : decode b_Sym_hasAllVariables 26 = .ok (.aload_n 0, 1) := by decide +kernel
theorem d_Sym_hasAllVariables_27 : decode b_Sym_hasAllVariables 27 = .ok (.getfield 33, 3) := by decide +kernel
theorem d_Sym_hasAllVariables_30 : decode b_Sym_hasAllVariables 30 = .ok (.aload_n 1, 1) := by decide +kernel
theorem d_Sym_hasAllVariables_31 : decode b_Sym_hasAllVariables 31 = .ok (.iload 7, 2) := by decide +kernel
theorem d_Sym_hasAllVariables_33 : decode b_Sym_hasAllVariables 33 = .ok (.iaload, 1) := by decide +kernel
theorem d_Sym_hasAllVariables_34 : decode b_Sym_hasAllVariables 34 = .ok (.iconst (-1), 1) := by decide +kernel
theorem d_Sym_hasAllVariables_35 : decode b_Sym_hasAllVariables 35 = .ok (.ixor, 1) := by decide +kernel
theorem d_Sym_hasAllVariables_36 : decode b_Sym_hasAllVariables 36 = .ok (.dup2, 1) := by decide +kernel
theorem d_Sym_hasAllVariables_37 : decode b_Sym_hasAllVariables 37 = .ok (.iaload, 1) := by decide +kernel
theorem d_Sym_hasAllVariables_38 : decode b_Sym_hasAllVariables 38 = .ok (.iconst 1, 1) := by decide +kernel
theorem d_Sym_hasAllVariables_39 : decode b_Sym_hasAllVariables 39 = .ok (.iadd, 1) := by decide +kernel
theorem d_Sym_hasAllVariables_40 : decode b_Sym_hasAllVariables 40 = .ok (.iastore, 1) := by decide +kernel
theorem d_Sym_hasAllVariables_41 : decode b_Sym_hasAllVariables 41 = .ok (.iinc 7 1, 3) := by decide +kernel
theorem d_Sym_hasAllVariables_44 : decode b_Sym_hasAllVariables 44 = .ok (.goto (-33), 3) := by decide +kernel
theorem d_Sym_hasAllVariables_47 : decode b_Sym_hasAllVariables 47 = .ok (.iload 5, 2) := by decide +kernel
theorem d_Sym_hasAllVariables_49 : decode b_Sym_hasAllVariables 49 = .ok (.istore 7, 2) := by decide +kernel
theorem d_Sym_hasAllVariables_51 : decode b_Sym_hasAllVariables 51 = .ok (.iload 7, 2) := by decide +kernel
theorem d_Sym_hasAllVariables_53 : decode b_Sym_hasAllVariables 53 = .ok (.iload 5, 2) := by decide +kernel
theorem d_Sym_hasAllVariables_55 : decode b_Sym_hasAllVariables 55 = .ok (.iload 6, 2) := by decide +kernel
theorem d_Sym_hasAllVariables_57 : decode b_Sym_hasAllVariables 57 = .ok (.iadd, 1) := by decide +kernel
theorem d_Sym_hasAllVariables_58 : decode b_Sym_hasAllVariables 58 = .ok (.if_icmp .ge 39, 3) := by decide +kernel
theorem d_Sym_hasAllVariables_61 : decode b_Sym_hasAllVariables 61 = .ok (.aload 4, 2) := by decide +kernel
theorem d_Sym_hasAllVariables_63 : decode b_Sym_hasAllVariables 63 = .ok (.iload 7, 2) := by decide +kernel
theorem d_Sym_hasAllVariables_65 : decode b_Sym_hasAllVariables 65 = .ok (.iaload, 1) := by decide +kernel
theorem d_Sym_hasAllVariables_66 : decode b_Sym_hasAllVariables 66 = .ok (.ifCond .ge 25, 3) := by decide +kernel
theorem d_Sym_hasAllVariables_69 : decode b_Sym_hasAllVariables 69 = .ok (.aload_n 0, 1) := by decide +kernel
theorem d_Sym_hasAllVariables_70 : decode b_Sym_hasAllVariables 70 = .ok (.getfield 33, 3) := by decide +kernel
theorem d_Sym_hasAllVariables_73 : decode b_Sym_hasAllVariables 73 = .ok (.aload 4, 2) := by decide +kernel
theorem d_Sym_hasAllVariables_75 : decode b_Sym_hasAllVariables 75 = .ok (.iload 7, 2) := by decide +kernel
theorem d_Sym_hasAllVariables_77 : decode b_Sym_hasAllVariables 77 = .ok (.iaload, 1) := by decide +kernel
theorem d_Sym_hasAllVariables_78 : decode b_Sym_hasAllVariables 78 = .ok (.iconst (-1), 1) := by decide +kernel
theorem d_Sym_hasAllVariables_79 : decode b_Sym_hasAllVariables 79 = .ok (.ixor, 1) := by decide +kernel
theorem d_Sym_hasAllVariables_80 : decode b_Sym_hasAllVariables 80 = .ok (.dup2, 1) := by decide +kernel
theorem d_Sym_hasAllVariables_81 : decode b_Sym_hasAllVariables 81 = .ok (.iaload, 1) := by decide +kernel
theorem d_Sym_hasAllVariables_82 : decode b_Sym_hasAllVariables 82 = .ok (.iconst 1, 1) := by decide +kernel
theorem d_Sym_hasAllVariables_83 : decode b_Sym_hasAllVariables 83 = .ok (.isub, 1) := by decide +kernel
theorem d_Sym_hasAllVariables_84 : decode b_Sym_hasAllVariables 84 = .ok (.dup_x2, 1) := by decide +kernel
theorem d_Sym_hasAllVariables_85 : decode b_Sym_hasAllVariables 85 = .ok (.iastore, 1) := by decide +kernel
theorem d_Sym_hasAllVariables_86 : decode b_Sym_hasAllVariables 86 = .ok (.ifCond .ge 5, 3) := by decide +kernel
theorem d_Sym_hasAllVariables_89 : decode b_Sym_hasAllVariables 89 = .ok (.iconst 0, 1) := by decide +kernel
theorem d_Sym_hasAllVariables_90 : decode b_Sym_hasAllVariables 90 = .ok (.ireturn, 1) := by decide +kernel
theorem d_Sym_hasAllVariables_91 : decode b_Sym_hasAllVariables 91 = .ok (.iinc 7 1, 3) := by decide +kernel
theorem d_Sym_hasAllVariables_94 : decode b_Sym_hasAllVariables 94 = .ok (.goto (-43), 3) := by decide +kernel
theorem d_Sym_hasAllVariables_97 : decode b_Sym_hasAllVariables 97 = .ok (.iconst 1, 1) := by decide +kernel
theorem d_Sym_hasAllVariables_98 : decode b_Sym_hasAllVariables 98 = .ok (.ireturn, 1) := by decide +kernel
abbrev b_Sym_isPredicate : ByteArray := prog_10_method_6_code
def y_Sym_isPredicate : MethodName := ⟨"ClauseProver$Symbols", "isPredicate", "(I)Z"⟩
theorem d_Sym_isPredicate_0 : decode b_Sym_isPredicate 0 = .ok (.aload_n 0, 1) := by decide +kernel
theorem d_Sym_isPredicate_1 : decode b_Sym_isPredicate 1 = .ok (.getfield 30, 3) := by decide +kernel
theorem d_Sym_isPredicate_4 : decode b_Sym_isPredicate 4 = .ok (.iload_n 1, 1) := by decide +kernel
theorem d_Sym_isPredicate_5 : decode b_Sym_isPredicate 5 = .ok (.iaload, 1) := by decide +kernel
theorem d_Sym_isPredicate_6 : decode b_Sym_isPredicate 6 = .ok (.iconst 1, 1) := by decide +kernel
theorem d_Sym_isPredicate_7 : decode b_Sym_isPredicate 7 = .ok (.if_icmp .ne 7, 3) := by decide +kernel
theorem d_Sym_isPredicate_10 : decode b_Sym_isPredicate 10 = .ok (.iconst 1, 1) := by decide +kernel
theorem d_Sym_isPredicate_11 : decode b_Sym_isPredicate 11 = .ok (.goto 4, 3) := by decide +kernel
theorem d_Sym_isPredicate_14 : decode b_Sym_isPredicate 14 = .ok (.iconst 0, 1) := by decide +kernel
theorem d_Sym_isPredicate_15 : decode b_Sym_isPredicate 15 = .ok (.ireturn, 1) := by decide +kernel
abbrev b_Sym_isWitness : ByteArray := prog_10_method_7_code
def y_Sym_isWitness : MethodName := ⟨"ClauseProver$Symbols", "isWitness", "(I)Z"⟩
theorem d_Sym_isWitness_0 : decode b_Sym_isWitness 0 = .ok (.iload_n 1, 1) := by decide +kernel
theorem d_Sym_isWitness_1 : decode b_Sym_isWitness 1 = .ok (.aload_n 0, 1) := by decide +kernel
theorem d_Sym_isWitness_2 : decode b_Sym_isWitness 2 = .ok (.getfield 40, 3) := by decide +kernel
theorem d_Sym_isWitness_5 : decode b_Sym_isWitness 5 = .ok (.if_icmp .le 7, 3) := by decide +kernel
theorem d_Sym_isWitness_8 : decode b_Sym_isWitness 8 = .ok (.iconst 1, 1) := by decide +kernel
theorem d_Sym_isWitness_9 : decode b_Sym_isWitness 9 = .ok (.goto 4, 3) := by decide +kernel
theorem d_Sym_isWitness_12 : decode b_Sym_isWitness 12 = .ok (.iconst 0, 1) := by decide +kernel
theorem d_Sym_isWitness_13 : decode b_Sym_isWitness 13 = .ok (.ireturn, 1) := by decide +kernel
abbrev b_Sym_same : ByteArray := prog_10_method_9_code
def y_Sym_same : MethodName := ⟨"ClauseProver$Symbols", "same", "([II[II)Z"⟩
theorem d_Sym_same_0 : decode b_Sym_same 0 = .ok (.aload_n 0, 1) := by decide +kernel
theorem d_Sym_same_1 : decode b_Sym_same 1 = .ok (.aload_n 1, 1) := by decide +kernel
theorem d_Sym_same_2 : decode b_Sym_same 2 = .ok (.iload_n 2, 1) := by decide +kernel
theorem d_Sym_same_3 : decode b_Sym_same 3 = .ok (.invokevirtual 59, 3) := by decide +kernel
theorem d_Sym_same_6 : decode b_Sym_same 6 = .ok (.iload_n 2, 1) := by decide +kernel
theorem d_Sym_same_7 : decode b_Sym_same 7 = .ok (.isub, 1) := by decide +kernel
theorem d_Sym_same_8 : decode b_Sym_same 8 = .ok (.istore 5, 2) := by decide +kernel
theorem d_Sym_same_10 : decode b_Sym_same 10 = .ok (.iload 4, 2) := by decide +kernel
theorem d_Sym_same_12 : decode b_Sym_same 12 = .ok (.iload 5, 2) := by decide +kernel
theorem d_Sym_same_14 : decode b_Sym_same 14 = .ok (.iadd, 1) := by decide +kernel
theorem d_Sym_same_15 : decode b_Sym_same 15 = .ok (.aload_n 3, 1) := by decide +kernel
theorem d_Sym_same_16 : decode b_Sym_same 16 = .ok (.arraylength, 1) := by decide +kernel
theorem d_Sym_same_17 : decode b_Sym_same 17 = .ok (.if_icmp .le 5, 3) := by decide +kernel
theorem d_Sym_same_20 : decode b_Sym_same 20 = .ok (.iconst 0, 1) := by decide +kernel
theorem d_Sym_same_21 : decode b_Sym_same 21 = .ok (.ireturn, 1) := by decide +kernel
theorem d_Sym_same_22 : decode b_Sym_same 22 = .ok (.iconst 0, 1) := by decide +kernel
theorem d_Sym_same_23 : decode b_Sym_same 23 = .ok (.istore 6, 2) := by decide +kernel
theorem d_Sym_same_25 : decode b_Sym_same 25 = .ok (.iload 6, 2) := by decide +kernel
theorem d_Sym_same_27 : decode b_Sym_same 27 = .ok (.iload 5, 2) := by decide +kernel
theorem d_Sym_same_29 : decode b_Sym_same 29 = .ok (.if_icmp .ge 27, 3) := by decide +kernel
theorem d_Sym_same_32 : decode b_Sym_same 32 = .ok (.aload_n 1, 1) := by decide +kernel
theorem d_Sym_same_33 : decode b_Sym_same 33 = .ok (.iload_n 2, 1) := by decide +kernel
theorem d_Sym_same_34 : decode b_Sym_same 34 = .ok (.iload 6, 2) := by decide +kernel
theorem d_Sym_same_36 : decode b_Sym_same 36 = .ok (.iadd, 1) := by decide +kernel
theorem d_Sym_same_37 : decode b_Sym_same 37 = .ok (.iaload, 1) := by decide +kernel
theorem d_Sym_same_38 : decode b_Sym_same 38 = .ok (.aload_n 3, 1) := by decide +kernel
theorem d_Sym_same_39 : decode b_Sym_same 39 = .ok (.iload 4, 2) := by decide +kernel
theorem d_Sym_same_41 : decode b_Sym_same 41 = .ok (.iload 6, 2) := by decide +kernel
theorem d_Sym_same_43 : decode b_Sym_same 43 = .ok (.iadd, 1) := by decide +kernel
theorem d_Sym_same_44 : decode b_Sym_same 44 = .ok (.iaload, 1) := by decide +kernel
theorem d_Sym_same_45 : decode b_Sym_same 45 = .ok (.if_icmp .eq 5, 3) := by decide +kernel
theorem d_Sym_same_48 : decode b_Sym_same 48 = .ok (.iconst 0, 1) := by decide +kernel
theorem d_Sym_same_49 : decode b_Sym_same 49 = .ok (.ireturn, 1) := by decide +kernel
theorem d_Sym_same_50 : decode b_Sym_same 50 = .ok (.iinc 6 1, 3) := by decide +kernel
theorem d_Sym_same_53 : decode b_Sym_same 53 = .ok (.goto (-28), 3) := by decide +kernel
theorem d_Sym_same_56 : decode b_Sym_same 56 = .ok (.iconst 1, 1) := by decide +kernel
theorem d_Sym_same_57 : decode b_Sym_same 57 = .ok (.ireturn, 1) := by decide +kernel
abbrev b_Sym_settles : ByteArray := prog_10_method_4_code
def y_Sym_settles : MethodName := ⟨"ClauseProver$Symbols", "settles", "(III)Z"⟩
theorem d_Sym_settles_0 : decode b_Sym_settles 0 = .ok (.aload_n 0, 1) := by decide +kernel
theorem d_Sym_settles_1 : decode b_Sym_settles 1 = .ok (.getfield 30, 3) := by decide +kernel
theorem d_Sym_settles_4 : decode b_Sym_settles 4 = .ok (.iload_n 1, 1) := by decide +kernel
theorem d_Sym_settles_5 : decode b_Sym_settles 5 = .ok (.iaload, 1) := by decide +kernel
theorem d_Sym_settles_6 : decode b_Sym_settles 6 = .ok (.ifCond .ne 17, 3) := by decide +kernel
theorem d_Sym_settles_9 : decode b_Sym_settles 9 = .ok (.aload_n 0, 1) := by decide +kernel
theorem d_Sym_settles_10 : decode b_Sym_settles 10 = .ok (.getfield 30, 3) := by decide +kernel
theorem d_Sym_settles_13 : decode b_Sym_settles 13 = .ok (.iload_n 1, 1) := by decide +kernel
theorem d_Sym_settles_14 : decode b_Sym_settles 14 = .ok (.iload_n 2, 1) := by decide +kernel
theorem d_Sym_settles_15 : decode b_Sym_settles 15 = .ok (.iastore, 1) := by decide +kernel
theorem d_Sym_settles_16 : decode b_Sym_settles 16 = .ok (.aload_n 0, 1) := by decide +kernel
theorem d_Sym_settles_17 : decode b_Sym_settles 17 = .ok (.getfield 9, 3) := by decide +kernel
theorem d_Sym_settles_20 : decode b_Sym_settles 20 = .ok (.iload_n 1, 1) := by decide +kernel
theorem d_Sym_settles_21 : decode b_Sym_settles 21 = .ok (.iload_n 3, 1) := by decide +kernel
theorem d_Sym_settles_22 : decode b_Sym_settles 22 = .ok (.iastore, 1) := by decide +kernel
theorem d_Sym_settles_23 : decode b_Sym_settles 23 = .ok (.aload_n 0, 1) := by decide +kernel
theorem d_Sym_settles_24 : decode b_Sym_settles 24 = .ok (.getfield 30, 3) := by decide +kernel
theorem d_Sym_settles_27 : decode b_Sym_settles 27 = .ok (.iload_n 1, 1) := by decide +kernel
theorem d_Sym_settles_28 : decode b_Sym_settles 28 = .ok (.iaload, 1) := by decide +kernel
theorem d_Sym_settles_29 : decode b_Sym_settles 29 = .ok (.iload_n 2, 1) := by decide +kernel
theorem d_Sym_settles_30 : decode b_Sym_settles 30 = .ok (.if_icmp .ne 17, 3) := by decide +kernel
theorem d_Sym_settles_33 : decode b_Sym_settles 33 = .ok (.aload_n 0, 1) := by decide +kernel
theorem d_Sym_settles_34 : decode b_Sym_settles 34 = .ok (.getfield 9, 3) := by decide +kernel
theorem d_Sym_settles_37 : decode b_Sym_settles 37 = .ok (.iload_n 1, 1) := by decide +kernel
theorem d_Sym_settles_38 : decode b_Sym_settles 38 = .ok (.iaload, 1) := by decide +kernel
theorem d_Sym_settles_39 : decode b_Sym_settles 39 = .ok (.iload_n 3, 1) := by decide +kernel
theorem d_Sym_settles_40 : decode b_Sym_settles 40 = .ok (.if_icmp .ne 7, 3) := by decide +kernel
theorem d_Sym_settles_43 : decode b_Sym_settles 43 = .ok (.iconst 1, 1) := by decide +kernel
theorem d_Sym_settles_44 : decode b_Sym_settles 44 = .ok (.goto 4, 3) := by decide +kernel
theorem d_Sym_settles_47 : decode b_Sym_settles 47 = .ok (.iconst 0, 1) := by decide +kernel
theorem d_Sym_settles_48 : decode b_Sym_settles 48 = .ok (.ireturn, 1) := by decide +kernel
abbrev b_Sym_toDifference : ByteArray := prog_10_method_12_code
def y_Sym_toDifference : MethodName := ⟨"ClauseProver$Symbols", "toDifference", "([II[III)I"⟩
theorem d_Sym_toDifference_0 : decode b_Sym_toDifference 0 = .ok (.iconst 1, 1) := by decide +kernel
theorem d_Sym_toDifference_1 : decode b_Sym_toDifference 1 = .ok (.istore 6, 2) := by decide +kernel
theorem d_Sym_toDifference_3 : decode b_Sym_toDifference 3 = .ok (.iload 6, 2) := by decide +kernel
theorem d_Sym_toDifference_5 : decode b_Sym_toDifference 5 = .ok (.iload 5, 2) := by decide +kernel
theorem d_Sym_toDifference_7 : decode b_Sym_toDifference 7 = .ok (.if_icmp .ge 25, 3) := by decide +kernel
theorem d_Sym_toDifference_10 : decode b_Sym_toDifference 10 = .ok (.aload_n 1, 1) := by decide +kernel
theorem d_Sym_toDifference_11 : decode b_Sym_toDifference 11 = .ok (.iload_n 2, 1) := by decide +kernel
theorem d_Sym_toDifference_12 : decode b_Sym_toDifference 12 = .ok (.iload 6, 2) := by decide +kernel
theorem d_Sym_toDifference_14 : decode b_Sym_toDifference 14 = .ok (.iadd, 1) := by decide +kernel
theorem d_Sym_toDifference_15 : decode b_Sym_toDifference 15 = .ok (.iaload, 1) := by decide +kernel
theorem d_Sym_toDifference_16 : decode b_Sym_toDifference 16 = .ok (.aload_n 3, 1) := by decide +kernel
theorem d_Sym_toDifference_17 : decode b_Sym_toDifference 17 = .ok (.iload 4, 2) := by decide +kernel
theorem d_Sym_toDifference_19 : decode b_Sym_toDifference 19 = .ok (.iload 6, 2) := by decide +kernel
theorem d_Sym_toDifference_21 : decode b_Sym_toDifference 21 = .ok (.iadd, 1) := by decide +kernel
theorem d_Sym_toDifference_22 : decode b_Sym_toDifference 22 = .ok (.iaload, 1) := by decide +kernel
theorem d_Sym_toDifference_23 : decode b_Sym_toDifference 23 = .ok (.if_icmp .ne 9, 3) := by decide +kernel
theorem d_Sym_toDifference_26 : decode b_Sym_toDifference 26 = .ok (.iinc 6 1, 3) := by decide +kernel
theorem d_Sym_toDifference_29 : decode b_Sym_toDifference 29 = .ok (.goto (-26), 3) := by decide +kernel
theorem d_Sym_toDifference_32 : decode b_Sym_toDifference 32 = .ok (.iconst 1, 1) := by decide +kernel
theorem d_Sym_toDifference_33 : decode b_Sym_toDifference 33 = .ok (.istore 7, 2) := by decide +kernel
theorem d_Sym_toDifference_35 : decode b_Sym_toDifference 35 = .ok (.iload 6, 2) := by decide +kernel
theorem d_Sym_toDifference_37 : decode b_Sym_toDifference 37 = .ok (.iload 5, 2) := by decide +kernel
theorem d_Sym_toDifference_39 : decode b_Sym_toDifference 39 = .ok (.if_icmp .ge 40, 3) := by decide +kernel
theorem d_Sym_toDifference_42 : decode b_Sym_toDifference 42 = .ok (.iload 7, 2) := by decide +kernel
theorem d_Sym_toDifference_44 : decode b_Sym_toDifference 44 = .ok (.iload 5, 2) := by decide +kernel
theorem d_Sym_toDifference_46 : decode b_Sym_toDifference 46 = .ok (.if_icmp .ge 33, 3) := by decide +kernel
theorem d_Sym_toDifference_49 : decode b_Sym_toDifference 49 = .ok (.aload_n 0, 1) := by decide +kernel
theorem d_Sym_toDifference_50 : decode b_Sym_toDifference 50 = .ok (.aload_n 1, 1) := by decide +kernel
theorem d_Sym_toDifference_51 : decode b_Sym_toDifference 51 = .ok (.iload_n 2, 1) := by decide +kernel
theorem d_Sym_toDifference_52 : decode b_Sym_toDifference 52 = .ok (.iload 7, 2) := by decide +kernel
theorem d_Sym_toDifference_54 : decode b_Sym_toDifference 54 = .ok (.iadd, 1) := by decide +kernel
theorem d_Sym_toDifference_55 : decode b_Sym_toDifference 55 = .ok (.invokevirtual 59, 3) := by decide +kernel
theorem d_Sym_toDifference_58 : decode b_Sym_toDifference 58 = .ok (.iload_n 2, 1) := by decide +kernel
theorem d_Sym_toDifference_59 : decode b_Sym_toDifference 59 = .ok (.isub, 1) := by decide +kernel
theorem d_Sym_toDifference_60 : decode b_Sym_toDifference 60 = .ok (.istore 8, 2) := by decide +kernel
theorem d_Sym_toDifference_62 : decode b_Sym_toDifference 62 = .ok (.iload 6, 2) := by decide +kernel
theorem d_Sym_toDifference_64 : decode b_Sym_toDifference 64 = .ok (.iload 8, 2) := by decide +kernel
theorem d_Sym_toDifference_66 : decode b_Sym_toDifference 66 = .ok (.if_icmp .ge 6, 3) := by decide +kernel
theorem d_Sym_toDifference_69 : decode b_Sym_toDifference 69 = .ok (.iload 7, 2) := by decide +kernel
theorem d_Sym_toDifference_71 : decode b_Sym_toDifference 71 = .ok (.ireturn, 1) := by decide +kernel
theorem d_Sym_toDifference_72 : decode b_Sym_toDifference 72 = .ok (.iload 8, 2) := by decide +kernel
theorem d_Sym_toDifference_74 : decode b_Sym_toDifference 74 = .ok (.istore 7, 2) := by decide +kernel
theorem d_Sym_toDifference_76 : decode b_Sym_toDifference 76 = .ok (.goto (-41), 3) := by decide +kernel
theorem d_Sym_toDifference_79 : decode b_Sym_toDifference 79 = .ok (.iconst 0, 1) := by decide +kernel
theorem d_Sym_toDifference_80 : decode b_Sym_toDifference 80 = .ok (.ireturn, 1) := by decide +kernel
abbrev b_Uni_clear : ByteArray := prog_11_method_2_code
def y_Uni_clear : MethodName := ⟨"ClauseProver$Unifier", "clear", "(II)V"⟩
theorem d_Uni_clear_0 : decode b_Uni_clear 0 = .ok (.iconst 0, 1) := by decide +kernel
theorem d_Uni_clear_1 : decode b_Uni_clear 1 = .ok (.istore_n 3, 1) := by decide +kernel
theorem d_Uni_clear_2 : decode b_Uni_clear 2 = .ok (.iload_n 3, 1) := by decide +kernel
theorem d_Uni_clear_3 : decode b_Uni_clear 3 = .ok (.bipush 12, 2) := by decide +kernel
theorem d_Uni_clear_5 : decode b_Uni_clear 5 = .ok (.if_icmp .ge 23, 3) := by decide +kernel
theorem d_Uni_clear_8 : decode b_Uni_clear 8 = .ok (.aload_n 0, 1) := by decide +kernel
theorem d_Uni_clear_9 : decode b_Uni_clear 9 = .ok (.getfield 13, 3) := by decide +kernel
theorem d_Uni_clear_12 : decode b_Uni_clear 12 = .ok (.iload_n 3, 1) := by decide +kernel
theorem d_Uni_clear_13 : decode b_Uni_clear 13 = .ok (.iload_n 3, 1) := by decide +kernel
theorem d_Uni_clear_14 : decode b_Uni_clear 14 = .ok (.iastore, 1) := by decide +kernel
theorem d_Uni_clear_15 : decode b_Uni_clear 15 = .ok (.aload_n 0, 1) := by decide +kernel
theorem d_Uni_clear_16 : decode b_Uni_clear 16 = .ok (.getfield 17, 3) := by decide +kernel
theorem d_Uni_clear_19 : decode b_Uni_clear 19 = .ok (.iload_n 3, 1) := by decide +kernel
theorem d_Uni_clear_20 : decode b_Uni_clear 20 = .ok (.iconst (-1), 1) := by decide +kernel
theorem d_Uni_clear_21 : decode b_Uni_clear 21 = .ok (.iastore, 1) := by decide +kernel
theorem d_Uni_clear_22 : decode b_Uni_clear 22 = .ok (.iinc 3 1, 3) := by decide +kernel
theorem d_Uni_clear_25 : decode b_Uni_clear 25 = .ok (.goto (-23), 3) := by decide +kernel
theorem d_Uni_clear_28 : decode b_Uni_clear 28 = .ok (.aload_n 0, 1) := by decide +kernel
theorem d_Uni_clear_29 : decode b_Uni_clear 29 = .ok (.iconst 0, 1) := by decide +kernel
theorem d_Uni_clear_30 : decode b_Uni_clear 30 = .ok (.putfield 43, 3) := by decide +kernel
theorem d_Uni_clear_33 : decode b_Uni_clear 33 = .ok (.aload_n 0, 1) := by decide +kernel
theorem d_Uni_clear_34 : decode b_Uni_clear 34 = .ok (.iload_n 1, 1) := by decide +kernel
theorem d_Uni_clear_35 : decode b_Uni_clear 35 = .ok (.putfield 47, 3) := by decide +kernel
theorem d_Uni_clear_38 : decode b_Uni_clear 38 = .ok (.aload_n 0, 1) := by decide +kernel
theorem d_Uni_clear_39 : decode b_Uni_clear 39 = .ok (.iload_n 2, 1) := by decide +kernel
theorem d_Uni_clear_40 : decode b_Uni_clear 40 = .ok (.putfield 50, 3) := by decide +kernel
theorem d_Uni_clear_43 : decode b_Uni_clear 43 = .ok (.iconst 0, 1) := by decide +kernel
theorem d_Uni_clear_44 : decode b_Uni_clear 44 = .ok (.istore_n 3, 1) := by decide +kernel
theorem d_Uni_clear_45 : decode b_Uni_clear 45 = .ok (.iload_n 3, 1) := by decide +kernel
theorem d_Uni_clear_46 : decode b_Uni_clear 46 = .ok (.aload_n 0, 1) := by decide +kernel
theorem d_Uni_clear_47 : decode b_Uni_clear 47 = .ok (.getfield 32, 3) := by decide +kernel
theorem d_Uni_clear_50 : decode b_Uni_clear 50 = .ok (.getfield 53, 3) := by decide +kernel
theorem d_Uni_clear_53 : decode b_Uni_clear 53 = .ok (.if_icmp .ge 24, 3) := by decide +kernel
theorem d_Uni_clear_56 : decode b_Uni_clear 56 = .ok (.aload_n 0, 1) := by decide +kernel
theorem d_Uni_clear_57 : decode b_Uni_clear 57 = .ok (.getfield 23, 3) := by decide +kernel
theorem d_Uni_clear_60 : decode b_Uni_clear 60 = .ok (.aload_n 0, 1) := by decide +kernel
theorem d_Uni_clear_61 : decode b_Uni_clear 61 = .ok (.getfield 32, 3) := by decide +kernel
theorem d_Uni_clear_64 : decode b_Uni_clear 64 = .ok (.getfield 56, 3) := by decide +kernel
theorem d_Uni_clear_67 : decode b_Uni_clear 67 = .ok (.iload_n 3, 1) := by decide +kernel
theorem d_Uni_clear_68 : decode b_Uni_clear 68 = .ok (.iaload, 1) := by decide +kernel
theorem d_Uni_clear_69 : decode b_Uni_clear 69 = .ok (.iconst 0, 1) := by decide +kernel
theorem d_Uni_clear_70 : decode b_Uni_clear 70 = .ok (.bastore, 1) := by decide +kernel
theorem d_Uni_clear_71 : decode b_Uni_clear 71 = .ok (.iinc 3 1, 3) := by decide +kernel
theorem d_Uni_clear_74 : decode b_Uni_clear 74 = .ok (.goto (-29), 3) := by decide +kernel
theorem d_Uni_clear_77 : decode b_Uni_clear 77 = .ok (.aload_n 0, 1) := by decide +kernel
theorem d_Uni_clear_78 : decode b_Uni_clear 78 = .ok (.getfield 32, 3) := by decide +kernel
theorem d_Uni_clear_81 : decode b_Uni_clear 81 = .ok (.iconst 0, 1) := by decide +kernel
theorem d_Uni_clear_82 : decode b_Uni_clear 82 = .ok (.putfield 53, 3) := by decide +kernel
theorem d_Uni_clear_85 : decode b_Uni_clear 85 = .ok (.return_, 1) := by decide +kernel
abbrev b_Uni_occurs : ByteArray := prog_11_method_7_code
def y_Uni_occurs : MethodName := ⟨"ClauseProver$Unifier", "occurs", "(III)Z"⟩
theorem d_Uni_occurs_0 : decode b_Uni_occurs 0 = .ok (.iconst 0, 1) := by decide +kernel
theorem d_Uni_occurs_1 : decode b_Uni_occurs 1 = .ok (.istore 4, 2) := by decide +kernel
theorem d_Uni_occurs_3 : decode b_Uni_occurs 3 = .ok (.iconst 0, 1) := by decide +kernel
theorem d_Uni_occurs_4 : decode b_Uni_occurs 4 = .ok (.istore 5, 2) := by decide +kernel
theorem d_Uni_occurs_6 : decode b_Uni_occurs 6 = .ok (.iload_n 2, 1) := by decide +kernel
theorem d_Uni_occurs_7 : decode b_Uni_occurs 7 = .ok (.istore 6, 2) := by decide +kernel
theorem d_Uni_occurs_9 : decode b_Uni_occurs 9 = .ok (.iload_n 3, 1) := by decide +kernel
theorem d_Uni_occurs_10 : decode b_Uni_occurs 10 = .ok (.istore 7, 2) := by decide +kernel
theorem d_Uni_occurs_12 : decode b_Uni_occurs 12 = .ok (.iconst 0, 1) := by decide +kernel
theorem d_Uni_occurs_13 : decode b_Uni_occurs 13 = .ok (.istore 8, 2) := by decide +kernel
theorem d_Uni_occurs_15 : decode b_Uni_occurs 15 = .ok (.iload 8, 2) := by decide +kernel
theorem d_Uni_occurs_17 : decode b_Uni_occurs 17 = .ok (.bipush 12, 2) := by decide +kernel
theorem d_Uni_occurs_19 : decode b_Uni_occurs 19 = .ok (.if_icmp .gt 171, 3) := by decide +kernel
theorem d_Uni_occurs_22 : decode b_Uni_occurs 22 = .ok (.iconst 1, 1) := by decide +kernel
theorem d_Uni_occurs_23 : decode b_Uni_occurs 23 = .ok (.istore 9, 2) := by decide +kernel
theorem d_Uni_occurs_25 : decode b_Uni_occurs 25 = .ok (.iload 6, 2) := by decide +kernel
theorem d_Uni_occurs_27 : decode b_Uni_occurs 27 = .ok (.istore 10, 2) := by decide +kernel
theorem d_Uni_occurs_29 : decode b_Uni_occurs 29 = .ok (.iload 9, 2) := by decide +kernel
theorem d_Uni_occurs_31 : decode b_Uni_occurs 31 = .ok (.ifCond .le 87, 3) := by decide +kernel
theorem d_Uni_occurs_34 : decode b_Uni_occurs 34 = .ok (.iload 10, 2) := by decide +kernel
theorem d_Uni_occurs_36 : decode b_Uni_occurs 36 = .ok (.aload_n 0, 1) := by decide +kernel
theorem d_Uni_occurs_37 : decode b_Uni_occurs 37 = .ok (.getfield 40, 3) := by decide +kernel
theorem d_Uni_occurs_40 : decode b_Uni_occurs 40 = .ok (.getfield 53, 3) := by decide +kernel
theorem d_Uni_occurs_43 : decode b_Uni_occurs 43 = .ok (.if_icmp .ge 75, 3) := by decide +kernel
theorem d_Uni_occurs_46 : decode b_Uni_occurs 46 = .ok (.aload_n 0, 1) := by decide +kernel
theorem d_Uni_occurs_47 : decode b_Uni_occurs 47 = .ok (.getfield 40, 3) := by decide +kernel
theorem d_Uni_occurs_50 : decode b_Uni_occurs 50 = .ok (.getfield 56, 3) := by decide +kernel
theorem d_Uni_occurs_53 : decode b_Uni_occurs 53 = .ok (.iload 10, 2) := by decide +kernel
theorem d_Uni_occurs_55 : decode b_Uni_occurs 55 = .ok (.iaload, 1) := by decide +kernel
theorem d_Uni_occurs_56 : decode b_Uni_occurs 56 = .ok (.istore 11, 2) := by decide +kernel
theorem d_Uni_occurs_58 : decode b_Uni_occurs 58 = .ok (.iload 9, 2) := by decide +kernel
theorem d_Uni_occurs_60 : decode b_Uni_occurs 60 = .ok (.iload 11, 2) := by decide +kernel
theorem d_Uni_occurs_62 : decode b_Uni_occurs 62 = .ok (.ifCond .ge 7, 3) := by decide +kernel
theorem d_Uni_occurs_65 : decode b_Uni_occurs 65 = .ok (.iconst (-1), 1) := by decide +kernel
theorem d_Uni_occurs_66 : decode b_Uni_occurs 66 = .ok (.goto 15, 3) := by decide +kernel
theorem d_Uni_occurs_69 : decode b_Uni_occurs 69 = .ok (.aload_n 0, 1) := by decide +kernel
theorem d_Uni_occurs_70 : decode b_Uni_occurs 70 = .ok (.getfield 36, 3) := by decide +kernel
theorem d_Uni_occurs_73 : decode b_Uni_occurs 73 = .ok (.getfield 69, 3) := by decide +kernel
theorem d_Uni_occurs_76 : decode b_Uni_occurs 76 = .ok (.iload 11, 2) := by decide +kernel
theorem d_Uni_occurs_78 : decode b_Uni_occurs 78 = .ok (.iaload, 1) := by decide +kernel
theorem d_Uni_occurs_79 : decode b_Uni_occurs 79 = .ok (.iconst 1, 1) := by decide +kernel
theorem d_Uni_occurs_80 : decode b_Uni_occurs 80 = .ok (.isub, 1) := by decide +kernel
theorem d_Uni_occurs_81 : decode b_Uni_occurs 81 = .ok (.iadd, 1) := by decide +kernel
theorem d_Uni_occurs_82 : decode b_Uni_occurs 82 = .ok (.istore 9, 2) := by decide +kernel
theorem d_Uni_occurs_84 : decode b_Uni_occurs 84 = .ok (.iload 4, 2) := by decide +kernel
theorem d_Uni_occurs_86 : decode b_Uni_occurs 86 = .ok (.iload 11, 2) := by decide +kernel
theorem d_Uni_occurs_88 : decode b_Uni_occurs 88 = .ok (.ifCond .ge 20, 3) := by decide +kernel
theorem d_Uni_occurs_91 : decode b_Uni_occurs 91 = .ok (.iconst 1, 1) := by decide +kernel
theorem d_Uni_occurs_92 : decode b_Uni_occurs 92 = .ok (.aload_n 0, 1) := by decide +kernel
theorem d_Uni_occurs_93 : decode b_Uni_occurs 93 = .ok (.getfield 13, 3) := by decide +kernel
theorem d_Uni_occurs_96 : decode b_Uni_occurs 96 = .ok (.iload 11, 2) := by decide +kernel
theorem d_Uni_occurs_98 : decode b_Uni_occurs 98 = .ok (.iconst (-1), 1) := by decide +kernel
theorem d_Uni_occurs_99 : decode b_Uni_occurs 99 = .ok (.ixor, 1) := by decide +kernel
theorem d_Uni_occurs_100 : decode b_Uni_occurs 100 = .ok (.iload 7, 2) := by decide +kernel
theorem d_Uni_occurs_102 : decode b_Uni_occurs 102 = .ok (.iadd, 1) := by decide +kernel
theorem d_Uni_occurs_103 : decode b_Uni_occurs 103 = .ok (.iaload, 1) := by decide +kernel
theorem d_Uni_occurs_104 : decode b_Uni_occurs 104 = .ok (.ishl, 1) := by decide +kernel
theorem d_Uni_occurs_105 : decode b_Uni_occurs 105 = .ok (.goto 4, 3) := by decide +kernel
theorem d_Uni_occurs_108 : decode b_Uni_occurs 108 = .ok (.iconst 0, 1) := by decide +kernel
theorem d_Uni_occurs_109 : decode b_Uni_occurs 109 = .ok (.ior, 1) := by decide +kernel
theorem d_Uni_occurs_110 : decode b_Uni_occurs 110 = .ok (.istore 4, 2) := by decide +kernel
theorem d_Uni_occurs_112 : decode b_Uni_occurs 112 = .ok (.iinc 10 1, 3) := by decide +kernel
theorem d_Uni_occurs_115 : decode b_Uni_occurs 115 = .ok (.goto (-86), 3) := by decide +kernel
theorem d_Uni_occurs_118 : decode b_Uni_occurs 118 = .ok (.iload 4, 2) := by decide +kernel
theorem d_Uni_occurs_120 : decode b_Uni_occurs 120 = .ok (.aload_n 0, 1) := by decide +kernel
theorem d_Uni_occurs_121 : decode b_Uni_occurs 121 = .ok (.getfield 43, 3) := by decide +kernel
theorem d_Uni_occurs_124 : decode b_Uni_occurs 124 = .ok (.iand, 1) := by decide +kernel
theorem d_Uni_occurs_125 : decode b_Uni_occurs 125 = .ok (.iload 5, 2) := by decide +kernel
theorem d_Uni_occurs_127 : decode b_Uni_occurs 127 = .ok (.iconst (-1), 1) := by decide +kernel
theorem d_Uni_occurs_128 : decode b_Uni_occurs 128 = .ok (.ixor, 1) := by decide +kernel
theorem d_Uni_occurs_129 : decode b_Uni_occurs 129 = .ok (.iand, 1) := by decide +kernel
theorem d_Uni_occurs_130 : decode b_Uni_occurs 130 = .ok (.istore 10, 2) := by decide +kernel
theorem d_Uni_occurs_132 : decode b_Uni_occurs 132 = .ok (.iload 4, 2) := by decide +kernel
theorem d_Uni_occurs_134 : decode b_Uni_occurs 134 = .ok (.iload_n 1, 1) := by decide +kernel
theorem d_Uni_occurs_135 : decode b_Uni_occurs 135 = .ok (.ishr, 1) := by decide +kernel
theorem d_Uni_occurs_136 : decode b_Uni_occurs 136 = .ok (.iconst 1, 1) := by decide +kernel
theorem d_Uni_occurs_137 : decode b_Uni_occurs 137 = .ok (.iand, 1) := by decide +kernel
theorem d_Uni_occurs_138 : decode b_Uni_occurs 138 = .ok (.iconst 1, 1) := by decide +kernel
theorem d_Uni_occurs_139 : decode b_Uni_occurs 139 = .ok (.if_icmp .eq 51, 3) := by decide +kernel
theorem d_Uni_occurs_142 : decode b_Uni_occurs 142 = .ok (.iload 10, 2) := by decide +kernel
theorem d_Uni_occurs_144 : decode b_Uni_occurs 144 = .ok (.ifCond .ne 6, 3) := by decide +kernel
theorem d_Uni_occurs_147 : decode b_Uni_occurs 147 = .ok (.goto 43, 3) := by decide +kernel
theorem d_Uni_occurs_150 : decode b_Uni_occurs 150 = .ok (.iload 10, 2) := by decide +kernel
theorem d_Uni_occurs_152 : decode b_Uni_occurs 152 = .ok (.invokestatic 93, 3) := by decide +kernel
theorem d_Uni_occurs_155 : decode b_Uni_occurs 155 = .ok (.istore 11, 2) := by decide +kernel
theorem d_Uni_occurs_157 : decode b_Uni_occurs 157 = .ok (.iload 5, 2) := by decide +kernel
theorem d_Uni_occurs_159 : decode b_Uni_occurs 159 = .ok (.iconst 1, 1) := by decide +kernel
theorem d_Uni_occurs_160 : decode b_Uni_occurs 160 = .ok (.iload 11, 2) := by decide +kernel
theorem d_Uni_occurs_162 : decode b_Uni_occurs 162 = .ok (.ishl, 1) := by decide +kernel
theorem d_Uni_occurs_163 : decode b_Uni_occurs 163 = .ok (.ior, 1) := by decide +kernel
theorem d_Uni_occurs_164 : decode b_Uni_occurs 164 = .ok (.istore 5, 2) := by decide +kernel
theorem d_Uni_occurs_166 : decode b_Uni_occurs 166 = .ok (.aload_n 0, 1) := by decide +kernel
theorem d_Uni_occurs_167 : decode b_Uni_occurs 167 = .ok (.getfield 17, 3) := by decide +kernel
theorem d_Uni_occurs_170 : decode b_Uni_occurs 170 = .ok (.iload 11, 2) := by decide +kernel
theorem d_Uni_occurs_172 : decode b_Uni_occurs 172 = .ok (.iaload, 1) := by decide +kernel
theorem d_Uni_occurs_173 : decode b_Uni_occurs 173 = .ok (.istore 6, 2) := by decide +kernel
theorem d_Uni_occurs_175 : decode b_Uni_occurs 175 = .ok (.aload_n 0, 1) := by decide +kernel
theorem d_Uni_occurs_176 : decode b_Uni_occurs 176 = .ok (.getfield 20, 3) := by decide +kernel
theorem d_Uni_occurs_179 : decode b_Uni_occurs 179 = .ok (.iload 11, 2) := by decide +kernel
theorem d_Uni_occurs_181 : decode b_Uni_occurs 181 = .ok (.iaload, 1) := by decide +kernel
theorem d_Uni_occurs_182 : decode b_Uni_occurs 182 = .ok (.istore 7, 2) := by decide +kernel
theorem d_Uni_occurs_184 : decode b_Uni_occurs 184 = .ok (.iinc 8 1, 3) := by decide +kernel
theorem d_Uni_occurs_187 : decode b_Uni_occurs 187 = .ok (.goto (-172), 3) := by decide +kernel
theorem d_Uni_occurs_190 : decode b_Uni_occurs 190 = .ok (.iload 4, 2) := by decide +kernel
theorem d_Uni_occurs_192 : decode b_Uni_occurs 192 = .ok (.iload_n 1, 1) := by decide +kernel
theorem d_Uni_occurs_193 : decode b_Uni_occurs 193 = .ok (.ishr, 1) := by decide +kernel
theorem d_Uni_occurs_194 : decode b_Uni_occurs 194 = .ok (.iconst 1, 1) := by decide +kernel
theorem d_Uni_occurs_195 : decode b_Uni_occurs 195 = .ok (.iand, 1) := by decide +kernel
theorem d_Uni_occurs_196 : decode b_Uni_occurs 196 = .ok (.iconst 1, 1) := by decide +kernel
theorem d_Uni_occurs_197 : decode b_Uni_occurs 197 = .ok (.if_icmp .ne 7, 3) := by decide +kernel
theorem d_Uni_occurs_200 : decode b_Uni_occurs 200 = .ok (.iconst 1, 1) := by decide +kernel
theorem d_Uni_occurs_201 : decode b_Uni_occurs 201 = .ok (.goto 4, 3) := by decide +kernel
theorem d_Uni_occurs_204 : decode b_Uni_occurs 204 = .ok (.iconst 0, 1) := by decide +kernel
theorem d_Uni_occurs_205 : decode b_Uni_occurs 205 = .ok (.ireturn, 1) := by decide +kernel
abbrev b_Uni_write : ByteArray := prog_11_method_8_code
def y_Uni_write : MethodName := ⟨"ClauseProver$Unifier", "write", "(LClauseProver$Draft;IIII)V"⟩
theorem d_Uni_write_0 : decode b_Uni_write 0 = .ok (.iload_n 2, 1) := by decide +kernel
theorem d_Uni_write_1 : decode b_Uni_write 1 = .ok (.istore 6, 2) := by decide +kernel
theorem d_Uni_write_3 : decode b_Uni_write 3 = .ok (.iload 6, 2) := by decide +kernel
theorem d_Uni_write_5 : decode b_Uni_write 5 = .ok (.iload_n 3, 1) := by decide +kernel
theorem d_Uni_write_6 : decode b_Uni_write 6 = .ok (.if_icmp .ge 141, 3) := by decide +kernel
theorem d_Uni_write_9 : decode b_Uni_write 9 = .ok (.aload_n 1, 1) := by decide +kernel
theorem d_Uni_write_10 : decode b_Uni_write 10 = .ok (.getfield 99, 3) := by decide +kernel
theorem d_Uni_write_13 : decode b_Uni_write 13 = .ok (.ifCond .ne 134, 3) := by decide +kernel
theorem d_Uni_write_16 : decode b_Uni_write 16 = .ok (.iload 5, 2) := by decide +kernel
theorem d_Uni_write_18 : decode b_Uni_write 18 = .ok (.bipush 12, 2) := by decide +kernel
theorem d_Uni_write_20 : decode b_Uni_write 20 = .ok (.if_icmp .gt 127, 3) := by decide +kernel
theorem d_Uni_write_23 : decode b_Uni_write 23 = .ok (.aload_n 0, 1) := by decide +kernel
theorem d_Uni_write_24 : decode b_Uni_write 24 = .ok (.getfield 40, 3) := by decide +kernel
theorem d_Uni_write_27 : decode b_Uni_write 27 = .ok (.getfield 56, 3) := by decide +kernel
theorem d_Uni_write_30 : decode b_Uni_write 30 = .ok (.iload 6, 2) := by decide +kernel
theorem d_Uni_write_32 : decode b_Uni_write 32 = .ok (.iaload, 1) := by decide +kernel
theorem d_Uni_write_33 : decode b_Uni_write 33 = .ok (.istore 7, 2) := by decide +kernel
theorem d_Uni_write_35 : decode b_Uni_write 35 = .ok (.iload 7, 2) := by decide +kernel
theorem d_Uni_write_37 : decode b_Uni_write 37 = .ok (.ifCond .ge 18, 3) := by decide +kernel
theorem d_Uni_write_40 : decode b_Uni_write 40 = .ok (.aload_n 0, 1) := by decide +kernel
theorem d_Uni_write_41 : decode b_Uni_write 41 = .ok (.getfield 13, 3) := by decide +kernel
theorem d_Uni_write_44 : decode b_Uni_write 44 = .ok (.iload 7, 2) := by decide +kernel
theorem d_Uni_write_46 : decode b_Uni_write 46 = .ok (.iconst (-1), 1) := by decide +kernel
theorem d_Uni_write_47 : decode b_Uni_write 47 = .ok (.ixor, 1) := by decide +kernel
theorem d_Uni_write_48 : decode b_Uni_write 48 = .ok (.iload 4, 2) := by decide +kernel
theorem d_Uni_write_50 : decode b_Uni_write 50 = .ok (.iadd, 1) := by decide +kernel
theorem d_Uni_write_51 : decode b_Uni_write 51 = .ok (.iaload, 1) := by decide +kernel
theorem d_Uni_write_52 : decode b_Uni_write 52 = .ok (.goto 4, 3) := by decide +kernel
theorem d_Uni_write_55 : decode b_Uni_write 55 = .ok (.iconst (-1), 1) := by decide +kernel
theorem d_Uni_write_56 : decode b_Uni_write 56 = .ok (.istore 8, 2) := by decide +kernel
theorem d_Uni_write_58 : decode b_Uni_write 58 = .ok (.iload 8, 2) := by decide +kernel
theorem d_Uni_write_60 : decode b_Uni_write 60 = .ok (.iconst (-1), 1) := by decide +kernel
theorem d_Uni_write_61 : decode b_Uni_write 61 = .ok (.if_icmp .ne 12, 3) := by decide +kernel
theorem d_Uni_write_64 : decode b_Uni_write 64 = .ok (.aload_n 1, 1) := by decide +kernel
theorem d_Uni_write_65 : decode b_Uni_write 65 = .ok (.iload 7, 2) := by decide +kernel
theorem d_Uni_write_67 : decode b_Uni_write 67 = .ok (.invokevirtual 105, 3) := by decide +kernel
theorem d_Uni_write_70 : decode b_Uni_write 70 = .ok (.goto 71, 3) := by decide +kernel
theorem d_Uni_write_73 : decode b_Uni_write 73 = .ok (.aload_n 0, 1) := by decide +kernel
theorem d_Uni_write_74 : decode b_Uni_write 74 = .ok (.getfield 17, 3) := by decide +kernel
theorem d_Uni_write_77 : decode b_Uni_write 77 = .ok (.iload 8, 2) := by decide +kernel
theorem d_Uni_write_79 : decode b_Uni_write 79 = .ok (.iaload, 1) := by decide +kernel
theorem d_Uni_write_80 : decode b_Uni_write 80 = .ok (.iconst (-1), 1) := by decide +kernel
theorem d_Uni_write_81 : decode b_Uni_write 81 = .ok (.if_icmp .ne 16, 3) := by decide +kernel
theorem d_Uni_write_84 : decode b_Uni_write 84 = .ok (.aload_n 1, 1) := by decide +kernel
theorem d_Uni_write_85 : decode b_Uni_write 85 = .ok (.aload_n 1, 1) := by decide +kernel
theorem d_Uni_write_86 : decode b_Uni_write 86 = .ok (.iload 8, 2) := by decide +kernel
theorem d_Uni_write_88 : decode b_Uni_write 88 = .ok (.invokevirtual 108, 3) := by decide +kernel
theorem d_Uni_write_91 : decode b_Uni_write 91 = .ok (.invokevirtual 105, 3) := by decide +kernel
theorem d_Uni_write_94 : decode b_Uni_write 94 = .ok (.goto 47, 3) := by decide +kernel
theorem d_Uni_write_97 : decode b_Uni_write 97 = .ok (.aload_n 0, 1) := by decide +kernel
theorem d_Uni_write_98 : decode b_Uni_write 98 = .ok (.aload_n 1, 1) := by decide +kernel
theorem d_Uni_write_99 : decode b_Uni_write 99 = .ok (.aload_n 0, 1) := by decide +kernel
theorem d_Uni_write_100 : decode b_Uni_write 100 = .ok (.getfield 17, 3) := by decide +kernel
theorem d_Uni_write_103 : decode b_Uni_write 103 = .ok (.iload 8, 2) := by decide +kernel
theorem d_Uni_write_105 : decode b_Uni_write 105 = .ok (.iaload, 1) := by decide +kernel
theorem d_Uni_write_106 : decode b_Uni_write 106 = .ok (.aload_n 0, 1) := by decide +kernel
theorem d_Uni_write_107 : decode b_Uni_write 107 = .ok (.getfield 36, 3) := by decide +kernel
theorem d_Uni_write_110 : decode b_Uni_write 110 = .ok (.aload_n 0, 1) := by decide +kernel
theorem d_Uni_write_111 : decode b_Uni_write 111 = .ok (.getfield 40, 3) := by decide +kernel
theorem d_Uni_write_114 : decode b_Uni_write 114 = .ok (.getfield 56, 3) := by decide +kernel
theorem d_Uni_write_117 : decode b_Uni_write 117 = .ok (.aload_n 0, 1) := by decide +kernel
theorem d_Uni_write_118 : decode b_Uni_write 118 = .ok (.getfield 17, 3) := by decide +kernel
theorem d_Uni_write_121 : decode b_Uni_write 121 = .ok (.iload 8, 2) := by decide +kernel
theorem d_Uni_write_123 : decode b_Uni_write 123 = .ok (.iaload, 1) := by decide +kernel
theorem d_Uni_write_124 : decode b_Uni_write 124 = .ok (.invokevirtual 63, 3) := by decide +kernel
theorem d_Uni_write_127 : decode b_Uni_write 127 = .ok (.aload_n 0, 1) := by decide +kernel
theorem d_Uni_write_128 : decode b_Uni_write 128 = .ok (.getfield 20, 3) := by decide +kernel
theorem d_Uni_write_131 : decode b_Uni_write 131 = .ok (.iload 8, 2) := by decide +kernel
theorem d_Uni_write_133 : decode b_Uni_write 133 = .ok (.iaload, 1) := by decide +kernel
theorem d_Uni_write_134 : decode b_Uni_write 134 = .ok (.iload 5, 2) := by decide +kernel
theorem d_Uni_write_136 : decode b_Uni_write 136 = .ok (.iconst 1, 1) := by decide +kernel
theorem d_Uni_write_137 : decode b_Uni_write 137 = .ok (.iadd, 1) := by decide +kernel
theorem d_Uni_write_138 : decode b_Uni_write 138 = .ok (.invokevirtual 111, 3) := by decide +kernel
theorem d_Uni_write_141 : decode b_Uni_write 141 = .ok (.iinc 6 1, 3) := by decide +kernel
theorem d_Uni_write_144 : decode b_Uni_write 144 = .ok (.goto (-141), 3) := by decide +kernel
theorem d_Uni_write_147 : decode b_Uni_write 147 = .ok (.return_, 1) := by decide +kernel
abbrev b_Wds_advance : ByteArray := prog_12_method_5_code
def y_Wds_advance : MethodName := ⟨"ClauseProver$Words", "advance", "()V"⟩
theorem d_Wds_advance_0 : decode b_Wds_advance 0 = .ok (.aload_n 0, 1) := by decide +kernel
theorem d_Wds_advance_1 : decode b_Wds_advance 1 = .ok (.invokevirtual 45, 3) := by decide +kernel
theorem d_Wds_advance_4 : decode b_Wds_advance 4 = .ok (.aload_n 0, 1) := by decide +kernel
theorem d_Wds_advance_5 : decode b_Wds_advance 5 = .ok (.aload_n 0, 1) := by decide +kernel
theorem d_Wds_advance_6 : decode b_Wds_advance 6 = .ok (.getfield 19, 3) := by decide +kernel
theorem d_Wds_advance_9 : decode b_Wds_advance 9 = .ok (.putfield 42, 3) := by decide +kernel
theorem d_Wds_advance_12 : decode b_Wds_advance 12 = .ok (.aload_n 0, 1) := by decide +kernel
theorem d_Wds_advance_13 : decode b_Wds_advance 13 = .ok (.iconst 0, 1) := by decide +kernel
theorem d_Wds_advance_14 : decode b_Wds_advance 14 = .ok (.putfield 39, 3) := by decide +kernel
theorem d_Wds_advance_17 : decode b_Wds_advance 17 = .ok (.aload_n 0, 1) := by decide +kernel
theorem d_Wds_advance_18 : decode b_Wds_advance 18 = .ok (.iconst 0, 1) := by decide +kernel
theorem d_Wds_advance_19 : decode b_Wds_advance 19 = .ok (.putfield 31, 3) := by decide +kernel
theorem d_Wds_advance_22 : decode b_Wds_advance 22 = .ok (.aload_n 0, 1) := by decide +kernel
theorem d_Wds_advance_23 : decode b_Wds_advance 23 = .ok (.iconst 0, 1) := by decide +kernel
theorem d_Wds_advance_24 : decode b_Wds_advance 24 = .ok (.putfield 28, 3) := by decide +kernel
theorem d_Wds_advance_27 : decode b_Wds_advance 27 = .ok (.aload_n 0, 1) := by decide +kernel
theorem d_Wds_advance_28 : decode b_Wds_advance 28 = .ok (.getfield 19, 3) := by decide +kernel
theorem d_Wds_advance_31 : decode b_Wds_advance 31 = .ok (.aload_n 0, 1) := by decide +kernel
theorem d_Wds_advance_32 : decode b_Wds_advance 32 = .ok (.getfield 15, 3) := by decide +kernel
theorem d_Wds_advance_35 : decode b_Wds_advance 35 = .ok (.if_icmp .lt 4, 3) := by decide +kernel
theorem d_Wds_advance_38 : decode b_Wds_advance 38 = .ok (.return_, 1) := by decide +kernel
theorem d_Wds_advance_39 : decode b_Wds_advance 39 = .ok (.aload_n 0, 1) := by decide +kernel
theorem d_Wds_advance_40 : decode b_Wds_advance 40 = .ok (.dup, 1) := by decide +kernel
theorem d_Wds_advance_41 : decode b_Wds_advance 41 = .ok (.getfield 22, 3) := by decide +kernel
theorem d_Wds_advance_44 : decode b_Wds_advance 44 = .ok (.iconst 1, 1) := by decide +kernel
theorem d_Wds_advance_45 : decode b_Wds_advance 45 = .ok (.iadd, 1) := by decide +kernel
theorem d_Wds_advance_46 : decode b_Wds_advance 46 = .ok (.putfield 22, 3) := by decide +kernel
theorem d_Wds_advance_49 : decode b_Wds_advance 49 = .ok (.aload_n 0, 1) := by decide +kernel
theorem d_Wds_advance_50 : decode b_Wds_advance 50 = .ok (.aload_n 0, 1) := by decide +kernel
theorem d_Wds_advance_51 : decode b_Wds_advance 51 = .ok (.getfield 22, 3) := by decide +kernel
theorem d_Wds_advance_54 : decode b_Wds_advance 54 = .ok (.sipush 20000, 3) := by decide +kernel
theorem d_Wds_advance_57 : decode b_Wds_advance 57 = .ok (.if_icmp .le 7, 3) := by decide +kernel
theorem d_Wds_advance_60 : decode b_Wds_advance 60 = .ok (.iconst 1, 1) := by decide +kernel
theorem d_Wds_advance_61 : decode b_Wds_advance 61 = .ok (.goto 4, 3) := by decide +kernel
theorem d_Wds_advance_64 : decode b_Wds_advance 64 = .ok (.iconst 0, 1) := by decide +kernel
theorem d_Wds_advance_65 : decode b_Wds_advance 65 = .ok (.putfield 31, 3) := by decide +kernel
theorem d_Wds_advance_68 : decode b_Wds_advance 68 = .ok (.aload_n 0, 1) := by decide +kernel
theorem d_Wds_advance_69 : decode b_Wds_advance 69 = .ok (.getfield 9, 3) := by decide +kernel
theorem d_Wds_advance_72 : decode b_Wds_advance 72 = .ok (.aload_n 0, 1) := by decide +kernel
theorem d_Wds_advance_73 : decode b_Wds_advance 73 = .ok (.getfield 19, 3) := by decide +kernel
theorem d_Wds_advance_76 : decode b_Wds_advance 76 = .ok (.iaload, 1) := by decide +kernel
theorem d_Wds_advance_77 : decode b_Wds_advance 77 = .ok (.bipush 32, 2) := by decide +kernel
theorem d_Wds_advance_79 : decode b_Wds_advance 79 = .ok (.ior, 1) := by decide +kernel
theorem d_Wds_advance_80 : decode b_Wds_advance 80 = .ok (.bipush 97, 2) := by decide +kernel
theorem d_Wds_advance_82 : decode b_Wds_advance 82 = .ok (.if_icmp .lt 27, 3) := by decide +kernel
theorem d_Wds_advance_85 : decode b_Wds_advance 85 = .ok (.aload_n 0, 1) := by decide +kernel
theorem d_Wds_advance_86 : decode b_Wds_advance 86 = .ok (.getfield 9, 3) := by decide +kernel
theorem d_Wds_advance_89 : decode b_Wds_advance 89 = .ok (.aload_n 0, 1) := by decide +kernel
theorem d_Wds_advance_90 : decode b_Wds_advance 90 = .ok (.getfield 19, 3) := by decide +kernel
theorem d_Wds_advance_93 : decode b_Wds_advance 93 = .ok (.iaload, 1) := by decide +kernel
theorem d_Wds_advance_94 : decode b_Wds_advance 94 = .ok (.bipush 32, 2) := by decide +kernel
theorem d_Wds_advance_96 : decode b_Wds_advance 96 = .ok (.ior, 1) := by decide +kernel
theorem d_Wds_advance_97 : decode b_Wds_advance 97 = .ok (.bipush 122, 2) := by decide +kernel
theorem d_Wds_advance_99 : decode b_Wds_advance 99 = .ok (.if_icmp .gt 10, 3) := by decide +kernel
theorem d_Wds_advance_102 : decode b_Wds_advance 102 = .ok (.aload_n 0, 1) := by decide +kernel
theorem d_Wds_advance_103 : decode b_Wds_advance 103 = .ok (.invokevirtual 48, 3) := by decide +kernel
theorem d_Wds_advance_106 : decode b_Wds_advance 106 = .ok (.goto 63, 3) := by decide +kernel
theorem d_Wds_advance_109 : decode b_Wds_advance 109 = .ok (.aload_n 0, 1) := by decide +kernel
theorem d_Wds_advance_110 : decode b_Wds_advance 110 = .ok (.aload_n 0, 1) := by decide +kernel
theorem d_Wds_advance_111 : decode b_Wds_advance 111 = .ok (.getfield 19, 3) := by decide +kernel
theorem d_Wds_advance_114 : decode b_Wds_advance 114 = .ok (.iconst 1, 1) := by decide +kernel
theorem d_Wds_advance_115 : decode b_Wds_advance 115 = .ok (.iadd, 1) := by decide +kernel
theorem d_Wds_advance_116 : decode b_Wds_advance 116 = .ok (.aload_n 0, 1) := by decide +kernel
theorem d_Wds_advance_117 : decode b_Wds_advance 117 = .ok (.getfield 15, 3) := by decide +kernel
theorem d_Wds_advance_120 : decode b_Wds_advance 120 = .ok (.if_icmp .ge 17, 3) := by decide +kernel
theorem d_Wds_advance_123 : decode b_Wds_advance 123 = .ok (.aload_n 0, 1) := by decide +kernel
theorem d_Wds_advance_124 : decode b_Wds_advance 124 = .ok (.getfield 9, 3) := by decide +kernel
theorem d_Wds_advance_127 : decode b_Wds_advance 127 = .ok (.aload_n 0, 1) := by decide +kernel
theorem d_Wds_advance_128 : decode b_Wds_advance 128 = .ok (.getfield 19, 3) := by decide +kernel
theorem d_Wds_advance_131 : decode b_Wds_advance 131 = .ok (.iconst 1, 1) := by decide +kernel
theorem d_Wds_advance_132 : decode b_Wds_advance 132 = .ok (.iadd, 1) := by decide +kernel
theorem d_Wds_advance_133 : decode b_Wds_advance 133 = .ok (.iaload, 1) := by decide +kernel
theorem d_Wds_advance_134 : decode b_Wds_advance 134 = .ok (.goto 4, 3) := by decide +kernel
theorem d_Wds_advance_137 : decode b_Wds_advance 137 = .ok (.iconst (-1), 1) := by decide +kernel
theorem d_Wds_advance_138 : decode b_Wds_advance 138 = .ok (.aload_n 0, 1) := by decide +kernel
theorem d_Wds_advance_139 : decode b_Wds_advance 139 = .ok (.getfield 19, 3) := by decide +kernel
theorem d_Wds_advance_142 : decode b_Wds_advance 142 = .ok (.iconst 2, 1) := by decide +kernel
theorem d_Wds_advance_143 : decode b_Wds_advance 143 = .ok (.iadd, 1) := by decide +kernel
theorem d_Wds_advance_144 : decode b_Wds_advance 144 = .ok (.aload_n 0, 1) := by decide +kernel
theorem d_Wds_advance_145 : decode b_Wds_advance 145 = .ok (.getfield 15, 3) := by decide +kernel
theorem d_Wds_advance_148 : decode b_Wds_advance 148 = .ok (.if_icmp .ge 17, 3) := by decide +kernel
theorem d_Wds_advance_151 : decode b_Wds_advance 151 = .ok (.aload_n 0, 1) := by decide +kernel
theorem d_Wds_advance_152 : decode b_Wds_advance 152 = .ok (.getfield 9, 3) := by decide +kernel
theorem d_Wds_advance_155 : decode b_Wds_advance 155 = .ok (.aload_n 0, 1) := by decide +kernel
theorem d_Wds_advance_156 : decode b_Wds_advance 156 = .ok (.getfield 19, 3) := by decide +kernel
theorem d_Wds_advance_159 : decode b_Wds_advance 159 = .ok (.iconst 2, 1) := by decide +kernel
theorem d_Wds_advance_160 : decode b_Wds_advance 160 = .ok (.iadd, 1) := by decide +kernel
theorem d_Wds_advance_161 : decode b_Wds_advance 161 = .ok (.iaload, 1) := by decide +kernel
theorem d_Wds_advance_162 : decode b_Wds_advance 162 = .ok (.goto 4, 3) := by decide +kernel
theorem d_Wds_advance_165 : decode b_Wds_advance 165 = .ok (.iconst (-1), 1) := by decide +kernel
theorem d_Wds_advance_166 : decode b_Wds_advance 166 = .ok (.invokevirtual 51, 3) := by decide +kernel
theorem d_Wds_advance_169 : decode b_Wds_advance 169 = .ok (.aload_n 0, 1) := by decide +kernel
theorem d_Wds_advance_170 : decode b_Wds_advance 170 = .ok (.dup, 1) := by decide +kernel
theorem d_Wds_advance_171 : decode b_Wds_advance 171 = .ok (.getfield 19, 3) := by decide +kernel
theorem d_Wds_advance_174 : decode b_Wds_advance 174 = .ok (.aload_n 0, 1) := by decide +kernel
theorem d_Wds_advance_175 : decode b_Wds_advance 175 = .ok (.getfield 39, 3) := by decide +kernel
theorem d_Wds_advance_178 : decode b_Wds_advance 178 = .ok (.iadd, 1) := by decide +kernel
theorem d_Wds_advance_179 : decode b_Wds_advance 179 = .ok (.putfield 19, 3) := by decide +kernel
theorem d_Wds_advance_182 : decode b_Wds_advance 182 = .ok (.return_, 1) := by decide +kernel
abbrev b_Wds_isNow : ByteArray := prog_12_method_3_code
def y_Wds_isNow : MethodName := ⟨"ClauseProver$Words", "isNow", "(I)Z"⟩
theorem d_Wds_isNow_0 : decode b_Wds_isNow 0 = .ok (.aload_n 0, 1) := by decide +kernel
theorem d_Wds_isNow_1 : decode b_Wds_isNow 1 = .ok (.getfield 28, 3) := by decide +kernel
theorem d_Wds_isNow_4 : decode b_Wds_isNow 4 = .ok (.iload_n 1, 1) := by decide +kernel
theorem d_Wds_isNow_5 : decode b_Wds_isNow 5 = .ok (.if_icmp .ne 14, 3) := by decide +kernel
theorem d_Wds_isNow_8 : decode b_Wds_isNow 8 = .ok (.aload_n 0, 1) := by decide +kernel
theorem d_Wds_isNow_9 : decode b_Wds_isNow 9 = .ok (.getfield 31, 3) := by decide +kernel
theorem d_Wds_isNow_12 : decode b_Wds_isNow 12 = .ok (.ifCond .ne 7, 3) := by decide +kernel
theorem d_Wds_isNow_15 : decode b_Wds_isNow 15 = .ok (.iconst 1, 1) := by decide +kernel
theorem d_Wds_isNow_16 : decode b_Wds_isNow 16 = .ok (.goto 4, 3) := by decide +kernel
theorem d_Wds_isNow_19 : decode b_Wds_isNow 19 = .ok (.iconst 0, 1) := by decide +kernel
theorem d_Wds_isNow_20 : decode b_Wds_isNow 20 = .ok (.ireturn, 1) := by decide +kernel
abbrev b_Wds_isProve : ByteArray := prog_12_method_4_code
def y_Wds_isProve : MethodName := ⟨"ClauseProver$Words", "isProve", "()Z"⟩
theorem d_Wds_isProve_0 : decode b_Wds_isProve 0 = .ok (.aload_n 0, 1) := by decide +kernel
theorem d_Wds_isProve_1 : decode b_Wds_isProve 1 = .ok (.iconst 2, 1) := by decide +kernel
theorem d_Wds_isProve_2 : decode b_Wds_isProve 2 = .ok (.invokevirtual 35, 3) := by decide +kernel
theorem d_Wds_isProve_5 : decode b_Wds_isProve 5 = .ok (.ifCond .eq 93, 3) := by decide +kernel
theorem d_Wds_isProve_8 : decode b_Wds_isProve 8 = .ok (.aload_n 0, 1) := by decide +kernel
theorem d_Wds_isProve_9 : decode b_Wds_isProve 9 = .ok (.getfield 39, 3) := by decide +kernel
theorem d_Wds_isProve_12 : decode b_Wds_isProve 12 = .ok (.iconst 5, 1) := by decide +kernel
theorem d_Wds_isProve_13 : decode b_Wds_isProve 13 = .ok (.if_icmp .ne 85, 3) := by decide +kernel
theorem d_Wds_isProve_16 : decode b_Wds_isProve 16 = .ok (.aload_n 0, 1) := by decide +kernel
theorem d_Wds_isProve_17 : decode b_Wds_isProve 17 = .ok (.getfield 9, 3) := by decide +kernel
theorem d_Wds_isProve_20 : decode b_Wds_isProve 20 = .ok (.aload_n 0, 1) := by decide +kernel
theorem d_Wds_isProve_21 : decode b_Wds_isProve 21 = .ok (.getfield 42, 3) := by decide +kernel
theorem d_Wds_isProve_24 : decode b_Wds_isProve 24 = .ok (.iaload, 1) := by decide +kernel
theorem d_Wds_isProve_25 : decode b_Wds_isProve 25 = .ok (.bipush 112, 2) := by decide +kernel
theorem d_Wds_isProve_27 : decode b_Wds_isProve 27 = .ok (.if_icmp .ne 71, 3) := by decide +kernel
theorem d_Wds_isProve_30 : decode b_Wds_isProve 30 = .ok (.aload_n 0, 1) := by decide +kernel
theorem d_Wds_isProve_31 : decode b_Wds_isProve 31 = .ok (.getfield 9, 3) := by decide +kernel
theorem d_Wds_isProve_34 : decode b_Wds_isProve 34 = .ok (.aload_n 0, 1) := by decide +kernel
theorem d_Wds_isProve_35 : decode b_Wds_isProve 35 = .ok (.getfield 42, 3) := by decide +kernel
theorem d_Wds_isProve_38 : decode b_Wds_isProve 38 = .ok (.iconst 1, 1) := by decide +kernel
theorem d_Wds_isProve_39 : decode b_Wds_isProve 39 = .ok (.iadd, 1) := by decide +kernel
theorem d_Wds_isProve_40 : decode b_Wds_isProve 40 = .ok (.iaload, 1) := by decide +kernel
theorem d_Wds_isProve_41 : decode b_Wds_isProve 41 = .ok (.bipush 114, 2) := by decide +kernel
theorem d_Wds_isProve_43 : decode b_Wds_isProve 43 = .ok (.if_icmp .ne 55, 3) := by decide +kernel
theorem d_Wds_isProve_46 : decode b_Wds_isProve 46 = .ok (.aload_n 0, 1) := by decide +kernel
theorem d_Wds_isProve_47 : decode b_Wds_isProve 47 = .ok (.getfield 9, 3) := by decide +kernel
theorem d_Wds_isProve_50 : decode b_Wds_isProve 50 = .ok (.aload_n 0, 1) := by decide +kernel
theorem d_Wds_isProve_51 : decode b_Wds_isProve 51 = .ok (.getfield 42, 3) := by decide +kernel
theorem d_Wds_isProve_54 : decode b_Wds_isProve 54 = .ok (.iconst 2, 1) := by decide +kernel
theorem d_Wds_isProve_55 : decode b_Wds_isProve 55 = .ok (.iadd, 1) := by decide +kernel
theorem d_Wds_isProve_56 : decode b_Wds_isProve 56 = .ok (.iaload, 1) := by decide +kernel
theorem d_Wds_isProve_57 : decode b_Wds_isProve 57 = .ok (.bipush 111, 2) := by decide +kernel
theorem d_Wds_isProve_59 : decode b_Wds_isProve 59 = .ok (.if_icmp .ne 39, 3) := by decide +kernel
theorem d_Wds_isProve_62 : decode b_Wds_isProve 62 = .ok (.aload_n 0, 1) := by decide +kernel
theorem d_Wds_isProve_63 : decode b_Wds_isProve 63 = .ok (.getfield 9, 3) := by decide +kernel
theorem d_Wds_isProve_66 : decode b_Wds_isProve 66 = .ok (.aload_n 0, 1) := by decide +kernel
theorem d_Wds_isProve_67 : decode b_Wds_isProve 67 = .ok (.getfield 42, 3) := by decide +kernel
theorem d_Wds_isProve_70 : decode b_Wds_isProve 70 = .ok (.iconst 3, 1) := by decide +kernel
theorem d_Wds_isProve_71 : decode b_Wds_isProve 71 = .ok (.iadd, 1) := by decide +kernel
theorem d_Wds_isProve_72 : decode b_Wds_isProve 72 = .ok (.iaload, 1) := by decide +kernel
theorem d_Wds_isProve_73 : decode b_Wds_isProve 73 = .ok (.bipush 118, 2) := by decide +kernel
theorem d_Wds_isProve_75 : decode b_Wds_isProve 75 = .ok (.if_icmp .ne 23, 3) := by decide +kernel
theorem d_Wds_isProve_78 : decode b_Wds_isProve 78 = .ok (.aload_n 0, 1) := by decide +kernel
theorem d_Wds_isProve_79 : decode b_Wds_isProve 79 = .ok (.getfield 9, 3) := by decide +kernel
theorem d_Wds_isProve_82 : decode b_Wds_isProve 82 = .ok (.aload_n 0, 1) := by decide +kernel
theorem d_Wds_isProve_83 : decode b_Wds_isProve 83 = .ok (.getfield 42, 3) := by decide +kernel
theorem d_Wds_isProve_86 : decode b_Wds_isProve 86 = .ok (.iconst 4, 1) := by decide +kernel
theorem d_Wds_isProve_87 : decode b_Wds_isProve 87 = .ok (.iadd, 1) := by decide +kernel
theorem d_Wds_isProve_88 : decode b_Wds_isProve 88 = .ok (.iaload, 1) := by decide +kernel
theorem d_Wds_isProve_89 : decode b_Wds_isProve 89 = .ok (.bipush 101, 2) := by decide +kernel
theorem d_Wds_isProve_91 : decode b_Wds_isProve 91 = .ok (.if_icmp .ne 7, 3) := by decide +kernel
theorem d_Wds_isProve_94 : decode b_Wds_isProve 94 = .ok (.iconst 1, 1) := by decide +kernel
theorem d_Wds_isProve_95 : decode b_Wds_isProve 95 = .ok (.goto 4, 3) := by decide +kernel
theorem d_Wds_isProve_98 : decode b_Wds_isProve 98 = .ok (.iconst 0, 1) := by decide +kernel
theorem d_Wds_isProve_99 : decode b_Wds_isProve 99 = .ok (.ireturn, 1) := by decide +kernel
abbrev b_Wds_skipBlanks : ByteArray := prog_12_method_6_code
def y_Wds_skipBlanks : MethodName := ⟨"ClauseProver$Words", "skipBlanks", "()V"⟩
theorem d_Wds_skipBlanks_0 : decode b_Wds_skipBlanks 0 = .ok (.iconst 0, 1) := by decide +kernel
theorem d_Wds_skipBlanks_1 : decode b_Wds_skipBlanks 1 = .ok (.istore_n 1, 1) := by decide +kernel
theorem d_Wds_skipBlanks_2 : decode b_Wds_skipBlanks 2 = .ok (.aload_n 0, 1) := by decide +kernel
theorem d_Wds_skipBlanks_3 : decode b_Wds_skipBlanks 3 = .ok (.getfield 19, 3) := by decide +kernel
theorem d_Wds_skipBlanks_6 : decode b_Wds_skipBlanks 6 = .ok (.aload_n 0, 1) := by decide +kernel
theorem d_Wds_skipBlanks_7 : decode b_Wds_skipBlanks 7 = .ok (.getfield 15, 3) := by decide +kernel
theorem d_Wds_skipBlanks_10 : decode b_Wds_skipBlanks 10 = .ok (.if_icmp .ge 71, 3) := by decide +kernel
theorem d_Wds_skipBlanks_13 : decode b_Wds_skipBlanks 13 = .ok (.aload_n 0, 1) := by decide +kernel
theorem d_Wds_skipBlanks_14 : decode b_Wds_skipBlanks 14 = .ok (.getfield 9, 3) := by decide +kernel
theorem d_Wds_skipBlanks_17 : decode b_Wds_skipBlanks 17 = .ok (.aload_n 0, 1) := by decide +kernel
theorem d_Wds_skipBlanks_18 : decode b_Wds_skipBlanks 18 = .ok (.getfield 19, 3) := by decide +kernel
theorem d_Wds_skipBlanks_21 : decode b_Wds_skipBlanks 21 = .ok (.iaload, 1) := by decide +kernel
theorem d_Wds_skipBlanks_22 : decode b_Wds_skipBlanks 22 = .ok (.istore_n 2, 1) := by decide +kernel
theorem d_Wds_skipBlanks_23 : decode b_Wds_skipBlanks 23 = .ok (.iload_n 2, 1) := by decide +kernel
theorem d_Wds_skipBlanks_24 : decode b_Wds_skipBlanks 24 = .ok (.bipush 10, 2) := by decide +kernel
theorem d_Wds_skipBlanks_26 : decode b_Wds_skipBlanks 26 = .ok (.if_icmp .ne 8, 3) := by decide +kernel
theorem d_Wds_skipBlanks_29 : decode b_Wds_skipBlanks 29 = .ok (.iconst 0, 1) := by decide +kernel
theorem d_Wds_skipBlanks_30 : decode b_Wds_skipBlanks 30 = .ok (.istore_n 1, 1) := by decide +kernel
theorem d_Wds_skipBlanks_31 : decode b_Wds_skipBlanks 31 = .ok (.goto 37, 3) := by decide +kernel
theorem d_Wds_skipBlanks_34 : decode b_Wds_skipBlanks 34 = .ok (.iload_n 2, 1) := by decide +kernel
theorem d_Wds_skipBlanks_35 : decode b_Wds_skipBlanks 35 = .ok (.bipush 37, 2) := by decide +kernel
theorem d_Wds_skipBlanks_37 : decode b_Wds_skipBlanks 37 = .ok (.if_icmp .ne 8, 3) := by decide +kernel
theorem d_Wds_skipBlanks_40 : decode b_Wds_skipBlanks 40 = .ok (.iconst 1, 1) := by decide +kernel
theorem d_Wds_skipBlanks_41 : decode b_Wds_skipBlanks 41 = .ok (.istore_n 1, 1) := by decide +kernel
theorem d_Wds_skipBlanks_42 : decode b_Wds_skipBlanks 42 = .ok (.goto 26, 3) := by decide +kernel
theorem d_Wds_skipBlanks_45 : decode b_Wds_skipBlanks 45 = .ok (.iload_n 1, 1) := by decide +kernel
theorem d_Wds_skipBlanks_46 : decode b_Wds_skipBlanks 46 = .ok (.ifCond .ne 22, 3) := by decide +kernel
theorem d_Wds_skipBlanks_49 : decode b_Wds_skipBlanks 49 = .ok (.iload_n 2, 1) := by decide +kernel
theorem d_Wds_skipBlanks_50 : decode b_Wds_skipBlanks 50 = .ok (.bipush 32, 2) := by decide +kernel
theorem d_Wds_skipBlanks_52 : decode b_Wds_skipBlanks 52 = .ok (.if_icmp .eq 16, 3) := by decide +kernel
theorem d_Wds_skipBlanks_55 : decode b_Wds_skipBlanks 55 = .ok (.iload_n 2, 1) := by decide +kernel
theorem d_Wds_skipBlanks_56 : decode b_Wds_skipBlanks 56 = .ok (.bipush 9, 2) := by decide +kernel
theorem d_Wds_skipBlanks_58 : decode b_Wds_skipBlanks 58 = .ok (.if_icmp .eq 10, 3) := by decide +kernel
theorem d_Wds_skipBlanks_61 : decode b_Wds_skipBlanks 61 = .ok (.iload_n 2, 1) := by decide +kernel
theorem d_Wds_skipBlanks_62 : decode b_Wds_skipBlanks 62 = .ok (.bipush 13, 2) := by decide +kernel
theorem d_Wds_skipBlanks_64 : decode b_Wds_skipBlanks 64 = .ok (.if_icmp .eq 4, 3) := by decide +kernel
theorem d_Wds_skipBlanks_67 : decode b_Wds_skipBlanks 67 = .ok (.return_, 1) := by decide +kernel
theorem d_Wds_skipBlanks_68 : decode b_Wds_skipBlanks 68 = .ok (.aload_n 0, 1) := by decide +kernel
theorem d_Wds_skipBlanks_69 : decode b_Wds_skipBlanks 69 = .ok (.dup, 1) := by decide +kernel
theorem d_Wds_skipBlanks_70 : decode b_Wds_skipBlanks 70 = .ok (.getfield 19, 3) := by decide +kernel
theorem d_Wds_skipBlanks_73 : decode b_Wds_skipBlanks 73 = .ok (.iconst 1, 1) := by decide +kernel
theorem d_Wds_skipBlanks_74 : decode b_Wds_skipBlanks 74 = .ok (.iadd, 1) := by decide +kernel
theorem d_Wds_skipBlanks_75 : decode b_Wds_skipBlanks 75 = .ok (.putfield 19, 3) := by decide +kernel
theorem d_Wds_skipBlanks_78 : decode b_Wds_skipBlanks 78 = .ok (.goto (-76), 3) := by decide +kernel
theorem d_Wds_skipBlanks_81 : decode b_Wds_skipBlanks 81 = .ok (.return_, 1) := by decide +kernel
abbrev b_Wds_takeSign : ByteArray := prog_12_method_8_code
def y_Wds_takeSign : MethodName := ⟨"ClauseProver$Words", "takeSign", "(II)V"⟩
theorem d_Wds_takeSign_0 : decode b_Wds_takeSign 0 = .ok (.aload_n 0, 1) := by decide +kernel
theorem d_Wds_takeSign_1 : decode b_Wds_takeSign 1 = .ok (.iconst 1, 1) := by decide +kernel
theorem d_Wds_takeSign_2 : decode b_Wds_takeSign 2 = .ok (.putfield 39, 3) := by decide +kernel
theorem d_Wds_takeSign_5 : decode b_Wds_takeSign 5 = .ok (.aload_n 0, 1) := by decide +kernel
theorem d_Wds_takeSign_6 : decode b_Wds_takeSign 6 = .ok (.getfield 9, 3) := by decide +kernel
theorem d_Wds_takeSign_9 : decode b_Wds_takeSign 9 = .ok (.aload_n 0, 1) := by decide +kernel
theorem d_Wds_takeSign_10 : decode b_Wds_takeSign 10 = .ok (.getfield 19, 3) := by decide +kernel
theorem d_Wds_takeSign_13 : decode b_Wds_takeSign 13 = .ok (.iaload, 1) := by decide +kernel
theorem d_Wds_takeSign_14 : decode b_Wds_takeSign 14 = .ok (.lookupswitch 297 #[(33, 185), (38, 167), (40, 114), (41, 122), (44, 131), (46, 106), (58, 140), (60, 255), (61, 220), (63, 158), (124, 176), (126, 149)], 106) := by decide +kernel
theorem d_Wds_takeSign_120 : decode b_Wds_takeSign 120 = .ok (.aload_n 0, 1) := by decide +kernel
theorem d_Wds_takeSign_121 : decode b_Wds_takeSign 121 = .ok (.iconst 4, 1) := by decide +kernel
theorem d_Wds_takeSign_122 : decode b_Wds_takeSign 122 = .ok (.putfield 28, 3) := by decide +kernel
theorem d_Wds_takeSign_125 : decode b_Wds_takeSign 125 = .ok (.goto 191, 3) := by decide +kernel
theorem d_Wds_takeSign_128 : decode b_Wds_takeSign 128 = .ok (.aload_n 0, 1) := by decide +kernel
theorem d_Wds_takeSign_129 : decode b_Wds_takeSign 129 = .ok (.iconst 5, 1) := by decide +kernel
theorem d_Wds_takeSign_130 : decode b_Wds_takeSign 130 = .ok (.putfield 28, 3) := by decide +kernel
theorem d_Wds_takeSign_133 : decode b_Wds_takeSign 133 = .ok (.goto 183, 3) := by decide +kernel
theorem d_Wds_takeSign_136 : decode b_Wds_takeSign 136 = .ok (.aload_n 0, 1) := by decide +kernel
theorem d_Wds_takeSign_137 : decode b_Wds_takeSign 137 = .ok (.bipush 6, 2) := by decide +kernel
theorem d_Wds_takeSign_139 : decode b_Wds_takeSign 139 = .ok (.putfield 28, 3) := by decide +kernel
theorem d_Wds_takeSign_142 : decode b_Wds_takeSign 142 = .ok (.goto 174, 3) := by decide +kernel
theorem d_Wds_takeSign_145 : decode b_Wds_takeSign 145 = .ok (.aload_n 0, 1) := by decide +kernel
theorem d_Wds_takeSign_146 : decode b_Wds_takeSign 146 = .ok (.bipush 7, 2) := by decide +kernel
theorem d_Wds_takeSign_148 : decode b_Wds_takeSign 148 = .ok (.putfield 28, 3) := by decide +kernel
theorem d_Wds_takeSign_151 : decode b_Wds_takeSign 151 = .ok (.goto 165, 3) := by decide +kernel
theorem d_Wds_takeSign_154 : decode b_Wds_takeSign 154 = .ok (.aload_n 0, 1) := by decide +kernel
theorem d_Wds_takeSign_155 : decode b_Wds_takeSign 155 = .ok (.bipush 8, 2) := by decide +kernel
theorem d_Wds_takeSign_157 : decode b_Wds_takeSign 157 = .ok (.putfield 28, 3) := by decide +kernel
theorem d_Wds_takeSign_160 : decode b_Wds_takeSign 160 = .ok (.goto 156, 3) := by decide +kernel
theorem d_Wds_takeSign_163 : decode b_Wds_takeSign 163 = .ok (.aload_n 0, 1) := by decide +kernel
theorem d_Wds_takeSign_164 : decode b_Wds_takeSign 164 = .ok (.bipush 11, 2) := by decide +kernel
theorem d_Wds_takeSign_166 : decode b_Wds_takeSign 166 = .ok (.putfield 28, 3) := by decide +kernel
theorem d_Wds_takeSign_169 : decode b_Wds_takeSign 169 = .ok (.goto 147, 3) := by decide +kernel
theorem d_Wds_takeSign_172 : decode b_Wds_takeSign 172 = .ok (.aload_n 0, 1) := by decide +kernel
theorem d_Wds_takeSign_173 : decode b_Wds_takeSign 173 = .ok (.bipush 13, 2) := by decide +kernel
theorem d_Wds_takeSign_175 : decode b_Wds_takeSign 175 = .ok (.putfield 28, 3) := by decide +kernel
theorem d_Wds_takeSign_178 : decode b_Wds_takeSign 178 = .ok (.goto 138, 3) := by decide +kernel
theorem d_Wds_takeSign_181 : decode b_Wds_takeSign 181 = .ok (.aload_n 0, 1) := by decide +kernel
theorem d_Wds_takeSign_182 : decode b_Wds_takeSign 182 = .ok (.bipush 14, 2) := by decide +kernel
theorem d_Wds_takeSign_184 : decode b_Wds_takeSign 184 = .ok (.putfield 28, 3) := by decide +kernel
theorem d_Wds_takeSign_187 : decode b_Wds_takeSign 187 = .ok (.goto 129, 3) := by decide +kernel
theorem d_Wds_takeSign_190 : decode b_Wds_takeSign 190 = .ok (.aload_n 0, 1) := by decide +kernel
theorem d_Wds_takeSign_191 : decode b_Wds_takeSign 191 = .ok (.bipush 15, 2) := by decide +kernel
theorem d_Wds_takeSign_193 : decode b_Wds_takeSign 193 = .ok (.putfield 28, 3) := by decide +kernel
theorem d_Wds_takeSign_196 : decode b_Wds_takeSign 196 = .ok (.goto 120, 3) := by decide +kernel
theorem d_Wds_takeSign_199 : decode b_Wds_takeSign 199 = .ok (.aload_n 0, 1) := by decide +kernel
theorem d_Wds_takeSign_200 : decode b_Wds_takeSign 200 = .ok (.iload_n 1, 1) := by decide +kernel
theorem d_Wds_takeSign_201 : decode b_Wds_takeSign 201 = .ok (.bipush 61, 2) := by decide +kernel
theorem d_Wds_takeSign_203 : decode b_Wds_takeSign 203 = .ok (.if_icmp .ne 7, 3) := by decide +kernel
theorem d_Wds_takeSign_206 : decode b_Wds_takeSign 206 = .ok (.iconst 2, 1) := by decide +kernel
theorem d_Wds_takeSign_207 : decode b_Wds_takeSign 207 = .ok (.goto 4, 3) := by decide +kernel
theorem d_Wds_takeSign_210 : decode b_Wds_takeSign 210 = .ok (.iconst 1, 1) := by decide +kernel
theorem d_Wds_takeSign_211 : decode b_Wds_takeSign 211 = .ok (.putfield 39, 3) := by decide +kernel
theorem d_Wds_takeSign_214 : decode b_Wds_takeSign 214 = .ok (.aload_n 0, 1) := by decide +kernel
theorem d_Wds_takeSign_215 : decode b_Wds_takeSign 215 = .ok (.iload_n 1, 1) := by decide +kernel
theorem d_Wds_takeSign_216 : decode b_Wds_takeSign 216 = .ok (.bipush 61, 2) := by decide +kernel
theorem d_Wds_takeSign_218 : decode b_Wds_takeSign 218 = .ok (.if_icmp .ne 8, 3) := by decide +kernel
theorem d_Wds_takeSign_221 : decode b_Wds_takeSign 221 = .ok (.bipush 10, 2) := by decide +kernel
theorem d_Wds_takeSign_223 : decode b_Wds_takeSign 223 = .ok (.goto 5, 3) := by decide +kernel
theorem d_Wds_takeSign_226 : decode b_Wds_takeSign 226 = .ok (.bipush 12, 2) := by decide +kernel
theorem d_Wds_takeSign_228 : decode b_Wds_takeSign 228 = .ok (.putfield 28, 3) := by decide +kernel
theorem d_Wds_takeSign_231 : decode b_Wds_takeSign 231 = .ok (.goto 85, 3) := by decide +kernel
theorem d_Wds_takeSign_234 : decode b_Wds_takeSign 234 = .ok (.aload_n 0, 1) := by decide +kernel
theorem d_Wds_takeSign_235 : decode b_Wds_takeSign 235 = .ok (.iload_n 1, 1) := by decide +kernel
theorem d_Wds_takeSign_236 : decode b_Wds_takeSign 236 = .ok (.bipush 62, 2) := by decide +kernel
theorem d_Wds_takeSign_238 : decode b_Wds_takeSign 238 = .ok (.if_icmp .ne 7, 3) := by decide +kernel
theorem d_Wds_takeSign_241 : decode b_Wds_takeSign 241 = .ok (.iconst 2, 1) := by decide +kernel
theorem d_Wds_takeSign_242 : decode b_Wds_takeSign 242 = .ok (.goto 4, 3) := by decide +kernel
theorem d_Wds_takeSign_245 : decode b_Wds_takeSign 245 = .ok (.iconst 1, 1) := by decide +kernel
theorem d_Wds_takeSign_246 : decode b_Wds_takeSign 246 = .ok (.putfield 39, 3) := by decide +kernel
theorem d_Wds_takeSign_249 : decode b_Wds_takeSign 249 = .ok (.aload_n 0, 1) := by decide +kernel
theorem d_Wds_takeSign_250 : decode b_Wds_takeSign 250 = .ok (.iload_n 1, 1) := by decide +kernel
theorem d_Wds_takeSign_251 : decode b_Wds_takeSign 251 = .ok (.bipush 62, 2) := by decide +kernel
theorem d_Wds_takeSign_253 : decode b_Wds_takeSign 253 = .ok (.if_icmp .ne 8, 3) := by decide +kernel
theorem d_Wds_takeSign_256 : decode b_Wds_takeSign 256 = .ok (.bipush 16, 2) := by decide +kernel
theorem d_Wds_takeSign_258 : decode b_Wds_takeSign 258 = .ok (.goto 5, 3) := by decide +kernel
theorem d_Wds_takeSign_261 : decode b_Wds_takeSign 261 = .ok (.bipush 9, 2) := by decide +kernel
theorem d_Wds_takeSign_263 : decode b_Wds_takeSign 263 = .ok (.putfield 28, 3) := by decide +kernel
theorem d_Wds_takeSign_266 : decode b_Wds_takeSign 266 = .ok (.goto 50, 3) := by decide +kernel
theorem d_Wds_takeSign_269 : decode b_Wds_takeSign 269 = .ok (.aload_n 0, 1) := by decide +kernel
theorem d_Wds_takeSign_270 : decode b_Wds_takeSign 270 = .ok (.iload_n 1, 1) := by decide +kernel
theorem d_Wds_takeSign_271 : decode b_Wds_takeSign 271 = .ok (.bipush 61, 2) := by decide +kernel
theorem d_Wds_takeSign_273 : decode b_Wds_takeSign 273 = .ok (.if_icmp .ne 13, 3) := by decide +kernel
theorem d_Wds_takeSign_276 : decode b_Wds_takeSign 276 = .ok (.iload_n 2, 1) := by decide +kernel
theorem d_Wds_takeSign_277 : decode b_Wds_takeSign 277 = .ok (.bipush 62, 2) := by decide +kernel
theorem d_Wds_takeSign_279 : decode b_Wds_takeSign 279 = .ok (.if_icmp .ne 7, 3) := by decide +kernel
theorem d_Wds_takeSign_282 : decode b_Wds_takeSign 282 = .ok (.iconst 3, 1) := by decide +kernel
theorem d_Wds_takeSign_283 : decode b_Wds_takeSign 283 = .ok (.goto 4, 3) := by decide +kernel
theorem d_Wds_takeSign_286 : decode b_Wds_takeSign 286 = .ok (.iconst 1, 1) := by decide +kernel
theorem d_Wds_takeSign_287 : decode b_Wds_takeSign 287 = .ok (.putfield 39, 3) := by decide +kernel
theorem d_Wds_takeSign_290 : decode b_Wds_takeSign 290 = .ok (.aload_n 0, 1) := by decide +kernel
theorem d_Wds_takeSign_291 : decode b_Wds_takeSign 291 = .ok (.aload_n 0, 1) := by decide +kernel
theorem d_Wds_takeSign_292 : decode b_Wds_takeSign 292 = .ok (.getfield 39, 3) := by decide +kernel
theorem d_Wds_takeSign_295 : decode b_Wds_takeSign 295 = .ok (.iconst 3, 1) := by decide +kernel
theorem d_Wds_takeSign_296 : decode b_Wds_takeSign 296 = .ok (.if_icmp .ne 8, 3) := by decide +kernel
theorem d_Wds_takeSign_299 : decode b_Wds_takeSign 299 = .ok (.bipush 17, 2) := by decide +kernel
theorem d_Wds_takeSign_301 : decode b_Wds_takeSign 301 = .ok (.goto 4, 3) := by decide +kernel
theorem d_Wds_takeSign_304 : decode b_Wds_takeSign 304 = .ok (.iconst 1, 1) := by decide +kernel
theorem d_Wds_takeSign_305 : decode b_Wds_takeSign 305 = .ok (.putfield 28, 3) := by decide +kernel
theorem d_Wds_takeSign_308 : decode b_Wds_takeSign 308 = .ok (.goto 8, 3) := by decide +kernel
theorem d_Wds_takeSign_311 : decode b_Wds_takeSign 311 = .ok (.aload_n 0, 1) := by decide +kernel
theorem d_Wds_takeSign_312 : decode b_Wds_takeSign 312 = .ok (.iconst 1, 1) := by decide +kernel
theorem d_Wds_takeSign_313 : decode b_Wds_takeSign 313 = .ok (.putfield 28, 3) := by decide +kernel
theorem d_Wds_takeSign_316 : decode b_Wds_takeSign 316 = .ok (.return_, 1) := by decide +kernel
abbrev b_Wds_takeWord : ByteArray := prog_12_method_7_code
def y_Wds_takeWord : MethodName := ⟨"ClauseProver$Words", "takeWord", "()V"⟩
theorem d_Wds_takeWord_0 : decode b_Wds_takeWord 0 = .ok (.iconst 1, 1) := by decide +kernel
theorem d_Wds_takeWord_1 : decode b_Wds_takeWord 1 = .ok (.istore_n 1, 1) := by decide +kernel
theorem d_Wds_takeWord_2 : decode b_Wds_takeWord 2 = .ok (.iload_n 1, 1) := by decide +kernel
theorem d_Wds_takeWord_3 : decode b_Wds_takeWord 3 = .ok (.ifCond .eq 97, 3) := by decide +kernel
theorem d_Wds_takeWord_6 : decode b_Wds_takeWord 6 = .ok (.aload_n 0, 1) := by decide +kernel
theorem d_Wds_takeWord_7 : decode b_Wds_takeWord 7 = .ok (.getfield 19, 3) := by decide +kernel
theorem d_Wds_takeWord_10 : decode b_Wds_takeWord 10 = .ok (.aload_n 0, 1) := by decide +kernel
theorem d_Wds_takeWord_11 : decode b_Wds_takeWord 11 = .ok (.getfield 39, 3) := by decide +kernel
theorem d_Wds_takeWord_14 : decode b_Wds_takeWord 14 = .ok (.iadd, 1) := by decide +kernel
theorem d_Wds_takeWord_15 : decode b_Wds_takeWord 15 = .ok (.aload_n 0, 1) := by decide +kernel
theorem d_Wds_takeWord_16 : decode b_Wds_takeWord 16 = .ok (.getfield 15, 3) := by decide +kernel
theorem d_Wds_takeWord_19 : decode b_Wds_takeWord 19 = .ok (.if_icmp .ge 81, 3) := by decide +kernel
theorem d_Wds_takeWord_22 : decode b_Wds_takeWord 22 = .ok (.aload_n 0, 1) := by decide +kernel
theorem d_Wds_takeWord_23 : decode b_Wds_takeWord 23 = .ok (.getfield 9, 3) := by decide +kernel
theorem d_Wds_takeWord_26 : decode b_Wds_takeWord 26 = .ok (.aload_n 0, 1) := by decide +kernel
theorem d_Wds_takeWord_27 : decode b_Wds_takeWord 27 = .ok (.getfield 19, 3) := by decide +kernel
theorem d_Wds_takeWord_30 : decode b_Wds_takeWord 30 = .ok (.aload_n 0, 1) := by decide +kernel
theorem d_Wds_takeWord_31 : decode b_Wds_takeWord 31 = .ok (.getfield 39, 3) := by decide +kernel
theorem d_Wds_takeWord_34 : decode b_Wds_takeWord 34 = .ok (.iadd, 1) := by decide +kernel
theorem d_Wds_takeWord_35 : decode b_Wds_takeWord 35 = .ok (.iaload, 1) := by decide +kernel
theorem d_Wds_takeWord_36 : decode b_Wds_takeWord 36 = .ok (.istore_n 2, 1) := by decide +kernel
theorem d_Wds_takeWord_37 : decode b_Wds_takeWord 37 = .ok (.iload_n 2, 1) := by decide +kernel
theorem d_Wds_takeWord_38 : decode b_Wds_takeWord 38 = .ok (.bipush 32, 2) := by decide +kernel
theorem d_Wds_takeWord_40 : decode b_Wds_takeWord 40 = .ok (.ior, 1) := by decide +kernel
theorem d_Wds_takeWord_41 : decode b_Wds_takeWord 41 = .ok (.bipush 97, 2) := by decide +kernel
theorem d_Wds_takeWord_43 : decode b_Wds_takeWord 43 = .ok (.if_icmp .lt 12, 3) := by decide +kernel
theorem d_Wds_takeWord_46 : decode b_Wds_takeWord 46 = .ok (.iload_n 2, 1) := by decide +kernel
theorem d_Wds_takeWord_47 : decode b_Wds_takeWord 47 = .ok (.bipush 32, 2) := by decide +kernel
theorem d_Wds_takeWord_49 : decode b_Wds_takeWord 49 = .ok (.ior, 1) := by decide +kernel
theorem d_Wds_takeWord_50 : decode b_Wds_takeWord 50 = .ok (.bipush 122, 2) := by decide +kernel
theorem d_Wds_takeWord_52 : decode b_Wds_takeWord 52 = .ok (.if_icmp .le 21, 3) := by decide +kernel
theorem d_Wds_takeWord_55 : decode b_Wds_takeWord 55 = .ok (.iload_n 2, 1) := by decide +kernel
theorem d_Wds_takeWord_56 : decode b_Wds_takeWord 56 = .ok (.bipush 48, 2) := by decide +kernel
theorem d_Wds_takeWord_58 : decode b_Wds_takeWord 58 = .ok (.if_icmp .lt 9, 3) := by decide +kernel
theorem d_Wds_takeWord_61 : decode b_Wds_takeWord 61 = .ok (.iload_n 2, 1) := by decide +kernel
theorem d_Wds_takeWord_62 : decode b_Wds_takeWord 62 = .ok (.bipush 57, 2) := by decide +kernel
theorem d_Wds_takeWord_64 : decode b_Wds_takeWord 64 = .ok (.if_icmp .le 9, 3) := by decide +kernel
theorem d_Wds_takeWord_67 : decode b_Wds_takeWord 67 = .ok (.iload_n 2, 1) := by decide +kernel
theorem d_Wds_takeWord_68 : decode b_Wds_takeWord 68 = .ok (.bipush 95, 2) := by decide +kernel
theorem d_Wds_takeWord_70 : decode b_Wds_takeWord 70 = .ok (.if_icmp .ne 7, 3) := by decide +kernel
theorem d_Wds_takeWord_73 : decode b_Wds_takeWord 73 = .ok (.iconst 1, 1) := by decide +kernel
theorem d_Wds_takeWord_74 : decode b_Wds_takeWord 74 = .ok (.goto 4, 3) := by decide +kernel
theorem d_Wds_takeWord_77 : decode b_Wds_takeWord 77 = .ok (.iconst 0, 1) := by decide +kernel
theorem d_Wds_takeWord_78 : decode b_Wds_takeWord 78 = .ok (.istore_n 1, 1) := by decide +kernel
theorem d_Wds_takeWord_79 : decode b_Wds_takeWord 79 = .ok (.aload_n 0, 1) := by decide +kernel
theorem d_Wds_takeWord_80 : decode b_Wds_takeWord 80 = .ok (.dup, 1) := by decide +kernel
theorem d_Wds_takeWord_81 : decode b_Wds_takeWord 81 = .ok (.getfield 39, 3) := by decide +kernel
theorem d_Wds_takeWord_84 : decode b_Wds_takeWord 84 = .ok (.iload_n 1, 1) := by decide +kernel
theorem d_Wds_takeWord_85 : decode b_Wds_takeWord 85 = .ok (.ifCond .eq 7, 3) := by decide +kernel
theorem d_Wds_takeWord_88 : decode b_Wds_takeWord 88 = .ok (.iconst 1, 1) := by decide +kernel
theorem d_Wds_takeWord_89 : decode b_Wds_takeWord 89 = .ok (.goto 4, 3) := by decide +kernel
theorem d_Wds_takeWord_92 : decode b_Wds_takeWord 92 = .ok (.iconst 0, 1) := by decide +kernel
theorem d_Wds_takeWord_93 : decode b_Wds_takeWord 93 = .ok (.iadd, 1) := by decide +kernel
theorem d_Wds_takeWord_94 : decode b_Wds_takeWord 94 = .ok (.putfield 39, 3) := by decide +kernel
theorem d_Wds_takeWord_97 : decode b_Wds_takeWord 97 = .ok (.goto (-95), 3) := by decide +kernel
theorem d_Wds_takeWord_100 : decode b_Wds_takeWord 100 = .ok (.aload_n 0, 1) := by decide +kernel
theorem d_Wds_takeWord_101 : decode b_Wds_takeWord 101 = .ok (.getfield 9, 3) := by decide +kernel
theorem d_Wds_takeWord_104 : decode b_Wds_takeWord 104 = .ok (.aload_n 0, 1) := by decide +kernel
theorem d_Wds_takeWord_105 : decode b_Wds_takeWord 105 = .ok (.getfield 19, 3) := by decide +kernel
theorem d_Wds_takeWord_108 : decode b_Wds_takeWord 108 = .ok (.iaload, 1) := by decide +kernel
theorem d_Wds_takeWord_109 : decode b_Wds_takeWord 109 = .ok (.bipush 90, 2) := by decide +kernel
theorem d_Wds_takeWord_111 : decode b_Wds_takeWord 111 = .ok (.if_icmp .gt 7, 3) := by decide +kernel
theorem d_Wds_takeWord_114 : decode b_Wds_takeWord 114 = .ok (.iconst 1, 1) := by decide +kernel
theorem d_Wds_takeWord_115 : decode b_Wds_takeWord 115 = .ok (.goto 4, 3) := by decide +kernel
theorem d_Wds_takeWord_118 : decode b_Wds_takeWord 118 = .ok (.iconst 0, 1) := by decide +kernel
theorem d_Wds_takeWord_119 : decode b_Wds_takeWord 119 = .ok (.istore_n 2, 1) := by decide +kernel
theorem d_Wds_takeWord_120 : decode b_Wds_takeWord 120 = .ok (.aload_n 0, 1) := by decide +kernel
theorem d_Wds_takeWord_121 : decode b_Wds_takeWord 121 = .ok (.aload_n 0, 1) := by decide +kernel
theorem d_Wds_takeWord_122 : decode b_Wds_takeWord 122 = .ok (.getfield 39, 3) := by decide +kernel
theorem d_Wds_takeWord_125 : decode b_Wds_takeWord 125 = .ok (.bipush 31, 2) := by decide +kernel
theorem d_Wds_takeWord_127 : decode b_Wds_takeWord 127 = .ok (.if_icmp .le 7, 3) := by decide +kernel
theorem d_Wds_takeWord_130 : decode b_Wds_takeWord 130 = .ok (.iconst 1, 1) := by decide +kernel
theorem d_Wds_takeWord_131 : decode b_Wds_takeWord 131 = .ok (.goto 12, 3) := by decide +kernel
theorem d_Wds_takeWord_134 : decode b_Wds_takeWord 134 = .ok (.iload_n 2, 1) := by decide +kernel
theorem d_Wds_takeWord_135 : decode b_Wds_takeWord 135 = .ok (.ifCond .eq 7, 3) := by decide +kernel
theorem d_Wds_takeWord_138 : decode b_Wds_takeWord 138 = .ok (.iconst 3, 1) := by decide +kernel
theorem d_Wds_takeWord_139 : decode b_Wds_takeWord 139 = .ok (.goto 4, 3) := by decide +kernel
theorem d_Wds_takeWord_142 : decode b_Wds_takeWord 142 = .ok (.iconst 2, 1) := by decide +kernel
theorem d_Wds_takeWord_143 : decode b_Wds_takeWord 143 = .ok (.putfield 28, 3) := by decide +kernel
theorem d_Wds_takeWord_146 : decode b_Wds_takeWord 146 = .ok (.return_, 1) := by decide +kernel
abbrev b_Integer_numberOfTrailingZeros : ByteArray := prog_22_method_48_code
def y_Integer_numberOfTrailingZeros : MethodName := ⟨"java/lang/Integer", "numberOfTrailingZeros", "(I)I"⟩
theorem d_Integer_numberOfTrailingZeros_0 : decode b_Integer_numberOfTrailingZeros 0 = .ok (.iload_n 0, 1) := by decide +kernel
theorem d_Integer_numberOfTrailingZeros_1 : decode b_Integer_numberOfTrailingZeros 1 = .ok (.iconst (-1), 1) := by decide +kernel
theorem d_Integer_numberOfTrailingZeros_2 : decode b_Integer_numberOfTrailingZeros 2 = .ok (.ixor, 1) := by decide +kernel
theorem d_Integer_numberOfTrailingZeros_3 : decode b_Integer_numberOfTrailingZeros 3 = .ok (.iload_n 0, 1) := by decide +kernel
theorem d_Integer_numberOfTrailingZeros_4 : decode b_Integer_numberOfTrailingZeros 4 = .ok (.iconst 1, 1) := by decide +kernel
theorem d_Integer_numberOfTrailingZeros_5 : decode b_Integer_numberOfTrailingZeros 5 = .ok (.isub, 1) := by decide +kernel
theorem d_Integer_numberOfTrailingZeros_6 : decode b_Integer_numberOfTrailingZeros 6 = .ok (.iand, 1) := by decide +kernel
theorem d_Integer_numberOfTrailingZeros_7 : decode b_Integer_numberOfTrailingZeros 7 = .ok (.istore_n 0, 1) := by decide +kernel
theorem d_Integer_numberOfTrailingZeros_8 : decode b_Integer_numberOfTrailingZeros 8 = .ok (.iload_n 0, 1) := by decide +kernel
theorem d_Integer_numberOfTrailingZeros_9 : decode b_Integer_numberOfTrailingZeros 9 = .ok (.ifCond .gt 8, 3) := by decide +kernel
theorem d_Integer_numberOfTrailingZeros_12 : decode b_Integer_numberOfTrailingZeros 12 = .ok (.iload_n 0, 1) := by decide +kernel
theorem d_Integer_numberOfTrailingZeros_13 : decode b_Integer_numberOfTrailingZeros 13 = .ok (.bipush 32, 2) := by decide +kernel
theorem d_Integer_numberOfTrailingZeros_15 : decode b_Integer_numberOfTrailingZeros 15 = .ok (.iand, 1) := by decide +kernel
theorem d_Integer_numberOfTrailingZeros_16 : decode b_Integer_numberOfTrailingZeros 16 = .ok (.ireturn, 1) := by decide +kernel
theorem d_Integer_numberOfTrailingZeros_17 : decode b_Integer_numberOfTrailingZeros 17 = .ok (.iconst 1, 1) := by decide +kernel
theorem d_Integer_numberOfTrailingZeros_18 : decode b_Integer_numberOfTrailingZeros 18 = .ok (.istore_n 1, 1) := by decide +kernel
theorem d_Integer_numberOfTrailingZeros_19 : decode b_Integer_numberOfTrailingZeros 19 = .ok (.iload_n 0, 1) := by decide +kernel
theorem d_Integer_numberOfTrailingZeros_20 : decode b_Integer_numberOfTrailingZeros 20 = .ok (.ldc_w 264, 3) := by decide +kernel
theorem d_Integer_numberOfTrailingZeros_23 : decode b_Integer_numberOfTrailingZeros 23 = .ok (.if_icmp .le 11, 3) := by decide +kernel
theorem d_Integer_numberOfTrailingZeros_26 : decode b_Integer_numberOfTrailingZeros 26 = .ok (.iinc 1 16, 3) := by decide +kernel
theorem d_Integer_numberOfTrailingZeros_29 : decode b_Integer_numberOfTrailingZeros 29 = .ok (.iload_n 0, 1) := by decide +kernel
theorem d_Integer_numberOfTrailingZeros_30 : decode b_Integer_numberOfTrailingZeros 30 = .ok (.bipush 16, 2) := by decide +kernel
theorem d_Integer_numberOfTrailingZeros_32 : decode b_Integer_numberOfTrailingZeros 32 = .ok (.iushr, 1) := by decide +kernel
theorem d_Integer_numberOfTrailingZeros_33 : decode b_Integer_numberOfTrailingZeros 33 = .ok (.istore_n 0, 1) := by decide +kernel
theorem d_Integer_numberOfTrailingZeros_34 : decode b_Integer_numberOfTrailingZeros 34 = .ok (.iload_n 0, 1) := by decide +kernel
theorem d_Integer_numberOfTrailingZeros_35 : decode b_Integer_numberOfTrailingZeros 35 = .ok (.sipush 256, 3) := by decide +kernel
theorem d_Integer_numberOfTrailingZeros_38 : decode b_Integer_numberOfTrailingZeros 38 = .ok (.if_icmp .le 11, 3) := by decide +kernel
theorem d_Integer_numberOfTrailingZeros_41 : decode b_Integer_numberOfTrailingZeros 41 = .ok (.iinc 1 8, 3) := by decide +kernel
theorem d_Integer_numberOfTrailingZeros_44 : decode b_Integer_numberOfTrailingZeros 44 = .ok (.iload_n 0, 1) := by decide +kernel
theorem d_Integer_numberOfTrailingZeros_45 : decode b_Integer_numberOfTrailingZeros 45 = .ok (.bipush 8, 2) := by decide +kernel
theorem d_Integer_numberOfTrailingZeros_47 : decode b_Integer_numberOfTrailingZeros 47 = .ok (.iushr, 1) := by decide +kernel
theorem d_Integer_numberOfTrailingZeros_48 : decode b_Integer_numberOfTrailingZeros 48 = .ok (.istore_n 0, 1) := by decide +kernel
theorem d_Integer_numberOfTrailingZeros_49 : decode b_Integer_numberOfTrailingZeros 49 = .ok (.iload_n 0, 1) := by decide +kernel
theorem d_Integer_numberOfTrailingZeros_50 : decode b_Integer_numberOfTrailingZeros 50 = .ok (.bipush 16, 2) := by decide +kernel
theorem d_Integer_numberOfTrailingZeros_52 : decode b_Integer_numberOfTrailingZeros 52 = .ok (.if_icmp .le 10, 3) := by decide +kernel
theorem d_Integer_numberOfTrailingZeros_55 : decode b_Integer_numberOfTrailingZeros 55 = .ok (.iinc 1 4, 3) := by decide +kernel
theorem d_Integer_numberOfTrailingZeros_58 : decode b_Integer_numberOfTrailingZeros 58 = .ok (.iload_n 0, 1) := by decide +kernel
theorem d_Integer_numberOfTrailingZeros_59 : decode b_Integer_numberOfTrailingZeros 59 = .ok (.iconst 4, 1) := by decide +kernel
theorem d_Integer_numberOfTrailingZeros_60 : decode b_Integer_numberOfTrailingZeros 60 = .ok (.iushr, 1) := by decide +kernel
theorem d_Integer_numberOfTrailingZeros_61 : decode b_Integer_numberOfTrailingZeros 61 = .ok (.istore_n 0, 1) := by decide +kernel
theorem d_Integer_numberOfTrailingZeros_62 : decode b_Integer_numberOfTrailingZeros 62 = .ok (.iload_n 0, 1) := by decide +kernel
theorem d_Integer_numberOfTrailingZeros_63 : decode b_Integer_numberOfTrailingZeros 63 = .ok (.iconst 4, 1) := by decide +kernel
theorem d_Integer_numberOfTrailingZeros_64 : decode b_Integer_numberOfTrailingZeros 64 = .ok (.if_icmp .le 10, 3) := by decide +kernel
theorem d_Integer_numberOfTrailingZeros_67 : decode b_Integer_numberOfTrailingZeros 67 = .ok (.iinc 1 2, 3) := by decide +kernel
theorem d_Integer_numberOfTrailingZeros_70 : decode b_Integer_numberOfTrailingZeros 70 = .ok (.iload_n 0, 1) := by decide +kernel
theorem d_Integer_numberOfTrailingZeros_71 : decode b_Integer_numberOfTrailingZeros 71 = .ok (.iconst 2, 1) := by decide +kernel
theorem d_Integer_numberOfTrailingZeros_72 : decode b_Integer_numberOfTrailingZeros 72 = .ok (.iushr, 1) := by decide +kernel
theorem d_Integer_numberOfTrailingZeros_73 : decode b_Integer_numberOfTrailingZeros 73 = .ok (.istore_n 0, 1) := by decide +kernel
theorem d_Integer_numberOfTrailingZeros_74 : decode b_Integer_numberOfTrailingZeros 74 = .ok (.iload_n 1, 1) := by decide +kernel
theorem d_Integer_numberOfTrailingZeros_75 : decode b_Integer_numberOfTrailingZeros 75 = .ok (.iload_n 0, 1) := by decide +kernel
theorem d_Integer_numberOfTrailingZeros_76 : decode b_Integer_numberOfTrailingZeros 76 = .ok (.iconst 1, 1) := by decide +kernel
theorem d_Integer_numberOfTrailingZeros_77 : decode b_Integer_numberOfTrailingZeros 77 = .ok (.iushr, 1) := by decide +kernel
theorem d_Integer_numberOfTrailingZeros_78 : decode b_Integer_numberOfTrailingZeros 78 = .ok (.iadd, 1) := by decide +kernel
theorem d_Integer_numberOfTrailingZeros_79 : decode b_Integer_numberOfTrailingZeros 79 = .ok (.ireturn, 1) := by decide +kernel
