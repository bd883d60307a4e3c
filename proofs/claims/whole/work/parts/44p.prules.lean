abbrev b_CP_clause : ByteArray := prog_1_method_8_code
def y_CP_clause : MethodName := ⟨"ClauseProver", "clause", "(II)I"⟩
theorem d_CP_clause_0 : decode b_CP_clause 0 = .ok (.aload_n 0, 1) := by decide +kernel
theorem d_CP_clause_1 : decode b_CP_clause 1 = .ok (.getfield 60, 3) := by decide +kernel
theorem d_CP_clause_4 : decode b_CP_clause 4 = .ok (.iload_n 1, 1) := by decide +kernel
theorem d_CP_clause_5 : decode b_CP_clause 5 = .ok (.invokevirtual 150, 3) := by decide +kernel
theorem d_CP_clause_8 : decode b_CP_clause 8 = .ok (.ifCond .ne 13, 3) := by decide +kernel
theorem d_CP_clause_11 : decode b_CP_clause 11 = .ok (.new 154, 3) := by decide +kernel
theorem d_CP_clause_14 : decode b_CP_clause 14 = .ok (.dup, 1) := by decide +kernel
theorem d_CP_clause_15 : decode b_CP_clause 15 = .ok (.ldc 156, 2) := by decide +kernel
theorem d_CP_clause_17 : decode b_CP_clause 17 = .ok (.invokespecial 158, 3) := by decide +kernel
theorem d_CP_clause_20 : decode b_CP_clause 20 = .ok (.athrow, 1) := by decide +kernel
theorem d_CP_clause_21 : decode b_CP_clause 21 = .ok (.iload_n 2, 1) := by decide +kernel
theorem d_CP_clause_22 : decode b_CP_clause 22 = .ok (.ifCond .lt 9, 3) := by decide +kernel
theorem d_CP_clause_25 : decode b_CP_clause 25 = .ok (.iload_n 2, 1) := by decide +kernel
theorem d_CP_clause_26 : decode b_CP_clause 26 = .ok (.bipush 7, 2) := by decide +kernel
theorem d_CP_clause_28 : decode b_CP_clause 28 = .ok (.if_icmp .le 13, 3) := by decide +kernel
theorem d_CP_clause_31 : decode b_CP_clause 31 = .ok (.new 100, 3) := by decide +kernel
theorem d_CP_clause_34 : decode b_CP_clause 34 = .ok (.dup, 1) := by decide +kernel
theorem d_CP_clause_35 : decode b_CP_clause 35 = .ok (.ldc 159, 2) := by decide +kernel
theorem d_CP_clause_37 : decode b_CP_clause 37 = .ok (.invokespecial 104, 3) := by decide +kernel
theorem d_CP_clause_40 : decode b_CP_clause 40 = .ok (.athrow, 1) := by decide +kernel
theorem d_CP_clause_41 : decode b_CP_clause 41 = .ok (.aload_n 0, 1) := by decide +kernel
theorem d_CP_clause_42 : decode b_CP_clause 42 = .ok (.getfield 60, 3) := by decide +kernel
theorem d_CP_clause_45 : decode b_CP_clause 45 = .ok (.iload_n 1, 1) := by decide +kernel
theorem d_CP_clause_46 : decode b_CP_clause 46 = .ok (.iload_n 2, 1) := by decide +kernel
theorem d_CP_clause_47 : decode b_CP_clause 47 = .ok (.invokevirtual 161, 3) := by decide +kernel
theorem d_CP_clause_50 : decode b_CP_clause 50 = .ok (.ireturn, 1) := by decide +kernel
abbrev b_CP_end : ByteArray := prog_1_method_4_code
def y_CP_end : MethodName := ⟨"ClauseProver", "end", "(I)I"⟩
theorem d_CP_end_0 : decode b_CP_end 0 = .ok (.iload_n 1, 1) := by decide +kernel
theorem d_CP_end_1 : decode b_CP_end 1 = .ok (.ifCond .lt 14, 3) := by decide +kernel
theorem d_CP_end_4 : decode b_CP_end 4 = .ok (.iload_n 1, 1) := by decide +kernel
theorem d_CP_end_5 : decode b_CP_end 5 = .ok (.aload_n 0, 1) := by decide +kernel
theorem d_CP_end_6 : decode b_CP_end 6 = .ok (.getfield 14, 3) := by decide +kernel
theorem d_CP_end_9 : decode b_CP_end 9 = .ok (.getfield 82, 3) := by decide +kernel
theorem d_CP_end_12 : decode b_CP_end 12 = .ok (.if_icmp .le 13, 3) := by decide +kernel
theorem d_CP_end_15 : decode b_CP_end 15 = .ok (.new 100, 3) := by decide +kernel
theorem d_CP_end_18 : decode b_CP_end 18 = .ok (.dup, 1) := by decide +kernel
theorem d_CP_end_19 : decode b_CP_end 19 = .ok (.ldc 102, 2) := by decide +kernel
theorem d_CP_end_21 : decode b_CP_end 21 = .ok (.invokespecial 104, 3) := by decide +kernel
theorem d_CP_end_24 : decode b_CP_end 24 = .ok (.athrow, 1) := by decide +kernel
theorem d_CP_end_25 : decode b_CP_end 25 = .ok (.aload_n 0, 1) := by decide +kernel
theorem d_CP_end_26 : decode b_CP_end 26 = .ok (.getfield 14, 3) := by decide +kernel
theorem d_CP_end_29 : decode b_CP_end 29 = .ok (.iload_n 1, 1) := by decide +kernel
theorem d_CP_end_30 : decode b_CP_end 30 = .ok (.putfield 82, 3) := by decide +kernel
theorem d_CP_end_33 : decode b_CP_end 33 = .ok (.iload_n 1, 1) := by decide +kernel
theorem d_CP_end_34 : decode b_CP_end 34 = .ok (.ireturn, 1) := by decide +kernel
abbrev b_CP_feed : ByteArray := prog_1_method_2_code
def y_CP_feed : MethodName := ⟨"ClauseProver", "feed", "(IIIII)I"⟩
theorem d_CP_feed_0 : decode b_CP_feed 0 = .ok (.aload_n 0, 1) := by decide +kernel
theorem d_CP_feed_1 : decode b_CP_feed 1 = .ok (.getfield 14, 3) := by decide +kernel
theorem d_CP_feed_4 : decode b_CP_feed 4 = .ok (.getfield 82, 3) := by decide +kernel
theorem d_CP_feed_7 : decode b_CP_feed 7 = .ok (.bipush 20, 2) := by decide +kernel
theorem d_CP_feed_9 : decode b_CP_feed 9 = .ok (.iadd, 1) := by decide +kernel
theorem d_CP_feed_10 : decode b_CP_feed 10 = .ok (.ldc 86, 2) := by decide +kernel
theorem d_CP_feed_12 : decode b_CP_feed 12 = .ok (.if_icmp .le 13, 3) := by decide +kernel
theorem d_CP_feed_15 : decode b_CP_feed 15 = .ok (.new 87, 3) := by decide +kernel
theorem d_CP_feed_18 : decode b_CP_feed 18 = .ok (.dup, 1) := by decide +kernel
theorem d_CP_feed_19 : decode b_CP_feed 19 = .ok (.ldc 89, 2) := by decide +kernel
theorem d_CP_feed_21 : decode b_CP_feed 21 = .ok (.invokespecial 91, 3) := by decide +kernel
theorem d_CP_feed_24 : decode b_CP_feed 24 = .ok (.athrow, 1) := by decide +kernel
theorem d_CP_feed_25 : decode b_CP_feed 25 = .ok (.aload_n 0, 1) := by decide +kernel
theorem d_CP_feed_26 : decode b_CP_feed 26 = .ok (.iload_n 1, 1) := by decide +kernel
theorem d_CP_feed_27 : decode b_CP_feed 27 = .ok (.invokevirtual 94, 3) := by decide +kernel
theorem d_CP_feed_30 : decode b_CP_feed 30 = .ok (.aload_n 0, 1) := by decide +kernel
theorem d_CP_feed_31 : decode b_CP_feed 31 = .ok (.iload_n 2, 1) := by decide +kernel
theorem d_CP_feed_32 : decode b_CP_feed 32 = .ok (.invokevirtual 94, 3) := by decide +kernel
theorem d_CP_feed_35 : decode b_CP_feed 35 = .ok (.aload_n 0, 1) := by decide +kernel
theorem d_CP_feed_36 : decode b_CP_feed 36 = .ok (.iload_n 3, 1) := by decide +kernel
theorem d_CP_feed_37 : decode b_CP_feed 37 = .ok (.invokevirtual 94, 3) := by decide +kernel
theorem d_CP_feed_40 : decode b_CP_feed 40 = .ok (.aload_n 0, 1) := by decide +kernel
theorem d_CP_feed_41 : decode b_CP_feed 41 = .ok (.iload 4, 2) := by decide +kernel
theorem d_CP_feed_43 : decode b_CP_feed 43 = .ok (.invokevirtual 94, 3) := by decide +kernel
theorem d_CP_feed_46 : decode b_CP_feed 46 = .ok (.aload_n 0, 1) := by decide +kernel
theorem d_CP_feed_47 : decode b_CP_feed 47 = .ok (.iload 5, 2) := by decide +kernel
theorem d_CP_feed_49 : decode b_CP_feed 49 = .ok (.invokevirtual 94, 3) := by decide +kernel
theorem d_CP_feed_52 : decode b_CP_feed 52 = .ok (.aload_n 0, 1) := by decide +kernel
theorem d_CP_feed_53 : decode b_CP_feed 53 = .ok (.getfield 14, 3) := by decide +kernel
theorem d_CP_feed_56 : decode b_CP_feed 56 = .ok (.getfield 82, 3) := by decide +kernel
theorem d_CP_feed_59 : decode b_CP_feed 59 = .ok (.ireturn, 1) := by decide +kernel
abbrev b_CP_literal : ByteArray := prog_1_method_10_code
def y_CP_literal : MethodName := ⟨"ClauseProver", "literal", "(III)I"⟩
theorem d_CP_literal_0 : decode b_CP_literal 0 = .ok (.aload_n 0, 1) := by decide +kernel
theorem d_CP_literal_1 : decode b_CP_literal 1 = .ok (.getfield 60, 3) := by decide +kernel
theorem d_CP_literal_4 : decode b_CP_literal 4 = .ok (.iload_n 1, 1) := by decide +kernel
theorem d_CP_literal_5 : decode b_CP_literal 5 = .ok (.invokevirtual 150, 3) := by decide +kernel
theorem d_CP_literal_8 : decode b_CP_literal 8 = .ok (.ifCond .eq 20, 3) := by decide +kernel
theorem d_CP_literal_11 : decode b_CP_literal 11 = .ok (.iload_n 2, 1) := by decide +kernel
theorem d_CP_literal_12 : decode b_CP_literal 12 = .ok (.ifCond .lt 16, 3) := by decide +kernel
theorem d_CP_literal_15 : decode b_CP_literal 15 = .ok (.iload_n 2, 1) := by decide +kernel
theorem d_CP_literal_16 : decode b_CP_literal 16 = .ok (.aload_n 0, 1) := by decide +kernel
theorem d_CP_literal_17 : decode b_CP_literal 17 = .ok (.getfield 60, 3) := by decide +kernel
theorem d_CP_literal_20 : decode b_CP_literal 20 = .ok (.iload_n 1, 1) := by decide +kernel
theorem d_CP_literal_21 : decode b_CP_literal 21 = .ok (.iconst 3, 1) := by decide +kernel
theorem d_CP_literal_22 : decode b_CP_literal 22 = .ok (.invokevirtual 161, 3) := by decide +kernel
theorem d_CP_literal_25 : decode b_CP_literal 25 = .ok (.if_icmp .lt 13, 3) := by decide +kernel
theorem d_CP_literal_28 : decode b_CP_literal 28 = .ok (.new 154, 3) := by decide +kernel
theorem d_CP_literal_31 : decode b_CP_literal 31 = .ok (.dup, 1) := by decide +kernel
theorem d_CP_literal_32 : decode b_CP_literal 32 = .ok (.ldc 170, 2) := by decide +kernel
theorem d_CP_literal_34 : decode b_CP_literal 34 = .ok (.invokespecial 158, 3) := by decide +kernel
theorem d_CP_literal_37 : decode b_CP_literal 37 = .ok (.athrow, 1) := by decide +kernel
theorem d_CP_literal_38 : decode b_CP_literal 38 = .ok (.iload_n 3, 1) := by decide +kernel
theorem d_CP_literal_39 : decode b_CP_literal 39 = .ok (.ifCond .lt 8, 3) := by decide +kernel
theorem d_CP_literal_42 : decode b_CP_literal 42 = .ok (.iload_n 3, 1) := by decide +kernel
theorem d_CP_literal_43 : decode b_CP_literal 43 = .ok (.iconst 3, 1) := by decide +kernel
theorem d_CP_literal_44 : decode b_CP_literal 44 = .ok (.if_icmp .le 13, 3) := by decide +kernel
theorem d_CP_literal_47 : decode b_CP_literal 47 = .ok (.new 100, 3) := by decide +kernel
theorem d_CP_literal_50 : decode b_CP_literal 50 = .ok (.dup, 1) := by decide +kernel
theorem d_CP_literal_51 : decode b_CP_literal 51 = .ok (.ldc 159, 2) := by decide +kernel
theorem d_CP_literal_53 : decode b_CP_literal 53 = .ok (.invokespecial 104, 3) := by decide +kernel
theorem d_CP_literal_56 : decode b_CP_literal 56 = .ok (.athrow, 1) := by decide +kernel
theorem d_CP_literal_57 : decode b_CP_literal 57 = .ok (.aload_n 0, 1) := by decide +kernel
theorem d_CP_literal_58 : decode b_CP_literal 58 = .ok (.getfield 60, 3) := by decide +kernel
theorem d_CP_literal_61 : decode b_CP_literal 61 = .ok (.iload_n 1, 1) := by decide +kernel
theorem d_CP_literal_62 : decode b_CP_literal 62 = .ok (.invokevirtual 172, 3) := by decide +kernel
theorem d_CP_literal_65 : decode b_CP_literal 65 = .ok (.aload_n 0, 1) := by decide +kernel
theorem d_CP_literal_66 : decode b_CP_literal 66 = .ok (.getfield 60, 3) := by decide +kernel
theorem d_CP_literal_69 : decode b_CP_literal 69 = .ok (.iload_n 1, 1) := by decide +kernel
theorem d_CP_literal_70 : decode b_CP_literal 70 = .ok (.iload_n 2, 1) := by decide +kernel
theorem d_CP_literal_71 : decode b_CP_literal 71 = .ok (.invokevirtual 175, 3) := by decide +kernel
theorem d_CP_literal_74 : decode b_CP_literal 74 = .ok (.istore 4, 2) := by decide +kernel
theorem d_CP_literal_76 : decode b_CP_literal 76 = .ok (.aload_n 0, 1) := by decide +kernel
theorem d_CP_literal_77 : decode b_CP_literal 77 = .ok (.getfield 60, 3) := by decide +kernel
theorem d_CP_literal_80 : decode b_CP_literal 80 = .ok (.getfield 178, 3) := by decide +kernel
theorem d_CP_literal_83 : decode b_CP_literal 83 = .ok (.getfield 110, 3) := by decide +kernel
theorem d_CP_literal_86 : decode b_CP_literal 86 = .ok (.astore 5, 2) := by decide +kernel
theorem d_CP_literal_88 : decode b_CP_literal 88 = .ok (.iload_n 3, 1) := by decide +kernel
theorem d_CP_literal_89 : decode b_CP_literal 89 = .ok (.iconst 3, 1) := by decide +kernel
theorem d_CP_literal_90 : decode b_CP_literal 90 = .ok (.if_icmp .ne 19, 3) := by decide +kernel
theorem d_CP_literal_93 : decode b_CP_literal 93 = .ok (.aload 5, 2) := by decide +kernel
theorem d_CP_literal_95 : decode b_CP_literal 95 = .ok (.iload 4, 2) := by decide +kernel
theorem d_CP_literal_97 : decode b_CP_literal 97 = .ok (.iconst 3, 1) := by decide +kernel
theorem d_CP_literal_98 : decode b_CP_literal 98 = .ok (.iadd, 1) := by decide +kernel
theorem d_CP_literal_99 : decode b_CP_literal 99 = .ok (.iaload, 1) := by decide +kernel
theorem d_CP_literal_100 : decode b_CP_literal 100 = .ok (.aload 5, 2) := by decide +kernel
theorem d_CP_literal_102 : decode b_CP_literal 102 = .ok (.iload 4, 2) := by decide +kernel
theorem d_CP_literal_104 : decode b_CP_literal 104 = .ok (.iconst 4, 1) := by decide +kernel
theorem d_CP_literal_105 : decode b_CP_literal 105 = .ok (.iadd, 1) := by decide +kernel
theorem d_CP_literal_106 : decode b_CP_literal 106 = .ok (.iaload, 1) := by decide +kernel
theorem d_CP_literal_107 : decode b_CP_literal 107 = .ok (.iadd, 1) := by decide +kernel
theorem d_CP_literal_108 : decode b_CP_literal 108 = .ok (.ireturn, 1) := by decide +kernel
theorem d_CP_literal_109 : decode b_CP_literal 109 = .ok (.aload 5, 2) := by decide +kernel
theorem d_CP_literal_111 : decode b_CP_literal 111 = .ok (.iload 4, 2) := by decide +kernel
theorem d_CP_literal_113 : decode b_CP_literal 113 = .ok (.iload_n 3, 1) := by decide +kernel
theorem d_CP_literal_114 : decode b_CP_literal 114 = .ok (.ifCond .ne 7, 3) := by decide +kernel
theorem d_CP_literal_117 : decode b_CP_literal 117 = .ok (.iconst 0, 1) := by decide +kernel
theorem d_CP_literal_118 : decode b_CP_literal 118 = .ok (.goto 13, 3) := by decide +kernel
theorem d_CP_literal_121 : decode b_CP_literal 121 = .ok (.iload_n 3, 1) := by decide +kernel
theorem d_CP_literal_122 : decode b_CP_literal 122 = .ok (.iconst 1, 1) := by decide +kernel
theorem d_CP_literal_123 : decode b_CP_literal 123 = .ok (.if_icmp .ne 7, 3) := by decide +kernel
theorem d_CP_literal_126 : decode b_CP_literal 126 = .ok (.iconst 1, 1) := by decide +kernel
theorem d_CP_literal_127 : decode b_CP_literal 127 = .ok (.goto 4, 3) := by decide +kernel
theorem d_CP_literal_130 : decode b_CP_literal 130 = .ok (.iconst 2, 1) := by decide +kernel
theorem d_CP_literal_131 : decode b_CP_literal 131 = .ok (.iadd, 1) := by decide +kernel
theorem d_CP_literal_132 : decode b_CP_literal 132 = .ok (.iaload, 1) := by decide +kernel
theorem d_CP_literal_133 : decode b_CP_literal 133 = .ok (.ireturn, 1) := by decide +kernel
abbrev b_CP_look : ByteArray := prog_1_method_21_code
def y_CP_look : MethodName := ⟨"ClauseProver", "look", "(II)I"⟩
theorem d_CP_look_0 : decode b_CP_look 0 = .ok (.iload_n 2, 1) := by decide +kernel
theorem d_CP_look_1 : decode b_CP_look 1 = .ok (.iconst 1, 1) := by decide +kernel
theorem d_CP_look_2 : decode b_CP_look 2 = .ok (.if_icmp .lt 8, 3) := by decide +kernel
theorem d_CP_look_5 : decode b_CP_look 5 = .ok (.iload_n 2, 1) := by decide +kernel
theorem d_CP_look_6 : decode b_CP_look 6 = .ok (.iconst 3, 1) := by decide +kernel
theorem d_CP_look_7 : decode b_CP_look 7 = .ok (.if_icmp .le 14, 3) := by decide +kernel
theorem d_CP_look_10 : decode b_CP_look 10 = .ok (.new 100, 3) := by decide +kernel
theorem d_CP_look_13 : decode b_CP_look 13 = .ok (.dup, 1) := by decide +kernel
theorem d_CP_look_14 : decode b_CP_look 14 = .ok (.ldc_w 269, 3) := by decide +kernel
theorem d_CP_look_17 : decode b_CP_look 17 = .ok (.invokespecial 104, 3) := by decide +kernel
theorem d_CP_look_20 : decode b_CP_look 20 = .ok (.athrow, 1) := by decide +kernel
theorem d_CP_look_21 : decode b_CP_look 21 = .ok (.aload_n 0, 1) := by decide +kernel
theorem d_CP_look_22 : decode b_CP_look 22 = .ok (.getfield 78, 3) := by decide +kernel
theorem d_CP_look_25 : decode b_CP_look 25 = .ok (.iload_n 1, 1) := by decide +kernel
theorem d_CP_look_26 : decode b_CP_look 26 = .ok (.iload_n 2, 1) := by decide +kernel
theorem d_CP_look_27 : decode b_CP_look 27 = .ok (.invokevirtual 271, 3) := by decide +kernel
theorem d_CP_look_30 : decode b_CP_look 30 = .ok (.ifCond .ne 5, 3) := by decide +kernel
theorem d_CP_look_33 : decode b_CP_look 33 = .ok (.iconst (-1), 1) := by decide +kernel
theorem d_CP_look_34 : decode b_CP_look 34 = .ok (.ireturn, 1) := by decide +kernel
theorem d_CP_look_35 : decode b_CP_look 35 = .ok (.iconst 0, 1) := by decide +kernel
theorem d_CP_look_36 : decode b_CP_look 36 = .ok (.istore_n 3, 1) := by decide +kernel
theorem d_CP_look_37 : decode b_CP_look 37 = .ok (.aload_n 0, 1) := by decide +kernel
theorem d_CP_look_38 : decode b_CP_look 38 = .ok (.getfield 60, 3) := by decide +kernel
theorem d_CP_look_41 : decode b_CP_look 41 = .ok (.getfield 135, 3) := by decide +kernel
theorem d_CP_look_44 : decode b_CP_look 44 = .ok (.istore 4, 2) := by decide +kernel
theorem d_CP_look_46 : decode b_CP_look 46 = .ok (.iload 4, 2) := by decide +kernel
theorem d_CP_look_48 : decode b_CP_look 48 = .ok (.aload_n 0, 1) := by decide +kernel
theorem d_CP_look_49 : decode b_CP_look 49 = .ok (.getfield 60, 3) := by decide +kernel
theorem d_CP_look_52 : decode b_CP_look 52 = .ok (.getfield 134, 3) := by decide +kernel
theorem d_CP_look_55 : decode b_CP_look 55 = .ok (.if_icmp .ge 24, 3) := by decide +kernel
theorem d_CP_look_58 : decode b_CP_look 58 = .ok (.aload_n 0, 1) := by decide +kernel
theorem d_CP_look_59 : decode b_CP_look 59 = .ok (.getfield 78, 3) := by decide +kernel
theorem d_CP_look_62 : decode b_CP_look 62 = .ok (.iload 4, 2) := by decide +kernel
theorem d_CP_look_64 : decode b_CP_look 64 = .ok (.invokevirtual 275, 3) := by decide +kernel
theorem d_CP_look_67 : decode b_CP_look 67 = .ok (.ifCond .ne 6, 3) := by decide +kernel
theorem d_CP_look_70 : decode b_CP_look 70 = .ok (.iinc 3 1, 3) := by decide +kernel
theorem d_CP_look_73 : decode b_CP_look 73 = .ok (.iinc 4 1, 3) := by decide +kernel
theorem d_CP_look_76 : decode b_CP_look 76 = .ok (.goto (-30), 3) := by decide +kernel
theorem d_CP_look_79 : decode b_CP_look 79 = .ok (.iload_n 3, 1) := by decide +kernel
theorem d_CP_look_80 : decode b_CP_look 80 = .ok (.ireturn, 1) := by decide +kernel
abbrev b_CP_out : ByteArray := prog_1_method_17_code
def y_CP_out : MethodName := ⟨"ClauseProver", "out", "(I)I"⟩
theorem d_CP_out_0 : decode b_CP_out 0 = .ok (.iload_n 1, 1) := by decide +kernel
theorem d_CP_out_1 : decode b_CP_out 1 = .ok (.ifCond .lt 14, 3) := by decide +kernel
theorem d_CP_out_4 : decode b_CP_out 4 = .ok (.iload_n 1, 1) := by decide +kernel
theorem d_CP_out_5 : decode b_CP_out 5 = .ok (.aload_n 0, 1) := by decide +kernel
theorem d_CP_out_6 : decode b_CP_out 6 = .ok (.getfield 18, 3) := by decide +kernel
theorem d_CP_out_9 : decode b_CP_out 9 = .ok (.getfield 82, 3) := by decide +kernel
theorem d_CP_out_12 : decode b_CP_out 12 = .ok (.if_icmp .lt 13, 3) := by decide +kernel
theorem d_CP_out_15 : decode b_CP_out 15 = .ok (.new 253, 3) := by decide +kernel
theorem d_CP_out_18 : decode b_CP_out 18 = .ok (.dup, 1) := by decide +kernel
theorem d_CP_out_19 : decode b_CP_out 19 = .ok (.ldc 255, 2) := by decide +kernel
theorem d_CP_out_21 : decode b_CP_out 21 = .ok (.invokespecial 257, 3) := by decide +kernel
theorem d_CP_out_24 : decode b_CP_out 24 = .ok (.athrow, 1) := by decide +kernel
theorem d_CP_out_25 : decode b_CP_out 25 = .ok (.aload_n 0, 1) := by decide +kernel
theorem d_CP_out_26 : decode b_CP_out 26 = .ok (.getfield 18, 3) := by decide +kernel
theorem d_CP_out_29 : decode b_CP_out 29 = .ok (.getfield 110, 3) := by decide +kernel
theorem d_CP_out_32 : decode b_CP_out 32 = .ok (.iload_n 1, 1) := by decide +kernel
theorem d_CP_out_33 : decode b_CP_out 33 = .ok (.iaload, 1) := by decide +kernel
theorem d_CP_out_34 : decode b_CP_out 34 = .ok (.ireturn, 1) := by decide +kernel
abbrev b_CP_rewrote : ByteArray := prog_1_method_9_code
def y_CP_rewrote : MethodName := ⟨"ClauseProver", "rewrote", "(II)I"⟩
theorem d_CP_rewrote_0 : decode b_CP_rewrote 0 = .ok (.aload_n 0, 1) := by decide +kernel
theorem d_CP_rewrote_1 : decode b_CP_rewrote 1 = .ok (.getfield 60, 3) := by decide +kernel
theorem d_CP_rewrote_4 : decode b_CP_rewrote 4 = .ok (.iload_n 1, 1) := by decide +kernel
theorem d_CP_rewrote_5 : decode b_CP_rewrote 5 = .ok (.invokevirtual 150, 3) := by decide +kernel
theorem d_CP_rewrote_8 : decode b_CP_rewrote 8 = .ok (.ifCond .eq 21, 3) := by decide +kernel
theorem d_CP_rewrote_11 : decode b_CP_rewrote 11 = .ok (.iload_n 2, 1) := by decide +kernel
theorem d_CP_rewrote_12 : decode b_CP_rewrote 12 = .ok (.ifCond .lt 17, 3) := by decide +kernel
theorem d_CP_rewrote_15 : decode b_CP_rewrote 15 = .ok (.iload_n 2, 1) := by decide +kernel
theorem d_CP_rewrote_16 : decode b_CP_rewrote 16 = .ok (.aload_n 0, 1) := by decide +kernel
theorem d_CP_rewrote_17 : decode b_CP_rewrote 17 = .ok (.getfield 60, 3) := by decide +kernel
theorem d_CP_rewrote_20 : decode b_CP_rewrote 20 = .ok (.iload_n 1, 1) := by decide +kernel
theorem d_CP_rewrote_21 : decode b_CP_rewrote 21 = .ok (.bipush 7, 2) := by decide +kernel
theorem d_CP_rewrote_23 : decode b_CP_rewrote 23 = .ok (.invokevirtual 161, 3) := by decide +kernel
theorem d_CP_rewrote_26 : decode b_CP_rewrote 26 = .ok (.if_icmp .lt 13, 3) := by decide +kernel
theorem d_CP_rewrote_29 : decode b_CP_rewrote 29 = .ok (.new 154, 3) := by decide +kernel
theorem d_CP_rewrote_32 : decode b_CP_rewrote 32 = .ok (.dup, 1) := by decide +kernel
theorem d_CP_rewrote_33 : decode b_CP_rewrote 33 = .ok (.ldc 165, 2) := by decide +kernel
theorem d_CP_rewrote_35 : decode b_CP_rewrote 35 = .ok (.invokespecial 158, 3) := by decide +kernel
theorem d_CP_rewrote_38 : decode b_CP_rewrote 38 = .ok (.athrow, 1) := by decide +kernel
theorem d_CP_rewrote_39 : decode b_CP_rewrote 39 = .ok (.aload_n 0, 1) := by decide +kernel
theorem d_CP_rewrote_40 : decode b_CP_rewrote 40 = .ok (.getfield 60, 3) := by decide +kernel
theorem d_CP_rewrote_43 : decode b_CP_rewrote 43 = .ok (.getfield 167, 3) := by decide +kernel
theorem d_CP_rewrote_46 : decode b_CP_rewrote 46 = .ok (.getfield 110, 3) := by decide +kernel
theorem d_CP_rewrote_49 : decode b_CP_rewrote 49 = .ok (.aload_n 0, 1) := by decide +kernel
theorem d_CP_rewrote_50 : decode b_CP_rewrote 50 = .ok (.getfield 60, 3) := by decide +kernel
theorem d_CP_rewrote_53 : decode b_CP_rewrote 53 = .ok (.iload_n 1, 1) := by decide +kernel
theorem d_CP_rewrote_54 : decode b_CP_rewrote 54 = .ok (.bipush 9, 2) := by decide +kernel
theorem d_CP_rewrote_56 : decode b_CP_rewrote 56 = .ok (.invokevirtual 161, 3) := by decide +kernel
theorem d_CP_rewrote_59 : decode b_CP_rewrote 59 = .ok (.iload_n 2, 1) := by decide +kernel
theorem d_CP_rewrote_60 : decode b_CP_rewrote 60 = .ok (.iadd, 1) := by decide +kernel
theorem d_CP_rewrote_61 : decode b_CP_rewrote 61 = .ok (.iaload, 1) := by decide +kernel
theorem d_CP_rewrote_62 : decode b_CP_rewrote 62 = .ok (.ireturn, 1) := by decide +kernel
abbrev b_CP_run : ByteArray := prog_1_method_7_code
def y_CP_run : MethodName := ⟨"ClauseProver", "run", "(I)I"⟩
theorem d_CP_run_0 : decode b_CP_run 0 = .ok (.iload_n 1, 1) := by decide +kernel
theorem d_CP_run_1 : decode b_CP_run 1 = .ok (.iconst 1, 1) := by decide +kernel
theorem d_CP_run_2 : decode b_CP_run 2 = .ok (.if_icmp .lt 9, 3) := by decide +kernel
theorem d_CP_run_5 : decode b_CP_run 5 = .ok (.iload_n 1, 1) := by decide +kernel
theorem d_CP_run_6 : decode b_CP_run 6 = .ok (.bipush 100, 2) := by decide +kernel
theorem d_CP_run_8 : decode b_CP_run 8 = .ok (.if_icmp .le 13, 3) := by decide +kernel
theorem d_CP_run_11 : decode b_CP_run 11 = .ok (.new 100, 3) := by decide +kernel
theorem d_CP_run_14 : decode b_CP_run 14 = .ok (.dup, 1) := by decide +kernel
theorem d_CP_run_15 : decode b_CP_run 15 = .ok (.ldc 138, 2) := by decide +kernel
theorem d_CP_run_17 : decode b_CP_run 17 = .ok (.invokespecial 104, 3) := by decide +kernel
theorem d_CP_run_20 : decode b_CP_run 20 = .ok (.athrow, 1) := by decide +kernel
theorem d_CP_run_21 : decode b_CP_run 21 = .ok (.iconst 0, 1) := by decide +kernel
theorem d_CP_run_22 : decode b_CP_run 22 = .ok (.istore_n 2, 1) := by decide +kernel
theorem d_CP_run_23 : decode b_CP_run 23 = .ok (.iload_n 2, 1) := by decide +kernel
theorem d_CP_run_24 : decode b_CP_run 24 = .ok (.iload_n 1, 1) := by decide +kernel
theorem d_CP_run_25 : decode b_CP_run 25 = .ok (.if_icmp .ge 40, 3) := by decide +kernel
theorem d_CP_run_28 : decode b_CP_run 28 = .ok (.aload_n 0, 1) := by decide +kernel
theorem d_CP_run_29 : decode b_CP_run 29 = .ok (.getfield 69, 3) := by decide +kernel
theorem d_CP_run_32 : decode b_CP_run 32 = .ok (.getfield 140, 3) := by decide +kernel
theorem d_CP_run_35 : decode b_CP_run 35 = .ok (.ifCond .ne 30, 3) := by decide +kernel
theorem d_CP_run_38 : decode b_CP_run 38 = .ok (.aload_n 0, 1) := by decide +kernel
theorem d_CP_run_39 : decode b_CP_run 39 = .ok (.getfield 69, 3) := by decide +kernel
theorem d_CP_run_42 : decode b_CP_run 42 = .ok (.invokevirtual 143, 3) := by decide +kernel
theorem d_CP_run_45 : decode b_CP_run 45 = .ok (.istore_n 3, 1) := by decide +kernel
theorem d_CP_run_46 : decode b_CP_run 46 = .ok (.iload_n 3, 1) := by decide +kernel
theorem d_CP_run_47 : decode b_CP_run 47 = .ok (.iconst (-1), 1) := by decide +kernel
theorem d_CP_run_48 : decode b_CP_run 48 = .ok (.if_icmp .eq 11, 3) := by decide +kernel
theorem d_CP_run_51 : decode b_CP_run 51 = .ok (.aload_n 0, 1) := by decide +kernel
theorem d_CP_run_52 : decode b_CP_run 52 = .ok (.getfield 69, 3) := by decide +kernel
theorem d_CP_run_55 : decode b_CP_run 55 = .ok (.iload_n 3, 1) := by decide +kernel
theorem d_CP_run_56 : decode b_CP_run 56 = .ok (.invokevirtual 147, 3) := by decide +kernel
theorem d_CP_run_59 : decode b_CP_run 59 = .ok (.iinc 2 1, 3) := by decide +kernel
theorem d_CP_run_62 : decode b_CP_run 62 = .ok (.goto (-39), 3) := by decide +kernel
theorem d_CP_run_65 : decode b_CP_run 65 = .ok (.aload_n 0, 1) := by decide +kernel
theorem d_CP_run_66 : decode b_CP_run 66 = .ok (.getfield 69, 3) := by decide +kernel
theorem d_CP_run_69 : decode b_CP_run 69 = .ok (.getfield 140, 3) := by decide +kernel
theorem d_CP_run_72 : decode b_CP_run 72 = .ok (.ireturn, 1) := by decide +kernel
abbrev b_CP_search : ByteArray := prog_1_method_22_code
def y_CP_search : MethodName := ⟨"ClauseProver", "search", "(III)I"⟩
theorem d_CP_search_0 : decode b_CP_search 0 = .ok (.iload_n 2, 1) := by decide +kernel
theorem d_CP_search_1 : decode b_CP_search 1 = .ok (.iconst 1, 1) := by decide +kernel
theorem d_CP_search_2 : decode b_CP_search 2 = .ok (.if_icmp .lt 19, 3) := by decide +kernel
theorem d_CP_search_5 : decode b_CP_search 5 = .ok (.iload_n 2, 1) := by decide +kernel
theorem d_CP_search_6 : decode b_CP_search 6 = .ok (.iconst 3, 1) := by decide +kernel
theorem d_CP_search_7 : decode b_CP_search 7 = .ok (.if_icmp .gt 14, 3) := by decide +kernel
theorem d_CP_search_10 : decode b_CP_search 10 = .ok (.iload_n 3, 1) := by decide +kernel
theorem d_CP_search_11 : decode b_CP_search 11 = .ok (.iconst 1, 1) := by decide +kernel
theorem d_CP_search_12 : decode b_CP_search 12 = .ok (.if_icmp .lt 9, 3) := by decide +kernel
theorem d_CP_search_15 : decode b_CP_search 15 = .ok (.iload_n 3, 1) := by decide +kernel
theorem d_CP_search_16 : decode b_CP_search 16 = .ok (.bipush 50, 2) := by decide +kernel
theorem d_CP_search_18 : decode b_CP_search 18 = .ok (.if_icmp .le 14, 3) := by decide +kernel
theorem d_CP_search_21 : decode b_CP_search 21 = .ok (.new 100, 3) := by decide +kernel
theorem d_CP_search_24 : decode b_CP_search 24 = .ok (.dup, 1) := by decide +kernel
theorem d_CP_search_25 : decode b_CP_search 25 = .ok (.ldc_w 278, 3) := by decide +kernel
theorem d_CP_search_28 : decode b_CP_search 28 = .ok (.invokespecial 104, 3) := by decide +kernel
theorem d_CP_search_31 : decode b_CP_search 31 = .ok (.athrow, 1) := by decide +kernel
theorem d_CP_search_32 : decode b_CP_search 32 = .ok (.iconst 0, 1) := by decide +kernel
theorem d_CP_search_33 : decode b_CP_search 33 = .ok (.istore 4, 2) := by decide +kernel
theorem d_CP_search_35 : decode b_CP_search 35 = .ok (.iload 4, 2) := by decide +kernel
theorem d_CP_search_37 : decode b_CP_search 37 = .ok (.iload_n 3, 1) := by decide +kernel
theorem d_CP_search_38 : decode b_CP_search 38 = .ok (.if_icmp .ge 27, 3) := by decide +kernel
theorem d_CP_search_41 : decode b_CP_search 41 = .ok (.aload_n 0, 1) := by decide +kernel
theorem d_CP_search_42 : decode b_CP_search 42 = .ok (.getfield 78, 3) := by decide +kernel
theorem d_CP_search_45 : decode b_CP_search 45 = .ok (.iload_n 1, 1) := by decide +kernel
theorem d_CP_search_46 : decode b_CP_search 46 = .ok (.iload 4, 2) := by decide +kernel
theorem d_CP_search_48 : decode b_CP_search 48 = .ok (.iadd, 1) := by decide +kernel
theorem d_CP_search_49 : decode b_CP_search 49 = .ok (.iload_n 2, 1) := by decide +kernel
theorem d_CP_search_50 : decode b_CP_search 50 = .ok (.invokevirtual 271, 3) := by decide +kernel
theorem d_CP_search_53 : decode b_CP_search 53 = .ok (.ifCond .eq 6, 3) := by decide +kernel
theorem d_CP_search_56 : decode b_CP_search 56 = .ok (.iload 4, 2) := by decide +kernel
theorem d_CP_search_58 : decode b_CP_search 58 = .ok (.ireturn, 1) := by decide +kernel
theorem d_CP_search_59 : decode b_CP_search 59 = .ok (.iinc 4 1, 3) := by decide +kernel
theorem d_CP_search_62 : decode b_CP_search 62 = .ok (.goto (-27), 3) := by decide +kernel
theorem d_CP_search_65 : decode b_CP_search 65 = .ok (.iconst (-1), 1) := by decide +kernel
theorem d_CP_search_66 : decode b_CP_search 66 = .ok (.ireturn, 1) := by decide +kernel
abbrev b_CP_step : ByteArray := prog_1_method_20_code
def y_CP_step : MethodName := ⟨"ClauseProver", "step", "(I)I"⟩
theorem d_CP_step_0 : decode b_CP_step 0 = .ok (.iload_n 1, 1) := by decide +kernel
theorem d_CP_step_1 : decode b_CP_step 1 = .ok (.ifCond .lt 17, 3) := by decide +kernel
theorem d_CP_step_4 : decode b_CP_step 4 = .ok (.iload_n 1, 1) := by decide +kernel
theorem d_CP_step_5 : decode b_CP_step 5 = .ok (.aload_n 0, 1) := by decide +kernel
theorem d_CP_step_6 : decode b_CP_step 6 = .ok (.getfield 69, 3) := by decide +kernel
theorem d_CP_step_9 : decode b_CP_step 9 = .ok (.getfield 264, 3) := by decide +kernel
theorem d_CP_step_12 : decode b_CP_step 12 = .ok (.getfield 82, 3) := by decide +kernel
theorem d_CP_step_15 : decode b_CP_step 15 = .ok (.if_icmp .lt 14, 3) := by decide +kernel
theorem d_CP_step_18 : decode b_CP_step 18 = .ok (.new 253, 3) := by decide +kernel
theorem d_CP_step_21 : decode b_CP_step 21 = .ok (.dup, 1) := by decide +kernel
theorem d_CP_step_22 : decode b_CP_step 22 = .ok (.ldc_w 267, 3) := by decide +kernel
theorem d_CP_step_25 : decode b_CP_step 25 = .ok (.invokespecial 257, 3) := by decide +kernel
theorem d_CP_step_28 : decode b_CP_step 28 = .ok (.athrow, 1) := by decide +kernel
theorem d_CP_step_29 : decode b_CP_step 29 = .ok (.aload_n 0, 1) := by decide +kernel
theorem d_CP_step_30 : decode b_CP_step 30 = .ok (.getfield 69, 3) := by decide +kernel
theorem d_CP_step_33 : decode b_CP_step 33 = .ok (.getfield 264, 3) := by decide +kernel
theorem d_CP_step_36 : decode b_CP_step 36 = .ok (.getfield 110, 3) := by decide +kernel
theorem d_CP_step_39 : decode b_CP_step 39 = .ok (.iload_n 1, 1) := by decide +kernel
theorem d_CP_step_40 : decode b_CP_step 40 = .ok (.iaload, 1) := by decide +kernel
theorem d_CP_step_41 : decode b_CP_step 41 = .ok (.ireturn, 1) := by decide +kernel
abbrev b_CP_symbol : ByteArray := prog_1_method_18_code
def y_CP_symbol : MethodName := ⟨"ClauseProver", "symbol", "(II)I"⟩
theorem d_CP_symbol_0 : decode b_CP_symbol 0 = .ok (.iload_n 1, 1) := by decide +kernel
theorem d_CP_symbol_1 : decode b_CP_symbol 1 = .ok (.ifCond .lt 14, 3) := by decide +kernel
theorem d_CP_symbol_4 : decode b_CP_symbol 4 = .ok (.iload_n 1, 1) := by decide +kernel
theorem d_CP_symbol_5 : decode b_CP_symbol 5 = .ok (.aload_n 0, 1) := by decide +kernel
theorem d_CP_symbol_6 : decode b_CP_symbol 6 = .ok (.getfield 28, 3) := by decide +kernel
theorem d_CP_symbol_9 : decode b_CP_symbol 9 = .ok (.getfield 258, 3) := by decide +kernel
theorem d_CP_symbol_12 : decode b_CP_symbol 12 = .ok (.if_icmp .lt 14, 3) := by decide +kernel
theorem d_CP_symbol_15 : decode b_CP_symbol 15 = .ok (.new 154, 3) := by decide +kernel
theorem d_CP_symbol_18 : decode b_CP_symbol 18 = .ok (.dup, 1) := by decide +kernel
theorem d_CP_symbol_19 : decode b_CP_symbol 19 = .ok (.ldc_w 259, 3) := by decide +kernel
theorem d_CP_symbol_22 : decode b_CP_symbol 22 = .ok (.invokespecial 158, 3) := by decide +kernel
theorem d_CP_symbol_25 : decode b_CP_symbol 25 = .ok (.athrow, 1) := by decide +kernel
theorem d_CP_symbol_26 : decode b_CP_symbol 26 = .ok (.iload_n 2, 1) := by decide +kernel
theorem d_CP_symbol_27 : decode b_CP_symbol 27 = .ok (.ifCond .lt 8, 3) := by decide +kernel
theorem d_CP_symbol_30 : decode b_CP_symbol 30 = .ok (.iload_n 2, 1) := by decide +kernel
theorem d_CP_symbol_31 : decode b_CP_symbol 31 = .ok (.iconst 2, 1) := by decide +kernel
theorem d_CP_symbol_32 : decode b_CP_symbol 32 = .ok (.if_icmp .le 13, 3) := by decide +kernel
theorem d_CP_symbol_35 : decode b_CP_symbol 35 = .ok (.new 100, 3) := by decide +kernel
theorem d_CP_symbol_38 : decode b_CP_symbol 38 = .ok (.dup, 1) := by decide +kernel
theorem d_CP_symbol_39 : decode b_CP_symbol 39 = .ok (.ldc 159, 2) := by decide +kernel
theorem d_CP_symbol_41 : decode b_CP_symbol 41 = .ok (.invokespecial 104, 3) := by decide +kernel
theorem d_CP_symbol_44 : decode b_CP_symbol 44 = .ok (.athrow, 1) := by decide +kernel
theorem d_CP_symbol_45 : decode b_CP_symbol 45 = .ok (.iload_n 2, 1) := by decide +kernel
theorem d_CP_symbol_46 : decode b_CP_symbol 46 = .ok (.ifCond .ne 13, 3) := by decide +kernel
theorem d_CP_symbol_49 : decode b_CP_symbol 49 = .ok (.aload_n 0, 1) := by decide +kernel
theorem d_CP_symbol_50 : decode b_CP_symbol 50 = .ok (.getfield 28, 3) := by decide +kernel
theorem d_CP_symbol_53 : decode b_CP_symbol 53 = .ok (.getfield 213, 3) := by decide +kernel
theorem d_CP_symbol_56 : decode b_CP_symbol 56 = .ok (.iload_n 1, 1) := by decide +kernel
theorem d_CP_symbol_57 : decode b_CP_symbol 57 = .ok (.iaload, 1) := by decide +kernel
theorem d_CP_symbol_58 : decode b_CP_symbol 58 = .ok (.ireturn, 1) := by decide +kernel
theorem d_CP_symbol_59 : decode b_CP_symbol 59 = .ok (.iload_n 2, 1) := by decide +kernel
theorem d_CP_symbol_60 : decode b_CP_symbol 60 = .ok (.iconst 1, 1) := by decide +kernel
theorem d_CP_symbol_61 : decode b_CP_symbol 61 = .ok (.if_icmp .ne 14, 3) := by decide +kernel
theorem d_CP_symbol_64 : decode b_CP_symbol 64 = .ok (.aload_n 0, 1) := by decide +kernel
theorem d_CP_symbol_65 : decode b_CP_symbol 65 = .ok (.getfield 28, 3) := by decide +kernel
theorem d_CP_symbol_68 : decode b_CP_symbol 68 = .ok (.iload_n 1, 1) := by decide +kernel
theorem d_CP_symbol_69 : decode b_CP_symbol 69 = .ok (.invokevirtual 261, 3) := by decide +kernel
theorem d_CP_symbol_72 : decode b_CP_symbol 72 = .ok (.goto 11, 3) := by decide +kernel
theorem d_CP_symbol_75 : decode b_CP_symbol 75 = .ok (.aload_n 0, 1) := by decide +kernel
theorem d_CP_symbol_76 : decode b_CP_symbol 76 = .ok (.getfield 28, 3) := by decide +kernel
theorem d_CP_symbol_79 : decode b_CP_symbol 79 = .ok (.iload_n 1, 1) := by decide +kernel
theorem d_CP_symbol_80 : decode b_CP_symbol 80 = .ok (.invokevirtual 227, 3) := by decide +kernel
theorem d_CP_symbol_83 : decode b_CP_symbol 83 = .ok (.istore_n 3, 1) := by decide +kernel
theorem d_CP_symbol_84 : decode b_CP_symbol 84 = .ok (.iload_n 3, 1) := by decide +kernel
theorem d_CP_symbol_85 : decode b_CP_symbol 85 = .ok (.ifCond .eq 7, 3) := by decide +kernel
theorem d_CP_symbol_88 : decode b_CP_symbol 88 = .ok (.iconst 1, 1) := by decide +kernel
theorem d_CP_symbol_89 : decode b_CP_symbol 89 = .ok (.goto 4, 3) := by decide +kernel
theorem d_CP_symbol_92 : decode b_CP_symbol 92 = .ok (.iconst 0, 1) := by decide +kernel
theorem d_CP_symbol_93 : decode b_CP_symbol 93 = .ok (.ireturn, 1) := by decide +kernel
theorem ml_CP_150 : ax_LV "ClauseProver" 150 y_Sto_has b_Sto_has 2 (some (.boolean)) 1 := ax_LV.mk (tb_in (i := 1289) (by decide +kernel) rfl) (tb_in (i := 1131) (by decide +kernel) rfl) (tb_in (i := 1132) (by decide +kernel) rfl) ti_Sto tc_Sto_has (by decide +kernel)
theorem ml_CP_161 : ax_LV "ClauseProver" 161 y_Sto_fact b_Sto_fact 3 (some (.int)) 2 := ax_LV.mk (tb_in (i := 1307) (by decide +kernel) rfl) (tb_in (i := 888) (by decide +kernel) rfl) (tb_in (i := 889) (by decide +kernel) rfl) ti_Sto tc_Sto_fact (by decide +kernel)
theorem tb_classLink_1290 : Cond.classLink "ClauseProver" 154 "java/util/NoSuchElementException" ∈ lw_tbg := tb_in (i := 1290) (by decide +kernel) rfl
theorem tb_instantiable_1291 : Cond.instantiable "java/util/NoSuchElementException" 6 ∈ lw_tbg := tb_in (i := 1291) (by decide +kernel) rfl
theorem tb_initialized_25 : Cond.initialized "java/util/NoSuchElementException" ∈ lw_tbg := tb_in (i := 25) (by decide +kernel) rfl
theorem tb_classLink_984 : Cond.classLink "ClauseProver" 100 "java/lang/IllegalArgumentException" ∈ lw_tbg := tb_in (i := 984) (by decide +kernel) rfl
theorem tb_instantiable_985 : Cond.instantiable "java/lang/IllegalArgumentException" 6 ∈ lw_tbg := tb_in (i := 985) (by decide +kernel) rfl
theorem tb_initialized_21 : Cond.initialized "java/lang/IllegalArgumentException" ∈ lw_tbg := tb_in (i := 21) (by decide +kernel) rfl
theorem tb_constant_899 : Cond.constant "ClauseProver" 86 65536 ∈ lw_tbg := tb_in (i := 899) (by decide +kernel) rfl
theorem tc_CP_addBytes : Cond.code y_CP_addBytes b_CP_addBytes 3 none ∈ lw_tbg := tb_in (i := 974) (by decide +kernel) rfl
theorem ti_CP : Cond.initialized "ClauseProver" ∈ lw_tbg := tb_in (i := 1) (by decide +kernel) rfl
theorem ml_CP_94 : ax_LV "ClauseProver" 94 y_CP_addBytes b_CP_addBytes 3 none 1 := ax_LV.mk (tb_in (i := 971) (by decide +kernel) rfl) (tb_in (i := 973) (by decide +kernel) rfl) (pv_in (i := 45) (by decide +kernel) rfl) ti_CP tc_CP_addBytes (by decide +kernel)
theorem tb_classLink_900 : Cond.classLink "ClauseProver" 87 "java/lang/IllegalStateException" ∈ lw_tbg := tb_in (i := 900) (by decide +kernel) rfl
theorem tb_instantiable_901 : Cond.instantiable "java/lang/IllegalStateException" 6 ∈ lw_tbg := tb_in (i := 901) (by decide +kernel) rfl
theorem tb_initialized_18 : Cond.initialized "java/lang/IllegalStateException" ∈ lw_tbg := tb_in (i := 18) (by decide +kernel) rfl
theorem ml_CP_172 : ax_LV "ClauseProver" 172 y_Sto_judge b_Sto_judge 8 none 1 := ax_LV.mk (tb_in (i := 1324) (by decide +kernel) rfl) (tb_in (i := 1157) (by decide +kernel) rfl) (tb_in (i := 1158) (by decide +kernel) rfl) ti_Sto tc_Sto_judge (by decide +kernel)
theorem ml_CP_175 : ax_LV "ClauseProver" 175 y_Sto_headOf b_Sto_headOf 5 (some (.int)) 2 := ax_LV.mk (tb_in (i := 1325) (by decide +kernel) rfl) (tb_in (i := 1186) (by decide +kernel) rfl) (tb_in (i := 1187) (by decide +kernel) rfl) ti_Sto tc_Sto_headOf (by decide +kernel)
theorem tc_Mod_suitsText : Cond.code y_Mod_suitsText b_Mod_suitsText 4 (some (.boolean)) ∈ lw_tbg := tb_in (i := 1470) (by decide +kernel) rfl
theorem ml_CP_271 : ax_LV "ClauseProver" 271 y_Mod_suitsText b_Mod_suitsText 4 (some (.boolean)) 2 := ax_LV.mk (tb_in (i := 1467) (by decide +kernel) rfl) (tb_in (i := 1468) (by decide +kernel) rfl) (tb_in (i := 1469) (by decide +kernel) rfl) ti_Mod tc_Mod_suitsText (by decide +kernel)
theorem ml_CP_275 : ax_LV "ClauseProver" 275 y_Mod_makesTrue b_Mod_makesTrue 5 (some (.boolean)) 1 := ax_LV.mk (tb_in (i := 1501) (by decide +kernel) rfl) (tb_in (i := 1472) (by decide +kernel) rfl) (tb_in (i := 1473) (by decide +kernel) rfl) ti_Mod tc_Mod_makesTrue (by decide +kernel)
theorem tb_classLink_1426 : Cond.classLink "ClauseProver" 253 "java/lang/IndexOutOfBoundsException" ∈ lw_tbg := tb_in (i := 1426) (by decide +kernel) rfl
theorem tb_instantiable_1427 : Cond.instantiable "java/lang/IndexOutOfBoundsException" 6 ∈ lw_tbg := tb_in (i := 1427) (by decide +kernel) rfl
theorem tb_initialized_30 : Cond.initialized "java/lang/IndexOutOfBoundsException" ∈ lw_tbg := tb_in (i := 30) (by decide +kernel) rfl
theorem tc_Sat_takeGiven : Cond.code y_Sat_takeGiven b_Sat_takeGiven 2 (some (.int)) ∈ lw_tbg := tb_in (i := 1011) (by decide +kernel) rfl
theorem ml_CP_143 : ax_LV "ClauseProver" 143 y_Sat_takeGiven b_Sat_takeGiven 2 (some (.int)) 0 := ax_LV.mk (tb_in (i := 1008) (by decide +kernel) rfl) (tb_in (i := 1009) (by decide +kernel) rfl) (tb_in (i := 1010) (by decide +kernel) rfl) ti_Sat tc_Sat_takeGiven (by decide +kernel)
theorem tc_Sat_inferFrom : Cond.code y_Sat_inferFrom b_Sat_inferFrom 4 none ∈ lw_tbg := tb_in (i := 1180) (by decide +kernel) rfl
theorem ml_CP_147 : ax_LV "ClauseProver" 147 y_Sat_inferFrom b_Sat_inferFrom 4 none 1 := ax_LV.mk (tb_in (i := 1177) (by decide +kernel) rfl) (tb_in (i := 1178) (by decide +kernel) rfl) (tb_in (i := 1179) (by decide +kernel) rfl) ti_Sat tc_Sat_inferFrom (by decide +kernel)
theorem tc_Sym_isWitness : Cond.code y_Sym_isWitness b_Sym_isWitness 2 (some (.boolean)) ∈ lw_tbg := tb_in (i := 1410) (by decide +kernel) rfl
theorem ml_CP_227 : ax_LV "ClauseProver" 227 y_Sym_isWitness b_Sym_isWitness 2 (some (.boolean)) 1 := ax_LV.mk (tb_in (i := 1407) (by decide +kernel) rfl) (tb_in (i := 1408) (by decide +kernel) rfl) (tb_in (i := 1409) (by decide +kernel) rfl) ti_Sym tc_Sym_isWitness (by decide +kernel)
theorem ml_CP_261 : ax_LV "ClauseProver" 261 y_Sym_isPredicate b_Sym_isPredicate 2 (some (.boolean)) 1 := ax_LV.mk (tb_in (i := 1450) (by decide +kernel) rfl) (tb_in (i := 1079) (by decide +kernel) rfl) (tb_in (i := 1080) (by decide +kernel) rfl) ti_Sym tc_Sym_isPredicate (by decide +kernel)
/-! an exception is thrown: length 3000 tells which -/
def mT (σ : mS) (c : Nat) : mS := (σ.1, σ.2.1, va_up (va_up (va_up σ.2.2 3000 c) 3001 (σ.2.2 3001 + 1)) 3002 (σ.2.2 3002 + 6))
def gle2 (σ τ : mS) : Prop := σ.2.2 3001 ≤ τ.2.2 3001 ∧ σ.2.2 3002 ≤ τ.2.2 3002
theorem gle.two {σ τ : mS} (h : gle σ τ) : gle2 σ τ := ⟨h.1, h.2.1⟩
theorem mT_le (σ : mS) (c : Nat) : gle2 σ (mT σ c) := by
  have e1 : (mT σ c).2.2 3001 = σ.2.2 3001 + 1 := rfl
  have e2 : (mT σ c).2.2 3002 = σ.2.2 3002 + 6 := rfl
  exact ⟨by omega, by omega⟩
def g2 (σ : mS) (o : Option mR) : Prop := ∀ res, o = some res → gle2 σ res.1
def GM2 (rec : mF) : Prop := ∀ t σ xs res, rec t σ xs = some res → gle2 σ res.1
theorem g2_none {σ : mS} : g2 σ none := fun res h => by cases h
theorem g2_some {σ : mS} {v : Int32} {d : Nat} : g2 σ (some (σ, v, d)) := fun res h => by cases h; exact ⟨Nat.le_refl _, Nat.le_refl _⟩
theorem g2_if {σ : mS} {c : Prop} {i : Decidable c} {A B : Option mR} (hA : g2 σ A) (hB : g2 σ B) : g2 σ (if c then A else B) := by
  by_cases h : c
  · rw [if_pos h]; exact hA
  · rw [if_neg h]; exact hB
theorem g2_lt {σ τ : mS} {f : mS → Option mR} (h : gle2 σ τ) (g : g2 τ (f τ)) : g2 σ (lt_ τ f) := fun res e => ⟨Nat.le_trans h.1 (g res e).1, Nat.le_trans h.2 (g res e).2⟩
theorem g2_tail {σ : mS} {rec : mF} {t : Nat} {xs : List Int32} (h : GM2 rec) : g2 σ (rec t σ xs) := fun res e => h t σ xs res e
theorem g2_bnd {σ : mS} {rec : mF} {t : Nat} {xs : List Int32} {k : mS → Int32 → Option mR} (h : GM2 rec) (g : ∀ σ1 r1, g2 σ1 (k σ1 r1)) : g2 σ (bnd (rec t σ xs) k) := fun res e => by
  obtain ⟨σf, rf, d⟩ := res
  obtain ⟨σ1, r1, d1, d2, h1, h2, _, _⟩ := it_b e
  exact ⟨Nat.le_trans (h _ _ _ _ h1).1 (g σ1 r1 _ h2).1, Nat.le_trans (h _ _ _ _ h1).2 (g σ1 r1 _ h2).2⟩
theorem g2_use {σ : mS} {o : Option mR} {σf : mS} {rf : Int32} {d : Nat} (e : o = some (σf, rf, d)) (h : g2 σ o) : gle2 σ σf := h _ e

section PR1
variable {p : Program} {l : Launch} {e : Env} {R : Room} {s : State} {m : MethodId} {args : Array Value} {below : List Frame} {meth : Method} {c : Code} {Q : State → Prop} {D : va_G} {kA : Nat → ClassId} {A : Nat → Prop} {nL : Nat} {cc : ByteArray} {ret : Option FieldType} {pc cells slots : Nat} {ls : List (Nat × Value)} {st rest : List Value} {u w : Nat → Nat} {tx : Value} {σ σ2 : mS} {own : String}
set_option maxRecDepth 4000 in
theorem cg_0_9_CP_78 (C : ax_C p s m args meth c cc "ClauseProver" nL ret D kA A) (hdg : decode cc pc = .ok (.getfield 78, 3)) (k : AW p l e R s m args below meth c D kA A nL Q (pc + 3) ls (.ref (u 69) :: rest) (cpW kA u w tx σ) cells slots) : AW p l e R s m args below meth c D kA A nL Q (pc) ls (.ref (u 0) :: rest) (cpW kA u w tx σ) cells slots := ax_get C k_CP 9 lk_CP_78 hdg (Nat.le_of_ble_eq_true rfl) 0 rfl rfl k
set_option maxRecDepth 4000 in
theorem cg_3_0_CP_110 (C : ax_C p s m args meth c cc "ClauseProver" nL ret D kA A) (hdg : decode cc pc = .ok (.getfield 110, 3)) (k : AW p l e R s m args below meth c D kA A nL Q (pc + 3) ls (.ref (w 4) :: rest) (cpW kA u w tx σ) cells slots) : AW p l e R s m args below meth c D kA A nL Q (pc) ls (.ref (u 3) :: rest) (cpW kA u w tx σ) cells slots := ax_get C k_Row 0 lk_CP_110 hdg (Nat.le_of_ble_eq_true rfl) 3 rfl rfl k
set_option maxRecDepth 4000 in
theorem cg_6_0_CP_213 (C : ax_C p s m args meth c cc "ClauseProver" nL ret D kA A) (hdg : decode cc pc = .ok (.getfield 213, 3)) (k : AW p l e R s m args below meth c D kA A nL Q (pc + 3) ls (.ref (u 7) :: rest) (cpW kA u w tx σ) cells slots) : AW p l e R s m args below meth c D kA A nL Q (pc) ls (.ref (u 6) :: rest) (cpW kA u w tx σ) cells slots := ax_get C k_Sym 0 lk_CP_213 hdg (Nat.le_of_ble_eq_true rfl) 6 rfl rfl k
set_option maxRecDepth 4000 in
theorem cg_47_0_CP_110 (C : ax_C p s m args meth c cc "ClauseProver" nL ret D kA A) (hdg : decode cc pc = .ok (.getfield 110, 3)) (k : AW p l e R s m args below meth c D kA A nL Q (pc + 3) ls (.ref (w 48) :: rest) (cpW kA u w tx σ) cells slots) : AW p l e R s m args below meth c D kA A nL Q (pc) ls (.ref (u 47) :: rest) (cpW kA u w tx σ) cells slots := ax_get C k_Row 0 lk_CP_110 hdg (Nat.le_of_ble_eq_true rfl) 47 rfl rfl k
set_option maxRecDepth 4000 in
theorem cg_49_0_CP_110 (C : ax_C p s m args meth c cc "ClauseProver" nL ret D kA A) (hdg : decode cc pc = .ok (.getfield 110, 3)) (k : AW p l e R s m args below meth c D kA A nL Q (pc + 3) ls (.ref (w 50) :: rest) (cpW kA u w tx σ) cells slots) : AW p l e R s m args below meth c D kA A nL Q (pc) ls (.ref (u 49) :: rest) (cpW kA u w tx σ) cells slots := ax_get C k_Row 0 lk_CP_110 hdg (Nat.le_of_ble_eq_true rfl) 49 rfl rfl k
set_option maxRecDepth 4000 in
theorem cg_54_0_CP_178 (C : ax_C p s m args meth c cc "ClauseProver" nL ret D kA A) (hdg : decode cc pc = .ok (.getfield 178, 3)) (k : AW p l e R s m args below meth c D kA A nL Q (pc + 3) ls (.ref (u 47) :: rest) (cpW kA u w tx σ) cells slots) : AW p l e R s m args below meth c D kA A nL Q (pc) ls (.ref (u 54) :: rest) (cpW kA u w tx σ) cells slots := ax_get C k_Sto 0 lk_CP_178 hdg (Nat.le_of_ble_eq_true rfl) 54 rfl rfl k
set_option maxRecDepth 4000 in
theorem cg_54_1_CP_167 (C : ax_C p s m args meth c cc "ClauseProver" nL ret D kA A) (hdg : decode cc pc = .ok (.getfield 167, 3)) (k : AW p l e R s m args below meth c D kA A nL Q (pc + 3) ls (.ref (u 49) :: rest) (cpW kA u w tx σ) cells slots) : AW p l e R s m args below meth c D kA A nL Q (pc) ls (.ref (u 54) :: rest) (cpW kA u w tx σ) cells slots := ax_get C k_Sto 1 lk_CP_167 hdg (Nat.le_of_ble_eq_true rfl) 54 rfl rfl k
set_option maxRecDepth 4000 in
theorem cg_55_0_CP_110 (C : ax_C p s m args meth c cc "ClauseProver" nL ret D kA A) (hdg : decode cc pc = .ok (.getfield 110, 3)) (k : AW p l e R s m args below meth c D kA A nL Q (pc + 3) ls (.ref (w 56) :: rest) (cpW kA u w tx σ) cells slots) : AW p l e R s m args below meth c D kA A nL Q (pc) ls (.ref (u 55) :: rest) (cpW kA u w tx σ) cells slots := ax_get C k_Row 0 lk_CP_110 hdg (Nat.le_of_ble_eq_true rfl) 55 rfl rfl k
set_option maxRecDepth 4000 in
theorem cl_4 (C : ax_C p s m args meth c cc own nL ret D kA A) {i : Int32} (hdg : decode cc pc = .ok (.iaload, 1)) (hin : vp_in i (σ.2.2 4)) (k : AW p l e R s m args below meth c D kA A nL Q (pc + 1) ls (.int (σ.2.1 4 i.toNatClampNeg) :: rest) (cpW kA u w tx σ) cells slots) : AW p l e R s m args below meth c D kA A nL Q (pc) ls (.int i :: .ref (w 4) :: rest) (cpW kA u w tx σ) cells slots := ax_iald C 4 rfl hdg hin k
set_option maxRecDepth 4000 in
theorem cs_4 (C : ax_C p s m args meth c cc own nL ret D kA A) {i x : Int32} (hdg : decode cc pc = .ok (.iastore, 1)) (hin : vp_in i (σ.2.2 4)) (k : AW p l e R s m args below meth c D kA A nL Q (pc + 1) ls (rest) (cpW kA u w tx (mA σ 4 i.toNatClampNeg x)) cells slots) : AW p l e R s m args below meth c D kA A nL Q (pc) ls (.int x :: .int i :: .ref (w 4) :: rest) (cpW kA u w tx σ) cells slots := ax_iast C 4 rfl hdg hin (ax_w (cpW kA u w tx (mA σ 4 i.toNatClampNeg x)) rfl k)
set_option maxRecDepth 4000 in
theorem cl_56 (C : ax_C p s m args meth c cc own nL ret D kA A) {i : Int32} (hdg : decode cc pc = .ok (.iaload, 1)) (hin : vp_in i (σ.2.2 56)) (k : AW p l e R s m args below meth c D kA A nL Q (pc + 1) ls (.int (σ.2.1 56 i.toNatClampNeg) :: rest) (cpW kA u w tx σ) cells slots) : AW p l e R s m args below meth c D kA A nL Q (pc) ls (.int i :: .ref (w 56) :: rest) (cpW kA u w tx σ) cells slots := ax_iald C 56 rfl hdg hin k
set_option maxRecDepth 4000 in
theorem cs_56 (C : ax_C p s m args meth c cc own nL ret D kA A) {i x : Int32} (hdg : decode cc pc = .ok (.iastore, 1)) (hin : vp_in i (σ.2.2 56)) (k : AW p l e R s m args below meth c D kA A nL Q (pc + 1) ls (rest) (cpW kA u w tx (mA σ 56 i.toNatClampNeg x)) cells slots) : AW p l e R s m args below meth c D kA A nL Q (pc) ls (.int x :: .int i :: .ref (w 56) :: rest) (cpW kA u w tx σ) cells slots := ax_iast C 56 rfl hdg hin (ax_w (cpW kA u w tx (mA σ 56 i.toNatClampNeg x)) rfl k)
end PR1
section PR2
variable {p : Program} {l : Launch} {e : Env} {R : Room} {s : State} {m : MethodId} {args : Array Value} {below : List Frame} {meth : Method} {c : Code} {Q : State → Prop} {D : va_G} {kA : Nat → ClassId} {A : Nat → Prop} {nL : Nat} {cc : ByteArray} {ret : Option FieldType} {pc F Lo mc ms cells slots : Nat} {ls : List (Nat × Value)} {st rest : List Value} {u w : Nat → Nat} {tx : Value} {σ σ2 : mS} {own : String}

end PR2
