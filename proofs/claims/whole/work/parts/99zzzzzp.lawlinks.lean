/-! the links of the law -/
abbrev b_Law_feed : ByteArray := method_3_code
theorem d_Law_feed_0 : decode b_Law_feed 0 = .ok (.aload 6, 2) := by decide +kernel
theorem d_Law_feed_2 : decode b_Law_feed 2 = .ok (.iconst 0, 1) := by decide +kernel
theorem d_Law_feed_3 : decode b_Law_feed 3 = .ok (.aload_n 0, 1) := by decide +kernel
theorem d_Law_feed_4 : decode b_Law_feed 4 = .ok (.iload_n 1, 1) := by decide +kernel
theorem d_Law_feed_5 : decode b_Law_feed 5 = .ok (.iload_n 2, 1) := by decide +kernel
theorem d_Law_feed_6 : decode b_Law_feed 6 = .ok (.iload_n 3, 1) := by decide +kernel
theorem d_Law_feed_7 : decode b_Law_feed 7 = .ok (.iload 4, 2) := by decide +kernel
theorem d_Law_feed_9 : decode b_Law_feed 9 = .ok (.iload 5, 2) := by decide +kernel
theorem d_Law_feed_11 : decode b_Law_feed 11 = .ok (.invokevirtual 7, 3) := by decide +kernel
theorem d_Law_feed_14 : decode b_Law_feed 14 = .ok (.i2l, 1) := by decide +kernel
theorem d_Law_feed_15 : decode b_Law_feed 15 = .ok (.lastore, 1) := by decide +kernel
theorem d_Law_feed_16 : decode b_Law_feed 16 = .ok (.goto 7, 3) := by decide +kernel
theorem d_Law_feed_19 : decode b_Law_feed 19 = .ok (.astore 7, 2) := by decide +kernel
theorem d_Law_feed_21 : decode b_Law_feed 21 = .ok (.iconst 1, 1) := by decide +kernel
theorem d_Law_feed_22 : decode b_Law_feed 22 = .ok (.ireturn, 1) := by decide +kernel
theorem d_Law_feed_23 : decode b_Law_feed 23 = .ok (.iconst 0, 1) := by decide +kernel
theorem d_Law_feed_24 : decode b_Law_feed 24 = .ok (.ireturn, 1) := by decide +kernel
theorem tc_CP_feed : Cond.code y_CP_feed b_CP_feed 6 (some (.int)) ∈ lw_tbg := tb_in (i := 898) (by decide +kernel) rfl
theorem ml_Law_7 : ax_LV "ClauseProverLaw" 7 y_CP_feed b_CP_feed 6 (some (.int)) 5 := ax_LV.mk (tb_in (i := 895) (by decide +kernel) rfl) (tb_in (i := 896) (by decide +kernel) rfl) (tb_in (i := 897) (by decide +kernel) rfl) ti_CP tc_CP_feed (by decide +kernel)
def y_Law_feed : MethodName := ⟨"ClauseProverLaw", "feed", "(LClauseProver;IIIII[J)I"⟩
theorem ti_Law : Cond.initialized "ClauseProverLaw" ∈ lw_tbg := tb_in (i := 0) (by decide +kernel) rfl
theorem tc_Law_feed : Cond.codeWith y_Law_feed b_Law_feed 8 (some .int) [(0, 16, 19, 13)] ∈ lw_tbg := tb_in (i := 893) (by decide +kernel) rfl
theorem mw_Law_61 : ax_LSw "ClauseProverLaw" 61 y_Law_feed b_Law_feed 8 [(0, 16, 19, 13)] 7 := ax_LSw.mk (tb_in (i := 891) (by decide +kernel) rfl) (tb_in (i := 892) (by decide +kernel) rfl) ti_Law tc_Law_feed (by decide +kernel)
theorem tc_MM_feed : Cond.code y_MM_feed b_MM_feed 8 (some (.int)) ∈ lw_tbg := tb_in (i := 1910) (by decide +kernel) rfl
theorem ml_Law_66 : ax_LV "ClauseProverLaw" 66 y_MM_feed b_MM_feed 8 (some (.int)) 5 := ax_LV.mk (tb_in (i := 1907) (by decide +kernel) rfl) (tb_in (i := 1908) (by decide +kernel) rfl) (tb_in (i := 1909) (by decide +kernel) rfl) ti_MM tc_MM_feed (by decide +kernel)
abbrev b_Law_end : ByteArray := method_4_code
theorem d_Law_end_0 : decode b_Law_end 0 = .ok (.aload_n 2, 1) := by decide +kernel
theorem d_Law_end_1 : decode b_Law_end 1 = .ok (.iconst 0, 1) := by decide +kernel
theorem d_Law_end_2 : decode b_Law_end 2 = .ok (.aload_n 0, 1) := by decide +kernel
theorem d_Law_end_3 : decode b_Law_end 3 = .ok (.iload_n 1, 1) := by decide +kernel
theorem d_Law_end_4 : decode b_Law_end 4 = .ok (.invokevirtual 15, 3) := by decide +kernel
theorem d_Law_end_7 : decode b_Law_end 7 = .ok (.i2l, 1) := by decide +kernel
theorem d_Law_end_8 : decode b_Law_end 8 = .ok (.lastore, 1) := by decide +kernel
theorem d_Law_end_9 : decode b_Law_end 9 = .ok (.goto 6, 3) := by decide +kernel
theorem d_Law_end_12 : decode b_Law_end 12 = .ok (.astore_n 3, 1) := by decide +kernel
theorem d_Law_end_13 : decode b_Law_end 13 = .ok (.iconst 1, 1) := by decide +kernel
theorem d_Law_end_14 : decode b_Law_end 14 = .ok (.ireturn, 1) := by decide +kernel
theorem d_Law_end_15 : decode b_Law_end 15 = .ok (.iconst 0, 1) := by decide +kernel
theorem d_Law_end_16 : decode b_Law_end 16 = .ok (.ireturn, 1) := by decide +kernel
theorem tc_CP_end : Cond.code y_CP_end b_CP_end 2 (some (.int)) ∈ lw_tbg := tb_in (i := 983) (by decide +kernel) rfl
theorem ml_Law_15 : ax_LV "ClauseProverLaw" 15 y_CP_end b_CP_end 2 (some (.int)) 1 := ax_LV.mk (tb_in (i := 980) (by decide +kernel) rfl) (tb_in (i := 981) (by decide +kernel) rfl) (tb_in (i := 982) (by decide +kernel) rfl) ti_CP tc_CP_end (by decide +kernel)
def y_Law_end : MethodName := ⟨"ClauseProverLaw", "end", "(LClauseProver;I[J)I"⟩
theorem tc_Law_end : Cond.codeWith y_Law_end b_Law_end 4 (some .int) [(0, 9, 12, 19)] ∈ lw_tbg := tb_in (i := 978) (by decide +kernel) rfl
theorem mw_Law_71 : ax_LSw "ClauseProverLaw" 71 y_Law_end b_Law_end 4 [(0, 9, 12, 19)] 3 := ax_LSw.mk (tb_in (i := 976) (by decide +kernel) rfl) (tb_in (i := 977) (by decide +kernel) rfl) ti_Law tc_Law_end (by decide +kernel)
theorem tc_MM_end : Cond.code y_MM_end b_MM_end 2 (some (.int)) ∈ lw_tbg := tb_in (i := 1919) (by decide +kernel) rfl
theorem ml_Law_74 : ax_LV "ClauseProverLaw" 74 y_MM_end b_MM_end 2 (some (.int)) 1 := ax_LV.mk (tb_in (i := 1916) (by decide +kernel) rfl) (tb_in (i := 1917) (by decide +kernel) rfl) (tb_in (i := 1918) (by decide +kernel) rfl) ti_MM tc_MM_end (by decide +kernel)
theorem tc_CP_read : Cond.code y_CP_read b_CP_read 2 (some (.int)) ∈ lw_tbg := tb_in (i := 539) (by decide +kernel) rfl
theorem ml_Law_75 : ax_LV "ClauseProverLaw" 75 y_CP_read b_CP_read 2 (some (.int)) 0 := ax_LV.mk (tb_in (i := 536) (by decide +kernel) rfl) (tb_in (i := 537) (by decide +kernel) rfl) (tb_in (i := 538) (by decide +kernel) rfl) ti_CP tc_CP_read (by decide +kernel)
theorem tc_CP_fault : Cond.code y_CP_fault b_CP_fault 2 (some (.int)) ∈ lw_tbg := tb_in (i := 874) (by decide +kernel) rfl
theorem ml_Law_79 : ax_LV "ClauseProverLaw" 79 y_CP_fault b_CP_fault 2 (some (.int)) 1 := ax_LV.mk (tb_in (i := 871) (by decide +kernel) rfl) (tb_in (i := 872) (by decide +kernel) rfl) (tb_in (i := 873) (by decide +kernel) rfl) ti_CP tc_CP_fault (by decide +kernel)
abbrev b_Law_run : ByteArray := method_5_code
theorem d_Law_run_0 : decode b_Law_run 0 = .ok (.aload_n 2, 1) := by decide +kernel
theorem d_Law_run_1 : decode b_Law_run 1 = .ok (.iconst 0, 1) := by decide +kernel
theorem d_Law_run_2 : decode b_Law_run 2 = .ok (.aload_n 0, 1) := by decide +kernel
theorem d_Law_run_3 : decode b_Law_run 3 = .ok (.iload_n 1, 1) := by decide +kernel
theorem d_Law_run_4 : decode b_Law_run 4 = .ok (.invokevirtual 21, 3) := by decide +kernel
theorem d_Law_run_7 : decode b_Law_run 7 = .ok (.i2l, 1) := by decide +kernel
theorem d_Law_run_8 : decode b_Law_run 8 = .ok (.lastore, 1) := by decide +kernel
theorem d_Law_run_9 : decode b_Law_run 9 = .ok (.goto 6, 3) := by decide +kernel
theorem d_Law_run_12 : decode b_Law_run 12 = .ok (.astore_n 3, 1) := by decide +kernel
theorem d_Law_run_13 : decode b_Law_run 13 = .ok (.iconst 1, 1) := by decide +kernel
theorem d_Law_run_14 : decode b_Law_run 14 = .ok (.ireturn, 1) := by decide +kernel
theorem d_Law_run_15 : decode b_Law_run 15 = .ok (.iconst 0, 1) := by decide +kernel
theorem d_Law_run_16 : decode b_Law_run 16 = .ok (.ireturn, 1) := by decide +kernel
theorem tc_CP_run : Cond.code y_CP_run b_CP_run 4 (some (.int)) ∈ lw_tbg := tb_in (i := 1006) (by decide +kernel) rfl
theorem ml_Law_21 : ax_LV "ClauseProverLaw" 21 y_CP_run b_CP_run 4 (some (.int)) 1 := ax_LV.mk (tb_in (i := 1003) (by decide +kernel) rfl) (tb_in (i := 1004) (by decide +kernel) rfl) (tb_in (i := 1005) (by decide +kernel) rfl) ti_CP tc_CP_run (by decide +kernel)
def y_Law_run : MethodName := ⟨"ClauseProverLaw", "run", "(LClauseProver;I[J)I"⟩
theorem tc_Law_run : Cond.codeWith y_Law_run b_Law_run 4 (some .int) [(0, 9, 12, 19)] ∈ lw_tbg := tb_in (i := 1002) (by decide +kernel) rfl
theorem mw_Law_83 : ax_LSw "ClauseProverLaw" 83 y_Law_run b_Law_run 4 [(0, 9, 12, 19)] 3 := ax_LSw.mk (tb_in (i := 1000) (by decide +kernel) rfl) (tb_in (i := 1001) (by decide +kernel) rfl) ti_Law tc_Law_run (by decide +kernel)
abbrev b_Law_clause : ByteArray := method_6_code
theorem d_Law_clause_0 : decode b_Law_clause 0 = .ok (.aload_n 3, 1) := by decide +kernel
theorem d_Law_clause_1 : decode b_Law_clause 1 = .ok (.iconst 0, 1) := by decide +kernel
theorem d_Law_clause_2 : decode b_Law_clause 2 = .ok (.aload_n 0, 1) := by decide +kernel
theorem d_Law_clause_3 : decode b_Law_clause 3 = .ok (.iload_n 1, 1) := by decide +kernel
theorem d_Law_clause_4 : decode b_Law_clause 4 = .ok (.iload_n 2, 1) := by decide +kernel
theorem d_Law_clause_5 : decode b_Law_clause 5 = .ok (.invokevirtual 24, 3) := by decide +kernel
theorem d_Law_clause_8 : decode b_Law_clause 8 = .ok (.i2l, 1) := by decide +kernel
theorem d_Law_clause_9 : decode b_Law_clause 9 = .ok (.lastore, 1) := by decide +kernel
theorem d_Law_clause_10 : decode b_Law_clause 10 = .ok (.goto 11, 3) := by decide +kernel
theorem d_Law_clause_13 : decode b_Law_clause 13 = .ok (.astore 4, 2) := by decide +kernel
theorem d_Law_clause_15 : decode b_Law_clause 15 = .ok (.iconst 1, 1) := by decide +kernel
theorem d_Law_clause_16 : decode b_Law_clause 16 = .ok (.ireturn, 1) := by decide +kernel
theorem d_Law_clause_17 : decode b_Law_clause 17 = .ok (.astore 4, 2) := by decide +kernel
theorem d_Law_clause_19 : decode b_Law_clause 19 = .ok (.iconst 2, 1) := by decide +kernel
theorem d_Law_clause_20 : decode b_Law_clause 20 = .ok (.ireturn, 1) := by decide +kernel
theorem d_Law_clause_21 : decode b_Law_clause 21 = .ok (.iconst 0, 1) := by decide +kernel
theorem d_Law_clause_22 : decode b_Law_clause 22 = .ok (.ireturn, 1) := by decide +kernel
theorem tc_CP_clause : Cond.code y_CP_clause b_CP_clause 3 (some (.int)) ∈ lw_tbg := tb_in (i := 1288) (by decide +kernel) rfl
theorem ml_Law_24 : ax_LV "ClauseProverLaw" 24 y_CP_clause b_CP_clause 3 (some (.int)) 2 := ax_LV.mk (tb_in (i := 1285) (by decide +kernel) rfl) (tb_in (i := 1286) (by decide +kernel) rfl) (tb_in (i := 1287) (by decide +kernel) rfl) ti_CP tc_CP_clause (by decide +kernel)
def y_Law_clause : MethodName := ⟨"ClauseProverLaw", "clause", "(LClauseProver;II[J)I"⟩
theorem tc_Law_clause : Cond.codeWith y_Law_clause b_Law_clause 5 (some .int) [(0, 10, 13, 28), (0, 10, 17, 19)] ∈ lw_tbg := tb_in (i := 1283) (by decide +kernel) rfl
theorem mw_Law_86 : ax_LSw "ClauseProverLaw" 86 y_Law_clause b_Law_clause 5 [(0, 10, 13, 28), (0, 10, 17, 19)] 4 := ax_LSw.mk (tb_in (i := 1281) (by decide +kernel) rfl) (tb_in (i := 1282) (by decide +kernel) rfl) ti_Law tc_Law_clause (by decide +kernel)
abbrev b_Law_rewrote : ByteArray := method_7_code
theorem d_Law_rewrote_0 : decode b_Law_rewrote 0 = .ok (.aload_n 3, 1) := by decide +kernel
theorem d_Law_rewrote_1 : decode b_Law_rewrote 1 = .ok (.iconst 0, 1) := by decide +kernel
theorem d_Law_rewrote_2 : decode b_Law_rewrote 2 = .ok (.aload_n 0, 1) := by decide +kernel
theorem d_Law_rewrote_3 : decode b_Law_rewrote 3 = .ok (.iload_n 1, 1) := by decide +kernel
theorem d_Law_rewrote_4 : decode b_Law_rewrote 4 = .ok (.iload_n 2, 1) := by decide +kernel
theorem d_Law_rewrote_5 : decode b_Law_rewrote 5 = .ok (.invokevirtual 30, 3) := by decide +kernel
theorem d_Law_rewrote_8 : decode b_Law_rewrote 8 = .ok (.i2l, 1) := by decide +kernel
theorem d_Law_rewrote_9 : decode b_Law_rewrote 9 = .ok (.lastore, 1) := by decide +kernel
theorem d_Law_rewrote_10 : decode b_Law_rewrote 10 = .ok (.goto 7, 3) := by decide +kernel
theorem d_Law_rewrote_13 : decode b_Law_rewrote 13 = .ok (.astore 4, 2) := by decide +kernel
theorem d_Law_rewrote_15 : decode b_Law_rewrote 15 = .ok (.iconst 1, 1) := by decide +kernel
theorem d_Law_rewrote_16 : decode b_Law_rewrote 16 = .ok (.ireturn, 1) := by decide +kernel
theorem d_Law_rewrote_17 : decode b_Law_rewrote 17 = .ok (.iconst 0, 1) := by decide +kernel
theorem d_Law_rewrote_18 : decode b_Law_rewrote 18 = .ok (.ireturn, 1) := by decide +kernel
theorem tc_CP_rewrote : Cond.code y_CP_rewrote b_CP_rewrote 3 (some (.int)) ∈ lw_tbg := tb_in (i := 1314) (by decide +kernel) rfl
theorem ml_Law_30 : ax_LV "ClauseProverLaw" 30 y_CP_rewrote b_CP_rewrote 3 (some (.int)) 2 := ax_LV.mk (tb_in (i := 1311) (by decide +kernel) rfl) (tb_in (i := 1312) (by decide +kernel) rfl) (tb_in (i := 1313) (by decide +kernel) rfl) ti_CP tc_CP_rewrote (by decide +kernel)
def y_Law_rewrote : MethodName := ⟨"ClauseProverLaw", "rewrote", "(LClauseProver;II[J)I"⟩
theorem tc_Law_rewrote : Cond.codeWith y_Law_rewrote b_Law_rewrote 5 (some .int) [(0, 10, 13, 28)] ∈ lw_tbg := tb_in (i := 1310) (by decide +kernel) rfl
theorem mw_Law_90 : ax_LSw "ClauseProverLaw" 90 y_Law_rewrote b_Law_rewrote 5 [(0, 10, 13, 28)] 4 := ax_LSw.mk (tb_in (i := 1308) (by decide +kernel) rfl) (tb_in (i := 1309) (by decide +kernel) rfl) ti_Law tc_Law_rewrote (by decide +kernel)
abbrev b_Law_literal : ByteArray := method_8_code
theorem d_Law_literal_0 : decode b_Law_literal 0 = .ok (.aload 4, 2) := by decide +kernel
theorem d_Law_literal_2 : decode b_Law_literal 2 = .ok (.iconst 0, 1) := by decide +kernel
theorem d_Law_literal_3 : decode b_Law_literal 3 = .ok (.aload_n 0, 1) := by decide +kernel
theorem d_Law_literal_4 : decode b_Law_literal 4 = .ok (.iload_n 1, 1) := by decide +kernel
theorem d_Law_literal_5 : decode b_Law_literal 5 = .ok (.iload_n 2, 1) := by decide +kernel
theorem d_Law_literal_6 : decode b_Law_literal 6 = .ok (.iload_n 3, 1) := by decide +kernel
theorem d_Law_literal_7 : decode b_Law_literal 7 = .ok (.invokevirtual 33, 3) := by decide +kernel
theorem d_Law_literal_10 : decode b_Law_literal 10 = .ok (.i2l, 1) := by decide +kernel
theorem d_Law_literal_11 : decode b_Law_literal 11 = .ok (.lastore, 1) := by decide +kernel
theorem d_Law_literal_12 : decode b_Law_literal 12 = .ok (.goto 11, 3) := by decide +kernel
theorem d_Law_literal_15 : decode b_Law_literal 15 = .ok (.astore 5, 2) := by decide +kernel
theorem d_Law_literal_17 : decode b_Law_literal 17 = .ok (.iconst 1, 1) := by decide +kernel
theorem d_Law_literal_18 : decode b_Law_literal 18 = .ok (.ireturn, 1) := by decide +kernel
theorem d_Law_literal_19 : decode b_Law_literal 19 = .ok (.astore 5, 2) := by decide +kernel
theorem d_Law_literal_21 : decode b_Law_literal 21 = .ok (.iconst 2, 1) := by decide +kernel
theorem d_Law_literal_22 : decode b_Law_literal 22 = .ok (.ireturn, 1) := by decide +kernel
theorem d_Law_literal_23 : decode b_Law_literal 23 = .ok (.iconst 0, 1) := by decide +kernel
theorem d_Law_literal_24 : decode b_Law_literal 24 = .ok (.ireturn, 1) := by decide +kernel
theorem tc_CP_literal : Cond.code y_CP_literal b_CP_literal 6 (some (.int)) ∈ lw_tbg := tb_in (i := 1322) (by decide +kernel) rfl
theorem ml_Law_33 : ax_LV "ClauseProverLaw" 33 y_CP_literal b_CP_literal 6 (some (.int)) 3 := ax_LV.mk (tb_in (i := 1319) (by decide +kernel) rfl) (tb_in (i := 1320) (by decide +kernel) rfl) (tb_in (i := 1321) (by decide +kernel) rfl) ti_CP tc_CP_literal (by decide +kernel)
def y_Law_literal : MethodName := ⟨"ClauseProverLaw", "literal", "(LClauseProver;III[J)I"⟩
theorem tc_Law_literal : Cond.codeWith y_Law_literal b_Law_literal 6 (some .int) [(0, 12, 15, 28), (0, 12, 19, 19)] ∈ lw_tbg := tb_in (i := 1318) (by decide +kernel) rfl
theorem mw_Law_93 : ax_LSw "ClauseProverLaw" 93 y_Law_literal b_Law_literal 6 [(0, 12, 15, 28), (0, 12, 19, 19)] 5 := ax_LSw.mk (tb_in (i := 1316) (by decide +kernel) rfl) (tb_in (i := 1317) (by decide +kernel) rfl) ti_Law tc_Law_literal (by decide +kernel)
abbrev b_Law_show : ByteArray := method_9_code
theorem d_Law_show_0 : decode b_Law_show 0 = .ok (.aload_n 2, 1) := by decide +kernel
theorem d_Law_show_1 : decode b_Law_show 1 = .ok (.iconst 0, 1) := by decide +kernel
theorem d_Law_show_2 : decode b_Law_show 2 = .ok (.aload_n 0, 1) := by decide +kernel
theorem d_Law_show_3 : decode b_Law_show 3 = .ok (.iload_n 1, 1) := by decide +kernel
theorem d_Law_show_4 : decode b_Law_show 4 = .ok (.invokevirtual 37, 3) := by decide +kernel
theorem d_Law_show_7 : decode b_Law_show 7 = .ok (.i2l, 1) := by decide +kernel
theorem d_Law_show_8 : decode b_Law_show 8 = .ok (.lastore, 1) := by decide +kernel
theorem d_Law_show_9 : decode b_Law_show 9 = .ok (.goto 6, 3) := by decide +kernel
theorem d_Law_show_12 : decode b_Law_show 12 = .ok (.astore_n 3, 1) := by decide +kernel
theorem d_Law_show_13 : decode b_Law_show 13 = .ok (.iconst 1, 1) := by decide +kernel
theorem d_Law_show_14 : decode b_Law_show 14 = .ok (.ireturn, 1) := by decide +kernel
theorem d_Law_show_15 : decode b_Law_show 15 = .ok (.iconst 0, 1) := by decide +kernel
theorem d_Law_show_16 : decode b_Law_show 16 = .ok (.ireturn, 1) := by decide +kernel
theorem tc_CP_show : Cond.code y_CP_show b_CP_show 5 (some (.int)) ∈ lw_tbg := tb_in (i := 1332) (by decide +kernel) rfl
theorem ml_Law_37 : ax_LV "ClauseProverLaw" 37 y_CP_show b_CP_show 5 (some (.int)) 1 := ax_LV.mk (tb_in (i := 1329) (by decide +kernel) rfl) (tb_in (i := 1330) (by decide +kernel) rfl) (tb_in (i := 1331) (by decide +kernel) rfl) ti_CP tc_CP_show (by decide +kernel)
def y_Law_show : MethodName := ⟨"ClauseProverLaw", "show", "(LClauseProver;I[J)I"⟩
theorem tc_Law_show : Cond.codeWith y_Law_show b_Law_show 4 (some .int) [(0, 9, 12, 28)] ∈ lw_tbg := tb_in (i := 1328) (by decide +kernel) rfl
theorem mw_Law_97 : ax_LSw "ClauseProverLaw" 97 y_Law_show b_Law_show 4 [(0, 9, 12, 28)] 3 := ax_LSw.mk (tb_in (i := 1326) (by decide +kernel) rfl) (tb_in (i := 1327) (by decide +kernel) rfl) ti_Law tc_Law_show (by decide +kernel)
abbrev b_Law_out : ByteArray := method_10_code
theorem d_Law_out_0 : decode b_Law_out 0 = .ok (.aload_n 2, 1) := by decide +kernel
theorem d_Law_out_1 : decode b_Law_out 1 = .ok (.iconst 0, 1) := by decide +kernel
theorem d_Law_out_2 : decode b_Law_out 2 = .ok (.aload_n 0, 1) := by decide +kernel
theorem d_Law_out_3 : decode b_Law_out 3 = .ok (.iload_n 1, 1) := by decide +kernel
theorem d_Law_out_4 : decode b_Law_out 4 = .ok (.invokevirtual 40, 3) := by decide +kernel
theorem d_Law_out_7 : decode b_Law_out 7 = .ok (.i2l, 1) := by decide +kernel
theorem d_Law_out_8 : decode b_Law_out 8 = .ok (.lastore, 1) := by decide +kernel
theorem d_Law_out_9 : decode b_Law_out 9 = .ok (.goto 6, 3) := by decide +kernel
theorem d_Law_out_12 : decode b_Law_out 12 = .ok (.astore_n 3, 1) := by decide +kernel
theorem d_Law_out_13 : decode b_Law_out 13 = .ok (.iconst 1, 1) := by decide +kernel
theorem d_Law_out_14 : decode b_Law_out 14 = .ok (.ireturn, 1) := by decide +kernel
theorem d_Law_out_15 : decode b_Law_out 15 = .ok (.iconst 0, 1) := by decide +kernel
theorem d_Law_out_16 : decode b_Law_out 16 = .ok (.ireturn, 1) := by decide +kernel
theorem tc_CP_out : Cond.code y_CP_out b_CP_out 2 (some (.int)) ∈ lw_tbg := tb_in (i := 1425) (by decide +kernel) rfl
theorem ml_Law_40 : ax_LV "ClauseProverLaw" 40 y_CP_out b_CP_out 2 (some (.int)) 1 := ax_LV.mk (tb_in (i := 1422) (by decide +kernel) rfl) (tb_in (i := 1423) (by decide +kernel) rfl) (tb_in (i := 1424) (by decide +kernel) rfl) ti_CP tc_CP_out (by decide +kernel)
def y_Law_out : MethodName := ⟨"ClauseProverLaw", "out", "(LClauseProver;I[J)I"⟩
theorem tc_Law_out : Cond.codeWith y_Law_out b_Law_out 4 (some .int) [(0, 9, 12, 43)] ∈ lw_tbg := tb_in (i := 1420) (by decide +kernel) rfl
theorem mw_Law_100 : ax_LSw "ClauseProverLaw" 100 y_Law_out b_Law_out 4 [(0, 9, 12, 43)] 3 := ax_LSw.mk (tb_in (i := 1418) (by decide +kernel) rfl) (tb_in (i := 1419) (by decide +kernel) rfl) ti_Law tc_Law_out (by decide +kernel)
abbrev b_Law_symbol : ByteArray := method_11_code
theorem d_Law_symbol_0 : decode b_Law_symbol 0 = .ok (.aload_n 3, 1) := by decide +kernel
theorem d_Law_symbol_1 : decode b_Law_symbol 1 = .ok (.iconst 0, 1) := by decide +kernel
theorem d_Law_symbol_2 : decode b_Law_symbol 2 = .ok (.aload_n 0, 1) := by decide +kernel
theorem d_Law_symbol_3 : decode b_Law_symbol 3 = .ok (.iload_n 1, 1) := by decide +kernel
theorem d_Law_symbol_4 : decode b_Law_symbol 4 = .ok (.iload_n 2, 1) := by decide +kernel
theorem d_Law_symbol_5 : decode b_Law_symbol 5 = .ok (.invokevirtual 45, 3) := by decide +kernel
theorem d_Law_symbol_8 : decode b_Law_symbol 8 = .ok (.i2l, 1) := by decide +kernel
theorem d_Law_symbol_9 : decode b_Law_symbol 9 = .ok (.lastore, 1) := by decide +kernel
theorem d_Law_symbol_10 : decode b_Law_symbol 10 = .ok (.goto 11, 3) := by decide +kernel
theorem d_Law_symbol_13 : decode b_Law_symbol 13 = .ok (.astore 4, 2) := by decide +kernel
theorem d_Law_symbol_15 : decode b_Law_symbol 15 = .ok (.iconst 1, 1) := by decide +kernel
theorem d_Law_symbol_16 : decode b_Law_symbol 16 = .ok (.ireturn, 1) := by decide +kernel
theorem d_Law_symbol_17 : decode b_Law_symbol 17 = .ok (.astore 4, 2) := by decide +kernel
theorem d_Law_symbol_19 : decode b_Law_symbol 19 = .ok (.iconst 2, 1) := by decide +kernel
theorem d_Law_symbol_20 : decode b_Law_symbol 20 = .ok (.ireturn, 1) := by decide +kernel
theorem d_Law_symbol_21 : decode b_Law_symbol 21 = .ok (.iconst 0, 1) := by decide +kernel
theorem d_Law_symbol_22 : decode b_Law_symbol 22 = .ok (.ireturn, 1) := by decide +kernel
theorem tc_CP_symbol : Cond.code y_CP_symbol b_CP_symbol 4 (some (.int)) ∈ lw_tbg := tb_in (i := 1448) (by decide +kernel) rfl
theorem ml_Law_45 : ax_LV "ClauseProverLaw" 45 y_CP_symbol b_CP_symbol 4 (some (.int)) 2 := ax_LV.mk (tb_in (i := 1445) (by decide +kernel) rfl) (tb_in (i := 1446) (by decide +kernel) rfl) (tb_in (i := 1447) (by decide +kernel) rfl) ti_CP tc_CP_symbol (by decide +kernel)
def y_Law_symbol : MethodName := ⟨"ClauseProverLaw", "symbol", "(LClauseProver;II[J)I"⟩
theorem tc_Law_symbol : Cond.codeWith y_Law_symbol b_Law_symbol 5 (some .int) [(0, 10, 13, 28), (0, 10, 17, 19)] ∈ lw_tbg := tb_in (i := 1444) (by decide +kernel) rfl
theorem mw_Law_103 : ax_LSw "ClauseProverLaw" 103 y_Law_symbol b_Law_symbol 5 [(0, 10, 13, 28), (0, 10, 17, 19)] 4 := ax_LSw.mk (tb_in (i := 1442) (by decide +kernel) rfl) (tb_in (i := 1443) (by decide +kernel) rfl) ti_Law tc_Law_symbol (by decide +kernel)
theorem tc_CP_proof : Cond.code y_CP_proof b_CP_proof 1 (some (.int)) ∈ lw_tbg := tb_in (i := 878) (by decide +kernel) rfl
theorem ml_Law_106 : ax_LV "ClauseProverLaw" 106 y_CP_proof b_CP_proof 1 (some (.int)) 0 := ax_LV.mk (tb_in (i := 875) (by decide +kernel) rfl) (tb_in (i := 876) (by decide +kernel) rfl) (tb_in (i := 877) (by decide +kernel) rfl) ti_CP tc_CP_proof (by decide +kernel)
abbrev b_Law_step : ByteArray := method_12_code
theorem d_Law_step_0 : decode b_Law_step 0 = .ok (.aload_n 2, 1) := by decide +kernel
theorem d_Law_step_1 : decode b_Law_step 1 = .ok (.iconst 0, 1) := by decide +kernel
theorem d_Law_step_2 : decode b_Law_step 2 = .ok (.aload_n 0, 1) := by decide +kernel
theorem d_Law_step_3 : decode b_Law_step 3 = .ok (.iload_n 1, 1) := by decide +kernel
theorem d_Law_step_4 : decode b_Law_step 4 = .ok (.invokevirtual 48, 3) := by decide +kernel
theorem d_Law_step_7 : decode b_Law_step 7 = .ok (.i2l, 1) := by decide +kernel
theorem d_Law_step_8 : decode b_Law_step 8 = .ok (.lastore, 1) := by decide +kernel
theorem d_Law_step_9 : decode b_Law_step 9 = .ok (.goto 6, 3) := by decide +kernel
theorem d_Law_step_12 : decode b_Law_step 12 = .ok (.astore_n 3, 1) := by decide +kernel
theorem d_Law_step_13 : decode b_Law_step 13 = .ok (.iconst 1, 1) := by decide +kernel
theorem d_Law_step_14 : decode b_Law_step 14 = .ok (.ireturn, 1) := by decide +kernel
theorem d_Law_step_15 : decode b_Law_step 15 = .ok (.iconst 0, 1) := by decide +kernel
theorem d_Law_step_16 : decode b_Law_step 16 = .ok (.ireturn, 1) := by decide +kernel
theorem tc_CP_step : Cond.code y_CP_step b_CP_step 2 (some (.int)) ∈ lw_tbg := tb_in (i := 1457) (by decide +kernel) rfl
theorem ml_Law_48 : ax_LV "ClauseProverLaw" 48 y_CP_step b_CP_step 2 (some (.int)) 1 := ax_LV.mk (tb_in (i := 1454) (by decide +kernel) rfl) (tb_in (i := 1455) (by decide +kernel) rfl) (tb_in (i := 1456) (by decide +kernel) rfl) ti_CP tc_CP_step (by decide +kernel)
def y_Law_step : MethodName := ⟨"ClauseProverLaw", "step", "(LClauseProver;I[J)I"⟩
theorem tc_Law_step : Cond.codeWith y_Law_step b_Law_step 4 (some .int) [(0, 9, 12, 43)] ∈ lw_tbg := tb_in (i := 1453) (by decide +kernel) rfl
theorem mw_Law_110 : ax_LSw "ClauseProverLaw" 110 y_Law_step b_Law_step 4 [(0, 9, 12, 43)] 3 := ax_LSw.mk (tb_in (i := 1451) (by decide +kernel) rfl) (tb_in (i := 1452) (by decide +kernel) rfl) ti_Law tc_Law_step (by decide +kernel)
abbrev b_Law_look : ByteArray := method_13_code
theorem d_Law_look_0 : decode b_Law_look 0 = .ok (.aload_n 3, 1) := by decide +kernel
theorem d_Law_look_1 : decode b_Law_look 1 = .ok (.iconst 0, 1) := by decide +kernel
theorem d_Law_look_2 : decode b_Law_look 2 = .ok (.aload_n 0, 1) := by decide +kernel
theorem d_Law_look_3 : decode b_Law_look 3 = .ok (.iload_n 1, 1) := by decide +kernel
theorem d_Law_look_4 : decode b_Law_look 4 = .ok (.iload_n 2, 1) := by decide +kernel
theorem d_Law_look_5 : decode b_Law_look 5 = .ok (.invokevirtual 51, 3) := by decide +kernel
theorem d_Law_look_8 : decode b_Law_look 8 = .ok (.i2l, 1) := by decide +kernel
theorem d_Law_look_9 : decode b_Law_look 9 = .ok (.lastore, 1) := by decide +kernel
theorem d_Law_look_10 : decode b_Law_look 10 = .ok (.goto 7, 3) := by decide +kernel
theorem d_Law_look_13 : decode b_Law_look 13 = .ok (.astore 4, 2) := by decide +kernel
theorem d_Law_look_15 : decode b_Law_look 15 = .ok (.iconst 1, 1) := by decide +kernel
theorem d_Law_look_16 : decode b_Law_look 16 = .ok (.ireturn, 1) := by decide +kernel
theorem d_Law_look_17 : decode b_Law_look 17 = .ok (.iconst 0, 1) := by decide +kernel
theorem d_Law_look_18 : decode b_Law_look 18 = .ok (.ireturn, 1) := by decide +kernel
theorem tc_CP_look : Cond.code y_CP_look b_CP_look 5 (some (.int)) ∈ lw_tbg := tb_in (i := 1465) (by decide +kernel) rfl
theorem ml_Law_51 : ax_LV "ClauseProverLaw" 51 y_CP_look b_CP_look 5 (some (.int)) 2 := ax_LV.mk (tb_in (i := 1462) (by decide +kernel) rfl) (tb_in (i := 1463) (by decide +kernel) rfl) (tb_in (i := 1464) (by decide +kernel) rfl) ti_CP tc_CP_look (by decide +kernel)
def y_Law_look : MethodName := ⟨"ClauseProverLaw", "look", "(LClauseProver;II[J)I"⟩
theorem tc_Law_look : Cond.codeWith y_Law_look b_Law_look 5 (some .int) [(0, 10, 13, 19)] ∈ lw_tbg := tb_in (i := 1461) (by decide +kernel) rfl
theorem mw_Law_113 : ax_LSw "ClauseProverLaw" 113 y_Law_look b_Law_look 5 [(0, 10, 13, 19)] 4 := ax_LSw.mk (tb_in (i := 1459) (by decide +kernel) rfl) (tb_in (i := 1460) (by decide +kernel) rfl) ti_Law tc_Law_look (by decide +kernel)
abbrev b_Law_search : ByteArray := method_14_code
theorem d_Law_search_0 : decode b_Law_search 0 = .ok (.aload 4, 2) := by decide +kernel
theorem d_Law_search_2 : decode b_Law_search 2 = .ok (.iconst 0, 1) := by decide +kernel
theorem d_Law_search_3 : decode b_Law_search 3 = .ok (.aload_n 0, 1) := by decide +kernel
theorem d_Law_search_4 : decode b_Law_search 4 = .ok (.iload_n 1, 1) := by decide +kernel
theorem d_Law_search_5 : decode b_Law_search 5 = .ok (.iload_n 2, 1) := by decide +kernel
theorem d_Law_search_6 : decode b_Law_search 6 = .ok (.iload_n 3, 1) := by decide +kernel
theorem d_Law_search_7 : decode b_Law_search 7 = .ok (.invokevirtual 54, 3) := by decide +kernel
theorem d_Law_search_10 : decode b_Law_search 10 = .ok (.i2l, 1) := by decide +kernel
theorem d_Law_search_11 : decode b_Law_search 11 = .ok (.lastore, 1) := by decide +kernel
theorem d_Law_search_12 : decode b_Law_search 12 = .ok (.goto 7, 3) := by decide +kernel
theorem d_Law_search_15 : decode b_Law_search 15 = .ok (.astore 5, 2) := by decide +kernel
theorem d_Law_search_17 : decode b_Law_search 17 = .ok (.iconst 1, 1) := by decide +kernel
theorem d_Law_search_18 : decode b_Law_search 18 = .ok (.ireturn, 1) := by decide +kernel
theorem d_Law_search_19 : decode b_Law_search 19 = .ok (.iconst 0, 1) := by decide +kernel
theorem d_Law_search_20 : decode b_Law_search 20 = .ok (.ireturn, 1) := by decide +kernel
theorem tc_CP_search : Cond.code y_CP_search b_CP_search 5 (some (.int)) ∈ lw_tbg := tb_in (i := 1508) (by decide +kernel) rfl
theorem ml_Law_54 : ax_LV "ClauseProverLaw" 54 y_CP_search b_CP_search 5 (some (.int)) 3 := ax_LV.mk (tb_in (i := 1505) (by decide +kernel) rfl) (tb_in (i := 1506) (by decide +kernel) rfl) (tb_in (i := 1507) (by decide +kernel) rfl) ti_CP tc_CP_search (by decide +kernel)
def y_Law_search : MethodName := ⟨"ClauseProverLaw", "search", "(LClauseProver;III[J)I"⟩
theorem tc_Law_search : Cond.codeWith y_Law_search b_Law_search 6 (some .int) [(0, 12, 15, 19)] ∈ lw_tbg := tb_in (i := 1504) (by decide +kernel) rfl
theorem mw_Law_116 : ax_LSw "ClauseProverLaw" 116 y_Law_search b_Law_search 6 [(0, 12, 15, 19)] 5 := ax_LSw.mk (tb_in (i := 1502) (by decide +kernel) rfl) (tb_in (i := 1503) (by decide +kernel) rfl) ti_Law tc_Law_search (by decide +kernel)
theorem tc_CP_count : Cond.code y_CP_count b_CP_count 2 (some (.int)) ∈ lw_tbg := tb_in (i := 882) (by decide +kernel) rfl
theorem ml_Law_119 : ax_LV "ClauseProverLaw" 119 y_CP_count b_CP_count 2 (some (.int)) 1 := ax_LV.mk (tb_in (i := 879) (by decide +kernel) rfl) (tb_in (i := 880) (by decide +kernel) rfl) (tb_in (i := 881) (by decide +kernel) rfl) ti_CP tc_CP_count (by decide +kernel)
abbrev b_Law_law : ByteArray := code
theorem d_Law_law_0 : decode b_Law_law 0 = .ok (.new 8, 3) := by decide +kernel
theorem d_Law_law_3 : decode b_Law_law 3 = .ok (.dup, 1) := by decide +kernel
theorem d_Law_law_4 : decode b_Law_law 4 = .ok (.invokespecial 57, 3) := by decide +kernel
theorem d_Law_law_7 : decode b_Law_law 7 = .ok (.astore_n 1, 1) := by decide +kernel
theorem d_Law_law_8 : decode b_Law_law 8 = .ok (.new 58, 3) := by decide +kernel
theorem d_Law_law_11 : decode b_Law_law 11 = .ok (.dup, 1) := by decide +kernel
theorem d_Law_law_12 : decode b_Law_law 12 = .ok (.invokespecial 60, 3) := by decide +kernel
theorem d_Law_law_15 : decode b_Law_law 15 = .ok (.astore_n 2, 1) := by decide +kernel
theorem d_Law_law_16 : decode b_Law_law 16 = .ok (.iconst 1, 1) := by decide +kernel
theorem d_Law_law_17 : decode b_Law_law 17 = .ok (.newarray .long, 2) := by decide +kernel
theorem d_Law_law_19 : decode b_Law_law 19 = .ok (.astore_n 3, 1) := by decide +kernel
theorem d_Law_law_20 : decode b_Law_law 20 = .ok (.iconst 0, 1) := by decide +kernel
theorem d_Law_law_21 : decode b_Law_law 21 = .ok (.istore 4, 2) := by decide +kernel
theorem d_Law_law_23 : decode b_Law_law 23 = .ok (.iload 4, 2) := by decide +kernel
theorem d_Law_law_25 : decode b_Law_law 25 = .ok (.aload_n 0, 1) := by decide +kernel
theorem d_Law_law_26 : decode b_Law_law 26 = .ok (.arraylength, 1) := by decide +kernel
theorem d_Law_law_27 : decode b_Law_law 27 = .ok (.bipush 6, 2) := by decide +kernel
theorem d_Law_law_29 : decode b_Law_law 29 = .ok (.isub, 1) := by decide +kernel
theorem d_Law_law_30 : decode b_Law_law 30 = .ok (.if_icmp .gt 988, 3) := by decide +kernel
theorem d_Law_law_33 : decode b_Law_law 33 = .ok (.aload_n 0, 1) := by decide +kernel
theorem d_Law_law_34 : decode b_Law_law 34 = .ok (.iload 4, 2) := by decide +kernel
theorem d_Law_law_36 : decode b_Law_law 36 = .ok (.iaload, 1) := by decide +kernel
theorem d_Law_law_37 : decode b_Law_law 37 = .ok (.bipush 15, 2) := by decide +kernel
theorem d_Law_law_39 : decode b_Law_law 39 = .ok (.iand, 1) := by decide +kernel
theorem d_Law_law_40 : decode b_Law_law 40 = .ok (.tableswitch 972 0 15 #[80, 184, 240, 253, 278, 334, 402, 470, 550, 606, 662, 730, 743, 799, 867, 947], 80) := by decide +kernel
theorem d_Law_law_120 : decode b_Law_law 120 = .ok (.aload_n 1, 1) := by decide +kernel
theorem d_Law_law_121 : decode b_Law_law 121 = .ok (.aload_n 0, 1) := by decide +kernel
theorem d_Law_law_122 : decode b_Law_law 122 = .ok (.iload 4, 2) := by decide +kernel
theorem d_Law_law_124 : decode b_Law_law 124 = .ok (.iconst 1, 1) := by decide +kernel
theorem d_Law_law_125 : decode b_Law_law 125 = .ok (.iadd, 1) := by decide +kernel
theorem d_Law_law_126 : decode b_Law_law 126 = .ok (.iaload, 1) := by decide +kernel
theorem d_Law_law_127 : decode b_Law_law 127 = .ok (.aload_n 0, 1) := by decide +kernel
theorem d_Law_law_128 : decode b_Law_law 128 = .ok (.iload 4, 2) := by decide +kernel
theorem d_Law_law_130 : decode b_Law_law 130 = .ok (.iconst 2, 1) := by decide +kernel
theorem d_Law_law_131 : decode b_Law_law 131 = .ok (.iadd, 1) := by decide +kernel
theorem d_Law_law_132 : decode b_Law_law 132 = .ok (.iaload, 1) := by decide +kernel
theorem d_Law_law_133 : decode b_Law_law 133 = .ok (.aload_n 0, 1) := by decide +kernel
theorem d_Law_law_134 : decode b_Law_law 134 = .ok (.iload 4, 2) := by decide +kernel
theorem d_Law_law_136 : decode b_Law_law 136 = .ok (.iconst 3, 1) := by decide +kernel
theorem d_Law_law_137 : decode b_Law_law 137 = .ok (.iadd, 1) := by decide +kernel
theorem d_Law_law_138 : decode b_Law_law 138 = .ok (.iaload, 1) := by decide +kernel
theorem d_Law_law_139 : decode b_Law_law 139 = .ok (.aload_n 0, 1) := by decide +kernel
theorem d_Law_law_140 : decode b_Law_law 140 = .ok (.iload 4, 2) := by decide +kernel
theorem d_Law_law_142 : decode b_Law_law 142 = .ok (.iconst 4, 1) := by decide +kernel
theorem d_Law_law_143 : decode b_Law_law 143 = .ok (.iadd, 1) := by decide +kernel
theorem d_Law_law_144 : decode b_Law_law 144 = .ok (.iaload, 1) := by decide +kernel
theorem d_Law_law_145 : decode b_Law_law 145 = .ok (.aload_n 0, 1) := by decide +kernel
theorem d_Law_law_146 : decode b_Law_law 146 = .ok (.iload 4, 2) := by decide +kernel
theorem d_Law_law_148 : decode b_Law_law 148 = .ok (.iconst 5, 1) := by decide +kernel
theorem d_Law_law_149 : decode b_Law_law 149 = .ok (.iadd, 1) := by decide +kernel
theorem d_Law_law_150 : decode b_Law_law 150 = .ok (.iaload, 1) := by decide +kernel
theorem d_Law_law_151 : decode b_Law_law 151 = .ok (.aload_n 3, 1) := by decide +kernel
theorem d_Law_law_152 : decode b_Law_law 152 = .ok (.invokestatic 61, 3) := by decide +kernel
theorem d_Law_law_155 : decode b_Law_law 155 = .ok (.istore 5, 2) := by decide +kernel
theorem d_Law_law_157 : decode b_Law_law 157 = .ok (.aload_n 2, 1) := by decide +kernel
theorem d_Law_law_158 : decode b_Law_law 158 = .ok (.aload_n 0, 1) := by decide +kernel
theorem d_Law_law_159 : decode b_Law_law 159 = .ok (.iload 4, 2) := by decide +kernel
theorem d_Law_law_161 : decode b_Law_law 161 = .ok (.iconst 1, 1) := by decide +kernel
theorem d_Law_law_162 : decode b_Law_law 162 = .ok (.iadd, 1) := by decide +kernel
theorem d_Law_law_163 : decode b_Law_law 163 = .ok (.iaload, 1) := by decide +kernel
theorem d_Law_law_164 : decode b_Law_law 164 = .ok (.aload_n 0, 1) := by decide +kernel
theorem d_Law_law_165 : decode b_Law_law 165 = .ok (.iload 4, 2) := by decide +kernel
theorem d_Law_law_167 : decode b_Law_law 167 = .ok (.iconst 2, 1) := by decide +kernel
theorem d_Law_law_168 : decode b_Law_law 168 = .ok (.iadd, 1) := by decide +kernel
theorem d_Law_law_169 : decode b_Law_law 169 = .ok (.iaload, 1) := by decide +kernel
theorem d_Law_law_170 : decode b_Law_law 170 = .ok (.aload_n 0, 1) := by decide +kernel
theorem d_Law_law_171 : decode b_Law_law 171 = .ok (.iload 4, 2) := by decide +kernel
theorem d_Law_law_173 : decode b_Law_law 173 = .ok (.iconst 3, 1) := by decide +kernel
theorem d_Law_law_174 : decode b_Law_law 174 = .ok (.iadd, 1) := by decide +kernel
theorem d_Law_law_175 : decode b_Law_law 175 = .ok (.iaload, 1) := by decide +kernel
theorem d_Law_law_176 : decode b_Law_law 176 = .ok (.aload_n 0, 1) := by decide +kernel
theorem d_Law_law_177 : decode b_Law_law 177 = .ok (.iload 4, 2) := by decide +kernel
theorem d_Law_law_179 : decode b_Law_law 179 = .ok (.iconst 4, 1) := by decide +kernel
theorem d_Law_law_180 : decode b_Law_law 180 = .ok (.iadd, 1) := by decide +kernel
theorem d_Law_law_181 : decode b_Law_law 181 = .ok (.iaload, 1) := by decide +kernel
theorem d_Law_law_182 : decode b_Law_law 182 = .ok (.aload_n 0, 1) := by decide +kernel
theorem d_Law_law_183 : decode b_Law_law 183 = .ok (.iload 4, 2) := by decide +kernel
theorem d_Law_law_185 : decode b_Law_law 185 = .ok (.iconst 5, 1) := by decide +kernel
theorem d_Law_law_186 : decode b_Law_law 186 = .ok (.iadd, 1) := by decide +kernel
theorem d_Law_law_187 : decode b_Law_law 187 = .ok (.iaload, 1) := by decide +kernel
theorem d_Law_law_188 : decode b_Law_law 188 = .ok (.invokevirtual 66, 3) := by decide +kernel
theorem d_Law_law_191 : decode b_Law_law 191 = .ok (.istore 6, 2) := by decide +kernel
theorem d_Law_law_193 : decode b_Law_law 193 = .ok (.aload_n 2, 1) := by decide +kernel
theorem d_Law_law_194 : decode b_Law_law 194 = .ok (.invokevirtual 67, 3) := by decide +kernel
theorem d_Law_law_197 : decode b_Law_law 197 = .ok (.iload 5, 2) := by decide +kernel
theorem d_Law_law_199 : decode b_Law_law 199 = .ok (.if_icmp .eq 5, 3) := by decide +kernel
theorem d_Law_law_202 : decode b_Law_law 202 = .ok (.iconst 0, 1) := by decide +kernel
theorem d_Law_law_203 : decode b_Law_law 203 = .ok (.ireturn, 1) := by decide +kernel
theorem d_Law_law_204 : decode b_Law_law 204 = .ok (.iload 5, 2) := by decide +kernel
theorem d_Law_law_206 : decode b_Law_law 206 = .ok (.ifCond .ne 15, 3) := by decide +kernel
theorem d_Law_law_209 : decode b_Law_law 209 = .ok (.aload_n 3, 1) := by decide +kernel
theorem d_Law_law_210 : decode b_Law_law 210 = .ok (.iconst 0, 1) := by decide +kernel
theorem d_Law_law_211 : decode b_Law_law 211 = .ok (.laload, 1) := by decide +kernel
theorem d_Law_law_212 : decode b_Law_law 212 = .ok (.iload 6, 2) := by decide +kernel
theorem d_Law_law_214 : decode b_Law_law 214 = .ok (.i2l, 1) := by decide +kernel
theorem d_Law_law_215 : decode b_Law_law 215 = .ok (.lcmp, 1) := by decide +kernel
theorem d_Law_law_216 : decode b_Law_law 216 = .ok (.ifCond .eq 5, 3) := by decide +kernel
theorem d_Law_law_219 : decode b_Law_law 219 = .ok (.iconst 0, 1) := by decide +kernel
theorem d_Law_law_220 : decode b_Law_law 220 = .ok (.ireturn, 1) := by decide +kernel
theorem d_Law_law_221 : decode b_Law_law 221 = .ok (.goto 791, 3) := by decide +kernel
theorem d_Law_law_224 : decode b_Law_law 224 = .ok (.aload_n 1, 1) := by decide +kernel
theorem d_Law_law_225 : decode b_Law_law 225 = .ok (.aload_n 0, 1) := by decide +kernel
theorem d_Law_law_226 : decode b_Law_law 226 = .ok (.iload 4, 2) := by decide +kernel
theorem d_Law_law_228 : decode b_Law_law 228 = .ok (.iconst 1, 1) := by decide +kernel
theorem d_Law_law_229 : decode b_Law_law 229 = .ok (.iadd, 1) := by decide +kernel
theorem d_Law_law_230 : decode b_Law_law 230 = .ok (.iaload, 1) := by decide +kernel
theorem d_Law_law_231 : decode b_Law_law 231 = .ok (.aload_n 3, 1) := by decide +kernel
theorem d_Law_law_232 : decode b_Law_law 232 = .ok (.invokestatic 71, 3) := by decide +kernel
theorem d_Law_law_235 : decode b_Law_law 235 = .ok (.istore 5, 2) := by decide +kernel
theorem d_Law_law_237 : decode b_Law_law 237 = .ok (.aload_n 2, 1) := by decide +kernel
theorem d_Law_law_238 : decode b_Law_law 238 = .ok (.aload_n 0, 1) := by decide +kernel
theorem d_Law_law_239 : decode b_Law_law 239 = .ok (.iload 4, 2) := by decide +kernel
theorem d_Law_law_241 : decode b_Law_law 241 = .ok (.iconst 1, 1) := by decide +kernel
theorem d_Law_law_242 : decode b_Law_law 242 = .ok (.iadd, 1) := by decide +kernel
theorem d_Law_law_243 : decode b_Law_law 243 = .ok (.iaload, 1) := by decide +kernel
theorem d_Law_law_244 : decode b_Law_law 244 = .ok (.invokevirtual 74, 3) := by decide +kernel
theorem d_Law_law_247 : decode b_Law_law 247 = .ok (.istore 6, 2) := by decide +kernel
theorem d_Law_law_249 : decode b_Law_law 249 = .ok (.aload_n 2, 1) := by decide +kernel
theorem d_Law_law_250 : decode b_Law_law 250 = .ok (.invokevirtual 67, 3) := by decide +kernel
theorem d_Law_law_253 : decode b_Law_law 253 = .ok (.iload 5, 2) := by decide +kernel
theorem d_Law_law_255 : decode b_Law_law 255 = .ok (.if_icmp .eq 5, 3) := by decide +kernel
theorem d_Law_law_258 : decode b_Law_law 258 = .ok (.iconst 0, 1) := by decide +kernel
theorem d_Law_law_259 : decode b_Law_law 259 = .ok (.ireturn, 1) := by decide +kernel
theorem d_Law_law_260 : decode b_Law_law 260 = .ok (.iload 5, 2) := by decide +kernel
theorem d_Law_law_262 : decode b_Law_law 262 = .ok (.ifCond .ne 15, 3) := by decide +kernel
theorem d_Law_law_265 : decode b_Law_law 265 = .ok (.aload_n 3, 1) := by decide +kernel
theorem d_Law_law_266 : decode b_Law_law 266 = .ok (.iconst 0, 1) := by decide +kernel
theorem d_Law_law_267 : decode b_Law_law 267 = .ok (.laload, 1) := by decide +kernel
theorem d_Law_law_268 : decode b_Law_law 268 = .ok (.iload 6, 2) := by decide +kernel
theorem d_Law_law_270 : decode b_Law_law 270 = .ok (.i2l, 1) := by decide +kernel
theorem d_Law_law_271 : decode b_Law_law 271 = .ok (.lcmp, 1) := by decide +kernel
theorem d_Law_law_272 : decode b_Law_law 272 = .ok (.ifCond .eq 5, 3) := by decide +kernel
theorem d_Law_law_275 : decode b_Law_law 275 = .ok (.iconst 0, 1) := by decide +kernel
theorem d_Law_law_276 : decode b_Law_law 276 = .ok (.ireturn, 1) := by decide +kernel
theorem d_Law_law_277 : decode b_Law_law 277 = .ok (.goto 735, 3) := by decide +kernel
theorem d_Law_law_280 : decode b_Law_law 280 = .ok (.aload_n 1, 1) := by decide +kernel
theorem d_Law_law_281 : decode b_Law_law 281 = .ok (.invokevirtual 75, 3) := by decide +kernel
theorem d_Law_law_284 : decode b_Law_law 284 = .ok (.aload_n 2, 1) := by decide +kernel
theorem d_Law_law_285 : decode b_Law_law 285 = .ok (.invokevirtual 78, 3) := by decide +kernel
theorem d_Law_law_288 : decode b_Law_law 288 = .ok (.if_icmp .eq 724, 3) := by decide +kernel
theorem d_Law_law_291 : decode b_Law_law 291 = .ok (.iconst 0, 1) := by decide +kernel
theorem d_Law_law_292 : decode b_Law_law 292 = .ok (.ireturn, 1) := by decide +kernel
theorem d_Law_law_293 : decode b_Law_law 293 = .ok (.aload_n 1, 1) := by decide +kernel
theorem d_Law_law_294 : decode b_Law_law 294 = .ok (.aload_n 0, 1) := by decide +kernel
theorem d_Law_law_295 : decode b_Law_law 295 = .ok (.iload 4, 2) := by decide +kernel
theorem d_Law_law_297 : decode b_Law_law 297 = .ok (.iconst 1, 1) := by decide +kernel
theorem d_Law_law_298 : decode b_Law_law 298 = .ok (.iadd, 1) := by decide +kernel
theorem d_Law_law_299 : decode b_Law_law 299 = .ok (.iaload, 1) := by decide +kernel
theorem d_Law_law_300 : decode b_Law_law 300 = .ok (.invokevirtual 79, 3) := by decide +kernel
theorem d_Law_law_303 : decode b_Law_law 303 = .ok (.aload_n 2, 1) := by decide +kernel
theorem d_Law_law_304 : decode b_Law_law 304 = .ok (.aload_n 0, 1) := by decide +kernel
theorem d_Law_law_305 : decode b_Law_law 305 = .ok (.iload 4, 2) := by decide +kernel
theorem d_Law_law_307 : decode b_Law_law 307 = .ok (.iconst 1, 1) := by decide +kernel
theorem d_Law_law_308 : decode b_Law_law 308 = .ok (.iadd, 1) := by decide +kernel
theorem d_Law_law_309 : decode b_Law_law 309 = .ok (.iaload, 1) := by decide +kernel
theorem d_Law_law_310 : decode b_Law_law 310 = .ok (.invokevirtual 82, 3) := by decide +kernel
theorem d_Law_law_313 : decode b_Law_law 313 = .ok (.if_icmp .eq 699, 3) := by decide +kernel
theorem d_Law_law_316 : decode b_Law_law 316 = .ok (.iconst 0, 1) := by decide +kernel
theorem d_Law_law_317 : decode b_Law_law 317 = .ok (.ireturn, 1) := by decide +kernel
theorem d_Law_law_318 : decode b_Law_law 318 = .ok (.aload_n 1, 1) := by decide +kernel
theorem d_Law_law_319 : decode b_Law_law 319 = .ok (.aload_n 0, 1) := by decide +kernel
theorem d_Law_law_320 : decode b_Law_law 320 = .ok (.iload 4, 2) := by decide +kernel
theorem d_Law_law_322 : decode b_Law_law 322 = .ok (.iconst 1, 1) := by decide +kernel
theorem d_Law_law_323 : decode b_Law_law 323 = .ok (.iadd, 1) := by decide +kernel
theorem d_Law_law_324 : decode b_Law_law 324 = .ok (.iaload, 1) := by decide +kernel
theorem d_Law_law_325 : decode b_Law_law 325 = .ok (.aload_n 3, 1) := by decide +kernel
theorem d_Law_law_326 : decode b_Law_law 326 = .ok (.invokestatic 83, 3) := by decide +kernel
theorem d_Law_law_329 : decode b_Law_law 329 = .ok (.istore 5, 2) := by decide +kernel
theorem d_Law_law_331 : decode b_Law_law 331 = .ok (.aload_n 2, 1) := by decide +kernel
theorem d_Law_law_332 : decode b_Law_law 332 = .ok (.aload_n 0, 1) := by decide +kernel
theorem d_Law_law_333 : decode b_Law_law 333 = .ok (.iload 4, 2) := by decide +kernel
theorem d_Law_law_335 : decode b_Law_law 335 = .ok (.iconst 1, 1) := by decide +kernel
theorem d_Law_law_336 : decode b_Law_law 336 = .ok (.iadd, 1) := by decide +kernel
theorem d_Law_law_337 : decode b_Law_law 337 = .ok (.iaload, 1) := by decide +kernel
theorem d_Law_law_338 : decode b_Law_law 338 = .ok (.invokevirtual 85, 3) := by decide +kernel
theorem d_Law_law_341 : decode b_Law_law 341 = .ok (.istore 6, 2) := by decide +kernel
theorem d_Law_law_343 : decode b_Law_law 343 = .ok (.aload_n 2, 1) := by decide +kernel
theorem d_Law_law_344 : decode b_Law_law 344 = .ok (.invokevirtual 67, 3) := by decide +kernel
theorem d_Law_law_347 : decode b_Law_law 347 = .ok (.iload 5, 2) := by decide +kernel
theorem d_Law_law_349 : decode b_Law_law 349 = .ok (.if_icmp .eq 5, 3) := by decide +kernel
theorem d_Law_law_352 : decode b_Law_law 352 = .ok (.iconst 0, 1) := by decide +kernel
theorem d_Law_law_353 : decode b_Law_law 353 = .ok (.ireturn, 1) := by decide +kernel
theorem d_Law_law_354 : decode b_Law_law 354 = .ok (.iload 5, 2) := by decide +kernel
theorem d_Law_law_356 : decode b_Law_law 356 = .ok (.ifCond .ne 15, 3) := by decide +kernel
theorem d_Law_law_359 : decode b_Law_law 359 = .ok (.aload_n 3, 1) := by decide +kernel
theorem d_Law_law_360 : decode b_Law_law 360 = .ok (.iconst 0, 1) := by decide +kernel
theorem d_Law_law_361 : decode b_Law_law 361 = .ok (.laload, 1) := by decide +kernel
theorem d_Law_law_362 : decode b_Law_law 362 = .ok (.iload 6, 2) := by decide +kernel
theorem d_Law_law_364 : decode b_Law_law 364 = .ok (.i2l, 1) := by decide +kernel
theorem d_Law_law_365 : decode b_Law_law 365 = .ok (.lcmp, 1) := by decide +kernel
theorem d_Law_law_366 : decode b_Law_law 366 = .ok (.ifCond .eq 5, 3) := by decide +kernel
theorem d_Law_law_369 : decode b_Law_law 369 = .ok (.iconst 0, 1) := by decide +kernel
theorem d_Law_law_370 : decode b_Law_law 370 = .ok (.ireturn, 1) := by decide +kernel
theorem d_Law_law_371 : decode b_Law_law 371 = .ok (.goto 641, 3) := by decide +kernel
theorem d_Law_law_374 : decode b_Law_law 374 = .ok (.aload_n 1, 1) := by decide +kernel
theorem d_Law_law_375 : decode b_Law_law 375 = .ok (.aload_n 0, 1) := by decide +kernel
theorem d_Law_law_376 : decode b_Law_law 376 = .ok (.iload 4, 2) := by decide +kernel
theorem d_Law_law_378 : decode b_Law_law 378 = .ok (.iconst 1, 1) := by decide +kernel
theorem d_Law_law_379 : decode b_Law_law 379 = .ok (.iadd, 1) := by decide +kernel
theorem d_Law_law_380 : decode b_Law_law 380 = .ok (.iaload, 1) := by decide +kernel
theorem d_Law_law_381 : decode b_Law_law 381 = .ok (.aload_n 0, 1) := by decide +kernel
theorem d_Law_law_382 : decode b_Law_law 382 = .ok (.iload 4, 2) := by decide +kernel
theorem d_Law_law_384 : decode b_Law_law 384 = .ok (.iconst 2, 1) := by decide +kernel
theorem d_Law_law_385 : decode b_Law_law 385 = .ok (.iadd, 1) := by decide +kernel
theorem d_Law_law_386 : decode b_Law_law 386 = .ok (.iaload, 1) := by decide +kernel
theorem d_Law_law_387 : decode b_Law_law 387 = .ok (.aload_n 3, 1) := by decide +kernel
theorem d_Law_law_388 : decode b_Law_law 388 = .ok (.invokestatic 86, 3) := by decide +kernel
theorem d_Law_law_391 : decode b_Law_law 391 = .ok (.istore 5, 2) := by decide +kernel
theorem d_Law_law_393 : decode b_Law_law 393 = .ok (.aload_n 2, 1) := by decide +kernel
theorem d_Law_law_394 : decode b_Law_law 394 = .ok (.aload_n 0, 1) := by decide +kernel
theorem d_Law_law_395 : decode b_Law_law 395 = .ok (.iload 4, 2) := by decide +kernel
theorem d_Law_law_397 : decode b_Law_law 397 = .ok (.iconst 1, 1) := by decide +kernel
theorem d_Law_law_398 : decode b_Law_law 398 = .ok (.iadd, 1) := by decide +kernel
theorem d_Law_law_399 : decode b_Law_law 399 = .ok (.iaload, 1) := by decide +kernel
theorem d_Law_law_400 : decode b_Law_law 400 = .ok (.aload_n 0, 1) := by decide +kernel
theorem d_Law_law_401 : decode b_Law_law 401 = .ok (.iload 4, 2) := by decide +kernel
theorem d_Law_law_403 : decode b_Law_law 403 = .ok (.iconst 2, 1) := by decide +kernel
theorem d_Law_law_404 : decode b_Law_law 404 = .ok (.iadd, 1) := by decide +kernel
theorem d_Law_law_405 : decode b_Law_law 405 = .ok (.iaload, 1) := by decide +kernel
theorem d_Law_law_406 : decode b_Law_law 406 = .ok (.invokevirtual 89, 3) := by decide +kernel
theorem d_Law_law_409 : decode b_Law_law 409 = .ok (.istore 6, 2) := by decide +kernel
theorem d_Law_law_411 : decode b_Law_law 411 = .ok (.aload_n 2, 1) := by decide +kernel
theorem d_Law_law_412 : decode b_Law_law 412 = .ok (.invokevirtual 67, 3) := by decide +kernel
theorem d_Law_law_415 : decode b_Law_law 415 = .ok (.iload 5, 2) := by decide +kernel
theorem d_Law_law_417 : decode b_Law_law 417 = .ok (.if_icmp .eq 5, 3) := by decide +kernel
theorem d_Law_law_420 : decode b_Law_law 420 = .ok (.iconst 0, 1) := by decide +kernel
theorem d_Law_law_421 : decode b_Law_law 421 = .ok (.ireturn, 1) := by decide +kernel
theorem d_Law_law_422 : decode b_Law_law 422 = .ok (.iload 5, 2) := by decide +kernel
theorem d_Law_law_424 : decode b_Law_law 424 = .ok (.ifCond .ne 15, 3) := by decide +kernel
theorem d_Law_law_427 : decode b_Law_law 427 = .ok (.aload_n 3, 1) := by decide +kernel
theorem d_Law_law_428 : decode b_Law_law 428 = .ok (.iconst 0, 1) := by decide +kernel
theorem d_Law_law_429 : decode b_Law_law 429 = .ok (.laload, 1) := by decide +kernel
theorem d_Law_law_430 : decode b_Law_law 430 = .ok (.iload 6, 2) := by decide +kernel
theorem d_Law_law_432 : decode b_Law_law 432 = .ok (.i2l, 1) := by decide +kernel
theorem d_Law_law_433 : decode b_Law_law 433 = .ok (.lcmp, 1) := by decide +kernel
theorem d_Law_law_434 : decode b_Law_law 434 = .ok (.ifCond .eq 5, 3) := by decide +kernel
theorem d_Law_law_437 : decode b_Law_law 437 = .ok (.iconst 0, 1) := by decide +kernel
theorem d_Law_law_438 : decode b_Law_law 438 = .ok (.ireturn, 1) := by decide +kernel
theorem d_Law_law_439 : decode b_Law_law 439 = .ok (.goto 573, 3) := by decide +kernel
theorem d_Law_law_442 : decode b_Law_law 442 = .ok (.aload_n 1, 1) := by decide +kernel
theorem d_Law_law_443 : decode b_Law_law 443 = .ok (.aload_n 0, 1) := by decide +kernel
theorem d_Law_law_444 : decode b_Law_law 444 = .ok (.iload 4, 2) := by decide +kernel
theorem d_Law_law_446 : decode b_Law_law 446 = .ok (.iconst 1, 1) := by decide +kernel
theorem d_Law_law_447 : decode b_Law_law 447 = .ok (.iadd, 1) := by decide +kernel
theorem d_Law_law_448 : decode b_Law_law 448 = .ok (.iaload, 1) := by decide +kernel
theorem d_Law_law_449 : decode b_Law_law 449 = .ok (.aload_n 0, 1) := by decide +kernel
theorem d_Law_law_450 : decode b_Law_law 450 = .ok (.iload 4, 2) := by decide +kernel
theorem d_Law_law_452 : decode b_Law_law 452 = .ok (.iconst 2, 1) := by decide +kernel
theorem d_Law_law_453 : decode b_Law_law 453 = .ok (.iadd, 1) := by decide +kernel
theorem d_Law_law_454 : decode b_Law_law 454 = .ok (.iaload, 1) := by decide +kernel
theorem d_Law_law_455 : decode b_Law_law 455 = .ok (.aload_n 3, 1) := by decide +kernel
theorem d_Law_law_456 : decode b_Law_law 456 = .ok (.invokestatic 90, 3) := by decide +kernel
theorem d_Law_law_459 : decode b_Law_law 459 = .ok (.istore 5, 2) := by decide +kernel
theorem d_Law_law_461 : decode b_Law_law 461 = .ok (.aload_n 2, 1) := by decide +kernel
theorem d_Law_law_462 : decode b_Law_law 462 = .ok (.aload_n 0, 1) := by decide +kernel
theorem d_Law_law_463 : decode b_Law_law 463 = .ok (.iload 4, 2) := by decide +kernel
theorem d_Law_law_465 : decode b_Law_law 465 = .ok (.iconst 1, 1) := by decide +kernel
theorem d_Law_law_466 : decode b_Law_law 466 = .ok (.iadd, 1) := by decide +kernel
theorem d_Law_law_467 : decode b_Law_law 467 = .ok (.iaload, 1) := by decide +kernel
theorem d_Law_law_468 : decode b_Law_law 468 = .ok (.aload_n 0, 1) := by decide +kernel
theorem d_Law_law_469 : decode b_Law_law 469 = .ok (.iload 4, 2) := by decide +kernel
theorem d_Law_law_471 : decode b_Law_law 471 = .ok (.iconst 2, 1) := by decide +kernel
theorem d_Law_law_472 : decode b_Law_law 472 = .ok (.iadd, 1) := by decide +kernel
theorem d_Law_law_473 : decode b_Law_law 473 = .ok (.iaload, 1) := by decide +kernel
theorem d_Law_law_474 : decode b_Law_law 474 = .ok (.invokevirtual 92, 3) := by decide +kernel
theorem d_Law_law_477 : decode b_Law_law 477 = .ok (.istore 6, 2) := by decide +kernel
theorem d_Law_law_479 : decode b_Law_law 479 = .ok (.aload_n 2, 1) := by decide +kernel
theorem d_Law_law_480 : decode b_Law_law 480 = .ok (.invokevirtual 67, 3) := by decide +kernel
theorem d_Law_law_483 : decode b_Law_law 483 = .ok (.iload 5, 2) := by decide +kernel
theorem d_Law_law_485 : decode b_Law_law 485 = .ok (.if_icmp .eq 5, 3) := by decide +kernel
theorem d_Law_law_488 : decode b_Law_law 488 = .ok (.iconst 0, 1) := by decide +kernel
theorem d_Law_law_489 : decode b_Law_law 489 = .ok (.ireturn, 1) := by decide +kernel
theorem d_Law_law_490 : decode b_Law_law 490 = .ok (.iload 5, 2) := by decide +kernel
theorem d_Law_law_492 : decode b_Law_law 492 = .ok (.ifCond .ne 15, 3) := by decide +kernel
theorem d_Law_law_495 : decode b_Law_law 495 = .ok (.aload_n 3, 1) := by decide +kernel
theorem d_Law_law_496 : decode b_Law_law 496 = .ok (.iconst 0, 1) := by decide +kernel
theorem d_Law_law_497 : decode b_Law_law 497 = .ok (.laload, 1) := by decide +kernel
theorem d_Law_law_498 : decode b_Law_law 498 = .ok (.iload 6, 2) := by decide +kernel
theorem d_Law_law_500 : decode b_Law_law 500 = .ok (.i2l, 1) := by decide +kernel
theorem d_Law_law_501 : decode b_Law_law 501 = .ok (.lcmp, 1) := by decide +kernel
theorem d_Law_law_502 : decode b_Law_law 502 = .ok (.ifCond .eq 5, 3) := by decide +kernel
theorem d_Law_law_505 : decode b_Law_law 505 = .ok (.iconst 0, 1) := by decide +kernel
theorem d_Law_law_506 : decode b_Law_law 506 = .ok (.ireturn, 1) := by decide +kernel
theorem d_Law_law_507 : decode b_Law_law 507 = .ok (.goto 505, 3) := by decide +kernel
theorem d_Law_law_510 : decode b_Law_law 510 = .ok (.aload_n 1, 1) := by decide +kernel
theorem d_Law_law_511 : decode b_Law_law 511 = .ok (.aload_n 0, 1) := by decide +kernel
theorem d_Law_law_512 : decode b_Law_law 512 = .ok (.iload 4, 2) := by decide +kernel
theorem d_Law_law_514 : decode b_Law_law 514 = .ok (.iconst 1, 1) := by decide +kernel
theorem d_Law_law_515 : decode b_Law_law 515 = .ok (.iadd, 1) := by decide +kernel
theorem d_Law_law_516 : decode b_Law_law 516 = .ok (.iaload, 1) := by decide +kernel
theorem d_Law_law_517 : decode b_Law_law 517 = .ok (.aload_n 0, 1) := by decide +kernel
theorem d_Law_law_518 : decode b_Law_law 518 = .ok (.iload 4, 2) := by decide +kernel
theorem d_Law_law_520 : decode b_Law_law 520 = .ok (.iconst 2, 1) := by decide +kernel
theorem d_Law_law_521 : decode b_Law_law 521 = .ok (.iadd, 1) := by decide +kernel
theorem d_Law_law_522 : decode b_Law_law 522 = .ok (.iaload, 1) := by decide +kernel
theorem d_Law_law_523 : decode b_Law_law 523 = .ok (.aload_n 0, 1) := by decide +kernel
theorem d_Law_law_524 : decode b_Law_law 524 = .ok (.iload 4, 2) := by decide +kernel
theorem d_Law_law_526 : decode b_Law_law 526 = .ok (.iconst 3, 1) := by decide +kernel
theorem d_Law_law_527 : decode b_Law_law 527 = .ok (.iadd, 1) := by decide +kernel
theorem d_Law_law_528 : decode b_Law_law 528 = .ok (.iaload, 1) := by decide +kernel
theorem d_Law_law_529 : decode b_Law_law 529 = .ok (.aload_n 3, 1) := by decide +kernel
theorem d_Law_law_530 : decode b_Law_law 530 = .ok (.invokestatic 93, 3) := by decide +kernel
theorem d_Law_law_533 : decode b_Law_law 533 = .ok (.istore 5, 2) := by decide +kernel
theorem d_Law_law_535 : decode b_Law_law 535 = .ok (.aload_n 2, 1) := by decide +kernel
theorem d_Law_law_536 : decode b_Law_law 536 = .ok (.aload_n 0, 1) := by decide +kernel
theorem d_Law_law_537 : decode b_Law_law 537 = .ok (.iload 4, 2) := by decide +kernel
theorem d_Law_law_539 : decode b_Law_law 539 = .ok (.iconst 1, 1) := by decide +kernel
theorem d_Law_law_540 : decode b_Law_law 540 = .ok (.iadd, 1) := by decide +kernel
theorem d_Law_law_541 : decode b_Law_law 541 = .ok (.iaload, 1) := by decide +kernel
theorem d_Law_law_542 : decode b_Law_law 542 = .ok (.aload_n 0, 1) := by decide +kernel
theorem d_Law_law_543 : decode b_Law_law 543 = .ok (.iload 4, 2) := by decide +kernel
theorem d_Law_law_545 : decode b_Law_law 545 = .ok (.iconst 2, 1) := by decide +kernel
theorem d_Law_law_546 : decode b_Law_law 546 = .ok (.iadd, 1) := by decide +kernel
theorem d_Law_law_547 : decode b_Law_law 547 = .ok (.iaload, 1) := by decide +kernel
theorem d_Law_law_548 : decode b_Law_law 548 = .ok (.aload_n 0, 1) := by decide +kernel
theorem d_Law_law_549 : decode b_Law_law 549 = .ok (.iload 4, 2) := by decide +kernel
theorem d_Law_law_551 : decode b_Law_law 551 = .ok (.iconst 3, 1) := by decide +kernel
theorem d_Law_law_552 : decode b_Law_law 552 = .ok (.iadd, 1) := by decide +kernel
theorem d_Law_law_553 : decode b_Law_law 553 = .ok (.iaload, 1) := by decide +kernel
theorem d_Law_law_554 : decode b_Law_law 554 = .ok (.invokevirtual 96, 3) := by decide +kernel
theorem d_Law_law_557 : decode b_Law_law 557 = .ok (.istore 6, 2) := by decide +kernel
theorem d_Law_law_559 : decode b_Law_law 559 = .ok (.aload_n 2, 1) := by decide +kernel
theorem d_Law_law_560 : decode b_Law_law 560 = .ok (.invokevirtual 67, 3) := by decide +kernel
theorem d_Law_law_563 : decode b_Law_law 563 = .ok (.iload 5, 2) := by decide +kernel
theorem d_Law_law_565 : decode b_Law_law 565 = .ok (.if_icmp .eq 5, 3) := by decide +kernel
theorem d_Law_law_568 : decode b_Law_law 568 = .ok (.iconst 0, 1) := by decide +kernel
theorem d_Law_law_569 : decode b_Law_law 569 = .ok (.ireturn, 1) := by decide +kernel
theorem d_Law_law_570 : decode b_Law_law 570 = .ok (.iload 5, 2) := by decide +kernel
theorem d_Law_law_572 : decode b_Law_law 572 = .ok (.ifCond .ne 15, 3) := by decide +kernel
theorem d_Law_law_575 : decode b_Law_law 575 = .ok (.aload_n 3, 1) := by decide +kernel
theorem d_Law_law_576 : decode b_Law_law 576 = .ok (.iconst 0, 1) := by decide +kernel
theorem d_Law_law_577 : decode b_Law_law 577 = .ok (.laload, 1) := by decide +kernel
theorem d_Law_law_578 : decode b_Law_law 578 = .ok (.iload 6, 2) := by decide +kernel
theorem d_Law_law_580 : decode b_Law_law 580 = .ok (.i2l, 1) := by decide +kernel
theorem d_Law_law_581 : decode b_Law_law 581 = .ok (.lcmp, 1) := by decide +kernel
theorem d_Law_law_582 : decode b_Law_law 582 = .ok (.ifCond .eq 5, 3) := by decide +kernel
theorem d_Law_law_585 : decode b_Law_law 585 = .ok (.iconst 0, 1) := by decide +kernel
theorem d_Law_law_586 : decode b_Law_law 586 = .ok (.ireturn, 1) := by decide +kernel
theorem d_Law_law_587 : decode b_Law_law 587 = .ok (.goto 425, 3) := by decide +kernel
theorem d_Law_law_590 : decode b_Law_law 590 = .ok (.aload_n 1, 1) := by decide +kernel
theorem d_Law_law_591 : decode b_Law_law 591 = .ok (.aload_n 0, 1) := by decide +kernel
theorem d_Law_law_592 : decode b_Law_law 592 = .ok (.iload 4, 2) := by decide +kernel
theorem d_Law_law_594 : decode b_Law_law 594 = .ok (.iconst 1, 1) := by decide +kernel
theorem d_Law_law_595 : decode b_Law_law 595 = .ok (.iadd, 1) := by decide +kernel
theorem d_Law_law_596 : decode b_Law_law 596 = .ok (.iaload, 1) := by decide +kernel
theorem d_Law_law_597 : decode b_Law_law 597 = .ok (.aload_n 3, 1) := by decide +kernel
theorem d_Law_law_598 : decode b_Law_law 598 = .ok (.invokestatic 97, 3) := by decide +kernel
theorem d_Law_law_601 : decode b_Law_law 601 = .ok (.istore 5, 2) := by decide +kernel
theorem d_Law_law_603 : decode b_Law_law 603 = .ok (.aload_n 2, 1) := by decide +kernel
theorem d_Law_law_604 : decode b_Law_law 604 = .ok (.aload_n 0, 1) := by decide +kernel
theorem d_Law_law_605 : decode b_Law_law 605 = .ok (.iload 4, 2) := by decide +kernel
theorem d_Law_law_607 : decode b_Law_law 607 = .ok (.iconst 1, 1) := by decide +kernel
theorem d_Law_law_608 : decode b_Law_law 608 = .ok (.iadd, 1) := by decide +kernel
theorem d_Law_law_609 : decode b_Law_law 609 = .ok (.iaload, 1) := by decide +kernel
theorem d_Law_law_610 : decode b_Law_law 610 = .ok (.invokevirtual 99, 3) := by decide +kernel
theorem d_Law_law_613 : decode b_Law_law 613 = .ok (.istore 6, 2) := by decide +kernel
theorem d_Law_law_615 : decode b_Law_law 615 = .ok (.aload_n 2, 1) := by decide +kernel
theorem d_Law_law_616 : decode b_Law_law 616 = .ok (.invokevirtual 67, 3) := by decide +kernel
theorem d_Law_law_619 : decode b_Law_law 619 = .ok (.iload 5, 2) := by decide +kernel
theorem d_Law_law_621 : decode b_Law_law 621 = .ok (.if_icmp .eq 5, 3) := by decide +kernel
theorem d_Law_law_624 : decode b_Law_law 624 = .ok (.iconst 0, 1) := by decide +kernel
theorem d_Law_law_625 : decode b_Law_law 625 = .ok (.ireturn, 1) := by decide +kernel
theorem d_Law_law_626 : decode b_Law_law 626 = .ok (.iload 5, 2) := by decide +kernel
theorem d_Law_law_628 : decode b_Law_law 628 = .ok (.ifCond .ne 15, 3) := by decide +kernel
theorem d_Law_law_631 : decode b_Law_law 631 = .ok (.aload_n 3, 1) := by decide +kernel
theorem d_Law_law_632 : decode b_Law_law 632 = .ok (.iconst 0, 1) := by decide +kernel
theorem d_Law_law_633 : decode b_Law_law 633 = .ok (.laload, 1) := by decide +kernel
theorem d_Law_law_634 : decode b_Law_law 634 = .ok (.iload 6, 2) := by decide +kernel
theorem d_Law_law_636 : decode b_Law_law 636 = .ok (.i2l, 1) := by decide +kernel
theorem d_Law_law_637 : decode b_Law_law 637 = .ok (.lcmp, 1) := by decide +kernel
theorem d_Law_law_638 : decode b_Law_law 638 = .ok (.ifCond .eq 5, 3) := by decide +kernel
theorem d_Law_law_641 : decode b_Law_law 641 = .ok (.iconst 0, 1) := by decide +kernel
theorem d_Law_law_642 : decode b_Law_law 642 = .ok (.ireturn, 1) := by decide +kernel
theorem d_Law_law_643 : decode b_Law_law 643 = .ok (.goto 369, 3) := by decide +kernel
theorem d_Law_law_646 : decode b_Law_law 646 = .ok (.aload_n 1, 1) := by decide +kernel
theorem d_Law_law_647 : decode b_Law_law 647 = .ok (.aload_n 0, 1) := by decide +kernel
theorem d_Law_law_648 : decode b_Law_law 648 = .ok (.iload 4, 2) := by decide +kernel
theorem d_Law_law_650 : decode b_Law_law 650 = .ok (.iconst 1, 1) := by decide +kernel
theorem d_Law_law_651 : decode b_Law_law 651 = .ok (.iadd, 1) := by decide +kernel
theorem d_Law_law_652 : decode b_Law_law 652 = .ok (.iaload, 1) := by decide +kernel
theorem d_Law_law_653 : decode b_Law_law 653 = .ok (.aload_n 3, 1) := by decide +kernel
theorem d_Law_law_654 : decode b_Law_law 654 = .ok (.invokestatic 100, 3) := by decide +kernel
theorem d_Law_law_657 : decode b_Law_law 657 = .ok (.istore 5, 2) := by decide +kernel
theorem d_Law_law_659 : decode b_Law_law 659 = .ok (.aload_n 2, 1) := by decide +kernel
theorem d_Law_law_660 : decode b_Law_law 660 = .ok (.aload_n 0, 1) := by decide +kernel
theorem d_Law_law_661 : decode b_Law_law 661 = .ok (.iload 4, 2) := by decide +kernel
theorem d_Law_law_663 : decode b_Law_law 663 = .ok (.iconst 1, 1) := by decide +kernel
theorem d_Law_law_664 : decode b_Law_law 664 = .ok (.iadd, 1) := by decide +kernel
theorem d_Law_law_665 : decode b_Law_law 665 = .ok (.iaload, 1) := by decide +kernel
theorem d_Law_law_666 : decode b_Law_law 666 = .ok (.invokevirtual 102, 3) := by decide +kernel
theorem d_Law_law_669 : decode b_Law_law 669 = .ok (.istore 6, 2) := by decide +kernel
theorem d_Law_law_671 : decode b_Law_law 671 = .ok (.aload_n 2, 1) := by decide +kernel
theorem d_Law_law_672 : decode b_Law_law 672 = .ok (.invokevirtual 67, 3) := by decide +kernel
theorem d_Law_law_675 : decode b_Law_law 675 = .ok (.iload 5, 2) := by decide +kernel
theorem d_Law_law_677 : decode b_Law_law 677 = .ok (.if_icmp .eq 5, 3) := by decide +kernel
theorem d_Law_law_680 : decode b_Law_law 680 = .ok (.iconst 0, 1) := by decide +kernel
theorem d_Law_law_681 : decode b_Law_law 681 = .ok (.ireturn, 1) := by decide +kernel
theorem d_Law_law_682 : decode b_Law_law 682 = .ok (.iload 5, 2) := by decide +kernel
theorem d_Law_law_684 : decode b_Law_law 684 = .ok (.ifCond .ne 15, 3) := by decide +kernel
theorem d_Law_law_687 : decode b_Law_law 687 = .ok (.aload_n 3, 1) := by decide +kernel
theorem d_Law_law_688 : decode b_Law_law 688 = .ok (.iconst 0, 1) := by decide +kernel
theorem d_Law_law_689 : decode b_Law_law 689 = .ok (.laload, 1) := by decide +kernel
theorem d_Law_law_690 : decode b_Law_law 690 = .ok (.iload 6, 2) := by decide +kernel
theorem d_Law_law_692 : decode b_Law_law 692 = .ok (.i2l, 1) := by decide +kernel
theorem d_Law_law_693 : decode b_Law_law 693 = .ok (.lcmp, 1) := by decide +kernel
theorem d_Law_law_694 : decode b_Law_law 694 = .ok (.ifCond .eq 5, 3) := by decide +kernel
theorem d_Law_law_697 : decode b_Law_law 697 = .ok (.iconst 0, 1) := by decide +kernel
theorem d_Law_law_698 : decode b_Law_law 698 = .ok (.ireturn, 1) := by decide +kernel
theorem d_Law_law_699 : decode b_Law_law 699 = .ok (.goto 313, 3) := by decide +kernel
theorem d_Law_law_702 : decode b_Law_law 702 = .ok (.aload_n 1, 1) := by decide +kernel
theorem d_Law_law_703 : decode b_Law_law 703 = .ok (.aload_n 0, 1) := by decide +kernel
theorem d_Law_law_704 : decode b_Law_law 704 = .ok (.iload 4, 2) := by decide +kernel
theorem d_Law_law_706 : decode b_Law_law 706 = .ok (.iconst 1, 1) := by decide +kernel
theorem d_Law_law_707 : decode b_Law_law 707 = .ok (.iadd, 1) := by decide +kernel
theorem d_Law_law_708 : decode b_Law_law 708 = .ok (.iaload, 1) := by decide +kernel
theorem d_Law_law_709 : decode b_Law_law 709 = .ok (.aload_n 0, 1) := by decide +kernel
theorem d_Law_law_710 : decode b_Law_law 710 = .ok (.iload 4, 2) := by decide +kernel
theorem d_Law_law_712 : decode b_Law_law 712 = .ok (.iconst 2, 1) := by decide +kernel
theorem d_Law_law_713 : decode b_Law_law 713 = .ok (.iadd, 1) := by decide +kernel
theorem d_Law_law_714 : decode b_Law_law 714 = .ok (.iaload, 1) := by decide +kernel
theorem d_Law_law_715 : decode b_Law_law 715 = .ok (.aload_n 3, 1) := by decide +kernel
theorem d_Law_law_716 : decode b_Law_law 716 = .ok (.invokestatic 103, 3) := by decide +kernel
theorem d_Law_law_719 : decode b_Law_law 719 = .ok (.istore 5, 2) := by decide +kernel
theorem d_Law_law_721 : decode b_Law_law 721 = .ok (.aload_n 2, 1) := by decide +kernel
theorem d_Law_law_722 : decode b_Law_law 722 = .ok (.aload_n 0, 1) := by decide +kernel
theorem d_Law_law_723 : decode b_Law_law 723 = .ok (.iload 4, 2) := by decide +kernel
theorem d_Law_law_725 : decode b_Law_law 725 = .ok (.iconst 1, 1) := by decide +kernel
theorem d_Law_law_726 : decode b_Law_law 726 = .ok (.iadd, 1) := by decide +kernel
theorem d_Law_law_727 : decode b_Law_law 727 = .ok (.iaload, 1) := by decide +kernel
theorem d_Law_law_728 : decode b_Law_law 728 = .ok (.aload_n 0, 1) := by decide +kernel
theorem d_Law_law_729 : decode b_Law_law 729 = .ok (.iload 4, 2) := by decide +kernel
theorem d_Law_law_731 : decode b_Law_law 731 = .ok (.iconst 2, 1) := by decide +kernel
theorem d_Law_law_732 : decode b_Law_law 732 = .ok (.iadd, 1) := by decide +kernel
theorem d_Law_law_733 : decode b_Law_law 733 = .ok (.iaload, 1) := by decide +kernel
theorem d_Law_law_734 : decode b_Law_law 734 = .ok (.invokevirtual 105, 3) := by decide +kernel
theorem d_Law_law_737 : decode b_Law_law 737 = .ok (.istore 6, 2) := by decide +kernel
theorem d_Law_law_739 : decode b_Law_law 739 = .ok (.aload_n 2, 1) := by decide +kernel
theorem d_Law_law_740 : decode b_Law_law 740 = .ok (.invokevirtual 67, 3) := by decide +kernel
theorem d_Law_law_743 : decode b_Law_law 743 = .ok (.iload 5, 2) := by decide +kernel
theorem d_Law_law_745 : decode b_Law_law 745 = .ok (.if_icmp .eq 5, 3) := by decide +kernel
theorem d_Law_law_748 : decode b_Law_law 748 = .ok (.iconst 0, 1) := by decide +kernel
theorem d_Law_law_749 : decode b_Law_law 749 = .ok (.ireturn, 1) := by decide +kernel
theorem d_Law_law_750 : decode b_Law_law 750 = .ok (.iload 5, 2) := by decide +kernel
theorem d_Law_law_752 : decode b_Law_law 752 = .ok (.ifCond .ne 15, 3) := by decide +kernel
theorem d_Law_law_755 : decode b_Law_law 755 = .ok (.aload_n 3, 1) := by decide +kernel
theorem d_Law_law_756 : decode b_Law_law 756 = .ok (.iconst 0, 1) := by decide +kernel
theorem d_Law_law_757 : decode b_Law_law 757 = .ok (.laload, 1) := by decide +kernel
theorem d_Law_law_758 : decode b_Law_law 758 = .ok (.iload 6, 2) := by decide +kernel
theorem d_Law_law_760 : decode b_Law_law 760 = .ok (.i2l, 1) := by decide +kernel
theorem d_Law_law_761 : decode b_Law_law 761 = .ok (.lcmp, 1) := by decide +kernel
theorem d_Law_law_762 : decode b_Law_law 762 = .ok (.ifCond .eq 5, 3) := by decide +kernel
theorem d_Law_law_765 : decode b_Law_law 765 = .ok (.iconst 0, 1) := by decide +kernel
theorem d_Law_law_766 : decode b_Law_law 766 = .ok (.ireturn, 1) := by decide +kernel
theorem d_Law_law_767 : decode b_Law_law 767 = .ok (.goto 245, 3) := by decide +kernel
theorem d_Law_law_770 : decode b_Law_law 770 = .ok (.aload_n 1, 1) := by decide +kernel
theorem d_Law_law_771 : decode b_Law_law 771 = .ok (.invokevirtual 106, 3) := by decide +kernel
theorem d_Law_law_774 : decode b_Law_law 774 = .ok (.aload_n 2, 1) := by decide +kernel
theorem d_Law_law_775 : decode b_Law_law 775 = .ok (.invokevirtual 109, 3) := by decide +kernel
theorem d_Law_law_778 : decode b_Law_law 778 = .ok (.if_icmp .eq 234, 3) := by decide +kernel
theorem d_Law_law_781 : decode b_Law_law 781 = .ok (.iconst 0, 1) := by decide +kernel
theorem d_Law_law_782 : decode b_Law_law 782 = .ok (.ireturn, 1) := by decide +kernel
theorem d_Law_law_783 : decode b_Law_law 783 = .ok (.aload_n 1, 1) := by decide +kernel
theorem d_Law_law_784 : decode b_Law_law 784 = .ok (.aload_n 0, 1) := by decide +kernel
theorem d_Law_law_785 : decode b_Law_law 785 = .ok (.iload 4, 2) := by decide +kernel
theorem d_Law_law_787 : decode b_Law_law 787 = .ok (.iconst 1, 1) := by decide +kernel
theorem d_Law_law_788 : decode b_Law_law 788 = .ok (.iadd, 1) := by decide +kernel
theorem d_Law_law_789 : decode b_Law_law 789 = .ok (.iaload, 1) := by decide +kernel
theorem d_Law_law_790 : decode b_Law_law 790 = .ok (.aload_n 3, 1) := by decide +kernel
theorem d_Law_law_791 : decode b_Law_law 791 = .ok (.invokestatic 110, 3) := by decide +kernel
theorem d_Law_law_794 : decode b_Law_law 794 = .ok (.istore 5, 2) := by decide +kernel
theorem d_Law_law_796 : decode b_Law_law 796 = .ok (.aload_n 2, 1) := by decide +kernel
theorem d_Law_law_797 : decode b_Law_law 797 = .ok (.aload_n 0, 1) := by decide +kernel
theorem d_Law_law_798 : decode b_Law_law 798 = .ok (.iload 4, 2) := by decide +kernel
theorem d_Law_law_800 : decode b_Law_law 800 = .ok (.iconst 1, 1) := by decide +kernel
theorem d_Law_law_801 : decode b_Law_law 801 = .ok (.iadd, 1) := by decide +kernel
theorem d_Law_law_802 : decode b_Law_law 802 = .ok (.iaload, 1) := by decide +kernel
theorem d_Law_law_803 : decode b_Law_law 803 = .ok (.invokevirtual 112, 3) := by decide +kernel
theorem d_Law_law_806 : decode b_Law_law 806 = .ok (.istore 6, 2) := by decide +kernel
theorem d_Law_law_808 : decode b_Law_law 808 = .ok (.aload_n 2, 1) := by decide +kernel
theorem d_Law_law_809 : decode b_Law_law 809 = .ok (.invokevirtual 67, 3) := by decide +kernel
theorem d_Law_law_812 : decode b_Law_law 812 = .ok (.iload 5, 2) := by decide +kernel
theorem d_Law_law_814 : decode b_Law_law 814 = .ok (.if_icmp .eq 5, 3) := by decide +kernel
theorem d_Law_law_817 : decode b_Law_law 817 = .ok (.iconst 0, 1) := by decide +kernel
theorem d_Law_law_818 : decode b_Law_law 818 = .ok (.ireturn, 1) := by decide +kernel
theorem d_Law_law_819 : decode b_Law_law 819 = .ok (.iload 5, 2) := by decide +kernel
theorem d_Law_law_821 : decode b_Law_law 821 = .ok (.ifCond .ne 15, 3) := by decide +kernel
theorem d_Law_law_824 : decode b_Law_law 824 = .ok (.aload_n 3, 1) := by decide +kernel
theorem d_Law_law_825 : decode b_Law_law 825 = .ok (.iconst 0, 1) := by decide +kernel
theorem d_Law_law_826 : decode b_Law_law 826 = .ok (.laload, 1) := by decide +kernel
theorem d_Law_law_827 : decode b_Law_law 827 = .ok (.iload 6, 2) := by decide +kernel
theorem d_Law_law_829 : decode b_Law_law 829 = .ok (.i2l, 1) := by decide +kernel
theorem d_Law_law_830 : decode b_Law_law 830 = .ok (.lcmp, 1) := by decide +kernel
theorem d_Law_law_831 : decode b_Law_law 831 = .ok (.ifCond .eq 5, 3) := by decide +kernel
theorem d_Law_law_834 : decode b_Law_law 834 = .ok (.iconst 0, 1) := by decide +kernel
theorem d_Law_law_835 : decode b_Law_law 835 = .ok (.ireturn, 1) := by decide +kernel
theorem d_Law_law_836 : decode b_Law_law 836 = .ok (.goto 176, 3) := by decide +kernel
theorem d_Law_law_839 : decode b_Law_law 839 = .ok (.aload_n 1, 1) := by decide +kernel
theorem d_Law_law_840 : decode b_Law_law 840 = .ok (.aload_n 0, 1) := by decide +kernel
theorem d_Law_law_841 : decode b_Law_law 841 = .ok (.iload 4, 2) := by decide +kernel
theorem d_Law_law_843 : decode b_Law_law 843 = .ok (.iconst 1, 1) := by decide +kernel
theorem d_Law_law_844 : decode b_Law_law 844 = .ok (.iadd, 1) := by decide +kernel
theorem d_Law_law_845 : decode b_Law_law 845 = .ok (.iaload, 1) := by decide +kernel
theorem d_Law_law_846 : decode b_Law_law 846 = .ok (.aload_n 0, 1) := by decide +kernel
theorem d_Law_law_847 : decode b_Law_law 847 = .ok (.iload 4, 2) := by decide +kernel
theorem d_Law_law_849 : decode b_Law_law 849 = .ok (.iconst 2, 1) := by decide +kernel
theorem d_Law_law_850 : decode b_Law_law 850 = .ok (.iadd, 1) := by decide +kernel
theorem d_Law_law_851 : decode b_Law_law 851 = .ok (.iaload, 1) := by decide +kernel
theorem d_Law_law_852 : decode b_Law_law 852 = .ok (.aload_n 3, 1) := by decide +kernel
theorem d_Law_law_853 : decode b_Law_law 853 = .ok (.invokestatic 113, 3) := by decide +kernel
theorem d_Law_law_856 : decode b_Law_law 856 = .ok (.istore 5, 2) := by decide +kernel
theorem d_Law_law_858 : decode b_Law_law 858 = .ok (.aload_n 2, 1) := by decide +kernel
theorem d_Law_law_859 : decode b_Law_law 859 = .ok (.aload_n 0, 1) := by decide +kernel
theorem d_Law_law_860 : decode b_Law_law 860 = .ok (.iload 4, 2) := by decide +kernel
theorem d_Law_law_862 : decode b_Law_law 862 = .ok (.iconst 1, 1) := by decide +kernel
theorem d_Law_law_863 : decode b_Law_law 863 = .ok (.iadd, 1) := by decide +kernel
theorem d_Law_law_864 : decode b_Law_law 864 = .ok (.iaload, 1) := by decide +kernel
theorem d_Law_law_865 : decode b_Law_law 865 = .ok (.aload_n 0, 1) := by decide +kernel
theorem d_Law_law_866 : decode b_Law_law 866 = .ok (.iload 4, 2) := by decide +kernel
theorem d_Law_law_868 : decode b_Law_law 868 = .ok (.iconst 2, 1) := by decide +kernel
theorem d_Law_law_869 : decode b_Law_law 869 = .ok (.iadd, 1) := by decide +kernel
theorem d_Law_law_870 : decode b_Law_law 870 = .ok (.iaload, 1) := by decide +kernel
theorem d_Law_law_871 : decode b_Law_law 871 = .ok (.invokevirtual 115, 3) := by decide +kernel
theorem d_Law_law_874 : decode b_Law_law 874 = .ok (.istore 6, 2) := by decide +kernel
theorem d_Law_law_876 : decode b_Law_law 876 = .ok (.aload_n 2, 1) := by decide +kernel
theorem d_Law_law_877 : decode b_Law_law 877 = .ok (.invokevirtual 67, 3) := by decide +kernel
theorem d_Law_law_880 : decode b_Law_law 880 = .ok (.iload 5, 2) := by decide +kernel
theorem d_Law_law_882 : decode b_Law_law 882 = .ok (.if_icmp .eq 5, 3) := by decide +kernel
theorem d_Law_law_885 : decode b_Law_law 885 = .ok (.iconst 0, 1) := by decide +kernel
theorem d_Law_law_886 : decode b_Law_law 886 = .ok (.ireturn, 1) := by decide +kernel
theorem d_Law_law_887 : decode b_Law_law 887 = .ok (.iload 5, 2) := by decide +kernel
theorem d_Law_law_889 : decode b_Law_law 889 = .ok (.ifCond .ne 15, 3) := by decide +kernel
theorem d_Law_law_892 : decode b_Law_law 892 = .ok (.aload_n 3, 1) := by decide +kernel
theorem d_Law_law_893 : decode b_Law_law 893 = .ok (.iconst 0, 1) := by decide +kernel
theorem d_Law_law_894 : decode b_Law_law 894 = .ok (.laload, 1) := by decide +kernel
theorem d_Law_law_895 : decode b_Law_law 895 = .ok (.iload 6, 2) := by decide +kernel
theorem d_Law_law_897 : decode b_Law_law 897 = .ok (.i2l, 1) := by decide +kernel
theorem d_Law_law_898 : decode b_Law_law 898 = .ok (.lcmp, 1) := by decide +kernel
theorem d_Law_law_899 : decode b_Law_law 899 = .ok (.ifCond .eq 5, 3) := by decide +kernel
theorem d_Law_law_902 : decode b_Law_law 902 = .ok (.iconst 0, 1) := by decide +kernel
theorem d_Law_law_903 : decode b_Law_law 903 = .ok (.ireturn, 1) := by decide +kernel
theorem d_Law_law_904 : decode b_Law_law 904 = .ok (.goto 108, 3) := by decide +kernel
theorem d_Law_law_907 : decode b_Law_law 907 = .ok (.aload_n 1, 1) := by decide +kernel
theorem d_Law_law_908 : decode b_Law_law 908 = .ok (.aload_n 0, 1) := by decide +kernel
theorem d_Law_law_909 : decode b_Law_law 909 = .ok (.iload 4, 2) := by decide +kernel
theorem d_Law_law_911 : decode b_Law_law 911 = .ok (.iconst 1, 1) := by decide +kernel
theorem d_Law_law_912 : decode b_Law_law 912 = .ok (.iadd, 1) := by decide +kernel
theorem d_Law_law_913 : decode b_Law_law 913 = .ok (.iaload, 1) := by decide +kernel
theorem d_Law_law_914 : decode b_Law_law 914 = .ok (.aload_n 0, 1) := by decide +kernel
theorem d_Law_law_915 : decode b_Law_law 915 = .ok (.iload 4, 2) := by decide +kernel
theorem d_Law_law_917 : decode b_Law_law 917 = .ok (.iconst 2, 1) := by decide +kernel
theorem d_Law_law_918 : decode b_Law_law 918 = .ok (.iadd, 1) := by decide +kernel
theorem d_Law_law_919 : decode b_Law_law 919 = .ok (.iaload, 1) := by decide +kernel
theorem d_Law_law_920 : decode b_Law_law 920 = .ok (.aload_n 0, 1) := by decide +kernel
theorem d_Law_law_921 : decode b_Law_law 921 = .ok (.iload 4, 2) := by decide +kernel
theorem d_Law_law_923 : decode b_Law_law 923 = .ok (.iconst 3, 1) := by decide +kernel
theorem d_Law_law_924 : decode b_Law_law 924 = .ok (.iadd, 1) := by decide +kernel
theorem d_Law_law_925 : decode b_Law_law 925 = .ok (.iaload, 1) := by decide +kernel
theorem d_Law_law_926 : decode b_Law_law 926 = .ok (.aload_n 3, 1) := by decide +kernel
theorem d_Law_law_927 : decode b_Law_law 927 = .ok (.invokestatic 116, 3) := by decide +kernel
theorem d_Law_law_930 : decode b_Law_law 930 = .ok (.istore 5, 2) := by decide +kernel
theorem d_Law_law_932 : decode b_Law_law 932 = .ok (.aload_n 2, 1) := by decide +kernel
theorem d_Law_law_933 : decode b_Law_law 933 = .ok (.aload_n 0, 1) := by decide +kernel
theorem d_Law_law_934 : decode b_Law_law 934 = .ok (.iload 4, 2) := by decide +kernel
theorem d_Law_law_936 : decode b_Law_law 936 = .ok (.iconst 1, 1) := by decide +kernel
theorem d_Law_law_937 : decode b_Law_law 937 = .ok (.iadd, 1) := by decide +kernel
theorem d_Law_law_938 : decode b_Law_law 938 = .ok (.iaload, 1) := by decide +kernel
theorem d_Law_law_939 : decode b_Law_law 939 = .ok (.aload_n 0, 1) := by decide +kernel
theorem d_Law_law_940 : decode b_Law_law 940 = .ok (.iload 4, 2) := by decide +kernel
theorem d_Law_law_942 : decode b_Law_law 942 = .ok (.iconst 2, 1) := by decide +kernel
theorem d_Law_law_943 : decode b_Law_law 943 = .ok (.iadd, 1) := by decide +kernel
theorem d_Law_law_944 : decode b_Law_law 944 = .ok (.iaload, 1) := by decide +kernel
theorem d_Law_law_945 : decode b_Law_law 945 = .ok (.aload_n 0, 1) := by decide +kernel
theorem d_Law_law_946 : decode b_Law_law 946 = .ok (.iload 4, 2) := by decide +kernel
theorem d_Law_law_948 : decode b_Law_law 948 = .ok (.iconst 3, 1) := by decide +kernel
theorem d_Law_law_949 : decode b_Law_law 949 = .ok (.iadd, 1) := by decide +kernel
theorem d_Law_law_950 : decode b_Law_law 950 = .ok (.iaload, 1) := by decide +kernel
theorem d_Law_law_951 : decode b_Law_law 951 = .ok (.invokevirtual 118, 3) := by decide +kernel
theorem d_Law_law_954 : decode b_Law_law 954 = .ok (.istore 6, 2) := by decide +kernel
theorem d_Law_law_956 : decode b_Law_law 956 = .ok (.aload_n 2, 1) := by decide +kernel
theorem d_Law_law_957 : decode b_Law_law 957 = .ok (.invokevirtual 67, 3) := by decide +kernel
theorem d_Law_law_960 : decode b_Law_law 960 = .ok (.iload 5, 2) := by decide +kernel
theorem d_Law_law_962 : decode b_Law_law 962 = .ok (.if_icmp .eq 5, 3) := by decide +kernel
theorem d_Law_law_965 : decode b_Law_law 965 = .ok (.iconst 0, 1) := by decide +kernel
theorem d_Law_law_966 : decode b_Law_law 966 = .ok (.ireturn, 1) := by decide +kernel
theorem d_Law_law_967 : decode b_Law_law 967 = .ok (.iload 5, 2) := by decide +kernel
theorem d_Law_law_969 : decode b_Law_law 969 = .ok (.ifCond .ne 15, 3) := by decide +kernel
theorem d_Law_law_972 : decode b_Law_law 972 = .ok (.aload_n 3, 1) := by decide +kernel
theorem d_Law_law_973 : decode b_Law_law 973 = .ok (.iconst 0, 1) := by decide +kernel
theorem d_Law_law_974 : decode b_Law_law 974 = .ok (.laload, 1) := by decide +kernel
theorem d_Law_law_975 : decode b_Law_law 975 = .ok (.iload 6, 2) := by decide +kernel
theorem d_Law_law_977 : decode b_Law_law 977 = .ok (.i2l, 1) := by decide +kernel
theorem d_Law_law_978 : decode b_Law_law 978 = .ok (.lcmp, 1) := by decide +kernel
theorem d_Law_law_979 : decode b_Law_law 979 = .ok (.ifCond .eq 5, 3) := by decide +kernel
theorem d_Law_law_982 : decode b_Law_law 982 = .ok (.iconst 0, 1) := by decide +kernel
theorem d_Law_law_983 : decode b_Law_law 983 = .ok (.ireturn, 1) := by decide +kernel
theorem d_Law_law_984 : decode b_Law_law 984 = .ok (.goto 28, 3) := by decide +kernel
theorem d_Law_law_987 : decode b_Law_law 987 = .ok (.aload_n 1, 1) := by decide +kernel
theorem d_Law_law_988 : decode b_Law_law 988 = .ok (.aload_n 0, 1) := by decide +kernel
theorem d_Law_law_989 : decode b_Law_law 989 = .ok (.iload 4, 2) := by decide +kernel
theorem d_Law_law_991 : decode b_Law_law 991 = .ok (.iconst 1, 1) := by decide +kernel
theorem d_Law_law_992 : decode b_Law_law 992 = .ok (.iadd, 1) := by decide +kernel
theorem d_Law_law_993 : decode b_Law_law 993 = .ok (.iaload, 1) := by decide +kernel
theorem d_Law_law_994 : decode b_Law_law 994 = .ok (.invokevirtual 119, 3) := by decide +kernel
theorem d_Law_law_997 : decode b_Law_law 997 = .ok (.aload_n 2, 1) := by decide +kernel
theorem d_Law_law_998 : decode b_Law_law 998 = .ok (.aload_n 0, 1) := by decide +kernel
theorem d_Law_law_999 : decode b_Law_law 999 = .ok (.iload 4, 2) := by decide +kernel
theorem d_Law_law_1001 : decode b_Law_law 1001 = .ok (.iconst 1, 1) := by decide +kernel
theorem d_Law_law_1002 : decode b_Law_law 1002 = .ok (.iadd, 1) := by decide +kernel
theorem d_Law_law_1003 : decode b_Law_law 1003 = .ok (.iaload, 1) := by decide +kernel
theorem d_Law_law_1004 : decode b_Law_law 1004 = .ok (.invokevirtual 122, 3) := by decide +kernel
theorem d_Law_law_1007 : decode b_Law_law 1007 = .ok (.if_icmp .eq 5, 3) := by decide +kernel
theorem d_Law_law_1010 : decode b_Law_law 1010 = .ok (.iconst 0, 1) := by decide +kernel
theorem d_Law_law_1011 : decode b_Law_law 1011 = .ok (.ireturn, 1) := by decide +kernel
theorem d_Law_law_1012 : decode b_Law_law 1012 = .ok (.iinc 4 6, 3) := by decide +kernel
theorem d_Law_law_1015 : decode b_Law_law 1015 = .ok (.goto (-992), 3) := by decide +kernel
theorem d_Law_law_1018 : decode b_Law_law 1018 = .ok (.iconst 1, 1) := by decide +kernel
theorem d_Law_law_1019 : decode b_Law_law 1019 = .ok (.ireturn, 1) := by decide +kernel
theorem tc_MM_thrown : Cond.code y_MM_thrown b_MM_thrown 1 (some (.int)) ∈ lw_tbg := tb_in (i := 1906) (by decide +kernel) rfl
theorem ml_Law_67 : ax_LV "ClauseProverLaw" 67 y_MM_thrown b_MM_thrown 1 (some (.int)) 0 := ax_LV.mk (tb_in (i := 1903) (by decide +kernel) rfl) (tb_in (i := 1904) (by decide +kernel) rfl) (tb_in (i := 1905) (by decide +kernel) rfl) ti_MM tc_MM_thrown (by decide +kernel)
theorem tc_MM_read : Cond.codeWith y_MM_read b_MM_read 2 (some .int) [(139, 147, 150, 426)] ∈ lw_tbg := tb_in (i := 1923) (by decide +kernel) rfl
theorem mw_Law_78 : ax_LVw "ClauseProverLaw" 78 y_MM_read b_MM_read 2 [(139, 147, 150, 426)] 0 := ax_LVw.mk (tb_in (i := 1920) (by decide +kernel) rfl) (tb_in (i := 1921) (by decide +kernel) rfl) (tb_in (i := 1922) (by decide +kernel) rfl) ti_MM tc_MM_read (by decide +kernel)
theorem tc_MM_fault : Cond.code y_MM_fault b_MM_fault 2 (some (.int)) ∈ lw_tbg := tb_in (i := 2241) (by decide +kernel) rfl
theorem ml_Law_82 : ax_LV "ClauseProverLaw" 82 y_MM_fault b_MM_fault 2 (some (.int)) 1 := ax_LV.mk (tb_in (i := 2238) (by decide +kernel) rfl) (tb_in (i := 2239) (by decide +kernel) rfl) (tb_in (i := 2240) (by decide +kernel) rfl) ti_MM tc_MM_fault (by decide +kernel)
theorem tc_MM_run : Cond.code y_MM_run b_MM_run 3 (some (.int)) ∈ lw_tbg := tb_in (i := 2245) (by decide +kernel) rfl
theorem ml_Law_85 : ax_LV "ClauseProverLaw" 85 y_MM_run b_MM_run 3 (some (.int)) 1 := ax_LV.mk (tb_in (i := 2242) (by decide +kernel) rfl) (tb_in (i := 2243) (by decide +kernel) rfl) (tb_in (i := 2244) (by decide +kernel) rfl) ti_MM tc_MM_run (by decide +kernel)
theorem tc_MM_clause : Cond.code y_MM_clause b_MM_clause 3 (some (.int)) ∈ lw_tbg := tb_in (i := 2397) (by decide +kernel) rfl
theorem ml_Law_89 : ax_LV "ClauseProverLaw" 89 y_MM_clause b_MM_clause 3 (some (.int)) 2 := ax_LV.mk (tb_in (i := 2394) (by decide +kernel) rfl) (tb_in (i := 2395) (by decide +kernel) rfl) (tb_in (i := 2396) (by decide +kernel) rfl) ti_MM tc_MM_clause (by decide +kernel)
theorem tc_MM_rewrote : Cond.code y_MM_rewrote b_MM_rewrote 3 (some (.int)) ∈ lw_tbg := tb_in (i := 2405) (by decide +kernel) rfl
theorem ml_Law_92 : ax_LV "ClauseProverLaw" 92 y_MM_rewrote b_MM_rewrote 3 (some (.int)) 2 := ax_LV.mk (tb_in (i := 2402) (by decide +kernel) rfl) (tb_in (i := 2403) (by decide +kernel) rfl) (tb_in (i := 2404) (by decide +kernel) rfl) ti_MM tc_MM_rewrote (by decide +kernel)
theorem tc_MM_literal : Cond.code y_MM_literal b_MM_literal 5 (some (.int)) ∈ lw_tbg := tb_in (i := 2409) (by decide +kernel) rfl
theorem ml_Law_96 : ax_LV "ClauseProverLaw" 96 y_MM_literal b_MM_literal 5 (some (.int)) 3 := ax_LV.mk (tb_in (i := 2406) (by decide +kernel) rfl) (tb_in (i := 2407) (by decide +kernel) rfl) (tb_in (i := 2408) (by decide +kernel) rfl) ti_MM tc_MM_literal (by decide +kernel)
def y_MM_show : MethodName := ⟨"ClauseProverModel", "show", "(I)I"⟩
abbrev b_MM_show : ByteArray := prog_14_method_119_code
theorem tc_MM_show : Cond.code y_MM_show b_MM_show 3 (some (.int)) ∈ lw_tbg := tb_in (i := 2413) (by decide +kernel) rfl
theorem ml_Law_99 : ax_LV "ClauseProverLaw" 99 y_MM_show b_MM_show 3 (some (.int)) 1 := ax_LV.mk (tb_in (i := 2410) (by decide +kernel) rfl) (tb_in (i := 2411) (by decide +kernel) rfl) (tb_in (i := 2412) (by decide +kernel) rfl) ti_MM tc_MM_show (by decide +kernel)
theorem tc_MM_out : Cond.code y_MM_out b_MM_out 2 (some (.int)) ∈ lw_tbg := tb_in (i := 2433) (by decide +kernel) rfl
theorem ml_Law_102 : ax_LV "ClauseProverLaw" 102 y_MM_out b_MM_out 2 (some (.int)) 1 := ax_LV.mk (tb_in (i := 2430) (by decide +kernel) rfl) (tb_in (i := 2431) (by decide +kernel) rfl) (tb_in (i := 2432) (by decide +kernel) rfl) ti_MM tc_MM_out (by decide +kernel)
theorem tc_MM_symbol2 : Cond.code y_MM_symbol2 b_MM_symbol2 3 (some (.int)) ∈ lw_tbg := tb_in (i := 2437) (by decide +kernel) rfl
theorem ml_Law_105 : ax_LV "ClauseProverLaw" 105 y_MM_symbol2 b_MM_symbol2 3 (some (.int)) 2 := ax_LV.mk (tb_in (i := 2434) (by decide +kernel) rfl) (tb_in (i := 2435) (by decide +kernel) rfl) (tb_in (i := 2436) (by decide +kernel) rfl) ti_MM tc_MM_symbol2 (by decide +kernel)
theorem tc_MM_proof : Cond.code y_MM_proof b_MM_proof 1 (some (.int)) ∈ lw_tbg := tb_in (i := 2441) (by decide +kernel) rfl
theorem ml_Law_109 : ax_LV "ClauseProverLaw" 109 y_MM_proof b_MM_proof 1 (some (.int)) 0 := ax_LV.mk (tb_in (i := 2438) (by decide +kernel) rfl) (tb_in (i := 2439) (by decide +kernel) rfl) (tb_in (i := 2440) (by decide +kernel) rfl) ti_MM tc_MM_proof (by decide +kernel)
theorem tc_MM_step2 : Cond.code y_MM_step2 b_MM_step2 5 (some (.int)) ∈ lw_tbg := tb_in (i := 2452) (by decide +kernel) rfl
theorem ml_Law_112 : ax_LV "ClauseProverLaw" 112 y_MM_step2 b_MM_step2 5 (some (.int)) 1 := ax_LV.mk (tb_in (i := 2449) (by decide +kernel) rfl) (tb_in (i := 2450) (by decide +kernel) rfl) (tb_in (i := 2451) (by decide +kernel) rfl) ti_MM tc_MM_step2 (by decide +kernel)
theorem tc_MM_look : Cond.code y_MM_look b_MM_look 5 (some (.int)) ∈ lw_tbg := tb_in (i := 2456) (by decide +kernel) rfl
theorem ml_Law_115 : ax_LV "ClauseProverLaw" 115 y_MM_look b_MM_look 5 (some (.int)) 2 := ax_LV.mk (tb_in (i := 2453) (by decide +kernel) rfl) (tb_in (i := 2454) (by decide +kernel) rfl) (tb_in (i := 2455) (by decide +kernel) rfl) ti_MM tc_MM_look (by decide +kernel)
theorem tc_MM_search : Cond.code y_MM_search b_MM_search 5 (some (.int)) ∈ lw_tbg := tb_in (i := 2478) (by decide +kernel) rfl
theorem ml_Law_118 : ax_LV "ClauseProverLaw" 118 y_MM_search b_MM_search 5 (some (.int)) 3 := ax_LV.mk (tb_in (i := 2475) (by decide +kernel) rfl) (tb_in (i := 2476) (by decide +kernel) rfl) (tb_in (i := 2477) (by decide +kernel) rfl) ti_MM tc_MM_search (by decide +kernel)
theorem tc_MM_count1 : Cond.code y_MM_count1 b_MM_count1 2 (some (.int)) ∈ lw_tbg := tb_in (i := 2482) (by decide +kernel) rfl
theorem ml_Law_122 : ax_LV "ClauseProverLaw" 122 y_MM_count1 b_MM_count1 2 (some (.int)) 1 := ax_LV.mk (tb_in (i := 2479) (by decide +kernel) rfl) (tb_in (i := 2480) (by decide +kernel) rfl) (tb_in (i := 2481) (by decide +kernel) rfl) ti_MM tc_MM_count1 (by decide +kernel)
theorem tc_CP_init : Cond.code y_CP_init b_CP_init 1 none ∈ lw_tbg := tb_in (i := 35) (by decide +kernel) rfl
theorem ml_Law_57 : ax_LI "ClauseProverLaw" 57 y_CP_init b_CP_init 1 0 := ax_LI.mk (tb_in (i := 33) (by decide +kernel) rfl) (tb_in (i := 34) (by decide +kernel) rfl) ti_CP tc_CP_init rfl (by decide +kernel)
theorem tb_classLink_979 : Cond.classLink "ClauseProverLaw" 19 "java/lang/IllegalArgumentException" ∈ lw_tbg := tb_in (i := 979) (by decide +kernel) rfl
theorem tb_classLink_1284 : Cond.classLink "ClauseProverLaw" 28 "java/util/NoSuchElementException" ∈ lw_tbg := tb_in (i := 1284) (by decide +kernel) rfl
theorem tb_classLink_1421 : Cond.classLink "ClauseProverLaw" 43 "java/lang/IndexOutOfBoundsException" ∈ lw_tbg := tb_in (i := 1421) (by decide +kernel) rfl
theorem tb_classLink_31 : Cond.classLink "ClauseProverLaw" 8 "ClauseProver" ∈ lw_tbg := tb_in (i := 31) (by decide +kernel) rfl
theorem tb_classLink_1510 : Cond.classLink "ClauseProverLaw" 58 "ClauseProverModel" ∈ lw_tbg := tb_in (i := 1510) (by decide +kernel) rfl
