abbrev b_Thr_init3 : ByteArray := prog_29_method_5_code
def y_Thr_init3 : MethodName := ⟨"java/lang/Throwable", "<init>", "(Ljava/lang/String;Ljava/lang/Throwable;ZZ)V"⟩
theorem d_Thr_init3_0 : decode b_Thr_init3 0 = .ok (.aload_n 0, 1) := by decide +kernel
theorem d_Thr_init3_1 : decode b_Thr_init3 1 = .ok (.invokespecial 1, 3) := by decide +kernel
theorem d_Thr_init3_4 : decode b_Thr_init3 4 = .ok (.aload_n 0, 1) := by decide +kernel
theorem d_Thr_init3_5 : decode b_Thr_init3 5 = .ok (.aload_n 0, 1) := by decide +kernel
theorem d_Thr_init3_6 : decode b_Thr_init3 6 = .ok (.putfield 7, 3) := by decide +kernel
theorem d_Thr_init3_9 : decode b_Thr_init3 9 = .ok (.aload_n 0, 1) := by decide +kernel
theorem d_Thr_init3_10 : decode b_Thr_init3 10 = .ok (.getstatic 13, 3) := by decide +kernel
theorem d_Thr_init3_13 : decode b_Thr_init3 13 = .ok (.putfield 17, 3) := by decide +kernel
theorem d_Thr_init3_16 : decode b_Thr_init3 16 = .ok (.aload_n 0, 1) := by decide +kernel
theorem d_Thr_init3_17 : decode b_Thr_init3 17 = .ok (.getstatic 20, 3) := by decide +kernel
theorem d_Thr_init3_20 : decode b_Thr_init3 20 = .ok (.putfield 24, 3) := by decide +kernel
theorem d_Thr_init3_23 : decode b_Thr_init3 23 = .ok (.iload 4, 2) := by decide +kernel
theorem d_Thr_init3_25 : decode b_Thr_init3 25 = .ok (.ifCond .eq 11, 3) := by decide +kernel
theorem d_Thr_init3_28 : decode b_Thr_init3 28 = .ok (.aload_n 0, 1) := by decide +kernel
theorem d_Thr_init3_29 : decode b_Thr_init3 29 = .ok (.invokevirtual 27, 3) := by decide +kernel
theorem d_Thr_init3_32 : decode b_Thr_init3 32 = .ok (.pop, 1) := by decide +kernel
theorem d_Thr_init3_33 : decode b_Thr_init3 33 = .ok (.goto 8, 3) := by decide +kernel
theorem d_Thr_init3_36 : decode b_Thr_init3 36 = .ok (.aload_n 0, 1) := by decide +kernel
theorem d_Thr_init3_37 : decode b_Thr_init3 37 = .ok (.aconst_null, 1) := by decide +kernel
theorem d_Thr_init3_38 : decode b_Thr_init3 38 = .ok (.putfield 17, 3) := by decide +kernel
theorem d_Thr_init3_41 : decode b_Thr_init3 41 = .ok (.aload_n 0, 1) := by decide +kernel
theorem d_Thr_init3_42 : decode b_Thr_init3 42 = .ok (.aload_n 1, 1) := by decide +kernel
theorem d_Thr_init3_43 : decode b_Thr_init3 43 = .ok (.putfield 31, 3) := by decide +kernel
theorem d_Thr_init3_46 : decode b_Thr_init3 46 = .ok (.aload_n 0, 1) := by decide +kernel
theorem d_Thr_init3_47 : decode b_Thr_init3 47 = .ok (.aload_n 2, 1) := by decide +kernel
theorem d_Thr_init3_48 : decode b_Thr_init3 48 = .ok (.putfield 7, 3) := by decide +kernel
theorem d_Thr_init3_51 : decode b_Thr_init3 51 = .ok (.iload_n 3, 1) := by decide +kernel
theorem d_Thr_init3_52 : decode b_Thr_init3 52 = .ok (.ifCond .ne 8, 3) := by decide +kernel
theorem d_Thr_init3_55 : decode b_Thr_init3 55 = .ok (.aload_n 0, 1) := by decide +kernel
theorem d_Thr_init3_56 : decode b_Thr_init3 56 = .ok (.aconst_null, 1) := by decide +kernel
theorem d_Thr_init3_57 : decode b_Thr_init3 57 = .ok (.putfield 24, 3) := by decide +kernel
theorem d_Thr_init3_60 : decode b_Thr_init3 60 = .ok (.return_, 1) := by decide +kernel
abbrev b_Exc_init2 : ByteArray := prog_18_method_5_code
def y_Exc_init2 : MethodName := ⟨"java/lang/Exception", "<init>", "(Ljava/lang/String;Ljava/lang/Throwable;ZZ)V"⟩
theorem d_Exc_init2_0 : decode b_Exc_init2 0 = .ok (.aload_n 0, 1) := by decide +kernel
theorem d_Exc_init2_1 : decode b_Exc_init2 1 = .ok (.aload_n 1, 1) := by decide +kernel
theorem d_Exc_init2_2 : decode b_Exc_init2 2 = .ok (.aload_n 2, 1) := by decide +kernel
theorem d_Exc_init2_3 : decode b_Exc_init2 3 = .ok (.iload_n 3, 1) := by decide +kernel
theorem d_Exc_init2_4 : decode b_Exc_init2 4 = .ok (.iload 4, 2) := by decide +kernel
theorem d_Exc_init2_6 : decode b_Exc_init2 6 = .ok (.invokespecial 16, 3) := by decide +kernel
theorem d_Exc_init2_9 : decode b_Exc_init2 9 = .ok (.return_, 1) := by decide +kernel
abbrev b_Rte_init2 : ByteArray := prog_24_method_5_code
def y_Rte_init2 : MethodName := ⟨"java/lang/RuntimeException", "<init>", "(Ljava/lang/String;Ljava/lang/Throwable;ZZ)V"⟩
theorem d_Rte_init2_0 : decode b_Rte_init2 0 = .ok (.aload_n 0, 1) := by decide +kernel
theorem d_Rte_init2_1 : decode b_Rte_init2 1 = .ok (.aload_n 1, 1) := by decide +kernel
theorem d_Rte_init2_2 : decode b_Rte_init2 2 = .ok (.aload_n 2, 1) := by decide +kernel
theorem d_Rte_init2_3 : decode b_Rte_init2 3 = .ok (.iload_n 3, 1) := by decide +kernel
theorem d_Rte_init2_4 : decode b_Rte_init2 4 = .ok (.iload 4, 2) := by decide +kernel
theorem d_Rte_init2_6 : decode b_Rte_init2 6 = .ok (.invokespecial 16, 3) := by decide +kernel
theorem d_Rte_init2_9 : decode b_Rte_init2 9 = .ok (.return_, 1) := by decide +kernel
abbrev b_Wro_init : ByteArray := prog_16_method_1_code
def y_Wro_init : MethodName := ⟨"ClauseProverModel$Wrong", "<init>", "(II)V"⟩
theorem d_Wro_init_0 : decode b_Wro_init 0 = .ok (.aload_n 0, 1) := by decide +kernel
theorem d_Wro_init_1 : decode b_Wro_init 1 = .ok (.aconst_null, 1) := by decide +kernel
theorem d_Wro_init_2 : decode b_Wro_init 2 = .ok (.aconst_null, 1) := by decide +kernel
theorem d_Wro_init_3 : decode b_Wro_init 3 = .ok (.iconst 0, 1) := by decide +kernel
theorem d_Wro_init_4 : decode b_Wro_init 4 = .ok (.iconst 0, 1) := by decide +kernel
theorem d_Wro_init_5 : decode b_Wro_init 5 = .ok (.invokespecial 1, 3) := by decide +kernel
theorem d_Wro_init_8 : decode b_Wro_init 8 = .ok (.aload_n 0, 1) := by decide +kernel
theorem d_Wro_init_9 : decode b_Wro_init 9 = .ok (.iload_n 1, 1) := by decide +kernel
theorem d_Wro_init_10 : decode b_Wro_init 10 = .ok (.putfield 7, 3) := by decide +kernel
theorem d_Wro_init_13 : decode b_Wro_init 13 = .ok (.aload_n 0, 1) := by decide +kernel
theorem d_Wro_init_14 : decode b_Wro_init 14 = .ok (.iload_n 2, 1) := by decide +kernel
theorem d_Wro_init_15 : decode b_Wro_init 15 = .ok (.putfield 13, 3) := by decide +kernel
theorem d_Wro_init_18 : decode b_Wro_init 18 = .ok (.return_, 1) := by decide +kernel
abbrev b_Bey_init : ByteArray := prog_15_method_1_code
def y_Bey_init : MethodName := ⟨"ClauseProverModel$Beyond", "<init>", "()V"⟩
theorem d_Bey_init_0 : decode b_Bey_init 0 = .ok (.aload_n 0, 1) := by decide +kernel
theorem d_Bey_init_1 : decode b_Bey_init 1 = .ok (.aconst_null, 1) := by decide +kernel
theorem d_Bey_init_2 : decode b_Bey_init 2 = .ok (.aconst_null, 1) := by decide +kernel
theorem d_Bey_init_3 : decode b_Bey_init 3 = .ok (.iconst 0, 1) := by decide +kernel
theorem d_Bey_init_4 : decode b_Bey_init 4 = .ok (.iconst 0, 1) := by decide +kernel
theorem d_Bey_init_5 : decode b_Bey_init 5 = .ok (.invokespecial 1, 3) := by decide +kernel
theorem d_Bey_init_8 : decode b_Bey_init 8 = .ok (.return_, 1) := by decide +kernel
abbrev b_MM_cant : ByteArray := prog_14_method_13_code
def y_MM_cant : MethodName := ⟨"ClauseProverModel", "cant", "()LClauseProverModel$Wrong;"⟩
theorem d_MM_cant_0 : decode b_MM_cant 0 = .ok (.new 426, 3) := by decide +kernel
theorem d_MM_cant_3 : decode b_MM_cant 3 = .ok (.dup, 1) := by decide +kernel
theorem d_MM_cant_4 : decode b_MM_cant 4 = .ok (.aload_n 0, 1) := by decide +kernel
theorem d_MM_cant_5 : decode b_MM_cant 5 = .ok (.getfield 36, 3) := by decide +kernel
theorem d_MM_cant_8 : decode b_MM_cant 8 = .ok (.sipush 304, 3) := by decide +kernel
theorem d_MM_cant_11 : decode b_MM_cant 11 = .ok (.if_icmp .ne 7, 3) := by decide +kernel
theorem d_MM_cant_14 : decode b_MM_cant 14 = .ok (.iconst 3, 1) := by decide +kernel
theorem d_MM_cant_15 : decode b_MM_cant 15 = .ok (.goto 4, 3) := by decide +kernel
theorem d_MM_cant_18 : decode b_MM_cant 18 = .ok (.iconst 1, 1) := by decide +kernel
theorem d_MM_cant_19 : decode b_MM_cant 19 = .ok (.aload_n 0, 1) := by decide +kernel
theorem d_MM_cant_20 : decode b_MM_cant 20 = .ok (.getfield 39, 3) := by decide +kernel
theorem d_MM_cant_23 : decode b_MM_cant 23 = .ok (.invokespecial 428, 3) := by decide +kernel
theorem d_MM_cant_26 : decode b_MM_cant 26 = .ok (.areturn, 1) := by decide +kernel
theorem tb_methodLink_925 : Cond.methodLink "java/lang/Throwable" 1 ⟨"java/lang/Object", "<init>", "()V"⟩ ∈ lw_tbg := tb_in (i := 925) (by decide +kernel) rfl
theorem lkT_Wro_7 : Cond.fieldLink "java/lang/Throwable" 7 (F_Wro 0).1 (F_Wro 0).2.1 (F_Wro 0).2.2.1 ∈ lw_tbg := tb_in (i := 959) (by decide +kernel) rfl
theorem ti_Thr : Cond.initialized "java/lang/Throwable" ∈ lw_tbg := tb_in (i := 15) (by decide +kernel) rfl
theorem tb_fieldLink_926 : Cond.fieldLink "java/lang/Throwable" 13 "java/lang/Throwable" "UNASSIGNED_STACK" "[Ljava/lang/StackTraceElement;" ∈ lw_tbg := tb_in (i := 926) (by decide +kernel) rfl
theorem lkT_Wro_17 : Cond.fieldLink "java/lang/Throwable" 17 (F_Wro 1).1 (F_Wro 1).2.1 (F_Wro 1).2.2.1 ∈ lw_tbg := tb_in (i := 960) (by decide +kernel) rfl
theorem tb_fieldLink_928 : Cond.fieldLink "java/lang/Throwable" 20 "java/lang/Throwable" "SUPPRESSED_SENTINEL" "Ljava/util/List;" ∈ lw_tbg := tb_in (i := 928) (by decide +kernel) rfl
theorem lkT_Wro_24 : Cond.fieldLink "java/lang/Throwable" 24 (F_Wro 2).1 (F_Wro 2).2.1 (F_Wro 2).2.2.1 ∈ lw_tbg := tb_in (i := 961) (by decide +kernel) rfl
theorem lkT_Wro_31 : Cond.fieldLink "java/lang/Throwable" 31 (F_Wro 3).1 (F_Wro 3).2.1 (F_Wro 3).2.2.1 ∈ lw_tbg := tb_in (i := 958) (by decide +kernel) rfl
theorem tc_Thr_init3 : Cond.code y_Thr_init3 b_Thr_init3 5 none ∈ lw_tbg := tb_in (i := 2000) (by decide +kernel) rfl
theorem ml_Exc_16 : ax_LI "java/lang/Exception" 16 y_Thr_init3 b_Thr_init3 5 4 := ax_LI.mk (tb_in (i := 1998) (by decide +kernel) rfl) (tb_in (i := 1999) (by decide +kernel) rfl) ti_Thr tc_Thr_init3 rfl (by decide +kernel)
theorem tc_Exc_init2 : Cond.code y_Exc_init2 b_Exc_init2 5 none ∈ lw_tbg := tb_in (i := 1997) (by decide +kernel) rfl
theorem ti_Exc : Cond.initialized "java/lang/Exception" ∈ lw_tbg := tb_in (i := 16) (by decide +kernel) rfl
theorem ml_Rte_16 : ax_LI "java/lang/RuntimeException" 16 y_Exc_init2 b_Exc_init2 5 4 := ax_LI.mk (tb_in (i := 1995) (by decide +kernel) rfl) (tb_in (i := 1996) (by decide +kernel) rfl) ti_Exc tc_Exc_init2 rfl (by decide +kernel)
theorem lkT_Bey_7 : Cond.fieldLink "java/lang/Throwable" 7 (F_Bey 0).1 (F_Bey 0).2.1 (F_Bey 0).2.2.1 ∈ lw_tbg := tb_in (i := 959) (by decide +kernel) rfl
theorem lkT_Bey_17 : Cond.fieldLink "java/lang/Throwable" 17 (F_Bey 1).1 (F_Bey 1).2.1 (F_Bey 1).2.2.1 ∈ lw_tbg := tb_in (i := 960) (by decide +kernel) rfl
theorem lkT_Bey_24 : Cond.fieldLink "java/lang/Throwable" 24 (F_Bey 2).1 (F_Bey 2).2.1 (F_Bey 2).2.2.1 ∈ lw_tbg := tb_in (i := 961) (by decide +kernel) rfl
theorem lkT_Bey_31 : Cond.fieldLink "java/lang/Throwable" 31 (F_Bey 3).1 (F_Bey 3).2.1 (F_Bey 3).2.2.1 ∈ lw_tbg := tb_in (i := 958) (by decide +kernel) rfl
theorem tc_Rte_init2 : Cond.code y_Rte_init2 b_Rte_init2 5 none ∈ lw_tbg := tb_in (i := 1994) (by decide +kernel) rfl
theorem ti_Rte : Cond.initialized "java/lang/RuntimeException" ∈ lw_tbg := tb_in (i := 17) (by decide +kernel) rfl
theorem ml_Wro_1 : ax_LI "ClauseProverModel$Wrong" 1 y_Rte_init2 b_Rte_init2 5 4 := ax_LI.mk (tb_in (i := 1992) (by decide +kernel) rfl) (tb_in (i := 1993) (by decide +kernel) rfl) ti_Rte tc_Rte_init2 rfl (by decide +kernel)
theorem lkF_Wro_7 : Cond.fieldLink "ClauseProverModel$Wrong" 7 (F_Wro 5).1 (F_Wro 5).2.1 (F_Wro 5).2.2.1 ∈ lw_tbg := tb_in (i := 2001) (by decide +kernel) rfl
theorem lkF_Wro_13 : Cond.fieldLink "ClauseProverModel$Wrong" 13 (F_Wro 6).1 (F_Wro 6).2.1 (F_Wro 6).2.2.1 ∈ lw_tbg := tb_in (i := 2003) (by decide +kernel) rfl
theorem ml_Bey_1 : ax_LI "ClauseProverModel$Beyond" 1 y_Rte_init2 b_Rte_init2 5 4 := ax_LI.mk (tb_in (i := 2137) (by decide +kernel) rfl) (tb_in (i := 1993) (by decide +kernel) rfl) ti_Rte tc_Rte_init2 rfl (by decide +kernel)
theorem tc_Wro_init : Cond.code y_Wro_init b_Wro_init 3 none ∈ lw_tbg := tb_in (i := 1991) (by decide +kernel) rfl
theorem ti_Wro : Cond.initialized "ClauseProverModel$Wrong" ∈ lw_tbg := tb_in (i := 22) (by decide +kernel) rfl
theorem ml_MM_428 : ax_LI "ClauseProverModel" 428 y_Wro_init b_Wro_init 3 2 := ax_LI.mk (tb_in (i := 1989) (by decide +kernel) rfl) (tb_in (i := 1990) (by decide +kernel) rfl) ti_Wro tc_Wro_init rfl (by decide +kernel)
theorem tc_Bey_init : Cond.code y_Bey_init b_Bey_init 1 none ∈ lw_tbg := tb_in (i := 2136) (by decide +kernel) rfl
theorem ti_Bey : Cond.initialized "ClauseProverModel$Beyond" ∈ lw_tbg := tb_in (i := 23) (by decide +kernel) rfl
theorem ml_MM_553 : ax_LI "ClauseProverModel" 553 y_Bey_init b_Bey_init 1 0 := ax_LI.mk (tb_in (i := 2134) (by decide +kernel) rfl) (tb_in (i := 2135) (by decide +kernel) rfl) ti_Bey tc_Bey_init rfl (by decide +kernel)
theorem tb_classLink_1924 : Cond.classLink "ClauseProverModel" 426 "ClauseProverModel$Wrong" ∈ lw_tbg := tb_in (i := 1924) (by decide +kernel) rfl
theorem tb_instantiable_1981 : Cond.instantiable "ClauseProverModel$Wrong" 8 ∈ lw_tbg := tb_in (i := 1981) (by decide +kernel) rfl
theorem tb_classLink_2108 : Cond.classLink "ClauseProverModel" 551 "ClauseProverModel$Beyond" ∈ lw_tbg := tb_in (i := 2108) (by decide +kernel) rfl
theorem tb_instantiable_2126 : Cond.instantiable "ClauseProverModel$Beyond" 6 ∈ lw_tbg := tb_in (i := 2126) (by decide +kernel) rfl
theorem cT_Wro (l : Launch) (D : va_G) (kA : Nat → ClassId) (q : Nat) : ax_MvX l D kA y_Thr_init3 b_Thr_init3 5 1 20 0 0 [.ref q, .null, .null, .int 0, .int 0] [(q, .inr (13, [.null, .null, .null, .null, .null, .int 0, .int 0, .int 0]))] (fun w1 => w1 = [(q, .inr (13, [.null, .null, .null, .null, .null, .int 0, .int 0, .int 0]))]) := by
  refine ax_MvX.of (by decide +kernel) (Nat.le_of_ble_eq_true rfl) ?_
  intro p e s m args below meth c C hnm hX
  have C : ax_C p s m args meth c b_Thr_init3 "java/lang/Throwable" 5 none D kA (va_A [(q, .inr (13, [.null, .null, .null, .null, .null, .int 0, .int 0, .int 0]))] s.heap.size) := C
  refine ax_aload_n (pc := 0) C d_Thr_init3_0 rfl 0 rfl ?_
  refine ax_objInit (pc := 1) C tb_methodLink_925 tb_instanceMethod_37 tb_codeObj d_Thr_init3_1 (Nat.le_of_ble_eq_true rfl) (Nat.le_of_ble_eq_true rfl) (Nat.le_of_ble_eq_true rfl) ?_
  refine ax_aload_n (pc := 4) C d_Thr_init3_4 rfl 0 rfl ?_
  refine ax_aload_n (pc := 5) C d_Thr_init3_5 rfl 0 rfl ?_
  refine ax_put (pc := 6) C k_Wro 0 lkT_Wro_7 d_Thr_init3_6 (Nat.le_of_ble_eq_true rfl) 0 rfl rfl (rfl) (rfl) (Nat.le_of_ble_eq_true rfl) ?_
  refine ax_w ([(q, .inr (13, [.ref q, .null, .null, .null, .null, .int 0, .int 0, .int 0]))]) rfl ?_
  refine ax_aload_n (pc := 9) C d_Thr_init3_9 rfl 0 rfl ?_
  refine ax_gets (pc := 10) C hX.1 ti_Thr tb_fieldLink_926 d_Thr_init3_10 (fun v1 hv1 => ?_)
  refine ax_put (pc := 13) C k_Wro 1 lkT_Wro_17 d_Thr_init3_13 (Nat.le_of_ble_eq_true rfl) 0 rfl rfl (by cases v1 <;> first | rfl | cases hv1) (by cases v1 <;> first | rfl | cases hv1) (Nat.le_of_ble_eq_true rfl) ?_
  refine ax_w ([(q, .inr (13, [.ref q, v1, .null, .null, .null, .int 0, .int 0, .int 0]))]) rfl ?_
  refine ax_aload_n (pc := 16) C d_Thr_init3_16 rfl 0 rfl ?_
  refine ax_gets (pc := 17) C hX.2.1 ti_Thr tb_fieldLink_928 d_Thr_init3_17 (fun v2 hv2 => ?_)
  refine ax_put (pc := 20) C k_Wro 2 lkT_Wro_24 d_Thr_init3_20 (Nat.le_of_ble_eq_true rfl) 0 rfl rfl (by cases v2 <;> first | rfl | cases hv2) (by cases v2 <;> first | rfl | cases hv2) (Nat.le_of_ble_eq_true rfl) ?_
  refine ax_w ([(q, .inr (13, [.ref q, v1, v2, .null, .null, .int 0, .int 0, .int 0]))]) rfl ?_
  refine ax_iload (pc := 23) C d_Thr_init3_23 4 rfl ?_
  refine ax_if_eq (pc := 25) C 36 d_Thr_init3_25 (by decide) (fun _ => ?_) (fun h => absurd rfl h)
  refine ax_aload_n (pc := 36) C d_Thr_init3_36 rfl 0 rfl ?_
  refine ax_null (pc := 37) C d_Thr_init3_37 ?_
  refine ax_put (pc := 38) C k_Wro 1 lkT_Wro_17 d_Thr_init3_38 (Nat.le_of_ble_eq_true rfl) 0 rfl rfl (rfl) (rfl) (Nat.le_of_ble_eq_true rfl) ?_
  refine ax_w ([(q, .inr (13, [.ref q, .null, v2, .null, .null, .int 0, .int 0, .int 0]))]) rfl ?_
  refine ax_aload_n (pc := 41) C d_Thr_init3_41 rfl 0 rfl ?_
  refine ax_aload_nN (pc := 42) C d_Thr_init3_42 rfl 1 rfl ?_
  refine ax_put (pc := 43) C k_Wro 3 lkT_Wro_31 d_Thr_init3_43 (Nat.le_of_ble_eq_true rfl) 0 rfl rfl (rfl) (rfl) (Nat.le_of_ble_eq_true rfl) ?_
  refine ax_w ([(q, .inr (13, [.ref q, .null, v2, .null, .null, .int 0, .int 0, .int 0]))]) rfl ?_
  refine ax_aload_n (pc := 46) C d_Thr_init3_46 rfl 0 rfl ?_
  refine ax_aload_nN (pc := 47) C d_Thr_init3_47 rfl 2 rfl ?_
  refine ax_put (pc := 48) C k_Wro 0 lkT_Wro_7 d_Thr_init3_48 (Nat.le_of_ble_eq_true rfl) 0 rfl rfl (rfl) (rfl) (Nat.le_of_ble_eq_true rfl) ?_
  refine ax_w ([(q, .inr (13, [.null, .null, v2, .null, .null, .int 0, .int 0, .int 0]))]) rfl ?_
  refine ax_iload_n (pc := 51) C d_Thr_init3_51 rfl 3 rfl ?_
  refine ax_if_ne (pc := 52) C 60 d_Thr_init3_52 (by decide) (fun h => absurd rfl h) (fun _ => ?_)
  refine ax_aload_n (pc := 55) C d_Thr_init3_55 rfl 0 rfl ?_
  refine ax_null (pc := 56) C d_Thr_init3_56 ?_
  refine ax_put (pc := 57) C k_Wro 2 lkT_Wro_24 d_Thr_init3_57 (Nat.le_of_ble_eq_true rfl) 0 rfl rfl (rfl) (rfl) (Nat.le_of_ble_eq_true rfl) ?_
  refine ax_w ([(q, .inr (13, [.null, .null, .null, .null, .null, .int 0, .int 0, .int 0]))]) rfl ?_
  exact ax_vret (pc := 60) C d_Thr_init3_60 rfl (Nat.le_refl _) (Nat.le_refl _)
theorem cEx_Wro (l : Launch) (D : va_G) (kA : Nat → ClassId) (q : Nat) : ax_MvX l D kA y_Exc_init2 b_Exc_init2 5 2 44 0 0 [.ref q, .null, .null, .int 0, .int 0] [(q, .inr (13, [.null, .null, .null, .null, .null, .int 0, .int 0, .int 0]))] (fun w1 => w1 = [(q, .inr (13, [.null, .null, .null, .null, .null, .int 0, .int 0, .int 0]))]) := by
  refine ax_MvX.of (by decide +kernel) (Nat.le_of_ble_eq_true rfl) ?_
  intro p e s m args below meth c C hnm hX
  have C : ax_C p s m args meth c b_Exc_init2 "java/lang/Exception" 5 none D kA (va_A [(q, .inr (13, [.null, .null, .null, .null, .null, .int 0, .int 0, .int 0]))] s.heap.size) := C
  refine ax_aload_n (pc := 0) C d_Exc_init2_0 rfl 0 rfl ?_
  refine ax_aload_nN (pc := 1) C d_Exc_init2_1 rfl 1 rfl ?_
  refine ax_aload_nN (pc := 2) C d_Exc_init2_2 rfl 2 rfl ?_
  refine ax_iload_n (pc := 3) C d_Exc_init2_3 rfl 3 rfl ?_
  refine ax_iload (pc := 4) C d_Exc_init2_4 4 rfl ?_
  refine ax_callIvX (pc := 6) C hX (As := [.null, .null, .int 0, .int 0]) (rest := []) (wr := []) (cT_Wro l D kA q) ml_Exc_16 d_Exc_init2_6 rfl rfl [0] [] rfl (by decide) rfl (by decide) (by intro i h; cases h) (Nat.le_of_ble_eq_true rfl) (Nat.le_of_ble_eq_true rfl) (Nat.le_refl _) (Nat.le_refl _) (Nat.le_of_ble_eq_true rfl) (fun w1 hw => ?_)
  obtain rfl := hw
  exact ax_vret (pc := 9) C d_Exc_init2_9 rfl (Nat.le_refl _) (Nat.le_refl _)
theorem cRt_Wro (l : Launch) (D : va_G) (kA : Nat → ClassId) (q : Nat) : ax_MvX l D kA y_Rte_init2 b_Rte_init2 5 3 68 0 0 [.ref q, .null, .null, .int 0, .int 0] [(q, .inr (13, [.null, .null, .null, .null, .null, .int 0, .int 0, .int 0]))] (fun w1 => w1 = [(q, .inr (13, [.null, .null, .null, .null, .null, .int 0, .int 0, .int 0]))]) := by
  refine ax_MvX.of (by decide +kernel) (Nat.le_of_ble_eq_true rfl) ?_
  intro p e s m args below meth c C hnm hX
  have C : ax_C p s m args meth c b_Rte_init2 "java/lang/RuntimeException" 5 none D kA (va_A [(q, .inr (13, [.null, .null, .null, .null, .null, .int 0, .int 0, .int 0]))] s.heap.size) := C
  refine ax_aload_n (pc := 0) C d_Rte_init2_0 rfl 0 rfl ?_
  refine ax_aload_nN (pc := 1) C d_Rte_init2_1 rfl 1 rfl ?_
  refine ax_aload_nN (pc := 2) C d_Rte_init2_2 rfl 2 rfl ?_
  refine ax_iload_n (pc := 3) C d_Rte_init2_3 rfl 3 rfl ?_
  refine ax_iload (pc := 4) C d_Rte_init2_4 4 rfl ?_
  refine ax_callIvX (pc := 6) C hX (As := [.null, .null, .int 0, .int 0]) (rest := []) (wr := []) (cEx_Wro l D kA q) ml_Rte_16 d_Rte_init2_6 rfl rfl [0] [] rfl (by decide) rfl (by decide) (by intro i h; cases h) (Nat.le_of_ble_eq_true rfl) (Nat.le_of_ble_eq_true rfl) (Nat.le_refl _) (Nat.le_refl _) (Nat.le_of_ble_eq_true rfl) (fun w1 hw => ?_)
  obtain rfl := hw
  exact ax_vret (pc := 9) C d_Rte_init2_9 rfl (Nat.le_refl _) (Nat.le_refl _)
theorem cT_Bey (l : Launch) (D : va_G) (kA : Nat → ClassId) (q : Nat) : ax_MvX l D kA y_Thr_init3 b_Thr_init3 5 1 20 0 0 [.ref q, .null, .null, .int 0, .int 0] [(q, .inr (14, [.null, .null, .null, .null, .null, .int 0]))] (fun w1 => w1 = [(q, .inr (14, [.null, .null, .null, .null, .null, .int 0]))]) := by
  refine ax_MvX.of (by decide +kernel) (Nat.le_of_ble_eq_true rfl) ?_
  intro p e s m args below meth c C hnm hX
  have C : ax_C p s m args meth c b_Thr_init3 "java/lang/Throwable" 5 none D kA (va_A [(q, .inr (14, [.null, .null, .null, .null, .null, .int 0]))] s.heap.size) := C
  refine ax_aload_n (pc := 0) C d_Thr_init3_0 rfl 0 rfl ?_
  refine ax_objInit (pc := 1) C tb_methodLink_925 tb_instanceMethod_37 tb_codeObj d_Thr_init3_1 (Nat.le_of_ble_eq_true rfl) (Nat.le_of_ble_eq_true rfl) (Nat.le_of_ble_eq_true rfl) ?_
  refine ax_aload_n (pc := 4) C d_Thr_init3_4 rfl 0 rfl ?_
  refine ax_aload_n (pc := 5) C d_Thr_init3_5 rfl 0 rfl ?_
  refine ax_put (pc := 6) C k_Bey 0 lkT_Bey_7 d_Thr_init3_6 (Nat.le_of_ble_eq_true rfl) 0 rfl rfl (rfl) (rfl) (Nat.le_of_ble_eq_true rfl) ?_
  refine ax_w ([(q, .inr (14, [.ref q, .null, .null, .null, .null, .int 0]))]) rfl ?_
  refine ax_aload_n (pc := 9) C d_Thr_init3_9 rfl 0 rfl ?_
  refine ax_gets (pc := 10) C hX.1 ti_Thr tb_fieldLink_926 d_Thr_init3_10 (fun v1 hv1 => ?_)
  refine ax_put (pc := 13) C k_Bey 1 lkT_Bey_17 d_Thr_init3_13 (Nat.le_of_ble_eq_true rfl) 0 rfl rfl (by cases v1 <;> first | rfl | cases hv1) (by cases v1 <;> first | rfl | cases hv1) (Nat.le_of_ble_eq_true rfl) ?_
  refine ax_w ([(q, .inr (14, [.ref q, v1, .null, .null, .null, .int 0]))]) rfl ?_
  refine ax_aload_n (pc := 16) C d_Thr_init3_16 rfl 0 rfl ?_
  refine ax_gets (pc := 17) C hX.2.1 ti_Thr tb_fieldLink_928 d_Thr_init3_17 (fun v2 hv2 => ?_)
  refine ax_put (pc := 20) C k_Bey 2 lkT_Bey_24 d_Thr_init3_20 (Nat.le_of_ble_eq_true rfl) 0 rfl rfl (by cases v2 <;> first | rfl | cases hv2) (by cases v2 <;> first | rfl | cases hv2) (Nat.le_of_ble_eq_true rfl) ?_
  refine ax_w ([(q, .inr (14, [.ref q, v1, v2, .null, .null, .int 0]))]) rfl ?_
  refine ax_iload (pc := 23) C d_Thr_init3_23 4 rfl ?_
  refine ax_if_eq (pc := 25) C 36 d_Thr_init3_25 (by decide) (fun _ => ?_) (fun h => absurd rfl h)
  refine ax_aload_n (pc := 36) C d_Thr_init3_36 rfl 0 rfl ?_
  refine ax_null (pc := 37) C d_Thr_init3_37 ?_
  refine ax_put (pc := 38) C k_Bey 1 lkT_Bey_17 d_Thr_init3_38 (Nat.le_of_ble_eq_true rfl) 0 rfl rfl (rfl) (rfl) (Nat.le_of_ble_eq_true rfl) ?_
  refine ax_w ([(q, .inr (14, [.ref q, .null, v2, .null, .null, .int 0]))]) rfl ?_
  refine ax_aload_n (pc := 41) C d_Thr_init3_41 rfl 0 rfl ?_
  refine ax_aload_nN (pc := 42) C d_Thr_init3_42 rfl 1 rfl ?_
  refine ax_put (pc := 43) C k_Bey 3 lkT_Bey_31 d_Thr_init3_43 (Nat.le_of_ble_eq_true rfl) 0 rfl rfl (rfl) (rfl) (Nat.le_of_ble_eq_true rfl) ?_
  refine ax_w ([(q, .inr (14, [.ref q, .null, v2, .null, .null, .int 0]))]) rfl ?_
  refine ax_aload_n (pc := 46) C d_Thr_init3_46 rfl 0 rfl ?_
  refine ax_aload_nN (pc := 47) C d_Thr_init3_47 rfl 2 rfl ?_
  refine ax_put (pc := 48) C k_Bey 0 lkT_Bey_7 d_Thr_init3_48 (Nat.le_of_ble_eq_true rfl) 0 rfl rfl (rfl) (rfl) (Nat.le_of_ble_eq_true rfl) ?_
  refine ax_w ([(q, .inr (14, [.null, .null, v2, .null, .null, .int 0]))]) rfl ?_
  refine ax_iload_n (pc := 51) C d_Thr_init3_51 rfl 3 rfl ?_
  refine ax_if_ne (pc := 52) C 60 d_Thr_init3_52 (by decide) (fun h => absurd rfl h) (fun _ => ?_)
  refine ax_aload_n (pc := 55) C d_Thr_init3_55 rfl 0 rfl ?_
  refine ax_null (pc := 56) C d_Thr_init3_56 ?_
  refine ax_put (pc := 57) C k_Bey 2 lkT_Bey_24 d_Thr_init3_57 (Nat.le_of_ble_eq_true rfl) 0 rfl rfl (rfl) (rfl) (Nat.le_of_ble_eq_true rfl) ?_
  refine ax_w ([(q, .inr (14, [.null, .null, .null, .null, .null, .int 0]))]) rfl ?_
  exact ax_vret (pc := 60) C d_Thr_init3_60 rfl (Nat.le_refl _) (Nat.le_refl _)
theorem cEx_Bey (l : Launch) (D : va_G) (kA : Nat → ClassId) (q : Nat) : ax_MvX l D kA y_Exc_init2 b_Exc_init2 5 2 44 0 0 [.ref q, .null, .null, .int 0, .int 0] [(q, .inr (14, [.null, .null, .null, .null, .null, .int 0]))] (fun w1 => w1 = [(q, .inr (14, [.null, .null, .null, .null, .null, .int 0]))]) := by
  refine ax_MvX.of (by decide +kernel) (Nat.le_of_ble_eq_true rfl) ?_
  intro p e s m args below meth c C hnm hX
  have C : ax_C p s m args meth c b_Exc_init2 "java/lang/Exception" 5 none D kA (va_A [(q, .inr (14, [.null, .null, .null, .null, .null, .int 0]))] s.heap.size) := C
  refine ax_aload_n (pc := 0) C d_Exc_init2_0 rfl 0 rfl ?_
  refine ax_aload_nN (pc := 1) C d_Exc_init2_1 rfl 1 rfl ?_
  refine ax_aload_nN (pc := 2) C d_Exc_init2_2 rfl 2 rfl ?_
  refine ax_iload_n (pc := 3) C d_Exc_init2_3 rfl 3 rfl ?_
  refine ax_iload (pc := 4) C d_Exc_init2_4 4 rfl ?_
  refine ax_callIvX (pc := 6) C hX (As := [.null, .null, .int 0, .int 0]) (rest := []) (wr := []) (cT_Bey l D kA q) ml_Exc_16 d_Exc_init2_6 rfl rfl [0] [] rfl (by decide) rfl (by decide) (by intro i h; cases h) (Nat.le_of_ble_eq_true rfl) (Nat.le_of_ble_eq_true rfl) (Nat.le_refl _) (Nat.le_refl _) (Nat.le_of_ble_eq_true rfl) (fun w1 hw => ?_)
  obtain rfl := hw
  exact ax_vret (pc := 9) C d_Exc_init2_9 rfl (Nat.le_refl _) (Nat.le_refl _)
theorem cRt_Bey (l : Launch) (D : va_G) (kA : Nat → ClassId) (q : Nat) : ax_MvX l D kA y_Rte_init2 b_Rte_init2 5 3 68 0 0 [.ref q, .null, .null, .int 0, .int 0] [(q, .inr (14, [.null, .null, .null, .null, .null, .int 0]))] (fun w1 => w1 = [(q, .inr (14, [.null, .null, .null, .null, .null, .int 0]))]) := by
  refine ax_MvX.of (by decide +kernel) (Nat.le_of_ble_eq_true rfl) ?_
  intro p e s m args below meth c C hnm hX
  have C : ax_C p s m args meth c b_Rte_init2 "java/lang/RuntimeException" 5 none D kA (va_A [(q, .inr (14, [.null, .null, .null, .null, .null, .int 0]))] s.heap.size) := C
  refine ax_aload_n (pc := 0) C d_Rte_init2_0 rfl 0 rfl ?_
  refine ax_aload_nN (pc := 1) C d_Rte_init2_1 rfl 1 rfl ?_
  refine ax_aload_nN (pc := 2) C d_Rte_init2_2 rfl 2 rfl ?_
  refine ax_iload_n (pc := 3) C d_Rte_init2_3 rfl 3 rfl ?_
  refine ax_iload (pc := 4) C d_Rte_init2_4 4 rfl ?_
  refine ax_callIvX (pc := 6) C hX (As := [.null, .null, .int 0, .int 0]) (rest := []) (wr := []) (cEx_Bey l D kA q) ml_Rte_16 d_Rte_init2_6 rfl rfl [0] [] rfl (by decide) rfl (by decide) (by intro i h; cases h) (Nat.le_of_ble_eq_true rfl) (Nat.le_of_ble_eq_true rfl) (Nat.le_refl _) (Nat.le_refl _) (Nat.le_of_ble_eq_true rfl) (fun w1 hw => ?_)
  obtain rfl := hw
  exact ax_vret (pc := 9) C d_Rte_init2_9 rfl (Nat.le_refl _) (Nat.le_refl _)
theorem cW (l : Launch) (D : va_G) (kA : Nat → ClassId) (q : Nat) (a b : Int32) : ax_MvX l D kA y_Wro_init b_Wro_init 3 4 92 0 0 [.ref q, .int a, .int b] [(q, .inr (13, [.null, .null, .null, .null, .null, .int 0, .int 0, .int 0]))] (fun w1 => w1 = [(q, .inr (13, [.null, .null, .null, .null, .null, .int a, .int b, .int 0]))]) := by
  refine ax_MvX.of (by decide +kernel) (Nat.le_of_ble_eq_true rfl) ?_
  intro p e s m args below meth c C hnm hX
  have C : ax_C p s m args meth c b_Wro_init "ClauseProverModel$Wrong" 3 none D kA (va_A [(q, .inr (13, [.null, .null, .null, .null, .null, .int 0, .int 0, .int 0]))] s.heap.size) := C
  refine ax_aload_n (pc := 0) C d_Wro_init_0 rfl 0 rfl ?_
  refine ax_null (pc := 1) C d_Wro_init_1 ?_
  refine ax_null (pc := 2) C d_Wro_init_2 ?_
  refine ax_iconst (pc := 3) C 0 d_Wro_init_3 (by decide +kernel) ?_
  refine ax_iconst (pc := 4) C 0 d_Wro_init_4 (by decide +kernel) ?_
  refine ax_callIvX (pc := 5) C hX (As := [.null, .null, .int 0, .int 0]) (rest := []) (wr := []) (cRt_Wro l D kA q) ml_Wro_1 d_Wro_init_5 rfl rfl [0] [] rfl (by decide) rfl (by decide) (by intro i h; cases h) (Nat.le_of_ble_eq_true rfl) (Nat.le_of_ble_eq_true rfl) (Nat.le_refl _) (Nat.le_refl _) (Nat.le_of_ble_eq_true rfl) (fun w1 hw => ?_)
  obtain rfl := hw
  refine ax_aload_n (pc := 8) C d_Wro_init_8 rfl 0 rfl ?_
  refine ax_iload_n (pc := 9) C d_Wro_init_9 rfl 1 rfl ?_
  refine ax_putF (pc := 10) C k_Wro 5 lkF_Wro_7 d_Wro_init_10 (Nat.le_of_ble_eq_true rfl) 0 rfl rfl (hnm.trans rfl) rfl rfl rfl (Nat.le_of_ble_eq_true rfl) ?_
  refine ax_w ([(q, .inr (13, [.null, .null, .null, .null, .null, .int a, .int 0, .int 0]))]) rfl ?_
  refine ax_aload_n (pc := 13) C d_Wro_init_13 rfl 0 rfl ?_
  refine ax_iload_n (pc := 14) C d_Wro_init_14 rfl 2 rfl ?_
  refine ax_putF (pc := 15) C k_Wro 6 lkF_Wro_13 d_Wro_init_15 (Nat.le_of_ble_eq_true rfl) 0 rfl rfl (hnm.trans rfl) rfl rfl rfl (Nat.le_of_ble_eq_true rfl) ?_
  refine ax_w ([(q, .inr (13, [.null, .null, .null, .null, .null, .int a, .int b, .int 0]))]) rfl ?_
  exact ax_vret (pc := 18) C d_Wro_init_18 rfl (Nat.le_refl _) (Nat.le_refl _)
theorem cB (l : Launch) (D : va_G) (kA : Nat → ClassId) (q : Nat) : ax_MvX l D kA y_Bey_init b_Bey_init 1 4 92 0 0 [.ref q] [(q, .inr (14, [.null, .null, .null, .null, .null, .int 0]))] (fun w1 => w1 = [(q, .inr (14, [.null, .null, .null, .null, .null, .int 0]))]) := by
  refine ax_MvX.of (by decide +kernel) (Nat.le_of_ble_eq_true rfl) ?_
  intro p e s m args below meth c C hnm hX
  have C : ax_C p s m args meth c b_Bey_init "ClauseProverModel$Beyond" 1 none D kA (va_A [(q, .inr (14, [.null, .null, .null, .null, .null, .int 0]))] s.heap.size) := C
  refine ax_aload_n (pc := 0) C d_Bey_init_0 rfl 0 rfl ?_
  refine ax_null (pc := 1) C d_Bey_init_1 ?_
  refine ax_null (pc := 2) C d_Bey_init_2 ?_
  refine ax_iconst (pc := 3) C 0 d_Bey_init_3 (by decide +kernel) ?_
  refine ax_iconst (pc := 4) C 0 d_Bey_init_4 (by decide +kernel) ?_
  refine ax_callIvX (pc := 5) C hX (As := [.null, .null, .int 0, .int 0]) (rest := []) (wr := []) (cRt_Bey l D kA q) ml_Bey_1 d_Bey_init_5 rfl rfl [0] [] rfl (by decide) rfl (by decide) (by intro i h; cases h) (Nat.le_of_ble_eq_true rfl) (Nat.le_of_ble_eq_true rfl) (Nat.le_refl _) (Nat.le_refl _) (Nat.le_of_ble_eq_true rfl) (fun w1 hw => ?_)
  obtain rfl := hw
  exact ax_vret (pc := 8) C d_Bey_init_8 rfl (Nat.le_refl _) (Nat.le_refl _)
def wW (x : Nat) (a b : Int32) : va_W := [(x, .inr (13, [.null, .null, .null, .null, .null, .int a, .int b, .int 0]))]
def wB (x : Nat) : va_W := [(x, .inr (14, [.null, .null, .null, .null, .null, .int 0]))]
section XCT
variable {p : Program} {l : Launch} {e : Env} {R : Room} {s : State} {m : MethodId} {args : Array Value} {below : List Frame} {meth : Method} {c : Code} {Q : State → Prop} {D : va_G} {kA : Nat → ClassId} {A : Nat → Prop} {nL : Nat} {cc : ByteArray} {ret : Option FieldType} {pc cells slots : Nat} {ls : List (Nat × Value)} {st rest : List Value} {z : Nat} {v : Nat → Nat} {σ : mS}
set_option maxRecDepth 4000 in
theorem mx_new8 (C : ax_C p s m args meth c cc "ClauseProverModel" nL ret D kA A) (hce : cells + 1 ≤ R.cells) (hsl : slots + 8 ≤ R.slots) (hdg : decode cc pc = .ok (.new 426, 3)) (k : ∀ q : Nat, AW p l e R s m args below meth c D kA A nL Q (pc + 3) ls (.ref q :: st) (mmW kA z v σ ++ [(q, .inr (13, [.null, .null, .null, .null, .null, .int 0, .int 0, .int 0]))]) (cells + 1) (slots + 8)) : AW p l e R s m args below meth c D kA A nL Q (pc) ls (st) (mmW kA z v σ) (cells) (slots) := ax_new C k_Wro tb_classLink_1924 tb_instantiable_1981 ti_Wro hce hsl hdg k
set_option maxRecDepth 4000 in
theorem mx_new6 (C : ax_C p s m args meth c cc "ClauseProverModel" nL ret D kA A) (hce : cells + 1 ≤ R.cells) (hsl : slots + 6 ≤ R.slots) (hdg : decode cc pc = .ok (.new 551, 3)) (k : ∀ q : Nat, AW p l e R s m args below meth c D kA A nL Q (pc + 3) ls (.ref q :: st) (mmW kA z v σ ++ [(q, .inr (14, [.null, .null, .null, .null, .null, .int 0]))]) (cells + 1) (slots + 6)) : AW p l e R s m args below meth c D kA A nL Q (pc) ls (st) (mmW kA z v σ) (cells) (slots) := ax_new C k_Bey tb_classLink_2108 tb_instantiable_2126 ti_Bey hce hsl hdg k
theorem mm_app (w : va_W) : (List.range 86).map (fun i => (mmW kA z v σ ++ w)[i]?) = (mmW kA z v σ).map some := by
  rw [← mm_all]
  apply List.map_congr_left
  intro i hi
  have hi : i < 86 := List.mem_range.mp hi
  exact List.getElem?_append_left (by rw [mm_len]; exact hi)
theorem mm_86 (a : Nat × _) : (mmW kA z v σ ++ [a])[86]? = some a := by
  rw [List.getElem?_append_right (by rw [mm_len]; exact Nat.le_refl _), mm_len]; rfl
theorem mx_initW (C : ax_C p s m args meth c cc "ClauseProverModel" nL ret D kA A) (hX : ax_X A s s.heap) {q : Nat} {a b : Int32} (hdg : decode cc pc = .ok (.invokespecial 428, 3)) (hsum : (rest.map fun v => v.category).sum ≤ 8) (hfr : 5 ≤ R.frames) (hlo : 114 ≤ R.locals) (hce : cells ≤ R.cells) (hsl : slots ≤ R.slots) (k : AW p l e R s m args below meth c D kA A nL Q (pc + 3) ls (rest) (mmW kA z v σ ++ wW q a b) (cells) (slots)) : AW p l e R s m args below meth c D kA A nL Q (pc) ls (.int b :: .int a :: .ref q :: rest) (mmW kA z v σ ++ [(q, .inr (13, [.null, .null, .null, .null, .null, .int 0, .int 0, .int 0]))]) (cells) (slots) :=
  ax_callIvX C hX (As := [.int a, .int b]) (rest := rest) (wr := mmW kA z v σ) (cW l D kA q a b) ml_MM_428 hdg rfl rfl [86] (List.range 86) (congrArg (fun x => [x]) (mm_86 _)) (by decide) (mm_app _) (by decide +kernel) (by intro i h; have := List.mem_range.mp h; simp; omega) hfr (by omega) hce hsl hsum (fun w1 hw => by obtain rfl := hw; exact k)
theorem mx_initB (C : ax_C p s m args meth c cc "ClauseProverModel" nL ret D kA A) (hX : ax_X A s s.heap) {q : Nat} (hdg : decode cc pc = .ok (.invokespecial 553, 3)) (hsum : (rest.map fun v => v.category).sum ≤ 8) (hfr : 5 ≤ R.frames) (hlo : 114 ≤ R.locals) (hce : cells ≤ R.cells) (hsl : slots ≤ R.slots) (k : AW p l e R s m args below meth c D kA A nL Q (pc + 3) ls (rest) (mmW kA z v σ ++ wB q) (cells) (slots)) : AW p l e R s m args below meth c D kA A nL Q (pc) ls (.ref q :: rest) (mmW kA z v σ ++ [(q, .inr (14, [.null, .null, .null, .null, .null, .int 0]))]) (cells) (slots) :=
  ax_callIvX C hX (As := []) (rest := rest) (wr := mmW kA z v σ) (cB l D kA q) ml_MM_553 hdg rfl rfl [86] (List.range 86) (congrArg (fun x => [x]) (mm_86 _)) (by decide) (mm_app _) (by decide +kernel) (by intro i h; have := List.mem_range.mp h; simp; omega) hfr (by omega) hce hsl hsum (fun w1 hw => by obtain rfl := hw; exact k)
set_option maxRecDepth 4000 in
theorem mgx_36 (C : ax_C p s m args meth c cc "ClauseProverModel" nL ret D kA A) {w : va_W} (hdg : decode cc pc = .ok (.getfield 36, 3)) (k : AW p l e R s m args below meth c D kA A nL Q (pc + 3) ls (.int (σ.1 8) :: rest) (mmW kA z v σ ++ w) (cells) (slots)) : AW p l e R s m args below meth c D kA A nL Q (pc) ls (.ref z :: rest) (mmW kA z v σ ++ w) (cells) (slots) := ax_get C k_MM 8 lk_MM_36 hdg (Nat.le_of_ble_eq_true rfl) 0 rfl rfl k
set_option maxRecDepth 4000 in
theorem mgx_39 (C : ax_C p s m args meth c cc "ClauseProverModel" nL ret D kA A) {w : va_W} (hdg : decode cc pc = .ok (.getfield 39, 3)) (k : AW p l e R s m args below meth c D kA A nL Q (pc + 3) ls (.int (σ.1 9) :: rest) (mmW kA z v σ ++ w) (cells) (slots)) : AW p l e R s m args below meth c D kA A nL Q (pc) ls (.ref z :: rest) (mmW kA z v σ ++ w) (cells) (slots) := ax_get C k_MM 9 lk_MM_39 hdg (Nat.le_of_ble_eq_true rfl) 0 rfl rfl k
set_option maxRecDepth 4000 in
theorem mgx_166 (C : ax_C p s m args meth c cc "ClauseProverModel" nL ret D kA A) {w : va_W} (hdg : decode cc pc = .ok (.getfield 166, 3)) (k : AW p l e R s m args below meth c D kA A nL Q (pc + 3) ls (.ref (v 28) :: rest) (mmW kA z v σ ++ w) (cells) (slots)) : AW p l e R s m args below meth c D kA A nL Q (pc) ls (.ref z :: rest) (mmW kA z v σ ++ w) (cells) (slots) := ax_get C k_MM 50 lk_MM_166 hdg (Nat.le_of_ble_eq_true rfl) 0 rfl rfl k
set_option maxRecDepth 4000 in
theorem mlx_50 (C : ax_C p s m args meth c cc "ClauseProverModel" nL ret D kA A) {w : va_W} {i : Int32} (hdg : decode cc pc = .ok (.iaload, 1)) (hin : vp_in i 20100) (k : AW p l e R s m args below meth c D kA A nL Q (pc + 1) ls (.int (σ.2.1 50 i.toNatClampNeg) :: rest) (mmW kA z v σ ++ w) (cells) (slots)) : AW p l e R s m args below meth c D kA A nL Q (pc) ls (.int i :: .ref (v 28) :: rest) (mmW kA z v σ ++ w) (cells) (slots) := ax_iald C 29 rfl hdg hin k
end XCT
theorem c_cant (l : Launch) (D : va_G) (kA : Nat → ClassId) (z : Nat) (v : Nat → Nat) (σ : mS) : ax_MrX l D kA y_MM_cant b_MM_cant 1 (.object "ClauseProverModel$Wrong") 5 114 1 8 [.ref z] (mmW kA z v σ) (fun x w1 => w1 = mmW kA z v σ ++ wW x (if σ.1 8 = 304 then 3 else 1) (σ.1 9)) := by
  refine ax_MrX.of (by decide +kernel) (Nat.le_of_ble_eq_true rfl) ?_
  intro p e s m args below meth c C hnm hX
  have C : ax_C p s m args meth c b_MM_cant "ClauseProverModel" 1 (some (.object "ClauseProverModel$Wrong")) D kA (va_A (mmW kA z v σ) s.heap.size) := C
  refine mx_new8 (pc := 0) C (Nat.le_of_ble_eq_true rfl) (Nat.le_of_ble_eq_true rfl) d_MM_cant_0 (fun q => ?_)
  refine ax_dup (pc := 3) C d_MM_cant_3 rfl ?_
  refine ax_aload_n (pc := 4) C d_MM_cant_4 rfl 0 rfl ?_
  refine mgx_36 (pc := 5) C d_MM_cant_5 ?_
  refine ax_sipush (pc := 8) C 304 d_MM_cant_8 (by decide +kernel) ?_
  refine ax_icmp_ne (pc := 11) C 18 d_MM_cant_11 (by decide) (fun hc => ?_) (fun hc => ?_)
  · refine ax_iconst (pc := 18) C 1 d_MM_cant_18 (by decide +kernel) ?_
    refine ax_aload_n (pc := 19) C d_MM_cant_19 rfl 0 rfl ?_
    refine mgx_39 (pc := 20) C d_MM_cant_20 ?_
    refine mx_initW (pc := 23) C hX d_MM_cant_23 (Nat.le_of_ble_eq_true rfl) (Nat.le_of_ble_eq_true rfl) (Nat.le_of_ble_eq_true rfl) (Nat.le_refl _) (Nat.le_refl _) ?_
    exact ax_aret (pc := 26) C (Or.inl ⟨_, rfl⟩) d_MM_cant_26 (by rw [if_neg hc]) (Nat.le_refl _) (Nat.le_refl _)
  · refine ax_iconst (pc := 14) C 3 d_MM_cant_14 (by decide +kernel) ?_
    refine ax_goto (pc := 15) C 19 d_MM_cant_15 (by decide) ?_
    refine ax_aload_n (pc := 19) C d_MM_cant_19 rfl 0 rfl ?_
    refine mgx_39 (pc := 20) C d_MM_cant_20 ?_
    refine mx_initW (pc := 23) C hX d_MM_cant_23 (Nat.le_of_ble_eq_true rfl) (Nat.le_of_ble_eq_true rfl) (Nat.le_of_ble_eq_true rfl) (Nat.le_refl _) (Nat.le_refl _) ?_
    exact ax_aret (pc := 26) C (Or.inl ⟨_, rfl⟩) d_MM_cant_26 (by rw [if_pos hc]) (Nat.le_refl _) (Nat.le_refl _)
