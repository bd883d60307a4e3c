abbrev b_Row_init : ByteArray := prog_7_method_1_code
def y_Row_init : MethodName := ⟨"ClauseProver$Row", "<init>", "(I)V"⟩
theorem d_Row_init_0 : decode b_Row_init 0 = .ok (.aload_n 0, 1) := by decide +kernel
theorem d_Row_init_1 : decode b_Row_init 1 = .ok (.invokespecial 1, 3) := by decide +kernel
theorem d_Row_init_4 : decode b_Row_init 4 = .ok (.aload_n 0, 1) := by decide +kernel
theorem d_Row_init_5 : decode b_Row_init 5 = .ok (.iload_n 1, 1) := by decide +kernel
theorem d_Row_init_6 : decode b_Row_init 6 = .ok (.newarray .int, 2) := by decide +kernel
theorem d_Row_init_8 : decode b_Row_init 8 = .ok (.putfield 7, 3) := by decide +kernel
theorem d_Row_init_11 : decode b_Row_init 11 = .ok (.return_, 1) := by decide +kernel
theorem tb_methodLink_44 : Cond.methodLink "ClauseProver$Row" 1 ⟨"java/lang/Object", "<init>", "()V"⟩ ∈ lw_tbg := tb_in (i := 44) (by decide +kernel) rfl
theorem tb_instanceMethod_37 : Cond.instanceMethod ⟨"java/lang/Object", "<init>", "()V"⟩ ∈ lw_tbg := tb_in (i := 37) (by decide +kernel) rfl
theorem tb_codeObj : Cond.code Lib.objectInit ⟨#[0xb1]⟩ 1 none ∈ lw_tbg := tb_in (i := 38) (by decide +kernel) rfl
theorem tb_arr_int : Cond.arrayClass .int ∈ lw_tbg := tb_in (i := 70) (by decide +kernel) rfl
theorem lk_Row_7 : Cond.fieldLink "ClauseProver$Row" 7 (F_Row 0).1 (F_Row 0).2.1 (F_Row 0).2.2.1 ∈ lw_tbg := tb_in (i := 45) (by decide +kernel) rfl
set_option maxHeartbeats 4000000 in
set_option maxRecDepth 100000 in
theorem c_Row_init (l : Launch) (D : va_G) (kA : Nat → ClassId) (h : Nat) (n : Int32) (N : Nat) (hn : ¬ n < 0) (hN : n.toNatClampNeg = N) (hb : N * 8 ≤ 536870912) : ax_Mv l D kA y_Row_init b_Row_init 2 1 20 1 N [.ref h, .int n] [(h, .inr (0, [.null, .int 0]))] (fun w1 => ∃ q : Nat → Nat, w1 = [(h, .inr (0, [.ref (q 0), .int 0])), ((q 0), .inl (kA 0, N, .inl (fun _ => 0)))]) := by
  refine ax_Mv.of (by decide +kernel) (Nat.le_of_ble_eq_true rfl) ?_
  intro p e s m args below meth c C hnm
  have hnm : meth.name = "<init>" := hnm
  refine ax_ls ([(0, .ref h), (1, .int n)]) [0, 1] rfl ?_
  refine ax_aload_n (pc := 0) C d_Row_init_0 rfl 0 rfl ?_
  refine ax_objInit (pc := 1) C tb_methodLink_44 tb_instanceMethod_37 tb_codeObj d_Row_init_1 (Nat.le_of_ble_eq_true rfl) (Nat.le_of_ble_eq_true rfl) (Nat.le_of_ble_eq_true rfl) ?_
  refine ax_aload_n (pc := 4) C d_Row_init_4 rfl 0 rfl ?_
  refine ax_iload_n (pc := 5) C d_Row_init_5 rfl 1 rfl ?_
  refine ax_newI (pc := 6) C tb_arr_int N d_Row_init_6 hn hN hb (Nat.le_of_ble_eq_true rfl) (by show _ ≤ _; simp) (fun q6 => ?_)
  refine ax_w ([(h, .inr (0, [.null, .int 0])), (q6, .inl (kA 0, N, .inl (fun _ => 0)))]) rfl ?_
  refine ax_put (pc := 8) C k_Row 0 lk_Row_7 d_Row_init_8 (Nat.le_of_ble_eq_true rfl) 0 rfl rfl rfl rfl (Nat.le_of_ble_eq_true rfl) ?_
  refine ax_w ([(h, .inr (0, [.ref q6, .int 0])), (q6, .inl (kA 0, N, .inl (fun _ => 0)))]) rfl ?_
  exact ax_vret (pc := 11) C d_Row_init_11 ⟨fun i => [q6].getD i 0, rfl⟩ (by simp) (by simp)
abbrev b_Wds_init : ByteArray := prog_12_method_1_code
def y_Wds_init : MethodName := ⟨"ClauseProver$Words", "<init>", "()V"⟩
theorem d_Wds_init_0 : decode b_Wds_init 0 = .ok (.aload_n 0, 1) := by decide +kernel
theorem d_Wds_init_1 : decode b_Wds_init 1 = .ok (.invokespecial 3, 3) := by decide +kernel
theorem d_Wds_init_4 : decode b_Wds_init 4 = .ok (.return_, 1) := by decide +kernel
theorem tb_methodLink_185 : Cond.methodLink "ClauseProver$Words" 3 ⟨"java/lang/Object", "<init>", "()V"⟩ ∈ lw_tbg := tb_in (i := 185) (by decide +kernel) rfl
set_option maxHeartbeats 4000000 in
set_option maxRecDepth 100000 in
theorem c_Wds_init (l : Launch) (D : va_G) (kA : Nat → ClassId) (h : Nat) : ax_Mv l D kA y_Wds_init b_Wds_init 1 1 20 0 0 [.ref h] [(h, .inr (3, [.null, .int 0, .int 0, .int 0, .int 0, .int 0, .int 0, .int 0]))] (fun w1 => ∃ q : Nat → Nat, w1 = [(h, .inr (3, [.null, .int 0, .int 0, .int 0, .int 0, .int 0, .int 0, .int 0]))]) := by
  refine ax_Mv.of (by decide +kernel) (Nat.le_of_ble_eq_true rfl) ?_
  intro p e s m args below meth c C hnm
  have hnm : meth.name = "<init>" := hnm
  refine ax_ls ([(0, .ref h)]) [0] rfl ?_
  refine ax_aload_n (pc := 0) C d_Wds_init_0 rfl 0 rfl ?_
  refine ax_objInit (pc := 1) C tb_methodLink_185 tb_instanceMethod_37 tb_codeObj d_Wds_init_1 (Nat.le_of_ble_eq_true rfl) (Nat.le_of_ble_eq_true rfl) (Nat.le_of_ble_eq_true rfl) ?_
  exact ax_vret (pc := 4) C d_Wds_init_4 ⟨fun i => [].getD i 0, rfl⟩ (by simp) (by simp)
abbrev b_Sym_init : ByteArray := prog_10_method_1_code
def y_Sym_init : MethodName := ⟨"ClauseProver$Symbols", "<init>", "()V"⟩
theorem d_Sym_init_0 : decode b_Sym_init 0 = .ok (.aload_n 0, 1) := by decide +kernel
theorem d_Sym_init_1 : decode b_Sym_init 1 = .ok (.invokespecial 3, 3) := by decide +kernel
theorem d_Sym_init_4 : decode b_Sym_init 4 = .ok (.aload_n 0, 1) := by decide +kernel
theorem d_Sym_init_5 : decode b_Sym_init 5 = .ok (.sipush 551, 3) := by decide +kernel
theorem d_Sym_init_8 : decode b_Sym_init 8 = .ok (.newarray .int, 2) := by decide +kernel
theorem d_Sym_init_10 : decode b_Sym_init 10 = .ok (.putfield 9, 3) := by decide +kernel
theorem d_Sym_init_13 : decode b_Sym_init 13 = .ok (.aload_n 0, 1) := by decide +kernel
theorem d_Sym_init_14 : decode b_Sym_init 14 = .ok (.sipush 251, 3) := by decide +kernel
theorem d_Sym_init_17 : decode b_Sym_init 17 = .ok (.newarray .int, 2) := by decide +kernel
theorem d_Sym_init_19 : decode b_Sym_init 19 = .ok (.putfield 15, 3) := by decide +kernel
theorem d_Sym_init_22 : decode b_Sym_init 22 = .ok (.aload_n 0, 1) := by decide +kernel
theorem d_Sym_init_23 : decode b_Sym_init 23 = .ok (.sipush 251, 3) := by decide +kernel
theorem d_Sym_init_26 : decode b_Sym_init 26 = .ok (.newarray .int, 2) := by decide +kernel
theorem d_Sym_init_28 : decode b_Sym_init 28 = .ok (.putfield 18, 3) := by decide +kernel
theorem d_Sym_init_31 : decode b_Sym_init 31 = .ok (.aload_n 0, 1) := by decide +kernel
theorem d_Sym_init_32 : decode b_Sym_init 32 = .ok (.new 21, 3) := by decide +kernel
theorem d_Sym_init_35 : decode b_Sym_init 35 = .ok (.dup, 1) := by decide +kernel
theorem d_Sym_init_36 : decode b_Sym_init 36 = .ok (.sipush 128, 3) := by decide +kernel
theorem d_Sym_init_39 : decode b_Sym_init 39 = .ok (.invokespecial 23, 3) := by decide +kernel
theorem d_Sym_init_42 : decode b_Sym_init 42 = .ok (.putfield 26, 3) := by decide +kernel
theorem d_Sym_init_45 : decode b_Sym_init 45 = .ok (.aload_n 0, 1) := by decide +kernel
theorem d_Sym_init_46 : decode b_Sym_init 46 = .ok (.sipush 551, 3) := by decide +kernel
theorem d_Sym_init_49 : decode b_Sym_init 49 = .ok (.newarray .int, 2) := by decide +kernel
theorem d_Sym_init_51 : decode b_Sym_init 51 = .ok (.putfield 30, 3) := by decide +kernel
theorem d_Sym_init_54 : decode b_Sym_init 54 = .ok (.aload_n 0, 1) := by decide +kernel
theorem d_Sym_init_55 : decode b_Sym_init 55 = .ok (.bipush 6, 2) := by decide +kernel
theorem d_Sym_init_57 : decode b_Sym_init 57 = .ok (.newarray .int, 2) := by decide +kernel
theorem d_Sym_init_59 : decode b_Sym_init 59 = .ok (.putfield 33, 3) := by decide +kernel
theorem d_Sym_init_62 : decode b_Sym_init 62 = .ok (.aload_n 0, 1) := by decide +kernel
theorem d_Sym_init_63 : decode b_Sym_init 63 = .ok (.getfield 30, 3) := by decide +kernel
theorem d_Sym_init_66 : decode b_Sym_init 66 = .ok (.iconst 0, 1) := by decide +kernel
theorem d_Sym_init_67 : decode b_Sym_init 67 = .ok (.iconst 1, 1) := by decide +kernel
theorem d_Sym_init_68 : decode b_Sym_init 68 = .ok (.iastore, 1) := by decide +kernel
theorem d_Sym_init_69 : decode b_Sym_init 69 = .ok (.aload_n 0, 1) := by decide +kernel
theorem d_Sym_init_70 : decode b_Sym_init 70 = .ok (.iconst 1, 1) := by decide +kernel
theorem d_Sym_init_71 : decode b_Sym_init 71 = .ok (.putfield 36, 3) := by decide +kernel
theorem d_Sym_init_74 : decode b_Sym_init 74 = .ok (.return_, 1) := by decide +kernel
theorem tb_methodLink_76 : Cond.methodLink "ClauseProver$Symbols" 3 ⟨"java/lang/Object", "<init>", "()V"⟩ ∈ lw_tbg := tb_in (i := 76) (by decide +kernel) rfl
theorem lk_Sym_9 : Cond.fieldLink "ClauseProver$Symbols" 9 (F_Sym 0).1 (F_Sym 0).2.1 (F_Sym 0).2.2.1 ∈ lw_tbg := tb_in (i := 79) (by decide +kernel) rfl
theorem lk_Sym_15 : Cond.fieldLink "ClauseProver$Symbols" 15 (F_Sym 1).1 (F_Sym 1).2.1 (F_Sym 1).2.2.1 ∈ lw_tbg := tb_in (i := 83) (by decide +kernel) rfl
theorem lk_Sym_18 : Cond.fieldLink "ClauseProver$Symbols" 18 (F_Sym 2).1 (F_Sym 2).2.1 (F_Sym 2).2.2.1 ∈ lw_tbg := tb_in (i := 85) (by decide +kernel) rfl
theorem tb_classLink_77 : Cond.classLink "ClauseProver$Symbols" 21 "ClauseProver$Row" ∈ lw_tbg := tb_in (i := 77) (by decide +kernel) rfl
theorem tb_instantiable_40 : Cond.instantiable "ClauseProver$Row" 2 ∈ lw_tbg := tb_in (i := 40) (by decide +kernel) rfl
theorem tb_initialized_2 : Cond.initialized "ClauseProver$Row" ∈ lw_tbg := tb_in (i := 2) (by decide +kernel) rfl
theorem tc_Row_init : Cond.code y_Row_init b_Row_init 2 none ∈ lw_tbg := tb_in (i := 43) (by decide +kernel) rfl
theorem ti_Row : Cond.initialized "ClauseProver$Row" ∈ lw_tbg := tb_in (i := 2) (by decide +kernel) rfl
theorem ml_Sym_23 : ax_LI "ClauseProver$Symbols" 23 y_Row_init b_Row_init 2 1 := ax_LI.mk (tb_in (i := 78) (by decide +kernel) rfl) (tb_in (i := 42) (by decide +kernel) rfl) ti_Row tc_Row_init rfl (by decide +kernel)
theorem lk_Sym_26 : Cond.fieldLink "ClauseProver$Symbols" 26 (F_Sym 3).1 (F_Sym 3).2.1 (F_Sym 3).2.2.1 ∈ lw_tbg := tb_in (i := 87) (by decide +kernel) rfl
theorem lk_Sym_30 : Cond.fieldLink "ClauseProver$Symbols" 30 (F_Sym 6).1 (F_Sym 6).2.1 (F_Sym 6).2.2.1 ∈ lw_tbg := tb_in (i := 93) (by decide +kernel) rfl
theorem lk_Sym_33 : Cond.fieldLink "ClauseProver$Symbols" 33 (F_Sym 7).1 (F_Sym 7).2.1 (F_Sym 7).2.2.1 ∈ lw_tbg := tb_in (i := 94) (by decide +kernel) rfl
theorem lk_Sym_36 : Cond.fieldLink "ClauseProver$Symbols" 36 (F_Sym 5).1 (F_Sym 5).2.1 (F_Sym 5).2.2.1 ∈ lw_tbg := tb_in (i := 91) (by decide +kernel) rfl
set_option maxHeartbeats 4000000 in
set_option maxRecDepth 100000 in
theorem c_Sym_init (l : Launch) (D : va_G) (kA : Nat → ClassId) (h : Nat) : ax_Mv l D kA y_Sym_init b_Sym_init 1 2 41 7 1740 [.ref h] [(h, .inr (1, [.null, .null, .null, .null, .int 0, .int 0, .null, .null]))] (fun w1 => ∃ q : Nat → Nat, w1 = [(h, .inr (1, [.ref (q 0), .ref (q 1), .ref (q 2), .ref (q 3), .int 0, .int 1, .ref (q 5), .ref (q 6)])), ((q 0), .inl (kA 0, 551, .inl (fun _ => 0))), ((q 1), .inl (kA 0, 251, .inl (fun _ => 0))), ((q 2), .inl (kA 0, 251, .inl (fun _ => 0))), ((q 3), .inr (0, [.ref (q 4), .int 0])), ((q 4), .inl (kA 0, 128, .inl (fun _ => 0))), ((q 5), .inl (kA 0, 551, .inl (upd (fun _ => 0) (Int32.toNatClampNeg 0) 1))), ((q 6), .inl (kA 0, 6, .inl (fun _ => 0)))]) := by
  refine ax_Mv.of (by decide +kernel) (Nat.le_of_ble_eq_true rfl) ?_
  intro p e s m args below meth c C hnm
  have hnm : meth.name = "<init>" := hnm
  refine ax_ls ([(0, .ref h)]) [0] rfl ?_
  refine ax_aload_n (pc := 0) C d_Sym_init_0 rfl 0 rfl ?_
  refine ax_objInit (pc := 1) C tb_methodLink_76 tb_instanceMethod_37 tb_codeObj d_Sym_init_1 (Nat.le_of_ble_eq_true rfl) (Nat.le_of_ble_eq_true rfl) (Nat.le_of_ble_eq_true rfl) ?_
  refine ax_aload_n (pc := 4) C d_Sym_init_4 rfl 0 rfl ?_
  refine ax_sipush (pc := 5) C 551 d_Sym_init_5 (by decide +kernel) ?_
  refine ax_newI (pc := 8) C tb_arr_int 551 d_Sym_init_8 (by decide) (by decide) (by decide) (Nat.le_of_ble_eq_true rfl) (Nat.le_of_ble_eq_true rfl) (fun q8 => ?_)
  refine ax_w ([(h, .inr (1, [.null, .null, .null, .null, .int 0, .int 0, .null, .null])), (q8, .inl (kA 0, 551, .inl (fun _ => 0)))]) rfl ?_
  refine ax_putF (pc := 10) C k_Sym 0 lk_Sym_9 d_Sym_init_10 (Nat.le_of_ble_eq_true rfl) 0 rfl rfl hnm rfl rfl rfl (Nat.le_of_ble_eq_true rfl) ?_
  refine ax_w ([(h, .inr (1, [.ref q8, .null, .null, .null, .int 0, .int 0, .null, .null])), (q8, .inl (kA 0, 551, .inl (fun _ => 0)))]) rfl ?_
  refine ax_aload_n (pc := 13) C d_Sym_init_13 rfl 0 rfl ?_
  refine ax_sipush (pc := 14) C 251 d_Sym_init_14 (by decide +kernel) ?_
  refine ax_newI (pc := 17) C tb_arr_int 251 d_Sym_init_17 (by decide) (by decide) (by decide) (Nat.le_of_ble_eq_true rfl) (Nat.le_of_ble_eq_true rfl) (fun q17 => ?_)
  refine ax_w ([(h, .inr (1, [.ref q8, .null, .null, .null, .int 0, .int 0, .null, .null])), (q8, .inl (kA 0, 551, .inl (fun _ => 0))), (q17, .inl (kA 0, 251, .inl (fun _ => 0)))]) rfl ?_
  refine ax_putF (pc := 19) C k_Sym 1 lk_Sym_15 d_Sym_init_19 (Nat.le_of_ble_eq_true rfl) 0 rfl rfl hnm rfl rfl rfl (Nat.le_of_ble_eq_true rfl) ?_
  refine ax_w ([(h, .inr (1, [.ref q8, .ref q17, .null, .null, .int 0, .int 0, .null, .null])), (q8, .inl (kA 0, 551, .inl (fun _ => 0))), (q17, .inl (kA 0, 251, .inl (fun _ => 0)))]) rfl ?_
  refine ax_aload_n (pc := 22) C d_Sym_init_22 rfl 0 rfl ?_
  refine ax_sipush (pc := 23) C 251 d_Sym_init_23 (by decide +kernel) ?_
  refine ax_newI (pc := 26) C tb_arr_int 251 d_Sym_init_26 (by decide) (by decide) (by decide) (Nat.le_of_ble_eq_true rfl) (Nat.le_of_ble_eq_true rfl) (fun q26 => ?_)
  refine ax_w ([(h, .inr (1, [.ref q8, .ref q17, .null, .null, .int 0, .int 0, .null, .null])), (q8, .inl (kA 0, 551, .inl (fun _ => 0))), (q17, .inl (kA 0, 251, .inl (fun _ => 0))), (q26, .inl (kA 0, 251, .inl (fun _ => 0)))]) rfl ?_
  refine ax_putF (pc := 28) C k_Sym 2 lk_Sym_18 d_Sym_init_28 (Nat.le_of_ble_eq_true rfl) 0 rfl rfl hnm rfl rfl rfl (Nat.le_of_ble_eq_true rfl) ?_
  refine ax_w ([(h, .inr (1, [.ref q8, .ref q17, .ref q26, .null, .int 0, .int 0, .null, .null])), (q8, .inl (kA 0, 551, .inl (fun _ => 0))), (q17, .inl (kA 0, 251, .inl (fun _ => 0))), (q26, .inl (kA 0, 251, .inl (fun _ => 0)))]) rfl ?_
  refine ax_aload_n (pc := 31) C d_Sym_init_31 rfl 0 rfl ?_
  refine ax_new (pc := 32) C k_Row tb_classLink_77 tb_instantiable_40 tb_initialized_2 (Nat.le_of_ble_eq_true rfl) (Nat.le_of_ble_eq_true rfl) d_Sym_init_32 (fun q32 => ?_)
  refine ax_w ([(h, .inr (1, [.ref q8, .ref q17, .ref q26, .null, .int 0, .int 0, .null, .null])), (q8, .inl (kA 0, 551, .inl (fun _ => 0))), (q17, .inl (kA 0, 251, .inl (fun _ => 0))), (q26, .inl (kA 0, 251, .inl (fun _ => 0))), (q32, .inr (0, [.null, .int 0]))]) rfl ?_
  refine ax_dup (pc := 35) C d_Sym_init_35 rfl ?_
  refine ax_sipush (pc := 36) C 128 d_Sym_init_36 (by decide +kernel) ?_
  refine ax_callIv (pc := 39) C (As := [.int 128]) (rest := [.ref q32, .ref h]) (wr := [(h, .inr (1, [.ref q8, .ref q17, .ref q26, .null, .int 0, .int 0, .null, .null])), (q8, .inl (kA 0, 551, .inl (fun _ => 0))), (q17, .inl (kA 0, 251, .inl (fun _ => 0))), (q26, .inl (kA 0, 251, .inl (fun _ => 0)))]) (c_Row_init l D kA q32 128 128 (by decide) (by decide) (by decide)) ml_Sym_23 d_Sym_init_39 rfl rfl [4] [0, 1, 2, 3] rfl (by decide) rfl (by decide) (by decide) (Nat.le_of_ble_eq_true rfl) (Nat.le_of_ble_eq_true rfl) (Nat.le_of_ble_eq_true rfl) (Nat.le_of_ble_eq_true rfl) (Nat.le_of_ble_eq_true rfl) (fun w1 hw1 => ?_)
  obtain ⟨g39, rfl⟩ := hw1
  refine ax_w ([(h, .inr (1, [.ref q8, .ref q17, .ref q26, .null, .int 0, .int 0, .null, .null])), (q8, .inl (kA 0, 551, .inl (fun _ => 0))), (q17, .inl (kA 0, 251, .inl (fun _ => 0))), (q26, .inl (kA 0, 251, .inl (fun _ => 0))), (q32, .inr (0, [.ref (g39 0), .int 0])), ((g39 0), .inl (kA 0, 128, .inl (fun _ => 0)))]) rfl ?_
  refine ax_putF (pc := 42) C k_Sym 3 lk_Sym_26 d_Sym_init_42 (Nat.le_of_ble_eq_true rfl) 0 rfl rfl hnm rfl rfl rfl (Nat.le_of_ble_eq_true rfl) ?_
  refine ax_w ([(h, .inr (1, [.ref q8, .ref q17, .ref q26, .ref q32, .int 0, .int 0, .null, .null])), (q8, .inl (kA 0, 551, .inl (fun _ => 0))), (q17, .inl (kA 0, 251, .inl (fun _ => 0))), (q26, .inl (kA 0, 251, .inl (fun _ => 0))), (q32, .inr (0, [.ref (g39 0), .int 0])), ((g39 0), .inl (kA 0, 128, .inl (fun _ => 0)))]) rfl ?_
  refine ax_aload_n (pc := 45) C d_Sym_init_45 rfl 0 rfl ?_
  refine ax_sipush (pc := 46) C 551 d_Sym_init_46 (by decide +kernel) ?_
  refine ax_newI (pc := 49) C tb_arr_int 551 d_Sym_init_49 (by decide) (by decide) (by decide) (Nat.le_of_ble_eq_true rfl) (Nat.le_of_ble_eq_true rfl) (fun q49 => ?_)
  refine ax_w ([(h, .inr (1, [.ref q8, .ref q17, .ref q26, .ref q32, .int 0, .int 0, .null, .null])), (q8, .inl (kA 0, 551, .inl (fun _ => 0))), (q17, .inl (kA 0, 251, .inl (fun _ => 0))), (q26, .inl (kA 0, 251, .inl (fun _ => 0))), (q32, .inr (0, [.ref (g39 0), .int 0])), ((g39 0), .inl (kA 0, 128, .inl (fun _ => 0))), (q49, .inl (kA 0, 551, .inl (fun _ => 0)))]) rfl ?_
  refine ax_putF (pc := 51) C k_Sym 6 lk_Sym_30 d_Sym_init_51 (Nat.le_of_ble_eq_true rfl) 0 rfl rfl hnm rfl rfl rfl (Nat.le_of_ble_eq_true rfl) ?_
  refine ax_w ([(h, .inr (1, [.ref q8, .ref q17, .ref q26, .ref q32, .int 0, .int 0, .ref q49, .null])), (q8, .inl (kA 0, 551, .inl (fun _ => 0))), (q17, .inl (kA 0, 251, .inl (fun _ => 0))), (q26, .inl (kA 0, 251, .inl (fun _ => 0))), (q32, .inr (0, [.ref (g39 0), .int 0])), ((g39 0), .inl (kA 0, 128, .inl (fun _ => 0))), (q49, .inl (kA 0, 551, .inl (fun _ => 0)))]) rfl ?_
  refine ax_aload_n (pc := 54) C d_Sym_init_54 rfl 0 rfl ?_
  refine ax_bipush (pc := 55) C 6 d_Sym_init_55 (by decide +kernel) ?_
  refine ax_newI (pc := 57) C tb_arr_int 6 d_Sym_init_57 (by decide) (by decide) (by decide) (Nat.le_of_ble_eq_true rfl) (Nat.le_of_ble_eq_true rfl) (fun q57 => ?_)
  refine ax_w ([(h, .inr (1, [.ref q8, .ref q17, .ref q26, .ref q32, .int 0, .int 0, .ref q49, .null])), (q8, .inl (kA 0, 551, .inl (fun _ => 0))), (q17, .inl (kA 0, 251, .inl (fun _ => 0))), (q26, .inl (kA 0, 251, .inl (fun _ => 0))), (q32, .inr (0, [.ref (g39 0), .int 0])), ((g39 0), .inl (kA 0, 128, .inl (fun _ => 0))), (q49, .inl (kA 0, 551, .inl (fun _ => 0))), (q57, .inl (kA 0, 6, .inl (fun _ => 0)))]) rfl ?_
  refine ax_putF (pc := 59) C k_Sym 7 lk_Sym_33 d_Sym_init_59 (Nat.le_of_ble_eq_true rfl) 0 rfl rfl hnm rfl rfl rfl (Nat.le_of_ble_eq_true rfl) ?_
  refine ax_w ([(h, .inr (1, [.ref q8, .ref q17, .ref q26, .ref q32, .int 0, .int 0, .ref q49, .ref q57])), (q8, .inl (kA 0, 551, .inl (fun _ => 0))), (q17, .inl (kA 0, 251, .inl (fun _ => 0))), (q26, .inl (kA 0, 251, .inl (fun _ => 0))), (q32, .inr (0, [.ref (g39 0), .int 0])), ((g39 0), .inl (kA 0, 128, .inl (fun _ => 0))), (q49, .inl (kA 0, 551, .inl (fun _ => 0))), (q57, .inl (kA 0, 6, .inl (fun _ => 0)))]) rfl ?_
  refine ax_aload_n (pc := 62) C d_Sym_init_62 rfl 0 rfl ?_
  refine ax_get (pc := 63) C k_Sym 6 lk_Sym_30 d_Sym_init_63 (Nat.le_of_ble_eq_true rfl) 0 rfl rfl ?_
  refine ax_iconst (pc := 66) C 0 d_Sym_init_66 (by decide +kernel) ?_
  refine ax_iconst (pc := 67) C 1 d_Sym_init_67 (by decide +kernel) ?_
  refine ax_iast (pc := 68) C 6 rfl d_Sym_init_68 (by unfold vp_in; decide) ?_
  refine ax_w ([(h, .inr (1, [.ref q8, .ref q17, .ref q26, .ref q32, .int 0, .int 0, .ref q49, .ref q57])), (q8, .inl (kA 0, 551, .inl (fun _ => 0))), (q17, .inl (kA 0, 251, .inl (fun _ => 0))), (q26, .inl (kA 0, 251, .inl (fun _ => 0))), (q32, .inr (0, [.ref (g39 0), .int 0])), ((g39 0), .inl (kA 0, 128, .inl (fun _ => 0))), (q49, .inl (kA 0, 551, .inl (upd (fun _ => 0) (Int32.toNatClampNeg 0) 1))), (q57, .inl (kA 0, 6, .inl (fun _ => 0)))]) rfl ?_
  refine ax_aload_n (pc := 69) C d_Sym_init_69 rfl 0 rfl ?_
  refine ax_iconst (pc := 70) C 1 d_Sym_init_70 (by decide +kernel) ?_
  refine ax_put (pc := 71) C k_Sym 5 lk_Sym_36 d_Sym_init_71 (Nat.le_of_ble_eq_true rfl) 0 rfl rfl rfl rfl (Nat.le_of_ble_eq_true rfl) ?_
  refine ax_w ([(h, .inr (1, [.ref q8, .ref q17, .ref q26, .ref q32, .int 0, .int 1, .ref q49, .ref q57])), (q8, .inl (kA 0, 551, .inl (fun _ => 0))), (q17, .inl (kA 0, 251, .inl (fun _ => 0))), (q26, .inl (kA 0, 251, .inl (fun _ => 0))), (q32, .inr (0, [.ref (g39 0), .int 0])), ((g39 0), .inl (kA 0, 128, .inl (fun _ => 0))), (q49, .inl (kA 0, 551, .inl (upd (fun _ => 0) (Int32.toNatClampNeg 0) 1))), (q57, .inl (kA 0, 6, .inl (fun _ => 0)))]) rfl ?_
  exact ax_vret (pc := 74) C d_Sym_init_74 ⟨fun i => [q8, q17, q26, q32, (g39 0), q49, q57].getD i 0, rfl⟩ (by simp) (by simp)
abbrev b_For_init : ByteArray := prog_3_method_1_code
def y_For_init : MethodName := ⟨"ClauseProver$Formulas", "<init>", "(LClauseProver$Symbols;)V"⟩
theorem d_For_init_0 : decode b_For_init 0 = .ok (.aload_n 0, 1) := by decide +kernel
theorem d_For_init_1 : decode b_For_init 1 = .ok (.invokespecial 3, 3) := by decide +kernel
theorem d_For_init_4 : decode b_For_init 4 = .ok (.aload_n 0, 1) := by decide +kernel
theorem d_For_init_5 : decode b_For_init 5 = .ok (.new 9, 3) := by decide +kernel
theorem d_For_init_8 : decode b_For_init 8 = .ok (.dup, 1) := by decide +kernel
theorem d_For_init_9 : decode b_For_init 9 = .ok (.sipush 128, 3) := by decide +kernel
theorem d_For_init_12 : decode b_For_init 12 = .ok (.invokespecial 11, 3) := by decide +kernel
theorem d_For_init_15 : decode b_For_init 15 = .ok (.putfield 14, 3) := by decide +kernel
theorem d_For_init_18 : decode b_For_init 18 = .ok (.aload_n 0, 1) := by decide +kernel
theorem d_For_init_19 : decode b_For_init 19 = .ok (.sipush 300, 3) := by decide +kernel
theorem d_For_init_22 : decode b_For_init 22 = .ok (.newarray .int, 2) := by decide +kernel
theorem d_For_init_24 : decode b_For_init 24 = .ok (.putfield 20, 3) := by decide +kernel
theorem d_For_init_27 : decode b_For_init 27 = .ok (.aload_n 0, 1) := by decide +kernel
theorem d_For_init_28 : decode b_For_init 28 = .ok (.new 9, 3) := by decide +kernel
theorem d_For_init_31 : decode b_For_init 31 = .ok (.dup, 1) := by decide +kernel
theorem d_For_init_32 : decode b_For_init 32 = .ok (.sipush 256, 3) := by decide +kernel
theorem d_For_init_35 : decode b_For_init 35 = .ok (.invokespecial 11, 3) := by decide +kernel
theorem d_For_init_38 : decode b_For_init 38 = .ok (.putfield 24, 3) := by decide +kernel
theorem d_For_init_41 : decode b_For_init 41 = .ok (.aload_n 0, 1) := by decide +kernel
theorem d_For_init_42 : decode b_For_init 42 = .ok (.new 9, 3) := by decide +kernel
theorem d_For_init_45 : decode b_For_init 45 = .ok (.dup, 1) := by decide +kernel
theorem d_For_init_46 : decode b_For_init 46 = .ok (.bipush 64, 2) := by decide +kernel
theorem d_For_init_48 : decode b_For_init 48 = .ok (.invokespecial 11, 3) := by decide +kernel
theorem d_For_init_51 : decode b_For_init 51 = .ok (.putfield 27, 3) := by decide +kernel
theorem d_For_init_54 : decode b_For_init 54 = .ok (.aload_n 0, 1) := by decide +kernel
theorem d_For_init_55 : decode b_For_init 55 = .ok (.sipush 300, 3) := by decide +kernel
theorem d_For_init_58 : decode b_For_init 58 = .ok (.newarray .int, 2) := by decide +kernel
theorem d_For_init_60 : decode b_For_init 60 = .ok (.putfield 30, 3) := by decide +kernel
theorem d_For_init_63 : decode b_For_init 63 = .ok (.aload_n 0, 1) := by decide +kernel
theorem d_For_init_64 : decode b_For_init 64 = .ok (.sipush 300, 3) := by decide +kernel
theorem d_For_init_67 : decode b_For_init 67 = .ok (.newarray .int, 2) := by decide +kernel
theorem d_For_init_69 : decode b_For_init 69 = .ok (.putfield 33, 3) := by decide +kernel
theorem d_For_init_72 : decode b_For_init 72 = .ok (.aload_n 0, 1) := by decide +kernel
theorem d_For_init_73 : decode b_For_init 73 = .ok (.sipush 300, 3) := by decide +kernel
theorem d_For_init_76 : decode b_For_init 76 = .ok (.newarray .int, 2) := by decide +kernel
theorem d_For_init_78 : decode b_For_init 78 = .ok (.putfield 36, 3) := by decide +kernel
theorem d_For_init_81 : decode b_For_init 81 = .ok (.aload_n 0, 1) := by decide +kernel
theorem d_For_init_82 : decode b_For_init 82 = .ok (.sipush 300, 3) := by decide +kernel
theorem d_For_init_85 : decode b_For_init 85 = .ok (.newarray .int, 2) := by decide +kernel
theorem d_For_init_87 : decode b_For_init 87 = .ok (.putfield 39, 3) := by decide +kernel
theorem d_For_init_90 : decode b_For_init 90 = .ok (.aload_n 0, 1) := by decide +kernel
theorem d_For_init_91 : decode b_For_init 91 = .ok (.sipush 300, 3) := by decide +kernel
theorem d_For_init_94 : decode b_For_init 94 = .ok (.newarray .int, 2) := by decide +kernel
theorem d_For_init_96 : decode b_For_init 96 = .ok (.putfield 42, 3) := by decide +kernel
theorem d_For_init_99 : decode b_For_init 99 = .ok (.aload_n 0, 1) := by decide +kernel
theorem d_For_init_100 : decode b_For_init 100 = .ok (.sipush 300, 3) := by decide +kernel
theorem d_For_init_103 : decode b_For_init 103 = .ok (.newarray .boolean, 2) := by decide +kernel
theorem d_For_init_105 : decode b_For_init 105 = .ok (.putfield 45, 3) := by decide +kernel
theorem d_For_init_108 : decode b_For_init 108 = .ok (.aload_n 0, 1) := by decide +kernel
theorem d_For_init_109 : decode b_For_init 109 = .ok (.sipush 300, 3) := by decide +kernel
theorem d_For_init_112 : decode b_For_init 112 = .ok (.newarray .int, 2) := by decide +kernel
theorem d_For_init_114 : decode b_For_init 114 = .ok (.putfield 49, 3) := by decide +kernel
theorem d_For_init_117 : decode b_For_init 117 = .ok (.aload_n 0, 1) := by decide +kernel
theorem d_For_init_118 : decode b_For_init 118 = .ok (.new 9, 3) := by decide +kernel
theorem d_For_init_121 : decode b_For_init 121 = .ok (.dup, 1) := by decide +kernel
theorem d_For_init_122 : decode b_For_init 122 = .ok (.bipush 64, 2) := by decide +kernel
theorem d_For_init_124 : decode b_For_init 124 = .ok (.invokespecial 11, 3) := by decide +kernel
theorem d_For_init_127 : decode b_For_init 127 = .ok (.putfield 52, 3) := by decide +kernel
theorem d_For_init_130 : decode b_For_init 130 = .ok (.aload_n 0, 1) := by decide +kernel
theorem d_For_init_131 : decode b_For_init 131 = .ok (.aload_n 1, 1) := by decide +kernel
theorem d_For_init_132 : decode b_For_init 132 = .ok (.putfield 55, 3) := by decide +kernel
theorem d_For_init_135 : decode b_For_init 135 = .ok (.return_, 1) := by decide +kernel
theorem tb_methodLink_117 : Cond.methodLink "ClauseProver$Formulas" 3 ⟨"java/lang/Object", "<init>", "()V"⟩ ∈ lw_tbg := tb_in (i := 117) (by decide +kernel) rfl
theorem tb_classLink_118 : Cond.classLink "ClauseProver$Formulas" 9 "ClauseProver$Row" ∈ lw_tbg := tb_in (i := 118) (by decide +kernel) rfl
theorem ml_For_11 : ax_LI "ClauseProver$Formulas" 11 y_Row_init b_Row_init 2 1 := ax_LI.mk (tb_in (i := 119) (by decide +kernel) rfl) (tb_in (i := 42) (by decide +kernel) rfl) ti_Row tc_Row_init rfl (by decide +kernel)
theorem lk_For_14 : Cond.fieldLink "ClauseProver$Formulas" 14 (F_For 0).1 (F_For 0).2.1 (F_For 0).2.2.1 ∈ lw_tbg := tb_in (i := 120) (by decide +kernel) rfl
theorem lk_For_20 : Cond.fieldLink "ClauseProver$Formulas" 20 (F_For 1).1 (F_For 1).2.1 (F_For 1).2.2.1 ∈ lw_tbg := tb_in (i := 122) (by decide +kernel) rfl
theorem lk_For_24 : Cond.fieldLink "ClauseProver$Formulas" 24 (F_For 5).1 (F_For 5).2.1 (F_For 5).2.2.1 ∈ lw_tbg := tb_in (i := 129) (by decide +kernel) rfl
theorem lk_For_27 : Cond.fieldLink "ClauseProver$Formulas" 27 (F_For 6).1 (F_For 6).2.1 (F_For 6).2.2.1 ∈ lw_tbg := tb_in (i := 130) (by decide +kernel) rfl
theorem lk_For_30 : Cond.fieldLink "ClauseProver$Formulas" 30 (F_For 7).1 (F_For 7).2.1 (F_For 7).2.2.1 ∈ lw_tbg := tb_in (i := 131) (by decide +kernel) rfl
theorem lk_For_33 : Cond.fieldLink "ClauseProver$Formulas" 33 (F_For 8).1 (F_For 8).2.1 (F_For 8).2.2.1 ∈ lw_tbg := tb_in (i := 132) (by decide +kernel) rfl
theorem lk_For_36 : Cond.fieldLink "ClauseProver$Formulas" 36 (F_For 9).1 (F_For 9).2.1 (F_For 9).2.2.1 ∈ lw_tbg := tb_in (i := 133) (by decide +kernel) rfl
theorem lk_For_39 : Cond.fieldLink "ClauseProver$Formulas" 39 (F_For 10).1 (F_For 10).2.1 (F_For 10).2.2.1 ∈ lw_tbg := tb_in (i := 134) (by decide +kernel) rfl
theorem lk_For_42 : Cond.fieldLink "ClauseProver$Formulas" 42 (F_For 11).1 (F_For 11).2.1 (F_For 11).2.2.1 ∈ lw_tbg := tb_in (i := 135) (by decide +kernel) rfl
theorem tb_arr_boolean : Cond.arrayClass .boolean ∈ lw_tbg := tb_in (i := 173) (by decide +kernel) rfl
theorem lk_For_45 : Cond.fieldLink "ClauseProver$Formulas" 45 (F_For 12).1 (F_For 12).2.1 (F_For 12).2.2.1 ∈ lw_tbg := tb_in (i := 136) (by decide +kernel) rfl
theorem lk_For_49 : Cond.fieldLink "ClauseProver$Formulas" 49 (F_For 13).1 (F_For 13).2.1 (F_For 13).2.2.1 ∈ lw_tbg := tb_in (i := 137) (by decide +kernel) rfl
theorem lk_For_52 : Cond.fieldLink "ClauseProver$Formulas" 52 (F_For 15).1 (F_For 15).2.1 (F_For 15).2.2.1 ∈ lw_tbg := tb_in (i := 139) (by decide +kernel) rfl
theorem lk_For_55 : Cond.fieldLink "ClauseProver$Formulas" 55 (F_For 4).1 (F_For 4).2.1 (F_For 4).2.2.1 ∈ lw_tbg := tb_in (i := 128) (by decide +kernel) rfl
set_option maxHeartbeats 4000000 in
set_option maxRecDepth 100000 in
theorem c_For_init (l : Launch) (D : va_G) (kA : Nat → ClassId) (h : Nat) (hs : Nat) : ax_Mv l D kA y_For_init b_For_init 2 2 41 16 2920 [.ref h, .ref hs] [(h, .inr (2, [.null, .null, .int 0, .int 0, .null, .null, .null, .null, .null, .null, .null, .null, .null, .null, .int 0, .null]))] (fun w1 => ∃ q : Nat → Nat, w1 = [(h, .inr (2, [.ref (q 0), .ref (q 2), .int 0, .int 0, .ref hs, .ref (q 3), .ref (q 5), .ref (q 7), .ref (q 8), .ref (q 9), .ref (q 10), .ref (q 11), .ref (q 12), .ref (q 13), .int 0, .ref (q 14)])), ((q 0), .inr (0, [.ref (q 1), .int 0])), ((q 1), .inl (kA 0, 128, .inl (fun _ => 0))), ((q 2), .inl (kA 0, 300, .inl (fun _ => 0))), ((q 3), .inr (0, [.ref (q 4), .int 0])), ((q 4), .inl (kA 0, 256, .inl (fun _ => 0))), ((q 5), .inr (0, [.ref (q 6), .int 0])), ((q 6), .inl (kA 0, 64, .inl (fun _ => 0))), ((q 7), .inl (kA 0, 300, .inl (fun _ => 0))), ((q 8), .inl (kA 0, 300, .inl (fun _ => 0))), ((q 9), .inl (kA 0, 300, .inl (fun _ => 0))), ((q 10), .inl (kA 0, 300, .inl (fun _ => 0))), ((q 11), .inl (kA 0, 300, .inl (fun _ => 0))), ((q 12), .inl (kA 1, 300, .inl (fun _ => 0))), ((q 13), .inl (kA 0, 300, .inl (fun _ => 0))), ((q 14), .inr (0, [.ref (q 15), .int 0])), ((q 15), .inl (kA 0, 64, .inl (fun _ => 0)))]) := by
  refine ax_Mv.of (by decide +kernel) (Nat.le_of_ble_eq_true rfl) ?_
  intro p e s m args below meth c C hnm
  have hnm : meth.name = "<init>" := hnm
  refine ax_ls ([(0, .ref h), (1, .ref hs)]) [0, 1] rfl ?_
  refine ax_aload_n (pc := 0) C d_For_init_0 rfl 0 rfl ?_
  refine ax_objInit (pc := 1) C tb_methodLink_117 tb_instanceMethod_37 tb_codeObj d_For_init_1 (Nat.le_of_ble_eq_true rfl) (Nat.le_of_ble_eq_true rfl) (Nat.le_of_ble_eq_true rfl) ?_
  refine ax_aload_n (pc := 4) C d_For_init_4 rfl 0 rfl ?_
  refine ax_new (pc := 5) C k_Row tb_classLink_118 tb_instantiable_40 tb_initialized_2 (Nat.le_of_ble_eq_true rfl) (Nat.le_of_ble_eq_true rfl) d_For_init_5 (fun q5 => ?_)
  refine ax_w ([(h, .inr (2, [.null, .null, .int 0, .int 0, .null, .null, .null, .null, .null, .null, .null, .null, .null, .null, .int 0, .null])), (q5, .inr (0, [.null, .int 0]))]) rfl ?_
  refine ax_dup (pc := 8) C d_For_init_8 rfl ?_
  refine ax_sipush (pc := 9) C 128 d_For_init_9 (by decide +kernel) ?_
  refine ax_callIv (pc := 12) C (As := [.int 128]) (rest := [.ref q5, .ref h]) (wr := [(h, .inr (2, [.null, .null, .int 0, .int 0, .null, .null, .null, .null, .null, .null, .null, .null, .null, .null, .int 0, .null]))]) (c_Row_init l D kA q5 128 128 (by decide) (by decide) (by decide)) ml_For_11 d_For_init_12 rfl rfl [1] [0] rfl (by decide) rfl (by decide) (by decide) (Nat.le_of_ble_eq_true rfl) (Nat.le_of_ble_eq_true rfl) (Nat.le_of_ble_eq_true rfl) (Nat.le_of_ble_eq_true rfl) (Nat.le_of_ble_eq_true rfl) (fun w1 hw1 => ?_)
  obtain ⟨g12, rfl⟩ := hw1
  refine ax_w ([(h, .inr (2, [.null, .null, .int 0, .int 0, .null, .null, .null, .null, .null, .null, .null, .null, .null, .null, .int 0, .null])), (q5, .inr (0, [.ref (g12 0), .int 0])), ((g12 0), .inl (kA 0, 128, .inl (fun _ => 0)))]) rfl ?_
  refine ax_putF (pc := 15) C k_For 0 lk_For_14 d_For_init_15 (Nat.le_of_ble_eq_true rfl) 0 rfl rfl hnm rfl rfl rfl (Nat.le_of_ble_eq_true rfl) ?_
  refine ax_w ([(h, .inr (2, [.ref q5, .null, .int 0, .int 0, .null, .null, .null, .null, .null, .null, .null, .null, .null, .null, .int 0, .null])), (q5, .inr (0, [.ref (g12 0), .int 0])), ((g12 0), .inl (kA 0, 128, .inl (fun _ => 0)))]) rfl ?_
  refine ax_aload_n (pc := 18) C d_For_init_18 rfl 0 rfl ?_
  refine ax_sipush (pc := 19) C 300 d_For_init_19 (by decide +kernel) ?_
  refine ax_newI (pc := 22) C tb_arr_int 300 d_For_init_22 (by decide) (by decide) (by decide) (Nat.le_of_ble_eq_true rfl) (Nat.le_of_ble_eq_true rfl) (fun q22 => ?_)
  refine ax_w ([(h, .inr (2, [.ref q5, .null, .int 0, .int 0, .null, .null, .null, .null, .null, .null, .null, .null, .null, .null, .int 0, .null])), (q5, .inr (0, [.ref (g12 0), .int 0])), ((g12 0), .inl (kA 0, 128, .inl (fun _ => 0))), (q22, .inl (kA 0, 300, .inl (fun _ => 0)))]) rfl ?_
  refine ax_putF (pc := 24) C k_For 1 lk_For_20 d_For_init_24 (Nat.le_of_ble_eq_true rfl) 0 rfl rfl hnm rfl rfl rfl (Nat.le_of_ble_eq_true rfl) ?_
  refine ax_w ([(h, .inr (2, [.ref q5, .ref q22, .int 0, .int 0, .null, .null, .null, .null, .null, .null, .null, .null, .null, .null, .int 0, .null])), (q5, .inr (0, [.ref (g12 0), .int 0])), ((g12 0), .inl (kA 0, 128, .inl (fun _ => 0))), (q22, .inl (kA 0, 300, .inl (fun _ => 0)))]) rfl ?_
  refine ax_aload_n (pc := 27) C d_For_init_27 rfl 0 rfl ?_
  refine ax_new (pc := 28) C k_Row tb_classLink_118 tb_instantiable_40 tb_initialized_2 (Nat.le_of_ble_eq_true rfl) (Nat.le_of_ble_eq_true rfl) d_For_init_28 (fun q28 => ?_)
  refine ax_w ([(h, .inr (2, [.ref q5, .ref q22, .int 0, .int 0, .null, .null, .null, .null, .null, .null, .null, .null, .null, .null, .int 0, .null])), (q5, .inr (0, [.ref (g12 0), .int 0])), ((g12 0), .inl (kA 0, 128, .inl (fun _ => 0))), (q22, .inl (kA 0, 300, .inl (fun _ => 0))), (q28, .inr (0, [.null, .int 0]))]) rfl ?_
  refine ax_dup (pc := 31) C d_For_init_31 rfl ?_
  refine ax_sipush (pc := 32) C 256 d_For_init_32 (by decide +kernel) ?_
  refine ax_callIv (pc := 35) C (As := [.int 256]) (rest := [.ref q28, .ref h]) (wr := [(h, .inr (2, [.ref q5, .ref q22, .int 0, .int 0, .null, .null, .null, .null, .null, .null, .null, .null, .null, .null, .int 0, .null])), (q5, .inr (0, [.ref (g12 0), .int 0])), ((g12 0), .inl (kA 0, 128, .inl (fun _ => 0))), (q22, .inl (kA 0, 300, .inl (fun _ => 0)))]) (c_Row_init l D kA q28 256 256 (by decide) (by decide) (by decide)) ml_For_11 d_For_init_35 rfl rfl [4] [0, 1, 2, 3] rfl (by decide) rfl (by decide) (by decide) (Nat.le_of_ble_eq_true rfl) (Nat.le_of_ble_eq_true rfl) (Nat.le_of_ble_eq_true rfl) (Nat.le_of_ble_eq_true rfl) (Nat.le_of_ble_eq_true rfl) (fun w1 hw1 => ?_)
  obtain ⟨g35, rfl⟩ := hw1
  refine ax_w ([(h, .inr (2, [.ref q5, .ref q22, .int 0, .int 0, .null, .null, .null, .null, .null, .null, .null, .null, .null, .null, .int 0, .null])), (q5, .inr (0, [.ref (g12 0), .int 0])), ((g12 0), .inl (kA 0, 128, .inl (fun _ => 0))), (q22, .inl (kA 0, 300, .inl (fun _ => 0))), (q28, .inr (0, [.ref (g35 0), .int 0])), ((g35 0), .inl (kA 0, 256, .inl (fun _ => 0)))]) rfl ?_
  refine ax_putF (pc := 38) C k_For 5 lk_For_24 d_For_init_38 (Nat.le_of_ble_eq_true rfl) 0 rfl rfl hnm rfl rfl rfl (Nat.le_of_ble_eq_true rfl) ?_
  refine ax_w ([(h, .inr (2, [.ref q5, .ref q22, .int 0, .int 0, .null, .ref q28, .null, .null, .null, .null, .null, .null, .null, .null, .int 0, .null])), (q5, .inr (0, [.ref (g12 0), .int 0])), ((g12 0), .inl (kA 0, 128, .inl (fun _ => 0))), (q22, .inl (kA 0, 300, .inl (fun _ => 0))), (q28, .inr (0, [.ref (g35 0), .int 0])), ((g35 0), .inl (kA 0, 256, .inl (fun _ => 0)))]) rfl ?_
  refine ax_aload_n (pc := 41) C d_For_init_41 rfl 0 rfl ?_
  refine ax_new (pc := 42) C k_Row tb_classLink_118 tb_instantiable_40 tb_initialized_2 (Nat.le_of_ble_eq_true rfl) (Nat.le_of_ble_eq_true rfl) d_For_init_42 (fun q42 => ?_)
  refine ax_w ([(h, .inr (2, [.ref q5, .ref q22, .int 0, .int 0, .null, .ref q28, .null, .null, .null, .null, .null, .null, .null, .null, .int 0, .null])), (q5, .inr (0, [.ref (g12 0), .int 0])), ((g12 0), .inl (kA 0, 128, .inl (fun _ => 0))), (q22, .inl (kA 0, 300, .inl (fun _ => 0))), (q28, .inr (0, [.ref (g35 0), .int 0])), ((g35 0), .inl (kA 0, 256, .inl (fun _ => 0))), (q42, .inr (0, [.null, .int 0]))]) rfl ?_
  refine ax_dup (pc := 45) C d_For_init_45 rfl ?_
  refine ax_bipush (pc := 46) C 64 d_For_init_46 (by decide +kernel) ?_
  refine ax_callIv (pc := 48) C (As := [.int 64]) (rest := [.ref q42, .ref h]) (wr := [(h, .inr (2, [.ref q5, .ref q22, .int 0, .int 0, .null, .ref q28, .null, .null, .null, .null, .null, .null, .null, .null, .int 0, .null])), (q5, .inr (0, [.ref (g12 0), .int 0])), ((g12 0), .inl (kA 0, 128, .inl (fun _ => 0))), (q22, .inl (kA 0, 300, .inl (fun _ => 0))), (q28, .inr (0, [.ref (g35 0), .int 0])), ((g35 0), .inl (kA 0, 256, .inl (fun _ => 0)))]) (c_Row_init l D kA q42 64 64 (by decide) (by decide) (by decide)) ml_For_11 d_For_init_48 rfl rfl [6] [0, 1, 2, 3, 4, 5] rfl (by decide) rfl (by decide) (by decide) (Nat.le_of_ble_eq_true rfl) (Nat.le_of_ble_eq_true rfl) (Nat.le_of_ble_eq_true rfl) (Nat.le_of_ble_eq_true rfl) (Nat.le_of_ble_eq_true rfl) (fun w1 hw1 => ?_)
  obtain ⟨g48, rfl⟩ := hw1
  refine ax_w ([(h, .inr (2, [.ref q5, .ref q22, .int 0, .int 0, .null, .ref q28, .null, .null, .null, .null, .null, .null, .null, .null, .int 0, .null])), (q5, .inr (0, [.ref (g12 0), .int 0])), ((g12 0), .inl (kA 0, 128, .inl (fun _ => 0))), (q22, .inl (kA 0, 300, .inl (fun _ => 0))), (q28, .inr (0, [.ref (g35 0), .int 0])), ((g35 0), .inl (kA 0, 256, .inl (fun _ => 0))), (q42, .inr (0, [.ref (g48 0), .int 0])), ((g48 0), .inl (kA 0, 64, .inl (fun _ => 0)))]) rfl ?_
  refine ax_putF (pc := 51) C k_For 6 lk_For_27 d_For_init_51 (Nat.le_of_ble_eq_true rfl) 0 rfl rfl hnm rfl rfl rfl (Nat.le_of_ble_eq_true rfl) ?_
  refine ax_w ([(h, .inr (2, [.ref q5, .ref q22, .int 0, .int 0, .null, .ref q28, .ref q42, .null, .null, .null, .null, .null, .null, .null, .int 0, .null])), (q5, .inr (0, [.ref (g12 0), .int 0])), ((g12 0), .inl (kA 0, 128, .inl (fun _ => 0))), (q22, .inl (kA 0, 300, .inl (fun _ => 0))), (q28, .inr (0, [.ref (g35 0), .int 0])), ((g35 0), .inl (kA 0, 256, .inl (fun _ => 0))), (q42, .inr (0, [.ref (g48 0), .int 0])), ((g48 0), .inl (kA 0, 64, .inl (fun _ => 0)))]) rfl ?_
  refine ax_aload_n (pc := 54) C d_For_init_54 rfl 0 rfl ?_
  refine ax_sipush (pc := 55) C 300 d_For_init_55 (by decide +kernel) ?_
  refine ax_newI (pc := 58) C tb_arr_int 300 d_For_init_58 (by decide) (by decide) (by decide) (Nat.le_of_ble_eq_true rfl) (Nat.le_of_ble_eq_true rfl) (fun q58 => ?_)
  refine ax_w ([(h, .inr (2, [.ref q5, .ref q22, .int 0, .int 0, .null, .ref q28, .ref q42, .null, .null, .null, .null, .null, .null, .null, .int 0, .null])), (q5, .inr (0, [.ref (g12 0), .int 0])), ((g12 0), .inl (kA 0, 128, .inl (fun _ => 0))), (q22, .inl (kA 0, 300, .inl (fun _ => 0))), (q28, .inr (0, [.ref (g35 0), .int 0])), ((g35 0), .inl (kA 0, 256, .inl (fun _ => 0))), (q42, .inr (0, [.ref (g48 0), .int 0])), ((g48 0), .inl (kA 0, 64, .inl (fun _ => 0))), (q58, .inl (kA 0, 300, .inl (fun _ => 0)))]) rfl ?_
  refine ax_putF (pc := 60) C k_For 7 lk_For_30 d_For_init_60 (Nat.le_of_ble_eq_true rfl) 0 rfl rfl hnm rfl rfl rfl (Nat.le_of_ble_eq_true rfl) ?_
  refine ax_w ([(h, .inr (2, [.ref q5, .ref q22, .int 0, .int 0, .null, .ref q28, .ref q42, .ref q58, .null, .null, .null, .null, .null, .null, .int 0, .null])), (q5, .inr (0, [.ref (g12 0), .int 0])), ((g12 0), .inl (kA 0, 128, .inl (fun _ => 0))), (q22, .inl (kA 0, 300, .inl (fun _ => 0))), (q28, .inr (0, [.ref (g35 0), .int 0])), ((g35 0), .inl (kA 0, 256, .inl (fun _ => 0))), (q42, .inr (0, [.ref (g48 0), .int 0])), ((g48 0), .inl (kA 0, 64, .inl (fun _ => 0))), (q58, .inl (kA 0, 300, .inl (fun _ => 0)))]) rfl ?_
  refine ax_aload_n (pc := 63) C d_For_init_63 rfl 0 rfl ?_
  refine ax_sipush (pc := 64) C 300 d_For_init_64 (by decide +kernel) ?_
  refine ax_newI (pc := 67) C tb_arr_int 300 d_For_init_67 (by decide) (by decide) (by decide) (Nat.le_of_ble_eq_true rfl) (Nat.le_of_ble_eq_true rfl) (fun q67 => ?_)
  refine ax_w ([(h, .inr (2, [.ref q5, .ref q22, .int 0, .int 0, .null, .ref q28, .ref q42, .ref q58, .null, .null, .null, .null, .null, .null, .int 0, .null])), (q5, .inr (0, [.ref (g12 0), .int 0])), ((g12 0), .inl (kA 0, 128, .inl (fun _ => 0))), (q22, .inl (kA 0, 300, .inl (fun _ => 0))), (q28, .inr (0, [.ref (g35 0), .int 0])), ((g35 0), .inl (kA 0, 256, .inl (fun _ => 0))), (q42, .inr (0, [.ref (g48 0), .int 0])), ((g48 0), .inl (kA 0, 64, .inl (fun _ => 0))), (q58, .inl (kA 0, 300, .inl (fun _ => 0))), (q67, .inl (kA 0, 300, .inl (fun _ => 0)))]) rfl ?_
  refine ax_putF (pc := 69) C k_For 8 lk_For_33 d_For_init_69 (Nat.le_of_ble_eq_true rfl) 0 rfl rfl hnm rfl rfl rfl (Nat.le_of_ble_eq_true rfl) ?_
  refine ax_w ([(h, .inr (2, [.ref q5, .ref q22, .int 0, .int 0, .null, .ref q28, .ref q42, .ref q58, .ref q67, .null, .null, .null, .null, .null, .int 0, .null])), (q5, .inr (0, [.ref (g12 0), .int 0])), ((g12 0), .inl (kA 0, 128, .inl (fun _ => 0))), (q22, .inl (kA 0, 300, .inl (fun _ => 0))), (q28, .inr (0, [.ref (g35 0), .int 0])), ((g35 0), .inl (kA 0, 256, .inl (fun _ => 0))), (q42, .inr (0, [.ref (g48 0), .int 0])), ((g48 0), .inl (kA 0, 64, .inl (fun _ => 0))), (q58, .inl (kA 0, 300, .inl (fun _ => 0))), (q67, .inl (kA 0, 300, .inl (fun _ => 0)))]) rfl ?_
  refine ax_aload_n (pc := 72) C d_For_init_72 rfl 0 rfl ?_
  refine ax_sipush (pc := 73) C 300 d_For_init_73 (by decide +kernel) ?_
  refine ax_newI (pc := 76) C tb_arr_int 300 d_For_init_76 (by decide) (by decide) (by decide) (Nat.le_of_ble_eq_true rfl) (Nat.le_of_ble_eq_true rfl) (fun q76 => ?_)
  refine ax_w ([(h, .inr (2, [.ref q5, .ref q22, .int 0, .int 0, .null, .ref q28, .ref q42, .ref q58, .ref q67, .null, .null, .null, .null, .null, .int 0, .null])), (q5, .inr (0, [.ref (g12 0), .int 0])), ((g12 0), .inl (kA 0, 128, .inl (fun _ => 0))), (q22, .inl (kA 0, 300, .inl (fun _ => 0))), (q28, .inr (0, [.ref (g35 0), .int 0])), ((g35 0), .inl (kA 0, 256, .inl (fun _ => 0))), (q42, .inr (0, [.ref (g48 0), .int 0])), ((g48 0), .inl (kA 0, 64, .inl (fun _ => 0))), (q58, .inl (kA 0, 300, .inl (fun _ => 0))), (q67, .inl (kA 0, 300, .inl (fun _ => 0))), (q76, .inl (kA 0, 300, .inl (fun _ => 0)))]) rfl ?_
  refine ax_putF (pc := 78) C k_For 9 lk_For_36 d_For_init_78 (Nat.le_of_ble_eq_true rfl) 0 rfl rfl hnm rfl rfl rfl (Nat.le_of_ble_eq_true rfl) ?_
  refine ax_w ([(h, .inr (2, [.ref q5, .ref q22, .int 0, .int 0, .null, .ref q28, .ref q42, .ref q58, .ref q67, .ref q76, .null, .null, .null, .null, .int 0, .null])), (q5, .inr (0, [.ref (g12 0), .int 0])), ((g12 0), .inl (kA 0, 128, .inl (fun _ => 0))), (q22, .inl (kA 0, 300, .inl (fun _ => 0))), (q28, .inr (0, [.ref (g35 0), .int 0])), ((g35 0), .inl (kA 0, 256, .inl (fun _ => 0))), (q42, .inr (0, [.ref (g48 0), .int 0])), ((g48 0), .inl (kA 0, 64, .inl (fun _ => 0))), (q58, .inl (kA 0, 300, .inl (fun _ => 0))), (q67, .inl (kA 0, 300, .inl (fun _ => 0))), (q76, .inl (kA 0, 300, .inl (fun _ => 0)))]) rfl ?_
  refine ax_aload_n (pc := 81) C d_For_init_81 rfl 0 rfl ?_
  refine ax_sipush (pc := 82) C 300 d_For_init_82 (by decide +kernel) ?_
  refine ax_newI (pc := 85) C tb_arr_int 300 d_For_init_85 (by decide) (by decide) (by decide) (Nat.le_of_ble_eq_true rfl) (Nat.le_of_ble_eq_true rfl) (fun q85 => ?_)
  refine ax_w ([(h, .inr (2, [.ref q5, .ref q22, .int 0, .int 0, .null, .ref q28, .ref q42, .ref q58, .ref q67, .ref q76, .null, .null, .null, .null, .int 0, .null])), (q5, .inr (0, [.ref (g12 0), .int 0])), ((g12 0), .inl (kA 0, 128, .inl (fun _ => 0))), (q22, .inl (kA 0, 300, .inl (fun _ => 0))), (q28, .inr (0, [.ref (g35 0), .int 0])), ((g35 0), .inl (kA 0, 256, .inl (fun _ => 0))), (q42, .inr (0, [.ref (g48 0), .int 0])), ((g48 0), .inl (kA 0, 64, .inl (fun _ => 0))), (q58, .inl (kA 0, 300, .inl (fun _ => 0))), (q67, .inl (kA 0, 300, .inl (fun _ => 0))), (q76, .inl (kA 0, 300, .inl (fun _ => 0))), (q85, .inl (kA 0, 300, .inl (fun _ => 0)))]) rfl ?_
  refine ax_putF (pc := 87) C k_For 10 lk_For_39 d_For_init_87 (Nat.le_of_ble_eq_true rfl) 0 rfl rfl hnm rfl rfl rfl (Nat.le_of_ble_eq_true rfl) ?_
  refine ax_w ([(h, .inr (2, [.ref q5, .ref q22, .int 0, .int 0, .null, .ref q28, .ref q42, .ref q58, .ref q67, .ref q76, .ref q85, .null, .null, .null, .int 0, .null])), (q5, .inr (0, [.ref (g12 0), .int 0])), ((g12 0), .inl (kA 0, 128, .inl (fun _ => 0))), (q22, .inl (kA 0, 300, .inl (fun _ => 0))), (q28, .inr (0, [.ref (g35 0), .int 0])), ((g35 0), .inl (kA 0, 256, .inl (fun _ => 0))), (q42, .inr (0, [.ref (g48 0), .int 0])), ((g48 0), .inl (kA 0, 64, .inl (fun _ => 0))), (q58, .inl (kA 0, 300, .inl (fun _ => 0))), (q67, .inl (kA 0, 300, .inl (fun _ => 0))), (q76, .inl (kA 0, 300, .inl (fun _ => 0))), (q85, .inl (kA 0, 300, .inl (fun _ => 0)))]) rfl ?_
  refine ax_aload_n (pc := 90) C d_For_init_90 rfl 0 rfl ?_
  refine ax_sipush (pc := 91) C 300 d_For_init_91 (by decide +kernel) ?_
  refine ax_newI (pc := 94) C tb_arr_int 300 d_For_init_94 (by decide) (by decide) (by decide) (Nat.le_of_ble_eq_true rfl) (Nat.le_of_ble_eq_true rfl) (fun q94 => ?_)
  refine ax_w ([(h, .inr (2, [.ref q5, .ref q22, .int 0, .int 0, .null, .ref q28, .ref q42, .ref q58, .ref q67, .ref q76, .ref q85, .null, .null, .null, .int 0, .null])), (q5, .inr (0, [.ref (g12 0), .int 0])), ((g12 0), .inl (kA 0, 128, .inl (fun _ => 0))), (q22, .inl (kA 0, 300, .inl (fun _ => 0))), (q28, .inr (0, [.ref (g35 0), .int 0])), ((g35 0), .inl (kA 0, 256, .inl (fun _ => 0))), (q42, .inr (0, [.ref (g48 0), .int 0])), ((g48 0), .inl (kA 0, 64, .inl (fun _ => 0))), (q58, .inl (kA 0, 300, .inl (fun _ => 0))), (q67, .inl (kA 0, 300, .inl (fun _ => 0))), (q76, .inl (kA 0, 300, .inl (fun _ => 0))), (q85, .inl (kA 0, 300, .inl (fun _ => 0))), (q94, .inl (kA 0, 300, .inl (fun _ => 0)))]) rfl ?_
  refine ax_putF (pc := 96) C k_For 11 lk_For_42 d_For_init_96 (Nat.le_of_ble_eq_true rfl) 0 rfl rfl hnm rfl rfl rfl (Nat.le_of_ble_eq_true rfl) ?_
  refine ax_w ([(h, .inr (2, [.ref q5, .ref q22, .int 0, .int 0, .null, .ref q28, .ref q42, .ref q58, .ref q67, .ref q76, .ref q85, .ref q94, .null, .null, .int 0, .null])), (q5, .inr (0, [.ref (g12 0), .int 0])), ((g12 0), .inl (kA 0, 128, .inl (fun _ => 0))), (q22, .inl (kA 0, 300, .inl (fun _ => 0))), (q28, .inr (0, [.ref (g35 0), .int 0])), ((g35 0), .inl (kA 0, 256, .inl (fun _ => 0))), (q42, .inr (0, [.ref (g48 0), .int 0])), ((g48 0), .inl (kA 0, 64, .inl (fun _ => 0))), (q58, .inl (kA 0, 300, .inl (fun _ => 0))), (q67, .inl (kA 0, 300, .inl (fun _ => 0))), (q76, .inl (kA 0, 300, .inl (fun _ => 0))), (q85, .inl (kA 0, 300, .inl (fun _ => 0))), (q94, .inl (kA 0, 300, .inl (fun _ => 0)))]) rfl ?_
  refine ax_aload_n (pc := 99) C d_For_init_99 rfl 0 rfl ?_
  refine ax_sipush (pc := 100) C 300 d_For_init_100 (by decide +kernel) ?_
  refine ax_newZ (pc := 103) C tb_arr_boolean 300 d_For_init_103 (by decide) (by decide) (by decide) (Nat.le_of_ble_eq_true rfl) (Nat.le_of_ble_eq_true rfl) (fun q103 => ?_)
  refine ax_w ([(h, .inr (2, [.ref q5, .ref q22, .int 0, .int 0, .null, .ref q28, .ref q42, .ref q58, .ref q67, .ref q76, .ref q85, .ref q94, .null, .null, .int 0, .null])), (q5, .inr (0, [.ref (g12 0), .int 0])), ((g12 0), .inl (kA 0, 128, .inl (fun _ => 0))), (q22, .inl (kA 0, 300, .inl (fun _ => 0))), (q28, .inr (0, [.ref (g35 0), .int 0])), ((g35 0), .inl (kA 0, 256, .inl (fun _ => 0))), (q42, .inr (0, [.ref (g48 0), .int 0])), ((g48 0), .inl (kA 0, 64, .inl (fun _ => 0))), (q58, .inl (kA 0, 300, .inl (fun _ => 0))), (q67, .inl (kA 0, 300, .inl (fun _ => 0))), (q76, .inl (kA 0, 300, .inl (fun _ => 0))), (q85, .inl (kA 0, 300, .inl (fun _ => 0))), (q94, .inl (kA 0, 300, .inl (fun _ => 0))), (q103, .inl (kA 1, 300, .inl (fun _ => 0)))]) rfl ?_
  refine ax_putF (pc := 105) C k_For 12 lk_For_45 d_For_init_105 (Nat.le_of_ble_eq_true rfl) 0 rfl rfl hnm rfl rfl rfl (Nat.le_of_ble_eq_true rfl) ?_
  refine ax_w ([(h, .inr (2, [.ref q5, .ref q22, .int 0, .int 0, .null, .ref q28, .ref q42, .ref q58, .ref q67, .ref q76, .ref q85, .ref q94, .ref q103, .null, .int 0, .null])), (q5, .inr (0, [.ref (g12 0), .int 0])), ((g12 0), .inl (kA 0, 128, .inl (fun _ => 0))), (q22, .inl (kA 0, 300, .inl (fun _ => 0))), (q28, .inr (0, [.ref (g35 0), .int 0])), ((g35 0), .inl (kA 0, 256, .inl (fun _ => 0))), (q42, .inr (0, [.ref (g48 0), .int 0])), ((g48 0), .inl (kA 0, 64, .inl (fun _ => 0))), (q58, .inl (kA 0, 300, .inl (fun _ => 0))), (q67, .inl (kA 0, 300, .inl (fun _ => 0))), (q76, .inl (kA 0, 300, .inl (fun _ => 0))), (q85, .inl (kA 0, 300, .inl (fun _ => 0))), (q94, .inl (kA 0, 300, .inl (fun _ => 0))), (q103, .inl (kA 1, 300, .inl (fun _ => 0)))]) rfl ?_
  refine ax_aload_n (pc := 108) C d_For_init_108 rfl 0 rfl ?_
  refine ax_sipush (pc := 109) C 300 d_For_init_109 (by decide +kernel) ?_
  refine ax_newI (pc := 112) C tb_arr_int 300 d_For_init_112 (by decide) (by decide) (by decide) (Nat.le_of_ble_eq_true rfl) (Nat.le_of_ble_eq_true rfl) (fun q112 => ?_)
  refine ax_w ([(h, .inr (2, [.ref q5, .ref q22, .int 0, .int 0, .null, .ref q28, .ref q42, .ref q58, .ref q67, .ref q76, .ref q85, .ref q94, .ref q103, .null, .int 0, .null])), (q5, .inr (0, [.ref (g12 0), .int 0])), ((g12 0), .inl (kA 0, 128, .inl (fun _ => 0))), (q22, .inl (kA 0, 300, .inl (fun _ => 0))), (q28, .inr (0, [.ref (g35 0), .int 0])), ((g35 0), .inl (kA 0, 256, .inl (fun _ => 0))), (q42, .inr (0, [.ref (g48 0), .int 0])), ((g48 0), .inl (kA 0, 64, .inl (fun _ => 0))), (q58, .inl (kA 0, 300, .inl (fun _ => 0))), (q67, .inl (kA 0, 300, .inl (fun _ => 0))), (q76, .inl (kA 0, 300, .inl (fun _ => 0))), (q85, .inl (kA 0, 300, .inl (fun _ => 0))), (q94, .inl (kA 0, 300, .inl (fun _ => 0))), (q103, .inl (kA 1, 300, .inl (fun _ => 0))), (q112, .inl (kA 0, 300, .inl (fun _ => 0)))]) rfl ?_
  refine ax_putF (pc := 114) C k_For 13 lk_For_49 d_For_init_114 (Nat.le_of_ble_eq_true rfl) 0 rfl rfl hnm rfl rfl rfl (Nat.le_of_ble_eq_true rfl) ?_
  refine ax_w ([(h, .inr (2, [.ref q5, .ref q22, .int 0, .int 0, .null, .ref q28, .ref q42, .ref q58, .ref q67, .ref q76, .ref q85, .ref q94, .ref q103, .ref q112, .int 0, .null])), (q5, .inr (0, [.ref (g12 0), .int 0])), ((g12 0), .inl (kA 0, 128, .inl (fun _ => 0))), (q22, .inl (kA 0, 300, .inl (fun _ => 0))), (q28, .inr (0, [.ref (g35 0), .int 0])), ((g35 0), .inl (kA 0, 256, .inl (fun _ => 0))), (q42, .inr (0, [.ref (g48 0), .int 0])), ((g48 0), .inl (kA 0, 64, .inl (fun _ => 0))), (q58, .inl (kA 0, 300, .inl (fun _ => 0))), (q67, .inl (kA 0, 300, .inl (fun _ => 0))), (q76, .inl (kA 0, 300, .inl (fun _ => 0))), (q85, .inl (kA 0, 300, .inl (fun _ => 0))), (q94, .inl (kA 0, 300, .inl (fun _ => 0))), (q103, .inl (kA 1, 300, .inl (fun _ => 0))), (q112, .inl (kA 0, 300, .inl (fun _ => 0)))]) rfl ?_
  refine ax_aload_n (pc := 117) C d_For_init_117 rfl 0 rfl ?_
  refine ax_new (pc := 118) C k_Row tb_classLink_118 tb_instantiable_40 tb_initialized_2 (Nat.le_of_ble_eq_true rfl) (Nat.le_of_ble_eq_true rfl) d_For_init_118 (fun q118 => ?_)
  refine ax_w ([(h, .inr (2, [.ref q5, .ref q22, .int 0, .int 0, .null, .ref q28, .ref q42, .ref q58, .ref q67, .ref q76, .ref q85, .ref q94, .ref q103, .ref q112, .int 0, .null])), (q5, .inr (0, [.ref (g12 0), .int 0])), ((g12 0), .inl (kA 0, 128, .inl (fun _ => 0))), (q22, .inl (kA 0, 300, .inl (fun _ => 0))), (q28, .inr (0, [.ref (g35 0), .int 0])), ((g35 0), .inl (kA 0, 256, .inl (fun _ => 0))), (q42, .inr (0, [.ref (g48 0), .int 0])), ((g48 0), .inl (kA 0, 64, .inl (fun _ => 0))), (q58, .inl (kA 0, 300, .inl (fun _ => 0))), (q67, .inl (kA 0, 300, .inl (fun _ => 0))), (q76, .inl (kA 0, 300, .inl (fun _ => 0))), (q85, .inl (kA 0, 300, .inl (fun _ => 0))), (q94, .inl (kA 0, 300, .inl (fun _ => 0))), (q103, .inl (kA 1, 300, .inl (fun _ => 0))), (q112, .inl (kA 0, 300, .inl (fun _ => 0))), (q118, .inr (0, [.null, .int 0]))]) rfl ?_
  refine ax_dup (pc := 121) C d_For_init_121 rfl ?_
  refine ax_bipush (pc := 122) C 64 d_For_init_122 (by decide +kernel) ?_
  refine ax_callIv (pc := 124) C (As := [.int 64]) (rest := [.ref q118, .ref h]) (wr := [(h, .inr (2, [.ref q5, .ref q22, .int 0, .int 0, .null, .ref q28, .ref q42, .ref q58, .ref q67, .ref q76, .ref q85, .ref q94, .ref q103, .ref q112, .int 0, .null])), (q5, .inr (0, [.ref (g12 0), .int 0])), ((g12 0), .inl (kA 0, 128, .inl (fun _ => 0))), (q22, .inl (kA 0, 300, .inl (fun _ => 0))), (q28, .inr (0, [.ref (g35 0), .int 0])), ((g35 0), .inl (kA 0, 256, .inl (fun _ => 0))), (q42, .inr (0, [.ref (g48 0), .int 0])), ((g48 0), .inl (kA 0, 64, .inl (fun _ => 0))), (q58, .inl (kA 0, 300, .inl (fun _ => 0))), (q67, .inl (kA 0, 300, .inl (fun _ => 0))), (q76, .inl (kA 0, 300, .inl (fun _ => 0))), (q85, .inl (kA 0, 300, .inl (fun _ => 0))), (q94, .inl (kA 0, 300, .inl (fun _ => 0))), (q103, .inl (kA 1, 300, .inl (fun _ => 0))), (q112, .inl (kA 0, 300, .inl (fun _ => 0)))]) (c_Row_init l D kA q118 64 64 (by decide) (by decide) (by decide)) ml_For_11 d_For_init_124 rfl rfl [15] [0, 1, 2, 3, 4, 5, 6, 7, 8, 9, 10, 11, 12, 13, 14] rfl (by decide) rfl (by decide) (by decide) (Nat.le_of_ble_eq_true rfl) (Nat.le_of_ble_eq_true rfl) (Nat.le_of_ble_eq_true rfl) (Nat.le_of_ble_eq_true rfl) (Nat.le_of_ble_eq_true rfl) (fun w1 hw1 => ?_)
  obtain ⟨g124, rfl⟩ := hw1
  refine ax_w ([(h, .inr (2, [.ref q5, .ref q22, .int 0, .int 0, .null, .ref q28, .ref q42, .ref q58, .ref q67, .ref q76, .ref q85, .ref q94, .ref q103, .ref q112, .int 0, .null])), (q5, .inr (0, [.ref (g12 0), .int 0])), ((g12 0), .inl (kA 0, 128, .inl (fun _ => 0))), (q22, .inl (kA 0, 300, .inl (fun _ => 0))), (q28, .inr (0, [.ref (g35 0), .int 0])), ((g35 0), .inl (kA 0, 256, .inl (fun _ => 0))), (q42, .inr (0, [.ref (g48 0), .int 0])), ((g48 0), .inl (kA 0, 64, .inl (fun _ => 0))), (q58, .inl (kA 0, 300, .inl (fun _ => 0))), (q67, .inl (kA 0, 300, .inl (fun _ => 0))), (q76, .inl (kA 0, 300, .inl (fun _ => 0))), (q85, .inl (kA 0, 300, .inl (fun _ => 0))), (q94, .inl (kA 0, 300, .inl (fun _ => 0))), (q103, .inl (kA 1, 300, .inl (fun _ => 0))), (q112, .inl (kA 0, 300, .inl (fun _ => 0))), (q118, .inr (0, [.ref (g124 0), .int 0])), ((g124 0), .inl (kA 0, 64, .inl (fun _ => 0)))]) rfl ?_
  refine ax_putF (pc := 127) C k_For 15 lk_For_52 d_For_init_127 (Nat.le_of_ble_eq_true rfl) 0 rfl rfl hnm rfl rfl rfl (Nat.le_of_ble_eq_true rfl) ?_
  refine ax_w ([(h, .inr (2, [.ref q5, .ref q22, .int 0, .int 0, .null, .ref q28, .ref q42, .ref q58, .ref q67, .ref q76, .ref q85, .ref q94, .ref q103, .ref q112, .int 0, .ref q118])), (q5, .inr (0, [.ref (g12 0), .int 0])), ((g12 0), .inl (kA 0, 128, .inl (fun _ => 0))), (q22, .inl (kA 0, 300, .inl (fun _ => 0))), (q28, .inr (0, [.ref (g35 0), .int 0])), ((g35 0), .inl (kA 0, 256, .inl (fun _ => 0))), (q42, .inr (0, [.ref (g48 0), .int 0])), ((g48 0), .inl (kA 0, 64, .inl (fun _ => 0))), (q58, .inl (kA 0, 300, .inl (fun _ => 0))), (q67, .inl (kA 0, 300, .inl (fun _ => 0))), (q76, .inl (kA 0, 300, .inl (fun _ => 0))), (q85, .inl (kA 0, 300, .inl (fun _ => 0))), (q94, .inl (kA 0, 300, .inl (fun _ => 0))), (q103, .inl (kA 1, 300, .inl (fun _ => 0))), (q112, .inl (kA 0, 300, .inl (fun _ => 0))), (q118, .inr (0, [.ref (g124 0), .int 0])), ((g124 0), .inl (kA 0, 64, .inl (fun _ => 0)))]) rfl ?_
  refine ax_aload_n (pc := 130) C d_For_init_130 rfl 0 rfl ?_
  refine ax_aload_n (pc := 131) C d_For_init_131 rfl 1 rfl ?_
  refine ax_putF (pc := 132) C k_For 4 lk_For_55 d_For_init_132 (Nat.le_of_ble_eq_true rfl) 0 rfl rfl hnm rfl rfl rfl (Nat.le_of_ble_eq_true rfl) ?_
  refine ax_w ([(h, .inr (2, [.ref q5, .ref q22, .int 0, .int 0, .ref hs, .ref q28, .ref q42, .ref q58, .ref q67, .ref q76, .ref q85, .ref q94, .ref q103, .ref q112, .int 0, .ref q118])), (q5, .inr (0, [.ref (g12 0), .int 0])), ((g12 0), .inl (kA 0, 128, .inl (fun _ => 0))), (q22, .inl (kA 0, 300, .inl (fun _ => 0))), (q28, .inr (0, [.ref (g35 0), .int 0])), ((g35 0), .inl (kA 0, 256, .inl (fun _ => 0))), (q42, .inr (0, [.ref (g48 0), .int 0])), ((g48 0), .inl (kA 0, 64, .inl (fun _ => 0))), (q58, .inl (kA 0, 300, .inl (fun _ => 0))), (q67, .inl (kA 0, 300, .inl (fun _ => 0))), (q76, .inl (kA 0, 300, .inl (fun _ => 0))), (q85, .inl (kA 0, 300, .inl (fun _ => 0))), (q94, .inl (kA 0, 300, .inl (fun _ => 0))), (q103, .inl (kA 1, 300, .inl (fun _ => 0))), (q112, .inl (kA 0, 300, .inl (fun _ => 0))), (q118, .inr (0, [.ref (g124 0), .int 0])), ((g124 0), .inl (kA 0, 64, .inl (fun _ => 0)))]) rfl ?_
  exact ax_vret (pc := 135) C d_For_init_135 ⟨fun i => [q5, (g12 0), q22, q28, (g35 0), q42, (g48 0), q58, q67, q76, q85, q94, q103, q112, q118, (g124 0)].getD i 0, rfl⟩ (by simp) (by simp)
abbrev b_Par_init : ByteArray := prog_6_method_1_code
def y_Par_init : MethodName := ⟨"ClauseProver$Parser", "<init>", "(LClauseProver$Symbols;LClauseProver$Formulas;)V"⟩
theorem d_Par_init_0 : decode b_Par_init 0 = .ok (.aload_n 0, 1) := by decide +kernel
theorem d_Par_init_1 : decode b_Par_init 1 = .ok (.invokespecial 3, 3) := by decide +kernel
theorem d_Par_init_4 : decode b_Par_init 4 = .ok (.aload_n 0, 1) := by decide +kernel
theorem d_Par_init_5 : decode b_Par_init 5 = .ok (.new 9, 3) := by decide +kernel
theorem d_Par_init_8 : decode b_Par_init 8 = .ok (.dup, 1) := by decide +kernel
theorem d_Par_init_9 : decode b_Par_init 9 = .ok (.invokespecial 11, 3) := by decide +kernel
theorem d_Par_init_12 : decode b_Par_init 12 = .ok (.putfield 12, 3) := by decide +kernel
theorem d_Par_init_15 : decode b_Par_init 15 = .ok (.aload_n 0, 1) := by decide +kernel
theorem d_Par_init_16 : decode b_Par_init 16 = .ok (.new 18, 3) := by decide +kernel
theorem d_Par_init_19 : decode b_Par_init 19 = .ok (.dup, 1) := by decide +kernel
theorem d_Par_init_20 : decode b_Par_init 20 = .ok (.bipush 64, 2) := by decide +kernel
theorem d_Par_init_22 : decode b_Par_init 22 = .ok (.invokespecial 20, 3) := by decide +kernel
theorem d_Par_init_25 : decode b_Par_init 25 = .ok (.putfield 23, 3) := by decide +kernel
theorem d_Par_init_28 : decode b_Par_init 28 = .ok (.aload_n 0, 1) := by decide +kernel
theorem d_Par_init_29 : decode b_Par_init 29 = .ok (.new 18, 3) := by decide +kernel
theorem d_Par_init_32 : decode b_Par_init 32 = .ok (.dup, 1) := by decide +kernel
theorem d_Par_init_33 : decode b_Par_init 33 = .ok (.bipush 64, 2) := by decide +kernel
theorem d_Par_init_35 : decode b_Par_init 35 = .ok (.invokespecial 20, 3) := by decide +kernel
theorem d_Par_init_38 : decode b_Par_init 38 = .ok (.putfield 27, 3) := by decide +kernel
theorem d_Par_init_41 : decode b_Par_init 41 = .ok (.aload_n 0, 1) := by decide +kernel
theorem d_Par_init_42 : decode b_Par_init 42 = .ok (.new 18, 3) := by decide +kernel
theorem d_Par_init_45 : decode b_Par_init 45 = .ok (.dup, 1) := by decide +kernel
theorem d_Par_init_46 : decode b_Par_init 46 = .ok (.bipush 64, 2) := by decide +kernel
theorem d_Par_init_48 : decode b_Par_init 48 = .ok (.invokespecial 20, 3) := by decide +kernel
theorem d_Par_init_51 : decode b_Par_init 51 = .ok (.putfield 30, 3) := by decide +kernel
theorem d_Par_init_54 : decode b_Par_init 54 = .ok (.aload_n 0, 1) := by decide +kernel
theorem d_Par_init_55 : decode b_Par_init 55 = .ok (.aload_n 1, 1) := by decide +kernel
theorem d_Par_init_56 : decode b_Par_init 56 = .ok (.putfield 33, 3) := by decide +kernel
theorem d_Par_init_59 : decode b_Par_init 59 = .ok (.aload_n 0, 1) := by decide +kernel
theorem d_Par_init_60 : decode b_Par_init 60 = .ok (.aload_n 2, 1) := by decide +kernel
theorem d_Par_init_61 : decode b_Par_init 61 = .ok (.putfield 37, 3) := by decide +kernel
theorem d_Par_init_64 : decode b_Par_init 64 = .ok (.return_, 1) := by decide +kernel
theorem tb_methodLink_179 : Cond.methodLink "ClauseProver$Parser" 3 ⟨"java/lang/Object", "<init>", "()V"⟩ ∈ lw_tbg := tb_in (i := 179) (by decide +kernel) rfl
theorem tb_classLink_180 : Cond.classLink "ClauseProver$Parser" 9 "ClauseProver$Words" ∈ lw_tbg := tb_in (i := 180) (by decide +kernel) rfl
theorem tb_instantiable_181 : Cond.instantiable "ClauseProver$Words" 8 ∈ lw_tbg := tb_in (i := 181) (by decide +kernel) rfl
theorem tb_initialized_6 : Cond.initialized "ClauseProver$Words" ∈ lw_tbg := tb_in (i := 6) (by decide +kernel) rfl
theorem tc_Wds_init : Cond.code y_Wds_init b_Wds_init 1 none ∈ lw_tbg := tb_in (i := 184) (by decide +kernel) rfl
theorem ti_Wds : Cond.initialized "ClauseProver$Words" ∈ lw_tbg := tb_in (i := 6) (by decide +kernel) rfl
theorem ml_Par_11 : ax_LIN "ClauseProver$Parser" 11 "ClauseProver" y_Wds_init b_Wds_init 1 0 := ax_LIN.mk (fun U h => h.1.1) (tb_in (i := 183) (by decide +kernel) rfl) ti_Wds tc_Wds_init rfl (by decide +kernel)
theorem lk_Par_12 : Cond.fieldLink "ClauseProver$Parser" 12 (F_Par 2).1 (F_Par 2).2.1 (F_Par 2).2.2.1 ∈ lw_tbg := tb_in (i := 226) (by decide +kernel) rfl
theorem tb_classLink_220 : Cond.classLink "ClauseProver$Parser" 18 "ClauseProver$Row" ∈ lw_tbg := tb_in (i := 220) (by decide +kernel) rfl
theorem ml_Par_20 : ax_LI "ClauseProver$Parser" 20 y_Row_init b_Row_init 2 1 := ax_LI.mk (tb_in (i := 221) (by decide +kernel) rfl) (tb_in (i := 42) (by decide +kernel) rfl) ti_Row tc_Row_init rfl (by decide +kernel)
theorem lk_Par_23 : Cond.fieldLink "ClauseProver$Parser" 23 (F_Par 5).1 (F_Par 5).2.1 (F_Par 5).2.2.1 ∈ lw_tbg := tb_in (i := 229) (by decide +kernel) rfl
theorem lk_Par_27 : Cond.fieldLink "ClauseProver$Parser" 27 (F_Par 6).1 (F_Par 6).2.1 (F_Par 6).2.2.1 ∈ lw_tbg := tb_in (i := 230) (by decide +kernel) rfl
theorem lk_Par_30 : Cond.fieldLink "ClauseProver$Parser" 30 (F_Par 7).1 (F_Par 7).2.1 (F_Par 7).2.2.1 ∈ lw_tbg := tb_in (i := 231) (by decide +kernel) rfl
theorem lk_Par_33 : Cond.fieldLink "ClauseProver$Parser" 33 (F_Par 3).1 (F_Par 3).2.1 (F_Par 3).2.2.1 ∈ lw_tbg := tb_in (i := 227) (by decide +kernel) rfl
theorem lk_Par_37 : Cond.fieldLink "ClauseProver$Parser" 37 (F_Par 4).1 (F_Par 4).2.1 (F_Par 4).2.2.1 ∈ lw_tbg := tb_in (i := 228) (by decide +kernel) rfl
set_option maxHeartbeats 4000000 in
set_option maxRecDepth 100000 in
theorem c_Par_init (l : Launch) (D : va_G) (kA : Nat → ClassId) (h : Nat) (hs : Nat) (hf : Nat) : ax_Mv l D kA y_Par_init b_Par_init 3 2 41 7 206 [.ref h, .ref hs, .ref hf] [(h, .inr (4, [.int 0, .int 0, .null, .null, .null, .null, .null, .null, .int 0]))] (fun w1 => ∃ q : Nat → Nat, w1 = [(h, .inr (4, [.int 0, .int 0, .ref (q 0), .ref hs, .ref hf, .ref (q 1), .ref (q 3), .ref (q 5), .int 0])), ((q 0), .inr (3, [.null, .int 0, .int 0, .int 0, .int 0, .int 0, .int 0, .int 0])), ((q 1), .inr (0, [.ref (q 2), .int 0])), ((q 2), .inl (kA 0, 64, .inl (fun _ => 0))), ((q 3), .inr (0, [.ref (q 4), .int 0])), ((q 4), .inl (kA 0, 64, .inl (fun _ => 0))), ((q 5), .inr (0, [.ref (q 6), .int 0])), ((q 6), .inl (kA 0, 64, .inl (fun _ => 0)))]) := by
  refine ax_Mv.of (by decide +kernel) (Nat.le_of_ble_eq_true rfl) ?_
  intro p e s m args below meth c C hnm
  have hnm : meth.name = "<init>" := hnm
  refine ax_ls ([(0, .ref h), (1, .ref hs), (2, .ref hf)]) [0, 1, 2] rfl ?_
  refine ax_aload_n (pc := 0) C d_Par_init_0 rfl 0 rfl ?_
  refine ax_objInit (pc := 1) C tb_methodLink_179 tb_instanceMethod_37 tb_codeObj d_Par_init_1 (Nat.le_of_ble_eq_true rfl) (Nat.le_of_ble_eq_true rfl) (Nat.le_of_ble_eq_true rfl) ?_
  refine ax_aload_n (pc := 4) C d_Par_init_4 rfl 0 rfl ?_
  refine ax_new (pc := 5) C k_Wds tb_classLink_180 tb_instantiable_181 tb_initialized_6 (Nat.le_of_ble_eq_true rfl) (Nat.le_of_ble_eq_true rfl) d_Par_init_5 (fun q5 => ?_)
  refine ax_w ([(h, .inr (4, [.int 0, .int 0, .null, .null, .null, .null, .null, .null, .int 0])), (q5, .inr (3, [.null, .int 0, .int 0, .int 0, .int 0, .int 0, .int 0, .int 0]))]) rfl ?_
  refine ax_dup (pc := 8) C d_Par_init_8 rfl ?_
  refine ax_callINv (pc := 9) C (As := []) (rest := [.ref q5, .ref h]) (wr := [(h, .inr (4, [.int 0, .int 0, .null, .null, .null, .null, .null, .null, .int 0]))]) (c_Wds_init l D kA q5) ml_Par_11 d_Par_init_9 rfl rfl [1] [0] rfl (by decide) rfl (by decide) (by decide) (Nat.le_of_ble_eq_true rfl) (Nat.le_of_ble_eq_true rfl) (Nat.le_of_ble_eq_true rfl) (Nat.le_of_ble_eq_true rfl) (Nat.le_of_ble_eq_true rfl) (fun w1 hw1 => ?_)
  obtain ⟨g9, rfl⟩ := hw1
  refine ax_w ([(h, .inr (4, [.int 0, .int 0, .null, .null, .null, .null, .null, .null, .int 0])), (q5, .inr (3, [.null, .int 0, .int 0, .int 0, .int 0, .int 0, .int 0, .int 0]))]) rfl ?_
  refine ax_putF (pc := 12) C k_Par 2 lk_Par_12 d_Par_init_12 (Nat.le_of_ble_eq_true rfl) 0 rfl rfl hnm rfl rfl rfl (Nat.le_of_ble_eq_true rfl) ?_
  refine ax_w ([(h, .inr (4, [.int 0, .int 0, .ref q5, .null, .null, .null, .null, .null, .int 0])), (q5, .inr (3, [.null, .int 0, .int 0, .int 0, .int 0, .int 0, .int 0, .int 0]))]) rfl ?_
  refine ax_aload_n (pc := 15) C d_Par_init_15 rfl 0 rfl ?_
  refine ax_new (pc := 16) C k_Row tb_classLink_220 tb_instantiable_40 tb_initialized_2 (Nat.le_of_ble_eq_true rfl) (Nat.le_of_ble_eq_true rfl) d_Par_init_16 (fun q16 => ?_)
  refine ax_w ([(h, .inr (4, [.int 0, .int 0, .ref q5, .null, .null, .null, .null, .null, .int 0])), (q5, .inr (3, [.null, .int 0, .int 0, .int 0, .int 0, .int 0, .int 0, .int 0])), (q16, .inr (0, [.null, .int 0]))]) rfl ?_
  refine ax_dup (pc := 19) C d_Par_init_19 rfl ?_
  refine ax_bipush (pc := 20) C 64 d_Par_init_20 (by decide +kernel) ?_
  refine ax_callIv (pc := 22) C (As := [.int 64]) (rest := [.ref q16, .ref h]) (wr := [(h, .inr (4, [.int 0, .int 0, .ref q5, .null, .null, .null, .null, .null, .int 0])), (q5, .inr (3, [.null, .int 0, .int 0, .int 0, .int 0, .int 0, .int 0, .int 0]))]) (c_Row_init l D kA q16 64 64 (by decide) (by decide) (by decide)) ml_Par_20 d_Par_init_22 rfl rfl [2] [0, 1] rfl (by decide) rfl (by decide) (by decide) (Nat.le_of_ble_eq_true rfl) (Nat.le_of_ble_eq_true rfl) (Nat.le_of_ble_eq_true rfl) (Nat.le_of_ble_eq_true rfl) (Nat.le_of_ble_eq_true rfl) (fun w1 hw1 => ?_)
  obtain ⟨g22, rfl⟩ := hw1
  refine ax_w ([(h, .inr (4, [.int 0, .int 0, .ref q5, .null, .null, .null, .null, .null, .int 0])), (q5, .inr (3, [.null, .int 0, .int 0, .int 0, .int 0, .int 0, .int 0, .int 0])), (q16, .inr (0, [.ref (g22 0), .int 0])), ((g22 0), .inl (kA 0, 64, .inl (fun _ => 0)))]) rfl ?_
  refine ax_putF (pc := 25) C k_Par 5 lk_Par_23 d_Par_init_25 (Nat.le_of_ble_eq_true rfl) 0 rfl rfl hnm rfl rfl rfl (Nat.le_of_ble_eq_true rfl) ?_
  refine ax_w ([(h, .inr (4, [.int 0, .int 0, .ref q5, .null, .null, .ref q16, .null, .null, .int 0])), (q5, .inr (3, [.null, .int 0, .int 0, .int 0, .int 0, .int 0, .int 0, .int 0])), (q16, .inr (0, [.ref (g22 0), .int 0])), ((g22 0), .inl (kA 0, 64, .inl (fun _ => 0)))]) rfl ?_
  refine ax_aload_n (pc := 28) C d_Par_init_28 rfl 0 rfl ?_
  refine ax_new (pc := 29) C k_Row tb_classLink_220 tb_instantiable_40 tb_initialized_2 (Nat.le_of_ble_eq_true rfl) (Nat.le_of_ble_eq_true rfl) d_Par_init_29 (fun q29 => ?_)
  refine ax_w ([(h, .inr (4, [.int 0, .int 0, .ref q5, .null, .null, .ref q16, .null, .null, .int 0])), (q5, .inr (3, [.null, .int 0, .int 0, .int 0, .int 0, .int 0, .int 0, .int 0])), (q16, .inr (0, [.ref (g22 0), .int 0])), ((g22 0), .inl (kA 0, 64, .inl (fun _ => 0))), (q29, .inr (0, [.null, .int 0]))]) rfl ?_
  refine ax_dup (pc := 32) C d_Par_init_32 rfl ?_
  refine ax_bipush (pc := 33) C 64 d_Par_init_33 (by decide +kernel) ?_
  refine ax_callIv (pc := 35) C (As := [.int 64]) (rest := [.ref q29, .ref h]) (wr := [(h, .inr (4, [.int 0, .int 0, .ref q5, .null, .null, .ref q16, .null, .null, .int 0])), (q5, .inr (3, [.null, .int 0, .int 0, .int 0, .int 0, .int 0, .int 0, .int 0])), (q16, .inr (0, [.ref (g22 0), .int 0])), ((g22 0), .inl (kA 0, 64, .inl (fun _ => 0)))]) (c_Row_init l D kA q29 64 64 (by decide) (by decide) (by decide)) ml_Par_20 d_Par_init_35 rfl rfl [4] [0, 1, 2, 3] rfl (by decide) rfl (by decide) (by decide) (Nat.le_of_ble_eq_true rfl) (Nat.le_of_ble_eq_true rfl) (Nat.le_of_ble_eq_true rfl) (Nat.le_of_ble_eq_true rfl) (Nat.le_of_ble_eq_true rfl) (fun w1 hw1 => ?_)
  obtain ⟨g35, rfl⟩ := hw1
  refine ax_w ([(h, .inr (4, [.int 0, .int 0, .ref q5, .null, .null, .ref q16, .null, .null, .int 0])), (q5, .inr (3, [.null, .int 0, .int 0, .int 0, .int 0, .int 0, .int 0, .int 0])), (q16, .inr (0, [.ref (g22 0), .int 0])), ((g22 0), .inl (kA 0, 64, .inl (fun _ => 0))), (q29, .inr (0, [.ref (g35 0), .int 0])), ((g35 0), .inl (kA 0, 64, .inl (fun _ => 0)))]) rfl ?_
  refine ax_putF (pc := 38) C k_Par 6 lk_Par_27 d_Par_init_38 (Nat.le_of_ble_eq_true rfl) 0 rfl rfl hnm rfl rfl rfl (Nat.le_of_ble_eq_true rfl) ?_
  refine ax_w ([(h, .inr (4, [.int 0, .int 0, .ref q5, .null, .null, .ref q16, .ref q29, .null, .int 0])), (q5, .inr (3, [.null, .int 0, .int 0, .int 0, .int 0, .int 0, .int 0, .int 0])), (q16, .inr (0, [.ref (g22 0), .int 0])), ((g22 0), .inl (kA 0, 64, .inl (fun _ => 0))), (q29, .inr (0, [.ref (g35 0), .int 0])), ((g35 0), .inl (kA 0, 64, .inl (fun _ => 0)))]) rfl ?_
  refine ax_aload_n (pc := 41) C d_Par_init_41 rfl 0 rfl ?_
  refine ax_new (pc := 42) C k_Row tb_classLink_220 tb_instantiable_40 tb_initialized_2 (Nat.le_of_ble_eq_true rfl) (Nat.le_of_ble_eq_true rfl) d_Par_init_42 (fun q42 => ?_)
  refine ax_w ([(h, .inr (4, [.int 0, .int 0, .ref q5, .null, .null, .ref q16, .ref q29, .null, .int 0])), (q5, .inr (3, [.null, .int 0, .int 0, .int 0, .int 0, .int 0, .int 0, .int 0])), (q16, .inr (0, [.ref (g22 0), .int 0])), ((g22 0), .inl (kA 0, 64, .inl (fun _ => 0))), (q29, .inr (0, [.ref (g35 0), .int 0])), ((g35 0), .inl (kA 0, 64, .inl (fun _ => 0))), (q42, .inr (0, [.null, .int 0]))]) rfl ?_
  refine ax_dup (pc := 45) C d_Par_init_45 rfl ?_
  refine ax_bipush (pc := 46) C 64 d_Par_init_46 (by decide +kernel) ?_
  refine ax_callIv (pc := 48) C (As := [.int 64]) (rest := [.ref q42, .ref h]) (wr := [(h, .inr (4, [.int 0, .int 0, .ref q5, .null, .null, .ref q16, .ref q29, .null, .int 0])), (q5, .inr (3, [.null, .int 0, .int 0, .int 0, .int 0, .int 0, .int 0, .int 0])), (q16, .inr (0, [.ref (g22 0), .int 0])), ((g22 0), .inl (kA 0, 64, .inl (fun _ => 0))), (q29, .inr (0, [.ref (g35 0), .int 0])), ((g35 0), .inl (kA 0, 64, .inl (fun _ => 0)))]) (c_Row_init l D kA q42 64 64 (by decide) (by decide) (by decide)) ml_Par_20 d_Par_init_48 rfl rfl [6] [0, 1, 2, 3, 4, 5] rfl (by decide) rfl (by decide) (by decide) (Nat.le_of_ble_eq_true rfl) (Nat.le_of_ble_eq_true rfl) (Nat.le_of_ble_eq_true rfl) (Nat.le_of_ble_eq_true rfl) (Nat.le_of_ble_eq_true rfl) (fun w1 hw1 => ?_)
  obtain ⟨g48, rfl⟩ := hw1
  refine ax_w ([(h, .inr (4, [.int 0, .int 0, .ref q5, .null, .null, .ref q16, .ref q29, .null, .int 0])), (q5, .inr (3, [.null, .int 0, .int 0, .int 0, .int 0, .int 0, .int 0, .int 0])), (q16, .inr (0, [.ref (g22 0), .int 0])), ((g22 0), .inl (kA 0, 64, .inl (fun _ => 0))), (q29, .inr (0, [.ref (g35 0), .int 0])), ((g35 0), .inl (kA 0, 64, .inl (fun _ => 0))), (q42, .inr (0, [.ref (g48 0), .int 0])), ((g48 0), .inl (kA 0, 64, .inl (fun _ => 0)))]) rfl ?_
  refine ax_putF (pc := 51) C k_Par 7 lk_Par_30 d_Par_init_51 (Nat.le_of_ble_eq_true rfl) 0 rfl rfl hnm rfl rfl rfl (Nat.le_of_ble_eq_true rfl) ?_
  refine ax_w ([(h, .inr (4, [.int 0, .int 0, .ref q5, .null, .null, .ref q16, .ref q29, .ref q42, .int 0])), (q5, .inr (3, [.null, .int 0, .int 0, .int 0, .int 0, .int 0, .int 0, .int 0])), (q16, .inr (0, [.ref (g22 0), .int 0])), ((g22 0), .inl (kA 0, 64, .inl (fun _ => 0))), (q29, .inr (0, [.ref (g35 0), .int 0])), ((g35 0), .inl (kA 0, 64, .inl (fun _ => 0))), (q42, .inr (0, [.ref (g48 0), .int 0])), ((g48 0), .inl (kA 0, 64, .inl (fun _ => 0)))]) rfl ?_
  refine ax_aload_n (pc := 54) C d_Par_init_54 rfl 0 rfl ?_
  refine ax_aload_n (pc := 55) C d_Par_init_55 rfl 1 rfl ?_
  refine ax_putF (pc := 56) C k_Par 3 lk_Par_33 d_Par_init_56 (Nat.le_of_ble_eq_true rfl) 0 rfl rfl hnm rfl rfl rfl (Nat.le_of_ble_eq_true rfl) ?_
  refine ax_w ([(h, .inr (4, [.int 0, .int 0, .ref q5, .ref hs, .null, .ref q16, .ref q29, .ref q42, .int 0])), (q5, .inr (3, [.null, .int 0, .int 0, .int 0, .int 0, .int 0, .int 0, .int 0])), (q16, .inr (0, [.ref (g22 0), .int 0])), ((g22 0), .inl (kA 0, 64, .inl (fun _ => 0))), (q29, .inr (0, [.ref (g35 0), .int 0])), ((g35 0), .inl (kA 0, 64, .inl (fun _ => 0))), (q42, .inr (0, [.ref (g48 0), .int 0])), ((g48 0), .inl (kA 0, 64, .inl (fun _ => 0)))]) rfl ?_
  refine ax_aload_n (pc := 59) C d_Par_init_59 rfl 0 rfl ?_
  refine ax_aload_n (pc := 60) C d_Par_init_60 rfl 2 rfl ?_
  refine ax_putF (pc := 61) C k_Par 4 lk_Par_37 d_Par_init_61 (Nat.le_of_ble_eq_true rfl) 0 rfl rfl hnm rfl rfl rfl (Nat.le_of_ble_eq_true rfl) ?_
  refine ax_w ([(h, .inr (4, [.int 0, .int 0, .ref q5, .ref hs, .ref hf, .ref q16, .ref q29, .ref q42, .int 0])), (q5, .inr (3, [.null, .int 0, .int 0, .int 0, .int 0, .int 0, .int 0, .int 0])), (q16, .inr (0, [.ref (g22 0), .int 0])), ((g22 0), .inl (kA 0, 64, .inl (fun _ => 0))), (q29, .inr (0, [.ref (g35 0), .int 0])), ((g35 0), .inl (kA 0, 64, .inl (fun _ => 0))), (q42, .inr (0, [.ref (g48 0), .int 0])), ((g48 0), .inl (kA 0, 64, .inl (fun _ => 0)))]) rfl ?_
  exact ax_vret (pc := 64) C d_Par_init_64 ⟨fun i => [q5, q16, (g22 0), q29, (g35 0), q42, (g48 0)].getD i 0, rfl⟩ (by simp) (by simp)
abbrev b_Sto_init : ByteArray := prog_9_method_1_code
def y_Sto_init : MethodName := ⟨"ClauseProver$Store", "<init>", "(LClauseProver$Symbols;)V"⟩
theorem d_Sto_init_0 : decode b_Sto_init 0 = .ok (.aload_n 0, 1) := by decide +kernel
theorem d_Sto_init_1 : decode b_Sto_init 1 = .ok (.invokespecial 3, 3) := by decide +kernel
theorem d_Sto_init_4 : decode b_Sto_init 4 = .ok (.aload_n 0, 1) := by decide +kernel
theorem d_Sto_init_5 : decode b_Sto_init 5 = .ok (.new 9, 3) := by decide +kernel
theorem d_Sto_init_8 : decode b_Sto_init 8 = .ok (.dup, 1) := by decide +kernel
theorem d_Sto_init_9 : decode b_Sto_init 9 = .ok (.sipush 512, 3) := by decide +kernel
theorem d_Sto_init_12 : decode b_Sto_init 12 = .ok (.invokespecial 11, 3) := by decide +kernel
theorem d_Sto_init_15 : decode b_Sto_init 15 = .ok (.putfield 14, 3) := by decide +kernel
theorem d_Sto_init_18 : decode b_Sto_init 18 = .ok (.aload_n 0, 1) := by decide +kernel
theorem d_Sto_init_19 : decode b_Sto_init 19 = .ok (.new 9, 3) := by decide +kernel
theorem d_Sto_init_22 : decode b_Sto_init 22 = .ok (.dup, 1) := by decide +kernel
theorem d_Sto_init_23 : decode b_Sto_init 23 = .ok (.bipush 16, 2) := by decide +kernel
theorem d_Sto_init_25 : decode b_Sto_init 25 = .ok (.invokespecial 11, 3) := by decide +kernel
theorem d_Sto_init_28 : decode b_Sto_init 28 = .ok (.putfield 20, 3) := by decide +kernel
theorem d_Sto_init_31 : decode b_Sto_init 31 = .ok (.aload_n 0, 1) := by decide +kernel
theorem d_Sto_init_32 : decode b_Sto_init 32 = .ok (.new 9, 3) := by decide +kernel
theorem d_Sto_init_35 : decode b_Sto_init 35 = .ok (.dup, 1) := by decide +kernel
theorem d_Sto_init_36 : decode b_Sto_init 36 = .ok (.sipush 256, 3) := by decide +kernel
theorem d_Sto_init_39 : decode b_Sto_init 39 = .ok (.invokespecial 11, 3) := by decide +kernel
theorem d_Sto_init_42 : decode b_Sto_init 42 = .ok (.putfield 23, 3) := by decide +kernel
theorem d_Sto_init_45 : decode b_Sto_init 45 = .ok (.aload_n 0, 1) := by decide +kernel
theorem d_Sto_init_46 : decode b_Sto_init 46 = .ok (.aload_n 1, 1) := by decide +kernel
theorem d_Sto_init_47 : decode b_Sto_init 47 = .ok (.putfield 26, 3) := by decide +kernel
theorem d_Sto_init_50 : decode b_Sto_init 50 = .ok (.return_, 1) := by decide +kernel
theorem tb_methodLink_318 : Cond.methodLink "ClauseProver$Store" 3 ⟨"java/lang/Object", "<init>", "()V"⟩ ∈ lw_tbg := tb_in (i := 318) (by decide +kernel) rfl
theorem tb_classLink_319 : Cond.classLink "ClauseProver$Store" 9 "ClauseProver$Row" ∈ lw_tbg := tb_in (i := 319) (by decide +kernel) rfl
theorem ml_Sto_11 : ax_LI "ClauseProver$Store" 11 y_Row_init b_Row_init 2 1 := ax_LI.mk (tb_in (i := 320) (by decide +kernel) rfl) (tb_in (i := 42) (by decide +kernel) rfl) ti_Row tc_Row_init rfl (by decide +kernel)
theorem lk_Sto_14 : Cond.fieldLink "ClauseProver$Store" 14 (F_Sto 0).1 (F_Sto 0).2.1 (F_Sto 0).2.2.1 ∈ lw_tbg := tb_in (i := 321) (by decide +kernel) rfl
theorem lk_Sto_20 : Cond.fieldLink "ClauseProver$Store" 20 (F_Sto 1).1 (F_Sto 1).2.1 (F_Sto 1).2.2.1 ∈ lw_tbg := tb_in (i := 327) (by decide +kernel) rfl
theorem lk_Sto_23 : Cond.fieldLink "ClauseProver$Store" 23 (F_Sto 5).1 (F_Sto 5).2.1 (F_Sto 5).2.2.1 ∈ lw_tbg := tb_in (i := 337) (by decide +kernel) rfl
theorem lk_Sto_26 : Cond.fieldLink "ClauseProver$Store" 26 (F_Sto 4).1 (F_Sto 4).2.1 (F_Sto 4).2.2.1 ∈ lw_tbg := tb_in (i := 336) (by decide +kernel) rfl
set_option maxHeartbeats 4000000 in
set_option maxRecDepth 100000 in
theorem c_Sto_init (l : Launch) (D : va_G) (kA : Nat → ClassId) (h : Nat) (hs : Nat) : ax_Mv l D kA y_Sto_init b_Sto_init 2 2 41 6 790 [.ref h, .ref hs] [(h, .inr (6, [.null, .null, .int 0, .int 0, .null, .null]))] (fun w1 => ∃ q : Nat → Nat, w1 = [(h, .inr (6, [.ref (q 0), .ref (q 2), .int 0, .int 0, .ref hs, .ref (q 4)])), ((q 0), .inr (0, [.ref (q 1), .int 0])), ((q 1), .inl (kA 0, 512, .inl (fun _ => 0))), ((q 2), .inr (0, [.ref (q 3), .int 0])), ((q 3), .inl (kA 0, 16, .inl (fun _ => 0))), ((q 4), .inr (0, [.ref (q 5), .int 0])), ((q 5), .inl (kA 0, 256, .inl (fun _ => 0)))]) := by
  refine ax_Mv.of (by decide +kernel) (Nat.le_of_ble_eq_true rfl) ?_
  intro p e s m args below meth c C hnm
  have hnm : meth.name = "<init>" := hnm
  refine ax_ls ([(0, .ref h), (1, .ref hs)]) [0, 1] rfl ?_
  refine ax_aload_n (pc := 0) C d_Sto_init_0 rfl 0 rfl ?_
  refine ax_objInit (pc := 1) C tb_methodLink_318 tb_instanceMethod_37 tb_codeObj d_Sto_init_1 (Nat.le_of_ble_eq_true rfl) (Nat.le_of_ble_eq_true rfl) (Nat.le_of_ble_eq_true rfl) ?_
  refine ax_aload_n (pc := 4) C d_Sto_init_4 rfl 0 rfl ?_
  refine ax_new (pc := 5) C k_Row tb_classLink_319 tb_instantiable_40 tb_initialized_2 (Nat.le_of_ble_eq_true rfl) (Nat.le_of_ble_eq_true rfl) d_Sto_init_5 (fun q5 => ?_)
  refine ax_w ([(h, .inr (6, [.null, .null, .int 0, .int 0, .null, .null])), (q5, .inr (0, [.null, .int 0]))]) rfl ?_
  refine ax_dup (pc := 8) C d_Sto_init_8 rfl ?_
  refine ax_sipush (pc := 9) C 512 d_Sto_init_9 (by decide +kernel) ?_
  refine ax_callIv (pc := 12) C (As := [.int 512]) (rest := [.ref q5, .ref h]) (wr := [(h, .inr (6, [.null, .null, .int 0, .int 0, .null, .null]))]) (c_Row_init l D kA q5 512 512 (by decide) (by decide) (by decide)) ml_Sto_11 d_Sto_init_12 rfl rfl [1] [0] rfl (by decide) rfl (by decide) (by decide) (Nat.le_of_ble_eq_true rfl) (Nat.le_of_ble_eq_true rfl) (Nat.le_of_ble_eq_true rfl) (Nat.le_of_ble_eq_true rfl) (Nat.le_of_ble_eq_true rfl) (fun w1 hw1 => ?_)
  obtain ⟨g12, rfl⟩ := hw1
  refine ax_w ([(h, .inr (6, [.null, .null, .int 0, .int 0, .null, .null])), (q5, .inr (0, [.ref (g12 0), .int 0])), ((g12 0), .inl (kA 0, 512, .inl (fun _ => 0)))]) rfl ?_
  refine ax_putF (pc := 15) C k_Sto 0 lk_Sto_14 d_Sto_init_15 (Nat.le_of_ble_eq_true rfl) 0 rfl rfl hnm rfl rfl rfl (Nat.le_of_ble_eq_true rfl) ?_
  refine ax_w ([(h, .inr (6, [.ref q5, .null, .int 0, .int 0, .null, .null])), (q5, .inr (0, [.ref (g12 0), .int 0])), ((g12 0), .inl (kA 0, 512, .inl (fun _ => 0)))]) rfl ?_
  refine ax_aload_n (pc := 18) C d_Sto_init_18 rfl 0 rfl ?_
  refine ax_new (pc := 19) C k_Row tb_classLink_319 tb_instantiable_40 tb_initialized_2 (Nat.le_of_ble_eq_true rfl) (Nat.le_of_ble_eq_true rfl) d_Sto_init_19 (fun q19 => ?_)
  refine ax_w ([(h, .inr (6, [.ref q5, .null, .int 0, .int 0, .null, .null])), (q5, .inr (0, [.ref (g12 0), .int 0])), ((g12 0), .inl (kA 0, 512, .inl (fun _ => 0))), (q19, .inr (0, [.null, .int 0]))]) rfl ?_
  refine ax_dup (pc := 22) C d_Sto_init_22 rfl ?_
  refine ax_bipush (pc := 23) C 16 d_Sto_init_23 (by decide +kernel) ?_
  refine ax_callIv (pc := 25) C (As := [.int 16]) (rest := [.ref q19, .ref h]) (wr := [(h, .inr (6, [.ref q5, .null, .int 0, .int 0, .null, .null])), (q5, .inr (0, [.ref (g12 0), .int 0])), ((g12 0), .inl (kA 0, 512, .inl (fun _ => 0)))]) (c_Row_init l D kA q19 16 16 (by decide) (by decide) (by decide)) ml_Sto_11 d_Sto_init_25 rfl rfl [3] [0, 1, 2] rfl (by decide) rfl (by decide) (by decide) (Nat.le_of_ble_eq_true rfl) (Nat.le_of_ble_eq_true rfl) (Nat.le_of_ble_eq_true rfl) (Nat.le_of_ble_eq_true rfl) (Nat.le_of_ble_eq_true rfl) (fun w1 hw1 => ?_)
  obtain ⟨g25, rfl⟩ := hw1
  refine ax_w ([(h, .inr (6, [.ref q5, .null, .int 0, .int 0, .null, .null])), (q5, .inr (0, [.ref (g12 0), .int 0])), ((g12 0), .inl (kA 0, 512, .inl (fun _ => 0))), (q19, .inr (0, [.ref (g25 0), .int 0])), ((g25 0), .inl (kA 0, 16, .inl (fun _ => 0)))]) rfl ?_
  refine ax_putF (pc := 28) C k_Sto 1 lk_Sto_20 d_Sto_init_28 (Nat.le_of_ble_eq_true rfl) 0 rfl rfl hnm rfl rfl rfl (Nat.le_of_ble_eq_true rfl) ?_
  refine ax_w ([(h, .inr (6, [.ref q5, .ref q19, .int 0, .int 0, .null, .null])), (q5, .inr (0, [.ref (g12 0), .int 0])), ((g12 0), .inl (kA 0, 512, .inl (fun _ => 0))), (q19, .inr (0, [.ref (g25 0), .int 0])), ((g25 0), .inl (kA 0, 16, .inl (fun _ => 0)))]) rfl ?_
  refine ax_aload_n (pc := 31) C d_Sto_init_31 rfl 0 rfl ?_
  refine ax_new (pc := 32) C k_Row tb_classLink_319 tb_instantiable_40 tb_initialized_2 (Nat.le_of_ble_eq_true rfl) (Nat.le_of_ble_eq_true rfl) d_Sto_init_32 (fun q32 => ?_)
  refine ax_w ([(h, .inr (6, [.ref q5, .ref q19, .int 0, .int 0, .null, .null])), (q5, .inr (0, [.ref (g12 0), .int 0])), ((g12 0), .inl (kA 0, 512, .inl (fun _ => 0))), (q19, .inr (0, [.ref (g25 0), .int 0])), ((g25 0), .inl (kA 0, 16, .inl (fun _ => 0))), (q32, .inr (0, [.null, .int 0]))]) rfl ?_
  refine ax_dup (pc := 35) C d_Sto_init_35 rfl ?_
  refine ax_sipush (pc := 36) C 256 d_Sto_init_36 (by decide +kernel) ?_
  refine ax_callIv (pc := 39) C (As := [.int 256]) (rest := [.ref q32, .ref h]) (wr := [(h, .inr (6, [.ref q5, .ref q19, .int 0, .int 0, .null, .null])), (q5, .inr (0, [.ref (g12 0), .int 0])), ((g12 0), .inl (kA 0, 512, .inl (fun _ => 0))), (q19, .inr (0, [.ref (g25 0), .int 0])), ((g25 0), .inl (kA 0, 16, .inl (fun _ => 0)))]) (c_Row_init l D kA q32 256 256 (by decide) (by decide) (by decide)) ml_Sto_11 d_Sto_init_39 rfl rfl [5] [0, 1, 2, 3, 4] rfl (by decide) rfl (by decide) (by decide) (Nat.le_of_ble_eq_true rfl) (Nat.le_of_ble_eq_true rfl) (Nat.le_of_ble_eq_true rfl) (Nat.le_of_ble_eq_true rfl) (Nat.le_of_ble_eq_true rfl) (fun w1 hw1 => ?_)
  obtain ⟨g39, rfl⟩ := hw1
  refine ax_w ([(h, .inr (6, [.ref q5, .ref q19, .int 0, .int 0, .null, .null])), (q5, .inr (0, [.ref (g12 0), .int 0])), ((g12 0), .inl (kA 0, 512, .inl (fun _ => 0))), (q19, .inr (0, [.ref (g25 0), .int 0])), ((g25 0), .inl (kA 0, 16, .inl (fun _ => 0))), (q32, .inr (0, [.ref (g39 0), .int 0])), ((g39 0), .inl (kA 0, 256, .inl (fun _ => 0)))]) rfl ?_
  refine ax_putF (pc := 42) C k_Sto 5 lk_Sto_23 d_Sto_init_42 (Nat.le_of_ble_eq_true rfl) 0 rfl rfl hnm rfl rfl rfl (Nat.le_of_ble_eq_true rfl) ?_
  refine ax_w ([(h, .inr (6, [.ref q5, .ref q19, .int 0, .int 0, .null, .ref q32])), (q5, .inr (0, [.ref (g12 0), .int 0])), ((g12 0), .inl (kA 0, 512, .inl (fun _ => 0))), (q19, .inr (0, [.ref (g25 0), .int 0])), ((g25 0), .inl (kA 0, 16, .inl (fun _ => 0))), (q32, .inr (0, [.ref (g39 0), .int 0])), ((g39 0), .inl (kA 0, 256, .inl (fun _ => 0)))]) rfl ?_
  refine ax_aload_n (pc := 45) C d_Sto_init_45 rfl 0 rfl ?_
  refine ax_aload_n (pc := 46) C d_Sto_init_46 rfl 1 rfl ?_
  refine ax_putF (pc := 47) C k_Sto 4 lk_Sto_26 d_Sto_init_47 (Nat.le_of_ble_eq_true rfl) 0 rfl rfl hnm rfl rfl rfl (Nat.le_of_ble_eq_true rfl) ?_
  refine ax_w ([(h, .inr (6, [.ref q5, .ref q19, .int 0, .int 0, .ref hs, .ref q32])), (q5, .inr (0, [.ref (g12 0), .int 0])), ((g12 0), .inl (kA 0, 512, .inl (fun _ => 0))), (q19, .inr (0, [.ref (g25 0), .int 0])), ((g25 0), .inl (kA 0, 16, .inl (fun _ => 0))), (q32, .inr (0, [.ref (g39 0), .int 0])), ((g39 0), .inl (kA 0, 256, .inl (fun _ => 0)))]) rfl ?_
  exact ax_vret (pc := 50) C d_Sto_init_50 ⟨fun i => [q5, (g12 0), q19, (g25 0), q32, (g39 0)].getD i 0, rfl⟩ (by simp) (by simp)
abbrev b_Uni_init : ByteArray := prog_11_method_1_code
def y_Uni_init : MethodName := ⟨"ClauseProver$Unifier", "<init>", "(LClauseProver$Symbols;LClauseProver$Row;)V"⟩
theorem d_Uni_init_0 : decode b_Uni_init 0 = .ok (.aload_n 0, 1) := by decide +kernel
theorem d_Uni_init_1 : decode b_Uni_init 1 = .ok (.invokespecial 7, 3) := by decide +kernel
theorem d_Uni_init_4 : decode b_Uni_init 4 = .ok (.aload_n 0, 1) := by decide +kernel
theorem d_Uni_init_5 : decode b_Uni_init 5 = .ok (.bipush 12, 2) := by decide +kernel
theorem d_Uni_init_7 : decode b_Uni_init 7 = .ok (.newarray .int, 2) := by decide +kernel
theorem d_Uni_init_9 : decode b_Uni_init 9 = .ok (.putfield 13, 3) := by decide +kernel
theorem d_Uni_init_12 : decode b_Uni_init 12 = .ok (.aload_n 0, 1) := by decide +kernel
theorem d_Uni_init_13 : decode b_Uni_init 13 = .ok (.bipush 12, 2) := by decide +kernel
theorem d_Uni_init_15 : decode b_Uni_init 15 = .ok (.newarray .int, 2) := by decide +kernel
theorem d_Uni_init_17 : decode b_Uni_init 17 = .ok (.putfield 17, 3) := by decide +kernel
theorem d_Uni_init_20 : decode b_Uni_init 20 = .ok (.aload_n 0, 1) := by decide +kernel
theorem d_Uni_init_21 : decode b_Uni_init 21 = .ok (.bipush 12, 2) := by decide +kernel
theorem d_Uni_init_23 : decode b_Uni_init 23 = .ok (.newarray .int, 2) := by decide +kernel
theorem d_Uni_init_25 : decode b_Uni_init 25 = .ok (.putfield 20, 3) := by decide +kernel
theorem d_Uni_init_28 : decode b_Uni_init 28 = .ok (.aload_n 0, 1) := by decide +kernel
theorem d_Uni_init_29 : decode b_Uni_init 29 = .ok (.sipush 3360, 3) := by decide +kernel
theorem d_Uni_init_32 : decode b_Uni_init 32 = .ok (.newarray .boolean, 2) := by decide +kernel
theorem d_Uni_init_34 : decode b_Uni_init 34 = .ok (.putfield 23, 3) := by decide +kernel
theorem d_Uni_init_37 : decode b_Uni_init 37 = .ok (.aload_n 0, 1) := by decide +kernel
theorem d_Uni_init_38 : decode b_Uni_init 38 = .ok (.new 27, 3) := by decide +kernel
theorem d_Uni_init_41 : decode b_Uni_init 41 = .ok (.dup, 1) := by decide +kernel
theorem d_Uni_init_42 : decode b_Uni_init 42 = .ok (.bipush 16, 2) := by decide +kernel
theorem d_Uni_init_44 : decode b_Uni_init 44 = .ok (.invokespecial 29, 3) := by decide +kernel
theorem d_Uni_init_47 : decode b_Uni_init 47 = .ok (.putfield 32, 3) := by decide +kernel
theorem d_Uni_init_50 : decode b_Uni_init 50 = .ok (.aload_n 0, 1) := by decide +kernel
theorem d_Uni_init_51 : decode b_Uni_init 51 = .ok (.aload_n 1, 1) := by decide +kernel
theorem d_Uni_init_52 : decode b_Uni_init 52 = .ok (.putfield 36, 3) := by decide +kernel
theorem d_Uni_init_55 : decode b_Uni_init 55 = .ok (.aload_n 0, 1) := by decide +kernel
theorem d_Uni_init_56 : decode b_Uni_init 56 = .ok (.aload_n 2, 1) := by decide +kernel
theorem d_Uni_init_57 : decode b_Uni_init 57 = .ok (.putfield 40, 3) := by decide +kernel
theorem d_Uni_init_60 : decode b_Uni_init 60 = .ok (.return_, 1) := by decide +kernel
theorem tb_methodLink_364 : Cond.methodLink "ClauseProver$Unifier" 7 ⟨"java/lang/Object", "<init>", "()V"⟩ ∈ lw_tbg := tb_in (i := 364) (by decide +kernel) rfl
theorem lk_Uni_13 : Cond.fieldLink "ClauseProver$Unifier" 13 (F_Uni 2).1 (F_Uni 2).2.1 (F_Uni 2).2.2.1 ∈ lw_tbg := tb_in (i := 369) (by decide +kernel) rfl
theorem lk_Uni_17 : Cond.fieldLink "ClauseProver$Unifier" 17 (F_Uni 3).1 (F_Uni 3).2.1 (F_Uni 3).2.2.1 ∈ lw_tbg := tb_in (i := 370) (by decide +kernel) rfl
theorem lk_Uni_20 : Cond.fieldLink "ClauseProver$Unifier" 20 (F_Uni 4).1 (F_Uni 4).2.1 (F_Uni 4).2.2.1 ∈ lw_tbg := tb_in (i := 371) (by decide +kernel) rfl
theorem lk_Uni_23 : Cond.fieldLink "ClauseProver$Unifier" 23 (F_Uni 8).1 (F_Uni 8).2.1 (F_Uni 8).2.2.1 ∈ lw_tbg := tb_in (i := 375) (by decide +kernel) rfl
theorem tb_classLink_365 : Cond.classLink "ClauseProver$Unifier" 27 "ClauseProver$Row" ∈ lw_tbg := tb_in (i := 365) (by decide +kernel) rfl
theorem ml_Uni_29 : ax_LI "ClauseProver$Unifier" 29 y_Row_init b_Row_init 2 1 := ax_LI.mk (tb_in (i := 366) (by decide +kernel) rfl) (tb_in (i := 42) (by decide +kernel) rfl) ti_Row tc_Row_init rfl (by decide +kernel)
theorem lk_Uni_32 : Cond.fieldLink "ClauseProver$Unifier" 32 (F_Uni 9).1 (F_Uni 9).2.1 (F_Uni 9).2.2.1 ∈ lw_tbg := tb_in (i := 376) (by decide +kernel) rfl
theorem lk_Uni_36 : Cond.fieldLink "ClauseProver$Unifier" 36 (F_Uni 0).1 (F_Uni 0).2.1 (F_Uni 0).2.2.1 ∈ lw_tbg := tb_in (i := 367) (by decide +kernel) rfl
theorem lk_Uni_40 : Cond.fieldLink "ClauseProver$Unifier" 40 (F_Uni 1).1 (F_Uni 1).2.1 (F_Uni 1).2.2.1 ∈ lw_tbg := tb_in (i := 368) (by decide +kernel) rfl
set_option maxHeartbeats 4000000 in
set_option maxRecDepth 100000 in
theorem c_Uni_init (l : Launch) (D : va_G) (kA : Nat → ClassId) (h : Nat) (hs : Nat) (hr : Nat) : ax_Mv l D kA y_Uni_init b_Uni_init 3 2 41 6 3414 [.ref h, .ref hs, .ref hr] [(h, .inr (8, [.null, .null, .null, .null, .null, .int 0, .int 0, .int 0, .null, .null]))] (fun w1 => ∃ q : Nat → Nat, w1 = [(h, .inr (8, [.ref hs, .ref hr, .ref (q 0), .ref (q 1), .ref (q 2), .int 0, .int 0, .int 0, .ref (q 3), .ref (q 4)])), ((q 0), .inl (kA 0, 12, .inl (fun _ => 0))), ((q 1), .inl (kA 0, 12, .inl (fun _ => 0))), ((q 2), .inl (kA 0, 12, .inl (fun _ => 0))), ((q 3), .inl (kA 1, 3360, .inl (fun _ => 0))), ((q 4), .inr (0, [.ref (q 5), .int 0])), ((q 5), .inl (kA 0, 16, .inl (fun _ => 0)))]) := by
  refine ax_Mv.of (by decide +kernel) (Nat.le_of_ble_eq_true rfl) ?_
  intro p e s m args below meth c C hnm
  have hnm : meth.name = "<init>" := hnm
  refine ax_ls ([(0, .ref h), (1, .ref hs), (2, .ref hr)]) [0, 1, 2] rfl ?_
  refine ax_aload_n (pc := 0) C d_Uni_init_0 rfl 0 rfl ?_
  refine ax_objInit (pc := 1) C tb_methodLink_364 tb_instanceMethod_37 tb_codeObj d_Uni_init_1 (Nat.le_of_ble_eq_true rfl) (Nat.le_of_ble_eq_true rfl) (Nat.le_of_ble_eq_true rfl) ?_
  refine ax_aload_n (pc := 4) C d_Uni_init_4 rfl 0 rfl ?_
  refine ax_bipush (pc := 5) C 12 d_Uni_init_5 (by decide +kernel) ?_
  refine ax_newI (pc := 7) C tb_arr_int 12 d_Uni_init_7 (by decide) (by decide) (by decide) (Nat.le_of_ble_eq_true rfl) (Nat.le_of_ble_eq_true rfl) (fun q7 => ?_)
  refine ax_w ([(h, .inr (8, [.null, .null, .null, .null, .null, .int 0, .int 0, .int 0, .null, .null])), (q7, .inl (kA 0, 12, .inl (fun _ => 0)))]) rfl ?_
  refine ax_putF (pc := 9) C k_Uni 2 lk_Uni_13 d_Uni_init_9 (Nat.le_of_ble_eq_true rfl) 0 rfl rfl hnm rfl rfl rfl (Nat.le_of_ble_eq_true rfl) ?_
  refine ax_w ([(h, .inr (8, [.null, .null, .ref q7, .null, .null, .int 0, .int 0, .int 0, .null, .null])), (q7, .inl (kA 0, 12, .inl (fun _ => 0)))]) rfl ?_
  refine ax_aload_n (pc := 12) C d_Uni_init_12 rfl 0 rfl ?_
  refine ax_bipush (pc := 13) C 12 d_Uni_init_13 (by decide +kernel) ?_
  refine ax_newI (pc := 15) C tb_arr_int 12 d_Uni_init_15 (by decide) (by decide) (by decide) (Nat.le_of_ble_eq_true rfl) (Nat.le_of_ble_eq_true rfl) (fun q15 => ?_)
  refine ax_w ([(h, .inr (8, [.null, .null, .ref q7, .null, .null, .int 0, .int 0, .int 0, .null, .null])), (q7, .inl (kA 0, 12, .inl (fun _ => 0))), (q15, .inl (kA 0, 12, .inl (fun _ => 0)))]) rfl ?_
  refine ax_putF (pc := 17) C k_Uni 3 lk_Uni_17 d_Uni_init_17 (Nat.le_of_ble_eq_true rfl) 0 rfl rfl hnm rfl rfl rfl (Nat.le_of_ble_eq_true rfl) ?_
  refine ax_w ([(h, .inr (8, [.null, .null, .ref q7, .ref q15, .null, .int 0, .int 0, .int 0, .null, .null])), (q7, .inl (kA 0, 12, .inl (fun _ => 0))), (q15, .inl (kA 0, 12, .inl (fun _ => 0)))]) rfl ?_
  refine ax_aload_n (pc := 20) C d_Uni_init_20 rfl 0 rfl ?_
  refine ax_bipush (pc := 21) C 12 d_Uni_init_21 (by decide +kernel) ?_
  refine ax_newI (pc := 23) C tb_arr_int 12 d_Uni_init_23 (by decide) (by decide) (by decide) (Nat.le_of_ble_eq_true rfl) (Nat.le_of_ble_eq_true rfl) (fun q23 => ?_)
  refine ax_w ([(h, .inr (8, [.null, .null, .ref q7, .ref q15, .null, .int 0, .int 0, .int 0, .null, .null])), (q7, .inl (kA 0, 12, .inl (fun _ => 0))), (q15, .inl (kA 0, 12, .inl (fun _ => 0))), (q23, .inl (kA 0, 12, .inl (fun _ => 0)))]) rfl ?_
  refine ax_putF (pc := 25) C k_Uni 4 lk_Uni_20 d_Uni_init_25 (Nat.le_of_ble_eq_true rfl) 0 rfl rfl hnm rfl rfl rfl (Nat.le_of_ble_eq_true rfl) ?_
  refine ax_w ([(h, .inr (8, [.null, .null, .ref q7, .ref q15, .ref q23, .int 0, .int 0, .int 0, .null, .null])), (q7, .inl (kA 0, 12, .inl (fun _ => 0))), (q15, .inl (kA 0, 12, .inl (fun _ => 0))), (q23, .inl (kA 0, 12, .inl (fun _ => 0)))]) rfl ?_
  refine ax_aload_n (pc := 28) C d_Uni_init_28 rfl 0 rfl ?_
  refine ax_sipush (pc := 29) C 3360 d_Uni_init_29 (by decide +kernel) ?_
  refine ax_newZ (pc := 32) C tb_arr_boolean 3360 d_Uni_init_32 (by decide) (by decide) (by decide) (Nat.le_of_ble_eq_true rfl) (Nat.le_of_ble_eq_true rfl) (fun q32 => ?_)
  refine ax_w ([(h, .inr (8, [.null, .null, .ref q7, .ref q15, .ref q23, .int 0, .int 0, .int 0, .null, .null])), (q7, .inl (kA 0, 12, .inl (fun _ => 0))), (q15, .inl (kA 0, 12, .inl (fun _ => 0))), (q23, .inl (kA 0, 12, .inl (fun _ => 0))), (q32, .inl (kA 1, 3360, .inl (fun _ => 0)))]) rfl ?_
  refine ax_putF (pc := 34) C k_Uni 8 lk_Uni_23 d_Uni_init_34 (Nat.le_of_ble_eq_true rfl) 0 rfl rfl hnm rfl rfl rfl (Nat.le_of_ble_eq_true rfl) ?_
  refine ax_w ([(h, .inr (8, [.null, .null, .ref q7, .ref q15, .ref q23, .int 0, .int 0, .int 0, .ref q32, .null])), (q7, .inl (kA 0, 12, .inl (fun _ => 0))), (q15, .inl (kA 0, 12, .inl (fun _ => 0))), (q23, .inl (kA 0, 12, .inl (fun _ => 0))), (q32, .inl (kA 1, 3360, .inl (fun _ => 0)))]) rfl ?_
  refine ax_aload_n (pc := 37) C d_Uni_init_37 rfl 0 rfl ?_
  refine ax_new (pc := 38) C k_Row tb_classLink_365 tb_instantiable_40 tb_initialized_2 (Nat.le_of_ble_eq_true rfl) (Nat.le_of_ble_eq_true rfl) d_Uni_init_38 (fun q38 => ?_)
  refine ax_w ([(h, .inr (8, [.null, .null, .ref q7, .ref q15, .ref q23, .int 0, .int 0, .int 0, .ref q32, .null])), (q7, .inl (kA 0, 12, .inl (fun _ => 0))), (q15, .inl (kA 0, 12, .inl (fun _ => 0))), (q23, .inl (kA 0, 12, .inl (fun _ => 0))), (q32, .inl (kA 1, 3360, .inl (fun _ => 0))), (q38, .inr (0, [.null, .int 0]))]) rfl ?_
  refine ax_dup (pc := 41) C d_Uni_init_41 rfl ?_
  refine ax_bipush (pc := 42) C 16 d_Uni_init_42 (by decide +kernel) ?_
  refine ax_callIv (pc := 44) C (As := [.int 16]) (rest := [.ref q38, .ref h]) (wr := [(h, .inr (8, [.null, .null, .ref q7, .ref q15, .ref q23, .int 0, .int 0, .int 0, .ref q32, .null])), (q7, .inl (kA 0, 12, .inl (fun _ => 0))), (q15, .inl (kA 0, 12, .inl (fun _ => 0))), (q23, .inl (kA 0, 12, .inl (fun _ => 0))), (q32, .inl (kA 1, 3360, .inl (fun _ => 0)))]) (c_Row_init l D kA q38 16 16 (by decide) (by decide) (by decide)) ml_Uni_29 d_Uni_init_44 rfl rfl [5] [0, 1, 2, 3, 4] rfl (by decide) rfl (by decide) (by decide) (Nat.le_of_ble_eq_true rfl) (Nat.le_of_ble_eq_true rfl) (Nat.le_of_ble_eq_true rfl) (Nat.le_of_ble_eq_true rfl) (Nat.le_of_ble_eq_true rfl) (fun w1 hw1 => ?_)
  obtain ⟨g44, rfl⟩ := hw1
  refine ax_w ([(h, .inr (8, [.null, .null, .ref q7, .ref q15, .ref q23, .int 0, .int 0, .int 0, .ref q32, .null])), (q7, .inl (kA 0, 12, .inl (fun _ => 0))), (q15, .inl (kA 0, 12, .inl (fun _ => 0))), (q23, .inl (kA 0, 12, .inl (fun _ => 0))), (q32, .inl (kA 1, 3360, .inl (fun _ => 0))), (q38, .inr (0, [.ref (g44 0), .int 0])), ((g44 0), .inl (kA 0, 16, .inl (fun _ => 0)))]) rfl ?_
  refine ax_putF (pc := 47) C k_Uni 9 lk_Uni_32 d_Uni_init_47 (Nat.le_of_ble_eq_true rfl) 0 rfl rfl hnm rfl rfl rfl (Nat.le_of_ble_eq_true rfl) ?_
  refine ax_w ([(h, .inr (8, [.null, .null, .ref q7, .ref q15, .ref q23, .int 0, .int 0, .int 0, .ref q32, .ref q38])), (q7, .inl (kA 0, 12, .inl (fun _ => 0))), (q15, .inl (kA 0, 12, .inl (fun _ => 0))), (q23, .inl (kA 0, 12, .inl (fun _ => 0))), (q32, .inl (kA 1, 3360, .inl (fun _ => 0))), (q38, .inr (0, [.ref (g44 0), .int 0])), ((g44 0), .inl (kA 0, 16, .inl (fun _ => 0)))]) rfl ?_
  refine ax_aload_n (pc := 50) C d_Uni_init_50 rfl 0 rfl ?_
  refine ax_aload_n (pc := 51) C d_Uni_init_51 rfl 1 rfl ?_
  refine ax_putF (pc := 52) C k_Uni 0 lk_Uni_36 d_Uni_init_52 (Nat.le_of_ble_eq_true rfl) 0 rfl rfl hnm rfl rfl rfl (Nat.le_of_ble_eq_true rfl) ?_
  refine ax_w ([(h, .inr (8, [.ref hs, .null, .ref q7, .ref q15, .ref q23, .int 0, .int 0, .int 0, .ref q32, .ref q38])), (q7, .inl (kA 0, 12, .inl (fun _ => 0))), (q15, .inl (kA 0, 12, .inl (fun _ => 0))), (q23, .inl (kA 0, 12, .inl (fun _ => 0))), (q32, .inl (kA 1, 3360, .inl (fun _ => 0))), (q38, .inr (0, [.ref (g44 0), .int 0])), ((g44 0), .inl (kA 0, 16, .inl (fun _ => 0)))]) rfl ?_
  refine ax_aload_n (pc := 55) C d_Uni_init_55 rfl 0 rfl ?_
  refine ax_aload_n (pc := 56) C d_Uni_init_56 rfl 2 rfl ?_
  refine ax_putF (pc := 57) C k_Uni 1 lk_Uni_40 d_Uni_init_57 (Nat.le_of_ble_eq_true rfl) 0 rfl rfl hnm rfl rfl rfl (Nat.le_of_ble_eq_true rfl) ?_
  refine ax_w ([(h, .inr (8, [.ref hs, .ref hr, .ref q7, .ref q15, .ref q23, .int 0, .int 0, .int 0, .ref q32, .ref q38])), (q7, .inl (kA 0, 12, .inl (fun _ => 0))), (q15, .inl (kA 0, 12, .inl (fun _ => 0))), (q23, .inl (kA 0, 12, .inl (fun _ => 0))), (q32, .inl (kA 1, 3360, .inl (fun _ => 0))), (q38, .inr (0, [.ref (g44 0), .int 0])), ((g44 0), .inl (kA 0, 16, .inl (fun _ => 0)))]) rfl ?_
  exact ax_vret (pc := 60) C d_Uni_init_60 ⟨fun i => [q7, q15, q23, q32, q38, (g44 0)].getD i 0, rfl⟩ (by simp) (by simp)
abbrev b_Mat_init : ByteArray := prog_4_method_1_code
def y_Mat_init : MethodName := ⟨"ClauseProver$Matcher", "<init>", "(LClauseProver$Symbols;LClauseProver$Store;)V"⟩
theorem d_Mat_init_0 : decode b_Mat_init 0 = .ok (.aload_n 0, 1) := by decide +kernel
theorem d_Mat_init_1 : decode b_Mat_init 1 = .ok (.invokespecial 3, 3) := by decide +kernel
theorem d_Mat_init_4 : decode b_Mat_init 4 = .ok (.aload_n 0, 1) := by decide +kernel
theorem d_Mat_init_5 : decode b_Mat_init 5 = .ok (.bipush 6, 2) := by decide +kernel
theorem d_Mat_init_7 : decode b_Mat_init 7 = .ok (.newarray .int, 2) := by decide +kernel
theorem d_Mat_init_9 : decode b_Mat_init 9 = .ok (.putfield 9, 3) := by decide +kernel
theorem d_Mat_init_12 : decode b_Mat_init 12 = .ok (.aload_n 0, 1) := by decide +kernel
theorem d_Mat_init_13 : decode b_Mat_init 13 = .ok (.bipush 100, 2) := by decide +kernel
theorem d_Mat_init_15 : decode b_Mat_init 15 = .ok (.newarray .int, 2) := by decide +kernel
theorem d_Mat_init_17 : decode b_Mat_init 17 = .ok (.putfield 15, 3) := by decide +kernel
theorem d_Mat_init_20 : decode b_Mat_init 20 = .ok (.aload_n 0, 1) := by decide +kernel
theorem d_Mat_init_21 : decode b_Mat_init 21 = .ok (.aload_n 1, 1) := by decide +kernel
theorem d_Mat_init_22 : decode b_Mat_init 22 = .ok (.putfield 18, 3) := by decide +kernel
theorem d_Mat_init_25 : decode b_Mat_init 25 = .ok (.aload_n 0, 1) := by decide +kernel
theorem d_Mat_init_26 : decode b_Mat_init 26 = .ok (.aload_n 2, 1) := by decide +kernel
theorem d_Mat_init_27 : decode b_Mat_init 27 = .ok (.putfield 22, 3) := by decide +kernel
theorem d_Mat_init_30 : decode b_Mat_init 30 = .ok (.return_, 1) := by decide +kernel
theorem tb_methodLink_403 : Cond.methodLink "ClauseProver$Matcher" 3 ⟨"java/lang/Object", "<init>", "()V"⟩ ∈ lw_tbg := tb_in (i := 403) (by decide +kernel) rfl
theorem lk_Mat_9 : Cond.fieldLink "ClauseProver$Matcher" 9 (F_Mat 2).1 (F_Mat 2).2.1 (F_Mat 2).2.2.1 ∈ lw_tbg := tb_in (i := 406) (by decide +kernel) rfl
theorem lk_Mat_15 : Cond.fieldLink "ClauseProver$Matcher" 15 (F_Mat 4).1 (F_Mat 4).2.1 (F_Mat 4).2.2.1 ∈ lw_tbg := tb_in (i := 408) (by decide +kernel) rfl
theorem lk_Mat_18 : Cond.fieldLink "ClauseProver$Matcher" 18 (F_Mat 0).1 (F_Mat 0).2.1 (F_Mat 0).2.2.1 ∈ lw_tbg := tb_in (i := 404) (by decide +kernel) rfl
theorem lk_Mat_22 : Cond.fieldLink "ClauseProver$Matcher" 22 (F_Mat 1).1 (F_Mat 1).2.1 (F_Mat 1).2.2.1 ∈ lw_tbg := tb_in (i := 405) (by decide +kernel) rfl
set_option maxHeartbeats 4000000 in
set_option maxRecDepth 100000 in
theorem c_Mat_init (l : Launch) (D : va_G) (kA : Nat → ClassId) (h : Nat) (hs : Nat) (ht : Nat) : ax_Mv l D kA y_Mat_init b_Mat_init 3 1 20 2 106 [.ref h, .ref hs, .ref ht] [(h, .inr (7, [.null, .null, .null, .int 0, .null, .int 0]))] (fun w1 => ∃ q : Nat → Nat, w1 = [(h, .inr (7, [.ref hs, .ref ht, .ref (q 0), .int 0, .ref (q 1), .int 0])), ((q 0), .inl (kA 0, 6, .inl (fun _ => 0))), ((q 1), .inl (kA 0, 100, .inl (fun _ => 0)))]) := by
  refine ax_Mv.of (by decide +kernel) (Nat.le_of_ble_eq_true rfl) ?_
  intro p e s m args below meth c C hnm
  have hnm : meth.name = "<init>" := hnm
  refine ax_ls ([(0, .ref h), (1, .ref hs), (2, .ref ht)]) [0, 1, 2] rfl ?_
  refine ax_aload_n (pc := 0) C d_Mat_init_0 rfl 0 rfl ?_
  refine ax_objInit (pc := 1) C tb_methodLink_403 tb_instanceMethod_37 tb_codeObj d_Mat_init_1 (Nat.le_of_ble_eq_true rfl) (Nat.le_of_ble_eq_true rfl) (Nat.le_of_ble_eq_true rfl) ?_
  refine ax_aload_n (pc := 4) C d_Mat_init_4 rfl 0 rfl ?_
  refine ax_bipush (pc := 5) C 6 d_Mat_init_5 (by decide +kernel) ?_
  refine ax_newI (pc := 7) C tb_arr_int 6 d_Mat_init_7 (by decide) (by decide) (by decide) (Nat.le_of_ble_eq_true rfl) (Nat.le_of_ble_eq_true rfl) (fun q7 => ?_)
  refine ax_w ([(h, .inr (7, [.null, .null, .null, .int 0, .null, .int 0])), (q7, .inl (kA 0, 6, .inl (fun _ => 0)))]) rfl ?_
  refine ax_putF (pc := 9) C k_Mat 2 lk_Mat_9 d_Mat_init_9 (Nat.le_of_ble_eq_true rfl) 0 rfl rfl hnm rfl rfl rfl (Nat.le_of_ble_eq_true rfl) ?_
  refine ax_w ([(h, .inr (7, [.null, .null, .ref q7, .int 0, .null, .int 0])), (q7, .inl (kA 0, 6, .inl (fun _ => 0)))]) rfl ?_
  refine ax_aload_n (pc := 12) C d_Mat_init_12 rfl 0 rfl ?_
  refine ax_bipush (pc := 13) C 100 d_Mat_init_13 (by decide +kernel) ?_
  refine ax_newI (pc := 15) C tb_arr_int 100 d_Mat_init_15 (by decide) (by decide) (by decide) (Nat.le_of_ble_eq_true rfl) (Nat.le_of_ble_eq_true rfl) (fun q15 => ?_)
  refine ax_w ([(h, .inr (7, [.null, .null, .ref q7, .int 0, .null, .int 0])), (q7, .inl (kA 0, 6, .inl (fun _ => 0))), (q15, .inl (kA 0, 100, .inl (fun _ => 0)))]) rfl ?_
  refine ax_putF (pc := 17) C k_Mat 4 lk_Mat_15 d_Mat_init_17 (Nat.le_of_ble_eq_true rfl) 0 rfl rfl hnm rfl rfl rfl (Nat.le_of_ble_eq_true rfl) ?_
  refine ax_w ([(h, .inr (7, [.null, .null, .ref q7, .int 0, .ref q15, .int 0])), (q7, .inl (kA 0, 6, .inl (fun _ => 0))), (q15, .inl (kA 0, 100, .inl (fun _ => 0)))]) rfl ?_
  refine ax_aload_n (pc := 20) C d_Mat_init_20 rfl 0 rfl ?_
  refine ax_aload_n (pc := 21) C d_Mat_init_21 rfl 1 rfl ?_
  refine ax_putF (pc := 22) C k_Mat 0 lk_Mat_18 d_Mat_init_22 (Nat.le_of_ble_eq_true rfl) 0 rfl rfl hnm rfl rfl rfl (Nat.le_of_ble_eq_true rfl) ?_
  refine ax_w ([(h, .inr (7, [.ref hs, .null, .ref q7, .int 0, .ref q15, .int 0])), (q7, .inl (kA 0, 6, .inl (fun _ => 0))), (q15, .inl (kA 0, 100, .inl (fun _ => 0)))]) rfl ?_
  refine ax_aload_n (pc := 25) C d_Mat_init_25 rfl 0 rfl ?_
  refine ax_aload_n (pc := 26) C d_Mat_init_26 rfl 2 rfl ?_
  refine ax_putF (pc := 27) C k_Mat 1 lk_Mat_22 d_Mat_init_27 (Nat.le_of_ble_eq_true rfl) 0 rfl rfl hnm rfl rfl rfl (Nat.le_of_ble_eq_true rfl) ?_
  refine ax_w ([(h, .inr (7, [.ref hs, .ref ht, .ref q7, .int 0, .ref q15, .int 0])), (q7, .inl (kA 0, 6, .inl (fun _ => 0))), (q15, .inl (kA 0, 100, .inl (fun _ => 0)))]) rfl ?_
  exact ax_vret (pc := 30) C d_Mat_init_30 ⟨fun i => [q7, q15].getD i 0, rfl⟩ (by simp) (by simp)
abbrev b_Mod_init : ByteArray := prog_5_method_1_code
def y_Mod_init : MethodName := ⟨"ClauseProver$Model", "<init>", "(LClauseProver$Symbols;LClauseProver$Store;)V"⟩
theorem d_Mod_init_0 : decode b_Mod_init 0 = .ok (.aload_n 0, 1) := by decide +kernel
theorem d_Mod_init_1 : decode b_Mod_init 1 = .ok (.invokespecial 3, 3) := by decide +kernel
theorem d_Mod_init_4 : decode b_Mod_init 4 = .ok (.aload_n 0, 1) := by decide +kernel
theorem d_Mod_init_5 : decode b_Mod_init 5 = .ok (.bipush 6, 2) := by decide +kernel
theorem d_Mod_init_7 : decode b_Mod_init 7 = .ok (.newarray .int, 2) := by decide +kernel
theorem d_Mod_init_9 : decode b_Mod_init 9 = .ok (.putfield 9, 3) := by decide +kernel
theorem d_Mod_init_12 : decode b_Mod_init 12 = .ok (.aload_n 0, 1) := by decide +kernel
theorem d_Mod_init_13 : decode b_Mod_init 13 = .ok (.bipush 101, 2) := by decide +kernel
theorem d_Mod_init_15 : decode b_Mod_init 15 = .ok (.newarray .int, 2) := by decide +kernel
theorem d_Mod_init_17 : decode b_Mod_init 17 = .ok (.putfield 15, 3) := by decide +kernel
theorem d_Mod_init_20 : decode b_Mod_init 20 = .ok (.aload_n 0, 1) := by decide +kernel
theorem d_Mod_init_21 : decode b_Mod_init 21 = .ok (.iconst 1, 1) := by decide +kernel
theorem d_Mod_init_22 : decode b_Mod_init 22 = .ok (.putfield 18, 3) := by decide +kernel
theorem d_Mod_init_25 : decode b_Mod_init 25 = .ok (.aload_n 0, 1) := by decide +kernel
theorem d_Mod_init_26 : decode b_Mod_init 26 = .ok (.aload_n 1, 1) := by decide +kernel
theorem d_Mod_init_27 : decode b_Mod_init 27 = .ok (.putfield 22, 3) := by decide +kernel
theorem d_Mod_init_30 : decode b_Mod_init 30 = .ok (.aload_n 0, 1) := by decide +kernel
theorem d_Mod_init_31 : decode b_Mod_init 31 = .ok (.aload_n 2, 1) := by decide +kernel
theorem d_Mod_init_32 : decode b_Mod_init 32 = .ok (.putfield 26, 3) := by decide +kernel
theorem d_Mod_init_35 : decode b_Mod_init 35 = .ok (.return_, 1) := by decide +kernel
theorem tb_methodLink_479 : Cond.methodLink "ClauseProver$Model" 3 ⟨"java/lang/Object", "<init>", "()V"⟩ ∈ lw_tbg := tb_in (i := 479) (by decide +kernel) rfl
theorem lk_Mod_9 : Cond.fieldLink "ClauseProver$Model" 9 (F_Mod 2).1 (F_Mod 2).2.1 (F_Mod 2).2.2.1 ∈ lw_tbg := tb_in (i := 482) (by decide +kernel) rfl
theorem lk_Mod_15 : Cond.fieldLink "ClauseProver$Model" 15 (F_Mod 3).1 (F_Mod 3).2.1 (F_Mod 3).2.2.1 ∈ lw_tbg := tb_in (i := 483) (by decide +kernel) rfl
theorem lk_Mod_18 : Cond.fieldLink "ClauseProver$Model" 18 (F_Mod 5).1 (F_Mod 5).2.1 (F_Mod 5).2.2.1 ∈ lw_tbg := tb_in (i := 485) (by decide +kernel) rfl
theorem lk_Mod_22 : Cond.fieldLink "ClauseProver$Model" 22 (F_Mod 0).1 (F_Mod 0).2.1 (F_Mod 0).2.2.1 ∈ lw_tbg := tb_in (i := 480) (by decide +kernel) rfl
theorem lk_Mod_26 : Cond.fieldLink "ClauseProver$Model" 26 (F_Mod 1).1 (F_Mod 1).2.1 (F_Mod 1).2.2.1 ∈ lw_tbg := tb_in (i := 481) (by decide +kernel) rfl
set_option maxHeartbeats 4000000 in
set_option maxRecDepth 100000 in
theorem c_Mod_init (l : Launch) (D : va_G) (kA : Nat → ClassId) (h : Nat) (hs : Nat) (ht : Nat) : ax_Mv l D kA y_Mod_init b_Mod_init 3 1 20 2 107 [.ref h, .ref hs, .ref ht] [(h, .inr (10, [.null, .null, .null, .null, .int 0, .int 0]))] (fun w1 => ∃ q : Nat → Nat, w1 = [(h, .inr (10, [.ref hs, .ref ht, .ref (q 0), .ref (q 1), .int 0, .int 1])), ((q 0), .inl (kA 0, 6, .inl (fun _ => 0))), ((q 1), .inl (kA 0, 101, .inl (fun _ => 0)))]) := by
  refine ax_Mv.of (by decide +kernel) (Nat.le_of_ble_eq_true rfl) ?_
  intro p e s m args below meth c C hnm
  have hnm : meth.name = "<init>" := hnm
  refine ax_ls ([(0, .ref h), (1, .ref hs), (2, .ref ht)]) [0, 1, 2] rfl ?_
  refine ax_aload_n (pc := 0) C d_Mod_init_0 rfl 0 rfl ?_
  refine ax_objInit (pc := 1) C tb_methodLink_479 tb_instanceMethod_37 tb_codeObj d_Mod_init_1 (Nat.le_of_ble_eq_true rfl) (Nat.le_of_ble_eq_true rfl) (Nat.le_of_ble_eq_true rfl) ?_
  refine ax_aload_n (pc := 4) C d_Mod_init_4 rfl 0 rfl ?_
  refine ax_bipush (pc := 5) C 6 d_Mod_init_5 (by decide +kernel) ?_
  refine ax_newI (pc := 7) C tb_arr_int 6 d_Mod_init_7 (by decide) (by decide) (by decide) (Nat.le_of_ble_eq_true rfl) (Nat.le_of_ble_eq_true rfl) (fun q7 => ?_)
  refine ax_w ([(h, .inr (10, [.null, .null, .null, .null, .int 0, .int 0])), (q7, .inl (kA 0, 6, .inl (fun _ => 0)))]) rfl ?_
  refine ax_putF (pc := 9) C k_Mod 2 lk_Mod_9 d_Mod_init_9 (Nat.le_of_ble_eq_true rfl) 0 rfl rfl hnm rfl rfl rfl (Nat.le_of_ble_eq_true rfl) ?_
  refine ax_w ([(h, .inr (10, [.null, .null, .ref q7, .null, .int 0, .int 0])), (q7, .inl (kA 0, 6, .inl (fun _ => 0)))]) rfl ?_
  refine ax_aload_n (pc := 12) C d_Mod_init_12 rfl 0 rfl ?_
  refine ax_bipush (pc := 13) C 101 d_Mod_init_13 (by decide +kernel) ?_
  refine ax_newI (pc := 15) C tb_arr_int 101 d_Mod_init_15 (by decide) (by decide) (by decide) (Nat.le_of_ble_eq_true rfl) (Nat.le_of_ble_eq_true rfl) (fun q15 => ?_)
  refine ax_w ([(h, .inr (10, [.null, .null, .ref q7, .null, .int 0, .int 0])), (q7, .inl (kA 0, 6, .inl (fun _ => 0))), (q15, .inl (kA 0, 101, .inl (fun _ => 0)))]) rfl ?_
  refine ax_putF (pc := 17) C k_Mod 3 lk_Mod_15 d_Mod_init_17 (Nat.le_of_ble_eq_true rfl) 0 rfl rfl hnm rfl rfl rfl (Nat.le_of_ble_eq_true rfl) ?_
  refine ax_w ([(h, .inr (10, [.null, .null, .ref q7, .ref q15, .int 0, .int 0])), (q7, .inl (kA 0, 6, .inl (fun _ => 0))), (q15, .inl (kA 0, 101, .inl (fun _ => 0)))]) rfl ?_
  refine ax_aload_n (pc := 20) C d_Mod_init_20 rfl 0 rfl ?_
  refine ax_iconst (pc := 21) C 1 d_Mod_init_21 (by decide +kernel) ?_
  refine ax_put (pc := 22) C k_Mod 5 lk_Mod_18 d_Mod_init_22 (Nat.le_of_ble_eq_true rfl) 0 rfl rfl rfl rfl (Nat.le_of_ble_eq_true rfl) ?_
  refine ax_w ([(h, .inr (10, [.null, .null, .ref q7, .ref q15, .int 0, .int 1])), (q7, .inl (kA 0, 6, .inl (fun _ => 0))), (q15, .inl (kA 0, 101, .inl (fun _ => 0)))]) rfl ?_
  refine ax_aload_n (pc := 25) C d_Mod_init_25 rfl 0 rfl ?_
  refine ax_aload_n (pc := 26) C d_Mod_init_26 rfl 1 rfl ?_
  refine ax_putF (pc := 27) C k_Mod 0 lk_Mod_22 d_Mod_init_27 (Nat.le_of_ble_eq_true rfl) 0 rfl rfl hnm rfl rfl rfl (Nat.le_of_ble_eq_true rfl) ?_
  refine ax_w ([(h, .inr (10, [.ref hs, .null, .ref q7, .ref q15, .int 0, .int 1])), (q7, .inl (kA 0, 6, .inl (fun _ => 0))), (q15, .inl (kA 0, 101, .inl (fun _ => 0)))]) rfl ?_
  refine ax_aload_n (pc := 30) C d_Mod_init_30 rfl 0 rfl ?_
  refine ax_aload_n (pc := 31) C d_Mod_init_31 rfl 2 rfl ?_
  refine ax_putF (pc := 32) C k_Mod 1 lk_Mod_26 d_Mod_init_32 (Nat.le_of_ble_eq_true rfl) 0 rfl rfl hnm rfl rfl rfl (Nat.le_of_ble_eq_true rfl) ?_
  refine ax_w ([(h, .inr (10, [.ref hs, .ref ht, .ref q7, .ref q15, .int 0, .int 1])), (q7, .inl (kA 0, 6, .inl (fun _ => 0))), (q15, .inl (kA 0, 101, .inl (fun _ => 0)))]) rfl ?_
  exact ax_vret (pc := 35) C d_Mod_init_35 ⟨fun i => [q7, q15].getD i 0, rfl⟩ (by simp) (by simp)
abbrev b_Dra_init : ByteArray := prog_2_method_1_code
def y_Dra_init : MethodName := ⟨"ClauseProver$Draft", "<init>", "(LClauseProver$Symbols;)V"⟩
theorem d_Dra_init_0 : decode b_Dra_init 0 = .ok (.aload_n 0, 1) := by decide +kernel
theorem d_Dra_init_1 : decode b_Dra_init 1 = .ok (.invokespecial 3, 3) := by decide +kernel
theorem d_Dra_init_4 : decode b_Dra_init 4 = .ok (.aload_n 0, 1) := by decide +kernel
theorem d_Dra_init_5 : decode b_Dra_init 5 = .ok (.bipush 100, 2) := by decide +kernel
theorem d_Dra_init_7 : decode b_Dra_init 7 = .ok (.newarray .int, 2) := by decide +kernel
theorem d_Dra_init_9 : decode b_Dra_init 9 = .ok (.putfield 9, 3) := by decide +kernel
theorem d_Dra_init_12 : decode b_Dra_init 12 = .ok (.aload_n 0, 1) := by decide +kernel
theorem d_Dra_init_13 : decode b_Dra_init 13 = .ok (.bipush 9, 2) := by decide +kernel
theorem d_Dra_init_15 : decode b_Dra_init 15 = .ok (.newarray .int, 2) := by decide +kernel
theorem d_Dra_init_17 : decode b_Dra_init 17 = .ok (.putfield 15, 3) := by decide +kernel
theorem d_Dra_init_20 : decode b_Dra_init 20 = .ok (.aload_n 0, 1) := by decide +kernel
theorem d_Dra_init_21 : decode b_Dra_init 21 = .ok (.bipush 8, 2) := by decide +kernel
theorem d_Dra_init_23 : decode b_Dra_init 23 = .ok (.newarray .int, 2) := by decide +kernel
theorem d_Dra_init_25 : decode b_Dra_init 25 = .ok (.putfield 18, 3) := by decide +kernel
theorem d_Dra_init_28 : decode b_Dra_init 28 = .ok (.aload_n 0, 1) := by decide +kernel
theorem d_Dra_init_29 : decode b_Dra_init 29 = .ok (.bipush 8, 2) := by decide +kernel
theorem d_Dra_init_31 : decode b_Dra_init 31 = .ok (.newarray .boolean, 2) := by decide +kernel
theorem d_Dra_init_33 : decode b_Dra_init 33 = .ok (.putfield 21, 3) := by decide +kernel
theorem d_Dra_init_36 : decode b_Dra_init 36 = .ok (.aload_n 0, 1) := by decide +kernel
theorem d_Dra_init_37 : decode b_Dra_init 37 = .ok (.sipush 300, 3) := by decide +kernel
theorem d_Dra_init_40 : decode b_Dra_init 40 = .ok (.newarray .int, 2) := by decide +kernel
theorem d_Dra_init_42 : decode b_Dra_init 42 = .ok (.putfield 25, 3) := by decide +kernel
theorem d_Dra_init_45 : decode b_Dra_init 45 = .ok (.aload_n 0, 1) := by decide +kernel
theorem d_Dra_init_46 : decode b_Dra_init 46 = .ok (.bipush 6, 2) := by decide +kernel
theorem d_Dra_init_48 : decode b_Dra_init 48 = .ok (.newarray .int, 2) := by decide +kernel
theorem d_Dra_init_50 : decode b_Dra_init 50 = .ok (.putfield 28, 3) := by decide +kernel
theorem d_Dra_init_53 : decode b_Dra_init 53 = .ok (.aload_n 0, 1) := by decide +kernel
theorem d_Dra_init_54 : decode b_Dra_init 54 = .ok (.bipush 6, 2) := by decide +kernel
theorem d_Dra_init_56 : decode b_Dra_init 56 = .ok (.newarray .int, 2) := by decide +kernel
theorem d_Dra_init_58 : decode b_Dra_init 58 = .ok (.putfield 31, 3) := by decide +kernel
theorem d_Dra_init_61 : decode b_Dra_init 61 = .ok (.aload_n 0, 1) := by decide +kernel
theorem d_Dra_init_62 : decode b_Dra_init 62 = .ok (.aload_n 1, 1) := by decide +kernel
theorem d_Dra_init_63 : decode b_Dra_init 63 = .ok (.putfield 34, 3) := by decide +kernel
theorem d_Dra_init_66 : decode b_Dra_init 66 = .ok (.aload_n 0, 1) := by decide +kernel
theorem d_Dra_init_67 : decode b_Dra_init 67 = .ok (.getfield 25, 3) := by decide +kernel
theorem d_Dra_init_70 : decode b_Dra_init 70 = .ok (.iconst (-1), 1) := by decide +kernel
theorem d_Dra_init_71 : decode b_Dra_init 71 = .ok (.invokestatic 38, 3) := by decide +kernel
theorem d_Dra_init_74 : decode b_Dra_init 74 = .ok (.return_, 1) := by decide +kernel
theorem tb_methodLink_257 : Cond.methodLink "ClauseProver$Draft" 3 ⟨"java/lang/Object", "<init>", "()V"⟩ ∈ lw_tbg := tb_in (i := 257) (by decide +kernel) rfl
theorem lk_Dra_9 : Cond.fieldLink "ClauseProver$Draft" 9 (F_Dra 0).1 (F_Dra 0).2.1 (F_Dra 0).2.2.1 ∈ lw_tbg := tb_in (i := 261) (by decide +kernel) rfl
theorem lk_Dra_15 : Cond.fieldLink "ClauseProver$Draft" 15 (F_Dra 1).1 (F_Dra 1).2.1 (F_Dra 1).2.2.1 ∈ lw_tbg := tb_in (i := 264) (by decide +kernel) rfl
theorem lk_Dra_18 : Cond.fieldLink "ClauseProver$Draft" 18 (F_Dra 2).1 (F_Dra 2).2.1 (F_Dra 2).2.2.1 ∈ lw_tbg := tb_in (i := 266) (by decide +kernel) rfl
theorem lk_Dra_21 : Cond.fieldLink "ClauseProver$Draft" 21 (F_Dra 3).1 (F_Dra 3).2.1 (F_Dra 3).2.2.1 ∈ lw_tbg := tb_in (i := 268) (by decide +kernel) rfl
theorem lk_Dra_25 : Cond.fieldLink "ClauseProver$Draft" 25 (F_Dra 9).1 (F_Dra 9).2.1 (F_Dra 9).2.2.1 ∈ lw_tbg := tb_in (i := 282) (by decide +kernel) rfl
theorem lk_Dra_28 : Cond.fieldLink "ClauseProver$Draft" 28 (F_Dra 10).1 (F_Dra 10).2.1 (F_Dra 10).2.2.1 ∈ lw_tbg := tb_in (i := 283) (by decide +kernel) rfl
theorem lk_Dra_31 : Cond.fieldLink "ClauseProver$Draft" 31 (F_Dra 12).1 (F_Dra 12).2.1 (F_Dra 12).2.2.1 ∈ lw_tbg := tb_in (i := 285) (by decide +kernel) rfl
theorem lk_Dra_34 : Cond.fieldLink "ClauseProver$Draft" 34 (F_Dra 8).1 (F_Dra 8).2.1 (F_Dra 8).2.2.1 ∈ lw_tbg := tb_in (i := 281) (by decide +kernel) rfl
theorem tc_Arr_fill1 : Cond.code y_Arr_fill1 b_Arr_fill1 4 none ∈ lw_tbg := tb_in (i := 260) (by decide +kernel) rfl
theorem ti_Arr : Cond.initialized "java/util/Arrays" ∈ lw_tbg := tb_in (i := 8) (by decide +kernel) rfl
theorem ml_Dra_38 : ax_LS "ClauseProver$Draft" 38 y_Arr_fill1 b_Arr_fill1 4 none 2 := ax_LS.mk (tb_in (i := 258) (by decide +kernel) rfl) (tb_in (i := 259) (by decide +kernel) rfl) ti_Arr tc_Arr_fill1 (by decide +kernel)
set_option maxHeartbeats 4000000 in
set_option maxRecDepth 100000 in
theorem c_Dra_init (l : Launch) (D : va_G) (kA : Nat → ClassId) (h : Nat) (hs : Nat) : ax_Mv l D kA y_Dra_init b_Dra_init 2 1 23 7 437 [.ref h, .ref hs] [(h, .inr (5, [.null, .null, .null, .null, .int 0, .int 0, .int 0, .int 0, .null, .null, .null, .int 0, .null]))] (fun w1 => ∃ q : Nat → Nat, w1 = [(h, .inr (5, [.ref (q 0), .ref (q 1), .ref (q 2), .ref (q 3), .int 0, .int 0, .int 0, .int 0, .ref hs, .ref (q 6), .ref (q 4), .int 0, .ref (q 5)])), ((q 0), .inl (kA 0, 100, .inl (fun _ => 0))), ((q 1), .inl (kA 0, 9, .inl (fun _ => 0))), ((q 2), .inl (kA 0, 8, .inl (fun _ => 0))), ((q 3), .inl (kA 1, 8, .inl (fun _ => 0))), ((q 4), .inl (kA 0, 6, .inl (fun _ => 0))), ((q 5), .inl (kA 0, 6, .inl (fun _ => 0))), ((q 6), .inl (kA 0, 300, .inl (ax_fill (fun _ => 0) (-1) 300)))]) := by
  refine ax_Mv.of (by decide +kernel) (Nat.le_of_ble_eq_true rfl) ?_
  intro p e s m args below meth c C hnm
  have hnm : meth.name = "<init>" := hnm
  refine ax_ls ([(0, .ref h), (1, .ref hs)]) [0, 1] rfl ?_
  refine ax_aload_n (pc := 0) C d_Dra_init_0 rfl 0 rfl ?_
  refine ax_objInit (pc := 1) C tb_methodLink_257 tb_instanceMethod_37 tb_codeObj d_Dra_init_1 (Nat.le_of_ble_eq_true rfl) (Nat.le_of_ble_eq_true rfl) (Nat.le_of_ble_eq_true rfl) ?_
  refine ax_aload_n (pc := 4) C d_Dra_init_4 rfl 0 rfl ?_
  refine ax_bipush (pc := 5) C 100 d_Dra_init_5 (by decide +kernel) ?_
  refine ax_newI (pc := 7) C tb_arr_int 100 d_Dra_init_7 (by decide) (by decide) (by decide) (Nat.le_of_ble_eq_true rfl) (Nat.le_of_ble_eq_true rfl) (fun q7 => ?_)
  refine ax_w ([(h, .inr (5, [.null, .null, .null, .null, .int 0, .int 0, .int 0, .int 0, .null, .null, .null, .int 0, .null])), (q7, .inl (kA 0, 100, .inl (fun _ => 0)))]) rfl ?_
  refine ax_putF (pc := 9) C k_Dra 0 lk_Dra_9 d_Dra_init_9 (Nat.le_of_ble_eq_true rfl) 0 rfl rfl hnm rfl rfl rfl (Nat.le_of_ble_eq_true rfl) ?_
  refine ax_w ([(h, .inr (5, [.ref q7, .null, .null, .null, .int 0, .int 0, .int 0, .int 0, .null, .null, .null, .int 0, .null])), (q7, .inl (kA 0, 100, .inl (fun _ => 0)))]) rfl ?_
  refine ax_aload_n (pc := 12) C d_Dra_init_12 rfl 0 rfl ?_
  refine ax_bipush (pc := 13) C 9 d_Dra_init_13 (by decide +kernel) ?_
  refine ax_newI (pc := 15) C tb_arr_int 9 d_Dra_init_15 (by decide) (by decide) (by decide) (Nat.le_of_ble_eq_true rfl) (Nat.le_of_ble_eq_true rfl) (fun q15 => ?_)
  refine ax_w ([(h, .inr (5, [.ref q7, .null, .null, .null, .int 0, .int 0, .int 0, .int 0, .null, .null, .null, .int 0, .null])), (q7, .inl (kA 0, 100, .inl (fun _ => 0))), (q15, .inl (kA 0, 9, .inl (fun _ => 0)))]) rfl ?_
  refine ax_putF (pc := 17) C k_Dra 1 lk_Dra_15 d_Dra_init_17 (Nat.le_of_ble_eq_true rfl) 0 rfl rfl hnm rfl rfl rfl (Nat.le_of_ble_eq_true rfl) ?_
  refine ax_w ([(h, .inr (5, [.ref q7, .ref q15, .null, .null, .int 0, .int 0, .int 0, .int 0, .null, .null, .null, .int 0, .null])), (q7, .inl (kA 0, 100, .inl (fun _ => 0))), (q15, .inl (kA 0, 9, .inl (fun _ => 0)))]) rfl ?_
  refine ax_aload_n (pc := 20) C d_Dra_init_20 rfl 0 rfl ?_
  refine ax_bipush (pc := 21) C 8 d_Dra_init_21 (by decide +kernel) ?_
  refine ax_newI (pc := 23) C tb_arr_int 8 d_Dra_init_23 (by decide) (by decide) (by decide) (Nat.le_of_ble_eq_true rfl) (Nat.le_of_ble_eq_true rfl) (fun q23 => ?_)
  refine ax_w ([(h, .inr (5, [.ref q7, .ref q15, .null, .null, .int 0, .int 0, .int 0, .int 0, .null, .null, .null, .int 0, .null])), (q7, .inl (kA 0, 100, .inl (fun _ => 0))), (q15, .inl (kA 0, 9, .inl (fun _ => 0))), (q23, .inl (kA 0, 8, .inl (fun _ => 0)))]) rfl ?_
  refine ax_putF (pc := 25) C k_Dra 2 lk_Dra_18 d_Dra_init_25 (Nat.le_of_ble_eq_true rfl) 0 rfl rfl hnm rfl rfl rfl (Nat.le_of_ble_eq_true rfl) ?_
  refine ax_w ([(h, .inr (5, [.ref q7, .ref q15, .ref q23, .null, .int 0, .int 0, .int 0, .int 0, .null, .null, .null, .int 0, .null])), (q7, .inl (kA 0, 100, .inl (fun _ => 0))), (q15, .inl (kA 0, 9, .inl (fun _ => 0))), (q23, .inl (kA 0, 8, .inl (fun _ => 0)))]) rfl ?_
  refine ax_aload_n (pc := 28) C d_Dra_init_28 rfl 0 rfl ?_
  refine ax_bipush (pc := 29) C 8 d_Dra_init_29 (by decide +kernel) ?_
  refine ax_newZ (pc := 31) C tb_arr_boolean 8 d_Dra_init_31 (by decide) (by decide) (by decide) (Nat.le_of_ble_eq_true rfl) (Nat.le_of_ble_eq_true rfl) (fun q31 => ?_)
  refine ax_w ([(h, .inr (5, [.ref q7, .ref q15, .ref q23, .null, .int 0, .int 0, .int 0, .int 0, .null, .null, .null, .int 0, .null])), (q7, .inl (kA 0, 100, .inl (fun _ => 0))), (q15, .inl (kA 0, 9, .inl (fun _ => 0))), (q23, .inl (kA 0, 8, .inl (fun _ => 0))), (q31, .inl (kA 1, 8, .inl (fun _ => 0)))]) rfl ?_
  refine ax_putF (pc := 33) C k_Dra 3 lk_Dra_21 d_Dra_init_33 (Nat.le_of_ble_eq_true rfl) 0 rfl rfl hnm rfl rfl rfl (Nat.le_of_ble_eq_true rfl) ?_
  refine ax_w ([(h, .inr (5, [.ref q7, .ref q15, .ref q23, .ref q31, .int 0, .int 0, .int 0, .int 0, .null, .null, .null, .int 0, .null])), (q7, .inl (kA 0, 100, .inl (fun _ => 0))), (q15, .inl (kA 0, 9, .inl (fun _ => 0))), (q23, .inl (kA 0, 8, .inl (fun _ => 0))), (q31, .inl (kA 1, 8, .inl (fun _ => 0)))]) rfl ?_
  refine ax_aload_n (pc := 36) C d_Dra_init_36 rfl 0 rfl ?_
  refine ax_sipush (pc := 37) C 300 d_Dra_init_37 (by decide +kernel) ?_
  refine ax_newI (pc := 40) C tb_arr_int 300 d_Dra_init_40 (by decide) (by decide) (by decide) (Nat.le_of_ble_eq_true rfl) (Nat.le_of_ble_eq_true rfl) (fun q40 => ?_)
  refine ax_w ([(h, .inr (5, [.ref q7, .ref q15, .ref q23, .ref q31, .int 0, .int 0, .int 0, .int 0, .null, .null, .null, .int 0, .null])), (q7, .inl (kA 0, 100, .inl (fun _ => 0))), (q15, .inl (kA 0, 9, .inl (fun _ => 0))), (q23, .inl (kA 0, 8, .inl (fun _ => 0))), (q31, .inl (kA 1, 8, .inl (fun _ => 0))), (q40, .inl (kA 0, 300, .inl (fun _ => 0)))]) rfl ?_
  refine ax_putF (pc := 42) C k_Dra 9 lk_Dra_25 d_Dra_init_42 (Nat.le_of_ble_eq_true rfl) 0 rfl rfl hnm rfl rfl rfl (Nat.le_of_ble_eq_true rfl) ?_
  refine ax_w ([(h, .inr (5, [.ref q7, .ref q15, .ref q23, .ref q31, .int 0, .int 0, .int 0, .int 0, .null, .ref q40, .null, .int 0, .null])), (q7, .inl (kA 0, 100, .inl (fun _ => 0))), (q15, .inl (kA 0, 9, .inl (fun _ => 0))), (q23, .inl (kA 0, 8, .inl (fun _ => 0))), (q31, .inl (kA 1, 8, .inl (fun _ => 0))), (q40, .inl (kA 0, 300, .inl (fun _ => 0)))]) rfl ?_
  refine ax_aload_n (pc := 45) C d_Dra_init_45 rfl 0 rfl ?_
  refine ax_bipush (pc := 46) C 6 d_Dra_init_46 (by decide +kernel) ?_
  refine ax_newI (pc := 48) C tb_arr_int 6 d_Dra_init_48 (by decide) (by decide) (by decide) (Nat.le_of_ble_eq_true rfl) (Nat.le_of_ble_eq_true rfl) (fun q48 => ?_)
  refine ax_w ([(h, .inr (5, [.ref q7, .ref q15, .ref q23, .ref q31, .int 0, .int 0, .int 0, .int 0, .null, .ref q40, .null, .int 0, .null])), (q7, .inl (kA 0, 100, .inl (fun _ => 0))), (q15, .inl (kA 0, 9, .inl (fun _ => 0))), (q23, .inl (kA 0, 8, .inl (fun _ => 0))), (q31, .inl (kA 1, 8, .inl (fun _ => 0))), (q40, .inl (kA 0, 300, .inl (fun _ => 0))), (q48, .inl (kA 0, 6, .inl (fun _ => 0)))]) rfl ?_
  refine ax_putF (pc := 50) C k_Dra 10 lk_Dra_28 d_Dra_init_50 (Nat.le_of_ble_eq_true rfl) 0 rfl rfl hnm rfl rfl rfl (Nat.le_of_ble_eq_true rfl) ?_
  refine ax_w ([(h, .inr (5, [.ref q7, .ref q15, .ref q23, .ref q31, .int 0, .int 0, .int 0, .int 0, .null, .ref q40, .ref q48, .int 0, .null])), (q7, .inl (kA 0, 100, .inl (fun _ => 0))), (q15, .inl (kA 0, 9, .inl (fun _ => 0))), (q23, .inl (kA 0, 8, .inl (fun _ => 0))), (q31, .inl (kA 1, 8, .inl (fun _ => 0))), (q40, .inl (kA 0, 300, .inl (fun _ => 0))), (q48, .inl (kA 0, 6, .inl (fun _ => 0)))]) rfl ?_
  refine ax_aload_n (pc := 53) C d_Dra_init_53 rfl 0 rfl ?_
  refine ax_bipush (pc := 54) C 6 d_Dra_init_54 (by decide +kernel) ?_
  refine ax_newI (pc := 56) C tb_arr_int 6 d_Dra_init_56 (by decide) (by decide) (by decide) (Nat.le_of_ble_eq_true rfl) (Nat.le_of_ble_eq_true rfl) (fun q56 => ?_)
  refine ax_w ([(h, .inr (5, [.ref q7, .ref q15, .ref q23, .ref q31, .int 0, .int 0, .int 0, .int 0, .null, .ref q40, .ref q48, .int 0, .null])), (q7, .inl (kA 0, 100, .inl (fun _ => 0))), (q15, .inl (kA 0, 9, .inl (fun _ => 0))), (q23, .inl (kA 0, 8, .inl (fun _ => 0))), (q31, .inl (kA 1, 8, .inl (fun _ => 0))), (q40, .inl (kA 0, 300, .inl (fun _ => 0))), (q48, .inl (kA 0, 6, .inl (fun _ => 0))), (q56, .inl (kA 0, 6, .inl (fun _ => 0)))]) rfl ?_
  refine ax_putF (pc := 58) C k_Dra 12 lk_Dra_31 d_Dra_init_58 (Nat.le_of_ble_eq_true rfl) 0 rfl rfl hnm rfl rfl rfl (Nat.le_of_ble_eq_true rfl) ?_
  refine ax_w ([(h, .inr (5, [.ref q7, .ref q15, .ref q23, .ref q31, .int 0, .int 0, .int 0, .int 0, .null, .ref q40, .ref q48, .int 0, .ref q56])), (q7, .inl (kA 0, 100, .inl (fun _ => 0))), (q15, .inl (kA 0, 9, .inl (fun _ => 0))), (q23, .inl (kA 0, 8, .inl (fun _ => 0))), (q31, .inl (kA 1, 8, .inl (fun _ => 0))), (q40, .inl (kA 0, 300, .inl (fun _ => 0))), (q48, .inl (kA 0, 6, .inl (fun _ => 0))), (q56, .inl (kA 0, 6, .inl (fun _ => 0)))]) rfl ?_
  refine ax_aload_n (pc := 61) C d_Dra_init_61 rfl 0 rfl ?_
  refine ax_aload_n (pc := 62) C d_Dra_init_62 rfl 1 rfl ?_
  refine ax_putF (pc := 63) C k_Dra 8 lk_Dra_34 d_Dra_init_63 (Nat.le_of_ble_eq_true rfl) 0 rfl rfl hnm rfl rfl rfl (Nat.le_of_ble_eq_true rfl) ?_
  refine ax_w ([(h, .inr (5, [.ref q7, .ref q15, .ref q23, .ref q31, .int 0, .int 0, .int 0, .int 0, .ref hs, .ref q40, .ref q48, .int 0, .ref q56])), (q7, .inl (kA 0, 100, .inl (fun _ => 0))), (q15, .inl (kA 0, 9, .inl (fun _ => 0))), (q23, .inl (kA 0, 8, .inl (fun _ => 0))), (q31, .inl (kA 1, 8, .inl (fun _ => 0))), (q40, .inl (kA 0, 300, .inl (fun _ => 0))), (q48, .inl (kA 0, 6, .inl (fun _ => 0))), (q56, .inl (kA 0, 6, .inl (fun _ => 0)))]) rfl ?_
  refine ax_aload_n (pc := 66) C d_Dra_init_66 rfl 0 rfl ?_
  refine ax_get (pc := 67) C k_Dra 9 lk_Dra_25 d_Dra_init_67 (Nat.le_of_ble_eq_true rfl) 0 rfl rfl ?_
  refine ax_iconst (pc := 70) C (-1) d_Dra_init_70 (by decide +kernel) ?_
  refine ax_callSv (pc := 71) C (As := [.ref q40, .int (-1)]) (rest := []) (wr := [(h, .inr (5, [.ref q7, .ref q15, .ref q23, .ref q31, .int 0, .int 0, .int 0, .int 0, .ref hs, .ref q40, .ref q48, .int 0, .ref q56])), (q7, .inl (kA 0, 100, .inl (fun _ => 0))), (q15, .inl (kA 0, 9, .inl (fun _ => 0))), (q23, .inl (kA 0, 8, .inl (fun _ => 0))), (q31, .inl (kA 1, 8, .inl (fun _ => 0))), (q48, .inl (kA 0, 6, .inl (fun _ => 0))), (q56, .inl (kA 0, 6, .inl (fun _ => 0)))]) (c_Arr_fill1 l D kA q40 300 (fun _ => 0) (-1) (by decide)) ml_Dra_38 d_Dra_init_71 rfl rfl [5] [0, 1, 2, 3, 4, 6, 7] rfl (by decide) rfl (by decide) (by decide) (Nat.le_of_ble_eq_true rfl) (Nat.le_of_ble_eq_true rfl) (Nat.le_of_ble_eq_true rfl) (Nat.le_of_ble_eq_true rfl) (Nat.le_of_ble_eq_true rfl) (fun w1 hw1 => ?_)
  subst hw1
  refine ax_w ([(h, .inr (5, [.ref q7, .ref q15, .ref q23, .ref q31, .int 0, .int 0, .int 0, .int 0, .ref hs, .ref q40, .ref q48, .int 0, .ref q56])), (q7, .inl (kA 0, 100, .inl (fun _ => 0))), (q15, .inl (kA 0, 9, .inl (fun _ => 0))), (q23, .inl (kA 0, 8, .inl (fun _ => 0))), (q31, .inl (kA 1, 8, .inl (fun _ => 0))), (q48, .inl (kA 0, 6, .inl (fun _ => 0))), (q56, .inl (kA 0, 6, .inl (fun _ => 0))), (q40, .inl (kA 0, 300, .inl (ax_fill (fun _ => 0) (-1) 300)))]) rfl ?_
  exact ax_vret (pc := 74) C d_Dra_init_74 ⟨fun i => [q7, q15, q23, q31, q48, q56, q40].getD i 0, rfl⟩ (by simp) (by simp)
