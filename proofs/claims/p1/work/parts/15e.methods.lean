theorem tc_Law_literal : Cond.codeWith y_Law_literal b_Law_literal 6 (some .int) [(0, 12, 15, 28), (0, 12, 19, 19)] ∈ lw_tbg := tb_in (i := 1318) (by decide +kernel) rfl
theorem mw_Law_93 : ax_LSw "ClauseProverLaw" 93 y_Law_literal b_Law_literal 6 [(0, 12, 15, 28), (0, 12, 19, 19)] 5 := ax_LSw.mk (tb_in (i := 1316) (by decide +kernel) rfl) (tb_in (i := 1317) (by decide +kernel) rfl) ti_Law tc_Law_literal (by decide +kernel)
set_option maxHeartbeats 4000000 in
set_option maxRecDepth 100000 in
theorem m89_MM_literal (l : Launch) (D : va_G) (kA : Nat → ClassId) (a0 : Nat) (b0 : Nat) (b1 : Nat) (b2 : Nat) (b3 : Nat) (b4 : Nat) (b5 : Nat) (b6 : Nat) (b7 : Nat) (b8 : Nat) (b9 : Nat) (b10 : Nat) (b11 : Nat) (b12 : Nat) (b13 : Nat) (b14 : Nat) (b15 : Nat) (b16 : Nat) (b17 : Nat) (b18 : Nat) (b19 : Nat) (b20 : Nat) (b21 : Nat) (b22 : Nat) (b23 : Nat) (b24 : Nat) (b25 : Nat) (b26 : Nat) (b27 : Nat) (b28 : Nat) (b29 : Nat) (b30 : Nat) (b31 : Nat) (b32 : Nat) (b33 : Nat) (b34 : Nat) (b35 : Nat) (b36 : Nat) (b37 : Nat) (b38 : Nat) (b39 : Nat) (b40 : Nat) (b41 : Nat) (b42 : Nat) (b43 : Nat) (b44 : Nat) (b45 : Nat) (b46 : Nat) (b47 : Nat) (b48 : Nat) (b49 : Nat) (b50 : Nat) (b51 : Nat) (b52 : Nat) (b53 : Nat) (b54 : Nat) (b55 : Nat) (b56 : Nat) (b57 : Nat) (b58 : Nat) (b59 : Nat) (b60 : Nat) (b61 : Nat) (b62 : Nat) (b63 : Nat) (b64 : Nat) (b65 : Nat) (b66 : Nat) (b67 : Nat) (b68 : Nat) (b69 : Nat) (b70 : Nat) (b71 : Nat) (b72 : Nat) (b73 : Nat) (b74 : Nat) (b75 : Nat) (i0 : Int32) (i1 : Int32) (i2 : Int32) : ax_Mi l D kA y_MM_literal b_MM_literal 5 .int 2 43 0 0 [.ref a0, .int i0, .int i1, .int i2] [(a0, .inr (12, [.ref b0, .ref b1, .int 0, .int 0, .int 0, .int 0, .int 0, .int 0, .int 0, .int 0, .int 0, .int 0, .int 0, .ref b2, .ref b3, .ref b4, .ref b5, .ref b6, .int 0, .int 1, .int 0, .ref b7, .ref b8, .ref b9, .ref b10, .int 0, .ref b11, .ref b12, .int 0, .int 0, .ref b13, .ref b14, .ref b15, .ref b16, .ref b17, .ref b18, .ref b19, .int 0, .int 0, .int 0, .int 0, .ref b20, .ref b21, .ref b22, .ref b23, .ref b24, .ref b25, .int 0, .ref b26, .ref b27, .ref b28, .ref b29, .ref b30, .ref b31, .ref b32, .int 0, .int 0, .ref b33, .ref b34, .ref b35, .ref b36, .ref b37, .int 0, .ref b38, .ref b39, .int 0, .ref b40, .ref b41, .ref b42, .ref b43, .ref b44, .ref b45, .int 0, .ref b46, .ref b47, .ref b48, .ref b49, .ref b50, .ref b51, .ref b52, .ref b53, .ref b54, .ref b55, .ref b56, .int 0, .int 0, .int 0, .int 0, .int (-1), .int 0, .int 0, .int 0, .int 0, .int 0, .int 0, .ref b57, .ref b58, .ref b59, .int 0, .ref b60, .ref b61, .int 0, .ref b62, .ref b63, .ref b64, .int 0, .ref b65, .ref b66, .ref b67, .ref b68, .ref b69, .ref b70, .int 0, .int (-1), .int 0, .ref b71, .int (-1), .int (-1), .int (-1), .ref b72, .int 0, .ref b73, .int 0, .ref b74, .int 0, .int 0, .ref b75]))] (fun r w1 => r = 0 ∧ w1 = [(a0, .inr (12, [.ref b0, .ref b1, .int 0, .int 0, .int 1, .int 0, .int 0, .int 0, .int 0, .int 0, .int 0, .int 0, .int 0, .ref b2, .ref b3, .ref b4, .ref b5, .ref b6, .int 0, .int 1, .int 0, .ref b7, .ref b8, .ref b9, .ref b10, .int 0, .ref b11, .ref b12, .int 0, .int 0, .ref b13, .ref b14, .ref b15, .ref b16, .ref b17, .ref b18, .ref b19, .int 0, .int 0, .int 0, .int 0, .ref b20, .ref b21, .ref b22, .ref b23, .ref b24, .ref b25, .int 0, .ref b26, .ref b27, .ref b28, .ref b29, .ref b30, .ref b31, .ref b32, .int 0, .int 0, .ref b33, .ref b34, .ref b35, .ref b36, .ref b37, .int 0, .ref b38, .ref b39, .int 0, .ref b40, .ref b41, .ref b42, .ref b43, .ref b44, .ref b45, .int 0, .ref b46, .ref b47, .ref b48, .ref b49, .ref b50, .ref b51, .ref b52, .ref b53, .ref b54, .ref b55, .ref b56, .int 0, .int 0, .int 0, .int 0, .int (-1), .int 0, .int 0, .int 0, .int 0, .int 0, .int 0, .ref b57, .ref b58, .ref b59, .int 0, .ref b60, .ref b61, .int 0, .ref b62, .ref b63, .ref b64, .int 0, .ref b65, .ref b66, .ref b67, .ref b68, .ref b69, .ref b70, .int 0, .int (-1), .int 0, .ref b71, .int (-1), .int (-1), .int (-1), .ref b72, .int 0, .ref b73, .int 0, .ref b74, .int 0, .int 0, .ref b75]))]) := by
  refine ax_Mi.of (by decide +kernel) (Nat.le_of_ble_eq_true rfl) ?_
  intro p e s m args below meth c C hnm
  refine ax_ls ([(0, .ref a0), (1, .int i0), (2, .int i1), (3, .int i2)]) [0, 1, 2, 3] rfl ?_
  refine ax_aload_n (pc := 0) C d_MM_literal_0 rfl 0 rfl ?_
  refine ax_iload_n (pc := 1) C d_MM_literal_1 rfl 1 rfl ?_
  refine ax_callVi (pc := 2) C (As := [.int i0]) (rest := []) (wr := []) (m83_MM_none l D kA a0 b0 b1 b2 b3 b4 b5 b6 b7 b8 b9 b10 b11 b12 b13 b14 b15 b16 b17 b18 b19 b20 b21 b22 b23 b24 b25 b26 b27 b28 b29 b30 b31 b32 b33 b34 b35 b36 b37 b38 b39 b40 b41 b42 b43 b44 b45 b46 b47 b48 b49 b50 b51 b52 b53 b54 b55 b56 b57 b58 b59 b60 b61 b62 b63 b64 b65 b66 b67 b68 b69 b70 b71 b72 b73 b74 b75 i0) ml_MM_759 0 rfl rfl rfl d_MM_literal_2 rfl rfl [0] [] rfl (by decide) rfl (by decide) (by decide) (Nat.le_of_ble_eq_true rfl) (Nat.le_of_ble_eq_true rfl) (Nat.le_of_ble_eq_true rfl) (Nat.le_of_ble_eq_true rfl) (Nat.le_of_ble_eq_true rfl) (fun r2 w1 hw1 => ?_)
  obtain ⟨rfl, rfl⟩ := hw1
  refine ax_w ([(a0, .inr (12, [.ref b0, .ref b1, .int 0, .int 0, .int 1, .int 0, .int 0, .int 0, .int 0, .int 0, .int 0, .int 0, .int 0, .ref b2, .ref b3, .ref b4, .ref b5, .ref b6, .int 0, .int 1, .int 0, .ref b7, .ref b8, .ref b9, .ref b10, .int 0, .ref b11, .ref b12, .int 0, .int 0, .ref b13, .ref b14, .ref b15, .ref b16, .ref b17, .ref b18, .ref b19, .int 0, .int 0, .int 0, .int 0, .ref b20, .ref b21, .ref b22, .ref b23, .ref b24, .ref b25, .int 0, .ref b26, .ref b27, .ref b28, .ref b29, .ref b30, .ref b31, .ref b32, .int 0, .int 0, .ref b33, .ref b34, .ref b35, .ref b36, .ref b37, .int 0, .ref b38, .ref b39, .int 0, .ref b40, .ref b41, .ref b42, .ref b43, .ref b44, .ref b45, .int 0, .ref b46, .ref b47, .ref b48, .ref b49, .ref b50, .ref b51, .ref b52, .ref b53, .ref b54, .ref b55, .ref b56, .int 0, .int 0, .int 0, .int 0, .int (-1), .int 0, .int 0, .int 0, .int 0, .int 0, .int 0, .ref b57, .ref b58, .ref b59, .int 0, .ref b60, .ref b61, .int 0, .ref b62, .ref b63, .ref b64, .int 0, .ref b65, .ref b66, .ref b67, .ref b68, .ref b69, .ref b70, .int 0, .int (-1), .int 0, .ref b71, .int (-1), .int (-1), .int (-1), .ref b72, .int 0, .ref b73, .int 0, .ref b74, .int 0, .int 0, .ref b75]))]) rfl ?_
  refine ax_if_ne (pc := 5) C 35 d_MM_literal_5 (by decide) (fun _ => ?_) (fun h => absurd h (by decide))
  refine ax_iconst (pc := 35) C 0 d_MM_literal_35 (by decide +kernel) ?_
  exact ax_iret (pc := 36) C d_MM_literal_36 ⟨rfl, rfl⟩ (by decide) (by decide)
abbrev b_Law_show : ByteArray := method_9_code
def y_Law_show : MethodName := ⟨"ClauseProverLaw", "show", "(LClauseProver;I[J)I"⟩
theorem d_Law_show_0 : decode b_Law_show 0 = .ok (.aload_n 2, 1) := by decide +kernel
theorem d_Law_show_1 : decode b_Law_show 1 = .ok (.iconst 0, 1) := by decide +kernel
theorem d_Law_show_2 : decode b_Law_show 2 = .ok (.aload_n 0, 1) := by decide +kernel
theorem d_Law_show_3 : decode b_Law_show 3 = .ok (.iload_n 1, 1) := by decide +kernel
theorem d_Law_show_4 : decode b_Law_show 4 = .ok (.invokevirtual 37, 3) := by decide +kernel
theorem d_Law_show_7 : decode b_Law_show 7 = .ok (.i2l, 1) := by decide +kernel
theorem d_Law_show_8 : decode b_Law_show 8 = .ok (.lastore, 1) := by decide +kernel
theorem d_Law_show_9 : decode b_Law_show 9 = .ok (.goto 6, 3) := by decide +kernel
theorem d_Law_show_12 : decode b_Law_show 12 = .ok (.astore_n 3, 1) := by decide +kernel
theorem d_Law_show_13 : decode b_Law_show 13 = .ok (.iconst 1, 1) := by decide +kernel
theorem d_Law_show_14 : decode b_Law_show 14 = .ok (.ireturn, 1) := by decide +kernel
theorem d_Law_show_15 : decode b_Law_show 15 = .ok (.iconst 0, 1) := by decide +kernel
theorem d_Law_show_16 : decode b_Law_show 16 = .ok (.ireturn, 1) := by decide +kernel
abbrev b_CP_show : ByteArray := prog_1_method_11_code
def y_CP_show : MethodName := ⟨"ClauseProver", "show", "(I)I"⟩
theorem d_CP_show_0 : decode b_CP_show 0 = .ok (.aload_n 0, 1) := by decide +kernel
theorem d_CP_show_1 : decode b_CP_show 1 = .ok (.getfield 60, 3) := by decide +kernel
theorem d_CP_show_4 : decode b_CP_show 4 = .ok (.iload_n 1, 1) := by decide +kernel
theorem d_CP_show_5 : decode b_CP_show 5 = .ok (.invokevirtual 150, 3) := by decide +kernel
theorem d_CP_show_8 : decode b_CP_show 8 = .ok (.ifCond .ne 13, 3) := by decide +kernel
theorem d_CP_show_11 : decode b_CP_show 11 = .ok (.new 154, 3) := by decide +kernel
theorem d_CP_show_14 : decode b_CP_show 14 = .ok (.dup, 1) := by decide +kernel
theorem d_CP_show_15 : decode b_CP_show 15 = .ok (.ldc 156, 2) := by decide +kernel
theorem d_CP_show_17 : decode b_CP_show 17 = .ok (.invokespecial 158, 3) := by decide +kernel
theorem d_CP_show_20 : decode b_CP_show 20 = .ok (.athrow, 1) := by decide +kernel
theorem d_CP_show_21 : decode b_CP_show 21 = .ok (.aload_n 0, 1) := by decide +kernel
theorem d_CP_show_22 : decode b_CP_show 22 = .ok (.getfield 18, 3) := by decide +kernel
theorem d_CP_show_25 : decode b_CP_show 25 = .ok (.iconst 0, 1) := by decide +kernel
theorem d_CP_show_26 : decode b_CP_show 26 = .ok (.putfield 82, 3) := by decide +kernel
theorem d_CP_show_29 : decode b_CP_show 29 = .ok (.aload_n 0, 1) := by decide +kernel
theorem d_CP_show_30 : decode b_CP_show 30 = .ok (.getfield 60, 3) := by decide +kernel
theorem d_CP_show_33 : decode b_CP_show 33 = .ok (.iload_n 1, 1) := by decide +kernel
theorem d_CP_show_34 : decode b_CP_show 34 = .ok (.iconst 3, 1) := by decide +kernel
theorem d_CP_show_35 : decode b_CP_show 35 = .ok (.invokevirtual 161, 3) := by decide +kernel
theorem d_CP_show_38 : decode b_CP_show 38 = .ok (.istore_n 2, 1) := by decide +kernel
theorem d_CP_show_39 : decode b_CP_show 39 = .ok (.iload_n 2, 1) := by decide +kernel
theorem d_CP_show_40 : decode b_CP_show 40 = .ok (.ifCond .ne 9, 3) := by decide +kernel
theorem d_CP_show_43 : decode b_CP_show 43 = .ok (.aload_n 0, 1) := by decide +kernel
theorem d_CP_show_44 : decode b_CP_show 44 = .ok (.ldc 181, 2) := by decide +kernel
theorem d_CP_show_46 : decode b_CP_show 46 = .ok (.invokevirtual 183, 3) := by decide +kernel
theorem d_CP_show_49 : decode b_CP_show 49 = .ok (.aload_n 0, 1) := by decide +kernel
theorem d_CP_show_50 : decode b_CP_show 50 = .ok (.getfield 60, 3) := by decide +kernel
theorem d_CP_show_53 : decode b_CP_show 53 = .ok (.iload_n 1, 1) := by decide +kernel
theorem d_CP_show_54 : decode b_CP_show 54 = .ok (.bipush 8, 2) := by decide +kernel
theorem d_CP_show_56 : decode b_CP_show 56 = .ok (.invokevirtual 161, 3) := by decide +kernel
theorem d_CP_show_59 : decode b_CP_show 59 = .ok (.istore_n 3, 1) := by decide +kernel
theorem d_CP_show_60 : decode b_CP_show 60 = .ok (.iconst 0, 1) := by decide +kernel
theorem d_CP_show_61 : decode b_CP_show 61 = .ok (.istore 4, 2) := by decide +kernel
theorem d_CP_show_63 : decode b_CP_show 63 = .ok (.iload 4, 2) := by decide +kernel
theorem d_CP_show_65 : decode b_CP_show 65 = .ok (.iload_n 2, 1) := by decide +kernel
theorem d_CP_show_66 : decode b_CP_show 66 = .ok (.if_icmp .ge 34, 3) := by decide +kernel
theorem d_CP_show_69 : decode b_CP_show 69 = .ok (.iload 4, 2) := by decide +kernel
theorem d_CP_show_71 : decode b_CP_show 71 = .ok (.ifCond .le 9, 3) := by decide +kernel
theorem d_CP_show_74 : decode b_CP_show 74 = .ok (.aload_n 0, 1) := by decide +kernel
theorem d_CP_show_75 : decode b_CP_show 75 = .ok (.ldc 186, 2) := by decide +kernel
theorem d_CP_show_77 : decode b_CP_show 77 = .ok (.invokevirtual 183, 3) := by decide +kernel
theorem d_CP_show_80 : decode b_CP_show 80 = .ok (.aload_n 0, 1) := by decide +kernel
theorem d_CP_show_81 : decode b_CP_show 81 = .ok (.iload_n 3, 1) := by decide +kernel
theorem d_CP_show_82 : decode b_CP_show 82 = .ok (.invokevirtual 188, 3) := by decide +kernel
theorem d_CP_show_85 : decode b_CP_show 85 = .ok (.aload_n 0, 1) := by decide +kernel
theorem d_CP_show_86 : decode b_CP_show 86 = .ok (.getfield 60, 3) := by decide +kernel
theorem d_CP_show_89 : decode b_CP_show 89 = .ok (.iload_n 3, 1) := by decide +kernel
theorem d_CP_show_90 : decode b_CP_show 90 = .ok (.invokevirtual 191, 3) := by decide +kernel
theorem d_CP_show_93 : decode b_CP_show 93 = .ok (.istore_n 3, 1) := by decide +kernel
theorem d_CP_show_94 : decode b_CP_show 94 = .ok (.iinc 4 1, 3) := by decide +kernel
theorem d_CP_show_97 : decode b_CP_show 97 = .ok (.goto (-34), 3) := by decide +kernel
theorem d_CP_show_100 : decode b_CP_show 100 = .ok (.aload_n 0, 1) := by decide +kernel
theorem d_CP_show_101 : decode b_CP_show 101 = .ok (.getfield 18, 3) := by decide +kernel
theorem d_CP_show_104 : decode b_CP_show 104 = .ok (.getfield 82, 3) := by decide +kernel
theorem d_CP_show_107 : decode b_CP_show 107 = .ok (.ireturn, 1) := by decide +kernel
set_option maxHeartbeats 4000000 in
set_option maxRecDepth 100000 in
theorem m91_CP_show (l : Launch) (htr : l.stackTraces = false) (D : va_G) (kA : Nat → ClassId) (a0 : Nat) (a1 : Nat) (b0 : Nat) (b1 : Nat) (b2 : Nat) (b3 : Nat) (b4 : Nat) (b5 : Nat) (b6 : Nat) (b7 : Nat) (b8 : Nat) (b9 : Nat) (b10 : Nat) (b11 : Nat) (i0 : Int32) : ax_Mx l D kA y_CP_show b_CP_show 5 (some .int) 6 90 1 6 [.ref a0, .int i0] [(a0, .inr (11, [.ref b0, .ref b1, .ref b2, .ref b3, .ref b4, .ref b5, .ref b6, .ref a1, .ref b7, .ref b8, .int 0, .int 0])), (a1, .inr (6, [.ref b9, .ref b10, .int 0, .int 0, .ref b3, .ref b11]))] "java/util/NoSuchElementException" (fun w1 => w1 = [(a0, .inr (11, [.ref b0, .ref b1, .ref b2, .ref b3, .ref b4, .ref b5, .ref b6, .ref a1, .ref b7, .ref b8, .int 0, .int 0])), (a1, .inr (6, [.ref b9, .ref b10, .int 0, .int 0, .ref b3, .ref b11]))]) := by
  refine ax_Mx.of (by decide +kernel) (Nat.le_of_ble_eq_true rfl) ?_
  intro p e s m args below meth c C hadm hex hX hP0
  refine ax_ls ([(0, .ref a0), (1, .int i0)]) [0, 1] rfl ?_
  refine ax_aload_n (pc := 0) C d_CP_show_0 rfl 0 rfl ?_
  refine ax_get (pc := 1) C k_CP 7 lk_CP_60 d_CP_show_1 (Nat.le_of_ble_eq_true rfl) 0 rfl rfl ?_
  refine ax_iload_n (pc := 4) C d_CP_show_4 rfl 1 rfl ?_
  refine ax_callVi (pc := 5) C (As := [.int i0]) (rest := []) (wr := [(a0, .inr (11, [.ref b0, .ref b1, .ref b2, .ref b3, .ref b4, .ref b5, .ref b6, .ref a1, .ref b7, .ref b8, .int 0, .int 0]))]) (m81_Sto_has l D kA a1 b9 b10 b3 b11 i0) ml_CP_150 1 rfl rfl rfl d_CP_show_5 rfl rfl [1] [0] rfl (by decide) rfl (by decide) (by decide) (Nat.le_of_ble_eq_true rfl) (Nat.le_of_ble_eq_true rfl) (Nat.le_of_ble_eq_true rfl) (Nat.le_of_ble_eq_true rfl) (Nat.le_of_ble_eq_true rfl) (fun r5 w1 hw1 => ?_)
  obtain ⟨rfl, rfl⟩ := hw1
  refine ax_w ([(a0, .inr (11, [.ref b0, .ref b1, .ref b2, .ref b3, .ref b4, .ref b5, .ref b6, .ref a1, .ref b7, .ref b8, .int 0, .int 0])), (a1, .inr (6, [.ref b9, .ref b10, .int 0, .int 0, .ref b3, .ref b11]))]) rfl ?_
  refine ax_if_ne (pc := 8) C 21 d_CP_show_8 (by decide) (fun h => absurd h (by decide)) (fun _ => ?_)
  exact ax_throw2 (pc := 11) C hadm htr hex hX hP0 (is := 156) (tx := "no such clause") ta_NSE (by decide +kernel) (by decide) tb_classLink_1290 tb_instantiable_1291 tb_initialized_25 (by decide +kernel) (by decide +kernel) (by decide +kernel) (by decide +kernel) d_CP_show_11 d_CP_show_14 d_CP_show_15 d_CP_show_17 d_CP_show_20 (Nat.le_of_ble_eq_true rfl) (Nat.le_of_ble_eq_true rfl) (Nat.le_of_ble_eq_true rfl) (Nat.le_of_ble_eq_true rfl) rfl rfl rfl
theorem tc_CP_show : Cond.code y_CP_show b_CP_show 5 (some (.int)) ∈ lw_tbg := tb_in (i := 1332) (by decide +kernel) rfl
theorem ml_Law_37 : ax_LV "ClauseProverLaw" 37 y_CP_show b_CP_show 5 (some (.int)) 1 := ax_LV.mk (tb_in (i := 1329) (by decide +kernel) rfl) (tb_in (i := 1330) (by decide +kernel) rfl) (tb_in (i := 1331) (by decide +kernel) rfl) ti_CP tc_CP_show (by decide +kernel)
set_option maxHeartbeats 4000000 in
set_option maxRecDepth 100000 in
theorem m90_Law_show (l : Launch) (htr : l.stackTraces = false) (D : va_G) (kA : Nat → ClassId) (a0 : Nat) (a1 : Nat) (b0 : Nat) (b1 : Nat) (b2 : Nat) (b3 : Nat) (b4 : Nat) (b5 : Nat) (b6 : Nat) (b7 : Nat) (b8 : Nat) (b9 : Nat) (b10 : Nat) (b11 : Nat) (b12 : Nat) (i0 : Int32) : ax_Mw l D kA y_Law_show b_Law_show 4 [(0, 9, 12, 28)] 7 114 1 6 [.ref a0, .int i0, .ref b0] [(a0, .inr (11, [.ref b1, .ref b2, .ref b3, .ref b4, .ref b5, .ref b6, .ref b7, .ref a1, .ref b8, .ref b9, .int 0, .int 0])), (a1, .inr (6, [.ref b10, .ref b11, .int 0, .int 0, .ref b4, .ref b12]))] (fun r w1 => r = 1 ∧ w1 = [(a0, .inr (11, [.ref b1, .ref b2, .ref b3, .ref b4, .ref b5, .ref b6, .ref b7, .ref a1, .ref b8, .ref b9, .int 0, .int 0])), (a1, .inr (6, [.ref b10, .ref b11, .int 0, .int 0, .ref b4, .ref b12]))]) := by
  refine ax_Mw.of (by decide +kernel) (Nat.le_of_ble_eq_true rfl) ?_
  intro p e s m args below meth c C hadm hmeth hcode htb hX
  refine ax_ls ([(0, .ref a0), (1, .int i0), (2, .ref b0)]) [0, 1, 2] rfl ?_
  refine ax_aload_n (pc := 0) C d_Law_show_0 rfl 2 rfl ?_
  refine ax_iconst (pc := 1) C 0 d_Law_show_1 (by decide +kernel) ?_
  refine ax_aload_n (pc := 2) C d_Law_show_2 rfl 0 rfl ?_
  refine ax_iload_n (pc := 3) C d_Law_show_3 rfl 1 rfl ?_
  refine ax_callVx (pc := 4) C hX (hpc := 12) (As := [.int i0]) (rest := [.int 0, .ref b0]) (wr := []) (m91_CP_show l htr D kA a0 a1 b1 b2 b3 b4 b5 b6 b7 b8 b9 b10 b11 b12 i0) ml_Law_37 0 rfl rfl rfl d_Law_show_4 rfl rfl [0, 1] [] rfl (by decide) rfl (by decide) (by decide) (Nat.le_of_ble_eq_true rfl) (Nat.le_of_ble_eq_true rfl) (Nat.le_of_ble_eq_true rfl) (Nat.le_of_ble_eq_true rfl) (Nat.le_of_ble_eq_true rfl) (cx_F1 hadm hmeth hcode C.2.2.2.1 htb ⟨by decide, by decide⟩ (by decide) (C.2.2.2.2.1 _ tb_classLink_1284)) (fun xe4 w1 hw1 => ?_)
  obtain rfl := hw1
  refine ax_w ([(a0, .inr (11, [.ref b1, .ref b2, .ref b3, .ref b4, .ref b5, .ref b6, .ref b7, .ref a1, .ref b8, .ref b9, .int 0, .int 0])), (a1, .inr (6, [.ref b10, .ref b11, .int 0, .int 0, .ref b4, .ref b12]))]) rfl ?_
  refine ax_astore_n (pc := 12) C d_Law_show_12 rfl (Nat.le_of_ble_eq_true rfl) ([(3, .ref xe4), (0, .ref a0), (1, .int i0), (2, .ref b0)]) rfl ?_
  refine ax_iconst (pc := 13) C 1 d_Law_show_13 (by decide +kernel) ?_
  exact ax_iret (pc := 14) C d_Law_show_14 ⟨rfl, rfl⟩ (by decide) (by decide)
abbrev b_MM_show : ByteArray := prog_14_method_119_code
def y_MM_show : MethodName := ⟨"ClauseProverModel", "show", "(I)I"⟩
theorem d_MM_show_0 : decode b_MM_show 0 = .ok (.aload_n 0, 1) := by decide +kernel
theorem d_MM_show_1 : decode b_MM_show 1 = .ok (.iload_n 1, 1) := by decide +kernel
theorem d_MM_show_2 : decode b_MM_show 2 = .ok (.invokevirtual 759, 3) := by decide +kernel
theorem d_MM_show_5 : decode b_MM_show 5 = .ok (.ifCond .eq 5, 3) := by decide +kernel
theorem d_MM_show_8 : decode b_MM_show 8 = .ok (.iconst 0, 1) := by decide +kernel
theorem d_MM_show_9 : decode b_MM_show 9 = .ok (.ireturn, 1) := by decide +kernel
theorem d_MM_show_10 : decode b_MM_show 10 = .ok (.aload_n 0, 1) := by decide +kernel
theorem d_MM_show_11 : decode b_MM_show 11 = .ok (.iconst 0, 1) := by decide +kernel
theorem d_MM_show_12 : decode b_MM_show 12 = .ok (.putfield 21, 3) := by decide +kernel
theorem d_MM_show_15 : decode b_MM_show 15 = .ok (.aload_n 0, 1) := by decide +kernel
theorem d_MM_show_16 : decode b_MM_show 16 = .ok (.getfield 235, 3) := by decide +kernel
theorem d_MM_show_19 : decode b_MM_show 19 = .ok (.iload_n 1, 1) := by decide +kernel
theorem d_MM_show_20 : decode b_MM_show 20 = .ok (.iaload, 1) := by decide +kernel
theorem d_MM_show_21 : decode b_MM_show 21 = .ok (.istore_n 2, 1) := by decide +kernel
theorem d_MM_show_22 : decode b_MM_show 22 = .ok (.iload_n 2, 1) := by decide +kernel
theorem d_MM_show_23 : decode b_MM_show 23 = .ok (.aload_n 0, 1) := by decide +kernel
theorem d_MM_show_24 : decode b_MM_show 24 = .ok (.getfield 235, 3) := by decide +kernel
theorem d_MM_show_27 : decode b_MM_show 27 = .ok (.iload_n 1, 1) := by decide +kernel
theorem d_MM_show_28 : decode b_MM_show 28 = .ok (.iaload, 1) := by decide +kernel
theorem d_MM_show_29 : decode b_MM_show 29 = .ok (.aload_n 0, 1) := by decide +kernel
theorem d_MM_show_30 : decode b_MM_show 30 = .ok (.getfield 238, 3) := by decide +kernel
theorem d_MM_show_33 : decode b_MM_show 33 = .ok (.iload_n 1, 1) := by decide +kernel
theorem d_MM_show_34 : decode b_MM_show 34 = .ok (.iaload, 1) := by decide +kernel
theorem d_MM_show_35 : decode b_MM_show 35 = .ok (.iadd, 1) := by decide +kernel
theorem d_MM_show_36 : decode b_MM_show 36 = .ok (.if_icmp .ge 42, 3) := by decide +kernel
theorem d_MM_show_39 : decode b_MM_show 39 = .ok (.iload_n 2, 1) := by decide +kernel
theorem d_MM_show_40 : decode b_MM_show 40 = .ok (.aload_n 0, 1) := by decide +kernel
theorem d_MM_show_41 : decode b_MM_show 41 = .ok (.getfield 235, 3) := by decide +kernel
theorem d_MM_show_44 : decode b_MM_show 44 = .ok (.iload_n 1, 1) := by decide +kernel
theorem d_MM_show_45 : decode b_MM_show 45 = .ok (.iaload, 1) := by decide +kernel
theorem d_MM_show_46 : decode b_MM_show 46 = .ok (.if_icmp .le 21, 3) := by decide +kernel
theorem d_MM_show_49 : decode b_MM_show 49 = .ok (.aload_n 0, 1) := by decide +kernel
theorem d_MM_show_50 : decode b_MM_show 50 = .ok (.bipush 32, 2) := by decide +kernel
theorem d_MM_show_52 : decode b_MM_show 52 = .ok (.invokevirtual 765, 3) := by decide +kernel
theorem d_MM_show_55 : decode b_MM_show 55 = .ok (.aload_n 0, 1) := by decide +kernel
theorem d_MM_show_56 : decode b_MM_show 56 = .ok (.bipush 124, 2) := by decide +kernel
theorem d_MM_show_58 : decode b_MM_show 58 = .ok (.invokevirtual 765, 3) := by decide +kernel
theorem d_MM_show_61 : decode b_MM_show 61 = .ok (.aload_n 0, 1) := by decide +kernel
theorem d_MM_show_62 : decode b_MM_show 62 = .ok (.bipush 32, 2) := by decide +kernel
theorem d_MM_show_64 : decode b_MM_show 64 = .ok (.invokevirtual 765, 3) := by decide +kernel
theorem d_MM_show_67 : decode b_MM_show 67 = .ok (.aload_n 0, 1) := by decide +kernel
theorem d_MM_show_68 : decode b_MM_show 68 = .ok (.iload_n 2, 1) := by decide +kernel
theorem d_MM_show_69 : decode b_MM_show 69 = .ok (.invokevirtual 771, 3) := by decide +kernel
theorem d_MM_show_72 : decode b_MM_show 72 = .ok (.iinc 2 1, 3) := by decide +kernel
theorem d_MM_show_75 : decode b_MM_show 75 = .ok (.goto (-53), 3) := by decide +kernel
theorem d_MM_show_78 : decode b_MM_show 78 = .ok (.aload_n 0, 1) := by decide +kernel
theorem d_MM_show_79 : decode b_MM_show 79 = .ok (.getfield 238, 3) := by decide +kernel
theorem d_MM_show_82 : decode b_MM_show 82 = .ok (.iload_n 1, 1) := by decide +kernel
theorem d_MM_show_83 : decode b_MM_show 83 = .ok (.iaload, 1) := by decide +kernel
theorem d_MM_show_84 : decode b_MM_show 84 = .ok (.ifCond .ne 33, 3) := by decide +kernel
theorem d_MM_show_87 : decode b_MM_show 87 = .ok (.aload_n 0, 1) := by decide +kernel
theorem d_MM_show_88 : decode b_MM_show 88 = .ok (.bipush 102, 2) := by decide +kernel
theorem d_MM_show_90 : decode b_MM_show 90 = .ok (.invokevirtual 765, 3) := by decide +kernel
theorem d_MM_show_93 : decode b_MM_show 93 = .ok (.aload_n 0, 1) := by decide +kernel
theorem d_MM_show_94 : decode b_MM_show 94 = .ok (.bipush 97, 2) := by decide +kernel
theorem d_MM_show_96 : decode b_MM_show 96 = .ok (.invokevirtual 765, 3) := by decide +kernel
theorem d_MM_show_99 : decode b_MM_show 99 = .ok (.aload_n 0, 1) := by decide +kernel
theorem d_MM_show_100 : decode b_MM_show 100 = .ok (.bipush 108, 2) := by decide +kernel
theorem d_MM_show_102 : decode b_MM_show 102 = .ok (.invokevirtual 765, 3) := by decide +kernel
theorem d_MM_show_105 : decode b_MM_show 105 = .ok (.aload_n 0, 1) := by decide +kernel
theorem d_MM_show_106 : decode b_MM_show 106 = .ok (.bipush 115, 2) := by decide +kernel
theorem d_MM_show_108 : decode b_MM_show 108 = .ok (.invokevirtual 765, 3) := by decide +kernel
theorem d_MM_show_111 : decode b_MM_show 111 = .ok (.aload_n 0, 1) := by decide +kernel
theorem d_MM_show_112 : decode b_MM_show 112 = .ok (.bipush 101, 2) := by decide +kernel
theorem d_MM_show_114 : decode b_MM_show 114 = .ok (.invokevirtual 765, 3) := by decide +kernel
theorem d_MM_show_117 : decode b_MM_show 117 = .ok (.aload_n 0, 1) := by decide +kernel
theorem d_MM_show_118 : decode b_MM_show 118 = .ok (.getfield 21, 3) := by decide +kernel
theorem d_MM_show_121 : decode b_MM_show 121 = .ok (.ireturn, 1) := by decide +kernel
theorem tc_Law_show : Cond.codeWith y_Law_show b_Law_show 4 (some .int) [(0, 9, 12, 28)] ∈ lw_tbg := tb_in (i := 1328) (by decide +kernel) rfl
theorem mw_Law_97 : ax_LSw "ClauseProverLaw" 97 y_Law_show b_Law_show 4 [(0, 9, 12, 28)] 3 := ax_LSw.mk (tb_in (i := 1326) (by decide +kernel) rfl) (tb_in (i := 1327) (by decide +kernel) rfl) ti_Law tc_Law_show (by decide +kernel)
set_option maxHeartbeats 4000000 in
set_option maxRecDepth 100000 in
theorem m92_MM_show (l : Launch) (D : va_G) (kA : Nat → ClassId) (a0 : Nat) (b0 : Nat) (b1 : Nat) (b2 : Nat) (b3 : Nat) (b4 : Nat) (b5 : Nat) (b6 : Nat) (b7 : Nat) (b8 : Nat) (b9 : Nat) (b10 : Nat) (b11 : Nat) (b12 : Nat) (b13 : Nat) (b14 : Nat) (b15 : Nat) (b16 : Nat) (b17 : Nat) (b18 : Nat) (b19 : Nat) (b20 : Nat) (b21 : Nat) (b22 : Nat) (b23 : Nat) (b24 : Nat) (b25 : Nat) (b26 : Nat) (b27 : Nat) (b28 : Nat) (b29 : Nat) (b30 : Nat) (b31 : Nat) (b32 : Nat) (b33 : Nat) (b34 : Nat) (b35 : Nat) (b36 : Nat) (b37 : Nat) (b38 : Nat) (b39 : Nat) (b40 : Nat) (b41 : Nat) (b42 : Nat) (b43 : Nat) (b44 : Nat) (b45 : Nat) (b46 : Nat) (b47 : Nat) (b48 : Nat) (b49 : Nat) (b50 : Nat) (b51 : Nat) (b52 : Nat) (b53 : Nat) (b54 : Nat) (b55 : Nat) (b56 : Nat) (b57 : Nat) (b58 : Nat) (b59 : Nat) (b60 : Nat) (b61 : Nat) (b62 : Nat) (b63 : Nat) (b64 : Nat) (b65 : Nat) (b66 : Nat) (b67 : Nat) (b68 : Nat) (b69 : Nat) (b70 : Nat) (b71 : Nat) (b72 : Nat) (b73 : Nat) (b74 : Nat) (b75 : Nat) (i0 : Int32) : ax_Mi l D kA y_MM_show b_MM_show 3 .int 2 43 0 0 [.ref a0, .int i0] [(a0, .inr (12, [.ref b0, .ref b1, .int 0, .int 0, .int 0, .int 0, .int 0, .int 0, .int 0, .int 0, .int 0, .int 0, .int 0, .ref b2, .ref b3, .ref b4, .ref b5, .ref b6, .int 0, .int 1, .int 0, .ref b7, .ref b8, .ref b9, .ref b10, .int 0, .ref b11, .ref b12, .int 0, .int 0, .ref b13, .ref b14, .ref b15, .ref b16, .ref b17, .ref b18, .ref b19, .int 0, .int 0, .int 0, .int 0, .ref b20, .ref b21, .ref b22, .ref b23, .ref b24, .ref b25, .int 0, .ref b26, .ref b27, .ref b28, .ref b29, .ref b30, .ref b31, .ref b32, .int 0, .int 0, .ref b33, .ref b34, .ref b35, .ref b36, .ref b37, .int 0, .ref b38, .ref b39, .int 0, .ref b40, .ref b41, .ref b42, .ref b43, .ref b44, .ref b45, .int 0, .ref b46, .ref b47, .ref b48, .ref b49, .ref b50, .ref b51, .ref b52, .ref b53, .ref b54, .ref b55, .ref b56, .int 0, .int 0, .int 0, .int 0, .int (-1), .int 0, .int 0, .int 0, .int 0, .int 0, .int 0, .ref b57, .ref b58, .ref b59, .int 0, .ref b60, .ref b61, .int 0, .ref b62, .ref b63, .ref b64, .int 0, .ref b65, .ref b66, .ref b67, .ref b68, .ref b69, .ref b70, .int 0, .int (-1), .int 0, .ref b71, .int (-1), .int (-1), .int (-1), .ref b72, .int 0, .ref b73, .int 0, .ref b74, .int 0, .int 0, .ref b75]))] (fun r w1 => r = 0 ∧ w1 = [(a0, .inr (12, [.ref b0, .ref b1, .int 0, .int 0, .int 1, .int 0, .int 0, .int 0, .int 0, .int 0, .int 0, .int 0, .int 0, .ref b2, .ref b3, .ref b4, .ref b5, .ref b6, .int 0, .int 1, .int 0, .ref b7, .ref b8, .ref b9, .ref b10, .int 0, .ref b11, .ref b12, .int 0, .int 0, .ref b13, .ref b14, .ref b15, .ref b16, .ref b17, .ref b18, .ref b19, .int 0, .int 0, .int 0, .int 0, .ref b20, .ref b21, .ref b22, .ref b23, .ref b24, .ref b25, .int 0, .ref b26, .ref b27, .ref b28, .ref b29, .ref b30, .ref b31, .ref b32, .int 0, .int 0, .ref b33, .ref b34, .ref b35, .ref b36, .ref b37, .int 0, .ref b38, .ref b39, .int 0, .ref b40, .ref b41, .ref b42, .ref b43, .ref b44, .ref b45, .int 0, .ref b46, .ref b47, .ref b48, .ref b49, .ref b50, .ref b51, .ref b52, .ref b53, .ref b54, .ref b55, .ref b56, .int 0, .int 0, .int 0, .int 0, .int (-1), .int 0, .int 0, .int 0, .int 0, .int 0, .int 0, .ref b57, .ref b58, .ref b59, .int 0, .ref b60, .ref b61, .int 0, .ref b62, .ref b63, .ref b64, .int 0, .ref b65, .ref b66, .ref b67, .ref b68, .ref b69, .ref b70, .int 0, .int (-1), .int 0, .ref b71, .int (-1), .int (-1), .int (-1), .ref b72, .int 0, .ref b73, .int 0, .ref b74, .int 0, .int 0, .ref b75]))]) := by
  refine ax_Mi.of (by decide +kernel) (Nat.le_of_ble_eq_true rfl) ?_
  intro p e s m args below meth c C hnm
  refine ax_ls ([(0, .ref a0), (1, .int i0)]) [0, 1] rfl ?_
  refine ax_aload_n (pc := 0) C d_MM_show_0 rfl 0 rfl ?_
  refine ax_iload_n (pc := 1) C d_MM_show_1 rfl 1 rfl ?_
  refine ax_callVi (pc := 2) C (As := [.int i0]) (rest := []) (wr := []) (m83_MM_none l D kA a0 b0 b1 b2 b3 b4 b5 b6 b7 b8 b9 b10 b11 b12 b13 b14 b15 b16 b17 b18 b19 b20 b21 b22 b23 b24 b25 b26 b27 b28 b29 b30 b31 b32 b33 b34 b35 b36 b37 b38 b39 b40 b41 b42 b43 b44 b45 b46 b47 b48 b49 b50 b51 b52 b53 b54 b55 b56 b57 b58 b59 b60 b61 b62 b63 b64 b65 b66 b67 b68 b69 b70 b71 b72 b73 b74 b75 i0) ml_MM_759 0 rfl rfl rfl d_MM_show_2 rfl rfl [0] [] rfl (by decide) rfl (by decide) (by decide) (Nat.le_of_ble_eq_true rfl) (Nat.le_of_ble_eq_true rfl) (Nat.le_of_ble_eq_true rfl) (Nat.le_of_ble_eq_true rfl) (Nat.le_of_ble_eq_true rfl) (fun r2 w1 hw1 => ?_)
  obtain ⟨rfl, rfl⟩ := hw1
  refine ax_w ([(a0, .inr (12, [.ref b0, .ref b1, .int 0, .int 0, .int 1, .int 0, .int 0, .int 0, .int 0, .int 0, .int 0, .int 0, .int 0, .ref b2, .ref b3, .ref b4, .ref b5, .ref b6, .int 0, .int 1, .int 0, .ref b7, .ref b8, .ref b9, .ref b10, .int 0, .ref b11, .ref b12, .int 0, .int 0, .ref b13, .ref b14, .ref b15, .ref b16, .ref b17, .ref b18, .ref b19, .int 0, .int 0, .int 0, .int 0, .ref b20, .ref b21, .ref b22, .ref b23, .ref b24, .ref b25, .int 0, .ref b26, .ref b27, .ref b28, .ref b29, .ref b30, .ref b31, .ref b32, .int 0, .int 0, .ref b33, .ref b34, .ref b35, .ref b36, .ref b37, .int 0, .ref b38, .ref b39, .int 0, .ref b40, .ref b41, .ref b42, .ref b43, .ref b44, .ref b45, .int 0, .ref b46, .ref b47, .ref b48, .ref b49, .ref b50, .ref b51, .ref b52, .ref b53, .ref b54, .ref b55, .ref b56, .int 0, .int 0, .int 0, .int 0, .int (-1), .int 0, .int 0, .int 0, .int 0, .int 0, .int 0, .ref b57, .ref b58, .ref b59, .int 0, .ref b60, .ref b61, .int 0, .ref b62, .ref b63, .ref b64, .int 0, .ref b65, .ref b66, .ref b67, .ref b68, .ref b69, .ref b70, .int 0, .int (-1), .int 0, .ref b71, .int (-1), .int (-1), .int (-1), .ref b72, .int 0, .ref b73, .int 0, .ref b74, .int 0, .int 0, .ref b75]))]) rfl ?_
  refine ax_if_eq (pc := 5) C 10 d_MM_show_5 (by decide) (fun h => absurd h (by decide)) (fun _ => ?_)
  refine ax_iconst (pc := 8) C 0 d_MM_show_8 (by decide +kernel) ?_
  exact ax_iret (pc := 9) C d_MM_show_9 ⟨rfl, rfl⟩ (by decide) (by decide)
abbrev b_Law_out : ByteArray := method_10_code
def y_Law_out : MethodName := ⟨"ClauseProverLaw", "out", "(LClauseProver;I[J)I"⟩
theorem d_Law_out_0 : decode b_Law_out 0 = .ok (.aload_n 2, 1) := by decide +kernel
theorem d_Law_out_1 : decode b_Law_out 1 = .ok (.iconst 0, 1) := by decide +kernel
theorem d_Law_out_2 : decode b_Law_out 2 = .ok (.aload_n 0, 1) := by decide +kernel
theorem d_Law_out_3 : decode b_Law_out 3 = .ok (.iload_n 1, 1) := by decide +kernel
theorem d_Law_out_4 : decode b_Law_out 4 = .ok (.invokevirtual 40, 3) := by decide +kernel
theorem d_Law_out_7 : decode b_Law_out 7 = .ok (.i2l, 1) := by decide +kernel
theorem d_Law_out_8 : decode b_Law_out 8 = .ok (.lastore, 1) := by decide +kernel
theorem d_Law_out_9 : decode b_Law_out 9 = .ok (.goto 6, 3) := by decide +kernel
theorem d_Law_out_12 : decode b_Law_out 12 = .ok (.astore_n 3, 1) := by decide +kernel
theorem d_Law_out_13 : decode b_Law_out 13 = .ok (.iconst 1, 1) := by decide +kernel
theorem d_Law_out_14 : decode b_Law_out 14 = .ok (.ireturn, 1) := by decide +kernel
theorem d_Law_out_15 : decode b_Law_out 15 = .ok (.iconst 0, 1) := by decide +kernel
theorem d_Law_out_16 : decode b_Law_out 16 = .ok (.ireturn, 1) := by decide +kernel
abbrev b_CP_out : ByteArray := prog_1_method_17_code
def y_CP_out : MethodName := ⟨"ClauseProver", "out", "(I)I"⟩
theorem d_CP_out_0 : decode b_CP_out 0 = .ok (.iload_n 1, 1) := by decide +kernel
theorem d_CP_out_1 : decode b_CP_out 1 = .ok (.ifCond .lt 14, 3) := by decide +kernel
theorem d_CP_out_4 : decode b_CP_out 4 = .ok (.iload_n 1, 1) := by decide +kernel
theorem d_CP_out_5 : decode b_CP_out 5 = .ok (.aload_n 0, 1) := by decide +kernel
theorem d_CP_out_6 : decode b_CP_out 6 = .ok (.getfield 18, 3) := by decide +kernel
theorem d_CP_out_9 : decode b_CP_out 9 = .ok (.getfield 82, 3) := by decide +kernel
theorem d_CP_out_12 : decode b_CP_out 12 = .ok (.if_icmp .lt 13, 3) := by decide +kernel
theorem d_CP_out_15 : decode b_CP_out 15 = .ok (.new 253, 3) := by decide +kernel
theorem d_CP_out_18 : decode b_CP_out 18 = .ok (.dup, 1) := by decide +kernel
theorem d_CP_out_19 : decode b_CP_out 19 = .ok (.ldc 255, 2) := by decide +kernel
theorem d_CP_out_21 : decode b_CP_out 21 = .ok (.invokespecial 257, 3) := by decide +kernel
theorem d_CP_out_24 : decode b_CP_out 24 = .ok (.athrow, 1) := by decide +kernel
theorem d_CP_out_25 : decode b_CP_out 25 = .ok (.aload_n 0, 1) := by decide +kernel
theorem d_CP_out_26 : decode b_CP_out 26 = .ok (.getfield 18, 3) := by decide +kernel
theorem d_CP_out_29 : decode b_CP_out 29 = .ok (.getfield 110, 3) := by decide +kernel
theorem d_CP_out_32 : decode b_CP_out 32 = .ok (.iload_n 1, 1) := by decide +kernel
theorem d_CP_out_33 : decode b_CP_out 33 = .ok (.iaload, 1) := by decide +kernel
theorem d_CP_out_34 : decode b_CP_out 34 = .ok (.ireturn, 1) := by decide +kernel
theorem tb_classLink_1426 : Cond.classLink "ClauseProver" 253 "java/lang/IndexOutOfBoundsException" ∈ lw_tbg := tb_in (i := 1426) (by decide +kernel) rfl
theorem tb_instantiable_1427 : Cond.instantiable "java/lang/IndexOutOfBoundsException" 6 ∈ lw_tbg := tb_in (i := 1427) (by decide +kernel) rfl
theorem tb_initialized_30 : Cond.initialized "java/lang/IndexOutOfBoundsException" ∈ lw_tbg := tb_in (i := 30) (by decide +kernel) rfl
theorem tb_classLink_1421 : Cond.classLink "ClauseProverLaw" 43 "java/lang/IndexOutOfBoundsException" ∈ lw_tbg := tb_in (i := 1421) (by decide +kernel) rfl
set_option maxHeartbeats 4000000 in
set_option maxRecDepth 100000 in
theorem m94_CP_out (l : Launch) (htr : l.stackTraces = false) (D : va_G) (kA : Nat → ClassId) (a0 : Nat) (a1 : Nat) (b0 : Nat) (b1 : Nat) (b2 : Nat) (b3 : Nat) (b4 : Nat) (b5 : Nat) (b6 : Nat) (b7 : Nat) (b8 : Nat) (b9 : Nat) (i0 : Int32) : ax_Mx l D kA y_CP_out b_CP_out 2 (some .int) 6 90 1 6 [.ref a0, .int i0] [(a0, .inr (11, [.ref b0, .ref a1, .ref b1, .ref b2, .ref b3, .ref b4, .ref b5, .ref b6, .ref b7, .ref b8, .int 0, .int 0])), (a1, .inr (0, [.ref b9, .int 0]))] "java/lang/IndexOutOfBoundsException" (fun w1 => w1 = [(a0, .inr (11, [.ref b0, .ref a1, .ref b1, .ref b2, .ref b3, .ref b4, .ref b5, .ref b6, .ref b7, .ref b8, .int 0, .int 0])), (a1, .inr (0, [.ref b9, .int 0]))]) := by
  refine ax_Mx.of (by decide +kernel) (Nat.le_of_ble_eq_true rfl) ?_
  intro p e s m args below meth c C hadm hex hX hP0
  refine ax_ls ([(0, .ref a0), (1, .int i0)]) [0, 1] rfl ?_
  refine ax_iload_n (pc := 0) C d_CP_out_0 rfl 1 rfl ?_
  refine ax_if_lt (pc := 1) C 15 d_CP_out_1 (by decide) (fun hc1_1 => ?_) (fun hc1_1 => ?_)
  · exact ax_throw2 (pc := 15) C hadm htr hex hX hP0 (is := 255) (tx := "no such byte") ta_IOB (by decide +kernel) (by decide) tb_classLink_1426 tb_instantiable_1427 tb_initialized_30 (by decide +kernel) (by decide +kernel) (by decide +kernel) (by decide +kernel) d_CP_out_15 d_CP_out_18 d_CP_out_19 d_CP_out_21 d_CP_out_24 (Nat.le_of_ble_eq_true rfl) (Nat.le_of_ble_eq_true rfl) (Nat.le_of_ble_eq_true rfl) (Nat.le_of_ble_eq_true rfl) rfl rfl rfl
  · refine ax_iload_n (pc := 4) C d_CP_out_4 rfl 1 rfl ?_
    refine ax_aload_n (pc := 5) C d_CP_out_5 rfl 0 rfl ?_
    refine ax_get (pc := 6) C k_CP 1 lk_CP_18 d_CP_out_6 (Nat.le_of_ble_eq_true rfl) 0 rfl rfl ?_
    refine ax_get (pc := 9) C k_Row 1 lk_CP_82 d_CP_out_9 (Nat.le_of_ble_eq_true rfl) 1 rfl rfl ?_
    refine ax_icmp_lt (pc := 12) C 25 d_CP_out_12 (by decide) (fun h => absurd h hc1_1) (fun _ => ?_)
    exact ax_throw2 (pc := 15) C hadm htr hex hX hP0 (is := 255) (tx := "no such byte") ta_IOB (by decide +kernel) (by decide) tb_classLink_1426 tb_instantiable_1427 tb_initialized_30 (by decide +kernel) (by decide +kernel) (by decide +kernel) (by decide +kernel) d_CP_out_15 d_CP_out_18 d_CP_out_19 d_CP_out_21 d_CP_out_24 (Nat.le_of_ble_eq_true rfl) (Nat.le_of_ble_eq_true rfl) (Nat.le_of_ble_eq_true rfl) (Nat.le_of_ble_eq_true rfl) rfl rfl rfl
theorem tc_CP_out : Cond.code y_CP_out b_CP_out 2 (some (.int)) ∈ lw_tbg := tb_in (i := 1425) (by decide +kernel) rfl
theorem ml_Law_40 : ax_LV "ClauseProverLaw" 40 y_CP_out b_CP_out 2 (some (.int)) 1 := ax_LV.mk (tb_in (i := 1422) (by decide +kernel) rfl) (tb_in (i := 1423) (by decide +kernel) rfl) (tb_in (i := 1424) (by decide +kernel) rfl) ti_CP tc_CP_out (by decide +kernel)
set_option maxHeartbeats 4000000 in
set_option maxRecDepth 100000 in
theorem m93_Law_out (l : Launch) (htr : l.stackTraces = false) (D : va_G) (kA : Nat → ClassId) (a0 : Nat) (a1 : Nat) (b0 : Nat) (b1 : Nat) (b2 : Nat) (b3 : Nat) (b4 : Nat) (b5 : Nat) (b6 : Nat) (b7 : Nat) (b8 : Nat) (b9 : Nat) (b10 : Nat) (i0 : Int32) : ax_Mw l D kA y_Law_out b_Law_out 4 [(0, 9, 12, 43)] 7 111 1 6 [.ref a0, .int i0, .ref b0] [(a0, .inr (11, [.ref b1, .ref a1, .ref b2, .ref b3, .ref b4, .ref b5, .ref b6, .ref b7, .ref b8, .ref b9, .int 0, .int 0])), (a1, .inr (0, [.ref b10, .int 0]))] (fun r w1 => r = 1 ∧ w1 = [(a0, .inr (11, [.ref b1, .ref a1, .ref b2, .ref b3, .ref b4, .ref b5, .ref b6, .ref b7, .ref b8, .ref b9, .int 0, .int 0])), (a1, .inr (0, [.ref b10, .int 0]))]) := by
  refine ax_Mw.of (by decide +kernel) (Nat.le_of_ble_eq_true rfl) ?_
  intro p e s m args below meth c C hadm hmeth hcode htb hX
  refine ax_ls ([(0, .ref a0), (1, .int i0), (2, .ref b0)]) [0, 1, 2] rfl ?_
  refine ax_aload_n (pc := 0) C d_Law_out_0 rfl 2 rfl ?_
  refine ax_iconst (pc := 1) C 0 d_Law_out_1 (by decide +kernel) ?_
  refine ax_aload_n (pc := 2) C d_Law_out_2 rfl 0 rfl ?_
  refine ax_iload_n (pc := 3) C d_Law_out_3 rfl 1 rfl ?_
  refine ax_callVx (pc := 4) C hX (hpc := 12) (As := [.int i0]) (rest := [.int 0, .ref b0]) (wr := []) (m94_CP_out l htr D kA a0 a1 b1 b2 b3 b4 b5 b6 b7 b8 b9 b10 i0) ml_Law_40 0 rfl rfl rfl d_Law_out_4 rfl rfl [0, 1] [] rfl (by decide) rfl (by decide) (by decide) (Nat.le_of_ble_eq_true rfl) (Nat.le_of_ble_eq_true rfl) (Nat.le_of_ble_eq_true rfl) (Nat.le_of_ble_eq_true rfl) (Nat.le_of_ble_eq_true rfl) (cx_F1 hadm hmeth hcode C.2.2.2.1 htb ⟨by decide, by decide⟩ (by decide) (C.2.2.2.2.1 _ tb_classLink_1421)) (fun xe4 w1 hw1 => ?_)
  obtain rfl := hw1
  refine ax_w ([(a0, .inr (11, [.ref b1, .ref a1, .ref b2, .ref b3, .ref b4, .ref b5, .ref b6, .ref b7, .ref b8, .ref b9, .int 0, .int 0])), (a1, .inr (0, [.ref b10, .int 0]))]) rfl ?_
  refine ax_astore_n (pc := 12) C d_Law_out_12 rfl (Nat.le_of_ble_eq_true rfl) ([(3, .ref xe4), (0, .ref a0), (1, .int i0), (2, .ref b0)]) rfl ?_
  refine ax_iconst (pc := 13) C 1 d_Law_out_13 (by decide +kernel) ?_
  exact ax_iret (pc := 14) C d_Law_out_14 ⟨rfl, rfl⟩ (by decide) (by decide)
abbrev b_MM_out : ByteArray := prog_14_method_121_code
def y_MM_out : MethodName := ⟨"ClauseProverModel", "out", "(I)I"⟩
theorem d_MM_out_0 : decode b_MM_out 0 = .ok (.aload_n 0, 1) := by decide +kernel
theorem d_MM_out_1 : decode b_MM_out 1 = .ok (.iconst 0, 1) := by decide +kernel
theorem d_MM_out_2 : decode b_MM_out 2 = .ok (.putfield 24, 3) := by decide +kernel
theorem d_MM_out_5 : decode b_MM_out 5 = .ok (.aload_n 0, 1) := by decide +kernel
theorem d_MM_out_6 : decode b_MM_out 6 = .ok (.iconst 1, 1) := by decide +kernel
theorem d_MM_out_7 : decode b_MM_out 7 = .ok (.iload_n 1, 1) := by decide +kernel
theorem d_MM_out_8 : decode b_MM_out 8 = .ok (.ifCond .lt 11, 3) := by decide +kernel
theorem d_MM_out_11 : decode b_MM_out 11 = .ok (.iload_n 1, 1) := by decide +kernel
theorem d_MM_out_12 : decode b_MM_out 12 = .ok (.aload_n 0, 1) := by decide +kernel
theorem d_MM_out_13 : decode b_MM_out 13 = .ok (.getfield 21, 3) := by decide +kernel
theorem d_MM_out_16 : decode b_MM_out 16 = .ok (.if_icmp .lt 7, 3) := by decide +kernel
theorem d_MM_out_19 : decode b_MM_out 19 = .ok (.iconst 1, 1) := by decide +kernel
theorem d_MM_out_20 : decode b_MM_out 20 = .ok (.goto 4, 3) := by decide +kernel
theorem d_MM_out_23 : decode b_MM_out 23 = .ok (.iconst 0, 1) := by decide +kernel
theorem d_MM_out_24 : decode b_MM_out 24 = .ok (.invokevirtual 401, 3) := by decide +kernel
theorem d_MM_out_27 : decode b_MM_out 27 = .ok (.ifCond .eq 5, 3) := by decide +kernel
theorem d_MM_out_30 : decode b_MM_out 30 = .ok (.iconst 0, 1) := by decide +kernel
theorem d_MM_out_31 : decode b_MM_out 31 = .ok (.ireturn, 1) := by decide +kernel
theorem d_MM_out_32 : decode b_MM_out 32 = .ok (.aload_n 0, 1) := by decide +kernel
theorem d_MM_out_33 : decode b_MM_out 33 = .ok (.getfield 14, 3) := by decide +kernel
theorem d_MM_out_36 : decode b_MM_out 36 = .ok (.iload_n 1, 1) := by decide +kernel
theorem d_MM_out_37 : decode b_MM_out 37 = .ok (.baload, 1) := by decide +kernel
theorem d_MM_out_38 : decode b_MM_out 38 = .ok (.ireturn, 1) := by decide +kernel
theorem tc_Law_out : Cond.codeWith y_Law_out b_Law_out 4 (some .int) [(0, 9, 12, 43)] ∈ lw_tbg := tb_in (i := 1420) (by decide +kernel) rfl
theorem mw_Law_100 : ax_LSw "ClauseProverLaw" 100 y_Law_out b_Law_out 4 [(0, 9, 12, 43)] 3 := ax_LSw.mk (tb_in (i := 1418) (by decide +kernel) rfl) (tb_in (i := 1419) (by decide +kernel) rfl) ti_Law tc_Law_out (by decide +kernel)
set_option maxHeartbeats 4000000 in
set_option maxRecDepth 100000 in
theorem m95_MM_out (l : Launch) (D : va_G) (kA : Nat → ClassId) (a0 : Nat) (b0 : Nat) (b1 : Nat) (b2 : Nat) (b3 : Nat) (b4 : Nat) (b5 : Nat) (b6 : Nat) (b7 : Nat) (b8 : Nat) (b9 : Nat) (b10 : Nat) (b11 : Nat) (b12 : Nat) (b13 : Nat) (b14 : Nat) (b15 : Nat) (b16 : Nat) (b17 : Nat) (b18 : Nat) (b19 : Nat) (b20 : Nat) (b21 : Nat) (b22 : Nat) (b23 : Nat) (b24 : Nat) (b25 : Nat) (b26 : Nat) (b27 : Nat) (b28 : Nat) (b29 : Nat) (b30 : Nat) (b31 : Nat) (b32 : Nat) (b33 : Nat) (b34 : Nat) (b35 : Nat) (b36 : Nat) (b37 : Nat) (b38 : Nat) (b39 : Nat) (b40 : Nat) (b41 : Nat) (b42 : Nat) (b43 : Nat) (b44 : Nat) (b45 : Nat) (b46 : Nat) (b47 : Nat) (b48 : Nat) (b49 : Nat) (b50 : Nat) (b51 : Nat) (b52 : Nat) (b53 : Nat) (b54 : Nat) (b55 : Nat) (b56 : Nat) (b57 : Nat) (b58 : Nat) (b59 : Nat) (b60 : Nat) (b61 : Nat) (b62 : Nat) (b63 : Nat) (b64 : Nat) (b65 : Nat) (b66 : Nat) (b67 : Nat) (b68 : Nat) (b69 : Nat) (b70 : Nat) (b71 : Nat) (b72 : Nat) (b73 : Nat) (b74 : Nat) (b75 : Nat) (i0 : Int32) : ax_Mi l D kA y_MM_out b_MM_out 2 .int 1 22 0 0 [.ref a0, .int i0] [(a0, .inr (12, [.ref b0, .ref b1, .int 0, .int 0, .int 0, .int 0, .int 0, .int 0, .int 0, .int 0, .int 0, .int 0, .int 0, .ref b2, .ref b3, .ref b4, .ref b5, .ref b6, .int 0, .int 1, .int 0, .ref b7, .ref b8, .ref b9, .ref b10, .int 0, .ref b11, .ref b12, .int 0, .int 0, .ref b13, .ref b14, .ref b15, .ref b16, .ref b17, .ref b18, .ref b19, .int 0, .int 0, .int 0, .int 0, .ref b20, .ref b21, .ref b22, .ref b23, .ref b24, .ref b25, .int 0, .ref b26, .ref b27, .ref b28, .ref b29, .ref b30, .ref b31, .ref b32, .int 0, .int 0, .ref b33, .ref b34, .ref b35, .ref b36, .ref b37, .int 0, .ref b38, .ref b39, .int 0, .ref b40, .ref b41, .ref b42, .ref b43, .ref b44, .ref b45, .int 0, .ref b46, .ref b47, .ref b48, .ref b49, .ref b50, .ref b51, .ref b52, .ref b53, .ref b54, .ref b55, .ref b56, .int 0, .int 0, .int 0, .int 0, .int (-1), .int 0, .int 0, .int 0, .int 0, .int 0, .int 0, .ref b57, .ref b58, .ref b59, .int 0, .ref b60, .ref b61, .int 0, .ref b62, .ref b63, .ref b64, .int 0, .ref b65, .ref b66, .ref b67, .ref b68, .ref b69, .ref b70, .int 0, .int (-1), .int 0, .ref b71, .int (-1), .int (-1), .int (-1), .ref b72, .int 0, .ref b73, .int 0, .ref b74, .int 0, .int 0, .ref b75]))] (fun r w1 => r = 0 ∧ w1 = [(a0, .inr (12, [.ref b0, .ref b1, .int 0, .int 0, .int 1, .int 0, .int 0, .int 0, .int 0, .int 0, .int 0, .int 0, .int 0, .ref b2, .ref b3, .ref b4, .ref b5, .ref b6, .int 0, .int 1, .int 0, .ref b7, .ref b8, .ref b9, .ref b10, .int 0, .ref b11, .ref b12, .int 0, .int 0, .ref b13, .ref b14, .ref b15, .ref b16, .ref b17, .ref b18, .ref b19, .int 0, .int 0, .int 0, .int 0, .ref b20, .ref b21, .ref b22, .ref b23, .ref b24, .ref b25, .int 0, .ref b26, .ref b27, .ref b28, .ref b29, .ref b30, .ref b31, .ref b32, .int 0, .int 0, .ref b33, .ref b34, .ref b35, .ref b36, .ref b37, .int 0, .ref b38, .ref b39, .int 0, .ref b40, .ref b41, .ref b42, .ref b43, .ref b44, .ref b45, .int 0, .ref b46, .ref b47, .ref b48, .ref b49, .ref b50, .ref b51, .ref b52, .ref b53, .ref b54, .ref b55, .ref b56, .int 0, .int 0, .int 0, .int 0, .int (-1), .int 0, .int 0, .int 0, .int 0, .int 0, .int 0, .ref b57, .ref b58, .ref b59, .int 0, .ref b60, .ref b61, .int 0, .ref b62, .ref b63, .ref b64, .int 0, .ref b65, .ref b66, .ref b67, .ref b68, .ref b69, .ref b70, .int 0, .int (-1), .int 0, .ref b71, .int (-1), .int (-1), .int (-1), .ref b72, .int 0, .ref b73, .int 0, .ref b74, .int 0, .int 0, .ref b75]))]) := by
  refine ax_Mi.of (by decide +kernel) (Nat.le_of_ble_eq_true rfl) ?_
  intro p e s m args below meth c C hnm
  refine ax_ls ([(0, .ref a0), (1, .int i0)]) [0, 1] rfl ?_
  refine ax_aload_n (pc := 0) C d_MM_out_0 rfl 0 rfl ?_
  refine ax_iconst (pc := 1) C 0 d_MM_out_1 (by decide +kernel) ?_
  refine ax_put (pc := 2) C k_MM 4 lk_MM_24 d_MM_out_2 (Nat.le_of_ble_eq_true rfl) 0 rfl rfl rfl rfl (Nat.le_of_ble_eq_true rfl) ?_
  refine ax_w ([(a0, .inr (12, [.ref b0, .ref b1, .int 0, .int 0, .int 0, .int 0, .int 0, .int 0, .int 0, .int 0, .int 0, .int 0, .int 0, .ref b2, .ref b3, .ref b4, .ref b5, .ref b6, .int 0, .int 1, .int 0, .ref b7, .ref b8, .ref b9, .ref b10, .int 0, .ref b11, .ref b12, .int 0, .int 0, .ref b13, .ref b14, .ref b15, .ref b16, .ref b17, .ref b18, .ref b19, .int 0, .int 0, .int 0, .int 0, .ref b20, .ref b21, .ref b22, .ref b23, .ref b24, .ref b25, .int 0, .ref b26, .ref b27, .ref b28, .ref b29, .ref b30, .ref b31, .ref b32, .int 0, .int 0, .ref b33, .ref b34, .ref b35, .ref b36, .ref b37, .int 0, .ref b38, .ref b39, .int 0, .ref b40, .ref b41, .ref b42, .ref b43, .ref b44, .ref b45, .int 0, .ref b46, .ref b47, .ref b48, .ref b49, .ref b50, .ref b51, .ref b52, .ref b53, .ref b54, .ref b55, .ref b56, .int 0, .int 0, .int 0, .int 0, .int (-1), .int 0, .int 0, .int 0, .int 0, .int 0, .int 0, .ref b57, .ref b58, .ref b59, .int 0, .ref b60, .ref b61, .int 0, .ref b62, .ref b63, .ref b64, .int 0, .ref b65, .ref b66, .ref b67, .ref b68, .ref b69, .ref b70, .int 0, .int (-1), .int 0, .ref b71, .int (-1), .int (-1), .int (-1), .ref b72, .int 0, .ref b73, .int 0, .ref b74, .int 0, .int 0, .ref b75]))]) rfl ?_
  refine ax_aload_n (pc := 5) C d_MM_out_5 rfl 0 rfl ?_
  refine ax_iconst (pc := 6) C 1 d_MM_out_6 (by decide +kernel) ?_
  refine ax_iload_n (pc := 7) C d_MM_out_7 rfl 1 rfl ?_
  refine ax_if_lt (pc := 8) C 19 d_MM_out_8 (by decide) (fun hc8_1 => ?_) (fun hc8_1 => ?_)
  · refine ax_iconst (pc := 19) C 1 d_MM_out_19 (by decide +kernel) ?_
    refine ax_goto (pc := 20) C 24 d_MM_out_20 (by decide) ?_
    refine ax_callVi (pc := 24) C (As := [.int 1, .int 1]) (rest := []) (wr := []) (m34_MM_refuse l D kA a0 b0 b1 b2 b3 b4 b5 b6 b7 b8 b9 b10 b11 b12 b13 b14 b15 b16 b17 b18 b19 b20 b21 b22 b23 b24 b25 b26 b27 b28 b29 b30 b31 b32 b33 b34 b35 b36 b37 b38 b39 b40 b41 b42 b43 b44 b45 b46 b47 b48 b49 b50 b51 b52 b53 b54 b55 b56 b57 b58 b59 b60 b61 b62 b63 b64 b65 b66 b67 b68 b69 b70 b71 b72 b73 b74 b75) ml_MM_401 0 rfl rfl rfl d_MM_out_24 rfl rfl [0] [] rfl (by decide) rfl (by decide) (by decide) (Nat.le_of_ble_eq_true rfl) (Nat.le_of_ble_eq_true rfl) (Nat.le_of_ble_eq_true rfl) (Nat.le_of_ble_eq_true rfl) (Nat.le_of_ble_eq_true rfl) (fun r24 w1 hw1 => ?_)
    obtain ⟨rfl, rfl⟩ := hw1
    refine ax_w ([(a0, .inr (12, [.ref b0, .ref b1, .int 0, .int 0, .int 1, .int 0, .int 0, .int 0, .int 0, .int 0, .int 0, .int 0, .int 0, .ref b2, .ref b3, .ref b4, .ref b5, .ref b6, .int 0, .int 1, .int 0, .ref b7, .ref b8, .ref b9, .ref b10, .int 0, .ref b11, .ref b12, .int 0, .int 0, .ref b13, .ref b14, .ref b15, .ref b16, .ref b17, .ref b18, .ref b19, .int 0, .int 0, .int 0, .int 0, .ref b20, .ref b21, .ref b22, .ref b23, .ref b24, .ref b25, .int 0, .ref b26, .ref b27, .ref b28, .ref b29, .ref b30, .ref b31, .ref b32, .int 0, .int 0, .ref b33, .ref b34, .ref b35, .ref b36, .ref b37, .int 0, .ref b38, .ref b39, .int 0, .ref b40, .ref b41, .ref b42, .ref b43, .ref b44, .ref b45, .int 0, .ref b46, .ref b47, .ref b48, .ref b49, .ref b50, .ref b51, .ref b52, .ref b53, .ref b54, .ref b55, .ref b56, .int 0, .int 0, .int 0, .int 0, .int (-1), .int 0, .int 0, .int 0, .int 0, .int 0, .int 0, .ref b57, .ref b58, .ref b59, .int 0, .ref b60, .ref b61, .int 0, .ref b62, .ref b63, .ref b64, .int 0, .ref b65, .ref b66, .ref b67, .ref b68, .ref b69, .ref b70, .int 0, .int (-1), .int 0, .ref b71, .int (-1), .int (-1), .int (-1), .ref b72, .int 0, .ref b73, .int 0, .ref b74, .int 0, .int 0, .ref b75]))]) rfl ?_
    refine ax_if_eq (pc := 27) C 32 d_MM_out_27 (by decide) (fun h => absurd h (by decide)) (fun _ => ?_)
    refine ax_iconst (pc := 30) C 0 d_MM_out_30 (by decide +kernel) ?_
    exact ax_iret (pc := 31) C d_MM_out_31 ⟨rfl, rfl⟩ (by decide) (by decide)
  · refine ax_iload_n (pc := 11) C d_MM_out_11 rfl 1 rfl ?_
    refine ax_aload_n (pc := 12) C d_MM_out_12 rfl 0 rfl ?_
    refine ax_get (pc := 13) C k_MM 3 lk_MM_21 d_MM_out_13 (Nat.le_of_ble_eq_true rfl) 0 rfl rfl ?_
    refine ax_icmp_lt (pc := 16) C 23 d_MM_out_16 (by decide) (fun h => absurd h hc8_1) (fun _ => ?_)
    refine ax_iconst (pc := 19) C 1 d_MM_out_19 (by decide +kernel) ?_
    refine ax_goto (pc := 20) C 24 d_MM_out_20 (by decide) ?_
    refine ax_callVi (pc := 24) C (As := [.int 1, .int 1]) (rest := []) (wr := []) (m34_MM_refuse l D kA a0 b0 b1 b2 b3 b4 b5 b6 b7 b8 b9 b10 b11 b12 b13 b14 b15 b16 b17 b18 b19 b20 b21 b22 b23 b24 b25 b26 b27 b28 b29 b30 b31 b32 b33 b34 b35 b36 b37 b38 b39 b40 b41 b42 b43 b44 b45 b46 b47 b48 b49 b50 b51 b52 b53 b54 b55 b56 b57 b58 b59 b60 b61 b62 b63 b64 b65 b66 b67 b68 b69 b70 b71 b72 b73 b74 b75) ml_MM_401 0 rfl rfl rfl d_MM_out_24 rfl rfl [0] [] rfl (by decide) rfl (by decide) (by decide) (Nat.le_of_ble_eq_true rfl) (Nat.le_of_ble_eq_true rfl) (Nat.le_of_ble_eq_true rfl) (Nat.le_of_ble_eq_true rfl) (Nat.le_of_ble_eq_true rfl) (fun r24 w1 hw1 => ?_)
    obtain ⟨rfl, rfl⟩ := hw1
    refine ax_w ([(a0, .inr (12, [.ref b0, .ref b1, .int 0, .int 0, .int 1, .int 0, .int 0, .int 0, .int 0, .int 0, .int 0, .int 0, .int 0, .ref b2, .ref b3, .ref b4, .ref b5, .ref b6, .int 0, .int 1, .int 0, .ref b7, .ref b8, .ref b9, .ref b10, .int 0, .ref b11, .ref b12, .int 0, .int 0, .ref b13, .ref b14, .ref b15, .ref b16, .ref b17, .ref b18, .ref b19, .int 0, .int 0, .int 0, .int 0, .ref b20, .ref b21, .ref b22, .ref b23, .ref b24, .ref b25, .int 0, .ref b26, .ref b27, .ref b28, .ref b29, .ref b30, .ref b31, .ref b32, .int 0, .int 0, .ref b33, .ref b34, .ref b35, .ref b36, .ref b37, .int 0, .ref b38, .ref b39, .int 0, .ref b40, .ref b41, .ref b42, .ref b43, .ref b44, .ref b45, .int 0, .ref b46, .ref b47, .ref b48, .ref b49, .ref b50, .ref b51, .ref b52, .ref b53, .ref b54, .ref b55, .ref b56, .int 0, .int 0, .int 0, .int 0, .int (-1), .int 0, .int 0, .int 0, .int 0, .int 0, .int 0, .ref b57, .ref b58, .ref b59, .int 0, .ref b60, .ref b61, .int 0, .ref b62, .ref b63, .ref b64, .int 0, .ref b65, .ref b66, .ref b67, .ref b68, .ref b69, .ref b70, .int 0, .int (-1), .int 0, .ref b71, .int (-1), .int (-1), .int (-1), .ref b72, .int 0, .ref b73, .int 0, .ref b74, .int 0, .int 0, .ref b75]))]) rfl ?_
    refine ax_if_eq (pc := 27) C 32 d_MM_out_27 (by decide) (fun h => absurd h (by decide)) (fun _ => ?_)
    refine ax_iconst (pc := 30) C 0 d_MM_out_30 (by decide +kernel) ?_
    exact ax_iret (pc := 31) C d_MM_out_31 ⟨rfl, rfl⟩ (by decide) (by decide)
abbrev b_Law_symbol : ByteArray := method_11_code
def y_Law_symbol : MethodName := ⟨"ClauseProverLaw", "symbol", "(LClauseProver;II[J)I"⟩
theorem d_Law_symbol_0 : decode b_Law_symbol 0 = .ok (.aload_n 3, 1) := by decide +kernel
theorem d_Law_symbol_1 : decode b_Law_symbol 1 = .ok (.iconst 0, 1) := by decide +kernel
theorem d_Law_symbol_2 : decode b_Law_symbol 2 = .ok (.aload_n 0, 1) := by decide +kernel
theorem d_Law_symbol_3 : decode b_Law_symbol 3 = .ok (.iload_n 1, 1) := by decide +kernel
theorem d_Law_symbol_4 : decode b_Law_symbol 4 = .ok (.iload_n 2, 1) := by decide +kernel
theorem d_Law_symbol_5 : decode b_Law_symbol 5 = .ok (.invokevirtual 45, 3) := by decide +kernel
theorem d_Law_symbol_8 : decode b_Law_symbol 8 = .ok (.i2l, 1) := by decide +kernel
theorem d_Law_symbol_9 : decode b_Law_symbol 9 = .ok (.lastore, 1) := by decide +kernel
theorem d_Law_symbol_10 : decode b_Law_symbol 10 = .ok (.goto 11, 3) := by decide +kernel
theorem d_Law_symbol_13 : decode b_Law_symbol 13 = .ok (.astore 4, 2) := by decide +kernel
theorem d_Law_symbol_15 : decode b_Law_symbol 15 = .ok (.iconst 1, 1) := by decide +kernel
theorem d_Law_symbol_16 : decode b_Law_symbol 16 = .ok (.ireturn, 1) := by decide +kernel
theorem d_Law_symbol_17 : decode b_Law_symbol 17 = .ok (.astore 4, 2) := by decide +kernel
theorem d_Law_symbol_19 : decode b_Law_symbol 19 = .ok (.iconst 2, 1) := by decide +kernel
theorem d_Law_symbol_20 : decode b_Law_symbol 20 = .ok (.ireturn, 1) := by decide +kernel
theorem d_Law_symbol_21 : decode b_Law_symbol 21 = .ok (.iconst 0, 1) := by decide +kernel
theorem d_Law_symbol_22 : decode b_Law_symbol 22 = .ok (.ireturn, 1) := by decide +kernel
abbrev b_CP_symbol : ByteArray := prog_1_method_18_code
def y_CP_symbol : MethodName := ⟨"ClauseProver", "symbol", "(II)I"⟩
theorem d_CP_symbol_0 : decode b_CP_symbol 0 = .ok (.iload_n 1, 1) := by decide +kernel
theorem d_CP_symbol_1 : decode b_CP_symbol 1 = .ok (.ifCond .lt 14, 3) := by decide +kernel
theorem d_CP_symbol_4 : decode b_CP_symbol 4 = .ok (.iload_n 1, 1) := by decide +kernel
theorem d_CP_symbol_5 : decode b_CP_symbol 5 = .ok (.aload_n 0, 1) := by decide +kernel
theorem d_CP_symbol_6 : decode b_CP_symbol 6 = .ok (.getfield 28, 3) := by decide +kernel
theorem d_CP_symbol_9 : decode b_CP_symbol 9 = .ok (.getfield 258, 3) := by decide +kernel
theorem d_CP_symbol_12 : decode b_CP_symbol 12 = .ok (.if_icmp .lt 14, 3) := by decide +kernel
theorem d_CP_symbol_15 : decode b_CP_symbol 15 = .ok (.new 154, 3) := by decide +kernel
theorem d_CP_symbol_18 : decode b_CP_symbol 18 = .ok (.dup, 1) := by decide +kernel
theorem d_CP_symbol_19 : decode b_CP_symbol 19 = .ok (.ldc_w 259, 3) := by decide +kernel
theorem d_CP_symbol_22 : decode b_CP_symbol 22 = .ok (.invokespecial 158, 3) := by decide +kernel
theorem d_CP_symbol_25 : decode b_CP_symbol 25 = .ok (.athrow, 1) := by decide +kernel
theorem d_CP_symbol_26 : decode b_CP_symbol 26 = .ok (.iload_n 2, 1) := by decide +kernel
theorem d_CP_symbol_27 : decode b_CP_symbol 27 = .ok (.ifCond .lt 8, 3) := by decide +kernel
theorem d_CP_symbol_30 : decode b_CP_symbol 30 = .ok (.iload_n 2, 1) := by decide +kernel
theorem d_CP_symbol_31 : decode b_CP_symbol 31 = .ok (.iconst 2, 1) := by decide +kernel
theorem d_CP_symbol_32 : decode b_CP_symbol 32 = .ok (.if_icmp .le 13, 3) := by decide +kernel
theorem d_CP_symbol_35 : decode b_CP_symbol 35 = .ok (.new 100, 3) := by decide +kernel
theorem d_CP_symbol_38 : decode b_CP_symbol 38 = .ok (.dup, 1) := by decide +kernel
theorem d_CP_symbol_39 : decode b_CP_symbol 39 = .ok (.ldc 159, 2) := by decide +kernel
theorem d_CP_symbol_41 : decode b_CP_symbol 41 = .ok (.invokespecial 104, 3) := by decide +kernel
theorem d_CP_symbol_44 : decode b_CP_symbol 44 = .ok (.athrow, 1) := by decide +kernel
theorem d_CP_symbol_45 : decode b_CP_symbol 45 = .ok (.iload_n 2, 1) := by decide +kernel
theorem d_CP_symbol_46 : decode b_CP_symbol 46 = .ok (.ifCond .ne 13, 3) := by decide +kernel
theorem d_CP_symbol_49 : decode b_CP_symbol 49 = .ok (.aload_n 0, 1) := by decide +kernel
theorem d_CP_symbol_50 : decode b_CP_symbol 50 = .ok (.getfield 28, 3) := by decide +kernel
theorem d_CP_symbol_53 : decode b_CP_symbol 53 = .ok (.getfield 213, 3) := by decide +kernel
theorem d_CP_symbol_56 : decode b_CP_symbol 56 = .ok (.iload_n 1, 1) := by decide +kernel
theorem d_CP_symbol_57 : decode b_CP_symbol 57 = .ok (.iaload, 1) := by decide +kernel
theorem d_CP_symbol_58 : decode b_CP_symbol 58 = .ok (.ireturn, 1) := by decide +kernel
theorem d_CP_symbol_59 : decode b_CP_symbol 59 = .ok (.iload_n 2, 1) := by decide +kernel
theorem d_CP_symbol_60 : decode b_CP_symbol 60 = .ok (.iconst 1, 1) := by decide +kernel
theorem d_CP_symbol_61 : decode b_CP_symbol 61 = .ok (.if_icmp .ne 14, 3) := by decide +kernel
theorem d_CP_symbol_64 : decode b_CP_symbol 64 = .ok (.aload_n 0, 1) := by decide +kernel
theorem d_CP_symbol_65 : decode b_CP_symbol 65 = .ok (.getfield 28, 3) := by decide +kernel
theorem d_CP_symbol_68 : decode b_CP_symbol 68 = .ok (.iload_n 1, 1) := by decide +kernel
theorem d_CP_symbol_69 : decode b_CP_symbol 69 = .ok (.invokevirtual 261, 3) := by decide +kernel
theorem d_CP_symbol_72 : decode b_CP_symbol 72 = .ok (.goto 11, 3) := by decide +kernel
theorem d_CP_symbol_75 : decode b_CP_symbol 75 = .ok (.aload_n 0, 1) := by decide +kernel
theorem d_CP_symbol_76 : decode b_CP_symbol 76 = .ok (.getfield 28, 3) := by decide +kernel
theorem d_CP_symbol_79 : decode b_CP_symbol 79 = .ok (.iload_n 1, 1) := by decide +kernel
theorem d_CP_symbol_80 : decode b_CP_symbol 80 = .ok (.invokevirtual 227, 3) := by decide +kernel
theorem d_CP_symbol_83 : decode b_CP_symbol 83 = .ok (.istore_n 3, 1) := by decide +kernel
theorem d_CP_symbol_84 : decode b_CP_symbol 84 = .ok (.iload_n 3, 1) := by decide +kernel
theorem d_CP_symbol_85 : decode b_CP_symbol 85 = .ok (.ifCond .eq 7, 3) := by decide +kernel
theorem d_CP_symbol_88 : decode b_CP_symbol 88 = .ok (.iconst 1, 1) := by decide +kernel
theorem d_CP_symbol_89 : decode b_CP_symbol 89 = .ok (.goto 4, 3) := by decide +kernel
theorem d_CP_symbol_92 : decode b_CP_symbol 92 = .ok (.iconst 0, 1) := by decide +kernel
theorem d_CP_symbol_93 : decode b_CP_symbol 93 = .ok (.ireturn, 1) := by decide +kernel
set_option maxHeartbeats 4000000 in
set_option maxRecDepth 100000 in
theorem m97_CP_symbol (l : Launch) (htr : l.stackTraces = false) (D : va_G) (kA : Nat → ClassId) (b0 : Nat) (i0 : Int32) (i1 : Int32) (h0 : i0 < 0) : ax_Mx l D kA y_CP_symbol b_CP_symbol 4 (some .int) 6 90 1 6 [.ref b0, .int i0, .int i1] [] "java/util/NoSuchElementException" (fun w1 => w1 = []) := by
  refine ax_Mx.of (by decide +kernel) (Nat.le_of_ble_eq_true rfl) ?_
  intro p e s m args below meth c C hadm hex hX hP0
  refine ax_ls ([(0, .ref b0), (1, .int i0), (2, .int i1)]) [0, 1, 2] rfl ?_
  refine ax_iload_n (pc := 0) C d_CP_symbol_0 rfl 1 rfl ?_
  refine ax_if_lt (pc := 1) C 15 d_CP_symbol_1 (by decide) (fun _ => ?_) (fun h => absurd h0 h)
  exact ax_throw3 (pc := 15) C hadm htr hex hX hP0 (is := 259) (tx := "no such symbol") ta_NSE (by decide +kernel) (by decide) tb_classLink_1290 tb_instantiable_1291 tb_initialized_25 (by decide +kernel) (by decide +kernel) (by decide +kernel) (by decide +kernel) d_CP_symbol_15 d_CP_symbol_18 d_CP_symbol_19 d_CP_symbol_22 d_CP_symbol_25 (Nat.le_of_ble_eq_true rfl) (Nat.le_of_ble_eq_true rfl) (Nat.le_of_ble_eq_true rfl) (Nat.le_of_ble_eq_true rfl) rfl rfl rfl
theorem tc_CP_symbol : Cond.code y_CP_symbol b_CP_symbol 4 (some (.int)) ∈ lw_tbg := tb_in (i := 1448) (by decide +kernel) rfl
theorem ml_Law_45 : ax_LV "ClauseProverLaw" 45 y_CP_symbol b_CP_symbol 4 (some (.int)) 2 := ax_LV.mk (tb_in (i := 1445) (by decide +kernel) rfl) (tb_in (i := 1446) (by decide +kernel) rfl) (tb_in (i := 1447) (by decide +kernel) rfl) ti_CP tc_CP_symbol (by decide +kernel)
set_option maxHeartbeats 4000000 in
set_option maxRecDepth 100000 in
theorem m96_Law_symbol (l : Launch) (htr : l.stackTraces = false) (D : va_G) (kA : Nat → ClassId) (a0 : Nat) (b0 : Nat) (b1 : Nat) (b2 : Nat) (b3 : Nat) (b4 : Nat) (b5 : Nat) (b6 : Nat) (b7 : Nat) (b8 : Nat) (b9 : Nat) (b10 : Nat) (i0 : Int32) (i1 : Int32) (h0 : i0 < 0) : ax_Mw l D kA y_Law_symbol b_Law_symbol 5 [(0, 10, 13, 28), (0, 10, 17, 19)] 7 113 1 6 [.ref a0, .int i0, .int i1, .ref b0] [(a0, .inr (11, [.ref b1, .ref b2, .ref b3, .ref b4, .ref b5, .ref b6, .ref b7, .ref b8, .ref b9, .ref b10, .int 0, .int 0]))] (fun r w1 => r = 1 ∧ w1 = [(a0, .inr (11, [.ref b1, .ref b2, .ref b3, .ref b4, .ref b5, .ref b6, .ref b7, .ref b8, .ref b9, .ref b10, .int 0, .int 0]))]) := by
  refine ax_Mw.of (by decide +kernel) (Nat.le_of_ble_eq_true rfl) ?_
  intro p e s m args below meth c C hadm hmeth hcode htb hX
  refine ax_ls ([(0, .ref a0), (1, .int i0), (2, .int i1), (3, .ref b0)]) [0, 1, 2, 3] rfl ?_
  refine ax_aload_n (pc := 0) C d_Law_symbol_0 rfl 3 rfl ?_
  refine ax_iconst (pc := 1) C 0 d_Law_symbol_1 (by decide +kernel) ?_
  refine ax_aload_n (pc := 2) C d_Law_symbol_2 rfl 0 rfl ?_
  refine ax_iload_n (pc := 3) C d_Law_symbol_3 rfl 1 rfl ?_
  refine ax_iload_n (pc := 4) C d_Law_symbol_4 rfl 2 rfl ?_
  refine ax_callVx (pc := 5) C hX (hpc := 13) (As := [.int i0, .int i1]) (rest := [.int 0, .ref b0]) (wr := [(a0, .inr (11, [.ref b1, .ref b2, .ref b3, .ref b4, .ref b5, .ref b6, .ref b7, .ref b8, .ref b9, .ref b10, .int 0, .int 0]))]) (m97_CP_symbol l htr D kA a0 i0 i1 h0) ml_Law_45 0 rfl rfl rfl d_Law_symbol_5 rfl rfl [] [0] rfl (by decide) rfl (by decide) (by decide) (Nat.le_of_ble_eq_true rfl) (Nat.le_of_ble_eq_true rfl) (Nat.le_of_ble_eq_true rfl) (Nat.le_of_ble_eq_true rfl) (Nat.le_of_ble_eq_true rfl) (cx_F1 hadm hmeth hcode C.2.2.2.1 htb ⟨by decide, by decide⟩ (by decide) (C.2.2.2.2.1 _ tb_classLink_1284)) (fun xe5 w1 hw1 => ?_)
  obtain rfl := hw1
  refine ax_w ([(a0, .inr (11, [.ref b1, .ref b2, .ref b3, .ref b4, .ref b5, .ref b6, .ref b7, .ref b8, .ref b9, .ref b10, .int 0, .int 0]))]) rfl ?_
  refine ax_astore (pc := 13) C d_Law_symbol_13 (Nat.le_of_ble_eq_true rfl) ([(4, .ref xe5), (0, .ref a0), (1, .int i0), (2, .int i1), (3, .ref b0)]) rfl ?_
  refine ax_iconst (pc := 15) C 1 d_Law_symbol_15 (by decide +kernel) ?_
  exact ax_iret (pc := 16) C d_Law_symbol_16 ⟨rfl, rfl⟩ (by decide) (by decide)
abbrev b_MM_symbol2 : ByteArray := prog_14_method_122_code
def y_MM_symbol2 : MethodName := ⟨"ClauseProverModel", "symbol", "(II)I"⟩
theorem d_MM_symbol2_0 : decode b_MM_symbol2 0 = .ok (.aload_n 0, 1) := by decide +kernel
theorem d_MM_symbol2_1 : decode b_MM_symbol2 1 = .ok (.iconst 0, 1) := by decide +kernel
theorem d_MM_symbol2_2 : decode b_MM_symbol2 2 = .ok (.putfield 24, 3) := by decide +kernel
theorem d_MM_symbol2_5 : decode b_MM_symbol2 5 = .ok (.aload_n 0, 1) := by decide +kernel
theorem d_MM_symbol2_6 : decode b_MM_symbol2 6 = .ok (.iconst 1, 1) := by decide +kernel
theorem d_MM_symbol2_7 : decode b_MM_symbol2 7 = .ok (.iload_n 1, 1) := by decide +kernel
theorem d_MM_symbol2_8 : decode b_MM_symbol2 8 = .ok (.ifCond .lt 11, 3) := by decide +kernel
theorem d_MM_symbol2_11 : decode b_MM_symbol2 11 = .ok (.iload_n 1, 1) := by decide +kernel
theorem d_MM_symbol2_12 : decode b_MM_symbol2 12 = .ok (.aload_n 0, 1) := by decide +kernel
theorem d_MM_symbol2_13 : decode b_MM_symbol2 13 = .ok (.getfield 71, 3) := by decide +kernel
theorem d_MM_symbol2_16 : decode b_MM_symbol2 16 = .ok (.if_icmp .lt 7, 3) := by decide +kernel
theorem d_MM_symbol2_19 : decode b_MM_symbol2 19 = .ok (.iconst 1, 1) := by decide +kernel
theorem d_MM_symbol2_20 : decode b_MM_symbol2 20 = .ok (.goto 4, 3) := by decide +kernel
theorem d_MM_symbol2_23 : decode b_MM_symbol2 23 = .ok (.iconst 0, 1) := by decide +kernel
theorem d_MM_symbol2_24 : decode b_MM_symbol2 24 = .ok (.invokevirtual 401, 3) := by decide +kernel
theorem d_MM_symbol2_27 : decode b_MM_symbol2 27 = .ok (.ifCond .ne 25, 3) := by decide +kernel
theorem d_MM_symbol2_30 : decode b_MM_symbol2 30 = .ok (.aload_n 0, 1) := by decide +kernel
theorem d_MM_symbol2_31 : decode b_MM_symbol2 31 = .ok (.iconst 2, 1) := by decide +kernel
theorem d_MM_symbol2_32 : decode b_MM_symbol2 32 = .ok (.iload_n 2, 1) := by decide +kernel
theorem d_MM_symbol2_33 : decode b_MM_symbol2 33 = .ok (.ifCond .lt 8, 3) := by decide +kernel
theorem d_MM_symbol2_36 : decode b_MM_symbol2 36 = .ok (.iload_n 2, 1) := by decide +kernel
theorem d_MM_symbol2_37 : decode b_MM_symbol2 37 = .ok (.iconst 2, 1) := by decide +kernel
theorem d_MM_symbol2_38 : decode b_MM_symbol2 38 = .ok (.if_icmp .le 7, 3) := by decide +kernel
theorem d_MM_symbol2_41 : decode b_MM_symbol2 41 = .ok (.iconst 1, 1) := by decide +kernel
theorem d_MM_symbol2_42 : decode b_MM_symbol2 42 = .ok (.goto 4, 3) := by decide +kernel
theorem d_MM_symbol2_45 : decode b_MM_symbol2 45 = .ok (.iconst 0, 1) := by decide +kernel
theorem d_MM_symbol2_46 : decode b_MM_symbol2 46 = .ok (.invokevirtual 401, 3) := by decide +kernel
theorem d_MM_symbol2_49 : decode b_MM_symbol2 49 = .ok (.ifCond .eq 5, 3) := by decide +kernel
theorem d_MM_symbol2_52 : decode b_MM_symbol2 52 = .ok (.iconst 0, 1) := by decide +kernel
theorem d_MM_symbol2_53 : decode b_MM_symbol2 53 = .ok (.ireturn, 1) := by decide +kernel
theorem d_MM_symbol2_54 : decode b_MM_symbol2 54 = .ok (.iload_n 2, 1) := by decide +kernel
theorem d_MM_symbol2_55 : decode b_MM_symbol2 55 = .ok (.ifCond .ne 12, 3) := by decide +kernel
theorem d_MM_symbol2_58 : decode b_MM_symbol2 58 = .ok (.aload_n 0, 1) := by decide +kernel
theorem d_MM_symbol2_59 : decode b_MM_symbol2 59 = .ok (.getfield 160, 3) := by decide +kernel
theorem d_MM_symbol2_62 : decode b_MM_symbol2 62 = .ok (.iload_n 1, 1) := by decide +kernel
theorem d_MM_symbol2_63 : decode b_MM_symbol2 63 = .ok (.iaload, 1) := by decide +kernel
theorem d_MM_symbol2_64 : decode b_MM_symbol2 64 = .ok (.goto 38, 3) := by decide +kernel
theorem d_MM_symbol2_67 : decode b_MM_symbol2 67 = .ok (.iload_n 2, 1) := by decide +kernel
theorem d_MM_symbol2_68 : decode b_MM_symbol2 68 = .ok (.iconst 1, 1) := by decide +kernel
theorem d_MM_symbol2_69 : decode b_MM_symbol2 69 = .ok (.if_icmp .ne 20, 3) := by decide +kernel
theorem d_MM_symbol2_72 : decode b_MM_symbol2 72 = .ok (.aload_n 0, 1) := by decide +kernel
theorem d_MM_symbol2_73 : decode b_MM_symbol2 73 = .ok (.getfield 163, 3) := by decide +kernel
theorem d_MM_symbol2_76 : decode b_MM_symbol2 76 = .ok (.iload_n 1, 1) := by decide +kernel
theorem d_MM_symbol2_77 : decode b_MM_symbol2 77 = .ok (.baload, 1) := by decide +kernel
theorem d_MM_symbol2_78 : decode b_MM_symbol2 78 = .ok (.ifCond .eq 7, 3) := by decide +kernel
theorem d_MM_symbol2_81 : decode b_MM_symbol2 81 = .ok (.iconst 1, 1) := by decide +kernel
theorem d_MM_symbol2_82 : decode b_MM_symbol2 82 = .ok (.goto 20, 3) := by decide +kernel
theorem d_MM_symbol2_85 : decode b_MM_symbol2 85 = .ok (.iconst 0, 1) := by decide +kernel
theorem d_MM_symbol2_86 : decode b_MM_symbol2 86 = .ok (.goto 16, 3) := by decide +kernel
theorem d_MM_symbol2_89 : decode b_MM_symbol2 89 = .ok (.iload_n 1, 1) := by decide +kernel
theorem d_MM_symbol2_90 : decode b_MM_symbol2 90 = .ok (.aload_n 0, 1) := by decide +kernel
theorem d_MM_symbol2_91 : decode b_MM_symbol2 91 = .ok (.getfield 74, 3) := by decide +kernel
theorem d_MM_symbol2_94 : decode b_MM_symbol2 94 = .ok (.if_icmp .le 7, 3) := by decide +kernel
theorem d_MM_symbol2_97 : decode b_MM_symbol2 97 = .ok (.iconst 1, 1) := by decide +kernel
theorem d_MM_symbol2_98 : decode b_MM_symbol2 98 = .ok (.goto 4, 3) := by decide +kernel
theorem d_MM_symbol2_101 : decode b_MM_symbol2 101 = .ok (.iconst 0, 1) := by decide +kernel
theorem d_MM_symbol2_102 : decode b_MM_symbol2 102 = .ok (.ireturn, 1) := by decide +kernel
theorem tc_Law_symbol : Cond.codeWith y_Law_symbol b_Law_symbol 5 (some .int) [(0, 10, 13, 28), (0, 10, 17, 19)] ∈ lw_tbg := tb_in (i := 1444) (by decide +kernel) rfl
theorem mw_Law_103 : ax_LSw "ClauseProverLaw" 103 y_Law_symbol b_Law_symbol 5 [(0, 10, 13, 28), (0, 10, 17, 19)] 4 := ax_LSw.mk (tb_in (i := 1442) (by decide +kernel) rfl) (tb_in (i := 1443) (by decide +kernel) rfl) ti_Law tc_Law_symbol (by decide +kernel)
set_option maxHeartbeats 4000000 in
set_option maxRecDepth 100000 in
theorem m98_MM_symbol2 (l : Launch) (D : va_G) (kA : Nat → ClassId) (a0 : Nat) (b0 : Nat) (b1 : Nat) (b2 : Nat) (b3 : Nat) (b4 : Nat) (b5 : Nat) (b6 : Nat) (b7 : Nat) (b8 : Nat) (b9 : Nat) (b10 : Nat) (b11 : Nat) (b12 : Nat) (b13 : Nat) (b14 : Nat) (b15 : Nat) (b16 : Nat) (b17 : Nat) (b18 : Nat) (b19 : Nat) (b20 : Nat) (b21 : Nat) (b22 : Nat) (b23 : Nat) (b24 : Nat) (b25 : Nat) (b26 : Nat) (b27 : Nat) (b28 : Nat) (b29 : Nat) (b30 : Nat) (b31 : Nat) (b32 : Nat) (b33 : Nat) (b34 : Nat) (b35 : Nat) (b36 : Nat) (b37 : Nat) (b38 : Nat) (b39 : Nat) (b40 : Nat) (b41 : Nat) (b42 : Nat) (b43 : Nat) (b44 : Nat) (b45 : Nat) (b46 : Nat) (b47 : Nat) (b48 : Nat) (b49 : Nat) (b50 : Nat) (b51 : Nat) (b52 : Nat) (b53 : Nat) (b54 : Nat) (b55 : Nat) (b56 : Nat) (b57 : Nat) (b58 : Nat) (b59 : Nat) (b60 : Nat) (b61 : Nat) (b62 : Nat) (b63 : Nat) (b64 : Nat) (b65 : Nat) (b66 : Nat) (b67 : Nat) (b68 : Nat) (b69 : Nat) (b70 : Nat) (b71 : Nat) (b72 : Nat) (b73 : Nat) (b74 : Nat) (b75 : Nat) (i0 : Int32) (i1 : Int32) (h0 : i0 < 0) : ax_Mi l D kA y_MM_symbol2 b_MM_symbol2 3 .int 1 22 0 0 [.ref a0, .int i0, .int i1] [(a0, .inr (12, [.ref b0, .ref b1, .int 0, .int 0, .int 0, .int 0, .int 0, .int 0, .int 0, .int 0, .int 0, .int 0, .int 0, .ref b2, .ref b3, .ref b4, .ref b5, .ref b6, .int 0, .int 1, .int 0, .ref b7, .ref b8, .ref b9, .ref b10, .int 0, .ref b11, .ref b12, .int 0, .int 0, .ref b13, .ref b14, .ref b15, .ref b16, .ref b17, .ref b18, .ref b19, .int 0, .int 0, .int 0, .int 0, .ref b20, .ref b21, .ref b22, .ref b23, .ref b24, .ref b25, .int 0, .ref b26, .ref b27, .ref b28, .ref b29, .ref b30, .ref b31, .ref b32, .int 0, .int 0, .ref b33, .ref b34, .ref b35, .ref b36, .ref b37, .int 0, .ref b38, .ref b39, .int 0, .ref b40, .ref b41, .ref b42, .ref b43, .ref b44, .ref b45, .int 0, .ref b46, .ref b47, .ref b48, .ref b49, .ref b50, .ref b51, .ref b52, .ref b53, .ref b54, .ref b55, .ref b56, .int 0, .int 0, .int 0, .int 0, .int (-1), .int 0, .int 0, .int 0, .int 0, .int 0, .int 0, .ref b57, .ref b58, .ref b59, .int 0, .ref b60, .ref b61, .int 0, .ref b62, .ref b63, .ref b64, .int 0, .ref b65, .ref b66, .ref b67, .ref b68, .ref b69, .ref b70, .int 0, .int (-1), .int 0, .ref b71, .int (-1), .int (-1), .int (-1), .ref b72, .int 0, .ref b73, .int 0, .ref b74, .int 0, .int 0, .ref b75]))] (fun r w1 => r = 0 ∧ w1 = [(a0, .inr (12, [.ref b0, .ref b1, .int 0, .int 0, .int 1, .int 0, .int 0, .int 0, .int 0, .int 0, .int 0, .int 0, .int 0, .ref b2, .ref b3, .ref b4, .ref b5, .ref b6, .int 0, .int 1, .int 0, .ref b7, .ref b8, .ref b9, .ref b10, .int 0, .ref b11, .ref b12, .int 0, .int 0, .ref b13, .ref b14, .ref b15, .ref b16, .ref b17, .ref b18, .ref b19, .int 0, .int 0, .int 0, .int 0, .ref b20, .ref b21, .ref b22, .ref b23, .ref b24, .ref b25, .int 0, .ref b26, .ref b27, .ref b28, .ref b29, .ref b30, .ref b31, .ref b32, .int 0, .int 0, .ref b33, .ref b34, .ref b35, .ref b36, .ref b37, .int 0, .ref b38, .ref b39, .int 0, .ref b40, .ref b41, .ref b42, .ref b43, .ref b44, .ref b45, .int 0, .ref b46, .ref b47, .ref b48, .ref b49, .ref b50, .ref b51, .ref b52, .ref b53, .ref b54, .ref b55, .ref b56, .int 0, .int 0, .int 0, .int 0, .int (-1), .int 0, .int 0, .int 0, .int 0, .int 0, .int 0, .ref b57, .ref b58, .ref b59, .int 0, .ref b60, .ref b61, .int 0, .ref b62, .ref b63, .ref b64, .int 0, .ref b65, .ref b66, .ref b67, .ref b68, .ref b69, .ref b70, .int 0, .int (-1), .int 0, .ref b71, .int (-1), .int (-1), .int (-1), .ref b72, .int 0, .ref b73, .int 0, .ref b74, .int 0, .int 0, .ref b75]))]) := by
  refine ax_Mi.of (by decide +kernel) (Nat.le_of_ble_eq_true rfl) ?_
  intro p e s m args below meth c C hnm
  refine ax_ls ([(0, .ref a0), (1, .int i0), (2, .int i1)]) [0, 1, 2] rfl ?_
  refine ax_aload_n (pc := 0) C d_MM_symbol2_0 rfl 0 rfl ?_
  refine ax_iconst (pc := 1) C 0 d_MM_symbol2_1 (by decide +kernel) ?_
  refine ax_put (pc := 2) C k_MM 4 lk_MM_24 d_MM_symbol2_2 (Nat.le_of_ble_eq_true rfl) 0 rfl rfl rfl rfl (Nat.le_of_ble_eq_true rfl) ?_
  refine ax_w ([(a0, .inr (12, [.ref b0, .ref b1, .int 0, .int 0, .int 0, .int 0, .int 0, .int 0, .int 0, .int 0, .int 0, .int 0, .int 0, .ref b2, .ref b3, .ref b4, .ref b5, .ref b6, .int 0, .int 1, .int 0, .ref b7, .ref b8, .ref b9, .ref b10, .int 0, .ref b11, .ref b12, .int 0, .int 0, .ref b13, .ref b14, .ref b15, .ref b16, .ref b17, .ref b18, .ref b19, .int 0, .int 0, .int 0, .int 0, .ref b20, .ref b21, .ref b22, .ref b23, .ref b24, .ref b25, .int 0, .ref b26, .ref b27, .ref b28, .ref b29, .ref b30, .ref b31, .ref b32, .int 0, .int 0, .ref b33, .ref b34, .ref b35, .ref b36, .ref b37, .int 0, .ref b38, .ref b39, .int 0, .ref b40, .ref b41, .ref b42, .ref b43, .ref b44, .ref b45, .int 0, .ref b46, .ref b47, .ref b48, .ref b49, .ref b50, .ref b51, .ref b52, .ref b53, .ref b54, .ref b55, .ref b56, .int 0, .int 0, .int 0, .int 0, .int (-1), .int 0, .int 0, .int 0, .int 0, .int 0, .int 0, .ref b57, .ref b58, .ref b59, .int 0, .ref b60, .ref b61, .int 0, .ref b62, .ref b63, .ref b64, .int 0, .ref b65, .ref b66, .ref b67, .ref b68, .ref b69, .ref b70, .int 0, .int (-1), .int 0, .ref b71, .int (-1), .int (-1), .int (-1), .ref b72, .int 0, .ref b73, .int 0, .ref b74, .int 0, .int 0, .ref b75]))]) rfl ?_
  refine ax_aload_n (pc := 5) C d_MM_symbol2_5 rfl 0 rfl ?_
  refine ax_iconst (pc := 6) C 1 d_MM_symbol2_6 (by decide +kernel) ?_
  refine ax_iload_n (pc := 7) C d_MM_symbol2_7 rfl 1 rfl ?_
  refine ax_if_lt (pc := 8) C 19 d_MM_symbol2_8 (by decide) (fun _ => ?_) (fun h => absurd h0 h)
  refine ax_iconst (pc := 19) C 1 d_MM_symbol2_19 (by decide +kernel) ?_
  refine ax_goto (pc := 20) C 24 d_MM_symbol2_20 (by decide) ?_
  refine ax_callVi (pc := 24) C (As := [.int 1, .int 1]) (rest := []) (wr := []) (m34_MM_refuse l D kA a0 b0 b1 b2 b3 b4 b5 b6 b7 b8 b9 b10 b11 b12 b13 b14 b15 b16 b17 b18 b19 b20 b21 b22 b23 b24 b25 b26 b27 b28 b29 b30 b31 b32 b33 b34 b35 b36 b37 b38 b39 b40 b41 b42 b43 b44 b45 b46 b47 b48 b49 b50 b51 b52 b53 b54 b55 b56 b57 b58 b59 b60 b61 b62 b63 b64 b65 b66 b67 b68 b69 b70 b71 b72 b73 b74 b75) ml_MM_401 0 rfl rfl rfl d_MM_symbol2_24 rfl rfl [0] [] rfl (by decide) rfl (by decide) (by decide) (Nat.le_of_ble_eq_true rfl) (Nat.le_of_ble_eq_true rfl) (Nat.le_of_ble_eq_true rfl) (Nat.le_of_ble_eq_true rfl) (Nat.le_of_ble_eq_true rfl) (fun r24 w1 hw1 => ?_)
  obtain ⟨rfl, rfl⟩ := hw1
  refine ax_w ([(a0, .inr (12, [.ref b0, .ref b1, .int 0, .int 0, .int 1, .int 0, .int 0, .int 0, .int 0, .int 0, .int 0, .int 0, .int 0, .ref b2, .ref b3, .ref b4, .ref b5, .ref b6, .int 0, .int 1, .int 0, .ref b7, .ref b8, .ref b9, .ref b10, .int 0, .ref b11, .ref b12, .int 0, .int 0, .ref b13, .ref b14, .ref b15, .ref b16, .ref b17, .ref b18, .ref b19, .int 0, .int 0, .int 0, .int 0, .ref b20, .ref b21, .ref b22, .ref b23, .ref b24, .ref b25, .int 0, .ref b26, .ref b27, .ref b28, .ref b29, .ref b30, .ref b31, .ref b32, .int 0, .int 0, .ref b33, .ref b34, .ref b35, .ref b36, .ref b37, .int 0, .ref b38, .ref b39, .int 0, .ref b40, .ref b41, .ref b42, .ref b43, .ref b44, .ref b45, .int 0, .ref b46, .ref b47, .ref b48, .ref b49, .ref b50, .ref b51, .ref b52, .ref b53, .ref b54, .ref b55, .ref b56, .int 0, .int 0, .int 0, .int 0, .int (-1), .int 0, .int 0, .int 0, .int 0, .int 0, .int 0, .ref b57, .ref b58, .ref b59, .int 0, .ref b60, .ref b61, .int 0, .ref b62, .ref b63, .ref b64, .int 0, .ref b65, .ref b66, .ref b67, .ref b68, .ref b69, .ref b70, .int 0, .int (-1), .int 0, .ref b71, .int (-1), .int (-1), .int (-1), .ref b72, .int 0, .ref b73, .int 0, .ref b74, .int 0, .int 0, .ref b75]))]) rfl ?_
  refine ax_if_ne (pc := 27) C 52 d_MM_symbol2_27 (by decide) (fun _ => ?_) (fun h => absurd h (by decide))
  refine ax_iconst (pc := 52) C 0 d_MM_symbol2_52 (by decide +kernel) ?_
  exact ax_iret (pc := 53) C d_MM_symbol2_53 ⟨rfl, rfl⟩ (by decide) (by decide)
theorem lk_CP_258 : Cond.fieldLink "ClauseProver" 258 (F_Sym 5).1 (F_Sym 5).2.1 (F_Sym 5).2.2.1 ∈ lw_tbg := tb_in (i := 92) (by decide +kernel) rfl
set_option maxHeartbeats 4000000 in
set_option maxRecDepth 100000 in
theorem m100_CP_symbol (l : Launch) (htr : l.stackTraces = false) (D : va_G) (kA : Nat → ClassId) (a0 : Nat) (a1 : Nat) (b0 : Nat) (b1 : Nat) (b2 : Nat) (b3 : Nat) (b4 : Nat) (b5 : Nat) (b6 : Nat) (b7 : Nat) (b8 : Nat) (b9 : Nat) (b10 : Nat) (b11 : Nat) (b12 : Nat) (b13 : Nat) (b14 : Nat) (i0 : Int32) (i1 : Int32) (h0 : ¬ i0 < 0) (h1 : ¬ i0 < 1) : ax_Mx l D kA y_CP_symbol b_CP_symbol 4 (some .int) 6 90 1 6 [.ref a0, .int i0, .int i1] [(a0, .inr (11, [.ref b0, .ref b1, .ref b2, .ref a1, .ref b3, .ref b4, .ref b5, .ref b6, .ref b7, .ref b8, .int 0, .int 0])), (a1, .inr (1, [.ref b9, .ref b10, .ref b11, .ref b12, .int 0, .int 1, .ref b13, .ref b14]))] "java/util/NoSuchElementException" (fun w1 => w1 = [(a0, .inr (11, [.ref b0, .ref b1, .ref b2, .ref a1, .ref b3, .ref b4, .ref b5, .ref b6, .ref b7, .ref b8, .int 0, .int 0])), (a1, .inr (1, [.ref b9, .ref b10, .ref b11, .ref b12, .int 0, .int 1, .ref b13, .ref b14]))]) := by
  refine ax_Mx.of (by decide +kernel) (Nat.le_of_ble_eq_true rfl) ?_
  intro p e s m args below meth c C hadm hex hX hP0
  refine ax_ls ([(0, .ref a0), (1, .int i0), (2, .int i1)]) [0, 1, 2] rfl ?_
  refine ax_iload_n (pc := 0) C d_CP_symbol_0 rfl 1 rfl ?_
  refine ax_if_lt (pc := 1) C 15 d_CP_symbol_1 (by decide) (fun h => absurd h h0) (fun _ => ?_)
  refine ax_iload_n (pc := 4) C d_CP_symbol_4 rfl 1 rfl ?_
  refine ax_aload_n (pc := 5) C d_CP_symbol_5 rfl 0 rfl ?_
  refine ax_get (pc := 6) C k_CP 3 lk_CP_28 d_CP_symbol_6 (Nat.le_of_ble_eq_true rfl) 0 rfl rfl ?_
  refine ax_get (pc := 9) C k_Sym 5 lk_CP_258 d_CP_symbol_9 (Nat.le_of_ble_eq_true rfl) 1 rfl rfl ?_
  refine ax_icmp_lt (pc := 12) C 26 d_CP_symbol_12 (by decide) (fun h => absurd h h1) (fun _ => ?_)
  exact ax_throw3 (pc := 15) C hadm htr hex hX hP0 (is := 259) (tx := "no such symbol") ta_NSE (by decide +kernel) (by decide) tb_classLink_1290 tb_instantiable_1291 tb_initialized_25 (by decide +kernel) (by decide +kernel) (by decide +kernel) (by decide +kernel) d_CP_symbol_15 d_CP_symbol_18 d_CP_symbol_19 d_CP_symbol_22 d_CP_symbol_25 (Nat.le_of_ble_eq_true rfl) (Nat.le_of_ble_eq_true rfl) (Nat.le_of_ble_eq_true rfl) (Nat.le_of_ble_eq_true rfl) rfl rfl rfl
set_option maxHeartbeats 4000000 in
set_option maxRecDepth 100000 in
theorem m99_Law_symbol (l : Launch) (htr : l.stackTraces = false) (D : va_G) (kA : Nat → ClassId) (a0 : Nat) (a1 : Nat) (b0 : Nat) (b1 : Nat) (b2 : Nat) (b3 : Nat) (b4 : Nat) (b5 : Nat) (b6 : Nat) (b7 : Nat) (b8 : Nat) (b9 : Nat) (b10 : Nat) (b11 : Nat) (b12 : Nat) (b13 : Nat) (b14 : Nat) (b15 : Nat) (i0 : Int32) (i1 : Int32) (h0 : ¬ i0 < 0) (h1 : ¬ i0 < 1) : ax_Mw l D kA y_Law_symbol b_Law_symbol 5 [(0, 10, 13, 28), (0, 10, 17, 19)] 7 113 1 6 [.ref a0, .int i0, .int i1, .ref b0] [(a0, .inr (11, [.ref b1, .ref b2, .ref b3, .ref a1, .ref b4, .ref b5, .ref b6, .ref b7, .ref b8, .ref b9, .int 0, .int 0])), (a1, .inr (1, [.ref b10, .ref b11, .ref b12, .ref b13, .int 0, .int 1, .ref b14, .ref b15]))] (fun r w1 => r = 1 ∧ w1 = [(a0, .inr (11, [.ref b1, .ref b2, .ref b3, .ref a1, .ref b4, .ref b5, .ref b6, .ref b7, .ref b8, .ref b9, .int 0, .int 0])), (a1, .inr (1, [.ref b10, .ref b11, .ref b12, .ref b13, .int 0, .int 1, .ref b14, .ref b15]))]) := by
  refine ax_Mw.of (by decide +kernel) (Nat.le_of_ble_eq_true rfl) ?_
  intro p e s m args below meth c C hadm hmeth hcode htb hX
  refine ax_ls ([(0, .ref a0), (1, .int i0), (2, .int i1), (3, .ref b0)]) [0, 1, 2, 3] rfl ?_
  refine ax_aload_n (pc := 0) C d_Law_symbol_0 rfl 3 rfl ?_
  refine ax_iconst (pc := 1) C 0 d_Law_symbol_1 (by decide +kernel) ?_
  refine ax_aload_n (pc := 2) C d_Law_symbol_2 rfl 0 rfl ?_
  refine ax_iload_n (pc := 3) C d_Law_symbol_3 rfl 1 rfl ?_
  refine ax_iload_n (pc := 4) C d_Law_symbol_4 rfl 2 rfl ?_
  refine ax_callVx (pc := 5) C hX (hpc := 13) (As := [.int i0, .int i1]) (rest := [.int 0, .ref b0]) (wr := []) (m100_CP_symbol l htr D kA a0 a1 b1 b2 b3 b4 b5 b6 b7 b8 b9 b10 b11 b12 b13 b14 b15 i0 i1 h0 h1) ml_Law_45 0 rfl rfl rfl d_Law_symbol_5 rfl rfl [0, 1] [] rfl (by decide) rfl (by decide) (by decide) (Nat.le_of_ble_eq_true rfl) (Nat.le_of_ble_eq_true rfl) (Nat.le_of_ble_eq_true rfl) (Nat.le_of_ble_eq_true rfl) (Nat.le_of_ble_eq_true rfl) (cx_F1 hadm hmeth hcode C.2.2.2.1 htb ⟨by decide, by decide⟩ (by decide) (C.2.2.2.2.1 _ tb_classLink_1284)) (fun xe5 w1 hw1 => ?_)
  obtain rfl := hw1
  refine ax_w ([(a0, .inr (11, [.ref b1, .ref b2, .ref b3, .ref a1, .ref b4, .ref b5, .ref b6, .ref b7, .ref b8, .ref b9, .int 0, .int 0])), (a1, .inr (1, [.ref b10, .ref b11, .ref b12, .ref b13, .int 0, .int 1, .ref b14, .ref b15]))]) rfl ?_
  refine ax_astore (pc := 13) C d_Law_symbol_13 (Nat.le_of_ble_eq_true rfl) ([(4, .ref xe5), (0, .ref a0), (1, .int i0), (2, .int i1), (3, .ref b0)]) rfl ?_
  refine ax_iconst (pc := 15) C 1 d_Law_symbol_15 (by decide +kernel) ?_
  exact ax_iret (pc := 16) C d_Law_symbol_16 ⟨rfl, rfl⟩ (by decide) (by decide)
set_option maxHeartbeats 4000000 in
set_option maxRecDepth 100000 in
theorem m101_MM_symbol2 (l : Launch) (D : va_G) (kA : Nat → ClassId) (a0 : Nat) (b0 : Nat) (b1 : Nat) (b2 : Nat) (b3 : Nat) (b4 : Nat) (b5 : Nat) (b6 : Nat) (b7 : Nat) (b8 : Nat) (b9 : Nat) (b10 : Nat) (b11 : Nat) (b12 : Nat) (b13 : Nat) (b14 : Nat) (b15 : Nat) (b16 : Nat) (b17 : Nat) (b18 : Nat) (b19 : Nat) (b20 : Nat) (b21 : Nat) (b22 : Nat) (b23 : Nat) (b24 : Nat) (b25 : Nat) (b26 : Nat) (b27 : Nat) (b28 : Nat) (b29 : Nat) (b30 : Nat) (b31 : Nat) (b32 : Nat) (b33 : Nat) (b34 : Nat) (b35 : Nat) (b36 : Nat) (b37 : Nat) (b38 : Nat) (b39 : Nat) (b40 : Nat) (b41 : Nat) (b42 : Nat) (b43 : Nat) (b44 : Nat) (b45 : Nat) (b46 : Nat) (b47 : Nat) (b48 : Nat) (b49 : Nat) (b50 : Nat) (b51 : Nat) (b52 : Nat) (b53 : Nat) (b54 : Nat) (b55 : Nat) (b56 : Nat) (b57 : Nat) (b58 : Nat) (b59 : Nat) (b60 : Nat) (b61 : Nat) (b62 : Nat) (b63 : Nat) (b64 : Nat) (b65 : Nat) (b66 : Nat) (b67 : Nat) (b68 : Nat) (b69 : Nat) (b70 : Nat) (b71 : Nat) (b72 : Nat) (b73 : Nat) (b74 : Nat) (b75 : Nat) (i0 : Int32) (i1 : Int32) (h0 : ¬ i0 < 0) (h1 : ¬ i0 < 1) : ax_Mi l D kA y_MM_symbol2 b_MM_symbol2 3 .int 1 22 0 0 [.ref a0, .int i0, .int i1] [(a0, .inr (12, [.ref b0, .ref b1, .int 0, .int 0, .int 0, .int 0, .int 0, .int 0, .int 0, .int 0, .int 0, .int 0, .int 0, .ref b2, .ref b3, .ref b4, .ref b5, .ref b6, .int 0, .int 1, .int 0, .ref b7, .ref b8, .ref b9, .ref b10, .int 0, .ref b11, .ref b12, .int 0, .int 0, .ref b13, .ref b14, .ref b15, .ref b16, .ref b17, .ref b18, .ref b19, .int 0, .int 0, .int 0, .int 0, .ref b20, .ref b21, .ref b22, .ref b23, .ref b24, .ref b25, .int 0, .ref b26, .ref b27, .ref b28, .ref b29, .ref b30, .ref b31, .ref b32, .int 0, .int 0, .ref b33, .ref b34, .ref b35, .ref b36, .ref b37, .int 0, .ref b38, .ref b39, .int 0, .ref b40, .ref b41, .ref b42, .ref b43, .ref b44, .ref b45, .int 0, .ref b46, .ref b47, .ref b48, .ref b49, .ref b50, .ref b51, .ref b52, .ref b53, .ref b54, .ref b55, .ref b56, .int 0, .int 0, .int 0, .int 0, .int (-1), .int 0, .int 0, .int 0, .int 0, .int 0, .int 0, .ref b57, .ref b58, .ref b59, .int 0, .ref b60, .ref b61, .int 0, .ref b62, .ref b63, .ref b64, .int 0, .ref b65, .ref b66, .ref b67, .ref b68, .ref b69, .ref b70, .int 0, .int (-1), .int 0, .ref b71, .int (-1), .int (-1), .int (-1), .ref b72, .int 0, .ref b73, .int 0, .ref b74, .int 0, .int 0, .ref b75]))] (fun r w1 => r = 0 ∧ w1 = [(a0, .inr (12, [.ref b0, .ref b1, .int 0, .int 0, .int 1, .int 0, .int 0, .int 0, .int 0, .int 0, .int 0, .int 0, .int 0, .ref b2, .ref b3, .ref b4, .ref b5, .ref b6, .int 0, .int 1, .int 0, .ref b7, .ref b8, .ref b9, .ref b10, .int 0, .ref b11, .ref b12, .int 0, .int 0, .ref b13, .ref b14, .ref b15, .ref b16, .ref b17, .ref b18, .ref b19, .int 0, .int 0, .int 0, .int 0, .ref b20, .ref b21, .ref b22, .ref b23, .ref b24, .ref b25, .int 0, .ref b26, .ref b27, .ref b28, .ref b29, .ref b30, .ref b31, .ref b32, .int 0, .int 0, .ref b33, .ref b34, .ref b35, .ref b36, .ref b37, .int 0, .ref b38, .ref b39, .int 0, .ref b40, .ref b41, .ref b42, .ref b43, .ref b44, .ref b45, .int 0, .ref b46, .ref b47, .ref b48, .ref b49, .ref b50, .ref b51, .ref b52, .ref b53, .ref b54, .ref b55, .ref b56, .int 0, .int 0, .int 0, .int 0, .int (-1), .int 0, .int 0, .int 0, .int 0, .int 0, .int 0, .ref b57, .ref b58, .ref b59, .int 0, .ref b60, .ref b61, .int 0, .ref b62, .ref b63, .ref b64, .int 0, .ref b65, .ref b66, .ref b67, .ref b68, .ref b69, .ref b70, .int 0, .int (-1), .int 0, .ref b71, .int (-1), .int (-1), .int (-1), .ref b72, .int 0, .ref b73, .int 0, .ref b74, .int 0, .int 0, .ref b75]))]) := by
  refine ax_Mi.of (by decide +kernel) (Nat.le_of_ble_eq_true rfl) ?_
  intro p e s m args below meth c C hnm
  refine ax_ls ([(0, .ref a0), (1, .int i0), (2, .int i1)]) [0, 1, 2] rfl ?_
  refine ax_aload_n (pc := 0) C d_MM_symbol2_0 rfl 0 rfl ?_
  refine ax_iconst (pc := 1) C 0 d_MM_symbol2_1 (by decide +kernel) ?_
  refine ax_put (pc := 2) C k_MM 4 lk_MM_24 d_MM_symbol2_2 (Nat.le_of_ble_eq_true rfl) 0 rfl rfl rfl rfl (Nat.le_of_ble_eq_true rfl) ?_
  refine ax_w ([(a0, .inr (12, [.ref b0, .ref b1, .int 0, .int 0, .int 0, .int 0, .int 0, .int 0, .int 0, .int 0, .int 0, .int 0, .int 0, .ref b2, .ref b3, .ref b4, .ref b5, .ref b6, .int 0, .int 1, .int 0, .ref b7, .ref b8, .ref b9, .ref b10, .int 0, .ref b11, .ref b12, .int 0, .int 0, .ref b13, .ref b14, .ref b15, .ref b16, .ref b17, .ref b18, .ref b19, .int 0, .int 0, .int 0, .int 0, .ref b20, .ref b21, .ref b22, .ref b23, .ref b24, .ref b25, .int 0, .ref b26, .ref b27, .ref b28, .ref b29, .ref b30, .ref b31, .ref b32, .int 0, .int 0, .ref b33, .ref b34, .ref b35, .ref b36, .ref b37, .int 0, .ref b38, .ref b39, .int 0, .ref b40, .ref b41, .ref b42, .ref b43, .ref b44, .ref b45, .int 0, .ref b46, .ref b47, .ref b48, .ref b49, .ref b50, .ref b51, .ref b52, .ref b53, .ref b54, .ref b55, .ref b56, .int 0, .int 0, .int 0, .int 0, .int (-1), .int 0, .int 0, .int 0, .int 0, .int 0, .int 0, .ref b57, .ref b58, .ref b59, .int 0, .ref b60, .ref b61, .int 0, .ref b62, .ref b63, .ref b64, .int 0, .ref b65, .ref b66, .ref b67, .ref b68, .ref b69, .ref b70, .int 0, .int (-1), .int 0, .ref b71, .int (-1), .int (-1), .int (-1), .ref b72, .int 0, .ref b73, .int 0, .ref b74, .int 0, .int 0, .ref b75]))]) rfl ?_
  refine ax_aload_n (pc := 5) C d_MM_symbol2_5 rfl 0 rfl ?_
  refine ax_iconst (pc := 6) C 1 d_MM_symbol2_6 (by decide +kernel) ?_
  refine ax_iload_n (pc := 7) C d_MM_symbol2_7 rfl 1 rfl ?_
  refine ax_if_lt (pc := 8) C 19 d_MM_symbol2_8 (by decide) (fun h => absurd h h0) (fun _ => ?_)
  refine ax_iload_n (pc := 11) C d_MM_symbol2_11 rfl 1 rfl ?_
  refine ax_aload_n (pc := 12) C d_MM_symbol2_12 rfl 0 rfl ?_
  refine ax_get (pc := 13) C k_MM 19 lk_MM_71 d_MM_symbol2_13 (Nat.le_of_ble_eq_true rfl) 0 rfl rfl ?_
  refine ax_icmp_lt (pc := 16) C 23 d_MM_symbol2_16 (by decide) (fun h => absurd h h1) (fun _ => ?_)
  refine ax_iconst (pc := 19) C 1 d_MM_symbol2_19 (by decide +kernel) ?_
  refine ax_goto (pc := 20) C 24 d_MM_symbol2_20 (by decide) ?_
  refine ax_callVi (pc := 24) C (As := [.int 1, .int 1]) (rest := []) (wr := []) (m34_MM_refuse l D kA a0 b0 b1 b2 b3 b4 b5 b6 b7 b8 b9 b10 b11 b12 b13 b14 b15 b16 b17 b18 b19 b20 b21 b22 b23 b24 b25 b26 b27 b28 b29 b30 b31 b32 b33 b34 b35 b36 b37 b38 b39 b40 b41 b42 b43 b44 b45 b46 b47 b48 b49 b50 b51 b52 b53 b54 b55 b56 b57 b58 b59 b60 b61 b62 b63 b64 b65 b66 b67 b68 b69 b70 b71 b72 b73 b74 b75) ml_MM_401 0 rfl rfl rfl d_MM_symbol2_24 rfl rfl [0] [] rfl (by decide) rfl (by decide) (by decide) (Nat.le_of_ble_eq_true rfl) (Nat.le_of_ble_eq_true rfl) (Nat.le_of_ble_eq_true rfl) (Nat.le_of_ble_eq_true rfl) (Nat.le_of_ble_eq_true rfl) (fun r24 w1 hw1 => ?_)
  obtain ⟨rfl, rfl⟩ := hw1
  refine ax_w ([(a0, .inr (12, [.ref b0, .ref b1, .int 0, .int 0, .int 1, .int 0, .int 0, .int 0, .int 0, .int 0, .int 0, .int 0, .int 0, .ref b2, .ref b3, .ref b4, .ref b5, .ref b6, .int 0, .int 1, .int 0, .ref b7, .ref b8, .ref b9, .ref b10, .int 0, .ref b11, .ref b12, .int 0, .int 0, .ref b13, .ref b14, .ref b15, .ref b16, .ref b17, .ref b18, .ref b19, .int 0, .int 0, .int 0, .int 0, .ref b20, .ref b21, .ref b22, .ref b23, .ref b24, .ref b25, .int 0, .ref b26, .ref b27, .ref b28, .ref b29, .ref b30, .ref b31, .ref b32, .int 0, .int 0, .ref b33, .ref b34, .ref b35, .ref b36, .ref b37, .int 0, .ref b38, .ref b39, .int 0, .ref b40, .ref b41, .ref b42, .ref b43, .ref b44, .ref b45, .int 0, .ref b46, .ref b47, .ref b48, .ref b49, .ref b50, .ref b51, .ref b52, .ref b53, .ref b54, .ref b55, .ref b56, .int 0, .int 0, .int 0, .int 0, .int (-1), .int 0, .int 0, .int 0, .int 0, .int 0, .int 0, .ref b57, .ref b58, .ref b59, .int 0, .ref b60, .ref b61, .int 0, .ref b62, .ref b63, .ref b64, .int 0, .ref b65, .ref b66, .ref b67, .ref b68, .ref b69, .ref b70, .int 0, .int (-1), .int 0, .ref b71, .int (-1), .int (-1), .int (-1), .ref b72, .int 0, .ref b73, .int 0, .ref b74, .int 0, .int 0, .ref b75]))]) rfl ?_
  refine ax_if_ne (pc := 27) C 52 d_MM_symbol2_27 (by decide) (fun _ => ?_) (fun h => absurd h (by decide))
  refine ax_iconst (pc := 52) C 0 d_MM_symbol2_52 (by decide +kernel) ?_
  exact ax_iret (pc := 53) C d_MM_symbol2_53 ⟨rfl, rfl⟩ (by decide) (by decide)
theorem lk_CP_213 : Cond.fieldLink "ClauseProver" 213 (F_Sym 0).1 (F_Sym 0).2.1 (F_Sym 0).2.2.1 ∈ lw_tbg := tb_in (i := 82) (by decide +kernel) rfl
set_option maxHeartbeats 4000000 in
set_option maxRecDepth 100000 in
theorem m103_CP_symbol (l : Launch) (D : va_G) (kA : Nat → ClassId) (a0 : Nat) (a1 : Nat) (a2 : Nat) (b0 : Nat) (b1 : Nat) (b2 : Nat) (b3 : Nat) (b4 : Nat) (b5 : Nat) (b6 : Nat) (b7 : Nat) (b8 : Nat) (b9 : Nat) (b10 : Nat) (b11 : Nat) (b12 : Nat) (b13 : Nat) : ax_Mi l D kA y_CP_symbol b_CP_symbol 4 .int 0 0 0 0 [.ref a0, .int 0, .int 0] [(a0, .inr (11, [.ref b0, .ref b1, .ref b2, .ref a1, .ref b3, .ref b4, .ref b5, .ref b6, .ref b7, .ref b8, .int 0, .int 0])), (a1, .inr (1, [.ref a2, .ref b9, .ref b10, .ref b11, .int 0, .int 1, .ref b12, .ref b13])), (a2, .inl (kA 0, 551, .inl (fun _ => 0)))] (fun r w1 => r = 0 ∧ w1 = [(a0, .inr (11, [.ref b0, .ref b1, .ref b2, .ref a1, .ref b3, .ref b4, .ref b5, .ref b6, .ref b7, .ref b8, .int 0, .int 0])), (a1, .inr (1, [.ref a2, .ref b9, .ref b10, .ref b11, .int 0, .int 1, .ref b12, .ref b13])), (a2, .inl (kA 0, 551, .inl (fun _ => 0)))]) := by
  refine ax_Mi.of (by decide +kernel) (Nat.le_of_ble_eq_true rfl) ?_
  intro p e s m args below meth c C hnm
  refine ax_ls ([(0, .ref a0), (1, .int 0), (2, .int 0)]) [0, 1, 2] rfl ?_
  refine ax_iload_n (pc := 0) C d_CP_symbol_0 rfl 1 rfl ?_
  refine ax_if_lt (pc := 1) C 15 d_CP_symbol_1 (by decide) (fun h => absurd h (by decide)) (fun _ => ?_)
  refine ax_iload_n (pc := 4) C d_CP_symbol_4 rfl 1 rfl ?_
  refine ax_aload_n (pc := 5) C d_CP_symbol_5 rfl 0 rfl ?_
  refine ax_get (pc := 6) C k_CP 3 lk_CP_28 d_CP_symbol_6 (Nat.le_of_ble_eq_true rfl) 0 rfl rfl ?_
  refine ax_get (pc := 9) C k_Sym 5 lk_CP_258 d_CP_symbol_9 (Nat.le_of_ble_eq_true rfl) 1 rfl rfl ?_
  refine ax_icmp_lt (pc := 12) C 26 d_CP_symbol_12 (by decide) (fun _ => ?_) (fun h => absurd h (by decide))
  refine ax_iload_n (pc := 26) C d_CP_symbol_26 rfl 2 rfl ?_
  refine ax_if_lt (pc := 27) C 35 d_CP_symbol_27 (by decide) (fun h => absurd h (by decide)) (fun _ => ?_)
  refine ax_iload_n (pc := 30) C d_CP_symbol_30 rfl 2 rfl ?_
  refine ax_iconst (pc := 31) C 2 d_CP_symbol_31 (by decide +kernel) ?_
  refine ax_icmp_le (pc := 32) C 45 d_CP_symbol_32 (by decide) (fun _ => ?_) (fun h => absurd h (by decide))
  refine ax_iload_n (pc := 45) C d_CP_symbol_45 rfl 2 rfl ?_
  refine ax_if_ne (pc := 46) C 59 d_CP_symbol_46 (by decide) (fun h => absurd h (by decide)) (fun _ => ?_)
  refine ax_aload_n (pc := 49) C d_CP_symbol_49 rfl 0 rfl ?_
  refine ax_get (pc := 50) C k_CP 3 lk_CP_28 d_CP_symbol_50 (Nat.le_of_ble_eq_true rfl) 0 rfl rfl ?_
  refine ax_get (pc := 53) C k_Sym 0 lk_CP_213 d_CP_symbol_53 (Nat.le_of_ble_eq_true rfl) 1 rfl rfl ?_
  refine ax_iload_n (pc := 56) C d_CP_symbol_56 rfl 1 rfl ?_
  refine ax_iald (pc := 57) C 2 rfl d_CP_symbol_57 (by unfold vp_in; decide) ?_
  refine ax_nrm 0 rfl ?_
  exact ax_iret (pc := 58) C d_CP_symbol_58 ⟨rfl, rfl⟩ (by decide) (by decide)
set_option maxHeartbeats 4000000 in
set_option maxRecDepth 100000 in
theorem m102_Law_symbol (l : Launch) (D : va_G) (kA : Nat → ClassId) (a0 : Nat) (a1 : Nat) (a2 : Nat) (a3 : Nat) (b0 : Nat) (b1 : Nat) (b2 : Nat) (b3 : Nat) (b4 : Nat) (b5 : Nat) (b6 : Nat) (b7 : Nat) (b8 : Nat) (b9 : Nat) (b10 : Nat) (b11 : Nat) (b12 : Nat) (b13 : Nat) : ax_Mw l D kA y_Law_symbol b_Law_symbol 5 [(0, 10, 13, 28), (0, 10, 17, 19)] 1 23 0 0 [.ref a0, .int 0, .int 0, .ref a3] [(a0, .inr (11, [.ref b0, .ref b1, .ref b2, .ref a1, .ref b3, .ref b4, .ref b5, .ref b6, .ref b7, .ref b8, .int 0, .int 0])), (a1, .inr (1, [.ref a2, .ref b9, .ref b10, .ref b11, .int 0, .int 1, .ref b12, .ref b13])), (a2, .inl (kA 0, 551, .inl (fun _ => 0))), (a3, .inl (kA 3, 1, .inr (.inl (fun _ => 0))))] (fun r w1 => r = 0 ∧ w1 = [(a3, .inl (kA 3, 1, .inr (.inl (vp_updL (fun _ => 0) (Int32.toNatClampNeg 0) (Int32.toInt64 0))))), (a0, .inr (11, [.ref b0, .ref b1, .ref b2, .ref a1, .ref b3, .ref b4, .ref b5, .ref b6, .ref b7, .ref b8, .int 0, .int 0])), (a1, .inr (1, [.ref a2, .ref b9, .ref b10, .ref b11, .int 0, .int 1, .ref b12, .ref b13])), (a2, .inl (kA 0, 551, .inl (fun _ => 0)))]) := by
  refine ax_Mw.of (by decide +kernel) (Nat.le_of_ble_eq_true rfl) ?_
  intro p e s m args below meth c C hadm hmeth hcode htb hX
  refine ax_ls ([(0, .ref a0), (1, .int 0), (2, .int 0), (3, .ref a3)]) [0, 1, 2, 3] rfl ?_
  refine ax_aload_n (pc := 0) C d_Law_symbol_0 rfl 3 rfl ?_
  refine ax_iconst (pc := 1) C 0 d_Law_symbol_1 (by decide +kernel) ?_
  refine ax_aload_n (pc := 2) C d_Law_symbol_2 rfl 0 rfl ?_
  refine ax_iload_n (pc := 3) C d_Law_symbol_3 rfl 1 rfl ?_
  refine ax_iload_n (pc := 4) C d_Law_symbol_4 rfl 2 rfl ?_
  refine ax_callVi (pc := 5) C (As := [.int 0, .int 0]) (rest := [.int 0, .ref a3]) (wr := [(a3, .inl (kA 3, 1, .inr (.inl (fun _ => 0))))]) (m103_CP_symbol l D kA a0 a1 a2 b0 b1 b2 b3 b4 b5 b6 b7 b8 b9 b10 b11 b12 b13) ml_Law_45 0 rfl rfl rfl d_Law_symbol_5 rfl rfl [0, 1, 2] [3] rfl (by decide) rfl (by decide) (by decide) (Nat.le_of_ble_eq_true rfl) (Nat.le_of_ble_eq_true rfl) (Nat.le_of_ble_eq_true rfl) (Nat.le_of_ble_eq_true rfl) (Nat.le_of_ble_eq_true rfl) (fun r5 w1 hw1 => ?_)
  obtain ⟨rfl, rfl⟩ := hw1
  refine ax_w ([(a3, .inl (kA 3, 1, .inr (.inl (fun _ => 0)))), (a0, .inr (11, [.ref b0, .ref b1, .ref b2, .ref a1, .ref b3, .ref b4, .ref b5, .ref b6, .ref b7, .ref b8, .int 0, .int 0])), (a1, .inr (1, [.ref a2, .ref b9, .ref b10, .ref b11, .int 0, .int 1, .ref b12, .ref b13])), (a2, .inl (kA 0, 551, .inl (fun _ => 0)))]) rfl ?_
  refine ax_i2l (pc := 8) C (Int32.toInt64 0) d_Law_symbol_8 rfl ?_
  refine ax_last (pc := 9) C 0 rfl d_Law_symbol_9 (by unfold vp_in; decide) ?_
  refine ax_w ([(a3, .inl (kA 3, 1, .inr (.inl (vp_updL (fun _ => 0) (Int32.toNatClampNeg 0) (Int32.toInt64 0))))), (a0, .inr (11, [.ref b0, .ref b1, .ref b2, .ref a1, .ref b3, .ref b4, .ref b5, .ref b6, .ref b7, .ref b8, .int 0, .int 0])), (a1, .inr (1, [.ref a2, .ref b9, .ref b10, .ref b11, .int 0, .int 1, .ref b12, .ref b13])), (a2, .inl (kA 0, 551, .inl (fun _ => 0)))]) rfl ?_
  refine ax_goto (pc := 10) C 21 d_Law_symbol_10 (by decide) ?_
  refine ax_iconst (pc := 21) C 0 d_Law_symbol_21 (by decide +kernel) ?_
  exact ax_iret (pc := 22) C d_Law_symbol_22 ⟨rfl, rfl⟩ (by decide) (by decide)
set_option maxHeartbeats 4000000 in
set_option maxRecDepth 100000 in
theorem m105_MM_refuse (l : Launch) (D : va_G) (kA : Nat → ClassId) (b0 : Nat) : ax_Mi l D kA y_MM_refuse b_MM_refuse 3 .boolean 0 0 0 0 [.ref b0, .int 2, .int 0] [] (fun r w1 => r = 0 ∧ w1 = []) := by
  refine ax_Mi.of (by decide +kernel) (Nat.le_of_ble_eq_true rfl) ?_
  intro p e s m args below meth c C hnm
  refine ax_ls ([(0, .ref b0), (1, .int 2), (2, .int 0)]) [0, 1, 2] rfl ?_
  refine ax_iload_n (pc := 0) C d_MM_refuse_0 rfl 2 rfl ?_
  refine ax_if_eq (pc := 1) C 9 d_MM_refuse_1 (by decide) (fun _ => ?_) (fun h => absurd h (by decide))
  refine ax_iload_n (pc := 9) C d_MM_refuse_9 rfl 2 rfl ?_
  exact ax_zret (pc := 10) C d_MM_refuse_10 rfl ⟨rfl, rfl⟩ (by decide) (by decide)
set_option maxHeartbeats 4000000 in
set_option maxRecDepth 100000 in
theorem m104_MM_symbol2 (l : Launch) (D : va_G) (kA : Nat → ClassId) (a0 : Nat) (a1 : Nat) (b0 : Nat) (b1 : Nat) (b2 : Nat) (b3 : Nat) (b4 : Nat) (b5 : Nat) (b6 : Nat) (b7 : Nat) (b8 : Nat) (b9 : Nat) (b10 : Nat) (b11 : Nat) (b12 : Nat) (b13 : Nat) (b14 : Nat) (b15 : Nat) (b16 : Nat) (b17 : Nat) (b18 : Nat) (b19 : Nat) (b20 : Nat) (b21 : Nat) (b22 : Nat) (b23 : Nat) (b24 : Nat) (b25 : Nat) (b26 : Nat) (b27 : Nat) (b28 : Nat) (b29 : Nat) (b30 : Nat) (b31 : Nat) (b32 : Nat) (b33 : Nat) (b34 : Nat) (b35 : Nat) (b36 : Nat) (b37 : Nat) (b38 : Nat) (b39 : Nat) (b40 : Nat) (b41 : Nat) (b42 : Nat) (b43 : Nat) (b44 : Nat) (b45 : Nat) (b46 : Nat) (b47 : Nat) (b48 : Nat) (b49 : Nat) (b50 : Nat) (b51 : Nat) (b52 : Nat) (b53 : Nat) (b54 : Nat) (b55 : Nat) (b56 : Nat) (b57 : Nat) (b58 : Nat) (b59 : Nat) (b60 : Nat) (b61 : Nat) (b62 : Nat) (b63 : Nat) (b64 : Nat) (b65 : Nat) (b66 : Nat) (b67 : Nat) (b68 : Nat) (b69 : Nat) (b70 : Nat) (b71 : Nat) (b72 : Nat) (b73 : Nat) (b74 : Nat) : ax_Mi l D kA y_MM_symbol2 b_MM_symbol2 3 .int 1 22 0 0 [.ref a0, .int 0, .int 0] [(a0, .inr (12, [.ref b0, .ref b1, .int 0, .int 0, .int 0, .int 0, .int 0, .int 0, .int 0, .int 0, .int 0, .int 0, .int 0, .ref b2, .ref b3, .ref b4, .ref b5, .ref b6, .int 0, .int 1, .int 0, .ref b7, .ref b8, .ref b9, .ref b10, .int 0, .ref b11, .ref b12, .int 0, .int 0, .ref b13, .ref b14, .ref b15, .ref b16, .ref b17, .ref b18, .ref b19, .int 0, .int 0, .int 0, .int 0, .ref b20, .ref b21, .ref b22, .ref b23, .ref b24, .ref b25, .int 0, .ref a1, .ref b26, .ref b27, .ref b28, .ref b29, .ref b30, .ref b31, .int 0, .int 0, .ref b32, .ref b33, .ref b34, .ref b35, .ref b36, .int 0, .ref b37, .ref b38, .int 0, .ref b39, .ref b40, .ref b41, .ref b42, .ref b43, .ref b44, .int 0, .ref b45, .ref b46, .ref b47, .ref b48, .ref b49, .ref b50, .ref b51, .ref b52, .ref b53, .ref b54, .ref b55, .int 0, .int 0, .int 0, .int 0, .int (-1), .int 0, .int 0, .int 0, .int 0, .int 0, .int 0, .ref b56, .ref b57, .ref b58, .int 0, .ref b59, .ref b60, .int 0, .ref b61, .ref b62, .ref b63, .int 0, .ref b64, .ref b65, .ref b66, .ref b67, .ref b68, .ref b69, .int 0, .int (-1), .int 0, .ref b70, .int (-1), .int (-1), .int (-1), .ref b71, .int 0, .ref b72, .int 0, .ref b73, .int 0, .int 0, .ref b74])), (a1, .inl (kA 0, 900, .inl (fun _ => 0)))] (fun r w1 => r = 0 ∧ w1 = [(a0, .inr (12, [.ref b0, .ref b1, .int 0, .int 0, .int 0, .int 0, .int 0, .int 0, .int 0, .int 0, .int 0, .int 0, .int 0, .ref b2, .ref b3, .ref b4, .ref b5, .ref b6, .int 0, .int 1, .int 0, .ref b7, .ref b8, .ref b9, .ref b10, .int 0, .ref b11, .ref b12, .int 0, .int 0, .ref b13, .ref b14, .ref b15, .ref b16, .ref b17, .ref b18, .ref b19, .int 0, .int 0, .int 0, .int 0, .ref b20, .ref b21, .ref b22, .ref b23, .ref b24, .ref b25, .int 0, .ref a1, .ref b26, .ref b27, .ref b28, .ref b29, .ref b30, .ref b31, .int 0, .int 0, .ref b32, .ref b33, .ref b34, .ref b35, .ref b36, .int 0, .ref b37, .ref b38, .int 0, .ref b39, .ref b40, .ref b41, .ref b42, .ref b43, .ref b44, .int 0, .ref b45, .ref b46, .ref b47, .ref b48, .ref b49, .ref b50, .ref b51, .ref b52, .ref b53, .ref b54, .ref b55, .int 0, .int 0, .int 0, .int 0, .int (-1), .int 0, .int 0, .int 0, .int 0, .int 0, .int 0, .ref b56, .ref b57, .ref b58, .int 0, .ref b59, .ref b60, .int 0, .ref b61, .ref b62, .ref b63, .int 0, .ref b64, .ref b65, .ref b66, .ref b67, .ref b68, .ref b69, .int 0, .int (-1), .int 0, .ref b70, .int (-1), .int (-1), .int (-1), .ref b71, .int 0, .ref b72, .int 0, .ref b73, .int 0, .int 0, .ref b74])), (a1, .inl (kA 0, 900, .inl (fun _ => 0)))]) := by
  refine ax_Mi.of (by decide +kernel) (Nat.le_of_ble_eq_true rfl) ?_
  intro p e s m args below meth c C hnm
  refine ax_ls ([(0, .ref a0), (1, .int 0), (2, .int 0)]) [0, 1, 2] rfl ?_
  refine ax_aload_n (pc := 0) C d_MM_symbol2_0 rfl 0 rfl ?_
  refine ax_iconst (pc := 1) C 0 d_MM_symbol2_1 (by decide +kernel) ?_
  refine ax_put (pc := 2) C k_MM 4 lk_MM_24 d_MM_symbol2_2 (Nat.le_of_ble_eq_true rfl) 0 rfl rfl rfl rfl (Nat.le_of_ble_eq_true rfl) ?_
  refine ax_w ([(a0, .inr (12, [.ref b0, .ref b1, .int 0, .int 0, .int 0, .int 0, .int 0, .int 0, .int 0, .int 0, .int 0, .int 0, .int 0, .ref b2, .ref b3, .ref b4, .ref b5, .ref b6, .int 0, .int 1, .int 0, .ref b7, .ref b8, .ref b9, .ref b10, .int 0, .ref b11, .ref b12, .int 0, .int 0, .ref b13, .ref b14, .ref b15, .ref b16, .ref b17, .ref b18, .ref b19, .int 0, .int 0, .int 0, .int 0, .ref b20, .ref b21, .ref b22, .ref b23, .ref b24, .ref b25, .int 0, .ref a1, .ref b26, .ref b27, .ref b28, .ref b29, .ref b30, .ref b31, .int 0, .int 0, .ref b32, .ref b33, .ref b34, .ref b35, .ref b36, .int 0, .ref b37, .ref b38, .int 0, .ref b39, .ref b40, .ref b41, .ref b42, .ref b43, .ref b44, .int 0, .ref b45, .ref b46, .ref b47, .ref b48, .ref b49, .ref b50, .ref b51, .ref b52, .ref b53, .ref b54, .ref b55, .int 0, .int 0, .int 0, .int 0, .int (-1), .int 0, .int 0, .int 0, .int 0, .int 0, .int 0, .ref b56, .ref b57, .ref b58, .int 0, .ref b59, .ref b60, .int 0, .ref b61, .ref b62, .ref b63, .int 0, .ref b64, .ref b65, .ref b66, .ref b67, .ref b68, .ref b69, .int 0, .int (-1), .int 0, .ref b70, .int (-1), .int (-1), .int (-1), .ref b71, .int 0, .ref b72, .int 0, .ref b73, .int 0, .int 0, .ref b74])), (a1, .inl (kA 0, 900, .inl (fun _ => 0)))]) rfl ?_
  refine ax_aload_n (pc := 5) C d_MM_symbol2_5 rfl 0 rfl ?_
  refine ax_iconst (pc := 6) C 1 d_MM_symbol2_6 (by decide +kernel) ?_
  refine ax_iload_n (pc := 7) C d_MM_symbol2_7 rfl 1 rfl ?_
  refine ax_if_lt (pc := 8) C 19 d_MM_symbol2_8 (by decide) (fun h => absurd h (by decide)) (fun _ => ?_)
  refine ax_iload_n (pc := 11) C d_MM_symbol2_11 rfl 1 rfl ?_
  refine ax_aload_n (pc := 12) C d_MM_symbol2_12 rfl 0 rfl ?_
  refine ax_get (pc := 13) C k_MM 19 lk_MM_71 d_MM_symbol2_13 (Nat.le_of_ble_eq_true rfl) 0 rfl rfl ?_
  refine ax_icmp_lt (pc := 16) C 23 d_MM_symbol2_16 (by decide) (fun _ => ?_) (fun h => absurd h (by decide))
  refine ax_iconst (pc := 23) C 0 d_MM_symbol2_23 (by decide +kernel) ?_
  refine ax_callVi (pc := 24) C (As := [.int 1, .int 0]) (rest := []) (wr := [(a0, .inr (12, [.ref b0, .ref b1, .int 0, .int 0, .int 0, .int 0, .int 0, .int 0, .int 0, .int 0, .int 0, .int 0, .int 0, .ref b2, .ref b3, .ref b4, .ref b5, .ref b6, .int 0, .int 1, .int 0, .ref b7, .ref b8, .ref b9, .ref b10, .int 0, .ref b11, .ref b12, .int 0, .int 0, .ref b13, .ref b14, .ref b15, .ref b16, .ref b17, .ref b18, .ref b19, .int 0, .int 0, .int 0, .int 0, .ref b20, .ref b21, .ref b22, .ref b23, .ref b24, .ref b25, .int 0, .ref a1, .ref b26, .ref b27, .ref b28, .ref b29, .ref b30, .ref b31, .int 0, .int 0, .ref b32, .ref b33, .ref b34, .ref b35, .ref b36, .int 0, .ref b37, .ref b38, .int 0, .ref b39, .ref b40, .ref b41, .ref b42, .ref b43, .ref b44, .int 0, .ref b45, .ref b46, .ref b47, .ref b48, .ref b49, .ref b50, .ref b51, .ref b52, .ref b53, .ref b54, .ref b55, .int 0, .int 0, .int 0, .int 0, .int (-1), .int 0, .int 0, .int 0, .int 0, .int 0, .int 0, .ref b56, .ref b57, .ref b58, .int 0, .ref b59, .ref b60, .int 0, .ref b61, .ref b62, .ref b63, .int 0, .ref b64, .ref b65, .ref b66, .ref b67, .ref b68, .ref b69, .int 0, .int (-1), .int 0, .ref b70, .int (-1), .int (-1), .int (-1), .ref b71, .int 0, .ref b72, .int 0, .ref b73, .int 0, .int 0, .ref b74])), (a1, .inl (kA 0, 900, .inl (fun _ => 0)))]) (m29_MM_refuse l D kA a0) ml_MM_401 0 rfl rfl rfl d_MM_symbol2_24 rfl rfl [] [0, 1] rfl (by decide) rfl (by decide) (by decide) (Nat.le_of_ble_eq_true rfl) (Nat.le_of_ble_eq_true rfl) (Nat.le_of_ble_eq_true rfl) (Nat.le_of_ble_eq_true rfl) (Nat.le_of_ble_eq_true rfl) (fun r24 w1 hw1 => ?_)
  obtain ⟨rfl, rfl⟩ := hw1
  refine ax_w ([(a0, .inr (12, [.ref b0, .ref b1, .int 0, .int 0, .int 0, .int 0, .int 0, .int 0, .int 0, .int 0, .int 0, .int 0, .int 0, .ref b2, .ref b3, .ref b4, .ref b5, .ref b6, .int 0, .int 1, .int 0, .ref b7, .ref b8, .ref b9, .ref b10, .int 0, .ref b11, .ref b12, .int 0, .int 0, .ref b13, .ref b14, .ref b15, .ref b16, .ref b17, .ref b18, .ref b19, .int 0, .int 0, .int 0, .int 0, .ref b20, .ref b21, .ref b22, .ref b23, .ref b24, .ref b25, .int 0, .ref a1, .ref b26, .ref b27, .ref b28, .ref b29, .ref b30, .ref b31, .int 0, .int 0, .ref b32, .ref b33, .ref b34, .ref b35, .ref b36, .int 0, .ref b37, .ref b38, .int 0, .ref b39, .ref b40, .ref b41, .ref b42, .ref b43, .ref b44, .int 0, .ref b45, .ref b46, .ref b47, .ref b48, .ref b49, .ref b50, .ref b51, .ref b52, .ref b53, .ref b54, .ref b55, .int 0, .int 0, .int 0, .int 0, .int (-1), .int 0, .int 0, .int 0, .int 0, .int 0, .int 0, .ref b56, .ref b57, .ref b58, .int 0, .ref b59, .ref b60, .int 0, .ref b61, .ref b62, .ref b63, .int 0, .ref b64, .ref b65, .ref b66, .ref b67, .ref b68, .ref b69, .int 0, .int (-1), .int 0, .ref b70, .int (-1), .int (-1), .int (-1), .ref b71, .int 0, .ref b72, .int 0, .ref b73, .int 0, .int 0, .ref b74])), (a1, .inl (kA 0, 900, .inl (fun _ => 0)))]) rfl ?_
  refine ax_if_ne (pc := 27) C 52 d_MM_symbol2_27 (by decide) (fun h => absurd h (by decide)) (fun _ => ?_)
  refine ax_aload_n (pc := 30) C d_MM_symbol2_30 rfl 0 rfl ?_
  refine ax_iconst (pc := 31) C 2 d_MM_symbol2_31 (by decide +kernel) ?_
  refine ax_iload_n (pc := 32) C d_MM_symbol2_32 rfl 2 rfl ?_
  refine ax_if_lt (pc := 33) C 41 d_MM_symbol2_33 (by decide) (fun h => absurd h (by decide)) (fun _ => ?_)
  refine ax_iload_n (pc := 36) C d_MM_symbol2_36 rfl 2 rfl ?_
  refine ax_iconst (pc := 37) C 2 d_MM_symbol2_37 (by decide +kernel) ?_
  refine ax_icmp_le (pc := 38) C 45 d_MM_symbol2_38 (by decide) (fun _ => ?_) (fun h => absurd h (by decide))
  refine ax_iconst (pc := 45) C 0 d_MM_symbol2_45 (by decide +kernel) ?_
  refine ax_callVi (pc := 46) C (As := [.int 2, .int 0]) (rest := []) (wr := [(a0, .inr (12, [.ref b0, .ref b1, .int 0, .int 0, .int 0, .int 0, .int 0, .int 0, .int 0, .int 0, .int 0, .int 0, .int 0, .ref b2, .ref b3, .ref b4, .ref b5, .ref b6, .int 0, .int 1, .int 0, .ref b7, .ref b8, .ref b9, .ref b10, .int 0, .ref b11, .ref b12, .int 0, .int 0, .ref b13, .ref b14, .ref b15, .ref b16, .ref b17, .ref b18, .ref b19, .int 0, .int 0, .int 0, .int 0, .ref b20, .ref b21, .ref b22, .ref b23, .ref b24, .ref b25, .int 0, .ref a1, .ref b26, .ref b27, .ref b28, .ref b29, .ref b30, .ref b31, .int 0, .int 0, .ref b32, .ref b33, .ref b34, .ref b35, .ref b36, .int 0, .ref b37, .ref b38, .int 0, .ref b39, .ref b40, .ref b41, .ref b42, .ref b43, .ref b44, .int 0, .ref b45, .ref b46, .ref b47, .ref b48, .ref b49, .ref b50, .ref b51, .ref b52, .ref b53, .ref b54, .ref b55, .int 0, .int 0, .int 0, .int 0, .int (-1), .int 0, .int 0, .int 0, .int 0, .int 0, .int 0, .ref b56, .ref b57, .ref b58, .int 0, .ref b59, .ref b60, .int 0, .ref b61, .ref b62, .ref b63, .int 0, .ref b64, .ref b65, .ref b66, .ref b67, .ref b68, .ref b69, .int 0, .int (-1), .int 0, .ref b70, .int (-1), .int (-1), .int (-1), .ref b71, .int 0, .ref b72, .int 0, .ref b73, .int 0, .int 0, .ref b74])), (a1, .inl (kA 0, 900, .inl (fun _ => 0)))]) (m105_MM_refuse l D kA a0) ml_MM_401 0 rfl rfl rfl d_MM_symbol2_46 rfl rfl [] [0, 1] rfl (by decide) rfl (by decide) (by decide) (Nat.le_of_ble_eq_true rfl) (Nat.le_of_ble_eq_true rfl) (Nat.le_of_ble_eq_true rfl) (Nat.le_of_ble_eq_true rfl) (Nat.le_of_ble_eq_true rfl) (fun r46 w1 hw1 => ?_)
  obtain ⟨rfl, rfl⟩ := hw1
  refine ax_w ([(a0, .inr (12, [.ref b0, .ref b1, .int 0, .int 0, .int 0, .int 0, .int 0, .int 0, .int 0, .int 0, .int 0, .int 0, .int 0, .ref b2, .ref b3, .ref b4, .ref b5, .ref b6, .int 0, .int 1, .int 0, .ref b7, .ref b8, .ref b9, .ref b10, .int 0, .ref b11, .ref b12, .int 0, .int 0, .ref b13, .ref b14, .ref b15, .ref b16, .ref b17, .ref b18, .ref b19, .int 0, .int 0, .int 0, .int 0, .ref b20, .ref b21, .ref b22, .ref b23, .ref b24, .ref b25, .int 0, .ref a1, .ref b26, .ref b27, .ref b28, .ref b29, .ref b30, .ref b31, .int 0, .int 0, .ref b32, .ref b33, .ref b34, .ref b35, .ref b36, .int 0, .ref b37, .ref b38, .int 0, .ref b39, .ref b40, .ref b41, .ref b42, .ref b43, .ref b44, .int 0, .ref b45, .ref b46, .ref b47, .ref b48, .ref b49, .ref b50, .ref b51, .ref b52, .ref b53, .ref b54, .ref b55, .int 0, .int 0, .int 0, .int 0, .int (-1), .int 0, .int 0, .int 0, .int 0, .int 0, .int 0, .ref b56, .ref b57, .ref b58, .int 0, .ref b59, .ref b60, .int 0, .ref b61, .ref b62, .ref b63, .int 0, .ref b64, .ref b65, .ref b66, .ref b67, .ref b68, .ref b69, .int 0, .int (-1), .int 0, .ref b70, .int (-1), .int (-1), .int (-1), .ref b71, .int 0, .ref b72, .int 0, .ref b73, .int 0, .int 0, .ref b74])), (a1, .inl (kA 0, 900, .inl (fun _ => 0)))]) rfl ?_
  refine ax_if_eq (pc := 49) C 54 d_MM_symbol2_49 (by decide) (fun _ => ?_) (fun h => absurd h (by decide))
  refine ax_iload_n (pc := 54) C d_MM_symbol2_54 rfl 2 rfl ?_
  refine ax_if_ne (pc := 55) C 67 d_MM_symbol2_55 (by decide) (fun h => absurd h (by decide)) (fun _ => ?_)
  refine ax_aload_n (pc := 58) C d_MM_symbol2_58 rfl 0 rfl ?_
  refine ax_get (pc := 59) C k_MM 48 lk_MM_160 d_MM_symbol2_59 (Nat.le_of_ble_eq_true rfl) 0 rfl rfl ?_
  refine ax_iload_n (pc := 62) C d_MM_symbol2_62 rfl 1 rfl ?_
  refine ax_iald (pc := 63) C 1 rfl d_MM_symbol2_63 (by unfold vp_in; decide) ?_
  refine ax_nrm 0 rfl ?_
  refine ax_goto (pc := 64) C 102 d_MM_symbol2_64 (by decide) ?_
  exact ax_iret (pc := 102) C d_MM_symbol2_102 ⟨rfl, rfl⟩ (by decide) (by decide)
abbrev b_Sym_isPredicate : ByteArray := prog_10_method_6_code
def y_Sym_isPredicate : MethodName := ⟨"ClauseProver$Symbols", "isPredicate", "(I)Z"⟩
theorem d_Sym_isPredicate_0 : decode b_Sym_isPredicate 0 = .ok (.aload_n 0, 1) := by decide +kernel
theorem d_Sym_isPredicate_1 : decode b_Sym_isPredicate 1 = .ok (.getfield 30, 3) := by decide +kernel
theorem d_Sym_isPredicate_4 : decode b_Sym_isPredicate 4 = .ok (.iload_n 1, 1) := by decide +kernel
theorem d_Sym_isPredicate_5 : decode b_Sym_isPredicate 5 = .ok (.iaload, 1) := by decide +kernel
theorem d_Sym_isPredicate_6 : decode b_Sym_isPredicate 6 = .ok (.iconst 1, 1) := by decide +kernel
theorem d_Sym_isPredicate_7 : decode b_Sym_isPredicate 7 = .ok (.if_icmp .ne 7, 3) := by decide +kernel
theorem d_Sym_isPredicate_10 : decode b_Sym_isPredicate 10 = .ok (.iconst 1, 1) := by decide +kernel
theorem d_Sym_isPredicate_11 : decode b_Sym_isPredicate 11 = .ok (.goto 4, 3) := by decide +kernel
theorem d_Sym_isPredicate_14 : decode b_Sym_isPredicate 14 = .ok (.iconst 0, 1) := by decide +kernel
theorem d_Sym_isPredicate_15 : decode b_Sym_isPredicate 15 = .ok (.ireturn, 1) := by decide +kernel
set_option maxHeartbeats 4000000 in
set_option maxRecDepth 100000 in
theorem m108_Sym_isPredicate (l : Launch) (D : va_G) (kA : Nat → ClassId) (a0 : Nat) (a1 : Nat) (b0 : Nat) (b1 : Nat) (b2 : Nat) (b3 : Nat) (b4 : Nat) : ax_Mi l D kA y_Sym_isPredicate b_Sym_isPredicate 2 .boolean 0 0 0 0 [.ref a0, .int 0] [(a0, .inr (1, [.ref b0, .ref b1, .ref b2, .ref b3, .int 0, .int 1, .ref a1, .ref b4])), (a1, .inl (kA 0, 551, .inl (upd (fun _ => 0) (Int32.toNatClampNeg 0) 1)))] (fun r w1 => r = 1 ∧ w1 = [(a0, .inr (1, [.ref b0, .ref b1, .ref b2, .ref b3, .int 0, .int 1, .ref a1, .ref b4])), (a1, .inl (kA 0, 551, .inl (upd (fun _ => 0) (Int32.toNatClampNeg 0) 1)))]) := by
  refine ax_Mi.of (by decide +kernel) (Nat.le_of_ble_eq_true rfl) ?_
  intro p e s m args below meth c C hnm
  refine ax_ls ([(0, .ref a0), (1, .int 0)]) [0, 1] rfl ?_
  refine ax_aload_n (pc := 0) C d_Sym_isPredicate_0 rfl 0 rfl ?_
  refine ax_get (pc := 1) C k_Sym 6 lk_Sym_30 d_Sym_isPredicate_1 (Nat.le_of_ble_eq_true rfl) 0 rfl rfl ?_
  refine ax_iload_n (pc := 4) C d_Sym_isPredicate_4 rfl 1 rfl ?_
  refine ax_iald (pc := 5) C 1 rfl d_Sym_isPredicate_5 (by unfold vp_in; decide) ?_
  refine ax_nrm 1 (by decide) ?_
  refine ax_iconst (pc := 6) C 1 d_Sym_isPredicate_6 (by decide +kernel) ?_
  refine ax_icmp_ne (pc := 7) C 14 d_Sym_isPredicate_7 (by decide) (fun h => absurd h (by decide)) (fun _ => ?_)
  refine ax_iconst (pc := 10) C 1 d_Sym_isPredicate_10 (by decide +kernel) ?_
  refine ax_goto (pc := 11) C 15 d_Sym_isPredicate_11 (by decide) ?_
  exact ax_zret (pc := 15) C d_Sym_isPredicate_15 rfl ⟨rfl, rfl⟩ (by decide) (by decide)
theorem tc_Sym_isPredicate : Cond.code y_Sym_isPredicate b_Sym_isPredicate 2 (some (.boolean)) ∈ lw_tbg := tb_in (i := 1081) (by decide +kernel) rfl
theorem ml_CP_261 : ax_LV "ClauseProver" 261 y_Sym_isPredicate b_Sym_isPredicate 2 (some (.boolean)) 1 := ax_LV.mk (tb_in (i := 1450) (by decide +kernel) rfl) (tb_in (i := 1079) (by decide +kernel) rfl) (tb_in (i := 1080) (by decide +kernel) rfl) ti_Sym tc_Sym_isPredicate (by decide +kernel)
set_option maxHeartbeats 4000000 in
set_option maxRecDepth 100000 in
theorem m107_CP_symbol (l : Launch) (D : va_G) (kA : Nat → ClassId) (a0 : Nat) (a1 : Nat) (a2 : Nat) (b0 : Nat) (b1 : Nat) (b2 : Nat) (b3 : Nat) (b4 : Nat) (b5 : Nat) (b6 : Nat) (b7 : Nat) (b8 : Nat) (b9 : Nat) (b10 : Nat) (b11 : Nat) (b12 : Nat) (b13 : Nat) : ax_Mi l D kA y_CP_symbol b_CP_symbol 4 .int 1 21 0 0 [.ref a0, .int 0, .int 1] [(a0, .inr (11, [.ref b0, .ref b1, .ref b2, .ref a1, .ref b3, .ref b4, .ref b5, .ref b6, .ref b7, .ref b8, .int 0, .int 0])), (a1, .inr (1, [.ref b9, .ref b10, .ref b11, .ref b12, .int 0, .int 1, .ref a2, .ref b13])), (a2, .inl (kA 0, 551, .inl (upd (fun _ => 0) (Int32.toNatClampNeg 0) 1)))] (fun r w1 => r = 1 ∧ w1 = [(a0, .inr (11, [.ref b0, .ref b1, .ref b2, .ref a1, .ref b3, .ref b4, .ref b5, .ref b6, .ref b7, .ref b8, .int 0, .int 0])), (a1, .inr (1, [.ref b9, .ref b10, .ref b11, .ref b12, .int 0, .int 1, .ref a2, .ref b13])), (a2, .inl (kA 0, 551, .inl (upd (fun _ => 0) (Int32.toNatClampNeg 0) 1)))]) := by
  refine ax_Mi.of (by decide +kernel) (Nat.le_of_ble_eq_true rfl) ?_
  intro p e s m args below meth c C hnm
  refine ax_ls ([(0, .ref a0), (1, .int 0), (2, .int 1)]) [0, 1, 2] rfl ?_
  refine ax_iload_n (pc := 0) C d_CP_symbol_0 rfl 1 rfl ?_
  refine ax_if_lt (pc := 1) C 15 d_CP_symbol_1 (by decide) (fun h => absurd h (by decide)) (fun _ => ?_)
  refine ax_iload_n (pc := 4) C d_CP_symbol_4 rfl 1 rfl ?_
  refine ax_aload_n (pc := 5) C d_CP_symbol_5 rfl 0 rfl ?_
  refine ax_get (pc := 6) C k_CP 3 lk_CP_28 d_CP_symbol_6 (Nat.le_of_ble_eq_true rfl) 0 rfl rfl ?_
  refine ax_get (pc := 9) C k_Sym 5 lk_CP_258 d_CP_symbol_9 (Nat.le_of_ble_eq_true rfl) 1 rfl rfl ?_
  refine ax_icmp_lt (pc := 12) C 26 d_CP_symbol_12 (by decide) (fun _ => ?_) (fun h => absurd h (by decide))
  refine ax_iload_n (pc := 26) C d_CP_symbol_26 rfl 2 rfl ?_
  refine ax_if_lt (pc := 27) C 35 d_CP_symbol_27 (by decide) (fun h => absurd h (by decide)) (fun _ => ?_)
  refine ax_iload_n (pc := 30) C d_CP_symbol_30 rfl 2 rfl ?_
  refine ax_iconst (pc := 31) C 2 d_CP_symbol_31 (by decide +kernel) ?_
  refine ax_icmp_le (pc := 32) C 45 d_CP_symbol_32 (by decide) (fun _ => ?_) (fun h => absurd h (by decide))
  refine ax_iload_n (pc := 45) C d_CP_symbol_45 rfl 2 rfl ?_
  refine ax_if_ne (pc := 46) C 59 d_CP_symbol_46 (by decide) (fun _ => ?_) (fun h => absurd h (by decide))
  refine ax_iload_n (pc := 59) C d_CP_symbol_59 rfl 2 rfl ?_
  refine ax_iconst (pc := 60) C 1 d_CP_symbol_60 (by decide +kernel) ?_
  refine ax_icmp_ne (pc := 61) C 75 d_CP_symbol_61 (by decide) (fun h => absurd h (by decide)) (fun _ => ?_)
  refine ax_aload_n (pc := 64) C d_CP_symbol_64 rfl 0 rfl ?_
  refine ax_get (pc := 65) C k_CP 3 lk_CP_28 d_CP_symbol_65 (Nat.le_of_ble_eq_true rfl) 0 rfl rfl ?_
  refine ax_iload_n (pc := 68) C d_CP_symbol_68 rfl 1 rfl ?_
  refine ax_callVi (pc := 69) C (As := [.int 0]) (rest := []) (wr := [(a0, .inr (11, [.ref b0, .ref b1, .ref b2, .ref a1, .ref b3, .ref b4, .ref b5, .ref b6, .ref b7, .ref b8, .int 0, .int 0]))]) (m108_Sym_isPredicate l D kA a1 a2 b9 b10 b11 b12 b13) ml_CP_261 1 rfl rfl rfl d_CP_symbol_69 rfl rfl [1, 2] [0] rfl (by decide) rfl (by decide) (by decide) (Nat.le_of_ble_eq_true rfl) (Nat.le_of_ble_eq_true rfl) (Nat.le_of_ble_eq_true rfl) (Nat.le_of_ble_eq_true rfl) (Nat.le_of_ble_eq_true rfl) (fun r69 w1 hw1 => ?_)
  obtain ⟨rfl, rfl⟩ := hw1
  refine ax_w ([(a0, .inr (11, [.ref b0, .ref b1, .ref b2, .ref a1, .ref b3, .ref b4, .ref b5, .ref b6, .ref b7, .ref b8, .int 0, .int 0])), (a1, .inr (1, [.ref b9, .ref b10, .ref b11, .ref b12, .int 0, .int 1, .ref a2, .ref b13])), (a2, .inl (kA 0, 551, .inl (upd (fun _ => 0) (Int32.toNatClampNeg 0) 1)))]) rfl ?_
  refine ax_goto (pc := 72) C 83 d_CP_symbol_72 (by decide) ?_
  refine ax_istore_n (pc := 83) C d_CP_symbol_83 rfl (Nat.le_of_ble_eq_true rfl) ([(3, .int 1), (0, .ref a0), (1, .int 0), (2, .int 1)]) rfl ?_
  refine ax_iload_n (pc := 84) C d_CP_symbol_84 rfl 0 rfl ?_
  refine ax_if_eq (pc := 85) C 92 d_CP_symbol_85 (by decide) (fun h => absurd h (by decide)) (fun _ => ?_)
  refine ax_iconst (pc := 88) C 1 d_CP_symbol_88 (by decide +kernel) ?_
  refine ax_goto (pc := 89) C 93 d_CP_symbol_89 (by decide) ?_
  exact ax_iret (pc := 93) C d_CP_symbol_93 ⟨rfl, rfl⟩ (by decide) (by decide)
set_option maxHeartbeats 4000000 in
set_option maxRecDepth 100000 in
theorem m106_Law_symbol (l : Launch) (D : va_G) (kA : Nat → ClassId) (a0 : Nat) (a1 : Nat) (a2 : Nat) (a3 : Nat) (b0 : Nat) (b1 : Nat) (b2 : Nat) (b3 : Nat) (b4 : Nat) (b5 : Nat) (b6 : Nat) (b7 : Nat) (b8 : Nat) (b9 : Nat) (b10 : Nat) (b11 : Nat) (b12 : Nat) (b13 : Nat) : ax_Mw l D kA y_Law_symbol b_Law_symbol 5 [(0, 10, 13, 28), (0, 10, 17, 19)] 2 44 0 0 [.ref a0, .int 0, .int 1, .ref a3] [(a0, .inr (11, [.ref b0, .ref b1, .ref b2, .ref a1, .ref b3, .ref b4, .ref b5, .ref b6, .ref b7, .ref b8, .int 0, .int 0])), (a1, .inr (1, [.ref b9, .ref b10, .ref b11, .ref b12, .int 0, .int 1, .ref a2, .ref b13])), (a2, .inl (kA 0, 551, .inl (upd (fun _ => 0) (Int32.toNatClampNeg 0) 1))), (a3, .inl (kA 3, 1, .inr (.inl (fun _ => 0))))] (fun r w1 => r = 0 ∧ w1 = [(a3, .inl (kA 3, 1, .inr (.inl (vp_updL (fun _ => 0) (Int32.toNatClampNeg 0) (Int32.toInt64 1))))), (a0, .inr (11, [.ref b0, .ref b1, .ref b2, .ref a1, .ref b3, .ref b4, .ref b5, .ref b6, .ref b7, .ref b8, .int 0, .int 0])), (a1, .inr (1, [.ref b9, .ref b10, .ref b11, .ref b12, .int 0, .int 1, .ref a2, .ref b13])), (a2, .inl (kA 0, 551, .inl (upd (fun _ => 0) (Int32.toNatClampNeg 0) 1)))]) := by
  refine ax_Mw.of (by decide +kernel) (Nat.le_of_ble_eq_true rfl) ?_
  intro p e s m args below meth c C hadm hmeth hcode htb hX
  refine ax_ls ([(0, .ref a0), (1, .int 0), (2, .int 1), (3, .ref a3)]) [0, 1, 2, 3] rfl ?_
  refine ax_aload_n (pc := 0) C d_Law_symbol_0 rfl 3 rfl ?_
  refine ax_iconst (pc := 1) C 0 d_Law_symbol_1 (by decide +kernel) ?_
  refine ax_aload_n (pc := 2) C d_Law_symbol_2 rfl 0 rfl ?_
  refine ax_iload_n (pc := 3) C d_Law_symbol_3 rfl 1 rfl ?_
  refine ax_iload_n (pc := 4) C d_Law_symbol_4 rfl 2 rfl ?_
  refine ax_callVi (pc := 5) C (As := [.int 0, .int 1]) (rest := [.int 0, .ref a3]) (wr := [(a3, .inl (kA 3, 1, .inr (.inl (fun _ => 0))))]) (m107_CP_symbol l D kA a0 a1 a2 b0 b1 b2 b3 b4 b5 b6 b7 b8 b9 b10 b11 b12 b13) ml_Law_45 0 rfl rfl rfl d_Law_symbol_5 rfl rfl [0, 1, 2] [3] rfl (by decide) rfl (by decide) (by decide) (Nat.le_of_ble_eq_true rfl) (Nat.le_of_ble_eq_true rfl) (Nat.le_of_ble_eq_true rfl) (Nat.le_of_ble_eq_true rfl) (Nat.le_of_ble_eq_true rfl) (fun r5 w1 hw1 => ?_)
  obtain ⟨rfl, rfl⟩ := hw1
  refine ax_w ([(a3, .inl (kA 3, 1, .inr (.inl (fun _ => 0)))), (a0, .inr (11, [.ref b0, .ref b1, .ref b2, .ref a1, .ref b3, .ref b4, .ref b5, .ref b6, .ref b7, .ref b8, .int 0, .int 0])), (a1, .inr (1, [.ref b9, .ref b10, .ref b11, .ref b12, .int 0, .int 1, .ref a2, .ref b13])), (a2, .inl (kA 0, 551, .inl (upd (fun _ => 0) (Int32.toNatClampNeg 0) 1)))]) rfl ?_
  refine ax_i2l (pc := 8) C (Int32.toInt64 1) d_Law_symbol_8 rfl ?_
  refine ax_last (pc := 9) C 0 rfl d_Law_symbol_9 (by unfold vp_in; decide) ?_
  refine ax_w ([(a3, .inl (kA 3, 1, .inr (.inl (vp_updL (fun _ => 0) (Int32.toNatClampNeg 0) (Int32.toInt64 1))))), (a0, .inr (11, [.ref b0, .ref b1, .ref b2, .ref a1, .ref b3, .ref b4, .ref b5, .ref b6, .ref b7, .ref b8, .int 0, .int 0])), (a1, .inr (1, [.ref b9, .ref b10, .ref b11, .ref b12, .int 0, .int 1, .ref a2, .ref b13])), (a2, .inl (kA 0, 551, .inl (upd (fun _ => 0) (Int32.toNatClampNeg 0) 1)))]) rfl ?_
  refine ax_goto (pc := 10) C 21 d_Law_symbol_10 (by decide) ?_
  refine ax_iconst (pc := 21) C 0 d_Law_symbol_21 (by decide +kernel) ?_
  exact ax_iret (pc := 22) C d_Law_symbol_22 ⟨rfl, rfl⟩ (by decide) (by decide)
set_option maxHeartbeats 4000000 in
set_option maxRecDepth 100000 in
theorem m109_MM_symbol2 (l : Launch) (D : va_G) (kA : Nat → ClassId) (a0 : Nat) (a1 : Nat) (b0 : Nat) (b1 : Nat) (b2 : Nat) (b3 : Nat) (b4 : Nat) (b5 : Nat) (b6 : Nat) (b7 : Nat) (b8 : Nat) (b9 : Nat) (b10 : Nat) (b11 : Nat) (b12 : Nat) (b13 : Nat) (b14 : Nat) (b15 : Nat) (b16 : Nat) (b17 : Nat) (b18 : Nat) (b19 : Nat) (b20 : Nat) (b21 : Nat) (b22 : Nat) (b23 : Nat) (b24 : Nat) (b25 : Nat) (b26 : Nat) (b27 : Nat) (b28 : Nat) (b29 : Nat) (b30 : Nat) (b31 : Nat) (b32 : Nat) (b33 : Nat) (b34 : Nat) (b35 : Nat) (b36 : Nat) (b37 : Nat) (b38 : Nat) (b39 : Nat) (b40 : Nat) (b41 : Nat) (b42 : Nat) (b43 : Nat) (b44 : Nat) (b45 : Nat) (b46 : Nat) (b47 : Nat) (b48 : Nat) (b49 : Nat) (b50 : Nat) (b51 : Nat) (b52 : Nat) (b53 : Nat) (b54 : Nat) (b55 : Nat) (b56 : Nat) (b57 : Nat) (b58 : Nat) (b59 : Nat) (b60 : Nat) (b61 : Nat) (b62 : Nat) (b63 : Nat) (b64 : Nat) (b65 : Nat) (b66 : Nat) (b67 : Nat) (b68 : Nat) (b69 : Nat) (b70 : Nat) (b71 : Nat) (b72 : Nat) (b73 : Nat) (b74 : Nat) : ax_Mi l D kA y_MM_symbol2 b_MM_symbol2 3 .int 1 22 0 0 [.ref a0, .int 0, .int 1] [(a0, .inr (12, [.ref b0, .ref b1, .int 0, .int 0, .int 0, .int 0, .int 0, .int 0, .int 0, .int 0, .int 0, .int 0, .int 0, .ref b2, .ref b3, .ref b4, .ref b5, .ref b6, .int 0, .int 1, .int 0, .ref b7, .ref b8, .ref b9, .ref b10, .int 0, .ref b11, .ref b12, .int 0, .int 0, .ref b13, .ref b14, .ref b15, .ref b16, .ref b17, .ref b18, .ref b19, .int 0, .int 0, .int 0, .int 0, .ref b20, .ref b21, .ref b22, .ref b23, .ref b24, .ref b25, .int 0, .ref b26, .ref a1, .ref b27, .ref b28, .ref b29, .ref b30, .ref b31, .int 0, .int 0, .ref b32, .ref b33, .ref b34, .ref b35, .ref b36, .int 0, .ref b37, .ref b38, .int 0, .ref b39, .ref b40, .ref b41, .ref b42, .ref b43, .ref b44, .int 0, .ref b45, .ref b46, .ref b47, .ref b48, .ref b49, .ref b50, .ref b51, .ref b52, .ref b53, .ref b54, .ref b55, .int 0, .int 0, .int 0, .int 0, .int (-1), .int 0, .int 0, .int 0, .int 0, .int 0, .int 0, .ref b56, .ref b57, .ref b58, .int 0, .ref b59, .ref b60, .int 0, .ref b61, .ref b62, .ref b63, .int 0, .ref b64, .ref b65, .ref b66, .ref b67, .ref b68, .ref b69, .int 0, .int (-1), .int 0, .ref b70, .int (-1), .int (-1), .int (-1), .ref b71, .int 0, .ref b72, .int 0, .ref b73, .int 0, .int 0, .ref b74])), (a1, .inl (kA 1, 900, .inl (upd (fun _ => 0) (Int32.toNatClampNeg 0) (vp_nar .boolean 1))))] (fun r w1 => r = 1 ∧ w1 = [(a0, .inr (12, [.ref b0, .ref b1, .int 0, .int 0, .int 0, .int 0, .int 0, .int 0, .int 0, .int 0, .int 0, .int 0, .int 0, .ref b2, .ref b3, .ref b4, .ref b5, .ref b6, .int 0, .int 1, .int 0, .ref b7, .ref b8, .ref b9, .ref b10, .int 0, .ref b11, .ref b12, .int 0, .int 0, .ref b13, .ref b14, .ref b15, .ref b16, .ref b17, .ref b18, .ref b19, .int 0, .int 0, .int 0, .int 0, .ref b20, .ref b21, .ref b22, .ref b23, .ref b24, .ref b25, .int 0, .ref b26, .ref a1, .ref b27, .ref b28, .ref b29, .ref b30, .ref b31, .int 0, .int 0, .ref b32, .ref b33, .ref b34, .ref b35, .ref b36, .int 0, .ref b37, .ref b38, .int 0, .ref b39, .ref b40, .ref b41, .ref b42, .ref b43, .ref b44, .int 0, .ref b45, .ref b46, .ref b47, .ref b48, .ref b49, .ref b50, .ref b51, .ref b52, .ref b53, .ref b54, .ref b55, .int 0, .int 0, .int 0, .int 0, .int (-1), .int 0, .int 0, .int 0, .int 0, .int 0, .int 0, .ref b56, .ref b57, .ref b58, .int 0, .ref b59, .ref b60, .int 0, .ref b61, .ref b62, .ref b63, .int 0, .ref b64, .ref b65, .ref b66, .ref b67, .ref b68, .ref b69, .int 0, .int (-1), .int 0, .ref b70, .int (-1), .int (-1), .int (-1), .ref b71, .int 0, .ref b72, .int 0, .ref b73, .int 0, .int 0, .ref b74])), (a1, .inl (kA 1, 900, .inl (upd (fun _ => 0) (Int32.toNatClampNeg 0) (vp_nar .boolean 1))))]) := by
  refine ax_Mi.of (by decide +kernel) (Nat.le_of_ble_eq_true rfl) ?_
  intro p e s m args below meth c C hnm
  refine ax_ls ([(0, .ref a0), (1, .int 0), (2, .int 1)]) [0, 1, 2] rfl ?_
  refine ax_aload_n (pc := 0) C d_MM_symbol2_0 rfl 0 rfl ?_
  refine ax_iconst (pc := 1) C 0 d_MM_symbol2_1 (by decide +kernel) ?_
  refine ax_put (pc := 2) C k_MM 4 lk_MM_24 d_MM_symbol2_2 (Nat.le_of_ble_eq_true rfl) 0 rfl rfl rfl rfl (Nat.le_of_ble_eq_true rfl) ?_
  refine ax_w ([(a0, .inr (12, [.ref b0, .ref b1, .int 0, .int 0, .int 0, .int 0, .int 0, .int 0, .int 0, .int 0, .int 0, .int 0, .int 0, .ref b2, .ref b3, .ref b4, .ref b5, .ref b6, .int 0, .int 1, .int 0, .ref b7, .ref b8, .ref b9, .ref b10, .int 0, .ref b11, .ref b12, .int 0, .int 0, .ref b13, .ref b14, .ref b15, .ref b16, .ref b17, .ref b18, .ref b19, .int 0, .int 0, .int 0, .int 0, .ref b20, .ref b21, .ref b22, .ref b23, .ref b24, .ref b25, .int 0, .ref b26, .ref a1, .ref b27, .ref b28, .ref b29, .ref b30, .ref b31, .int 0, .int 0, .ref b32, .ref b33, .ref b34, .ref b35, .ref b36, .int 0, .ref b37, .ref b38, .int 0, .ref b39, .ref b40, .ref b41, .ref b42, .ref b43, .ref b44, .int 0, .ref b45, .ref b46, .ref b47, .ref b48, .ref b49, .ref b50, .ref b51, .ref b52, .ref b53, .ref b54, .ref b55, .int 0, .int 0, .int 0, .int 0, .int (-1), .int 0, .int 0, .int 0, .int 0, .int 0, .int 0, .ref b56, .ref b57, .ref b58, .int 0, .ref b59, .ref b60, .int 0, .ref b61, .ref b62, .ref b63, .int 0, .ref b64, .ref b65, .ref b66, .ref b67, .ref b68, .ref b69, .int 0, .int (-1), .int 0, .ref b70, .int (-1), .int (-1), .int (-1), .ref b71, .int 0, .ref b72, .int 0, .ref b73, .int 0, .int 0, .ref b74])), (a1, .inl (kA 1, 900, .inl (upd (fun _ => 0) (Int32.toNatClampNeg 0) (vp_nar .boolean 1))))]) rfl ?_
  refine ax_aload_n (pc := 5) C d_MM_symbol2_5 rfl 0 rfl ?_
  refine ax_iconst (pc := 6) C 1 d_MM_symbol2_6 (by decide +kernel) ?_
  refine ax_iload_n (pc := 7) C d_MM_symbol2_7 rfl 1 rfl ?_
  refine ax_if_lt (pc := 8) C 19 d_MM_symbol2_8 (by decide) (fun h => absurd h (by decide)) (fun _ => ?_)
  refine ax_iload_n (pc := 11) C d_MM_symbol2_11 rfl 1 rfl ?_
  refine ax_aload_n (pc := 12) C d_MM_symbol2_12 rfl 0 rfl ?_
  refine ax_get (pc := 13) C k_MM 19 lk_MM_71 d_MM_symbol2_13 (Nat.le_of_ble_eq_true rfl) 0 rfl rfl ?_
  refine ax_icmp_lt (pc := 16) C 23 d_MM_symbol2_16 (by decide) (fun _ => ?_) (fun h => absurd h (by decide))
  refine ax_iconst (pc := 23) C 0 d_MM_symbol2_23 (by decide +kernel) ?_
  refine ax_callVi (pc := 24) C (As := [.int 1, .int 0]) (rest := []) (wr := [(a0, .inr (12, [.ref b0, .ref b1, .int 0, .int 0, .int 0, .int 0, .int 0, .int 0, .int 0, .int 0, .int 0, .int 0, .int 0, .ref b2, .ref b3, .ref b4, .ref b5, .ref b6, .int 0, .int 1, .int 0, .ref b7, .ref b8, .ref b9, .ref b10, .int 0, .ref b11, .ref b12, .int 0, .int 0, .ref b13, .ref b14, .ref b15, .ref b16, .ref b17, .ref b18, .ref b19, .int 0, .int 0, .int 0, .int 0, .ref b20, .ref b21, .ref b22, .ref b23, .ref b24, .ref b25, .int 0, .ref b26, .ref a1, .ref b27, .ref b28, .ref b29, .ref b30, .ref b31, .int 0, .int 0, .ref b32, .ref b33, .ref b34, .ref b35, .ref b36, .int 0, .ref b37, .ref b38, .int 0, .ref b39, .ref b40, .ref b41, .ref b42, .ref b43, .ref b44, .int 0, .ref b45, .ref b46, .ref b47, .ref b48, .ref b49, .ref b50, .ref b51, .ref b52, .ref b53, .ref b54, .ref b55, .int 0, .int 0, .int 0, .int 0, .int (-1), .int 0, .int 0, .int 0, .int 0, .int 0, .int 0, .ref b56, .ref b57, .ref b58, .int 0, .ref b59, .ref b60, .int 0, .ref b61, .ref b62, .ref b63, .int 0, .ref b64, .ref b65, .ref b66, .ref b67, .ref b68, .ref b69, .int 0, .int (-1), .int 0, .ref b70, .int (-1), .int (-1), .int (-1), .ref b71, .int 0, .ref b72, .int 0, .ref b73, .int 0, .int 0, .ref b74])), (a1, .inl (kA 1, 900, .inl (upd (fun _ => 0) (Int32.toNatClampNeg 0) (vp_nar .boolean 1))))]) (m29_MM_refuse l D kA a0) ml_MM_401 0 rfl rfl rfl d_MM_symbol2_24 rfl rfl [] [0, 1] rfl (by decide) rfl (by decide) (by decide) (Nat.le_of_ble_eq_true rfl) (Nat.le_of_ble_eq_true rfl) (Nat.le_of_ble_eq_true rfl) (Nat.le_of_ble_eq_true rfl) (Nat.le_of_ble_eq_true rfl) (fun r24 w1 hw1 => ?_)
  obtain ⟨rfl, rfl⟩ := hw1
  refine ax_w ([(a0, .inr (12, [.ref b0, .ref b1, .int 0, .int 0, .int 0, .int 0, .int 0, .int 0, .int 0, .int 0, .int 0, .int 0, .int 0, .ref b2, .ref b3, .ref b4, .ref b5, .ref b6, .int 0, .int 1, .int 0, .ref b7, .ref b8, .ref b9, .ref b10, .int 0, .ref b11, .ref b12, .int 0, .int 0, .ref b13, .ref b14, .ref b15, .ref b16, .ref b17, .ref b18, .ref b19, .int 0, .int 0, .int 0, .int 0, .ref b20, .ref b21, .ref b22, .ref b23, .ref b24, .ref b25, .int 0, .ref b26, .ref a1, .ref b27, .ref b28, .ref b29, .ref b30, .ref b31, .int 0, .int 0, .ref b32, .ref b33, .ref b34, .ref b35, .ref b36, .int 0, .ref b37, .ref b38, .int 0, .ref b39, .ref b40, .ref b41, .ref b42, .ref b43, .ref b44, .int 0, .ref b45, .ref b46, .ref b47, .ref b48, .ref b49, .ref b50, .ref b51, .ref b52, .ref b53, .ref b54, .ref b55, .int 0, .int 0, .int 0, .int 0, .int (-1), .int 0, .int 0, .int 0, .int 0, .int 0, .int 0, .ref b56, .ref b57, .ref b58, .int 0, .ref b59, .ref b60, .int 0, .ref b61, .ref b62, .ref b63, .int 0, .ref b64, .ref b65, .ref b66, .ref b67, .ref b68, .ref b69, .int 0, .int (-1), .int 0, .ref b70, .int (-1), .int (-1), .int (-1), .ref b71, .int 0, .ref b72, .int 0, .ref b73, .int 0, .int 0, .ref b74])), (a1, .inl (kA 1, 900, .inl (upd (fun _ => 0) (Int32.toNatClampNeg 0) (vp_nar .boolean 1))))]) rfl ?_
  refine ax_if_ne (pc := 27) C 52 d_MM_symbol2_27 (by decide) (fun h => absurd h (by decide)) (fun _ => ?_)
  refine ax_aload_n (pc := 30) C d_MM_symbol2_30 rfl 0 rfl ?_
  refine ax_iconst (pc := 31) C 2 d_MM_symbol2_31 (by decide +kernel) ?_
  refine ax_iload_n (pc := 32) C d_MM_symbol2_32 rfl 2 rfl ?_
  refine ax_if_lt (pc := 33) C 41 d_MM_symbol2_33 (by decide) (fun h => absurd h (by decide)) (fun _ => ?_)
  refine ax_iload_n (pc := 36) C d_MM_symbol2_36 rfl 2 rfl ?_
  refine ax_iconst (pc := 37) C 2 d_MM_symbol2_37 (by decide +kernel) ?_
  refine ax_icmp_le (pc := 38) C 45 d_MM_symbol2_38 (by decide) (fun _ => ?_) (fun h => absurd h (by decide))
  refine ax_iconst (pc := 45) C 0 d_MM_symbol2_45 (by decide +kernel) ?_
  refine ax_callVi (pc := 46) C (As := [.int 2, .int 0]) (rest := []) (wr := [(a0, .inr (12, [.ref b0, .ref b1, .int 0, .int 0, .int 0, .int 0, .int 0, .int 0, .int 0, .int 0, .int 0, .int 0, .int 0, .ref b2, .ref b3, .ref b4, .ref b5, .ref b6, .int 0, .int 1, .int 0, .ref b7, .ref b8, .ref b9, .ref b10, .int 0, .ref b11, .ref b12, .int 0, .int 0, .ref b13, .ref b14, .ref b15, .ref b16, .ref b17, .ref b18, .ref b19, .int 0, .int 0, .int 0, .int 0, .ref b20, .ref b21, .ref b22, .ref b23, .ref b24, .ref b25, .int 0, .ref b26, .ref a1, .ref b27, .ref b28, .ref b29, .ref b30, .ref b31, .int 0, .int 0, .ref b32, .ref b33, .ref b34, .ref b35, .ref b36, .int 0, .ref b37, .ref b38, .int 0, .ref b39, .ref b40, .ref b41, .ref b42, .ref b43, .ref b44, .int 0, .ref b45, .ref b46, .ref b47, .ref b48, .ref b49, .ref b50, .ref b51, .ref b52, .ref b53, .ref b54, .ref b55, .int 0, .int 0, .int 0, .int 0, .int (-1), .int 0, .int 0, .int 0, .int 0, .int 0, .int 0, .ref b56, .ref b57, .ref b58, .int 0, .ref b59, .ref b60, .int 0, .ref b61, .ref b62, .ref b63, .int 0, .ref b64, .ref b65, .ref b66, .ref b67, .ref b68, .ref b69, .int 0, .int (-1), .int 0, .ref b70, .int (-1), .int (-1), .int (-1), .ref b71, .int 0, .ref b72, .int 0, .ref b73, .int 0, .int 0, .ref b74])), (a1, .inl (kA 1, 900, .inl (upd (fun _ => 0) (Int32.toNatClampNeg 0) (vp_nar .boolean 1))))]) (m105_MM_refuse l D kA a0) ml_MM_401 0 rfl rfl rfl d_MM_symbol2_46 rfl rfl [] [0, 1] rfl (by decide) rfl (by decide) (by decide) (Nat.le_of_ble_eq_true rfl) (Nat.le_of_ble_eq_true rfl) (Nat.le_of_ble_eq_true rfl) (Nat.le_of_ble_eq_true rfl) (Nat.le_of_ble_eq_true rfl) (fun r46 w1 hw1 => ?_)
  obtain ⟨rfl, rfl⟩ := hw1
  refine ax_w ([(a0, .inr (12, [.ref b0, .ref b1, .int 0, .int 0, .int 0, .int 0, .int 0, .int 0, .int 0, .int 0, .int 0, .int 0, .int 0, .ref b2, .ref b3, .ref b4, .ref b5, .ref b6, .int 0, .int 1, .int 0, .ref b7, .ref b8, .ref b9, .ref b10, .int 0, .ref b11, .ref b12, .int 0, .int 0, .ref b13, .ref b14, .ref b15, .ref b16, .ref b17, .ref b18, .ref b19, .int 0, .int 0, .int 0, .int 0, .ref b20, .ref b21, .ref b22, .ref b23, .ref b24, .ref b25, .int 0, .ref b26, .ref a1, .ref b27, .ref b28, .ref b29, .ref b30, .ref b31, .int 0, .int 0, .ref b32, .ref b33, .ref b34, .ref b35, .ref b36, .int 0, .ref b37, .ref b38, .int 0, .ref b39, .ref b40, .ref b41, .ref b42, .ref b43, .ref b44, .int 0, .ref b45, .ref b46, .ref b47, .ref b48, .ref b49, .ref b50, .ref b51, .ref b52, .ref b53, .ref b54, .ref b55, .int 0, .int 0, .int 0, .int 0, .int (-1), .int 0, .int 0, .int 0, .int 0, .int 0, .int 0, .ref b56, .ref b57, .ref b58, .int 0, .ref b59, .ref b60, .int 0, .ref b61, .ref b62, .ref b63, .int 0, .ref b64, .ref b65, .ref b66, .ref b67, .ref b68, .ref b69, .int 0, .int (-1), .int 0, .ref b70, .int (-1), .int (-1), .int (-1), .ref b71, .int 0, .ref b72, .int 0, .ref b73, .int 0, .int 0, .ref b74])), (a1, .inl (kA 1, 900, .inl (upd (fun _ => 0) (Int32.toNatClampNeg 0) (vp_nar .boolean 1))))]) rfl ?_
  refine ax_if_eq (pc := 49) C 54 d_MM_symbol2_49 (by decide) (fun _ => ?_) (fun h => absurd h (by decide))
  refine ax_iload_n (pc := 54) C d_MM_symbol2_54 rfl 2 rfl ?_
  refine ax_if_ne (pc := 55) C 67 d_MM_symbol2_55 (by decide) (fun _ => ?_) (fun h => absurd h (by decide))
  refine ax_iload_n (pc := 67) C d_MM_symbol2_67 rfl 2 rfl ?_
  refine ax_iconst (pc := 68) C 1 d_MM_symbol2_68 (by decide +kernel) ?_
  refine ax_icmp_ne (pc := 69) C 89 d_MM_symbol2_69 (by decide) (fun h => absurd h (by decide)) (fun _ => ?_)
  refine ax_aload_n (pc := 72) C d_MM_symbol2_72 rfl 0 rfl ?_
  refine ax_get (pc := 73) C k_MM 49 lk_MM_163 d_MM_symbol2_73 (Nat.le_of_ble_eq_true rfl) 0 rfl rfl ?_
  refine ax_iload_n (pc := 76) C d_MM_symbol2_76 rfl 1 rfl ?_
  refine ax_zald (pc := 77) C 1 rfl d_MM_symbol2_77 (by unfold vp_in; decide) ?_
  refine ax_nrm 1 (by decide) ?_
  refine ax_if_eq (pc := 78) C 85 d_MM_symbol2_78 (by decide) (fun h => absurd h (by decide)) (fun _ => ?_)
  refine ax_iconst (pc := 81) C 1 d_MM_symbol2_81 (by decide +kernel) ?_
  refine ax_goto (pc := 82) C 102 d_MM_symbol2_82 (by decide) ?_
  exact ax_iret (pc := 102) C d_MM_symbol2_102 ⟨rfl, rfl⟩ (by decide) (by decide)
abbrev b_Sym_isWitness : ByteArray := prog_10_method_7_code
def y_Sym_isWitness : MethodName := ⟨"ClauseProver$Symbols", "isWitness", "(I)Z"⟩
theorem d_Sym_isWitness_0 : decode b_Sym_isWitness 0 = .ok (.iload_n 1, 1) := by decide +kernel
theorem d_Sym_isWitness_1 : decode b_Sym_isWitness 1 = .ok (.aload_n 0, 1) := by decide +kernel
theorem d_Sym_isWitness_2 : decode b_Sym_isWitness 2 = .ok (.getfield 40, 3) := by decide +kernel
theorem d_Sym_isWitness_5 : decode b_Sym_isWitness 5 = .ok (.if_icmp .le 7, 3) := by decide +kernel
theorem d_Sym_isWitness_8 : decode b_Sym_isWitness 8 = .ok (.iconst 1, 1) := by decide +kernel
theorem d_Sym_isWitness_9 : decode b_Sym_isWitness 9 = .ok (.goto 4, 3) := by decide +kernel
theorem d_Sym_isWitness_12 : decode b_Sym_isWitness 12 = .ok (.iconst 0, 1) := by decide +kernel
theorem d_Sym_isWitness_13 : decode b_Sym_isWitness 13 = .ok (.ireturn, 1) := by decide +kernel
set_option maxHeartbeats 4000000 in
set_option maxRecDepth 100000 in
theorem m112_Sym_isWitness (l : Launch) (D : va_G) (kA : Nat → ClassId) (a0 : Nat) (b0 : Nat) (b1 : Nat) (b2 : Nat) (b3 : Nat) (b4 : Nat) (b5 : Nat) : ax_Mi l D kA y_Sym_isWitness b_Sym_isWitness 2 .boolean 0 0 0 0 [.ref a0, .int 0] [(a0, .inr (1, [.ref b0, .ref b1, .ref b2, .ref b3, .int 0, .int 1, .ref b4, .ref b5]))] (fun r w1 => r = 0 ∧ w1 = [(a0, .inr (1, [.ref b0, .ref b1, .ref b2, .ref b3, .int 0, .int 1, .ref b4, .ref b5]))]) := by
  refine ax_Mi.of (by decide +kernel) (Nat.le_of_ble_eq_true rfl) ?_
  intro p e s m args below meth c C hnm
  refine ax_ls ([(0, .ref a0), (1, .int 0)]) [0, 1] rfl ?_
  refine ax_iload_n (pc := 0) C d_Sym_isWitness_0 rfl 1 rfl ?_
  refine ax_aload_n (pc := 1) C d_Sym_isWitness_1 rfl 0 rfl ?_
  refine ax_get (pc := 2) C k_Sym 4 lk_Sym_40 d_Sym_isWitness_2 (Nat.le_of_ble_eq_true rfl) 0 rfl rfl ?_
  refine ax_icmp_le (pc := 5) C 12 d_Sym_isWitness_5 (by decide) (fun _ => ?_) (fun h => absurd h (by decide))
  refine ax_iconst (pc := 12) C 0 d_Sym_isWitness_12 (by decide +kernel) ?_
  exact ax_zret (pc := 13) C d_Sym_isWitness_13 rfl ⟨rfl, rfl⟩ (by decide) (by decide)
theorem tc_Sym_isWitness : Cond.code y_Sym_isWitness b_Sym_isWitness 2 (some (.boolean)) ∈ lw_tbg := tb_in (i := 1410) (by decide +kernel) rfl
theorem ml_CP_227 : ax_LV "ClauseProver" 227 y_Sym_isWitness b_Sym_isWitness 2 (some (.boolean)) 1 := ax_LV.mk (tb_in (i := 1407) (by decide +kernel) rfl) (tb_in (i := 1408) (by decide +kernel) rfl) (tb_in (i := 1409) (by decide +kernel) rfl) ti_Sym tc_Sym_isWitness (by decide +kernel)
set_option maxHeartbeats 4000000 in
set_option maxRecDepth 100000 in
theorem m111_CP_symbol (l : Launch) (D : va_G) (kA : Nat → ClassId) (a0 : Nat) (a1 : Nat) (b0 : Nat) (b1 : Nat) (b2 : Nat) (b3 : Nat) (b4 : Nat) (b5 : Nat) (b6 : Nat) (b7 : Nat) (b8 : Nat) (b9 : Nat) (b10 : Nat) (b11 : Nat) (b12 : Nat) (b13 : Nat) (b14 : Nat) : ax_Mi l D kA y_CP_symbol b_CP_symbol 4 .int 1 21 0 0 [.ref a0, .int 0, .int 2] [(a0, .inr (11, [.ref b0, .ref b1, .ref b2, .ref a1, .ref b3, .ref b4, .ref b5, .ref b6, .ref b7, .ref b8, .int 0, .int 0])), (a1, .inr (1, [.ref b9, .ref b10, .ref b11, .ref b12, .int 0, .int 1, .ref b13, .ref b14]))] (fun r w1 => r = 0 ∧ w1 = [(a0, .inr (11, [.ref b0, .ref b1, .ref b2, .ref a1, .ref b3, .ref b4, .ref b5, .ref b6, .ref b7, .ref b8, .int 0, .int 0])), (a1, .inr (1, [.ref b9, .ref b10, .ref b11, .ref b12, .int 0, .int 1, .ref b13, .ref b14]))]) := by
  refine ax_Mi.of (by decide +kernel) (Nat.le_of_ble_eq_true rfl) ?_
  intro p e s m args below meth c C hnm
  refine ax_ls ([(0, .ref a0), (1, .int 0), (2, .int 2)]) [0, 1, 2] rfl ?_
  refine ax_iload_n (pc := 0) C d_CP_symbol_0 rfl 1 rfl ?_
  refine ax_if_lt (pc := 1) C 15 d_CP_symbol_1 (by decide) (fun h => absurd h (by decide)) (fun _ => ?_)
  refine ax_iload_n (pc := 4) C d_CP_symbol_4 rfl 1 rfl ?_
  refine ax_aload_n (pc := 5) C d_CP_symbol_5 rfl 0 rfl ?_
  refine ax_get (pc := 6) C k_CP 3 lk_CP_28 d_CP_symbol_6 (Nat.le_of_ble_eq_true rfl) 0 rfl rfl ?_
  refine ax_get (pc := 9) C k_Sym 5 lk_CP_258 d_CP_symbol_9 (Nat.le_of_ble_eq_true rfl) 1 rfl rfl ?_
  refine ax_icmp_lt (pc := 12) C 26 d_CP_symbol_12 (by decide) (fun _ => ?_) (fun h => absurd h (by decide))
  refine ax_iload_n (pc := 26) C d_CP_symbol_26 rfl 2 rfl ?_
  refine ax_if_lt (pc := 27) C 35 d_CP_symbol_27 (by decide) (fun h => absurd h (by decide)) (fun _ => ?_)
  refine ax_iload_n (pc := 30) C d_CP_symbol_30 rfl 2 rfl ?_
  refine ax_iconst (pc := 31) C 2 d_CP_symbol_31 (by decide +kernel) ?_
  refine ax_icmp_le (pc := 32) C 45 d_CP_symbol_32 (by decide) (fun _ => ?_) (fun h => absurd h (by decide))
  refine ax_iload_n (pc := 45) C d_CP_symbol_45 rfl 2 rfl ?_
  refine ax_if_ne (pc := 46) C 59 d_CP_symbol_46 (by decide) (fun _ => ?_) (fun h => absurd h (by decide))
  refine ax_iload_n (pc := 59) C d_CP_symbol_59 rfl 2 rfl ?_
  refine ax_iconst (pc := 60) C 1 d_CP_symbol_60 (by decide +kernel) ?_
  refine ax_icmp_ne (pc := 61) C 75 d_CP_symbol_61 (by decide) (fun _ => ?_) (fun h => absurd h (by decide))
  refine ax_aload_n (pc := 75) C d_CP_symbol_75 rfl 0 rfl ?_
  refine ax_get (pc := 76) C k_CP 3 lk_CP_28 d_CP_symbol_76 (Nat.le_of_ble_eq_true rfl) 0 rfl rfl ?_
  refine ax_iload_n (pc := 79) C d_CP_symbol_79 rfl 1 rfl ?_
  refine ax_callVi (pc := 80) C (As := [.int 0]) (rest := []) (wr := [(a0, .inr (11, [.ref b0, .ref b1, .ref b2, .ref a1, .ref b3, .ref b4, .ref b5, .ref b6, .ref b7, .ref b8, .int 0, .int 0]))]) (m112_Sym_isWitness l D kA a1 b9 b10 b11 b12 b13 b14) ml_CP_227 1 rfl rfl rfl d_CP_symbol_80 rfl rfl [1] [0] rfl (by decide) rfl (by decide) (by decide) (Nat.le_of_ble_eq_true rfl) (Nat.le_of_ble_eq_true rfl) (Nat.le_of_ble_eq_true rfl) (Nat.le_of_ble_eq_true rfl) (Nat.le_of_ble_eq_true rfl) (fun r80 w1 hw1 => ?_)
  obtain ⟨rfl, rfl⟩ := hw1
  refine ax_w ([(a0, .inr (11, [.ref b0, .ref b1, .ref b2, .ref a1, .ref b3, .ref b4, .ref b5, .ref b6, .ref b7, .ref b8, .int 0, .int 0])), (a1, .inr (1, [.ref b9, .ref b10, .ref b11, .ref b12, .int 0, .int 1, .ref b13, .ref b14]))]) rfl ?_
  refine ax_istore_n (pc := 83) C d_CP_symbol_83 rfl (Nat.le_of_ble_eq_true rfl) ([(3, .int 0), (0, .ref a0), (1, .int 0), (2, .int 2)]) rfl ?_
  refine ax_iload_n (pc := 84) C d_CP_symbol_84 rfl 0 rfl ?_
  refine ax_if_eq (pc := 85) C 92 d_CP_symbol_85 (by decide) (fun _ => ?_) (fun h => absurd h (by decide))
  refine ax_iconst (pc := 92) C 0 d_CP_symbol_92 (by decide +kernel) ?_
  exact ax_iret (pc := 93) C d_CP_symbol_93 ⟨rfl, rfl⟩ (by decide) (by decide)
set_option maxHeartbeats 4000000 in
set_option maxRecDepth 100000 in
theorem m110_Law_symbol (l : Launch) (D : va_G) (kA : Nat → ClassId) (a0 : Nat) (a1 : Nat) (a2 : Nat) (b0 : Nat) (b1 : Nat) (b2 : Nat) (b3 : Nat) (b4 : Nat) (b5 : Nat) (b6 : Nat) (b7 : Nat) (b8 : Nat) (b9 : Nat) (b10 : Nat) (b11 : Nat) (b12 : Nat) (b13 : Nat) (b14 : Nat) : ax_Mw l D kA y_Law_symbol b_Law_symbol 5 [(0, 10, 13, 28), (0, 10, 17, 19)] 2 44 0 0 [.ref a0, .int 0, .int 2, .ref a2] [(a0, .inr (11, [.ref b0, .ref b1, .ref b2, .ref a1, .ref b3, .ref b4, .ref b5, .ref b6, .ref b7, .ref b8, .int 0, .int 0])), (a1, .inr (1, [.ref b9, .ref b10, .ref b11, .ref b12, .int 0, .int 1, .ref b13, .ref b14])), (a2, .inl (kA 3, 1, .inr (.inl (fun _ => 0))))] (fun r w1 => r = 0 ∧ w1 = [(a2, .inl (kA 3, 1, .inr (.inl (vp_updL (fun _ => 0) (Int32.toNatClampNeg 0) (Int32.toInt64 0))))), (a0, .inr (11, [.ref b0, .ref b1, .ref b2, .ref a1, .ref b3, .ref b4, .ref b5, .ref b6, .ref b7, .ref b8, .int 0, .int 0])), (a1, .inr (1, [.ref b9, .ref b10, .ref b11, .ref b12, .int 0, .int 1, .ref b13, .ref b14]))]) := by
  refine ax_Mw.of (by decide +kernel) (Nat.le_of_ble_eq_true rfl) ?_
  intro p e s m args below meth c C hadm hmeth hcode htb hX
  refine ax_ls ([(0, .ref a0), (1, .int 0), (2, .int 2), (3, .ref a2)]) [0, 1, 2, 3] rfl ?_
  refine ax_aload_n (pc := 0) C d_Law_symbol_0 rfl 3 rfl ?_
  refine ax_iconst (pc := 1) C 0 d_Law_symbol_1 (by decide +kernel) ?_
  refine ax_aload_n (pc := 2) C d_Law_symbol_2 rfl 0 rfl ?_
  refine ax_iload_n (pc := 3) C d_Law_symbol_3 rfl 1 rfl ?_
  refine ax_iload_n (pc := 4) C d_Law_symbol_4 rfl 2 rfl ?_
  refine ax_callVi (pc := 5) C (As := [.int 0, .int 2]) (rest := [.int 0, .ref a2]) (wr := [(a2, .inl (kA 3, 1, .inr (.inl (fun _ => 0))))]) (m111_CP_symbol l D kA a0 a1 b0 b1 b2 b3 b4 b5 b6 b7 b8 b9 b10 b11 b12 b13 b14) ml_Law_45 0 rfl rfl rfl d_Law_symbol_5 rfl rfl [0, 1] [2] rfl (by decide) rfl (by decide) (by decide) (Nat.le_of_ble_eq_true rfl) (Nat.le_of_ble_eq_true rfl) (Nat.le_of_ble_eq_true rfl) (Nat.le_of_ble_eq_true rfl) (Nat.le_of_ble_eq_true rfl) (fun r5 w1 hw1 => ?_)
  obtain ⟨rfl, rfl⟩ := hw1
  refine ax_w ([(a2, .inl (kA 3, 1, .inr (.inl (fun _ => 0)))), (a0, .inr (11, [.ref b0, .ref b1, .ref b2, .ref a1, .ref b3, .ref b4, .ref b5, .ref b6, .ref b7, .ref b8, .int 0, .int 0])), (a1, .inr (1, [.ref b9, .ref b10, .ref b11, .ref b12, .int 0, .int 1, .ref b13, .ref b14]))]) rfl ?_
  refine ax_i2l (pc := 8) C (Int32.toInt64 0) d_Law_symbol_8 rfl ?_
  refine ax_last (pc := 9) C 0 rfl d_Law_symbol_9 (by unfold vp_in; decide) ?_
  refine ax_w ([(a2, .inl (kA 3, 1, .inr (.inl (vp_updL (fun _ => 0) (Int32.toNatClampNeg 0) (Int32.toInt64 0))))), (a0, .inr (11, [.ref b0, .ref b1, .ref b2, .ref a1, .ref b3, .ref b4, .ref b5, .ref b6, .ref b7, .ref b8, .int 0, .int 0])), (a1, .inr (1, [.ref b9, .ref b10, .ref b11, .ref b12, .int 0, .int 1, .ref b13, .ref b14]))]) rfl ?_
  refine ax_goto (pc := 10) C 21 d_Law_symbol_10 (by decide) ?_
  refine ax_iconst (pc := 21) C 0 d_Law_symbol_21 (by decide +kernel) ?_
  exact ax_iret (pc := 22) C d_Law_symbol_22 ⟨rfl, rfl⟩ (by decide) (by decide)
set_option maxHeartbeats 4000000 in
set_option maxRecDepth 100000 in
theorem m113_MM_symbol2 (l : Launch) (D : va_G) (kA : Nat → ClassId) (a0 : Nat) (b0 : Nat) (b1 : Nat) (b2 : Nat) (b3 : Nat) (b4 : Nat) (b5 : Nat) (b6 : Nat) (b7 : Nat) (b8 : Nat) (b9 : Nat) (b10 : Nat) (b11 : Nat) (b12 : Nat) (b13 : Nat) (b14 : Nat) (b15 : Nat) (b16 : Nat) (b17 : Nat) (b18 : Nat) (b19 : Nat) (b20 : Nat) (b21 : Nat) (b22 : Nat) (b23 : Nat) (b24 : Nat) (b25 : Nat) (b26 : Nat) (b27 : Nat) (b28 : Nat) (b29 : Nat) (b30 : Nat) (b31 : Nat) (b32 : Nat) (b33 : Nat) (b34 : Nat) (b35 : Nat) (b36 : Nat) (b37 : Nat) (b38 : Nat) (b39 : Nat) (b40 : Nat) (b41 : Nat) (b42 : Nat) (b43 : Nat) (b44 : Nat) (b45 : Nat) (b46 : Nat) (b47 : Nat) (b48 : Nat) (b49 : Nat) (b50 : Nat) (b51 : Nat) (b52 : Nat) (b53 : Nat) (b54 : Nat) (b55 : Nat) (b56 : Nat) (b57 : Nat) (b58 : Nat) (b59 : Nat) (b60 : Nat) (b61 : Nat) (b62 : Nat) (b63 : Nat) (b64 : Nat) (b65 : Nat) (b66 : Nat) (b67 : Nat) (b68 : Nat) (b69 : Nat) (b70 : Nat) (b71 : Nat) (b72 : Nat) (b73 : Nat) (b74 : Nat) (b75 : Nat) : ax_Mi l D kA y_MM_symbol2 b_MM_symbol2 3 .int 1 22 0 0 [.ref a0, .int 0, .int 2] [(a0, .inr (12, [.ref b0, .ref b1, .int 0, .int 0, .int 0, .int 0, .int 0, .int 0, .int 0, .int 0, .int 0, .int 0, .int 0, .ref b2, .ref b3, .ref b4, .ref b5, .ref b6, .int 0, .int 1, .int 0, .ref b7, .ref b8, .ref b9, .ref b10, .int 0, .ref b11, .ref b12, .int 0, .int 0, .ref b13, .ref b14, .ref b15, .ref b16, .ref b17, .ref b18, .ref b19, .int 0, .int 0, .int 0, .int 0, .ref b20, .ref b21, .ref b22, .ref b23, .ref b24, .ref b25, .int 0, .ref b26, .ref b27, .ref b28, .ref b29, .ref b30, .ref b31, .ref b32, .int 0, .int 0, .ref b33, .ref b34, .ref b35, .ref b36, .ref b37, .int 0, .ref b38, .ref b39, .int 0, .ref b40, .ref b41, .ref b42, .ref b43, .ref b44, .ref b45, .int 0, .ref b46, .ref b47, .ref b48, .ref b49, .ref b50, .ref b51, .ref b52, .ref b53, .ref b54, .ref b55, .ref b56, .int 0, .int 0, .int 0, .int 0, .int (-1), .int 0, .int 0, .int 0, .int 0, .int 0, .int 0, .ref b57, .ref b58, .ref b59, .int 0, .ref b60, .ref b61, .int 0, .ref b62, .ref b63, .ref b64, .int 0, .ref b65, .ref b66, .ref b67, .ref b68, .ref b69, .ref b70, .int 0, .int (-1), .int 0, .ref b71, .int (-1), .int (-1), .int (-1), .ref b72, .int 0, .ref b73, .int 0, .ref b74, .int 0, .int 0, .ref b75]))] (fun r w1 => r = 0 ∧ w1 = [(a0, .inr (12, [.ref b0, .ref b1, .int 0, .int 0, .int 0, .int 0, .int 0, .int 0, .int 0, .int 0, .int 0, .int 0, .int 0, .ref b2, .ref b3, .ref b4, .ref b5, .ref b6, .int 0, .int 1, .int 0, .ref b7, .ref b8, .ref b9, .ref b10, .int 0, .ref b11, .ref b12, .int 0, .int 0, .ref b13, .ref b14, .ref b15, .ref b16, .ref b17, .ref b18, .ref b19, .int 0, .int 0, .int 0, .int 0, .ref b20, .ref b21, .ref b22, .ref b23, .ref b24, .ref b25, .int 0, .ref b26, .ref b27, .ref b28, .ref b29, .ref b30, .ref b31, .ref b32, .int 0, .int 0, .ref b33, .ref b34, .ref b35, .ref b36, .ref b37, .int 0, .ref b38, .ref b39, .int 0, .ref b40, .ref b41, .ref b42, .ref b43, .ref b44, .ref b45, .int 0, .ref b46, .ref b47, .ref b48, .ref b49, .ref b50, .ref b51, .ref b52, .ref b53, .ref b54, .ref b55, .ref b56, .int 0, .int 0, .int 0, .int 0, .int (-1), .int 0, .int 0, .int 0, .int 0, .int 0, .int 0, .ref b57, .ref b58, .ref b59, .int 0, .ref b60, .ref b61, .int 0, .ref b62, .ref b63, .ref b64, .int 0, .ref b65, .ref b66, .ref b67, .ref b68, .ref b69, .ref b70, .int 0, .int (-1), .int 0, .ref b71, .int (-1), .int (-1), .int (-1), .ref b72, .int 0, .ref b73, .int 0, .ref b74, .int 0, .int 0, .ref b75]))]) := by
  refine ax_Mi.of (by decide +kernel) (Nat.le_of_ble_eq_true rfl) ?_
  intro p e s m args below meth c C hnm
  refine ax_ls ([(0, .ref a0), (1, .int 0), (2, .int 2)]) [0, 1, 2] rfl ?_
  refine ax_aload_n (pc := 0) C d_MM_symbol2_0 rfl 0 rfl ?_
  refine ax_iconst (pc := 1) C 0 d_MM_symbol2_1 (by decide +kernel) ?_
  refine ax_put (pc := 2) C k_MM 4 lk_MM_24 d_MM_symbol2_2 (Nat.le_of_ble_eq_true rfl) 0 rfl rfl rfl rfl (Nat.le_of_ble_eq_true rfl) ?_
  refine ax_w ([(a0, .inr (12, [.ref b0, .ref b1, .int 0, .int 0, .int 0, .int 0, .int 0, .int 0, .int 0, .int 0, .int 0, .int 0, .int 0, .ref b2, .ref b3, .ref b4, .ref b5, .ref b6, .int 0, .int 1, .int 0, .ref b7, .ref b8, .ref b9, .ref b10, .int 0, .ref b11, .ref b12, .int 0, .int 0, .ref b13, .ref b14, .ref b15, .ref b16, .ref b17, .ref b18, .ref b19, .int 0, .int 0, .int 0, .int 0, .ref b20, .ref b21, .ref b22, .ref b23, .ref b24, .ref b25, .int 0, .ref b26, .ref b27, .ref b28, .ref b29, .ref b30, .ref b31, .ref b32, .int 0, .int 0, .ref b33, .ref b34, .ref b35, .ref b36, .ref b37, .int 0, .ref b38, .ref b39, .int 0, .ref b40, .ref b41, .ref b42, .ref b43, .ref b44, .ref b45, .int 0, .ref b46, .ref b47, .ref b48, .ref b49, .ref b50, .ref b51, .ref b52, .ref b53, .ref b54, .ref b55, .ref b56, .int 0, .int 0, .int 0, .int 0, .int (-1), .int 0, .int 0, .int 0, .int 0, .int 0, .int 0, .ref b57, .ref b58, .ref b59, .int 0, .ref b60, .ref b61, .int 0, .ref b62, .ref b63, .ref b64, .int 0, .ref b65, .ref b66, .ref b67, .ref b68, .ref b69, .ref b70, .int 0, .int (-1), .int 0, .ref b71, .int (-1), .int (-1), .int (-1), .ref b72, .int 0, .ref b73, .int 0, .ref b74, .int 0, .int 0, .ref b75]))]) rfl ?_
  refine ax_aload_n (pc := 5) C d_MM_symbol2_5 rfl 0 rfl ?_
  refine ax_iconst (pc := 6) C 1 d_MM_symbol2_6 (by decide +kernel) ?_
  refine ax_iload_n (pc := 7) C d_MM_symbol2_7 rfl 1 rfl ?_
  refine ax_if_lt (pc := 8) C 19 d_MM_symbol2_8 (by decide) (fun h => absurd h (by decide)) (fun _ => ?_)
  refine ax_iload_n (pc := 11) C d_MM_symbol2_11 rfl 1 rfl ?_
  refine ax_aload_n (pc := 12) C d_MM_symbol2_12 rfl 0 rfl ?_
  refine ax_get (pc := 13) C k_MM 19 lk_MM_71 d_MM_symbol2_13 (Nat.le_of_ble_eq_true rfl) 0 rfl rfl ?_
  refine ax_icmp_lt (pc := 16) C 23 d_MM_symbol2_16 (by decide) (fun _ => ?_) (fun h => absurd h (by decide))
  refine ax_iconst (pc := 23) C 0 d_MM_symbol2_23 (by decide +kernel) ?_
  refine ax_callVi (pc := 24) C (As := [.int 1, .int 0]) (rest := []) (wr := [(a0, .inr (12, [.ref b0, .ref b1, .int 0, .int 0, .int 0, .int 0, .int 0, .int 0, .int 0, .int 0, .int 0, .int 0, .int 0, .ref b2, .ref b3, .ref b4, .ref b5, .ref b6, .int 0, .int 1, .int 0, .ref b7, .ref b8, .ref b9, .ref b10, .int 0, .ref b11, .ref b12, .int 0, .int 0, .ref b13, .ref b14, .ref b15, .ref b16, .ref b17, .ref b18, .ref b19, .int 0, .int 0, .int 0, .int 0, .ref b20, .ref b21, .ref b22, .ref b23, .ref b24, .ref b25, .int 0, .ref b26, .ref b27, .ref b28, .ref b29, .ref b30, .ref b31, .ref b32, .int 0, .int 0, .ref b33, .ref b34, .ref b35, .ref b36, .ref b37, .int 0, .ref b38, .ref b39, .int 0, .ref b40, .ref b41, .ref b42, .ref b43, .ref b44, .ref b45, .int 0, .ref b46, .ref b47, .ref b48, .ref b49, .ref b50, .ref b51, .ref b52, .ref b53, .ref b54, .ref b55, .ref b56, .int 0, .int 0, .int 0, .int 0, .int (-1), .int 0, .int 0, .int 0, .int 0, .int 0, .int 0, .ref b57, .ref b58, .ref b59, .int 0, .ref b60, .ref b61, .int 0, .ref b62, .ref b63, .ref b64, .int 0, .ref b65, .ref b66, .ref b67, .ref b68, .ref b69, .ref b70, .int 0, .int (-1), .int 0, .ref b71, .int (-1), .int (-1), .int (-1), .ref b72, .int 0, .ref b73, .int 0, .ref b74, .int 0, .int 0, .ref b75]))]) (m29_MM_refuse l D kA a0) ml_MM_401 0 rfl rfl rfl d_MM_symbol2_24 rfl rfl [] [0] rfl (by decide) rfl (by decide) (by decide) (Nat.le_of_ble_eq_true rfl) (Nat.le_of_ble_eq_true rfl) (Nat.le_of_ble_eq_true rfl) (Nat.le_of_ble_eq_true rfl) (Nat.le_of_ble_eq_true rfl) (fun r24 w1 hw1 => ?_)
  obtain ⟨rfl, rfl⟩ := hw1
  refine ax_w ([(a0, .inr (12, [.ref b0, .ref b1, .int 0, .int 0, .int 0, .int 0, .int 0, .int 0, .int 0, .int 0, .int 0, .int 0, .int 0, .ref b2, .ref b3, .ref b4, .ref b5, .ref b6, .int 0, .int 1, .int 0, .ref b7, .ref b8, .ref b9, .ref b10, .int 0, .ref b11, .ref b12, .int 0, .int 0, .ref b13, .ref b14, .ref b15, .ref b16, .ref b17, .ref b18, .ref b19, .int 0, .int 0, .int 0, .int 0, .ref b20, .ref b21, .ref b22, .ref b23, .ref b24, .ref b25, .int 0, .ref b26, .ref b27, .ref b28, .ref b29, .ref b30, .ref b31, .ref b32, .int 0, .int 0, .ref b33, .ref b34, .ref b35, .ref b36, .ref b37, .int 0, .ref b38, .ref b39, .int 0, .ref b40, .ref b41, .ref b42, .ref b43, .ref b44, .ref b45, .int 0, .ref b46, .ref b47, .ref b48, .ref b49, .ref b50, .ref b51, .ref b52, .ref b53, .ref b54, .ref b55, .ref b56, .int 0, .int 0, .int 0, .int 0, .int (-1), .int 0, .int 0, .int 0, .int 0, .int 0, .int 0, .ref b57, .ref b58, .ref b59, .int 0, .ref b60, .ref b61, .int 0, .ref b62, .ref b63, .ref b64, .int 0, .ref b65, .ref b66, .ref b67, .ref b68, .ref b69, .ref b70, .int 0, .int (-1), .int 0, .ref b71, .int (-1), .int (-1), .int (-1), .ref b72, .int 0, .ref b73, .int 0, .ref b74, .int 0, .int 0, .ref b75]))]) rfl ?_
  refine ax_if_ne (pc := 27) C 52 d_MM_symbol2_27 (by decide) (fun h => absurd h (by decide)) (fun _ => ?_)
  refine ax_aload_n (pc := 30) C d_MM_symbol2_30 rfl 0 rfl ?_
  refine ax_iconst (pc := 31) C 2 d_MM_symbol2_31 (by decide +kernel) ?_
  refine ax_iload_n (pc := 32) C d_MM_symbol2_32 rfl 2 rfl ?_
  refine ax_if_lt (pc := 33) C 41 d_MM_symbol2_33 (by decide) (fun h => absurd h (by decide)) (fun _ => ?_)
  refine ax_iload_n (pc := 36) C d_MM_symbol2_36 rfl 2 rfl ?_
  refine ax_iconst (pc := 37) C 2 d_MM_symbol2_37 (by decide +kernel) ?_
  refine ax_icmp_le (pc := 38) C 45 d_MM_symbol2_38 (by decide) (fun _ => ?_) (fun h => absurd h (by decide))
  refine ax_iconst (pc := 45) C 0 d_MM_symbol2_45 (by decide +kernel) ?_
  refine ax_callVi (pc := 46) C (As := [.int 2, .int 0]) (rest := []) (wr := [(a0, .inr (12, [.ref b0, .ref b1, .int 0, .int 0, .int 0, .int 0, .int 0, .int 0, .int 0, .int 0, .int 0, .int 0, .int 0, .ref b2, .ref b3, .ref b4, .ref b5, .ref b6, .int 0, .int 1, .int 0, .ref b7, .ref b8, .ref b9, .ref b10, .int 0, .ref b11, .ref b12, .int 0, .int 0, .ref b13, .ref b14, .ref b15, .ref b16, .ref b17, .ref b18, .ref b19, .int 0, .int 0, .int 0, .int 0, .ref b20, .ref b21, .ref b22, .ref b23, .ref b24, .ref b25, .int 0, .ref b26, .ref b27, .ref b28, .ref b29, .ref b30, .ref b31, .ref b32, .int 0, .int 0, .ref b33, .ref b34, .ref b35, .ref b36, .ref b37, .int 0, .ref b38, .ref b39, .int 0, .ref b40, .ref b41, .ref b42, .ref b43, .ref b44, .ref b45, .int 0, .ref b46, .ref b47, .ref b48, .ref b49, .ref b50, .ref b51, .ref b52, .ref b53, .ref b54, .ref b55, .ref b56, .int 0, .int 0, .int 0, .int 0, .int (-1), .int 0, .int 0, .int 0, .int 0, .int 0, .int 0, .ref b57, .ref b58, .ref b59, .int 0, .ref b60, .ref b61, .int 0, .ref b62, .ref b63, .ref b64, .int 0, .ref b65, .ref b66, .ref b67, .ref b68, .ref b69, .ref b70, .int 0, .int (-1), .int 0, .ref b71, .int (-1), .int (-1), .int (-1), .ref b72, .int 0, .ref b73, .int 0, .ref b74, .int 0, .int 0, .ref b75]))]) (m105_MM_refuse l D kA a0) ml_MM_401 0 rfl rfl rfl d_MM_symbol2_46 rfl rfl [] [0] rfl (by decide) rfl (by decide) (by decide) (Nat.le_of_ble_eq_true rfl) (Nat.le_of_ble_eq_true rfl) (Nat.le_of_ble_eq_true rfl) (Nat.le_of_ble_eq_true rfl) (Nat.le_of_ble_eq_true rfl) (fun r46 w1 hw1 => ?_)
  obtain ⟨rfl, rfl⟩ := hw1
  refine ax_w ([(a0, .inr (12, [.ref b0, .ref b1, .int 0, .int 0, .int 0, .int 0, .int 0, .int 0, .int 0, .int 0, .int 0, .int 0, .int 0, .ref b2, .ref b3, .ref b4, .ref b5, .ref b6, .int 0, .int 1, .int 0, .ref b7, .ref b8, .ref b9, .ref b10, .int 0, .ref b11, .ref b12, .int 0, .int 0, .ref b13, .ref b14, .ref b15, .ref b16, .ref b17, .ref b18, .ref b19, .int 0, .int 0, .int 0, .int 0, .ref b20, .ref b21, .ref b22, .ref b23, .ref b24, .ref b25, .int 0, .ref b26, .ref b27, .ref b28, .ref b29, .ref b30, .ref b31, .ref b32, .int 0, .int 0, .ref b33, .ref b34, .ref b35, .ref b36, .ref b37, .int 0, .ref b38, .ref b39, .int 0, .ref b40, .ref b41, .ref b42, .ref b43, .ref b44, .ref b45, .int 0, .ref b46, .ref b47, .ref b48, .ref b49, .ref b50, .ref b51, .ref b52, .ref b53, .ref b54, .ref b55, .ref b56, .int 0, .int 0, .int 0, .int 0, .int (-1), .int 0, .int 0, .int 0, .int 0, .int 0, .int 0, .ref b57, .ref b58, .ref b59, .int 0, .ref b60, .ref b61, .int 0, .ref b62, .ref b63, .ref b64, .int 0, .ref b65, .ref b66, .ref b67, .ref b68, .ref b69, .ref b70, .int 0, .int (-1), .int 0, .ref b71, .int (-1), .int (-1), .int (-1), .ref b72, .int 0, .ref b73, .int 0, .ref b74, .int 0, .int 0, .ref b75]))]) rfl ?_
  refine ax_if_eq (pc := 49) C 54 d_MM_symbol2_49 (by decide) (fun _ => ?_) (fun h => absurd h (by decide))
  refine ax_iload_n (pc := 54) C d_MM_symbol2_54 rfl 2 rfl ?_
  refine ax_if_ne (pc := 55) C 67 d_MM_symbol2_55 (by decide) (fun _ => ?_) (fun h => absurd h (by decide))
  refine ax_iload_n (pc := 67) C d_MM_symbol2_67 rfl 2 rfl ?_
  refine ax_iconst (pc := 68) C 1 d_MM_symbol2_68 (by decide +kernel) ?_
  refine ax_icmp_ne (pc := 69) C 89 d_MM_symbol2_69 (by decide) (fun _ => ?_) (fun h => absurd h (by decide))
  refine ax_iload_n (pc := 89) C d_MM_symbol2_89 rfl 1 rfl ?_
  refine ax_aload_n (pc := 90) C d_MM_symbol2_90 rfl 0 rfl ?_
  refine ax_get (pc := 91) C k_MM 20 lk_MM_74 d_MM_symbol2_91 (Nat.le_of_ble_eq_true rfl) 0 rfl rfl ?_
  refine ax_icmp_le (pc := 94) C 101 d_MM_symbol2_94 (by decide) (fun _ => ?_) (fun h => absurd h (by decide))
  refine ax_iconst (pc := 101) C 0 d_MM_symbol2_101 (by decide +kernel) ?_
  exact ax_iret (pc := 102) C d_MM_symbol2_102 ⟨rfl, rfl⟩ (by decide) (by decide)
set_option maxHeartbeats 4000000 in
set_option maxRecDepth 100000 in
theorem m115_CP_symbol (l : Launch) (htr : l.stackTraces = false) (D : va_G) (kA : Nat → ClassId) (a0 : Nat) (a1 : Nat) (b0 : Nat) (b1 : Nat) (b2 : Nat) (b3 : Nat) (b4 : Nat) (b5 : Nat) (b6 : Nat) (b7 : Nat) (b8 : Nat) (b9 : Nat) (b10 : Nat) (b11 : Nat) (b12 : Nat) (b13 : Nat) (b14 : Nat) (i0 : Int32) (h0 : i0 < 0) : ax_Mx l D kA y_CP_symbol b_CP_symbol 4 (some .int) 6 90 1 6 [.ref a0, .int 0, .int i0] [(a0, .inr (11, [.ref b0, .ref b1, .ref b2, .ref a1, .ref b3, .ref b4, .ref b5, .ref b6, .ref b7, .ref b8, .int 0, .int 0])), (a1, .inr (1, [.ref b9, .ref b10, .ref b11, .ref b12, .int 0, .int 1, .ref b13, .ref b14]))] "java/lang/IllegalArgumentException" (fun w1 => w1 = [(a0, .inr (11, [.ref b0, .ref b1, .ref b2, .ref a1, .ref b3, .ref b4, .ref b5, .ref b6, .ref b7, .ref b8, .int 0, .int 0])), (a1, .inr (1, [.ref b9, .ref b10, .ref b11, .ref b12, .int 0, .int 1, .ref b13, .ref b14]))]) := by
  refine ax_Mx.of (by decide +kernel) (Nat.le_of_ble_eq_true rfl) ?_
  intro p e s m args below meth c C hadm hex hX hP0
  refine ax_ls ([(0, .ref a0), (1, .int 0), (2, .int i0)]) [0, 1, 2] rfl ?_
  refine ax_iload_n (pc := 0) C d_CP_symbol_0 rfl 1 rfl ?_
  refine ax_if_lt (pc := 1) C 15 d_CP_symbol_1 (by decide) (fun h => absurd h (by decide)) (fun _ => ?_)
  refine ax_iload_n (pc := 4) C d_CP_symbol_4 rfl 1 rfl ?_
  refine ax_aload_n (pc := 5) C d_CP_symbol_5 rfl 0 rfl ?_
  refine ax_get (pc := 6) C k_CP 3 lk_CP_28 d_CP_symbol_6 (Nat.le_of_ble_eq_true rfl) 0 rfl rfl ?_
  refine ax_get (pc := 9) C k_Sym 5 lk_CP_258 d_CP_symbol_9 (Nat.le_of_ble_eq_true rfl) 1 rfl rfl ?_
  refine ax_icmp_lt (pc := 12) C 26 d_CP_symbol_12 (by decide) (fun _ => ?_) (fun h => absurd h (by decide))
  refine ax_iload_n (pc := 26) C d_CP_symbol_26 rfl 2 rfl ?_
  refine ax_if_lt (pc := 27) C 35 d_CP_symbol_27 (by decide) (fun _ => ?_) (fun h => absurd h0 h)
  exact ax_throw2 (pc := 35) C hadm htr hex hX hP0 (is := 159) (tx := "no such what") ta_IAE (by decide +kernel) (by decide) tb_classLink_984 tb_instantiable_985 tb_initialized_21 (by decide +kernel) (by decide +kernel) (by decide +kernel) (by decide +kernel) d_CP_symbol_35 d_CP_symbol_38 d_CP_symbol_39 d_CP_symbol_41 d_CP_symbol_44 (Nat.le_of_ble_eq_true rfl) (Nat.le_of_ble_eq_true rfl) (Nat.le_of_ble_eq_true rfl) (Nat.le_of_ble_eq_true rfl) rfl rfl rfl
set_option maxHeartbeats 4000000 in
set_option maxRecDepth 100000 in
theorem m114_Law_symbol (l : Launch) (htr : l.stackTraces = false) (D : va_G) (kA : Nat → ClassId) (a0 : Nat) (a1 : Nat) (b0 : Nat) (b1 : Nat) (b2 : Nat) (b3 : Nat) (b4 : Nat) (b5 : Nat) (b6 : Nat) (b7 : Nat) (b8 : Nat) (b9 : Nat) (b10 : Nat) (b11 : Nat) (b12 : Nat) (b13 : Nat) (b14 : Nat) (b15 : Nat) (i0 : Int32) (h0 : i0 < 0) : ax_Mw l D kA y_Law_symbol b_Law_symbol 5 [(0, 10, 13, 28), (0, 10, 17, 19)] 7 113 1 6 [.ref a0, .int 0, .int i0, .ref b0] [(a0, .inr (11, [.ref b1, .ref b2, .ref b3, .ref a1, .ref b4, .ref b5, .ref b6, .ref b7, .ref b8, .ref b9, .int 0, .int 0])), (a1, .inr (1, [.ref b10, .ref b11, .ref b12, .ref b13, .int 0, .int 1, .ref b14, .ref b15]))] (fun r w1 => r = 2 ∧ w1 = [(a0, .inr (11, [.ref b1, .ref b2, .ref b3, .ref a1, .ref b4, .ref b5, .ref b6, .ref b7, .ref b8, .ref b9, .int 0, .int 0])), (a1, .inr (1, [.ref b10, .ref b11, .ref b12, .ref b13, .int 0, .int 1, .ref b14, .ref b15]))]) := by
  refine ax_Mw.of (by decide +kernel) (Nat.le_of_ble_eq_true rfl) ?_
  intro p e s m args below meth c C hadm hmeth hcode htb hX
  refine ax_ls ([(0, .ref a0), (1, .int 0), (2, .int i0), (3, .ref b0)]) [0, 1, 2, 3] rfl ?_
  refine ax_aload_n (pc := 0) C d_Law_symbol_0 rfl 3 rfl ?_
  refine ax_iconst (pc := 1) C 0 d_Law_symbol_1 (by decide +kernel) ?_
  refine ax_aload_n (pc := 2) C d_Law_symbol_2 rfl 0 rfl ?_
  refine ax_iload_n (pc := 3) C d_Law_symbol_3 rfl 1 rfl ?_
  refine ax_iload_n (pc := 4) C d_Law_symbol_4 rfl 2 rfl ?_
  refine ax_callVx (pc := 5) C hX (hpc := 17) (As := [.int 0, .int i0]) (rest := [.int 0, .ref b0]) (wr := []) (m115_CP_symbol l htr D kA a0 a1 b1 b2 b3 b4 b5 b6 b7 b8 b9 b10 b11 b12 b13 b14 b15 i0 h0) ml_Law_45 0 rfl rfl rfl d_Law_symbol_5 rfl rfl [0, 1] [] rfl (by decide) rfl (by decide) (by decide) (Nat.le_of_ble_eq_true rfl) (Nat.le_of_ble_eq_true rfl) (Nat.le_of_ble_eq_true rfl) (Nat.le_of_ble_eq_true rfl) (Nat.le_of_ble_eq_true rfl) (cx_F2 hadm hmeth hcode C.2.2.2.1 htb ⟨by decide, by decide⟩ ⟨by decide, by decide⟩ (by decide) (by decide) (C.2.2.2.2.1 _ tb_classLink_1284) (C.2.2.2.2.1 _ tb_classLink_979) hX.2.2.2.2) (fun xe5 w1 hw1 => ?_)
  obtain rfl := hw1
  refine ax_w ([(a0, .inr (11, [.ref b1, .ref b2, .ref b3, .ref a1, .ref b4, .ref b5, .ref b6, .ref b7, .ref b8, .ref b9, .int 0, .int 0])), (a1, .inr (1, [.ref b10, .ref b11, .ref b12, .ref b13, .int 0, .int 1, .ref b14, .ref b15]))]) rfl ?_
  refine ax_astore (pc := 17) C d_Law_symbol_17 (Nat.le_of_ble_eq_true rfl) ([(4, .ref xe5), (0, .ref a0), (1, .int 0), (2, .int i0), (3, .ref b0)]) rfl ?_
  refine ax_iconst (pc := 19) C 2 d_Law_symbol_19 (by decide +kernel) ?_
  exact ax_iret (pc := 20) C d_Law_symbol_20 ⟨rfl, rfl⟩ (by decide) (by decide)
set_option maxHeartbeats 4000000 in
set_option maxRecDepth 100000 in
theorem m117_MM_refuse (l : Launch) (D : va_G) (kA : Nat → ClassId) (a0 : Nat) (b0 : Nat) (b1 : Nat) (b2 : Nat) (b3 : Nat) (b4 : Nat) (b5 : Nat) (b6 : Nat) (b7 : Nat) (b8 : Nat) (b9 : Nat) (b10 : Nat) (b11 : Nat) (b12 : Nat) (b13 : Nat) (b14 : Nat) (b15 : Nat) (b16 : Nat) (b17 : Nat) (b18 : Nat) (b19 : Nat) (b20 : Nat) (b21 : Nat) (b22 : Nat) (b23 : Nat) (b24 : Nat) (b25 : Nat) (b26 : Nat) (b27 : Nat) (b28 : Nat) (b29 : Nat) (b30 : Nat) (b31 : Nat) (b32 : Nat) (b33 : Nat) (b34 : Nat) (b35 : Nat) (b36 : Nat) (b37 : Nat) (b38 : Nat) (b39 : Nat) (b40 : Nat) (b41 : Nat) (b42 : Nat) (b43 : Nat) (b44 : Nat) (b45 : Nat) (b46 : Nat) (b47 : Nat) (b48 : Nat) (b49 : Nat) (b50 : Nat) (b51 : Nat) (b52 : Nat) (b53 : Nat) (b54 : Nat) (b55 : Nat) (b56 : Nat) (b57 : Nat) (b58 : Nat) (b59 : Nat) (b60 : Nat) (b61 : Nat) (b62 : Nat) (b63 : Nat) (b64 : Nat) (b65 : Nat) (b66 : Nat) (b67 : Nat) (b68 : Nat) (b69 : Nat) (b70 : Nat) (b71 : Nat) (b72 : Nat) (b73 : Nat) (b74 : Nat) (b75 : Nat) : ax_Mi l D kA y_MM_refuse b_MM_refuse 3 .boolean 0 0 0 0 [.ref a0, .int 2, .int 1] [(a0, .inr (12, [.ref b0, .ref b1, .int 0, .int 0, .int 0, .int 0, .int 0, .int 0, .int 0, .int 0, .int 0, .int 0, .int 0, .ref b2, .ref b3, .ref b4, .ref b5, .ref b6, .int 0, .int 1, .int 0, .ref b7, .ref b8, .ref b9, .ref b10, .int 0, .ref b11, .ref b12, .int 0, .int 0, .ref b13, .ref b14, .ref b15, .ref b16, .ref b17, .ref b18, .ref b19, .int 0, .int 0, .int 0, .int 0, .ref b20, .ref b21, .ref b22, .ref b23, .ref b24, .ref b25, .int 0, .ref b26, .ref b27, .ref b28, .ref b29, .ref b30, .ref b31, .ref b32, .int 0, .int 0, .ref b33, .ref b34, .ref b35, .ref b36, .ref b37, .int 0, .ref b38, .ref b39, .int 0, .ref b40, .ref b41, .ref b42, .ref b43, .ref b44, .ref b45, .int 0, .ref b46, .ref b47, .ref b48, .ref b49, .ref b50, .ref b51, .ref b52, .ref b53, .ref b54, .ref b55, .ref b56, .int 0, .int 0, .int 0, .int 0, .int (-1), .int 0, .int 0, .int 0, .int 0, .int 0, .int 0, .ref b57, .ref b58, .ref b59, .int 0, .ref b60, .ref b61, .int 0, .ref b62, .ref b63, .ref b64, .int 0, .ref b65, .ref b66, .ref b67, .ref b68, .ref b69, .ref b70, .int 0, .int (-1), .int 0, .ref b71, .int (-1), .int (-1), .int (-1), .ref b72, .int 0, .ref b73, .int 0, .ref b74, .int 0, .int 0, .ref b75]))] (fun r w1 => r = 1 ∧ w1 = [(a0, .inr (12, [.ref b0, .ref b1, .int 0, .int 0, .int 2, .int 0, .int 0, .int 0, .int 0, .int 0, .int 0, .int 0, .int 0, .ref b2, .ref b3, .ref b4, .ref b5, .ref b6, .int 0, .int 1, .int 0, .ref b7, .ref b8, .ref b9, .ref b10, .int 0, .ref b11, .ref b12, .int 0, .int 0, .ref b13, .ref b14, .ref b15, .ref b16, .ref b17, .ref b18, .ref b19, .int 0, .int 0, .int 0, .int 0, .ref b20, .ref b21, .ref b22, .ref b23, .ref b24, .ref b25, .int 0, .ref b26, .ref b27, .ref b28, .ref b29, .ref b30, .ref b31, .ref b32, .int 0, .int 0, .ref b33, .ref b34, .ref b35, .ref b36, .ref b37, .int 0, .ref b38, .ref b39, .int 0, .ref b40, .ref b41, .ref b42, .ref b43, .ref b44, .ref b45, .int 0, .ref b46, .ref b47, .ref b48, .ref b49, .ref b50, .ref b51, .ref b52, .ref b53, .ref b54, .ref b55, .ref b56, .int 0, .int 0, .int 0, .int 0, .int (-1), .int 0, .int 0, .int 0, .int 0, .int 0, .int 0, .ref b57, .ref b58, .ref b59, .int 0, .ref b60, .ref b61, .int 0, .ref b62, .ref b63, .ref b64, .int 0, .ref b65, .ref b66, .ref b67, .ref b68, .ref b69, .ref b70, .int 0, .int (-1), .int 0, .ref b71, .int (-1), .int (-1), .int (-1), .ref b72, .int 0, .ref b73, .int 0, .ref b74, .int 0, .int 0, .ref b75]))]) := by
  refine ax_Mi.of (by decide +kernel) (Nat.le_of_ble_eq_true rfl) ?_
  intro p e s m args below meth c C hnm
  refine ax_ls ([(0, .ref a0), (1, .int 2), (2, .int 1)]) [0, 1, 2] rfl ?_
  refine ax_iload_n (pc := 0) C d_MM_refuse_0 rfl 2 rfl ?_
  refine ax_if_eq (pc := 1) C 9 d_MM_refuse_1 (by decide) (fun h => absurd h (by decide)) (fun _ => ?_)
  refine ax_aload_n (pc := 4) C d_MM_refuse_4 rfl 0 rfl ?_
  refine ax_iload_n (pc := 5) C d_MM_refuse_5 rfl 1 rfl ?_
  refine ax_put (pc := 6) C k_MM 4 lk_MM_24 d_MM_refuse_6 (Nat.le_of_ble_eq_true rfl) 0 rfl rfl rfl rfl (Nat.le_of_ble_eq_true rfl) ?_
  refine ax_w ([(a0, .inr (12, [.ref b0, .ref b1, .int 0, .int 0, .int 2, .int 0, .int 0, .int 0, .int 0, .int 0, .int 0, .int 0, .int 0, .ref b2, .ref b3, .ref b4, .ref b5, .ref b6, .int 0, .int 1, .int 0, .ref b7, .ref b8, .ref b9, .ref b10, .int 0, .ref b11, .ref b12, .int 0, .int 0, .ref b13, .ref b14, .ref b15, .ref b16, .ref b17, .ref b18, .ref b19, .int 0, .int 0, .int 0, .int 0, .ref b20, .ref b21, .ref b22, .ref b23, .ref b24, .ref b25, .int 0, .ref b26, .ref b27, .ref b28, .ref b29, .ref b30, .ref b31, .ref b32, .int 0, .int 0, .ref b33, .ref b34, .ref b35, .ref b36, .ref b37, .int 0, .ref b38, .ref b39, .int 0, .ref b40, .ref b41, .ref b42, .ref b43, .ref b44, .ref b45, .int 0, .ref b46, .ref b47, .ref b48, .ref b49, .ref b50, .ref b51, .ref b52, .ref b53, .ref b54, .ref b55, .ref b56, .int 0, .int 0, .int 0, .int 0, .int (-1), .int 0, .int 0, .int 0, .int 0, .int 0, .int 0, .ref b57, .ref b58, .ref b59, .int 0, .ref b60, .ref b61, .int 0, .ref b62, .ref b63, .ref b64, .int 0, .ref b65, .ref b66, .ref b67, .ref b68, .ref b69, .ref b70, .int 0, .int (-1), .int 0, .ref b71, .int (-1), .int (-1), .int (-1), .ref b72, .int 0, .ref b73, .int 0, .ref b74, .int 0, .int 0, .ref b75]))]) rfl ?_
  refine ax_iload_n (pc := 9) C d_MM_refuse_9 rfl 2 rfl ?_
  exact ax_zret (pc := 10) C d_MM_refuse_10 rfl ⟨rfl, rfl⟩ (by decide) (by decide)
set_option maxHeartbeats 4000000 in
set_option maxRecDepth 100000 in
theorem m116_MM_symbol2 (l : Launch) (D : va_G) (kA : Nat → ClassId) (a0 : Nat) (b0 : Nat) (b1 : Nat) (b2 : Nat) (b3 : Nat) (b4 : Nat) (b5 : Nat) (b6 : Nat) (b7 : Nat) (b8 : Nat) (b9 : Nat) (b10 : Nat) (b11 : Nat) (b12 : Nat) (b13 : Nat) (b14 : Nat) (b15 : Nat) (b16 : Nat) (b17 : Nat) (b18 : Nat) (b19 : Nat) (b20 : Nat) (b21 : Nat) (b22 : Nat) (b23 : Nat) (b24 : Nat) (b25 : Nat) (b26 : Nat) (b27 : Nat) (b28 : Nat) (b29 : Nat) (b30 : Nat) (b31 : Nat) (b32 : Nat) (b33 : Nat) (b34 : Nat) (b35 : Nat) (b36 : Nat) (b37 : Nat) (b38 : Nat) (b39 : Nat) (b40 : Nat) (b41 : Nat) (b42 : Nat) (b43 : Nat) (b44 : Nat) (b45 : Nat) (b46 : Nat) (b47 : Nat) (b48 : Nat) (b49 : Nat) (b50 : Nat) (b51 : Nat) (b52 : Nat) (b53 : Nat) (b54 : Nat) (b55 : Nat) (b56 : Nat) (b57 : Nat) (b58 : Nat) (b59 : Nat) (b60 : Nat) (b61 : Nat) (b62 : Nat) (b63 : Nat) (b64 : Nat) (b65 : Nat) (b66 : Nat) (b67 : Nat) (b68 : Nat) (b69 : Nat) (b70 : Nat) (b71 : Nat) (b72 : Nat) (b73 : Nat) (b74 : Nat) (b75 : Nat) (i0 : Int32) (h0 : i0 < 0) : ax_Mi l D kA y_MM_symbol2 b_MM_symbol2 3 .int 1 22 0 0 [.ref a0, .int 0, .int i0] [(a0, .inr (12, [.ref b0, .ref b1, .int 0, .int 0, .int 0, .int 0, .int 0, .int 0, .int 0, .int 0, .int 0, .int 0, .int 0, .ref b2, .ref b3, .ref b4, .ref b5, .ref b6, .int 0, .int 1, .int 0, .ref b7, .ref b8, .ref b9, .ref b10, .int 0, .ref b11, .ref b12, .int 0, .int 0, .ref b13, .ref b14, .ref b15, .ref b16, .ref b17, .ref b18, .ref b19, .int 0, .int 0, .int 0, .int 0, .ref b20, .ref b21, .ref b22, .ref b23, .ref b24, .ref b25, .int 0, .ref b26, .ref b27, .ref b28, .ref b29, .ref b30, .ref b31, .ref b32, .int 0, .int 0, .ref b33, .ref b34, .ref b35, .ref b36, .ref b37, .int 0, .ref b38, .ref b39, .int 0, .ref b40, .ref b41, .ref b42, .ref b43, .ref b44, .ref b45, .int 0, .ref b46, .ref b47, .ref b48, .ref b49, .ref b50, .ref b51, .ref b52, .ref b53, .ref b54, .ref b55, .ref b56, .int 0, .int 0, .int 0, .int 0, .int (-1), .int 0, .int 0, .int 0, .int 0, .int 0, .int 0, .ref b57, .ref b58, .ref b59, .int 0, .ref b60, .ref b61, .int 0, .ref b62, .ref b63, .ref b64, .int 0, .ref b65, .ref b66, .ref b67, .ref b68, .ref b69, .ref b70, .int 0, .int (-1), .int 0, .ref b71, .int (-1), .int (-1), .int (-1), .ref b72, .int 0, .ref b73, .int 0, .ref b74, .int 0, .int 0, .ref b75]))] (fun r w1 => r = 0 ∧ w1 = [(a0, .inr (12, [.ref b0, .ref b1, .int 0, .int 0, .int 2, .int 0, .int 0, .int 0, .int 0, .int 0, .int 0, .int 0, .int 0, .ref b2, .ref b3, .ref b4, .ref b5, .ref b6, .int 0, .int 1, .int 0, .ref b7, .ref b8, .ref b9, .ref b10, .int 0, .ref b11, .ref b12, .int 0, .int 0, .ref b13, .ref b14, .ref b15, .ref b16, .ref b17, .ref b18, .ref b19, .int 0, .int 0, .int 0, .int 0, .ref b20, .ref b21, .ref b22, .ref b23, .ref b24, .ref b25, .int 0, .ref b26, .ref b27, .ref b28, .ref b29, .ref b30, .ref b31, .ref b32, .int 0, .int 0, .ref b33, .ref b34, .ref b35, .ref b36, .ref b37, .int 0, .ref b38, .ref b39, .int 0, .ref b40, .ref b41, .ref b42, .ref b43, .ref b44, .ref b45, .int 0, .ref b46, .ref b47, .ref b48, .ref b49, .ref b50, .ref b51, .ref b52, .ref b53, .ref b54, .ref b55, .ref b56, .int 0, .int 0, .int 0, .int 0, .int (-1), .int 0, .int 0, .int 0, .int 0, .int 0, .int 0, .ref b57, .ref b58, .ref b59, .int 0, .ref b60, .ref b61, .int 0, .ref b62, .ref b63, .ref b64, .int 0, .ref b65, .ref b66, .ref b67, .ref b68, .ref b69, .ref b70, .int 0, .int (-1), .int 0, .ref b71, .int (-1), .int (-1), .int (-1), .ref b72, .int 0, .ref b73, .int 0, .ref b74, .int 0, .int 0, .ref b75]))]) := by
  refine ax_Mi.of (by decide +kernel) (Nat.le_of_ble_eq_true rfl) ?_
  intro p e s m args below meth c C hnm
  refine ax_ls ([(0, .ref a0), (1, .int 0), (2, .int i0)]) [0, 1, 2] rfl ?_
  refine ax_aload_n (pc := 0) C d_MM_symbol2_0 rfl 0 rfl ?_
  refine ax_iconst (pc := 1) C 0 d_MM_symbol2_1 (by decide +kernel) ?_
  refine ax_put (pc := 2) C k_MM 4 lk_MM_24 d_MM_symbol2_2 (Nat.le_of_ble_eq_true rfl) 0 rfl rfl rfl rfl (Nat.le_of_ble_eq_true rfl) ?_
  refine ax_w ([(a0, .inr (12, [.ref b0, .ref b1, .int 0, .int 0, .int 0, .int 0, .int 0, .int 0, .int 0, .int 0, .int 0, .int 0, .int 0, .ref b2, .ref b3, .ref b4, .ref b5, .ref b6, .int 0, .int 1, .int 0, .ref b7, .ref b8, .ref b9, .ref b10, .int 0, .ref b11, .ref b12, .int 0, .int 0, .ref b13, .ref b14, .ref b15, .ref b16, .ref b17, .ref b18, .ref b19, .int 0, .int 0, .int 0, .int 0, .ref b20, .ref b21, .ref b22, .ref b23, .ref b24, .ref b25, .int 0, .ref b26, .ref b27, .ref b28, .ref b29, .ref b30, .ref b31, .ref b32, .int 0, .int 0, .ref b33, .ref b34, .ref b35, .ref b36, .ref b37, .int 0, .ref b38, .ref b39, .int 0, .ref b40, .ref b41, .ref b42, .ref b43, .ref b44, .ref b45, .int 0, .ref b46, .ref b47, .ref b48, .ref b49, .ref b50, .ref b51, .ref b52, .ref b53, .ref b54, .ref b55, .ref b56, .int 0, .int 0, .int 0, .int 0, .int (-1), .int 0, .int 0, .int 0, .int 0, .int 0, .int 0, .ref b57, .ref b58, .ref b59, .int 0, .ref b60, .ref b61, .int 0, .ref b62, .ref b63, .ref b64, .int 0, .ref b65, .ref b66, .ref b67, .ref b68, .ref b69, .ref b70, .int 0, .int (-1), .int 0, .ref b71, .int (-1), .int (-1), .int (-1), .ref b72, .int 0, .ref b73, .int 0, .ref b74, .int 0, .int 0, .ref b75]))]) rfl ?_
  refine ax_aload_n (pc := 5) C d_MM_symbol2_5 rfl 0 rfl ?_
  refine ax_iconst (pc := 6) C 1 d_MM_symbol2_6 (by decide +kernel) ?_
  refine ax_iload_n (pc := 7) C d_MM_symbol2_7 rfl 1 rfl ?_
  refine ax_if_lt (pc := 8) C 19 d_MM_symbol2_8 (by decide) (fun h => absurd h (by decide)) (fun _ => ?_)
  refine ax_iload_n (pc := 11) C d_MM_symbol2_11 rfl 1 rfl ?_
  refine ax_aload_n (pc := 12) C d_MM_symbol2_12 rfl 0 rfl ?_
  refine ax_get (pc := 13) C k_MM 19 lk_MM_71 d_MM_symbol2_13 (Nat.le_of_ble_eq_true rfl) 0 rfl rfl ?_
  refine ax_icmp_lt (pc := 16) C 23 d_MM_symbol2_16 (by decide) (fun _ => ?_) (fun h => absurd h (by decide))
  refine ax_iconst (pc := 23) C 0 d_MM_symbol2_23 (by decide +kernel) ?_
  refine ax_callVi (pc := 24) C (As := [.int 1, .int 0]) (rest := []) (wr := [(a0, .inr (12, [.ref b0, .ref b1, .int 0, .int 0, .int 0, .int 0, .int 0, .int 0, .int 0, .int 0, .int 0, .int 0, .int 0, .ref b2, .ref b3, .ref b4, .ref b5, .ref b6, .int 0, .int 1, .int 0, .ref b7, .ref b8, .ref b9, .ref b10, .int 0, .ref b11, .ref b12, .int 0, .int 0, .ref b13, .ref b14, .ref b15, .ref b16, .ref b17, .ref b18, .ref b19, .int 0, .int 0, .int 0, .int 0, .ref b20, .ref b21, .ref b22, .ref b23, .ref b24, .ref b25, .int 0, .ref b26, .ref b27, .ref b28, .ref b29, .ref b30, .ref b31, .ref b32, .int 0, .int 0, .ref b33, .ref b34, .ref b35, .ref b36, .ref b37, .int 0, .ref b38, .ref b39, .int 0, .ref b40, .ref b41, .ref b42, .ref b43, .ref b44, .ref b45, .int 0, .ref b46, .ref b47, .ref b48, .ref b49, .ref b50, .ref b51, .ref b52, .ref b53, .ref b54, .ref b55, .ref b56, .int 0, .int 0, .int 0, .int 0, .int (-1), .int 0, .int 0, .int 0, .int 0, .int 0, .int 0, .ref b57, .ref b58, .ref b59, .int 0, .ref b60, .ref b61, .int 0, .ref b62, .ref b63, .ref b64, .int 0, .ref b65, .ref b66, .ref b67, .ref b68, .ref b69, .ref b70, .int 0, .int (-1), .int 0, .ref b71, .int (-1), .int (-1), .int (-1), .ref b72, .int 0, .ref b73, .int 0, .ref b74, .int 0, .int 0, .ref b75]))]) (m29_MM_refuse l D kA a0) ml_MM_401 0 rfl rfl rfl d_MM_symbol2_24 rfl rfl [] [0] rfl (by decide) rfl (by decide) (by decide) (Nat.le_of_ble_eq_true rfl) (Nat.le_of_ble_eq_true rfl) (Nat.le_of_ble_eq_true rfl) (Nat.le_of_ble_eq_true rfl) (Nat.le_of_ble_eq_true rfl) (fun r24 w1 hw1 => ?_)
  obtain ⟨rfl, rfl⟩ := hw1
  refine ax_w ([(a0, .inr (12, [.ref b0, .ref b1, .int 0, .int 0, .int 0, .int 0, .int 0, .int 0, .int 0, .int 0, .int 0, .int 0, .int 0, .ref b2, .ref b3, .ref b4, .ref b5, .ref b6, .int 0, .int 1, .int 0, .ref b7, .ref b8, .ref b9, .ref b10, .int 0, .ref b11, .ref b12, .int 0, .int 0, .ref b13, .ref b14, .ref b15, .ref b16, .ref b17, .ref b18, .ref b19, .int 0, .int 0, .int 0, .int 0, .ref b20, .ref b21, .ref b22, .ref b23, .ref b24, .ref b25, .int 0, .ref b26, .ref b27, .ref b28, .ref b29, .ref b30, .ref b31, .ref b32, .int 0, .int 0, .ref b33, .ref b34, .ref b35, .ref b36, .ref b37, .int 0, .ref b38, .ref b39, .int 0, .ref b40, .ref b41, .ref b42, .ref b43, .ref b44, .ref b45, .int 0, .ref b46, .ref b47, .ref b48, .ref b49, .ref b50, .ref b51, .ref b52, .ref b53, .ref b54, .ref b55, .ref b56, .int 0, .int 0, .int 0, .int 0, .int (-1), .int 0, .int 0, .int 0, .int 0, .int 0, .int 0, .ref b57, .ref b58, .ref b59, .int 0, .ref b60, .ref b61, .int 0, .ref b62, .ref b63, .ref b64, .int 0, .ref b65, .ref b66, .ref b67, .ref b68, .ref b69, .ref b70, .int 0, .int (-1), .int 0, .ref b71, .int (-1), .int (-1), .int (-1), .ref b72, .int 0, .ref b73, .int 0, .ref b74, .int 0, .int 0, .ref b75]))]) rfl ?_
  refine ax_if_ne (pc := 27) C 52 d_MM_symbol2_27 (by decide) (fun h => absurd h (by decide)) (fun _ => ?_)
  refine ax_aload_n (pc := 30) C d_MM_symbol2_30 rfl 0 rfl ?_
  refine ax_iconst (pc := 31) C 2 d_MM_symbol2_31 (by decide +kernel) ?_
  refine ax_iload_n (pc := 32) C d_MM_symbol2_32 rfl 2 rfl ?_
  refine ax_if_lt (pc := 33) C 41 d_MM_symbol2_33 (by decide) (fun _ => ?_) (fun h => absurd h0 h)
  refine ax_iconst (pc := 41) C 1 d_MM_symbol2_41 (by decide +kernel) ?_
  refine ax_goto (pc := 42) C 46 d_MM_symbol2_42 (by decide) ?_
  refine ax_callVi (pc := 46) C (As := [.int 2, .int 1]) (rest := []) (wr := []) (m117_MM_refuse l D kA a0 b0 b1 b2 b3 b4 b5 b6 b7 b8 b9 b10 b11 b12 b13 b14 b15 b16 b17 b18 b19 b20 b21 b22 b23 b24 b25 b26 b27 b28 b29 b30 b31 b32 b33 b34 b35 b36 b37 b38 b39 b40 b41 b42 b43 b44 b45 b46 b47 b48 b49 b50 b51 b52 b53 b54 b55 b56 b57 b58 b59 b60 b61 b62 b63 b64 b65 b66 b67 b68 b69 b70 b71 b72 b73 b74 b75) ml_MM_401 0 rfl rfl rfl d_MM_symbol2_46 rfl rfl [0] [] rfl (by decide) rfl (by decide) (by decide) (Nat.le_of_ble_eq_true rfl) (Nat.le_of_ble_eq_true rfl) (Nat.le_of_ble_eq_true rfl) (Nat.le_of_ble_eq_true rfl) (Nat.le_of_ble_eq_true rfl) (fun r46 w1 hw1 => ?_)
  obtain ⟨rfl, rfl⟩ := hw1
  refine ax_w ([(a0, .inr (12, [.ref b0, .ref b1, .int 0, .int 0, .int 2, .int 0, .int 0, .int 0, .int 0, .int 0, .int 0, .int 0, .int 0, .ref b2, .ref b3, .ref b4, .ref b5, .ref b6, .int 0, .int 1, .int 0, .ref b7, .ref b8, .ref b9, .ref b10, .int 0, .ref b11, .ref b12, .int 0, .int 0, .ref b13, .ref b14, .ref b15, .ref b16, .ref b17, .ref b18, .ref b19, .int 0, .int 0, .int 0, .int 0, .ref b20, .ref b21, .ref b22, .ref b23, .ref b24, .ref b25, .int 0, .ref b26, .ref b27, .ref b28, .ref b29, .ref b30, .ref b31, .ref b32, .int 0, .int 0, .ref b33, .ref b34, .ref b35, .ref b36, .ref b37, .int 0, .ref b38, .ref b39, .int 0, .ref b40, .ref b41, .ref b42, .ref b43, .ref b44, .ref b45, .int 0, .ref b46, .ref b47, .ref b48, .ref b49, .ref b50, .ref b51, .ref b52, .ref b53, .ref b54, .ref b55, .ref b56, .int 0, .int 0, .int 0, .int 0, .int (-1), .int 0, .int 0, .int 0, .int 0, .int 0, .int 0, .ref b57, .ref b58, .ref b59, .int 0, .ref b60, .ref b61, .int 0, .ref b62, .ref b63, .ref b64, .int 0, .ref b65, .ref b66, .ref b67, .ref b68, .ref b69, .ref b70, .int 0, .int (-1), .int 0, .ref b71, .int (-1), .int (-1), .int (-1), .ref b72, .int 0, .ref b73, .int 0, .ref b74, .int 0, .int 0, .ref b75]))]) rfl ?_
  refine ax_if_eq (pc := 49) C 54 d_MM_symbol2_49 (by decide) (fun h => absurd h (by decide)) (fun _ => ?_)
  refine ax_iconst (pc := 52) C 0 d_MM_symbol2_52 (by decide +kernel) ?_
  exact ax_iret (pc := 53) C d_MM_symbol2_53 ⟨rfl, rfl⟩ (by decide) (by decide)
set_option maxHeartbeats 4000000 in
set_option maxRecDepth 100000 in
theorem m118_MM_thrown (l : Launch) (D : va_G) (kA : Nat → ClassId) (a0 : Nat) (b0 : Nat) (b1 : Nat) (b2 : Nat) (b3 : Nat) (b4 : Nat) (b5 : Nat) (b6 : Nat) (b7 : Nat) (b8 : Nat) (b9 : Nat) (b10 : Nat) (b11 : Nat) (b12 : Nat) (b13 : Nat) (b14 : Nat) (b15 : Nat) (b16 : Nat) (b17 : Nat) (b18 : Nat) (b19 : Nat) (b20 : Nat) (b21 : Nat) (b22 : Nat) (b23 : Nat) (b24 : Nat) (b25 : Nat) (b26 : Nat) (b27 : Nat) (b28 : Nat) (b29 : Nat) (b30 : Nat) (b31 : Nat) (b32 : Nat) (b33 : Nat) (b34 : Nat) (b35 : Nat) (b36 : Nat) (b37 : Nat) (b38 : Nat) (b39 : Nat) (b40 : Nat) (b41 : Nat) (b42 : Nat) (b43 : Nat) (b44 : Nat) (b45 : Nat) (b46 : Nat) (b47 : Nat) (b48 : Nat) (b49 : Nat) (b50 : Nat) (b51 : Nat) (b52 : Nat) (b53 : Nat) (b54 : Nat) (b55 : Nat) (b56 : Nat) (b57 : Nat) (b58 : Nat) (b59 : Nat) (b60 : Nat) (b61 : Nat) (b62 : Nat) (b63 : Nat) (b64 : Nat) (b65 : Nat) (b66 : Nat) (b67 : Nat) (b68 : Nat) (b69 : Nat) (b70 : Nat) (b71 : Nat) (b72 : Nat) (b73 : Nat) (b74 : Nat) (b75 : Nat) : ax_Mi l D kA y_MM_thrown b_MM_thrown 1 .int 0 0 0 0 [.ref a0] [(a0, .inr (12, [.ref b0, .ref b1, .int 0, .int 0, .int 2, .int 0, .int 0, .int 0, .int 0, .int 0, .int 0, .int 0, .int 0, .ref b2, .ref b3, .ref b4, .ref b5, .ref b6, .int 0, .int 1, .int 0, .ref b7, .ref b8, .ref b9, .ref b10, .int 0, .ref b11, .ref b12, .int 0, .int 0, .ref b13, .ref b14, .ref b15, .ref b16, .ref b17, .ref b18, .ref b19, .int 0, .int 0, .int 0, .int 0, .ref b20, .ref b21, .ref b22, .ref b23, .ref b24, .ref b25, .int 0, .ref b26, .ref b27, .ref b28, .ref b29, .ref b30, .ref b31, .ref b32, .int 0, .int 0, .ref b33, .ref b34, .ref b35, .ref b36, .ref b37, .int 0, .ref b38, .ref b39, .int 0, .ref b40, .ref b41, .ref b42, .ref b43, .ref b44, .ref b45, .int 0, .ref b46, .ref b47, .ref b48, .ref b49, .ref b50, .ref b51, .ref b52, .ref b53, .ref b54, .ref b55, .ref b56, .int 0, .int 0, .int 0, .int 0, .int (-1), .int 0, .int 0, .int 0, .int 0, .int 0, .int 0, .ref b57, .ref b58, .ref b59, .int 0, .ref b60, .ref b61, .int 0, .ref b62, .ref b63, .ref b64, .int 0, .ref b65, .ref b66, .ref b67, .ref b68, .ref b69, .ref b70, .int 0, .int (-1), .int 0, .ref b71, .int (-1), .int (-1), .int (-1), .ref b72, .int 0, .ref b73, .int 0, .ref b74, .int 0, .int 0, .ref b75]))] (fun r w1 => r = 2 ∧ w1 = [(a0, .inr (12, [.ref b0, .ref b1, .int 0, .int 0, .int 2, .int 0, .int 0, .int 0, .int 0, .int 0, .int 0, .int 0, .int 0, .ref b2, .ref b3, .ref b4, .ref b5, .ref b6, .int 0, .int 1, .int 0, .ref b7, .ref b8, .ref b9, .ref b10, .int 0, .ref b11, .ref b12, .int 0, .int 0, .ref b13, .ref b14, .ref b15, .ref b16, .ref b17, .ref b18, .ref b19, .int 0, .int 0, .int 0, .int 0, .ref b20, .ref b21, .ref b22, .ref b23, .ref b24, .ref b25, .int 0, .ref b26, .ref b27, .ref b28, .ref b29, .ref b30, .ref b31, .ref b32, .int 0, .int 0, .ref b33, .ref b34, .ref b35, .ref b36, .ref b37, .int 0, .ref b38, .ref b39, .int 0, .ref b40, .ref b41, .ref b42, .ref b43, .ref b44, .ref b45, .int 0, .ref b46, .ref b47, .ref b48, .ref b49, .ref b50, .ref b51, .ref b52, .ref b53, .ref b54, .ref b55, .ref b56, .int 0, .int 0, .int 0, .int 0, .int (-1), .int 0, .int 0, .int 0, .int 0, .int 0, .int 0, .ref b57, .ref b58, .ref b59, .int 0, .ref b60, .ref b61, .int 0, .ref b62, .ref b63, .ref b64, .int 0, .ref b65, .ref b66, .ref b67, .ref b68, .ref b69, .ref b70, .int 0, .int (-1), .int 0, .ref b71, .int (-1), .int (-1), .int (-1), .ref b72, .int 0, .ref b73, .int 0, .ref b74, .int 0, .int 0, .ref b75]))]) := by
  refine ax_Mi.of (by decide +kernel) (Nat.le_of_ble_eq_true rfl) ?_
  intro p e s m args below meth c C hnm
  refine ax_ls ([(0, .ref a0)]) [0] rfl ?_
  refine ax_aload_n (pc := 0) C d_MM_thrown_0 rfl 0 rfl ?_
  refine ax_get (pc := 1) C k_MM 4 lk_MM_24 d_MM_thrown_1 (Nat.le_of_ble_eq_true rfl) 0 rfl rfl ?_
  exact ax_iret (pc := 4) C d_MM_thrown_4 ⟨rfl, rfl⟩ (by decide) (by decide)
