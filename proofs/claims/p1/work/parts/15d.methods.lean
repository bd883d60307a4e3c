abbrev b_Law_run : ByteArray := method_5_code
def y_Law_run : MethodName := ⟨"ClauseProverLaw", "run", "(LClauseProver;I[J)I"⟩
theorem d_Law_run_0 : decode b_Law_run 0 = .ok (.aload_n 2, 1) := by decide +kernel
theorem d_Law_run_1 : decode b_Law_run 1 = .ok (.iconst 0, 1) := by decide +kernel
theorem d_Law_run_2 : decode b_Law_run 2 = .ok (.aload_n 0, 1) := by decide +kernel
theorem d_Law_run_3 : decode b_Law_run 3 = .ok (.iload_n 1, 1) := by decide +kernel
theorem d_Law_run_4 : decode b_Law_run 4 = .ok (.invokevirtual 21, 3) := by decide +kernel
theorem d_Law_run_7 : decode b_Law_run 7 = .ok (.i2l, 1) := by decide +kernel
theorem d_Law_run_8 : decode b_Law_run 8 = .ok (.lastore, 1) := by decide +kernel
theorem d_Law_run_9 : decode b_Law_run 9 = .ok (.goto 6, 3) := by decide +kernel
theorem d_Law_run_12 : decode b_Law_run 12 = .ok (.astore_n 3, 1) := by decide +kernel
theorem d_Law_run_13 : decode b_Law_run 13 = .ok (.iconst 1, 1) := by decide +kernel
theorem d_Law_run_14 : decode b_Law_run 14 = .ok (.ireturn, 1) := by decide +kernel
theorem d_Law_run_15 : decode b_Law_run 15 = .ok (.iconst 0, 1) := by decide +kernel
theorem d_Law_run_16 : decode b_Law_run 16 = .ok (.ireturn, 1) := by decide +kernel
abbrev b_CP_run : ByteArray := prog_1_method_7_code
def y_CP_run : MethodName := ⟨"ClauseProver", "run", "(I)I"⟩
theorem d_CP_run_0 : decode b_CP_run 0 = .ok (.iload_n 1, 1) := by decide +kernel
theorem d_CP_run_1 : decode b_CP_run 1 = .ok (.iconst 1, 1) := by decide +kernel
theorem d_CP_run_2 : decode b_CP_run 2 = .ok (.if_icmp .lt 9, 3) := by decide +kernel
theorem d_CP_run_5 : decode b_CP_run 5 = .ok (.iload_n 1, 1) := by decide +kernel
theorem d_CP_run_6 : decode b_CP_run 6 = .ok (.bipush 100, 2) := by decide +kernel
theorem d_CP_run_8 : decode b_CP_run 8 = .ok (.if_icmp .le 13, 3) := by decide +kernel
theorem d_CP_run_11 : decode b_CP_run 11 = .ok (.new 100, 3) := by decide +kernel
theorem d_CP_run_14 : decode b_CP_run 14 = .ok (.dup, 1) := by decide +kernel
theorem d_CP_run_15 : decode b_CP_run 15 = .ok (.ldc 138, 2) := by decide +kernel
theorem d_CP_run_17 : decode b_CP_run 17 = .ok (.invokespecial 104, 3) := by decide +kernel
theorem d_CP_run_20 : decode b_CP_run 20 = .ok (.athrow, 1) := by decide +kernel
theorem d_CP_run_21 : decode b_CP_run 21 = .ok (.iconst 0, 1) := by decide +kernel
theorem d_CP_run_22 : decode b_CP_run 22 = .ok (.istore_n 2, 1) := by decide +kernel
theorem d_CP_run_23 : decode b_CP_run 23 = .ok (.iload_n 2, 1) := by decide +kernel
theorem d_CP_run_24 : decode b_CP_run 24 = .ok (.iload_n 1, 1) := by decide +kernel
theorem d_CP_run_25 : decode b_CP_run 25 = .ok (.if_icmp .ge 40, 3) := by decide +kernel
theorem d_CP_run_28 : decode b_CP_run 28 = .ok (.aload_n 0, 1) := by decide +kernel
theorem d_CP_run_29 : decode b_CP_run 29 = .ok (.getfield 69, 3) := by decide +kernel
theorem d_CP_run_32 : decode b_CP_run 32 = .ok (.getfield 140, 3) := by decide +kernel
theorem d_CP_run_35 : decode b_CP_run 35 = .ok (.ifCond .ne 30, 3) := by decide +kernel
theorem d_CP_run_38 : decode b_CP_run 38 = .ok (.aload_n 0, 1) := by decide +kernel
theorem d_CP_run_39 : decode b_CP_run 39 = .ok (.getfield 69, 3) := by decide +kernel
theorem d_CP_run_42 : decode b_CP_run 42 = .ok (.invokevirtual 143, 3) := by decide +kernel
theorem d_CP_run_45 : decode b_CP_run 45 = .ok (.istore_n 3, 1) := by decide +kernel
theorem d_CP_run_46 : decode b_CP_run 46 = .ok (.iload_n 3, 1) := by decide +kernel
theorem d_CP_run_47 : decode b_CP_run 47 = .ok (.iconst (-1), 1) := by decide +kernel
theorem d_CP_run_48 : decode b_CP_run 48 = .ok (.if_icmp .eq 11, 3) := by decide +kernel
theorem d_CP_run_51 : decode b_CP_run 51 = .ok (.aload_n 0, 1) := by decide +kernel
theorem d_CP_run_52 : decode b_CP_run 52 = .ok (.getfield 69, 3) := by decide +kernel
theorem d_CP_run_55 : decode b_CP_run 55 = .ok (.iload_n 3, 1) := by decide +kernel
theorem d_CP_run_56 : decode b_CP_run 56 = .ok (.invokevirtual 147, 3) := by decide +kernel
theorem d_CP_run_59 : decode b_CP_run 59 = .ok (.iinc 2 1, 3) := by decide +kernel
theorem d_CP_run_62 : decode b_CP_run 62 = .ok (.goto (-39), 3) := by decide +kernel
theorem d_CP_run_65 : decode b_CP_run 65 = .ok (.aload_n 0, 1) := by decide +kernel
theorem d_CP_run_66 : decode b_CP_run 66 = .ok (.getfield 69, 3) := by decide +kernel
theorem d_CP_run_69 : decode b_CP_run 69 = .ok (.getfield 140, 3) := by decide +kernel
theorem d_CP_run_72 : decode b_CP_run 72 = .ok (.ireturn, 1) := by decide +kernel
set_option maxHeartbeats 4000000 in
set_option maxRecDepth 100000 in
theorem m66_CP_run (l : Launch) (htr : l.stackTraces = false) (D : va_G) (kA : Nat → ClassId) (b0 : Nat) (i0 : Int32) (h0 : i0 < 1) : ax_Mx l D kA y_CP_run b_CP_run 4 (some .int) 6 90 1 6 [.ref b0, .int i0] [] "java/lang/IllegalArgumentException" (fun w1 => w1 = []) := by
  refine ax_Mx.of (by decide +kernel) (Nat.le_of_ble_eq_true rfl) ?_
  intro p e s m args below meth c C hadm hex hX hP0
  refine ax_ls ([(0, .ref b0), (1, .int i0)]) [0, 1] rfl ?_
  refine ax_iload_n (pc := 0) C d_CP_run_0 rfl 1 rfl ?_
  refine ax_iconst (pc := 1) C 1 d_CP_run_1 (by decide +kernel) ?_
  refine ax_icmp_lt (pc := 2) C 11 d_CP_run_2 (by decide) (fun _ => ?_) (fun h => absurd h0 h)
  exact ax_throw2 (pc := 11) C hadm htr hex hX hP0 (is := 138) (tx := "not 1 .. 100 steps") ta_IAE (by decide +kernel) (by decide) tb_classLink_984 tb_instantiable_985 tb_initialized_21 (by decide +kernel) (by decide +kernel) (by decide +kernel) (by decide +kernel) d_CP_run_11 d_CP_run_14 d_CP_run_15 d_CP_run_17 d_CP_run_20 (Nat.le_of_ble_eq_true rfl) (Nat.le_of_ble_eq_true rfl) (Nat.le_of_ble_eq_true rfl) (Nat.le_of_ble_eq_true rfl) rfl rfl rfl
theorem tc_CP_run : Cond.code y_CP_run b_CP_run 4 (some (.int)) ∈ lw_tbg := tb_in (i := 1006) (by decide +kernel) rfl
theorem ml_Law_21 : ax_LV "ClauseProverLaw" 21 y_CP_run b_CP_run 4 (some (.int)) 1 := ax_LV.mk (tb_in (i := 1003) (by decide +kernel) rfl) (tb_in (i := 1004) (by decide +kernel) rfl) (tb_in (i := 1005) (by decide +kernel) rfl) ti_CP tc_CP_run (by decide +kernel)
set_option maxHeartbeats 4000000 in
set_option maxRecDepth 100000 in
theorem m65_Law_run (l : Launch) (htr : l.stackTraces = false) (D : va_G) (kA : Nat → ClassId) (a0 : Nat) (b0 : Nat) (b1 : Nat) (b2 : Nat) (b3 : Nat) (b4 : Nat) (b5 : Nat) (b6 : Nat) (b7 : Nat) (b8 : Nat) (b9 : Nat) (b10 : Nat) (i0 : Int32) (h0 : i0 < 1) : ax_Mw l D kA y_Law_run b_Law_run 4 [(0, 9, 12, 19)] 7 113 1 6 [.ref a0, .int i0, .ref b0] [(a0, .inr (11, [.ref b1, .ref b2, .ref b3, .ref b4, .ref b5, .ref b6, .ref b7, .ref b8, .ref b9, .ref b10, .int 0, .int 0]))] (fun r w1 => r = 1 ∧ w1 = [(a0, .inr (11, [.ref b1, .ref b2, .ref b3, .ref b4, .ref b5, .ref b6, .ref b7, .ref b8, .ref b9, .ref b10, .int 0, .int 0]))]) := by
  refine ax_Mw.of (by decide +kernel) (Nat.le_of_ble_eq_true rfl) ?_
  intro p e s m args below meth c C hadm hmeth hcode htb hX
  refine ax_ls ([(0, .ref a0), (1, .int i0), (2, .ref b0)]) [0, 1, 2] rfl ?_
  refine ax_aload_n (pc := 0) C d_Law_run_0 rfl 2 rfl ?_
  refine ax_iconst (pc := 1) C 0 d_Law_run_1 (by decide +kernel) ?_
  refine ax_aload_n (pc := 2) C d_Law_run_2 rfl 0 rfl ?_
  refine ax_iload_n (pc := 3) C d_Law_run_3 rfl 1 rfl ?_
  refine ax_callVx (pc := 4) C hX (hpc := 12) (As := [.int i0]) (rest := [.int 0, .ref b0]) (wr := [(a0, .inr (11, [.ref b1, .ref b2, .ref b3, .ref b4, .ref b5, .ref b6, .ref b7, .ref b8, .ref b9, .ref b10, .int 0, .int 0]))]) (m66_CP_run l htr D kA a0 i0 h0) ml_Law_21 0 rfl rfl rfl d_Law_run_4 rfl rfl [] [0] rfl (by decide) rfl (by decide) (by decide) (Nat.le_of_ble_eq_true rfl) (Nat.le_of_ble_eq_true rfl) (Nat.le_of_ble_eq_true rfl) (Nat.le_of_ble_eq_true rfl) (Nat.le_of_ble_eq_true rfl) (cx_F1 hadm hmeth hcode C.2.2.2.1 htb ⟨by decide, by decide⟩ (by decide) (C.2.2.2.2.1 _ tb_classLink_979)) (fun xe4 w1 hw1 => ?_)
  obtain rfl := hw1
  refine ax_w ([(a0, .inr (11, [.ref b1, .ref b2, .ref b3, .ref b4, .ref b5, .ref b6, .ref b7, .ref b8, .ref b9, .ref b10, .int 0, .int 0]))]) rfl ?_
  refine ax_astore_n (pc := 12) C d_Law_run_12 rfl (Nat.le_of_ble_eq_true rfl) ([(3, .ref xe4), (0, .ref a0), (1, .int i0), (2, .ref b0)]) rfl ?_
  refine ax_iconst (pc := 13) C 1 d_Law_run_13 (by decide +kernel) ?_
  exact ax_iret (pc := 14) C d_Law_run_14 ⟨rfl, rfl⟩ (by decide) (by decide)
abbrev b_MM_run : ByteArray := prog_14_method_111_code
def y_MM_run : MethodName := ⟨"ClauseProverModel", "run", "(I)I"⟩
theorem d_MM_run_0 : decode b_MM_run 0 = .ok (.aload_n 0, 1) := by decide +kernel
theorem d_MM_run_1 : decode b_MM_run 1 = .ok (.iconst 0, 1) := by decide +kernel
theorem d_MM_run_2 : decode b_MM_run 2 = .ok (.putfield 24, 3) := by decide +kernel
theorem d_MM_run_5 : decode b_MM_run 5 = .ok (.aload_n 0, 1) := by decide +kernel
theorem d_MM_run_6 : decode b_MM_run 6 = .ok (.iconst 1, 1) := by decide +kernel
theorem d_MM_run_7 : decode b_MM_run 7 = .ok (.iload_n 1, 1) := by decide +kernel
theorem d_MM_run_8 : decode b_MM_run 8 = .ok (.iconst 1, 1) := by decide +kernel
theorem d_MM_run_9 : decode b_MM_run 9 = .ok (.if_icmp .lt 9, 3) := by decide +kernel
theorem d_MM_run_12 : decode b_MM_run 12 = .ok (.iload_n 1, 1) := by decide +kernel
theorem d_MM_run_13 : decode b_MM_run 13 = .ok (.bipush 100, 2) := by decide +kernel
theorem d_MM_run_15 : decode b_MM_run 15 = .ok (.if_icmp .le 7, 3) := by decide +kernel
theorem d_MM_run_18 : decode b_MM_run 18 = .ok (.iconst 1, 1) := by decide +kernel
theorem d_MM_run_19 : decode b_MM_run 19 = .ok (.goto 4, 3) := by decide +kernel
theorem d_MM_run_22 : decode b_MM_run 22 = .ok (.iconst 0, 1) := by decide +kernel
theorem d_MM_run_23 : decode b_MM_run 23 = .ok (.invokevirtual 401, 3) := by decide +kernel
theorem d_MM_run_26 : decode b_MM_run 26 = .ok (.ifCond .eq 5, 3) := by decide +kernel
theorem d_MM_run_29 : decode b_MM_run 29 = .ok (.iconst 0, 1) := by decide +kernel
theorem d_MM_run_30 : decode b_MM_run 30 = .ok (.ireturn, 1) := by decide +kernel
theorem d_MM_run_31 : decode b_MM_run 31 = .ok (.iconst 0, 1) := by decide +kernel
theorem d_MM_run_32 : decode b_MM_run 32 = .ok (.istore_n 2, 1) := by decide +kernel
theorem d_MM_run_33 : decode b_MM_run 33 = .ok (.iload_n 2, 1) := by decide +kernel
theorem d_MM_run_34 : decode b_MM_run 34 = .ok (.iload_n 1, 1) := by decide +kernel
theorem d_MM_run_35 : decode b_MM_run 35 = .ok (.if_icmp .ge 20, 3) := by decide +kernel
theorem d_MM_run_38 : decode b_MM_run 38 = .ok (.aload_n 0, 1) := by decide +kernel
theorem d_MM_run_39 : decode b_MM_run 39 = .ok (.getfield 278, 3) := by decide +kernel
theorem d_MM_run_42 : decode b_MM_run 42 = .ok (.ifCond .ne 13, 3) := by decide +kernel
theorem d_MM_run_45 : decode b_MM_run 45 = .ok (.aload_n 0, 1) := by decide +kernel
theorem d_MM_run_46 : decode b_MM_run 46 = .ok (.invokevirtual 756, 3) := by decide +kernel
theorem d_MM_run_49 : decode b_MM_run 49 = .ok (.iinc 2 1, 3) := by decide +kernel
theorem d_MM_run_52 : decode b_MM_run 52 = .ok (.goto (-19), 3) := by decide +kernel
theorem d_MM_run_55 : decode b_MM_run 55 = .ok (.aload_n 0, 1) := by decide +kernel
theorem d_MM_run_56 : decode b_MM_run 56 = .ok (.getfield 278, 3) := by decide +kernel
theorem d_MM_run_59 : decode b_MM_run 59 = .ok (.ireturn, 1) := by decide +kernel
theorem tc_Law_run : Cond.codeWith y_Law_run b_Law_run 4 (some .int) [(0, 9, 12, 19)] ∈ lw_tbg := tb_in (i := 1002) (by decide +kernel) rfl
theorem mw_Law_83 : ax_LSw "ClauseProverLaw" 83 y_Law_run b_Law_run 4 [(0, 9, 12, 19)] 3 := ax_LSw.mk (tb_in (i := 1000) (by decide +kernel) rfl) (tb_in (i := 1001) (by decide +kernel) rfl) ti_Law tc_Law_run (by decide +kernel)
set_option maxHeartbeats 4000000 in
set_option maxRecDepth 100000 in
theorem m67_MM_run (l : Launch) (D : va_G) (kA : Nat → ClassId) (a0 : Nat) (b0 : Nat) (b1 : Nat) (b2 : Nat) (b3 : Nat) (b4 : Nat) (b5 : Nat) (b6 : Nat) (b7 : Nat) (b8 : Nat) (b9 : Nat) (b10 : Nat) (b11 : Nat) (b12 : Nat) (b13 : Nat) (b14 : Nat) (b15 : Nat) (b16 : Nat) (b17 : Nat) (b18 : Nat) (b19 : Nat) (b20 : Nat) (b21 : Nat) (b22 : Nat) (b23 : Nat) (b24 : Nat) (b25 : Nat) (b26 : Nat) (b27 : Nat) (b28 : Nat) (b29 : Nat) (b30 : Nat) (b31 : Nat) (b32 : Nat) (b33 : Nat) (b34 : Nat) (b35 : Nat) (b36 : Nat) (b37 : Nat) (b38 : Nat) (b39 : Nat) (b40 : Nat) (b41 : Nat) (b42 : Nat) (b43 : Nat) (b44 : Nat) (b45 : Nat) (b46 : Nat) (b47 : Nat) (b48 : Nat) (b49 : Nat) (b50 : Nat) (b51 : Nat) (b52 : Nat) (b53 : Nat) (b54 : Nat) (b55 : Nat) (b56 : Nat) (b57 : Nat) (b58 : Nat) (b59 : Nat) (b60 : Nat) (b61 : Nat) (b62 : Nat) (b63 : Nat) (b64 : Nat) (b65 : Nat) (b66 : Nat) (b67 : Nat) (b68 : Nat) (b69 : Nat) (b70 : Nat) (b71 : Nat) (b72 : Nat) (b73 : Nat) (b74 : Nat) (b75 : Nat) (i0 : Int32) (h0 : i0 < 1) : ax_Mi l D kA y_MM_run b_MM_run 3 .int 1 22 0 0 [.ref a0, .int i0] [(a0, .inr (12, [.ref b0, .ref b1, .int 0, .int 0, .int 0, .int 0, .int 0, .int 0, .int 0, .int 0, .int 0, .int 0, .int 0, .ref b2, .ref b3, .ref b4, .ref b5, .ref b6, .int 0, .int 1, .int 0, .ref b7, .ref b8, .ref b9, .ref b10, .int 0, .ref b11, .ref b12, .int 0, .int 0, .ref b13, .ref b14, .ref b15, .ref b16, .ref b17, .ref b18, .ref b19, .int 0, .int 0, .int 0, .int 0, .ref b20, .ref b21, .ref b22, .ref b23, .ref b24, .ref b25, .int 0, .ref b26, .ref b27, .ref b28, .ref b29, .ref b30, .ref b31, .ref b32, .int 0, .int 0, .ref b33, .ref b34, .ref b35, .ref b36, .ref b37, .int 0, .ref b38, .ref b39, .int 0, .ref b40, .ref b41, .ref b42, .ref b43, .ref b44, .ref b45, .int 0, .ref b46, .ref b47, .ref b48, .ref b49, .ref b50, .ref b51, .ref b52, .ref b53, .ref b54, .ref b55, .ref b56, .int 0, .int 0, .int 0, .int 0, .int (-1), .int 0, .int 0, .int 0, .int 0, .int 0, .int 0, .ref b57, .ref b58, .ref b59, .int 0, .ref b60, .ref b61, .int 0, .ref b62, .ref b63, .ref b64, .int 0, .ref b65, .ref b66, .ref b67, .ref b68, .ref b69, .ref b70, .int 0, .int (-1), .int 0, .ref b71, .int (-1), .int (-1), .int (-1), .ref b72, .int 0, .ref b73, .int 0, .ref b74, .int 0, .int 0, .ref b75]))] (fun r w1 => r = 0 ∧ w1 = [(a0, .inr (12, [.ref b0, .ref b1, .int 0, .int 0, .int 1, .int 0, .int 0, .int 0, .int 0, .int 0, .int 0, .int 0, .int 0, .ref b2, .ref b3, .ref b4, .ref b5, .ref b6, .int 0, .int 1, .int 0, .ref b7, .ref b8, .ref b9, .ref b10, .int 0, .ref b11, .ref b12, .int 0, .int 0, .ref b13, .ref b14, .ref b15, .ref b16, .ref b17, .ref b18, .ref b19, .int 0, .int 0, .int 0, .int 0, .ref b20, .ref b21, .ref b22, .ref b23, .ref b24, .ref b25, .int 0, .ref b26, .ref b27, .ref b28, .ref b29, .ref b30, .ref b31, .ref b32, .int 0, .int 0, .ref b33, .ref b34, .ref b35, .ref b36, .ref b37, .int 0, .ref b38, .ref b39, .int 0, .ref b40, .ref b41, .ref b42, .ref b43, .ref b44, .ref b45, .int 0, .ref b46, .ref b47, .ref b48, .ref b49, .ref b50, .ref b51, .ref b52, .ref b53, .ref b54, .ref b55, .ref b56, .int 0, .int 0, .int 0, .int 0, .int (-1), .int 0, .int 0, .int 0, .int 0, .int 0, .int 0, .ref b57, .ref b58, .ref b59, .int 0, .ref b60, .ref b61, .int 0, .ref b62, .ref b63, .ref b64, .int 0, .ref b65, .ref b66, .ref b67, .ref b68, .ref b69, .ref b70, .int 0, .int (-1), .int 0, .ref b71, .int (-1), .int (-1), .int (-1), .ref b72, .int 0, .ref b73, .int 0, .ref b74, .int 0, .int 0, .ref b75]))]) := by
  refine ax_Mi.of (by decide +kernel) (Nat.le_of_ble_eq_true rfl) ?_
  intro p e s m args below meth c C hnm
  refine ax_ls ([(0, .ref a0), (1, .int i0)]) [0, 1] rfl ?_
  refine ax_aload_n (pc := 0) C d_MM_run_0 rfl 0 rfl ?_
  refine ax_iconst (pc := 1) C 0 d_MM_run_1 (by decide +kernel) ?_
  refine ax_put (pc := 2) C k_MM 4 lk_MM_24 d_MM_run_2 (Nat.le_of_ble_eq_true rfl) 0 rfl rfl rfl rfl (Nat.le_of_ble_eq_true rfl) ?_
  refine ax_w ([(a0, .inr (12, [.ref b0, .ref b1, .int 0, .int 0, .int 0, .int 0, .int 0, .int 0, .int 0, .int 0, .int 0, .int 0, .int 0, .ref b2, .ref b3, .ref b4, .ref b5, .ref b6, .int 0, .int 1, .int 0, .ref b7, .ref b8, .ref b9, .ref b10, .int 0, .ref b11, .ref b12, .int 0, .int 0, .ref b13, .ref b14, .ref b15, .ref b16, .ref b17, .ref b18, .ref b19, .int 0, .int 0, .int 0, .int 0, .ref b20, .ref b21, .ref b22, .ref b23, .ref b24, .ref b25, .int 0, .ref b26, .ref b27, .ref b28, .ref b29, .ref b30, .ref b31, .ref b32, .int 0, .int 0, .ref b33, .ref b34, .ref b35, .ref b36, .ref b37, .int 0, .ref b38, .ref b39, .int 0, .ref b40, .ref b41, .ref b42, .ref b43, .ref b44, .ref b45, .int 0, .ref b46, .ref b47, .ref b48, .ref b49, .ref b50, .ref b51, .ref b52, .ref b53, .ref b54, .ref b55, .ref b56, .int 0, .int 0, .int 0, .int 0, .int (-1), .int 0, .int 0, .int 0, .int 0, .int 0, .int 0, .ref b57, .ref b58, .ref b59, .int 0, .ref b60, .ref b61, .int 0, .ref b62, .ref b63, .ref b64, .int 0, .ref b65, .ref b66, .ref b67, .ref b68, .ref b69, .ref b70, .int 0, .int (-1), .int 0, .ref b71, .int (-1), .int (-1), .int (-1), .ref b72, .int 0, .ref b73, .int 0, .ref b74, .int 0, .int 0, .ref b75]))]) rfl ?_
  refine ax_aload_n (pc := 5) C d_MM_run_5 rfl 0 rfl ?_
  refine ax_iconst (pc := 6) C 1 d_MM_run_6 (by decide +kernel) ?_
  refine ax_iload_n (pc := 7) C d_MM_run_7 rfl 1 rfl ?_
  refine ax_iconst (pc := 8) C 1 d_MM_run_8 (by decide +kernel) ?_
  refine ax_icmp_lt (pc := 9) C 18 d_MM_run_9 (by decide) (fun _ => ?_) (fun h => absurd h0 h)
  refine ax_iconst (pc := 18) C 1 d_MM_run_18 (by decide +kernel) ?_
  refine ax_goto (pc := 19) C 23 d_MM_run_19 (by decide) ?_
  refine ax_callVi (pc := 23) C (As := [.int 1, .int 1]) (rest := []) (wr := []) (m34_MM_refuse l D kA a0 b0 b1 b2 b3 b4 b5 b6 b7 b8 b9 b10 b11 b12 b13 b14 b15 b16 b17 b18 b19 b20 b21 b22 b23 b24 b25 b26 b27 b28 b29 b30 b31 b32 b33 b34 b35 b36 b37 b38 b39 b40 b41 b42 b43 b44 b45 b46 b47 b48 b49 b50 b51 b52 b53 b54 b55 b56 b57 b58 b59 b60 b61 b62 b63 b64 b65 b66 b67 b68 b69 b70 b71 b72 b73 b74 b75) ml_MM_401 0 rfl rfl rfl d_MM_run_23 rfl rfl [0] [] rfl (by decide) rfl (by decide) (by decide) (Nat.le_of_ble_eq_true rfl) (Nat.le_of_ble_eq_true rfl) (Nat.le_of_ble_eq_true rfl) (Nat.le_of_ble_eq_true rfl) (Nat.le_of_ble_eq_true rfl) (fun r23 w1 hw1 => ?_)
  obtain ⟨rfl, rfl⟩ := hw1
  refine ax_w ([(a0, .inr (12, [.ref b0, .ref b1, .int 0, .int 0, .int 1, .int 0, .int 0, .int 0, .int 0, .int 0, .int 0, .int 0, .int 0, .ref b2, .ref b3, .ref b4, .ref b5, .ref b6, .int 0, .int 1, .int 0, .ref b7, .ref b8, .ref b9, .ref b10, .int 0, .ref b11, .ref b12, .int 0, .int 0, .ref b13, .ref b14, .ref b15, .ref b16, .ref b17, .ref b18, .ref b19, .int 0, .int 0, .int 0, .int 0, .ref b20, .ref b21, .ref b22, .ref b23, .ref b24, .ref b25, .int 0, .ref b26, .ref b27, .ref b28, .ref b29, .ref b30, .ref b31, .ref b32, .int 0, .int 0, .ref b33, .ref b34, .ref b35, .ref b36, .ref b37, .int 0, .ref b38, .ref b39, .int 0, .ref b40, .ref b41, .ref b42, .ref b43, .ref b44, .ref b45, .int 0, .ref b46, .ref b47, .ref b48, .ref b49, .ref b50, .ref b51, .ref b52, .ref b53, .ref b54, .ref b55, .ref b56, .int 0, .int 0, .int 0, .int 0, .int (-1), .int 0, .int 0, .int 0, .int 0, .int 0, .int 0, .ref b57, .ref b58, .ref b59, .int 0, .ref b60, .ref b61, .int 0, .ref b62, .ref b63, .ref b64, .int 0, .ref b65, .ref b66, .ref b67, .ref b68, .ref b69, .ref b70, .int 0, .int (-1), .int 0, .ref b71, .int (-1), .int (-1), .int (-1), .ref b72, .int 0, .ref b73, .int 0, .ref b74, .int 0, .int 0, .ref b75]))]) rfl ?_
  refine ax_if_eq (pc := 26) C 31 d_MM_run_26 (by decide) (fun h => absurd h (by decide)) (fun _ => ?_)
  refine ax_iconst (pc := 29) C 0 d_MM_run_29 (by decide +kernel) ?_
  exact ax_iret (pc := 30) C d_MM_run_30 ⟨rfl, rfl⟩ (by decide) (by decide)
set_option maxHeartbeats 4000000 in
set_option maxRecDepth 100000 in
theorem m69_CP_run (l : Launch) (htr : l.stackTraces = false) (D : va_G) (kA : Nat → ClassId) (b0 : Nat) (i0 : Int32) (h0 : ¬ i0 < 1) (h1 : ¬ i0 ≤ 100) : ax_Mx l D kA y_CP_run b_CP_run 4 (some .int) 6 90 1 6 [.ref b0, .int i0] [] "java/lang/IllegalArgumentException" (fun w1 => w1 = []) := by
  refine ax_Mx.of (by decide +kernel) (Nat.le_of_ble_eq_true rfl) ?_
  intro p e s m args below meth c C hadm hex hX hP0
  refine ax_ls ([(0, .ref b0), (1, .int i0)]) [0, 1] rfl ?_
  refine ax_iload_n (pc := 0) C d_CP_run_0 rfl 1 rfl ?_
  refine ax_iconst (pc := 1) C 1 d_CP_run_1 (by decide +kernel) ?_
  refine ax_icmp_lt (pc := 2) C 11 d_CP_run_2 (by decide) (fun h => absurd h h0) (fun _ => ?_)
  refine ax_iload_n (pc := 5) C d_CP_run_5 rfl 1 rfl ?_
  refine ax_bipush (pc := 6) C 100 d_CP_run_6 (by decide +kernel) ?_
  refine ax_icmp_le (pc := 8) C 21 d_CP_run_8 (by decide) (fun h => absurd h h1) (fun _ => ?_)
  exact ax_throw2 (pc := 11) C hadm htr hex hX hP0 (is := 138) (tx := "not 1 .. 100 steps") ta_IAE (by decide +kernel) (by decide) tb_classLink_984 tb_instantiable_985 tb_initialized_21 (by decide +kernel) (by decide +kernel) (by decide +kernel) (by decide +kernel) d_CP_run_11 d_CP_run_14 d_CP_run_15 d_CP_run_17 d_CP_run_20 (Nat.le_of_ble_eq_true rfl) (Nat.le_of_ble_eq_true rfl) (Nat.le_of_ble_eq_true rfl) (Nat.le_of_ble_eq_true rfl) rfl rfl rfl
set_option maxHeartbeats 4000000 in
set_option maxRecDepth 100000 in
theorem m68_Law_run (l : Launch) (htr : l.stackTraces = false) (D : va_G) (kA : Nat → ClassId) (a0 : Nat) (b0 : Nat) (b1 : Nat) (b2 : Nat) (b3 : Nat) (b4 : Nat) (b5 : Nat) (b6 : Nat) (b7 : Nat) (b8 : Nat) (b9 : Nat) (b10 : Nat) (i0 : Int32) (h0 : ¬ i0 < 1) (h1 : ¬ i0 ≤ 100) : ax_Mw l D kA y_Law_run b_Law_run 4 [(0, 9, 12, 19)] 7 113 1 6 [.ref a0, .int i0, .ref b0] [(a0, .inr (11, [.ref b1, .ref b2, .ref b3, .ref b4, .ref b5, .ref b6, .ref b7, .ref b8, .ref b9, .ref b10, .int 0, .int 0]))] (fun r w1 => r = 1 ∧ w1 = [(a0, .inr (11, [.ref b1, .ref b2, .ref b3, .ref b4, .ref b5, .ref b6, .ref b7, .ref b8, .ref b9, .ref b10, .int 0, .int 0]))]) := by
  refine ax_Mw.of (by decide +kernel) (Nat.le_of_ble_eq_true rfl) ?_
  intro p e s m args below meth c C hadm hmeth hcode htb hX
  refine ax_ls ([(0, .ref a0), (1, .int i0), (2, .ref b0)]) [0, 1, 2] rfl ?_
  refine ax_aload_n (pc := 0) C d_Law_run_0 rfl 2 rfl ?_
  refine ax_iconst (pc := 1) C 0 d_Law_run_1 (by decide +kernel) ?_
  refine ax_aload_n (pc := 2) C d_Law_run_2 rfl 0 rfl ?_
  refine ax_iload_n (pc := 3) C d_Law_run_3 rfl 1 rfl ?_
  refine ax_callVx (pc := 4) C hX (hpc := 12) (As := [.int i0]) (rest := [.int 0, .ref b0]) (wr := [(a0, .inr (11, [.ref b1, .ref b2, .ref b3, .ref b4, .ref b5, .ref b6, .ref b7, .ref b8, .ref b9, .ref b10, .int 0, .int 0]))]) (m69_CP_run l htr D kA a0 i0 h0 h1) ml_Law_21 0 rfl rfl rfl d_Law_run_4 rfl rfl [] [0] rfl (by decide) rfl (by decide) (by decide) (Nat.le_of_ble_eq_true rfl) (Nat.le_of_ble_eq_true rfl) (Nat.le_of_ble_eq_true rfl) (Nat.le_of_ble_eq_true rfl) (Nat.le_of_ble_eq_true rfl) (cx_F1 hadm hmeth hcode C.2.2.2.1 htb ⟨by decide, by decide⟩ (by decide) (C.2.2.2.2.1 _ tb_classLink_979)) (fun xe4 w1 hw1 => ?_)
  obtain rfl := hw1
  refine ax_w ([(a0, .inr (11, [.ref b1, .ref b2, .ref b3, .ref b4, .ref b5, .ref b6, .ref b7, .ref b8, .ref b9, .ref b10, .int 0, .int 0]))]) rfl ?_
  refine ax_astore_n (pc := 12) C d_Law_run_12 rfl (Nat.le_of_ble_eq_true rfl) ([(3, .ref xe4), (0, .ref a0), (1, .int i0), (2, .ref b0)]) rfl ?_
  refine ax_iconst (pc := 13) C 1 d_Law_run_13 (by decide +kernel) ?_
  exact ax_iret (pc := 14) C d_Law_run_14 ⟨rfl, rfl⟩ (by decide) (by decide)
set_option maxHeartbeats 4000000 in
set_option maxRecDepth 100000 in
theorem m70_MM_run (l : Launch) (D : va_G) (kA : Nat → ClassId) (a0 : Nat) (b0 : Nat) (b1 : Nat) (b2 : Nat) (b3 : Nat) (b4 : Nat) (b5 : Nat) (b6 : Nat) (b7 : Nat) (b8 : Nat) (b9 : Nat) (b10 : Nat) (b11 : Nat) (b12 : Nat) (b13 : Nat) (b14 : Nat) (b15 : Nat) (b16 : Nat) (b17 : Nat) (b18 : Nat) (b19 : Nat) (b20 : Nat) (b21 : Nat) (b22 : Nat) (b23 : Nat) (b24 : Nat) (b25 : Nat) (b26 : Nat) (b27 : Nat) (b28 : Nat) (b29 : Nat) (b30 : Nat) (b31 : Nat) (b32 : Nat) (b33 : Nat) (b34 : Nat) (b35 : Nat) (b36 : Nat) (b37 : Nat) (b38 : Nat) (b39 : Nat) (b40 : Nat) (b41 : Nat) (b42 : Nat) (b43 : Nat) (b44 : Nat) (b45 : Nat) (b46 : Nat) (b47 : Nat) (b48 : Nat) (b49 : Nat) (b50 : Nat) (b51 : Nat) (b52 : Nat) (b53 : Nat) (b54 : Nat) (b55 : Nat) (b56 : Nat) (b57 : Nat) (b58 : Nat) (b59 : Nat) (b60 : Nat) (b61 : Nat) (b62 : Nat) (b63 : Nat) (b64 : Nat) (b65 : Nat) (b66 : Nat) (b67 : Nat) (b68 : Nat) (b69 : Nat) (b70 : Nat) (b71 : Nat) (b72 : Nat) (b73 : Nat) (b74 : Nat) (b75 : Nat) (i0 : Int32) (h0 : ¬ i0 < 1) (h1 : ¬ i0 ≤ 100) : ax_Mi l D kA y_MM_run b_MM_run 3 .int 1 22 0 0 [.ref a0, .int i0] [(a0, .inr (12, [.ref b0, .ref b1, .int 0, .int 0, .int 0, .int 0, .int 0, .int 0, .int 0, .int 0, .int 0, .int 0, .int 0, .ref b2, .ref b3, .ref b4, .ref b5, .ref b6, .int 0, .int 1, .int 0, .ref b7, .ref b8, .ref b9, .ref b10, .int 0, .ref b11, .ref b12, .int 0, .int 0, .ref b13, .ref b14, .ref b15, .ref b16, .ref b17, .ref b18, .ref b19, .int 0, .int 0, .int 0, .int 0, .ref b20, .ref b21, .ref b22, .ref b23, .ref b24, .ref b25, .int 0, .ref b26, .ref b27, .ref b28, .ref b29, .ref b30, .ref b31, .ref b32, .int 0, .int 0, .ref b33, .ref b34, .ref b35, .ref b36, .ref b37, .int 0, .ref b38, .ref b39, .int 0, .ref b40, .ref b41, .ref b42, .ref b43, .ref b44, .ref b45, .int 0, .ref b46, .ref b47, .ref b48, .ref b49, .ref b50, .ref b51, .ref b52, .ref b53, .ref b54, .ref b55, .ref b56, .int 0, .int 0, .int 0, .int 0, .int (-1), .int 0, .int 0, .int 0, .int 0, .int 0, .int 0, .ref b57, .ref b58, .ref b59, .int 0, .ref b60, .ref b61, .int 0, .ref b62, .ref b63, .ref b64, .int 0, .ref b65, .ref b66, .ref b67, .ref b68, .ref b69, .ref b70, .int 0, .int (-1), .int 0, .ref b71, .int (-1), .int (-1), .int (-1), .ref b72, .int 0, .ref b73, .int 0, .ref b74, .int 0, .int 0, .ref b75]))] (fun r w1 => r = 0 ∧ w1 = [(a0, .inr (12, [.ref b0, .ref b1, .int 0, .int 0, .int 1, .int 0, .int 0, .int 0, .int 0, .int 0, .int 0, .int 0, .int 0, .ref b2, .ref b3, .ref b4, .ref b5, .ref b6, .int 0, .int 1, .int 0, .ref b7, .ref b8, .ref b9, .ref b10, .int 0, .ref b11, .ref b12, .int 0, .int 0, .ref b13, .ref b14, .ref b15, .ref b16, .ref b17, .ref b18, .ref b19, .int 0, .int 0, .int 0, .int 0, .ref b20, .ref b21, .ref b22, .ref b23, .ref b24, .ref b25, .int 0, .ref b26, .ref b27, .ref b28, .ref b29, .ref b30, .ref b31, .ref b32, .int 0, .int 0, .ref b33, .ref b34, .ref b35, .ref b36, .ref b37, .int 0, .ref b38, .ref b39, .int 0, .ref b40, .ref b41, .ref b42, .ref b43, .ref b44, .ref b45, .int 0, .ref b46, .ref b47, .ref b48, .ref b49, .ref b50, .ref b51, .ref b52, .ref b53, .ref b54, .ref b55, .ref b56, .int 0, .int 0, .int 0, .int 0, .int (-1), .int 0, .int 0, .int 0, .int 0, .int 0, .int 0, .ref b57, .ref b58, .ref b59, .int 0, .ref b60, .ref b61, .int 0, .ref b62, .ref b63, .ref b64, .int 0, .ref b65, .ref b66, .ref b67, .ref b68, .ref b69, .ref b70, .int 0, .int (-1), .int 0, .ref b71, .int (-1), .int (-1), .int (-1), .ref b72, .int 0, .ref b73, .int 0, .ref b74, .int 0, .int 0, .ref b75]))]) := by
  refine ax_Mi.of (by decide +kernel) (Nat.le_of_ble_eq_true rfl) ?_
  intro p e s m args below meth c C hnm
  refine ax_ls ([(0, .ref a0), (1, .int i0)]) [0, 1] rfl ?_
  refine ax_aload_n (pc := 0) C d_MM_run_0 rfl 0 rfl ?_
  refine ax_iconst (pc := 1) C 0 d_MM_run_1 (by decide +kernel) ?_
  refine ax_put (pc := 2) C k_MM 4 lk_MM_24 d_MM_run_2 (Nat.le_of_ble_eq_true rfl) 0 rfl rfl rfl rfl (Nat.le_of_ble_eq_true rfl) ?_
  refine ax_w ([(a0, .inr (12, [.ref b0, .ref b1, .int 0, .int 0, .int 0, .int 0, .int 0, .int 0, .int 0, .int 0, .int 0, .int 0, .int 0, .ref b2, .ref b3, .ref b4, .ref b5, .ref b6, .int 0, .int 1, .int 0, .ref b7, .ref b8, .ref b9, .ref b10, .int 0, .ref b11, .ref b12, .int 0, .int 0, .ref b13, .ref b14, .ref b15, .ref b16, .ref b17, .ref b18, .ref b19, .int 0, .int 0, .int 0, .int 0, .ref b20, .ref b21, .ref b22, .ref b23, .ref b24, .ref b25, .int 0, .ref b26, .ref b27, .ref b28, .ref b29, .ref b30, .ref b31, .ref b32, .int 0, .int 0, .ref b33, .ref b34, .ref b35, .ref b36, .ref b37, .int 0, .ref b38, .ref b39, .int 0, .ref b40, .ref b41, .ref b42, .ref b43, .ref b44, .ref b45, .int 0, .ref b46, .ref b47, .ref b48, .ref b49, .ref b50, .ref b51, .ref b52, .ref b53, .ref b54, .ref b55, .ref b56, .int 0, .int 0, .int 0, .int 0, .int (-1), .int 0, .int 0, .int 0, .int 0, .int 0, .int 0, .ref b57, .ref b58, .ref b59, .int 0, .ref b60, .ref b61, .int 0, .ref b62, .ref b63, .ref b64, .int 0, .ref b65, .ref b66, .ref b67, .ref b68, .ref b69, .ref b70, .int 0, .int (-1), .int 0, .ref b71, .int (-1), .int (-1), .int (-1), .ref b72, .int 0, .ref b73, .int 0, .ref b74, .int 0, .int 0, .ref b75]))]) rfl ?_
  refine ax_aload_n (pc := 5) C d_MM_run_5 rfl 0 rfl ?_
  refine ax_iconst (pc := 6) C 1 d_MM_run_6 (by decide +kernel) ?_
  refine ax_iload_n (pc := 7) C d_MM_run_7 rfl 1 rfl ?_
  refine ax_iconst (pc := 8) C 1 d_MM_run_8 (by decide +kernel) ?_
  refine ax_icmp_lt (pc := 9) C 18 d_MM_run_9 (by decide) (fun h => absurd h h0) (fun _ => ?_)
  refine ax_iload_n (pc := 12) C d_MM_run_12 rfl 1 rfl ?_
  refine ax_bipush (pc := 13) C 100 d_MM_run_13 (by decide +kernel) ?_
  refine ax_icmp_le (pc := 15) C 22 d_MM_run_15 (by decide) (fun h => absurd h h1) (fun _ => ?_)
  refine ax_iconst (pc := 18) C 1 d_MM_run_18 (by decide +kernel) ?_
  refine ax_goto (pc := 19) C 23 d_MM_run_19 (by decide) ?_
  refine ax_callVi (pc := 23) C (As := [.int 1, .int 1]) (rest := []) (wr := []) (m34_MM_refuse l D kA a0 b0 b1 b2 b3 b4 b5 b6 b7 b8 b9 b10 b11 b12 b13 b14 b15 b16 b17 b18 b19 b20 b21 b22 b23 b24 b25 b26 b27 b28 b29 b30 b31 b32 b33 b34 b35 b36 b37 b38 b39 b40 b41 b42 b43 b44 b45 b46 b47 b48 b49 b50 b51 b52 b53 b54 b55 b56 b57 b58 b59 b60 b61 b62 b63 b64 b65 b66 b67 b68 b69 b70 b71 b72 b73 b74 b75) ml_MM_401 0 rfl rfl rfl d_MM_run_23 rfl rfl [0] [] rfl (by decide) rfl (by decide) (by decide) (Nat.le_of_ble_eq_true rfl) (Nat.le_of_ble_eq_true rfl) (Nat.le_of_ble_eq_true rfl) (Nat.le_of_ble_eq_true rfl) (Nat.le_of_ble_eq_true rfl) (fun r23 w1 hw1 => ?_)
  obtain ⟨rfl, rfl⟩ := hw1
  refine ax_w ([(a0, .inr (12, [.ref b0, .ref b1, .int 0, .int 0, .int 1, .int 0, .int 0, .int 0, .int 0, .int 0, .int 0, .int 0, .int 0, .ref b2, .ref b3, .ref b4, .ref b5, .ref b6, .int 0, .int 1, .int 0, .ref b7, .ref b8, .ref b9, .ref b10, .int 0, .ref b11, .ref b12, .int 0, .int 0, .ref b13, .ref b14, .ref b15, .ref b16, .ref b17, .ref b18, .ref b19, .int 0, .int 0, .int 0, .int 0, .ref b20, .ref b21, .ref b22, .ref b23, .ref b24, .ref b25, .int 0, .ref b26, .ref b27, .ref b28, .ref b29, .ref b30, .ref b31, .ref b32, .int 0, .int 0, .ref b33, .ref b34, .ref b35, .ref b36, .ref b37, .int 0, .ref b38, .ref b39, .int 0, .ref b40, .ref b41, .ref b42, .ref b43, .ref b44, .ref b45, .int 0, .ref b46, .ref b47, .ref b48, .ref b49, .ref b50, .ref b51, .ref b52, .ref b53, .ref b54, .ref b55, .ref b56, .int 0, .int 0, .int 0, .int 0, .int (-1), .int 0, .int 0, .int 0, .int 0, .int 0, .int 0, .ref b57, .ref b58, .ref b59, .int 0, .ref b60, .ref b61, .int 0, .ref b62, .ref b63, .ref b64, .int 0, .ref b65, .ref b66, .ref b67, .ref b68, .ref b69, .ref b70, .int 0, .int (-1), .int 0, .ref b71, .int (-1), .int (-1), .int (-1), .ref b72, .int 0, .ref b73, .int 0, .ref b74, .int 0, .int 0, .ref b75]))]) rfl ?_
  refine ax_if_eq (pc := 26) C 31 d_MM_run_26 (by decide) (fun h => absurd h (by decide)) (fun _ => ?_)
  refine ax_iconst (pc := 29) C 0 d_MM_run_29 (by decide +kernel) ?_
  exact ax_iret (pc := 30) C d_MM_run_30 ⟨rfl, rfl⟩ (by decide) (by decide)
abbrev b_Sat_takeGiven : ByteArray := prog_8_method_3_code
def y_Sat_takeGiven : MethodName := ⟨"ClauseProver$Saturation", "takeGiven", "()I"⟩
theorem d_Sat_takeGiven_0 : decode b_Sat_takeGiven 0 = .ok (.aload_n 0, 1) := by decide +kernel
theorem d_Sat_takeGiven_1 : decode b_Sat_takeGiven 1 = .ok (.invokevirtual 83, 3) := by decide +kernel
theorem d_Sat_takeGiven_4 : decode b_Sat_takeGiven 4 = .ok (.istore_n 1, 1) := by decide +kernel
theorem d_Sat_takeGiven_5 : decode b_Sat_takeGiven 5 = .ok (.iload_n 1, 1) := by decide +kernel
theorem d_Sat_takeGiven_6 : decode b_Sat_takeGiven 6 = .ok (.iconst (-1), 1) := by decide +kernel
theorem d_Sat_takeGiven_7 : decode b_Sat_takeGiven 7 = .ok (.if_icmp .ne 10, 3) := by decide +kernel
theorem d_Sat_takeGiven_10 : decode b_Sat_takeGiven 10 = .ok (.aload_n 0, 1) := by decide +kernel
theorem d_Sat_takeGiven_11 : decode b_Sat_takeGiven 11 = .ok (.iconst 2, 1) := by decide +kernel
theorem d_Sat_takeGiven_12 : decode b_Sat_takeGiven 12 = .ok (.putfield 58, 3) := by decide +kernel
theorem d_Sat_takeGiven_15 : decode b_Sat_takeGiven 15 = .ok (.iconst (-1), 1) := by decide +kernel
theorem d_Sat_takeGiven_16 : decode b_Sat_takeGiven 16 = .ok (.ireturn, 1) := by decide +kernel
theorem d_Sat_takeGiven_17 : decode b_Sat_takeGiven 17 = .ok (.aload_n 0, 1) := by decide +kernel
theorem d_Sat_takeGiven_18 : decode b_Sat_takeGiven 18 = .ok (.dup, 1) := by decide +kernel
theorem d_Sat_takeGiven_19 : decode b_Sat_takeGiven 19 = .ok (.getfield 62, 3) := by decide +kernel
theorem d_Sat_takeGiven_22 : decode b_Sat_takeGiven 22 = .ok (.iconst 1, 1) := by decide +kernel
theorem d_Sat_takeGiven_23 : decode b_Sat_takeGiven 23 = .ok (.iadd, 1) := by decide +kernel
theorem d_Sat_takeGiven_24 : decode b_Sat_takeGiven 24 = .ok (.putfield 62, 3) := by decide +kernel
theorem d_Sat_takeGiven_27 : decode b_Sat_takeGiven 27 = .ok (.aload_n 0, 1) := by decide +kernel
theorem d_Sat_takeGiven_28 : decode b_Sat_takeGiven 28 = .ok (.getfield 27, 3) := by decide +kernel
theorem d_Sat_takeGiven_31 : decode b_Sat_takeGiven 31 = .ok (.iload_n 1, 1) := by decide +kernel
theorem d_Sat_takeGiven_32 : decode b_Sat_takeGiven 32 = .ok (.bipush 6, 2) := by decide +kernel
theorem d_Sat_takeGiven_34 : decode b_Sat_takeGiven 34 = .ok (.iconst 2, 1) := by decide +kernel
theorem d_Sat_takeGiven_35 : decode b_Sat_takeGiven 35 = .ok (.invokevirtual 87, 3) := by decide +kernel
theorem d_Sat_takeGiven_38 : decode b_Sat_takeGiven 38 = .ok (.aload_n 0, 1) := by decide +kernel
theorem d_Sat_takeGiven_39 : decode b_Sat_takeGiven 39 = .ok (.getfield 27, 3) := by decide +kernel
theorem d_Sat_takeGiven_42 : decode b_Sat_takeGiven 42 = .ok (.iload_n 1, 1) := by decide +kernel
theorem d_Sat_takeGiven_43 : decode b_Sat_takeGiven 43 = .ok (.iconst 3, 1) := by decide +kernel
theorem d_Sat_takeGiven_44 : decode b_Sat_takeGiven 44 = .ok (.invokevirtual 91, 3) := by decide +kernel
theorem d_Sat_takeGiven_47 : decode b_Sat_takeGiven 47 = .ok (.ifCond .le 9, 3) := by decide +kernel
theorem d_Sat_takeGiven_50 : decode b_Sat_takeGiven 50 = .ok (.aload_n 0, 1) := by decide +kernel
theorem d_Sat_takeGiven_51 : decode b_Sat_takeGiven 51 = .ok (.iload_n 1, 1) := by decide +kernel
theorem d_Sat_takeGiven_52 : decode b_Sat_takeGiven 52 = .ok (.invokevirtual 95, 3) := by decide +kernel
theorem d_Sat_takeGiven_55 : decode b_Sat_takeGiven 55 = .ok (.istore_n 1, 1) := by decide +kernel
theorem d_Sat_takeGiven_56 : decode b_Sat_takeGiven 56 = .ok (.iload_n 1, 1) := by decide +kernel
theorem d_Sat_takeGiven_57 : decode b_Sat_takeGiven 57 = .ok (.iconst (-1), 1) := by decide +kernel
theorem d_Sat_takeGiven_58 : decode b_Sat_takeGiven 58 = .ok (.if_icmp .ne 5, 3) := by decide +kernel
theorem d_Sat_takeGiven_61 : decode b_Sat_takeGiven 61 = .ok (.iconst (-1), 1) := by decide +kernel
theorem d_Sat_takeGiven_62 : decode b_Sat_takeGiven 62 = .ok (.ireturn, 1) := by decide +kernel
theorem d_Sat_takeGiven_63 : decode b_Sat_takeGiven 63 = .ok (.aload_n 0, 1) := by decide +kernel
theorem d_Sat_takeGiven_64 : decode b_Sat_takeGiven 64 = .ok (.getfield 27, 3) := by decide +kernel
theorem d_Sat_takeGiven_67 : decode b_Sat_takeGiven 67 = .ok (.iload_n 1, 1) := by decide +kernel
theorem d_Sat_takeGiven_68 : decode b_Sat_takeGiven 68 = .ok (.iconst 3, 1) := by decide +kernel
theorem d_Sat_takeGiven_69 : decode b_Sat_takeGiven 69 = .ok (.invokevirtual 91, 3) := by decide +kernel
theorem d_Sat_takeGiven_72 : decode b_Sat_takeGiven 72 = .ok (.ifCond .ne 10, 3) := by decide +kernel
theorem d_Sat_takeGiven_75 : decode b_Sat_takeGiven 75 = .ok (.aload_n 0, 1) := by decide +kernel
theorem d_Sat_takeGiven_76 : decode b_Sat_takeGiven 76 = .ok (.iload_n 1, 1) := by decide +kernel
theorem d_Sat_takeGiven_77 : decode b_Sat_takeGiven 77 = .ok (.invokevirtual 99, 3) := by decide +kernel
theorem d_Sat_takeGiven_80 : decode b_Sat_takeGiven 80 = .ok (.iconst (-1), 1) := by decide +kernel
theorem d_Sat_takeGiven_81 : decode b_Sat_takeGiven 81 = .ok (.ireturn, 1) := by decide +kernel
theorem d_Sat_takeGiven_82 : decode b_Sat_takeGiven 82 = .ok (.aload_n 0, 1) := by decide +kernel
theorem d_Sat_takeGiven_83 : decode b_Sat_takeGiven 83 = .ok (.iload_n 1, 1) := by decide +kernel
theorem d_Sat_takeGiven_84 : decode b_Sat_takeGiven 84 = .ok (.invokevirtual 102, 3) := by decide +kernel
theorem d_Sat_takeGiven_87 : decode b_Sat_takeGiven 87 = .ok (.ifCond .eq 15, 3) := by decide +kernel
theorem d_Sat_takeGiven_90 : decode b_Sat_takeGiven 90 = .ok (.aload_n 0, 1) := by decide +kernel
theorem d_Sat_takeGiven_91 : decode b_Sat_takeGiven 91 = .ok (.dup, 1) := by decide +kernel
theorem d_Sat_takeGiven_92 : decode b_Sat_takeGiven 92 = .ok (.getfield 71, 3) := by decide +kernel
theorem d_Sat_takeGiven_95 : decode b_Sat_takeGiven 95 = .ok (.iconst 1, 1) := by decide +kernel
theorem d_Sat_takeGiven_96 : decode b_Sat_takeGiven 96 = .ok (.iadd, 1) := by decide +kernel
theorem d_Sat_takeGiven_97 : decode b_Sat_takeGiven 97 = .ok (.putfield 71, 3) := by decide +kernel
theorem d_Sat_takeGiven_100 : decode b_Sat_takeGiven 100 = .ok (.iconst (-1), 1) := by decide +kernel
theorem d_Sat_takeGiven_101 : decode b_Sat_takeGiven 101 = .ok (.ireturn, 1) := by decide +kernel
theorem d_Sat_takeGiven_102 : decode b_Sat_takeGiven 102 = .ok (.aload_n 0, 1) := by decide +kernel
theorem d_Sat_takeGiven_103 : decode b_Sat_takeGiven 103 = .ok (.iload_n 1, 1) := by decide +kernel
theorem d_Sat_takeGiven_104 : decode b_Sat_takeGiven 104 = .ok (.invokevirtual 106, 3) := by decide +kernel
theorem d_Sat_takeGiven_107 : decode b_Sat_takeGiven 107 = .ok (.aload_n 0, 1) := by decide +kernel
theorem d_Sat_takeGiven_108 : decode b_Sat_takeGiven 108 = .ok (.getfield 27, 3) := by decide +kernel
theorem d_Sat_takeGiven_111 : decode b_Sat_takeGiven 111 = .ok (.iload_n 1, 1) := by decide +kernel
theorem d_Sat_takeGiven_112 : decode b_Sat_takeGiven 112 = .ok (.bipush 6, 2) := by decide +kernel
theorem d_Sat_takeGiven_114 : decode b_Sat_takeGiven 114 = .ok (.iconst 1, 1) := by decide +kernel
theorem d_Sat_takeGiven_115 : decode b_Sat_takeGiven 115 = .ok (.invokevirtual 87, 3) := by decide +kernel
theorem d_Sat_takeGiven_118 : decode b_Sat_takeGiven 118 = .ok (.aload_n 0, 1) := by decide +kernel
theorem d_Sat_takeGiven_119 : decode b_Sat_takeGiven 119 = .ok (.getfield 27, 3) := by decide +kernel
theorem d_Sat_takeGiven_122 : decode b_Sat_takeGiven 122 = .ok (.iload_n 1, 1) := by decide +kernel
theorem d_Sat_takeGiven_123 : decode b_Sat_takeGiven 123 = .ok (.invokevirtual 109, 3) := by decide +kernel
theorem d_Sat_takeGiven_126 : decode b_Sat_takeGiven 126 = .ok (.iload_n 1, 1) := by decide +kernel
theorem d_Sat_takeGiven_127 : decode b_Sat_takeGiven 127 = .ok (.ireturn, 1) := by decide +kernel
abbrev b_Sat_choose : ByteArray := prog_8_method_4_code
def y_Sat_choose : MethodName := ⟨"ClauseProver$Saturation", "choose", "()I"⟩
theorem d_Sat_choose_0 : decode b_Sat_choose 0 = .ok (.aload_n 0, 1) := by decide +kernel
theorem d_Sat_choose_1 : decode b_Sat_choose 1 = .ok (.getfield 62, 3) := by decide +kernel
theorem d_Sat_choose_4 : decode b_Sat_choose 4 = .ok (.iconst 1, 1) := by decide +kernel
theorem d_Sat_choose_5 : decode b_Sat_choose 5 = .ok (.iadd, 1) := by decide +kernel
theorem d_Sat_choose_6 : decode b_Sat_choose 6 = .ok (.iconst 5, 1) := by decide +kernel
theorem d_Sat_choose_7 : decode b_Sat_choose 7 = .ok (.irem, 1) := by decide +kernel
theorem d_Sat_choose_8 : decode b_Sat_choose 8 = .ok (.ifCond .ne 7, 3) := by decide +kernel
theorem d_Sat_choose_11 : decode b_Sat_choose 11 = .ok (.iconst 1, 1) := by decide +kernel
theorem d_Sat_choose_12 : decode b_Sat_choose 12 = .ok (.goto 4, 3) := by decide +kernel
theorem d_Sat_choose_15 : decode b_Sat_choose 15 = .ok (.iconst 0, 1) := by decide +kernel
theorem d_Sat_choose_16 : decode b_Sat_choose 16 = .ok (.istore_n 1, 1) := by decide +kernel
theorem d_Sat_choose_17 : decode b_Sat_choose 17 = .ok (.iconst (-1), 1) := by decide +kernel
theorem d_Sat_choose_18 : decode b_Sat_choose 18 = .ok (.istore_n 2, 1) := by decide +kernel
theorem d_Sat_choose_19 : decode b_Sat_choose 19 = .ok (.iconst 0, 1) := by decide +kernel
theorem d_Sat_choose_20 : decode b_Sat_choose 20 = .ok (.istore_n 3, 1) := by decide +kernel
theorem d_Sat_choose_21 : decode b_Sat_choose 21 = .ok (.iload_n 3, 1) := by decide +kernel
theorem d_Sat_choose_22 : decode b_Sat_choose 22 = .ok (.aload_n 0, 1) := by decide +kernel
theorem d_Sat_choose_23 : decode b_Sat_choose 23 = .ok (.getfield 27, 3) := by decide +kernel
theorem d_Sat_choose_26 : decode b_Sat_choose 26 = .ok (.getfield 112, 3) := by decide +kernel
theorem d_Sat_choose_29 : decode b_Sat_choose 29 = .ok (.if_icmp .ge 56, 3) := by decide +kernel
theorem d_Sat_choose_32 : decode b_Sat_choose 32 = .ok (.aload_n 0, 1) := by decide +kernel
theorem d_Sat_choose_33 : decode b_Sat_choose 33 = .ok (.getfield 27, 3) := by decide +kernel
theorem d_Sat_choose_36 : decode b_Sat_choose 36 = .ok (.iload_n 3, 1) := by decide +kernel
theorem d_Sat_choose_37 : decode b_Sat_choose 37 = .ok (.bipush 6, 2) := by decide +kernel
theorem d_Sat_choose_39 : decode b_Sat_choose 39 = .ok (.invokevirtual 91, 3) := by decide +kernel
theorem d_Sat_choose_42 : decode b_Sat_choose 42 = .ok (.ifCond .ne 37, 3) := by decide +kernel
theorem d_Sat_choose_45 : decode b_Sat_choose 45 = .ok (.iload_n 1, 1) := by decide +kernel
theorem d_Sat_choose_46 : decode b_Sat_choose 46 = .ok (.ifCond .eq 5, 3) := by decide +kernel
theorem d_Sat_choose_49 : decode b_Sat_choose 49 = .ok (.iload_n 3, 1) := by decide +kernel
theorem d_Sat_choose_50 : decode b_Sat_choose 50 = .ok (.ireturn, 1) := by decide +kernel
theorem d_Sat_choose_51 : decode b_Sat_choose 51 = .ok (.iload_n 2, 1) := by decide +kernel
theorem d_Sat_choose_52 : decode b_Sat_choose 52 = .ok (.iconst (-1), 1) := by decide +kernel
theorem d_Sat_choose_53 : decode b_Sat_choose 53 = .ok (.if_icmp .eq 24, 3) := by decide +kernel
theorem d_Sat_choose_56 : decode b_Sat_choose 56 = .ok (.aload_n 0, 1) := by decide +kernel
theorem d_Sat_choose_57 : decode b_Sat_choose 57 = .ok (.getfield 27, 3) := by decide +kernel
theorem d_Sat_choose_60 : decode b_Sat_choose 60 = .ok (.iload_n 3, 1) := by decide +kernel
theorem d_Sat_choose_61 : decode b_Sat_choose 61 = .ok (.iconst 4, 1) := by decide +kernel
theorem d_Sat_choose_62 : decode b_Sat_choose 62 = .ok (.invokevirtual 91, 3) := by decide +kernel
theorem d_Sat_choose_65 : decode b_Sat_choose 65 = .ok (.aload_n 0, 1) := by decide +kernel
theorem d_Sat_choose_66 : decode b_Sat_choose 66 = .ok (.getfield 27, 3) := by decide +kernel
theorem d_Sat_choose_69 : decode b_Sat_choose 69 = .ok (.iload_n 2, 1) := by decide +kernel
theorem d_Sat_choose_70 : decode b_Sat_choose 70 = .ok (.iconst 4, 1) := by decide +kernel
theorem d_Sat_choose_71 : decode b_Sat_choose 71 = .ok (.invokevirtual 91, 3) := by decide +kernel
theorem d_Sat_choose_74 : decode b_Sat_choose 74 = .ok (.if_icmp .ge 5, 3) := by decide +kernel
theorem d_Sat_choose_77 : decode b_Sat_choose 77 = .ok (.iload_n 3, 1) := by decide +kernel
theorem d_Sat_choose_78 : decode b_Sat_choose 78 = .ok (.istore_n 2, 1) := by decide +kernel
theorem d_Sat_choose_79 : decode b_Sat_choose 79 = .ok (.iinc 3 1, 3) := by decide +kernel
theorem d_Sat_choose_82 : decode b_Sat_choose 82 = .ok (.goto (-61), 3) := by decide +kernel
theorem d_Sat_choose_85 : decode b_Sat_choose 85 = .ok (.iload_n 2, 1) := by decide +kernel
theorem d_Sat_choose_86 : decode b_Sat_choose 86 = .ok (.ireturn, 1) := by decide +kernel
theorem lk_CP_140 : Cond.fieldLink "ClauseProver" 140 (F_Sat 0).1 (F_Sat 0).2.1 (F_Sat 0).2.2.1 ∈ lw_tbg := tb_in (i := 424) (by decide +kernel) rfl
theorem lk_Sat_112 : Cond.fieldLink "ClauseProver$Saturation" 112 (F_Sto 2).1 (F_Sto 2).2.1 (F_Sto 2).2.2.1 ∈ lw_tbg := tb_in (i := 331) (by decide +kernel) rfl
set_option maxHeartbeats 4000000 in
set_option maxRecDepth 100000 in
theorem m74_Sat_choose (l : Launch) (D : va_G) (kA : Nat → ClassId) (a0 : Nat) (a1 : Nat) (b0 : Nat) (b1 : Nat) (b2 : Nat) (b3 : Nat) (b4 : Nat) (b5 : Nat) (b6 : Nat) (b7 : Nat) (b8 : Nat) : ax_Mi l D kA y_Sat_choose b_Sat_choose 4 .int 0 0 0 0 [.ref a0] [(a0, .inr (9, [.int 0, .int 0, .int 0, .int 0, .int 0, .int 0, .int 0, .ref b0, .ref b1, .ref a1, .ref b2, .ref b3, .ref b4, .ref b5])), (a1, .inr (6, [.ref b6, .ref b7, .int 0, .int 0, .ref b1, .ref b8]))] (fun r w1 => r = (-1) ∧ w1 = [(a0, .inr (9, [.int 0, .int 0, .int 0, .int 0, .int 0, .int 0, .int 0, .ref b0, .ref b1, .ref a1, .ref b2, .ref b3, .ref b4, .ref b5])), (a1, .inr (6, [.ref b6, .ref b7, .int 0, .int 0, .ref b1, .ref b8]))]) := by
  refine ax_Mi.of (by decide +kernel) (Nat.le_of_ble_eq_true rfl) ?_
  intro p e s m args below meth c C hnm
  refine ax_ls ([(0, .ref a0)]) [0] rfl ?_
  refine ax_aload_n (pc := 0) C d_Sat_choose_0 rfl 0 rfl ?_
  refine ax_get (pc := 1) C k_Sat 1 lk_Sat_62 d_Sat_choose_1 (Nat.le_of_ble_eq_true rfl) 0 rfl rfl ?_
  refine ax_iconst (pc := 4) C 1 d_Sat_choose_4 (by decide +kernel) ?_
  refine ax_iadd (pc := 5) C d_Sat_choose_5 ?_
  refine ax_nrm 1 (by decide) ?_
  refine ax_iconst (pc := 6) C 5 d_Sat_choose_6 (by decide +kernel) ?_
  refine ax_irem (pc := 7) C d_Sat_choose_7 (by decide) ?_
  refine ax_nrm 1 (by decide) ?_
  refine ax_if_ne (pc := 8) C 15 d_Sat_choose_8 (by decide) (fun _ => ?_) (fun h => absurd h (by decide))
  refine ax_iconst (pc := 15) C 0 d_Sat_choose_15 (by decide +kernel) ?_
  refine ax_istore_n (pc := 16) C d_Sat_choose_16 rfl (Nat.le_of_ble_eq_true rfl) ([(1, .int 0), (0, .ref a0)]) rfl ?_
  refine ax_iconst (pc := 17) C (-1) d_Sat_choose_17 (by decide +kernel) ?_
  refine ax_istore_n (pc := 18) C d_Sat_choose_18 rfl (Nat.le_of_ble_eq_true rfl) ([(2, .int (-1)), (1, .int 0), (0, .ref a0)]) rfl ?_
  refine ax_iconst (pc := 19) C 0 d_Sat_choose_19 (by decide +kernel) ?_
  refine ax_istore_n (pc := 20) C d_Sat_choose_20 rfl (Nat.le_of_ble_eq_true rfl) ([(3, .int 0), (2, .int (-1)), (1, .int 0), (0, .ref a0)]) rfl ?_
  refine ax_iload_n (pc := 21) C d_Sat_choose_21 rfl 0 rfl ?_
  refine ax_aload_n (pc := 22) C d_Sat_choose_22 rfl 3 rfl ?_
  refine ax_get (pc := 23) C k_Sat 9 lk_Sat_27 d_Sat_choose_23 (Nat.le_of_ble_eq_true rfl) 0 rfl rfl ?_
  refine ax_get (pc := 26) C k_Sto 2 lk_Sat_112 d_Sat_choose_26 (Nat.le_of_ble_eq_true rfl) 1 rfl rfl ?_
  refine ax_icmp_ge (pc := 29) C 85 d_Sat_choose_29 (by decide) (fun _ => ?_) (fun h => absurd h (by decide))
  refine ax_iload_n (pc := 85) C d_Sat_choose_85 rfl 1 rfl ?_
  exact ax_iret (pc := 86) C d_Sat_choose_86 ⟨rfl, rfl⟩ (by decide) (by decide)
theorem tc_Sat_choose : Cond.code y_Sat_choose b_Sat_choose 4 (some (.int)) ∈ lw_tbg := tb_in (i := 1015) (by decide +kernel) rfl
theorem ml_Sat_83 : ax_LV "ClauseProver$Saturation" 83 y_Sat_choose b_Sat_choose 4 (some (.int)) 0 := ax_LV.mk (tb_in (i := 1012) (by decide +kernel) rfl) (tb_in (i := 1014) (by decide +kernel) rfl) (pv_in (i := 46) (by decide +kernel) rfl) ti_Sat tc_Sat_choose (by decide +kernel)
set_option maxHeartbeats 4000000 in
set_option maxRecDepth 100000 in
theorem m73_Sat_takeGiven (l : Launch) (D : va_G) (kA : Nat → ClassId) (a0 : Nat) (a1 : Nat) (b0 : Nat) (b1 : Nat) (b2 : Nat) (b3 : Nat) (b4 : Nat) (b5 : Nat) (b6 : Nat) (b7 : Nat) (b8 : Nat) : ax_Mi l D kA y_Sat_takeGiven b_Sat_takeGiven 2 .int 1 23 0 0 [.ref a0] [(a0, .inr (9, [.int 0, .int 0, .int 0, .int 0, .int 0, .int 0, .int 0, .ref b0, .ref b1, .ref a1, .ref b2, .ref b3, .ref b4, .ref b5])), (a1, .inr (6, [.ref b6, .ref b7, .int 0, .int 0, .ref b1, .ref b8]))] (fun r w1 => r = (-1) ∧ w1 = [(a0, .inr (9, [.int 2, .int 0, .int 0, .int 0, .int 0, .int 0, .int 0, .ref b0, .ref b1, .ref a1, .ref b2, .ref b3, .ref b4, .ref b5])), (a1, .inr (6, [.ref b6, .ref b7, .int 0, .int 0, .ref b1, .ref b8]))]) := by
  refine ax_Mi.of (by decide +kernel) (Nat.le_of_ble_eq_true rfl) ?_
  intro p e s m args below meth c C hnm
  refine ax_ls ([(0, .ref a0)]) [0] rfl ?_
  refine ax_aload_n (pc := 0) C d_Sat_takeGiven_0 rfl 0 rfl ?_
  refine ax_callVi (pc := 1) C (As := []) (rest := []) (wr := []) (m74_Sat_choose l D kA a0 a1 b0 b1 b2 b3 b4 b5 b6 b7 b8) ml_Sat_83 0 rfl rfl rfl d_Sat_takeGiven_1 rfl rfl [0, 1] [] rfl (by decide) rfl (by decide) (by decide) (Nat.le_of_ble_eq_true rfl) (Nat.le_of_ble_eq_true rfl) (Nat.le_of_ble_eq_true rfl) (Nat.le_of_ble_eq_true rfl) (Nat.le_of_ble_eq_true rfl) (fun r1 w1 hw1 => ?_)
  obtain ⟨rfl, rfl⟩ := hw1
  refine ax_w ([(a0, .inr (9, [.int 0, .int 0, .int 0, .int 0, .int 0, .int 0, .int 0, .ref b0, .ref b1, .ref a1, .ref b2, .ref b3, .ref b4, .ref b5])), (a1, .inr (6, [.ref b6, .ref b7, .int 0, .int 0, .ref b1, .ref b8]))]) rfl ?_
  refine ax_istore_n (pc := 4) C d_Sat_takeGiven_4 rfl (Nat.le_of_ble_eq_true rfl) ([(1, .int (-1)), (0, .ref a0)]) rfl ?_
  refine ax_iload_n (pc := 5) C d_Sat_takeGiven_5 rfl 0 rfl ?_
  refine ax_iconst (pc := 6) C (-1) d_Sat_takeGiven_6 (by decide +kernel) ?_
  refine ax_icmp_ne (pc := 7) C 17 d_Sat_takeGiven_7 (by decide) (fun h => absurd h (by decide)) (fun _ => ?_)
  refine ax_aload_n (pc := 10) C d_Sat_takeGiven_10 rfl 1 rfl ?_
  refine ax_iconst (pc := 11) C 2 d_Sat_takeGiven_11 (by decide +kernel) ?_
  refine ax_put (pc := 12) C k_Sat 0 lk_Sat_58 d_Sat_takeGiven_12 (Nat.le_of_ble_eq_true rfl) 0 rfl rfl rfl rfl (Nat.le_of_ble_eq_true rfl) ?_
  refine ax_w ([(a0, .inr (9, [.int 2, .int 0, .int 0, .int 0, .int 0, .int 0, .int 0, .ref b0, .ref b1, .ref a1, .ref b2, .ref b3, .ref b4, .ref b5])), (a1, .inr (6, [.ref b6, .ref b7, .int 0, .int 0, .ref b1, .ref b8]))]) rfl ?_
  refine ax_iconst (pc := 15) C (-1) d_Sat_takeGiven_15 (by decide +kernel) ?_
  exact ax_iret (pc := 16) C d_Sat_takeGiven_16 ⟨rfl, rfl⟩ (by decide) (by decide)
theorem tc_Sat_takeGiven : Cond.code y_Sat_takeGiven b_Sat_takeGiven 2 (some (.int)) ∈ lw_tbg := tb_in (i := 1011) (by decide +kernel) rfl
theorem ml_CP_143 : ax_LV "ClauseProver" 143 y_Sat_takeGiven b_Sat_takeGiven 2 (some (.int)) 0 := ax_LV.mk (tb_in (i := 1008) (by decide +kernel) rfl) (tb_in (i := 1009) (by decide +kernel) rfl) (tb_in (i := 1010) (by decide +kernel) rfl) ti_Sat tc_Sat_takeGiven (by decide +kernel)
set_option maxHeartbeats 4000000 in
set_option maxRecDepth 100000 in
theorem m72_CP_run (l : Launch) (D : va_G) (kA : Nat → ClassId) (a0 : Nat) (a1 : Nat) (a2 : Nat) (b0 : Nat) (b1 : Nat) (b2 : Nat) (b3 : Nat) (b4 : Nat) (b5 : Nat) (b6 : Nat) (b7 : Nat) (b8 : Nat) (b9 : Nat) (b10 : Nat) (b11 : Nat) (b12 : Nat) (b13 : Nat) (b14 : Nat) (i0 : Int32) (h0 : i0 ≤ 100) (h1 : ¬ i0 < 1) (h2 : ¬ i0 ≤ 0) : ax_Mi l D kA y_CP_run b_CP_run 4 .int 2 44 0 0 [.ref a0, .int i0] [(a0, .inr (11, [.ref b0, .ref b1, .ref b2, .ref b3, .ref b4, .ref b5, .ref b6, .ref a2, .ref a1, .ref b7, .int 0, .int 0])), (a1, .inr (9, [.int 0, .int 0, .int 0, .int 0, .int 0, .int 0, .int 0, .ref b8, .ref b3, .ref a2, .ref b6, .ref b9, .ref b10, .ref b11])), (a2, .inr (6, [.ref b12, .ref b13, .int 0, .int 0, .ref b3, .ref b14]))] (fun r w1 => r = 2 ∧ w1 = [(a0, .inr (11, [.ref b0, .ref b1, .ref b2, .ref b3, .ref b4, .ref b5, .ref b6, .ref a2, .ref a1, .ref b7, .int 0, .int 0])), (a1, .inr (9, [.int 2, .int 0, .int 0, .int 0, .int 0, .int 0, .int 0, .ref b8, .ref b3, .ref a2, .ref b6, .ref b9, .ref b10, .ref b11])), (a2, .inr (6, [.ref b12, .ref b13, .int 0, .int 0, .ref b3, .ref b14]))]) := by
  refine ax_Mi.of (by decide +kernel) (Nat.le_of_ble_eq_true rfl) ?_
  intro p e s m args below meth c C hnm
  refine ax_ls ([(0, .ref a0), (1, .int i0)]) [0, 1] rfl ?_
  refine ax_iload_n (pc := 0) C d_CP_run_0 rfl 1 rfl ?_
  refine ax_iconst (pc := 1) C 1 d_CP_run_1 (by decide +kernel) ?_
  refine ax_icmp_lt (pc := 2) C 11 d_CP_run_2 (by decide) (fun h => absurd h h1) (fun _ => ?_)
  refine ax_iload_n (pc := 5) C d_CP_run_5 rfl 1 rfl ?_
  refine ax_bipush (pc := 6) C 100 d_CP_run_6 (by decide +kernel) ?_
  refine ax_icmp_le (pc := 8) C 21 d_CP_run_8 (by decide) (fun _ => ?_) (fun h => absurd h0 h)
  refine ax_iconst (pc := 21) C 0 d_CP_run_21 (by decide +kernel) ?_
  refine ax_istore_n (pc := 22) C d_CP_run_22 rfl (Nat.le_of_ble_eq_true rfl) ([(2, .int 0), (0, .ref a0), (1, .int i0)]) rfl ?_
  refine ax_iload_n (pc := 23) C d_CP_run_23 rfl 0 rfl ?_
  refine ax_iload_n (pc := 24) C d_CP_run_24 rfl 2 rfl ?_
  refine ax_icmp_ge (pc := 25) C 65 d_CP_run_25 (by decide) (fun h => absurd h h2) (fun _ => ?_)
  refine ax_aload_n (pc := 28) C d_CP_run_28 rfl 1 rfl ?_
  refine ax_get (pc := 29) C k_CP 8 lk_CP_69 d_CP_run_29 (Nat.le_of_ble_eq_true rfl) 0 rfl rfl ?_
  refine ax_get (pc := 32) C k_Sat 0 lk_CP_140 d_CP_run_32 (Nat.le_of_ble_eq_true rfl) 1 rfl rfl ?_
  refine ax_if_ne (pc := 35) C 65 d_CP_run_35 (by decide) (fun h => absurd h (by decide)) (fun _ => ?_)
  refine ax_aload_n (pc := 38) C d_CP_run_38 rfl 1 rfl ?_
  refine ax_get (pc := 39) C k_CP 8 lk_CP_69 d_CP_run_39 (Nat.le_of_ble_eq_true rfl) 0 rfl rfl ?_
  refine ax_callVi (pc := 42) C (As := []) (rest := []) (wr := [(a0, .inr (11, [.ref b0, .ref b1, .ref b2, .ref b3, .ref b4, .ref b5, .ref b6, .ref a2, .ref a1, .ref b7, .int 0, .int 0]))]) (m73_Sat_takeGiven l D kA a1 a2 b8 b3 b6 b9 b10 b11 b12 b13 b14) ml_CP_143 1 rfl rfl rfl d_CP_run_42 rfl rfl [1, 2] [0] rfl (by decide) rfl (by decide) (by decide) (Nat.le_of_ble_eq_true rfl) (Nat.le_of_ble_eq_true rfl) (Nat.le_of_ble_eq_true rfl) (Nat.le_of_ble_eq_true rfl) (Nat.le_of_ble_eq_true rfl) (fun r42 w1 hw1 => ?_)
  obtain ⟨rfl, rfl⟩ := hw1
  refine ax_w ([(a0, .inr (11, [.ref b0, .ref b1, .ref b2, .ref b3, .ref b4, .ref b5, .ref b6, .ref a2, .ref a1, .ref b7, .int 0, .int 0])), (a1, .inr (9, [.int 2, .int 0, .int 0, .int 0, .int 0, .int 0, .int 0, .ref b8, .ref b3, .ref a2, .ref b6, .ref b9, .ref b10, .ref b11])), (a2, .inr (6, [.ref b12, .ref b13, .int 0, .int 0, .ref b3, .ref b14]))]) rfl ?_
  refine ax_istore_n (pc := 45) C d_CP_run_45 rfl (Nat.le_of_ble_eq_true rfl) ([(3, .int (-1)), (2, .int 0), (0, .ref a0), (1, .int i0)]) rfl ?_
  refine ax_iload_n (pc := 46) C d_CP_run_46 rfl 0 rfl ?_
  refine ax_iconst (pc := 47) C (-1) d_CP_run_47 (by decide +kernel) ?_
  refine ax_icmp_eq (pc := 48) C 59 d_CP_run_48 (by decide) (fun _ => ?_) (fun h => absurd h (by decide))
  refine ax_iinc (pc := 59) C (1) d_CP_run_59 1 rfl (by decide) (Nat.le_of_ble_eq_true rfl) ([(2, .int 1), (3, .int (-1)), (0, .ref a0), (1, .int i0)]) rfl ?_
  refine ax_goto (pc := 62) C 23 d_CP_run_62 (by decide) ?_
  refine ax_iload_n (pc := 23) C d_CP_run_23 rfl 0 rfl ?_
  refine ax_iload_n (pc := 24) C d_CP_run_24 rfl 3 rfl ?_
  refine ax_icmp_ge (pc := 25) C 65 d_CP_run_25 (by decide) (fun hc25_1 => ?_) (fun hc25_1 => ?_)
  · refine ax_aload_n (pc := 65) C d_CP_run_65 rfl 2 rfl ?_
    refine ax_get (pc := 66) C k_CP 8 lk_CP_69 d_CP_run_66 (Nat.le_of_ble_eq_true rfl) 0 rfl rfl ?_
    refine ax_get (pc := 69) C k_Sat 0 lk_CP_140 d_CP_run_69 (Nat.le_of_ble_eq_true rfl) 1 rfl rfl ?_
    exact ax_iret (pc := 72) C d_CP_run_72 ⟨rfl, rfl⟩ (by decide) (by decide)
  · refine ax_aload_n (pc := 28) C d_CP_run_28 rfl 2 rfl ?_
    refine ax_get (pc := 29) C k_CP 8 lk_CP_69 d_CP_run_29 (Nat.le_of_ble_eq_true rfl) 0 rfl rfl ?_
    refine ax_get (pc := 32) C k_Sat 0 lk_CP_140 d_CP_run_32 (Nat.le_of_ble_eq_true rfl) 1 rfl rfl ?_
    refine ax_if_ne (pc := 35) C 65 d_CP_run_35 (by decide) (fun _ => ?_) (fun h => absurd h (by decide))
    refine ax_aload_n (pc := 65) C d_CP_run_65 rfl 2 rfl ?_
    refine ax_get (pc := 66) C k_CP 8 lk_CP_69 d_CP_run_66 (Nat.le_of_ble_eq_true rfl) 0 rfl rfl ?_
    refine ax_get (pc := 69) C k_Sat 0 lk_CP_140 d_CP_run_69 (Nat.le_of_ble_eq_true rfl) 1 rfl rfl ?_
    exact ax_iret (pc := 72) C d_CP_run_72 ⟨rfl, rfl⟩ (by decide) (by decide)
set_option maxHeartbeats 4000000 in
set_option maxRecDepth 100000 in
theorem m71_Law_run (l : Launch) (D : va_G) (kA : Nat → ClassId) (a0 : Nat) (a1 : Nat) (a2 : Nat) (a3 : Nat) (b0 : Nat) (b1 : Nat) (b2 : Nat) (b3 : Nat) (b4 : Nat) (b5 : Nat) (b6 : Nat) (b7 : Nat) (b8 : Nat) (b9 : Nat) (b10 : Nat) (b11 : Nat) (b12 : Nat) (b13 : Nat) (b14 : Nat) (i0 : Int32) (h0 : i0 ≤ 100) (h1 : ¬ i0 < 1) (h2 : ¬ i0 ≤ 0) : ax_Mw l D kA y_Law_run b_Law_run 4 [(0, 9, 12, 19)] 3 67 0 0 [.ref a0, .int i0, .ref a3] [(a0, .inr (11, [.ref b0, .ref b1, .ref b2, .ref b3, .ref b4, .ref b5, .ref b6, .ref a2, .ref a1, .ref b7, .int 0, .int 0])), (a1, .inr (9, [.int 0, .int 0, .int 0, .int 0, .int 0, .int 0, .int 0, .ref b8, .ref b3, .ref a2, .ref b6, .ref b9, .ref b10, .ref b11])), (a2, .inr (6, [.ref b12, .ref b13, .int 0, .int 0, .ref b3, .ref b14])), (a3, .inl (kA 3, 1, .inr (.inl (fun _ => 0))))] (fun r w1 => r = 0 ∧ w1 = [(a3, .inl (kA 3, 1, .inr (.inl (vp_updL (fun _ => 0) (Int32.toNatClampNeg 0) (Int32.toInt64 2))))), (a0, .inr (11, [.ref b0, .ref b1, .ref b2, .ref b3, .ref b4, .ref b5, .ref b6, .ref a2, .ref a1, .ref b7, .int 0, .int 0])), (a1, .inr (9, [.int 2, .int 0, .int 0, .int 0, .int 0, .int 0, .int 0, .ref b8, .ref b3, .ref a2, .ref b6, .ref b9, .ref b10, .ref b11])), (a2, .inr (6, [.ref b12, .ref b13, .int 0, .int 0, .ref b3, .ref b14]))]) := by
  refine ax_Mw.of (by decide +kernel) (Nat.le_of_ble_eq_true rfl) ?_
  intro p e s m args below meth c C hadm hmeth hcode htb hX
  refine ax_ls ([(0, .ref a0), (1, .int i0), (2, .ref a3)]) [0, 1, 2] rfl ?_
  refine ax_aload_n (pc := 0) C d_Law_run_0 rfl 2 rfl ?_
  refine ax_iconst (pc := 1) C 0 d_Law_run_1 (by decide +kernel) ?_
  refine ax_aload_n (pc := 2) C d_Law_run_2 rfl 0 rfl ?_
  refine ax_iload_n (pc := 3) C d_Law_run_3 rfl 1 rfl ?_
  refine ax_callVi (pc := 4) C (As := [.int i0]) (rest := [.int 0, .ref a3]) (wr := [(a3, .inl (kA 3, 1, .inr (.inl (fun _ => 0))))]) (m72_CP_run l D kA a0 a1 a2 b0 b1 b2 b3 b4 b5 b6 b7 b8 b9 b10 b11 b12 b13 b14 i0 h0 h1 h2) ml_Law_21 0 rfl rfl rfl d_Law_run_4 rfl rfl [0, 1, 2] [3] rfl (by decide) rfl (by decide) (by decide) (Nat.le_of_ble_eq_true rfl) (Nat.le_of_ble_eq_true rfl) (Nat.le_of_ble_eq_true rfl) (Nat.le_of_ble_eq_true rfl) (Nat.le_of_ble_eq_true rfl) (fun r4 w1 hw1 => ?_)
  obtain ⟨rfl, rfl⟩ := hw1
  refine ax_w ([(a3, .inl (kA 3, 1, .inr (.inl (fun _ => 0)))), (a0, .inr (11, [.ref b0, .ref b1, .ref b2, .ref b3, .ref b4, .ref b5, .ref b6, .ref a2, .ref a1, .ref b7, .int 0, .int 0])), (a1, .inr (9, [.int 2, .int 0, .int 0, .int 0, .int 0, .int 0, .int 0, .ref b8, .ref b3, .ref a2, .ref b6, .ref b9, .ref b10, .ref b11])), (a2, .inr (6, [.ref b12, .ref b13, .int 0, .int 0, .ref b3, .ref b14]))]) rfl ?_
  refine ax_i2l (pc := 7) C (Int32.toInt64 2) d_Law_run_7 rfl ?_
  refine ax_last (pc := 8) C 0 rfl d_Law_run_8 (by unfold vp_in; decide) ?_
  refine ax_w ([(a3, .inl (kA 3, 1, .inr (.inl (vp_updL (fun _ => 0) (Int32.toNatClampNeg 0) (Int32.toInt64 2))))), (a0, .inr (11, [.ref b0, .ref b1, .ref b2, .ref b3, .ref b4, .ref b5, .ref b6, .ref a2, .ref a1, .ref b7, .int 0, .int 0])), (a1, .inr (9, [.int 2, .int 0, .int 0, .int 0, .int 0, .int 0, .int 0, .ref b8, .ref b3, .ref a2, .ref b6, .ref b9, .ref b10, .ref b11])), (a2, .inr (6, [.ref b12, .ref b13, .int 0, .int 0, .ref b3, .ref b14]))]) rfl ?_
  refine ax_goto (pc := 9) C 15 d_Law_run_9 (by decide) ?_
  refine ax_iconst (pc := 15) C 0 d_Law_run_15 (by decide +kernel) ?_
  exact ax_iret (pc := 16) C d_Law_run_16 ⟨rfl, rfl⟩ (by decide) (by decide)
abbrev b_MM_step1 : ByteArray := prog_14_method_103_code
def y_MM_step1 : MethodName := ⟨"ClauseProverModel", "step", "()V"⟩
theorem d_MM_step1_0 : decode b_MM_step1 0 = .ok (.aload_n 0, 1) := by decide +kernel
theorem d_MM_step1_1 : decode b_MM_step1 1 = .ok (.invokevirtual 715, 3) := by decide +kernel
theorem d_MM_step1_4 : decode b_MM_step1 4 = .ok (.istore_n 1, 1) := by decide +kernel
theorem d_MM_step1_5 : decode b_MM_step1 5 = .ok (.iload_n 1, 1) := by decide +kernel
theorem d_MM_step1_6 : decode b_MM_step1 6 = .ok (.ifCond .ge 9, 3) := by decide +kernel
theorem d_MM_step1_9 : decode b_MM_step1 9 = .ok (.aload_n 0, 1) := by decide +kernel
theorem d_MM_step1_10 : decode b_MM_step1 10 = .ok (.iconst 2, 1) := by decide +kernel
theorem d_MM_step1_11 : decode b_MM_step1 11 = .ok (.putfield 278, 3) := by decide +kernel
theorem d_MM_step1_14 : decode b_MM_step1 14 = .ok (.return_, 1) := by decide +kernel
theorem d_MM_step1_15 : decode b_MM_step1 15 = .ok (.aload_n 0, 1) := by decide +kernel
theorem d_MM_step1_16 : decode b_MM_step1 16 = .ok (.dup, 1) := by decide +kernel
theorem d_MM_step1_17 : decode b_MM_step1 17 = .ok (.getfield 284, 3) := by decide +kernel
theorem d_MM_step1_20 : decode b_MM_step1 20 = .ok (.iconst 1, 1) := by decide +kernel
theorem d_MM_step1_21 : decode b_MM_step1 21 = .ok (.iadd, 1) := by decide +kernel
theorem d_MM_step1_22 : decode b_MM_step1 22 = .ok (.putfield 284, 3) := by decide +kernel
theorem d_MM_step1_25 : decode b_MM_step1 25 = .ok (.aload_n 0, 1) := by decide +kernel
theorem d_MM_step1_26 : decode b_MM_step1 26 = .ok (.getfield 256, 3) := by decide +kernel
theorem d_MM_step1_29 : decode b_MM_step1 29 = .ok (.iload_n 1, 1) := by decide +kernel
theorem d_MM_step1_30 : decode b_MM_step1 30 = .ok (.iconst 2, 1) := by decide +kernel
theorem d_MM_step1_31 : decode b_MM_step1 31 = .ok (.iastore, 1) := by decide +kernel
theorem d_MM_step1_32 : decode b_MM_step1 32 = .ok (.aload_n 0, 1) := by decide +kernel
theorem d_MM_step1_33 : decode b_MM_step1 33 = .ok (.getfield 238, 3) := by decide +kernel
theorem d_MM_step1_36 : decode b_MM_step1 36 = .ok (.iload_n 1, 1) := by decide +kernel
theorem d_MM_step1_37 : decode b_MM_step1 37 = .ok (.iaload, 1) := by decide +kernel
theorem d_MM_step1_38 : decode b_MM_step1 38 = .ok (.ifCond .ne 9, 3) := by decide +kernel
theorem d_MM_step1_41 : decode b_MM_step1 41 = .ok (.aload_n 0, 1) := by decide +kernel
theorem d_MM_step1_42 : decode b_MM_step1 42 = .ok (.iload_n 1, 1) := by decide +kernel
theorem d_MM_step1_43 : decode b_MM_step1 43 = .ok (.invokevirtual 718, 3) := by decide +kernel
theorem d_MM_step1_46 : decode b_MM_step1 46 = .ok (.return_, 1) := by decide +kernel
theorem d_MM_step1_47 : decode b_MM_step1 47 = .ok (.aload_n 0, 1) := by decide +kernel
theorem d_MM_step1_48 : decode b_MM_step1 48 = .ok (.iload_n 1, 1) := by decide +kernel
theorem d_MM_step1_49 : decode b_MM_step1 49 = .ok (.invokevirtual 721, 3) := by decide +kernel
theorem d_MM_step1_52 : decode b_MM_step1 52 = .ok (.istore_n 2, 1) := by decide +kernel
theorem d_MM_step1_53 : decode b_MM_step1 53 = .ok (.iload_n 2, 1) := by decide +kernel
theorem d_MM_step1_54 : decode b_MM_step1 54 = .ok (.ifCond .le 138, 3) := by decide +kernel
theorem d_MM_step1_57 : decode b_MM_step1 57 = .ok (.aload_n 0, 1) := by decide +kernel
theorem d_MM_step1_58 : decode b_MM_step1 58 = .ok (.dup, 1) := by decide +kernel
theorem d_MM_step1_59 : decode b_MM_step1 59 = .ok (.getfield 296, 3) := by decide +kernel
theorem d_MM_step1_62 : decode b_MM_step1 62 = .ok (.iload_n 2, 1) := by decide +kernel
theorem d_MM_step1_63 : decode b_MM_step1 63 = .ok (.iadd, 1) := by decide +kernel
theorem d_MM_step1_64 : decode b_MM_step1 64 = .ok (.putfield 296, 3) := by decide +kernel
theorem d_MM_step1_67 : decode b_MM_step1 67 = .ok (.aload_n 0, 1) := by decide +kernel
theorem d_MM_step1_68 : decode b_MM_step1 68 = .ok (.invokevirtual 641, 3) := by decide +kernel
theorem d_MM_step1_71 : decode b_MM_step1 71 = .ok (.aload_n 0, 1) := by decide +kernel
theorem d_MM_step1_72 : decode b_MM_step1 72 = .ok (.invokevirtual 644, 3) := by decide +kernel
theorem d_MM_step1_75 : decode b_MM_step1 75 = .ok (.ifCond .eq 14, 3) := by decide +kernel
theorem d_MM_step1_78 : decode b_MM_step1 78 = .ok (.aload_n 0, 1) := by decide +kernel
theorem d_MM_step1_79 : decode b_MM_step1 79 = .ok (.dup, 1) := by decide +kernel
theorem d_MM_step1_80 : decode b_MM_step1 80 = .ok (.getfield 299, 3) := by decide +kernel
theorem d_MM_step1_83 : decode b_MM_step1 83 = .ok (.iconst 1, 1) := by decide +kernel
theorem d_MM_step1_84 : decode b_MM_step1 84 = .ok (.iadd, 1) := by decide +kernel
theorem d_MM_step1_85 : decode b_MM_step1 85 = .ok (.putfield 299, 3) := by decide +kernel
theorem d_MM_step1_88 : decode b_MM_step1 88 = .ok (.return_, 1) := by decide +kernel
theorem d_MM_step1_89 : decode b_MM_step1 89 = .ok (.aload_n 0, 1) := by decide +kernel
theorem d_MM_step1_90 : decode b_MM_step1 90 = .ok (.iconst 4, 1) := by decide +kernel
theorem d_MM_step1_91 : decode b_MM_step1 91 = .ok (.iload_n 1, 1) := by decide +kernel
theorem d_MM_step1_92 : decode b_MM_step1 92 = .ok (.iconst (-1), 1) := by decide +kernel
theorem d_MM_step1_93 : decode b_MM_step1 93 = .ok (.invokevirtual 648, 3) := by decide +kernel
theorem d_MM_step1_96 : decode b_MM_step1 96 = .ok (.ifCond .ne 4, 3) := by decide +kernel
theorem d_MM_step1_99 : decode b_MM_step1 99 = .ok (.return_, 1) := by decide +kernel
theorem d_MM_step1_100 : decode b_MM_step1 100 = .ok (.iload_n 1, 1) := by decide +kernel
theorem d_MM_step1_101 : decode b_MM_step1 101 = .ok (.istore_n 3, 1) := by decide +kernel
theorem d_MM_step1_102 : decode b_MM_step1 102 = .ok (.aload_n 0, 1) := by decide +kernel
theorem d_MM_step1_103 : decode b_MM_step1 103 = .ok (.getfield 269, 3) := by decide +kernel
theorem d_MM_step1_106 : decode b_MM_step1 106 = .ok (.iconst 1, 1) := by decide +kernel
theorem d_MM_step1_107 : decode b_MM_step1 107 = .ok (.isub, 1) := by decide +kernel
theorem d_MM_step1_108 : decode b_MM_step1 108 = .ok (.istore_n 1, 1) := by decide +kernel
theorem d_MM_step1_109 : decode b_MM_step1 109 = .ok (.aload_n 0, 1) := by decide +kernel
theorem d_MM_step1_110 : decode b_MM_step1 110 = .ok (.getfield 256, 3) := by decide +kernel
theorem d_MM_step1_113 : decode b_MM_step1 113 = .ok (.iload_n 1, 1) := by decide +kernel
theorem d_MM_step1_114 : decode b_MM_step1 114 = .ok (.iconst 2, 1) := by decide +kernel
theorem d_MM_step1_115 : decode b_MM_step1 115 = .ok (.iastore, 1) := by decide +kernel
theorem d_MM_step1_116 : decode b_MM_step1 116 = .ok (.aload_n 0, 1) := by decide +kernel
theorem d_MM_step1_117 : decode b_MM_step1 117 = .ok (.getfield 259, 3) := by decide +kernel
theorem d_MM_step1_120 : decode b_MM_step1 120 = .ok (.iload_n 1, 1) := by decide +kernel
theorem d_MM_step1_121 : decode b_MM_step1 121 = .ok (.aload_n 0, 1) := by decide +kernel
theorem d_MM_step1_122 : decode b_MM_step1 122 = .ok (.getfield 275, 3) := by decide +kernel
theorem d_MM_step1_125 : decode b_MM_step1 125 = .ok (.iastore, 1) := by decide +kernel
theorem d_MM_step1_126 : decode b_MM_step1 126 = .ok (.aload_n 0, 1) := by decide +kernel
theorem d_MM_step1_127 : decode b_MM_step1 127 = .ok (.getfield 262, 3) := by decide +kernel
theorem d_MM_step1_130 : decode b_MM_step1 130 = .ok (.iload_n 1, 1) := by decide +kernel
theorem d_MM_step1_131 : decode b_MM_step1 131 = .ok (.aload_n 0, 1) := by decide +kernel
theorem d_MM_step1_132 : decode b_MM_step1 132 = .ok (.getfield 377, 3) := by decide +kernel
theorem d_MM_step1_135 : decode b_MM_step1 135 = .ok (.iastore, 1) := by decide +kernel
theorem d_MM_step1_136 : decode b_MM_step1 136 = .ok (.iconst 0, 1) := by decide +kernel
theorem d_MM_step1_137 : decode b_MM_step1 137 = .ok (.istore 4, 2) := by decide +kernel
theorem d_MM_step1_139 : decode b_MM_step1 139 = .ok (.iload 4, 2) := by decide +kernel
theorem d_MM_step1_141 : decode b_MM_step1 141 = .ok (.aload_n 0, 1) := by decide +kernel
theorem d_MM_step1_142 : decode b_MM_step1 142 = .ok (.getfield 377, 3) := by decide +kernel
theorem d_MM_step1_145 : decode b_MM_step1 145 = .ok (.if_icmp .ge 32, 3) := by decide +kernel
theorem d_MM_step1_148 : decode b_MM_step1 148 = .ok (.aload_n 0, 1) := by decide +kernel
theorem d_MM_step1_149 : decode b_MM_step1 149 = .ok (.getfield 266, 3) := by decide +kernel
theorem d_MM_step1_152 : decode b_MM_step1 152 = .ok (.aload_n 0, 1) := by decide +kernel
theorem d_MM_step1_153 : decode b_MM_step1 153 = .ok (.dup, 1) := by decide +kernel
theorem d_MM_step1_154 : decode b_MM_step1 154 = .ok (.getfield 275, 3) := by decide +kernel
theorem d_MM_step1_157 : decode b_MM_step1 157 = .ok (.dup_x1, 1) := by decide +kernel
theorem d_MM_step1_158 : decode b_MM_step1 158 = .ok (.iconst 1, 1) := by decide +kernel
theorem d_MM_step1_159 : decode b_MM_step1 159 = .ok (.iadd, 1) := by decide +kernel
theorem d_MM_step1_160 : decode b_MM_step1 160 = .ok (.putfield 275, 3) := by decide +kernel
theorem d_MM_step1_163 : decode b_MM_step1 163 = .ok (.aload_n 0, 1) := by decide +kernel
theorem d_MM_step1_164 : decode b_MM_step1 164 = .ok (.getfield 374, 3) := by decide +kernel
theorem d_MM_step1_167 : decode b_MM_step1 167 = .ok (.iload 4, 2) := by decide +kernel
theorem d_MM_step1_169 : decode b_MM_step1 169 = .ok (.iaload, 1) := by decide +kernel
theorem d_MM_step1_170 : decode b_MM_step1 170 = .ok (.iastore, 1) := by decide +kernel
theorem d_MM_step1_171 : decode b_MM_step1 171 = .ok (.iinc 4 1, 3) := by decide +kernel
theorem d_MM_step1_174 : decode b_MM_step1 174 = .ok (.goto (-35), 3) := by decide +kernel
theorem d_MM_step1_177 : decode b_MM_step1 177 = .ok (.aload_n 0, 1) := by decide +kernel
theorem d_MM_step1_178 : decode b_MM_step1 178 = .ok (.getfield 238, 3) := by decide +kernel
theorem d_MM_step1_181 : decode b_MM_step1 181 = .ok (.iload_n 1, 1) := by decide +kernel
theorem d_MM_step1_182 : decode b_MM_step1 182 = .ok (.iaload, 1) := by decide +kernel
theorem d_MM_step1_183 : decode b_MM_step1 183 = .ok (.ifCond .ne 9, 3) := by decide +kernel
theorem d_MM_step1_186 : decode b_MM_step1 186 = .ok (.aload_n 0, 1) := by decide +kernel
theorem d_MM_step1_187 : decode b_MM_step1 187 = .ok (.iload_n 1, 1) := by decide +kernel
theorem d_MM_step1_188 : decode b_MM_step1 188 = .ok (.invokevirtual 718, 3) := by decide +kernel
theorem d_MM_step1_191 : decode b_MM_step1 191 = .ok (.return_, 1) := by decide +kernel
theorem d_MM_step1_192 : decode b_MM_step1 192 = .ok (.iconst 0, 1) := by decide +kernel
theorem d_MM_step1_193 : decode b_MM_step1 193 = .ok (.istore_n 3, 1) := by decide +kernel
theorem d_MM_step1_194 : decode b_MM_step1 194 = .ok (.iload_n 3, 1) := by decide +kernel
theorem d_MM_step1_195 : decode b_MM_step1 195 = .ok (.aload_n 0, 1) := by decide +kernel
theorem d_MM_step1_196 : decode b_MM_step1 196 = .ok (.getfield 269, 3) := by decide +kernel
theorem d_MM_step1_199 : decode b_MM_step1 199 = .ok (.if_icmp .ge 42, 3) := by decide +kernel
theorem d_MM_step1_202 : decode b_MM_step1 202 = .ok (.aload_n 0, 1) := by decide +kernel
theorem d_MM_step1_203 : decode b_MM_step1 203 = .ok (.getfield 256, 3) := by decide +kernel
theorem d_MM_step1_206 : decode b_MM_step1 206 = .ok (.iload_n 3, 1) := by decide +kernel
theorem d_MM_step1_207 : decode b_MM_step1 207 = .ok (.iaload, 1) := by decide +kernel
theorem d_MM_step1_208 : decode b_MM_step1 208 = .ok (.iconst 1, 1) := by decide +kernel
theorem d_MM_step1_209 : decode b_MM_step1 209 = .ok (.if_icmp .ne 26, 3) := by decide +kernel
theorem d_MM_step1_212 : decode b_MM_step1 212 = .ok (.aload_n 0, 1) := by decide +kernel
theorem d_MM_step1_213 : decode b_MM_step1 213 = .ok (.iload_n 3, 1) := by decide +kernel
theorem d_MM_step1_214 : decode b_MM_step1 214 = .ok (.iload_n 1, 1) := by decide +kernel
theorem d_MM_step1_215 : decode b_MM_step1 215 = .ok (.invokevirtual 724, 3) := by decide +kernel
theorem d_MM_step1_218 : decode b_MM_step1 218 = .ok (.ifCond .ne 6, 3) := by decide +kernel
theorem d_MM_step1_221 : decode b_MM_step1 221 = .ok (.goto 14, 3) := by decide +kernel
theorem d_MM_step1_224 : decode b_MM_step1 224 = .ok (.aload_n 0, 1) := by decide +kernel
theorem d_MM_step1_225 : decode b_MM_step1 225 = .ok (.dup, 1) := by decide +kernel
theorem d_MM_step1_226 : decode b_MM_step1 226 = .ok (.getfield 293, 3) := by decide +kernel
theorem d_MM_step1_229 : decode b_MM_step1 229 = .ok (.iconst 1, 1) := by decide +kernel
theorem d_MM_step1_230 : decode b_MM_step1 230 = .ok (.iadd, 1) := by decide +kernel
theorem d_MM_step1_231 : decode b_MM_step1 231 = .ok (.putfield 293, 3) := by decide +kernel
theorem d_MM_step1_234 : decode b_MM_step1 234 = .ok (.return_, 1) := by decide +kernel
theorem d_MM_step1_235 : decode b_MM_step1 235 = .ok (.iinc 3 1, 3) := by decide +kernel
theorem d_MM_step1_238 : decode b_MM_step1 238 = .ok (.goto (-44), 3) := by decide +kernel
theorem d_MM_step1_241 : decode b_MM_step1 241 = .ok (.aload_n 0, 1) := by decide +kernel
theorem d_MM_step1_242 : decode b_MM_step1 242 = .ok (.iload_n 1, 1) := by decide +kernel
theorem d_MM_step1_243 : decode b_MM_step1 243 = .ok (.invokevirtual 727, 3) := by decide +kernel
theorem d_MM_step1_246 : decode b_MM_step1 246 = .ok (.return_, 1) := by decide +kernel
abbrev b_MM_given : ByteArray := prog_14_method_102_code
def y_MM_given : MethodName := ⟨"ClauseProverModel", "given", "()I"⟩
theorem d_MM_given_0 : decode b_MM_given 0 = .ok (.iconst (-1), 1) := by decide +kernel
theorem d_MM_given_1 : decode b_MM_given 1 = .ok (.istore_n 1, 1) := by decide +kernel
theorem d_MM_given_2 : decode b_MM_given 2 = .ok (.aload_n 0, 1) := by decide +kernel
theorem d_MM_given_3 : decode b_MM_given 3 = .ok (.getfield 284, 3) := by decide +kernel
theorem d_MM_given_6 : decode b_MM_given 6 = .ok (.iconst 1, 1) := by decide +kernel
theorem d_MM_given_7 : decode b_MM_given 7 = .ok (.iadd, 1) := by decide +kernel
theorem d_MM_given_8 : decode b_MM_given 8 = .ok (.iconst 5, 1) := by decide +kernel
theorem d_MM_given_9 : decode b_MM_given 9 = .ok (.irem, 1) := by decide +kernel
theorem d_MM_given_10 : decode b_MM_given 10 = .ok (.ifCond .ne 7, 3) := by decide +kernel
theorem d_MM_given_13 : decode b_MM_given 13 = .ok (.iconst 1, 1) := by decide +kernel
theorem d_MM_given_14 : decode b_MM_given 14 = .ok (.goto 4, 3) := by decide +kernel
theorem d_MM_given_17 : decode b_MM_given 17 = .ok (.iconst 0, 1) := by decide +kernel
theorem d_MM_given_18 : decode b_MM_given 18 = .ok (.istore_n 2, 1) := by decide +kernel
theorem d_MM_given_19 : decode b_MM_given 19 = .ok (.iconst 0, 1) := by decide +kernel
theorem d_MM_given_20 : decode b_MM_given 20 = .ok (.istore_n 3, 1) := by decide +kernel
theorem d_MM_given_21 : decode b_MM_given 21 = .ok (.iload_n 3, 1) := by decide +kernel
theorem d_MM_given_22 : decode b_MM_given 22 = .ok (.aload_n 0, 1) := by decide +kernel
theorem d_MM_given_23 : decode b_MM_given 23 = .ok (.getfield 269, 3) := by decide +kernel
theorem d_MM_given_26 : decode b_MM_given 26 = .ok (.if_icmp .ge 46, 3) := by decide +kernel
theorem d_MM_given_29 : decode b_MM_given 29 = .ok (.aload_n 0, 1) := by decide +kernel
theorem d_MM_given_30 : decode b_MM_given 30 = .ok (.getfield 256, 3) := by decide +kernel
theorem d_MM_given_33 : decode b_MM_given 33 = .ok (.iload_n 3, 1) := by decide +kernel
theorem d_MM_given_34 : decode b_MM_given 34 = .ok (.iaload, 1) := by decide +kernel
theorem d_MM_given_35 : decode b_MM_given 35 = .ok (.ifCond .eq 6, 3) := by decide +kernel
theorem d_MM_given_38 : decode b_MM_given 38 = .ok (.goto 28, 3) := by decide +kernel
theorem d_MM_given_41 : decode b_MM_given 41 = .ok (.iload_n 1, 1) := by decide +kernel
theorem d_MM_given_42 : decode b_MM_given 42 = .ok (.ifCond .lt 22, 3) := by decide +kernel
theorem d_MM_given_45 : decode b_MM_given 45 = .ok (.iload_n 2, 1) := by decide +kernel
theorem d_MM_given_46 : decode b_MM_given 46 = .ok (.ifCond .ne 20, 3) := by decide +kernel
theorem d_MM_given_49 : decode b_MM_given 49 = .ok (.aload_n 0, 1) := by decide +kernel
theorem d_MM_given_50 : decode b_MM_given 50 = .ok (.getfield 241, 3) := by decide +kernel
theorem d_MM_given_53 : decode b_MM_given 53 = .ok (.iload_n 3, 1) := by decide +kernel
theorem d_MM_given_54 : decode b_MM_given 54 = .ok (.iaload, 1) := by decide +kernel
theorem d_MM_given_55 : decode b_MM_given 55 = .ok (.aload_n 0, 1) := by decide +kernel
theorem d_MM_given_56 : decode b_MM_given 56 = .ok (.getfield 241, 3) := by decide +kernel
theorem d_MM_given_59 : decode b_MM_given 59 = .ok (.iload_n 1, 1) := by decide +kernel
theorem d_MM_given_60 : decode b_MM_given 60 = .ok (.iaload, 1) := by decide +kernel
theorem d_MM_given_61 : decode b_MM_given 61 = .ok (.if_icmp .ge 5, 3) := by decide +kernel
theorem d_MM_given_64 : decode b_MM_given 64 = .ok (.iload_n 3, 1) := by decide +kernel
theorem d_MM_given_65 : decode b_MM_given 65 = .ok (.istore_n 1, 1) := by decide +kernel
theorem d_MM_given_66 : decode b_MM_given 66 = .ok (.iinc 3 1, 3) := by decide +kernel
theorem d_MM_given_69 : decode b_MM_given 69 = .ok (.goto (-48), 3) := by decide +kernel
theorem d_MM_given_72 : decode b_MM_given 72 = .ok (.iload_n 1, 1) := by decide +kernel
theorem d_MM_given_73 : decode b_MM_given 73 = .ok (.ireturn, 1) := by decide +kernel
set_option maxHeartbeats 4000000 in
set_option maxRecDepth 100000 in
theorem m77_MM_given (l : Launch) (D : va_G) (kA : Nat → ClassId) (a0 : Nat) (b0 : Nat) (b1 : Nat) (b2 : Nat) (b3 : Nat) (b4 : Nat) (b5 : Nat) (b6 : Nat) (b7 : Nat) (b8 : Nat) (b9 : Nat) (b10 : Nat) (b11 : Nat) (b12 : Nat) (b13 : Nat) (b14 : Nat) (b15 : Nat) (b16 : Nat) (b17 : Nat) (b18 : Nat) (b19 : Nat) (b20 : Nat) (b21 : Nat) (b22 : Nat) (b23 : Nat) (b24 : Nat) (b25 : Nat) (b26 : Nat) (b27 : Nat) (b28 : Nat) (b29 : Nat) (b30 : Nat) (b31 : Nat) (b32 : Nat) (b33 : Nat) (b34 : Nat) (b35 : Nat) (b36 : Nat) (b37 : Nat) (b38 : Nat) (b39 : Nat) (b40 : Nat) (b41 : Nat) (b42 : Nat) (b43 : Nat) (b44 : Nat) (b45 : Nat) (b46 : Nat) (b47 : Nat) (b48 : Nat) (b49 : Nat) (b50 : Nat) (b51 : Nat) (b52 : Nat) (b53 : Nat) (b54 : Nat) (b55 : Nat) (b56 : Nat) (b57 : Nat) (b58 : Nat) (b59 : Nat) (b60 : Nat) (b61 : Nat) (b62 : Nat) (b63 : Nat) (b64 : Nat) (b65 : Nat) (b66 : Nat) (b67 : Nat) (b68 : Nat) (b69 : Nat) (b70 : Nat) (b71 : Nat) (b72 : Nat) (b73 : Nat) (b74 : Nat) (b75 : Nat) : ax_Mi l D kA y_MM_given b_MM_given 4 .int 0 0 0 0 [.ref a0] [(a0, .inr (12, [.ref b0, .ref b1, .int 0, .int 0, .int 0, .int 0, .int 0, .int 0, .int 0, .int 0, .int 0, .int 0, .int 0, .ref b2, .ref b3, .ref b4, .ref b5, .ref b6, .int 0, .int 1, .int 0, .ref b7, .ref b8, .ref b9, .ref b10, .int 0, .ref b11, .ref b12, .int 0, .int 0, .ref b13, .ref b14, .ref b15, .ref b16, .ref b17, .ref b18, .ref b19, .int 0, .int 0, .int 0, .int 0, .ref b20, .ref b21, .ref b22, .ref b23, .ref b24, .ref b25, .int 0, .ref b26, .ref b27, .ref b28, .ref b29, .ref b30, .ref b31, .ref b32, .int 0, .int 0, .ref b33, .ref b34, .ref b35, .ref b36, .ref b37, .int 0, .ref b38, .ref b39, .int 0, .ref b40, .ref b41, .ref b42, .ref b43, .ref b44, .ref b45, .int 0, .ref b46, .ref b47, .ref b48, .ref b49, .ref b50, .ref b51, .ref b52, .ref b53, .ref b54, .ref b55, .ref b56, .int 0, .int 0, .int 0, .int 0, .int (-1), .int 0, .int 0, .int 0, .int 0, .int 0, .int 0, .ref b57, .ref b58, .ref b59, .int 0, .ref b60, .ref b61, .int 0, .ref b62, .ref b63, .ref b64, .int 0, .ref b65, .ref b66, .ref b67, .ref b68, .ref b69, .ref b70, .int 0, .int (-1), .int 0, .ref b71, .int (-1), .int (-1), .int (-1), .ref b72, .int 0, .ref b73, .int 0, .ref b74, .int 0, .int 0, .ref b75]))] (fun r w1 => r = (-1) ∧ w1 = [(a0, .inr (12, [.ref b0, .ref b1, .int 0, .int 0, .int 0, .int 0, .int 0, .int 0, .int 0, .int 0, .int 0, .int 0, .int 0, .ref b2, .ref b3, .ref b4, .ref b5, .ref b6, .int 0, .int 1, .int 0, .ref b7, .ref b8, .ref b9, .ref b10, .int 0, .ref b11, .ref b12, .int 0, .int 0, .ref b13, .ref b14, .ref b15, .ref b16, .ref b17, .ref b18, .ref b19, .int 0, .int 0, .int 0, .int 0, .ref b20, .ref b21, .ref b22, .ref b23, .ref b24, .ref b25, .int 0, .ref b26, .ref b27, .ref b28, .ref b29, .ref b30, .ref b31, .ref b32, .int 0, .int 0, .ref b33, .ref b34, .ref b35, .ref b36, .ref b37, .int 0, .ref b38, .ref b39, .int 0, .ref b40, .ref b41, .ref b42, .ref b43, .ref b44, .ref b45, .int 0, .ref b46, .ref b47, .ref b48, .ref b49, .ref b50, .ref b51, .ref b52, .ref b53, .ref b54, .ref b55, .ref b56, .int 0, .int 0, .int 0, .int 0, .int (-1), .int 0, .int 0, .int 0, .int 0, .int 0, .int 0, .ref b57, .ref b58, .ref b59, .int 0, .ref b60, .ref b61, .int 0, .ref b62, .ref b63, .ref b64, .int 0, .ref b65, .ref b66, .ref b67, .ref b68, .ref b69, .ref b70, .int 0, .int (-1), .int 0, .ref b71, .int (-1), .int (-1), .int (-1), .ref b72, .int 0, .ref b73, .int 0, .ref b74, .int 0, .int 0, .ref b75]))]) := by
  refine ax_Mi.of (by decide +kernel) (Nat.le_of_ble_eq_true rfl) ?_
  intro p e s m args below meth c C hnm
  refine ax_ls ([(0, .ref a0)]) [0] rfl ?_
  refine ax_iconst (pc := 0) C (-1) d_MM_given_0 (by decide +kernel) ?_
  refine ax_istore_n (pc := 1) C d_MM_given_1 rfl (Nat.le_of_ble_eq_true rfl) ([(1, .int (-1)), (0, .ref a0)]) rfl ?_
  refine ax_aload_n (pc := 2) C d_MM_given_2 rfl 1 rfl ?_
  refine ax_get (pc := 3) C k_MM 89 lk_MM_284 d_MM_given_3 (Nat.le_of_ble_eq_true rfl) 0 rfl rfl ?_
  refine ax_iconst (pc := 6) C 1 d_MM_given_6 (by decide +kernel) ?_
  refine ax_iadd (pc := 7) C d_MM_given_7 ?_
  refine ax_nrm 1 (by decide) ?_
  refine ax_iconst (pc := 8) C 5 d_MM_given_8 (by decide +kernel) ?_
  refine ax_irem (pc := 9) C d_MM_given_9 (by decide) ?_
  refine ax_nrm 1 (by decide) ?_
  refine ax_if_ne (pc := 10) C 17 d_MM_given_10 (by decide) (fun _ => ?_) (fun h => absurd h (by decide))
  refine ax_iconst (pc := 17) C 0 d_MM_given_17 (by decide +kernel) ?_
  refine ax_istore_n (pc := 18) C d_MM_given_18 rfl (Nat.le_of_ble_eq_true rfl) ([(2, .int 0), (1, .int (-1)), (0, .ref a0)]) rfl ?_
  refine ax_iconst (pc := 19) C 0 d_MM_given_19 (by decide +kernel) ?_
  refine ax_istore_n (pc := 20) C d_MM_given_20 rfl (Nat.le_of_ble_eq_true rfl) ([(3, .int 0), (2, .int 0), (1, .int (-1)), (0, .ref a0)]) rfl ?_
  refine ax_iload_n (pc := 21) C d_MM_given_21 rfl 0 rfl ?_
  refine ax_aload_n (pc := 22) C d_MM_given_22 rfl 3 rfl ?_
  refine ax_get (pc := 23) C k_MM 84 lk_MM_269 d_MM_given_23 (Nat.le_of_ble_eq_true rfl) 0 rfl rfl ?_
  refine ax_icmp_ge (pc := 26) C 72 d_MM_given_26 (by decide) (fun _ => ?_) (fun h => absurd h (by decide))
  refine ax_iload_n (pc := 72) C d_MM_given_72 rfl 2 rfl ?_
  exact ax_iret (pc := 73) C d_MM_given_73 ⟨rfl, rfl⟩ (by decide) (by decide)
theorem tc_MM_given : Cond.code y_MM_given b_MM_given 4 (some (.int)) ∈ lw_tbg := tb_in (i := 2253) (by decide +kernel) rfl
theorem ml_MM_715 : ax_LV "ClauseProverModel" 715 y_MM_given b_MM_given 4 (some (.int)) 0 := ax_LV.mk (tb_in (i := 2250) (by decide +kernel) rfl) (tb_in (i := 2252) (by decide +kernel) rfl) (pv_in (i := 157) (by decide +kernel) rfl) ti_MM tc_MM_given (by decide +kernel)
set_option maxHeartbeats 4000000 in
set_option maxRecDepth 100000 in
theorem m76_MM_step1 (l : Launch) (D : va_G) (kA : Nat → ClassId) (a0 : Nat) (b0 : Nat) (b1 : Nat) (b2 : Nat) (b3 : Nat) (b4 : Nat) (b5 : Nat) (b6 : Nat) (b7 : Nat) (b8 : Nat) (b9 : Nat) (b10 : Nat) (b11 : Nat) (b12 : Nat) (b13 : Nat) (b14 : Nat) (b15 : Nat) (b16 : Nat) (b17 : Nat) (b18 : Nat) (b19 : Nat) (b20 : Nat) (b21 : Nat) (b22 : Nat) (b23 : Nat) (b24 : Nat) (b25 : Nat) (b26 : Nat) (b27 : Nat) (b28 : Nat) (b29 : Nat) (b30 : Nat) (b31 : Nat) (b32 : Nat) (b33 : Nat) (b34 : Nat) (b35 : Nat) (b36 : Nat) (b37 : Nat) (b38 : Nat) (b39 : Nat) (b40 : Nat) (b41 : Nat) (b42 : Nat) (b43 : Nat) (b44 : Nat) (b45 : Nat) (b46 : Nat) (b47 : Nat) (b48 : Nat) (b49 : Nat) (b50 : Nat) (b51 : Nat) (b52 : Nat) (b53 : Nat) (b54 : Nat) (b55 : Nat) (b56 : Nat) (b57 : Nat) (b58 : Nat) (b59 : Nat) (b60 : Nat) (b61 : Nat) (b62 : Nat) (b63 : Nat) (b64 : Nat) (b65 : Nat) (b66 : Nat) (b67 : Nat) (b68 : Nat) (b69 : Nat) (b70 : Nat) (b71 : Nat) (b72 : Nat) (b73 : Nat) (b74 : Nat) (b75 : Nat) : ax_Mv l D kA y_MM_step1 b_MM_step1 5 1 23 0 0 [.ref a0] [(a0, .inr (12, [.ref b0, .ref b1, .int 0, .int 0, .int 0, .int 0, .int 0, .int 0, .int 0, .int 0, .int 0, .int 0, .int 0, .ref b2, .ref b3, .ref b4, .ref b5, .ref b6, .int 0, .int 1, .int 0, .ref b7, .ref b8, .ref b9, .ref b10, .int 0, .ref b11, .ref b12, .int 0, .int 0, .ref b13, .ref b14, .ref b15, .ref b16, .ref b17, .ref b18, .ref b19, .int 0, .int 0, .int 0, .int 0, .ref b20, .ref b21, .ref b22, .ref b23, .ref b24, .ref b25, .int 0, .ref b26, .ref b27, .ref b28, .ref b29, .ref b30, .ref b31, .ref b32, .int 0, .int 0, .ref b33, .ref b34, .ref b35, .ref b36, .ref b37, .int 0, .ref b38, .ref b39, .int 0, .ref b40, .ref b41, .ref b42, .ref b43, .ref b44, .ref b45, .int 0, .ref b46, .ref b47, .ref b48, .ref b49, .ref b50, .ref b51, .ref b52, .ref b53, .ref b54, .ref b55, .ref b56, .int 0, .int 0, .int 0, .int 0, .int (-1), .int 0, .int 0, .int 0, .int 0, .int 0, .int 0, .ref b57, .ref b58, .ref b59, .int 0, .ref b60, .ref b61, .int 0, .ref b62, .ref b63, .ref b64, .int 0, .ref b65, .ref b66, .ref b67, .ref b68, .ref b69, .ref b70, .int 0, .int (-1), .int 0, .ref b71, .int (-1), .int (-1), .int (-1), .ref b72, .int 0, .ref b73, .int 0, .ref b74, .int 0, .int 0, .ref b75]))] (fun w1 => w1 = [(a0, .inr (12, [.ref b0, .ref b1, .int 0, .int 0, .int 0, .int 0, .int 0, .int 0, .int 0, .int 0, .int 0, .int 0, .int 0, .ref b2, .ref b3, .ref b4, .ref b5, .ref b6, .int 0, .int 1, .int 0, .ref b7, .ref b8, .ref b9, .ref b10, .int 0, .ref b11, .ref b12, .int 0, .int 0, .ref b13, .ref b14, .ref b15, .ref b16, .ref b17, .ref b18, .ref b19, .int 0, .int 0, .int 0, .int 0, .ref b20, .ref b21, .ref b22, .ref b23, .ref b24, .ref b25, .int 0, .ref b26, .ref b27, .ref b28, .ref b29, .ref b30, .ref b31, .ref b32, .int 0, .int 0, .ref b33, .ref b34, .ref b35, .ref b36, .ref b37, .int 0, .ref b38, .ref b39, .int 0, .ref b40, .ref b41, .ref b42, .ref b43, .ref b44, .ref b45, .int 0, .ref b46, .ref b47, .ref b48, .ref b49, .ref b50, .ref b51, .ref b52, .ref b53, .ref b54, .ref b55, .ref b56, .int 0, .int 0, .int 0, .int 2, .int (-1), .int 0, .int 0, .int 0, .int 0, .int 0, .int 0, .ref b57, .ref b58, .ref b59, .int 0, .ref b60, .ref b61, .int 0, .ref b62, .ref b63, .ref b64, .int 0, .ref b65, .ref b66, .ref b67, .ref b68, .ref b69, .ref b70, .int 0, .int (-1), .int 0, .ref b71, .int (-1), .int (-1), .int (-1), .ref b72, .int 0, .ref b73, .int 0, .ref b74, .int 0, .int 0, .ref b75]))]) := by
  refine ax_Mv.of (by decide +kernel) (Nat.le_of_ble_eq_true rfl) ?_
  intro p e s m args below meth c C hnm
  refine ax_ls ([(0, .ref a0)]) [0] rfl ?_
  refine ax_aload_n (pc := 0) C d_MM_step1_0 rfl 0 rfl ?_
  refine ax_callVi (pc := 1) C (As := []) (rest := []) (wr := []) (m77_MM_given l D kA a0 b0 b1 b2 b3 b4 b5 b6 b7 b8 b9 b10 b11 b12 b13 b14 b15 b16 b17 b18 b19 b20 b21 b22 b23 b24 b25 b26 b27 b28 b29 b30 b31 b32 b33 b34 b35 b36 b37 b38 b39 b40 b41 b42 b43 b44 b45 b46 b47 b48 b49 b50 b51 b52 b53 b54 b55 b56 b57 b58 b59 b60 b61 b62 b63 b64 b65 b66 b67 b68 b69 b70 b71 b72 b73 b74 b75) ml_MM_715 0 rfl rfl rfl d_MM_step1_1 rfl rfl [0] [] rfl (by decide) rfl (by decide) (by decide) (Nat.le_of_ble_eq_true rfl) (Nat.le_of_ble_eq_true rfl) (Nat.le_of_ble_eq_true rfl) (Nat.le_of_ble_eq_true rfl) (Nat.le_of_ble_eq_true rfl) (fun r1 w1 hw1 => ?_)
  obtain ⟨rfl, rfl⟩ := hw1
  refine ax_w ([(a0, .inr (12, [.ref b0, .ref b1, .int 0, .int 0, .int 0, .int 0, .int 0, .int 0, .int 0, .int 0, .int 0, .int 0, .int 0, .ref b2, .ref b3, .ref b4, .ref b5, .ref b6, .int 0, .int 1, .int 0, .ref b7, .ref b8, .ref b9, .ref b10, .int 0, .ref b11, .ref b12, .int 0, .int 0, .ref b13, .ref b14, .ref b15, .ref b16, .ref b17, .ref b18, .ref b19, .int 0, .int 0, .int 0, .int 0, .ref b20, .ref b21, .ref b22, .ref b23, .ref b24, .ref b25, .int 0, .ref b26, .ref b27, .ref b28, .ref b29, .ref b30, .ref b31, .ref b32, .int 0, .int 0, .ref b33, .ref b34, .ref b35, .ref b36, .ref b37, .int 0, .ref b38, .ref b39, .int 0, .ref b40, .ref b41, .ref b42, .ref b43, .ref b44, .ref b45, .int 0, .ref b46, .ref b47, .ref b48, .ref b49, .ref b50, .ref b51, .ref b52, .ref b53, .ref b54, .ref b55, .ref b56, .int 0, .int 0, .int 0, .int 0, .int (-1), .int 0, .int 0, .int 0, .int 0, .int 0, .int 0, .ref b57, .ref b58, .ref b59, .int 0, .ref b60, .ref b61, .int 0, .ref b62, .ref b63, .ref b64, .int 0, .ref b65, .ref b66, .ref b67, .ref b68, .ref b69, .ref b70, .int 0, .int (-1), .int 0, .ref b71, .int (-1), .int (-1), .int (-1), .ref b72, .int 0, .ref b73, .int 0, .ref b74, .int 0, .int 0, .ref b75]))]) rfl ?_
  refine ax_istore_n (pc := 4) C d_MM_step1_4 rfl (Nat.le_of_ble_eq_true rfl) ([(1, .int (-1)), (0, .ref a0)]) rfl ?_
  refine ax_iload_n (pc := 5) C d_MM_step1_5 rfl 0 rfl ?_
  refine ax_if_ge (pc := 6) C 15 d_MM_step1_6 (by decide) (fun h => absurd h (by decide)) (fun _ => ?_)
  refine ax_aload_n (pc := 9) C d_MM_step1_9 rfl 1 rfl ?_
  refine ax_iconst (pc := 10) C 2 d_MM_step1_10 (by decide +kernel) ?_
  refine ax_put (pc := 11) C k_MM 87 lk_MM_278 d_MM_step1_11 (Nat.le_of_ble_eq_true rfl) 0 rfl rfl rfl rfl (Nat.le_of_ble_eq_true rfl) ?_
  refine ax_w ([(a0, .inr (12, [.ref b0, .ref b1, .int 0, .int 0, .int 0, .int 0, .int 0, .int 0, .int 0, .int 0, .int 0, .int 0, .int 0, .ref b2, .ref b3, .ref b4, .ref b5, .ref b6, .int 0, .int 1, .int 0, .ref b7, .ref b8, .ref b9, .ref b10, .int 0, .ref b11, .ref b12, .int 0, .int 0, .ref b13, .ref b14, .ref b15, .ref b16, .ref b17, .ref b18, .ref b19, .int 0, .int 0, .int 0, .int 0, .ref b20, .ref b21, .ref b22, .ref b23, .ref b24, .ref b25, .int 0, .ref b26, .ref b27, .ref b28, .ref b29, .ref b30, .ref b31, .ref b32, .int 0, .int 0, .ref b33, .ref b34, .ref b35, .ref b36, .ref b37, .int 0, .ref b38, .ref b39, .int 0, .ref b40, .ref b41, .ref b42, .ref b43, .ref b44, .ref b45, .int 0, .ref b46, .ref b47, .ref b48, .ref b49, .ref b50, .ref b51, .ref b52, .ref b53, .ref b54, .ref b55, .ref b56, .int 0, .int 0, .int 0, .int 2, .int (-1), .int 0, .int 0, .int 0, .int 0, .int 0, .int 0, .ref b57, .ref b58, .ref b59, .int 0, .ref b60, .ref b61, .int 0, .ref b62, .ref b63, .ref b64, .int 0, .ref b65, .ref b66, .ref b67, .ref b68, .ref b69, .ref b70, .int 0, .int (-1), .int 0, .ref b71, .int (-1), .int (-1), .int (-1), .ref b72, .int 0, .ref b73, .int 0, .ref b74, .int 0, .int 0, .ref b75]))]) rfl ?_
  exact ax_vret (pc := 14) C d_MM_step1_14 rfl (by decide) (by decide)
theorem tc_MM_step1 : Cond.code y_MM_step1 b_MM_step1 5 none ∈ lw_tbg := tb_in (i := 2249) (by decide +kernel) rfl
theorem ml_MM_756 : ax_LV "ClauseProverModel" 756 y_MM_step1 b_MM_step1 5 none 0 := ax_LV.mk (tb_in (i := 2246) (by decide +kernel) rfl) (tb_in (i := 2248) (by decide +kernel) rfl) (pv_in (i := 156) (by decide +kernel) rfl) ti_MM tc_MM_step1 (by decide +kernel)
set_option maxHeartbeats 4000000 in
set_option maxRecDepth 100000 in
theorem m75_MM_run (l : Launch) (D : va_G) (kA : Nat → ClassId) (a0 : Nat) (b0 : Nat) (b1 : Nat) (b2 : Nat) (b3 : Nat) (b4 : Nat) (b5 : Nat) (b6 : Nat) (b7 : Nat) (b8 : Nat) (b9 : Nat) (b10 : Nat) (b11 : Nat) (b12 : Nat) (b13 : Nat) (b14 : Nat) (b15 : Nat) (b16 : Nat) (b17 : Nat) (b18 : Nat) (b19 : Nat) (b20 : Nat) (b21 : Nat) (b22 : Nat) (b23 : Nat) (b24 : Nat) (b25 : Nat) (b26 : Nat) (b27 : Nat) (b28 : Nat) (b29 : Nat) (b30 : Nat) (b31 : Nat) (b32 : Nat) (b33 : Nat) (b34 : Nat) (b35 : Nat) (b36 : Nat) (b37 : Nat) (b38 : Nat) (b39 : Nat) (b40 : Nat) (b41 : Nat) (b42 : Nat) (b43 : Nat) (b44 : Nat) (b45 : Nat) (b46 : Nat) (b47 : Nat) (b48 : Nat) (b49 : Nat) (b50 : Nat) (b51 : Nat) (b52 : Nat) (b53 : Nat) (b54 : Nat) (b55 : Nat) (b56 : Nat) (b57 : Nat) (b58 : Nat) (b59 : Nat) (b60 : Nat) (b61 : Nat) (b62 : Nat) (b63 : Nat) (b64 : Nat) (b65 : Nat) (b66 : Nat) (b67 : Nat) (b68 : Nat) (b69 : Nat) (b70 : Nat) (b71 : Nat) (b72 : Nat) (b73 : Nat) (b74 : Nat) (b75 : Nat) (i0 : Int32) (h0 : i0 ≤ 100) (h1 : ¬ i0 < 1) (h2 : ¬ i0 ≤ 0) : ax_Mi l D kA y_MM_run b_MM_run 3 .int 2 47 0 0 [.ref a0, .int i0] [(a0, .inr (12, [.ref b0, .ref b1, .int 0, .int 0, .int 0, .int 0, .int 0, .int 0, .int 0, .int 0, .int 0, .int 0, .int 0, .ref b2, .ref b3, .ref b4, .ref b5, .ref b6, .int 0, .int 1, .int 0, .ref b7, .ref b8, .ref b9, .ref b10, .int 0, .ref b11, .ref b12, .int 0, .int 0, .ref b13, .ref b14, .ref b15, .ref b16, .ref b17, .ref b18, .ref b19, .int 0, .int 0, .int 0, .int 0, .ref b20, .ref b21, .ref b22, .ref b23, .ref b24, .ref b25, .int 0, .ref b26, .ref b27, .ref b28, .ref b29, .ref b30, .ref b31, .ref b32, .int 0, .int 0, .ref b33, .ref b34, .ref b35, .ref b36, .ref b37, .int 0, .ref b38, .ref b39, .int 0, .ref b40, .ref b41, .ref b42, .ref b43, .ref b44, .ref b45, .int 0, .ref b46, .ref b47, .ref b48, .ref b49, .ref b50, .ref b51, .ref b52, .ref b53, .ref b54, .ref b55, .ref b56, .int 0, .int 0, .int 0, .int 0, .int (-1), .int 0, .int 0, .int 0, .int 0, .int 0, .int 0, .ref b57, .ref b58, .ref b59, .int 0, .ref b60, .ref b61, .int 0, .ref b62, .ref b63, .ref b64, .int 0, .ref b65, .ref b66, .ref b67, .ref b68, .ref b69, .ref b70, .int 0, .int (-1), .int 0, .ref b71, .int (-1), .int (-1), .int (-1), .ref b72, .int 0, .ref b73, .int 0, .ref b74, .int 0, .int 0, .ref b75]))] (fun r w1 => r = 2 ∧ w1 = [(a0, .inr (12, [.ref b0, .ref b1, .int 0, .int 0, .int 0, .int 0, .int 0, .int 0, .int 0, .int 0, .int 0, .int 0, .int 0, .ref b2, .ref b3, .ref b4, .ref b5, .ref b6, .int 0, .int 1, .int 0, .ref b7, .ref b8, .ref b9, .ref b10, .int 0, .ref b11, .ref b12, .int 0, .int 0, .ref b13, .ref b14, .ref b15, .ref b16, .ref b17, .ref b18, .ref b19, .int 0, .int 0, .int 0, .int 0, .ref b20, .ref b21, .ref b22, .ref b23, .ref b24, .ref b25, .int 0, .ref b26, .ref b27, .ref b28, .ref b29, .ref b30, .ref b31, .ref b32, .int 0, .int 0, .ref b33, .ref b34, .ref b35, .ref b36, .ref b37, .int 0, .ref b38, .ref b39, .int 0, .ref b40, .ref b41, .ref b42, .ref b43, .ref b44, .ref b45, .int 0, .ref b46, .ref b47, .ref b48, .ref b49, .ref b50, .ref b51, .ref b52, .ref b53, .ref b54, .ref b55, .ref b56, .int 0, .int 0, .int 0, .int 2, .int (-1), .int 0, .int 0, .int 0, .int 0, .int 0, .int 0, .ref b57, .ref b58, .ref b59, .int 0, .ref b60, .ref b61, .int 0, .ref b62, .ref b63, .ref b64, .int 0, .ref b65, .ref b66, .ref b67, .ref b68, .ref b69, .ref b70, .int 0, .int (-1), .int 0, .ref b71, .int (-1), .int (-1), .int (-1), .ref b72, .int 0, .ref b73, .int 0, .ref b74, .int 0, .int 0, .ref b75]))]) := by
  refine ax_Mi.of (by decide +kernel) (Nat.le_of_ble_eq_true rfl) ?_
  intro p e s m args below meth c C hnm
  refine ax_ls ([(0, .ref a0), (1, .int i0)]) [0, 1] rfl ?_
  refine ax_aload_n (pc := 0) C d_MM_run_0 rfl 0 rfl ?_
  refine ax_iconst (pc := 1) C 0 d_MM_run_1 (by decide +kernel) ?_
  refine ax_put (pc := 2) C k_MM 4 lk_MM_24 d_MM_run_2 (Nat.le_of_ble_eq_true rfl) 0 rfl rfl rfl rfl (Nat.le_of_ble_eq_true rfl) ?_
  refine ax_w ([(a0, .inr (12, [.ref b0, .ref b1, .int 0, .int 0, .int 0, .int 0, .int 0, .int 0, .int 0, .int 0, .int 0, .int 0, .int 0, .ref b2, .ref b3, .ref b4, .ref b5, .ref b6, .int 0, .int 1, .int 0, .ref b7, .ref b8, .ref b9, .ref b10, .int 0, .ref b11, .ref b12, .int 0, .int 0, .ref b13, .ref b14, .ref b15, .ref b16, .ref b17, .ref b18, .ref b19, .int 0, .int 0, .int 0, .int 0, .ref b20, .ref b21, .ref b22, .ref b23, .ref b24, .ref b25, .int 0, .ref b26, .ref b27, .ref b28, .ref b29, .ref b30, .ref b31, .ref b32, .int 0, .int 0, .ref b33, .ref b34, .ref b35, .ref b36, .ref b37, .int 0, .ref b38, .ref b39, .int 0, .ref b40, .ref b41, .ref b42, .ref b43, .ref b44, .ref b45, .int 0, .ref b46, .ref b47, .ref b48, .ref b49, .ref b50, .ref b51, .ref b52, .ref b53, .ref b54, .ref b55, .ref b56, .int 0, .int 0, .int 0, .int 0, .int (-1), .int 0, .int 0, .int 0, .int 0, .int 0, .int 0, .ref b57, .ref b58, .ref b59, .int 0, .ref b60, .ref b61, .int 0, .ref b62, .ref b63, .ref b64, .int 0, .ref b65, .ref b66, .ref b67, .ref b68, .ref b69, .ref b70, .int 0, .int (-1), .int 0, .ref b71, .int (-1), .int (-1), .int (-1), .ref b72, .int 0, .ref b73, .int 0, .ref b74, .int 0, .int 0, .ref b75]))]) rfl ?_
  refine ax_aload_n (pc := 5) C d_MM_run_5 rfl 0 rfl ?_
  refine ax_iconst (pc := 6) C 1 d_MM_run_6 (by decide +kernel) ?_
  refine ax_iload_n (pc := 7) C d_MM_run_7 rfl 1 rfl ?_
  refine ax_iconst (pc := 8) C 1 d_MM_run_8 (by decide +kernel) ?_
  refine ax_icmp_lt (pc := 9) C 18 d_MM_run_9 (by decide) (fun h => absurd h h1) (fun _ => ?_)
  refine ax_iload_n (pc := 12) C d_MM_run_12 rfl 1 rfl ?_
  refine ax_bipush (pc := 13) C 100 d_MM_run_13 (by decide +kernel) ?_
  refine ax_icmp_le (pc := 15) C 22 d_MM_run_15 (by decide) (fun _ => ?_) (fun h => absurd h0 h)
  refine ax_iconst (pc := 22) C 0 d_MM_run_22 (by decide +kernel) ?_
  refine ax_callVi (pc := 23) C (As := [.int 1, .int 0]) (rest := []) (wr := [(a0, .inr (12, [.ref b0, .ref b1, .int 0, .int 0, .int 0, .int 0, .int 0, .int 0, .int 0, .int 0, .int 0, .int 0, .int 0, .ref b2, .ref b3, .ref b4, .ref b5, .ref b6, .int 0, .int 1, .int 0, .ref b7, .ref b8, .ref b9, .ref b10, .int 0, .ref b11, .ref b12, .int 0, .int 0, .ref b13, .ref b14, .ref b15, .ref b16, .ref b17, .ref b18, .ref b19, .int 0, .int 0, .int 0, .int 0, .ref b20, .ref b21, .ref b22, .ref b23, .ref b24, .ref b25, .int 0, .ref b26, .ref b27, .ref b28, .ref b29, .ref b30, .ref b31, .ref b32, .int 0, .int 0, .ref b33, .ref b34, .ref b35, .ref b36, .ref b37, .int 0, .ref b38, .ref b39, .int 0, .ref b40, .ref b41, .ref b42, .ref b43, .ref b44, .ref b45, .int 0, .ref b46, .ref b47, .ref b48, .ref b49, .ref b50, .ref b51, .ref b52, .ref b53, .ref b54, .ref b55, .ref b56, .int 0, .int 0, .int 0, .int 0, .int (-1), .int 0, .int 0, .int 0, .int 0, .int 0, .int 0, .ref b57, .ref b58, .ref b59, .int 0, .ref b60, .ref b61, .int 0, .ref b62, .ref b63, .ref b64, .int 0, .ref b65, .ref b66, .ref b67, .ref b68, .ref b69, .ref b70, .int 0, .int (-1), .int 0, .ref b71, .int (-1), .int (-1), .int (-1), .ref b72, .int 0, .ref b73, .int 0, .ref b74, .int 0, .int 0, .ref b75]))]) (m29_MM_refuse l D kA a0) ml_MM_401 0 rfl rfl rfl d_MM_run_23 rfl rfl [] [0] rfl (by decide) rfl (by decide) (by decide) (Nat.le_of_ble_eq_true rfl) (Nat.le_of_ble_eq_true rfl) (Nat.le_of_ble_eq_true rfl) (Nat.le_of_ble_eq_true rfl) (Nat.le_of_ble_eq_true rfl) (fun r23 w1 hw1 => ?_)
  obtain ⟨rfl, rfl⟩ := hw1
  refine ax_w ([(a0, .inr (12, [.ref b0, .ref b1, .int 0, .int 0, .int 0, .int 0, .int 0, .int 0, .int 0, .int 0, .int 0, .int 0, .int 0, .ref b2, .ref b3, .ref b4, .ref b5, .ref b6, .int 0, .int 1, .int 0, .ref b7, .ref b8, .ref b9, .ref b10, .int 0, .ref b11, .ref b12, .int 0, .int 0, .ref b13, .ref b14, .ref b15, .ref b16, .ref b17, .ref b18, .ref b19, .int 0, .int 0, .int 0, .int 0, .ref b20, .ref b21, .ref b22, .ref b23, .ref b24, .ref b25, .int 0, .ref b26, .ref b27, .ref b28, .ref b29, .ref b30, .ref b31, .ref b32, .int 0, .int 0, .ref b33, .ref b34, .ref b35, .ref b36, .ref b37, .int 0, .ref b38, .ref b39, .int 0, .ref b40, .ref b41, .ref b42, .ref b43, .ref b44, .ref b45, .int 0, .ref b46, .ref b47, .ref b48, .ref b49, .ref b50, .ref b51, .ref b52, .ref b53, .ref b54, .ref b55, .ref b56, .int 0, .int 0, .int 0, .int 0, .int (-1), .int 0, .int 0, .int 0, .int 0, .int 0, .int 0, .ref b57, .ref b58, .ref b59, .int 0, .ref b60, .ref b61, .int 0, .ref b62, .ref b63, .ref b64, .int 0, .ref b65, .ref b66, .ref b67, .ref b68, .ref b69, .ref b70, .int 0, .int (-1), .int 0, .ref b71, .int (-1), .int (-1), .int (-1), .ref b72, .int 0, .ref b73, .int 0, .ref b74, .int 0, .int 0, .ref b75]))]) rfl ?_
  refine ax_if_eq (pc := 26) C 31 d_MM_run_26 (by decide) (fun _ => ?_) (fun h => absurd h (by decide))
  refine ax_iconst (pc := 31) C 0 d_MM_run_31 (by decide +kernel) ?_
  refine ax_istore_n (pc := 32) C d_MM_run_32 rfl (Nat.le_of_ble_eq_true rfl) ([(2, .int 0), (0, .ref a0), (1, .int i0)]) rfl ?_
  refine ax_iload_n (pc := 33) C d_MM_run_33 rfl 0 rfl ?_
  refine ax_iload_n (pc := 34) C d_MM_run_34 rfl 2 rfl ?_
  refine ax_icmp_ge (pc := 35) C 55 d_MM_run_35 (by decide) (fun h => absurd h h2) (fun _ => ?_)
  refine ax_aload_n (pc := 38) C d_MM_run_38 rfl 1 rfl ?_
  refine ax_get (pc := 39) C k_MM 87 lk_MM_278 d_MM_run_39 (Nat.le_of_ble_eq_true rfl) 0 rfl rfl ?_
  refine ax_if_ne (pc := 42) C 55 d_MM_run_42 (by decide) (fun h => absurd h (by decide)) (fun _ => ?_)
  refine ax_aload_n (pc := 45) C d_MM_run_45 rfl 1 rfl ?_
  refine ax_callVv (pc := 46) C (As := []) (rest := []) (wr := []) (m76_MM_step1 l D kA a0 b0 b1 b2 b3 b4 b5 b6 b7 b8 b9 b10 b11 b12 b13 b14 b15 b16 b17 b18 b19 b20 b21 b22 b23 b24 b25 b26 b27 b28 b29 b30 b31 b32 b33 b34 b35 b36 b37 b38 b39 b40 b41 b42 b43 b44 b45 b46 b47 b48 b49 b50 b51 b52 b53 b54 b55 b56 b57 b58 b59 b60 b61 b62 b63 b64 b65 b66 b67 b68 b69 b70 b71 b72 b73 b74 b75) ml_MM_756 0 rfl rfl rfl d_MM_run_46 rfl rfl [0] [] rfl (by decide) rfl (by decide) (by decide) (Nat.le_of_ble_eq_true rfl) (Nat.le_of_ble_eq_true rfl) (Nat.le_of_ble_eq_true rfl) (Nat.le_of_ble_eq_true rfl) (Nat.le_of_ble_eq_true rfl) (fun w1 hw1 => ?_)
  obtain rfl := hw1
  refine ax_w ([(a0, .inr (12, [.ref b0, .ref b1, .int 0, .int 0, .int 0, .int 0, .int 0, .int 0, .int 0, .int 0, .int 0, .int 0, .int 0, .ref b2, .ref b3, .ref b4, .ref b5, .ref b6, .int 0, .int 1, .int 0, .ref b7, .ref b8, .ref b9, .ref b10, .int 0, .ref b11, .ref b12, .int 0, .int 0, .ref b13, .ref b14, .ref b15, .ref b16, .ref b17, .ref b18, .ref b19, .int 0, .int 0, .int 0, .int 0, .ref b20, .ref b21, .ref b22, .ref b23, .ref b24, .ref b25, .int 0, .ref b26, .ref b27, .ref b28, .ref b29, .ref b30, .ref b31, .ref b32, .int 0, .int 0, .ref b33, .ref b34, .ref b35, .ref b36, .ref b37, .int 0, .ref b38, .ref b39, .int 0, .ref b40, .ref b41, .ref b42, .ref b43, .ref b44, .ref b45, .int 0, .ref b46, .ref b47, .ref b48, .ref b49, .ref b50, .ref b51, .ref b52, .ref b53, .ref b54, .ref b55, .ref b56, .int 0, .int 0, .int 0, .int 2, .int (-1), .int 0, .int 0, .int 0, .int 0, .int 0, .int 0, .ref b57, .ref b58, .ref b59, .int 0, .ref b60, .ref b61, .int 0, .ref b62, .ref b63, .ref b64, .int 0, .ref b65, .ref b66, .ref b67, .ref b68, .ref b69, .ref b70, .int 0, .int (-1), .int 0, .ref b71, .int (-1), .int (-1), .int (-1), .ref b72, .int 0, .ref b73, .int 0, .ref b74, .int 0, .int 0, .ref b75]))]) rfl ?_
  refine ax_iinc (pc := 49) C (1) d_MM_run_49 0 rfl (by decide) (Nat.le_of_ble_eq_true rfl) ([(2, .int 1), (0, .ref a0), (1, .int i0)]) rfl ?_
  refine ax_goto (pc := 52) C 33 d_MM_run_52 (by decide) ?_
  refine ax_iload_n (pc := 33) C d_MM_run_33 rfl 0 rfl ?_
  refine ax_iload_n (pc := 34) C d_MM_run_34 rfl 2 rfl ?_
  refine ax_icmp_ge (pc := 35) C 55 d_MM_run_35 (by decide) (fun hc35_1 => ?_) (fun hc35_1 => ?_)
  · refine ax_aload_n (pc := 55) C d_MM_run_55 rfl 1 rfl ?_
    refine ax_get (pc := 56) C k_MM 87 lk_MM_278 d_MM_run_56 (Nat.le_of_ble_eq_true rfl) 0 rfl rfl ?_
    exact ax_iret (pc := 59) C d_MM_run_59 ⟨rfl, rfl⟩ (by decide) (by decide)
  · refine ax_aload_n (pc := 38) C d_MM_run_38 rfl 1 rfl ?_
    refine ax_get (pc := 39) C k_MM 87 lk_MM_278 d_MM_run_39 (Nat.le_of_ble_eq_true rfl) 0 rfl rfl ?_
    refine ax_if_ne (pc := 42) C 55 d_MM_run_42 (by decide) (fun _ => ?_) (fun h => absurd h (by decide))
    refine ax_aload_n (pc := 55) C d_MM_run_55 rfl 1 rfl ?_
    refine ax_get (pc := 56) C k_MM 87 lk_MM_278 d_MM_run_56 (Nat.le_of_ble_eq_true rfl) 0 rfl rfl ?_
    exact ax_iret (pc := 59) C d_MM_run_59 ⟨rfl, rfl⟩ (by decide) (by decide)
set_option maxHeartbeats 4000000 in
set_option maxRecDepth 100000 in
theorem m78_MM_thrown (l : Launch) (D : va_G) (kA : Nat → ClassId) (a0 : Nat) (b0 : Nat) (b1 : Nat) (b2 : Nat) (b3 : Nat) (b4 : Nat) (b5 : Nat) (b6 : Nat) (b7 : Nat) (b8 : Nat) (b9 : Nat) (b10 : Nat) (b11 : Nat) (b12 : Nat) (b13 : Nat) (b14 : Nat) (b15 : Nat) (b16 : Nat) (b17 : Nat) (b18 : Nat) (b19 : Nat) (b20 : Nat) (b21 : Nat) (b22 : Nat) (b23 : Nat) (b24 : Nat) (b25 : Nat) (b26 : Nat) (b27 : Nat) (b28 : Nat) (b29 : Nat) (b30 : Nat) (b31 : Nat) (b32 : Nat) (b33 : Nat) (b34 : Nat) (b35 : Nat) (b36 : Nat) (b37 : Nat) (b38 : Nat) (b39 : Nat) (b40 : Nat) (b41 : Nat) (b42 : Nat) (b43 : Nat) (b44 : Nat) (b45 : Nat) (b46 : Nat) (b47 : Nat) (b48 : Nat) (b49 : Nat) (b50 : Nat) (b51 : Nat) (b52 : Nat) (b53 : Nat) (b54 : Nat) (b55 : Nat) (b56 : Nat) (b57 : Nat) (b58 : Nat) (b59 : Nat) (b60 : Nat) (b61 : Nat) (b62 : Nat) (b63 : Nat) (b64 : Nat) (b65 : Nat) (b66 : Nat) (b67 : Nat) (b68 : Nat) (b69 : Nat) (b70 : Nat) (b71 : Nat) (b72 : Nat) (b73 : Nat) (b74 : Nat) (b75 : Nat) : ax_Mi l D kA y_MM_thrown b_MM_thrown 1 .int 0 0 0 0 [.ref a0] [(a0, .inr (12, [.ref b0, .ref b1, .int 0, .int 0, .int 0, .int 0, .int 0, .int 0, .int 0, .int 0, .int 0, .int 0, .int 0, .ref b2, .ref b3, .ref b4, .ref b5, .ref b6, .int 0, .int 1, .int 0, .ref b7, .ref b8, .ref b9, .ref b10, .int 0, .ref b11, .ref b12, .int 0, .int 0, .ref b13, .ref b14, .ref b15, .ref b16, .ref b17, .ref b18, .ref b19, .int 0, .int 0, .int 0, .int 0, .ref b20, .ref b21, .ref b22, .ref b23, .ref b24, .ref b25, .int 0, .ref b26, .ref b27, .ref b28, .ref b29, .ref b30, .ref b31, .ref b32, .int 0, .int 0, .ref b33, .ref b34, .ref b35, .ref b36, .ref b37, .int 0, .ref b38, .ref b39, .int 0, .ref b40, .ref b41, .ref b42, .ref b43, .ref b44, .ref b45, .int 0, .ref b46, .ref b47, .ref b48, .ref b49, .ref b50, .ref b51, .ref b52, .ref b53, .ref b54, .ref b55, .ref b56, .int 0, .int 0, .int 0, .int 2, .int (-1), .int 0, .int 0, .int 0, .int 0, .int 0, .int 0, .ref b57, .ref b58, .ref b59, .int 0, .ref b60, .ref b61, .int 0, .ref b62, .ref b63, .ref b64, .int 0, .ref b65, .ref b66, .ref b67, .ref b68, .ref b69, .ref b70, .int 0, .int (-1), .int 0, .ref b71, .int (-1), .int (-1), .int (-1), .ref b72, .int 0, .ref b73, .int 0, .ref b74, .int 0, .int 0, .ref b75]))] (fun r w1 => r = 0 ∧ w1 = [(a0, .inr (12, [.ref b0, .ref b1, .int 0, .int 0, .int 0, .int 0, .int 0, .int 0, .int 0, .int 0, .int 0, .int 0, .int 0, .ref b2, .ref b3, .ref b4, .ref b5, .ref b6, .int 0, .int 1, .int 0, .ref b7, .ref b8, .ref b9, .ref b10, .int 0, .ref b11, .ref b12, .int 0, .int 0, .ref b13, .ref b14, .ref b15, .ref b16, .ref b17, .ref b18, .ref b19, .int 0, .int 0, .int 0, .int 0, .ref b20, .ref b21, .ref b22, .ref b23, .ref b24, .ref b25, .int 0, .ref b26, .ref b27, .ref b28, .ref b29, .ref b30, .ref b31, .ref b32, .int 0, .int 0, .ref b33, .ref b34, .ref b35, .ref b36, .ref b37, .int 0, .ref b38, .ref b39, .int 0, .ref b40, .ref b41, .ref b42, .ref b43, .ref b44, .ref b45, .int 0, .ref b46, .ref b47, .ref b48, .ref b49, .ref b50, .ref b51, .ref b52, .ref b53, .ref b54, .ref b55, .ref b56, .int 0, .int 0, .int 0, .int 2, .int (-1), .int 0, .int 0, .int 0, .int 0, .int 0, .int 0, .ref b57, .ref b58, .ref b59, .int 0, .ref b60, .ref b61, .int 0, .ref b62, .ref b63, .ref b64, .int 0, .ref b65, .ref b66, .ref b67, .ref b68, .ref b69, .ref b70, .int 0, .int (-1), .int 0, .ref b71, .int (-1), .int (-1), .int (-1), .ref b72, .int 0, .ref b73, .int 0, .ref b74, .int 0, .int 0, .ref b75]))]) := by
  refine ax_Mi.of (by decide +kernel) (Nat.le_of_ble_eq_true rfl) ?_
  intro p e s m args below meth c C hnm
  refine ax_ls ([(0, .ref a0)]) [0] rfl ?_
  refine ax_aload_n (pc := 0) C d_MM_thrown_0 rfl 0 rfl ?_
  refine ax_get (pc := 1) C k_MM 4 lk_MM_24 d_MM_thrown_1 (Nat.le_of_ble_eq_true rfl) 0 rfl rfl ?_
  exact ax_iret (pc := 4) C d_MM_thrown_4 ⟨rfl, rfl⟩ (by decide) (by decide)
abbrev b_Law_clause : ByteArray := method_6_code
def y_Law_clause : MethodName := ⟨"ClauseProverLaw", "clause", "(LClauseProver;II[J)I"⟩
theorem d_Law_clause_0 : decode b_Law_clause 0 = .ok (.aload_n 3, 1) := by decide +kernel
theorem d_Law_clause_1 : decode b_Law_clause 1 = .ok (.iconst 0, 1) := by decide +kernel
theorem d_Law_clause_2 : decode b_Law_clause 2 = .ok (.aload_n 0, 1) := by decide +kernel
theorem d_Law_clause_3 : decode b_Law_clause 3 = .ok (.iload_n 1, 1) := by decide +kernel
theorem d_Law_clause_4 : decode b_Law_clause 4 = .ok (.iload_n 2, 1) := by decide +kernel
theorem d_Law_clause_5 : decode b_Law_clause 5 = .ok (.invokevirtual 24, 3) := by decide +kernel
theorem d_Law_clause_8 : decode b_Law_clause 8 = .ok (.i2l, 1) := by decide +kernel
theorem d_Law_clause_9 : decode b_Law_clause 9 = .ok (.lastore, 1) := by decide +kernel
theorem d_Law_clause_10 : decode b_Law_clause 10 = .ok (.goto 11, 3) := by decide +kernel
theorem d_Law_clause_13 : decode b_Law_clause 13 = .ok (.astore 4, 2) := by decide +kernel
theorem d_Law_clause_15 : decode b_Law_clause 15 = .ok (.iconst 1, 1) := by decide +kernel
theorem d_Law_clause_16 : decode b_Law_clause 16 = .ok (.ireturn, 1) := by decide +kernel
theorem d_Law_clause_17 : decode b_Law_clause 17 = .ok (.astore 4, 2) := by decide +kernel
theorem d_Law_clause_19 : decode b_Law_clause 19 = .ok (.iconst 2, 1) := by decide +kernel
theorem d_Law_clause_20 : decode b_Law_clause 20 = .ok (.ireturn, 1) := by decide +kernel
theorem d_Law_clause_21 : decode b_Law_clause 21 = .ok (.iconst 0, 1) := by decide +kernel
theorem d_Law_clause_22 : decode b_Law_clause 22 = .ok (.ireturn, 1) := by decide +kernel
abbrev b_CP_clause : ByteArray := prog_1_method_8_code
def y_CP_clause : MethodName := ⟨"ClauseProver", "clause", "(II)I"⟩
theorem d_CP_clause_0 : decode b_CP_clause 0 = .ok (.aload_n 0, 1) := by decide +kernel
theorem d_CP_clause_1 : decode b_CP_clause 1 = .ok (.getfield 60, 3) := by decide +kernel
theorem d_CP_clause_4 : decode b_CP_clause 4 = .ok (.iload_n 1, 1) := by decide +kernel
theorem d_CP_clause_5 : decode b_CP_clause 5 = .ok (.invokevirtual 150, 3) := by decide +kernel
theorem d_CP_clause_8 : decode b_CP_clause 8 = .ok (.ifCond .ne 13, 3) := by decide +kernel
theorem d_CP_clause_11 : decode b_CP_clause 11 = .ok (.new 154, 3) := by decide +kernel
theorem d_CP_clause_14 : decode b_CP_clause 14 = .ok (.dup, 1) := by decide +kernel
theorem d_CP_clause_15 : decode b_CP_clause 15 = .ok (.ldc 156, 2) := by decide +kernel
theorem d_CP_clause_17 : decode b_CP_clause 17 = .ok (.invokespecial 158, 3) := by decide +kernel
theorem d_CP_clause_20 : decode b_CP_clause 20 = .ok (.athrow, 1) := by decide +kernel
theorem d_CP_clause_21 : decode b_CP_clause 21 = .ok (.iload_n 2, 1) := by decide +kernel
theorem d_CP_clause_22 : decode b_CP_clause 22 = .ok (.ifCond .lt 9, 3) := by decide +kernel
theorem d_CP_clause_25 : decode b_CP_clause 25 = .ok (.iload_n 2, 1) := by decide +kernel
theorem d_CP_clause_26 : decode b_CP_clause 26 = .ok (.bipush 7, 2) := by decide +kernel
theorem d_CP_clause_28 : decode b_CP_clause 28 = .ok (.if_icmp .le 13, 3) := by decide +kernel
theorem d_CP_clause_31 : decode b_CP_clause 31 = .ok (.new 100, 3) := by decide +kernel
theorem d_CP_clause_34 : decode b_CP_clause 34 = .ok (.dup, 1) := by decide +kernel
theorem d_CP_clause_35 : decode b_CP_clause 35 = .ok (.ldc 159, 2) := by decide +kernel
theorem d_CP_clause_37 : decode b_CP_clause 37 = .ok (.invokespecial 104, 3) := by decide +kernel
theorem d_CP_clause_40 : decode b_CP_clause 40 = .ok (.athrow, 1) := by decide +kernel
theorem d_CP_clause_41 : decode b_CP_clause 41 = .ok (.aload_n 0, 1) := by decide +kernel
theorem d_CP_clause_42 : decode b_CP_clause 42 = .ok (.getfield 60, 3) := by decide +kernel
theorem d_CP_clause_45 : decode b_CP_clause 45 = .ok (.iload_n 1, 1) := by decide +kernel
theorem d_CP_clause_46 : decode b_CP_clause 46 = .ok (.iload_n 2, 1) := by decide +kernel
theorem d_CP_clause_47 : decode b_CP_clause 47 = .ok (.invokevirtual 161, 3) := by decide +kernel
theorem d_CP_clause_50 : decode b_CP_clause 50 = .ok (.ireturn, 1) := by decide +kernel
abbrev b_Sto_has : ByteArray := prog_9_method_3_code
def y_Sto_has : MethodName := ⟨"ClauseProver$Store", "has", "(I)Z"⟩
theorem d_Sto_has_0 : decode b_Sto_has 0 = .ok (.iload_n 1, 1) := by decide +kernel
theorem d_Sto_has_1 : decode b_Sto_has 1 = .ok (.ifCond .lt 15, 3) := by decide +kernel
theorem d_Sto_has_4 : decode b_Sto_has 4 = .ok (.iload_n 1, 1) := by decide +kernel
theorem d_Sto_has_5 : decode b_Sto_has 5 = .ok (.aload_n 0, 1) := by decide +kernel
theorem d_Sto_has_6 : decode b_Sto_has 6 = .ok (.getfield 34, 3) := by decide +kernel
theorem d_Sto_has_9 : decode b_Sto_has 9 = .ok (.if_icmp .ge 7, 3) := by decide +kernel
theorem d_Sto_has_12 : decode b_Sto_has 12 = .ok (.iconst 1, 1) := by decide +kernel
theorem d_Sto_has_13 : decode b_Sto_has 13 = .ok (.goto 4, 3) := by decide +kernel
theorem d_Sto_has_16 : decode b_Sto_has 16 = .ok (.iconst 0, 1) := by decide +kernel
theorem d_Sto_has_17 : decode b_Sto_has 17 = .ok (.ireturn, 1) := by decide +kernel
theorem tb_classLink_1290 : Cond.classLink "ClauseProver" 154 "java/util/NoSuchElementException" ∈ lw_tbg := tb_in (i := 1290) (by decide +kernel) rfl
theorem tb_instantiable_1291 : Cond.instantiable "java/util/NoSuchElementException" 6 ∈ lw_tbg := tb_in (i := 1291) (by decide +kernel) rfl
theorem tb_initialized_25 : Cond.initialized "java/util/NoSuchElementException" ∈ lw_tbg := tb_in (i := 25) (by decide +kernel) rfl
theorem tb_classLink_1284 : Cond.classLink "ClauseProverLaw" 28 "java/util/NoSuchElementException" ∈ lw_tbg := tb_in (i := 1284) (by decide +kernel) rfl
set_option maxHeartbeats 4000000 in
set_option maxRecDepth 100000 in
theorem m81_Sto_has (l : Launch) (D : va_G) (kA : Nat → ClassId) (a0 : Nat) (b0 : Nat) (b1 : Nat) (b2 : Nat) (b3 : Nat) (i0 : Int32) : ax_Mi l D kA y_Sto_has b_Sto_has 2 .boolean 0 0 0 0 [.ref a0, .int i0] [(a0, .inr (6, [.ref b0, .ref b1, .int 0, .int 0, .ref b2, .ref b3]))] (fun r w1 => r = 0 ∧ w1 = [(a0, .inr (6, [.ref b0, .ref b1, .int 0, .int 0, .ref b2, .ref b3]))]) := by
  refine ax_Mi.of (by decide +kernel) (Nat.le_of_ble_eq_true rfl) ?_
  intro p e s m args below meth c C hnm
  refine ax_ls ([(0, .ref a0), (1, .int i0)]) [0, 1] rfl ?_
  refine ax_iload_n (pc := 0) C d_Sto_has_0 rfl 1 rfl ?_
  refine ax_if_lt (pc := 1) C 16 d_Sto_has_1 (by decide) (fun hc1_1 => ?_) (fun hc1_1 => ?_)
  · refine ax_iconst (pc := 16) C 0 d_Sto_has_16 (by decide +kernel) ?_
    exact ax_zret (pc := 17) C d_Sto_has_17 rfl ⟨rfl, rfl⟩ (by decide) (by decide)
  · refine ax_iload_n (pc := 4) C d_Sto_has_4 rfl 1 rfl ?_
    refine ax_aload_n (pc := 5) C d_Sto_has_5 rfl 0 rfl ?_
    refine ax_get (pc := 6) C k_Sto 2 lk_Sto_34 d_Sto_has_6 (Nat.le_of_ble_eq_true rfl) 0 rfl rfl ?_
    refine ax_icmp_ge (pc := 9) C 16 d_Sto_has_9 (by decide) (fun _ => ?_) (fun h => absurd (Int32.not_lt.mp hc1_1) h)
    refine ax_iconst (pc := 16) C 0 d_Sto_has_16 (by decide +kernel) ?_
    exact ax_zret (pc := 17) C d_Sto_has_17 rfl ⟨rfl, rfl⟩ (by decide) (by decide)
theorem tc_Sto_has : Cond.code y_Sto_has b_Sto_has 2 (some (.boolean)) ∈ lw_tbg := tb_in (i := 1133) (by decide +kernel) rfl
theorem ml_CP_150 : ax_LV "ClauseProver" 150 y_Sto_has b_Sto_has 2 (some (.boolean)) 1 := ax_LV.mk (tb_in (i := 1289) (by decide +kernel) rfl) (tb_in (i := 1131) (by decide +kernel) rfl) (tb_in (i := 1132) (by decide +kernel) rfl) ti_Sto tc_Sto_has (by decide +kernel)
set_option maxHeartbeats 4000000 in
set_option maxRecDepth 100000 in
theorem m80_CP_clause (l : Launch) (htr : l.stackTraces = false) (D : va_G) (kA : Nat → ClassId) (a0 : Nat) (a1 : Nat) (b0 : Nat) (b1 : Nat) (b2 : Nat) (b3 : Nat) (b4 : Nat) (b5 : Nat) (b6 : Nat) (b7 : Nat) (b8 : Nat) (b9 : Nat) (b10 : Nat) (b11 : Nat) (i0 : Int32) (i1 : Int32) : ax_Mx l D kA y_CP_clause b_CP_clause 3 (some .int) 6 90 1 6 [.ref a0, .int i0, .int i1] [(a0, .inr (11, [.ref b0, .ref b1, .ref b2, .ref b3, .ref b4, .ref b5, .ref b6, .ref a1, .ref b7, .ref b8, .int 0, .int 0])), (a1, .inr (6, [.ref b9, .ref b10, .int 0, .int 0, .ref b3, .ref b11]))] "java/util/NoSuchElementException" (fun w1 => w1 = [(a0, .inr (11, [.ref b0, .ref b1, .ref b2, .ref b3, .ref b4, .ref b5, .ref b6, .ref a1, .ref b7, .ref b8, .int 0, .int 0])), (a1, .inr (6, [.ref b9, .ref b10, .int 0, .int 0, .ref b3, .ref b11]))]) := by
  refine ax_Mx.of (by decide +kernel) (Nat.le_of_ble_eq_true rfl) ?_
  intro p e s m args below meth c C hadm hex hX hP0
  refine ax_ls ([(0, .ref a0), (1, .int i0), (2, .int i1)]) [0, 1, 2] rfl ?_
  refine ax_aload_n (pc := 0) C d_CP_clause_0 rfl 0 rfl ?_
  refine ax_get (pc := 1) C k_CP 7 lk_CP_60 d_CP_clause_1 (Nat.le_of_ble_eq_true rfl) 0 rfl rfl ?_
  refine ax_iload_n (pc := 4) C d_CP_clause_4 rfl 1 rfl ?_
  refine ax_callVi (pc := 5) C (As := [.int i0]) (rest := []) (wr := [(a0, .inr (11, [.ref b0, .ref b1, .ref b2, .ref b3, .ref b4, .ref b5, .ref b6, .ref a1, .ref b7, .ref b8, .int 0, .int 0]))]) (m81_Sto_has l D kA a1 b9 b10 b3 b11 i0) ml_CP_150 1 rfl rfl rfl d_CP_clause_5 rfl rfl [1] [0] rfl (by decide) rfl (by decide) (by decide) (Nat.le_of_ble_eq_true rfl) (Nat.le_of_ble_eq_true rfl) (Nat.le_of_ble_eq_true rfl) (Nat.le_of_ble_eq_true rfl) (Nat.le_of_ble_eq_true rfl) (fun r5 w1 hw1 => ?_)
  obtain ⟨rfl, rfl⟩ := hw1
  refine ax_w ([(a0, .inr (11, [.ref b0, .ref b1, .ref b2, .ref b3, .ref b4, .ref b5, .ref b6, .ref a1, .ref b7, .ref b8, .int 0, .int 0])), (a1, .inr (6, [.ref b9, .ref b10, .int 0, .int 0, .ref b3, .ref b11]))]) rfl ?_
  refine ax_if_ne (pc := 8) C 21 d_CP_clause_8 (by decide) (fun h => absurd h (by decide)) (fun _ => ?_)
  exact ax_throw2 (pc := 11) C hadm htr hex hX hP0 (is := 156) (tx := "no such clause") ta_NSE (by decide +kernel) (by decide) tb_classLink_1290 tb_instantiable_1291 tb_initialized_25 (by decide +kernel) (by decide +kernel) (by decide +kernel) (by decide +kernel) d_CP_clause_11 d_CP_clause_14 d_CP_clause_15 d_CP_clause_17 d_CP_clause_20 (Nat.le_of_ble_eq_true rfl) (Nat.le_of_ble_eq_true rfl) (Nat.le_of_ble_eq_true rfl) (Nat.le_of_ble_eq_true rfl) rfl rfl rfl
theorem tc_CP_clause : Cond.code y_CP_clause b_CP_clause 3 (some (.int)) ∈ lw_tbg := tb_in (i := 1288) (by decide +kernel) rfl
theorem ml_Law_24 : ax_LV "ClauseProverLaw" 24 y_CP_clause b_CP_clause 3 (some (.int)) 2 := ax_LV.mk (tb_in (i := 1285) (by decide +kernel) rfl) (tb_in (i := 1286) (by decide +kernel) rfl) (tb_in (i := 1287) (by decide +kernel) rfl) ti_CP tc_CP_clause (by decide +kernel)
set_option maxHeartbeats 4000000 in
set_option maxRecDepth 100000 in
theorem m79_Law_clause (l : Launch) (htr : l.stackTraces = false) (D : va_G) (kA : Nat → ClassId) (a0 : Nat) (a1 : Nat) (b0 : Nat) (b1 : Nat) (b2 : Nat) (b3 : Nat) (b4 : Nat) (b5 : Nat) (b6 : Nat) (b7 : Nat) (b8 : Nat) (b9 : Nat) (b10 : Nat) (b11 : Nat) (b12 : Nat) (i0 : Int32) (i1 : Int32) : ax_Mw l D kA y_Law_clause b_Law_clause 5 [(0, 10, 13, 28), (0, 10, 17, 19)] 7 112 1 6 [.ref a0, .int i0, .int i1, .ref b0] [(a0, .inr (11, [.ref b1, .ref b2, .ref b3, .ref b4, .ref b5, .ref b6, .ref b7, .ref a1, .ref b8, .ref b9, .int 0, .int 0])), (a1, .inr (6, [.ref b10, .ref b11, .int 0, .int 0, .ref b4, .ref b12]))] (fun r w1 => r = 1 ∧ w1 = [(a0, .inr (11, [.ref b1, .ref b2, .ref b3, .ref b4, .ref b5, .ref b6, .ref b7, .ref a1, .ref b8, .ref b9, .int 0, .int 0])), (a1, .inr (6, [.ref b10, .ref b11, .int 0, .int 0, .ref b4, .ref b12]))]) := by
  refine ax_Mw.of (by decide +kernel) (Nat.le_of_ble_eq_true rfl) ?_
  intro p e s m args below meth c C hadm hmeth hcode htb hX
  refine ax_ls ([(0, .ref a0), (1, .int i0), (2, .int i1), (3, .ref b0)]) [0, 1, 2, 3] rfl ?_
  refine ax_aload_n (pc := 0) C d_Law_clause_0 rfl 3 rfl ?_
  refine ax_iconst (pc := 1) C 0 d_Law_clause_1 (by decide +kernel) ?_
  refine ax_aload_n (pc := 2) C d_Law_clause_2 rfl 0 rfl ?_
  refine ax_iload_n (pc := 3) C d_Law_clause_3 rfl 1 rfl ?_
  refine ax_iload_n (pc := 4) C d_Law_clause_4 rfl 2 rfl ?_
  refine ax_callVx (pc := 5) C hX (hpc := 13) (As := [.int i0, .int i1]) (rest := [.int 0, .ref b0]) (wr := []) (m80_CP_clause l htr D kA a0 a1 b1 b2 b3 b4 b5 b6 b7 b8 b9 b10 b11 b12 i0 i1) ml_Law_24 0 rfl rfl rfl d_Law_clause_5 rfl rfl [0, 1] [] rfl (by decide) rfl (by decide) (by decide) (Nat.le_of_ble_eq_true rfl) (Nat.le_of_ble_eq_true rfl) (Nat.le_of_ble_eq_true rfl) (Nat.le_of_ble_eq_true rfl) (Nat.le_of_ble_eq_true rfl) (cx_F1 hadm hmeth hcode C.2.2.2.1 htb ⟨by decide, by decide⟩ (by decide) (C.2.2.2.2.1 _ tb_classLink_1284)) (fun xe5 w1 hw1 => ?_)
  obtain rfl := hw1
  refine ax_w ([(a0, .inr (11, [.ref b1, .ref b2, .ref b3, .ref b4, .ref b5, .ref b6, .ref b7, .ref a1, .ref b8, .ref b9, .int 0, .int 0])), (a1, .inr (6, [.ref b10, .ref b11, .int 0, .int 0, .ref b4, .ref b12]))]) rfl ?_
  refine ax_astore (pc := 13) C d_Law_clause_13 (Nat.le_of_ble_eq_true rfl) ([(4, .ref xe5), (0, .ref a0), (1, .int i0), (2, .int i1), (3, .ref b0)]) rfl ?_
  refine ax_iconst (pc := 15) C 1 d_Law_clause_15 (by decide +kernel) ?_
  exact ax_iret (pc := 16) C d_Law_clause_16 ⟨rfl, rfl⟩ (by decide) (by decide)
abbrev b_MM_clause : ByteArray := prog_14_method_113_code
def y_MM_clause : MethodName := ⟨"ClauseProverModel", "clause", "(II)I"⟩
theorem d_MM_clause_0 : decode b_MM_clause 0 = .ok (.aload_n 0, 1) := by decide +kernel
theorem d_MM_clause_1 : decode b_MM_clause 1 = .ok (.iload_n 1, 1) := by decide +kernel
theorem d_MM_clause_2 : decode b_MM_clause 2 = .ok (.invokevirtual 759, 3) := by decide +kernel
theorem d_MM_clause_5 : decode b_MM_clause 5 = .ok (.ifCond .eq 5, 3) := by decide +kernel
theorem d_MM_clause_8 : decode b_MM_clause 8 = .ok (.iconst 0, 1) := by decide +kernel
theorem d_MM_clause_9 : decode b_MM_clause 9 = .ok (.ireturn, 1) := by decide +kernel
theorem d_MM_clause_10 : decode b_MM_clause 10 = .ok (.iload_n 2, 1) := by decide +kernel
theorem d_MM_clause_11 : decode b_MM_clause 11 = .ok (.tableswitch 101 0 7 #[45, 52, 59, 66, 73, 80, 87, 94], 45) := by decide +kernel
theorem d_MM_clause_56 : decode b_MM_clause 56 = .ok (.aload_n 0, 1) := by decide +kernel
theorem d_MM_clause_57 : decode b_MM_clause 57 = .ok (.getfield 247, 3) := by decide +kernel
theorem d_MM_clause_60 : decode b_MM_clause 60 = .ok (.iload_n 1, 1) := by decide +kernel
theorem d_MM_clause_61 : decode b_MM_clause 61 = .ok (.iaload, 1) := by decide +kernel
theorem d_MM_clause_62 : decode b_MM_clause 62 = .ok (.ireturn, 1) := by decide +kernel
theorem d_MM_clause_63 : decode b_MM_clause 63 = .ok (.aload_n 0, 1) := by decide +kernel
theorem d_MM_clause_64 : decode b_MM_clause 64 = .ok (.getfield 250, 3) := by decide +kernel
theorem d_MM_clause_67 : decode b_MM_clause 67 = .ok (.iload_n 1, 1) := by decide +kernel
theorem d_MM_clause_68 : decode b_MM_clause 68 = .ok (.iaload, 1) := by decide +kernel
theorem d_MM_clause_69 : decode b_MM_clause 69 = .ok (.ireturn, 1) := by decide +kernel
theorem d_MM_clause_70 : decode b_MM_clause 70 = .ok (.aload_n 0, 1) := by decide +kernel
theorem d_MM_clause_71 : decode b_MM_clause 71 = .ok (.getfield 253, 3) := by decide +kernel
theorem d_MM_clause_74 : decode b_MM_clause 74 = .ok (.iload_n 1, 1) := by decide +kernel
theorem d_MM_clause_75 : decode b_MM_clause 75 = .ok (.iaload, 1) := by decide +kernel
theorem d_MM_clause_76 : decode b_MM_clause 76 = .ok (.ireturn, 1) := by decide +kernel
theorem d_MM_clause_77 : decode b_MM_clause 77 = .ok (.aload_n 0, 1) := by decide +kernel
theorem d_MM_clause_78 : decode b_MM_clause 78 = .ok (.getfield 238, 3) := by decide +kernel
theorem d_MM_clause_81 : decode b_MM_clause 81 = .ok (.iload_n 1, 1) := by decide +kernel
theorem d_MM_clause_82 : decode b_MM_clause 82 = .ok (.iaload, 1) := by decide +kernel
theorem d_MM_clause_83 : decode b_MM_clause 83 = .ok (.ireturn, 1) := by decide +kernel
theorem d_MM_clause_84 : decode b_MM_clause 84 = .ok (.aload_n 0, 1) := by decide +kernel
theorem d_MM_clause_85 : decode b_MM_clause 85 = .ok (.getfield 241, 3) := by decide +kernel
theorem d_MM_clause_88 : decode b_MM_clause 88 = .ok (.iload_n 1, 1) := by decide +kernel
theorem d_MM_clause_89 : decode b_MM_clause 89 = .ok (.iaload, 1) := by decide +kernel
theorem d_MM_clause_90 : decode b_MM_clause 90 = .ok (.ireturn, 1) := by decide +kernel
theorem d_MM_clause_91 : decode b_MM_clause 91 = .ok (.aload_n 0, 1) := by decide +kernel
theorem d_MM_clause_92 : decode b_MM_clause 92 = .ok (.getfield 244, 3) := by decide +kernel
theorem d_MM_clause_95 : decode b_MM_clause 95 = .ok (.iload_n 1, 1) := by decide +kernel
theorem d_MM_clause_96 : decode b_MM_clause 96 = .ok (.iaload, 1) := by decide +kernel
theorem d_MM_clause_97 : decode b_MM_clause 97 = .ok (.ireturn, 1) := by decide +kernel
theorem d_MM_clause_98 : decode b_MM_clause 98 = .ok (.aload_n 0, 1) := by decide +kernel
theorem d_MM_clause_99 : decode b_MM_clause 99 = .ok (.getfield 256, 3) := by decide +kernel
theorem d_MM_clause_102 : decode b_MM_clause 102 = .ok (.iload_n 1, 1) := by decide +kernel
theorem d_MM_clause_103 : decode b_MM_clause 103 = .ok (.iaload, 1) := by decide +kernel
theorem d_MM_clause_104 : decode b_MM_clause 104 = .ok (.ireturn, 1) := by decide +kernel
theorem d_MM_clause_105 : decode b_MM_clause 105 = .ok (.aload_n 0, 1) := by decide +kernel
theorem d_MM_clause_106 : decode b_MM_clause 106 = .ok (.getfield 262, 3) := by decide +kernel
theorem d_MM_clause_109 : decode b_MM_clause 109 = .ok (.iload_n 1, 1) := by decide +kernel
theorem d_MM_clause_110 : decode b_MM_clause 110 = .ok (.iaload, 1) := by decide +kernel
theorem d_MM_clause_111 : decode b_MM_clause 111 = .ok (.ireturn, 1) := by decide +kernel
theorem d_MM_clause_112 : decode b_MM_clause 112 = .ok (.aload_n 0, 1) := by decide +kernel
theorem d_MM_clause_113 : decode b_MM_clause 113 = .ok (.iconst 2, 1) := by decide +kernel
theorem d_MM_clause_114 : decode b_MM_clause 114 = .ok (.putfield 24, 3) := by decide +kernel
theorem d_MM_clause_117 : decode b_MM_clause 117 = .ok (.iconst 0, 1) := by decide +kernel
theorem d_MM_clause_118 : decode b_MM_clause 118 = .ok (.ireturn, 1) := by decide +kernel
abbrev b_MM_none : ByteArray := prog_14_method_112_code
def y_MM_none : MethodName := ⟨"ClauseProverModel", "none", "(I)Z"⟩
theorem d_MM_none_0 : decode b_MM_none 0 = .ok (.aload_n 0, 1) := by decide +kernel
theorem d_MM_none_1 : decode b_MM_none 1 = .ok (.iconst 0, 1) := by decide +kernel
theorem d_MM_none_2 : decode b_MM_none 2 = .ok (.putfield 24, 3) := by decide +kernel
theorem d_MM_none_5 : decode b_MM_none 5 = .ok (.aload_n 0, 1) := by decide +kernel
theorem d_MM_none_6 : decode b_MM_none 6 = .ok (.iconst 1, 1) := by decide +kernel
theorem d_MM_none_7 : decode b_MM_none 7 = .ok (.iload_n 1, 1) := by decide +kernel
theorem d_MM_none_8 : decode b_MM_none 8 = .ok (.ifCond .lt 11, 3) := by decide +kernel
theorem d_MM_none_11 : decode b_MM_none 11 = .ok (.iload_n 1, 1) := by decide +kernel
theorem d_MM_none_12 : decode b_MM_none 12 = .ok (.aload_n 0, 1) := by decide +kernel
theorem d_MM_none_13 : decode b_MM_none 13 = .ok (.getfield 269, 3) := by decide +kernel
theorem d_MM_none_16 : decode b_MM_none 16 = .ok (.if_icmp .lt 7, 3) := by decide +kernel
theorem d_MM_none_19 : decode b_MM_none 19 = .ok (.iconst 1, 1) := by decide +kernel
theorem d_MM_none_20 : decode b_MM_none 20 = .ok (.goto 4, 3) := by decide +kernel
theorem d_MM_none_23 : decode b_MM_none 23 = .ok (.iconst 0, 1) := by decide +kernel
theorem d_MM_none_24 : decode b_MM_none 24 = .ok (.invokevirtual 401, 3) := by decide +kernel
theorem d_MM_none_27 : decode b_MM_none 27 = .ok (.ireturn, 1) := by decide +kernel
theorem tc_Law_clause : Cond.codeWith y_Law_clause b_Law_clause 5 (some .int) [(0, 10, 13, 28), (0, 10, 17, 19)] ∈ lw_tbg := tb_in (i := 1283) (by decide +kernel) rfl
theorem mw_Law_86 : ax_LSw "ClauseProverLaw" 86 y_Law_clause b_Law_clause 5 [(0, 10, 13, 28), (0, 10, 17, 19)] 4 := ax_LSw.mk (tb_in (i := 1281) (by decide +kernel) rfl) (tb_in (i := 1282) (by decide +kernel) rfl) ti_Law tc_Law_clause (by decide +kernel)
set_option maxHeartbeats 4000000 in
set_option maxRecDepth 100000 in
theorem m83_MM_none (l : Launch) (D : va_G) (kA : Nat → ClassId) (a0 : Nat) (b0 : Nat) (b1 : Nat) (b2 : Nat) (b3 : Nat) (b4 : Nat) (b5 : Nat) (b6 : Nat) (b7 : Nat) (b8 : Nat) (b9 : Nat) (b10 : Nat) (b11 : Nat) (b12 : Nat) (b13 : Nat) (b14 : Nat) (b15 : Nat) (b16 : Nat) (b17 : Nat) (b18 : Nat) (b19 : Nat) (b20 : Nat) (b21 : Nat) (b22 : Nat) (b23 : Nat) (b24 : Nat) (b25 : Nat) (b26 : Nat) (b27 : Nat) (b28 : Nat) (b29 : Nat) (b30 : Nat) (b31 : Nat) (b32 : Nat) (b33 : Nat) (b34 : Nat) (b35 : Nat) (b36 : Nat) (b37 : Nat) (b38 : Nat) (b39 : Nat) (b40 : Nat) (b41 : Nat) (b42 : Nat) (b43 : Nat) (b44 : Nat) (b45 : Nat) (b46 : Nat) (b47 : Nat) (b48 : Nat) (b49 : Nat) (b50 : Nat) (b51 : Nat) (b52 : Nat) (b53 : Nat) (b54 : Nat) (b55 : Nat) (b56 : Nat) (b57 : Nat) (b58 : Nat) (b59 : Nat) (b60 : Nat) (b61 : Nat) (b62 : Nat) (b63 : Nat) (b64 : Nat) (b65 : Nat) (b66 : Nat) (b67 : Nat) (b68 : Nat) (b69 : Nat) (b70 : Nat) (b71 : Nat) (b72 : Nat) (b73 : Nat) (b74 : Nat) (b75 : Nat) (i0 : Int32) : ax_Mi l D kA y_MM_none b_MM_none 2 .boolean 1 22 0 0 [.ref a0, .int i0] [(a0, .inr (12, [.ref b0, .ref b1, .int 0, .int 0, .int 0, .int 0, .int 0, .int 0, .int 0, .int 0, .int 0, .int 0, .int 0, .ref b2, .ref b3, .ref b4, .ref b5, .ref b6, .int 0, .int 1, .int 0, .ref b7, .ref b8, .ref b9, .ref b10, .int 0, .ref b11, .ref b12, .int 0, .int 0, .ref b13, .ref b14, .ref b15, .ref b16, .ref b17, .ref b18, .ref b19, .int 0, .int 0, .int 0, .int 0, .ref b20, .ref b21, .ref b22, .ref b23, .ref b24, .ref b25, .int 0, .ref b26, .ref b27, .ref b28, .ref b29, .ref b30, .ref b31, .ref b32, .int 0, .int 0, .ref b33, .ref b34, .ref b35, .ref b36, .ref b37, .int 0, .ref b38, .ref b39, .int 0, .ref b40, .ref b41, .ref b42, .ref b43, .ref b44, .ref b45, .int 0, .ref b46, .ref b47, .ref b48, .ref b49, .ref b50, .ref b51, .ref b52, .ref b53, .ref b54, .ref b55, .ref b56, .int 0, .int 0, .int 0, .int 0, .int (-1), .int 0, .int 0, .int 0, .int 0, .int 0, .int 0, .ref b57, .ref b58, .ref b59, .int 0, .ref b60, .ref b61, .int 0, .ref b62, .ref b63, .ref b64, .int 0, .ref b65, .ref b66, .ref b67, .ref b68, .ref b69, .ref b70, .int 0, .int (-1), .int 0, .ref b71, .int (-1), .int (-1), .int (-1), .ref b72, .int 0, .ref b73, .int 0, .ref b74, .int 0, .int 0, .ref b75]))] (fun r w1 => r = 1 ∧ w1 = [(a0, .inr (12, [.ref b0, .ref b1, .int 0, .int 0, .int 1, .int 0, .int 0, .int 0, .int 0, .int 0, .int 0, .int 0, .int 0, .ref b2, .ref b3, .ref b4, .ref b5, .ref b6, .int 0, .int 1, .int 0, .ref b7, .ref b8, .ref b9, .ref b10, .int 0, .ref b11, .ref b12, .int 0, .int 0, .ref b13, .ref b14, .ref b15, .ref b16, .ref b17, .ref b18, .ref b19, .int 0, .int 0, .int 0, .int 0, .ref b20, .ref b21, .ref b22, .ref b23, .ref b24, .ref b25, .int 0, .ref b26, .ref b27, .ref b28, .ref b29, .ref b30, .ref b31, .ref b32, .int 0, .int 0, .ref b33, .ref b34, .ref b35, .ref b36, .ref b37, .int 0, .ref b38, .ref b39, .int 0, .ref b40, .ref b41, .ref b42, .ref b43, .ref b44, .ref b45, .int 0, .ref b46, .ref b47, .ref b48, .ref b49, .ref b50, .ref b51, .ref b52, .ref b53, .ref b54, .ref b55, .ref b56, .int 0, .int 0, .int 0, .int 0, .int (-1), .int 0, .int 0, .int 0, .int 0, .int 0, .int 0, .ref b57, .ref b58, .ref b59, .int 0, .ref b60, .ref b61, .int 0, .ref b62, .ref b63, .ref b64, .int 0, .ref b65, .ref b66, .ref b67, .ref b68, .ref b69, .ref b70, .int 0, .int (-1), .int 0, .ref b71, .int (-1), .int (-1), .int (-1), .ref b72, .int 0, .ref b73, .int 0, .ref b74, .int 0, .int 0, .ref b75]))]) := by
  refine ax_Mi.of (by decide +kernel) (Nat.le_of_ble_eq_true rfl) ?_
  intro p e s m args below meth c C hnm
  refine ax_ls ([(0, .ref a0), (1, .int i0)]) [0, 1] rfl ?_
  refine ax_aload_n (pc := 0) C d_MM_none_0 rfl 0 rfl ?_
  refine ax_iconst (pc := 1) C 0 d_MM_none_1 (by decide +kernel) ?_
  refine ax_put (pc := 2) C k_MM 4 lk_MM_24 d_MM_none_2 (Nat.le_of_ble_eq_true rfl) 0 rfl rfl rfl rfl (Nat.le_of_ble_eq_true rfl) ?_
  refine ax_w ([(a0, .inr (12, [.ref b0, .ref b1, .int 0, .int 0, .int 0, .int 0, .int 0, .int 0, .int 0, .int 0, .int 0, .int 0, .int 0, .ref b2, .ref b3, .ref b4, .ref b5, .ref b6, .int 0, .int 1, .int 0, .ref b7, .ref b8, .ref b9, .ref b10, .int 0, .ref b11, .ref b12, .int 0, .int 0, .ref b13, .ref b14, .ref b15, .ref b16, .ref b17, .ref b18, .ref b19, .int 0, .int 0, .int 0, .int 0, .ref b20, .ref b21, .ref b22, .ref b23, .ref b24, .ref b25, .int 0, .ref b26, .ref b27, .ref b28, .ref b29, .ref b30, .ref b31, .ref b32, .int 0, .int 0, .ref b33, .ref b34, .ref b35, .ref b36, .ref b37, .int 0, .ref b38, .ref b39, .int 0, .ref b40, .ref b41, .ref b42, .ref b43, .ref b44, .ref b45, .int 0, .ref b46, .ref b47, .ref b48, .ref b49, .ref b50, .ref b51, .ref b52, .ref b53, .ref b54, .ref b55, .ref b56, .int 0, .int 0, .int 0, .int 0, .int (-1), .int 0, .int 0, .int 0, .int 0, .int 0, .int 0, .ref b57, .ref b58, .ref b59, .int 0, .ref b60, .ref b61, .int 0, .ref b62, .ref b63, .ref b64, .int 0, .ref b65, .ref b66, .ref b67, .ref b68, .ref b69, .ref b70, .int 0, .int (-1), .int 0, .ref b71, .int (-1), .int (-1), .int (-1), .ref b72, .int 0, .ref b73, .int 0, .ref b74, .int 0, .int 0, .ref b75]))]) rfl ?_
  refine ax_aload_n (pc := 5) C d_MM_none_5 rfl 0 rfl ?_
  refine ax_iconst (pc := 6) C 1 d_MM_none_6 (by decide +kernel) ?_
  refine ax_iload_n (pc := 7) C d_MM_none_7 rfl 1 rfl ?_
  refine ax_if_lt (pc := 8) C 19 d_MM_none_8 (by decide) (fun hc8_1 => ?_) (fun hc8_1 => ?_)
  · refine ax_iconst (pc := 19) C 1 d_MM_none_19 (by decide +kernel) ?_
    refine ax_goto (pc := 20) C 24 d_MM_none_20 (by decide) ?_
    refine ax_callVi (pc := 24) C (As := [.int 1, .int 1]) (rest := []) (wr := []) (m34_MM_refuse l D kA a0 b0 b1 b2 b3 b4 b5 b6 b7 b8 b9 b10 b11 b12 b13 b14 b15 b16 b17 b18 b19 b20 b21 b22 b23 b24 b25 b26 b27 b28 b29 b30 b31 b32 b33 b34 b35 b36 b37 b38 b39 b40 b41 b42 b43 b44 b45 b46 b47 b48 b49 b50 b51 b52 b53 b54 b55 b56 b57 b58 b59 b60 b61 b62 b63 b64 b65 b66 b67 b68 b69 b70 b71 b72 b73 b74 b75) ml_MM_401 0 rfl rfl rfl d_MM_none_24 rfl rfl [0] [] rfl (by decide) rfl (by decide) (by decide) (Nat.le_of_ble_eq_true rfl) (Nat.le_of_ble_eq_true rfl) (Nat.le_of_ble_eq_true rfl) (Nat.le_of_ble_eq_true rfl) (Nat.le_of_ble_eq_true rfl) (fun r24 w1 hw1 => ?_)
    obtain ⟨rfl, rfl⟩ := hw1
    refine ax_w ([(a0, .inr (12, [.ref b0, .ref b1, .int 0, .int 0, .int 1, .int 0, .int 0, .int 0, .int 0, .int 0, .int 0, .int 0, .int 0, .ref b2, .ref b3, .ref b4, .ref b5, .ref b6, .int 0, .int 1, .int 0, .ref b7, .ref b8, .ref b9, .ref b10, .int 0, .ref b11, .ref b12, .int 0, .int 0, .ref b13, .ref b14, .ref b15, .ref b16, .ref b17, .ref b18, .ref b19, .int 0, .int 0, .int 0, .int 0, .ref b20, .ref b21, .ref b22, .ref b23, .ref b24, .ref b25, .int 0, .ref b26, .ref b27, .ref b28, .ref b29, .ref b30, .ref b31, .ref b32, .int 0, .int 0, .ref b33, .ref b34, .ref b35, .ref b36, .ref b37, .int 0, .ref b38, .ref b39, .int 0, .ref b40, .ref b41, .ref b42, .ref b43, .ref b44, .ref b45, .int 0, .ref b46, .ref b47, .ref b48, .ref b49, .ref b50, .ref b51, .ref b52, .ref b53, .ref b54, .ref b55, .ref b56, .int 0, .int 0, .int 0, .int 0, .int (-1), .int 0, .int 0, .int 0, .int 0, .int 0, .int 0, .ref b57, .ref b58, .ref b59, .int 0, .ref b60, .ref b61, .int 0, .ref b62, .ref b63, .ref b64, .int 0, .ref b65, .ref b66, .ref b67, .ref b68, .ref b69, .ref b70, .int 0, .int (-1), .int 0, .ref b71, .int (-1), .int (-1), .int (-1), .ref b72, .int 0, .ref b73, .int 0, .ref b74, .int 0, .int 0, .ref b75]))]) rfl ?_
    exact ax_zret (pc := 27) C d_MM_none_27 rfl ⟨rfl, rfl⟩ (by decide) (by decide)
  · refine ax_iload_n (pc := 11) C d_MM_none_11 rfl 1 rfl ?_
    refine ax_aload_n (pc := 12) C d_MM_none_12 rfl 0 rfl ?_
    refine ax_get (pc := 13) C k_MM 84 lk_MM_269 d_MM_none_13 (Nat.le_of_ble_eq_true rfl) 0 rfl rfl ?_
    refine ax_icmp_lt (pc := 16) C 23 d_MM_none_16 (by decide) (fun h => absurd h hc8_1) (fun _ => ?_)
    refine ax_iconst (pc := 19) C 1 d_MM_none_19 (by decide +kernel) ?_
    refine ax_goto (pc := 20) C 24 d_MM_none_20 (by decide) ?_
    refine ax_callVi (pc := 24) C (As := [.int 1, .int 1]) (rest := []) (wr := []) (m34_MM_refuse l D kA a0 b0 b1 b2 b3 b4 b5 b6 b7 b8 b9 b10 b11 b12 b13 b14 b15 b16 b17 b18 b19 b20 b21 b22 b23 b24 b25 b26 b27 b28 b29 b30 b31 b32 b33 b34 b35 b36 b37 b38 b39 b40 b41 b42 b43 b44 b45 b46 b47 b48 b49 b50 b51 b52 b53 b54 b55 b56 b57 b58 b59 b60 b61 b62 b63 b64 b65 b66 b67 b68 b69 b70 b71 b72 b73 b74 b75) ml_MM_401 0 rfl rfl rfl d_MM_none_24 rfl rfl [0] [] rfl (by decide) rfl (by decide) (by decide) (Nat.le_of_ble_eq_true rfl) (Nat.le_of_ble_eq_true rfl) (Nat.le_of_ble_eq_true rfl) (Nat.le_of_ble_eq_true rfl) (Nat.le_of_ble_eq_true rfl) (fun r24 w1 hw1 => ?_)
    obtain ⟨rfl, rfl⟩ := hw1
    refine ax_w ([(a0, .inr (12, [.ref b0, .ref b1, .int 0, .int 0, .int 1, .int 0, .int 0, .int 0, .int 0, .int 0, .int 0, .int 0, .int 0, .ref b2, .ref b3, .ref b4, .ref b5, .ref b6, .int 0, .int 1, .int 0, .ref b7, .ref b8, .ref b9, .ref b10, .int 0, .ref b11, .ref b12, .int 0, .int 0, .ref b13, .ref b14, .ref b15, .ref b16, .ref b17, .ref b18, .ref b19, .int 0, .int 0, .int 0, .int 0, .ref b20, .ref b21, .ref b22, .ref b23, .ref b24, .ref b25, .int 0, .ref b26, .ref b27, .ref b28, .ref b29, .ref b30, .ref b31, .ref b32, .int 0, .int 0, .ref b33, .ref b34, .ref b35, .ref b36, .ref b37, .int 0, .ref b38, .ref b39, .int 0, .ref b40, .ref b41, .ref b42, .ref b43, .ref b44, .ref b45, .int 0, .ref b46, .ref b47, .ref b48, .ref b49, .ref b50, .ref b51, .ref b52, .ref b53, .ref b54, .ref b55, .ref b56, .int 0, .int 0, .int 0, .int 0, .int (-1), .int 0, .int 0, .int 0, .int 0, .int 0, .int 0, .ref b57, .ref b58, .ref b59, .int 0, .ref b60, .ref b61, .int 0, .ref b62, .ref b63, .ref b64, .int 0, .ref b65, .ref b66, .ref b67, .ref b68, .ref b69, .ref b70, .int 0, .int (-1), .int 0, .ref b71, .int (-1), .int (-1), .int (-1), .ref b72, .int 0, .ref b73, .int 0, .ref b74, .int 0, .int 0, .ref b75]))]) rfl ?_
    exact ax_zret (pc := 27) C d_MM_none_27 rfl ⟨rfl, rfl⟩ (by decide) (by decide)
theorem tc_MM_none : Cond.code y_MM_none b_MM_none 2 (some (.boolean)) ∈ lw_tbg := tb_in (i := 2401) (by decide +kernel) rfl
theorem ml_MM_759 : ax_LV "ClauseProverModel" 759 y_MM_none b_MM_none 2 (some (.boolean)) 1 := ax_LV.mk (tb_in (i := 2398) (by decide +kernel) rfl) (tb_in (i := 2400) (by decide +kernel) rfl) (pv_in (i := 193) (by decide +kernel) rfl) ti_MM tc_MM_none (by decide +kernel)
set_option maxHeartbeats 4000000 in
set_option maxRecDepth 100000 in
theorem m82_MM_clause (l : Launch) (D : va_G) (kA : Nat → ClassId) (a0 : Nat) (b0 : Nat) (b1 : Nat) (b2 : Nat) (b3 : Nat) (b4 : Nat) (b5 : Nat) (b6 : Nat) (b7 : Nat) (b8 : Nat) (b9 : Nat) (b10 : Nat) (b11 : Nat) (b12 : Nat) (b13 : Nat) (b14 : Nat) (b15 : Nat) (b16 : Nat) (b17 : Nat) (b18 : Nat) (b19 : Nat) (b20 : Nat) (b21 : Nat) (b22 : Nat) (b23 : Nat) (b24 : Nat) (b25 : Nat) (b26 : Nat) (b27 : Nat) (b28 : Nat) (b29 : Nat) (b30 : Nat) (b31 : Nat) (b32 : Nat) (b33 : Nat) (b34 : Nat) (b35 : Nat) (b36 : Nat) (b37 : Nat) (b38 : Nat) (b39 : Nat) (b40 : Nat) (b41 : Nat) (b42 : Nat) (b43 : Nat) (b44 : Nat) (b45 : Nat) (b46 : Nat) (b47 : Nat) (b48 : Nat) (b49 : Nat) (b50 : Nat) (b51 : Nat) (b52 : Nat) (b53 : Nat) (b54 : Nat) (b55 : Nat) (b56 : Nat) (b57 : Nat) (b58 : Nat) (b59 : Nat) (b60 : Nat) (b61 : Nat) (b62 : Nat) (b63 : Nat) (b64 : Nat) (b65 : Nat) (b66 : Nat) (b67 : Nat) (b68 : Nat) (b69 : Nat) (b70 : Nat) (b71 : Nat) (b72 : Nat) (b73 : Nat) (b74 : Nat) (b75 : Nat) (i0 : Int32) (i1 : Int32) : ax_Mi l D kA y_MM_clause b_MM_clause 3 .int 2 43 0 0 [.ref a0, .int i0, .int i1] [(a0, .inr (12, [.ref b0, .ref b1, .int 0, .int 0, .int 0, .int 0, .int 0, .int 0, .int 0, .int 0, .int 0, .int 0, .int 0, .ref b2, .ref b3, .ref b4, .ref b5, .ref b6, .int 0, .int 1, .int 0, .ref b7, .ref b8, .ref b9, .ref b10, .int 0, .ref b11, .ref b12, .int 0, .int 0, .ref b13, .ref b14, .ref b15, .ref b16, .ref b17, .ref b18, .ref b19, .int 0, .int 0, .int 0, .int 0, .ref b20, .ref b21, .ref b22, .ref b23, .ref b24, .ref b25, .int 0, .ref b26, .ref b27, .ref b28, .ref b29, .ref b30, .ref b31, .ref b32, .int 0, .int 0, .ref b33, .ref b34, .ref b35, .ref b36, .ref b37, .int 0, .ref b38, .ref b39, .int 0, .ref b40, .ref b41, .ref b42, .ref b43, .ref b44, .ref b45, .int 0, .ref b46, .ref b47, .ref b48, .ref b49, .ref b50, .ref b51, .ref b52, .ref b53, .ref b54, .ref b55, .ref b56, .int 0, .int 0, .int 0, .int 0, .int (-1), .int 0, .int 0, .int 0, .int 0, .int 0, .int 0, .ref b57, .ref b58, .ref b59, .int 0, .ref b60, .ref b61, .int 0, .ref b62, .ref b63, .ref b64, .int 0, .ref b65, .ref b66, .ref b67, .ref b68, .ref b69, .ref b70, .int 0, .int (-1), .int 0, .ref b71, .int (-1), .int (-1), .int (-1), .ref b72, .int 0, .ref b73, .int 0, .ref b74, .int 0, .int 0, .ref b75]))] (fun r w1 => r = 0 ∧ w1 = [(a0, .inr (12, [.ref b0, .ref b1, .int 0, .int 0, .int 1, .int 0, .int 0, .int 0, .int 0, .int 0, .int 0, .int 0, .int 0, .ref b2, .ref b3, .ref b4, .ref b5, .ref b6, .int 0, .int 1, .int 0, .ref b7, .ref b8, .ref b9, .ref b10, .int 0, .ref b11, .ref b12, .int 0, .int 0, .ref b13, .ref b14, .ref b15, .ref b16, .ref b17, .ref b18, .ref b19, .int 0, .int 0, .int 0, .int 0, .ref b20, .ref b21, .ref b22, .ref b23, .ref b24, .ref b25, .int 0, .ref b26, .ref b27, .ref b28, .ref b29, .ref b30, .ref b31, .ref b32, .int 0, .int 0, .ref b33, .ref b34, .ref b35, .ref b36, .ref b37, .int 0, .ref b38, .ref b39, .int 0, .ref b40, .ref b41, .ref b42, .ref b43, .ref b44, .ref b45, .int 0, .ref b46, .ref b47, .ref b48, .ref b49, .ref b50, .ref b51, .ref b52, .ref b53, .ref b54, .ref b55, .ref b56, .int 0, .int 0, .int 0, .int 0, .int (-1), .int 0, .int 0, .int 0, .int 0, .int 0, .int 0, .ref b57, .ref b58, .ref b59, .int 0, .ref b60, .ref b61, .int 0, .ref b62, .ref b63, .ref b64, .int 0, .ref b65, .ref b66, .ref b67, .ref b68, .ref b69, .ref b70, .int 0, .int (-1), .int 0, .ref b71, .int (-1), .int (-1), .int (-1), .ref b72, .int 0, .ref b73, .int 0, .ref b74, .int 0, .int 0, .ref b75]))]) := by
  refine ax_Mi.of (by decide +kernel) (Nat.le_of_ble_eq_true rfl) ?_
  intro p e s m args below meth c C hnm
  refine ax_ls ([(0, .ref a0), (1, .int i0), (2, .int i1)]) [0, 1, 2] rfl ?_
  refine ax_aload_n (pc := 0) C d_MM_clause_0 rfl 0 rfl ?_
  refine ax_iload_n (pc := 1) C d_MM_clause_1 rfl 1 rfl ?_
  refine ax_callVi (pc := 2) C (As := [.int i0]) (rest := []) (wr := []) (m83_MM_none l D kA a0 b0 b1 b2 b3 b4 b5 b6 b7 b8 b9 b10 b11 b12 b13 b14 b15 b16 b17 b18 b19 b20 b21 b22 b23 b24 b25 b26 b27 b28 b29 b30 b31 b32 b33 b34 b35 b36 b37 b38 b39 b40 b41 b42 b43 b44 b45 b46 b47 b48 b49 b50 b51 b52 b53 b54 b55 b56 b57 b58 b59 b60 b61 b62 b63 b64 b65 b66 b67 b68 b69 b70 b71 b72 b73 b74 b75 i0) ml_MM_759 0 rfl rfl rfl d_MM_clause_2 rfl rfl [0] [] rfl (by decide) rfl (by decide) (by decide) (Nat.le_of_ble_eq_true rfl) (Nat.le_of_ble_eq_true rfl) (Nat.le_of_ble_eq_true rfl) (Nat.le_of_ble_eq_true rfl) (Nat.le_of_ble_eq_true rfl) (fun r2 w1 hw1 => ?_)
  obtain ⟨rfl, rfl⟩ := hw1
  refine ax_w ([(a0, .inr (12, [.ref b0, .ref b1, .int 0, .int 0, .int 1, .int 0, .int 0, .int 0, .int 0, .int 0, .int 0, .int 0, .int 0, .ref b2, .ref b3, .ref b4, .ref b5, .ref b6, .int 0, .int 1, .int 0, .ref b7, .ref b8, .ref b9, .ref b10, .int 0, .ref b11, .ref b12, .int 0, .int 0, .ref b13, .ref b14, .ref b15, .ref b16, .ref b17, .ref b18, .ref b19, .int 0, .int 0, .int 0, .int 0, .ref b20, .ref b21, .ref b22, .ref b23, .ref b24, .ref b25, .int 0, .ref b26, .ref b27, .ref b28, .ref b29, .ref b30, .ref b31, .ref b32, .int 0, .int 0, .ref b33, .ref b34, .ref b35, .ref b36, .ref b37, .int 0, .ref b38, .ref b39, .int 0, .ref b40, .ref b41, .ref b42, .ref b43, .ref b44, .ref b45, .int 0, .ref b46, .ref b47, .ref b48, .ref b49, .ref b50, .ref b51, .ref b52, .ref b53, .ref b54, .ref b55, .ref b56, .int 0, .int 0, .int 0, .int 0, .int (-1), .int 0, .int 0, .int 0, .int 0, .int 0, .int 0, .ref b57, .ref b58, .ref b59, .int 0, .ref b60, .ref b61, .int 0, .ref b62, .ref b63, .ref b64, .int 0, .ref b65, .ref b66, .ref b67, .ref b68, .ref b69, .ref b70, .int 0, .int (-1), .int 0, .ref b71, .int (-1), .int (-1), .int (-1), .ref b72, .int 0, .ref b73, .int 0, .ref b74, .int 0, .int 0, .ref b75]))]) rfl ?_
  refine ax_if_eq (pc := 5) C 10 d_MM_clause_5 (by decide) (fun h => absurd h (by decide)) (fun _ => ?_)
  refine ax_iconst (pc := 8) C 0 d_MM_clause_8 (by decide +kernel) ?_
  exact ax_iret (pc := 9) C d_MM_clause_9 ⟨rfl, rfl⟩ (by decide) (by decide)
abbrev b_Law_rewrote : ByteArray := method_7_code
def y_Law_rewrote : MethodName := ⟨"ClauseProverLaw", "rewrote", "(LClauseProver;II[J)I"⟩
theorem d_Law_rewrote_0 : decode b_Law_rewrote 0 = .ok (.aload_n 3, 1) := by decide +kernel
theorem d_Law_rewrote_1 : decode b_Law_rewrote 1 = .ok (.iconst 0, 1) := by decide +kernel
theorem d_Law_rewrote_2 : decode b_Law_rewrote 2 = .ok (.aload_n 0, 1) := by decide +kernel
theorem d_Law_rewrote_3 : decode b_Law_rewrote 3 = .ok (.iload_n 1, 1) := by decide +kernel
theorem d_Law_rewrote_4 : decode b_Law_rewrote 4 = .ok (.iload_n 2, 1) := by decide +kernel
theorem d_Law_rewrote_5 : decode b_Law_rewrote 5 = .ok (.invokevirtual 30, 3) := by decide +kernel
theorem d_Law_rewrote_8 : decode b_Law_rewrote 8 = .ok (.i2l, 1) := by decide +kernel
theorem d_Law_rewrote_9 : decode b_Law_rewrote 9 = .ok (.lastore, 1) := by decide +kernel
theorem d_Law_rewrote_10 : decode b_Law_rewrote 10 = .ok (.goto 7, 3) := by decide +kernel
theorem d_Law_rewrote_13 : decode b_Law_rewrote 13 = .ok (.astore 4, 2) := by decide +kernel
theorem d_Law_rewrote_15 : decode b_Law_rewrote 15 = .ok (.iconst 1, 1) := by decide +kernel
theorem d_Law_rewrote_16 : decode b_Law_rewrote 16 = .ok (.ireturn, 1) := by decide +kernel
theorem d_Law_rewrote_17 : decode b_Law_rewrote 17 = .ok (.iconst 0, 1) := by decide +kernel
theorem d_Law_rewrote_18 : decode b_Law_rewrote 18 = .ok (.ireturn, 1) := by decide +kernel
abbrev b_CP_rewrote : ByteArray := prog_1_method_9_code
def y_CP_rewrote : MethodName := ⟨"ClauseProver", "rewrote", "(II)I"⟩
theorem d_CP_rewrote_0 : decode b_CP_rewrote 0 = .ok (.aload_n 0, 1) := by decide +kernel
theorem d_CP_rewrote_1 : decode b_CP_rewrote 1 = .ok (.getfield 60, 3) := by decide +kernel
theorem d_CP_rewrote_4 : decode b_CP_rewrote 4 = .ok (.iload_n 1, 1) := by decide +kernel
theorem d_CP_rewrote_5 : decode b_CP_rewrote 5 = .ok (.invokevirtual 150, 3) := by decide +kernel
theorem d_CP_rewrote_8 : decode b_CP_rewrote 8 = .ok (.ifCond .eq 21, 3) := by decide +kernel
theorem d_CP_rewrote_11 : decode b_CP_rewrote 11 = .ok (.iload_n 2, 1) := by decide +kernel
theorem d_CP_rewrote_12 : decode b_CP_rewrote 12 = .ok (.ifCond .lt 17, 3) := by decide +kernel
theorem d_CP_rewrote_15 : decode b_CP_rewrote 15 = .ok (.iload_n 2, 1) := by decide +kernel
theorem d_CP_rewrote_16 : decode b_CP_rewrote 16 = .ok (.aload_n 0, 1) := by decide +kernel
theorem d_CP_rewrote_17 : decode b_CP_rewrote 17 = .ok (.getfield 60, 3) := by decide +kernel
theorem d_CP_rewrote_20 : decode b_CP_rewrote 20 = .ok (.iload_n 1, 1) := by decide +kernel
theorem d_CP_rewrote_21 : decode b_CP_rewrote 21 = .ok (.bipush 7, 2) := by decide +kernel
theorem d_CP_rewrote_23 : decode b_CP_rewrote 23 = .ok (.invokevirtual 161, 3) := by decide +kernel
theorem d_CP_rewrote_26 : decode b_CP_rewrote 26 = .ok (.if_icmp .lt 13, 3) := by decide +kernel
theorem d_CP_rewrote_29 : decode b_CP_rewrote 29 = .ok (.new 154, 3) := by decide +kernel
theorem d_CP_rewrote_32 : decode b_CP_rewrote 32 = .ok (.dup, 1) := by decide +kernel
theorem d_CP_rewrote_33 : decode b_CP_rewrote 33 = .ok (.ldc 165, 2) := by decide +kernel
theorem d_CP_rewrote_35 : decode b_CP_rewrote 35 = .ok (.invokespecial 158, 3) := by decide +kernel
theorem d_CP_rewrote_38 : decode b_CP_rewrote 38 = .ok (.athrow, 1) := by decide +kernel
theorem d_CP_rewrote_39 : decode b_CP_rewrote 39 = .ok (.aload_n 0, 1) := by decide +kernel
theorem d_CP_rewrote_40 : decode b_CP_rewrote 40 = .ok (.getfield 60, 3) := by decide +kernel
theorem d_CP_rewrote_43 : decode b_CP_rewrote 43 = .ok (.getfield 167, 3) := by decide +kernel
theorem d_CP_rewrote_46 : decode b_CP_rewrote 46 = .ok (.getfield 110, 3) := by decide +kernel
theorem d_CP_rewrote_49 : decode b_CP_rewrote 49 = .ok (.aload_n 0, 1) := by decide +kernel
theorem d_CP_rewrote_50 : decode b_CP_rewrote 50 = .ok (.getfield 60, 3) := by decide +kernel
theorem d_CP_rewrote_53 : decode b_CP_rewrote 53 = .ok (.iload_n 1, 1) := by decide +kernel
theorem d_CP_rewrote_54 : decode b_CP_rewrote 54 = .ok (.bipush 9, 2) := by decide +kernel
theorem d_CP_rewrote_56 : decode b_CP_rewrote 56 = .ok (.invokevirtual 161, 3) := by decide +kernel
theorem d_CP_rewrote_59 : decode b_CP_rewrote 59 = .ok (.iload_n 2, 1) := by decide +kernel
theorem d_CP_rewrote_60 : decode b_CP_rewrote 60 = .ok (.iadd, 1) := by decide +kernel
theorem d_CP_rewrote_61 : decode b_CP_rewrote 61 = .ok (.iaload, 1) := by decide +kernel
theorem d_CP_rewrote_62 : decode b_CP_rewrote 62 = .ok (.ireturn, 1) := by decide +kernel
set_option maxHeartbeats 4000000 in
set_option maxRecDepth 100000 in
theorem m85_CP_rewrote (l : Launch) (htr : l.stackTraces = false) (D : va_G) (kA : Nat → ClassId) (a0 : Nat) (a1 : Nat) (b0 : Nat) (b1 : Nat) (b2 : Nat) (b3 : Nat) (b4 : Nat) (b5 : Nat) (b6 : Nat) (b7 : Nat) (b8 : Nat) (b9 : Nat) (b10 : Nat) (b11 : Nat) (i0 : Int32) (i1 : Int32) : ax_Mx l D kA y_CP_rewrote b_CP_rewrote 3 (some .int) 6 90 1 6 [.ref a0, .int i0, .int i1] [(a0, .inr (11, [.ref b0, .ref b1, .ref b2, .ref b3, .ref b4, .ref b5, .ref b6, .ref a1, .ref b7, .ref b8, .int 0, .int 0])), (a1, .inr (6, [.ref b9, .ref b10, .int 0, .int 0, .ref b3, .ref b11]))] "java/util/NoSuchElementException" (fun w1 => w1 = [(a0, .inr (11, [.ref b0, .ref b1, .ref b2, .ref b3, .ref b4, .ref b5, .ref b6, .ref a1, .ref b7, .ref b8, .int 0, .int 0])), (a1, .inr (6, [.ref b9, .ref b10, .int 0, .int 0, .ref b3, .ref b11]))]) := by
  refine ax_Mx.of (by decide +kernel) (Nat.le_of_ble_eq_true rfl) ?_
  intro p e s m args below meth c C hadm hex hX hP0
  refine ax_ls ([(0, .ref a0), (1, .int i0), (2, .int i1)]) [0, 1, 2] rfl ?_
  refine ax_aload_n (pc := 0) C d_CP_rewrote_0 rfl 0 rfl ?_
  refine ax_get (pc := 1) C k_CP 7 lk_CP_60 d_CP_rewrote_1 (Nat.le_of_ble_eq_true rfl) 0 rfl rfl ?_
  refine ax_iload_n (pc := 4) C d_CP_rewrote_4 rfl 1 rfl ?_
  refine ax_callVi (pc := 5) C (As := [.int i0]) (rest := []) (wr := [(a0, .inr (11, [.ref b0, .ref b1, .ref b2, .ref b3, .ref b4, .ref b5, .ref b6, .ref a1, .ref b7, .ref b8, .int 0, .int 0]))]) (m81_Sto_has l D kA a1 b9 b10 b3 b11 i0) ml_CP_150 1 rfl rfl rfl d_CP_rewrote_5 rfl rfl [1] [0] rfl (by decide) rfl (by decide) (by decide) (Nat.le_of_ble_eq_true rfl) (Nat.le_of_ble_eq_true rfl) (Nat.le_of_ble_eq_true rfl) (Nat.le_of_ble_eq_true rfl) (Nat.le_of_ble_eq_true rfl) (fun r5 w1 hw1 => ?_)
  obtain ⟨rfl, rfl⟩ := hw1
  refine ax_w ([(a0, .inr (11, [.ref b0, .ref b1, .ref b2, .ref b3, .ref b4, .ref b5, .ref b6, .ref a1, .ref b7, .ref b8, .int 0, .int 0])), (a1, .inr (6, [.ref b9, .ref b10, .int 0, .int 0, .ref b3, .ref b11]))]) rfl ?_
  refine ax_if_eq (pc := 8) C 29 d_CP_rewrote_8 (by decide) (fun _ => ?_) (fun h => absurd h (by decide))
  exact ax_throw2 (pc := 29) C hadm htr hex hX hP0 (is := 165) (tx := "no such clause or rewriter") ta_NSE (by decide +kernel) (by decide) tb_classLink_1290 tb_instantiable_1291 tb_initialized_25 (by decide +kernel) (by decide +kernel) (by decide +kernel) (by decide +kernel) d_CP_rewrote_29 d_CP_rewrote_32 d_CP_rewrote_33 d_CP_rewrote_35 d_CP_rewrote_38 (Nat.le_of_ble_eq_true rfl) (Nat.le_of_ble_eq_true rfl) (Nat.le_of_ble_eq_true rfl) (Nat.le_of_ble_eq_true rfl) rfl rfl rfl
theorem tc_CP_rewrote : Cond.code y_CP_rewrote b_CP_rewrote 3 (some (.int)) ∈ lw_tbg := tb_in (i := 1314) (by decide +kernel) rfl
theorem ml_Law_30 : ax_LV "ClauseProverLaw" 30 y_CP_rewrote b_CP_rewrote 3 (some (.int)) 2 := ax_LV.mk (tb_in (i := 1311) (by decide +kernel) rfl) (tb_in (i := 1312) (by decide +kernel) rfl) (tb_in (i := 1313) (by decide +kernel) rfl) ti_CP tc_CP_rewrote (by decide +kernel)
set_option maxHeartbeats 4000000 in
set_option maxRecDepth 100000 in
theorem m84_Law_rewrote (l : Launch) (htr : l.stackTraces = false) (D : va_G) (kA : Nat → ClassId) (a0 : Nat) (a1 : Nat) (b0 : Nat) (b1 : Nat) (b2 : Nat) (b3 : Nat) (b4 : Nat) (b5 : Nat) (b6 : Nat) (b7 : Nat) (b8 : Nat) (b9 : Nat) (b10 : Nat) (b11 : Nat) (b12 : Nat) (i0 : Int32) (i1 : Int32) : ax_Mw l D kA y_Law_rewrote b_Law_rewrote 5 [(0, 10, 13, 28)] 7 112 1 6 [.ref a0, .int i0, .int i1, .ref b0] [(a0, .inr (11, [.ref b1, .ref b2, .ref b3, .ref b4, .ref b5, .ref b6, .ref b7, .ref a1, .ref b8, .ref b9, .int 0, .int 0])), (a1, .inr (6, [.ref b10, .ref b11, .int 0, .int 0, .ref b4, .ref b12]))] (fun r w1 => r = 1 ∧ w1 = [(a0, .inr (11, [.ref b1, .ref b2, .ref b3, .ref b4, .ref b5, .ref b6, .ref b7, .ref a1, .ref b8, .ref b9, .int 0, .int 0])), (a1, .inr (6, [.ref b10, .ref b11, .int 0, .int 0, .ref b4, .ref b12]))]) := by
  refine ax_Mw.of (by decide +kernel) (Nat.le_of_ble_eq_true rfl) ?_
  intro p e s m args below meth c C hadm hmeth hcode htb hX
  refine ax_ls ([(0, .ref a0), (1, .int i0), (2, .int i1), (3, .ref b0)]) [0, 1, 2, 3] rfl ?_
  refine ax_aload_n (pc := 0) C d_Law_rewrote_0 rfl 3 rfl ?_
  refine ax_iconst (pc := 1) C 0 d_Law_rewrote_1 (by decide +kernel) ?_
  refine ax_aload_n (pc := 2) C d_Law_rewrote_2 rfl 0 rfl ?_
  refine ax_iload_n (pc := 3) C d_Law_rewrote_3 rfl 1 rfl ?_
  refine ax_iload_n (pc := 4) C d_Law_rewrote_4 rfl 2 rfl ?_
  refine ax_callVx (pc := 5) C hX (hpc := 13) (As := [.int i0, .int i1]) (rest := [.int 0, .ref b0]) (wr := []) (m85_CP_rewrote l htr D kA a0 a1 b1 b2 b3 b4 b5 b6 b7 b8 b9 b10 b11 b12 i0 i1) ml_Law_30 0 rfl rfl rfl d_Law_rewrote_5 rfl rfl [0, 1] [] rfl (by decide) rfl (by decide) (by decide) (Nat.le_of_ble_eq_true rfl) (Nat.le_of_ble_eq_true rfl) (Nat.le_of_ble_eq_true rfl) (Nat.le_of_ble_eq_true rfl) (Nat.le_of_ble_eq_true rfl) (cx_F1 hadm hmeth hcode C.2.2.2.1 htb ⟨by decide, by decide⟩ (by decide) (C.2.2.2.2.1 _ tb_classLink_1284)) (fun xe5 w1 hw1 => ?_)
  obtain rfl := hw1
  refine ax_w ([(a0, .inr (11, [.ref b1, .ref b2, .ref b3, .ref b4, .ref b5, .ref b6, .ref b7, .ref a1, .ref b8, .ref b9, .int 0, .int 0])), (a1, .inr (6, [.ref b10, .ref b11, .int 0, .int 0, .ref b4, .ref b12]))]) rfl ?_
  refine ax_astore (pc := 13) C d_Law_rewrote_13 (Nat.le_of_ble_eq_true rfl) ([(4, .ref xe5), (0, .ref a0), (1, .int i0), (2, .int i1), (3, .ref b0)]) rfl ?_
  refine ax_iconst (pc := 15) C 1 d_Law_rewrote_15 (by decide +kernel) ?_
  exact ax_iret (pc := 16) C d_Law_rewrote_16 ⟨rfl, rfl⟩ (by decide) (by decide)
abbrev b_MM_rewrote : ByteArray := prog_14_method_114_code
def y_MM_rewrote : MethodName := ⟨"ClauseProverModel", "rewrote", "(II)I"⟩
theorem d_MM_rewrote_0 : decode b_MM_rewrote 0 = .ok (.aload_n 0, 1) := by decide +kernel
theorem d_MM_rewrote_1 : decode b_MM_rewrote 1 = .ok (.iload_n 1, 1) := by decide +kernel
theorem d_MM_rewrote_2 : decode b_MM_rewrote 2 = .ok (.invokevirtual 759, 3) := by decide +kernel
theorem d_MM_rewrote_5 : decode b_MM_rewrote 5 = .ok (.ifCond .ne 30, 3) := by decide +kernel
theorem d_MM_rewrote_8 : decode b_MM_rewrote 8 = .ok (.aload_n 0, 1) := by decide +kernel
theorem d_MM_rewrote_9 : decode b_MM_rewrote 9 = .ok (.iconst 1, 1) := by decide +kernel
theorem d_MM_rewrote_10 : decode b_MM_rewrote 10 = .ok (.iload_n 2, 1) := by decide +kernel
theorem d_MM_rewrote_11 : decode b_MM_rewrote 11 = .ok (.ifCond .lt 13, 3) := by decide +kernel
theorem d_MM_rewrote_14 : decode b_MM_rewrote 14 = .ok (.iload_n 2, 1) := by decide +kernel
theorem d_MM_rewrote_15 : decode b_MM_rewrote 15 = .ok (.aload_n 0, 1) := by decide +kernel
theorem d_MM_rewrote_16 : decode b_MM_rewrote 16 = .ok (.getfield 262, 3) := by decide +kernel
theorem d_MM_rewrote_19 : decode b_MM_rewrote 19 = .ok (.iload_n 1, 1) := by decide +kernel
theorem d_MM_rewrote_20 : decode b_MM_rewrote 20 = .ok (.iaload, 1) := by decide +kernel
theorem d_MM_rewrote_21 : decode b_MM_rewrote 21 = .ok (.if_icmp .lt 7, 3) := by decide +kernel
theorem d_MM_rewrote_24 : decode b_MM_rewrote 24 = .ok (.iconst 1, 1) := by decide +kernel
theorem d_MM_rewrote_25 : decode b_MM_rewrote 25 = .ok (.goto 4, 3) := by decide +kernel
theorem d_MM_rewrote_28 : decode b_MM_rewrote 28 = .ok (.iconst 0, 1) := by decide +kernel
theorem d_MM_rewrote_29 : decode b_MM_rewrote 29 = .ok (.invokevirtual 401, 3) := by decide +kernel
theorem d_MM_rewrote_32 : decode b_MM_rewrote 32 = .ok (.ifCond .eq 5, 3) := by decide +kernel
theorem d_MM_rewrote_35 : decode b_MM_rewrote 35 = .ok (.iconst 0, 1) := by decide +kernel
theorem d_MM_rewrote_36 : decode b_MM_rewrote 36 = .ok (.ireturn, 1) := by decide +kernel
theorem d_MM_rewrote_37 : decode b_MM_rewrote 37 = .ok (.aload_n 0, 1) := by decide +kernel
theorem d_MM_rewrote_38 : decode b_MM_rewrote 38 = .ok (.getfield 266, 3) := by decide +kernel
theorem d_MM_rewrote_41 : decode b_MM_rewrote 41 = .ok (.aload_n 0, 1) := by decide +kernel
theorem d_MM_rewrote_42 : decode b_MM_rewrote 42 = .ok (.getfield 259, 3) := by decide +kernel
theorem d_MM_rewrote_45 : decode b_MM_rewrote 45 = .ok (.iload_n 1, 1) := by decide +kernel
theorem d_MM_rewrote_46 : decode b_MM_rewrote 46 = .ok (.iaload, 1) := by decide +kernel
theorem d_MM_rewrote_47 : decode b_MM_rewrote 47 = .ok (.iload_n 2, 1) := by decide +kernel
theorem d_MM_rewrote_48 : decode b_MM_rewrote 48 = .ok (.iadd, 1) := by decide +kernel
theorem d_MM_rewrote_49 : decode b_MM_rewrote 49 = .ok (.iaload, 1) := by decide +kernel
theorem d_MM_rewrote_50 : decode b_MM_rewrote 50 = .ok (.ireturn, 1) := by decide +kernel
theorem tc_Law_rewrote : Cond.codeWith y_Law_rewrote b_Law_rewrote 5 (some .int) [(0, 10, 13, 28)] ∈ lw_tbg := tb_in (i := 1310) (by decide +kernel) rfl
theorem mw_Law_90 : ax_LSw "ClauseProverLaw" 90 y_Law_rewrote b_Law_rewrote 5 [(0, 10, 13, 28)] 4 := ax_LSw.mk (tb_in (i := 1308) (by decide +kernel) rfl) (tb_in (i := 1309) (by decide +kernel) rfl) ti_Law tc_Law_rewrote (by decide +kernel)
set_option maxHeartbeats 4000000 in
set_option maxRecDepth 100000 in
theorem m86_MM_rewrote (l : Launch) (D : va_G) (kA : Nat → ClassId) (a0 : Nat) (b0 : Nat) (b1 : Nat) (b2 : Nat) (b3 : Nat) (b4 : Nat) (b5 : Nat) (b6 : Nat) (b7 : Nat) (b8 : Nat) (b9 : Nat) (b10 : Nat) (b11 : Nat) (b12 : Nat) (b13 : Nat) (b14 : Nat) (b15 : Nat) (b16 : Nat) (b17 : Nat) (b18 : Nat) (b19 : Nat) (b20 : Nat) (b21 : Nat) (b22 : Nat) (b23 : Nat) (b24 : Nat) (b25 : Nat) (b26 : Nat) (b27 : Nat) (b28 : Nat) (b29 : Nat) (b30 : Nat) (b31 : Nat) (b32 : Nat) (b33 : Nat) (b34 : Nat) (b35 : Nat) (b36 : Nat) (b37 : Nat) (b38 : Nat) (b39 : Nat) (b40 : Nat) (b41 : Nat) (b42 : Nat) (b43 : Nat) (b44 : Nat) (b45 : Nat) (b46 : Nat) (b47 : Nat) (b48 : Nat) (b49 : Nat) (b50 : Nat) (b51 : Nat) (b52 : Nat) (b53 : Nat) (b54 : Nat) (b55 : Nat) (b56 : Nat) (b57 : Nat) (b58 : Nat) (b59 : Nat) (b60 : Nat) (b61 : Nat) (b62 : Nat) (b63 : Nat) (b64 : Nat) (b65 : Nat) (b66 : Nat) (b67 : Nat) (b68 : Nat) (b69 : Nat) (b70 : Nat) (b71 : Nat) (b72 : Nat) (b73 : Nat) (b74 : Nat) (b75 : Nat) (i0 : Int32) (i1 : Int32) : ax_Mi l D kA y_MM_rewrote b_MM_rewrote 3 .int 2 43 0 0 [.ref a0, .int i0, .int i1] [(a0, .inr (12, [.ref b0, .ref b1, .int 0, .int 0, .int 0, .int 0, .int 0, .int 0, .int 0, .int 0, .int 0, .int 0, .int 0, .ref b2, .ref b3, .ref b4, .ref b5, .ref b6, .int 0, .int 1, .int 0, .ref b7, .ref b8, .ref b9, .ref b10, .int 0, .ref b11, .ref b12, .int 0, .int 0, .ref b13, .ref b14, .ref b15, .ref b16, .ref b17, .ref b18, .ref b19, .int 0, .int 0, .int 0, .int 0, .ref b20, .ref b21, .ref b22, .ref b23, .ref b24, .ref b25, .int 0, .ref b26, .ref b27, .ref b28, .ref b29, .ref b30, .ref b31, .ref b32, .int 0, .int 0, .ref b33, .ref b34, .ref b35, .ref b36, .ref b37, .int 0, .ref b38, .ref b39, .int 0, .ref b40, .ref b41, .ref b42, .ref b43, .ref b44, .ref b45, .int 0, .ref b46, .ref b47, .ref b48, .ref b49, .ref b50, .ref b51, .ref b52, .ref b53, .ref b54, .ref b55, .ref b56, .int 0, .int 0, .int 0, .int 0, .int (-1), .int 0, .int 0, .int 0, .int 0, .int 0, .int 0, .ref b57, .ref b58, .ref b59, .int 0, .ref b60, .ref b61, .int 0, .ref b62, .ref b63, .ref b64, .int 0, .ref b65, .ref b66, .ref b67, .ref b68, .ref b69, .ref b70, .int 0, .int (-1), .int 0, .ref b71, .int (-1), .int (-1), .int (-1), .ref b72, .int 0, .ref b73, .int 0, .ref b74, .int 0, .int 0, .ref b75]))] (fun r w1 => r = 0 ∧ w1 = [(a0, .inr (12, [.ref b0, .ref b1, .int 0, .int 0, .int 1, .int 0, .int 0, .int 0, .int 0, .int 0, .int 0, .int 0, .int 0, .ref b2, .ref b3, .ref b4, .ref b5, .ref b6, .int 0, .int 1, .int 0, .ref b7, .ref b8, .ref b9, .ref b10, .int 0, .ref b11, .ref b12, .int 0, .int 0, .ref b13, .ref b14, .ref b15, .ref b16, .ref b17, .ref b18, .ref b19, .int 0, .int 0, .int 0, .int 0, .ref b20, .ref b21, .ref b22, .ref b23, .ref b24, .ref b25, .int 0, .ref b26, .ref b27, .ref b28, .ref b29, .ref b30, .ref b31, .ref b32, .int 0, .int 0, .ref b33, .ref b34, .ref b35, .ref b36, .ref b37, .int 0, .ref b38, .ref b39, .int 0, .ref b40, .ref b41, .ref b42, .ref b43, .ref b44, .ref b45, .int 0, .ref b46, .ref b47, .ref b48, .ref b49, .ref b50, .ref b51, .ref b52, .ref b53, .ref b54, .ref b55, .ref b56, .int 0, .int 0, .int 0, .int 0, .int (-1), .int 0, .int 0, .int 0, .int 0, .int 0, .int 0, .ref b57, .ref b58, .ref b59, .int 0, .ref b60, .ref b61, .int 0, .ref b62, .ref b63, .ref b64, .int 0, .ref b65, .ref b66, .ref b67, .ref b68, .ref b69, .ref b70, .int 0, .int (-1), .int 0, .ref b71, .int (-1), .int (-1), .int (-1), .ref b72, .int 0, .ref b73, .int 0, .ref b74, .int 0, .int 0, .ref b75]))]) := by
  refine ax_Mi.of (by decide +kernel) (Nat.le_of_ble_eq_true rfl) ?_
  intro p e s m args below meth c C hnm
  refine ax_ls ([(0, .ref a0), (1, .int i0), (2, .int i1)]) [0, 1, 2] rfl ?_
  refine ax_aload_n (pc := 0) C d_MM_rewrote_0 rfl 0 rfl ?_
  refine ax_iload_n (pc := 1) C d_MM_rewrote_1 rfl 1 rfl ?_
  refine ax_callVi (pc := 2) C (As := [.int i0]) (rest := []) (wr := []) (m83_MM_none l D kA a0 b0 b1 b2 b3 b4 b5 b6 b7 b8 b9 b10 b11 b12 b13 b14 b15 b16 b17 b18 b19 b20 b21 b22 b23 b24 b25 b26 b27 b28 b29 b30 b31 b32 b33 b34 b35 b36 b37 b38 b39 b40 b41 b42 b43 b44 b45 b46 b47 b48 b49 b50 b51 b52 b53 b54 b55 b56 b57 b58 b59 b60 b61 b62 b63 b64 b65 b66 b67 b68 b69 b70 b71 b72 b73 b74 b75 i0) ml_MM_759 0 rfl rfl rfl d_MM_rewrote_2 rfl rfl [0] [] rfl (by decide) rfl (by decide) (by decide) (Nat.le_of_ble_eq_true rfl) (Nat.le_of_ble_eq_true rfl) (Nat.le_of_ble_eq_true rfl) (Nat.le_of_ble_eq_true rfl) (Nat.le_of_ble_eq_true rfl) (fun r2 w1 hw1 => ?_)
  obtain ⟨rfl, rfl⟩ := hw1
  refine ax_w ([(a0, .inr (12, [.ref b0, .ref b1, .int 0, .int 0, .int 1, .int 0, .int 0, .int 0, .int 0, .int 0, .int 0, .int 0, .int 0, .ref b2, .ref b3, .ref b4, .ref b5, .ref b6, .int 0, .int 1, .int 0, .ref b7, .ref b8, .ref b9, .ref b10, .int 0, .ref b11, .ref b12, .int 0, .int 0, .ref b13, .ref b14, .ref b15, .ref b16, .ref b17, .ref b18, .ref b19, .int 0, .int 0, .int 0, .int 0, .ref b20, .ref b21, .ref b22, .ref b23, .ref b24, .ref b25, .int 0, .ref b26, .ref b27, .ref b28, .ref b29, .ref b30, .ref b31, .ref b32, .int 0, .int 0, .ref b33, .ref b34, .ref b35, .ref b36, .ref b37, .int 0, .ref b38, .ref b39, .int 0, .ref b40, .ref b41, .ref b42, .ref b43, .ref b44, .ref b45, .int 0, .ref b46, .ref b47, .ref b48, .ref b49, .ref b50, .ref b51, .ref b52, .ref b53, .ref b54, .ref b55, .ref b56, .int 0, .int 0, .int 0, .int 0, .int (-1), .int 0, .int 0, .int 0, .int 0, .int 0, .int 0, .ref b57, .ref b58, .ref b59, .int 0, .ref b60, .ref b61, .int 0, .ref b62, .ref b63, .ref b64, .int 0, .ref b65, .ref b66, .ref b67, .ref b68, .ref b69, .ref b70, .int 0, .int (-1), .int 0, .ref b71, .int (-1), .int (-1), .int (-1), .ref b72, .int 0, .ref b73, .int 0, .ref b74, .int 0, .int 0, .ref b75]))]) rfl ?_
  refine ax_if_ne (pc := 5) C 35 d_MM_rewrote_5 (by decide) (fun _ => ?_) (fun h => absurd h (by decide))
  refine ax_iconst (pc := 35) C 0 d_MM_rewrote_35 (by decide +kernel) ?_
  exact ax_iret (pc := 36) C d_MM_rewrote_36 ⟨rfl, rfl⟩ (by decide) (by decide)
abbrev b_Law_literal : ByteArray := method_8_code
def y_Law_literal : MethodName := ⟨"ClauseProverLaw", "literal", "(LClauseProver;III[J)I"⟩
theorem d_Law_literal_0 : decode b_Law_literal 0 = .ok (.aload 4, 2) := by decide +kernel
theorem d_Law_literal_2 : decode b_Law_literal 2 = .ok (.iconst 0, 1) := by decide +kernel
theorem d_Law_literal_3 : decode b_Law_literal 3 = .ok (.aload_n 0, 1) := by decide +kernel
theorem d_Law_literal_4 : decode b_Law_literal 4 = .ok (.iload_n 1, 1) := by decide +kernel
theorem d_Law_literal_5 : decode b_Law_literal 5 = .ok (.iload_n 2, 1) := by decide +kernel
theorem d_Law_literal_6 : decode b_Law_literal 6 = .ok (.iload_n 3, 1) := by decide +kernel
theorem d_Law_literal_7 : decode b_Law_literal 7 = .ok (.invokevirtual 33, 3) := by decide +kernel
theorem d_Law_literal_10 : decode b_Law_literal 10 = .ok (.i2l, 1) := by decide +kernel
theorem d_Law_literal_11 : decode b_Law_literal 11 = .ok (.lastore, 1) := by decide +kernel
theorem d_Law_literal_12 : decode b_Law_literal 12 = .ok (.goto 11, 3) := by decide +kernel
theorem d_Law_literal_15 : decode b_Law_literal 15 = .ok (.astore 5, 2) := by decide +kernel
theorem d_Law_literal_17 : decode b_Law_literal 17 = .ok (.iconst 1, 1) := by decide +kernel
theorem d_Law_literal_18 : decode b_Law_literal 18 = .ok (.ireturn, 1) := by decide +kernel
theorem d_Law_literal_19 : decode b_Law_literal 19 = .ok (.astore 5, 2) := by decide +kernel
theorem d_Law_literal_21 : decode b_Law_literal 21 = .ok (.iconst 2, 1) := by decide +kernel
theorem d_Law_literal_22 : decode b_Law_literal 22 = .ok (.ireturn, 1) := by decide +kernel
theorem d_Law_literal_23 : decode b_Law_literal 23 = .ok (.iconst 0, 1) := by decide +kernel
theorem d_Law_literal_24 : decode b_Law_literal 24 = .ok (.ireturn, 1) := by decide +kernel
abbrev b_CP_literal : ByteArray := prog_1_method_10_code
def y_CP_literal : MethodName := ⟨"ClauseProver", "literal", "(III)I"⟩
theorem d_CP_literal_0 : decode b_CP_literal 0 = .ok (.aload_n 0, 1) := by decide +kernel
theorem d_CP_literal_1 : decode b_CP_literal 1 = .ok (.getfield 60, 3) := by decide +kernel
theorem d_CP_literal_4 : decode b_CP_literal 4 = .ok (.iload_n 1, 1) := by decide +kernel
theorem d_CP_literal_5 : decode b_CP_literal 5 = .ok (.invokevirtual 150, 3) := by decide +kernel
theorem d_CP_literal_8 : decode b_CP_literal 8 = .ok (.ifCond .eq 20, 3) := by decide +kernel
theorem d_CP_literal_11 : decode b_CP_literal 11 = .ok (.iload_n 2, 1) := by decide +kernel
theorem d_CP_literal_12 : decode b_CP_literal 12 = .ok (.ifCond .lt 16, 3) := by decide +kernel
theorem d_CP_literal_15 : decode b_CP_literal 15 = .ok (.iload_n 2, 1) := by decide +kernel
theorem d_CP_literal_16 : decode b_CP_literal 16 = .ok (.aload_n 0, 1) := by decide +kernel
theorem d_CP_literal_17 : decode b_CP_literal 17 = .ok (.getfield 60, 3) := by decide +kernel
theorem d_CP_literal_20 : decode b_CP_literal 20 = .ok (.iload_n 1, 1) := by decide +kernel
theorem d_CP_literal_21 : decode b_CP_literal 21 = .ok (.iconst 3, 1) := by decide +kernel
theorem d_CP_literal_22 : decode b_CP_literal 22 = .ok (.invokevirtual 161, 3) := by decide +kernel
theorem d_CP_literal_25 : decode b_CP_literal 25 = .ok (.if_icmp .lt 13, 3) := by decide +kernel
theorem d_CP_literal_28 : decode b_CP_literal 28 = .ok (.new 154, 3) := by decide +kernel
theorem d_CP_literal_31 : decode b_CP_literal 31 = .ok (.dup, 1) := by decide +kernel
theorem d_CP_literal_32 : decode b_CP_literal 32 = .ok (.ldc 170, 2) := by decide +kernel
theorem d_CP_literal_34 : decode b_CP_literal 34 = .ok (.invokespecial 158, 3) := by decide +kernel
theorem d_CP_literal_37 : decode b_CP_literal 37 = .ok (.athrow, 1) := by decide +kernel
theorem d_CP_literal_38 : decode b_CP_literal 38 = .ok (.iload_n 3, 1) := by decide +kernel
theorem d_CP_literal_39 : decode b_CP_literal 39 = .ok (.ifCond .lt 8, 3) := by decide +kernel
theorem d_CP_literal_42 : decode b_CP_literal 42 = .ok (.iload_n 3, 1) := by decide +kernel
theorem d_CP_literal_43 : decode b_CP_literal 43 = .ok (.iconst 3, 1) := by decide +kernel
theorem d_CP_literal_44 : decode b_CP_literal 44 = .ok (.if_icmp .le 13, 3) := by decide +kernel
theorem d_CP_literal_47 : decode b_CP_literal 47 = .ok (.new 100, 3) := by decide +kernel
theorem d_CP_literal_50 : decode b_CP_literal 50 = .ok (.dup, 1) := by decide +kernel
theorem d_CP_literal_51 : decode b_CP_literal 51 = .ok (.ldc 159, 2) := by decide +kernel
theorem d_CP_literal_53 : decode b_CP_literal 53 = .ok (.invokespecial 104, 3) := by decide +kernel
theorem d_CP_literal_56 : decode b_CP_literal 56 = .ok (.athrow, 1) := by decide +kernel
theorem d_CP_literal_57 : decode b_CP_literal 57 = .ok (.aload_n 0, 1) := by decide +kernel
theorem d_CP_literal_58 : decode b_CP_literal 58 = .ok (.getfield 60, 3) := by decide +kernel
theorem d_CP_literal_61 : decode b_CP_literal 61 = .ok (.iload_n 1, 1) := by decide +kernel
theorem d_CP_literal_62 : decode b_CP_literal 62 = .ok (.invokevirtual 172, 3) := by decide +kernel
theorem d_CP_literal_65 : decode b_CP_literal 65 = .ok (.aload_n 0, 1) := by decide +kernel
theorem d_CP_literal_66 : decode b_CP_literal 66 = .ok (.getfield 60, 3) := by decide +kernel
theorem d_CP_literal_69 : decode b_CP_literal 69 = .ok (.iload_n 1, 1) := by decide +kernel
theorem d_CP_literal_70 : decode b_CP_literal 70 = .ok (.iload_n 2, 1) := by decide +kernel
theorem d_CP_literal_71 : decode b_CP_literal 71 = .ok (.invokevirtual 175, 3) := by decide +kernel
theorem d_CP_literal_74 : decode b_CP_literal 74 = .ok (.istore 4, 2) := by decide +kernel
theorem d_CP_literal_76 : decode b_CP_literal 76 = .ok (.aload_n 0, 1) := by decide +kernel
theorem d_CP_literal_77 : decode b_CP_literal 77 = .ok (.getfield 60, 3) := by decide +kernel
theorem d_CP_literal_80 : decode b_CP_literal 80 = .ok (.getfield 178, 3) := by decide +kernel
theorem d_CP_literal_83 : decode b_CP_literal 83 = .ok (.getfield 110, 3) := by decide +kernel
theorem d_CP_literal_86 : decode b_CP_literal 86 = .ok (.astore 5, 2) := by decide +kernel
theorem d_CP_literal_88 : decode b_CP_literal 88 = .ok (.iload_n 3, 1) := by decide +kernel
theorem d_CP_literal_89 : decode b_CP_literal 89 = .ok (.iconst 3, 1) := by decide +kernel
theorem d_CP_literal_90 : decode b_CP_literal 90 = .ok (.if_icmp .ne 19, 3) := by decide +kernel
theorem d_CP_literal_93 : decode b_CP_literal 93 = .ok (.aload 5, 2) := by decide +kernel
theorem d_CP_literal_95 : decode b_CP_literal 95 = .ok (.iload 4, 2) := by decide +kernel
theorem d_CP_literal_97 : decode b_CP_literal 97 = .ok (.iconst 3, 1) := by decide +kernel
theorem d_CP_literal_98 : decode b_CP_literal 98 = .ok (.iadd, 1) := by decide +kernel
theorem d_CP_literal_99 : decode b_CP_literal 99 = .ok (.iaload, 1) := by decide +kernel
theorem d_CP_literal_100 : decode b_CP_literal 100 = .ok (.aload 5, 2) := by decide +kernel
theorem d_CP_literal_102 : decode b_CP_literal 102 = .ok (.iload 4, 2) := by decide +kernel
theorem d_CP_literal_104 : decode b_CP_literal 104 = .ok (.iconst 4, 1) := by decide +kernel
theorem d_CP_literal_105 : decode b_CP_literal 105 = .ok (.iadd, 1) := by decide +kernel
theorem d_CP_literal_106 : decode b_CP_literal 106 = .ok (.iaload, 1) := by decide +kernel
theorem d_CP_literal_107 : decode b_CP_literal 107 = .ok (.iadd, 1) := by decide +kernel
theorem d_CP_literal_108 : decode b_CP_literal 108 = .ok (.ireturn, 1) := by decide +kernel
theorem d_CP_literal_109 : decode b_CP_literal 109 = .ok (.aload 5, 2) := by decide +kernel
theorem d_CP_literal_111 : decode b_CP_literal 111 = .ok (.iload 4, 2) := by decide +kernel
theorem d_CP_literal_113 : decode b_CP_literal 113 = .ok (.iload_n 3, 1) := by decide +kernel
theorem d_CP_literal_114 : decode b_CP_literal 114 = .ok (.ifCond .ne 7, 3) := by decide +kernel
theorem d_CP_literal_117 : decode b_CP_literal 117 = .ok (.iconst 0, 1) := by decide +kernel
theorem d_CP_literal_118 : decode b_CP_literal 118 = .ok (.goto 13, 3) := by decide +kernel
theorem d_CP_literal_121 : decode b_CP_literal 121 = .ok (.iload_n 3, 1) := by decide +kernel
theorem d_CP_literal_122 : decode b_CP_literal 122 = .ok (.iconst 1, 1) := by decide +kernel
theorem d_CP_literal_123 : decode b_CP_literal 123 = .ok (.if_icmp .ne 7, 3) := by decide +kernel
theorem d_CP_literal_126 : decode b_CP_literal 126 = .ok (.iconst 1, 1) := by decide +kernel
theorem d_CP_literal_127 : decode b_CP_literal 127 = .ok (.goto 4, 3) := by decide +kernel
theorem d_CP_literal_130 : decode b_CP_literal 130 = .ok (.iconst 2, 1) := by decide +kernel
theorem d_CP_literal_131 : decode b_CP_literal 131 = .ok (.iadd, 1) := by decide +kernel
theorem d_CP_literal_132 : decode b_CP_literal 132 = .ok (.iaload, 1) := by decide +kernel
theorem d_CP_literal_133 : decode b_CP_literal 133 = .ok (.ireturn, 1) := by decide +kernel
set_option maxHeartbeats 4000000 in
set_option maxRecDepth 100000 in
theorem m88_CP_literal (l : Launch) (htr : l.stackTraces = false) (D : va_G) (kA : Nat → ClassId) (a0 : Nat) (a1 : Nat) (b0 : Nat) (b1 : Nat) (b2 : Nat) (b3 : Nat) (b4 : Nat) (b5 : Nat) (b6 : Nat) (b7 : Nat) (b8 : Nat) (b9 : Nat) (b10 : Nat) (b11 : Nat) (i0 : Int32) (i1 : Int32) (i2 : Int32) : ax_Mx l D kA y_CP_literal b_CP_literal 6 (some .int) 6 90 1 6 [.ref a0, .int i0, .int i1, .int i2] [(a0, .inr (11, [.ref b0, .ref b1, .ref b2, .ref b3, .ref b4, .ref b5, .ref b6, .ref a1, .ref b7, .ref b8, .int 0, .int 0])), (a1, .inr (6, [.ref b9, .ref b10, .int 0, .int 0, .ref b3, .ref b11]))] "java/util/NoSuchElementException" (fun w1 => w1 = [(a0, .inr (11, [.ref b0, .ref b1, .ref b2, .ref b3, .ref b4, .ref b5, .ref b6, .ref a1, .ref b7, .ref b8, .int 0, .int 0])), (a1, .inr (6, [.ref b9, .ref b10, .int 0, .int 0, .ref b3, .ref b11]))]) := by
  refine ax_Mx.of (by decide +kernel) (Nat.le_of_ble_eq_true rfl) ?_
  intro p e s m args below meth c C hadm hex hX hP0
  refine ax_ls ([(0, .ref a0), (1, .int i0), (2, .int i1), (3, .int i2)]) [0, 1, 2, 3] rfl ?_
  refine ax_aload_n (pc := 0) C d_CP_literal_0 rfl 0 rfl ?_
  refine ax_get (pc := 1) C k_CP 7 lk_CP_60 d_CP_literal_1 (Nat.le_of_ble_eq_true rfl) 0 rfl rfl ?_
  refine ax_iload_n (pc := 4) C d_CP_literal_4 rfl 1 rfl ?_
  refine ax_callVi (pc := 5) C (As := [.int i0]) (rest := []) (wr := [(a0, .inr (11, [.ref b0, .ref b1, .ref b2, .ref b3, .ref b4, .ref b5, .ref b6, .ref a1, .ref b7, .ref b8, .int 0, .int 0]))]) (m81_Sto_has l D kA a1 b9 b10 b3 b11 i0) ml_CP_150 1 rfl rfl rfl d_CP_literal_5 rfl rfl [1] [0] rfl (by decide) rfl (by decide) (by decide) (Nat.le_of_ble_eq_true rfl) (Nat.le_of_ble_eq_true rfl) (Nat.le_of_ble_eq_true rfl) (Nat.le_of_ble_eq_true rfl) (Nat.le_of_ble_eq_true rfl) (fun r5 w1 hw1 => ?_)
  obtain ⟨rfl, rfl⟩ := hw1
  refine ax_w ([(a0, .inr (11, [.ref b0, .ref b1, .ref b2, .ref b3, .ref b4, .ref b5, .ref b6, .ref a1, .ref b7, .ref b8, .int 0, .int 0])), (a1, .inr (6, [.ref b9, .ref b10, .int 0, .int 0, .ref b3, .ref b11]))]) rfl ?_
  refine ax_if_eq (pc := 8) C 28 d_CP_literal_8 (by decide) (fun _ => ?_) (fun h => absurd h (by decide))
  exact ax_throw2 (pc := 28) C hadm htr hex hX hP0 (is := 170) (tx := "no such literal") ta_NSE (by decide +kernel) (by decide) tb_classLink_1290 tb_instantiable_1291 tb_initialized_25 (by decide +kernel) (by decide +kernel) (by decide +kernel) (by decide +kernel) d_CP_literal_28 d_CP_literal_31 d_CP_literal_32 d_CP_literal_34 d_CP_literal_37 (Nat.le_of_ble_eq_true rfl) (Nat.le_of_ble_eq_true rfl) (Nat.le_of_ble_eq_true rfl) (Nat.le_of_ble_eq_true rfl) rfl rfl rfl
theorem tc_CP_literal : Cond.code y_CP_literal b_CP_literal 6 (some (.int)) ∈ lw_tbg := tb_in (i := 1322) (by decide +kernel) rfl
theorem ml_Law_33 : ax_LV "ClauseProverLaw" 33 y_CP_literal b_CP_literal 6 (some (.int)) 3 := ax_LV.mk (tb_in (i := 1319) (by decide +kernel) rfl) (tb_in (i := 1320) (by decide +kernel) rfl) (tb_in (i := 1321) (by decide +kernel) rfl) ti_CP tc_CP_literal (by decide +kernel)
set_option maxHeartbeats 4000000 in
set_option maxRecDepth 100000 in
theorem m87_Law_literal (l : Launch) (htr : l.stackTraces = false) (D : va_G) (kA : Nat → ClassId) (a0 : Nat) (a1 : Nat) (b0 : Nat) (b1 : Nat) (b2 : Nat) (b3 : Nat) (b4 : Nat) (b5 : Nat) (b6 : Nat) (b7 : Nat) (b8 : Nat) (b9 : Nat) (b10 : Nat) (b11 : Nat) (b12 : Nat) (i0 : Int32) (i1 : Int32) (i2 : Int32) : ax_Mw l D kA y_Law_literal b_Law_literal 6 [(0, 12, 15, 28), (0, 12, 19, 19)] 7 115 1 6 [.ref a0, .int i0, .int i1, .int i2, .ref b0] [(a0, .inr (11, [.ref b1, .ref b2, .ref b3, .ref b4, .ref b5, .ref b6, .ref b7, .ref a1, .ref b8, .ref b9, .int 0, .int 0])), (a1, .inr (6, [.ref b10, .ref b11, .int 0, .int 0, .ref b4, .ref b12]))] (fun r w1 => r = 1 ∧ w1 = [(a0, .inr (11, [.ref b1, .ref b2, .ref b3, .ref b4, .ref b5, .ref b6, .ref b7, .ref a1, .ref b8, .ref b9, .int 0, .int 0])), (a1, .inr (6, [.ref b10, .ref b11, .int 0, .int 0, .ref b4, .ref b12]))]) := by
  refine ax_Mw.of (by decide +kernel) (Nat.le_of_ble_eq_true rfl) ?_
  intro p e s m args below meth c C hadm hmeth hcode htb hX
  refine ax_ls ([(0, .ref a0), (1, .int i0), (2, .int i1), (3, .int i2), (4, .ref b0)]) [0, 1, 2, 3, 4] rfl ?_
  refine ax_aload (pc := 0) C d_Law_literal_0 4 rfl ?_
  refine ax_iconst (pc := 2) C 0 d_Law_literal_2 (by decide +kernel) ?_
  refine ax_aload_n (pc := 3) C d_Law_literal_3 rfl 0 rfl ?_
  refine ax_iload_n (pc := 4) C d_Law_literal_4 rfl 1 rfl ?_
  refine ax_iload_n (pc := 5) C d_Law_literal_5 rfl 2 rfl ?_
  refine ax_iload_n (pc := 6) C d_Law_literal_6 rfl 3 rfl ?_
  refine ax_callVx (pc := 7) C hX (hpc := 15) (As := [.int i0, .int i1, .int i2]) (rest := [.int 0, .ref b0]) (wr := []) (m88_CP_literal l htr D kA a0 a1 b1 b2 b3 b4 b5 b6 b7 b8 b9 b10 b11 b12 i0 i1 i2) ml_Law_33 0 rfl rfl rfl d_Law_literal_7 rfl rfl [0, 1] [] rfl (by decide) rfl (by decide) (by decide) (Nat.le_of_ble_eq_true rfl) (Nat.le_of_ble_eq_true rfl) (Nat.le_of_ble_eq_true rfl) (Nat.le_of_ble_eq_true rfl) (Nat.le_of_ble_eq_true rfl) (cx_F1 hadm hmeth hcode C.2.2.2.1 htb ⟨by decide, by decide⟩ (by decide) (C.2.2.2.2.1 _ tb_classLink_1284)) (fun xe7 w1 hw1 => ?_)
  obtain rfl := hw1
  refine ax_w ([(a0, .inr (11, [.ref b1, .ref b2, .ref b3, .ref b4, .ref b5, .ref b6, .ref b7, .ref a1, .ref b8, .ref b9, .int 0, .int 0])), (a1, .inr (6, [.ref b10, .ref b11, .int 0, .int 0, .ref b4, .ref b12]))]) rfl ?_
  refine ax_astore (pc := 15) C d_Law_literal_15 (Nat.le_of_ble_eq_true rfl) ([(5, .ref xe7), (0, .ref a0), (1, .int i0), (2, .int i1), (3, .int i2), (4, .ref b0)]) rfl ?_
  refine ax_iconst (pc := 17) C 1 d_Law_literal_17 (by decide +kernel) ?_
  exact ax_iret (pc := 18) C d_Law_literal_18 ⟨rfl, rfl⟩ (by decide) (by decide)
abbrev b_MM_literal : ByteArray := prog_14_method_115_code
def y_MM_literal : MethodName := ⟨"ClauseProverModel", "literal", "(III)I"⟩
theorem d_MM_literal_0 : decode b_MM_literal 0 = .ok (.aload_n 0, 1) := by decide +kernel
theorem d_MM_literal_1 : decode b_MM_literal 1 = .ok (.iload_n 1, 1) := by decide +kernel
theorem d_MM_literal_2 : decode b_MM_literal 2 = .ok (.invokevirtual 759, 3) := by decide +kernel
theorem d_MM_literal_5 : decode b_MM_literal 5 = .ok (.ifCond .ne 30, 3) := by decide +kernel
theorem d_MM_literal_8 : decode b_MM_literal 8 = .ok (.aload_n 0, 1) := by decide +kernel
theorem d_MM_literal_9 : decode b_MM_literal 9 = .ok (.iconst 1, 1) := by decide +kernel
theorem d_MM_literal_10 : decode b_MM_literal 10 = .ok (.iload_n 2, 1) := by decide +kernel
theorem d_MM_literal_11 : decode b_MM_literal 11 = .ok (.ifCond .lt 13, 3) := by decide +kernel
theorem d_MM_literal_14 : decode b_MM_literal 14 = .ok (.iload_n 2, 1) := by decide +kernel
theorem d_MM_literal_15 : decode b_MM_literal 15 = .ok (.aload_n 0, 1) := by decide +kernel
theorem d_MM_literal_16 : decode b_MM_literal 16 = .ok (.getfield 238, 3) := by decide +kernel
theorem d_MM_literal_19 : decode b_MM_literal 19 = .ok (.iload_n 1, 1) := by decide +kernel
theorem d_MM_literal_20 : decode b_MM_literal 20 = .ok (.iaload, 1) := by decide +kernel
theorem d_MM_literal_21 : decode b_MM_literal 21 = .ok (.if_icmp .lt 7, 3) := by decide +kernel
theorem d_MM_literal_24 : decode b_MM_literal 24 = .ok (.iconst 1, 1) := by decide +kernel
theorem d_MM_literal_25 : decode b_MM_literal 25 = .ok (.goto 4, 3) := by decide +kernel
theorem d_MM_literal_28 : decode b_MM_literal 28 = .ok (.iconst 0, 1) := by decide +kernel
theorem d_MM_literal_29 : decode b_MM_literal 29 = .ok (.invokevirtual 401, 3) := by decide +kernel
theorem d_MM_literal_32 : decode b_MM_literal 32 = .ok (.ifCond .eq 5, 3) := by decide +kernel
theorem d_MM_literal_35 : decode b_MM_literal 35 = .ok (.iconst 0, 1) := by decide +kernel
theorem d_MM_literal_36 : decode b_MM_literal 36 = .ok (.ireturn, 1) := by decide +kernel
theorem d_MM_literal_37 : decode b_MM_literal 37 = .ok (.aload_n 0, 1) := by decide +kernel
theorem d_MM_literal_38 : decode b_MM_literal 38 = .ok (.getfield 235, 3) := by decide +kernel
theorem d_MM_literal_41 : decode b_MM_literal 41 = .ok (.iload_n 1, 1) := by decide +kernel
theorem d_MM_literal_42 : decode b_MM_literal 42 = .ok (.iaload, 1) := by decide +kernel
theorem d_MM_literal_43 : decode b_MM_literal 43 = .ok (.iload_n 2, 1) := by decide +kernel
theorem d_MM_literal_44 : decode b_MM_literal 44 = .ok (.iadd, 1) := by decide +kernel
theorem d_MM_literal_45 : decode b_MM_literal 45 = .ok (.istore 4, 2) := by decide +kernel
theorem d_MM_literal_47 : decode b_MM_literal 47 = .ok (.iload_n 3, 1) := by decide +kernel
theorem d_MM_literal_48 : decode b_MM_literal 48 = .ok (.tableswitch 80 0 3 #[32, 48, 56, 72], 32) := by decide +kernel
theorem d_MM_literal_80 : decode b_MM_literal 80 = .ok (.aload_n 0, 1) := by decide +kernel
theorem d_MM_literal_81 : decode b_MM_literal 81 = .ok (.getfield 220, 3) := by decide +kernel
theorem d_MM_literal_84 : decode b_MM_literal 84 = .ok (.iload 4, 2) := by decide +kernel
theorem d_MM_literal_86 : decode b_MM_literal 86 = .ok (.baload, 1) := by decide +kernel
theorem d_MM_literal_87 : decode b_MM_literal 87 = .ok (.ifCond .eq 7, 3) := by decide +kernel
theorem d_MM_literal_90 : decode b_MM_literal 90 = .ok (.iconst 1, 1) := by decide +kernel
theorem d_MM_literal_91 : decode b_MM_literal 91 = .ok (.goto 4, 3) := by decide +kernel
theorem d_MM_literal_94 : decode b_MM_literal 94 = .ok (.iconst 0, 1) := by decide +kernel
theorem d_MM_literal_95 : decode b_MM_literal 95 = .ok (.ireturn, 1) := by decide +kernel
theorem d_MM_literal_96 : decode b_MM_literal 96 = .ok (.aload_n 0, 1) := by decide +kernel
theorem d_MM_literal_97 : decode b_MM_literal 97 = .ok (.getfield 223, 3) := by decide +kernel
theorem d_MM_literal_100 : decode b_MM_literal 100 = .ok (.iload 4, 2) := by decide +kernel
theorem d_MM_literal_102 : decode b_MM_literal 102 = .ok (.iaload, 1) := by decide +kernel
theorem d_MM_literal_103 : decode b_MM_literal 103 = .ok (.ireturn, 1) := by decide +kernel
theorem d_MM_literal_104 : decode b_MM_literal 104 = .ok (.aload_n 0, 1) := by decide +kernel
theorem d_MM_literal_105 : decode b_MM_literal 105 = .ok (.getfield 229, 3) := by decide +kernel
theorem d_MM_literal_108 : decode b_MM_literal 108 = .ok (.iload 4, 2) := by decide +kernel
theorem d_MM_literal_110 : decode b_MM_literal 110 = .ok (.baload, 1) := by decide +kernel
theorem d_MM_literal_111 : decode b_MM_literal 111 = .ok (.ifCond .eq 7, 3) := by decide +kernel
theorem d_MM_literal_114 : decode b_MM_literal 114 = .ok (.iconst 1, 1) := by decide +kernel
theorem d_MM_literal_115 : decode b_MM_literal 115 = .ok (.goto 4, 3) := by decide +kernel
theorem d_MM_literal_118 : decode b_MM_literal 118 = .ok (.iconst 0, 1) := by decide +kernel
theorem d_MM_literal_119 : decode b_MM_literal 119 = .ok (.ireturn, 1) := by decide +kernel
theorem d_MM_literal_120 : decode b_MM_literal 120 = .ok (.aload_n 0, 1) := by decide +kernel
theorem d_MM_literal_121 : decode b_MM_literal 121 = .ok (.getfield 226, 3) := by decide +kernel
theorem d_MM_literal_124 : decode b_MM_literal 124 = .ok (.iload 4, 2) := by decide +kernel
theorem d_MM_literal_126 : decode b_MM_literal 126 = .ok (.iaload, 1) := by decide +kernel
theorem d_MM_literal_127 : decode b_MM_literal 127 = .ok (.ireturn, 1) := by decide +kernel
theorem d_MM_literal_128 : decode b_MM_literal 128 = .ok (.aload_n 0, 1) := by decide +kernel
theorem d_MM_literal_129 : decode b_MM_literal 129 = .ok (.iconst 2, 1) := by decide +kernel
theorem d_MM_literal_130 : decode b_MM_literal 130 = .ok (.putfield 24, 3) := by decide +kernel
theorem d_MM_literal_133 : decode b_MM_literal 133 = .ok (.iconst 0, 1) := by decide +kernel
theorem d_MM_literal_134 : decode b_MM_literal 134 = .ok (.ireturn, 1) := by decide +kernel
