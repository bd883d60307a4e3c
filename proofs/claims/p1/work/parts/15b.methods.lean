abbrev b_MM_thrown : ByteArray := prog_14_method_2_code
def y_MM_thrown : MethodName := ⟨"ClauseProverModel", "thrown", "()I"⟩
theorem d_MM_thrown_0 : decode b_MM_thrown 0 = .ok (.aload_n 0, 1) := by decide +kernel
theorem d_MM_thrown_1 : decode b_MM_thrown 1 = .ok (.getfield 24, 3) := by decide +kernel
theorem d_MM_thrown_4 : decode b_MM_thrown 4 = .ok (.ireturn, 1) := by decide +kernel
theorem tc_MM_feed : Cond.code y_MM_feed b_MM_feed 8 (some (.int)) ∈ lw_tbg := tb_in (i := 1910) (by decide +kernel) rfl
theorem ml_Law_66 : ax_LV "ClauseProverLaw" 66 y_MM_feed b_MM_feed 8 (some (.int)) 5 := ax_LV.mk (tb_in (i := 1907) (by decide +kernel) rfl) (tb_in (i := 1908) (by decide +kernel) rfl) (tb_in (i := 1909) (by decide +kernel) rfl) ti_MM tc_MM_feed (by decide +kernel)
set_option maxHeartbeats 4000000 in
set_option maxRecDepth 100000 in
theorem m30_MM_thrown (l : Launch) (D : va_G) (kA : Nat → ClassId) (a0 : Nat) (b0 : Nat) (b1 : Nat) (b2 : Nat) (b3 : Nat) (b4 : Nat) (b5 : Nat) (b6 : Nat) (b7 : Nat) (b8 : Nat) (b9 : Nat) (b10 : Nat) (b11 : Nat) (b12 : Nat) (b13 : Nat) (b14 : Nat) (b15 : Nat) (b16 : Nat) (b17 : Nat) (b18 : Nat) (b19 : Nat) (b20 : Nat) (b21 : Nat) (b22 : Nat) (b23 : Nat) (b24 : Nat) (b25 : Nat) (b26 : Nat) (b27 : Nat) (b28 : Nat) (b29 : Nat) (b30 : Nat) (b31 : Nat) (b32 : Nat) (b33 : Nat) (b34 : Nat) (b35 : Nat) (b36 : Nat) (b37 : Nat) (b38 : Nat) (b39 : Nat) (b40 : Nat) (b41 : Nat) (b42 : Nat) (b43 : Nat) (b44 : Nat) (b45 : Nat) (b46 : Nat) (b47 : Nat) (b48 : Nat) (b49 : Nat) (b50 : Nat) (b51 : Nat) (b52 : Nat) (b53 : Nat) (b54 : Nat) (b55 : Nat) (b56 : Nat) (b57 : Nat) (b58 : Nat) (b59 : Nat) (b60 : Nat) (b61 : Nat) (b62 : Nat) (b63 : Nat) (b64 : Nat) (b65 : Nat) (b66 : Nat) (b67 : Nat) (b68 : Nat) (b69 : Nat) (b70 : Nat) (b71 : Nat) (b72 : Nat) (b73 : Nat) (b74 : Nat) (b75 : Nat) : ax_Mi l D kA y_MM_thrown b_MM_thrown 1 .int 0 0 0 0 [.ref a0] [(a0, .inr (12, [.ref b0, .ref b1, .int 20, .int 0, .int 0, .int 0, .int 0, .int 0, .int 0, .int 0, .int 0, .int 0, .int 0, .ref b2, .ref b3, .ref b4, .ref b5, .ref b6, .int 0, .int 1, .int 0, .ref b7, .ref b8, .ref b9, .ref b10, .int 0, .ref b11, .ref b12, .int 0, .int 0, .ref b13, .ref b14, .ref b15, .ref b16, .ref b17, .ref b18, .ref b19, .int 0, .int 0, .int 0, .int 0, .ref b20, .ref b21, .ref b22, .ref b23, .ref b24, .ref b25, .int 0, .ref b26, .ref b27, .ref b28, .ref b29, .ref b30, .ref b31, .ref b32, .int 0, .int 0, .ref b33, .ref b34, .ref b35, .ref b36, .ref b37, .int 0, .ref b38, .ref b39, .int 0, .ref b40, .ref b41, .ref b42, .ref b43, .ref b44, .ref b45, .int 0, .ref b46, .ref b47, .ref b48, .ref b49, .ref b50, .ref b51, .ref b52, .ref b53, .ref b54, .ref b55, .ref b56, .int 0, .int 0, .int 0, .int 0, .int (-1), .int 0, .int 0, .int 0, .int 0, .int 0, .int 0, .ref b57, .ref b58, .ref b59, .int 0, .ref b60, .ref b61, .int 0, .ref b62, .ref b63, .ref b64, .int 0, .ref b65, .ref b66, .ref b67, .ref b68, .ref b69, .ref b70, .int 0, .int (-1), .int 0, .ref b71, .int (-1), .int (-1), .int (-1), .ref b72, .int 0, .ref b73, .int 0, .ref b74, .int 0, .int 0, .ref b75]))] (fun r w1 => r = 0 ∧ w1 = [(a0, .inr (12, [.ref b0, .ref b1, .int 20, .int 0, .int 0, .int 0, .int 0, .int 0, .int 0, .int 0, .int 0, .int 0, .int 0, .ref b2, .ref b3, .ref b4, .ref b5, .ref b6, .int 0, .int 1, .int 0, .ref b7, .ref b8, .ref b9, .ref b10, .int 0, .ref b11, .ref b12, .int 0, .int 0, .ref b13, .ref b14, .ref b15, .ref b16, .ref b17, .ref b18, .ref b19, .int 0, .int 0, .int 0, .int 0, .ref b20, .ref b21, .ref b22, .ref b23, .ref b24, .ref b25, .int 0, .ref b26, .ref b27, .ref b28, .ref b29, .ref b30, .ref b31, .ref b32, .int 0, .int 0, .ref b33, .ref b34, .ref b35, .ref b36, .ref b37, .int 0, .ref b38, .ref b39, .int 0, .ref b40, .ref b41, .ref b42, .ref b43, .ref b44, .ref b45, .int 0, .ref b46, .ref b47, .ref b48, .ref b49, .ref b50, .ref b51, .ref b52, .ref b53, .ref b54, .ref b55, .ref b56, .int 0, .int 0, .int 0, .int 0, .int (-1), .int 0, .int 0, .int 0, .int 0, .int 0, .int 0, .ref b57, .ref b58, .ref b59, .int 0, .ref b60, .ref b61, .int 0, .ref b62, .ref b63, .ref b64, .int 0, .ref b65, .ref b66, .ref b67, .ref b68, .ref b69, .ref b70, .int 0, .int (-1), .int 0, .ref b71, .int (-1), .int (-1), .int (-1), .ref b72, .int 0, .ref b73, .int 0, .ref b74, .int 0, .int 0, .ref b75]))]) := by
  refine ax_Mi.of (by decide +kernel) (Nat.le_of_ble_eq_true rfl) ?_
  intro p e s m args below meth c C hnm
  refine ax_ls ([(0, .ref a0)]) [0] rfl ?_
  refine ax_aload_n (pc := 0) C d_MM_thrown_0 rfl 0 rfl ?_
  refine ax_get (pc := 1) C k_MM 4 lk_MM_24 d_MM_thrown_1 (Nat.le_of_ble_eq_true rfl) 0 rfl rfl ?_
  exact ax_iret (pc := 4) C d_MM_thrown_4 ⟨rfl, rfl⟩ (by decide) (by decide)
abbrev b_Law_end : ByteArray := method_4_code
def y_Law_end : MethodName := ⟨"ClauseProverLaw", "end", "(LClauseProver;I[J)I"⟩
theorem d_Law_end_0 : decode b_Law_end 0 = .ok (.aload_n 2, 1) := by decide +kernel
theorem d_Law_end_1 : decode b_Law_end 1 = .ok (.iconst 0, 1) := by decide +kernel
theorem d_Law_end_2 : decode b_Law_end 2 = .ok (.aload_n 0, 1) := by decide +kernel
theorem d_Law_end_3 : decode b_Law_end 3 = .ok (.iload_n 1, 1) := by decide +kernel
theorem d_Law_end_4 : decode b_Law_end 4 = .ok (.invokevirtual 15, 3) := by decide +kernel
theorem d_Law_end_7 : decode b_Law_end 7 = .ok (.i2l, 1) := by decide +kernel
theorem d_Law_end_8 : decode b_Law_end 8 = .ok (.lastore, 1) := by decide +kernel
theorem d_Law_end_9 : decode b_Law_end 9 = .ok (.goto 6, 3) := by decide +kernel
theorem d_Law_end_12 : decode b_Law_end 12 = .ok (.astore_n 3, 1) := by decide +kernel
theorem d_Law_end_13 : decode b_Law_end 13 = .ok (.iconst 1, 1) := by decide +kernel
theorem d_Law_end_14 : decode b_Law_end 14 = .ok (.ireturn, 1) := by decide +kernel
theorem d_Law_end_15 : decode b_Law_end 15 = .ok (.iconst 0, 1) := by decide +kernel
theorem d_Law_end_16 : decode b_Law_end 16 = .ok (.ireturn, 1) := by decide +kernel
abbrev b_CP_end : ByteArray := prog_1_method_4_code
def y_CP_end : MethodName := ⟨"ClauseProver", "end", "(I)I"⟩
theorem d_CP_end_0 : decode b_CP_end 0 = .ok (.iload_n 1, 1) := by decide +kernel
theorem d_CP_end_1 : decode b_CP_end 1 = .ok (.ifCond .lt 14, 3) := by decide +kernel
theorem d_CP_end_4 : decode b_CP_end 4 = .ok (.iload_n 1, 1) := by decide +kernel
theorem d_CP_end_5 : decode b_CP_end 5 = .ok (.aload_n 0, 1) := by decide +kernel
theorem d_CP_end_6 : decode b_CP_end 6 = .ok (.getfield 14, 3) := by decide +kernel
theorem d_CP_end_9 : decode b_CP_end 9 = .ok (.getfield 82, 3) := by decide +kernel
theorem d_CP_end_12 : decode b_CP_end 12 = .ok (.if_icmp .le 13, 3) := by decide +kernel
theorem d_CP_end_15 : decode b_CP_end 15 = .ok (.new 100, 3) := by decide +kernel
theorem d_CP_end_18 : decode b_CP_end 18 = .ok (.dup, 1) := by decide +kernel
theorem d_CP_end_19 : decode b_CP_end 19 = .ok (.ldc 102, 2) := by decide +kernel
theorem d_CP_end_21 : decode b_CP_end 21 = .ok (.invokespecial 104, 3) := by decide +kernel
theorem d_CP_end_24 : decode b_CP_end 24 = .ok (.athrow, 1) := by decide +kernel
theorem d_CP_end_25 : decode b_CP_end 25 = .ok (.aload_n 0, 1) := by decide +kernel
theorem d_CP_end_26 : decode b_CP_end 26 = .ok (.getfield 14, 3) := by decide +kernel
theorem d_CP_end_29 : decode b_CP_end 29 = .ok (.iload_n 1, 1) := by decide +kernel
theorem d_CP_end_30 : decode b_CP_end 30 = .ok (.putfield 82, 3) := by decide +kernel
theorem d_CP_end_33 : decode b_CP_end 33 = .ok (.iload_n 1, 1) := by decide +kernel
theorem d_CP_end_34 : decode b_CP_end 34 = .ok (.ireturn, 1) := by decide +kernel
theorem tb_classLink_984 : Cond.classLink "ClauseProver" 100 "java/lang/IllegalArgumentException" ∈ lw_tbg := tb_in (i := 984) (by decide +kernel) rfl
theorem tb_instantiable_985 : Cond.instantiable "java/lang/IllegalArgumentException" 6 ∈ lw_tbg := tb_in (i := 985) (by decide +kernel) rfl
theorem tb_initialized_21 : Cond.initialized "java/lang/IllegalArgumentException" ∈ lw_tbg := tb_in (i := 21) (by decide +kernel) rfl
theorem tb_classLink_979 : Cond.classLink "ClauseProverLaw" 19 "java/lang/IllegalArgumentException" ∈ lw_tbg := tb_in (i := 979) (by decide +kernel) rfl
set_option maxHeartbeats 4000000 in
set_option maxRecDepth 100000 in
theorem m32_CP_end (l : Launch) (htr : l.stackTraces = false) (D : va_G) (kA : Nat → ClassId) (b0 : Nat) (i0 : Int32) (h0 : i0 < 0) : ax_Mx l D kA y_CP_end b_CP_end 2 (some .int) 6 90 1 6 [.ref b0, .int i0] [] "java/lang/IllegalArgumentException" (fun w1 => w1 = []) := by
  refine ax_Mx.of (by decide +kernel) (Nat.le_of_ble_eq_true rfl) ?_
  intro p e s m args below meth c C hadm hex hX hP0
  refine ax_ls ([(0, .ref b0), (1, .int i0)]) [0, 1] rfl ?_
  refine ax_iload_n (pc := 0) C d_CP_end_0 rfl 1 rfl ?_
  refine ax_if_lt (pc := 1) C 15 d_CP_end_1 (by decide) (fun _ => ?_) (fun h => absurd h0 h)
  exact ax_throw2 (pc := 15) C hadm htr hex hX hP0 (is := 102) (tx := "not within the tape") ta_IAE (by decide +kernel) (by decide) tb_classLink_984 tb_instantiable_985 tb_initialized_21 (by decide +kernel) (by decide +kernel) (by decide +kernel) (by decide +kernel) d_CP_end_15 d_CP_end_18 d_CP_end_19 d_CP_end_21 d_CP_end_24 (Nat.le_of_ble_eq_true rfl) (Nat.le_of_ble_eq_true rfl) (Nat.le_of_ble_eq_true rfl) (Nat.le_of_ble_eq_true rfl) rfl rfl rfl
theorem tc_CP_end : Cond.code y_CP_end b_CP_end 2 (some (.int)) ∈ lw_tbg := tb_in (i := 983) (by decide +kernel) rfl
theorem ml_Law_15 : ax_LV "ClauseProverLaw" 15 y_CP_end b_CP_end 2 (some (.int)) 1 := ax_LV.mk (tb_in (i := 980) (by decide +kernel) rfl) (tb_in (i := 981) (by decide +kernel) rfl) (tb_in (i := 982) (by decide +kernel) rfl) ti_CP tc_CP_end (by decide +kernel)
set_option maxHeartbeats 4000000 in
set_option maxRecDepth 100000 in
theorem m31_Law_end (l : Launch) (htr : l.stackTraces = false) (D : va_G) (kA : Nat → ClassId) (a0 : Nat) (b0 : Nat) (b1 : Nat) (b2 : Nat) (b3 : Nat) (b4 : Nat) (b5 : Nat) (b6 : Nat) (b7 : Nat) (b8 : Nat) (b9 : Nat) (b10 : Nat) (i0 : Int32) (h0 : i0 < 0) : ax_Mw l D kA y_Law_end b_Law_end 4 [(0, 9, 12, 19)] 7 111 1 6 [.ref a0, .int i0, .ref b0] [(a0, .inr (11, [.ref b1, .ref b2, .ref b3, .ref b4, .ref b5, .ref b6, .ref b7, .ref b8, .ref b9, .ref b10, .int 0, .int 0]))] (fun r w1 => r = 1 ∧ w1 = [(a0, .inr (11, [.ref b1, .ref b2, .ref b3, .ref b4, .ref b5, .ref b6, .ref b7, .ref b8, .ref b9, .ref b10, .int 0, .int 0]))]) := by
  refine ax_Mw.of (by decide +kernel) (Nat.le_of_ble_eq_true rfl) ?_
  intro p e s m args below meth c C hadm hmeth hcode htb hX
  refine ax_ls ([(0, .ref a0), (1, .int i0), (2, .ref b0)]) [0, 1, 2] rfl ?_
  refine ax_aload_n (pc := 0) C d_Law_end_0 rfl 2 rfl ?_
  refine ax_iconst (pc := 1) C 0 d_Law_end_1 (by decide +kernel) ?_
  refine ax_aload_n (pc := 2) C d_Law_end_2 rfl 0 rfl ?_
  refine ax_iload_n (pc := 3) C d_Law_end_3 rfl 1 rfl ?_
  refine ax_callVx (pc := 4) C hX (hpc := 12) (As := [.int i0]) (rest := [.int 0, .ref b0]) (wr := [(a0, .inr (11, [.ref b1, .ref b2, .ref b3, .ref b4, .ref b5, .ref b6, .ref b7, .ref b8, .ref b9, .ref b10, .int 0, .int 0]))]) (m32_CP_end l htr D kA a0 i0 h0) ml_Law_15 0 rfl rfl rfl d_Law_end_4 rfl rfl [] [0] rfl (by decide) rfl (by decide) (by decide) (Nat.le_of_ble_eq_true rfl) (Nat.le_of_ble_eq_true rfl) (Nat.le_of_ble_eq_true rfl) (Nat.le_of_ble_eq_true rfl) (Nat.le_of_ble_eq_true rfl) (cx_F1 hadm hmeth hcode C.2.2.2.1 htb ⟨by decide, by decide⟩ (by decide) (C.2.2.2.2.1 _ tb_classLink_979)) (fun xe4 w1 hw1 => ?_)
  obtain rfl := hw1
  refine ax_w ([(a0, .inr (11, [.ref b1, .ref b2, .ref b3, .ref b4, .ref b5, .ref b6, .ref b7, .ref b8, .ref b9, .ref b10, .int 0, .int 0]))]) rfl ?_
  refine ax_astore_n (pc := 12) C d_Law_end_12 rfl (Nat.le_of_ble_eq_true rfl) ([(3, .ref xe4), (0, .ref a0), (1, .int i0), (2, .ref b0)]) rfl ?_
  refine ax_iconst (pc := 13) C 1 d_Law_end_13 (by decide +kernel) ?_
  exact ax_iret (pc := 14) C d_Law_end_14 ⟨rfl, rfl⟩ (by decide) (by decide)
abbrev b_MM_end : ByteArray := prog_14_method_5_code
def y_MM_end : MethodName := ⟨"ClauseProverModel", "end", "(I)I"⟩
theorem d_MM_end_0 : decode b_MM_end 0 = .ok (.aload_n 0, 1) := by decide +kernel
theorem d_MM_end_1 : decode b_MM_end 1 = .ok (.iconst 0, 1) := by decide +kernel
theorem d_MM_end_2 : decode b_MM_end 2 = .ok (.putfield 24, 3) := by decide +kernel
theorem d_MM_end_5 : decode b_MM_end 5 = .ok (.aload_n 0, 1) := by decide +kernel
theorem d_MM_end_6 : decode b_MM_end 6 = .ok (.iconst 1, 1) := by decide +kernel
theorem d_MM_end_7 : decode b_MM_end 7 = .ok (.iload_n 1, 1) := by decide +kernel
theorem d_MM_end_8 : decode b_MM_end 8 = .ok (.ifCond .lt 11, 3) := by decide +kernel
theorem d_MM_end_11 : decode b_MM_end 11 = .ok (.iload_n 1, 1) := by decide +kernel
theorem d_MM_end_12 : decode b_MM_end 12 = .ok (.aload_n 0, 1) := by decide +kernel
theorem d_MM_end_13 : decode b_MM_end 13 = .ok (.getfield 17, 3) := by decide +kernel
theorem d_MM_end_16 : decode b_MM_end 16 = .ok (.if_icmp .le 7, 3) := by decide +kernel
theorem d_MM_end_19 : decode b_MM_end 19 = .ok (.iconst 1, 1) := by decide +kernel
theorem d_MM_end_20 : decode b_MM_end 20 = .ok (.goto 4, 3) := by decide +kernel
theorem d_MM_end_23 : decode b_MM_end 23 = .ok (.iconst 0, 1) := by decide +kernel
theorem d_MM_end_24 : decode b_MM_end 24 = .ok (.invokevirtual 401, 3) := by decide +kernel
theorem d_MM_end_27 : decode b_MM_end 27 = .ok (.ifCond .eq 5, 3) := by decide +kernel
theorem d_MM_end_30 : decode b_MM_end 30 = .ok (.iconst 0, 1) := by decide +kernel
theorem d_MM_end_31 : decode b_MM_end 31 = .ok (.ireturn, 1) := by decide +kernel
theorem d_MM_end_32 : decode b_MM_end 32 = .ok (.aload_n 0, 1) := by decide +kernel
theorem d_MM_end_33 : decode b_MM_end 33 = .ok (.iload_n 1, 1) := by decide +kernel
theorem d_MM_end_34 : decode b_MM_end 34 = .ok (.putfield 17, 3) := by decide +kernel
theorem d_MM_end_37 : decode b_MM_end 37 = .ok (.iload_n 1, 1) := by decide +kernel
theorem d_MM_end_38 : decode b_MM_end 38 = .ok (.ireturn, 1) := by decide +kernel
theorem tc_Law_end : Cond.codeWith y_Law_end b_Law_end 4 (some .int) [(0, 9, 12, 19)] ∈ lw_tbg := tb_in (i := 978) (by decide +kernel) rfl
theorem mw_Law_71 : ax_LSw "ClauseProverLaw" 71 y_Law_end b_Law_end 4 [(0, 9, 12, 19)] 3 := ax_LSw.mk (tb_in (i := 976) (by decide +kernel) rfl) (tb_in (i := 977) (by decide +kernel) rfl) ti_Law tc_Law_end (by decide +kernel)
set_option maxHeartbeats 4000000 in
set_option maxRecDepth 100000 in
theorem m34_MM_refuse (l : Launch) (D : va_G) (kA : Nat → ClassId) (a0 : Nat) (b0 : Nat) (b1 : Nat) (b2 : Nat) (b3 : Nat) (b4 : Nat) (b5 : Nat) (b6 : Nat) (b7 : Nat) (b8 : Nat) (b9 : Nat) (b10 : Nat) (b11 : Nat) (b12 : Nat) (b13 : Nat) (b14 : Nat) (b15 : Nat) (b16 : Nat) (b17 : Nat) (b18 : Nat) (b19 : Nat) (b20 : Nat) (b21 : Nat) (b22 : Nat) (b23 : Nat) (b24 : Nat) (b25 : Nat) (b26 : Nat) (b27 : Nat) (b28 : Nat) (b29 : Nat) (b30 : Nat) (b31 : Nat) (b32 : Nat) (b33 : Nat) (b34 : Nat) (b35 : Nat) (b36 : Nat) (b37 : Nat) (b38 : Nat) (b39 : Nat) (b40 : Nat) (b41 : Nat) (b42 : Nat) (b43 : Nat) (b44 : Nat) (b45 : Nat) (b46 : Nat) (b47 : Nat) (b48 : Nat) (b49 : Nat) (b50 : Nat) (b51 : Nat) (b52 : Nat) (b53 : Nat) (b54 : Nat) (b55 : Nat) (b56 : Nat) (b57 : Nat) (b58 : Nat) (b59 : Nat) (b60 : Nat) (b61 : Nat) (b62 : Nat) (b63 : Nat) (b64 : Nat) (b65 : Nat) (b66 : Nat) (b67 : Nat) (b68 : Nat) (b69 : Nat) (b70 : Nat) (b71 : Nat) (b72 : Nat) (b73 : Nat) (b74 : Nat) (b75 : Nat) : ax_Mi l D kA y_MM_refuse b_MM_refuse 3 .boolean 0 0 0 0 [.ref a0, .int 1, .int 1] [(a0, .inr (12, [.ref b0, .ref b1, .int 0, .int 0, .int 0, .int 0, .int 0, .int 0, .int 0, .int 0, .int 0, .int 0, .int 0, .ref b2, .ref b3, .ref b4, .ref b5, .ref b6, .int 0, .int 1, .int 0, .ref b7, .ref b8, .ref b9, .ref b10, .int 0, .ref b11, .ref b12, .int 0, .int 0, .ref b13, .ref b14, .ref b15, .ref b16, .ref b17, .ref b18, .ref b19, .int 0, .int 0, .int 0, .int 0, .ref b20, .ref b21, .ref b22, .ref b23, .ref b24, .ref b25, .int 0, .ref b26, .ref b27, .ref b28, .ref b29, .ref b30, .ref b31, .ref b32, .int 0, .int 0, .ref b33, .ref b34, .ref b35, .ref b36, .ref b37, .int 0, .ref b38, .ref b39, .int 0, .ref b40, .ref b41, .ref b42, .ref b43, .ref b44, .ref b45, .int 0, .ref b46, .ref b47, .ref b48, .ref b49, .ref b50, .ref b51, .ref b52, .ref b53, .ref b54, .ref b55, .ref b56, .int 0, .int 0, .int 0, .int 0, .int (-1), .int 0, .int 0, .int 0, .int 0, .int 0, .int 0, .ref b57, .ref b58, .ref b59, .int 0, .ref b60, .ref b61, .int 0, .ref b62, .ref b63, .ref b64, .int 0, .ref b65, .ref b66, .ref b67, .ref b68, .ref b69, .ref b70, .int 0, .int (-1), .int 0, .ref b71, .int (-1), .int (-1), .int (-1), .ref b72, .int 0, .ref b73, .int 0, .ref b74, .int 0, .int 0, .ref b75]))] (fun r w1 => r = 1 ∧ w1 = [(a0, .inr (12, [.ref b0, .ref b1, .int 0, .int 0, .int 1, .int 0, .int 0, .int 0, .int 0, .int 0, .int 0, .int 0, .int 0, .ref b2, .ref b3, .ref b4, .ref b5, .ref b6, .int 0, .int 1, .int 0, .ref b7, .ref b8, .ref b9, .ref b10, .int 0, .ref b11, .ref b12, .int 0, .int 0, .ref b13, .ref b14, .ref b15, .ref b16, .ref b17, .ref b18, .ref b19, .int 0, .int 0, .int 0, .int 0, .ref b20, .ref b21, .ref b22, .ref b23, .ref b24, .ref b25, .int 0, .ref b26, .ref b27, .ref b28, .ref b29, .ref b30, .ref b31, .ref b32, .int 0, .int 0, .ref b33, .ref b34, .ref b35, .ref b36, .ref b37, .int 0, .ref b38, .ref b39, .int 0, .ref b40, .ref b41, .ref b42, .ref b43, .ref b44, .ref b45, .int 0, .ref b46, .ref b47, .ref b48, .ref b49, .ref b50, .ref b51, .ref b52, .ref b53, .ref b54, .ref b55, .ref b56, .int 0, .int 0, .int 0, .int 0, .int (-1), .int 0, .int 0, .int 0, .int 0, .int 0, .int 0, .ref b57, .ref b58, .ref b59, .int 0, .ref b60, .ref b61, .int 0, .ref b62, .ref b63, .ref b64, .int 0, .ref b65, .ref b66, .ref b67, .ref b68, .ref b69, .ref b70, .int 0, .int (-1), .int 0, .ref b71, .int (-1), .int (-1), .int (-1), .ref b72, .int 0, .ref b73, .int 0, .ref b74, .int 0, .int 0, .ref b75]))]) := by
  refine ax_Mi.of (by decide +kernel) (Nat.le_of_ble_eq_true rfl) ?_
  intro p e s m args below meth c C hnm
  refine ax_ls ([(0, .ref a0), (1, .int 1), (2, .int 1)]) [0, 1, 2] rfl ?_
  refine ax_iload_n (pc := 0) C d_MM_refuse_0 rfl 2 rfl ?_
  refine ax_if_eq (pc := 1) C 9 d_MM_refuse_1 (by decide) (fun h => absurd h (by decide)) (fun _ => ?_)
  refine ax_aload_n (pc := 4) C d_MM_refuse_4 rfl 0 rfl ?_
  refine ax_iload_n (pc := 5) C d_MM_refuse_5 rfl 1 rfl ?_
  refine ax_put (pc := 6) C k_MM 4 lk_MM_24 d_MM_refuse_6 (Nat.le_of_ble_eq_true rfl) 0 rfl rfl rfl rfl (Nat.le_of_ble_eq_true rfl) ?_
  refine ax_w ([(a0, .inr (12, [.ref b0, .ref b1, .int 0, .int 0, .int 1, .int 0, .int 0, .int 0, .int 0, .int 0, .int 0, .int 0, .int 0, .ref b2, .ref b3, .ref b4, .ref b5, .ref b6, .int 0, .int 1, .int 0, .ref b7, .ref b8, .ref b9, .ref b10, .int 0, .ref b11, .ref b12, .int 0, .int 0, .ref b13, .ref b14, .ref b15, .ref b16, .ref b17, .ref b18, .ref b19, .int 0, .int 0, .int 0, .int 0, .ref b20, .ref b21, .ref b22, .ref b23, .ref b24, .ref b25, .int 0, .ref b26, .ref b27, .ref b28, .ref b29, .ref b30, .ref b31, .ref b32, .int 0, .int 0, .ref b33, .ref b34, .ref b35, .ref b36, .ref b37, .int 0, .ref b38, .ref b39, .int 0, .ref b40, .ref b41, .ref b42, .ref b43, .ref b44, .ref b45, .int 0, .ref b46, .ref b47, .ref b48, .ref b49, .ref b50, .ref b51, .ref b52, .ref b53, .ref b54, .ref b55, .ref b56, .int 0, .int 0, .int 0, .int 0, .int (-1), .int 0, .int 0, .int 0, .int 0, .int 0, .int 0, .ref b57, .ref b58, .ref b59, .int 0, .ref b60, .ref b61, .int 0, .ref b62, .ref b63, .ref b64, .int 0, .ref b65, .ref b66, .ref b67, .ref b68, .ref b69, .ref b70, .int 0, .int (-1), .int 0, .ref b71, .int (-1), .int (-1), .int (-1), .ref b72, .int 0, .ref b73, .int 0, .ref b74, .int 0, .int 0, .ref b75]))]) rfl ?_
  refine ax_iload_n (pc := 9) C d_MM_refuse_9 rfl 2 rfl ?_
  exact ax_zret (pc := 10) C d_MM_refuse_10 rfl ⟨rfl, rfl⟩ (by decide) (by decide)
set_option maxHeartbeats 4000000 in
set_option maxRecDepth 100000 in
theorem m33_MM_end (l : Launch) (D : va_G) (kA : Nat → ClassId) (a0 : Nat) (b0 : Nat) (b1 : Nat) (b2 : Nat) (b3 : Nat) (b4 : Nat) (b5 : Nat) (b6 : Nat) (b7 : Nat) (b8 : Nat) (b9 : Nat) (b10 : Nat) (b11 : Nat) (b12 : Nat) (b13 : Nat) (b14 : Nat) (b15 : Nat) (b16 : Nat) (b17 : Nat) (b18 : Nat) (b19 : Nat) (b20 : Nat) (b21 : Nat) (b22 : Nat) (b23 : Nat) (b24 : Nat) (b25 : Nat) (b26 : Nat) (b27 : Nat) (b28 : Nat) (b29 : Nat) (b30 : Nat) (b31 : Nat) (b32 : Nat) (b33 : Nat) (b34 : Nat) (b35 : Nat) (b36 : Nat) (b37 : Nat) (b38 : Nat) (b39 : Nat) (b40 : Nat) (b41 : Nat) (b42 : Nat) (b43 : Nat) (b44 : Nat) (b45 : Nat) (b46 : Nat) (b47 : Nat) (b48 : Nat) (b49 : Nat) (b50 : Nat) (b51 : Nat) (b52 : Nat) (b53 : Nat) (b54 : Nat) (b55 : Nat) (b56 : Nat) (b57 : Nat) (b58 : Nat) (b59 : Nat) (b60 : Nat) (b61 : Nat) (b62 : Nat) (b63 : Nat) (b64 : Nat) (b65 : Nat) (b66 : Nat) (b67 : Nat) (b68 : Nat) (b69 : Nat) (b70 : Nat) (b71 : Nat) (b72 : Nat) (b73 : Nat) (b74 : Nat) (b75 : Nat) (i0 : Int32) (h0 : i0 < 0) : ax_Mi l D kA y_MM_end b_MM_end 2 .int 1 22 0 0 [.ref a0, .int i0] [(a0, .inr (12, [.ref b0, .ref b1, .int 0, .int 0, .int 0, .int 0, .int 0, .int 0, .int 0, .int 0, .int 0, .int 0, .int 0, .ref b2, .ref b3, .ref b4, .ref b5, .ref b6, .int 0, .int 1, .int 0, .ref b7, .ref b8, .ref b9, .ref b10, .int 0, .ref b11, .ref b12, .int 0, .int 0, .ref b13, .ref b14, .ref b15, .ref b16, .ref b17, .ref b18, .ref b19, .int 0, .int 0, .int 0, .int 0, .ref b20, .ref b21, .ref b22, .ref b23, .ref b24, .ref b25, .int 0, .ref b26, .ref b27, .ref b28, .ref b29, .ref b30, .ref b31, .ref b32, .int 0, .int 0, .ref b33, .ref b34, .ref b35, .ref b36, .ref b37, .int 0, .ref b38, .ref b39, .int 0, .ref b40, .ref b41, .ref b42, .ref b43, .ref b44, .ref b45, .int 0, .ref b46, .ref b47, .ref b48, .ref b49, .ref b50, .ref b51, .ref b52, .ref b53, .ref b54, .ref b55, .ref b56, .int 0, .int 0, .int 0, .int 0, .int (-1), .int 0, .int 0, .int 0, .int 0, .int 0, .int 0, .ref b57, .ref b58, .ref b59, .int 0, .ref b60, .ref b61, .int 0, .ref b62, .ref b63, .ref b64, .int 0, .ref b65, .ref b66, .ref b67, .ref b68, .ref b69, .ref b70, .int 0, .int (-1), .int 0, .ref b71, .int (-1), .int (-1), .int (-1), .ref b72, .int 0, .ref b73, .int 0, .ref b74, .int 0, .int 0, .ref b75]))] (fun r w1 => r = 0 ∧ w1 = [(a0, .inr (12, [.ref b0, .ref b1, .int 0, .int 0, .int 1, .int 0, .int 0, .int 0, .int 0, .int 0, .int 0, .int 0, .int 0, .ref b2, .ref b3, .ref b4, .ref b5, .ref b6, .int 0, .int 1, .int 0, .ref b7, .ref b8, .ref b9, .ref b10, .int 0, .ref b11, .ref b12, .int 0, .int 0, .ref b13, .ref b14, .ref b15, .ref b16, .ref b17, .ref b18, .ref b19, .int 0, .int 0, .int 0, .int 0, .ref b20, .ref b21, .ref b22, .ref b23, .ref b24, .ref b25, .int 0, .ref b26, .ref b27, .ref b28, .ref b29, .ref b30, .ref b31, .ref b32, .int 0, .int 0, .ref b33, .ref b34, .ref b35, .ref b36, .ref b37, .int 0, .ref b38, .ref b39, .int 0, .ref b40, .ref b41, .ref b42, .ref b43, .ref b44, .ref b45, .int 0, .ref b46, .ref b47, .ref b48, .ref b49, .ref b50, .ref b51, .ref b52, .ref b53, .ref b54, .ref b55, .ref b56, .int 0, .int 0, .int 0, .int 0, .int (-1), .int 0, .int 0, .int 0, .int 0, .int 0, .int 0, .ref b57, .ref b58, .ref b59, .int 0, .ref b60, .ref b61, .int 0, .ref b62, .ref b63, .ref b64, .int 0, .ref b65, .ref b66, .ref b67, .ref b68, .ref b69, .ref b70, .int 0, .int (-1), .int 0, .ref b71, .int (-1), .int (-1), .int (-1), .ref b72, .int 0, .ref b73, .int 0, .ref b74, .int 0, .int 0, .ref b75]))]) := by
  refine ax_Mi.of (by decide +kernel) (Nat.le_of_ble_eq_true rfl) ?_
  intro p e s m args below meth c C hnm
  refine ax_ls ([(0, .ref a0), (1, .int i0)]) [0, 1] rfl ?_
  refine ax_aload_n (pc := 0) C d_MM_end_0 rfl 0 rfl ?_
  refine ax_iconst (pc := 1) C 0 d_MM_end_1 (by decide +kernel) ?_
  refine ax_put (pc := 2) C k_MM 4 lk_MM_24 d_MM_end_2 (Nat.le_of_ble_eq_true rfl) 0 rfl rfl rfl rfl (Nat.le_of_ble_eq_true rfl) ?_
  refine ax_w ([(a0, .inr (12, [.ref b0, .ref b1, .int 0, .int 0, .int 0, .int 0, .int 0, .int 0, .int 0, .int 0, .int 0, .int 0, .int 0, .ref b2, .ref b3, .ref b4, .ref b5, .ref b6, .int 0, .int 1, .int 0, .ref b7, .ref b8, .ref b9, .ref b10, .int 0, .ref b11, .ref b12, .int 0, .int 0, .ref b13, .ref b14, .ref b15, .ref b16, .ref b17, .ref b18, .ref b19, .int 0, .int 0, .int 0, .int 0, .ref b20, .ref b21, .ref b22, .ref b23, .ref b24, .ref b25, .int 0, .ref b26, .ref b27, .ref b28, .ref b29, .ref b30, .ref b31, .ref b32, .int 0, .int 0, .ref b33, .ref b34, .ref b35, .ref b36, .ref b37, .int 0, .ref b38, .ref b39, .int 0, .ref b40, .ref b41, .ref b42, .ref b43, .ref b44, .ref b45, .int 0, .ref b46, .ref b47, .ref b48, .ref b49, .ref b50, .ref b51, .ref b52, .ref b53, .ref b54, .ref b55, .ref b56, .int 0, .int 0, .int 0, .int 0, .int (-1), .int 0, .int 0, .int 0, .int 0, .int 0, .int 0, .ref b57, .ref b58, .ref b59, .int 0, .ref b60, .ref b61, .int 0, .ref b62, .ref b63, .ref b64, .int 0, .ref b65, .ref b66, .ref b67, .ref b68, .ref b69, .ref b70, .int 0, .int (-1), .int 0, .ref b71, .int (-1), .int (-1), .int (-1), .ref b72, .int 0, .ref b73, .int 0, .ref b74, .int 0, .int 0, .ref b75]))]) rfl ?_
  refine ax_aload_n (pc := 5) C d_MM_end_5 rfl 0 rfl ?_
  refine ax_iconst (pc := 6) C 1 d_MM_end_6 (by decide +kernel) ?_
  refine ax_iload_n (pc := 7) C d_MM_end_7 rfl 1 rfl ?_
  refine ax_if_lt (pc := 8) C 19 d_MM_end_8 (by decide) (fun _ => ?_) (fun h => absurd h0 h)
  refine ax_iconst (pc := 19) C 1 d_MM_end_19 (by decide +kernel) ?_
  refine ax_goto (pc := 20) C 24 d_MM_end_20 (by decide) ?_
  refine ax_callVi (pc := 24) C (As := [.int 1, .int 1]) (rest := []) (wr := []) (m34_MM_refuse l D kA a0 b0 b1 b2 b3 b4 b5 b6 b7 b8 b9 b10 b11 b12 b13 b14 b15 b16 b17 b18 b19 b20 b21 b22 b23 b24 b25 b26 b27 b28 b29 b30 b31 b32 b33 b34 b35 b36 b37 b38 b39 b40 b41 b42 b43 b44 b45 b46 b47 b48 b49 b50 b51 b52 b53 b54 b55 b56 b57 b58 b59 b60 b61 b62 b63 b64 b65 b66 b67 b68 b69 b70 b71 b72 b73 b74 b75) ml_MM_401 0 rfl rfl rfl d_MM_end_24 rfl rfl [0] [] rfl (by decide) rfl (by decide) (by decide) (Nat.le_of_ble_eq_true rfl) (Nat.le_of_ble_eq_true rfl) (Nat.le_of_ble_eq_true rfl) (Nat.le_of_ble_eq_true rfl) (Nat.le_of_ble_eq_true rfl) (fun r24 w1 hw1 => ?_)
  obtain ⟨rfl, rfl⟩ := hw1
  refine ax_w ([(a0, .inr (12, [.ref b0, .ref b1, .int 0, .int 0, .int 1, .int 0, .int 0, .int 0, .int 0, .int 0, .int 0, .int 0, .int 0, .ref b2, .ref b3, .ref b4, .ref b5, .ref b6, .int 0, .int 1, .int 0, .ref b7, .ref b8, .ref b9, .ref b10, .int 0, .ref b11, .ref b12, .int 0, .int 0, .ref b13, .ref b14, .ref b15, .ref b16, .ref b17, .ref b18, .ref b19, .int 0, .int 0, .int 0, .int 0, .ref b20, .ref b21, .ref b22, .ref b23, .ref b24, .ref b25, .int 0, .ref b26, .ref b27, .ref b28, .ref b29, .ref b30, .ref b31, .ref b32, .int 0, .int 0, .ref b33, .ref b34, .ref b35, .ref b36, .ref b37, .int 0, .ref b38, .ref b39, .int 0, .ref b40, .ref b41, .ref b42, .ref b43, .ref b44, .ref b45, .int 0, .ref b46, .ref b47, .ref b48, .ref b49, .ref b50, .ref b51, .ref b52, .ref b53, .ref b54, .ref b55, .ref b56, .int 0, .int 0, .int 0, .int 0, .int (-1), .int 0, .int 0, .int 0, .int 0, .int 0, .int 0, .ref b57, .ref b58, .ref b59, .int 0, .ref b60, .ref b61, .int 0, .ref b62, .ref b63, .ref b64, .int 0, .ref b65, .ref b66, .ref b67, .ref b68, .ref b69, .ref b70, .int 0, .int (-1), .int 0, .ref b71, .int (-1), .int (-1), .int (-1), .ref b72, .int 0, .ref b73, .int 0, .ref b74, .int 0, .int 0, .ref b75]))]) rfl ?_
  refine ax_if_eq (pc := 27) C 32 d_MM_end_27 (by decide) (fun h => absurd h (by decide)) (fun _ => ?_)
  refine ax_iconst (pc := 30) C 0 d_MM_end_30 (by decide +kernel) ?_
  exact ax_iret (pc := 31) C d_MM_end_31 ⟨rfl, rfl⟩ (by decide) (by decide)
theorem tc_MM_end : Cond.code y_MM_end b_MM_end 2 (some (.int)) ∈ lw_tbg := tb_in (i := 1919) (by decide +kernel) rfl
theorem ml_Law_74 : ax_LV "ClauseProverLaw" 74 y_MM_end b_MM_end 2 (some (.int)) 1 := ax_LV.mk (tb_in (i := 1916) (by decide +kernel) rfl) (tb_in (i := 1917) (by decide +kernel) rfl) (tb_in (i := 1918) (by decide +kernel) rfl) ti_MM tc_MM_end (by decide +kernel)
set_option maxHeartbeats 4000000 in
set_option maxRecDepth 100000 in
theorem m35_MM_thrown (l : Launch) (D : va_G) (kA : Nat → ClassId) (a0 : Nat) (b0 : Nat) (b1 : Nat) (b2 : Nat) (b3 : Nat) (b4 : Nat) (b5 : Nat) (b6 : Nat) (b7 : Nat) (b8 : Nat) (b9 : Nat) (b10 : Nat) (b11 : Nat) (b12 : Nat) (b13 : Nat) (b14 : Nat) (b15 : Nat) (b16 : Nat) (b17 : Nat) (b18 : Nat) (b19 : Nat) (b20 : Nat) (b21 : Nat) (b22 : Nat) (b23 : Nat) (b24 : Nat) (b25 : Nat) (b26 : Nat) (b27 : Nat) (b28 : Nat) (b29 : Nat) (b30 : Nat) (b31 : Nat) (b32 : Nat) (b33 : Nat) (b34 : Nat) (b35 : Nat) (b36 : Nat) (b37 : Nat) (b38 : Nat) (b39 : Nat) (b40 : Nat) (b41 : Nat) (b42 : Nat) (b43 : Nat) (b44 : Nat) (b45 : Nat) (b46 : Nat) (b47 : Nat) (b48 : Nat) (b49 : Nat) (b50 : Nat) (b51 : Nat) (b52 : Nat) (b53 : Nat) (b54 : Nat) (b55 : Nat) (b56 : Nat) (b57 : Nat) (b58 : Nat) (b59 : Nat) (b60 : Nat) (b61 : Nat) (b62 : Nat) (b63 : Nat) (b64 : Nat) (b65 : Nat) (b66 : Nat) (b67 : Nat) (b68 : Nat) (b69 : Nat) (b70 : Nat) (b71 : Nat) (b72 : Nat) (b73 : Nat) (b74 : Nat) (b75 : Nat) : ax_Mi l D kA y_MM_thrown b_MM_thrown 1 .int 0 0 0 0 [.ref a0] [(a0, .inr (12, [.ref b0, .ref b1, .int 0, .int 0, .int 1, .int 0, .int 0, .int 0, .int 0, .int 0, .int 0, .int 0, .int 0, .ref b2, .ref b3, .ref b4, .ref b5, .ref b6, .int 0, .int 1, .int 0, .ref b7, .ref b8, .ref b9, .ref b10, .int 0, .ref b11, .ref b12, .int 0, .int 0, .ref b13, .ref b14, .ref b15, .ref b16, .ref b17, .ref b18, .ref b19, .int 0, .int 0, .int 0, .int 0, .ref b20, .ref b21, .ref b22, .ref b23, .ref b24, .ref b25, .int 0, .ref b26, .ref b27, .ref b28, .ref b29, .ref b30, .ref b31, .ref b32, .int 0, .int 0, .ref b33, .ref b34, .ref b35, .ref b36, .ref b37, .int 0, .ref b38, .ref b39, .int 0, .ref b40, .ref b41, .ref b42, .ref b43, .ref b44, .ref b45, .int 0, .ref b46, .ref b47, .ref b48, .ref b49, .ref b50, .ref b51, .ref b52, .ref b53, .ref b54, .ref b55, .ref b56, .int 0, .int 0, .int 0, .int 0, .int (-1), .int 0, .int 0, .int 0, .int 0, .int 0, .int 0, .ref b57, .ref b58, .ref b59, .int 0, .ref b60, .ref b61, .int 0, .ref b62, .ref b63, .ref b64, .int 0, .ref b65, .ref b66, .ref b67, .ref b68, .ref b69, .ref b70, .int 0, .int (-1), .int 0, .ref b71, .int (-1), .int (-1), .int (-1), .ref b72, .int 0, .ref b73, .int 0, .ref b74, .int 0, .int 0, .ref b75]))] (fun r w1 => r = 1 ∧ w1 = [(a0, .inr (12, [.ref b0, .ref b1, .int 0, .int 0, .int 1, .int 0, .int 0, .int 0, .int 0, .int 0, .int 0, .int 0, .int 0, .ref b2, .ref b3, .ref b4, .ref b5, .ref b6, .int 0, .int 1, .int 0, .ref b7, .ref b8, .ref b9, .ref b10, .int 0, .ref b11, .ref b12, .int 0, .int 0, .ref b13, .ref b14, .ref b15, .ref b16, .ref b17, .ref b18, .ref b19, .int 0, .int 0, .int 0, .int 0, .ref b20, .ref b21, .ref b22, .ref b23, .ref b24, .ref b25, .int 0, .ref b26, .ref b27, .ref b28, .ref b29, .ref b30, .ref b31, .ref b32, .int 0, .int 0, .ref b33, .ref b34, .ref b35, .ref b36, .ref b37, .int 0, .ref b38, .ref b39, .int 0, .ref b40, .ref b41, .ref b42, .ref b43, .ref b44, .ref b45, .int 0, .ref b46, .ref b47, .ref b48, .ref b49, .ref b50, .ref b51, .ref b52, .ref b53, .ref b54, .ref b55, .ref b56, .int 0, .int 0, .int 0, .int 0, .int (-1), .int 0, .int 0, .int 0, .int 0, .int 0, .int 0, .ref b57, .ref b58, .ref b59, .int 0, .ref b60, .ref b61, .int 0, .ref b62, .ref b63, .ref b64, .int 0, .ref b65, .ref b66, .ref b67, .ref b68, .ref b69, .ref b70, .int 0, .int (-1), .int 0, .ref b71, .int (-1), .int (-1), .int (-1), .ref b72, .int 0, .ref b73, .int 0, .ref b74, .int 0, .int 0, .ref b75]))]) := by
  refine ax_Mi.of (by decide +kernel) (Nat.le_of_ble_eq_true rfl) ?_
  intro p e s m args below meth c C hnm
  refine ax_ls ([(0, .ref a0)]) [0] rfl ?_
  refine ax_aload_n (pc := 0) C d_MM_thrown_0 rfl 0 rfl ?_
  refine ax_get (pc := 1) C k_MM 4 lk_MM_24 d_MM_thrown_1 (Nat.le_of_ble_eq_true rfl) 0 rfl rfl ?_
  exact ax_iret (pc := 4) C d_MM_thrown_4 ⟨rfl, rfl⟩ (by decide) (by decide)
set_option maxHeartbeats 4000000 in
set_option maxRecDepth 100000 in
theorem m37_CP_end (l : Launch) (htr : l.stackTraces = false) (D : va_G) (kA : Nat → ClassId) (a0 : Nat) (a1 : Nat) (b0 : Nat) (b1 : Nat) (b2 : Nat) (b3 : Nat) (b4 : Nat) (b5 : Nat) (b6 : Nat) (b7 : Nat) (b8 : Nat) (b9 : Nat) (i0 : Int32) (h0 : ¬ i0 < 0) (h1 : ¬ i0 ≤ 0) : ax_Mx l D kA y_CP_end b_CP_end 2 (some .int) 6 90 1 6 [.ref a0, .int i0] [(a0, .inr (11, [.ref a1, .ref b0, .ref b1, .ref b2, .ref b3, .ref b4, .ref b5, .ref b6, .ref b7, .ref b8, .int 0, .int 0])), (a1, .inr (0, [.ref b9, .int 0]))] "java/lang/IllegalArgumentException" (fun w1 => w1 = [(a0, .inr (11, [.ref a1, .ref b0, .ref b1, .ref b2, .ref b3, .ref b4, .ref b5, .ref b6, .ref b7, .ref b8, .int 0, .int 0])), (a1, .inr (0, [.ref b9, .int 0]))]) := by
  refine ax_Mx.of (by decide +kernel) (Nat.le_of_ble_eq_true rfl) ?_
  intro p e s m args below meth c C hadm hex hX hP0
  refine ax_ls ([(0, .ref a0), (1, .int i0)]) [0, 1] rfl ?_
  refine ax_iload_n (pc := 0) C d_CP_end_0 rfl 1 rfl ?_
  refine ax_if_lt (pc := 1) C 15 d_CP_end_1 (by decide) (fun h => absurd h h0) (fun _ => ?_)
  refine ax_iload_n (pc := 4) C d_CP_end_4 rfl 1 rfl ?_
  refine ax_aload_n (pc := 5) C d_CP_end_5 rfl 0 rfl ?_
  refine ax_get (pc := 6) C k_CP 0 lk_CP_14 d_CP_end_6 (Nat.le_of_ble_eq_true rfl) 0 rfl rfl ?_
  refine ax_get (pc := 9) C k_Row 1 lk_CP_82 d_CP_end_9 (Nat.le_of_ble_eq_true rfl) 1 rfl rfl ?_
  refine ax_icmp_le (pc := 12) C 25 d_CP_end_12 (by decide) (fun h => absurd h h1) (fun _ => ?_)
  exact ax_throw2 (pc := 15) C hadm htr hex hX hP0 (is := 102) (tx := "not within the tape") ta_IAE (by decide +kernel) (by decide) tb_classLink_984 tb_instantiable_985 tb_initialized_21 (by decide +kernel) (by decide +kernel) (by decide +kernel) (by decide +kernel) d_CP_end_15 d_CP_end_18 d_CP_end_19 d_CP_end_21 d_CP_end_24 (Nat.le_of_ble_eq_true rfl) (Nat.le_of_ble_eq_true rfl) (Nat.le_of_ble_eq_true rfl) (Nat.le_of_ble_eq_true rfl) rfl rfl rfl
set_option maxHeartbeats 4000000 in
set_option maxRecDepth 100000 in
theorem m36_Law_end (l : Launch) (htr : l.stackTraces = false) (D : va_G) (kA : Nat → ClassId) (a0 : Nat) (a1 : Nat) (b0 : Nat) (b1 : Nat) (b2 : Nat) (b3 : Nat) (b4 : Nat) (b5 : Nat) (b6 : Nat) (b7 : Nat) (b8 : Nat) (b9 : Nat) (b10 : Nat) (i0 : Int32) (h0 : ¬ i0 < 0) (h1 : ¬ i0 ≤ 0) : ax_Mw l D kA y_Law_end b_Law_end 4 [(0, 9, 12, 19)] 7 111 1 6 [.ref a0, .int i0, .ref b0] [(a0, .inr (11, [.ref a1, .ref b1, .ref b2, .ref b3, .ref b4, .ref b5, .ref b6, .ref b7, .ref b8, .ref b9, .int 0, .int 0])), (a1, .inr (0, [.ref b10, .int 0]))] (fun r w1 => r = 1 ∧ w1 = [(a0, .inr (11, [.ref a1, .ref b1, .ref b2, .ref b3, .ref b4, .ref b5, .ref b6, .ref b7, .ref b8, .ref b9, .int 0, .int 0])), (a1, .inr (0, [.ref b10, .int 0]))]) := by
  refine ax_Mw.of (by decide +kernel) (Nat.le_of_ble_eq_true rfl) ?_
  intro p e s m args below meth c C hadm hmeth hcode htb hX
  refine ax_ls ([(0, .ref a0), (1, .int i0), (2, .ref b0)]) [0, 1, 2] rfl ?_
  refine ax_aload_n (pc := 0) C d_Law_end_0 rfl 2 rfl ?_
  refine ax_iconst (pc := 1) C 0 d_Law_end_1 (by decide +kernel) ?_
  refine ax_aload_n (pc := 2) C d_Law_end_2 rfl 0 rfl ?_
  refine ax_iload_n (pc := 3) C d_Law_end_3 rfl 1 rfl ?_
  refine ax_callVx (pc := 4) C hX (hpc := 12) (As := [.int i0]) (rest := [.int 0, .ref b0]) (wr := []) (m37_CP_end l htr D kA a0 a1 b1 b2 b3 b4 b5 b6 b7 b8 b9 b10 i0 h0 h1) ml_Law_15 0 rfl rfl rfl d_Law_end_4 rfl rfl [0, 1] [] rfl (by decide) rfl (by decide) (by decide) (Nat.le_of_ble_eq_true rfl) (Nat.le_of_ble_eq_true rfl) (Nat.le_of_ble_eq_true rfl) (Nat.le_of_ble_eq_true rfl) (Nat.le_of_ble_eq_true rfl) (cx_F1 hadm hmeth hcode C.2.2.2.1 htb ⟨by decide, by decide⟩ (by decide) (C.2.2.2.2.1 _ tb_classLink_979)) (fun xe4 w1 hw1 => ?_)
  obtain rfl := hw1
  refine ax_w ([(a0, .inr (11, [.ref a1, .ref b1, .ref b2, .ref b3, .ref b4, .ref b5, .ref b6, .ref b7, .ref b8, .ref b9, .int 0, .int 0])), (a1, .inr (0, [.ref b10, .int 0]))]) rfl ?_
  refine ax_astore_n (pc := 12) C d_Law_end_12 rfl (Nat.le_of_ble_eq_true rfl) ([(3, .ref xe4), (0, .ref a0), (1, .int i0), (2, .ref b0)]) rfl ?_
  refine ax_iconst (pc := 13) C 1 d_Law_end_13 (by decide +kernel) ?_
  exact ax_iret (pc := 14) C d_Law_end_14 ⟨rfl, rfl⟩ (by decide) (by decide)
set_option maxHeartbeats 4000000 in
set_option maxRecDepth 100000 in
theorem m38_MM_end (l : Launch) (D : va_G) (kA : Nat → ClassId) (a0 : Nat) (b0 : Nat) (b1 : Nat) (b2 : Nat) (b3 : Nat) (b4 : Nat) (b5 : Nat) (b6 : Nat) (b7 : Nat) (b8 : Nat) (b9 : Nat) (b10 : Nat) (b11 : Nat) (b12 : Nat) (b13 : Nat) (b14 : Nat) (b15 : Nat) (b16 : Nat) (b17 : Nat) (b18 : Nat) (b19 : Nat) (b20 : Nat) (b21 : Nat) (b22 : Nat) (b23 : Nat) (b24 : Nat) (b25 : Nat) (b26 : Nat) (b27 : Nat) (b28 : Nat) (b29 : Nat) (b30 : Nat) (b31 : Nat) (b32 : Nat) (b33 : Nat) (b34 : Nat) (b35 : Nat) (b36 : Nat) (b37 : Nat) (b38 : Nat) (b39 : Nat) (b40 : Nat) (b41 : Nat) (b42 : Nat) (b43 : Nat) (b44 : Nat) (b45 : Nat) (b46 : Nat) (b47 : Nat) (b48 : Nat) (b49 : Nat) (b50 : Nat) (b51 : Nat) (b52 : Nat) (b53 : Nat) (b54 : Nat) (b55 : Nat) (b56 : Nat) (b57 : Nat) (b58 : Nat) (b59 : Nat) (b60 : Nat) (b61 : Nat) (b62 : Nat) (b63 : Nat) (b64 : Nat) (b65 : Nat) (b66 : Nat) (b67 : Nat) (b68 : Nat) (b69 : Nat) (b70 : Nat) (b71 : Nat) (b72 : Nat) (b73 : Nat) (b74 : Nat) (b75 : Nat) (i0 : Int32) (h0 : ¬ i0 < 0) (h1 : ¬ i0 ≤ 0) : ax_Mi l D kA y_MM_end b_MM_end 2 .int 1 22 0 0 [.ref a0, .int i0] [(a0, .inr (12, [.ref b0, .ref b1, .int 0, .int 0, .int 0, .int 0, .int 0, .int 0, .int 0, .int 0, .int 0, .int 0, .int 0, .ref b2, .ref b3, .ref b4, .ref b5, .ref b6, .int 0, .int 1, .int 0, .ref b7, .ref b8, .ref b9, .ref b10, .int 0, .ref b11, .ref b12, .int 0, .int 0, .ref b13, .ref b14, .ref b15, .ref b16, .ref b17, .ref b18, .ref b19, .int 0, .int 0, .int 0, .int 0, .ref b20, .ref b21, .ref b22, .ref b23, .ref b24, .ref b25, .int 0, .ref b26, .ref b27, .ref b28, .ref b29, .ref b30, .ref b31, .ref b32, .int 0, .int 0, .ref b33, .ref b34, .ref b35, .ref b36, .ref b37, .int 0, .ref b38, .ref b39, .int 0, .ref b40, .ref b41, .ref b42, .ref b43, .ref b44, .ref b45, .int 0, .ref b46, .ref b47, .ref b48, .ref b49, .ref b50, .ref b51, .ref b52, .ref b53, .ref b54, .ref b55, .ref b56, .int 0, .int 0, .int 0, .int 0, .int (-1), .int 0, .int 0, .int 0, .int 0, .int 0, .int 0, .ref b57, .ref b58, .ref b59, .int 0, .ref b60, .ref b61, .int 0, .ref b62, .ref b63, .ref b64, .int 0, .ref b65, .ref b66, .ref b67, .ref b68, .ref b69, .ref b70, .int 0, .int (-1), .int 0, .ref b71, .int (-1), .int (-1), .int (-1), .ref b72, .int 0, .ref b73, .int 0, .ref b74, .int 0, .int 0, .ref b75]))] (fun r w1 => r = 0 ∧ w1 = [(a0, .inr (12, [.ref b0, .ref b1, .int 0, .int 0, .int 1, .int 0, .int 0, .int 0, .int 0, .int 0, .int 0, .int 0, .int 0, .ref b2, .ref b3, .ref b4, .ref b5, .ref b6, .int 0, .int 1, .int 0, .ref b7, .ref b8, .ref b9, .ref b10, .int 0, .ref b11, .ref b12, .int 0, .int 0, .ref b13, .ref b14, .ref b15, .ref b16, .ref b17, .ref b18, .ref b19, .int 0, .int 0, .int 0, .int 0, .ref b20, .ref b21, .ref b22, .ref b23, .ref b24, .ref b25, .int 0, .ref b26, .ref b27, .ref b28, .ref b29, .ref b30, .ref b31, .ref b32, .int 0, .int 0, .ref b33, .ref b34, .ref b35, .ref b36, .ref b37, .int 0, .ref b38, .ref b39, .int 0, .ref b40, .ref b41, .ref b42, .ref b43, .ref b44, .ref b45, .int 0, .ref b46, .ref b47, .ref b48, .ref b49, .ref b50, .ref b51, .ref b52, .ref b53, .ref b54, .ref b55, .ref b56, .int 0, .int 0, .int 0, .int 0, .int (-1), .int 0, .int 0, .int 0, .int 0, .int 0, .int 0, .ref b57, .ref b58, .ref b59, .int 0, .ref b60, .ref b61, .int 0, .ref b62, .ref b63, .ref b64, .int 0, .ref b65, .ref b66, .ref b67, .ref b68, .ref b69, .ref b70, .int 0, .int (-1), .int 0, .ref b71, .int (-1), .int (-1), .int (-1), .ref b72, .int 0, .ref b73, .int 0, .ref b74, .int 0, .int 0, .ref b75]))]) := by
  refine ax_Mi.of (by decide +kernel) (Nat.le_of_ble_eq_true rfl) ?_
  intro p e s m args below meth c C hnm
  refine ax_ls ([(0, .ref a0), (1, .int i0)]) [0, 1] rfl ?_
  refine ax_aload_n (pc := 0) C d_MM_end_0 rfl 0 rfl ?_
  refine ax_iconst (pc := 1) C 0 d_MM_end_1 (by decide +kernel) ?_
  refine ax_put (pc := 2) C k_MM 4 lk_MM_24 d_MM_end_2 (Nat.le_of_ble_eq_true rfl) 0 rfl rfl rfl rfl (Nat.le_of_ble_eq_true rfl) ?_
  refine ax_w ([(a0, .inr (12, [.ref b0, .ref b1, .int 0, .int 0, .int 0, .int 0, .int 0, .int 0, .int 0, .int 0, .int 0, .int 0, .int 0, .ref b2, .ref b3, .ref b4, .ref b5, .ref b6, .int 0, .int 1, .int 0, .ref b7, .ref b8, .ref b9, .ref b10, .int 0, .ref b11, .ref b12, .int 0, .int 0, .ref b13, .ref b14, .ref b15, .ref b16, .ref b17, .ref b18, .ref b19, .int 0, .int 0, .int 0, .int 0, .ref b20, .ref b21, .ref b22, .ref b23, .ref b24, .ref b25, .int 0, .ref b26, .ref b27, .ref b28, .ref b29, .ref b30, .ref b31, .ref b32, .int 0, .int 0, .ref b33, .ref b34, .ref b35, .ref b36, .ref b37, .int 0, .ref b38, .ref b39, .int 0, .ref b40, .ref b41, .ref b42, .ref b43, .ref b44, .ref b45, .int 0, .ref b46, .ref b47, .ref b48, .ref b49, .ref b50, .ref b51, .ref b52, .ref b53, .ref b54, .ref b55, .ref b56, .int 0, .int 0, .int 0, .int 0, .int (-1), .int 0, .int 0, .int 0, .int 0, .int 0, .int 0, .ref b57, .ref b58, .ref b59, .int 0, .ref b60, .ref b61, .int 0, .ref b62, .ref b63, .ref b64, .int 0, .ref b65, .ref b66, .ref b67, .ref b68, .ref b69, .ref b70, .int 0, .int (-1), .int 0, .ref b71, .int (-1), .int (-1), .int (-1), .ref b72, .int 0, .ref b73, .int 0, .ref b74, .int 0, .int 0, .ref b75]))]) rfl ?_
  refine ax_aload_n (pc := 5) C d_MM_end_5 rfl 0 rfl ?_
  refine ax_iconst (pc := 6) C 1 d_MM_end_6 (by decide +kernel) ?_
  refine ax_iload_n (pc := 7) C d_MM_end_7 rfl 1 rfl ?_
  refine ax_if_lt (pc := 8) C 19 d_MM_end_8 (by decide) (fun h => absurd h h0) (fun _ => ?_)
  refine ax_iload_n (pc := 11) C d_MM_end_11 rfl 1 rfl ?_
  refine ax_aload_n (pc := 12) C d_MM_end_12 rfl 0 rfl ?_
  refine ax_get (pc := 13) C k_MM 2 lk_MM_17 d_MM_end_13 (Nat.le_of_ble_eq_true rfl) 0 rfl rfl ?_
  refine ax_icmp_le (pc := 16) C 23 d_MM_end_16 (by decide) (fun h => absurd h h1) (fun _ => ?_)
  refine ax_iconst (pc := 19) C 1 d_MM_end_19 (by decide +kernel) ?_
  refine ax_goto (pc := 20) C 24 d_MM_end_20 (by decide) ?_
  refine ax_callVi (pc := 24) C (As := [.int 1, .int 1]) (rest := []) (wr := []) (m34_MM_refuse l D kA a0 b0 b1 b2 b3 b4 b5 b6 b7 b8 b9 b10 b11 b12 b13 b14 b15 b16 b17 b18 b19 b20 b21 b22 b23 b24 b25 b26 b27 b28 b29 b30 b31 b32 b33 b34 b35 b36 b37 b38 b39 b40 b41 b42 b43 b44 b45 b46 b47 b48 b49 b50 b51 b52 b53 b54 b55 b56 b57 b58 b59 b60 b61 b62 b63 b64 b65 b66 b67 b68 b69 b70 b71 b72 b73 b74 b75) ml_MM_401 0 rfl rfl rfl d_MM_end_24 rfl rfl [0] [] rfl (by decide) rfl (by decide) (by decide) (Nat.le_of_ble_eq_true rfl) (Nat.le_of_ble_eq_true rfl) (Nat.le_of_ble_eq_true rfl) (Nat.le_of_ble_eq_true rfl) (Nat.le_of_ble_eq_true rfl) (fun r24 w1 hw1 => ?_)
  obtain ⟨rfl, rfl⟩ := hw1
  refine ax_w ([(a0, .inr (12, [.ref b0, .ref b1, .int 0, .int 0, .int 1, .int 0, .int 0, .int 0, .int 0, .int 0, .int 0, .int 0, .int 0, .ref b2, .ref b3, .ref b4, .ref b5, .ref b6, .int 0, .int 1, .int 0, .ref b7, .ref b8, .ref b9, .ref b10, .int 0, .ref b11, .ref b12, .int 0, .int 0, .ref b13, .ref b14, .ref b15, .ref b16, .ref b17, .ref b18, .ref b19, .int 0, .int 0, .int 0, .int 0, .ref b20, .ref b21, .ref b22, .ref b23, .ref b24, .ref b25, .int 0, .ref b26, .ref b27, .ref b28, .ref b29, .ref b30, .ref b31, .ref b32, .int 0, .int 0, .ref b33, .ref b34, .ref b35, .ref b36, .ref b37, .int 0, .ref b38, .ref b39, .int 0, .ref b40, .ref b41, .ref b42, .ref b43, .ref b44, .ref b45, .int 0, .ref b46, .ref b47, .ref b48, .ref b49, .ref b50, .ref b51, .ref b52, .ref b53, .ref b54, .ref b55, .ref b56, .int 0, .int 0, .int 0, .int 0, .int (-1), .int 0, .int 0, .int 0, .int 0, .int 0, .int 0, .ref b57, .ref b58, .ref b59, .int 0, .ref b60, .ref b61, .int 0, .ref b62, .ref b63, .ref b64, .int 0, .ref b65, .ref b66, .ref b67, .ref b68, .ref b69, .ref b70, .int 0, .int (-1), .int 0, .ref b71, .int (-1), .int (-1), .int (-1), .ref b72, .int 0, .ref b73, .int 0, .ref b74, .int 0, .int 0, .ref b75]))]) rfl ?_
  refine ax_if_eq (pc := 27) C 32 d_MM_end_27 (by decide) (fun h => absurd h (by decide)) (fun _ => ?_)
  refine ax_iconst (pc := 30) C 0 d_MM_end_30 (by decide +kernel) ?_
  exact ax_iret (pc := 31) C d_MM_end_31 ⟨rfl, rfl⟩ (by decide) (by decide)
set_option maxHeartbeats 4000000 in
set_option maxRecDepth 100000 in
theorem m40_CP_end (l : Launch) (D : va_G) (kA : Nat → ClassId) (a0 : Nat) (a1 : Nat) (b0 : Nat) (b1 : Nat) (b2 : Nat) (b3 : Nat) (b4 : Nat) (b5 : Nat) (b6 : Nat) (b7 : Nat) (b8 : Nat) (b9 : Nat) : ax_Mi l D kA y_CP_end b_CP_end 2 .int 0 0 0 0 [.ref a0, .int 0] [(a0, .inr (11, [.ref a1, .ref b0, .ref b1, .ref b2, .ref b3, .ref b4, .ref b5, .ref b6, .ref b7, .ref b8, .int 0, .int 0])), (a1, .inr (0, [.ref b9, .int 0]))] (fun r w1 => r = 0 ∧ w1 = [(a0, .inr (11, [.ref a1, .ref b0, .ref b1, .ref b2, .ref b3, .ref b4, .ref b5, .ref b6, .ref b7, .ref b8, .int 0, .int 0])), (a1, .inr (0, [.ref b9, .int 0]))]) := by
  refine ax_Mi.of (by decide +kernel) (Nat.le_of_ble_eq_true rfl) ?_
  intro p e s m args below meth c C hnm
  refine ax_ls ([(0, .ref a0), (1, .int 0)]) [0, 1] rfl ?_
  refine ax_iload_n (pc := 0) C d_CP_end_0 rfl 1 rfl ?_
  refine ax_if_lt (pc := 1) C 15 d_CP_end_1 (by decide) (fun h => absurd h (by decide)) (fun _ => ?_)
  refine ax_iload_n (pc := 4) C d_CP_end_4 rfl 1 rfl ?_
  refine ax_aload_n (pc := 5) C d_CP_end_5 rfl 0 rfl ?_
  refine ax_get (pc := 6) C k_CP 0 lk_CP_14 d_CP_end_6 (Nat.le_of_ble_eq_true rfl) 0 rfl rfl ?_
  refine ax_get (pc := 9) C k_Row 1 lk_CP_82 d_CP_end_9 (Nat.le_of_ble_eq_true rfl) 1 rfl rfl ?_
  refine ax_icmp_le (pc := 12) C 25 d_CP_end_12 (by decide) (fun _ => ?_) (fun h => absurd h (by decide))
  refine ax_aload_n (pc := 25) C d_CP_end_25 rfl 0 rfl ?_
  refine ax_get (pc := 26) C k_CP 0 lk_CP_14 d_CP_end_26 (Nat.le_of_ble_eq_true rfl) 0 rfl rfl ?_
  refine ax_iload_n (pc := 29) C d_CP_end_29 rfl 1 rfl ?_
  refine ax_put (pc := 30) C k_Row 1 lk_CP_82 d_CP_end_30 (Nat.le_of_ble_eq_true rfl) 1 rfl rfl rfl rfl (Nat.le_of_ble_eq_true rfl) ?_
  refine ax_w ([(a0, .inr (11, [.ref a1, .ref b0, .ref b1, .ref b2, .ref b3, .ref b4, .ref b5, .ref b6, .ref b7, .ref b8, .int 0, .int 0])), (a1, .inr (0, [.ref b9, .int 0]))]) rfl ?_
  refine ax_iload_n (pc := 33) C d_CP_end_33 rfl 1 rfl ?_
  exact ax_iret (pc := 34) C d_CP_end_34 ⟨rfl, rfl⟩ (by decide) (by decide)
set_option maxHeartbeats 4000000 in
set_option maxRecDepth 100000 in
theorem m39_Law_end (l : Launch) (D : va_G) (kA : Nat → ClassId) (a0 : Nat) (a1 : Nat) (a2 : Nat) (b0 : Nat) (b1 : Nat) (b2 : Nat) (b3 : Nat) (b4 : Nat) (b5 : Nat) (b6 : Nat) (b7 : Nat) (b8 : Nat) (b9 : Nat) : ax_Mw l D kA y_Law_end b_Law_end 4 [(0, 9, 12, 19)] 1 21 0 0 [.ref a0, .int 0, .ref a2] [(a0, .inr (11, [.ref a1, .ref b0, .ref b1, .ref b2, .ref b3, .ref b4, .ref b5, .ref b6, .ref b7, .ref b8, .int 0, .int 0])), (a1, .inr (0, [.ref b9, .int 0])), (a2, .inl (kA 3, 1, .inr (.inl (fun _ => 0))))] (fun r w1 => r = 0 ∧ w1 = [(a2, .inl (kA 3, 1, .inr (.inl (vp_updL (fun _ => 0) (Int32.toNatClampNeg 0) (Int32.toInt64 0))))), (a0, .inr (11, [.ref a1, .ref b0, .ref b1, .ref b2, .ref b3, .ref b4, .ref b5, .ref b6, .ref b7, .ref b8, .int 0, .int 0])), (a1, .inr (0, [.ref b9, .int 0]))]) := by
  refine ax_Mw.of (by decide +kernel) (Nat.le_of_ble_eq_true rfl) ?_
  intro p e s m args below meth c C hadm hmeth hcode htb hX
  refine ax_ls ([(0, .ref a0), (1, .int 0), (2, .ref a2)]) [0, 1, 2] rfl ?_
  refine ax_aload_n (pc := 0) C d_Law_end_0 rfl 2 rfl ?_
  refine ax_iconst (pc := 1) C 0 d_Law_end_1 (by decide +kernel) ?_
  refine ax_aload_n (pc := 2) C d_Law_end_2 rfl 0 rfl ?_
  refine ax_iload_n (pc := 3) C d_Law_end_3 rfl 1 rfl ?_
  refine ax_callVi (pc := 4) C (As := [.int 0]) (rest := [.int 0, .ref a2]) (wr := [(a2, .inl (kA 3, 1, .inr (.inl (fun _ => 0))))]) (m40_CP_end l D kA a0 a1 b0 b1 b2 b3 b4 b5 b6 b7 b8 b9) ml_Law_15 0 rfl rfl rfl d_Law_end_4 rfl rfl [0, 1] [2] rfl (by decide) rfl (by decide) (by decide) (Nat.le_of_ble_eq_true rfl) (Nat.le_of_ble_eq_true rfl) (Nat.le_of_ble_eq_true rfl) (Nat.le_of_ble_eq_true rfl) (Nat.le_of_ble_eq_true rfl) (fun r4 w1 hw1 => ?_)
  obtain ⟨rfl, rfl⟩ := hw1
  refine ax_w ([(a2, .inl (kA 3, 1, .inr (.inl (fun _ => 0)))), (a0, .inr (11, [.ref a1, .ref b0, .ref b1, .ref b2, .ref b3, .ref b4, .ref b5, .ref b6, .ref b7, .ref b8, .int 0, .int 0])), (a1, .inr (0, [.ref b9, .int 0]))]) rfl ?_
  refine ax_i2l (pc := 7) C (Int32.toInt64 0) d_Law_end_7 rfl ?_
  refine ax_last (pc := 8) C 0 rfl d_Law_end_8 (by unfold vp_in; decide) ?_
  refine ax_w ([(a2, .inl (kA 3, 1, .inr (.inl (vp_updL (fun _ => 0) (Int32.toNatClampNeg 0) (Int32.toInt64 0))))), (a0, .inr (11, [.ref a1, .ref b0, .ref b1, .ref b2, .ref b3, .ref b4, .ref b5, .ref b6, .ref b7, .ref b8, .int 0, .int 0])), (a1, .inr (0, [.ref b9, .int 0]))]) rfl ?_
  refine ax_goto (pc := 9) C 15 d_Law_end_9 (by decide) ?_
  refine ax_iconst (pc := 15) C 0 d_Law_end_15 (by decide +kernel) ?_
  exact ax_iret (pc := 16) C d_Law_end_16 ⟨rfl, rfl⟩ (by decide) (by decide)
set_option maxHeartbeats 4000000 in
set_option maxRecDepth 100000 in
theorem m41_MM_end (l : Launch) (D : va_G) (kA : Nat → ClassId) (a0 : Nat) (b0 : Nat) (b1 : Nat) (b2 : Nat) (b3 : Nat) (b4 : Nat) (b5 : Nat) (b6 : Nat) (b7 : Nat) (b8 : Nat) (b9 : Nat) (b10 : Nat) (b11 : Nat) (b12 : Nat) (b13 : Nat) (b14 : Nat) (b15 : Nat) (b16 : Nat) (b17 : Nat) (b18 : Nat) (b19 : Nat) (b20 : Nat) (b21 : Nat) (b22 : Nat) (b23 : Nat) (b24 : Nat) (b25 : Nat) (b26 : Nat) (b27 : Nat) (b28 : Nat) (b29 : Nat) (b30 : Nat) (b31 : Nat) (b32 : Nat) (b33 : Nat) (b34 : Nat) (b35 : Nat) (b36 : Nat) (b37 : Nat) (b38 : Nat) (b39 : Nat) (b40 : Nat) (b41 : Nat) (b42 : Nat) (b43 : Nat) (b44 : Nat) (b45 : Nat) (b46 : Nat) (b47 : Nat) (b48 : Nat) (b49 : Nat) (b50 : Nat) (b51 : Nat) (b52 : Nat) (b53 : Nat) (b54 : Nat) (b55 : Nat) (b56 : Nat) (b57 : Nat) (b58 : Nat) (b59 : Nat) (b60 : Nat) (b61 : Nat) (b62 : Nat) (b63 : Nat) (b64 : Nat) (b65 : Nat) (b66 : Nat) (b67 : Nat) (b68 : Nat) (b69 : Nat) (b70 : Nat) (b71 : Nat) (b72 : Nat) (b73 : Nat) (b74 : Nat) (b75 : Nat) : ax_Mi l D kA y_MM_end b_MM_end 2 .int 1 22 0 0 [.ref a0, .int 0] [(a0, .inr (12, [.ref b0, .ref b1, .int 0, .int 0, .int 0, .int 0, .int 0, .int 0, .int 0, .int 0, .int 0, .int 0, .int 0, .ref b2, .ref b3, .ref b4, .ref b5, .ref b6, .int 0, .int 1, .int 0, .ref b7, .ref b8, .ref b9, .ref b10, .int 0, .ref b11, .ref b12, .int 0, .int 0, .ref b13, .ref b14, .ref b15, .ref b16, .ref b17, .ref b18, .ref b19, .int 0, .int 0, .int 0, .int 0, .ref b20, .ref b21, .ref b22, .ref b23, .ref b24, .ref b25, .int 0, .ref b26, .ref b27, .ref b28, .ref b29, .ref b30, .ref b31, .ref b32, .int 0, .int 0, .ref b33, .ref b34, .ref b35, .ref b36, .ref b37, .int 0, .ref b38, .ref b39, .int 0, .ref b40, .ref b41, .ref b42, .ref b43, .ref b44, .ref b45, .int 0, .ref b46, .ref b47, .ref b48, .ref b49, .ref b50, .ref b51, .ref b52, .ref b53, .ref b54, .ref b55, .ref b56, .int 0, .int 0, .int 0, .int 0, .int (-1), .int 0, .int 0, .int 0, .int 0, .int 0, .int 0, .ref b57, .ref b58, .ref b59, .int 0, .ref b60, .ref b61, .int 0, .ref b62, .ref b63, .ref b64, .int 0, .ref b65, .ref b66, .ref b67, .ref b68, .ref b69, .ref b70, .int 0, .int (-1), .int 0, .ref b71, .int (-1), .int (-1), .int (-1), .ref b72, .int 0, .ref b73, .int 0, .ref b74, .int 0, .int 0, .ref b75]))] (fun r w1 => r = 0 ∧ w1 = [(a0, .inr (12, [.ref b0, .ref b1, .int 0, .int 0, .int 0, .int 0, .int 0, .int 0, .int 0, .int 0, .int 0, .int 0, .int 0, .ref b2, .ref b3, .ref b4, .ref b5, .ref b6, .int 0, .int 1, .int 0, .ref b7, .ref b8, .ref b9, .ref b10, .int 0, .ref b11, .ref b12, .int 0, .int 0, .ref b13, .ref b14, .ref b15, .ref b16, .ref b17, .ref b18, .ref b19, .int 0, .int 0, .int 0, .int 0, .ref b20, .ref b21, .ref b22, .ref b23, .ref b24, .ref b25, .int 0, .ref b26, .ref b27, .ref b28, .ref b29, .ref b30, .ref b31, .ref b32, .int 0, .int 0, .ref b33, .ref b34, .ref b35, .ref b36, .ref b37, .int 0, .ref b38, .ref b39, .int 0, .ref b40, .ref b41, .ref b42, .ref b43, .ref b44, .ref b45, .int 0, .ref b46, .ref b47, .ref b48, .ref b49, .ref b50, .ref b51, .ref b52, .ref b53, .ref b54, .ref b55, .ref b56, .int 0, .int 0, .int 0, .int 0, .int (-1), .int 0, .int 0, .int 0, .int 0, .int 0, .int 0, .ref b57, .ref b58, .ref b59, .int 0, .ref b60, .ref b61, .int 0, .ref b62, .ref b63, .ref b64, .int 0, .ref b65, .ref b66, .ref b67, .ref b68, .ref b69, .ref b70, .int 0, .int (-1), .int 0, .ref b71, .int (-1), .int (-1), .int (-1), .ref b72, .int 0, .ref b73, .int 0, .ref b74, .int 0, .int 0, .ref b75]))]) := by
  refine ax_Mi.of (by decide +kernel) (Nat.le_of_ble_eq_true rfl) ?_
  intro p e s m args below meth c C hnm
  refine ax_ls ([(0, .ref a0), (1, .int 0)]) [0, 1] rfl ?_
  refine ax_aload_n (pc := 0) C d_MM_end_0 rfl 0 rfl ?_
  refine ax_iconst (pc := 1) C 0 d_MM_end_1 (by decide +kernel) ?_
  refine ax_put (pc := 2) C k_MM 4 lk_MM_24 d_MM_end_2 (Nat.le_of_ble_eq_true rfl) 0 rfl rfl rfl rfl (Nat.le_of_ble_eq_true rfl) ?_
  refine ax_w ([(a0, .inr (12, [.ref b0, .ref b1, .int 0, .int 0, .int 0, .int 0, .int 0, .int 0, .int 0, .int 0, .int 0, .int 0, .int 0, .ref b2, .ref b3, .ref b4, .ref b5, .ref b6, .int 0, .int 1, .int 0, .ref b7, .ref b8, .ref b9, .ref b10, .int 0, .ref b11, .ref b12, .int 0, .int 0, .ref b13, .ref b14, .ref b15, .ref b16, .ref b17, .ref b18, .ref b19, .int 0, .int 0, .int 0, .int 0, .ref b20, .ref b21, .ref b22, .ref b23, .ref b24, .ref b25, .int 0, .ref b26, .ref b27, .ref b28, .ref b29, .ref b30, .ref b31, .ref b32, .int 0, .int 0, .ref b33, .ref b34, .ref b35, .ref b36, .ref b37, .int 0, .ref b38, .ref b39, .int 0, .ref b40, .ref b41, .ref b42, .ref b43, .ref b44, .ref b45, .int 0, .ref b46, .ref b47, .ref b48, .ref b49, .ref b50, .ref b51, .ref b52, .ref b53, .ref b54, .ref b55, .ref b56, .int 0, .int 0, .int 0, .int 0, .int (-1), .int 0, .int 0, .int 0, .int 0, .int 0, .int 0, .ref b57, .ref b58, .ref b59, .int 0, .ref b60, .ref b61, .int 0, .ref b62, .ref b63, .ref b64, .int 0, .ref b65, .ref b66, .ref b67, .ref b68, .ref b69, .ref b70, .int 0, .int (-1), .int 0, .ref b71, .int (-1), .int (-1), .int (-1), .ref b72, .int 0, .ref b73, .int 0, .ref b74, .int 0, .int 0, .ref b75]))]) rfl ?_
  refine ax_aload_n (pc := 5) C d_MM_end_5 rfl 0 rfl ?_
  refine ax_iconst (pc := 6) C 1 d_MM_end_6 (by decide +kernel) ?_
  refine ax_iload_n (pc := 7) C d_MM_end_7 rfl 1 rfl ?_
  refine ax_if_lt (pc := 8) C 19 d_MM_end_8 (by decide) (fun h => absurd h (by decide)) (fun _ => ?_)
  refine ax_iload_n (pc := 11) C d_MM_end_11 rfl 1 rfl ?_
  refine ax_aload_n (pc := 12) C d_MM_end_12 rfl 0 rfl ?_
  refine ax_get (pc := 13) C k_MM 2 lk_MM_17 d_MM_end_13 (Nat.le_of_ble_eq_true rfl) 0 rfl rfl ?_
  refine ax_icmp_le (pc := 16) C 23 d_MM_end_16 (by decide) (fun _ => ?_) (fun h => absurd h (by decide))
  refine ax_iconst (pc := 23) C 0 d_MM_end_23 (by decide +kernel) ?_
  refine ax_callVi (pc := 24) C (As := [.int 1, .int 0]) (rest := []) (wr := [(a0, .inr (12, [.ref b0, .ref b1, .int 0, .int 0, .int 0, .int 0, .int 0, .int 0, .int 0, .int 0, .int 0, .int 0, .int 0, .ref b2, .ref b3, .ref b4, .ref b5, .ref b6, .int 0, .int 1, .int 0, .ref b7, .ref b8, .ref b9, .ref b10, .int 0, .ref b11, .ref b12, .int 0, .int 0, .ref b13, .ref b14, .ref b15, .ref b16, .ref b17, .ref b18, .ref b19, .int 0, .int 0, .int 0, .int 0, .ref b20, .ref b21, .ref b22, .ref b23, .ref b24, .ref b25, .int 0, .ref b26, .ref b27, .ref b28, .ref b29, .ref b30, .ref b31, .ref b32, .int 0, .int 0, .ref b33, .ref b34, .ref b35, .ref b36, .ref b37, .int 0, .ref b38, .ref b39, .int 0, .ref b40, .ref b41, .ref b42, .ref b43, .ref b44, .ref b45, .int 0, .ref b46, .ref b47, .ref b48, .ref b49, .ref b50, .ref b51, .ref b52, .ref b53, .ref b54, .ref b55, .ref b56, .int 0, .int 0, .int 0, .int 0, .int (-1), .int 0, .int 0, .int 0, .int 0, .int 0, .int 0, .ref b57, .ref b58, .ref b59, .int 0, .ref b60, .ref b61, .int 0, .ref b62, .ref b63, .ref b64, .int 0, .ref b65, .ref b66, .ref b67, .ref b68, .ref b69, .ref b70, .int 0, .int (-1), .int 0, .ref b71, .int (-1), .int (-1), .int (-1), .ref b72, .int 0, .ref b73, .int 0, .ref b74, .int 0, .int 0, .ref b75]))]) (m29_MM_refuse l D kA a0) ml_MM_401 0 rfl rfl rfl d_MM_end_24 rfl rfl [] [0] rfl (by decide) rfl (by decide) (by decide) (Nat.le_of_ble_eq_true rfl) (Nat.le_of_ble_eq_true rfl) (Nat.le_of_ble_eq_true rfl) (Nat.le_of_ble_eq_true rfl) (Nat.le_of_ble_eq_true rfl) (fun r24 w1 hw1 => ?_)
  obtain ⟨rfl, rfl⟩ := hw1
  refine ax_w ([(a0, .inr (12, [.ref b0, .ref b1, .int 0, .int 0, .int 0, .int 0, .int 0, .int 0, .int 0, .int 0, .int 0, .int 0, .int 0, .ref b2, .ref b3, .ref b4, .ref b5, .ref b6, .int 0, .int 1, .int 0, .ref b7, .ref b8, .ref b9, .ref b10, .int 0, .ref b11, .ref b12, .int 0, .int 0, .ref b13, .ref b14, .ref b15, .ref b16, .ref b17, .ref b18, .ref b19, .int 0, .int 0, .int 0, .int 0, .ref b20, .ref b21, .ref b22, .ref b23, .ref b24, .ref b25, .int 0, .ref b26, .ref b27, .ref b28, .ref b29, .ref b30, .ref b31, .ref b32, .int 0, .int 0, .ref b33, .ref b34, .ref b35, .ref b36, .ref b37, .int 0, .ref b38, .ref b39, .int 0, .ref b40, .ref b41, .ref b42, .ref b43, .ref b44, .ref b45, .int 0, .ref b46, .ref b47, .ref b48, .ref b49, .ref b50, .ref b51, .ref b52, .ref b53, .ref b54, .ref b55, .ref b56, .int 0, .int 0, .int 0, .int 0, .int (-1), .int 0, .int 0, .int 0, .int 0, .int 0, .int 0, .ref b57, .ref b58, .ref b59, .int 0, .ref b60, .ref b61, .int 0, .ref b62, .ref b63, .ref b64, .int 0, .ref b65, .ref b66, .ref b67, .ref b68, .ref b69, .ref b70, .int 0, .int (-1), .int 0, .ref b71, .int (-1), .int (-1), .int (-1), .ref b72, .int 0, .ref b73, .int 0, .ref b74, .int 0, .int 0, .ref b75]))]) rfl ?_
  refine ax_if_eq (pc := 27) C 32 d_MM_end_27 (by decide) (fun _ => ?_) (fun h => absurd h (by decide))
  refine ax_aload_n (pc := 32) C d_MM_end_32 rfl 0 rfl ?_
  refine ax_iload_n (pc := 33) C d_MM_end_33 rfl 1 rfl ?_
  refine ax_put (pc := 34) C k_MM 2 lk_MM_17 d_MM_end_34 (Nat.le_of_ble_eq_true rfl) 0 rfl rfl rfl rfl (Nat.le_of_ble_eq_true rfl) ?_
  refine ax_w ([(a0, .inr (12, [.ref b0, .ref b1, .int 0, .int 0, .int 0, .int 0, .int 0, .int 0, .int 0, .int 0, .int 0, .int 0, .int 0, .ref b2, .ref b3, .ref b4, .ref b5, .ref b6, .int 0, .int 1, .int 0, .ref b7, .ref b8, .ref b9, .ref b10, .int 0, .ref b11, .ref b12, .int 0, .int 0, .ref b13, .ref b14, .ref b15, .ref b16, .ref b17, .ref b18, .ref b19, .int 0, .int 0, .int 0, .int 0, .ref b20, .ref b21, .ref b22, .ref b23, .ref b24, .ref b25, .int 0, .ref b26, .ref b27, .ref b28, .ref b29, .ref b30, .ref b31, .ref b32, .int 0, .int 0, .ref b33, .ref b34, .ref b35, .ref b36, .ref b37, .int 0, .ref b38, .ref b39, .int 0, .ref b40, .ref b41, .ref b42, .ref b43, .ref b44, .ref b45, .int 0, .ref b46, .ref b47, .ref b48, .ref b49, .ref b50, .ref b51, .ref b52, .ref b53, .ref b54, .ref b55, .ref b56, .int 0, .int 0, .int 0, .int 0, .int (-1), .int 0, .int 0, .int 0, .int 0, .int 0, .int 0, .ref b57, .ref b58, .ref b59, .int 0, .ref b60, .ref b61, .int 0, .ref b62, .ref b63, .ref b64, .int 0, .ref b65, .ref b66, .ref b67, .ref b68, .ref b69, .ref b70, .int 0, .int (-1), .int 0, .ref b71, .int (-1), .int (-1), .int (-1), .ref b72, .int 0, .ref b73, .int 0, .ref b74, .int 0, .int 0, .ref b75]))]) rfl ?_
  refine ax_iload_n (pc := 37) C d_MM_end_37 rfl 1 rfl ?_
  exact ax_iret (pc := 38) C d_MM_end_38 ⟨rfl, rfl⟩ (by decide) (by decide)
set_option maxHeartbeats 4000000 in
set_option maxRecDepth 100000 in
theorem m42_MM_thrown (l : Launch) (D : va_G) (kA : Nat → ClassId) (a0 : Nat) (b0 : Nat) (b1 : Nat) (b2 : Nat) (b3 : Nat) (b4 : Nat) (b5 : Nat) (b6 : Nat) (b7 : Nat) (b8 : Nat) (b9 : Nat) (b10 : Nat) (b11 : Nat) (b12 : Nat) (b13 : Nat) (b14 : Nat) (b15 : Nat) (b16 : Nat) (b17 : Nat) (b18 : Nat) (b19 : Nat) (b20 : Nat) (b21 : Nat) (b22 : Nat) (b23 : Nat) (b24 : Nat) (b25 : Nat) (b26 : Nat) (b27 : Nat) (b28 : Nat) (b29 : Nat) (b30 : Nat) (b31 : Nat) (b32 : Nat) (b33 : Nat) (b34 : Nat) (b35 : Nat) (b36 : Nat) (b37 : Nat) (b38 : Nat) (b39 : Nat) (b40 : Nat) (b41 : Nat) (b42 : Nat) (b43 : Nat) (b44 : Nat) (b45 : Nat) (b46 : Nat) (b47 : Nat) (b48 : Nat) (b49 : Nat) (b50 : Nat) (b51 : Nat) (b52 : Nat) (b53 : Nat) (b54 : Nat) (b55 : Nat) (b56 : Nat) (b57 : Nat) (b58 : Nat) (b59 : Nat) (b60 : Nat) (b61 : Nat) (b62 : Nat) (b63 : Nat) (b64 : Nat) (b65 : Nat) (b66 : Nat) (b67 : Nat) (b68 : Nat) (b69 : Nat) (b70 : Nat) (b71 : Nat) (b72 : Nat) (b73 : Nat) (b74 : Nat) (b75 : Nat) : ax_Mi l D kA y_MM_thrown b_MM_thrown 1 .int 0 0 0 0 [.ref a0] [(a0, .inr (12, [.ref b0, .ref b1, .int 0, .int 0, .int 0, .int 0, .int 0, .int 0, .int 0, .int 0, .int 0, .int 0, .int 0, .ref b2, .ref b3, .ref b4, .ref b5, .ref b6, .int 0, .int 1, .int 0, .ref b7, .ref b8, .ref b9, .ref b10, .int 0, .ref b11, .ref b12, .int 0, .int 0, .ref b13, .ref b14, .ref b15, .ref b16, .ref b17, .ref b18, .ref b19, .int 0, .int 0, .int 0, .int 0, .ref b20, .ref b21, .ref b22, .ref b23, .ref b24, .ref b25, .int 0, .ref b26, .ref b27, .ref b28, .ref b29, .ref b30, .ref b31, .ref b32, .int 0, .int 0, .ref b33, .ref b34, .ref b35, .ref b36, .ref b37, .int 0, .ref b38, .ref b39, .int 0, .ref b40, .ref b41, .ref b42, .ref b43, .ref b44, .ref b45, .int 0, .ref b46, .ref b47, .ref b48, .ref b49, .ref b50, .ref b51, .ref b52, .ref b53, .ref b54, .ref b55, .ref b56, .int 0, .int 0, .int 0, .int 0, .int (-1), .int 0, .int 0, .int 0, .int 0, .int 0, .int 0, .ref b57, .ref b58, .ref b59, .int 0, .ref b60, .ref b61, .int 0, .ref b62, .ref b63, .ref b64, .int 0, .ref b65, .ref b66, .ref b67, .ref b68, .ref b69, .ref b70, .int 0, .int (-1), .int 0, .ref b71, .int (-1), .int (-1), .int (-1), .ref b72, .int 0, .ref b73, .int 0, .ref b74, .int 0, .int 0, .ref b75]))] (fun r w1 => r = 0 ∧ w1 = [(a0, .inr (12, [.ref b0, .ref b1, .int 0, .int 0, .int 0, .int 0, .int 0, .int 0, .int 0, .int 0, .int 0, .int 0, .int 0, .ref b2, .ref b3, .ref b4, .ref b5, .ref b6, .int 0, .int 1, .int 0, .ref b7, .ref b8, .ref b9, .ref b10, .int 0, .ref b11, .ref b12, .int 0, .int 0, .ref b13, .ref b14, .ref b15, .ref b16, .ref b17, .ref b18, .ref b19, .int 0, .int 0, .int 0, .int 0, .ref b20, .ref b21, .ref b22, .ref b23, .ref b24, .ref b25, .int 0, .ref b26, .ref b27, .ref b28, .ref b29, .ref b30, .ref b31, .ref b32, .int 0, .int 0, .ref b33, .ref b34, .ref b35, .ref b36, .ref b37, .int 0, .ref b38, .ref b39, .int 0, .ref b40, .ref b41, .ref b42, .ref b43, .ref b44, .ref b45, .int 0, .ref b46, .ref b47, .ref b48, .ref b49, .ref b50, .ref b51, .ref b52, .ref b53, .ref b54, .ref b55, .ref b56, .int 0, .int 0, .int 0, .int 0, .int (-1), .int 0, .int 0, .int 0, .int 0, .int 0, .int 0, .ref b57, .ref b58, .ref b59, .int 0, .ref b60, .ref b61, .int 0, .ref b62, .ref b63, .ref b64, .int 0, .ref b65, .ref b66, .ref b67, .ref b68, .ref b69, .ref b70, .int 0, .int (-1), .int 0, .ref b71, .int (-1), .int (-1), .int (-1), .ref b72, .int 0, .ref b73, .int 0, .ref b74, .int 0, .int 0, .ref b75]))]) := by
  refine ax_Mi.of (by decide +kernel) (Nat.le_of_ble_eq_true rfl) ?_
  intro p e s m args below meth c C hnm
  refine ax_ls ([(0, .ref a0)]) [0] rfl ?_
  refine ax_aload_n (pc := 0) C d_MM_thrown_0 rfl 0 rfl ?_
  refine ax_get (pc := 1) C k_MM 4 lk_MM_24 d_MM_thrown_1 (Nat.le_of_ble_eq_true rfl) 0 rfl rfl ?_
  exact ax_iret (pc := 4) C d_MM_thrown_4 ⟨rfl, rfl⟩ (by decide) (by decide)
abbrev b_CP_read : ByteArray := prog_1_method_5_code
def y_CP_read : MethodName := ⟨"ClauseProver", "read", "()I"⟩
theorem d_CP_read_0 : decode b_CP_read 0 = .ok (.aload_n 0, 1) := by decide +kernel
theorem d_CP_read_1 : decode b_CP_read 1 = .ok (.getfield 28, 3) := by decide +kernel
theorem d_CP_read_4 : decode b_CP_read 4 = .ok (.invokevirtual 105, 3) := by decide +kernel
theorem d_CP_read_7 : decode b_CP_read 7 = .ok (.aload_n 0, 1) := by decide +kernel
theorem d_CP_read_8 : decode b_CP_read 8 = .ok (.getfield 60, 3) := by decide +kernel
theorem d_CP_read_11 : decode b_CP_read 11 = .ok (.invokevirtual 108, 3) := by decide +kernel
theorem d_CP_read_14 : decode b_CP_read 14 = .ok (.aload_n 0, 1) := by decide +kernel
theorem d_CP_read_15 : decode b_CP_read 15 = .ok (.getfield 69, 3) := by decide +kernel
theorem d_CP_read_18 : decode b_CP_read 18 = .ok (.invokevirtual 109, 3) := by decide +kernel
theorem d_CP_read_21 : decode b_CP_read 21 = .ok (.aload_n 0, 1) := by decide +kernel
theorem d_CP_read_22 : decode b_CP_read 22 = .ok (.getfield 46, 3) := by decide +kernel
theorem d_CP_read_25 : decode b_CP_read 25 = .ok (.aload_n 0, 1) := by decide +kernel
theorem d_CP_read_26 : decode b_CP_read 26 = .ok (.getfield 14, 3) := by decide +kernel
theorem d_CP_read_29 : decode b_CP_read 29 = .ok (.getfield 110, 3) := by decide +kernel
theorem d_CP_read_32 : decode b_CP_read 32 = .ok (.aload_n 0, 1) := by decide +kernel
theorem d_CP_read_33 : decode b_CP_read 33 = .ok (.getfield 14, 3) := by decide +kernel
theorem d_CP_read_36 : decode b_CP_read 36 = .ok (.getfield 82, 3) := by decide +kernel
theorem d_CP_read_39 : decode b_CP_read 39 = .ok (.invokevirtual 113, 3) := by decide +kernel
theorem d_CP_read_42 : decode b_CP_read 42 = .ok (.aload_n 0, 1) := by decide +kernel
theorem d_CP_read_43 : decode b_CP_read 43 = .ok (.getfield 14, 3) := by decide +kernel
theorem d_CP_read_46 : decode b_CP_read 46 = .ok (.iconst 0, 1) := by decide +kernel
theorem d_CP_read_47 : decode b_CP_read 47 = .ok (.putfield 82, 3) := by decide +kernel
theorem d_CP_read_50 : decode b_CP_read 50 = .ok (.aload_n 0, 1) := by decide +kernel
theorem d_CP_read_51 : decode b_CP_read 51 = .ok (.aload_n 0, 1) := by decide +kernel
theorem d_CP_read_52 : decode b_CP_read 52 = .ok (.getfield 46, 3) := by decide +kernel
theorem d_CP_read_55 : decode b_CP_read 55 = .ok (.getfield 117, 3) := by decide +kernel
theorem d_CP_read_58 : decode b_CP_read 58 = .ok (.putfield 120, 3) := by decide +kernel
theorem d_CP_read_61 : decode b_CP_read 61 = .ok (.aload_n 0, 1) := by decide +kernel
theorem d_CP_read_62 : decode b_CP_read 62 = .ok (.aload_n 0, 1) := by decide +kernel
theorem d_CP_read_63 : decode b_CP_read 63 = .ok (.getfield 46, 3) := by decide +kernel
theorem d_CP_read_66 : decode b_CP_read 66 = .ok (.getfield 123, 3) := by decide +kernel
theorem d_CP_read_69 : decode b_CP_read 69 = .ok (.putfield 126, 3) := by decide +kernel
theorem d_CP_read_72 : decode b_CP_read 72 = .ok (.aload_n 0, 1) := by decide +kernel
theorem d_CP_read_73 : decode b_CP_read 73 = .ok (.getfield 120, 3) := by decide +kernel
theorem d_CP_read_76 : decode b_CP_read 76 = .ok (.ifCond .ne 54, 3) := by decide +kernel
theorem d_CP_read_79 : decode b_CP_read 79 = .ok (.aload_n 0, 1) := by decide +kernel
theorem d_CP_read_80 : decode b_CP_read 80 = .ok (.getfield 37, 3) := by decide +kernel
theorem d_CP_read_83 : decode b_CP_read 83 = .ok (.invokevirtual 127, 3) := by decide +kernel
theorem d_CP_read_86 : decode b_CP_read 86 = .ok (.aload_n 0, 1) := by decide +kernel
theorem d_CP_read_87 : decode b_CP_read 87 = .ok (.getfield 37, 3) := by decide +kernel
theorem d_CP_read_90 : decode b_CP_read 90 = .ok (.aload_n 0, 1) := by decide +kernel
theorem d_CP_read_91 : decode b_CP_read 91 = .ok (.getfield 53, 3) := by decide +kernel
theorem d_CP_read_94 : decode b_CP_read 94 = .ok (.aload_n 0, 1) := by decide +kernel
theorem d_CP_read_95 : decode b_CP_read 95 = .ok (.getfield 60, 3) := by decide +kernel
theorem d_CP_read_98 : decode b_CP_read 98 = .ok (.invokevirtual 130, 3) := by decide +kernel
theorem d_CP_read_101 : decode b_CP_read 101 = .ok (.istore_n 1, 1) := by decide +kernel
theorem d_CP_read_102 : decode b_CP_read 102 = .ok (.aload_n 0, 1) := by decide +kernel
theorem d_CP_read_103 : decode b_CP_read 103 = .ok (.iload_n 1, 1) := by decide +kernel
theorem d_CP_read_104 : decode b_CP_read 104 = .ok (.iconst (-1), 1) := by decide +kernel
theorem d_CP_read_105 : decode b_CP_read 105 = .ok (.if_icmp .ne 7, 3) := by decide +kernel
theorem d_CP_read_108 : decode b_CP_read 108 = .ok (.iconst 0, 1) := by decide +kernel
theorem d_CP_read_109 : decode b_CP_read 109 = .ok (.goto 4, 3) := by decide +kernel
theorem d_CP_read_112 : decode b_CP_read 112 = .ok (.iconst 3, 1) := by decide +kernel
theorem d_CP_read_113 : decode b_CP_read 113 = .ok (.putfield 120, 3) := by decide +kernel
theorem d_CP_read_116 : decode b_CP_read 116 = .ok (.aload_n 0, 1) := by decide +kernel
theorem d_CP_read_117 : decode b_CP_read 117 = .ok (.iload_n 1, 1) := by decide +kernel
theorem d_CP_read_118 : decode b_CP_read 118 = .ok (.iconst (-1), 1) := by decide +kernel
theorem d_CP_read_119 : decode b_CP_read 119 = .ok (.if_icmp .ne 7, 3) := by decide +kernel
theorem d_CP_read_122 : decode b_CP_read 122 = .ok (.iconst 0, 1) := by decide +kernel
theorem d_CP_read_123 : decode b_CP_read 123 = .ok (.goto 4, 3) := by decide +kernel
theorem d_CP_read_126 : decode b_CP_read 126 = .ok (.iload_n 1, 1) := by decide +kernel
theorem d_CP_read_127 : decode b_CP_read 127 = .ok (.putfield 126, 3) := by decide +kernel
theorem d_CP_read_130 : decode b_CP_read 130 = .ok (.aload_n 0, 1) := by decide +kernel
theorem d_CP_read_131 : decode b_CP_read 131 = .ok (.getfield 120, 3) := by decide +kernel
theorem d_CP_read_134 : decode b_CP_read 134 = .ok (.ifCond .eq 19, 3) := by decide +kernel
theorem d_CP_read_137 : decode b_CP_read 137 = .ok (.aload_n 0, 1) := by decide +kernel
theorem d_CP_read_138 : decode b_CP_read 138 = .ok (.getfield 28, 3) := by decide +kernel
theorem d_CP_read_141 : decode b_CP_read 141 = .ok (.invokevirtual 105, 3) := by decide +kernel
theorem d_CP_read_144 : decode b_CP_read 144 = .ok (.aload_n 0, 1) := by decide +kernel
theorem d_CP_read_145 : decode b_CP_read 145 = .ok (.getfield 60, 3) := by decide +kernel
theorem d_CP_read_148 : decode b_CP_read 148 = .ok (.invokevirtual 108, 3) := by decide +kernel
theorem d_CP_read_151 : decode b_CP_read 151 = .ok (.iconst (-1), 1) := by decide +kernel
theorem d_CP_read_152 : decode b_CP_read 152 = .ok (.ireturn, 1) := by decide +kernel
theorem d_CP_read_153 : decode b_CP_read 153 = .ok (.aload_n 0, 1) := by decide +kernel
theorem d_CP_read_154 : decode b_CP_read 154 = .ok (.getfield 60, 3) := by decide +kernel
theorem d_CP_read_157 : decode b_CP_read 157 = .ok (.aload_n 0, 1) := by decide +kernel
theorem d_CP_read_158 : decode b_CP_read 158 = .ok (.getfield 60, 3) := by decide +kernel
theorem d_CP_read_161 : decode b_CP_read 161 = .ok (.getfield 134, 3) := by decide +kernel
theorem d_CP_read_164 : decode b_CP_read 164 = .ok (.putfield 135, 3) := by decide +kernel
theorem d_CP_read_167 : decode b_CP_read 167 = .ok (.aload_n 0, 1) := by decide +kernel
theorem d_CP_read_168 : decode b_CP_read 168 = .ok (.getfield 60, 3) := by decide +kernel
theorem d_CP_read_171 : decode b_CP_read 171 = .ok (.getfield 134, 3) := by decide +kernel
theorem d_CP_read_174 : decode b_CP_read 174 = .ok (.ireturn, 1) := by decide +kernel
abbrev b_Sym_clear : ByteArray := prog_10_method_2_code
def y_Sym_clear : MethodName := ⟨"ClauseProver$Symbols", "clear", "()V"⟩
theorem d_Sym_clear_0 : decode b_Sym_clear 0 = .ok (.aload_n 0, 1) := by decide +kernel
theorem d_Sym_clear_1 : decode b_Sym_clear 1 = .ok (.iconst 0, 1) := by decide +kernel
theorem d_Sym_clear_2 : decode b_Sym_clear 2 = .ok (.putfield 40, 3) := by decide +kernel
theorem d_Sym_clear_5 : decode b_Sym_clear 5 = .ok (.aload_n 0, 1) := by decide +kernel
theorem d_Sym_clear_6 : decode b_Sym_clear 6 = .ok (.iconst 1, 1) := by decide +kernel
theorem d_Sym_clear_7 : decode b_Sym_clear 7 = .ok (.putfield 36, 3) := by decide +kernel
theorem d_Sym_clear_10 : decode b_Sym_clear 10 = .ok (.aload_n 0, 1) := by decide +kernel
theorem d_Sym_clear_11 : decode b_Sym_clear 11 = .ok (.getfield 26, 3) := by decide +kernel
theorem d_Sym_clear_14 : decode b_Sym_clear 14 = .ok (.iconst 0, 1) := by decide +kernel
theorem d_Sym_clear_15 : decode b_Sym_clear 15 = .ok (.putfield 43, 3) := by decide +kernel
theorem d_Sym_clear_18 : decode b_Sym_clear 18 = .ok (.return_, 1) := by decide +kernel
theorem lk_Sym_40 : Cond.fieldLink "ClauseProver$Symbols" 40 (F_Sym 4).1 (F_Sym 4).2.1 (F_Sym 4).2.2.1 ∈ lw_tbg := tb_in (i := 89) (by decide +kernel) rfl
theorem lk_Sym_43 : Cond.fieldLink "ClauseProver$Symbols" 43 (F_Row 1).1 (F_Row 1).2.1 (F_Row 1).2.2.1 ∈ lw_tbg := tb_in (i := 60) (by decide +kernel) rfl
theorem lk_Sto_30 : Cond.fieldLink "ClauseProver$Store" 30 (F_Row 1).1 (F_Row 1).2.1 (F_Row 1).2.2.1 ∈ lw_tbg := tb_in (i := 58) (by decide +kernel) rfl
theorem lk_Sto_34 : Cond.fieldLink "ClauseProver$Store" 34 (F_Sto 2).1 (F_Sto 2).2.1 (F_Sto 2).2.2.1 ∈ lw_tbg := tb_in (i := 330) (by decide +kernel) rfl
theorem lk_Sto_35 : Cond.fieldLink "ClauseProver$Store" 35 (F_Sto 3).1 (F_Sto 3).2.1 (F_Sto 3).2.2.1 ∈ lw_tbg := tb_in (i := 334) (by decide +kernel) rfl
theorem lk_Sat_58 : Cond.fieldLink "ClauseProver$Saturation" 58 (F_Sat 0).1 (F_Sat 0).2.1 (F_Sat 0).2.2.1 ∈ lw_tbg := tb_in (i := 423) (by decide +kernel) rfl
theorem lk_Sat_62 : Cond.fieldLink "ClauseProver$Saturation" 62 (F_Sat 1).1 (F_Sat 1).2.1 (F_Sat 1).2.2.1 ∈ lw_tbg := tb_in (i := 425) (by decide +kernel) rfl
theorem lk_Sat_65 : Cond.fieldLink "ClauseProver$Saturation" 65 (F_Sat 2).1 (F_Sat 2).2.1 (F_Sat 2).2.2.1 ∈ lw_tbg := tb_in (i := 427) (by decide +kernel) rfl
theorem lk_Sat_68 : Cond.fieldLink "ClauseProver$Saturation" 68 (F_Sat 3).1 (F_Sat 3).2.1 (F_Sat 3).2.2.1 ∈ lw_tbg := tb_in (i := 429) (by decide +kernel) rfl
theorem lk_Sat_71 : Cond.fieldLink "ClauseProver$Saturation" 71 (F_Sat 4).1 (F_Sat 4).2.1 (F_Sat 4).2.2.1 ∈ lw_tbg := tb_in (i := 431) (by decide +kernel) rfl
theorem lk_Sat_74 : Cond.fieldLink "ClauseProver$Saturation" 74 (F_Sat 5).1 (F_Sat 5).2.1 (F_Sat 5).2.2.1 ∈ lw_tbg := tb_in (i := 433) (by decide +kernel) rfl
theorem lk_Sat_77 : Cond.fieldLink "ClauseProver$Saturation" 77 (F_Sat 6).1 (F_Sat 6).2.1 (F_Sat 6).2.2.1 ∈ lw_tbg := tb_in (i := 435) (by decide +kernel) rfl
theorem lk_Sat_80 : Cond.fieldLink "ClauseProver$Saturation" 80 (F_Row 1).1 (F_Row 1).2.1 (F_Row 1).2.2.1 ∈ lw_tbg := tb_in (i := 61) (by decide +kernel) rfl
theorem lk_CP_110 : Cond.fieldLink "ClauseProver" 110 (F_Row 0).1 (F_Row 0).2.1 (F_Row 0).2.2.1 ∈ lw_tbg := tb_in (i := 51) (by decide +kernel) rfl
theorem lk_Par_41 : Cond.fieldLink "ClauseProver$Parser" 41 (F_Par 0).1 (F_Par 0).2.1 (F_Par 0).2.2.1 ∈ lw_tbg := tb_in (i := 222) (by decide +kernel) rfl
theorem lk_Par_45 : Cond.fieldLink "ClauseProver$Parser" 45 (F_Par 1).1 (F_Par 1).2.1 (F_Par 1).2.2.1 ∈ lw_tbg := tb_in (i := 224) (by decide +kernel) rfl
theorem lk_For_59 : Cond.fieldLink "ClauseProver$Formulas" 59 (F_Row 1).1 (F_Row 1).2.1 (F_Row 1).2.2.1 ∈ lw_tbg := tb_in (i := 59) (by decide +kernel) rfl
theorem lk_For_63 : Cond.fieldLink "ClauseProver$Formulas" 63 (F_For 2).1 (F_For 2).2.1 (F_For 2).2.2.1 ∈ lw_tbg := tb_in (i := 124) (by decide +kernel) rfl
theorem lk_For_66 : Cond.fieldLink "ClauseProver$Formulas" 66 (F_For 14).1 (F_For 14).2.1 (F_For 14).2.2.1 ∈ lw_tbg := tb_in (i := 138) (by decide +kernel) rfl
theorem lk_For_69 : Cond.fieldLink "ClauseProver$Formulas" 69 (F_For 3).1 (F_For 3).2.1 (F_For 3).2.2.1 ∈ lw_tbg := tb_in (i := 126) (by decide +kernel) rfl
theorem lk_Wds_9 : Cond.fieldLink "ClauseProver$Words" 9 (F_Wds 0).1 (F_Wds 0).2.1 (F_Wds 0).2.2.1 ∈ lw_tbg := tb_in (i := 186) (by decide +kernel) rfl
theorem lk_Wds_15 : Cond.fieldLink "ClauseProver$Words" 15 (F_Wds 1).1 (F_Wds 1).2.1 (F_Wds 1).2.2.1 ∈ lw_tbg := tb_in (i := 189) (by decide +kernel) rfl
theorem lk_Wds_19 : Cond.fieldLink "ClauseProver$Words" 19 (F_Wds 6).1 (F_Wds 6).2.1 (F_Wds 6).2.2.1 ∈ lw_tbg := tb_in (i := 201) (by decide +kernel) rfl
theorem lk_Wds_22 : Cond.fieldLink "ClauseProver$Words" 22 (F_Wds 7).1 (F_Wds 7).2.1 (F_Wds 7).2.2.1 ∈ lw_tbg := tb_in (i := 202) (by decide +kernel) rfl
theorem lk_Wds_42 : Cond.fieldLink "ClauseProver$Words" 42 (F_Wds 3).1 (F_Wds 3).2.1 (F_Wds 3).2.2.1 ∈ lw_tbg := tb_in (i := 194) (by decide +kernel) rfl
theorem lk_Wds_39 : Cond.fieldLink "ClauseProver$Words" 39 (F_Wds 4).1 (F_Wds 4).2.1 (F_Wds 4).2.2.1 ∈ lw_tbg := tb_in (i := 197) (by decide +kernel) rfl
theorem lk_Wds_31 : Cond.fieldLink "ClauseProver$Words" 31 (F_Wds 5).1 (F_Wds 5).2.1 (F_Wds 5).2.2.1 ∈ lw_tbg := tb_in (i := 199) (by decide +kernel) rfl
theorem lk_Wds_28 : Cond.fieldLink "ClauseProver$Words" 28 (F_Wds 2).1 (F_Wds 2).2.1 (F_Wds 2).2.2.1 ∈ lw_tbg := tb_in (i := 191) (by decide +kernel) rfl
theorem tb_constant_580 : Cond.constant "ClauseProver$Parser" 57 1000000 ∈ lw_tbg := tb_in (i := 580) (by decide +kernel) rfl
theorem lk_Par_58 : Cond.fieldLink "ClauseProver$Parser" 58 (F_Wds 2).1 (F_Wds 2).2.1 (F_Wds 2).2.2.1 ∈ lw_tbg := tb_in (i := 190) (by decide +kernel) rfl
theorem lk_CP_117 : Cond.fieldLink "ClauseProver" 117 (F_Par 0).1 (F_Par 0).2.1 (F_Par 0).2.2.1 ∈ lw_tbg := tb_in (i := 223) (by decide +kernel) rfl
theorem lk_CP_120 : Cond.fieldLink "ClauseProver" 120 (F_CP 10).1 (F_CP 10).2.1 (F_CP 10).2.2.1 ∈ lw_tbg := tb_in (i := 509) (by decide +kernel) rfl
theorem lk_CP_123 : Cond.fieldLink "ClauseProver" 123 (F_Par 1).1 (F_Par 1).2.1 (F_Par 1).2.2.1 ∈ lw_tbg := tb_in (i := 225) (by decide +kernel) rfl
theorem lk_CP_126 : Cond.fieldLink "ClauseProver" 126 (F_CP 11).1 (F_CP 11).2.1 (F_CP 11).2.2.1 ∈ lw_tbg := tb_in (i := 510) (by decide +kernel) rfl
theorem lk_CP_134 : Cond.fieldLink "ClauseProver" 134 (F_Sto 2).1 (F_Sto 2).2.1 (F_Sto 2).2.2.1 ∈ lw_tbg := tb_in (i := 332) (by decide +kernel) rfl
theorem lk_CP_135 : Cond.fieldLink "ClauseProver" 135 (F_Sto 3).1 (F_Sto 3).2.1 (F_Sto 3).2.2.1 ∈ lw_tbg := tb_in (i := 335) (by decide +kernel) rfl
set_option maxHeartbeats 4000000 in
set_option maxRecDepth 100000 in
theorem m44_Sym_clear (l : Launch) (D : va_G) (kA : Nat → ClassId) (a0 : Nat) (a1 : Nat) (b0 : Nat) (b1 : Nat) (b2 : Nat) (b3 : Nat) (b4 : Nat) (b5 : Nat) : ax_Mv l D kA y_Sym_clear b_Sym_clear 1 0 0 0 0 [.ref a0] [(a0, .inr (1, [.ref b0, .ref b1, .ref b2, .ref a1, .int 0, .int 1, .ref b3, .ref b4])), (a1, .inr (0, [.ref b5, .int 0]))] (fun w1 => w1 = [(a0, .inr (1, [.ref b0, .ref b1, .ref b2, .ref a1, .int 0, .int 1, .ref b3, .ref b4])), (a1, .inr (0, [.ref b5, .int 0]))]) := by
  refine ax_Mv.of (by decide +kernel) (Nat.le_of_ble_eq_true rfl) ?_
  intro p e s m args below meth c C hnm
  refine ax_ls ([(0, .ref a0)]) [0] rfl ?_
  refine ax_aload_n (pc := 0) C d_Sym_clear_0 rfl 0 rfl ?_
  refine ax_iconst (pc := 1) C 0 d_Sym_clear_1 (by decide +kernel) ?_
  refine ax_put (pc := 2) C k_Sym 4 lk_Sym_40 d_Sym_clear_2 (Nat.le_of_ble_eq_true rfl) 0 rfl rfl rfl rfl (Nat.le_of_ble_eq_true rfl) ?_
  refine ax_w ([(a0, .inr (1, [.ref b0, .ref b1, .ref b2, .ref a1, .int 0, .int 1, .ref b3, .ref b4])), (a1, .inr (0, [.ref b5, .int 0]))]) rfl ?_
  refine ax_aload_n (pc := 5) C d_Sym_clear_5 rfl 0 rfl ?_
  refine ax_iconst (pc := 6) C 1 d_Sym_clear_6 (by decide +kernel) ?_
  refine ax_put (pc := 7) C k_Sym 5 lk_Sym_36 d_Sym_clear_7 (Nat.le_of_ble_eq_true rfl) 0 rfl rfl rfl rfl (Nat.le_of_ble_eq_true rfl) ?_
  refine ax_w ([(a0, .inr (1, [.ref b0, .ref b1, .ref b2, .ref a1, .int 0, .int 1, .ref b3, .ref b4])), (a1, .inr (0, [.ref b5, .int 0]))]) rfl ?_
  refine ax_aload_n (pc := 10) C d_Sym_clear_10 rfl 0 rfl ?_
  refine ax_get (pc := 11) C k_Sym 3 lk_Sym_26 d_Sym_clear_11 (Nat.le_of_ble_eq_true rfl) 0 rfl rfl ?_
  refine ax_iconst (pc := 14) C 0 d_Sym_clear_14 (by decide +kernel) ?_
  refine ax_put (pc := 15) C k_Row 1 lk_Sym_43 d_Sym_clear_15 (Nat.le_of_ble_eq_true rfl) 1 rfl rfl rfl rfl (Nat.le_of_ble_eq_true rfl) ?_
  refine ax_w ([(a0, .inr (1, [.ref b0, .ref b1, .ref b2, .ref a1, .int 0, .int 1, .ref b3, .ref b4])), (a1, .inr (0, [.ref b5, .int 0]))]) rfl ?_
  exact ax_vret (pc := 18) C d_Sym_clear_18 rfl (by decide) (by decide)
abbrev b_Sto_clear : ByteArray := prog_9_method_2_code
def y_Sto_clear : MethodName := ⟨"ClauseProver$Store", "clear", "()V"⟩
theorem d_Sto_clear_0 : decode b_Sto_clear 0 = .ok (.aload_n 0, 1) := by decide +kernel
theorem d_Sto_clear_1 : decode b_Sto_clear 1 = .ok (.getfield 14, 3) := by decide +kernel
theorem d_Sto_clear_4 : decode b_Sto_clear 4 = .ok (.iconst 0, 1) := by decide +kernel
theorem d_Sto_clear_5 : decode b_Sto_clear 5 = .ok (.putfield 30, 3) := by decide +kernel
theorem d_Sto_clear_8 : decode b_Sto_clear 8 = .ok (.aload_n 0, 1) := by decide +kernel
theorem d_Sto_clear_9 : decode b_Sto_clear 9 = .ok (.getfield 20, 3) := by decide +kernel
theorem d_Sto_clear_12 : decode b_Sto_clear 12 = .ok (.iconst 0, 1) := by decide +kernel
theorem d_Sto_clear_13 : decode b_Sto_clear 13 = .ok (.putfield 30, 3) := by decide +kernel
theorem d_Sto_clear_16 : decode b_Sto_clear 16 = .ok (.aload_n 0, 1) := by decide +kernel
theorem d_Sto_clear_17 : decode b_Sto_clear 17 = .ok (.getfield 23, 3) := by decide +kernel
theorem d_Sto_clear_20 : decode b_Sto_clear 20 = .ok (.iconst 0, 1) := by decide +kernel
theorem d_Sto_clear_21 : decode b_Sto_clear 21 = .ok (.putfield 30, 3) := by decide +kernel
theorem d_Sto_clear_24 : decode b_Sto_clear 24 = .ok (.aload_n 0, 1) := by decide +kernel
theorem d_Sto_clear_25 : decode b_Sto_clear 25 = .ok (.iconst 0, 1) := by decide +kernel
theorem d_Sto_clear_26 : decode b_Sto_clear 26 = .ok (.putfield 34, 3) := by decide +kernel
theorem d_Sto_clear_29 : decode b_Sto_clear 29 = .ok (.aload_n 0, 1) := by decide +kernel
theorem d_Sto_clear_30 : decode b_Sto_clear 30 = .ok (.iconst 0, 1) := by decide +kernel
theorem d_Sto_clear_31 : decode b_Sto_clear 31 = .ok (.putfield 35, 3) := by decide +kernel
theorem d_Sto_clear_34 : decode b_Sto_clear 34 = .ok (.return_, 1) := by decide +kernel
theorem tc_Sym_clear : Cond.code y_Sym_clear b_Sym_clear 1 none ∈ lw_tbg := tb_in (i := 543) (by decide +kernel) rfl
theorem ml_CP_105 : ax_LV "ClauseProver" 105 y_Sym_clear b_Sym_clear 1 none 0 := ax_LV.mk (tb_in (i := 540) (by decide +kernel) rfl) (tb_in (i := 541) (by decide +kernel) rfl) (tb_in (i := 542) (by decide +kernel) rfl) ti_Sym tc_Sym_clear (by decide +kernel)
set_option maxHeartbeats 4000000 in
set_option maxRecDepth 100000 in
theorem m45_Sto_clear (l : Launch) (D : va_G) (kA : Nat → ClassId) (a0 : Nat) (a1 : Nat) (a2 : Nat) (a3 : Nat) (b0 : Nat) (b1 : Nat) (b2 : Nat) (b3 : Nat) : ax_Mv l D kA y_Sto_clear b_Sto_clear 1 0 0 0 0 [.ref a3] [(a0, .inr (0, [.ref b0, .int 0])), (a1, .inr (0, [.ref b1, .int 0])), (a2, .inr (0, [.ref b2, .int 0])), (a3, .inr (6, [.ref a0, .ref a1, .int 0, .int 0, .ref b3, .ref a2]))] (fun w1 => w1 = [(a0, .inr (0, [.ref b0, .int 0])), (a1, .inr (0, [.ref b1, .int 0])), (a2, .inr (0, [.ref b2, .int 0])), (a3, .inr (6, [.ref a0, .ref a1, .int 0, .int 0, .ref b3, .ref a2]))]) := by
  refine ax_Mv.of (by decide +kernel) (Nat.le_of_ble_eq_true rfl) ?_
  intro p e s m args below meth c C hnm
  refine ax_ls ([(0, .ref a3)]) [0] rfl ?_
  refine ax_aload_n (pc := 0) C d_Sto_clear_0 rfl 0 rfl ?_
  refine ax_get (pc := 1) C k_Sto 0 lk_Sto_14 d_Sto_clear_1 (Nat.le_of_ble_eq_true rfl) 3 rfl rfl ?_
  refine ax_iconst (pc := 4) C 0 d_Sto_clear_4 (by decide +kernel) ?_
  refine ax_put (pc := 5) C k_Row 1 lk_Sto_30 d_Sto_clear_5 (Nat.le_of_ble_eq_true rfl) 0 rfl rfl rfl rfl (Nat.le_of_ble_eq_true rfl) ?_
  refine ax_w ([(a0, .inr (0, [.ref b0, .int 0])), (a1, .inr (0, [.ref b1, .int 0])), (a2, .inr (0, [.ref b2, .int 0])), (a3, .inr (6, [.ref a0, .ref a1, .int 0, .int 0, .ref b3, .ref a2]))]) rfl ?_
  refine ax_aload_n (pc := 8) C d_Sto_clear_8 rfl 0 rfl ?_
  refine ax_get (pc := 9) C k_Sto 1 lk_Sto_20 d_Sto_clear_9 (Nat.le_of_ble_eq_true rfl) 3 rfl rfl ?_
  refine ax_iconst (pc := 12) C 0 d_Sto_clear_12 (by decide +kernel) ?_
  refine ax_put (pc := 13) C k_Row 1 lk_Sto_30 d_Sto_clear_13 (Nat.le_of_ble_eq_true rfl) 1 rfl rfl rfl rfl (Nat.le_of_ble_eq_true rfl) ?_
  refine ax_w ([(a0, .inr (0, [.ref b0, .int 0])), (a1, .inr (0, [.ref b1, .int 0])), (a2, .inr (0, [.ref b2, .int 0])), (a3, .inr (6, [.ref a0, .ref a1, .int 0, .int 0, .ref b3, .ref a2]))]) rfl ?_
  refine ax_aload_n (pc := 16) C d_Sto_clear_16 rfl 0 rfl ?_
  refine ax_get (pc := 17) C k_Sto 5 lk_Sto_23 d_Sto_clear_17 (Nat.le_of_ble_eq_true rfl) 3 rfl rfl ?_
  refine ax_iconst (pc := 20) C 0 d_Sto_clear_20 (by decide +kernel) ?_
  refine ax_put (pc := 21) C k_Row 1 lk_Sto_30 d_Sto_clear_21 (Nat.le_of_ble_eq_true rfl) 2 rfl rfl rfl rfl (Nat.le_of_ble_eq_true rfl) ?_
  refine ax_w ([(a0, .inr (0, [.ref b0, .int 0])), (a1, .inr (0, [.ref b1, .int 0])), (a2, .inr (0, [.ref b2, .int 0])), (a3, .inr (6, [.ref a0, .ref a1, .int 0, .int 0, .ref b3, .ref a2]))]) rfl ?_
  refine ax_aload_n (pc := 24) C d_Sto_clear_24 rfl 0 rfl ?_
  refine ax_iconst (pc := 25) C 0 d_Sto_clear_25 (by decide +kernel) ?_
  refine ax_put (pc := 26) C k_Sto 2 lk_Sto_34 d_Sto_clear_26 (Nat.le_of_ble_eq_true rfl) 3 rfl rfl rfl rfl (Nat.le_of_ble_eq_true rfl) ?_
  refine ax_w ([(a0, .inr (0, [.ref b0, .int 0])), (a1, .inr (0, [.ref b1, .int 0])), (a2, .inr (0, [.ref b2, .int 0])), (a3, .inr (6, [.ref a0, .ref a1, .int 0, .int 0, .ref b3, .ref a2]))]) rfl ?_
  refine ax_aload_n (pc := 29) C d_Sto_clear_29 rfl 0 rfl ?_
  refine ax_iconst (pc := 30) C 0 d_Sto_clear_30 (by decide +kernel) ?_
  refine ax_put (pc := 31) C k_Sto 3 lk_Sto_35 d_Sto_clear_31 (Nat.le_of_ble_eq_true rfl) 3 rfl rfl rfl rfl (Nat.le_of_ble_eq_true rfl) ?_
  refine ax_w ([(a0, .inr (0, [.ref b0, .int 0])), (a1, .inr (0, [.ref b1, .int 0])), (a2, .inr (0, [.ref b2, .int 0])), (a3, .inr (6, [.ref a0, .ref a1, .int 0, .int 0, .ref b3, .ref a2]))]) rfl ?_
  exact ax_vret (pc := 34) C d_Sto_clear_34 rfl (by decide) (by decide)
abbrev b_Sat_clear : ByteArray := prog_8_method_2_code
def y_Sat_clear : MethodName := ⟨"ClauseProver$Saturation", "clear", "()V"⟩
theorem d_Sat_clear_0 : decode b_Sat_clear 0 = .ok (.aload_n 0, 1) := by decide +kernel
theorem d_Sat_clear_1 : decode b_Sat_clear 1 = .ok (.iconst 0, 1) := by decide +kernel
theorem d_Sat_clear_2 : decode b_Sat_clear 2 = .ok (.putfield 58, 3) := by decide +kernel
theorem d_Sat_clear_5 : decode b_Sat_clear 5 = .ok (.aload_n 0, 1) := by decide +kernel
theorem d_Sat_clear_6 : decode b_Sat_clear 6 = .ok (.iconst 0, 1) := by decide +kernel
theorem d_Sat_clear_7 : decode b_Sat_clear 7 = .ok (.putfield 62, 3) := by decide +kernel
theorem d_Sat_clear_10 : decode b_Sat_clear 10 = .ok (.aload_n 0, 1) := by decide +kernel
theorem d_Sat_clear_11 : decode b_Sat_clear 11 = .ok (.iconst 0, 1) := by decide +kernel
theorem d_Sat_clear_12 : decode b_Sat_clear 12 = .ok (.putfield 65, 3) := by decide +kernel
theorem d_Sat_clear_15 : decode b_Sat_clear 15 = .ok (.aload_n 0, 1) := by decide +kernel
theorem d_Sat_clear_16 : decode b_Sat_clear 16 = .ok (.iconst 0, 1) := by decide +kernel
theorem d_Sat_clear_17 : decode b_Sat_clear 17 = .ok (.putfield 68, 3) := by decide +kernel
theorem d_Sat_clear_20 : decode b_Sat_clear 20 = .ok (.aload_n 0, 1) := by decide +kernel
theorem d_Sat_clear_21 : decode b_Sat_clear 21 = .ok (.iconst 0, 1) := by decide +kernel
theorem d_Sat_clear_22 : decode b_Sat_clear 22 = .ok (.putfield 71, 3) := by decide +kernel
theorem d_Sat_clear_25 : decode b_Sat_clear 25 = .ok (.aload_n 0, 1) := by decide +kernel
theorem d_Sat_clear_26 : decode b_Sat_clear 26 = .ok (.iconst 0, 1) := by decide +kernel
theorem d_Sat_clear_27 : decode b_Sat_clear 27 = .ok (.putfield 74, 3) := by decide +kernel
theorem d_Sat_clear_30 : decode b_Sat_clear 30 = .ok (.aload_n 0, 1) := by decide +kernel
theorem d_Sat_clear_31 : decode b_Sat_clear 31 = .ok (.iconst 0, 1) := by decide +kernel
theorem d_Sat_clear_32 : decode b_Sat_clear 32 = .ok (.putfield 77, 3) := by decide +kernel
theorem d_Sat_clear_35 : decode b_Sat_clear 35 = .ok (.aload_n 0, 1) := by decide +kernel
theorem d_Sat_clear_36 : decode b_Sat_clear 36 = .ok (.getfield 14, 3) := by decide +kernel
theorem d_Sat_clear_39 : decode b_Sat_clear 39 = .ok (.iconst 0, 1) := by decide +kernel
theorem d_Sat_clear_40 : decode b_Sat_clear 40 = .ok (.putfield 80, 3) := by decide +kernel
theorem d_Sat_clear_43 : decode b_Sat_clear 43 = .ok (.return_, 1) := by decide +kernel
theorem tc_Sto_clear : Cond.code y_Sto_clear b_Sto_clear 1 none ∈ lw_tbg := tb_in (i := 547) (by decide +kernel) rfl
theorem ml_CP_108 : ax_LV "ClauseProver" 108 y_Sto_clear b_Sto_clear 1 none 0 := ax_LV.mk (tb_in (i := 544) (by decide +kernel) rfl) (tb_in (i := 545) (by decide +kernel) rfl) (tb_in (i := 546) (by decide +kernel) rfl) ti_Sto tc_Sto_clear (by decide +kernel)
set_option maxHeartbeats 4000000 in
set_option maxRecDepth 100000 in
theorem m46_Sat_clear (l : Launch) (D : va_G) (kA : Nat → ClassId) (a0 : Nat) (a1 : Nat) (b0 : Nat) (b1 : Nat) (b2 : Nat) (b3 : Nat) (b4 : Nat) (b5 : Nat) (b6 : Nat) : ax_Mv l D kA y_Sat_clear b_Sat_clear 1 0 0 0 0 [.ref a0] [(a0, .inr (9, [.int 0, .int 0, .int 0, .int 0, .int 0, .int 0, .int 0, .ref a1, .ref b0, .ref b1, .ref b2, .ref b3, .ref b4, .ref b5])), (a1, .inr (0, [.ref b6, .int 0]))] (fun w1 => w1 = [(a0, .inr (9, [.int 0, .int 0, .int 0, .int 0, .int 0, .int 0, .int 0, .ref a1, .ref b0, .ref b1, .ref b2, .ref b3, .ref b4, .ref b5])), (a1, .inr (0, [.ref b6, .int 0]))]) := by
  refine ax_Mv.of (by decide +kernel) (Nat.le_of_ble_eq_true rfl) ?_
  intro p e s m args below meth c C hnm
  refine ax_ls ([(0, .ref a0)]) [0] rfl ?_
  refine ax_aload_n (pc := 0) C d_Sat_clear_0 rfl 0 rfl ?_
  refine ax_iconst (pc := 1) C 0 d_Sat_clear_1 (by decide +kernel) ?_
  refine ax_put (pc := 2) C k_Sat 0 lk_Sat_58 d_Sat_clear_2 (Nat.le_of_ble_eq_true rfl) 0 rfl rfl rfl rfl (Nat.le_of_ble_eq_true rfl) ?_
  refine ax_w ([(a0, .inr (9, [.int 0, .int 0, .int 0, .int 0, .int 0, .int 0, .int 0, .ref a1, .ref b0, .ref b1, .ref b2, .ref b3, .ref b4, .ref b5])), (a1, .inr (0, [.ref b6, .int 0]))]) rfl ?_
  refine ax_aload_n (pc := 5) C d_Sat_clear_5 rfl 0 rfl ?_
  refine ax_iconst (pc := 6) C 0 d_Sat_clear_6 (by decide +kernel) ?_
  refine ax_put (pc := 7) C k_Sat 1 lk_Sat_62 d_Sat_clear_7 (Nat.le_of_ble_eq_true rfl) 0 rfl rfl rfl rfl (Nat.le_of_ble_eq_true rfl) ?_
  refine ax_w ([(a0, .inr (9, [.int 0, .int 0, .int 0, .int 0, .int 0, .int 0, .int 0, .ref a1, .ref b0, .ref b1, .ref b2, .ref b3, .ref b4, .ref b5])), (a1, .inr (0, [.ref b6, .int 0]))]) rfl ?_
  refine ax_aload_n (pc := 10) C d_Sat_clear_10 rfl 0 rfl ?_
  refine ax_iconst (pc := 11) C 0 d_Sat_clear_11 (by decide +kernel) ?_
  refine ax_put (pc := 12) C k_Sat 2 lk_Sat_65 d_Sat_clear_12 (Nat.le_of_ble_eq_true rfl) 0 rfl rfl rfl rfl (Nat.le_of_ble_eq_true rfl) ?_
  refine ax_w ([(a0, .inr (9, [.int 0, .int 0, .int 0, .int 0, .int 0, .int 0, .int 0, .ref a1, .ref b0, .ref b1, .ref b2, .ref b3, .ref b4, .ref b5])), (a1, .inr (0, [.ref b6, .int 0]))]) rfl ?_
  refine ax_aload_n (pc := 15) C d_Sat_clear_15 rfl 0 rfl ?_
  refine ax_iconst (pc := 16) C 0 d_Sat_clear_16 (by decide +kernel) ?_
  refine ax_put (pc := 17) C k_Sat 3 lk_Sat_68 d_Sat_clear_17 (Nat.le_of_ble_eq_true rfl) 0 rfl rfl rfl rfl (Nat.le_of_ble_eq_true rfl) ?_
  refine ax_w ([(a0, .inr (9, [.int 0, .int 0, .int 0, .int 0, .int 0, .int 0, .int 0, .ref a1, .ref b0, .ref b1, .ref b2, .ref b3, .ref b4, .ref b5])), (a1, .inr (0, [.ref b6, .int 0]))]) rfl ?_
  refine ax_aload_n (pc := 20) C d_Sat_clear_20 rfl 0 rfl ?_
  refine ax_iconst (pc := 21) C 0 d_Sat_clear_21 (by decide +kernel) ?_
  refine ax_put (pc := 22) C k_Sat 4 lk_Sat_71 d_Sat_clear_22 (Nat.le_of_ble_eq_true rfl) 0 rfl rfl rfl rfl (Nat.le_of_ble_eq_true rfl) ?_
  refine ax_w ([(a0, .inr (9, [.int 0, .int 0, .int 0, .int 0, .int 0, .int 0, .int 0, .ref a1, .ref b0, .ref b1, .ref b2, .ref b3, .ref b4, .ref b5])), (a1, .inr (0, [.ref b6, .int 0]))]) rfl ?_
  refine ax_aload_n (pc := 25) C d_Sat_clear_25 rfl 0 rfl ?_
  refine ax_iconst (pc := 26) C 0 d_Sat_clear_26 (by decide +kernel) ?_
  refine ax_put (pc := 27) C k_Sat 5 lk_Sat_74 d_Sat_clear_27 (Nat.le_of_ble_eq_true rfl) 0 rfl rfl rfl rfl (Nat.le_of_ble_eq_true rfl) ?_
  refine ax_w ([(a0, .inr (9, [.int 0, .int 0, .int 0, .int 0, .int 0, .int 0, .int 0, .ref a1, .ref b0, .ref b1, .ref b2, .ref b3, .ref b4, .ref b5])), (a1, .inr (0, [.ref b6, .int 0]))]) rfl ?_
  refine ax_aload_n (pc := 30) C d_Sat_clear_30 rfl 0 rfl ?_
  refine ax_iconst (pc := 31) C 0 d_Sat_clear_31 (by decide +kernel) ?_
  refine ax_put (pc := 32) C k_Sat 6 lk_Sat_77 d_Sat_clear_32 (Nat.le_of_ble_eq_true rfl) 0 rfl rfl rfl rfl (Nat.le_of_ble_eq_true rfl) ?_
  refine ax_w ([(a0, .inr (9, [.int 0, .int 0, .int 0, .int 0, .int 0, .int 0, .int 0, .ref a1, .ref b0, .ref b1, .ref b2, .ref b3, .ref b4, .ref b5])), (a1, .inr (0, [.ref b6, .int 0]))]) rfl ?_
  refine ax_aload_n (pc := 35) C d_Sat_clear_35 rfl 0 rfl ?_
  refine ax_get (pc := 36) C k_Sat 7 lk_Sat_14 d_Sat_clear_36 (Nat.le_of_ble_eq_true rfl) 0 rfl rfl ?_
  refine ax_iconst (pc := 39) C 0 d_Sat_clear_39 (by decide +kernel) ?_
  refine ax_put (pc := 40) C k_Row 1 lk_Sat_80 d_Sat_clear_40 (Nat.le_of_ble_eq_true rfl) 1 rfl rfl rfl rfl (Nat.le_of_ble_eq_true rfl) ?_
  refine ax_w ([(a0, .inr (9, [.int 0, .int 0, .int 0, .int 0, .int 0, .int 0, .int 0, .ref a1, .ref b0, .ref b1, .ref b2, .ref b3, .ref b4, .ref b5])), (a1, .inr (0, [.ref b6, .int 0]))]) rfl ?_
  exact ax_vret (pc := 43) C d_Sat_clear_43 rfl (by decide) (by decide)
abbrev b_Par_parse : ByteArray := prog_6_method_2_code
def y_Par_parse : MethodName := ⟨"ClauseProver$Parser", "parse", "([II)V"⟩
theorem d_Par_parse_0 : decode b_Par_parse 0 = .ok (.aload_n 0, 1) := by decide +kernel
theorem d_Par_parse_1 : decode b_Par_parse 1 = .ok (.iconst 0, 1) := by decide +kernel
theorem d_Par_parse_2 : decode b_Par_parse 2 = .ok (.putfield 41, 3) := by decide +kernel
theorem d_Par_parse_5 : decode b_Par_parse 5 = .ok (.aload_n 0, 1) := by decide +kernel
theorem d_Par_parse_6 : decode b_Par_parse 6 = .ok (.iconst 0, 1) := by decide +kernel
theorem d_Par_parse_7 : decode b_Par_parse 7 = .ok (.putfield 45, 3) := by decide +kernel
theorem d_Par_parse_10 : decode b_Par_parse 10 = .ok (.aload_n 0, 1) := by decide +kernel
theorem d_Par_parse_11 : decode b_Par_parse 11 = .ok (.getfield 37, 3) := by decide +kernel
theorem d_Par_parse_14 : decode b_Par_parse 14 = .ok (.invokevirtual 48, 3) := by decide +kernel
theorem d_Par_parse_17 : decode b_Par_parse 17 = .ok (.aload_n 0, 1) := by decide +kernel
theorem d_Par_parse_18 : decode b_Par_parse 18 = .ok (.getfield 12, 3) := by decide +kernel
theorem d_Par_parse_21 : decode b_Par_parse 21 = .ok (.aload_n 1, 1) := by decide +kernel
theorem d_Par_parse_22 : decode b_Par_parse 22 = .ok (.iload_n 2, 1) := by decide +kernel
theorem d_Par_parse_23 : decode b_Par_parse 23 = .ok (.invokevirtual 53, 3) := by decide +kernel
theorem d_Par_parse_26 : decode b_Par_parse 26 = .ok (.iconst 0, 1) := by decide +kernel
theorem d_Par_parse_27 : decode b_Par_parse 27 = .ok (.istore_n 3, 1) := by decide +kernel
theorem d_Par_parse_28 : decode b_Par_parse 28 = .ok (.iload_n 3, 1) := by decide +kernel
theorem d_Par_parse_29 : decode b_Par_parse 29 = .ok (.ldc 57, 2) := by decide +kernel
theorem d_Par_parse_31 : decode b_Par_parse 31 = .ok (.if_icmp .ge 83, 3) := by decide +kernel
theorem d_Par_parse_34 : decode b_Par_parse 34 = .ok (.aload_n 0, 1) := by decide +kernel
theorem d_Par_parse_35 : decode b_Par_parse 35 = .ok (.getfield 41, 3) := by decide +kernel
theorem d_Par_parse_38 : decode b_Par_parse 38 = .ok (.ifCond .ne 76, 3) := by decide +kernel
theorem d_Par_parse_41 : decode b_Par_parse 41 = .ok (.aload_n 0, 1) := by decide +kernel
theorem d_Par_parse_42 : decode b_Par_parse 42 = .ok (.getfield 12, 3) := by decide +kernel
theorem d_Par_parse_45 : decode b_Par_parse 45 = .ok (.getfield 58, 3) := by decide +kernel
theorem d_Par_parse_48 : decode b_Par_parse 48 = .ok (.ifCond .eq 66, 3) := by decide +kernel
theorem d_Par_parse_51 : decode b_Par_parse 51 = .ok (.aload_n 0, 1) := by decide +kernel
theorem d_Par_parse_52 : decode b_Par_parse 52 = .ok (.invokevirtual 61, 3) := by decide +kernel
theorem d_Par_parse_55 : decode b_Par_parse 55 = .ok (.iconst 1, 1) := by decide +kernel
theorem d_Par_parse_56 : decode b_Par_parse 56 = .ok (.istore 4, 2) := by decide +kernel
theorem d_Par_parse_58 : decode b_Par_parse 58 = .ok (.iconst 0, 1) := by decide +kernel
theorem d_Par_parse_59 : decode b_Par_parse 59 = .ok (.istore 5, 2) := by decide +kernel
theorem d_Par_parse_61 : decode b_Par_parse 61 = .ok (.iload 5, 2) := by decide +kernel
theorem d_Par_parse_63 : decode b_Par_parse 63 = .ok (.ldc 57, 2) := by decide +kernel
theorem d_Par_parse_65 : decode b_Par_parse 65 = .ok (.if_icmp .ge 43, 3) := by decide +kernel
theorem d_Par_parse_68 : decode b_Par_parse 68 = .ok (.iload 4, 2) := by decide +kernel
theorem d_Par_parse_70 : decode b_Par_parse 70 = .ok (.ifCond .eq 38, 3) := by decide +kernel
theorem d_Par_parse_73 : decode b_Par_parse 73 = .ok (.aload_n 0, 1) := by decide +kernel
theorem d_Par_parse_74 : decode b_Par_parse 74 = .ok (.invokevirtual 64, 3) := by decide +kernel
theorem d_Par_parse_77 : decode b_Par_parse 77 = .ok (.aload_n 0, 1) := by decide +kernel
theorem d_Par_parse_78 : decode b_Par_parse 78 = .ok (.invokevirtual 67, 3) := by decide +kernel
theorem d_Par_parse_81 : decode b_Par_parse 81 = .ok (.aload_n 0, 1) := by decide +kernel
theorem d_Par_parse_82 : decode b_Par_parse 82 = .ok (.getfield 41, 3) := by decide +kernel
theorem d_Par_parse_85 : decode b_Par_parse 85 = .ok (.ifCond .ne 14, 3) := by decide +kernel
theorem d_Par_parse_88 : decode b_Par_parse 88 = .ok (.aload_n 0, 1) := by decide +kernel
theorem d_Par_parse_89 : decode b_Par_parse 89 = .ok (.invokevirtual 70, 3) := by decide +kernel
theorem d_Par_parse_92 : decode b_Par_parse 92 = .ok (.ifCond .eq 7, 3) := by decide +kernel
theorem d_Par_parse_95 : decode b_Par_parse 95 = .ok (.iconst 1, 1) := by decide +kernel
theorem d_Par_parse_96 : decode b_Par_parse 96 = .ok (.goto 4, 3) := by decide +kernel
theorem d_Par_parse_99 : decode b_Par_parse 99 = .ok (.iconst 0, 1) := by decide +kernel
theorem d_Par_parse_100 : decode b_Par_parse 100 = .ok (.istore 4, 2) := by decide +kernel
theorem d_Par_parse_102 : decode b_Par_parse 102 = .ok (.iinc 5 1, 3) := by decide +kernel
theorem d_Par_parse_105 : decode b_Par_parse 105 = .ok (.goto (-44), 3) := by decide +kernel
theorem d_Par_parse_108 : decode b_Par_parse 108 = .ok (.iinc 3 1, 3) := by decide +kernel
theorem d_Par_parse_111 : decode b_Par_parse 111 = .ok (.goto (-83), 3) := by decide +kernel
theorem d_Par_parse_114 : decode b_Par_parse 114 = .ok (.return_, 1) := by decide +kernel
abbrev b_For_clear : ByteArray := prog_3_method_2_code
def y_For_clear : MethodName := ⟨"ClauseProver$Formulas", "clear", "()V"⟩
theorem d_For_clear_0 : decode b_For_clear 0 = .ok (.aload_n 0, 1) := by decide +kernel
theorem d_For_clear_1 : decode b_For_clear 1 = .ok (.getfield 14, 3) := by decide +kernel
theorem d_For_clear_4 : decode b_For_clear 4 = .ok (.iconst 0, 1) := by decide +kernel
theorem d_For_clear_5 : decode b_For_clear 5 = .ok (.putfield 59, 3) := by decide +kernel
theorem d_For_clear_8 : decode b_For_clear 8 = .ok (.aload_n 0, 1) := by decide +kernel
theorem d_For_clear_9 : decode b_For_clear 9 = .ok (.getfield 24, 3) := by decide +kernel
theorem d_For_clear_12 : decode b_For_clear 12 = .ok (.iconst 0, 1) := by decide +kernel
theorem d_For_clear_13 : decode b_For_clear 13 = .ok (.putfield 59, 3) := by decide +kernel
theorem d_For_clear_16 : decode b_For_clear 16 = .ok (.aload_n 0, 1) := by decide +kernel
theorem d_For_clear_17 : decode b_For_clear 17 = .ok (.getfield 27, 3) := by decide +kernel
theorem d_For_clear_20 : decode b_For_clear 20 = .ok (.iconst 0, 1) := by decide +kernel
theorem d_For_clear_21 : decode b_For_clear 21 = .ok (.putfield 59, 3) := by decide +kernel
theorem d_For_clear_24 : decode b_For_clear 24 = .ok (.aload_n 0, 1) := by decide +kernel
theorem d_For_clear_25 : decode b_For_clear 25 = .ok (.iconst 0, 1) := by decide +kernel
theorem d_For_clear_26 : decode b_For_clear 26 = .ok (.putfield 63, 3) := by decide +kernel
theorem d_For_clear_29 : decode b_For_clear 29 = .ok (.aload_n 0, 1) := by decide +kernel
theorem d_For_clear_30 : decode b_For_clear 30 = .ok (.iconst 0, 1) := by decide +kernel
theorem d_For_clear_31 : decode b_For_clear 31 = .ok (.putfield 66, 3) := by decide +kernel
theorem d_For_clear_34 : decode b_For_clear 34 = .ok (.aload_n 0, 1) := by decide +kernel
theorem d_For_clear_35 : decode b_For_clear 35 = .ok (.iconst (-1), 1) := by decide +kernel
theorem d_For_clear_36 : decode b_For_clear 36 = .ok (.putfield 69, 3) := by decide +kernel
theorem d_For_clear_39 : decode b_For_clear 39 = .ok (.return_, 1) := by decide +kernel
theorem tc_Sat_clear : Cond.code y_Sat_clear b_Sat_clear 1 none ∈ lw_tbg := tb_in (i := 551) (by decide +kernel) rfl
theorem ml_CP_109 : ax_LV "ClauseProver" 109 y_Sat_clear b_Sat_clear 1 none 0 := ax_LV.mk (tb_in (i := 548) (by decide +kernel) rfl) (tb_in (i := 549) (by decide +kernel) rfl) (tb_in (i := 550) (by decide +kernel) rfl) ti_Sat tc_Sat_clear (by decide +kernel)
set_option maxHeartbeats 4000000 in
set_option maxRecDepth 100000 in
theorem m48_For_clear (l : Launch) (D : va_G) (kA : Nat → ClassId) (a0 : Nat) (a1 : Nat) (a2 : Nat) (a3 : Nat) (b0 : Nat) (b1 : Nat) (b2 : Nat) (b3 : Nat) (b4 : Nat) (b5 : Nat) (b6 : Nat) (b7 : Nat) (b8 : Nat) (b9 : Nat) (b10 : Nat) (b11 : Nat) (b12 : Nat) : ax_Mv l D kA y_For_clear b_For_clear 1 0 0 0 0 [.ref a0] [(a0, .inr (2, [.ref a1, .ref b0, .int 0, .int 0, .ref b1, .ref a2, .ref a3, .ref b2, .ref b3, .ref b4, .ref b5, .ref b6, .ref b7, .ref b8, .int 0, .ref b9])), (a1, .inr (0, [.ref b10, .int 0])), (a2, .inr (0, [.ref b11, .int 0])), (a3, .inr (0, [.ref b12, .int 0]))] (fun w1 => w1 = [(a0, .inr (2, [.ref a1, .ref b0, .int 0, .int (-1), .ref b1, .ref a2, .ref a3, .ref b2, .ref b3, .ref b4, .ref b5, .ref b6, .ref b7, .ref b8, .int 0, .ref b9])), (a1, .inr (0, [.ref b10, .int 0])), (a2, .inr (0, [.ref b11, .int 0])), (a3, .inr (0, [.ref b12, .int 0]))]) := by
  refine ax_Mv.of (by decide +kernel) (Nat.le_of_ble_eq_true rfl) ?_
  intro p e s m args below meth c C hnm
  refine ax_ls ([(0, .ref a0)]) [0] rfl ?_
  refine ax_aload_n (pc := 0) C d_For_clear_0 rfl 0 rfl ?_
  refine ax_get (pc := 1) C k_For 0 lk_For_14 d_For_clear_1 (Nat.le_of_ble_eq_true rfl) 0 rfl rfl ?_
  refine ax_iconst (pc := 4) C 0 d_For_clear_4 (by decide +kernel) ?_
  refine ax_put (pc := 5) C k_Row 1 lk_For_59 d_For_clear_5 (Nat.le_of_ble_eq_true rfl) 1 rfl rfl rfl rfl (Nat.le_of_ble_eq_true rfl) ?_
  refine ax_w ([(a0, .inr (2, [.ref a1, .ref b0, .int 0, .int 0, .ref b1, .ref a2, .ref a3, .ref b2, .ref b3, .ref b4, .ref b5, .ref b6, .ref b7, .ref b8, .int 0, .ref b9])), (a1, .inr (0, [.ref b10, .int 0])), (a2, .inr (0, [.ref b11, .int 0])), (a3, .inr (0, [.ref b12, .int 0]))]) rfl ?_
  refine ax_aload_n (pc := 8) C d_For_clear_8 rfl 0 rfl ?_
  refine ax_get (pc := 9) C k_For 5 lk_For_24 d_For_clear_9 (Nat.le_of_ble_eq_true rfl) 0 rfl rfl ?_
  refine ax_iconst (pc := 12) C 0 d_For_clear_12 (by decide +kernel) ?_
  refine ax_put (pc := 13) C k_Row 1 lk_For_59 d_For_clear_13 (Nat.le_of_ble_eq_true rfl) 2 rfl rfl rfl rfl (Nat.le_of_ble_eq_true rfl) ?_
  refine ax_w ([(a0, .inr (2, [.ref a1, .ref b0, .int 0, .int 0, .ref b1, .ref a2, .ref a3, .ref b2, .ref b3, .ref b4, .ref b5, .ref b6, .ref b7, .ref b8, .int 0, .ref b9])), (a1, .inr (0, [.ref b10, .int 0])), (a2, .inr (0, [.ref b11, .int 0])), (a3, .inr (0, [.ref b12, .int 0]))]) rfl ?_
  refine ax_aload_n (pc := 16) C d_For_clear_16 rfl 0 rfl ?_
  refine ax_get (pc := 17) C k_For 6 lk_For_27 d_For_clear_17 (Nat.le_of_ble_eq_true rfl) 0 rfl rfl ?_
  refine ax_iconst (pc := 20) C 0 d_For_clear_20 (by decide +kernel) ?_
  refine ax_put (pc := 21) C k_Row 1 lk_For_59 d_For_clear_21 (Nat.le_of_ble_eq_true rfl) 3 rfl rfl rfl rfl (Nat.le_of_ble_eq_true rfl) ?_
  refine ax_w ([(a0, .inr (2, [.ref a1, .ref b0, .int 0, .int 0, .ref b1, .ref a2, .ref a3, .ref b2, .ref b3, .ref b4, .ref b5, .ref b6, .ref b7, .ref b8, .int 0, .ref b9])), (a1, .inr (0, [.ref b10, .int 0])), (a2, .inr (0, [.ref b11, .int 0])), (a3, .inr (0, [.ref b12, .int 0]))]) rfl ?_
  refine ax_aload_n (pc := 24) C d_For_clear_24 rfl 0 rfl ?_
  refine ax_iconst (pc := 25) C 0 d_For_clear_25 (by decide +kernel) ?_
  refine ax_put (pc := 26) C k_For 2 lk_For_63 d_For_clear_26 (Nat.le_of_ble_eq_true rfl) 0 rfl rfl rfl rfl (Nat.le_of_ble_eq_true rfl) ?_
  refine ax_w ([(a0, .inr (2, [.ref a1, .ref b0, .int 0, .int 0, .ref b1, .ref a2, .ref a3, .ref b2, .ref b3, .ref b4, .ref b5, .ref b6, .ref b7, .ref b8, .int 0, .ref b9])), (a1, .inr (0, [.ref b10, .int 0])), (a2, .inr (0, [.ref b11, .int 0])), (a3, .inr (0, [.ref b12, .int 0]))]) rfl ?_
  refine ax_aload_n (pc := 29) C d_For_clear_29 rfl 0 rfl ?_
  refine ax_iconst (pc := 30) C 0 d_For_clear_30 (by decide +kernel) ?_
  refine ax_put (pc := 31) C k_For 14 lk_For_66 d_For_clear_31 (Nat.le_of_ble_eq_true rfl) 0 rfl rfl rfl rfl (Nat.le_of_ble_eq_true rfl) ?_
  refine ax_w ([(a0, .inr (2, [.ref a1, .ref b0, .int 0, .int 0, .ref b1, .ref a2, .ref a3, .ref b2, .ref b3, .ref b4, .ref b5, .ref b6, .ref b7, .ref b8, .int 0, .ref b9])), (a1, .inr (0, [.ref b10, .int 0])), (a2, .inr (0, [.ref b11, .int 0])), (a3, .inr (0, [.ref b12, .int 0]))]) rfl ?_
  refine ax_aload_n (pc := 34) C d_For_clear_34 rfl 0 rfl ?_
  refine ax_iconst (pc := 35) C (-1) d_For_clear_35 (by decide +kernel) ?_
  refine ax_put (pc := 36) C k_For 3 lk_For_69 d_For_clear_36 (Nat.le_of_ble_eq_true rfl) 0 rfl rfl rfl rfl (Nat.le_of_ble_eq_true rfl) ?_
  refine ax_w ([(a0, .inr (2, [.ref a1, .ref b0, .int 0, .int (-1), .ref b1, .ref a2, .ref a3, .ref b2, .ref b3, .ref b4, .ref b5, .ref b6, .ref b7, .ref b8, .int 0, .ref b9])), (a1, .inr (0, [.ref b10, .int 0])), (a2, .inr (0, [.ref b11, .int 0])), (a3, .inr (0, [.ref b12, .int 0]))]) rfl ?_
  exact ax_vret (pc := 39) C d_For_clear_39 rfl (by decide) (by decide)
abbrev b_Wds_open : ByteArray := prog_12_method_2_code
def y_Wds_open : MethodName := ⟨"ClauseProver$Words", "open", "([II)V"⟩
theorem d_Wds_open_0 : decode b_Wds_open 0 = .ok (.aload_n 0, 1) := by decide +kernel
theorem d_Wds_open_1 : decode b_Wds_open 1 = .ok (.aload_n 1, 1) := by decide +kernel
theorem d_Wds_open_2 : decode b_Wds_open 2 = .ok (.putfield 9, 3) := by decide +kernel
theorem d_Wds_open_5 : decode b_Wds_open 5 = .ok (.aload_n 0, 1) := by decide +kernel
theorem d_Wds_open_6 : decode b_Wds_open 6 = .ok (.iload_n 2, 1) := by decide +kernel
theorem d_Wds_open_7 : decode b_Wds_open 7 = .ok (.putfield 15, 3) := by decide +kernel
theorem d_Wds_open_10 : decode b_Wds_open 10 = .ok (.aload_n 0, 1) := by decide +kernel
theorem d_Wds_open_11 : decode b_Wds_open 11 = .ok (.iconst 0, 1) := by decide +kernel
theorem d_Wds_open_12 : decode b_Wds_open 12 = .ok (.putfield 19, 3) := by decide +kernel
theorem d_Wds_open_15 : decode b_Wds_open 15 = .ok (.aload_n 0, 1) := by decide +kernel
theorem d_Wds_open_16 : decode b_Wds_open 16 = .ok (.iconst 0, 1) := by decide +kernel
theorem d_Wds_open_17 : decode b_Wds_open 17 = .ok (.putfield 22, 3) := by decide +kernel
theorem d_Wds_open_20 : decode b_Wds_open 20 = .ok (.aload_n 0, 1) := by decide +kernel
theorem d_Wds_open_21 : decode b_Wds_open 21 = .ok (.invokevirtual 25, 3) := by decide +kernel
theorem d_Wds_open_24 : decode b_Wds_open 24 = .ok (.return_, 1) := by decide +kernel
abbrev b_Wds_advance : ByteArray := prog_12_method_5_code
def y_Wds_advance : MethodName := ⟨"ClauseProver$Words", "advance", "()V"⟩
theorem d_Wds_advance_0 : decode b_Wds_advance 0 = .ok (.aload_n 0, 1) := by decide +kernel
theorem d_Wds_advance_1 : decode b_Wds_advance 1 = .ok (.invokevirtual 45, 3) := by decide +kernel
theorem d_Wds_advance_4 : decode b_Wds_advance 4 = .ok (.aload_n 0, 1) := by decide +kernel
theorem d_Wds_advance_5 : decode b_Wds_advance 5 = .ok (.aload_n 0, 1) := by decide +kernel
theorem d_Wds_advance_6 : decode b_Wds_advance 6 = .ok (.getfield 19, 3) := by decide +kernel
theorem d_Wds_advance_9 : decode b_Wds_advance 9 = .ok (.putfield 42, 3) := by decide +kernel
theorem d_Wds_advance_12 : decode b_Wds_advance 12 = .ok (.aload_n 0, 1) := by decide +kernel
theorem d_Wds_advance_13 : decode b_Wds_advance 13 = .ok (.iconst 0, 1) := by decide +kernel
theorem d_Wds_advance_14 : decode b_Wds_advance 14 = .ok (.putfield 39, 3) := by decide +kernel
theorem d_Wds_advance_17 : decode b_Wds_advance 17 = .ok (.aload_n 0, 1) := by decide +kernel
theorem d_Wds_advance_18 : decode b_Wds_advance 18 = .ok (.iconst 0, 1) := by decide +kernel
theorem d_Wds_advance_19 : decode b_Wds_advance 19 = .ok (.putfield 31, 3) := by decide +kernel
theorem d_Wds_advance_22 : decode b_Wds_advance 22 = .ok (.aload_n 0, 1) := by decide +kernel
theorem d_Wds_advance_23 : decode b_Wds_advance 23 = .ok (.iconst 0, 1) := by decide +kernel
theorem d_Wds_advance_24 : decode b_Wds_advance 24 = .ok (.putfield 28, 3) := by decide +kernel
theorem d_Wds_advance_27 : decode b_Wds_advance 27 = .ok (.aload_n 0, 1) := by decide +kernel
theorem d_Wds_advance_28 : decode b_Wds_advance 28 = .ok (.getfield 19, 3) := by decide +kernel
theorem d_Wds_advance_31 : decode b_Wds_advance 31 = .ok (.aload_n 0, 1) := by decide +kernel
theorem d_Wds_advance_32 : decode b_Wds_advance 32 = .ok (.getfield 15, 3) := by decide +kernel
theorem d_Wds_advance_35 : decode b_Wds_advance 35 = .ok (.if_icmp .lt 4, 3) := by decide +kernel
theorem d_Wds_advance_38 : decode b_Wds_advance 38 = .ok (.return_, 1) := by decide +kernel
theorem d_Wds_advance_39 : decode b_Wds_advance 39 = .ok (.aload_n 0, 1) := by decide +kernel
theorem d_Wds_advance_40 : decode b_Wds_advance 40 = .ok (.dup, 1) := by decide +kernel
theorem d_Wds_advance_41 : decode b_Wds_advance 41 = .ok (.getfield 22, 3) := by decide +kernel
theorem d_Wds_advance_44 : decode b_Wds_advance 44 = .ok (.iconst 1, 1) := by decide +kernel
theorem d_Wds_advance_45 : decode b_Wds_advance 45 = .ok (.iadd, 1) := by decide +kernel
theorem d_Wds_advance_46 : decode b_Wds_advance 46 = .ok (.putfield 22, 3) := by decide +kernel
theorem d_Wds_advance_49 : decode b_Wds_advance 49 = .ok (.aload_n 0, 1) := by decide +kernel
theorem d_Wds_advance_50 : decode b_Wds_advance 50 = .ok (.aload_n 0, 1) := by decide +kernel
theorem d_Wds_advance_51 : decode b_Wds_advance 51 = .ok (.getfield 22, 3) := by decide +kernel
theorem d_Wds_advance_54 : decode b_Wds_advance 54 = .ok (.sipush 20000, 3) := by decide +kernel
theorem d_Wds_advance_57 : decode b_Wds_advance 57 = .ok (.if_icmp .le 7, 3) := by decide +kernel
theorem d_Wds_advance_60 : decode b_Wds_advance 60 = .ok (.iconst 1, 1) := by decide +kernel
theorem d_Wds_advance_61 : decode b_Wds_advance 61 = .ok (.goto 4, 3) := by decide +kernel
theorem d_Wds_advance_64 : decode b_Wds_advance 64 = .ok (.iconst 0, 1) := by decide +kernel
theorem d_Wds_advance_65 : decode b_Wds_advance 65 = .ok (.putfield 31, 3) := by decide +kernel
theorem d_Wds_advance_68 : decode b_Wds_advance 68 = .ok (.aload_n 0, 1) := by decide +kernel
theorem d_Wds_advance_69 : decode b_Wds_advance 69 = .ok (.getfield 9, 3) := by decide +kernel
theorem d_Wds_advance_72 : decode b_Wds_advance 72 = .ok (.aload_n 0, 1) := by decide +kernel
theorem d_Wds_advance_73 : decode b_Wds_advance 73 = .ok (.getfield 19, 3) := by decide +kernel
theorem d_Wds_advance_76 : decode b_Wds_advance 76 = .ok (.iaload, 1) := by decide +kernel
theorem d_Wds_advance_77 : decode b_Wds_advance 77 = .ok (.bipush 32, 2) := by decide +kernel
theorem d_Wds_advance_79 : decode b_Wds_advance 79 = .ok (.ior, 1) := by decide +kernel
theorem d_Wds_advance_80 : decode b_Wds_advance 80 = .ok (.bipush 97, 2) := by decide +kernel
theorem d_Wds_advance_82 : decode b_Wds_advance 82 = .ok (.if_icmp .lt 27, 3) := by decide +kernel
theorem d_Wds_advance_85 : decode b_Wds_advance 85 = .ok (.aload_n 0, 1) := by decide +kernel
theorem d_Wds_advance_86 : decode b_Wds_advance 86 = .ok (.getfield 9, 3) := by decide +kernel
theorem d_Wds_advance_89 : decode b_Wds_advance 89 = .ok (.aload_n 0, 1) := by decide +kernel
theorem d_Wds_advance_90 : decode b_Wds_advance 90 = .ok (.getfield 19, 3) := by decide +kernel
theorem d_Wds_advance_93 : decode b_Wds_advance 93 = .ok (.iaload, 1) := by decide +kernel
theorem d_Wds_advance_94 : decode b_Wds_advance 94 = .ok (.bipush 32, 2) := by decide +kernel
theorem d_Wds_advance_96 : decode b_Wds_advance 96 = .ok (.ior, 1) := by decide +kernel
theorem d_Wds_advance_97 : decode b_Wds_advance 97 = .ok (.bipush 122, 2) := by decide +kernel
theorem d_Wds_advance_99 : decode b_Wds_advance 99 = .ok (.if_icmp .gt 10, 3) := by decide +kernel
theorem d_Wds_advance_102 : decode b_Wds_advance 102 = .ok (.aload_n 0, 1) := by decide +kernel
theorem d_Wds_advance_103 : decode b_Wds_advance 103 = .ok (.invokevirtual 48, 3) := by decide +kernel
theorem d_Wds_advance_106 : decode b_Wds_advance 106 = .ok (.goto 63, 3) := by decide +kernel
theorem d_Wds_advance_109 : decode b_Wds_advance 109 = .ok (.aload_n 0, 1) := by decide +kernel
theorem d_Wds_advance_110 : decode b_Wds_advance 110 = .ok (.aload_n 0, 1) := by decide +kernel
theorem d_Wds_advance_111 : decode b_Wds_advance 111 = .ok (.getfield 19, 3) := by decide +kernel
theorem d_Wds_advance_114 : decode b_Wds_advance 114 = .ok (.iconst 1, 1) := by decide +kernel
theorem d_Wds_advance_115 : decode b_Wds_advance 115 = .ok (.iadd, 1) := by decide +kernel
theorem d_Wds_advance_116 : decode b_Wds_advance 116 = .ok (.aload_n 0, 1) := by decide +kernel
theorem d_Wds_advance_117 : decode b_Wds_advance 117 = .ok (.getfield 15, 3) := by decide +kernel
theorem d_Wds_advance_120 : decode b_Wds_advance 120 = .ok (.if_icmp .ge 17, 3) := by decide +kernel
theorem d_Wds_advance_123 : decode b_Wds_advance 123 = .ok (.aload_n 0, 1) := by decide +kernel
theorem d_Wds_advance_124 : decode b_Wds_advance 124 = .ok (.getfield 9, 3) := by decide +kernel
theorem d_Wds_advance_127 : decode b_Wds_advance 127 = .ok (.aload_n 0, 1) := by decide +kernel
theorem d_Wds_advance_128 : decode b_Wds_advance 128 = .ok (.getfield 19, 3) := by decide +kernel
theorem d_Wds_advance_131 : decode b_Wds_advance 131 = .ok (.iconst 1, 1) := by decide +kernel
theorem d_Wds_advance_132 : decode b_Wds_advance 132 = .ok (.iadd, 1) := by decide +kernel
theorem d_Wds_advance_133 : decode b_Wds_advance 133 = .ok (.iaload, 1) := by decide +kernel
theorem d_Wds_advance_134 : decode b_Wds_advance 134 = .ok (.goto 4, 3) := by decide +kernel
theorem d_Wds_advance_137 : decode b_Wds_advance 137 = .ok (.iconst (-1), 1) := by decide +kernel
theorem d_Wds_advance_138 : decode b_Wds_advance 138 = .ok (.aload_n 0, 1) := by decide +kernel
theorem d_Wds_advance_139 : decode b_Wds_advance 139 = .ok (.getfield 19, 3) := by decide +kernel
theorem d_Wds_advance_142 : decode b_Wds_advance 142 = .ok (.iconst 2, 1) := by decide +kernel
theorem d_Wds_advance_143 : decode b_Wds_advance 143 = .ok (.iadd, 1) := by decide +kernel
theorem d_Wds_advance_144 : decode b_Wds_advance 144 = .ok (.aload_n 0, 1) := by decide +kernel
theorem d_Wds_advance_145 : decode b_Wds_advance 145 = .ok (.getfield 15, 3) := by decide +kernel
theorem d_Wds_advance_148 : decode b_Wds_advance 148 = .ok (.if_icmp .ge 17, 3) := by decide +kernel
theorem d_Wds_advance_151 : decode b_Wds_advance 151 = .ok (.aload_n 0, 1) := by decide +kernel
theorem d_Wds_advance_152 : decode b_Wds_advance 152 = .ok (.getfield 9, 3) := by decide +kernel
theorem d_Wds_advance_155 : decode b_Wds_advance 155 = .ok (.aload_n 0, 1) := by decide +kernel
theorem d_Wds_advance_156 : decode b_Wds_advance 156 = .ok (.getfield 19, 3) := by decide +kernel
theorem d_Wds_advance_159 : decode b_Wds_advance 159 = .ok (.iconst 2, 1) := by decide +kernel
theorem d_Wds_advance_160 : decode b_Wds_advance 160 = .ok (.iadd, 1) := by decide +kernel
theorem d_Wds_advance_161 : decode b_Wds_advance 161 = .ok (.iaload, 1) := by decide +kernel
theorem d_Wds_advance_162 : decode b_Wds_advance 162 = .ok (.goto 4, 3) := by decide +kernel
theorem d_Wds_advance_165 : decode b_Wds_advance 165 = .ok (.iconst (-1), 1) := by decide +kernel
theorem d_Wds_advance_166 : decode b_Wds_advance 166 = .ok (.invokevirtual 51, 3) := by decide +kernel
theorem d_Wds_advance_169 : decode b_Wds_advance 169 = .ok (.aload_n 0, 1) := by decide +kernel
theorem d_Wds_advance_170 : decode b_Wds_advance 170 = .ok (.dup, 1) := by decide +kernel
theorem d_Wds_advance_171 : decode b_Wds_advance 171 = .ok (.getfield 19, 3) := by decide +kernel
theorem d_Wds_advance_174 : decode b_Wds_advance 174 = .ok (.aload_n 0, 1) := by decide +kernel
theorem d_Wds_advance_175 : decode b_Wds_advance 175 = .ok (.getfield 39, 3) := by decide +kernel
theorem d_Wds_advance_178 : decode b_Wds_advance 178 = .ok (.iadd, 1) := by decide +kernel
theorem d_Wds_advance_179 : decode b_Wds_advance 179 = .ok (.putfield 19, 3) := by decide +kernel
theorem d_Wds_advance_182 : decode b_Wds_advance 182 = .ok (.return_, 1) := by decide +kernel
abbrev b_Wds_skipBlanks : ByteArray := prog_12_method_6_code
def y_Wds_skipBlanks : MethodName := ⟨"ClauseProver$Words", "skipBlanks", "()V"⟩
theorem d_Wds_skipBlanks_0 : decode b_Wds_skipBlanks 0 = .ok (.iconst 0, 1) := by decide +kernel
theorem d_Wds_skipBlanks_1 : decode b_Wds_skipBlanks 1 = .ok (.istore_n 1, 1) := by decide +kernel
theorem d_Wds_skipBlanks_2 : decode b_Wds_skipBlanks 2 = .ok (.aload_n 0, 1) := by decide +kernel
theorem d_Wds_skipBlanks_3 : decode b_Wds_skipBlanks 3 = .ok (.getfield 19, 3) := by decide +kernel
theorem d_Wds_skipBlanks_6 : decode b_Wds_skipBlanks 6 = .ok (.aload_n 0, 1) := by decide +kernel
theorem d_Wds_skipBlanks_7 : decode b_Wds_skipBlanks 7 = .ok (.getfield 15, 3) := by decide +kernel
theorem d_Wds_skipBlanks_10 : decode b_Wds_skipBlanks 10 = .ok (.if_icmp .ge 71, 3) := by decide +kernel
theorem d_Wds_skipBlanks_13 : decode b_Wds_skipBlanks 13 = .ok (.aload_n 0, 1) := by decide +kernel
theorem d_Wds_skipBlanks_14 : decode b_Wds_skipBlanks 14 = .ok (.getfield 9, 3) := by decide +kernel
theorem d_Wds_skipBlanks_17 : decode b_Wds_skipBlanks 17 = .ok (.aload_n 0, 1) := by decide +kernel
theorem d_Wds_skipBlanks_18 : decode b_Wds_skipBlanks 18 = .ok (.getfield 19, 3) := by decide +kernel
theorem d_Wds_skipBlanks_21 : decode b_Wds_skipBlanks 21 = .ok (.iaload, 1) := by decide +kernel
theorem d_Wds_skipBlanks_22 : decode b_Wds_skipBlanks 22 = .ok (.istore_n 2, 1) := by decide +kernel
theorem d_Wds_skipBlanks_23 : decode b_Wds_skipBlanks 23 = .ok (.iload_n 2, 1) := by decide +kernel
theorem d_Wds_skipBlanks_24 : decode b_Wds_skipBlanks 24 = .ok (.bipush 10, 2) := by decide +kernel
theorem d_Wds_skipBlanks_26 : decode b_Wds_skipBlanks 26 = .ok (.if_icmp .ne 8, 3) := by decide +kernel
theorem d_Wds_skipBlanks_29 : decode b_Wds_skipBlanks 29 = .ok (.iconst 0, 1) := by decide +kernel
theorem d_Wds_skipBlanks_30 : decode b_Wds_skipBlanks 30 = .ok (.istore_n 1, 1) := by decide +kernel
theorem d_Wds_skipBlanks_31 : decode b_Wds_skipBlanks 31 = .ok (.goto 37, 3) := by decide +kernel
theorem d_Wds_skipBlanks_34 : decode b_Wds_skipBlanks 34 = .ok (.iload_n 2, 1) := by decide +kernel
theorem d_Wds_skipBlanks_35 : decode b_Wds_skipBlanks 35 = .ok (.bipush 37, 2) := by decide +kernel
theorem d_Wds_skipBlanks_37 : decode b_Wds_skipBlanks 37 = .ok (.if_icmp .ne 8, 3) := by decide +kernel
theorem d_Wds_skipBlanks_40 : decode b_Wds_skipBlanks 40 = .ok (.iconst 1, 1) := by decide +kernel
theorem d_Wds_skipBlanks_41 : decode b_Wds_skipBlanks 41 = .ok (.istore_n 1, 1) := by decide +kernel
theorem d_Wds_skipBlanks_42 : decode b_Wds_skipBlanks 42 = .ok (.goto 26, 3) := by decide +kernel
theorem d_Wds_skipBlanks_45 : decode b_Wds_skipBlanks 45 = .ok (.iload_n 1, 1) := by decide +kernel
theorem d_Wds_skipBlanks_46 : decode b_Wds_skipBlanks 46 = .ok (.ifCond .ne 22, 3) := by decide +kernel
theorem d_Wds_skipBlanks_49 : decode b_Wds_skipBlanks 49 = .ok (.iload_n 2, 1) := by decide +kernel
theorem d_Wds_skipBlanks_50 : decode b_Wds_skipBlanks 50 = .ok (.bipush 32, 2) := by decide +kernel
theorem d_Wds_skipBlanks_52 : decode b_Wds_skipBlanks 52 = .ok (.if_icmp .eq 16, 3) := by decide +kernel
theorem d_Wds_skipBlanks_55 : decode b_Wds_skipBlanks 55 = .ok (.iload_n 2, 1) := by decide +kernel
theorem d_Wds_skipBlanks_56 : decode b_Wds_skipBlanks 56 = .ok (.bipush 9, 2) := by decide +kernel
theorem d_Wds_skipBlanks_58 : decode b_Wds_skipBlanks 58 = .ok (.if_icmp .eq 10, 3) := by decide +kernel
theorem d_Wds_skipBlanks_61 : decode b_Wds_skipBlanks 61 = .ok (.iload_n 2, 1) := by decide +kernel
theorem d_Wds_skipBlanks_62 : decode b_Wds_skipBlanks 62 = .ok (.bipush 13, 2) := by decide +kernel
theorem d_Wds_skipBlanks_64 : decode b_Wds_skipBlanks 64 = .ok (.if_icmp .eq 4, 3) := by decide +kernel
theorem d_Wds_skipBlanks_67 : decode b_Wds_skipBlanks 67 = .ok (.return_, 1) := by decide +kernel
theorem d_Wds_skipBlanks_68 : decode b_Wds_skipBlanks 68 = .ok (.aload_n 0, 1) := by decide +kernel
theorem d_Wds_skipBlanks_69 : decode b_Wds_skipBlanks 69 = .ok (.dup, 1) := by decide +kernel
theorem d_Wds_skipBlanks_70 : decode b_Wds_skipBlanks 70 = .ok (.getfield 19, 3) := by decide +kernel
theorem d_Wds_skipBlanks_73 : decode b_Wds_skipBlanks 73 = .ok (.iconst 1, 1) := by decide +kernel
theorem d_Wds_skipBlanks_74 : decode b_Wds_skipBlanks 74 = .ok (.iadd, 1) := by decide +kernel
theorem d_Wds_skipBlanks_75 : decode b_Wds_skipBlanks 75 = .ok (.putfield 19, 3) := by decide +kernel
theorem d_Wds_skipBlanks_78 : decode b_Wds_skipBlanks 78 = .ok (.goto (-76), 3) := by decide +kernel
theorem d_Wds_skipBlanks_81 : decode b_Wds_skipBlanks 81 = .ok (.return_, 1) := by decide +kernel
theorem tc_For_clear : Cond.code y_For_clear b_For_clear 1 none ∈ lw_tbg := tb_in (i := 559) (by decide +kernel) rfl
theorem ml_Par_48 : ax_LV "ClauseProver$Parser" 48 y_For_clear b_For_clear 1 none 0 := ax_LV.mk (tb_in (i := 556) (by decide +kernel) rfl) (tb_in (i := 557) (by decide +kernel) rfl) (tb_in (i := 558) (by decide +kernel) rfl) ti_For tc_For_clear (by decide +kernel)
set_option maxHeartbeats 4000000 in
set_option maxRecDepth 100000 in
theorem m51_Wds_skipBlanks (l : Launch) (D : va_G) (kA : Nat → ClassId) (a0 : Nat) (b0 : Nat) : ax_Mv l D kA y_Wds_skipBlanks b_Wds_skipBlanks 3 0 0 0 0 [.ref a0] [(a0, .inr (3, [.ref b0, .int 0, .int 0, .int 0, .int 0, .int 0, .int 0, .int 0]))] (fun w1 => w1 = [(a0, .inr (3, [.ref b0, .int 0, .int 0, .int 0, .int 0, .int 0, .int 0, .int 0]))]) := by
  refine ax_Mv.of (by decide +kernel) (Nat.le_of_ble_eq_true rfl) ?_
  intro p e s m args below meth c C hnm
  refine ax_ls ([(0, .ref a0)]) [0] rfl ?_
  refine ax_iconst (pc := 0) C 0 d_Wds_skipBlanks_0 (by decide +kernel) ?_
  refine ax_istore_n (pc := 1) C d_Wds_skipBlanks_1 rfl (Nat.le_of_ble_eq_true rfl) ([(1, .int 0), (0, .ref a0)]) rfl ?_
  refine ax_aload_n (pc := 2) C d_Wds_skipBlanks_2 rfl 1 rfl ?_
  refine ax_get (pc := 3) C k_Wds 6 lk_Wds_19 d_Wds_skipBlanks_3 (Nat.le_of_ble_eq_true rfl) 0 rfl rfl ?_
  refine ax_aload_n (pc := 6) C d_Wds_skipBlanks_6 rfl 1 rfl ?_
  refine ax_get (pc := 7) C k_Wds 1 lk_Wds_15 d_Wds_skipBlanks_7 (Nat.le_of_ble_eq_true rfl) 0 rfl rfl ?_
  refine ax_icmp_ge (pc := 10) C 81 d_Wds_skipBlanks_10 (by decide) (fun _ => ?_) (fun h => absurd h (by decide))
  exact ax_vret (pc := 81) C d_Wds_skipBlanks_81 rfl (by decide) (by decide)
theorem tc_Wds_skipBlanks : Cond.code y_Wds_skipBlanks b_Wds_skipBlanks 3 none ∈ lw_tbg := tb_in (i := 571) (by decide +kernel) rfl
theorem ml_Wds_45 : ax_LV "ClauseProver$Words" 45 y_Wds_skipBlanks b_Wds_skipBlanks 3 none 0 := ax_LV.mk (tb_in (i := 568) (by decide +kernel) rfl) (tb_in (i := 570) (by decide +kernel) rfl) (pv_in (i := 0) (by decide +kernel) rfl) ti_Wds tc_Wds_skipBlanks (by decide +kernel)
set_option maxHeartbeats 4000000 in
set_option maxRecDepth 100000 in
theorem m50_Wds_advance (l : Launch) (D : va_G) (kA : Nat → ClassId) (a0 : Nat) (b0 : Nat) : ax_Mv l D kA y_Wds_advance b_Wds_advance 1 1 22 0 0 [.ref a0] [(a0, .inr (3, [.ref b0, .int 0, .int 0, .int 0, .int 0, .int 0, .int 0, .int 0]))] (fun w1 => w1 = [(a0, .inr (3, [.ref b0, .int 0, .int 0, .int 0, .int 0, .int 0, .int 0, .int 0]))]) := by
  refine ax_Mv.of (by decide +kernel) (Nat.le_of_ble_eq_true rfl) ?_
  intro p e s m args below meth c C hnm
  refine ax_ls ([(0, .ref a0)]) [0] rfl ?_
  refine ax_aload_n (pc := 0) C d_Wds_advance_0 rfl 0 rfl ?_
  refine ax_callVv (pc := 1) C (As := []) (rest := []) (wr := []) (m51_Wds_skipBlanks l D kA a0 b0) ml_Wds_45 0 rfl rfl rfl d_Wds_advance_1 rfl rfl [0] [] rfl (by decide) rfl (by decide) (by decide) (Nat.le_of_ble_eq_true rfl) (Nat.le_of_ble_eq_true rfl) (Nat.le_of_ble_eq_true rfl) (Nat.le_of_ble_eq_true rfl) (Nat.le_of_ble_eq_true rfl) (fun w1 hw1 => ?_)
  obtain rfl := hw1
  refine ax_w ([(a0, .inr (3, [.ref b0, .int 0, .int 0, .int 0, .int 0, .int 0, .int 0, .int 0]))]) rfl ?_
  refine ax_aload_n (pc := 4) C d_Wds_advance_4 rfl 0 rfl ?_
  refine ax_aload_n (pc := 5) C d_Wds_advance_5 rfl 0 rfl ?_
  refine ax_get (pc := 6) C k_Wds 6 lk_Wds_19 d_Wds_advance_6 (Nat.le_of_ble_eq_true rfl) 0 rfl rfl ?_
  refine ax_put (pc := 9) C k_Wds 3 lk_Wds_42 d_Wds_advance_9 (Nat.le_of_ble_eq_true rfl) 0 rfl rfl rfl rfl (Nat.le_of_ble_eq_true rfl) ?_
  refine ax_w ([(a0, .inr (3, [.ref b0, .int 0, .int 0, .int 0, .int 0, .int 0, .int 0, .int 0]))]) rfl ?_
  refine ax_aload_n (pc := 12) C d_Wds_advance_12 rfl 0 rfl ?_
  refine ax_iconst (pc := 13) C 0 d_Wds_advance_13 (by decide +kernel) ?_
  refine ax_put (pc := 14) C k_Wds 4 lk_Wds_39 d_Wds_advance_14 (Nat.le_of_ble_eq_true rfl) 0 rfl rfl rfl rfl (Nat.le_of_ble_eq_true rfl) ?_
  refine ax_w ([(a0, .inr (3, [.ref b0, .int 0, .int 0, .int 0, .int 0, .int 0, .int 0, .int 0]))]) rfl ?_
  refine ax_aload_n (pc := 17) C d_Wds_advance_17 rfl 0 rfl ?_
  refine ax_iconst (pc := 18) C 0 d_Wds_advance_18 (by decide +kernel) ?_
  refine ax_put (pc := 19) C k_Wds 5 lk_Wds_31 d_Wds_advance_19 (Nat.le_of_ble_eq_true rfl) 0 rfl rfl rfl rfl (Nat.le_of_ble_eq_true rfl) ?_
  refine ax_w ([(a0, .inr (3, [.ref b0, .int 0, .int 0, .int 0, .int 0, .int 0, .int 0, .int 0]))]) rfl ?_
  refine ax_aload_n (pc := 22) C d_Wds_advance_22 rfl 0 rfl ?_
  refine ax_iconst (pc := 23) C 0 d_Wds_advance_23 (by decide +kernel) ?_
  refine ax_put (pc := 24) C k_Wds 2 lk_Wds_28 d_Wds_advance_24 (Nat.le_of_ble_eq_true rfl) 0 rfl rfl rfl rfl (Nat.le_of_ble_eq_true rfl) ?_
  refine ax_w ([(a0, .inr (3, [.ref b0, .int 0, .int 0, .int 0, .int 0, .int 0, .int 0, .int 0]))]) rfl ?_
  refine ax_aload_n (pc := 27) C d_Wds_advance_27 rfl 0 rfl ?_
  refine ax_get (pc := 28) C k_Wds 6 lk_Wds_19 d_Wds_advance_28 (Nat.le_of_ble_eq_true rfl) 0 rfl rfl ?_
  refine ax_aload_n (pc := 31) C d_Wds_advance_31 rfl 0 rfl ?_
  refine ax_get (pc := 32) C k_Wds 1 lk_Wds_15 d_Wds_advance_32 (Nat.le_of_ble_eq_true rfl) 0 rfl rfl ?_
  refine ax_icmp_lt (pc := 35) C 39 d_Wds_advance_35 (by decide) (fun h => absurd h (by decide)) (fun _ => ?_)
  exact ax_vret (pc := 38) C d_Wds_advance_38 rfl (by decide) (by decide)
theorem tc_Wds_advance : Cond.code y_Wds_advance b_Wds_advance 1 none ∈ lw_tbg := tb_in (i := 567) (by decide +kernel) rfl
theorem ml_Wds_25 : ax_LV "ClauseProver$Words" 25 y_Wds_advance b_Wds_advance 1 none 0 := ax_LV.mk (tb_in (i := 564) (by decide +kernel) rfl) (tb_in (i := 565) (by decide +kernel) rfl) (tb_in (i := 566) (by decide +kernel) rfl) ti_Wds tc_Wds_advance (by decide +kernel)
set_option maxHeartbeats 4000000 in
set_option maxRecDepth 100000 in
theorem m49_Wds_open (l : Launch) (D : va_G) (kA : Nat → ClassId) (a0 : Nat) (b0 : Nat) : ax_Mv l D kA y_Wds_open b_Wds_open 3 2 42 0 0 [.ref a0, .ref b0, .int 0] [(a0, .inr (3, [.null, .int 0, .int 0, .int 0, .int 0, .int 0, .int 0, .int 0]))] (fun w1 => w1 = [(a0, .inr (3, [.ref b0, .int 0, .int 0, .int 0, .int 0, .int 0, .int 0, .int 0]))]) := by
  refine ax_Mv.of (by decide +kernel) (Nat.le_of_ble_eq_true rfl) ?_
  intro p e s m args below meth c C hnm
  refine ax_ls ([(0, .ref a0), (1, .ref b0), (2, .int 0)]) [0, 1, 2] rfl ?_
  refine ax_aload_n (pc := 0) C d_Wds_open_0 rfl 0 rfl ?_
  refine ax_aload_n (pc := 1) C d_Wds_open_1 rfl 1 rfl ?_
  refine ax_put (pc := 2) C k_Wds 0 lk_Wds_9 d_Wds_open_2 (Nat.le_of_ble_eq_true rfl) 0 rfl rfl rfl rfl (Nat.le_of_ble_eq_true rfl) ?_
  refine ax_w ([(a0, .inr (3, [.ref b0, .int 0, .int 0, .int 0, .int 0, .int 0, .int 0, .int 0]))]) rfl ?_
  refine ax_aload_n (pc := 5) C d_Wds_open_5 rfl 0 rfl ?_
  refine ax_iload_n (pc := 6) C d_Wds_open_6 rfl 2 rfl ?_
  refine ax_put (pc := 7) C k_Wds 1 lk_Wds_15 d_Wds_open_7 (Nat.le_of_ble_eq_true rfl) 0 rfl rfl rfl rfl (Nat.le_of_ble_eq_true rfl) ?_
  refine ax_w ([(a0, .inr (3, [.ref b0, .int 0, .int 0, .int 0, .int 0, .int 0, .int 0, .int 0]))]) rfl ?_
  refine ax_aload_n (pc := 10) C d_Wds_open_10 rfl 0 rfl ?_
  refine ax_iconst (pc := 11) C 0 d_Wds_open_11 (by decide +kernel) ?_
  refine ax_put (pc := 12) C k_Wds 6 lk_Wds_19 d_Wds_open_12 (Nat.le_of_ble_eq_true rfl) 0 rfl rfl rfl rfl (Nat.le_of_ble_eq_true rfl) ?_
  refine ax_w ([(a0, .inr (3, [.ref b0, .int 0, .int 0, .int 0, .int 0, .int 0, .int 0, .int 0]))]) rfl ?_
  refine ax_aload_n (pc := 15) C d_Wds_open_15 rfl 0 rfl ?_
  refine ax_iconst (pc := 16) C 0 d_Wds_open_16 (by decide +kernel) ?_
  refine ax_put (pc := 17) C k_Wds 7 lk_Wds_22 d_Wds_open_17 (Nat.le_of_ble_eq_true rfl) 0 rfl rfl rfl rfl (Nat.le_of_ble_eq_true rfl) ?_
  refine ax_w ([(a0, .inr (3, [.ref b0, .int 0, .int 0, .int 0, .int 0, .int 0, .int 0, .int 0]))]) rfl ?_
  refine ax_aload_n (pc := 20) C d_Wds_open_20 rfl 0 rfl ?_
  refine ax_callVv (pc := 21) C (As := []) (rest := []) (wr := []) (m50_Wds_advance l D kA a0 b0) ml_Wds_25 0 rfl rfl rfl d_Wds_open_21 rfl rfl [0] [] rfl (by decide) rfl (by decide) (by decide) (Nat.le_of_ble_eq_true rfl) (Nat.le_of_ble_eq_true rfl) (Nat.le_of_ble_eq_true rfl) (Nat.le_of_ble_eq_true rfl) (Nat.le_of_ble_eq_true rfl) (fun w1 hw1 => ?_)
  obtain rfl := hw1
  refine ax_w ([(a0, .inr (3, [.ref b0, .int 0, .int 0, .int 0, .int 0, .int 0, .int 0, .int 0]))]) rfl ?_
  exact ax_vret (pc := 24) C d_Wds_open_24 rfl (by decide) (by decide)
theorem tc_Wds_open : Cond.code y_Wds_open b_Wds_open 3 none ∈ lw_tbg := tb_in (i := 563) (by decide +kernel) rfl
theorem ml_Par_53 : ax_LV "ClauseProver$Parser" 53 y_Wds_open b_Wds_open 3 none 2 := ax_LV.mk (tb_in (i := 560) (by decide +kernel) rfl) (tb_in (i := 561) (by decide +kernel) rfl) (tb_in (i := 562) (by decide +kernel) rfl) ti_Wds tc_Wds_open (by decide +kernel)
set_option maxHeartbeats 4000000 in
set_option maxRecDepth 100000 in
theorem m47_Par_parse (l : Launch) (D : va_G) (kA : Nat → ClassId) (a0 : Nat) (a1 : Nat) (a2 : Nat) (a3 : Nat) (a4 : Nat) (a5 : Nat) (b0 : Nat) (b1 : Nat) (b2 : Nat) (b3 : Nat) (b4 : Nat) (b5 : Nat) (b6 : Nat) (b7 : Nat) (b8 : Nat) (b9 : Nat) (b10 : Nat) (b11 : Nat) (b12 : Nat) (b13 : Nat) (b14 : Nat) (b15 : Nat) (b16 : Nat) : ax_Mv l D kA y_Par_parse b_Par_parse 6 3 64 0 0 [.ref a4, .ref b0, .int 0] [(a0, .inr (2, [.ref a1, .ref b1, .int 0, .int 0, .ref b2, .ref a2, .ref a3, .ref b3, .ref b4, .ref b5, .ref b6, .ref b7, .ref b8, .ref b9, .int 0, .ref b10])), (a1, .inr (0, [.ref b11, .int 0])), (a2, .inr (0, [.ref b12, .int 0])), (a3, .inr (0, [.ref b13, .int 0])), (a4, .inr (4, [.int 0, .int 0, .ref a5, .ref b2, .ref a0, .ref b14, .ref b15, .ref b16, .int 0])), (a5, .inr (3, [.null, .int 0, .int 0, .int 0, .int 0, .int 0, .int 0, .int 0]))] (fun w1 => w1 = [(a4, .inr (4, [.int 0, .int 0, .ref a5, .ref b2, .ref a0, .ref b14, .ref b15, .ref b16, .int 0])), (a0, .inr (2, [.ref a1, .ref b1, .int 0, .int (-1), .ref b2, .ref a2, .ref a3, .ref b3, .ref b4, .ref b5, .ref b6, .ref b7, .ref b8, .ref b9, .int 0, .ref b10])), (a1, .inr (0, [.ref b11, .int 0])), (a2, .inr (0, [.ref b12, .int 0])), (a3, .inr (0, [.ref b13, .int 0])), (a5, .inr (3, [.ref b0, .int 0, .int 0, .int 0, .int 0, .int 0, .int 0, .int 0]))]) := by
  refine ax_Mv.of (by decide +kernel) (Nat.le_of_ble_eq_true rfl) ?_
  intro p e s m args below meth c C hnm
  refine ax_ls ([(0, .ref a4), (1, .ref b0), (2, .int 0)]) [0, 1, 2] rfl ?_
  refine ax_aload_n (pc := 0) C d_Par_parse_0 rfl 0 rfl ?_
  refine ax_iconst (pc := 1) C 0 d_Par_parse_1 (by decide +kernel) ?_
  refine ax_put (pc := 2) C k_Par 0 lk_Par_41 d_Par_parse_2 (Nat.le_of_ble_eq_true rfl) 4 rfl rfl rfl rfl (Nat.le_of_ble_eq_true rfl) ?_
  refine ax_w ([(a0, .inr (2, [.ref a1, .ref b1, .int 0, .int 0, .ref b2, .ref a2, .ref a3, .ref b3, .ref b4, .ref b5, .ref b6, .ref b7, .ref b8, .ref b9, .int 0, .ref b10])), (a1, .inr (0, [.ref b11, .int 0])), (a2, .inr (0, [.ref b12, .int 0])), (a3, .inr (0, [.ref b13, .int 0])), (a4, .inr (4, [.int 0, .int 0, .ref a5, .ref b2, .ref a0, .ref b14, .ref b15, .ref b16, .int 0])), (a5, .inr (3, [.null, .int 0, .int 0, .int 0, .int 0, .int 0, .int 0, .int 0]))]) rfl ?_
  refine ax_aload_n (pc := 5) C d_Par_parse_5 rfl 0 rfl ?_
  refine ax_iconst (pc := 6) C 0 d_Par_parse_6 (by decide +kernel) ?_
  refine ax_put (pc := 7) C k_Par 1 lk_Par_45 d_Par_parse_7 (Nat.le_of_ble_eq_true rfl) 4 rfl rfl rfl rfl (Nat.le_of_ble_eq_true rfl) ?_
  refine ax_w ([(a0, .inr (2, [.ref a1, .ref b1, .int 0, .int 0, .ref b2, .ref a2, .ref a3, .ref b3, .ref b4, .ref b5, .ref b6, .ref b7, .ref b8, .ref b9, .int 0, .ref b10])), (a1, .inr (0, [.ref b11, .int 0])), (a2, .inr (0, [.ref b12, .int 0])), (a3, .inr (0, [.ref b13, .int 0])), (a4, .inr (4, [.int 0, .int 0, .ref a5, .ref b2, .ref a0, .ref b14, .ref b15, .ref b16, .int 0])), (a5, .inr (3, [.null, .int 0, .int 0, .int 0, .int 0, .int 0, .int 0, .int 0]))]) rfl ?_
  refine ax_aload_n (pc := 10) C d_Par_parse_10 rfl 0 rfl ?_
  refine ax_get (pc := 11) C k_Par 4 lk_Par_37 d_Par_parse_11 (Nat.le_of_ble_eq_true rfl) 4 rfl rfl ?_
  refine ax_callVv (pc := 14) C (As := []) (rest := []) (wr := [(a4, .inr (4, [.int 0, .int 0, .ref a5, .ref b2, .ref a0, .ref b14, .ref b15, .ref b16, .int 0])), (a5, .inr (3, [.null, .int 0, .int 0, .int 0, .int 0, .int 0, .int 0, .int 0]))]) (m48_For_clear l D kA a0 a1 a2 a3 b1 b2 b3 b4 b5 b6 b7 b8 b9 b10 b11 b12 b13) ml_Par_48 0 rfl rfl rfl d_Par_parse_14 rfl rfl [0, 1, 2, 3] [4, 5] rfl (by decide) rfl (by decide) (by decide) (Nat.le_of_ble_eq_true rfl) (Nat.le_of_ble_eq_true rfl) (Nat.le_of_ble_eq_true rfl) (Nat.le_of_ble_eq_true rfl) (Nat.le_of_ble_eq_true rfl) (fun w1 hw1 => ?_)
  obtain rfl := hw1
  refine ax_w ([(a4, .inr (4, [.int 0, .int 0, .ref a5, .ref b2, .ref a0, .ref b14, .ref b15, .ref b16, .int 0])), (a5, .inr (3, [.null, .int 0, .int 0, .int 0, .int 0, .int 0, .int 0, .int 0])), (a0, .inr (2, [.ref a1, .ref b1, .int 0, .int (-1), .ref b2, .ref a2, .ref a3, .ref b3, .ref b4, .ref b5, .ref b6, .ref b7, .ref b8, .ref b9, .int 0, .ref b10])), (a1, .inr (0, [.ref b11, .int 0])), (a2, .inr (0, [.ref b12, .int 0])), (a3, .inr (0, [.ref b13, .int 0]))]) rfl ?_
  refine ax_aload_n (pc := 17) C d_Par_parse_17 rfl 0 rfl ?_
  refine ax_get (pc := 18) C k_Par 2 lk_Par_12 d_Par_parse_18 (Nat.le_of_ble_eq_true rfl) 0 rfl rfl ?_
  refine ax_aload_n (pc := 21) C d_Par_parse_21 rfl 1 rfl ?_
  refine ax_iload_n (pc := 22) C d_Par_parse_22 rfl 2 rfl ?_
  refine ax_callVv (pc := 23) C (As := [.ref b0, .int 0]) (rest := []) (wr := [(a4, .inr (4, [.int 0, .int 0, .ref a5, .ref b2, .ref a0, .ref b14, .ref b15, .ref b16, .int 0])), (a0, .inr (2, [.ref a1, .ref b1, .int 0, .int (-1), .ref b2, .ref a2, .ref a3, .ref b3, .ref b4, .ref b5, .ref b6, .ref b7, .ref b8, .ref b9, .int 0, .ref b10])), (a1, .inr (0, [.ref b11, .int 0])), (a2, .inr (0, [.ref b12, .int 0])), (a3, .inr (0, [.ref b13, .int 0]))]) (m49_Wds_open l D kA a5 b0) ml_Par_53 1 rfl rfl rfl d_Par_parse_23 rfl rfl [1] [0, 2, 3, 4, 5] rfl (by decide) rfl (by decide) (by decide) (Nat.le_of_ble_eq_true rfl) (Nat.le_of_ble_eq_true rfl) (Nat.le_of_ble_eq_true rfl) (Nat.le_of_ble_eq_true rfl) (Nat.le_of_ble_eq_true rfl) (fun w1 hw1 => ?_)
  obtain rfl := hw1
  refine ax_w ([(a4, .inr (4, [.int 0, .int 0, .ref a5, .ref b2, .ref a0, .ref b14, .ref b15, .ref b16, .int 0])), (a0, .inr (2, [.ref a1, .ref b1, .int 0, .int (-1), .ref b2, .ref a2, .ref a3, .ref b3, .ref b4, .ref b5, .ref b6, .ref b7, .ref b8, .ref b9, .int 0, .ref b10])), (a1, .inr (0, [.ref b11, .int 0])), (a2, .inr (0, [.ref b12, .int 0])), (a3, .inr (0, [.ref b13, .int 0])), (a5, .inr (3, [.ref b0, .int 0, .int 0, .int 0, .int 0, .int 0, .int 0, .int 0]))]) rfl ?_
  refine ax_iconst (pc := 26) C 0 d_Par_parse_26 (by decide +kernel) ?_
  refine ax_istore_n (pc := 27) C d_Par_parse_27 rfl (Nat.le_of_ble_eq_true rfl) ([(3, .int 0), (0, .ref a4), (1, .ref b0), (2, .int 0)]) rfl ?_
  refine ax_iload_n (pc := 28) C d_Par_parse_28 rfl 0 rfl ?_
  refine ax_ldc (pc := 29) C tb_constant_580 d_Par_parse_29 ?_
  refine ax_icmp_ge (pc := 31) C 114 d_Par_parse_31 (by decide) (fun h => absurd h (by decide)) (fun _ => ?_)
  refine ax_aload_n (pc := 34) C d_Par_parse_34 rfl 1 rfl ?_
  refine ax_get (pc := 35) C k_Par 0 lk_Par_41 d_Par_parse_35 (Nat.le_of_ble_eq_true rfl) 0 rfl rfl ?_
  refine ax_if_ne (pc := 38) C 114 d_Par_parse_38 (by decide) (fun h => absurd h (by decide)) (fun _ => ?_)
  refine ax_aload_n (pc := 41) C d_Par_parse_41 rfl 1 rfl ?_
  refine ax_get (pc := 42) C k_Par 2 lk_Par_12 d_Par_parse_42 (Nat.le_of_ble_eq_true rfl) 0 rfl rfl ?_
  refine ax_get (pc := 45) C k_Wds 2 lk_Par_58 d_Par_parse_45 (Nat.le_of_ble_eq_true rfl) 5 rfl rfl ?_
  refine ax_if_eq (pc := 48) C 114 d_Par_parse_48 (by decide) (fun _ => ?_) (fun h => absurd h (by decide))
  exact ax_vret (pc := 114) C d_Par_parse_114 rfl (by decide) (by decide)
abbrev b_For_makeWitnesses : ByteArray := prog_3_method_12_code
def y_For_makeWitnesses : MethodName := ⟨"ClauseProver$Formulas", "makeWitnesses", "()V"⟩
theorem d_For_makeWitnesses_0 : decode b_For_makeWitnesses 0 = .ok (.iconst 0, 1) := by decide +kernel
theorem d_For_makeWitnesses_1 : decode b_For_makeWitnesses 1 = .ok (.istore_n 1, 1) := by decide +kernel
theorem d_For_makeWitnesses_2 : decode b_For_makeWitnesses 2 = .ok (.iload_n 1, 1) := by decide +kernel
theorem d_For_makeWitnesses_3 : decode b_For_makeWitnesses 3 = .ok (.aload_n 0, 1) := by decide +kernel
theorem d_For_makeWitnesses_4 : decode b_For_makeWitnesses 4 = .ok (.getfield 27, 3) := by decide +kernel
theorem d_For_makeWitnesses_7 : decode b_For_makeWitnesses 7 = .ok (.getfield 59, 3) := by decide +kernel
theorem d_For_makeWitnesses_10 : decode b_For_makeWitnesses 10 = .ok (.if_icmp .ge 60, 3) := by decide +kernel
theorem d_For_makeWitnesses_13 : decode b_For_makeWitnesses 13 = .ok (.aload_n 0, 1) := by decide +kernel
theorem d_For_makeWitnesses_14 : decode b_For_makeWitnesses 14 = .ok (.getfield 27, 3) := by decide +kernel
theorem d_For_makeWitnesses_17 : decode b_For_makeWitnesses 17 = .ok (.getfield 75, 3) := by decide +kernel
theorem d_For_makeWitnesses_20 : decode b_For_makeWitnesses 20 = .ok (.iload_n 1, 1) := by decide +kernel
theorem d_For_makeWitnesses_21 : decode b_For_makeWitnesses 21 = .ok (.iconst 1, 1) := by decide +kernel
theorem d_For_makeWitnesses_22 : decode b_For_makeWitnesses 22 = .ok (.iadd, 1) := by decide +kernel
theorem d_For_makeWitnesses_23 : decode b_For_makeWitnesses 23 = .ok (.iaload, 1) := by decide +kernel
theorem d_For_makeWitnesses_24 : decode b_For_makeWitnesses 24 = .ok (.iconst 1, 1) := by decide +kernel
theorem d_For_makeWitnesses_25 : decode b_For_makeWitnesses 25 = .ok (.if_icmp .ne 7, 3) := by decide +kernel
theorem d_For_makeWitnesses_28 : decode b_For_makeWitnesses 28 = .ok (.iconst 1, 1) := by decide +kernel
theorem d_For_makeWitnesses_29 : decode b_For_makeWitnesses 29 = .ok (.goto 4, 3) := by decide +kernel
theorem d_For_makeWitnesses_32 : decode b_For_makeWitnesses 32 = .ok (.iconst 0, 1) := by decide +kernel
theorem d_For_makeWitnesses_33 : decode b_For_makeWitnesses 33 = .ok (.istore_n 2, 1) := by decide +kernel
theorem d_For_makeWitnesses_34 : decode b_For_makeWitnesses 34 = .ok (.aload_n 0, 1) := by decide +kernel
theorem d_For_makeWitnesses_35 : decode b_For_makeWitnesses 35 = .ok (.aload_n 0, 1) := by decide +kernel
theorem d_For_makeWitnesses_36 : decode b_For_makeWitnesses 36 = .ok (.getfield 27, 3) := by decide +kernel
theorem d_For_makeWitnesses_39 : decode b_For_makeWitnesses 39 = .ok (.getfield 75, 3) := by decide +kernel
theorem d_For_makeWitnesses_42 : decode b_For_makeWitnesses 42 = .ok (.iload_n 1, 1) := by decide +kernel
theorem d_For_makeWitnesses_43 : decode b_For_makeWitnesses 43 = .ok (.iconst 2, 1) := by decide +kernel
theorem d_For_makeWitnesses_44 : decode b_For_makeWitnesses 44 = .ok (.iadd, 1) := by decide +kernel
theorem d_For_makeWitnesses_45 : decode b_For_makeWitnesses 45 = .ok (.iaload, 1) := by decide +kernel
theorem d_For_makeWitnesses_46 : decode b_For_makeWitnesses 46 = .ok (.iload_n 2, 1) := by decide +kernel
theorem d_For_makeWitnesses_47 : decode b_For_makeWitnesses 47 = .ok (.ifCond .eq 7, 3) := by decide +kernel
theorem d_For_makeWitnesses_50 : decode b_For_makeWitnesses 50 = .ok (.iconst 1, 1) := by decide +kernel
theorem d_For_makeWitnesses_51 : decode b_For_makeWitnesses 51 = .ok (.goto 4, 3) := by decide +kernel
theorem d_For_makeWitnesses_54 : decode b_For_makeWitnesses 54 = .ok (.iconst 2, 1) := by decide +kernel
theorem d_For_makeWitnesses_55 : decode b_For_makeWitnesses 55 = .ok (.invokevirtual 107, 3) := by decide +kernel
theorem d_For_makeWitnesses_58 : decode b_For_makeWitnesses 58 = .ok (.aload_n 0, 1) := by decide +kernel
theorem d_For_makeWitnesses_59 : decode b_For_makeWitnesses 59 = .ok (.iload_n 1, 1) := by decide +kernel
theorem d_For_makeWitnesses_60 : decode b_For_makeWitnesses 60 = .ok (.iload_n 2, 1) := by decide +kernel
theorem d_For_makeWitnesses_61 : decode b_For_makeWitnesses 61 = .ok (.invokevirtual 111, 3) := by decide +kernel
theorem d_For_makeWitnesses_64 : decode b_For_makeWitnesses 64 = .ok (.iinc 1 5, 3) := by decide +kernel
theorem d_For_makeWitnesses_67 : decode b_For_makeWitnesses 67 = .ok (.goto (-65), 3) := by decide +kernel
theorem d_For_makeWitnesses_70 : decode b_For_makeWitnesses 70 = .ok (.aload_n 0, 1) := by decide +kernel
theorem d_For_makeWitnesses_71 : decode b_For_makeWitnesses 71 = .ok (.getfield 24, 3) := by decide +kernel
theorem d_For_makeWitnesses_74 : decode b_For_makeWitnesses 74 = .ok (.getfield 59, 3) := by decide +kernel
theorem d_For_makeWitnesses_77 : decode b_For_makeWitnesses 77 = .ok (.bipush 7, 2) := by decide +kernel
theorem d_For_makeWitnesses_79 : decode b_For_makeWitnesses 79 = .ok (.idiv, 1) := by decide +kernel
theorem d_For_makeWitnesses_80 : decode b_For_makeWitnesses 80 = .ok (.iconst 1, 1) := by decide +kernel
theorem d_For_makeWitnesses_81 : decode b_For_makeWitnesses 81 = .ok (.isub, 1) := by decide +kernel
theorem d_For_makeWitnesses_82 : decode b_For_makeWitnesses 82 = .ok (.istore_n 1, 1) := by decide +kernel
theorem d_For_makeWitnesses_83 : decode b_For_makeWitnesses 83 = .ok (.iload_n 1, 1) := by decide +kernel
theorem d_For_makeWitnesses_84 : decode b_For_makeWitnesses 84 = .ok (.ifCond .lt 21, 3) := by decide +kernel
theorem d_For_makeWitnesses_87 : decode b_For_makeWitnesses 87 = .ok (.aload_n 0, 1) := by decide +kernel
theorem d_For_makeWitnesses_88 : decode b_For_makeWitnesses 88 = .ok (.iload_n 1, 1) := by decide +kernel
theorem d_For_makeWitnesses_89 : decode b_For_makeWitnesses 89 = .ok (.aload_n 0, 1) := by decide +kernel
theorem d_For_makeWitnesses_90 : decode b_For_makeWitnesses 90 = .ok (.iload_n 1, 1) := by decide +kernel
theorem d_For_makeWitnesses_91 : decode b_For_makeWitnesses 91 = .ok (.bipush 6, 2) := by decide +kernel
theorem d_For_makeWitnesses_93 : decode b_For_makeWitnesses 93 = .ok (.invokevirtual 104, 3) := by decide +kernel
theorem d_For_makeWitnesses_96 : decode b_For_makeWitnesses 96 = .ok (.invokevirtual 115, 3) := by decide +kernel
theorem d_For_makeWitnesses_99 : decode b_For_makeWitnesses 99 = .ok (.iinc 1 (-1), 3) := by decide +kernel
theorem d_For_makeWitnesses_102 : decode b_For_makeWitnesses 102 = .ok (.goto (-19), 3) := by decide +kernel
theorem d_For_makeWitnesses_105 : decode b_For_makeWitnesses 105 = .ok (.iconst 0, 1) := by decide +kernel
theorem d_For_makeWitnesses_106 : decode b_For_makeWitnesses 106 = .ok (.istore_n 1, 1) := by decide +kernel
theorem d_For_makeWitnesses_107 : decode b_For_makeWitnesses 107 = .ok (.iload_n 1, 1) := by decide +kernel
theorem d_For_makeWitnesses_108 : decode b_For_makeWitnesses 108 = .ok (.aload_n 0, 1) := by decide +kernel
theorem d_For_makeWitnesses_109 : decode b_For_makeWitnesses 109 = .ok (.getfield 63, 3) := by decide +kernel
theorem d_For_makeWitnesses_112 : decode b_For_makeWitnesses 112 = .ok (.if_icmp .ge 40, 3) := by decide +kernel
theorem d_For_makeWitnesses_115 : decode b_For_makeWitnesses 115 = .ok (.aload_n 0, 1) := by decide +kernel
theorem d_For_makeWitnesses_116 : decode b_For_makeWitnesses 116 = .ok (.getfield 42, 3) := by decide +kernel
theorem d_For_makeWitnesses_119 : decode b_For_makeWitnesses 119 = .ok (.iload_n 1, 1) := by decide +kernel
theorem d_For_makeWitnesses_120 : decode b_For_makeWitnesses 120 = .ok (.aload_n 0, 1) := by decide +kernel
theorem d_For_makeWitnesses_121 : decode b_For_makeWitnesses 121 = .ok (.getfield 45, 3) := by decide +kernel
theorem d_For_makeWitnesses_124 : decode b_For_makeWitnesses 124 = .ok (.iload_n 1, 1) := by decide +kernel
theorem d_For_makeWitnesses_125 : decode b_For_makeWitnesses 125 = .ok (.baload, 1) := by decide +kernel
theorem d_For_makeWitnesses_126 : decode b_For_makeWitnesses 126 = .ok (.ifCond .eq 18, 3) := by decide +kernel
theorem d_For_makeWitnesses_129 : decode b_For_makeWitnesses 129 = .ok (.aload_n 0, 1) := by decide +kernel
theorem d_For_makeWitnesses_130 : decode b_For_makeWitnesses 130 = .ok (.getfield 55, 3) := by decide +kernel
theorem d_For_makeWitnesses_133 : decode b_For_makeWitnesses 133 = .ok (.aload_n 0, 1) := by decide +kernel
theorem d_For_makeWitnesses_134 : decode b_For_makeWitnesses 134 = .ok (.iload_n 1, 1) := by decide +kernel
theorem d_For_makeWitnesses_135 : decode b_For_makeWitnesses 135 = .ok (.invokevirtual 118, 3) := by decide +kernel
theorem d_For_makeWitnesses_138 : decode b_For_makeWitnesses 138 = .ok (.invokevirtual 122, 3) := by decide +kernel
theorem d_For_makeWitnesses_141 : decode b_For_makeWitnesses 141 = .ok (.goto 4, 3) := by decide +kernel
theorem d_For_makeWitnesses_144 : decode b_For_makeWitnesses 144 = .ok (.iconst (-1), 1) := by decide +kernel
theorem d_For_makeWitnesses_145 : decode b_For_makeWitnesses 145 = .ok (.iastore, 1) := by decide +kernel
theorem d_For_makeWitnesses_146 : decode b_For_makeWitnesses 146 = .ok (.iinc 1 1, 3) := by decide +kernel
theorem d_For_makeWitnesses_149 : decode b_For_makeWitnesses 149 = .ok (.goto (-42), 3) := by decide +kernel
theorem d_For_makeWitnesses_152 : decode b_For_makeWitnesses 152 = .ok (.return_, 1) := by decide +kernel
theorem tc_Par_parse : Cond.code y_Par_parse b_Par_parse 6 none ∈ lw_tbg := tb_in (i := 555) (by decide +kernel) rfl
theorem ml_CP_113 : ax_LV "ClauseProver" 113 y_Par_parse b_Par_parse 6 none 2 := ax_LV.mk (tb_in (i := 552) (by decide +kernel) rfl) (tb_in (i := 553) (by decide +kernel) rfl) (tb_in (i := 554) (by decide +kernel) rfl) ti_Par tc_Par_parse (by decide +kernel)
set_option maxHeartbeats 4000000 in
set_option maxRecDepth 100000 in
theorem m52_For_makeWitnesses (l : Launch) (D : va_G) (kA : Nat → ClassId) (a0 : Nat) (a1 : Nat) (a2 : Nat) (b0 : Nat) (b1 : Nat) (b2 : Nat) (b3 : Nat) (b4 : Nat) (b5 : Nat) (b6 : Nat) (b7 : Nat) (b8 : Nat) (b9 : Nat) (b10 : Nat) (b11 : Nat) (b12 : Nat) : ax_Mv l D kA y_For_makeWitnesses b_For_makeWitnesses 3 0 0 0 0 [.ref a0] [(a0, .inr (2, [.ref b0, .ref b1, .int 0, .int (-1), .ref b2, .ref a1, .ref a2, .ref b3, .ref b4, .ref b5, .ref b6, .ref b7, .ref b8, .ref b9, .int 0, .ref b10])), (a1, .inr (0, [.ref b11, .int 0])), (a2, .inr (0, [.ref b12, .int 0]))] (fun w1 => w1 = [(a0, .inr (2, [.ref b0, .ref b1, .int 0, .int (-1), .ref b2, .ref a1, .ref a2, .ref b3, .ref b4, .ref b5, .ref b6, .ref b7, .ref b8, .ref b9, .int 0, .ref b10])), (a1, .inr (0, [.ref b11, .int 0])), (a2, .inr (0, [.ref b12, .int 0]))]) := by
  refine ax_Mv.of (by decide +kernel) (Nat.le_of_ble_eq_true rfl) ?_
  intro p e s m args below meth c C hnm
  refine ax_ls ([(0, .ref a0)]) [0] rfl ?_
  refine ax_iconst (pc := 0) C 0 d_For_makeWitnesses_0 (by decide +kernel) ?_
  refine ax_istore_n (pc := 1) C d_For_makeWitnesses_1 rfl (Nat.le_of_ble_eq_true rfl) ([(1, .int 0), (0, .ref a0)]) rfl ?_
  refine ax_iload_n (pc := 2) C d_For_makeWitnesses_2 rfl 0 rfl ?_
  refine ax_aload_n (pc := 3) C d_For_makeWitnesses_3 rfl 1 rfl ?_
  refine ax_get (pc := 4) C k_For 6 lk_For_27 d_For_makeWitnesses_4 (Nat.le_of_ble_eq_true rfl) 0 rfl rfl ?_
  refine ax_get (pc := 7) C k_Row 1 lk_For_59 d_For_makeWitnesses_7 (Nat.le_of_ble_eq_true rfl) 2 rfl rfl ?_
  refine ax_icmp_ge (pc := 10) C 70 d_For_makeWitnesses_10 (by decide) (fun _ => ?_) (fun h => absurd h (by decide))
  refine ax_aload_n (pc := 70) C d_For_makeWitnesses_70 rfl 1 rfl ?_
  refine ax_get (pc := 71) C k_For 5 lk_For_24 d_For_makeWitnesses_71 (Nat.le_of_ble_eq_true rfl) 0 rfl rfl ?_
  refine ax_get (pc := 74) C k_Row 1 lk_For_59 d_For_makeWitnesses_74 (Nat.le_of_ble_eq_true rfl) 1 rfl rfl ?_
  refine ax_bipush (pc := 77) C 7 d_For_makeWitnesses_77 (by decide +kernel) ?_
  refine ax_idiv (pc := 79) C d_For_makeWitnesses_79 (by decide) ?_
  refine ax_nrm 0 (by decide) ?_
  refine ax_iconst (pc := 80) C 1 d_For_makeWitnesses_80 (by decide +kernel) ?_
  refine ax_isub (pc := 81) C d_For_makeWitnesses_81 ?_
  refine ax_nrm (-1) (by decide) ?_
  refine ax_istore_n (pc := 82) C d_For_makeWitnesses_82 rfl (Nat.le_of_ble_eq_true rfl) ([(1, .int (-1)), (0, .ref a0)]) rfl ?_
  refine ax_iload_n (pc := 83) C d_For_makeWitnesses_83 rfl 0 rfl ?_
  refine ax_if_lt (pc := 84) C 105 d_For_makeWitnesses_84 (by decide) (fun _ => ?_) (fun h => absurd h (by decide))
  refine ax_iconst (pc := 105) C 0 d_For_makeWitnesses_105 (by decide +kernel) ?_
  refine ax_istore_n (pc := 106) C d_For_makeWitnesses_106 rfl (Nat.le_of_ble_eq_true rfl) ([(1, .int 0), (0, .ref a0)]) rfl ?_
  refine ax_iload_n (pc := 107) C d_For_makeWitnesses_107 rfl 0 rfl ?_
  refine ax_aload_n (pc := 108) C d_For_makeWitnesses_108 rfl 1 rfl ?_
  refine ax_get (pc := 109) C k_For 2 lk_For_63 d_For_makeWitnesses_109 (Nat.le_of_ble_eq_true rfl) 0 rfl rfl ?_
  refine ax_icmp_ge (pc := 112) C 152 d_For_makeWitnesses_112 (by decide) (fun _ => ?_) (fun h => absurd h (by decide))
  exact ax_vret (pc := 152) C d_For_makeWitnesses_152 rfl (by decide) (by decide)
abbrev b_For_makeClauses : ByteArray := prog_3_method_18_code
def y_For_makeClauses : MethodName := ⟨"ClauseProver$Formulas", "makeClauses", "(LClauseProver$Draft;LClauseProver$Store;)I"⟩
theorem d_For_makeClauses_0 : decode b_For_makeClauses 0 = .ok (.iconst 0, 1) := by decide +kernel
theorem d_For_makeClauses_1 : decode b_For_makeClauses 1 = .ok (.istore_n 3, 1) := by decide +kernel
theorem d_For_makeClauses_2 : decode b_For_makeClauses 2 = .ok (.iconst 0, 1) := by decide +kernel
theorem d_For_makeClauses_3 : decode b_For_makeClauses 3 = .ok (.istore 4, 2) := by decide +kernel
theorem d_For_makeClauses_5 : decode b_For_makeClauses 5 = .ok (.iload 4, 2) := by decide +kernel
theorem d_For_makeClauses_7 : decode b_For_makeClauses 7 = .ok (.aload_n 0, 1) := by decide +kernel
theorem d_For_makeClauses_8 : decode b_For_makeClauses 8 = .ok (.getfield 27, 3) := by decide +kernel
theorem d_For_makeClauses_11 : decode b_For_makeClauses 11 = .ok (.getfield 59, 3) := by decide +kernel
theorem d_For_makeClauses_14 : decode b_For_makeClauses 14 = .ok (.if_icmp .ge 162, 3) := by decide +kernel
theorem d_For_makeClauses_17 : decode b_For_makeClauses 17 = .ok (.aload_n 0, 1) := by decide +kernel
theorem d_For_makeClauses_18 : decode b_For_makeClauses 18 = .ok (.getfield 27, 3) := by decide +kernel
theorem d_For_makeClauses_21 : decode b_For_makeClauses 21 = .ok (.getfield 75, 3) := by decide +kernel
theorem d_For_makeClauses_24 : decode b_For_makeClauses 24 = .ok (.iload 4, 2) := by decide +kernel
theorem d_For_makeClauses_26 : decode b_For_makeClauses 26 = .ok (.iconst 2, 1) := by decide +kernel
theorem d_For_makeClauses_27 : decode b_For_makeClauses 27 = .ok (.iadd, 1) := by decide +kernel
theorem d_For_makeClauses_28 : decode b_For_makeClauses 28 = .ok (.iaload, 1) := by decide +kernel
theorem d_For_makeClauses_29 : decode b_For_makeClauses 29 = .ok (.istore 5, 2) := by decide +kernel
theorem d_For_makeClauses_31 : decode b_For_makeClauses 31 = .ok (.aload_n 0, 1) := by decide +kernel
theorem d_For_makeClauses_32 : decode b_For_makeClauses 32 = .ok (.getfield 27, 3) := by decide +kernel
theorem d_For_makeClauses_35 : decode b_For_makeClauses 35 = .ok (.getfield 75, 3) := by decide +kernel
theorem d_For_makeClauses_38 : decode b_For_makeClauses 38 = .ok (.iload 4, 2) := by decide +kernel
theorem d_For_makeClauses_40 : decode b_For_makeClauses 40 = .ok (.iconst 1, 1) := by decide +kernel
theorem d_For_makeClauses_41 : decode b_For_makeClauses 41 = .ok (.iadd, 1) := by decide +kernel
theorem d_For_makeClauses_42 : decode b_For_makeClauses 42 = .ok (.iaload, 1) := by decide +kernel
theorem d_For_makeClauses_43 : decode b_For_makeClauses 43 = .ok (.ifCond .ne 7, 3) := by decide +kernel
theorem d_For_makeClauses_46 : decode b_For_makeClauses 46 = .ok (.iconst 1, 1) := by decide +kernel
theorem d_For_makeClauses_47 : decode b_For_makeClauses 47 = .ok (.goto 4, 3) := by decide +kernel
theorem d_For_makeClauses_50 : decode b_For_makeClauses 50 = .ok (.iconst 0, 1) := by decide +kernel
theorem d_For_makeClauses_51 : decode b_For_makeClauses 51 = .ok (.istore 6, 2) := by decide +kernel
theorem d_For_makeClauses_53 : decode b_For_makeClauses 53 = .ok (.iload_n 3, 1) := by decide +kernel
theorem d_For_makeClauses_54 : decode b_For_makeClauses 54 = .ok (.aload_n 0, 1) := by decide +kernel
theorem d_For_makeClauses_55 : decode b_For_makeClauses 55 = .ok (.iload 5, 2) := by decide +kernel
theorem d_For_makeClauses_57 : decode b_For_makeClauses 57 = .ok (.iload 6, 2) := by decide +kernel
theorem d_For_makeClauses_59 : decode b_For_makeClauses 59 = .ok (.invokevirtual 127, 3) := by decide +kernel
theorem d_For_makeClauses_62 : decode b_For_makeClauses 62 = .ok (.iadd, 1) := by decide +kernel
theorem d_For_makeClauses_63 : decode b_For_makeClauses 63 = .ok (.istore_n 3, 1) := by decide +kernel
theorem d_For_makeClauses_64 : decode b_For_makeClauses 64 = .ok (.aload_n 0, 1) := by decide +kernel
theorem d_For_makeClauses_65 : decode b_For_makeClauses 65 = .ok (.iload 5, 2) := by decide +kernel
theorem d_For_makeClauses_67 : decode b_For_makeClauses 67 = .ok (.iconst 3, 1) := by decide +kernel
theorem d_For_makeClauses_68 : decode b_For_makeClauses 68 = .ok (.invokevirtual 104, 3) := by decide +kernel
theorem d_For_makeClauses_71 : decode b_For_makeClauses 71 = .ok (.sipush 200, 3) := by decide +kernel
theorem d_For_makeClauses_74 : decode b_For_makeClauses 74 = .ok (.if_icmp .gt 10, 3) := by decide +kernel
theorem d_For_makeClauses_77 : decode b_For_makeClauses 77 = .ok (.iload_n 3, 1) := by decide +kernel
theorem d_For_makeClauses_78 : decode b_For_makeClauses 78 = .ok (.sipush 200, 3) := by decide +kernel
theorem d_For_makeClauses_81 : decode b_For_makeClauses 81 = .ok (.if_icmp .le 16, 3) := by decide +kernel
theorem d_For_makeClauses_84 : decode b_For_makeClauses 84 = .ok (.aload_n 0, 1) := by decide +kernel
theorem d_For_makeClauses_85 : decode b_For_makeClauses 85 = .ok (.getfield 27, 3) := by decide +kernel
theorem d_For_makeClauses_88 : decode b_For_makeClauses 88 = .ok (.getfield 75, 3) := by decide +kernel
theorem d_For_makeClauses_91 : decode b_For_makeClauses 91 = .ok (.iload 4, 2) := by decide +kernel
theorem d_For_makeClauses_93 : decode b_For_makeClauses 93 = .ok (.iconst 0, 1) := by decide +kernel
theorem d_For_makeClauses_94 : decode b_For_makeClauses 94 = .ok (.iadd, 1) := by decide +kernel
theorem d_For_makeClauses_95 : decode b_For_makeClauses 95 = .ok (.iaload, 1) := by decide +kernel
theorem d_For_makeClauses_96 : decode b_For_makeClauses 96 = .ok (.ireturn, 1) := by decide +kernel
theorem d_For_makeClauses_97 : decode b_For_makeClauses 97 = .ok (.iconst 0, 1) := by decide +kernel
theorem d_For_makeClauses_98 : decode b_For_makeClauses 98 = .ok (.istore 7, 2) := by decide +kernel
theorem d_For_makeClauses_100 : decode b_For_makeClauses 100 = .ok (.iload 7, 2) := by decide +kernel
theorem d_For_makeClauses_102 : decode b_For_makeClauses 102 = .ok (.aload_n 0, 1) := by decide +kernel
theorem d_For_makeClauses_103 : decode b_For_makeClauses 103 = .ok (.iload 5, 2) := by decide +kernel
theorem d_For_makeClauses_105 : decode b_For_makeClauses 105 = .ok (.iload 6, 2) := by decide +kernel
theorem d_For_makeClauses_107 : decode b_For_makeClauses 107 = .ok (.invokevirtual 127, 3) := by decide +kernel
theorem d_For_makeClauses_110 : decode b_For_makeClauses 110 = .ok (.if_icmp .ge 60, 3) := by decide +kernel
theorem d_For_makeClauses_113 : decode b_For_makeClauses 113 = .ok (.aload_n 0, 1) := by decide +kernel
theorem d_For_makeClauses_114 : decode b_For_makeClauses 114 = .ok (.aload_n 1, 1) := by decide +kernel
theorem d_For_makeClauses_115 : decode b_For_makeClauses 115 = .ok (.iload 5, 2) := by decide +kernel
theorem d_For_makeClauses_117 : decode b_For_makeClauses 117 = .ok (.iload 6, 2) := by decide +kernel
theorem d_For_makeClauses_119 : decode b_For_makeClauses 119 = .ok (.iload 7, 2) := by decide +kernel
theorem d_For_makeClauses_121 : decode b_For_makeClauses 121 = .ok (.invokevirtual 131, 3) := by decide +kernel
theorem d_For_makeClauses_124 : decode b_For_makeClauses 124 = .ok (.aload_n 1, 1) := by decide +kernel
theorem d_For_makeClauses_125 : decode b_For_makeClauses 125 = .ok (.getfield 135, 3) := by decide +kernel
theorem d_For_makeClauses_128 : decode b_For_makeClauses 128 = .ok (.ifCond .eq 16, 3) := by decide +kernel
theorem d_For_makeClauses_131 : decode b_For_makeClauses 131 = .ok (.aload_n 0, 1) := by decide +kernel
theorem d_For_makeClauses_132 : decode b_For_makeClauses 132 = .ok (.getfield 27, 3) := by decide +kernel
theorem d_For_makeClauses_135 : decode b_For_makeClauses 135 = .ok (.getfield 75, 3) := by decide +kernel
theorem d_For_makeClauses_138 : decode b_For_makeClauses 138 = .ok (.iload 4, 2) := by decide +kernel
theorem d_For_makeClauses_140 : decode b_For_makeClauses 140 = .ok (.iconst 0, 1) := by decide +kernel
theorem d_For_makeClauses_141 : decode b_For_makeClauses 141 = .ok (.iadd, 1) := by decide +kernel
theorem d_For_makeClauses_142 : decode b_For_makeClauses 142 = .ok (.iaload, 1) := by decide +kernel
theorem d_For_makeClauses_143 : decode b_For_makeClauses 143 = .ok (.ireturn, 1) := by decide +kernel
theorem d_For_makeClauses_144 : decode b_For_makeClauses 144 = .ok (.aload_n 1, 1) := by decide +kernel
theorem d_For_makeClauses_145 : decode b_For_makeClauses 145 = .ok (.invokevirtual 141, 3) := by decide +kernel
theorem d_For_makeClauses_148 : decode b_For_makeClauses 148 = .ok (.aload_n 1, 1) := by decide +kernel
theorem d_For_makeClauses_149 : decode b_For_makeClauses 149 = .ok (.invokevirtual 144, 3) := by decide +kernel
theorem d_For_makeClauses_152 : decode b_For_makeClauses 152 = .ok (.ifCond .ne 12, 3) := by decide +kernel
theorem d_For_makeClauses_155 : decode b_For_makeClauses 155 = .ok (.aload_n 2, 1) := by decide +kernel
theorem d_For_makeClauses_156 : decode b_For_makeClauses 156 = .ok (.aload_n 1, 1) := by decide +kernel
theorem d_For_makeClauses_157 : decode b_For_makeClauses 157 = .ok (.iconst 0, 1) := by decide +kernel
theorem d_For_makeClauses_158 : decode b_For_makeClauses 158 = .ok (.iconst (-1), 1) := by decide +kernel
theorem d_For_makeClauses_159 : decode b_For_makeClauses 159 = .ok (.iconst (-1), 1) := by decide +kernel
theorem d_For_makeClauses_160 : decode b_For_makeClauses 160 = .ok (.invokevirtual 148, 3) := by decide +kernel
theorem d_For_makeClauses_163 : decode b_For_makeClauses 163 = .ok (.pop, 1) := by decide +kernel
theorem d_For_makeClauses_164 : decode b_For_makeClauses 164 = .ok (.iinc 7 1, 3) := by decide +kernel
theorem d_For_makeClauses_167 : decode b_For_makeClauses 167 = .ok (.goto (-67), 3) := by decide +kernel
theorem d_For_makeClauses_170 : decode b_For_makeClauses 170 = .ok (.iinc 4 5, 3) := by decide +kernel
theorem d_For_makeClauses_173 : decode b_For_makeClauses 173 = .ok (.goto (-168), 3) := by decide +kernel
theorem d_For_makeClauses_176 : decode b_For_makeClauses 176 = .ok (.iconst (-1), 1) := by decide +kernel
theorem d_For_makeClauses_177 : decode b_For_makeClauses 177 = .ok (.ireturn, 1) := by decide +kernel
theorem tc_For_makeWitnesses : Cond.code y_For_makeWitnesses b_For_makeWitnesses 3 none ∈ lw_tbg := tb_in (i := 746) (by decide +kernel) rfl
theorem ml_CP_127 : ax_LV "ClauseProver" 127 y_For_makeWitnesses b_For_makeWitnesses 3 none 0 := ax_LV.mk (tb_in (i := 743) (by decide +kernel) rfl) (tb_in (i := 744) (by decide +kernel) rfl) (tb_in (i := 745) (by decide +kernel) rfl) ti_For tc_For_makeWitnesses (by decide +kernel)
set_option maxHeartbeats 4000000 in
set_option maxRecDepth 100000 in
theorem m53_For_makeClauses (l : Launch) (D : va_G) (kA : Nat → ClassId) (a0 : Nat) (a1 : Nat) (b0 : Nat) (b1 : Nat) (b2 : Nat) (b3 : Nat) (b4 : Nat) (b5 : Nat) (b6 : Nat) (b7 : Nat) (b8 : Nat) (b9 : Nat) (b10 : Nat) (b11 : Nat) (b12 : Nat) (b13 : Nat) (b14 : Nat) : ax_Mi l D kA y_For_makeClauses b_For_makeClauses 8 .int 0 0 0 0 [.ref a0, .ref b0, .ref b1] [(a0, .inr (2, [.ref b2, .ref b3, .int 0, .int (-1), .ref b4, .ref b5, .ref a1, .ref b6, .ref b7, .ref b8, .ref b9, .ref b10, .ref b11, .ref b12, .int 0, .ref b13])), (a1, .inr (0, [.ref b14, .int 0]))] (fun r w1 => r = (-1) ∧ w1 = [(a0, .inr (2, [.ref b2, .ref b3, .int 0, .int (-1), .ref b4, .ref b5, .ref a1, .ref b6, .ref b7, .ref b8, .ref b9, .ref b10, .ref b11, .ref b12, .int 0, .ref b13])), (a1, .inr (0, [.ref b14, .int 0]))]) := by
  refine ax_Mi.of (by decide +kernel) (Nat.le_of_ble_eq_true rfl) ?_
  intro p e s m args below meth c C hnm
  refine ax_ls ([(0, .ref a0), (1, .ref b0), (2, .ref b1)]) [0, 1, 2] rfl ?_
  refine ax_iconst (pc := 0) C 0 d_For_makeClauses_0 (by decide +kernel) ?_
  refine ax_istore_n (pc := 1) C d_For_makeClauses_1 rfl (Nat.le_of_ble_eq_true rfl) ([(3, .int 0), (0, .ref a0), (1, .ref b0), (2, .ref b1)]) rfl ?_
  refine ax_iconst (pc := 2) C 0 d_For_makeClauses_2 (by decide +kernel) ?_
  refine ax_istore (pc := 3) C d_For_makeClauses_3 (Nat.le_of_ble_eq_true rfl) ([(4, .int 0), (3, .int 0), (0, .ref a0), (1, .ref b0), (2, .ref b1)]) rfl ?_
  refine ax_iload (pc := 5) C d_For_makeClauses_5 0 rfl ?_
  refine ax_aload_n (pc := 7) C d_For_makeClauses_7 rfl 2 rfl ?_
  refine ax_get (pc := 8) C k_For 6 lk_For_27 d_For_makeClauses_8 (Nat.le_of_ble_eq_true rfl) 0 rfl rfl ?_
  refine ax_get (pc := 11) C k_Row 1 lk_For_59 d_For_makeClauses_11 (Nat.le_of_ble_eq_true rfl) 1 rfl rfl ?_
  refine ax_icmp_ge (pc := 14) C 176 d_For_makeClauses_14 (by decide) (fun _ => ?_) (fun h => absurd h (by decide))
  refine ax_iconst (pc := 176) C (-1) d_For_makeClauses_176 (by decide +kernel) ?_
  exact ax_iret (pc := 177) C d_For_makeClauses_177 ⟨rfl, rfl⟩ (by decide) (by decide)
theorem tc_For_makeClauses : Cond.code y_For_makeClauses b_For_makeClauses 8 (some (.int)) ∈ lw_tbg := tb_in (i := 774) (by decide +kernel) rfl
theorem ml_CP_130 : ax_LV "ClauseProver" 130 y_For_makeClauses b_For_makeClauses 8 (some (.int)) 2 := ax_LV.mk (tb_in (i := 771) (by decide +kernel) rfl) (tb_in (i := 772) (by decide +kernel) rfl) (tb_in (i := 773) (by decide +kernel) rfl) ti_For tc_For_makeClauses (by decide +kernel)
set_option maxHeartbeats 4000000 in
set_option maxRecDepth 100000 in
theorem m43_CP_read (l : Launch) (D : va_G) (kA : Nat → ClassId) (a0 : Nat) (a1 : Nat) (a2 : Nat) (a3 : Nat) (a4 : Nat) (a5 : Nat) (a6 : Nat) (a7 : Nat) (a8 : Nat) (a9 : Nat) (a10 : Nat) (a11 : Nat) (a12 : Nat) (a13 : Nat) (a14 : Nat) (a15 : Nat) (b0 : Nat) (b1 : Nat) (b2 : Nat) (b3 : Nat) (b4 : Nat) (b5 : Nat) (b6 : Nat) (b7 : Nat) (b8 : Nat) (b9 : Nat) (b10 : Nat) (b11 : Nat) (b12 : Nat) (b13 : Nat) (b14 : Nat) (b15 : Nat) (b16 : Nat) (b17 : Nat) (b18 : Nat) (b19 : Nat) (b20 : Nat) (b21 : Nat) (b22 : Nat) (b23 : Nat) (b24 : Nat) (b25 : Nat) (b26 : Nat) (b27 : Nat) (b28 : Nat) (b29 : Nat) (b30 : Nat) (b31 : Nat) (b32 : Nat) : ax_Mi l D kA y_CP_read b_CP_read 2 .int 4 89 0 0 [.ref a0] [(a0, .inr (11, [.ref a1, .ref b0, .ref b1, .ref a2, .ref a4, .ref a8, .ref b2, .ref a14, .ref a13, .ref b3, .int 0, .int 0])), (a1, .inr (0, [.ref b4, .int 0])), (a2, .inr (1, [.ref b5, .ref b6, .ref b7, .ref a3, .int 0, .int 1, .ref b8, .ref b9])), (a3, .inr (0, [.ref b10, .int 0])), (a4, .inr (2, [.ref a5, .ref b11, .int 0, .int 0, .ref a2, .ref a6, .ref a7, .ref b12, .ref b13, .ref b14, .ref b15, .ref b16, .ref b17, .ref b18, .int 0, .ref b19])), (a5, .inr (0, [.ref b20, .int 0])), (a6, .inr (0, [.ref b21, .int 0])), (a7, .inr (0, [.ref b22, .int 0])), (a8, .inr (4, [.int 0, .int 0, .ref a9, .ref a2, .ref a4, .ref b23, .ref b24, .ref b25, .int 0])), (a9, .inr (3, [.null, .int 0, .int 0, .int 0, .int 0, .int 0, .int 0, .int 0])), (a10, .inr (0, [.ref b26, .int 0])), (a11, .inr (0, [.ref b27, .int 0])), (a12, .inr (0, [.ref b28, .int 0])), (a13, .inr (9, [.int 0, .int 0, .int 0, .int 0, .int 0, .int 0, .int 0, .ref a15, .ref a2, .ref a14, .ref b2, .ref b29, .ref b30, .ref b31])), (a14, .inr (6, [.ref a10, .ref a11, .int 0, .int 0, .ref a2, .ref a12])), (a15, .inr (0, [.ref b32, .int 0]))] (fun r w1 => r = 0 ∧ w1 = [(a0, .inr (11, [.ref a1, .ref b0, .ref b1, .ref a2, .ref a4, .ref a8, .ref b2, .ref a14, .ref a13, .ref b3, .int 0, .int 0])), (a1, .inr (0, [.ref b4, .int 0])), (a2, .inr (1, [.ref b5, .ref b6, .ref b7, .ref a3, .int 0, .int 1, .ref b8, .ref b9])), (a3, .inr (0, [.ref b10, .int 0])), (a10, .inr (0, [.ref b26, .int 0])), (a11, .inr (0, [.ref b27, .int 0])), (a12, .inr (0, [.ref b28, .int 0])), (a14, .inr (6, [.ref a10, .ref a11, .int 0, .int 0, .ref a2, .ref a12])), (a13, .inr (9, [.int 0, .int 0, .int 0, .int 0, .int 0, .int 0, .int 0, .ref a15, .ref a2, .ref a14, .ref b2, .ref b29, .ref b30, .ref b31])), (a15, .inr (0, [.ref b32, .int 0])), (a8, .inr (4, [.int 0, .int 0, .ref a9, .ref a2, .ref a4, .ref b23, .ref b24, .ref b25, .int 0])), (a5, .inr (0, [.ref b20, .int 0])), (a9, .inr (3, [.ref b4, .int 0, .int 0, .int 0, .int 0, .int 0, .int 0, .int 0])), (a6, .inr (0, [.ref b21, .int 0])), (a4, .inr (2, [.ref a5, .ref b11, .int 0, .int (-1), .ref a2, .ref a6, .ref a7, .ref b12, .ref b13, .ref b14, .ref b15, .ref b16, .ref b17, .ref b18, .int 0, .ref b19])), (a7, .inr (0, [.ref b22, .int 0]))]) := by
  refine ax_Mi.of (by decide +kernel) (Nat.le_of_ble_eq_true rfl) ?_
  intro p e s m args below meth c C hnm
  refine ax_ls ([(0, .ref a0)]) [0] rfl ?_
  refine ax_aload_n (pc := 0) C d_CP_read_0 rfl 0 rfl ?_
  refine ax_get (pc := 1) C k_CP 3 lk_CP_28 d_CP_read_1 (Nat.le_of_ble_eq_true rfl) 0 rfl rfl ?_
  refine ax_callVv (pc := 4) C (As := []) (rest := []) (wr := [(a0, .inr (11, [.ref a1, .ref b0, .ref b1, .ref a2, .ref a4, .ref a8, .ref b2, .ref a14, .ref a13, .ref b3, .int 0, .int 0])), (a1, .inr (0, [.ref b4, .int 0])), (a4, .inr (2, [.ref a5, .ref b11, .int 0, .int 0, .ref a2, .ref a6, .ref a7, .ref b12, .ref b13, .ref b14, .ref b15, .ref b16, .ref b17, .ref b18, .int 0, .ref b19])), (a5, .inr (0, [.ref b20, .int 0])), (a6, .inr (0, [.ref b21, .int 0])), (a7, .inr (0, [.ref b22, .int 0])), (a8, .inr (4, [.int 0, .int 0, .ref a9, .ref a2, .ref a4, .ref b23, .ref b24, .ref b25, .int 0])), (a9, .inr (3, [.null, .int 0, .int 0, .int 0, .int 0, .int 0, .int 0, .int 0])), (a10, .inr (0, [.ref b26, .int 0])), (a11, .inr (0, [.ref b27, .int 0])), (a12, .inr (0, [.ref b28, .int 0])), (a13, .inr (9, [.int 0, .int 0, .int 0, .int 0, .int 0, .int 0, .int 0, .ref a15, .ref a2, .ref a14, .ref b2, .ref b29, .ref b30, .ref b31])), (a14, .inr (6, [.ref a10, .ref a11, .int 0, .int 0, .ref a2, .ref a12])), (a15, .inr (0, [.ref b32, .int 0]))]) (m44_Sym_clear l D kA a2 a3 b5 b6 b7 b8 b9 b10) ml_CP_105 2 rfl rfl rfl d_CP_read_4 rfl rfl [2, 3] [0, 1, 4, 5, 6, 7, 8, 9, 10, 11, 12, 13, 14, 15] rfl (by decide) rfl (by decide) (by decide) (Nat.le_of_ble_eq_true rfl) (Nat.le_of_ble_eq_true rfl) (Nat.le_of_ble_eq_true rfl) (Nat.le_of_ble_eq_true rfl) (Nat.le_of_ble_eq_true rfl) (fun w1 hw1 => ?_)
  obtain rfl := hw1
  refine ax_w ([(a0, .inr (11, [.ref a1, .ref b0, .ref b1, .ref a2, .ref a4, .ref a8, .ref b2, .ref a14, .ref a13, .ref b3, .int 0, .int 0])), (a1, .inr (0, [.ref b4, .int 0])), (a4, .inr (2, [.ref a5, .ref b11, .int 0, .int 0, .ref a2, .ref a6, .ref a7, .ref b12, .ref b13, .ref b14, .ref b15, .ref b16, .ref b17, .ref b18, .int 0, .ref b19])), (a5, .inr (0, [.ref b20, .int 0])), (a6, .inr (0, [.ref b21, .int 0])), (a7, .inr (0, [.ref b22, .int 0])), (a8, .inr (4, [.int 0, .int 0, .ref a9, .ref a2, .ref a4, .ref b23, .ref b24, .ref b25, .int 0])), (a9, .inr (3, [.null, .int 0, .int 0, .int 0, .int 0, .int 0, .int 0, .int 0])), (a10, .inr (0, [.ref b26, .int 0])), (a11, .inr (0, [.ref b27, .int 0])), (a12, .inr (0, [.ref b28, .int 0])), (a13, .inr (9, [.int 0, .int 0, .int 0, .int 0, .int 0, .int 0, .int 0, .ref a15, .ref a2, .ref a14, .ref b2, .ref b29, .ref b30, .ref b31])), (a14, .inr (6, [.ref a10, .ref a11, .int 0, .int 0, .ref a2, .ref a12])), (a15, .inr (0, [.ref b32, .int 0])), (a2, .inr (1, [.ref b5, .ref b6, .ref b7, .ref a3, .int 0, .int 1, .ref b8, .ref b9])), (a3, .inr (0, [.ref b10, .int 0]))]) rfl ?_
  refine ax_aload_n (pc := 7) C d_CP_read_7 rfl 0 rfl ?_
  refine ax_get (pc := 8) C k_CP 7 lk_CP_60 d_CP_read_8 (Nat.le_of_ble_eq_true rfl) 0 rfl rfl ?_
  refine ax_callVv (pc := 11) C (As := []) (rest := []) (wr := [(a0, .inr (11, [.ref a1, .ref b0, .ref b1, .ref a2, .ref a4, .ref a8, .ref b2, .ref a14, .ref a13, .ref b3, .int 0, .int 0])), (a1, .inr (0, [.ref b4, .int 0])), (a4, .inr (2, [.ref a5, .ref b11, .int 0, .int 0, .ref a2, .ref a6, .ref a7, .ref b12, .ref b13, .ref b14, .ref b15, .ref b16, .ref b17, .ref b18, .int 0, .ref b19])), (a5, .inr (0, [.ref b20, .int 0])), (a6, .inr (0, [.ref b21, .int 0])), (a7, .inr (0, [.ref b22, .int 0])), (a8, .inr (4, [.int 0, .int 0, .ref a9, .ref a2, .ref a4, .ref b23, .ref b24, .ref b25, .int 0])), (a9, .inr (3, [.null, .int 0, .int 0, .int 0, .int 0, .int 0, .int 0, .int 0])), (a13, .inr (9, [.int 0, .int 0, .int 0, .int 0, .int 0, .int 0, .int 0, .ref a15, .ref a2, .ref a14, .ref b2, .ref b29, .ref b30, .ref b31])), (a15, .inr (0, [.ref b32, .int 0])), (a2, .inr (1, [.ref b5, .ref b6, .ref b7, .ref a3, .int 0, .int 1, .ref b8, .ref b9])), (a3, .inr (0, [.ref b10, .int 0]))]) (m45_Sto_clear l D kA a10 a11 a12 a14 b26 b27 b28 a2) ml_CP_108 12 rfl rfl rfl d_CP_read_11 rfl rfl [8, 9, 10, 12] [0, 1, 2, 3, 4, 5, 6, 7, 11, 13, 14, 15] rfl (by decide) rfl (by decide) (by decide) (Nat.le_of_ble_eq_true rfl) (Nat.le_of_ble_eq_true rfl) (Nat.le_of_ble_eq_true rfl) (Nat.le_of_ble_eq_true rfl) (Nat.le_of_ble_eq_true rfl) (fun w1 hw1 => ?_)
  obtain rfl := hw1
  refine ax_w ([(a0, .inr (11, [.ref a1, .ref b0, .ref b1, .ref a2, .ref a4, .ref a8, .ref b2, .ref a14, .ref a13, .ref b3, .int 0, .int 0])), (a1, .inr (0, [.ref b4, .int 0])), (a4, .inr (2, [.ref a5, .ref b11, .int 0, .int 0, .ref a2, .ref a6, .ref a7, .ref b12, .ref b13, .ref b14, .ref b15, .ref b16, .ref b17, .ref b18, .int 0, .ref b19])), (a5, .inr (0, [.ref b20, .int 0])), (a6, .inr (0, [.ref b21, .int 0])), (a7, .inr (0, [.ref b22, .int 0])), (a8, .inr (4, [.int 0, .int 0, .ref a9, .ref a2, .ref a4, .ref b23, .ref b24, .ref b25, .int 0])), (a9, .inr (3, [.null, .int 0, .int 0, .int 0, .int 0, .int 0, .int 0, .int 0])), (a13, .inr (9, [.int 0, .int 0, .int 0, .int 0, .int 0, .int 0, .int 0, .ref a15, .ref a2, .ref a14, .ref b2, .ref b29, .ref b30, .ref b31])), (a15, .inr (0, [.ref b32, .int 0])), (a2, .inr (1, [.ref b5, .ref b6, .ref b7, .ref a3, .int 0, .int 1, .ref b8, .ref b9])), (a3, .inr (0, [.ref b10, .int 0])), (a10, .inr (0, [.ref b26, .int 0])), (a11, .inr (0, [.ref b27, .int 0])), (a12, .inr (0, [.ref b28, .int 0])), (a14, .inr (6, [.ref a10, .ref a11, .int 0, .int 0, .ref a2, .ref a12]))]) rfl ?_
  refine ax_aload_n (pc := 14) C d_CP_read_14 rfl 0 rfl ?_
  refine ax_get (pc := 15) C k_CP 8 lk_CP_69 d_CP_read_15 (Nat.le_of_ble_eq_true rfl) 0 rfl rfl ?_
  refine ax_callVv (pc := 18) C (As := []) (rest := []) (wr := [(a0, .inr (11, [.ref a1, .ref b0, .ref b1, .ref a2, .ref a4, .ref a8, .ref b2, .ref a14, .ref a13, .ref b3, .int 0, .int 0])), (a1, .inr (0, [.ref b4, .int 0])), (a4, .inr (2, [.ref a5, .ref b11, .int 0, .int 0, .ref a2, .ref a6, .ref a7, .ref b12, .ref b13, .ref b14, .ref b15, .ref b16, .ref b17, .ref b18, .int 0, .ref b19])), (a5, .inr (0, [.ref b20, .int 0])), (a6, .inr (0, [.ref b21, .int 0])), (a7, .inr (0, [.ref b22, .int 0])), (a8, .inr (4, [.int 0, .int 0, .ref a9, .ref a2, .ref a4, .ref b23, .ref b24, .ref b25, .int 0])), (a9, .inr (3, [.null, .int 0, .int 0, .int 0, .int 0, .int 0, .int 0, .int 0])), (a2, .inr (1, [.ref b5, .ref b6, .ref b7, .ref a3, .int 0, .int 1, .ref b8, .ref b9])), (a3, .inr (0, [.ref b10, .int 0])), (a10, .inr (0, [.ref b26, .int 0])), (a11, .inr (0, [.ref b27, .int 0])), (a12, .inr (0, [.ref b28, .int 0])), (a14, .inr (6, [.ref a10, .ref a11, .int 0, .int 0, .ref a2, .ref a12]))]) (m46_Sat_clear l D kA a13 a15 a2 a14 b2 b29 b30 b31 b32) ml_CP_109 8 rfl rfl rfl d_CP_read_18 rfl rfl [8, 9] [0, 1, 2, 3, 4, 5, 6, 7, 10, 11, 12, 13, 14, 15] rfl (by decide) rfl (by decide) (by decide) (Nat.le_of_ble_eq_true rfl) (Nat.le_of_ble_eq_true rfl) (Nat.le_of_ble_eq_true rfl) (Nat.le_of_ble_eq_true rfl) (Nat.le_of_ble_eq_true rfl) (fun w1 hw1 => ?_)
  obtain rfl := hw1
  refine ax_w ([(a0, .inr (11, [.ref a1, .ref b0, .ref b1, .ref a2, .ref a4, .ref a8, .ref b2, .ref a14, .ref a13, .ref b3, .int 0, .int 0])), (a1, .inr (0, [.ref b4, .int 0])), (a4, .inr (2, [.ref a5, .ref b11, .int 0, .int 0, .ref a2, .ref a6, .ref a7, .ref b12, .ref b13, .ref b14, .ref b15, .ref b16, .ref b17, .ref b18, .int 0, .ref b19])), (a5, .inr (0, [.ref b20, .int 0])), (a6, .inr (0, [.ref b21, .int 0])), (a7, .inr (0, [.ref b22, .int 0])), (a8, .inr (4, [.int 0, .int 0, .ref a9, .ref a2, .ref a4, .ref b23, .ref b24, .ref b25, .int 0])), (a9, .inr (3, [.null, .int 0, .int 0, .int 0, .int 0, .int 0, .int 0, .int 0])), (a2, .inr (1, [.ref b5, .ref b6, .ref b7, .ref a3, .int 0, .int 1, .ref b8, .ref b9])), (a3, .inr (0, [.ref b10, .int 0])), (a10, .inr (0, [.ref b26, .int 0])), (a11, .inr (0, [.ref b27, .int 0])), (a12, .inr (0, [.ref b28, .int 0])), (a14, .inr (6, [.ref a10, .ref a11, .int 0, .int 0, .ref a2, .ref a12])), (a13, .inr (9, [.int 0, .int 0, .int 0, .int 0, .int 0, .int 0, .int 0, .ref a15, .ref a2, .ref a14, .ref b2, .ref b29, .ref b30, .ref b31])), (a15, .inr (0, [.ref b32, .int 0]))]) rfl ?_
  refine ax_aload_n (pc := 21) C d_CP_read_21 rfl 0 rfl ?_
  refine ax_get (pc := 22) C k_CP 5 lk_CP_46 d_CP_read_22 (Nat.le_of_ble_eq_true rfl) 0 rfl rfl ?_
  refine ax_aload_n (pc := 25) C d_CP_read_25 rfl 0 rfl ?_
  refine ax_get (pc := 26) C k_CP 0 lk_CP_14 d_CP_read_26 (Nat.le_of_ble_eq_true rfl) 0 rfl rfl ?_
  refine ax_get (pc := 29) C k_Row 0 lk_CP_110 d_CP_read_29 (Nat.le_of_ble_eq_true rfl) 1 rfl rfl ?_
  refine ax_aload_n (pc := 32) C d_CP_read_32 rfl 0 rfl ?_
  refine ax_get (pc := 33) C k_CP 0 lk_CP_14 d_CP_read_33 (Nat.le_of_ble_eq_true rfl) 0 rfl rfl ?_
  refine ax_get (pc := 36) C k_Row 1 lk_CP_82 d_CP_read_36 (Nat.le_of_ble_eq_true rfl) 1 rfl rfl ?_
  refine ax_callVv (pc := 39) C (As := [.ref b4, .int 0]) (rest := []) (wr := [(a0, .inr (11, [.ref a1, .ref b0, .ref b1, .ref a2, .ref a4, .ref a8, .ref b2, .ref a14, .ref a13, .ref b3, .int 0, .int 0])), (a1, .inr (0, [.ref b4, .int 0])), (a2, .inr (1, [.ref b5, .ref b6, .ref b7, .ref a3, .int 0, .int 1, .ref b8, .ref b9])), (a3, .inr (0, [.ref b10, .int 0])), (a10, .inr (0, [.ref b26, .int 0])), (a11, .inr (0, [.ref b27, .int 0])), (a12, .inr (0, [.ref b28, .int 0])), (a14, .inr (6, [.ref a10, .ref a11, .int 0, .int 0, .ref a2, .ref a12])), (a13, .inr (9, [.int 0, .int 0, .int 0, .int 0, .int 0, .int 0, .int 0, .ref a15, .ref a2, .ref a14, .ref b2, .ref b29, .ref b30, .ref b31])), (a15, .inr (0, [.ref b32, .int 0]))]) (m47_Par_parse l D kA a4 a5 a6 a7 a8 a9 b4 b11 a2 b12 b13 b14 b15 b16 b17 b18 b19 b20 b21 b22 b23 b24 b25) ml_CP_113 6 rfl rfl rfl d_CP_read_39 rfl rfl [2, 3, 4, 5, 6, 7] [0, 1, 8, 9, 10, 11, 12, 13, 14, 15] rfl (by decide) rfl (by decide) (by decide) (Nat.le_of_ble_eq_true rfl) (Nat.le_of_ble_eq_true rfl) (Nat.le_of_ble_eq_true rfl) (Nat.le_of_ble_eq_true rfl) (Nat.le_of_ble_eq_true rfl) (fun w1 hw1 => ?_)
  obtain rfl := hw1
  refine ax_w ([(a0, .inr (11, [.ref a1, .ref b0, .ref b1, .ref a2, .ref a4, .ref a8, .ref b2, .ref a14, .ref a13, .ref b3, .int 0, .int 0])), (a1, .inr (0, [.ref b4, .int 0])), (a2, .inr (1, [.ref b5, .ref b6, .ref b7, .ref a3, .int 0, .int 1, .ref b8, .ref b9])), (a3, .inr (0, [.ref b10, .int 0])), (a10, .inr (0, [.ref b26, .int 0])), (a11, .inr (0, [.ref b27, .int 0])), (a12, .inr (0, [.ref b28, .int 0])), (a14, .inr (6, [.ref a10, .ref a11, .int 0, .int 0, .ref a2, .ref a12])), (a13, .inr (9, [.int 0, .int 0, .int 0, .int 0, .int 0, .int 0, .int 0, .ref a15, .ref a2, .ref a14, .ref b2, .ref b29, .ref b30, .ref b31])), (a15, .inr (0, [.ref b32, .int 0])), (a8, .inr (4, [.int 0, .int 0, .ref a9, .ref a2, .ref a4, .ref b23, .ref b24, .ref b25, .int 0])), (a4, .inr (2, [.ref a5, .ref b11, .int 0, .int (-1), .ref a2, .ref a6, .ref a7, .ref b12, .ref b13, .ref b14, .ref b15, .ref b16, .ref b17, .ref b18, .int 0, .ref b19])), (a5, .inr (0, [.ref b20, .int 0])), (a6, .inr (0, [.ref b21, .int 0])), (a7, .inr (0, [.ref b22, .int 0])), (a9, .inr (3, [.ref b4, .int 0, .int 0, .int 0, .int 0, .int 0, .int 0, .int 0]))]) rfl ?_
  refine ax_aload_n (pc := 42) C d_CP_read_42 rfl 0 rfl ?_
  refine ax_get (pc := 43) C k_CP 0 lk_CP_14 d_CP_read_43 (Nat.le_of_ble_eq_true rfl) 0 rfl rfl ?_
  refine ax_iconst (pc := 46) C 0 d_CP_read_46 (by decide +kernel) ?_
  refine ax_put (pc := 47) C k_Row 1 lk_CP_82 d_CP_read_47 (Nat.le_of_ble_eq_true rfl) 1 rfl rfl rfl rfl (Nat.le_of_ble_eq_true rfl) ?_
  refine ax_w ([(a0, .inr (11, [.ref a1, .ref b0, .ref b1, .ref a2, .ref a4, .ref a8, .ref b2, .ref a14, .ref a13, .ref b3, .int 0, .int 0])), (a1, .inr (0, [.ref b4, .int 0])), (a2, .inr (1, [.ref b5, .ref b6, .ref b7, .ref a3, .int 0, .int 1, .ref b8, .ref b9])), (a3, .inr (0, [.ref b10, .int 0])), (a10, .inr (0, [.ref b26, .int 0])), (a11, .inr (0, [.ref b27, .int 0])), (a12, .inr (0, [.ref b28, .int 0])), (a14, .inr (6, [.ref a10, .ref a11, .int 0, .int 0, .ref a2, .ref a12])), (a13, .inr (9, [.int 0, .int 0, .int 0, .int 0, .int 0, .int 0, .int 0, .ref a15, .ref a2, .ref a14, .ref b2, .ref b29, .ref b30, .ref b31])), (a15, .inr (0, [.ref b32, .int 0])), (a8, .inr (4, [.int 0, .int 0, .ref a9, .ref a2, .ref a4, .ref b23, .ref b24, .ref b25, .int 0])), (a4, .inr (2, [.ref a5, .ref b11, .int 0, .int (-1), .ref a2, .ref a6, .ref a7, .ref b12, .ref b13, .ref b14, .ref b15, .ref b16, .ref b17, .ref b18, .int 0, .ref b19])), (a5, .inr (0, [.ref b20, .int 0])), (a6, .inr (0, [.ref b21, .int 0])), (a7, .inr (0, [.ref b22, .int 0])), (a9, .inr (3, [.ref b4, .int 0, .int 0, .int 0, .int 0, .int 0, .int 0, .int 0]))]) rfl ?_
  refine ax_aload_n (pc := 50) C d_CP_read_50 rfl 0 rfl ?_
  refine ax_aload_n (pc := 51) C d_CP_read_51 rfl 0 rfl ?_
  refine ax_get (pc := 52) C k_CP 5 lk_CP_46 d_CP_read_52 (Nat.le_of_ble_eq_true rfl) 0 rfl rfl ?_
  refine ax_get (pc := 55) C k_Par 0 lk_CP_117 d_CP_read_55 (Nat.le_of_ble_eq_true rfl) 10 rfl rfl ?_
  refine ax_put (pc := 58) C k_CP 10 lk_CP_120 d_CP_read_58 (Nat.le_of_ble_eq_true rfl) 0 rfl rfl rfl rfl (Nat.le_of_ble_eq_true rfl) ?_
  refine ax_w ([(a0, .inr (11, [.ref a1, .ref b0, .ref b1, .ref a2, .ref a4, .ref a8, .ref b2, .ref a14, .ref a13, .ref b3, .int 0, .int 0])), (a1, .inr (0, [.ref b4, .int 0])), (a2, .inr (1, [.ref b5, .ref b6, .ref b7, .ref a3, .int 0, .int 1, .ref b8, .ref b9])), (a3, .inr (0, [.ref b10, .int 0])), (a10, .inr (0, [.ref b26, .int 0])), (a11, .inr (0, [.ref b27, .int 0])), (a12, .inr (0, [.ref b28, .int 0])), (a14, .inr (6, [.ref a10, .ref a11, .int 0, .int 0, .ref a2, .ref a12])), (a13, .inr (9, [.int 0, .int 0, .int 0, .int 0, .int 0, .int 0, .int 0, .ref a15, .ref a2, .ref a14, .ref b2, .ref b29, .ref b30, .ref b31])), (a15, .inr (0, [.ref b32, .int 0])), (a8, .inr (4, [.int 0, .int 0, .ref a9, .ref a2, .ref a4, .ref b23, .ref b24, .ref b25, .int 0])), (a4, .inr (2, [.ref a5, .ref b11, .int 0, .int (-1), .ref a2, .ref a6, .ref a7, .ref b12, .ref b13, .ref b14, .ref b15, .ref b16, .ref b17, .ref b18, .int 0, .ref b19])), (a5, .inr (0, [.ref b20, .int 0])), (a6, .inr (0, [.ref b21, .int 0])), (a7, .inr (0, [.ref b22, .int 0])), (a9, .inr (3, [.ref b4, .int 0, .int 0, .int 0, .int 0, .int 0, .int 0, .int 0]))]) rfl ?_
  refine ax_aload_n (pc := 61) C d_CP_read_61 rfl 0 rfl ?_
  refine ax_aload_n (pc := 62) C d_CP_read_62 rfl 0 rfl ?_
  refine ax_get (pc := 63) C k_CP 5 lk_CP_46 d_CP_read_63 (Nat.le_of_ble_eq_true rfl) 0 rfl rfl ?_
  refine ax_get (pc := 66) C k_Par 1 lk_CP_123 d_CP_read_66 (Nat.le_of_ble_eq_true rfl) 10 rfl rfl ?_
  refine ax_put (pc := 69) C k_CP 11 lk_CP_126 d_CP_read_69 (Nat.le_of_ble_eq_true rfl) 0 rfl rfl rfl rfl (Nat.le_of_ble_eq_true rfl) ?_
  refine ax_w ([(a0, .inr (11, [.ref a1, .ref b0, .ref b1, .ref a2, .ref a4, .ref a8, .ref b2, .ref a14, .ref a13, .ref b3, .int 0, .int 0])), (a1, .inr (0, [.ref b4, .int 0])), (a2, .inr (1, [.ref b5, .ref b6, .ref b7, .ref a3, .int 0, .int 1, .ref b8, .ref b9])), (a3, .inr (0, [.ref b10, .int 0])), (a10, .inr (0, [.ref b26, .int 0])), (a11, .inr (0, [.ref b27, .int 0])), (a12, .inr (0, [.ref b28, .int 0])), (a14, .inr (6, [.ref a10, .ref a11, .int 0, .int 0, .ref a2, .ref a12])), (a13, .inr (9, [.int 0, .int 0, .int 0, .int 0, .int 0, .int 0, .int 0, .ref a15, .ref a2, .ref a14, .ref b2, .ref b29, .ref b30, .ref b31])), (a15, .inr (0, [.ref b32, .int 0])), (a8, .inr (4, [.int 0, .int 0, .ref a9, .ref a2, .ref a4, .ref b23, .ref b24, .ref b25, .int 0])), (a4, .inr (2, [.ref a5, .ref b11, .int 0, .int (-1), .ref a2, .ref a6, .ref a7, .ref b12, .ref b13, .ref b14, .ref b15, .ref b16, .ref b17, .ref b18, .int 0, .ref b19])), (a5, .inr (0, [.ref b20, .int 0])), (a6, .inr (0, [.ref b21, .int 0])), (a7, .inr (0, [.ref b22, .int 0])), (a9, .inr (3, [.ref b4, .int 0, .int 0, .int 0, .int 0, .int 0, .int 0, .int 0]))]) rfl ?_
  refine ax_aload_n (pc := 72) C d_CP_read_72 rfl 0 rfl ?_
  refine ax_get (pc := 73) C k_CP 10 lk_CP_120 d_CP_read_73 (Nat.le_of_ble_eq_true rfl) 0 rfl rfl ?_
  refine ax_if_ne (pc := 76) C 130 d_CP_read_76 (by decide) (fun h => absurd h (by decide)) (fun _ => ?_)
  refine ax_aload_n (pc := 79) C d_CP_read_79 rfl 0 rfl ?_
  refine ax_get (pc := 80) C k_CP 4 lk_CP_37 d_CP_read_80 (Nat.le_of_ble_eq_true rfl) 0 rfl rfl ?_
  refine ax_callVv (pc := 83) C (As := []) (rest := []) (wr := [(a0, .inr (11, [.ref a1, .ref b0, .ref b1, .ref a2, .ref a4, .ref a8, .ref b2, .ref a14, .ref a13, .ref b3, .int 0, .int 0])), (a1, .inr (0, [.ref b4, .int 0])), (a2, .inr (1, [.ref b5, .ref b6, .ref b7, .ref a3, .int 0, .int 1, .ref b8, .ref b9])), (a3, .inr (0, [.ref b10, .int 0])), (a10, .inr (0, [.ref b26, .int 0])), (a11, .inr (0, [.ref b27, .int 0])), (a12, .inr (0, [.ref b28, .int 0])), (a14, .inr (6, [.ref a10, .ref a11, .int 0, .int 0, .ref a2, .ref a12])), (a13, .inr (9, [.int 0, .int 0, .int 0, .int 0, .int 0, .int 0, .int 0, .ref a15, .ref a2, .ref a14, .ref b2, .ref b29, .ref b30, .ref b31])), (a15, .inr (0, [.ref b32, .int 0])), (a8, .inr (4, [.int 0, .int 0, .ref a9, .ref a2, .ref a4, .ref b23, .ref b24, .ref b25, .int 0])), (a5, .inr (0, [.ref b20, .int 0])), (a9, .inr (3, [.ref b4, .int 0, .int 0, .int 0, .int 0, .int 0, .int 0, .int 0]))]) (m52_For_makeWitnesses l D kA a4 a6 a7 a5 b11 a2 b12 b13 b14 b15 b16 b17 b18 b19 b21 b22) ml_CP_127 11 rfl rfl rfl d_CP_read_83 rfl rfl [11, 13, 14] [0, 1, 2, 3, 4, 5, 6, 7, 8, 9, 10, 12, 15] rfl (by decide) rfl (by decide) (by decide) (Nat.le_of_ble_eq_true rfl) (Nat.le_of_ble_eq_true rfl) (Nat.le_of_ble_eq_true rfl) (Nat.le_of_ble_eq_true rfl) (Nat.le_of_ble_eq_true rfl) (fun w1 hw1 => ?_)
  obtain rfl := hw1
  refine ax_w ([(a0, .inr (11, [.ref a1, .ref b0, .ref b1, .ref a2, .ref a4, .ref a8, .ref b2, .ref a14, .ref a13, .ref b3, .int 0, .int 0])), (a1, .inr (0, [.ref b4, .int 0])), (a2, .inr (1, [.ref b5, .ref b6, .ref b7, .ref a3, .int 0, .int 1, .ref b8, .ref b9])), (a3, .inr (0, [.ref b10, .int 0])), (a10, .inr (0, [.ref b26, .int 0])), (a11, .inr (0, [.ref b27, .int 0])), (a12, .inr (0, [.ref b28, .int 0])), (a14, .inr (6, [.ref a10, .ref a11, .int 0, .int 0, .ref a2, .ref a12])), (a13, .inr (9, [.int 0, .int 0, .int 0, .int 0, .int 0, .int 0, .int 0, .ref a15, .ref a2, .ref a14, .ref b2, .ref b29, .ref b30, .ref b31])), (a15, .inr (0, [.ref b32, .int 0])), (a8, .inr (4, [.int 0, .int 0, .ref a9, .ref a2, .ref a4, .ref b23, .ref b24, .ref b25, .int 0])), (a5, .inr (0, [.ref b20, .int 0])), (a9, .inr (3, [.ref b4, .int 0, .int 0, .int 0, .int 0, .int 0, .int 0, .int 0])), (a4, .inr (2, [.ref a5, .ref b11, .int 0, .int (-1), .ref a2, .ref a6, .ref a7, .ref b12, .ref b13, .ref b14, .ref b15, .ref b16, .ref b17, .ref b18, .int 0, .ref b19])), (a6, .inr (0, [.ref b21, .int 0])), (a7, .inr (0, [.ref b22, .int 0]))]) rfl ?_
  refine ax_aload_n (pc := 86) C d_CP_read_86 rfl 0 rfl ?_
  refine ax_get (pc := 87) C k_CP 4 lk_CP_37 d_CP_read_87 (Nat.le_of_ble_eq_true rfl) 0 rfl rfl ?_
  refine ax_aload_n (pc := 90) C d_CP_read_90 rfl 0 rfl ?_
  refine ax_get (pc := 91) C k_CP 6 lk_CP_53 d_CP_read_91 (Nat.le_of_ble_eq_true rfl) 0 rfl rfl ?_
  refine ax_aload_n (pc := 94) C d_CP_read_94 rfl 0 rfl ?_
  refine ax_get (pc := 95) C k_CP 7 lk_CP_60 d_CP_read_95 (Nat.le_of_ble_eq_true rfl) 0 rfl rfl ?_
  refine ax_callVi (pc := 98) C (As := [.ref b2, .ref a14]) (rest := []) (wr := [(a0, .inr (11, [.ref a1, .ref b0, .ref b1, .ref a2, .ref a4, .ref a8, .ref b2, .ref a14, .ref a13, .ref b3, .int 0, .int 0])), (a1, .inr (0, [.ref b4, .int 0])), (a2, .inr (1, [.ref b5, .ref b6, .ref b7, .ref a3, .int 0, .int 1, .ref b8, .ref b9])), (a3, .inr (0, [.ref b10, .int 0])), (a10, .inr (0, [.ref b26, .int 0])), (a11, .inr (0, [.ref b27, .int 0])), (a12, .inr (0, [.ref b28, .int 0])), (a14, .inr (6, [.ref a10, .ref a11, .int 0, .int 0, .ref a2, .ref a12])), (a13, .inr (9, [.int 0, .int 0, .int 0, .int 0, .int 0, .int 0, .int 0, .ref a15, .ref a2, .ref a14, .ref b2, .ref b29, .ref b30, .ref b31])), (a15, .inr (0, [.ref b32, .int 0])), (a8, .inr (4, [.int 0, .int 0, .ref a9, .ref a2, .ref a4, .ref b23, .ref b24, .ref b25, .int 0])), (a5, .inr (0, [.ref b20, .int 0])), (a9, .inr (3, [.ref b4, .int 0, .int 0, .int 0, .int 0, .int 0, .int 0, .int 0])), (a6, .inr (0, [.ref b21, .int 0]))]) (m53_For_makeClauses l D kA a4 a7 b2 a14 a5 b11 a2 a6 b12 b13 b14 b15 b16 b17 b18 b19 b22) ml_CP_130 13 rfl rfl rfl d_CP_read_98 rfl rfl [13, 15] [0, 1, 2, 3, 4, 5, 6, 7, 8, 9, 10, 11, 12, 14] rfl (by decide) rfl (by decide) (by decide) (Nat.le_of_ble_eq_true rfl) (Nat.le_of_ble_eq_true rfl) (Nat.le_of_ble_eq_true rfl) (Nat.le_of_ble_eq_true rfl) (Nat.le_of_ble_eq_true rfl) (fun r98 w1 hw1 => ?_)
  obtain ⟨rfl, rfl⟩ := hw1
  refine ax_w ([(a0, .inr (11, [.ref a1, .ref b0, .ref b1, .ref a2, .ref a4, .ref a8, .ref b2, .ref a14, .ref a13, .ref b3, .int 0, .int 0])), (a1, .inr (0, [.ref b4, .int 0])), (a2, .inr (1, [.ref b5, .ref b6, .ref b7, .ref a3, .int 0, .int 1, .ref b8, .ref b9])), (a3, .inr (0, [.ref b10, .int 0])), (a10, .inr (0, [.ref b26, .int 0])), (a11, .inr (0, [.ref b27, .int 0])), (a12, .inr (0, [.ref b28, .int 0])), (a14, .inr (6, [.ref a10, .ref a11, .int 0, .int 0, .ref a2, .ref a12])), (a13, .inr (9, [.int 0, .int 0, .int 0, .int 0, .int 0, .int 0, .int 0, .ref a15, .ref a2, .ref a14, .ref b2, .ref b29, .ref b30, .ref b31])), (a15, .inr (0, [.ref b32, .int 0])), (a8, .inr (4, [.int 0, .int 0, .ref a9, .ref a2, .ref a4, .ref b23, .ref b24, .ref b25, .int 0])), (a5, .inr (0, [.ref b20, .int 0])), (a9, .inr (3, [.ref b4, .int 0, .int 0, .int 0, .int 0, .int 0, .int 0, .int 0])), (a6, .inr (0, [.ref b21, .int 0])), (a4, .inr (2, [.ref a5, .ref b11, .int 0, .int (-1), .ref a2, .ref a6, .ref a7, .ref b12, .ref b13, .ref b14, .ref b15, .ref b16, .ref b17, .ref b18, .int 0, .ref b19])), (a7, .inr (0, [.ref b22, .int 0]))]) rfl ?_
  refine ax_istore_n (pc := 101) C d_CP_read_101 rfl (Nat.le_of_ble_eq_true rfl) ([(1, .int (-1)), (0, .ref a0)]) rfl ?_
  refine ax_aload_n (pc := 102) C d_CP_read_102 rfl 1 rfl ?_
  refine ax_iload_n (pc := 103) C d_CP_read_103 rfl 0 rfl ?_
  refine ax_iconst (pc := 104) C (-1) d_CP_read_104 (by decide +kernel) ?_
  refine ax_icmp_ne (pc := 105) C 112 d_CP_read_105 (by decide) (fun h => absurd h (by decide)) (fun _ => ?_)
  refine ax_iconst (pc := 108) C 0 d_CP_read_108 (by decide +kernel) ?_
  refine ax_goto (pc := 109) C 113 d_CP_read_109 (by decide) ?_
  refine ax_put (pc := 113) C k_CP 10 lk_CP_120 d_CP_read_113 (Nat.le_of_ble_eq_true rfl) 0 rfl rfl rfl rfl (Nat.le_of_ble_eq_true rfl) ?_
  refine ax_w ([(a0, .inr (11, [.ref a1, .ref b0, .ref b1, .ref a2, .ref a4, .ref a8, .ref b2, .ref a14, .ref a13, .ref b3, .int 0, .int 0])), (a1, .inr (0, [.ref b4, .int 0])), (a2, .inr (1, [.ref b5, .ref b6, .ref b7, .ref a3, .int 0, .int 1, .ref b8, .ref b9])), (a3, .inr (0, [.ref b10, .int 0])), (a10, .inr (0, [.ref b26, .int 0])), (a11, .inr (0, [.ref b27, .int 0])), (a12, .inr (0, [.ref b28, .int 0])), (a14, .inr (6, [.ref a10, .ref a11, .int 0, .int 0, .ref a2, .ref a12])), (a13, .inr (9, [.int 0, .int 0, .int 0, .int 0, .int 0, .int 0, .int 0, .ref a15, .ref a2, .ref a14, .ref b2, .ref b29, .ref b30, .ref b31])), (a15, .inr (0, [.ref b32, .int 0])), (a8, .inr (4, [.int 0, .int 0, .ref a9, .ref a2, .ref a4, .ref b23, .ref b24, .ref b25, .int 0])), (a5, .inr (0, [.ref b20, .int 0])), (a9, .inr (3, [.ref b4, .int 0, .int 0, .int 0, .int 0, .int 0, .int 0, .int 0])), (a6, .inr (0, [.ref b21, .int 0])), (a4, .inr (2, [.ref a5, .ref b11, .int 0, .int (-1), .ref a2, .ref a6, .ref a7, .ref b12, .ref b13, .ref b14, .ref b15, .ref b16, .ref b17, .ref b18, .int 0, .ref b19])), (a7, .inr (0, [.ref b22, .int 0]))]) rfl ?_
  refine ax_aload_n (pc := 116) C d_CP_read_116 rfl 1 rfl ?_
  refine ax_iload_n (pc := 117) C d_CP_read_117 rfl 0 rfl ?_
  refine ax_iconst (pc := 118) C (-1) d_CP_read_118 (by decide +kernel) ?_
  refine ax_icmp_ne (pc := 119) C 126 d_CP_read_119 (by decide) (fun h => absurd h (by decide)) (fun _ => ?_)
  refine ax_iconst (pc := 122) C 0 d_CP_read_122 (by decide +kernel) ?_
  refine ax_goto (pc := 123) C 127 d_CP_read_123 (by decide) ?_
  refine ax_put (pc := 127) C k_CP 11 lk_CP_126 d_CP_read_127 (Nat.le_of_ble_eq_true rfl) 0 rfl rfl rfl rfl (Nat.le_of_ble_eq_true rfl) ?_
  refine ax_w ([(a0, .inr (11, [.ref a1, .ref b0, .ref b1, .ref a2, .ref a4, .ref a8, .ref b2, .ref a14, .ref a13, .ref b3, .int 0, .int 0])), (a1, .inr (0, [.ref b4, .int 0])), (a2, .inr (1, [.ref b5, .ref b6, .ref b7, .ref a3, .int 0, .int 1, .ref b8, .ref b9])), (a3, .inr (0, [.ref b10, .int 0])), (a10, .inr (0, [.ref b26, .int 0])), (a11, .inr (0, [.ref b27, .int 0])), (a12, .inr (0, [.ref b28, .int 0])), (a14, .inr (6, [.ref a10, .ref a11, .int 0, .int 0, .ref a2, .ref a12])), (a13, .inr (9, [.int 0, .int 0, .int 0, .int 0, .int 0, .int 0, .int 0, .ref a15, .ref a2, .ref a14, .ref b2, .ref b29, .ref b30, .ref b31])), (a15, .inr (0, [.ref b32, .int 0])), (a8, .inr (4, [.int 0, .int 0, .ref a9, .ref a2, .ref a4, .ref b23, .ref b24, .ref b25, .int 0])), (a5, .inr (0, [.ref b20, .int 0])), (a9, .inr (3, [.ref b4, .int 0, .int 0, .int 0, .int 0, .int 0, .int 0, .int 0])), (a6, .inr (0, [.ref b21, .int 0])), (a4, .inr (2, [.ref a5, .ref b11, .int 0, .int (-1), .ref a2, .ref a6, .ref a7, .ref b12, .ref b13, .ref b14, .ref b15, .ref b16, .ref b17, .ref b18, .int 0, .ref b19])), (a7, .inr (0, [.ref b22, .int 0]))]) rfl ?_
  refine ax_aload_n (pc := 130) C d_CP_read_130 rfl 1 rfl ?_
  refine ax_get (pc := 131) C k_CP 10 lk_CP_120 d_CP_read_131 (Nat.le_of_ble_eq_true rfl) 0 rfl rfl ?_
  refine ax_if_eq (pc := 134) C 153 d_CP_read_134 (by decide) (fun _ => ?_) (fun h => absurd h (by decide))
  refine ax_aload_n (pc := 153) C d_CP_read_153 rfl 1 rfl ?_
  refine ax_get (pc := 154) C k_CP 7 lk_CP_60 d_CP_read_154 (Nat.le_of_ble_eq_true rfl) 0 rfl rfl ?_
  refine ax_aload_n (pc := 157) C d_CP_read_157 rfl 1 rfl ?_
  refine ax_get (pc := 158) C k_CP 7 lk_CP_60 d_CP_read_158 (Nat.le_of_ble_eq_true rfl) 0 rfl rfl ?_
  refine ax_get (pc := 161) C k_Sto 2 lk_CP_134 d_CP_read_161 (Nat.le_of_ble_eq_true rfl) 7 rfl rfl ?_
  refine ax_put (pc := 164) C k_Sto 3 lk_CP_135 d_CP_read_164 (Nat.le_of_ble_eq_true rfl) 7 rfl rfl rfl rfl (Nat.le_of_ble_eq_true rfl) ?_
  refine ax_w ([(a0, .inr (11, [.ref a1, .ref b0, .ref b1, .ref a2, .ref a4, .ref a8, .ref b2, .ref a14, .ref a13, .ref b3, .int 0, .int 0])), (a1, .inr (0, [.ref b4, .int 0])), (a2, .inr (1, [.ref b5, .ref b6, .ref b7, .ref a3, .int 0, .int 1, .ref b8, .ref b9])), (a3, .inr (0, [.ref b10, .int 0])), (a10, .inr (0, [.ref b26, .int 0])), (a11, .inr (0, [.ref b27, .int 0])), (a12, .inr (0, [.ref b28, .int 0])), (a14, .inr (6, [.ref a10, .ref a11, .int 0, .int 0, .ref a2, .ref a12])), (a13, .inr (9, [.int 0, .int 0, .int 0, .int 0, .int 0, .int 0, .int 0, .ref a15, .ref a2, .ref a14, .ref b2, .ref b29, .ref b30, .ref b31])), (a15, .inr (0, [.ref b32, .int 0])), (a8, .inr (4, [.int 0, .int 0, .ref a9, .ref a2, .ref a4, .ref b23, .ref b24, .ref b25, .int 0])), (a5, .inr (0, [.ref b20, .int 0])), (a9, .inr (3, [.ref b4, .int 0, .int 0, .int 0, .int 0, .int 0, .int 0, .int 0])), (a6, .inr (0, [.ref b21, .int 0])), (a4, .inr (2, [.ref a5, .ref b11, .int 0, .int (-1), .ref a2, .ref a6, .ref a7, .ref b12, .ref b13, .ref b14, .ref b15, .ref b16, .ref b17, .ref b18, .int 0, .ref b19])), (a7, .inr (0, [.ref b22, .int 0]))]) rfl ?_
  refine ax_aload_n (pc := 167) C d_CP_read_167 rfl 1 rfl ?_
  refine ax_get (pc := 168) C k_CP 7 lk_CP_60 d_CP_read_168 (Nat.le_of_ble_eq_true rfl) 0 rfl rfl ?_
  refine ax_get (pc := 171) C k_Sto 2 lk_CP_134 d_CP_read_171 (Nat.le_of_ble_eq_true rfl) 7 rfl rfl ?_
  exact ax_iret (pc := 174) C d_CP_read_174 ⟨rfl, rfl⟩ (by decide) (by decide)
