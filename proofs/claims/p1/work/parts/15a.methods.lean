abbrev b_Law_feed : ByteArray := method_3_code
def y_Law_feed : MethodName := ⟨"ClauseProverLaw", "feed", "(LClauseProver;IIIII[J)I"⟩
theorem d_Law_feed_0 : decode b_Law_feed 0 = .ok (.aload 6, 2) := by decide +kernel
theorem d_Law_feed_2 : decode b_Law_feed 2 = .ok (.iconst 0, 1) := by decide +kernel
theorem d_Law_feed_3 : decode b_Law_feed 3 = .ok (.aload_n 0, 1) := by decide +kernel
theorem d_Law_feed_4 : decode b_Law_feed 4 = .ok (.iload_n 1, 1) := by decide +kernel
theorem d_Law_feed_5 : decode b_Law_feed 5 = .ok (.iload_n 2, 1) := by decide +kernel
theorem d_Law_feed_6 : decode b_Law_feed 6 = .ok (.iload_n 3, 1) := by decide +kernel
theorem d_Law_feed_7 : decode b_Law_feed 7 = .ok (.iload 4, 2) := by decide +kernel
theorem d_Law_feed_9 : decode b_Law_feed 9 = .ok (.iload 5, 2) := by decide +kernel
theorem d_Law_feed_11 : decode b_Law_feed 11 = .ok (.invokevirtual 7, 3) := by decide +kernel
theorem d_Law_feed_14 : decode b_Law_feed 14 = .ok (.i2l, 1) := by decide +kernel
theorem d_Law_feed_15 : decode b_Law_feed 15 = .ok (.lastore, 1) := by decide +kernel
theorem d_Law_feed_16 : decode b_Law_feed 16 = .ok (.goto 7, 3) := by decide +kernel
theorem d_Law_feed_19 : decode b_Law_feed 19 = .ok (.astore 7, 2) := by decide +kernel
theorem d_Law_feed_21 : decode b_Law_feed 21 = .ok (.iconst 1, 1) := by decide +kernel
theorem d_Law_feed_22 : decode b_Law_feed 22 = .ok (.ireturn, 1) := by decide +kernel
theorem d_Law_feed_23 : decode b_Law_feed 23 = .ok (.iconst 0, 1) := by decide +kernel
theorem d_Law_feed_24 : decode b_Law_feed 24 = .ok (.ireturn, 1) := by decide +kernel
abbrev b_CP_feed : ByteArray := prog_1_method_2_code
def y_CP_feed : MethodName := ⟨"ClauseProver", "feed", "(IIIII)I"⟩
theorem d_CP_feed_0 : decode b_CP_feed 0 = .ok (.aload_n 0, 1) := by decide +kernel
theorem d_CP_feed_1 : decode b_CP_feed 1 = .ok (.getfield 14, 3) := by decide +kernel
theorem d_CP_feed_4 : decode b_CP_feed 4 = .ok (.getfield 82, 3) := by decide +kernel
theorem d_CP_feed_7 : decode b_CP_feed 7 = .ok (.bipush 20, 2) := by decide +kernel
theorem d_CP_feed_9 : decode b_CP_feed 9 = .ok (.iadd, 1) := by decide +kernel
theorem d_CP_feed_10 : decode b_CP_feed 10 = .ok (.ldc 86, 2) := by decide +kernel
theorem d_CP_feed_12 : decode b_CP_feed 12 = .ok (.if_icmp .le 13, 3) := by decide +kernel
theorem d_CP_feed_15 : decode b_CP_feed 15 = .ok (.new 87, 3) := by decide +kernel
theorem d_CP_feed_18 : decode b_CP_feed 18 = .ok (.dup, 1) := by decide +kernel
theorem d_CP_feed_19 : decode b_CP_feed 19 = .ok (.ldc 89, 2) := by decide +kernel
theorem d_CP_feed_21 : decode b_CP_feed 21 = .ok (.invokespecial 91, 3) := by decide +kernel
theorem d_CP_feed_24 : decode b_CP_feed 24 = .ok (.athrow, 1) := by decide +kernel
theorem d_CP_feed_25 : decode b_CP_feed 25 = .ok (.aload_n 0, 1) := by decide +kernel
theorem d_CP_feed_26 : decode b_CP_feed 26 = .ok (.iload_n 1, 1) := by decide +kernel
theorem d_CP_feed_27 : decode b_CP_feed 27 = .ok (.invokevirtual 94, 3) := by decide +kernel
theorem d_CP_feed_30 : decode b_CP_feed 30 = .ok (.aload_n 0, 1) := by decide +kernel
theorem d_CP_feed_31 : decode b_CP_feed 31 = .ok (.iload_n 2, 1) := by decide +kernel
theorem d_CP_feed_32 : decode b_CP_feed 32 = .ok (.invokevirtual 94, 3) := by decide +kernel
theorem d_CP_feed_35 : decode b_CP_feed 35 = .ok (.aload_n 0, 1) := by decide +kernel
theorem d_CP_feed_36 : decode b_CP_feed 36 = .ok (.iload_n 3, 1) := by decide +kernel
theorem d_CP_feed_37 : decode b_CP_feed 37 = .ok (.invokevirtual 94, 3) := by decide +kernel
theorem d_CP_feed_40 : decode b_CP_feed 40 = .ok (.aload_n 0, 1) := by decide +kernel
theorem d_CP_feed_41 : decode b_CP_feed 41 = .ok (.iload 4, 2) := by decide +kernel
theorem d_CP_feed_43 : decode b_CP_feed 43 = .ok (.invokevirtual 94, 3) := by decide +kernel
theorem d_CP_feed_46 : decode b_CP_feed 46 = .ok (.aload_n 0, 1) := by decide +kernel
theorem d_CP_feed_47 : decode b_CP_feed 47 = .ok (.iload 5, 2) := by decide +kernel
theorem d_CP_feed_49 : decode b_CP_feed 49 = .ok (.invokevirtual 94, 3) := by decide +kernel
theorem d_CP_feed_52 : decode b_CP_feed 52 = .ok (.aload_n 0, 1) := by decide +kernel
theorem d_CP_feed_53 : decode b_CP_feed 53 = .ok (.getfield 14, 3) := by decide +kernel
theorem d_CP_feed_56 : decode b_CP_feed 56 = .ok (.getfield 82, 3) := by decide +kernel
theorem d_CP_feed_59 : decode b_CP_feed 59 = .ok (.ireturn, 1) := by decide +kernel
abbrev b_CP_addBytes : ByteArray := prog_1_method_3_code
def y_CP_addBytes : MethodName := ⟨"ClauseProver", "addBytes", "(I)V"⟩
theorem d_CP_addBytes_0 : decode b_CP_addBytes 0 = .ok (.bipush 24, 2) := by decide +kernel
theorem d_CP_addBytes_2 : decode b_CP_addBytes 2 = .ok (.istore_n 2, 1) := by decide +kernel
theorem d_CP_addBytes_3 : decode b_CP_addBytes 3 = .ok (.iload_n 2, 1) := by decide +kernel
theorem d_CP_addBytes_4 : decode b_CP_addBytes 4 = .ok (.ifCond .lt 23, 3) := by decide +kernel
theorem d_CP_addBytes_7 : decode b_CP_addBytes 7 = .ok (.aload_n 0, 1) := by decide +kernel
theorem d_CP_addBytes_8 : decode b_CP_addBytes 8 = .ok (.getfield 14, 3) := by decide +kernel
theorem d_CP_addBytes_11 : decode b_CP_addBytes 11 = .ok (.iload_n 1, 1) := by decide +kernel
theorem d_CP_addBytes_12 : decode b_CP_addBytes 12 = .ok (.iload_n 2, 1) := by decide +kernel
theorem d_CP_addBytes_13 : decode b_CP_addBytes 13 = .ok (.iushr, 1) := by decide +kernel
theorem d_CP_addBytes_14 : decode b_CP_addBytes 14 = .ok (.sipush 255, 3) := by decide +kernel
theorem d_CP_addBytes_17 : decode b_CP_addBytes 17 = .ok (.iand, 1) := by decide +kernel
theorem d_CP_addBytes_18 : decode b_CP_addBytes 18 = .ok (.invokevirtual 97, 3) := by decide +kernel
theorem d_CP_addBytes_21 : decode b_CP_addBytes 21 = .ok (.iinc 2 (-8), 3) := by decide +kernel
theorem d_CP_addBytes_24 : decode b_CP_addBytes 24 = .ok (.goto (-21), 3) := by decide +kernel
theorem d_CP_addBytes_27 : decode b_CP_addBytes 27 = .ok (.return_, 1) := by decide +kernel
abbrev b_Row_add : ByteArray := prog_7_method_2_code
def y_Row_add : MethodName := ⟨"ClauseProver$Row", "add", "(I)V"⟩
theorem d_Row_add_0 : decode b_Row_add 0 = .ok (.aload_n 0, 1) := by decide +kernel
theorem d_Row_add_1 : decode b_Row_add 1 = .ok (.getfield 13, 3) := by decide +kernel
theorem d_Row_add_4 : decode b_Row_add 4 = .ok (.aload_n 0, 1) := by decide +kernel
theorem d_Row_add_5 : decode b_Row_add 5 = .ok (.getfield 7, 3) := by decide +kernel
theorem d_Row_add_8 : decode b_Row_add 8 = .ok (.arraylength, 1) := by decide +kernel
theorem d_Row_add_9 : decode b_Row_add 9 = .ok (.if_icmp .ne 22, 3) := by decide +kernel
theorem d_Row_add_12 : decode b_Row_add 12 = .ok (.aload_n 0, 1) := by decide +kernel
theorem d_Row_add_13 : decode b_Row_add 13 = .ok (.aload_n 0, 1) := by decide +kernel
theorem d_Row_add_14 : decode b_Row_add 14 = .ok (.getfield 7, 3) := by decide +kernel
theorem d_Row_add_17 : decode b_Row_add 17 = .ok (.iconst 2, 1) := by decide +kernel
theorem d_Row_add_18 : decode b_Row_add 18 = .ok (.aload_n 0, 1) := by decide +kernel
theorem d_Row_add_19 : decode b_Row_add 19 = .ok (.getfield 13, 3) := by decide +kernel
theorem d_Row_add_22 : decode b_Row_add 22 = .ok (.imul, 1) := by decide +kernel
theorem d_Row_add_23 : decode b_Row_add 23 = .ok (.iconst 1, 1) := by decide +kernel
theorem d_Row_add_24 : decode b_Row_add 24 = .ok (.iadd, 1) := by decide +kernel
theorem d_Row_add_25 : decode b_Row_add 25 = .ok (.invokestatic 17, 3) := by decide +kernel
theorem d_Row_add_28 : decode b_Row_add 28 = .ok (.putfield 7, 3) := by decide +kernel
theorem d_Row_add_31 : decode b_Row_add 31 = .ok (.aload_n 0, 1) := by decide +kernel
theorem d_Row_add_32 : decode b_Row_add 32 = .ok (.getfield 7, 3) := by decide +kernel
theorem d_Row_add_35 : decode b_Row_add 35 = .ok (.aload_n 0, 1) := by decide +kernel
theorem d_Row_add_36 : decode b_Row_add 36 = .ok (.dup, 1) := by decide +kernel
theorem d_Row_add_37 : decode b_Row_add 37 = .ok (.getfield 13, 3) := by decide +kernel
theorem d_Row_add_40 : decode b_Row_add 40 = .ok (.dup_x1, 1) := by decide +kernel
theorem d_Row_add_41 : decode b_Row_add 41 = .ok (.iconst 1, 1) := by decide +kernel
theorem d_Row_add_42 : decode b_Row_add 42 = .ok (.iadd, 1) := by decide +kernel
theorem d_Row_add_43 : decode b_Row_add 43 = .ok (.putfield 13, 3) := by decide +kernel
theorem d_Row_add_46 : decode b_Row_add 46 = .ok (.iload_n 1, 1) := by decide +kernel
theorem d_Row_add_47 : decode b_Row_add 47 = .ok (.iastore, 1) := by decide +kernel
theorem d_Row_add_48 : decode b_Row_add 48 = .ok (.return_, 1) := by decide +kernel
theorem lk_CP_82 : Cond.fieldLink "ClauseProver" 82 (F_Row 1).1 (F_Row 1).2.1 (F_Row 1).2.2.1 ∈ lw_tbg := tb_in (i := 57) (by decide +kernel) rfl
theorem tb_constant_899 : Cond.constant "ClauseProver" 86 65536 ∈ lw_tbg := tb_in (i := 899) (by decide +kernel) rfl
theorem lk_Row_13 : Cond.fieldLink "ClauseProver$Row" 13 (F_Row 1).1 (F_Row 1).2.1 (F_Row 1).2.2.1 ∈ lw_tbg := tb_in (i := 56) (by decide +kernel) rfl
theorem tb_constant_1911 : Cond.constant "ClauseProverModel" 400 65516 ∈ lw_tbg := tb_in (i := 1911) (by decide +kernel) rfl
set_option maxHeartbeats 4000000 in
set_option maxRecDepth 100000 in
theorem m4_Row_add (l : Launch) (D : va_G) (kA : Nat → ClassId) (a0 : Nat) (a1 : Nat) (i0 : Int32) : ax_Mv l D kA y_Row_add b_Row_add 2 0 0 0 0 [.ref a0, .int i0] [(a0, .inr (0, [.ref a1, .int 0])), (a1, .inl (kA 0, 256, .inl (fun _ => 0)))] (fun w1 => w1 = [(a0, .inr (0, [.ref a1, .int 1])), (a1, .inl (kA 0, 256, .inl (upd (fun _ => 0) (Int32.toNatClampNeg 0) i0)))]) := by
  refine ax_Mv.of (by decide +kernel) (Nat.le_of_ble_eq_true rfl) ?_
  intro p e s m args below meth c C hnm
  refine ax_ls ([(0, .ref a0), (1, .int i0)]) [0, 1] rfl ?_
  refine ax_aload_n (pc := 0) C d_Row_add_0 rfl 0 rfl ?_
  refine ax_get (pc := 1) C k_Row 1 lk_Row_13 d_Row_add_1 (Nat.le_of_ble_eq_true rfl) 0 rfl rfl ?_
  refine ax_aload_n (pc := 4) C d_Row_add_4 rfl 0 rfl ?_
  refine ax_get (pc := 5) C k_Row 0 lk_Row_7 d_Row_add_5 (Nat.le_of_ble_eq_true rfl) 0 rfl rfl ?_
  refine ax_alen (pc := 8) C 1 0 rfl rfl 256 rfl d_Row_add_8 ?_
  refine ax_icmp_ne (pc := 9) C 31 d_Row_add_9 (by decide) (fun _ => ?_) (fun h => absurd h (by decide))
  refine ax_aload_n (pc := 31) C d_Row_add_31 rfl 0 rfl ?_
  refine ax_get (pc := 32) C k_Row 0 lk_Row_7 d_Row_add_32 (Nat.le_of_ble_eq_true rfl) 0 rfl rfl ?_
  refine ax_aload_n (pc := 35) C d_Row_add_35 rfl 0 rfl ?_
  refine ax_dup (pc := 36) C d_Row_add_36 rfl ?_
  refine ax_get (pc := 37) C k_Row 1 lk_Row_13 d_Row_add_37 (Nat.le_of_ble_eq_true rfl) 0 rfl rfl ?_
  refine ax_dup_x1 (pc := 40) C d_Row_add_40 rfl rfl ?_
  refine ax_iconst (pc := 41) C 1 d_Row_add_41 (by decide +kernel) ?_
  refine ax_iadd (pc := 42) C d_Row_add_42 ?_
  refine ax_nrm 1 (by decide) ?_
  refine ax_put (pc := 43) C k_Row 1 lk_Row_13 d_Row_add_43 (Nat.le_of_ble_eq_true rfl) 0 rfl rfl rfl rfl (Nat.le_of_ble_eq_true rfl) ?_
  refine ax_w ([(a0, .inr (0, [.ref a1, .int 1])), (a1, .inl (kA 0, 256, .inl (fun _ => 0)))]) rfl ?_
  refine ax_iload_n (pc := 46) C d_Row_add_46 rfl 1 rfl ?_
  refine ax_iast (pc := 47) C 1 rfl d_Row_add_47 (by unfold vp_in; decide) ?_
  refine ax_w ([(a0, .inr (0, [.ref a1, .int 1])), (a1, .inl (kA 0, 256, .inl (upd (fun _ => 0) (Int32.toNatClampNeg 0) i0)))]) rfl ?_
  exact ax_vret (pc := 48) C d_Row_add_48 rfl (by decide) (by decide)
theorem tc_Row_add : Cond.code y_Row_add b_Row_add 2 none ∈ lw_tbg := tb_in (i := 600) (by decide +kernel) rfl
theorem ml_CP_97 : ax_LV "ClauseProver" 97 y_Row_add b_Row_add 2 none 1 := ax_LV.mk (tb_in (i := 975) (by decide +kernel) rfl) (tb_in (i := 598) (by decide +kernel) rfl) (tb_in (i := 599) (by decide +kernel) rfl) ti_Row tc_Row_add (by decide +kernel)
set_option maxHeartbeats 4000000 in
set_option maxRecDepth 100000 in
theorem m5_Row_add (l : Launch) (D : va_G) (kA : Nat → ClassId) (a0 : Nat) (a1 : Nat) (i0 : Int32) (f0 : Nat → Int32) : ax_Mv l D kA y_Row_add b_Row_add 2 0 0 0 0 [.ref a0, .int i0] [(a0, .inr (0, [.ref a1, .int 1])), (a1, .inl (kA 0, 256, .inl f0))] (fun w1 => w1 = [(a0, .inr (0, [.ref a1, .int 2])), (a1, .inl (kA 0, 256, .inl (upd f0 (Int32.toNatClampNeg 1) i0)))]) := by
  refine ax_Mv.of (by decide +kernel) (Nat.le_of_ble_eq_true rfl) ?_
  intro p e s m args below meth c C hnm
  refine ax_ls ([(0, .ref a0), (1, .int i0)]) [0, 1] rfl ?_
  refine ax_aload_n (pc := 0) C d_Row_add_0 rfl 0 rfl ?_
  refine ax_get (pc := 1) C k_Row 1 lk_Row_13 d_Row_add_1 (Nat.le_of_ble_eq_true rfl) 0 rfl rfl ?_
  refine ax_aload_n (pc := 4) C d_Row_add_4 rfl 0 rfl ?_
  refine ax_get (pc := 5) C k_Row 0 lk_Row_7 d_Row_add_5 (Nat.le_of_ble_eq_true rfl) 0 rfl rfl ?_
  refine ax_alen (pc := 8) C 1 0 rfl rfl 256 rfl d_Row_add_8 ?_
  refine ax_icmp_ne (pc := 9) C 31 d_Row_add_9 (by decide) (fun _ => ?_) (fun h => absurd h (by decide))
  refine ax_aload_n (pc := 31) C d_Row_add_31 rfl 0 rfl ?_
  refine ax_get (pc := 32) C k_Row 0 lk_Row_7 d_Row_add_32 (Nat.le_of_ble_eq_true rfl) 0 rfl rfl ?_
  refine ax_aload_n (pc := 35) C d_Row_add_35 rfl 0 rfl ?_
  refine ax_dup (pc := 36) C d_Row_add_36 rfl ?_
  refine ax_get (pc := 37) C k_Row 1 lk_Row_13 d_Row_add_37 (Nat.le_of_ble_eq_true rfl) 0 rfl rfl ?_
  refine ax_dup_x1 (pc := 40) C d_Row_add_40 rfl rfl ?_
  refine ax_iconst (pc := 41) C 1 d_Row_add_41 (by decide +kernel) ?_
  refine ax_iadd (pc := 42) C d_Row_add_42 ?_
  refine ax_nrm 2 (by decide) ?_
  refine ax_put (pc := 43) C k_Row 1 lk_Row_13 d_Row_add_43 (Nat.le_of_ble_eq_true rfl) 0 rfl rfl rfl rfl (Nat.le_of_ble_eq_true rfl) ?_
  refine ax_w ([(a0, .inr (0, [.ref a1, .int 2])), (a1, .inl (kA 0, 256, .inl f0))]) rfl ?_
  refine ax_iload_n (pc := 46) C d_Row_add_46 rfl 1 rfl ?_
  refine ax_iast (pc := 47) C 1 rfl d_Row_add_47 (by unfold vp_in; decide) ?_
  refine ax_w ([(a0, .inr (0, [.ref a1, .int 2])), (a1, .inl (kA 0, 256, .inl (upd f0 (Int32.toNatClampNeg 1) i0)))]) rfl ?_
  exact ax_vret (pc := 48) C d_Row_add_48 rfl (by decide) (by decide)
set_option maxHeartbeats 4000000 in
set_option maxRecDepth 100000 in
theorem m6_Row_add (l : Launch) (D : va_G) (kA : Nat → ClassId) (a0 : Nat) (a1 : Nat) (i0 : Int32) (f0 : Nat → Int32) : ax_Mv l D kA y_Row_add b_Row_add 2 0 0 0 0 [.ref a0, .int i0] [(a0, .inr (0, [.ref a1, .int 2])), (a1, .inl (kA 0, 256, .inl f0))] (fun w1 => w1 = [(a0, .inr (0, [.ref a1, .int 3])), (a1, .inl (kA 0, 256, .inl (upd f0 (Int32.toNatClampNeg 2) i0)))]) := by
  refine ax_Mv.of (by decide +kernel) (Nat.le_of_ble_eq_true rfl) ?_
  intro p e s m args below meth c C hnm
  refine ax_ls ([(0, .ref a0), (1, .int i0)]) [0, 1] rfl ?_
  refine ax_aload_n (pc := 0) C d_Row_add_0 rfl 0 rfl ?_
  refine ax_get (pc := 1) C k_Row 1 lk_Row_13 d_Row_add_1 (Nat.le_of_ble_eq_true rfl) 0 rfl rfl ?_
  refine ax_aload_n (pc := 4) C d_Row_add_4 rfl 0 rfl ?_
  refine ax_get (pc := 5) C k_Row 0 lk_Row_7 d_Row_add_5 (Nat.le_of_ble_eq_true rfl) 0 rfl rfl ?_
  refine ax_alen (pc := 8) C 1 0 rfl rfl 256 rfl d_Row_add_8 ?_
  refine ax_icmp_ne (pc := 9) C 31 d_Row_add_9 (by decide) (fun _ => ?_) (fun h => absurd h (by decide))
  refine ax_aload_n (pc := 31) C d_Row_add_31 rfl 0 rfl ?_
  refine ax_get (pc := 32) C k_Row 0 lk_Row_7 d_Row_add_32 (Nat.le_of_ble_eq_true rfl) 0 rfl rfl ?_
  refine ax_aload_n (pc := 35) C d_Row_add_35 rfl 0 rfl ?_
  refine ax_dup (pc := 36) C d_Row_add_36 rfl ?_
  refine ax_get (pc := 37) C k_Row 1 lk_Row_13 d_Row_add_37 (Nat.le_of_ble_eq_true rfl) 0 rfl rfl ?_
  refine ax_dup_x1 (pc := 40) C d_Row_add_40 rfl rfl ?_
  refine ax_iconst (pc := 41) C 1 d_Row_add_41 (by decide +kernel) ?_
  refine ax_iadd (pc := 42) C d_Row_add_42 ?_
  refine ax_nrm 3 (by decide) ?_
  refine ax_put (pc := 43) C k_Row 1 lk_Row_13 d_Row_add_43 (Nat.le_of_ble_eq_true rfl) 0 rfl rfl rfl rfl (Nat.le_of_ble_eq_true rfl) ?_
  refine ax_w ([(a0, .inr (0, [.ref a1, .int 3])), (a1, .inl (kA 0, 256, .inl f0))]) rfl ?_
  refine ax_iload_n (pc := 46) C d_Row_add_46 rfl 1 rfl ?_
  refine ax_iast (pc := 47) C 1 rfl d_Row_add_47 (by unfold vp_in; decide) ?_
  refine ax_w ([(a0, .inr (0, [.ref a1, .int 3])), (a1, .inl (kA 0, 256, .inl (upd f0 (Int32.toNatClampNeg 2) i0)))]) rfl ?_
  exact ax_vret (pc := 48) C d_Row_add_48 rfl (by decide) (by decide)
set_option maxHeartbeats 4000000 in
set_option maxRecDepth 100000 in
theorem m7_Row_add (l : Launch) (D : va_G) (kA : Nat → ClassId) (a0 : Nat) (a1 : Nat) (i0 : Int32) (f0 : Nat → Int32) : ax_Mv l D kA y_Row_add b_Row_add 2 0 0 0 0 [.ref a0, .int i0] [(a0, .inr (0, [.ref a1, .int 3])), (a1, .inl (kA 0, 256, .inl f0))] (fun w1 => w1 = [(a0, .inr (0, [.ref a1, .int 4])), (a1, .inl (kA 0, 256, .inl (upd f0 (Int32.toNatClampNeg 3) i0)))]) := by
  refine ax_Mv.of (by decide +kernel) (Nat.le_of_ble_eq_true rfl) ?_
  intro p e s m args below meth c C hnm
  refine ax_ls ([(0, .ref a0), (1, .int i0)]) [0, 1] rfl ?_
  refine ax_aload_n (pc := 0) C d_Row_add_0 rfl 0 rfl ?_
  refine ax_get (pc := 1) C k_Row 1 lk_Row_13 d_Row_add_1 (Nat.le_of_ble_eq_true rfl) 0 rfl rfl ?_
  refine ax_aload_n (pc := 4) C d_Row_add_4 rfl 0 rfl ?_
  refine ax_get (pc := 5) C k_Row 0 lk_Row_7 d_Row_add_5 (Nat.le_of_ble_eq_true rfl) 0 rfl rfl ?_
  refine ax_alen (pc := 8) C 1 0 rfl rfl 256 rfl d_Row_add_8 ?_
  refine ax_icmp_ne (pc := 9) C 31 d_Row_add_9 (by decide) (fun _ => ?_) (fun h => absurd h (by decide))
  refine ax_aload_n (pc := 31) C d_Row_add_31 rfl 0 rfl ?_
  refine ax_get (pc := 32) C k_Row 0 lk_Row_7 d_Row_add_32 (Nat.le_of_ble_eq_true rfl) 0 rfl rfl ?_
  refine ax_aload_n (pc := 35) C d_Row_add_35 rfl 0 rfl ?_
  refine ax_dup (pc := 36) C d_Row_add_36 rfl ?_
  refine ax_get (pc := 37) C k_Row 1 lk_Row_13 d_Row_add_37 (Nat.le_of_ble_eq_true rfl) 0 rfl rfl ?_
  refine ax_dup_x1 (pc := 40) C d_Row_add_40 rfl rfl ?_
  refine ax_iconst (pc := 41) C 1 d_Row_add_41 (by decide +kernel) ?_
  refine ax_iadd (pc := 42) C d_Row_add_42 ?_
  refine ax_nrm 4 (by decide) ?_
  refine ax_put (pc := 43) C k_Row 1 lk_Row_13 d_Row_add_43 (Nat.le_of_ble_eq_true rfl) 0 rfl rfl rfl rfl (Nat.le_of_ble_eq_true rfl) ?_
  refine ax_w ([(a0, .inr (0, [.ref a1, .int 4])), (a1, .inl (kA 0, 256, .inl f0))]) rfl ?_
  refine ax_iload_n (pc := 46) C d_Row_add_46 rfl 1 rfl ?_
  refine ax_iast (pc := 47) C 1 rfl d_Row_add_47 (by unfold vp_in; decide) ?_
  refine ax_w ([(a0, .inr (0, [.ref a1, .int 4])), (a1, .inl (kA 0, 256, .inl (upd f0 (Int32.toNatClampNeg 3) i0)))]) rfl ?_
  exact ax_vret (pc := 48) C d_Row_add_48 rfl (by decide) (by decide)
set_option maxHeartbeats 4000000 in
set_option maxRecDepth 100000 in
theorem m3_CP_addBytes (l : Launch) (D : va_G) (kA : Nat → ClassId) (a0 : Nat) (a1 : Nat) (a2 : Nat) (b0 : Nat) (b1 : Nat) (b2 : Nat) (b3 : Nat) (b4 : Nat) (b5 : Nat) (b6 : Nat) (b7 : Nat) (b8 : Nat) (i0 : Int32) : ax_Mv l D kA y_CP_addBytes b_CP_addBytes 3 1 21 0 0 [.ref a0, .int i0] [(a0, .inr (11, [.ref a1, .ref b0, .ref b1, .ref b2, .ref b3, .ref b4, .ref b5, .ref b6, .ref b7, .ref b8, .int 0, .int 0])), (a1, .inr (0, [.ref a2, .int 0])), (a2, .inl (kA 0, 256, .inl (fun _ => 0)))] (fun w1 => w1 = [(a0, .inr (11, [.ref a1, .ref b0, .ref b1, .ref b2, .ref b3, .ref b4, .ref b5, .ref b6, .ref b7, .ref b8, .int 0, .int 0])), (a1, .inr (0, [.ref a2, .int 4])), (a2, .inl (kA 0, 256, .inl (upd (upd (upd (upd (fun _ => 0) (Int32.toNatClampNeg 0) ((((i0 : Int32).toUInt32 >>> ((24 : Int32).toUInt32 &&& Int32.toUInt32 31)).toInt32) &&& 255)) (Int32.toNatClampNeg 1) ((((i0 : Int32).toUInt32 >>> ((16 : Int32).toUInt32 &&& Int32.toUInt32 31)).toInt32) &&& 255)) (Int32.toNatClampNeg 2) ((((i0 : Int32).toUInt32 >>> ((8 : Int32).toUInt32 &&& Int32.toUInt32 31)).toInt32) &&& 255)) (Int32.toNatClampNeg 3) ((((i0 : Int32).toUInt32 >>> ((0 : Int32).toUInt32 &&& Int32.toUInt32 31)).toInt32) &&& 255))))]) := by
  refine ax_Mv.of (by decide +kernel) (Nat.le_of_ble_eq_true rfl) ?_
  intro p e s m args below meth c C hnm
  refine ax_ls ([(0, .ref a0), (1, .int i0)]) [0, 1] rfl ?_
  refine ax_bipush (pc := 0) C 24 d_CP_addBytes_0 (by decide +kernel) ?_
  refine ax_istore_n (pc := 2) C d_CP_addBytes_2 rfl (Nat.le_of_ble_eq_true rfl) ([(2, .int 24), (0, .ref a0), (1, .int i0)]) rfl ?_
  refine ax_iload_n (pc := 3) C d_CP_addBytes_3 rfl 0 rfl ?_
  refine ax_if_lt (pc := 4) C 27 d_CP_addBytes_4 (by decide) (fun h => absurd h (by decide)) (fun _ => ?_)
  refine ax_aload_n (pc := 7) C d_CP_addBytes_7 rfl 1 rfl ?_
  refine ax_get (pc := 8) C k_CP 0 lk_CP_14 d_CP_addBytes_8 (Nat.le_of_ble_eq_true rfl) 0 rfl rfl ?_
  refine ax_iload_n (pc := 11) C d_CP_addBytes_11 rfl 2 rfl ?_
  refine ax_iload_n (pc := 12) C d_CP_addBytes_12 rfl 0 rfl ?_
  refine ax_iushr (pc := 13) C (((i0 : Int32).toUInt32 >>> ((24 : Int32).toUInt32 &&& Int32.toUInt32 31)).toInt32) d_CP_addBytes_13 rfl ?_
  refine ax_sipush (pc := 14) C 255 d_CP_addBytes_14 (by decide +kernel) ?_
  refine ax_iand (pc := 17) C d_CP_addBytes_17 ?_
  refine ax_callVv (pc := 18) C (As := [.int ((((i0 : Int32).toUInt32 >>> ((24 : Int32).toUInt32 &&& Int32.toUInt32 31)).toInt32) &&& 255)]) (rest := []) (wr := [(a0, .inr (11, [.ref a1, .ref b0, .ref b1, .ref b2, .ref b3, .ref b4, .ref b5, .ref b6, .ref b7, .ref b8, .int 0, .int 0]))]) (m4_Row_add l D kA a1 a2 ((((i0 : Int32).toUInt32 >>> ((24 : Int32).toUInt32 &&& Int32.toUInt32 31)).toInt32) &&& 255)) ml_CP_97 1 rfl rfl rfl d_CP_addBytes_18 rfl rfl [1, 2] [0] rfl (by decide) rfl (by decide) (by decide) (Nat.le_of_ble_eq_true rfl) (Nat.le_of_ble_eq_true rfl) (Nat.le_of_ble_eq_true rfl) (Nat.le_of_ble_eq_true rfl) (Nat.le_of_ble_eq_true rfl) (fun w1 hw1 => ?_)
  obtain rfl := hw1
  refine ax_w ([(a0, .inr (11, [.ref a1, .ref b0, .ref b1, .ref b2, .ref b3, .ref b4, .ref b5, .ref b6, .ref b7, .ref b8, .int 0, .int 0])), (a1, .inr (0, [.ref a2, .int 1])), (a2, .inl (kA 0, 256, .inl (upd (fun _ => 0) (Int32.toNatClampNeg 0) ((((i0 : Int32).toUInt32 >>> ((24 : Int32).toUInt32 &&& Int32.toUInt32 31)).toInt32) &&& 255))))]) rfl ?_
  refine ax_iinc (pc := 21) C (16) d_CP_addBytes_21 0 rfl (by decide) (Nat.le_of_ble_eq_true rfl) ([(2, .int 16), (0, .ref a0), (1, .int i0)]) rfl ?_
  refine ax_goto (pc := 24) C 3 d_CP_addBytes_24 (by decide) ?_
  refine ax_iload_n (pc := 3) C d_CP_addBytes_3 rfl 0 rfl ?_
  refine ax_if_lt (pc := 4) C 27 d_CP_addBytes_4 (by decide) (fun h => absurd h (by decide)) (fun _ => ?_)
  refine ax_aload_n (pc := 7) C d_CP_addBytes_7 rfl 1 rfl ?_
  refine ax_get (pc := 8) C k_CP 0 lk_CP_14 d_CP_addBytes_8 (Nat.le_of_ble_eq_true rfl) 0 rfl rfl ?_
  refine ax_iload_n (pc := 11) C d_CP_addBytes_11 rfl 2 rfl ?_
  refine ax_iload_n (pc := 12) C d_CP_addBytes_12 rfl 0 rfl ?_
  refine ax_iushr (pc := 13) C (((i0 : Int32).toUInt32 >>> ((16 : Int32).toUInt32 &&& Int32.toUInt32 31)).toInt32) d_CP_addBytes_13 rfl ?_
  refine ax_sipush (pc := 14) C 255 d_CP_addBytes_14 (by decide +kernel) ?_
  refine ax_iand (pc := 17) C d_CP_addBytes_17 ?_
  refine ax_callVv (pc := 18) C (As := [.int ((((i0 : Int32).toUInt32 >>> ((16 : Int32).toUInt32 &&& Int32.toUInt32 31)).toInt32) &&& 255)]) (rest := []) (wr := [(a0, .inr (11, [.ref a1, .ref b0, .ref b1, .ref b2, .ref b3, .ref b4, .ref b5, .ref b6, .ref b7, .ref b8, .int 0, .int 0]))]) (m5_Row_add l D kA a1 a2 ((((i0 : Int32).toUInt32 >>> ((16 : Int32).toUInt32 &&& Int32.toUInt32 31)).toInt32) &&& 255) (upd (fun _ => 0) (Int32.toNatClampNeg 0) ((((i0 : Int32).toUInt32 >>> ((24 : Int32).toUInt32 &&& Int32.toUInt32 31)).toInt32) &&& 255))) ml_CP_97 1 rfl rfl rfl d_CP_addBytes_18 rfl rfl [1, 2] [0] rfl (by decide) rfl (by decide) (by decide) (Nat.le_of_ble_eq_true rfl) (Nat.le_of_ble_eq_true rfl) (Nat.le_of_ble_eq_true rfl) (Nat.le_of_ble_eq_true rfl) (Nat.le_of_ble_eq_true rfl) (fun w1 hw1 => ?_)
  obtain rfl := hw1
  refine ax_w ([(a0, .inr (11, [.ref a1, .ref b0, .ref b1, .ref b2, .ref b3, .ref b4, .ref b5, .ref b6, .ref b7, .ref b8, .int 0, .int 0])), (a1, .inr (0, [.ref a2, .int 2])), (a2, .inl (kA 0, 256, .inl (upd (upd (fun _ => 0) (Int32.toNatClampNeg 0) ((((i0 : Int32).toUInt32 >>> ((24 : Int32).toUInt32 &&& Int32.toUInt32 31)).toInt32) &&& 255)) (Int32.toNatClampNeg 1) ((((i0 : Int32).toUInt32 >>> ((16 : Int32).toUInt32 &&& Int32.toUInt32 31)).toInt32) &&& 255))))]) rfl ?_
  refine ax_iinc (pc := 21) C (8) d_CP_addBytes_21 0 rfl (by decide) (Nat.le_of_ble_eq_true rfl) ([(2, .int 8), (0, .ref a0), (1, .int i0)]) rfl ?_
  refine ax_goto (pc := 24) C 3 d_CP_addBytes_24 (by decide) ?_
  refine ax_iload_n (pc := 3) C d_CP_addBytes_3 rfl 0 rfl ?_
  refine ax_if_lt (pc := 4) C 27 d_CP_addBytes_4 (by decide) (fun h => absurd h (by decide)) (fun _ => ?_)
  refine ax_aload_n (pc := 7) C d_CP_addBytes_7 rfl 1 rfl ?_
  refine ax_get (pc := 8) C k_CP 0 lk_CP_14 d_CP_addBytes_8 (Nat.le_of_ble_eq_true rfl) 0 rfl rfl ?_
  refine ax_iload_n (pc := 11) C d_CP_addBytes_11 rfl 2 rfl ?_
  refine ax_iload_n (pc := 12) C d_CP_addBytes_12 rfl 0 rfl ?_
  refine ax_iushr (pc := 13) C (((i0 : Int32).toUInt32 >>> ((8 : Int32).toUInt32 &&& Int32.toUInt32 31)).toInt32) d_CP_addBytes_13 rfl ?_
  refine ax_sipush (pc := 14) C 255 d_CP_addBytes_14 (by decide +kernel) ?_
  refine ax_iand (pc := 17) C d_CP_addBytes_17 ?_
  refine ax_callVv (pc := 18) C (As := [.int ((((i0 : Int32).toUInt32 >>> ((8 : Int32).toUInt32 &&& Int32.toUInt32 31)).toInt32) &&& 255)]) (rest := []) (wr := [(a0, .inr (11, [.ref a1, .ref b0, .ref b1, .ref b2, .ref b3, .ref b4, .ref b5, .ref b6, .ref b7, .ref b8, .int 0, .int 0]))]) (m6_Row_add l D kA a1 a2 ((((i0 : Int32).toUInt32 >>> ((8 : Int32).toUInt32 &&& Int32.toUInt32 31)).toInt32) &&& 255) (upd (upd (fun _ => 0) (Int32.toNatClampNeg 0) ((((i0 : Int32).toUInt32 >>> ((24 : Int32).toUInt32 &&& Int32.toUInt32 31)).toInt32) &&& 255)) (Int32.toNatClampNeg 1) ((((i0 : Int32).toUInt32 >>> ((16 : Int32).toUInt32 &&& Int32.toUInt32 31)).toInt32) &&& 255))) ml_CP_97 1 rfl rfl rfl d_CP_addBytes_18 rfl rfl [1, 2] [0] rfl (by decide) rfl (by decide) (by decide) (Nat.le_of_ble_eq_true rfl) (Nat.le_of_ble_eq_true rfl) (Nat.le_of_ble_eq_true rfl) (Nat.le_of_ble_eq_true rfl) (Nat.le_of_ble_eq_true rfl) (fun w1 hw1 => ?_)
  obtain rfl := hw1
  refine ax_w ([(a0, .inr (11, [.ref a1, .ref b0, .ref b1, .ref b2, .ref b3, .ref b4, .ref b5, .ref b6, .ref b7, .ref b8, .int 0, .int 0])), (a1, .inr (0, [.ref a2, .int 3])), (a2, .inl (kA 0, 256, .inl (upd (upd (upd (fun _ => 0) (Int32.toNatClampNeg 0) ((((i0 : Int32).toUInt32 >>> ((24 : Int32).toUInt32 &&& Int32.toUInt32 31)).toInt32) &&& 255)) (Int32.toNatClampNeg 1) ((((i0 : Int32).toUInt32 >>> ((16 : Int32).toUInt32 &&& Int32.toUInt32 31)).toInt32) &&& 255)) (Int32.toNatClampNeg 2) ((((i0 : Int32).toUInt32 >>> ((8 : Int32).toUInt32 &&& Int32.toUInt32 31)).toInt32) &&& 255))))]) rfl ?_
  refine ax_iinc (pc := 21) C (0) d_CP_addBytes_21 0 rfl (by decide) (Nat.le_of_ble_eq_true rfl) ([(2, .int 0), (0, .ref a0), (1, .int i0)]) rfl ?_
  refine ax_goto (pc := 24) C 3 d_CP_addBytes_24 (by decide) ?_
  refine ax_iload_n (pc := 3) C d_CP_addBytes_3 rfl 0 rfl ?_
  refine ax_if_lt (pc := 4) C 27 d_CP_addBytes_4 (by decide) (fun h => absurd h (by decide)) (fun _ => ?_)
  refine ax_aload_n (pc := 7) C d_CP_addBytes_7 rfl 1 rfl ?_
  refine ax_get (pc := 8) C k_CP 0 lk_CP_14 d_CP_addBytes_8 (Nat.le_of_ble_eq_true rfl) 0 rfl rfl ?_
  refine ax_iload_n (pc := 11) C d_CP_addBytes_11 rfl 2 rfl ?_
  refine ax_iload_n (pc := 12) C d_CP_addBytes_12 rfl 0 rfl ?_
  refine ax_iushr (pc := 13) C (((i0 : Int32).toUInt32 >>> ((0 : Int32).toUInt32 &&& Int32.toUInt32 31)).toInt32) d_CP_addBytes_13 rfl ?_
  refine ax_sipush (pc := 14) C 255 d_CP_addBytes_14 (by decide +kernel) ?_
  refine ax_iand (pc := 17) C d_CP_addBytes_17 ?_
  refine ax_callVv (pc := 18) C (As := [.int ((((i0 : Int32).toUInt32 >>> ((0 : Int32).toUInt32 &&& Int32.toUInt32 31)).toInt32) &&& 255)]) (rest := []) (wr := [(a0, .inr (11, [.ref a1, .ref b0, .ref b1, .ref b2, .ref b3, .ref b4, .ref b5, .ref b6, .ref b7, .ref b8, .int 0, .int 0]))]) (m7_Row_add l D kA a1 a2 ((((i0 : Int32).toUInt32 >>> ((0 : Int32).toUInt32 &&& Int32.toUInt32 31)).toInt32) &&& 255) (upd (upd (upd (fun _ => 0) (Int32.toNatClampNeg 0) ((((i0 : Int32).toUInt32 >>> ((24 : Int32).toUInt32 &&& Int32.toUInt32 31)).toInt32) &&& 255)) (Int32.toNatClampNeg 1) ((((i0 : Int32).toUInt32 >>> ((16 : Int32).toUInt32 &&& Int32.toUInt32 31)).toInt32) &&& 255)) (Int32.toNatClampNeg 2) ((((i0 : Int32).toUInt32 >>> ((8 : Int32).toUInt32 &&& Int32.toUInt32 31)).toInt32) &&& 255))) ml_CP_97 1 rfl rfl rfl d_CP_addBytes_18 rfl rfl [1, 2] [0] rfl (by decide) rfl (by decide) (by decide) (Nat.le_of_ble_eq_true rfl) (Nat.le_of_ble_eq_true rfl) (Nat.le_of_ble_eq_true rfl) (Nat.le_of_ble_eq_true rfl) (Nat.le_of_ble_eq_true rfl) (fun w1 hw1 => ?_)
  obtain rfl := hw1
  refine ax_w ([(a0, .inr (11, [.ref a1, .ref b0, .ref b1, .ref b2, .ref b3, .ref b4, .ref b5, .ref b6, .ref b7, .ref b8, .int 0, .int 0])), (a1, .inr (0, [.ref a2, .int 4])), (a2, .inl (kA 0, 256, .inl (upd (upd (upd (upd (fun _ => 0) (Int32.toNatClampNeg 0) ((((i0 : Int32).toUInt32 >>> ((24 : Int32).toUInt32 &&& Int32.toUInt32 31)).toInt32) &&& 255)) (Int32.toNatClampNeg 1) ((((i0 : Int32).toUInt32 >>> ((16 : Int32).toUInt32 &&& Int32.toUInt32 31)).toInt32) &&& 255)) (Int32.toNatClampNeg 2) ((((i0 : Int32).toUInt32 >>> ((8 : Int32).toUInt32 &&& Int32.toUInt32 31)).toInt32) &&& 255)) (Int32.toNatClampNeg 3) ((((i0 : Int32).toUInt32 >>> ((0 : Int32).toUInt32 &&& Int32.toUInt32 31)).toInt32) &&& 255))))]) rfl ?_
  refine ax_iinc (pc := 21) C ((-8)) d_CP_addBytes_21 0 rfl (by decide) (Nat.le_of_ble_eq_true rfl) ([(2, .int (-8)), (0, .ref a0), (1, .int i0)]) rfl ?_
  refine ax_goto (pc := 24) C 3 d_CP_addBytes_24 (by decide) ?_
  refine ax_iload_n (pc := 3) C d_CP_addBytes_3 rfl 0 rfl ?_
  refine ax_if_lt (pc := 4) C 27 d_CP_addBytes_4 (by decide) (fun _ => ?_) (fun h => absurd h (by decide))
  exact ax_vret (pc := 27) C d_CP_addBytes_27 rfl (by decide) (by decide)
theorem tc_CP_addBytes : Cond.code y_CP_addBytes b_CP_addBytes 3 none ∈ lw_tbg := tb_in (i := 974) (by decide +kernel) rfl
theorem ti_CP : Cond.initialized "ClauseProver" ∈ lw_tbg := tb_in (i := 1) (by decide +kernel) rfl
theorem ml_CP_94 : ax_LV "ClauseProver" 94 y_CP_addBytes b_CP_addBytes 3 none 1 := ax_LV.mk (tb_in (i := 971) (by decide +kernel) rfl) (tb_in (i := 973) (by decide +kernel) rfl) (pv_in (i := 45) (by decide +kernel) rfl) ti_CP tc_CP_addBytes (by decide +kernel)
set_option maxHeartbeats 4000000 in
set_option maxRecDepth 100000 in
theorem m9_Row_add (l : Launch) (D : va_G) (kA : Nat → ClassId) (a0 : Nat) (a1 : Nat) (i0 : Int32) (f0 : Nat → Int32) : ax_Mv l D kA y_Row_add b_Row_add 2 0 0 0 0 [.ref a0, .int i0] [(a0, .inr (0, [.ref a1, .int 4])), (a1, .inl (kA 0, 256, .inl f0))] (fun w1 => w1 = [(a0, .inr (0, [.ref a1, .int 5])), (a1, .inl (kA 0, 256, .inl (upd f0 (Int32.toNatClampNeg 4) i0)))]) := by
  refine ax_Mv.of (by decide +kernel) (Nat.le_of_ble_eq_true rfl) ?_
  intro p e s m args below meth c C hnm
  refine ax_ls ([(0, .ref a0), (1, .int i0)]) [0, 1] rfl ?_
  refine ax_aload_n (pc := 0) C d_Row_add_0 rfl 0 rfl ?_
  refine ax_get (pc := 1) C k_Row 1 lk_Row_13 d_Row_add_1 (Nat.le_of_ble_eq_true rfl) 0 rfl rfl ?_
  refine ax_aload_n (pc := 4) C d_Row_add_4 rfl 0 rfl ?_
  refine ax_get (pc := 5) C k_Row 0 lk_Row_7 d_Row_add_5 (Nat.le_of_ble_eq_true rfl) 0 rfl rfl ?_
  refine ax_alen (pc := 8) C 1 0 rfl rfl 256 rfl d_Row_add_8 ?_
  refine ax_icmp_ne (pc := 9) C 31 d_Row_add_9 (by decide) (fun _ => ?_) (fun h => absurd h (by decide))
  refine ax_aload_n (pc := 31) C d_Row_add_31 rfl 0 rfl ?_
  refine ax_get (pc := 32) C k_Row 0 lk_Row_7 d_Row_add_32 (Nat.le_of_ble_eq_true rfl) 0 rfl rfl ?_
  refine ax_aload_n (pc := 35) C d_Row_add_35 rfl 0 rfl ?_
  refine ax_dup (pc := 36) C d_Row_add_36 rfl ?_
  refine ax_get (pc := 37) C k_Row 1 lk_Row_13 d_Row_add_37 (Nat.le_of_ble_eq_true rfl) 0 rfl rfl ?_
  refine ax_dup_x1 (pc := 40) C d_Row_add_40 rfl rfl ?_
  refine ax_iconst (pc := 41) C 1 d_Row_add_41 (by decide +kernel) ?_
  refine ax_iadd (pc := 42) C d_Row_add_42 ?_
  refine ax_nrm 5 (by decide) ?_
  refine ax_put (pc := 43) C k_Row 1 lk_Row_13 d_Row_add_43 (Nat.le_of_ble_eq_true rfl) 0 rfl rfl rfl rfl (Nat.le_of_ble_eq_true rfl) ?_
  refine ax_w ([(a0, .inr (0, [.ref a1, .int 5])), (a1, .inl (kA 0, 256, .inl f0))]) rfl ?_
  refine ax_iload_n (pc := 46) C d_Row_add_46 rfl 1 rfl ?_
  refine ax_iast (pc := 47) C 1 rfl d_Row_add_47 (by unfold vp_in; decide) ?_
  refine ax_w ([(a0, .inr (0, [.ref a1, .int 5])), (a1, .inl (kA 0, 256, .inl (upd f0 (Int32.toNatClampNeg 4) i0)))]) rfl ?_
  exact ax_vret (pc := 48) C d_Row_add_48 rfl (by decide) (by decide)
set_option maxHeartbeats 4000000 in
set_option maxRecDepth 100000 in
theorem m10_Row_add (l : Launch) (D : va_G) (kA : Nat → ClassId) (a0 : Nat) (a1 : Nat) (i0 : Int32) (f0 : Nat → Int32) : ax_Mv l D kA y_Row_add b_Row_add 2 0 0 0 0 [.ref a0, .int i0] [(a0, .inr (0, [.ref a1, .int 5])), (a1, .inl (kA 0, 256, .inl f0))] (fun w1 => w1 = [(a0, .inr (0, [.ref a1, .int 6])), (a1, .inl (kA 0, 256, .inl (upd f0 (Int32.toNatClampNeg 5) i0)))]) := by
  refine ax_Mv.of (by decide +kernel) (Nat.le_of_ble_eq_true rfl) ?_
  intro p e s m args below meth c C hnm
  refine ax_ls ([(0, .ref a0), (1, .int i0)]) [0, 1] rfl ?_
  refine ax_aload_n (pc := 0) C d_Row_add_0 rfl 0 rfl ?_
  refine ax_get (pc := 1) C k_Row 1 lk_Row_13 d_Row_add_1 (Nat.le_of_ble_eq_true rfl) 0 rfl rfl ?_
  refine ax_aload_n (pc := 4) C d_Row_add_4 rfl 0 rfl ?_
  refine ax_get (pc := 5) C k_Row 0 lk_Row_7 d_Row_add_5 (Nat.le_of_ble_eq_true rfl) 0 rfl rfl ?_
  refine ax_alen (pc := 8) C 1 0 rfl rfl 256 rfl d_Row_add_8 ?_
  refine ax_icmp_ne (pc := 9) C 31 d_Row_add_9 (by decide) (fun _ => ?_) (fun h => absurd h (by decide))
  refine ax_aload_n (pc := 31) C d_Row_add_31 rfl 0 rfl ?_
  refine ax_get (pc := 32) C k_Row 0 lk_Row_7 d_Row_add_32 (Nat.le_of_ble_eq_true rfl) 0 rfl rfl ?_
  refine ax_aload_n (pc := 35) C d_Row_add_35 rfl 0 rfl ?_
  refine ax_dup (pc := 36) C d_Row_add_36 rfl ?_
  refine ax_get (pc := 37) C k_Row 1 lk_Row_13 d_Row_add_37 (Nat.le_of_ble_eq_true rfl) 0 rfl rfl ?_
  refine ax_dup_x1 (pc := 40) C d_Row_add_40 rfl rfl ?_
  refine ax_iconst (pc := 41) C 1 d_Row_add_41 (by decide +kernel) ?_
  refine ax_iadd (pc := 42) C d_Row_add_42 ?_
  refine ax_nrm 6 (by decide) ?_
  refine ax_put (pc := 43) C k_Row 1 lk_Row_13 d_Row_add_43 (Nat.le_of_ble_eq_true rfl) 0 rfl rfl rfl rfl (Nat.le_of_ble_eq_true rfl) ?_
  refine ax_w ([(a0, .inr (0, [.ref a1, .int 6])), (a1, .inl (kA 0, 256, .inl f0))]) rfl ?_
  refine ax_iload_n (pc := 46) C d_Row_add_46 rfl 1 rfl ?_
  refine ax_iast (pc := 47) C 1 rfl d_Row_add_47 (by unfold vp_in; decide) ?_
  refine ax_w ([(a0, .inr (0, [.ref a1, .int 6])), (a1, .inl (kA 0, 256, .inl (upd f0 (Int32.toNatClampNeg 5) i0)))]) rfl ?_
  exact ax_vret (pc := 48) C d_Row_add_48 rfl (by decide) (by decide)
set_option maxHeartbeats 4000000 in
set_option maxRecDepth 100000 in
theorem m11_Row_add (l : Launch) (D : va_G) (kA : Nat → ClassId) (a0 : Nat) (a1 : Nat) (i0 : Int32) (f0 : Nat → Int32) : ax_Mv l D kA y_Row_add b_Row_add 2 0 0 0 0 [.ref a0, .int i0] [(a0, .inr (0, [.ref a1, .int 6])), (a1, .inl (kA 0, 256, .inl f0))] (fun w1 => w1 = [(a0, .inr (0, [.ref a1, .int 7])), (a1, .inl (kA 0, 256, .inl (upd f0 (Int32.toNatClampNeg 6) i0)))]) := by
  refine ax_Mv.of (by decide +kernel) (Nat.le_of_ble_eq_true rfl) ?_
  intro p e s m args below meth c C hnm
  refine ax_ls ([(0, .ref a0), (1, .int i0)]) [0, 1] rfl ?_
  refine ax_aload_n (pc := 0) C d_Row_add_0 rfl 0 rfl ?_
  refine ax_get (pc := 1) C k_Row 1 lk_Row_13 d_Row_add_1 (Nat.le_of_ble_eq_true rfl) 0 rfl rfl ?_
  refine ax_aload_n (pc := 4) C d_Row_add_4 rfl 0 rfl ?_
  refine ax_get (pc := 5) C k_Row 0 lk_Row_7 d_Row_add_5 (Nat.le_of_ble_eq_true rfl) 0 rfl rfl ?_
  refine ax_alen (pc := 8) C 1 0 rfl rfl 256 rfl d_Row_add_8 ?_
  refine ax_icmp_ne (pc := 9) C 31 d_Row_add_9 (by decide) (fun _ => ?_) (fun h => absurd h (by decide))
  refine ax_aload_n (pc := 31) C d_Row_add_31 rfl 0 rfl ?_
  refine ax_get (pc := 32) C k_Row 0 lk_Row_7 d_Row_add_32 (Nat.le_of_ble_eq_true rfl) 0 rfl rfl ?_
  refine ax_aload_n (pc := 35) C d_Row_add_35 rfl 0 rfl ?_
  refine ax_dup (pc := 36) C d_Row_add_36 rfl ?_
  refine ax_get (pc := 37) C k_Row 1 lk_Row_13 d_Row_add_37 (Nat.le_of_ble_eq_true rfl) 0 rfl rfl ?_
  refine ax_dup_x1 (pc := 40) C d_Row_add_40 rfl rfl ?_
  refine ax_iconst (pc := 41) C 1 d_Row_add_41 (by decide +kernel) ?_
  refine ax_iadd (pc := 42) C d_Row_add_42 ?_
  refine ax_nrm 7 (by decide) ?_
  refine ax_put (pc := 43) C k_Row 1 lk_Row_13 d_Row_add_43 (Nat.le_of_ble_eq_true rfl) 0 rfl rfl rfl rfl (Nat.le_of_ble_eq_true rfl) ?_
  refine ax_w ([(a0, .inr (0, [.ref a1, .int 7])), (a1, .inl (kA 0, 256, .inl f0))]) rfl ?_
  refine ax_iload_n (pc := 46) C d_Row_add_46 rfl 1 rfl ?_
  refine ax_iast (pc := 47) C 1 rfl d_Row_add_47 (by unfold vp_in; decide) ?_
  refine ax_w ([(a0, .inr (0, [.ref a1, .int 7])), (a1, .inl (kA 0, 256, .inl (upd f0 (Int32.toNatClampNeg 6) i0)))]) rfl ?_
  exact ax_vret (pc := 48) C d_Row_add_48 rfl (by decide) (by decide)
set_option maxHeartbeats 4000000 in
set_option maxRecDepth 100000 in
theorem m12_Row_add (l : Launch) (D : va_G) (kA : Nat → ClassId) (a0 : Nat) (a1 : Nat) (i0 : Int32) (f0 : Nat → Int32) : ax_Mv l D kA y_Row_add b_Row_add 2 0 0 0 0 [.ref a0, .int i0] [(a0, .inr (0, [.ref a1, .int 7])), (a1, .inl (kA 0, 256, .inl f0))] (fun w1 => w1 = [(a0, .inr (0, [.ref a1, .int 8])), (a1, .inl (kA 0, 256, .inl (upd f0 (Int32.toNatClampNeg 7) i0)))]) := by
  refine ax_Mv.of (by decide +kernel) (Nat.le_of_ble_eq_true rfl) ?_
  intro p e s m args below meth c C hnm
  refine ax_ls ([(0, .ref a0), (1, .int i0)]) [0, 1] rfl ?_
  refine ax_aload_n (pc := 0) C d_Row_add_0 rfl 0 rfl ?_
  refine ax_get (pc := 1) C k_Row 1 lk_Row_13 d_Row_add_1 (Nat.le_of_ble_eq_true rfl) 0 rfl rfl ?_
  refine ax_aload_n (pc := 4) C d_Row_add_4 rfl 0 rfl ?_
  refine ax_get (pc := 5) C k_Row 0 lk_Row_7 d_Row_add_5 (Nat.le_of_ble_eq_true rfl) 0 rfl rfl ?_
  refine ax_alen (pc := 8) C 1 0 rfl rfl 256 rfl d_Row_add_8 ?_
  refine ax_icmp_ne (pc := 9) C 31 d_Row_add_9 (by decide) (fun _ => ?_) (fun h => absurd h (by decide))
  refine ax_aload_n (pc := 31) C d_Row_add_31 rfl 0 rfl ?_
  refine ax_get (pc := 32) C k_Row 0 lk_Row_7 d_Row_add_32 (Nat.le_of_ble_eq_true rfl) 0 rfl rfl ?_
  refine ax_aload_n (pc := 35) C d_Row_add_35 rfl 0 rfl ?_
  refine ax_dup (pc := 36) C d_Row_add_36 rfl ?_
  refine ax_get (pc := 37) C k_Row 1 lk_Row_13 d_Row_add_37 (Nat.le_of_ble_eq_true rfl) 0 rfl rfl ?_
  refine ax_dup_x1 (pc := 40) C d_Row_add_40 rfl rfl ?_
  refine ax_iconst (pc := 41) C 1 d_Row_add_41 (by decide +kernel) ?_
  refine ax_iadd (pc := 42) C d_Row_add_42 ?_
  refine ax_nrm 8 (by decide) ?_
  refine ax_put (pc := 43) C k_Row 1 lk_Row_13 d_Row_add_43 (Nat.le_of_ble_eq_true rfl) 0 rfl rfl rfl rfl (Nat.le_of_ble_eq_true rfl) ?_
  refine ax_w ([(a0, .inr (0, [.ref a1, .int 8])), (a1, .inl (kA 0, 256, .inl f0))]) rfl ?_
  refine ax_iload_n (pc := 46) C d_Row_add_46 rfl 1 rfl ?_
  refine ax_iast (pc := 47) C 1 rfl d_Row_add_47 (by unfold vp_in; decide) ?_
  refine ax_w ([(a0, .inr (0, [.ref a1, .int 8])), (a1, .inl (kA 0, 256, .inl (upd f0 (Int32.toNatClampNeg 7) i0)))]) rfl ?_
  exact ax_vret (pc := 48) C d_Row_add_48 rfl (by decide) (by decide)
set_option maxHeartbeats 4000000 in
set_option maxRecDepth 100000 in
theorem m8_CP_addBytes (l : Launch) (D : va_G) (kA : Nat → ClassId) (a0 : Nat) (a1 : Nat) (a2 : Nat) (b0 : Nat) (b1 : Nat) (b2 : Nat) (b3 : Nat) (b4 : Nat) (b5 : Nat) (b6 : Nat) (b7 : Nat) (b8 : Nat) (i0 : Int32) (f0 : Nat → Int32) : ax_Mv l D kA y_CP_addBytes b_CP_addBytes 3 1 21 0 0 [.ref a0, .int i0] [(a0, .inr (11, [.ref a1, .ref b0, .ref b1, .ref b2, .ref b3, .ref b4, .ref b5, .ref b6, .ref b7, .ref b8, .int 0, .int 0])), (a1, .inr (0, [.ref a2, .int 4])), (a2, .inl (kA 0, 256, .inl f0))] (fun w1 => w1 = [(a0, .inr (11, [.ref a1, .ref b0, .ref b1, .ref b2, .ref b3, .ref b4, .ref b5, .ref b6, .ref b7, .ref b8, .int 0, .int 0])), (a1, .inr (0, [.ref a2, .int 8])), (a2, .inl (kA 0, 256, .inl (upd (upd (upd (upd f0 (Int32.toNatClampNeg 4) ((((i0 : Int32).toUInt32 >>> ((24 : Int32).toUInt32 &&& Int32.toUInt32 31)).toInt32) &&& 255)) (Int32.toNatClampNeg 5) ((((i0 : Int32).toUInt32 >>> ((16 : Int32).toUInt32 &&& Int32.toUInt32 31)).toInt32) &&& 255)) (Int32.toNatClampNeg 6) ((((i0 : Int32).toUInt32 >>> ((8 : Int32).toUInt32 &&& Int32.toUInt32 31)).toInt32) &&& 255)) (Int32.toNatClampNeg 7) ((((i0 : Int32).toUInt32 >>> ((0 : Int32).toUInt32 &&& Int32.toUInt32 31)).toInt32) &&& 255))))]) := by
  refine ax_Mv.of (by decide +kernel) (Nat.le_of_ble_eq_true rfl) ?_
  intro p e s m args below meth c C hnm
  refine ax_ls ([(0, .ref a0), (1, .int i0)]) [0, 1] rfl ?_
  refine ax_bipush (pc := 0) C 24 d_CP_addBytes_0 (by decide +kernel) ?_
  refine ax_istore_n (pc := 2) C d_CP_addBytes_2 rfl (Nat.le_of_ble_eq_true rfl) ([(2, .int 24), (0, .ref a0), (1, .int i0)]) rfl ?_
  refine ax_iload_n (pc := 3) C d_CP_addBytes_3 rfl 0 rfl ?_
  refine ax_if_lt (pc := 4) C 27 d_CP_addBytes_4 (by decide) (fun h => absurd h (by decide)) (fun _ => ?_)
  refine ax_aload_n (pc := 7) C d_CP_addBytes_7 rfl 1 rfl ?_
  refine ax_get (pc := 8) C k_CP 0 lk_CP_14 d_CP_addBytes_8 (Nat.le_of_ble_eq_true rfl) 0 rfl rfl ?_
  refine ax_iload_n (pc := 11) C d_CP_addBytes_11 rfl 2 rfl ?_
  refine ax_iload_n (pc := 12) C d_CP_addBytes_12 rfl 0 rfl ?_
  refine ax_iushr (pc := 13) C (((i0 : Int32).toUInt32 >>> ((24 : Int32).toUInt32 &&& Int32.toUInt32 31)).toInt32) d_CP_addBytes_13 rfl ?_
  refine ax_sipush (pc := 14) C 255 d_CP_addBytes_14 (by decide +kernel) ?_
  refine ax_iand (pc := 17) C d_CP_addBytes_17 ?_
  refine ax_callVv (pc := 18) C (As := [.int ((((i0 : Int32).toUInt32 >>> ((24 : Int32).toUInt32 &&& Int32.toUInt32 31)).toInt32) &&& 255)]) (rest := []) (wr := [(a0, .inr (11, [.ref a1, .ref b0, .ref b1, .ref b2, .ref b3, .ref b4, .ref b5, .ref b6, .ref b7, .ref b8, .int 0, .int 0]))]) (m9_Row_add l D kA a1 a2 ((((i0 : Int32).toUInt32 >>> ((24 : Int32).toUInt32 &&& Int32.toUInt32 31)).toInt32) &&& 255) f0) ml_CP_97 1 rfl rfl rfl d_CP_addBytes_18 rfl rfl [1, 2] [0] rfl (by decide) rfl (by decide) (by decide) (Nat.le_of_ble_eq_true rfl) (Nat.le_of_ble_eq_true rfl) (Nat.le_of_ble_eq_true rfl) (Nat.le_of_ble_eq_true rfl) (Nat.le_of_ble_eq_true rfl) (fun w1 hw1 => ?_)
  obtain rfl := hw1
  refine ax_w ([(a0, .inr (11, [.ref a1, .ref b0, .ref b1, .ref b2, .ref b3, .ref b4, .ref b5, .ref b6, .ref b7, .ref b8, .int 0, .int 0])), (a1, .inr (0, [.ref a2, .int 5])), (a2, .inl (kA 0, 256, .inl (upd f0 (Int32.toNatClampNeg 4) ((((i0 : Int32).toUInt32 >>> ((24 : Int32).toUInt32 &&& Int32.toUInt32 31)).toInt32) &&& 255))))]) rfl ?_
  refine ax_iinc (pc := 21) C (16) d_CP_addBytes_21 0 rfl (by decide) (Nat.le_of_ble_eq_true rfl) ([(2, .int 16), (0, .ref a0), (1, .int i0)]) rfl ?_
  refine ax_goto (pc := 24) C 3 d_CP_addBytes_24 (by decide) ?_
  refine ax_iload_n (pc := 3) C d_CP_addBytes_3 rfl 0 rfl ?_
  refine ax_if_lt (pc := 4) C 27 d_CP_addBytes_4 (by decide) (fun h => absurd h (by decide)) (fun _ => ?_)
  refine ax_aload_n (pc := 7) C d_CP_addBytes_7 rfl 1 rfl ?_
  refine ax_get (pc := 8) C k_CP 0 lk_CP_14 d_CP_addBytes_8 (Nat.le_of_ble_eq_true rfl) 0 rfl rfl ?_
  refine ax_iload_n (pc := 11) C d_CP_addBytes_11 rfl 2 rfl ?_
  refine ax_iload_n (pc := 12) C d_CP_addBytes_12 rfl 0 rfl ?_
  refine ax_iushr (pc := 13) C (((i0 : Int32).toUInt32 >>> ((16 : Int32).toUInt32 &&& Int32.toUInt32 31)).toInt32) d_CP_addBytes_13 rfl ?_
  refine ax_sipush (pc := 14) C 255 d_CP_addBytes_14 (by decide +kernel) ?_
  refine ax_iand (pc := 17) C d_CP_addBytes_17 ?_
  refine ax_callVv (pc := 18) C (As := [.int ((((i0 : Int32).toUInt32 >>> ((16 : Int32).toUInt32 &&& Int32.toUInt32 31)).toInt32) &&& 255)]) (rest := []) (wr := [(a0, .inr (11, [.ref a1, .ref b0, .ref b1, .ref b2, .ref b3, .ref b4, .ref b5, .ref b6, .ref b7, .ref b8, .int 0, .int 0]))]) (m10_Row_add l D kA a1 a2 ((((i0 : Int32).toUInt32 >>> ((16 : Int32).toUInt32 &&& Int32.toUInt32 31)).toInt32) &&& 255) (upd f0 (Int32.toNatClampNeg 4) ((((i0 : Int32).toUInt32 >>> ((24 : Int32).toUInt32 &&& Int32.toUInt32 31)).toInt32) &&& 255))) ml_CP_97 1 rfl rfl rfl d_CP_addBytes_18 rfl rfl [1, 2] [0] rfl (by decide) rfl (by decide) (by decide) (Nat.le_of_ble_eq_true rfl) (Nat.le_of_ble_eq_true rfl) (Nat.le_of_ble_eq_true rfl) (Nat.le_of_ble_eq_true rfl) (Nat.le_of_ble_eq_true rfl) (fun w1 hw1 => ?_)
  obtain rfl := hw1
  refine ax_w ([(a0, .inr (11, [.ref a1, .ref b0, .ref b1, .ref b2, .ref b3, .ref b4, .ref b5, .ref b6, .ref b7, .ref b8, .int 0, .int 0])), (a1, .inr (0, [.ref a2, .int 6])), (a2, .inl (kA 0, 256, .inl (upd (upd f0 (Int32.toNatClampNeg 4) ((((i0 : Int32).toUInt32 >>> ((24 : Int32).toUInt32 &&& Int32.toUInt32 31)).toInt32) &&& 255)) (Int32.toNatClampNeg 5) ((((i0 : Int32).toUInt32 >>> ((16 : Int32).toUInt32 &&& Int32.toUInt32 31)).toInt32) &&& 255))))]) rfl ?_
  refine ax_iinc (pc := 21) C (8) d_CP_addBytes_21 0 rfl (by decide) (Nat.le_of_ble_eq_true rfl) ([(2, .int 8), (0, .ref a0), (1, .int i0)]) rfl ?_
  refine ax_goto (pc := 24) C 3 d_CP_addBytes_24 (by decide) ?_
  refine ax_iload_n (pc := 3) C d_CP_addBytes_3 rfl 0 rfl ?_
  refine ax_if_lt (pc := 4) C 27 d_CP_addBytes_4 (by decide) (fun h => absurd h (by decide)) (fun _ => ?_)
  refine ax_aload_n (pc := 7) C d_CP_addBytes_7 rfl 1 rfl ?_
  refine ax_get (pc := 8) C k_CP 0 lk_CP_14 d_CP_addBytes_8 (Nat.le_of_ble_eq_true rfl) 0 rfl rfl ?_
  refine ax_iload_n (pc := 11) C d_CP_addBytes_11 rfl 2 rfl ?_
  refine ax_iload_n (pc := 12) C d_CP_addBytes_12 rfl 0 rfl ?_
  refine ax_iushr (pc := 13) C (((i0 : Int32).toUInt32 >>> ((8 : Int32).toUInt32 &&& Int32.toUInt32 31)).toInt32) d_CP_addBytes_13 rfl ?_
  refine ax_sipush (pc := 14) C 255 d_CP_addBytes_14 (by decide +kernel) ?_
  refine ax_iand (pc := 17) C d_CP_addBytes_17 ?_
  refine ax_callVv (pc := 18) C (As := [.int ((((i0 : Int32).toUInt32 >>> ((8 : Int32).toUInt32 &&& Int32.toUInt32 31)).toInt32) &&& 255)]) (rest := []) (wr := [(a0, .inr (11, [.ref a1, .ref b0, .ref b1, .ref b2, .ref b3, .ref b4, .ref b5, .ref b6, .ref b7, .ref b8, .int 0, .int 0]))]) (m11_Row_add l D kA a1 a2 ((((i0 : Int32).toUInt32 >>> ((8 : Int32).toUInt32 &&& Int32.toUInt32 31)).toInt32) &&& 255) (upd (upd f0 (Int32.toNatClampNeg 4) ((((i0 : Int32).toUInt32 >>> ((24 : Int32).toUInt32 &&& Int32.toUInt32 31)).toInt32) &&& 255)) (Int32.toNatClampNeg 5) ((((i0 : Int32).toUInt32 >>> ((16 : Int32).toUInt32 &&& Int32.toUInt32 31)).toInt32) &&& 255))) ml_CP_97 1 rfl rfl rfl d_CP_addBytes_18 rfl rfl [1, 2] [0] rfl (by decide) rfl (by decide) (by decide) (Nat.le_of_ble_eq_true rfl) (Nat.le_of_ble_eq_true rfl) (Nat.le_of_ble_eq_true rfl) (Nat.le_of_ble_eq_true rfl) (Nat.le_of_ble_eq_true rfl) (fun w1 hw1 => ?_)
  obtain rfl := hw1
  refine ax_w ([(a0, .inr (11, [.ref a1, .ref b0, .ref b1, .ref b2, .ref b3, .ref b4, .ref b5, .ref b6, .ref b7, .ref b8, .int 0, .int 0])), (a1, .inr (0, [.ref a2, .int 7])), (a2, .inl (kA 0, 256, .inl (upd (upd (upd f0 (Int32.toNatClampNeg 4) ((((i0 : Int32).toUInt32 >>> ((24 : Int32).toUInt32 &&& Int32.toUInt32 31)).toInt32) &&& 255)) (Int32.toNatClampNeg 5) ((((i0 : Int32).toUInt32 >>> ((16 : Int32).toUInt32 &&& Int32.toUInt32 31)).toInt32) &&& 255)) (Int32.toNatClampNeg 6) ((((i0 : Int32).toUInt32 >>> ((8 : Int32).toUInt32 &&& Int32.toUInt32 31)).toInt32) &&& 255))))]) rfl ?_
  refine ax_iinc (pc := 21) C (0) d_CP_addBytes_21 0 rfl (by decide) (Nat.le_of_ble_eq_true rfl) ([(2, .int 0), (0, .ref a0), (1, .int i0)]) rfl ?_
  refine ax_goto (pc := 24) C 3 d_CP_addBytes_24 (by decide) ?_
  refine ax_iload_n (pc := 3) C d_CP_addBytes_3 rfl 0 rfl ?_
  refine ax_if_lt (pc := 4) C 27 d_CP_addBytes_4 (by decide) (fun h => absurd h (by decide)) (fun _ => ?_)
  refine ax_aload_n (pc := 7) C d_CP_addBytes_7 rfl 1 rfl ?_
  refine ax_get (pc := 8) C k_CP 0 lk_CP_14 d_CP_addBytes_8 (Nat.le_of_ble_eq_true rfl) 0 rfl rfl ?_
  refine ax_iload_n (pc := 11) C d_CP_addBytes_11 rfl 2 rfl ?_
  refine ax_iload_n (pc := 12) C d_CP_addBytes_12 rfl 0 rfl ?_
  refine ax_iushr (pc := 13) C (((i0 : Int32).toUInt32 >>> ((0 : Int32).toUInt32 &&& Int32.toUInt32 31)).toInt32) d_CP_addBytes_13 rfl ?_
  refine ax_sipush (pc := 14) C 255 d_CP_addBytes_14 (by decide +kernel) ?_
  refine ax_iand (pc := 17) C d_CP_addBytes_17 ?_
  refine ax_callVv (pc := 18) C (As := [.int ((((i0 : Int32).toUInt32 >>> ((0 : Int32).toUInt32 &&& Int32.toUInt32 31)).toInt32) &&& 255)]) (rest := []) (wr := [(a0, .inr (11, [.ref a1, .ref b0, .ref b1, .ref b2, .ref b3, .ref b4, .ref b5, .ref b6, .ref b7, .ref b8, .int 0, .int 0]))]) (m12_Row_add l D kA a1 a2 ((((i0 : Int32).toUInt32 >>> ((0 : Int32).toUInt32 &&& Int32.toUInt32 31)).toInt32) &&& 255) (upd (upd (upd f0 (Int32.toNatClampNeg 4) ((((i0 : Int32).toUInt32 >>> ((24 : Int32).toUInt32 &&& Int32.toUInt32 31)).toInt32) &&& 255)) (Int32.toNatClampNeg 5) ((((i0 : Int32).toUInt32 >>> ((16 : Int32).toUInt32 &&& Int32.toUInt32 31)).toInt32) &&& 255)) (Int32.toNatClampNeg 6) ((((i0 : Int32).toUInt32 >>> ((8 : Int32).toUInt32 &&& Int32.toUInt32 31)).toInt32) &&& 255))) ml_CP_97 1 rfl rfl rfl d_CP_addBytes_18 rfl rfl [1, 2] [0] rfl (by decide) rfl (by decide) (by decide) (Nat.le_of_ble_eq_true rfl) (Nat.le_of_ble_eq_true rfl) (Nat.le_of_ble_eq_true rfl) (Nat.le_of_ble_eq_true rfl) (Nat.le_of_ble_eq_true rfl) (fun w1 hw1 => ?_)
  obtain rfl := hw1
  refine ax_w ([(a0, .inr (11, [.ref a1, .ref b0, .ref b1, .ref b2, .ref b3, .ref b4, .ref b5, .ref b6, .ref b7, .ref b8, .int 0, .int 0])), (a1, .inr (0, [.ref a2, .int 8])), (a2, .inl (kA 0, 256, .inl (upd (upd (upd (upd f0 (Int32.toNatClampNeg 4) ((((i0 : Int32).toUInt32 >>> ((24 : Int32).toUInt32 &&& Int32.toUInt32 31)).toInt32) &&& 255)) (Int32.toNatClampNeg 5) ((((i0 : Int32).toUInt32 >>> ((16 : Int32).toUInt32 &&& Int32.toUInt32 31)).toInt32) &&& 255)) (Int32.toNatClampNeg 6) ((((i0 : Int32).toUInt32 >>> ((8 : Int32).toUInt32 &&& Int32.toUInt32 31)).toInt32) &&& 255)) (Int32.toNatClampNeg 7) ((((i0 : Int32).toUInt32 >>> ((0 : Int32).toUInt32 &&& Int32.toUInt32 31)).toInt32) &&& 255))))]) rfl ?_
  refine ax_iinc (pc := 21) C ((-8)) d_CP_addBytes_21 0 rfl (by decide) (Nat.le_of_ble_eq_true rfl) ([(2, .int (-8)), (0, .ref a0), (1, .int i0)]) rfl ?_
  refine ax_goto (pc := 24) C 3 d_CP_addBytes_24 (by decide) ?_
  refine ax_iload_n (pc := 3) C d_CP_addBytes_3 rfl 0 rfl ?_
  refine ax_if_lt (pc := 4) C 27 d_CP_addBytes_4 (by decide) (fun _ => ?_) (fun h => absurd h (by decide))
  exact ax_vret (pc := 27) C d_CP_addBytes_27 rfl (by decide) (by decide)
set_option maxHeartbeats 4000000 in
set_option maxRecDepth 100000 in
theorem m14_Row_add (l : Launch) (D : va_G) (kA : Nat → ClassId) (a0 : Nat) (a1 : Nat) (i0 : Int32) (f0 : Nat → Int32) : ax_Mv l D kA y_Row_add b_Row_add 2 0 0 0 0 [.ref a0, .int i0] [(a0, .inr (0, [.ref a1, .int 8])), (a1, .inl (kA 0, 256, .inl f0))] (fun w1 => w1 = [(a0, .inr (0, [.ref a1, .int 9])), (a1, .inl (kA 0, 256, .inl (upd f0 (Int32.toNatClampNeg 8) i0)))]) := by
  refine ax_Mv.of (by decide +kernel) (Nat.le_of_ble_eq_true rfl) ?_
  intro p e s m args below meth c C hnm
  refine ax_ls ([(0, .ref a0), (1, .int i0)]) [0, 1] rfl ?_
  refine ax_aload_n (pc := 0) C d_Row_add_0 rfl 0 rfl ?_
  refine ax_get (pc := 1) C k_Row 1 lk_Row_13 d_Row_add_1 (Nat.le_of_ble_eq_true rfl) 0 rfl rfl ?_
  refine ax_aload_n (pc := 4) C d_Row_add_4 rfl 0 rfl ?_
  refine ax_get (pc := 5) C k_Row 0 lk_Row_7 d_Row_add_5 (Nat.le_of_ble_eq_true rfl) 0 rfl rfl ?_
  refine ax_alen (pc := 8) C 1 0 rfl rfl 256 rfl d_Row_add_8 ?_
  refine ax_icmp_ne (pc := 9) C 31 d_Row_add_9 (by decide) (fun _ => ?_) (fun h => absurd h (by decide))
  refine ax_aload_n (pc := 31) C d_Row_add_31 rfl 0 rfl ?_
  refine ax_get (pc := 32) C k_Row 0 lk_Row_7 d_Row_add_32 (Nat.le_of_ble_eq_true rfl) 0 rfl rfl ?_
  refine ax_aload_n (pc := 35) C d_Row_add_35 rfl 0 rfl ?_
  refine ax_dup (pc := 36) C d_Row_add_36 rfl ?_
  refine ax_get (pc := 37) C k_Row 1 lk_Row_13 d_Row_add_37 (Nat.le_of_ble_eq_true rfl) 0 rfl rfl ?_
  refine ax_dup_x1 (pc := 40) C d_Row_add_40 rfl rfl ?_
  refine ax_iconst (pc := 41) C 1 d_Row_add_41 (by decide +kernel) ?_
  refine ax_iadd (pc := 42) C d_Row_add_42 ?_
  refine ax_nrm 9 (by decide) ?_
  refine ax_put (pc := 43) C k_Row 1 lk_Row_13 d_Row_add_43 (Nat.le_of_ble_eq_true rfl) 0 rfl rfl rfl rfl (Nat.le_of_ble_eq_true rfl) ?_
  refine ax_w ([(a0, .inr (0, [.ref a1, .int 9])), (a1, .inl (kA 0, 256, .inl f0))]) rfl ?_
  refine ax_iload_n (pc := 46) C d_Row_add_46 rfl 1 rfl ?_
  refine ax_iast (pc := 47) C 1 rfl d_Row_add_47 (by unfold vp_in; decide) ?_
  refine ax_w ([(a0, .inr (0, [.ref a1, .int 9])), (a1, .inl (kA 0, 256, .inl (upd f0 (Int32.toNatClampNeg 8) i0)))]) rfl ?_
  exact ax_vret (pc := 48) C d_Row_add_48 rfl (by decide) (by decide)
set_option maxHeartbeats 4000000 in
set_option maxRecDepth 100000 in
theorem m15_Row_add (l : Launch) (D : va_G) (kA : Nat → ClassId) (a0 : Nat) (a1 : Nat) (i0 : Int32) (f0 : Nat → Int32) : ax_Mv l D kA y_Row_add b_Row_add 2 0 0 0 0 [.ref a0, .int i0] [(a0, .inr (0, [.ref a1, .int 9])), (a1, .inl (kA 0, 256, .inl f0))] (fun w1 => w1 = [(a0, .inr (0, [.ref a1, .int 10])), (a1, .inl (kA 0, 256, .inl (upd f0 (Int32.toNatClampNeg 9) i0)))]) := by
  refine ax_Mv.of (by decide +kernel) (Nat.le_of_ble_eq_true rfl) ?_
  intro p e s m args below meth c C hnm
  refine ax_ls ([(0, .ref a0), (1, .int i0)]) [0, 1] rfl ?_
  refine ax_aload_n (pc := 0) C d_Row_add_0 rfl 0 rfl ?_
  refine ax_get (pc := 1) C k_Row 1 lk_Row_13 d_Row_add_1 (Nat.le_of_ble_eq_true rfl) 0 rfl rfl ?_
  refine ax_aload_n (pc := 4) C d_Row_add_4 rfl 0 rfl ?_
  refine ax_get (pc := 5) C k_Row 0 lk_Row_7 d_Row_add_5 (Nat.le_of_ble_eq_true rfl) 0 rfl rfl ?_
  refine ax_alen (pc := 8) C 1 0 rfl rfl 256 rfl d_Row_add_8 ?_
  refine ax_icmp_ne (pc := 9) C 31 d_Row_add_9 (by decide) (fun _ => ?_) (fun h => absurd h (by decide))
  refine ax_aload_n (pc := 31) C d_Row_add_31 rfl 0 rfl ?_
  refine ax_get (pc := 32) C k_Row 0 lk_Row_7 d_Row_add_32 (Nat.le_of_ble_eq_true rfl) 0 rfl rfl ?_
  refine ax_aload_n (pc := 35) C d_Row_add_35 rfl 0 rfl ?_
  refine ax_dup (pc := 36) C d_Row_add_36 rfl ?_
  refine ax_get (pc := 37) C k_Row 1 lk_Row_13 d_Row_add_37 (Nat.le_of_ble_eq_true rfl) 0 rfl rfl ?_
  refine ax_dup_x1 (pc := 40) C d_Row_add_40 rfl rfl ?_
  refine ax_iconst (pc := 41) C 1 d_Row_add_41 (by decide +kernel) ?_
  refine ax_iadd (pc := 42) C d_Row_add_42 ?_
  refine ax_nrm 10 (by decide) ?_
  refine ax_put (pc := 43) C k_Row 1 lk_Row_13 d_Row_add_43 (Nat.le_of_ble_eq_true rfl) 0 rfl rfl rfl rfl (Nat.le_of_ble_eq_true rfl) ?_
  refine ax_w ([(a0, .inr (0, [.ref a1, .int 10])), (a1, .inl (kA 0, 256, .inl f0))]) rfl ?_
  refine ax_iload_n (pc := 46) C d_Row_add_46 rfl 1 rfl ?_
  refine ax_iast (pc := 47) C 1 rfl d_Row_add_47 (by unfold vp_in; decide) ?_
  refine ax_w ([(a0, .inr (0, [.ref a1, .int 10])), (a1, .inl (kA 0, 256, .inl (upd f0 (Int32.toNatClampNeg 9) i0)))]) rfl ?_
  exact ax_vret (pc := 48) C d_Row_add_48 rfl (by decide) (by decide)
set_option maxHeartbeats 4000000 in
set_option maxRecDepth 100000 in
theorem m16_Row_add (l : Launch) (D : va_G) (kA : Nat → ClassId) (a0 : Nat) (a1 : Nat) (i0 : Int32) (f0 : Nat → Int32) : ax_Mv l D kA y_Row_add b_Row_add 2 0 0 0 0 [.ref a0, .int i0] [(a0, .inr (0, [.ref a1, .int 10])), (a1, .inl (kA 0, 256, .inl f0))] (fun w1 => w1 = [(a0, .inr (0, [.ref a1, .int 11])), (a1, .inl (kA 0, 256, .inl (upd f0 (Int32.toNatClampNeg 10) i0)))]) := by
  refine ax_Mv.of (by decide +kernel) (Nat.le_of_ble_eq_true rfl) ?_
  intro p e s m args below meth c C hnm
  refine ax_ls ([(0, .ref a0), (1, .int i0)]) [0, 1] rfl ?_
  refine ax_aload_n (pc := 0) C d_Row_add_0 rfl 0 rfl ?_
  refine ax_get (pc := 1) C k_Row 1 lk_Row_13 d_Row_add_1 (Nat.le_of_ble_eq_true rfl) 0 rfl rfl ?_
  refine ax_aload_n (pc := 4) C d_Row_add_4 rfl 0 rfl ?_
  refine ax_get (pc := 5) C k_Row 0 lk_Row_7 d_Row_add_5 (Nat.le_of_ble_eq_true rfl) 0 rfl rfl ?_
  refine ax_alen (pc := 8) C 1 0 rfl rfl 256 rfl d_Row_add_8 ?_
  refine ax_icmp_ne (pc := 9) C 31 d_Row_add_9 (by decide) (fun _ => ?_) (fun h => absurd h (by decide))
  refine ax_aload_n (pc := 31) C d_Row_add_31 rfl 0 rfl ?_
  refine ax_get (pc := 32) C k_Row 0 lk_Row_7 d_Row_add_32 (Nat.le_of_ble_eq_true rfl) 0 rfl rfl ?_
  refine ax_aload_n (pc := 35) C d_Row_add_35 rfl 0 rfl ?_
  refine ax_dup (pc := 36) C d_Row_add_36 rfl ?_
  refine ax_get (pc := 37) C k_Row 1 lk_Row_13 d_Row_add_37 (Nat.le_of_ble_eq_true rfl) 0 rfl rfl ?_
  refine ax_dup_x1 (pc := 40) C d_Row_add_40 rfl rfl ?_
  refine ax_iconst (pc := 41) C 1 d_Row_add_41 (by decide +kernel) ?_
  refine ax_iadd (pc := 42) C d_Row_add_42 ?_
  refine ax_nrm 11 (by decide) ?_
  refine ax_put (pc := 43) C k_Row 1 lk_Row_13 d_Row_add_43 (Nat.le_of_ble_eq_true rfl) 0 rfl rfl rfl rfl (Nat.le_of_ble_eq_true rfl) ?_
  refine ax_w ([(a0, .inr (0, [.ref a1, .int 11])), (a1, .inl (kA 0, 256, .inl f0))]) rfl ?_
  refine ax_iload_n (pc := 46) C d_Row_add_46 rfl 1 rfl ?_
  refine ax_iast (pc := 47) C 1 rfl d_Row_add_47 (by unfold vp_in; decide) ?_
  refine ax_w ([(a0, .inr (0, [.ref a1, .int 11])), (a1, .inl (kA 0, 256, .inl (upd f0 (Int32.toNatClampNeg 10) i0)))]) rfl ?_
  exact ax_vret (pc := 48) C d_Row_add_48 rfl (by decide) (by decide)
set_option maxHeartbeats 4000000 in
set_option maxRecDepth 100000 in
theorem m17_Row_add (l : Launch) (D : va_G) (kA : Nat → ClassId) (a0 : Nat) (a1 : Nat) (i0 : Int32) (f0 : Nat → Int32) : ax_Mv l D kA y_Row_add b_Row_add 2 0 0 0 0 [.ref a0, .int i0] [(a0, .inr (0, [.ref a1, .int 11])), (a1, .inl (kA 0, 256, .inl f0))] (fun w1 => w1 = [(a0, .inr (0, [.ref a1, .int 12])), (a1, .inl (kA 0, 256, .inl (upd f0 (Int32.toNatClampNeg 11) i0)))]) := by
  refine ax_Mv.of (by decide +kernel) (Nat.le_of_ble_eq_true rfl) ?_
  intro p e s m args below meth c C hnm
  refine ax_ls ([(0, .ref a0), (1, .int i0)]) [0, 1] rfl ?_
  refine ax_aload_n (pc := 0) C d_Row_add_0 rfl 0 rfl ?_
  refine ax_get (pc := 1) C k_Row 1 lk_Row_13 d_Row_add_1 (Nat.le_of_ble_eq_true rfl) 0 rfl rfl ?_
  refine ax_aload_n (pc := 4) C d_Row_add_4 rfl 0 rfl ?_
  refine ax_get (pc := 5) C k_Row 0 lk_Row_7 d_Row_add_5 (Nat.le_of_ble_eq_true rfl) 0 rfl rfl ?_
  refine ax_alen (pc := 8) C 1 0 rfl rfl 256 rfl d_Row_add_8 ?_
  refine ax_icmp_ne (pc := 9) C 31 d_Row_add_9 (by decide) (fun _ => ?_) (fun h => absurd h (by decide))
  refine ax_aload_n (pc := 31) C d_Row_add_31 rfl 0 rfl ?_
  refine ax_get (pc := 32) C k_Row 0 lk_Row_7 d_Row_add_32 (Nat.le_of_ble_eq_true rfl) 0 rfl rfl ?_
  refine ax_aload_n (pc := 35) C d_Row_add_35 rfl 0 rfl ?_
  refine ax_dup (pc := 36) C d_Row_add_36 rfl ?_
  refine ax_get (pc := 37) C k_Row 1 lk_Row_13 d_Row_add_37 (Nat.le_of_ble_eq_true rfl) 0 rfl rfl ?_
  refine ax_dup_x1 (pc := 40) C d_Row_add_40 rfl rfl ?_
  refine ax_iconst (pc := 41) C 1 d_Row_add_41 (by decide +kernel) ?_
  refine ax_iadd (pc := 42) C d_Row_add_42 ?_
  refine ax_nrm 12 (by decide) ?_
  refine ax_put (pc := 43) C k_Row 1 lk_Row_13 d_Row_add_43 (Nat.le_of_ble_eq_true rfl) 0 rfl rfl rfl rfl (Nat.le_of_ble_eq_true rfl) ?_
  refine ax_w ([(a0, .inr (0, [.ref a1, .int 12])), (a1, .inl (kA 0, 256, .inl f0))]) rfl ?_
  refine ax_iload_n (pc := 46) C d_Row_add_46 rfl 1 rfl ?_
  refine ax_iast (pc := 47) C 1 rfl d_Row_add_47 (by unfold vp_in; decide) ?_
  refine ax_w ([(a0, .inr (0, [.ref a1, .int 12])), (a1, .inl (kA 0, 256, .inl (upd f0 (Int32.toNatClampNeg 11) i0)))]) rfl ?_
  exact ax_vret (pc := 48) C d_Row_add_48 rfl (by decide) (by decide)
set_option maxHeartbeats 4000000 in
set_option maxRecDepth 100000 in
theorem m13_CP_addBytes (l : Launch) (D : va_G) (kA : Nat → ClassId) (a0 : Nat) (a1 : Nat) (a2 : Nat) (b0 : Nat) (b1 : Nat) (b2 : Nat) (b3 : Nat) (b4 : Nat) (b5 : Nat) (b6 : Nat) (b7 : Nat) (b8 : Nat) (i0 : Int32) (f0 : Nat → Int32) : ax_Mv l D kA y_CP_addBytes b_CP_addBytes 3 1 21 0 0 [.ref a0, .int i0] [(a0, .inr (11, [.ref a1, .ref b0, .ref b1, .ref b2, .ref b3, .ref b4, .ref b5, .ref b6, .ref b7, .ref b8, .int 0, .int 0])), (a1, .inr (0, [.ref a2, .int 8])), (a2, .inl (kA 0, 256, .inl f0))] (fun w1 => w1 = [(a0, .inr (11, [.ref a1, .ref b0, .ref b1, .ref b2, .ref b3, .ref b4, .ref b5, .ref b6, .ref b7, .ref b8, .int 0, .int 0])), (a1, .inr (0, [.ref a2, .int 12])), (a2, .inl (kA 0, 256, .inl (upd (upd (upd (upd f0 (Int32.toNatClampNeg 8) ((((i0 : Int32).toUInt32 >>> ((24 : Int32).toUInt32 &&& Int32.toUInt32 31)).toInt32) &&& 255)) (Int32.toNatClampNeg 9) ((((i0 : Int32).toUInt32 >>> ((16 : Int32).toUInt32 &&& Int32.toUInt32 31)).toInt32) &&& 255)) (Int32.toNatClampNeg 10) ((((i0 : Int32).toUInt32 >>> ((8 : Int32).toUInt32 &&& Int32.toUInt32 31)).toInt32) &&& 255)) (Int32.toNatClampNeg 11) ((((i0 : Int32).toUInt32 >>> ((0 : Int32).toUInt32 &&& Int32.toUInt32 31)).toInt32) &&& 255))))]) := by
  refine ax_Mv.of (by decide +kernel) (Nat.le_of_ble_eq_true rfl) ?_
  intro p e s m args below meth c C hnm
  refine ax_ls ([(0, .ref a0), (1, .int i0)]) [0, 1] rfl ?_
  refine ax_bipush (pc := 0) C 24 d_CP_addBytes_0 (by decide +kernel) ?_
  refine ax_istore_n (pc := 2) C d_CP_addBytes_2 rfl (Nat.le_of_ble_eq_true rfl) ([(2, .int 24), (0, .ref a0), (1, .int i0)]) rfl ?_
  refine ax_iload_n (pc := 3) C d_CP_addBytes_3 rfl 0 rfl ?_
  refine ax_if_lt (pc := 4) C 27 d_CP_addBytes_4 (by decide) (fun h => absurd h (by decide)) (fun _ => ?_)
  refine ax_aload_n (pc := 7) C d_CP_addBytes_7 rfl 1 rfl ?_
  refine ax_get (pc := 8) C k_CP 0 lk_CP_14 d_CP_addBytes_8 (Nat.le_of_ble_eq_true rfl) 0 rfl rfl ?_
  refine ax_iload_n (pc := 11) C d_CP_addBytes_11 rfl 2 rfl ?_
  refine ax_iload_n (pc := 12) C d_CP_addBytes_12 rfl 0 rfl ?_
  refine ax_iushr (pc := 13) C (((i0 : Int32).toUInt32 >>> ((24 : Int32).toUInt32 &&& Int32.toUInt32 31)).toInt32) d_CP_addBytes_13 rfl ?_
  refine ax_sipush (pc := 14) C 255 d_CP_addBytes_14 (by decide +kernel) ?_
  refine ax_iand (pc := 17) C d_CP_addBytes_17 ?_
  refine ax_callVv (pc := 18) C (As := [.int ((((i0 : Int32).toUInt32 >>> ((24 : Int32).toUInt32 &&& Int32.toUInt32 31)).toInt32) &&& 255)]) (rest := []) (wr := [(a0, .inr (11, [.ref a1, .ref b0, .ref b1, .ref b2, .ref b3, .ref b4, .ref b5, .ref b6, .ref b7, .ref b8, .int 0, .int 0]))]) (m14_Row_add l D kA a1 a2 ((((i0 : Int32).toUInt32 >>> ((24 : Int32).toUInt32 &&& Int32.toUInt32 31)).toInt32) &&& 255) f0) ml_CP_97 1 rfl rfl rfl d_CP_addBytes_18 rfl rfl [1, 2] [0] rfl (by decide) rfl (by decide) (by decide) (Nat.le_of_ble_eq_true rfl) (Nat.le_of_ble_eq_true rfl) (Nat.le_of_ble_eq_true rfl) (Nat.le_of_ble_eq_true rfl) (Nat.le_of_ble_eq_true rfl) (fun w1 hw1 => ?_)
  obtain rfl := hw1
  refine ax_w ([(a0, .inr (11, [.ref a1, .ref b0, .ref b1, .ref b2, .ref b3, .ref b4, .ref b5, .ref b6, .ref b7, .ref b8, .int 0, .int 0])), (a1, .inr (0, [.ref a2, .int 9])), (a2, .inl (kA 0, 256, .inl (upd f0 (Int32.toNatClampNeg 8) ((((i0 : Int32).toUInt32 >>> ((24 : Int32).toUInt32 &&& Int32.toUInt32 31)).toInt32) &&& 255))))]) rfl ?_
  refine ax_iinc (pc := 21) C (16) d_CP_addBytes_21 0 rfl (by decide) (Nat.le_of_ble_eq_true rfl) ([(2, .int 16), (0, .ref a0), (1, .int i0)]) rfl ?_
  refine ax_goto (pc := 24) C 3 d_CP_addBytes_24 (by decide) ?_
  refine ax_iload_n (pc := 3) C d_CP_addBytes_3 rfl 0 rfl ?_
  refine ax_if_lt (pc := 4) C 27 d_CP_addBytes_4 (by decide) (fun h => absurd h (by decide)) (fun _ => ?_)
  refine ax_aload_n (pc := 7) C d_CP_addBytes_7 rfl 1 rfl ?_
  refine ax_get (pc := 8) C k_CP 0 lk_CP_14 d_CP_addBytes_8 (Nat.le_of_ble_eq_true rfl) 0 rfl rfl ?_
  refine ax_iload_n (pc := 11) C d_CP_addBytes_11 rfl 2 rfl ?_
  refine ax_iload_n (pc := 12) C d_CP_addBytes_12 rfl 0 rfl ?_
  refine ax_iushr (pc := 13) C (((i0 : Int32).toUInt32 >>> ((16 : Int32).toUInt32 &&& Int32.toUInt32 31)).toInt32) d_CP_addBytes_13 rfl ?_
  refine ax_sipush (pc := 14) C 255 d_CP_addBytes_14 (by decide +kernel) ?_
  refine ax_iand (pc := 17) C d_CP_addBytes_17 ?_
  refine ax_callVv (pc := 18) C (As := [.int ((((i0 : Int32).toUInt32 >>> ((16 : Int32).toUInt32 &&& Int32.toUInt32 31)).toInt32) &&& 255)]) (rest := []) (wr := [(a0, .inr (11, [.ref a1, .ref b0, .ref b1, .ref b2, .ref b3, .ref b4, .ref b5, .ref b6, .ref b7, .ref b8, .int 0, .int 0]))]) (m15_Row_add l D kA a1 a2 ((((i0 : Int32).toUInt32 >>> ((16 : Int32).toUInt32 &&& Int32.toUInt32 31)).toInt32) &&& 255) (upd f0 (Int32.toNatClampNeg 8) ((((i0 : Int32).toUInt32 >>> ((24 : Int32).toUInt32 &&& Int32.toUInt32 31)).toInt32) &&& 255))) ml_CP_97 1 rfl rfl rfl d_CP_addBytes_18 rfl rfl [1, 2] [0] rfl (by decide) rfl (by decide) (by decide) (Nat.le_of_ble_eq_true rfl) (Nat.le_of_ble_eq_true rfl) (Nat.le_of_ble_eq_true rfl) (Nat.le_of_ble_eq_true rfl) (Nat.le_of_ble_eq_true rfl) (fun w1 hw1 => ?_)
  obtain rfl := hw1
  refine ax_w ([(a0, .inr (11, [.ref a1, .ref b0, .ref b1, .ref b2, .ref b3, .ref b4, .ref b5, .ref b6, .ref b7, .ref b8, .int 0, .int 0])), (a1, .inr (0, [.ref a2, .int 10])), (a2, .inl (kA 0, 256, .inl (upd (upd f0 (Int32.toNatClampNeg 8) ((((i0 : Int32).toUInt32 >>> ((24 : Int32).toUInt32 &&& Int32.toUInt32 31)).toInt32) &&& 255)) (Int32.toNatClampNeg 9) ((((i0 : Int32).toUInt32 >>> ((16 : Int32).toUInt32 &&& Int32.toUInt32 31)).toInt32) &&& 255))))]) rfl ?_
  refine ax_iinc (pc := 21) C (8) d_CP_addBytes_21 0 rfl (by decide) (Nat.le_of_ble_eq_true rfl) ([(2, .int 8), (0, .ref a0), (1, .int i0)]) rfl ?_
  refine ax_goto (pc := 24) C 3 d_CP_addBytes_24 (by decide) ?_
  refine ax_iload_n (pc := 3) C d_CP_addBytes_3 rfl 0 rfl ?_
  refine ax_if_lt (pc := 4) C 27 d_CP_addBytes_4 (by decide) (fun h => absurd h (by decide)) (fun _ => ?_)
  refine ax_aload_n (pc := 7) C d_CP_addBytes_7 rfl 1 rfl ?_
  refine ax_get (pc := 8) C k_CP 0 lk_CP_14 d_CP_addBytes_8 (Nat.le_of_ble_eq_true rfl) 0 rfl rfl ?_
  refine ax_iload_n (pc := 11) C d_CP_addBytes_11 rfl 2 rfl ?_
  refine ax_iload_n (pc := 12) C d_CP_addBytes_12 rfl 0 rfl ?_
  refine ax_iushr (pc := 13) C (((i0 : Int32).toUInt32 >>> ((8 : Int32).toUInt32 &&& Int32.toUInt32 31)).toInt32) d_CP_addBytes_13 rfl ?_
  refine ax_sipush (pc := 14) C 255 d_CP_addBytes_14 (by decide +kernel) ?_
  refine ax_iand (pc := 17) C d_CP_addBytes_17 ?_
  refine ax_callVv (pc := 18) C (As := [.int ((((i0 : Int32).toUInt32 >>> ((8 : Int32).toUInt32 &&& Int32.toUInt32 31)).toInt32) &&& 255)]) (rest := []) (wr := [(a0, .inr (11, [.ref a1, .ref b0, .ref b1, .ref b2, .ref b3, .ref b4, .ref b5, .ref b6, .ref b7, .ref b8, .int 0, .int 0]))]) (m16_Row_add l D kA a1 a2 ((((i0 : Int32).toUInt32 >>> ((8 : Int32).toUInt32 &&& Int32.toUInt32 31)).toInt32) &&& 255) (upd (upd f0 (Int32.toNatClampNeg 8) ((((i0 : Int32).toUInt32 >>> ((24 : Int32).toUInt32 &&& Int32.toUInt32 31)).toInt32) &&& 255)) (Int32.toNatClampNeg 9) ((((i0 : Int32).toUInt32 >>> ((16 : Int32).toUInt32 &&& Int32.toUInt32 31)).toInt32) &&& 255))) ml_CP_97 1 rfl rfl rfl d_CP_addBytes_18 rfl rfl [1, 2] [0] rfl (by decide) rfl (by decide) (by decide) (Nat.le_of_ble_eq_true rfl) (Nat.le_of_ble_eq_true rfl) (Nat.le_of_ble_eq_true rfl) (Nat.le_of_ble_eq_true rfl) (Nat.le_of_ble_eq_true rfl) (fun w1 hw1 => ?_)
  obtain rfl := hw1
  refine ax_w ([(a0, .inr (11, [.ref a1, .ref b0, .ref b1, .ref b2, .ref b3, .ref b4, .ref b5, .ref b6, .ref b7, .ref b8, .int 0, .int 0])), (a1, .inr (0, [.ref a2, .int 11])), (a2, .inl (kA 0, 256, .inl (upd (upd (upd f0 (Int32.toNatClampNeg 8) ((((i0 : Int32).toUInt32 >>> ((24 : Int32).toUInt32 &&& Int32.toUInt32 31)).toInt32) &&& 255)) (Int32.toNatClampNeg 9) ((((i0 : Int32).toUInt32 >>> ((16 : Int32).toUInt32 &&& Int32.toUInt32 31)).toInt32) &&& 255)) (Int32.toNatClampNeg 10) ((((i0 : Int32).toUInt32 >>> ((8 : Int32).toUInt32 &&& Int32.toUInt32 31)).toInt32) &&& 255))))]) rfl ?_
  refine ax_iinc (pc := 21) C (0) d_CP_addBytes_21 0 rfl (by decide) (Nat.le_of_ble_eq_true rfl) ([(2, .int 0), (0, .ref a0), (1, .int i0)]) rfl ?_
  refine ax_goto (pc := 24) C 3 d_CP_addBytes_24 (by decide) ?_
  refine ax_iload_n (pc := 3) C d_CP_addBytes_3 rfl 0 rfl ?_
  refine ax_if_lt (pc := 4) C 27 d_CP_addBytes_4 (by decide) (fun h => absurd h (by decide)) (fun _ => ?_)
  refine ax_aload_n (pc := 7) C d_CP_addBytes_7 rfl 1 rfl ?_
  refine ax_get (pc := 8) C k_CP 0 lk_CP_14 d_CP_addBytes_8 (Nat.le_of_ble_eq_true rfl) 0 rfl rfl ?_
  refine ax_iload_n (pc := 11) C d_CP_addBytes_11 rfl 2 rfl ?_
  refine ax_iload_n (pc := 12) C d_CP_addBytes_12 rfl 0 rfl ?_
  refine ax_iushr (pc := 13) C (((i0 : Int32).toUInt32 >>> ((0 : Int32).toUInt32 &&& Int32.toUInt32 31)).toInt32) d_CP_addBytes_13 rfl ?_
  refine ax_sipush (pc := 14) C 255 d_CP_addBytes_14 (by decide +kernel) ?_
  refine ax_iand (pc := 17) C d_CP_addBytes_17 ?_
  refine ax_callVv (pc := 18) C (As := [.int ((((i0 : Int32).toUInt32 >>> ((0 : Int32).toUInt32 &&& Int32.toUInt32 31)).toInt32) &&& 255)]) (rest := []) (wr := [(a0, .inr (11, [.ref a1, .ref b0, .ref b1, .ref b2, .ref b3, .ref b4, .ref b5, .ref b6, .ref b7, .ref b8, .int 0, .int 0]))]) (m17_Row_add l D kA a1 a2 ((((i0 : Int32).toUInt32 >>> ((0 : Int32).toUInt32 &&& Int32.toUInt32 31)).toInt32) &&& 255) (upd (upd (upd f0 (Int32.toNatClampNeg 8) ((((i0 : Int32).toUInt32 >>> ((24 : Int32).toUInt32 &&& Int32.toUInt32 31)).toInt32) &&& 255)) (Int32.toNatClampNeg 9) ((((i0 : Int32).toUInt32 >>> ((16 : Int32).toUInt32 &&& Int32.toUInt32 31)).toInt32) &&& 255)) (Int32.toNatClampNeg 10) ((((i0 : Int32).toUInt32 >>> ((8 : Int32).toUInt32 &&& Int32.toUInt32 31)).toInt32) &&& 255))) ml_CP_97 1 rfl rfl rfl d_CP_addBytes_18 rfl rfl [1, 2] [0] rfl (by decide) rfl (by decide) (by decide) (Nat.le_of_ble_eq_true rfl) (Nat.le_of_ble_eq_true rfl) (Nat.le_of_ble_eq_true rfl) (Nat.le_of_ble_eq_true rfl) (Nat.le_of_ble_eq_true rfl) (fun w1 hw1 => ?_)
  obtain rfl := hw1
  refine ax_w ([(a0, .inr (11, [.ref a1, .ref b0, .ref b1, .ref b2, .ref b3, .ref b4, .ref b5, .ref b6, .ref b7, .ref b8, .int 0, .int 0])), (a1, .inr (0, [.ref a2, .int 12])), (a2, .inl (kA 0, 256, .inl (upd (upd (upd (upd f0 (Int32.toNatClampNeg 8) ((((i0 : Int32).toUInt32 >>> ((24 : Int32).toUInt32 &&& Int32.toUInt32 31)).toInt32) &&& 255)) (Int32.toNatClampNeg 9) ((((i0 : Int32).toUInt32 >>> ((16 : Int32).toUInt32 &&& Int32.toUInt32 31)).toInt32) &&& 255)) (Int32.toNatClampNeg 10) ((((i0 : Int32).toUInt32 >>> ((8 : Int32).toUInt32 &&& Int32.toUInt32 31)).toInt32) &&& 255)) (Int32.toNatClampNeg 11) ((((i0 : Int32).toUInt32 >>> ((0 : Int32).toUInt32 &&& Int32.toUInt32 31)).toInt32) &&& 255))))]) rfl ?_
  refine ax_iinc (pc := 21) C ((-8)) d_CP_addBytes_21 0 rfl (by decide) (Nat.le_of_ble_eq_true rfl) ([(2, .int (-8)), (0, .ref a0), (1, .int i0)]) rfl ?_
  refine ax_goto (pc := 24) C 3 d_CP_addBytes_24 (by decide) ?_
  refine ax_iload_n (pc := 3) C d_CP_addBytes_3 rfl 0 rfl ?_
  refine ax_if_lt (pc := 4) C 27 d_CP_addBytes_4 (by decide) (fun _ => ?_) (fun h => absurd h (by decide))
  exact ax_vret (pc := 27) C d_CP_addBytes_27 rfl (by decide) (by decide)
set_option maxHeartbeats 4000000 in
set_option maxRecDepth 100000 in
theorem m19_Row_add (l : Launch) (D : va_G) (kA : Nat → ClassId) (a0 : Nat) (a1 : Nat) (i0 : Int32) (f0 : Nat → Int32) : ax_Mv l D kA y_Row_add b_Row_add 2 0 0 0 0 [.ref a0, .int i0] [(a0, .inr (0, [.ref a1, .int 12])), (a1, .inl (kA 0, 256, .inl f0))] (fun w1 => w1 = [(a0, .inr (0, [.ref a1, .int 13])), (a1, .inl (kA 0, 256, .inl (upd f0 (Int32.toNatClampNeg 12) i0)))]) := by
  refine ax_Mv.of (by decide +kernel) (Nat.le_of_ble_eq_true rfl) ?_
  intro p e s m args below meth c C hnm
  refine ax_ls ([(0, .ref a0), (1, .int i0)]) [0, 1] rfl ?_
  refine ax_aload_n (pc := 0) C d_Row_add_0 rfl 0 rfl ?_
  refine ax_get (pc := 1) C k_Row 1 lk_Row_13 d_Row_add_1 (Nat.le_of_ble_eq_true rfl) 0 rfl rfl ?_
  refine ax_aload_n (pc := 4) C d_Row_add_4 rfl 0 rfl ?_
  refine ax_get (pc := 5) C k_Row 0 lk_Row_7 d_Row_add_5 (Nat.le_of_ble_eq_true rfl) 0 rfl rfl ?_
  refine ax_alen (pc := 8) C 1 0 rfl rfl 256 rfl d_Row_add_8 ?_
  refine ax_icmp_ne (pc := 9) C 31 d_Row_add_9 (by decide) (fun _ => ?_) (fun h => absurd h (by decide))
  refine ax_aload_n (pc := 31) C d_Row_add_31 rfl 0 rfl ?_
  refine ax_get (pc := 32) C k_Row 0 lk_Row_7 d_Row_add_32 (Nat.le_of_ble_eq_true rfl) 0 rfl rfl ?_
  refine ax_aload_n (pc := 35) C d_Row_add_35 rfl 0 rfl ?_
  refine ax_dup (pc := 36) C d_Row_add_36 rfl ?_
  refine ax_get (pc := 37) C k_Row 1 lk_Row_13 d_Row_add_37 (Nat.le_of_ble_eq_true rfl) 0 rfl rfl ?_
  refine ax_dup_x1 (pc := 40) C d_Row_add_40 rfl rfl ?_
  refine ax_iconst (pc := 41) C 1 d_Row_add_41 (by decide +kernel) ?_
  refine ax_iadd (pc := 42) C d_Row_add_42 ?_
  refine ax_nrm 13 (by decide) ?_
  refine ax_put (pc := 43) C k_Row 1 lk_Row_13 d_Row_add_43 (Nat.le_of_ble_eq_true rfl) 0 rfl rfl rfl rfl (Nat.le_of_ble_eq_true rfl) ?_
  refine ax_w ([(a0, .inr (0, [.ref a1, .int 13])), (a1, .inl (kA 0, 256, .inl f0))]) rfl ?_
  refine ax_iload_n (pc := 46) C d_Row_add_46 rfl 1 rfl ?_
  refine ax_iast (pc := 47) C 1 rfl d_Row_add_47 (by unfold vp_in; decide) ?_
  refine ax_w ([(a0, .inr (0, [.ref a1, .int 13])), (a1, .inl (kA 0, 256, .inl (upd f0 (Int32.toNatClampNeg 12) i0)))]) rfl ?_
  exact ax_vret (pc := 48) C d_Row_add_48 rfl (by decide) (by decide)
set_option maxHeartbeats 4000000 in
set_option maxRecDepth 100000 in
theorem m20_Row_add (l : Launch) (D : va_G) (kA : Nat → ClassId) (a0 : Nat) (a1 : Nat) (i0 : Int32) (f0 : Nat → Int32) : ax_Mv l D kA y_Row_add b_Row_add 2 0 0 0 0 [.ref a0, .int i0] [(a0, .inr (0, [.ref a1, .int 13])), (a1, .inl (kA 0, 256, .inl f0))] (fun w1 => w1 = [(a0, .inr (0, [.ref a1, .int 14])), (a1, .inl (kA 0, 256, .inl (upd f0 (Int32.toNatClampNeg 13) i0)))]) := by
  refine ax_Mv.of (by decide +kernel) (Nat.le_of_ble_eq_true rfl) ?_
  intro p e s m args below meth c C hnm
  refine ax_ls ([(0, .ref a0), (1, .int i0)]) [0, 1] rfl ?_
  refine ax_aload_n (pc := 0) C d_Row_add_0 rfl 0 rfl ?_
  refine ax_get (pc := 1) C k_Row 1 lk_Row_13 d_Row_add_1 (Nat.le_of_ble_eq_true rfl) 0 rfl rfl ?_
  refine ax_aload_n (pc := 4) C d_Row_add_4 rfl 0 rfl ?_
  refine ax_get (pc := 5) C k_Row 0 lk_Row_7 d_Row_add_5 (Nat.le_of_ble_eq_true rfl) 0 rfl rfl ?_
  refine ax_alen (pc := 8) C 1 0 rfl rfl 256 rfl d_Row_add_8 ?_
  refine ax_icmp_ne (pc := 9) C 31 d_Row_add_9 (by decide) (fun _ => ?_) (fun h => absurd h (by decide))
  refine ax_aload_n (pc := 31) C d_Row_add_31 rfl 0 rfl ?_
  refine ax_get (pc := 32) C k_Row 0 lk_Row_7 d_Row_add_32 (Nat.le_of_ble_eq_true rfl) 0 rfl rfl ?_
  refine ax_aload_n (pc := 35) C d_Row_add_35 rfl 0 rfl ?_
  refine ax_dup (pc := 36) C d_Row_add_36 rfl ?_
  refine ax_get (pc := 37) C k_Row 1 lk_Row_13 d_Row_add_37 (Nat.le_of_ble_eq_true rfl) 0 rfl rfl ?_
  refine ax_dup_x1 (pc := 40) C d_Row_add_40 rfl rfl ?_
  refine ax_iconst (pc := 41) C 1 d_Row_add_41 (by decide +kernel) ?_
  refine ax_iadd (pc := 42) C d_Row_add_42 ?_
  refine ax_nrm 14 (by decide) ?_
  refine ax_put (pc := 43) C k_Row 1 lk_Row_13 d_Row_add_43 (Nat.le_of_ble_eq_true rfl) 0 rfl rfl rfl rfl (Nat.le_of_ble_eq_true rfl) ?_
  refine ax_w ([(a0, .inr (0, [.ref a1, .int 14])), (a1, .inl (kA 0, 256, .inl f0))]) rfl ?_
  refine ax_iload_n (pc := 46) C d_Row_add_46 rfl 1 rfl ?_
  refine ax_iast (pc := 47) C 1 rfl d_Row_add_47 (by unfold vp_in; decide) ?_
  refine ax_w ([(a0, .inr (0, [.ref a1, .int 14])), (a1, .inl (kA 0, 256, .inl (upd f0 (Int32.toNatClampNeg 13) i0)))]) rfl ?_
  exact ax_vret (pc := 48) C d_Row_add_48 rfl (by decide) (by decide)
set_option maxHeartbeats 4000000 in
set_option maxRecDepth 100000 in
theorem m21_Row_add (l : Launch) (D : va_G) (kA : Nat → ClassId) (a0 : Nat) (a1 : Nat) (i0 : Int32) (f0 : Nat → Int32) : ax_Mv l D kA y_Row_add b_Row_add 2 0 0 0 0 [.ref a0, .int i0] [(a0, .inr (0, [.ref a1, .int 14])), (a1, .inl (kA 0, 256, .inl f0))] (fun w1 => w1 = [(a0, .inr (0, [.ref a1, .int 15])), (a1, .inl (kA 0, 256, .inl (upd f0 (Int32.toNatClampNeg 14) i0)))]) := by
  refine ax_Mv.of (by decide +kernel) (Nat.le_of_ble_eq_true rfl) ?_
  intro p e s m args below meth c C hnm
  refine ax_ls ([(0, .ref a0), (1, .int i0)]) [0, 1] rfl ?_
  refine ax_aload_n (pc := 0) C d_Row_add_0 rfl 0 rfl ?_
  refine ax_get (pc := 1) C k_Row 1 lk_Row_13 d_Row_add_1 (Nat.le_of_ble_eq_true rfl) 0 rfl rfl ?_
  refine ax_aload_n (pc := 4) C d_Row_add_4 rfl 0 rfl ?_
  refine ax_get (pc := 5) C k_Row 0 lk_Row_7 d_Row_add_5 (Nat.le_of_ble_eq_true rfl) 0 rfl rfl ?_
  refine ax_alen (pc := 8) C 1 0 rfl rfl 256 rfl d_Row_add_8 ?_
  refine ax_icmp_ne (pc := 9) C 31 d_Row_add_9 (by decide) (fun _ => ?_) (fun h => absurd h (by decide))
  refine ax_aload_n (pc := 31) C d_Row_add_31 rfl 0 rfl ?_
  refine ax_get (pc := 32) C k_Row 0 lk_Row_7 d_Row_add_32 (Nat.le_of_ble_eq_true rfl) 0 rfl rfl ?_
  refine ax_aload_n (pc := 35) C d_Row_add_35 rfl 0 rfl ?_
  refine ax_dup (pc := 36) C d_Row_add_36 rfl ?_
  refine ax_get (pc := 37) C k_Row 1 lk_Row_13 d_Row_add_37 (Nat.le_of_ble_eq_true rfl) 0 rfl rfl ?_
  refine ax_dup_x1 (pc := 40) C d_Row_add_40 rfl rfl ?_
  refine ax_iconst (pc := 41) C 1 d_Row_add_41 (by decide +kernel) ?_
  refine ax_iadd (pc := 42) C d_Row_add_42 ?_
  refine ax_nrm 15 (by decide) ?_
  refine ax_put (pc := 43) C k_Row 1 lk_Row_13 d_Row_add_43 (Nat.le_of_ble_eq_true rfl) 0 rfl rfl rfl rfl (Nat.le_of_ble_eq_true rfl) ?_
  refine ax_w ([(a0, .inr (0, [.ref a1, .int 15])), (a1, .inl (kA 0, 256, .inl f0))]) rfl ?_
  refine ax_iload_n (pc := 46) C d_Row_add_46 rfl 1 rfl ?_
  refine ax_iast (pc := 47) C 1 rfl d_Row_add_47 (by unfold vp_in; decide) ?_
  refine ax_w ([(a0, .inr (0, [.ref a1, .int 15])), (a1, .inl (kA 0, 256, .inl (upd f0 (Int32.toNatClampNeg 14) i0)))]) rfl ?_
  exact ax_vret (pc := 48) C d_Row_add_48 rfl (by decide) (by decide)
set_option maxHeartbeats 4000000 in
set_option maxRecDepth 100000 in
theorem m22_Row_add (l : Launch) (D : va_G) (kA : Nat → ClassId) (a0 : Nat) (a1 : Nat) (i0 : Int32) (f0 : Nat → Int32) : ax_Mv l D kA y_Row_add b_Row_add 2 0 0 0 0 [.ref a0, .int i0] [(a0, .inr (0, [.ref a1, .int 15])), (a1, .inl (kA 0, 256, .inl f0))] (fun w1 => w1 = [(a0, .inr (0, [.ref a1, .int 16])), (a1, .inl (kA 0, 256, .inl (upd f0 (Int32.toNatClampNeg 15) i0)))]) := by
  refine ax_Mv.of (by decide +kernel) (Nat.le_of_ble_eq_true rfl) ?_
  intro p e s m args below meth c C hnm
  refine ax_ls ([(0, .ref a0), (1, .int i0)]) [0, 1] rfl ?_
  refine ax_aload_n (pc := 0) C d_Row_add_0 rfl 0 rfl ?_
  refine ax_get (pc := 1) C k_Row 1 lk_Row_13 d_Row_add_1 (Nat.le_of_ble_eq_true rfl) 0 rfl rfl ?_
  refine ax_aload_n (pc := 4) C d_Row_add_4 rfl 0 rfl ?_
  refine ax_get (pc := 5) C k_Row 0 lk_Row_7 d_Row_add_5 (Nat.le_of_ble_eq_true rfl) 0 rfl rfl ?_
  refine ax_alen (pc := 8) C 1 0 rfl rfl 256 rfl d_Row_add_8 ?_
  refine ax_icmp_ne (pc := 9) C 31 d_Row_add_9 (by decide) (fun _ => ?_) (fun h => absurd h (by decide))
  refine ax_aload_n (pc := 31) C d_Row_add_31 rfl 0 rfl ?_
  refine ax_get (pc := 32) C k_Row 0 lk_Row_7 d_Row_add_32 (Nat.le_of_ble_eq_true rfl) 0 rfl rfl ?_
  refine ax_aload_n (pc := 35) C d_Row_add_35 rfl 0 rfl ?_
  refine ax_dup (pc := 36) C d_Row_add_36 rfl ?_
  refine ax_get (pc := 37) C k_Row 1 lk_Row_13 d_Row_add_37 (Nat.le_of_ble_eq_true rfl) 0 rfl rfl ?_
  refine ax_dup_x1 (pc := 40) C d_Row_add_40 rfl rfl ?_
  refine ax_iconst (pc := 41) C 1 d_Row_add_41 (by decide +kernel) ?_
  refine ax_iadd (pc := 42) C d_Row_add_42 ?_
  refine ax_nrm 16 (by decide) ?_
  refine ax_put (pc := 43) C k_Row 1 lk_Row_13 d_Row_add_43 (Nat.le_of_ble_eq_true rfl) 0 rfl rfl rfl rfl (Nat.le_of_ble_eq_true rfl) ?_
  refine ax_w ([(a0, .inr (0, [.ref a1, .int 16])), (a1, .inl (kA 0, 256, .inl f0))]) rfl ?_
  refine ax_iload_n (pc := 46) C d_Row_add_46 rfl 1 rfl ?_
  refine ax_iast (pc := 47) C 1 rfl d_Row_add_47 (by unfold vp_in; decide) ?_
  refine ax_w ([(a0, .inr (0, [.ref a1, .int 16])), (a1, .inl (kA 0, 256, .inl (upd f0 (Int32.toNatClampNeg 15) i0)))]) rfl ?_
  exact ax_vret (pc := 48) C d_Row_add_48 rfl (by decide) (by decide)
set_option maxHeartbeats 4000000 in
set_option maxRecDepth 100000 in
theorem m18_CP_addBytes (l : Launch) (D : va_G) (kA : Nat → ClassId) (a0 : Nat) (a1 : Nat) (a2 : Nat) (b0 : Nat) (b1 : Nat) (b2 : Nat) (b3 : Nat) (b4 : Nat) (b5 : Nat) (b6 : Nat) (b7 : Nat) (b8 : Nat) (i0 : Int32) (f0 : Nat → Int32) : ax_Mv l D kA y_CP_addBytes b_CP_addBytes 3 1 21 0 0 [.ref a0, .int i0] [(a0, .inr (11, [.ref a1, .ref b0, .ref b1, .ref b2, .ref b3, .ref b4, .ref b5, .ref b6, .ref b7, .ref b8, .int 0, .int 0])), (a1, .inr (0, [.ref a2, .int 12])), (a2, .inl (kA 0, 256, .inl f0))] (fun w1 => w1 = [(a0, .inr (11, [.ref a1, .ref b0, .ref b1, .ref b2, .ref b3, .ref b4, .ref b5, .ref b6, .ref b7, .ref b8, .int 0, .int 0])), (a1, .inr (0, [.ref a2, .int 16])), (a2, .inl (kA 0, 256, .inl (upd (upd (upd (upd f0 (Int32.toNatClampNeg 12) ((((i0 : Int32).toUInt32 >>> ((24 : Int32).toUInt32 &&& Int32.toUInt32 31)).toInt32) &&& 255)) (Int32.toNatClampNeg 13) ((((i0 : Int32).toUInt32 >>> ((16 : Int32).toUInt32 &&& Int32.toUInt32 31)).toInt32) &&& 255)) (Int32.toNatClampNeg 14) ((((i0 : Int32).toUInt32 >>> ((8 : Int32).toUInt32 &&& Int32.toUInt32 31)).toInt32) &&& 255)) (Int32.toNatClampNeg 15) ((((i0 : Int32).toUInt32 >>> ((0 : Int32).toUInt32 &&& Int32.toUInt32 31)).toInt32) &&& 255))))]) := by
  refine ax_Mv.of (by decide +kernel) (Nat.le_of_ble_eq_true rfl) ?_
  intro p e s m args below meth c C hnm
  refine ax_ls ([(0, .ref a0), (1, .int i0)]) [0, 1] rfl ?_
  refine ax_bipush (pc := 0) C 24 d_CP_addBytes_0 (by decide +kernel) ?_
  refine ax_istore_n (pc := 2) C d_CP_addBytes_2 rfl (Nat.le_of_ble_eq_true rfl) ([(2, .int 24), (0, .ref a0), (1, .int i0)]) rfl ?_
  refine ax_iload_n (pc := 3) C d_CP_addBytes_3 rfl 0 rfl ?_
  refine ax_if_lt (pc := 4) C 27 d_CP_addBytes_4 (by decide) (fun h => absurd h (by decide)) (fun _ => ?_)
  refine ax_aload_n (pc := 7) C d_CP_addBytes_7 rfl 1 rfl ?_
  refine ax_get (pc := 8) C k_CP 0 lk_CP_14 d_CP_addBytes_8 (Nat.le_of_ble_eq_true rfl) 0 rfl rfl ?_
  refine ax_iload_n (pc := 11) C d_CP_addBytes_11 rfl 2 rfl ?_
  refine ax_iload_n (pc := 12) C d_CP_addBytes_12 rfl 0 rfl ?_
  refine ax_iushr (pc := 13) C (((i0 : Int32).toUInt32 >>> ((24 : Int32).toUInt32 &&& Int32.toUInt32 31)).toInt32) d_CP_addBytes_13 rfl ?_
  refine ax_sipush (pc := 14) C 255 d_CP_addBytes_14 (by decide +kernel) ?_
  refine ax_iand (pc := 17) C d_CP_addBytes_17 ?_
  refine ax_callVv (pc := 18) C (As := [.int ((((i0 : Int32).toUInt32 >>> ((24 : Int32).toUInt32 &&& Int32.toUInt32 31)).toInt32) &&& 255)]) (rest := []) (wr := [(a0, .inr (11, [.ref a1, .ref b0, .ref b1, .ref b2, .ref b3, .ref b4, .ref b5, .ref b6, .ref b7, .ref b8, .int 0, .int 0]))]) (m19_Row_add l D kA a1 a2 ((((i0 : Int32).toUInt32 >>> ((24 : Int32).toUInt32 &&& Int32.toUInt32 31)).toInt32) &&& 255) f0) ml_CP_97 1 rfl rfl rfl d_CP_addBytes_18 rfl rfl [1, 2] [0] rfl (by decide) rfl (by decide) (by decide) (Nat.le_of_ble_eq_true rfl) (Nat.le_of_ble_eq_true rfl) (Nat.le_of_ble_eq_true rfl) (Nat.le_of_ble_eq_true rfl) (Nat.le_of_ble_eq_true rfl) (fun w1 hw1 => ?_)
  obtain rfl := hw1
  refine ax_w ([(a0, .inr (11, [.ref a1, .ref b0, .ref b1, .ref b2, .ref b3, .ref b4, .ref b5, .ref b6, .ref b7, .ref b8, .int 0, .int 0])), (a1, .inr (0, [.ref a2, .int 13])), (a2, .inl (kA 0, 256, .inl (upd f0 (Int32.toNatClampNeg 12) ((((i0 : Int32).toUInt32 >>> ((24 : Int32).toUInt32 &&& Int32.toUInt32 31)).toInt32) &&& 255))))]) rfl ?_
  refine ax_iinc (pc := 21) C (16) d_CP_addBytes_21 0 rfl (by decide) (Nat.le_of_ble_eq_true rfl) ([(2, .int 16), (0, .ref a0), (1, .int i0)]) rfl ?_
  refine ax_goto (pc := 24) C 3 d_CP_addBytes_24 (by decide) ?_
  refine ax_iload_n (pc := 3) C d_CP_addBytes_3 rfl 0 rfl ?_
  refine ax_if_lt (pc := 4) C 27 d_CP_addBytes_4 (by decide) (fun h => absurd h (by decide)) (fun _ => ?_)
  refine ax_aload_n (pc := 7) C d_CP_addBytes_7 rfl 1 rfl ?_
  refine ax_get (pc := 8) C k_CP 0 lk_CP_14 d_CP_addBytes_8 (Nat.le_of_ble_eq_true rfl) 0 rfl rfl ?_
  refine ax_iload_n (pc := 11) C d_CP_addBytes_11 rfl 2 rfl ?_
  refine ax_iload_n (pc := 12) C d_CP_addBytes_12 rfl 0 rfl ?_
  refine ax_iushr (pc := 13) C (((i0 : Int32).toUInt32 >>> ((16 : Int32).toUInt32 &&& Int32.toUInt32 31)).toInt32) d_CP_addBytes_13 rfl ?_
  refine ax_sipush (pc := 14) C 255 d_CP_addBytes_14 (by decide +kernel) ?_
  refine ax_iand (pc := 17) C d_CP_addBytes_17 ?_
  refine ax_callVv (pc := 18) C (As := [.int ((((i0 : Int32).toUInt32 >>> ((16 : Int32).toUInt32 &&& Int32.toUInt32 31)).toInt32) &&& 255)]) (rest := []) (wr := [(a0, .inr (11, [.ref a1, .ref b0, .ref b1, .ref b2, .ref b3, .ref b4, .ref b5, .ref b6, .ref b7, .ref b8, .int 0, .int 0]))]) (m20_Row_add l D kA a1 a2 ((((i0 : Int32).toUInt32 >>> ((16 : Int32).toUInt32 &&& Int32.toUInt32 31)).toInt32) &&& 255) (upd f0 (Int32.toNatClampNeg 12) ((((i0 : Int32).toUInt32 >>> ((24 : Int32).toUInt32 &&& Int32.toUInt32 31)).toInt32) &&& 255))) ml_CP_97 1 rfl rfl rfl d_CP_addBytes_18 rfl rfl [1, 2] [0] rfl (by decide) rfl (by decide) (by decide) (Nat.le_of_ble_eq_true rfl) (Nat.le_of_ble_eq_true rfl) (Nat.le_of_ble_eq_true rfl) (Nat.le_of_ble_eq_true rfl) (Nat.le_of_ble_eq_true rfl) (fun w1 hw1 => ?_)
  obtain rfl := hw1
  refine ax_w ([(a0, .inr (11, [.ref a1, .ref b0, .ref b1, .ref b2, .ref b3, .ref b4, .ref b5, .ref b6, .ref b7, .ref b8, .int 0, .int 0])), (a1, .inr (0, [.ref a2, .int 14])), (a2, .inl (kA 0, 256, .inl (upd (upd f0 (Int32.toNatClampNeg 12) ((((i0 : Int32).toUInt32 >>> ((24 : Int32).toUInt32 &&& Int32.toUInt32 31)).toInt32) &&& 255)) (Int32.toNatClampNeg 13) ((((i0 : Int32).toUInt32 >>> ((16 : Int32).toUInt32 &&& Int32.toUInt32 31)).toInt32) &&& 255))))]) rfl ?_
  refine ax_iinc (pc := 21) C (8) d_CP_addBytes_21 0 rfl (by decide) (Nat.le_of_ble_eq_true rfl) ([(2, .int 8), (0, .ref a0), (1, .int i0)]) rfl ?_
  refine ax_goto (pc := 24) C 3 d_CP_addBytes_24 (by decide) ?_
  refine ax_iload_n (pc := 3) C d_CP_addBytes_3 rfl 0 rfl ?_
  refine ax_if_lt (pc := 4) C 27 d_CP_addBytes_4 (by decide) (fun h => absurd h (by decide)) (fun _ => ?_)
  refine ax_aload_n (pc := 7) C d_CP_addBytes_7 rfl 1 rfl ?_
  refine ax_get (pc := 8) C k_CP 0 lk_CP_14 d_CP_addBytes_8 (Nat.le_of_ble_eq_true rfl) 0 rfl rfl ?_
  refine ax_iload_n (pc := 11) C d_CP_addBytes_11 rfl 2 rfl ?_
  refine ax_iload_n (pc := 12) C d_CP_addBytes_12 rfl 0 rfl ?_
  refine ax_iushr (pc := 13) C (((i0 : Int32).toUInt32 >>> ((8 : Int32).toUInt32 &&& Int32.toUInt32 31)).toInt32) d_CP_addBytes_13 rfl ?_
  refine ax_sipush (pc := 14) C 255 d_CP_addBytes_14 (by decide +kernel) ?_
  refine ax_iand (pc := 17) C d_CP_addBytes_17 ?_
  refine ax_callVv (pc := 18) C (As := [.int ((((i0 : Int32).toUInt32 >>> ((8 : Int32).toUInt32 &&& Int32.toUInt32 31)).toInt32) &&& 255)]) (rest := []) (wr := [(a0, .inr (11, [.ref a1, .ref b0, .ref b1, .ref b2, .ref b3, .ref b4, .ref b5, .ref b6, .ref b7, .ref b8, .int 0, .int 0]))]) (m21_Row_add l D kA a1 a2 ((((i0 : Int32).toUInt32 >>> ((8 : Int32).toUInt32 &&& Int32.toUInt32 31)).toInt32) &&& 255) (upd (upd f0 (Int32.toNatClampNeg 12) ((((i0 : Int32).toUInt32 >>> ((24 : Int32).toUInt32 &&& Int32.toUInt32 31)).toInt32) &&& 255)) (Int32.toNatClampNeg 13) ((((i0 : Int32).toUInt32 >>> ((16 : Int32).toUInt32 &&& Int32.toUInt32 31)).toInt32) &&& 255))) ml_CP_97 1 rfl rfl rfl d_CP_addBytes_18 rfl rfl [1, 2] [0] rfl (by decide) rfl (by decide) (by decide) (Nat.le_of_ble_eq_true rfl) (Nat.le_of_ble_eq_true rfl) (Nat.le_of_ble_eq_true rfl) (Nat.le_of_ble_eq_true rfl) (Nat.le_of_ble_eq_true rfl) (fun w1 hw1 => ?_)
  obtain rfl := hw1
  refine ax_w ([(a0, .inr (11, [.ref a1, .ref b0, .ref b1, .ref b2, .ref b3, .ref b4, .ref b5, .ref b6, .ref b7, .ref b8, .int 0, .int 0])), (a1, .inr (0, [.ref a2, .int 15])), (a2, .inl (kA 0, 256, .inl (upd (upd (upd f0 (Int32.toNatClampNeg 12) ((((i0 : Int32).toUInt32 >>> ((24 : Int32).toUInt32 &&& Int32.toUInt32 31)).toInt32) &&& 255)) (Int32.toNatClampNeg 13) ((((i0 : Int32).toUInt32 >>> ((16 : Int32).toUInt32 &&& Int32.toUInt32 31)).toInt32) &&& 255)) (Int32.toNatClampNeg 14) ((((i0 : Int32).toUInt32 >>> ((8 : Int32).toUInt32 &&& Int32.toUInt32 31)).toInt32) &&& 255))))]) rfl ?_
  refine ax_iinc (pc := 21) C (0) d_CP_addBytes_21 0 rfl (by decide) (Nat.le_of_ble_eq_true rfl) ([(2, .int 0), (0, .ref a0), (1, .int i0)]) rfl ?_
  refine ax_goto (pc := 24) C 3 d_CP_addBytes_24 (by decide) ?_
  refine ax_iload_n (pc := 3) C d_CP_addBytes_3 rfl 0 rfl ?_
  refine ax_if_lt (pc := 4) C 27 d_CP_addBytes_4 (by decide) (fun h => absurd h (by decide)) (fun _ => ?_)
  refine ax_aload_n (pc := 7) C d_CP_addBytes_7 rfl 1 rfl ?_
  refine ax_get (pc := 8) C k_CP 0 lk_CP_14 d_CP_addBytes_8 (Nat.le_of_ble_eq_true rfl) 0 rfl rfl ?_
  refine ax_iload_n (pc := 11) C d_CP_addBytes_11 rfl 2 rfl ?_
  refine ax_iload_n (pc := 12) C d_CP_addBytes_12 rfl 0 rfl ?_
  refine ax_iushr (pc := 13) C (((i0 : Int32).toUInt32 >>> ((0 : Int32).toUInt32 &&& Int32.toUInt32 31)).toInt32) d_CP_addBytes_13 rfl ?_
  refine ax_sipush (pc := 14) C 255 d_CP_addBytes_14 (by decide +kernel) ?_
  refine ax_iand (pc := 17) C d_CP_addBytes_17 ?_
  refine ax_callVv (pc := 18) C (As := [.int ((((i0 : Int32).toUInt32 >>> ((0 : Int32).toUInt32 &&& Int32.toUInt32 31)).toInt32) &&& 255)]) (rest := []) (wr := [(a0, .inr (11, [.ref a1, .ref b0, .ref b1, .ref b2, .ref b3, .ref b4, .ref b5, .ref b6, .ref b7, .ref b8, .int 0, .int 0]))]) (m22_Row_add l D kA a1 a2 ((((i0 : Int32).toUInt32 >>> ((0 : Int32).toUInt32 &&& Int32.toUInt32 31)).toInt32) &&& 255) (upd (upd (upd f0 (Int32.toNatClampNeg 12) ((((i0 : Int32).toUInt32 >>> ((24 : Int32).toUInt32 &&& Int32.toUInt32 31)).toInt32) &&& 255)) (Int32.toNatClampNeg 13) ((((i0 : Int32).toUInt32 >>> ((16 : Int32).toUInt32 &&& Int32.toUInt32 31)).toInt32) &&& 255)) (Int32.toNatClampNeg 14) ((((i0 : Int32).toUInt32 >>> ((8 : Int32).toUInt32 &&& Int32.toUInt32 31)).toInt32) &&& 255))) ml_CP_97 1 rfl rfl rfl d_CP_addBytes_18 rfl rfl [1, 2] [0] rfl (by decide) rfl (by decide) (by decide) (Nat.le_of_ble_eq_true rfl) (Nat.le_of_ble_eq_true rfl) (Nat.le_of_ble_eq_true rfl) (Nat.le_of_ble_eq_true rfl) (Nat.le_of_ble_eq_true rfl) (fun w1 hw1 => ?_)
  obtain rfl := hw1
  refine ax_w ([(a0, .inr (11, [.ref a1, .ref b0, .ref b1, .ref b2, .ref b3, .ref b4, .ref b5, .ref b6, .ref b7, .ref b8, .int 0, .int 0])), (a1, .inr (0, [.ref a2, .int 16])), (a2, .inl (kA 0, 256, .inl (upd (upd (upd (upd f0 (Int32.toNatClampNeg 12) ((((i0 : Int32).toUInt32 >>> ((24 : Int32).toUInt32 &&& Int32.toUInt32 31)).toInt32) &&& 255)) (Int32.toNatClampNeg 13) ((((i0 : Int32).toUInt32 >>> ((16 : Int32).toUInt32 &&& Int32.toUInt32 31)).toInt32) &&& 255)) (Int32.toNatClampNeg 14) ((((i0 : Int32).toUInt32 >>> ((8 : Int32).toUInt32 &&& Int32.toUInt32 31)).toInt32) &&& 255)) (Int32.toNatClampNeg 15) ((((i0 : Int32).toUInt32 >>> ((0 : Int32).toUInt32 &&& Int32.toUInt32 31)).toInt32) &&& 255))))]) rfl ?_
  refine ax_iinc (pc := 21) C ((-8)) d_CP_addBytes_21 0 rfl (by decide) (Nat.le_of_ble_eq_true rfl) ([(2, .int (-8)), (0, .ref a0), (1, .int i0)]) rfl ?_
  refine ax_goto (pc := 24) C 3 d_CP_addBytes_24 (by decide) ?_
  refine ax_iload_n (pc := 3) C d_CP_addBytes_3 rfl 0 rfl ?_
  refine ax_if_lt (pc := 4) C 27 d_CP_addBytes_4 (by decide) (fun _ => ?_) (fun h => absurd h (by decide))
  exact ax_vret (pc := 27) C d_CP_addBytes_27 rfl (by decide) (by decide)
set_option maxHeartbeats 4000000 in
set_option maxRecDepth 100000 in
theorem m24_Row_add (l : Launch) (D : va_G) (kA : Nat → ClassId) (a0 : Nat) (a1 : Nat) (i0 : Int32) (f0 : Nat → Int32) : ax_Mv l D kA y_Row_add b_Row_add 2 0 0 0 0 [.ref a0, .int i0] [(a0, .inr (0, [.ref a1, .int 16])), (a1, .inl (kA 0, 256, .inl f0))] (fun w1 => w1 = [(a0, .inr (0, [.ref a1, .int 17])), (a1, .inl (kA 0, 256, .inl (upd f0 (Int32.toNatClampNeg 16) i0)))]) := by
  refine ax_Mv.of (by decide +kernel) (Nat.le_of_ble_eq_true rfl) ?_
  intro p e s m args below meth c C hnm
  refine ax_ls ([(0, .ref a0), (1, .int i0)]) [0, 1] rfl ?_
  refine ax_aload_n (pc := 0) C d_Row_add_0 rfl 0 rfl ?_
  refine ax_get (pc := 1) C k_Row 1 lk_Row_13 d_Row_add_1 (Nat.le_of_ble_eq_true rfl) 0 rfl rfl ?_
  refine ax_aload_n (pc := 4) C d_Row_add_4 rfl 0 rfl ?_
  refine ax_get (pc := 5) C k_Row 0 lk_Row_7 d_Row_add_5 (Nat.le_of_ble_eq_true rfl) 0 rfl rfl ?_
  refine ax_alen (pc := 8) C 1 0 rfl rfl 256 rfl d_Row_add_8 ?_
  refine ax_icmp_ne (pc := 9) C 31 d_Row_add_9 (by decide) (fun _ => ?_) (fun h => absurd h (by decide))
  refine ax_aload_n (pc := 31) C d_Row_add_31 rfl 0 rfl ?_
  refine ax_get (pc := 32) C k_Row 0 lk_Row_7 d_Row_add_32 (Nat.le_of_ble_eq_true rfl) 0 rfl rfl ?_
  refine ax_aload_n (pc := 35) C d_Row_add_35 rfl 0 rfl ?_
  refine ax_dup (pc := 36) C d_Row_add_36 rfl ?_
  refine ax_get (pc := 37) C k_Row 1 lk_Row_13 d_Row_add_37 (Nat.le_of_ble_eq_true rfl) 0 rfl rfl ?_
  refine ax_dup_x1 (pc := 40) C d_Row_add_40 rfl rfl ?_
  refine ax_iconst (pc := 41) C 1 d_Row_add_41 (by decide +kernel) ?_
  refine ax_iadd (pc := 42) C d_Row_add_42 ?_
  refine ax_nrm 17 (by decide) ?_
  refine ax_put (pc := 43) C k_Row 1 lk_Row_13 d_Row_add_43 (Nat.le_of_ble_eq_true rfl) 0 rfl rfl rfl rfl (Nat.le_of_ble_eq_true rfl) ?_
  refine ax_w ([(a0, .inr (0, [.ref a1, .int 17])), (a1, .inl (kA 0, 256, .inl f0))]) rfl ?_
  refine ax_iload_n (pc := 46) C d_Row_add_46 rfl 1 rfl ?_
  refine ax_iast (pc := 47) C 1 rfl d_Row_add_47 (by unfold vp_in; decide) ?_
  refine ax_w ([(a0, .inr (0, [.ref a1, .int 17])), (a1, .inl (kA 0, 256, .inl (upd f0 (Int32.toNatClampNeg 16) i0)))]) rfl ?_
  exact ax_vret (pc := 48) C d_Row_add_48 rfl (by decide) (by decide)
set_option maxHeartbeats 4000000 in
set_option maxRecDepth 100000 in
theorem m25_Row_add (l : Launch) (D : va_G) (kA : Nat → ClassId) (a0 : Nat) (a1 : Nat) (i0 : Int32) (f0 : Nat → Int32) : ax_Mv l D kA y_Row_add b_Row_add 2 0 0 0 0 [.ref a0, .int i0] [(a0, .inr (0, [.ref a1, .int 17])), (a1, .inl (kA 0, 256, .inl f0))] (fun w1 => w1 = [(a0, .inr (0, [.ref a1, .int 18])), (a1, .inl (kA 0, 256, .inl (upd f0 (Int32.toNatClampNeg 17) i0)))]) := by
  refine ax_Mv.of (by decide +kernel) (Nat.le_of_ble_eq_true rfl) ?_
  intro p e s m args below meth c C hnm
  refine ax_ls ([(0, .ref a0), (1, .int i0)]) [0, 1] rfl ?_
  refine ax_aload_n (pc := 0) C d_Row_add_0 rfl 0 rfl ?_
  refine ax_get (pc := 1) C k_Row 1 lk_Row_13 d_Row_add_1 (Nat.le_of_ble_eq_true rfl) 0 rfl rfl ?_
  refine ax_aload_n (pc := 4) C d_Row_add_4 rfl 0 rfl ?_
  refine ax_get (pc := 5) C k_Row 0 lk_Row_7 d_Row_add_5 (Nat.le_of_ble_eq_true rfl) 0 rfl rfl ?_
  refine ax_alen (pc := 8) C 1 0 rfl rfl 256 rfl d_Row_add_8 ?_
  refine ax_icmp_ne (pc := 9) C 31 d_Row_add_9 (by decide) (fun _ => ?_) (fun h => absurd h (by decide))
  refine ax_aload_n (pc := 31) C d_Row_add_31 rfl 0 rfl ?_
  refine ax_get (pc := 32) C k_Row 0 lk_Row_7 d_Row_add_32 (Nat.le_of_ble_eq_true rfl) 0 rfl rfl ?_
  refine ax_aload_n (pc := 35) C d_Row_add_35 rfl 0 rfl ?_
  refine ax_dup (pc := 36) C d_Row_add_36 rfl ?_
  refine ax_get (pc := 37) C k_Row 1 lk_Row_13 d_Row_add_37 (Nat.le_of_ble_eq_true rfl) 0 rfl rfl ?_
  refine ax_dup_x1 (pc := 40) C d_Row_add_40 rfl rfl ?_
  refine ax_iconst (pc := 41) C 1 d_Row_add_41 (by decide +kernel) ?_
  refine ax_iadd (pc := 42) C d_Row_add_42 ?_
  refine ax_nrm 18 (by decide) ?_
  refine ax_put (pc := 43) C k_Row 1 lk_Row_13 d_Row_add_43 (Nat.le_of_ble_eq_true rfl) 0 rfl rfl rfl rfl (Nat.le_of_ble_eq_true rfl) ?_
  refine ax_w ([(a0, .inr (0, [.ref a1, .int 18])), (a1, .inl (kA 0, 256, .inl f0))]) rfl ?_
  refine ax_iload_n (pc := 46) C d_Row_add_46 rfl 1 rfl ?_
  refine ax_iast (pc := 47) C 1 rfl d_Row_add_47 (by unfold vp_in; decide) ?_
  refine ax_w ([(a0, .inr (0, [.ref a1, .int 18])), (a1, .inl (kA 0, 256, .inl (upd f0 (Int32.toNatClampNeg 17) i0)))]) rfl ?_
  exact ax_vret (pc := 48) C d_Row_add_48 rfl (by decide) (by decide)
set_option maxHeartbeats 4000000 in
set_option maxRecDepth 100000 in
theorem m26_Row_add (l : Launch) (D : va_G) (kA : Nat → ClassId) (a0 : Nat) (a1 : Nat) (i0 : Int32) (f0 : Nat → Int32) : ax_Mv l D kA y_Row_add b_Row_add 2 0 0 0 0 [.ref a0, .int i0] [(a0, .inr (0, [.ref a1, .int 18])), (a1, .inl (kA 0, 256, .inl f0))] (fun w1 => w1 = [(a0, .inr (0, [.ref a1, .int 19])), (a1, .inl (kA 0, 256, .inl (upd f0 (Int32.toNatClampNeg 18) i0)))]) := by
  refine ax_Mv.of (by decide +kernel) (Nat.le_of_ble_eq_true rfl) ?_
  intro p e s m args below meth c C hnm
  refine ax_ls ([(0, .ref a0), (1, .int i0)]) [0, 1] rfl ?_
  refine ax_aload_n (pc := 0) C d_Row_add_0 rfl 0 rfl ?_
  refine ax_get (pc := 1) C k_Row 1 lk_Row_13 d_Row_add_1 (Nat.le_of_ble_eq_true rfl) 0 rfl rfl ?_
  refine ax_aload_n (pc := 4) C d_Row_add_4 rfl 0 rfl ?_
  refine ax_get (pc := 5) C k_Row 0 lk_Row_7 d_Row_add_5 (Nat.le_of_ble_eq_true rfl) 0 rfl rfl ?_
  refine ax_alen (pc := 8) C 1 0 rfl rfl 256 rfl d_Row_add_8 ?_
  refine ax_icmp_ne (pc := 9) C 31 d_Row_add_9 (by decide) (fun _ => ?_) (fun h => absurd h (by decide))
  refine ax_aload_n (pc := 31) C d_Row_add_31 rfl 0 rfl ?_
  refine ax_get (pc := 32) C k_Row 0 lk_Row_7 d_Row_add_32 (Nat.le_of_ble_eq_true rfl) 0 rfl rfl ?_
  refine ax_aload_n (pc := 35) C d_Row_add_35 rfl 0 rfl ?_
  refine ax_dup (pc := 36) C d_Row_add_36 rfl ?_
  refine ax_get (pc := 37) C k_Row 1 lk_Row_13 d_Row_add_37 (Nat.le_of_ble_eq_true rfl) 0 rfl rfl ?_
  refine ax_dup_x1 (pc := 40) C d_Row_add_40 rfl rfl ?_
  refine ax_iconst (pc := 41) C 1 d_Row_add_41 (by decide +kernel) ?_
  refine ax_iadd (pc := 42) C d_Row_add_42 ?_
  refine ax_nrm 19 (by decide) ?_
  refine ax_put (pc := 43) C k_Row 1 lk_Row_13 d_Row_add_43 (Nat.le_of_ble_eq_true rfl) 0 rfl rfl rfl rfl (Nat.le_of_ble_eq_true rfl) ?_
  refine ax_w ([(a0, .inr (0, [.ref a1, .int 19])), (a1, .inl (kA 0, 256, .inl f0))]) rfl ?_
  refine ax_iload_n (pc := 46) C d_Row_add_46 rfl 1 rfl ?_
  refine ax_iast (pc := 47) C 1 rfl d_Row_add_47 (by unfold vp_in; decide) ?_
  refine ax_w ([(a0, .inr (0, [.ref a1, .int 19])), (a1, .inl (kA 0, 256, .inl (upd f0 (Int32.toNatClampNeg 18) i0)))]) rfl ?_
  exact ax_vret (pc := 48) C d_Row_add_48 rfl (by decide) (by decide)
set_option maxHeartbeats 4000000 in
set_option maxRecDepth 100000 in
theorem m27_Row_add (l : Launch) (D : va_G) (kA : Nat → ClassId) (a0 : Nat) (a1 : Nat) (i0 : Int32) (f0 : Nat → Int32) : ax_Mv l D kA y_Row_add b_Row_add 2 0 0 0 0 [.ref a0, .int i0] [(a0, .inr (0, [.ref a1, .int 19])), (a1, .inl (kA 0, 256, .inl f0))] (fun w1 => w1 = [(a0, .inr (0, [.ref a1, .int 20])), (a1, .inl (kA 0, 256, .inl (upd f0 (Int32.toNatClampNeg 19) i0)))]) := by
  refine ax_Mv.of (by decide +kernel) (Nat.le_of_ble_eq_true rfl) ?_
  intro p e s m args below meth c C hnm
  refine ax_ls ([(0, .ref a0), (1, .int i0)]) [0, 1] rfl ?_
  refine ax_aload_n (pc := 0) C d_Row_add_0 rfl 0 rfl ?_
  refine ax_get (pc := 1) C k_Row 1 lk_Row_13 d_Row_add_1 (Nat.le_of_ble_eq_true rfl) 0 rfl rfl ?_
  refine ax_aload_n (pc := 4) C d_Row_add_4 rfl 0 rfl ?_
  refine ax_get (pc := 5) C k_Row 0 lk_Row_7 d_Row_add_5 (Nat.le_of_ble_eq_true rfl) 0 rfl rfl ?_
  refine ax_alen (pc := 8) C 1 0 rfl rfl 256 rfl d_Row_add_8 ?_
  refine ax_icmp_ne (pc := 9) C 31 d_Row_add_9 (by decide) (fun _ => ?_) (fun h => absurd h (by decide))
  refine ax_aload_n (pc := 31) C d_Row_add_31 rfl 0 rfl ?_
  refine ax_get (pc := 32) C k_Row 0 lk_Row_7 d_Row_add_32 (Nat.le_of_ble_eq_true rfl) 0 rfl rfl ?_
  refine ax_aload_n (pc := 35) C d_Row_add_35 rfl 0 rfl ?_
  refine ax_dup (pc := 36) C d_Row_add_36 rfl ?_
  refine ax_get (pc := 37) C k_Row 1 lk_Row_13 d_Row_add_37 (Nat.le_of_ble_eq_true rfl) 0 rfl rfl ?_
  refine ax_dup_x1 (pc := 40) C d_Row_add_40 rfl rfl ?_
  refine ax_iconst (pc := 41) C 1 d_Row_add_41 (by decide +kernel) ?_
  refine ax_iadd (pc := 42) C d_Row_add_42 ?_
  refine ax_nrm 20 (by decide) ?_
  refine ax_put (pc := 43) C k_Row 1 lk_Row_13 d_Row_add_43 (Nat.le_of_ble_eq_true rfl) 0 rfl rfl rfl rfl (Nat.le_of_ble_eq_true rfl) ?_
  refine ax_w ([(a0, .inr (0, [.ref a1, .int 20])), (a1, .inl (kA 0, 256, .inl f0))]) rfl ?_
  refine ax_iload_n (pc := 46) C d_Row_add_46 rfl 1 rfl ?_
  refine ax_iast (pc := 47) C 1 rfl d_Row_add_47 (by unfold vp_in; decide) ?_
  refine ax_w ([(a0, .inr (0, [.ref a1, .int 20])), (a1, .inl (kA 0, 256, .inl (upd f0 (Int32.toNatClampNeg 19) i0)))]) rfl ?_
  exact ax_vret (pc := 48) C d_Row_add_48 rfl (by decide) (by decide)
set_option maxHeartbeats 4000000 in
set_option maxRecDepth 100000 in
theorem m23_CP_addBytes (l : Launch) (D : va_G) (kA : Nat → ClassId) (a0 : Nat) (a1 : Nat) (a2 : Nat) (b0 : Nat) (b1 : Nat) (b2 : Nat) (b3 : Nat) (b4 : Nat) (b5 : Nat) (b6 : Nat) (b7 : Nat) (b8 : Nat) (i0 : Int32) (f0 : Nat → Int32) : ax_Mv l D kA y_CP_addBytes b_CP_addBytes 3 1 21 0 0 [.ref a0, .int i0] [(a0, .inr (11, [.ref a1, .ref b0, .ref b1, .ref b2, .ref b3, .ref b4, .ref b5, .ref b6, .ref b7, .ref b8, .int 0, .int 0])), (a1, .inr (0, [.ref a2, .int 16])), (a2, .inl (kA 0, 256, .inl f0))] (fun w1 => w1 = [(a0, .inr (11, [.ref a1, .ref b0, .ref b1, .ref b2, .ref b3, .ref b4, .ref b5, .ref b6, .ref b7, .ref b8, .int 0, .int 0])), (a1, .inr (0, [.ref a2, .int 20])), (a2, .inl (kA 0, 256, .inl (upd (upd (upd (upd f0 (Int32.toNatClampNeg 16) ((((i0 : Int32).toUInt32 >>> ((24 : Int32).toUInt32 &&& Int32.toUInt32 31)).toInt32) &&& 255)) (Int32.toNatClampNeg 17) ((((i0 : Int32).toUInt32 >>> ((16 : Int32).toUInt32 &&& Int32.toUInt32 31)).toInt32) &&& 255)) (Int32.toNatClampNeg 18) ((((i0 : Int32).toUInt32 >>> ((8 : Int32).toUInt32 &&& Int32.toUInt32 31)).toInt32) &&& 255)) (Int32.toNatClampNeg 19) ((((i0 : Int32).toUInt32 >>> ((0 : Int32).toUInt32 &&& Int32.toUInt32 31)).toInt32) &&& 255))))]) := by
  refine ax_Mv.of (by decide +kernel) (Nat.le_of_ble_eq_true rfl) ?_
  intro p e s m args below meth c C hnm
  refine ax_ls ([(0, .ref a0), (1, .int i0)]) [0, 1] rfl ?_
  refine ax_bipush (pc := 0) C 24 d_CP_addBytes_0 (by decide +kernel) ?_
  refine ax_istore_n (pc := 2) C d_CP_addBytes_2 rfl (Nat.le_of_ble_eq_true rfl) ([(2, .int 24), (0, .ref a0), (1, .int i0)]) rfl ?_
  refine ax_iload_n (pc := 3) C d_CP_addBytes_3 rfl 0 rfl ?_
  refine ax_if_lt (pc := 4) C 27 d_CP_addBytes_4 (by decide) (fun h => absurd h (by decide)) (fun _ => ?_)
  refine ax_aload_n (pc := 7) C d_CP_addBytes_7 rfl 1 rfl ?_
  refine ax_get (pc := 8) C k_CP 0 lk_CP_14 d_CP_addBytes_8 (Nat.le_of_ble_eq_true rfl) 0 rfl rfl ?_
  refine ax_iload_n (pc := 11) C d_CP_addBytes_11 rfl 2 rfl ?_
  refine ax_iload_n (pc := 12) C d_CP_addBytes_12 rfl 0 rfl ?_
  refine ax_iushr (pc := 13) C (((i0 : Int32).toUInt32 >>> ((24 : Int32).toUInt32 &&& Int32.toUInt32 31)).toInt32) d_CP_addBytes_13 rfl ?_
  refine ax_sipush (pc := 14) C 255 d_CP_addBytes_14 (by decide +kernel) ?_
  refine ax_iand (pc := 17) C d_CP_addBytes_17 ?_
  refine ax_callVv (pc := 18) C (As := [.int ((((i0 : Int32).toUInt32 >>> ((24 : Int32).toUInt32 &&& Int32.toUInt32 31)).toInt32) &&& 255)]) (rest := []) (wr := [(a0, .inr (11, [.ref a1, .ref b0, .ref b1, .ref b2, .ref b3, .ref b4, .ref b5, .ref b6, .ref b7, .ref b8, .int 0, .int 0]))]) (m24_Row_add l D kA a1 a2 ((((i0 : Int32).toUInt32 >>> ((24 : Int32).toUInt32 &&& Int32.toUInt32 31)).toInt32) &&& 255) f0) ml_CP_97 1 rfl rfl rfl d_CP_addBytes_18 rfl rfl [1, 2] [0] rfl (by decide) rfl (by decide) (by decide) (Nat.le_of_ble_eq_true rfl) (Nat.le_of_ble_eq_true rfl) (Nat.le_of_ble_eq_true rfl) (Nat.le_of_ble_eq_true rfl) (Nat.le_of_ble_eq_true rfl) (fun w1 hw1 => ?_)
  obtain rfl := hw1
  refine ax_w ([(a0, .inr (11, [.ref a1, .ref b0, .ref b1, .ref b2, .ref b3, .ref b4, .ref b5, .ref b6, .ref b7, .ref b8, .int 0, .int 0])), (a1, .inr (0, [.ref a2, .int 17])), (a2, .inl (kA 0, 256, .inl (upd f0 (Int32.toNatClampNeg 16) ((((i0 : Int32).toUInt32 >>> ((24 : Int32).toUInt32 &&& Int32.toUInt32 31)).toInt32) &&& 255))))]) rfl ?_
  refine ax_iinc (pc := 21) C (16) d_CP_addBytes_21 0 rfl (by decide) (Nat.le_of_ble_eq_true rfl) ([(2, .int 16), (0, .ref a0), (1, .int i0)]) rfl ?_
  refine ax_goto (pc := 24) C 3 d_CP_addBytes_24 (by decide) ?_
  refine ax_iload_n (pc := 3) C d_CP_addBytes_3 rfl 0 rfl ?_
  refine ax_if_lt (pc := 4) C 27 d_CP_addBytes_4 (by decide) (fun h => absurd h (by decide)) (fun _ => ?_)
  refine ax_aload_n (pc := 7) C d_CP_addBytes_7 rfl 1 rfl ?_
  refine ax_get (pc := 8) C k_CP 0 lk_CP_14 d_CP_addBytes_8 (Nat.le_of_ble_eq_true rfl) 0 rfl rfl ?_
  refine ax_iload_n (pc := 11) C d_CP_addBytes_11 rfl 2 rfl ?_
  refine ax_iload_n (pc := 12) C d_CP_addBytes_12 rfl 0 rfl ?_
  refine ax_iushr (pc := 13) C (((i0 : Int32).toUInt32 >>> ((16 : Int32).toUInt32 &&& Int32.toUInt32 31)).toInt32) d_CP_addBytes_13 rfl ?_
  refine ax_sipush (pc := 14) C 255 d_CP_addBytes_14 (by decide +kernel) ?_
  refine ax_iand (pc := 17) C d_CP_addBytes_17 ?_
  refine ax_callVv (pc := 18) C (As := [.int ((((i0 : Int32).toUInt32 >>> ((16 : Int32).toUInt32 &&& Int32.toUInt32 31)).toInt32) &&& 255)]) (rest := []) (wr := [(a0, .inr (11, [.ref a1, .ref b0, .ref b1, .ref b2, .ref b3, .ref b4, .ref b5, .ref b6, .ref b7, .ref b8, .int 0, .int 0]))]) (m25_Row_add l D kA a1 a2 ((((i0 : Int32).toUInt32 >>> ((16 : Int32).toUInt32 &&& Int32.toUInt32 31)).toInt32) &&& 255) (upd f0 (Int32.toNatClampNeg 16) ((((i0 : Int32).toUInt32 >>> ((24 : Int32).toUInt32 &&& Int32.toUInt32 31)).toInt32) &&& 255))) ml_CP_97 1 rfl rfl rfl d_CP_addBytes_18 rfl rfl [1, 2] [0] rfl (by decide) rfl (by decide) (by decide) (Nat.le_of_ble_eq_true rfl) (Nat.le_of_ble_eq_true rfl) (Nat.le_of_ble_eq_true rfl) (Nat.le_of_ble_eq_true rfl) (Nat.le_of_ble_eq_true rfl) (fun w1 hw1 => ?_)
  obtain rfl := hw1
  refine ax_w ([(a0, .inr (11, [.ref a1, .ref b0, .ref b1, .ref b2, .ref b3, .ref b4, .ref b5, .ref b6, .ref b7, .ref b8, .int 0, .int 0])), (a1, .inr (0, [.ref a2, .int 18])), (a2, .inl (kA 0, 256, .inl (upd (upd f0 (Int32.toNatClampNeg 16) ((((i0 : Int32).toUInt32 >>> ((24 : Int32).toUInt32 &&& Int32.toUInt32 31)).toInt32) &&& 255)) (Int32.toNatClampNeg 17) ((((i0 : Int32).toUInt32 >>> ((16 : Int32).toUInt32 &&& Int32.toUInt32 31)).toInt32) &&& 255))))]) rfl ?_
  refine ax_iinc (pc := 21) C (8) d_CP_addBytes_21 0 rfl (by decide) (Nat.le_of_ble_eq_true rfl) ([(2, .int 8), (0, .ref a0), (1, .int i0)]) rfl ?_
  refine ax_goto (pc := 24) C 3 d_CP_addBytes_24 (by decide) ?_
  refine ax_iload_n (pc := 3) C d_CP_addBytes_3 rfl 0 rfl ?_
  refine ax_if_lt (pc := 4) C 27 d_CP_addBytes_4 (by decide) (fun h => absurd h (by decide)) (fun _ => ?_)
  refine ax_aload_n (pc := 7) C d_CP_addBytes_7 rfl 1 rfl ?_
  refine ax_get (pc := 8) C k_CP 0 lk_CP_14 d_CP_addBytes_8 (Nat.le_of_ble_eq_true rfl) 0 rfl rfl ?_
  refine ax_iload_n (pc := 11) C d_CP_addBytes_11 rfl 2 rfl ?_
  refine ax_iload_n (pc := 12) C d_CP_addBytes_12 rfl 0 rfl ?_
  refine ax_iushr (pc := 13) C (((i0 : Int32).toUInt32 >>> ((8 : Int32).toUInt32 &&& Int32.toUInt32 31)).toInt32) d_CP_addBytes_13 rfl ?_
  refine ax_sipush (pc := 14) C 255 d_CP_addBytes_14 (by decide +kernel) ?_
  refine ax_iand (pc := 17) C d_CP_addBytes_17 ?_
  refine ax_callVv (pc := 18) C (As := [.int ((((i0 : Int32).toUInt32 >>> ((8 : Int32).toUInt32 &&& Int32.toUInt32 31)).toInt32) &&& 255)]) (rest := []) (wr := [(a0, .inr (11, [.ref a1, .ref b0, .ref b1, .ref b2, .ref b3, .ref b4, .ref b5, .ref b6, .ref b7, .ref b8, .int 0, .int 0]))]) (m26_Row_add l D kA a1 a2 ((((i0 : Int32).toUInt32 >>> ((8 : Int32).toUInt32 &&& Int32.toUInt32 31)).toInt32) &&& 255) (upd (upd f0 (Int32.toNatClampNeg 16) ((((i0 : Int32).toUInt32 >>> ((24 : Int32).toUInt32 &&& Int32.toUInt32 31)).toInt32) &&& 255)) (Int32.toNatClampNeg 17) ((((i0 : Int32).toUInt32 >>> ((16 : Int32).toUInt32 &&& Int32.toUInt32 31)).toInt32) &&& 255))) ml_CP_97 1 rfl rfl rfl d_CP_addBytes_18 rfl rfl [1, 2] [0] rfl (by decide) rfl (by decide) (by decide) (Nat.le_of_ble_eq_true rfl) (Nat.le_of_ble_eq_true rfl) (Nat.le_of_ble_eq_true rfl) (Nat.le_of_ble_eq_true rfl) (Nat.le_of_ble_eq_true rfl) (fun w1 hw1 => ?_)
  obtain rfl := hw1
  refine ax_w ([(a0, .inr (11, [.ref a1, .ref b0, .ref b1, .ref b2, .ref b3, .ref b4, .ref b5, .ref b6, .ref b7, .ref b8, .int 0, .int 0])), (a1, .inr (0, [.ref a2, .int 19])), (a2, .inl (kA 0, 256, .inl (upd (upd (upd f0 (Int32.toNatClampNeg 16) ((((i0 : Int32).toUInt32 >>> ((24 : Int32).toUInt32 &&& Int32.toUInt32 31)).toInt32) &&& 255)) (Int32.toNatClampNeg 17) ((((i0 : Int32).toUInt32 >>> ((16 : Int32).toUInt32 &&& Int32.toUInt32 31)).toInt32) &&& 255)) (Int32.toNatClampNeg 18) ((((i0 : Int32).toUInt32 >>> ((8 : Int32).toUInt32 &&& Int32.toUInt32 31)).toInt32) &&& 255))))]) rfl ?_
  refine ax_iinc (pc := 21) C (0) d_CP_addBytes_21 0 rfl (by decide) (Nat.le_of_ble_eq_true rfl) ([(2, .int 0), (0, .ref a0), (1, .int i0)]) rfl ?_
  refine ax_goto (pc := 24) C 3 d_CP_addBytes_24 (by decide) ?_
  refine ax_iload_n (pc := 3) C d_CP_addBytes_3 rfl 0 rfl ?_
  refine ax_if_lt (pc := 4) C 27 d_CP_addBytes_4 (by decide) (fun h => absurd h (by decide)) (fun _ => ?_)
  refine ax_aload_n (pc := 7) C d_CP_addBytes_7 rfl 1 rfl ?_
  refine ax_get (pc := 8) C k_CP 0 lk_CP_14 d_CP_addBytes_8 (Nat.le_of_ble_eq_true rfl) 0 rfl rfl ?_
  refine ax_iload_n (pc := 11) C d_CP_addBytes_11 rfl 2 rfl ?_
  refine ax_iload_n (pc := 12) C d_CP_addBytes_12 rfl 0 rfl ?_
  refine ax_iushr (pc := 13) C (((i0 : Int32).toUInt32 >>> ((0 : Int32).toUInt32 &&& Int32.toUInt32 31)).toInt32) d_CP_addBytes_13 rfl ?_
  refine ax_sipush (pc := 14) C 255 d_CP_addBytes_14 (by decide +kernel) ?_
  refine ax_iand (pc := 17) C d_CP_addBytes_17 ?_
  refine ax_callVv (pc := 18) C (As := [.int ((((i0 : Int32).toUInt32 >>> ((0 : Int32).toUInt32 &&& Int32.toUInt32 31)).toInt32) &&& 255)]) (rest := []) (wr := [(a0, .inr (11, [.ref a1, .ref b0, .ref b1, .ref b2, .ref b3, .ref b4, .ref b5, .ref b6, .ref b7, .ref b8, .int 0, .int 0]))]) (m27_Row_add l D kA a1 a2 ((((i0 : Int32).toUInt32 >>> ((0 : Int32).toUInt32 &&& Int32.toUInt32 31)).toInt32) &&& 255) (upd (upd (upd f0 (Int32.toNatClampNeg 16) ((((i0 : Int32).toUInt32 >>> ((24 : Int32).toUInt32 &&& Int32.toUInt32 31)).toInt32) &&& 255)) (Int32.toNatClampNeg 17) ((((i0 : Int32).toUInt32 >>> ((16 : Int32).toUInt32 &&& Int32.toUInt32 31)).toInt32) &&& 255)) (Int32.toNatClampNeg 18) ((((i0 : Int32).toUInt32 >>> ((8 : Int32).toUInt32 &&& Int32.toUInt32 31)).toInt32) &&& 255))) ml_CP_97 1 rfl rfl rfl d_CP_addBytes_18 rfl rfl [1, 2] [0] rfl (by decide) rfl (by decide) (by decide) (Nat.le_of_ble_eq_true rfl) (Nat.le_of_ble_eq_true rfl) (Nat.le_of_ble_eq_true rfl) (Nat.le_of_ble_eq_true rfl) (Nat.le_of_ble_eq_true rfl) (fun w1 hw1 => ?_)
  obtain rfl := hw1
  refine ax_w ([(a0, .inr (11, [.ref a1, .ref b0, .ref b1, .ref b2, .ref b3, .ref b4, .ref b5, .ref b6, .ref b7, .ref b8, .int 0, .int 0])), (a1, .inr (0, [.ref a2, .int 20])), (a2, .inl (kA 0, 256, .inl (upd (upd (upd (upd f0 (Int32.toNatClampNeg 16) ((((i0 : Int32).toUInt32 >>> ((24 : Int32).toUInt32 &&& Int32.toUInt32 31)).toInt32) &&& 255)) (Int32.toNatClampNeg 17) ((((i0 : Int32).toUInt32 >>> ((16 : Int32).toUInt32 &&& Int32.toUInt32 31)).toInt32) &&& 255)) (Int32.toNatClampNeg 18) ((((i0 : Int32).toUInt32 >>> ((8 : Int32).toUInt32 &&& Int32.toUInt32 31)).toInt32) &&& 255)) (Int32.toNatClampNeg 19) ((((i0 : Int32).toUInt32 >>> ((0 : Int32).toUInt32 &&& Int32.toUInt32 31)).toInt32) &&& 255))))]) rfl ?_
  refine ax_iinc (pc := 21) C ((-8)) d_CP_addBytes_21 0 rfl (by decide) (Nat.le_of_ble_eq_true rfl) ([(2, .int (-8)), (0, .ref a0), (1, .int i0)]) rfl ?_
  refine ax_goto (pc := 24) C 3 d_CP_addBytes_24 (by decide) ?_
  refine ax_iload_n (pc := 3) C d_CP_addBytes_3 rfl 0 rfl ?_
  refine ax_if_lt (pc := 4) C 27 d_CP_addBytes_4 (by decide) (fun _ => ?_) (fun h => absurd h (by decide))
  exact ax_vret (pc := 27) C d_CP_addBytes_27 rfl (by decide) (by decide)
set_option maxHeartbeats 4000000 in
set_option maxRecDepth 100000 in
theorem m2_CP_feed (l : Launch) (D : va_G) (kA : Nat → ClassId) (a0 : Nat) (a1 : Nat) (a2 : Nat) (b0 : Nat) (b1 : Nat) (b2 : Nat) (b3 : Nat) (b4 : Nat) (b5 : Nat) (b6 : Nat) (b7 : Nat) (b8 : Nat) (i0 : Int32) (i1 : Int32) (i2 : Int32) (i3 : Int32) (i4 : Int32) : ax_Mi l D kA y_CP_feed b_CP_feed 6 .int 2 43 0 0 [.ref a0, .int i0, .int i1, .int i2, .int i3, .int i4] [(a0, .inr (11, [.ref a1, .ref b0, .ref b1, .ref b2, .ref b3, .ref b4, .ref b5, .ref b6, .ref b7, .ref b8, .int 0, .int 0])), (a1, .inr (0, [.ref a2, .int 0])), (a2, .inl (kA 0, 256, .inl (fun _ => 0)))] (fun r w1 => r = 20 ∧ w1 = [(a0, .inr (11, [.ref a1, .ref b0, .ref b1, .ref b2, .ref b3, .ref b4, .ref b5, .ref b6, .ref b7, .ref b8, .int 0, .int 0])), (a1, .inr (0, [.ref a2, .int 20])), (a2, .inl (kA 0, 256, .inl (upd (upd (upd (upd (upd (upd (upd (upd (upd (upd (upd (upd (upd (upd (upd (upd (upd (upd (upd (upd (fun _ => 0) (Int32.toNatClampNeg 0) ((((i0 : Int32).toUInt32 >>> ((24 : Int32).toUInt32 &&& Int32.toUInt32 31)).toInt32) &&& 255)) (Int32.toNatClampNeg 1) ((((i0 : Int32).toUInt32 >>> ((16 : Int32).toUInt32 &&& Int32.toUInt32 31)).toInt32) &&& 255)) (Int32.toNatClampNeg 2) ((((i0 : Int32).toUInt32 >>> ((8 : Int32).toUInt32 &&& Int32.toUInt32 31)).toInt32) &&& 255)) (Int32.toNatClampNeg 3) ((((i0 : Int32).toUInt32 >>> ((0 : Int32).toUInt32 &&& Int32.toUInt32 31)).toInt32) &&& 255)) (Int32.toNatClampNeg 4) ((((i1 : Int32).toUInt32 >>> ((24 : Int32).toUInt32 &&& Int32.toUInt32 31)).toInt32) &&& 255)) (Int32.toNatClampNeg 5) ((((i1 : Int32).toUInt32 >>> ((16 : Int32).toUInt32 &&& Int32.toUInt32 31)).toInt32) &&& 255)) (Int32.toNatClampNeg 6) ((((i1 : Int32).toUInt32 >>> ((8 : Int32).toUInt32 &&& Int32.toUInt32 31)).toInt32) &&& 255)) (Int32.toNatClampNeg 7) ((((i1 : Int32).toUInt32 >>> ((0 : Int32).toUInt32 &&& Int32.toUInt32 31)).toInt32) &&& 255)) (Int32.toNatClampNeg 8) ((((i2 : Int32).toUInt32 >>> ((24 : Int32).toUInt32 &&& Int32.toUInt32 31)).toInt32) &&& 255)) (Int32.toNatClampNeg 9) ((((i2 : Int32).toUInt32 >>> ((16 : Int32).toUInt32 &&& Int32.toUInt32 31)).toInt32) &&& 255)) (Int32.toNatClampNeg 10) ((((i2 : Int32).toUInt32 >>> ((8 : Int32).toUInt32 &&& Int32.toUInt32 31)).toInt32) &&& 255)) (Int32.toNatClampNeg 11) ((((i2 : Int32).toUInt32 >>> ((0 : Int32).toUInt32 &&& Int32.toUInt32 31)).toInt32) &&& 255)) (Int32.toNatClampNeg 12) ((((i3 : Int32).toUInt32 >>> ((24 : Int32).toUInt32 &&& Int32.toUInt32 31)).toInt32) &&& 255)) (Int32.toNatClampNeg 13) ((((i3 : Int32).toUInt32 >>> ((16 : Int32).toUInt32 &&& Int32.toUInt32 31)).toInt32) &&& 255)) (Int32.toNatClampNeg 14) ((((i3 : Int32).toUInt32 >>> ((8 : Int32).toUInt32 &&& Int32.toUInt32 31)).toInt32) &&& 255)) (Int32.toNatClampNeg 15) ((((i3 : Int32).toUInt32 >>> ((0 : Int32).toUInt32 &&& Int32.toUInt32 31)).toInt32) &&& 255)) (Int32.toNatClampNeg 16) ((((i4 : Int32).toUInt32 >>> ((24 : Int32).toUInt32 &&& Int32.toUInt32 31)).toInt32) &&& 255)) (Int32.toNatClampNeg 17) ((((i4 : Int32).toUInt32 >>> ((16 : Int32).toUInt32 &&& Int32.toUInt32 31)).toInt32) &&& 255)) (Int32.toNatClampNeg 18) ((((i4 : Int32).toUInt32 >>> ((8 : Int32).toUInt32 &&& Int32.toUInt32 31)).toInt32) &&& 255)) (Int32.toNatClampNeg 19) ((((i4 : Int32).toUInt32 >>> ((0 : Int32).toUInt32 &&& Int32.toUInt32 31)).toInt32) &&& 255))))]) := by
  refine ax_Mi.of (by decide +kernel) (Nat.le_of_ble_eq_true rfl) ?_
  intro p e s m args below meth c C hnm
  refine ax_ls ([(0, .ref a0), (1, .int i0), (2, .int i1), (3, .int i2), (4, .int i3), (5, .int i4)]) [0, 1, 2, 3, 4, 5] rfl ?_
  refine ax_aload_n (pc := 0) C d_CP_feed_0 rfl 0 rfl ?_
  refine ax_get (pc := 1) C k_CP 0 lk_CP_14 d_CP_feed_1 (Nat.le_of_ble_eq_true rfl) 0 rfl rfl ?_
  refine ax_get (pc := 4) C k_Row 1 lk_CP_82 d_CP_feed_4 (Nat.le_of_ble_eq_true rfl) 1 rfl rfl ?_
  refine ax_bipush (pc := 7) C 20 d_CP_feed_7 (by decide +kernel) ?_
  refine ax_iadd (pc := 9) C d_CP_feed_9 ?_
  refine ax_nrm 20 (by decide) ?_
  refine ax_ldc (pc := 10) C tb_constant_899 d_CP_feed_10 ?_
  refine ax_icmp_le (pc := 12) C 25 d_CP_feed_12 (by decide) (fun _ => ?_) (fun h => absurd h (by decide))
  refine ax_aload_n (pc := 25) C d_CP_feed_25 rfl 0 rfl ?_
  refine ax_iload_n (pc := 26) C d_CP_feed_26 rfl 1 rfl ?_
  refine ax_callVv (pc := 27) C (As := [.int i0]) (rest := []) (wr := []) (m3_CP_addBytes l D kA a0 a1 a2 b0 b1 b2 b3 b4 b5 b6 b7 b8 i0) ml_CP_94 0 rfl rfl rfl d_CP_feed_27 rfl rfl [0, 1, 2] [] rfl (by decide) rfl (by decide) (by decide) (Nat.le_of_ble_eq_true rfl) (Nat.le_of_ble_eq_true rfl) (Nat.le_of_ble_eq_true rfl) (Nat.le_of_ble_eq_true rfl) (Nat.le_of_ble_eq_true rfl) (fun w1 hw1 => ?_)
  obtain rfl := hw1
  refine ax_w ([(a0, .inr (11, [.ref a1, .ref b0, .ref b1, .ref b2, .ref b3, .ref b4, .ref b5, .ref b6, .ref b7, .ref b8, .int 0, .int 0])), (a1, .inr (0, [.ref a2, .int 4])), (a2, .inl (kA 0, 256, .inl (upd (upd (upd (upd (fun _ => 0) (Int32.toNatClampNeg 0) ((((i0 : Int32).toUInt32 >>> ((24 : Int32).toUInt32 &&& Int32.toUInt32 31)).toInt32) &&& 255)) (Int32.toNatClampNeg 1) ((((i0 : Int32).toUInt32 >>> ((16 : Int32).toUInt32 &&& Int32.toUInt32 31)).toInt32) &&& 255)) (Int32.toNatClampNeg 2) ((((i0 : Int32).toUInt32 >>> ((8 : Int32).toUInt32 &&& Int32.toUInt32 31)).toInt32) &&& 255)) (Int32.toNatClampNeg 3) ((((i0 : Int32).toUInt32 >>> ((0 : Int32).toUInt32 &&& Int32.toUInt32 31)).toInt32) &&& 255))))]) rfl ?_
  refine ax_aload_n (pc := 30) C d_CP_feed_30 rfl 0 rfl ?_
  refine ax_iload_n (pc := 31) C d_CP_feed_31 rfl 2 rfl ?_
  refine ax_callVv (pc := 32) C (As := [.int i1]) (rest := []) (wr := []) (m8_CP_addBytes l D kA a0 a1 a2 b0 b1 b2 b3 b4 b5 b6 b7 b8 i1 (upd (upd (upd (upd (fun _ => 0) (Int32.toNatClampNeg 0) ((((i0 : Int32).toUInt32 >>> ((24 : Int32).toUInt32 &&& Int32.toUInt32 31)).toInt32) &&& 255)) (Int32.toNatClampNeg 1) ((((i0 : Int32).toUInt32 >>> ((16 : Int32).toUInt32 &&& Int32.toUInt32 31)).toInt32) &&& 255)) (Int32.toNatClampNeg 2) ((((i0 : Int32).toUInt32 >>> ((8 : Int32).toUInt32 &&& Int32.toUInt32 31)).toInt32) &&& 255)) (Int32.toNatClampNeg 3) ((((i0 : Int32).toUInt32 >>> ((0 : Int32).toUInt32 &&& Int32.toUInt32 31)).toInt32) &&& 255))) ml_CP_94 0 rfl rfl rfl d_CP_feed_32 rfl rfl [0, 1, 2] [] rfl (by decide) rfl (by decide) (by decide) (Nat.le_of_ble_eq_true rfl) (Nat.le_of_ble_eq_true rfl) (Nat.le_of_ble_eq_true rfl) (Nat.le_of_ble_eq_true rfl) (Nat.le_of_ble_eq_true rfl) (fun w1 hw1 => ?_)
  obtain rfl := hw1
  refine ax_w ([(a0, .inr (11, [.ref a1, .ref b0, .ref b1, .ref b2, .ref b3, .ref b4, .ref b5, .ref b6, .ref b7, .ref b8, .int 0, .int 0])), (a1, .inr (0, [.ref a2, .int 8])), (a2, .inl (kA 0, 256, .inl (upd (upd (upd (upd (upd (upd (upd (upd (fun _ => 0) (Int32.toNatClampNeg 0) ((((i0 : Int32).toUInt32 >>> ((24 : Int32).toUInt32 &&& Int32.toUInt32 31)).toInt32) &&& 255)) (Int32.toNatClampNeg 1) ((((i0 : Int32).toUInt32 >>> ((16 : Int32).toUInt32 &&& Int32.toUInt32 31)).toInt32) &&& 255)) (Int32.toNatClampNeg 2) ((((i0 : Int32).toUInt32 >>> ((8 : Int32).toUInt32 &&& Int32.toUInt32 31)).toInt32) &&& 255)) (Int32.toNatClampNeg 3) ((((i0 : Int32).toUInt32 >>> ((0 : Int32).toUInt32 &&& Int32.toUInt32 31)).toInt32) &&& 255)) (Int32.toNatClampNeg 4) ((((i1 : Int32).toUInt32 >>> ((24 : Int32).toUInt32 &&& Int32.toUInt32 31)).toInt32) &&& 255)) (Int32.toNatClampNeg 5) ((((i1 : Int32).toUInt32 >>> ((16 : Int32).toUInt32 &&& Int32.toUInt32 31)).toInt32) &&& 255)) (Int32.toNatClampNeg 6) ((((i1 : Int32).toUInt32 >>> ((8 : Int32).toUInt32 &&& Int32.toUInt32 31)).toInt32) &&& 255)) (Int32.toNatClampNeg 7) ((((i1 : Int32).toUInt32 >>> ((0 : Int32).toUInt32 &&& Int32.toUInt32 31)).toInt32) &&& 255))))]) rfl ?_
  refine ax_aload_n (pc := 35) C d_CP_feed_35 rfl 0 rfl ?_
  refine ax_iload_n (pc := 36) C d_CP_feed_36 rfl 3 rfl ?_
  refine ax_callVv (pc := 37) C (As := [.int i2]) (rest := []) (wr := []) (m13_CP_addBytes l D kA a0 a1 a2 b0 b1 b2 b3 b4 b5 b6 b7 b8 i2 (upd (upd (upd (upd (upd (upd (upd (upd (fun _ => 0) (Int32.toNatClampNeg 0) ((((i0 : Int32).toUInt32 >>> ((24 : Int32).toUInt32 &&& Int32.toUInt32 31)).toInt32) &&& 255)) (Int32.toNatClampNeg 1) ((((i0 : Int32).toUInt32 >>> ((16 : Int32).toUInt32 &&& Int32.toUInt32 31)).toInt32) &&& 255)) (Int32.toNatClampNeg 2) ((((i0 : Int32).toUInt32 >>> ((8 : Int32).toUInt32 &&& Int32.toUInt32 31)).toInt32) &&& 255)) (Int32.toNatClampNeg 3) ((((i0 : Int32).toUInt32 >>> ((0 : Int32).toUInt32 &&& Int32.toUInt32 31)).toInt32) &&& 255)) (Int32.toNatClampNeg 4) ((((i1 : Int32).toUInt32 >>> ((24 : Int32).toUInt32 &&& Int32.toUInt32 31)).toInt32) &&& 255)) (Int32.toNatClampNeg 5) ((((i1 : Int32).toUInt32 >>> ((16 : Int32).toUInt32 &&& Int32.toUInt32 31)).toInt32) &&& 255)) (Int32.toNatClampNeg 6) ((((i1 : Int32).toUInt32 >>> ((8 : Int32).toUInt32 &&& Int32.toUInt32 31)).toInt32) &&& 255)) (Int32.toNatClampNeg 7) ((((i1 : Int32).toUInt32 >>> ((0 : Int32).toUInt32 &&& Int32.toUInt32 31)).toInt32) &&& 255))) ml_CP_94 0 rfl rfl rfl d_CP_feed_37 rfl rfl [0, 1, 2] [] rfl (by decide) rfl (by decide) (by decide) (Nat.le_of_ble_eq_true rfl) (Nat.le_of_ble_eq_true rfl) (Nat.le_of_ble_eq_true rfl) (Nat.le_of_ble_eq_true rfl) (Nat.le_of_ble_eq_true rfl) (fun w1 hw1 => ?_)
  obtain rfl := hw1
  refine ax_w ([(a0, .inr (11, [.ref a1, .ref b0, .ref b1, .ref b2, .ref b3, .ref b4, .ref b5, .ref b6, .ref b7, .ref b8, .int 0, .int 0])), (a1, .inr (0, [.ref a2, .int 12])), (a2, .inl (kA 0, 256, .inl (upd (upd (upd (upd (upd (upd (upd (upd (upd (upd (upd (upd (fun _ => 0) (Int32.toNatClampNeg 0) ((((i0 : Int32).toUInt32 >>> ((24 : Int32).toUInt32 &&& Int32.toUInt32 31)).toInt32) &&& 255)) (Int32.toNatClampNeg 1) ((((i0 : Int32).toUInt32 >>> ((16 : Int32).toUInt32 &&& Int32.toUInt32 31)).toInt32) &&& 255)) (Int32.toNatClampNeg 2) ((((i0 : Int32).toUInt32 >>> ((8 : Int32).toUInt32 &&& Int32.toUInt32 31)).toInt32) &&& 255)) (Int32.toNatClampNeg 3) ((((i0 : Int32).toUInt32 >>> ((0 : Int32).toUInt32 &&& Int32.toUInt32 31)).toInt32) &&& 255)) (Int32.toNatClampNeg 4) ((((i1 : Int32).toUInt32 >>> ((24 : Int32).toUInt32 &&& Int32.toUInt32 31)).toInt32) &&& 255)) (Int32.toNatClampNeg 5) ((((i1 : Int32).toUInt32 >>> ((16 : Int32).toUInt32 &&& Int32.toUInt32 31)).toInt32) &&& 255)) (Int32.toNatClampNeg 6) ((((i1 : Int32).toUInt32 >>> ((8 : Int32).toUInt32 &&& Int32.toUInt32 31)).toInt32) &&& 255)) (Int32.toNatClampNeg 7) ((((i1 : Int32).toUInt32 >>> ((0 : Int32).toUInt32 &&& Int32.toUInt32 31)).toInt32) &&& 255)) (Int32.toNatClampNeg 8) ((((i2 : Int32).toUInt32 >>> ((24 : Int32).toUInt32 &&& Int32.toUInt32 31)).toInt32) &&& 255)) (Int32.toNatClampNeg 9) ((((i2 : Int32).toUInt32 >>> ((16 : Int32).toUInt32 &&& Int32.toUInt32 31)).toInt32) &&& 255)) (Int32.toNatClampNeg 10) ((((i2 : Int32).toUInt32 >>> ((8 : Int32).toUInt32 &&& Int32.toUInt32 31)).toInt32) &&& 255)) (Int32.toNatClampNeg 11) ((((i2 : Int32).toUInt32 >>> ((0 : Int32).toUInt32 &&& Int32.toUInt32 31)).toInt32) &&& 255))))]) rfl ?_
  refine ax_aload_n (pc := 40) C d_CP_feed_40 rfl 0 rfl ?_
  refine ax_iload (pc := 41) C d_CP_feed_41 4 rfl ?_
  refine ax_callVv (pc := 43) C (As := [.int i3]) (rest := []) (wr := []) (m18_CP_addBytes l D kA a0 a1 a2 b0 b1 b2 b3 b4 b5 b6 b7 b8 i3 (upd (upd (upd (upd (upd (upd (upd (upd (upd (upd (upd (upd (fun _ => 0) (Int32.toNatClampNeg 0) ((((i0 : Int32).toUInt32 >>> ((24 : Int32).toUInt32 &&& Int32.toUInt32 31)).toInt32) &&& 255)) (Int32.toNatClampNeg 1) ((((i0 : Int32).toUInt32 >>> ((16 : Int32).toUInt32 &&& Int32.toUInt32 31)).toInt32) &&& 255)) (Int32.toNatClampNeg 2) ((((i0 : Int32).toUInt32 >>> ((8 : Int32).toUInt32 &&& Int32.toUInt32 31)).toInt32) &&& 255)) (Int32.toNatClampNeg 3) ((((i0 : Int32).toUInt32 >>> ((0 : Int32).toUInt32 &&& Int32.toUInt32 31)).toInt32) &&& 255)) (Int32.toNatClampNeg 4) ((((i1 : Int32).toUInt32 >>> ((24 : Int32).toUInt32 &&& Int32.toUInt32 31)).toInt32) &&& 255)) (Int32.toNatClampNeg 5) ((((i1 : Int32).toUInt32 >>> ((16 : Int32).toUInt32 &&& Int32.toUInt32 31)).toInt32) &&& 255)) (Int32.toNatClampNeg 6) ((((i1 : Int32).toUInt32 >>> ((8 : Int32).toUInt32 &&& Int32.toUInt32 31)).toInt32) &&& 255)) (Int32.toNatClampNeg 7) ((((i1 : Int32).toUInt32 >>> ((0 : Int32).toUInt32 &&& Int32.toUInt32 31)).toInt32) &&& 255)) (Int32.toNatClampNeg 8) ((((i2 : Int32).toUInt32 >>> ((24 : Int32).toUInt32 &&& Int32.toUInt32 31)).toInt32) &&& 255)) (Int32.toNatClampNeg 9) ((((i2 : Int32).toUInt32 >>> ((16 : Int32).toUInt32 &&& Int32.toUInt32 31)).toInt32) &&& 255)) (Int32.toNatClampNeg 10) ((((i2 : Int32).toUInt32 >>> ((8 : Int32).toUInt32 &&& Int32.toUInt32 31)).toInt32) &&& 255)) (Int32.toNatClampNeg 11) ((((i2 : Int32).toUInt32 >>> ((0 : Int32).toUInt32 &&& Int32.toUInt32 31)).toInt32) &&& 255))) ml_CP_94 0 rfl rfl rfl d_CP_feed_43 rfl rfl [0, 1, 2] [] rfl (by decide) rfl (by decide) (by decide) (Nat.le_of_ble_eq_true rfl) (Nat.le_of_ble_eq_true rfl) (Nat.le_of_ble_eq_true rfl) (Nat.le_of_ble_eq_true rfl) (Nat.le_of_ble_eq_true rfl) (fun w1 hw1 => ?_)
  obtain rfl := hw1
  refine ax_w ([(a0, .inr (11, [.ref a1, .ref b0, .ref b1, .ref b2, .ref b3, .ref b4, .ref b5, .ref b6, .ref b7, .ref b8, .int 0, .int 0])), (a1, .inr (0, [.ref a2, .int 16])), (a2, .inl (kA 0, 256, .inl (upd (upd (upd (upd (upd (upd (upd (upd (upd (upd (upd (upd (upd (upd (upd (upd (fun _ => 0) (Int32.toNatClampNeg 0) ((((i0 : Int32).toUInt32 >>> ((24 : Int32).toUInt32 &&& Int32.toUInt32 31)).toInt32) &&& 255)) (Int32.toNatClampNeg 1) ((((i0 : Int32).toUInt32 >>> ((16 : Int32).toUInt32 &&& Int32.toUInt32 31)).toInt32) &&& 255)) (Int32.toNatClampNeg 2) ((((i0 : Int32).toUInt32 >>> ((8 : Int32).toUInt32 &&& Int32.toUInt32 31)).toInt32) &&& 255)) (Int32.toNatClampNeg 3) ((((i0 : Int32).toUInt32 >>> ((0 : Int32).toUInt32 &&& Int32.toUInt32 31)).toInt32) &&& 255)) (Int32.toNatClampNeg 4) ((((i1 : Int32).toUInt32 >>> ((24 : Int32).toUInt32 &&& Int32.toUInt32 31)).toInt32) &&& 255)) (Int32.toNatClampNeg 5) ((((i1 : Int32).toUInt32 >>> ((16 : Int32).toUInt32 &&& Int32.toUInt32 31)).toInt32) &&& 255)) (Int32.toNatClampNeg 6) ((((i1 : Int32).toUInt32 >>> ((8 : Int32).toUInt32 &&& Int32.toUInt32 31)).toInt32) &&& 255)) (Int32.toNatClampNeg 7) ((((i1 : Int32).toUInt32 >>> ((0 : Int32).toUInt32 &&& Int32.toUInt32 31)).toInt32) &&& 255)) (Int32.toNatClampNeg 8) ((((i2 : Int32).toUInt32 >>> ((24 : Int32).toUInt32 &&& Int32.toUInt32 31)).toInt32) &&& 255)) (Int32.toNatClampNeg 9) ((((i2 : Int32).toUInt32 >>> ((16 : Int32).toUInt32 &&& Int32.toUInt32 31)).toInt32) &&& 255)) (Int32.toNatClampNeg 10) ((((i2 : Int32).toUInt32 >>> ((8 : Int32).toUInt32 &&& Int32.toUInt32 31)).toInt32) &&& 255)) (Int32.toNatClampNeg 11) ((((i2 : Int32).toUInt32 >>> ((0 : Int32).toUInt32 &&& Int32.toUInt32 31)).toInt32) &&& 255)) (Int32.toNatClampNeg 12) ((((i3 : Int32).toUInt32 >>> ((24 : Int32).toUInt32 &&& Int32.toUInt32 31)).toInt32) &&& 255)) (Int32.toNatClampNeg 13) ((((i3 : Int32).toUInt32 >>> ((16 : Int32).toUInt32 &&& Int32.toUInt32 31)).toInt32) &&& 255)) (Int32.toNatClampNeg 14) ((((i3 : Int32).toUInt32 >>> ((8 : Int32).toUInt32 &&& Int32.toUInt32 31)).toInt32) &&& 255)) (Int32.toNatClampNeg 15) ((((i3 : Int32).toUInt32 >>> ((0 : Int32).toUInt32 &&& Int32.toUInt32 31)).toInt32) &&& 255))))]) rfl ?_
  refine ax_aload_n (pc := 46) C d_CP_feed_46 rfl 0 rfl ?_
  refine ax_iload (pc := 47) C d_CP_feed_47 5 rfl ?_
  refine ax_callVv (pc := 49) C (As := [.int i4]) (rest := []) (wr := []) (m23_CP_addBytes l D kA a0 a1 a2 b0 b1 b2 b3 b4 b5 b6 b7 b8 i4 (upd (upd (upd (upd (upd (upd (upd (upd (upd (upd (upd (upd (upd (upd (upd (upd (fun _ => 0) (Int32.toNatClampNeg 0) ((((i0 : Int32).toUInt32 >>> ((24 : Int32).toUInt32 &&& Int32.toUInt32 31)).toInt32) &&& 255)) (Int32.toNatClampNeg 1) ((((i0 : Int32).toUInt32 >>> ((16 : Int32).toUInt32 &&& Int32.toUInt32 31)).toInt32) &&& 255)) (Int32.toNatClampNeg 2) ((((i0 : Int32).toUInt32 >>> ((8 : Int32).toUInt32 &&& Int32.toUInt32 31)).toInt32) &&& 255)) (Int32.toNatClampNeg 3) ((((i0 : Int32).toUInt32 >>> ((0 : Int32).toUInt32 &&& Int32.toUInt32 31)).toInt32) &&& 255)) (Int32.toNatClampNeg 4) ((((i1 : Int32).toUInt32 >>> ((24 : Int32).toUInt32 &&& Int32.toUInt32 31)).toInt32) &&& 255)) (Int32.toNatClampNeg 5) ((((i1 : Int32).toUInt32 >>> ((16 : Int32).toUInt32 &&& Int32.toUInt32 31)).toInt32) &&& 255)) (Int32.toNatClampNeg 6) ((((i1 : Int32).toUInt32 >>> ((8 : Int32).toUInt32 &&& Int32.toUInt32 31)).toInt32) &&& 255)) (Int32.toNatClampNeg 7) ((((i1 : Int32).toUInt32 >>> ((0 : Int32).toUInt32 &&& Int32.toUInt32 31)).toInt32) &&& 255)) (Int32.toNatClampNeg 8) ((((i2 : Int32).toUInt32 >>> ((24 : Int32).toUInt32 &&& Int32.toUInt32 31)).toInt32) &&& 255)) (Int32.toNatClampNeg 9) ((((i2 : Int32).toUInt32 >>> ((16 : Int32).toUInt32 &&& Int32.toUInt32 31)).toInt32) &&& 255)) (Int32.toNatClampNeg 10) ((((i2 : Int32).toUInt32 >>> ((8 : Int32).toUInt32 &&& Int32.toUInt32 31)).toInt32) &&& 255)) (Int32.toNatClampNeg 11) ((((i2 : Int32).toUInt32 >>> ((0 : Int32).toUInt32 &&& Int32.toUInt32 31)).toInt32) &&& 255)) (Int32.toNatClampNeg 12) ((((i3 : Int32).toUInt32 >>> ((24 : Int32).toUInt32 &&& Int32.toUInt32 31)).toInt32) &&& 255)) (Int32.toNatClampNeg 13) ((((i3 : Int32).toUInt32 >>> ((16 : Int32).toUInt32 &&& Int32.toUInt32 31)).toInt32) &&& 255)) (Int32.toNatClampNeg 14) ((((i3 : Int32).toUInt32 >>> ((8 : Int32).toUInt32 &&& Int32.toUInt32 31)).toInt32) &&& 255)) (Int32.toNatClampNeg 15) ((((i3 : Int32).toUInt32 >>> ((0 : Int32).toUInt32 &&& Int32.toUInt32 31)).toInt32) &&& 255))) ml_CP_94 0 rfl rfl rfl d_CP_feed_49 rfl rfl [0, 1, 2] [] rfl (by decide) rfl (by decide) (by decide) (Nat.le_of_ble_eq_true rfl) (Nat.le_of_ble_eq_true rfl) (Nat.le_of_ble_eq_true rfl) (Nat.le_of_ble_eq_true rfl) (Nat.le_of_ble_eq_true rfl) (fun w1 hw1 => ?_)
  obtain rfl := hw1
  refine ax_w ([(a0, .inr (11, [.ref a1, .ref b0, .ref b1, .ref b2, .ref b3, .ref b4, .ref b5, .ref b6, .ref b7, .ref b8, .int 0, .int 0])), (a1, .inr (0, [.ref a2, .int 20])), (a2, .inl (kA 0, 256, .inl (upd (upd (upd (upd (upd (upd (upd (upd (upd (upd (upd (upd (upd (upd (upd (upd (upd (upd (upd (upd (fun _ => 0) (Int32.toNatClampNeg 0) ((((i0 : Int32).toUInt32 >>> ((24 : Int32).toUInt32 &&& Int32.toUInt32 31)).toInt32) &&& 255)) (Int32.toNatClampNeg 1) ((((i0 : Int32).toUInt32 >>> ((16 : Int32).toUInt32 &&& Int32.toUInt32 31)).toInt32) &&& 255)) (Int32.toNatClampNeg 2) ((((i0 : Int32).toUInt32 >>> ((8 : Int32).toUInt32 &&& Int32.toUInt32 31)).toInt32) &&& 255)) (Int32.toNatClampNeg 3) ((((i0 : Int32).toUInt32 >>> ((0 : Int32).toUInt32 &&& Int32.toUInt32 31)).toInt32) &&& 255)) (Int32.toNatClampNeg 4) ((((i1 : Int32).toUInt32 >>> ((24 : Int32).toUInt32 &&& Int32.toUInt32 31)).toInt32) &&& 255)) (Int32.toNatClampNeg 5) ((((i1 : Int32).toUInt32 >>> ((16 : Int32).toUInt32 &&& Int32.toUInt32 31)).toInt32) &&& 255)) (Int32.toNatClampNeg 6) ((((i1 : Int32).toUInt32 >>> ((8 : Int32).toUInt32 &&& Int32.toUInt32 31)).toInt32) &&& 255)) (Int32.toNatClampNeg 7) ((((i1 : Int32).toUInt32 >>> ((0 : Int32).toUInt32 &&& Int32.toUInt32 31)).toInt32) &&& 255)) (Int32.toNatClampNeg 8) ((((i2 : Int32).toUInt32 >>> ((24 : Int32).toUInt32 &&& Int32.toUInt32 31)).toInt32) &&& 255)) (Int32.toNatClampNeg 9) ((((i2 : Int32).toUInt32 >>> ((16 : Int32).toUInt32 &&& Int32.toUInt32 31)).toInt32) &&& 255)) (Int32.toNatClampNeg 10) ((((i2 : Int32).toUInt32 >>> ((8 : Int32).toUInt32 &&& Int32.toUInt32 31)).toInt32) &&& 255)) (Int32.toNatClampNeg 11) ((((i2 : Int32).toUInt32 >>> ((0 : Int32).toUInt32 &&& Int32.toUInt32 31)).toInt32) &&& 255)) (Int32.toNatClampNeg 12) ((((i3 : Int32).toUInt32 >>> ((24 : Int32).toUInt32 &&& Int32.toUInt32 31)).toInt32) &&& 255)) (Int32.toNatClampNeg 13) ((((i3 : Int32).toUInt32 >>> ((16 : Int32).toUInt32 &&& Int32.toUInt32 31)).toInt32) &&& 255)) (Int32.toNatClampNeg 14) ((((i3 : Int32).toUInt32 >>> ((8 : Int32).toUInt32 &&& Int32.toUInt32 31)).toInt32) &&& 255)) (Int32.toNatClampNeg 15) ((((i3 : Int32).toUInt32 >>> ((0 : Int32).toUInt32 &&& Int32.toUInt32 31)).toInt32) &&& 255)) (Int32.toNatClampNeg 16) ((((i4 : Int32).toUInt32 >>> ((24 : Int32).toUInt32 &&& Int32.toUInt32 31)).toInt32) &&& 255)) (Int32.toNatClampNeg 17) ((((i4 : Int32).toUInt32 >>> ((16 : Int32).toUInt32 &&& Int32.toUInt32 31)).toInt32) &&& 255)) (Int32.toNatClampNeg 18) ((((i4 : Int32).toUInt32 >>> ((8 : Int32).toUInt32 &&& Int32.toUInt32 31)).toInt32) &&& 255)) (Int32.toNatClampNeg 19) ((((i4 : Int32).toUInt32 >>> ((0 : Int32).toUInt32 &&& Int32.toUInt32 31)).toInt32) &&& 255))))]) rfl ?_
  refine ax_aload_n (pc := 52) C d_CP_feed_52 rfl 0 rfl ?_
  refine ax_get (pc := 53) C k_CP 0 lk_CP_14 d_CP_feed_53 (Nat.le_of_ble_eq_true rfl) 0 rfl rfl ?_
  refine ax_get (pc := 56) C k_Row 1 lk_CP_82 d_CP_feed_56 (Nat.le_of_ble_eq_true rfl) 1 rfl rfl ?_
  exact ax_iret (pc := 59) C d_CP_feed_59 ⟨rfl, rfl⟩ (by decide) (by decide)
theorem tc_CP_feed : Cond.code y_CP_feed b_CP_feed 6 (some (.int)) ∈ lw_tbg := tb_in (i := 898) (by decide +kernel) rfl
theorem ml_Law_7 : ax_LV "ClauseProverLaw" 7 y_CP_feed b_CP_feed 6 (some (.int)) 5 := ax_LV.mk (tb_in (i := 895) (by decide +kernel) rfl) (tb_in (i := 896) (by decide +kernel) rfl) (tb_in (i := 897) (by decide +kernel) rfl) ti_CP tc_CP_feed (by decide +kernel)
set_option maxHeartbeats 4000000 in
set_option maxRecDepth 100000 in
theorem m1_Law_feed (l : Launch) (D : va_G) (kA : Nat → ClassId) (a0 : Nat) (a1 : Nat) (a2 : Nat) (a3 : Nat) (b0 : Nat) (b1 : Nat) (b2 : Nat) (b3 : Nat) (b4 : Nat) (b5 : Nat) (b6 : Nat) (b7 : Nat) (b8 : Nat) (i0 : Int32) (i1 : Int32) (i2 : Int32) (i3 : Int32) (i4 : Int32) : ax_Mw l D kA y_Law_feed b_Law_feed 8 [(0, 16, 19, 13)] 3 68 0 0 [.ref a0, .int i0, .int i1, .int i2, .int i3, .int i4, .ref a3] [(a0, .inr (11, [.ref a1, .ref b0, .ref b1, .ref b2, .ref b3, .ref b4, .ref b5, .ref b6, .ref b7, .ref b8, .int 0, .int 0])), (a1, .inr (0, [.ref a2, .int 0])), (a2, .inl (kA 0, 256, .inl (fun _ => 0))), (a3, .inl (kA 3, 1, .inr (.inl (fun _ => 0))))] (fun r w1 => r = 0 ∧ w1 = [(a3, .inl (kA 3, 1, .inr (.inl (vp_updL (fun _ => 0) (Int32.toNatClampNeg 0) (Int32.toInt64 20))))), (a0, .inr (11, [.ref a1, .ref b0, .ref b1, .ref b2, .ref b3, .ref b4, .ref b5, .ref b6, .ref b7, .ref b8, .int 0, .int 0])), (a1, .inr (0, [.ref a2, .int 20])), (a2, .inl (kA 0, 256, .inl (upd (upd (upd (upd (upd (upd (upd (upd (upd (upd (upd (upd (upd (upd (upd (upd (upd (upd (upd (upd (fun _ => 0) (Int32.toNatClampNeg 0) ((((i0 : Int32).toUInt32 >>> ((24 : Int32).toUInt32 &&& Int32.toUInt32 31)).toInt32) &&& 255)) (Int32.toNatClampNeg 1) ((((i0 : Int32).toUInt32 >>> ((16 : Int32).toUInt32 &&& Int32.toUInt32 31)).toInt32) &&& 255)) (Int32.toNatClampNeg 2) ((((i0 : Int32).toUInt32 >>> ((8 : Int32).toUInt32 &&& Int32.toUInt32 31)).toInt32) &&& 255)) (Int32.toNatClampNeg 3) ((((i0 : Int32).toUInt32 >>> ((0 : Int32).toUInt32 &&& Int32.toUInt32 31)).toInt32) &&& 255)) (Int32.toNatClampNeg 4) ((((i1 : Int32).toUInt32 >>> ((24 : Int32).toUInt32 &&& Int32.toUInt32 31)).toInt32) &&& 255)) (Int32.toNatClampNeg 5) ((((i1 : Int32).toUInt32 >>> ((16 : Int32).toUInt32 &&& Int32.toUInt32 31)).toInt32) &&& 255)) (Int32.toNatClampNeg 6) ((((i1 : Int32).toUInt32 >>> ((8 : Int32).toUInt32 &&& Int32.toUInt32 31)).toInt32) &&& 255)) (Int32.toNatClampNeg 7) ((((i1 : Int32).toUInt32 >>> ((0 : Int32).toUInt32 &&& Int32.toUInt32 31)).toInt32) &&& 255)) (Int32.toNatClampNeg 8) ((((i2 : Int32).toUInt32 >>> ((24 : Int32).toUInt32 &&& Int32.toUInt32 31)).toInt32) &&& 255)) (Int32.toNatClampNeg 9) ((((i2 : Int32).toUInt32 >>> ((16 : Int32).toUInt32 &&& Int32.toUInt32 31)).toInt32) &&& 255)) (Int32.toNatClampNeg 10) ((((i2 : Int32).toUInt32 >>> ((8 : Int32).toUInt32 &&& Int32.toUInt32 31)).toInt32) &&& 255)) (Int32.toNatClampNeg 11) ((((i2 : Int32).toUInt32 >>> ((0 : Int32).toUInt32 &&& Int32.toUInt32 31)).toInt32) &&& 255)) (Int32.toNatClampNeg 12) ((((i3 : Int32).toUInt32 >>> ((24 : Int32).toUInt32 &&& Int32.toUInt32 31)).toInt32) &&& 255)) (Int32.toNatClampNeg 13) ((((i3 : Int32).toUInt32 >>> ((16 : Int32).toUInt32 &&& Int32.toUInt32 31)).toInt32) &&& 255)) (Int32.toNatClampNeg 14) ((((i3 : Int32).toUInt32 >>> ((8 : Int32).toUInt32 &&& Int32.toUInt32 31)).toInt32) &&& 255)) (Int32.toNatClampNeg 15) ((((i3 : Int32).toUInt32 >>> ((0 : Int32).toUInt32 &&& Int32.toUInt32 31)).toInt32) &&& 255)) (Int32.toNatClampNeg 16) ((((i4 : Int32).toUInt32 >>> ((24 : Int32).toUInt32 &&& Int32.toUInt32 31)).toInt32) &&& 255)) (Int32.toNatClampNeg 17) ((((i4 : Int32).toUInt32 >>> ((16 : Int32).toUInt32 &&& Int32.toUInt32 31)).toInt32) &&& 255)) (Int32.toNatClampNeg 18) ((((i4 : Int32).toUInt32 >>> ((8 : Int32).toUInt32 &&& Int32.toUInt32 31)).toInt32) &&& 255)) (Int32.toNatClampNeg 19) ((((i4 : Int32).toUInt32 >>> ((0 : Int32).toUInt32 &&& Int32.toUInt32 31)).toInt32) &&& 255))))]) := by
  refine ax_Mw.of (by decide +kernel) (Nat.le_of_ble_eq_true rfl) ?_
  intro p e s m args below meth c C hadm hmeth hcode htb hX
  refine ax_ls ([(0, .ref a0), (1, .int i0), (2, .int i1), (3, .int i2), (4, .int i3), (5, .int i4), (6, .ref a3)]) [0, 1, 2, 3, 4, 5, 6] rfl ?_
  refine ax_aload (pc := 0) C d_Law_feed_0 6 rfl ?_
  refine ax_iconst (pc := 2) C 0 d_Law_feed_2 (by decide +kernel) ?_
  refine ax_aload_n (pc := 3) C d_Law_feed_3 rfl 0 rfl ?_
  refine ax_iload_n (pc := 4) C d_Law_feed_4 rfl 1 rfl ?_
  refine ax_iload_n (pc := 5) C d_Law_feed_5 rfl 2 rfl ?_
  refine ax_iload_n (pc := 6) C d_Law_feed_6 rfl 3 rfl ?_
  refine ax_iload (pc := 7) C d_Law_feed_7 4 rfl ?_
  refine ax_iload (pc := 9) C d_Law_feed_9 5 rfl ?_
  refine ax_callVi (pc := 11) C (As := [.int i0, .int i1, .int i2, .int i3, .int i4]) (rest := [.int 0, .ref a3]) (wr := [(a3, .inl (kA 3, 1, .inr (.inl (fun _ => 0))))]) (m2_CP_feed l D kA a0 a1 a2 b0 b1 b2 b3 b4 b5 b6 b7 b8 i0 i1 i2 i3 i4) ml_Law_7 0 rfl rfl rfl d_Law_feed_11 rfl rfl [0, 1, 2] [3] rfl (by decide) rfl (by decide) (by decide) (Nat.le_of_ble_eq_true rfl) (Nat.le_of_ble_eq_true rfl) (Nat.le_of_ble_eq_true rfl) (Nat.le_of_ble_eq_true rfl) (Nat.le_of_ble_eq_true rfl) (fun r11 w1 hw1 => ?_)
  obtain ⟨rfl, rfl⟩ := hw1
  refine ax_w ([(a3, .inl (kA 3, 1, .inr (.inl (fun _ => 0)))), (a0, .inr (11, [.ref a1, .ref b0, .ref b1, .ref b2, .ref b3, .ref b4, .ref b5, .ref b6, .ref b7, .ref b8, .int 0, .int 0])), (a1, .inr (0, [.ref a2, .int 20])), (a2, .inl (kA 0, 256, .inl (upd (upd (upd (upd (upd (upd (upd (upd (upd (upd (upd (upd (upd (upd (upd (upd (upd (upd (upd (upd (fun _ => 0) (Int32.toNatClampNeg 0) ((((i0 : Int32).toUInt32 >>> ((24 : Int32).toUInt32 &&& Int32.toUInt32 31)).toInt32) &&& 255)) (Int32.toNatClampNeg 1) ((((i0 : Int32).toUInt32 >>> ((16 : Int32).toUInt32 &&& Int32.toUInt32 31)).toInt32) &&& 255)) (Int32.toNatClampNeg 2) ((((i0 : Int32).toUInt32 >>> ((8 : Int32).toUInt32 &&& Int32.toUInt32 31)).toInt32) &&& 255)) (Int32.toNatClampNeg 3) ((((i0 : Int32).toUInt32 >>> ((0 : Int32).toUInt32 &&& Int32.toUInt32 31)).toInt32) &&& 255)) (Int32.toNatClampNeg 4) ((((i1 : Int32).toUInt32 >>> ((24 : Int32).toUInt32 &&& Int32.toUInt32 31)).toInt32) &&& 255)) (Int32.toNatClampNeg 5) ((((i1 : Int32).toUInt32 >>> ((16 : Int32).toUInt32 &&& Int32.toUInt32 31)).toInt32) &&& 255)) (Int32.toNatClampNeg 6) ((((i1 : Int32).toUInt32 >>> ((8 : Int32).toUInt32 &&& Int32.toUInt32 31)).toInt32) &&& 255)) (Int32.toNatClampNeg 7) ((((i1 : Int32).toUInt32 >>> ((0 : Int32).toUInt32 &&& Int32.toUInt32 31)).toInt32) &&& 255)) (Int32.toNatClampNeg 8) ((((i2 : Int32).toUInt32 >>> ((24 : Int32).toUInt32 &&& Int32.toUInt32 31)).toInt32) &&& 255)) (Int32.toNatClampNeg 9) ((((i2 : Int32).toUInt32 >>> ((16 : Int32).toUInt32 &&& Int32.toUInt32 31)).toInt32) &&& 255)) (Int32.toNatClampNeg 10) ((((i2 : Int32).toUInt32 >>> ((8 : Int32).toUInt32 &&& Int32.toUInt32 31)).toInt32) &&& 255)) (Int32.toNatClampNeg 11) ((((i2 : Int32).toUInt32 >>> ((0 : Int32).toUInt32 &&& Int32.toUInt32 31)).toInt32) &&& 255)) (Int32.toNatClampNeg 12) ((((i3 : Int32).toUInt32 >>> ((24 : Int32).toUInt32 &&& Int32.toUInt32 31)).toInt32) &&& 255)) (Int32.toNatClampNeg 13) ((((i3 : Int32).toUInt32 >>> ((16 : Int32).toUInt32 &&& Int32.toUInt32 31)).toInt32) &&& 255)) (Int32.toNatClampNeg 14) ((((i3 : Int32).toUInt32 >>> ((8 : Int32).toUInt32 &&& Int32.toUInt32 31)).toInt32) &&& 255)) (Int32.toNatClampNeg 15) ((((i3 : Int32).toUInt32 >>> ((0 : Int32).toUInt32 &&& Int32.toUInt32 31)).toInt32) &&& 255)) (Int32.toNatClampNeg 16) ((((i4 : Int32).toUInt32 >>> ((24 : Int32).toUInt32 &&& Int32.toUInt32 31)).toInt32) &&& 255)) (Int32.toNatClampNeg 17) ((((i4 : Int32).toUInt32 >>> ((16 : Int32).toUInt32 &&& Int32.toUInt32 31)).toInt32) &&& 255)) (Int32.toNatClampNeg 18) ((((i4 : Int32).toUInt32 >>> ((8 : Int32).toUInt32 &&& Int32.toUInt32 31)).toInt32) &&& 255)) (Int32.toNatClampNeg 19) ((((i4 : Int32).toUInt32 >>> ((0 : Int32).toUInt32 &&& Int32.toUInt32 31)).toInt32) &&& 255))))]) rfl ?_
  refine ax_i2l (pc := 14) C (Int32.toInt64 20) d_Law_feed_14 rfl ?_
  refine ax_last (pc := 15) C 0 rfl d_Law_feed_15 (by unfold vp_in; decide) ?_
  refine ax_w ([(a3, .inl (kA 3, 1, .inr (.inl (vp_updL (fun _ => 0) (Int32.toNatClampNeg 0) (Int32.toInt64 20))))), (a0, .inr (11, [.ref a1, .ref b0, .ref b1, .ref b2, .ref b3, .ref b4, .ref b5, .ref b6, .ref b7, .ref b8, .int 0, .int 0])), (a1, .inr (0, [.ref a2, .int 20])), (a2, .inl (kA 0, 256, .inl (upd (upd (upd (upd (upd (upd (upd (upd (upd (upd (upd (upd (upd (upd (upd (upd (upd (upd (upd (upd (fun _ => 0) (Int32.toNatClampNeg 0) ((((i0 : Int32).toUInt32 >>> ((24 : Int32).toUInt32 &&& Int32.toUInt32 31)).toInt32) &&& 255)) (Int32.toNatClampNeg 1) ((((i0 : Int32).toUInt32 >>> ((16 : Int32).toUInt32 &&& Int32.toUInt32 31)).toInt32) &&& 255)) (Int32.toNatClampNeg 2) ((((i0 : Int32).toUInt32 >>> ((8 : Int32).toUInt32 &&& Int32.toUInt32 31)).toInt32) &&& 255)) (Int32.toNatClampNeg 3) ((((i0 : Int32).toUInt32 >>> ((0 : Int32).toUInt32 &&& Int32.toUInt32 31)).toInt32) &&& 255)) (Int32.toNatClampNeg 4) ((((i1 : Int32).toUInt32 >>> ((24 : Int32).toUInt32 &&& Int32.toUInt32 31)).toInt32) &&& 255)) (Int32.toNatClampNeg 5) ((((i1 : Int32).toUInt32 >>> ((16 : Int32).toUInt32 &&& Int32.toUInt32 31)).toInt32) &&& 255)) (Int32.toNatClampNeg 6) ((((i1 : Int32).toUInt32 >>> ((8 : Int32).toUInt32 &&& Int32.toUInt32 31)).toInt32) &&& 255)) (Int32.toNatClampNeg 7) ((((i1 : Int32).toUInt32 >>> ((0 : Int32).toUInt32 &&& Int32.toUInt32 31)).toInt32) &&& 255)) (Int32.toNatClampNeg 8) ((((i2 : Int32).toUInt32 >>> ((24 : Int32).toUInt32 &&& Int32.toUInt32 31)).toInt32) &&& 255)) (Int32.toNatClampNeg 9) ((((i2 : Int32).toUInt32 >>> ((16 : Int32).toUInt32 &&& Int32.toUInt32 31)).toInt32) &&& 255)) (Int32.toNatClampNeg 10) ((((i2 : Int32).toUInt32 >>> ((8 : Int32).toUInt32 &&& Int32.toUInt32 31)).toInt32) &&& 255)) (Int32.toNatClampNeg 11) ((((i2 : Int32).toUInt32 >>> ((0 : Int32).toUInt32 &&& Int32.toUInt32 31)).toInt32) &&& 255)) (Int32.toNatClampNeg 12) ((((i3 : Int32).toUInt32 >>> ((24 : Int32).toUInt32 &&& Int32.toUInt32 31)).toInt32) &&& 255)) (Int32.toNatClampNeg 13) ((((i3 : Int32).toUInt32 >>> ((16 : Int32).toUInt32 &&& Int32.toUInt32 31)).toInt32) &&& 255)) (Int32.toNatClampNeg 14) ((((i3 : Int32).toUInt32 >>> ((8 : Int32).toUInt32 &&& Int32.toUInt32 31)).toInt32) &&& 255)) (Int32.toNatClampNeg 15) ((((i3 : Int32).toUInt32 >>> ((0 : Int32).toUInt32 &&& Int32.toUInt32 31)).toInt32) &&& 255)) (Int32.toNatClampNeg 16) ((((i4 : Int32).toUInt32 >>> ((24 : Int32).toUInt32 &&& Int32.toUInt32 31)).toInt32) &&& 255)) (Int32.toNatClampNeg 17) ((((i4 : Int32).toUInt32 >>> ((16 : Int32).toUInt32 &&& Int32.toUInt32 31)).toInt32) &&& 255)) (Int32.toNatClampNeg 18) ((((i4 : Int32).toUInt32 >>> ((8 : Int32).toUInt32 &&& Int32.toUInt32 31)).toInt32) &&& 255)) (Int32.toNatClampNeg 19) ((((i4 : Int32).toUInt32 >>> ((0 : Int32).toUInt32 &&& Int32.toUInt32 31)).toInt32) &&& 255))))]) rfl ?_
  refine ax_goto (pc := 16) C 23 d_Law_feed_16 (by decide) ?_
  refine ax_iconst (pc := 23) C 0 d_Law_feed_23 (by decide +kernel) ?_
  exact ax_iret (pc := 24) C d_Law_feed_24 ⟨rfl, rfl⟩ (by decide) (by decide)
abbrev b_MM_feed : ByteArray := prog_14_method_4_code
def y_MM_feed : MethodName := ⟨"ClauseProverModel", "feed", "(IIIII)I"⟩
theorem d_MM_feed_0 : decode b_MM_feed 0 = .ok (.aload_n 0, 1) := by decide +kernel
theorem d_MM_feed_1 : decode b_MM_feed 1 = .ok (.iconst 0, 1) := by decide +kernel
theorem d_MM_feed_2 : decode b_MM_feed 2 = .ok (.putfield 24, 3) := by decide +kernel
theorem d_MM_feed_5 : decode b_MM_feed 5 = .ok (.aload_n 0, 1) := by decide +kernel
theorem d_MM_feed_6 : decode b_MM_feed 6 = .ok (.iconst 1, 1) := by decide +kernel
theorem d_MM_feed_7 : decode b_MM_feed 7 = .ok (.aload_n 0, 1) := by decide +kernel
theorem d_MM_feed_8 : decode b_MM_feed 8 = .ok (.getfield 17, 3) := by decide +kernel
theorem d_MM_feed_11 : decode b_MM_feed 11 = .ok (.ldc_w 400, 3) := by decide +kernel
theorem d_MM_feed_14 : decode b_MM_feed 14 = .ok (.if_icmp .le 7, 3) := by decide +kernel
theorem d_MM_feed_17 : decode b_MM_feed 17 = .ok (.iconst 1, 1) := by decide +kernel
theorem d_MM_feed_18 : decode b_MM_feed 18 = .ok (.goto 4, 3) := by decide +kernel
theorem d_MM_feed_21 : decode b_MM_feed 21 = .ok (.iconst 0, 1) := by decide +kernel
theorem d_MM_feed_22 : decode b_MM_feed 22 = .ok (.invokevirtual 401, 3) := by decide +kernel
theorem d_MM_feed_25 : decode b_MM_feed 25 = .ok (.ifCond .eq 5, 3) := by decide +kernel
theorem d_MM_feed_28 : decode b_MM_feed 28 = .ok (.iconst 0, 1) := by decide +kernel
theorem d_MM_feed_29 : decode b_MM_feed 29 = .ok (.ireturn, 1) := by decide +kernel
theorem d_MM_feed_30 : decode b_MM_feed 30 = .ok (.iconst 0, 1) := by decide +kernel
theorem d_MM_feed_31 : decode b_MM_feed 31 = .ok (.istore 6, 2) := by decide +kernel
theorem d_MM_feed_33 : decode b_MM_feed 33 = .ok (.iload 6, 2) := by decide +kernel
theorem d_MM_feed_35 : decode b_MM_feed 35 = .ok (.bipush 20, 2) := by decide +kernel
theorem d_MM_feed_37 : decode b_MM_feed 37 = .ok (.if_icmp .ge 87, 3) := by decide +kernel
theorem d_MM_feed_40 : decode b_MM_feed 40 = .ok (.iload 6, 2) := by decide +kernel
theorem d_MM_feed_42 : decode b_MM_feed 42 = .ok (.iconst 4, 1) := by decide +kernel
theorem d_MM_feed_43 : decode b_MM_feed 43 = .ok (.if_icmp .ge 7, 3) := by decide +kernel
theorem d_MM_feed_46 : decode b_MM_feed 46 = .ok (.iload_n 1, 1) := by decide +kernel
theorem d_MM_feed_47 : decode b_MM_feed 47 = .ok (.goto 39, 3) := by decide +kernel
theorem d_MM_feed_50 : decode b_MM_feed 50 = .ok (.iload 6, 2) := by decide +kernel
theorem d_MM_feed_52 : decode b_MM_feed 52 = .ok (.bipush 8, 2) := by decide +kernel
theorem d_MM_feed_54 : decode b_MM_feed 54 = .ok (.if_icmp .ge 7, 3) := by decide +kernel
theorem d_MM_feed_57 : decode b_MM_feed 57 = .ok (.iload_n 2, 1) := by decide +kernel
theorem d_MM_feed_58 : decode b_MM_feed 58 = .ok (.goto 28, 3) := by decide +kernel
theorem d_MM_feed_61 : decode b_MM_feed 61 = .ok (.iload 6, 2) := by decide +kernel
theorem d_MM_feed_63 : decode b_MM_feed 63 = .ok (.bipush 12, 2) := by decide +kernel
theorem d_MM_feed_65 : decode b_MM_feed 65 = .ok (.if_icmp .ge 7, 3) := by decide +kernel
theorem d_MM_feed_68 : decode b_MM_feed 68 = .ok (.iload_n 3, 1) := by decide +kernel
theorem d_MM_feed_69 : decode b_MM_feed 69 = .ok (.goto 17, 3) := by decide +kernel
theorem d_MM_feed_72 : decode b_MM_feed 72 = .ok (.iload 6, 2) := by decide +kernel
theorem d_MM_feed_74 : decode b_MM_feed 74 = .ok (.bipush 16, 2) := by decide +kernel
theorem d_MM_feed_76 : decode b_MM_feed 76 = .ok (.if_icmp .ge 8, 3) := by decide +kernel
theorem d_MM_feed_79 : decode b_MM_feed 79 = .ok (.iload 4, 2) := by decide +kernel
theorem d_MM_feed_81 : decode b_MM_feed 81 = .ok (.goto 5, 3) := by decide +kernel
theorem d_MM_feed_84 : decode b_MM_feed 84 = .ok (.iload 5, 2) := by decide +kernel
theorem d_MM_feed_86 : decode b_MM_feed 86 = .ok (.istore 7, 2) := by decide +kernel
theorem d_MM_feed_88 : decode b_MM_feed 88 = .ok (.aload_n 0, 1) := by decide +kernel
theorem d_MM_feed_89 : decode b_MM_feed 89 = .ok (.getfield 8, 3) := by decide +kernel
theorem d_MM_feed_92 : decode b_MM_feed 92 = .ok (.aload_n 0, 1) := by decide +kernel
theorem d_MM_feed_93 : decode b_MM_feed 93 = .ok (.dup, 1) := by decide +kernel
theorem d_MM_feed_94 : decode b_MM_feed 94 = .ok (.getfield 17, 3) := by decide +kernel
theorem d_MM_feed_97 : decode b_MM_feed 97 = .ok (.dup_x1, 1) := by decide +kernel
theorem d_MM_feed_98 : decode b_MM_feed 98 = .ok (.iconst 1, 1) := by decide +kernel
theorem d_MM_feed_99 : decode b_MM_feed 99 = .ok (.iadd, 1) := by decide +kernel
theorem d_MM_feed_100 : decode b_MM_feed 100 = .ok (.putfield 17, 3) := by decide +kernel
theorem d_MM_feed_103 : decode b_MM_feed 103 = .ok (.iload 7, 2) := by decide +kernel
theorem d_MM_feed_105 : decode b_MM_feed 105 = .ok (.bipush 24, 2) := by decide +kernel
theorem d_MM_feed_107 : decode b_MM_feed 107 = .ok (.bipush 8, 2) := by decide +kernel
theorem d_MM_feed_109 : decode b_MM_feed 109 = .ok (.iload 6, 2) := by decide +kernel
theorem d_MM_feed_111 : decode b_MM_feed 111 = .ok (.iconst 4, 1) := by decide +kernel
theorem d_MM_feed_112 : decode b_MM_feed 112 = .ok (.irem, 1) := by decide +kernel
theorem d_MM_feed_113 : decode b_MM_feed 113 = .ok (.imul, 1) := by decide +kernel
theorem d_MM_feed_114 : decode b_MM_feed 114 = .ok (.isub, 1) := by decide +kernel
theorem d_MM_feed_115 : decode b_MM_feed 115 = .ok (.iushr, 1) := by decide +kernel
theorem d_MM_feed_116 : decode b_MM_feed 116 = .ok (.i2b, 1) := by decide +kernel
theorem d_MM_feed_117 : decode b_MM_feed 117 = .ok (.bastore, 1) := by decide +kernel
theorem d_MM_feed_118 : decode b_MM_feed 118 = .ok (.iinc 6 1, 3) := by decide +kernel
theorem d_MM_feed_121 : decode b_MM_feed 121 = .ok (.goto (-88), 3) := by decide +kernel
theorem d_MM_feed_124 : decode b_MM_feed 124 = .ok (.aload_n 0, 1) := by decide +kernel
theorem d_MM_feed_125 : decode b_MM_feed 125 = .ok (.getfield 17, 3) := by decide +kernel
theorem d_MM_feed_128 : decode b_MM_feed 128 = .ok (.ireturn, 1) := by decide +kernel
abbrev b_MM_refuse : ByteArray := prog_14_method_3_code
def y_MM_refuse : MethodName := ⟨"ClauseProverModel", "refuse", "(IZ)Z"⟩
theorem d_MM_refuse_0 : decode b_MM_refuse 0 = .ok (.iload_n 2, 1) := by decide +kernel
theorem d_MM_refuse_1 : decode b_MM_refuse 1 = .ok (.ifCond .eq 8, 3) := by decide +kernel
theorem d_MM_refuse_4 : decode b_MM_refuse 4 = .ok (.aload_n 0, 1) := by decide +kernel
theorem d_MM_refuse_5 : decode b_MM_refuse 5 = .ok (.iload_n 1, 1) := by decide +kernel
theorem d_MM_refuse_6 : decode b_MM_refuse 6 = .ok (.putfield 24, 3) := by decide +kernel
theorem d_MM_refuse_9 : decode b_MM_refuse 9 = .ok (.iload_n 2, 1) := by decide +kernel
theorem d_MM_refuse_10 : decode b_MM_refuse 10 = .ok (.ireturn, 1) := by decide +kernel
theorem tc_Law_feed : Cond.codeWith y_Law_feed b_Law_feed 8 (some .int) [(0, 16, 19, 13)] ∈ lw_tbg := tb_in (i := 893) (by decide +kernel) rfl
theorem ti_Law : Cond.initialized "ClauseProverLaw" ∈ lw_tbg := tb_in (i := 0) (by decide +kernel) rfl
theorem mw_Law_61 : ax_LSw "ClauseProverLaw" 61 y_Law_feed b_Law_feed 8 [(0, 16, 19, 13)] 7 := ax_LSw.mk (tb_in (i := 891) (by decide +kernel) rfl) (tb_in (i := 892) (by decide +kernel) rfl) ti_Law tc_Law_feed (by decide +kernel)
set_option maxHeartbeats 4000000 in
set_option maxRecDepth 100000 in
theorem m29_MM_refuse (l : Launch) (D : va_G) (kA : Nat → ClassId) (b0 : Nat) : ax_Mi l D kA y_MM_refuse b_MM_refuse 3 .boolean 0 0 0 0 [.ref b0, .int 1, .int 0] [] (fun r w1 => r = 0 ∧ w1 = []) := by
  refine ax_Mi.of (by decide +kernel) (Nat.le_of_ble_eq_true rfl) ?_
  intro p e s m args below meth c C hnm
  refine ax_ls ([(0, .ref b0), (1, .int 1), (2, .int 0)]) [0, 1, 2] rfl ?_
  refine ax_iload_n (pc := 0) C d_MM_refuse_0 rfl 2 rfl ?_
  refine ax_if_eq (pc := 1) C 9 d_MM_refuse_1 (by decide) (fun _ => ?_) (fun h => absurd h (by decide))
  refine ax_iload_n (pc := 9) C d_MM_refuse_9 rfl 2 rfl ?_
  exact ax_zret (pc := 10) C d_MM_refuse_10 rfl ⟨rfl, rfl⟩ (by decide) (by decide)
theorem tc_MM_refuse : Cond.code y_MM_refuse b_MM_refuse 3 (some (.boolean)) ∈ lw_tbg := tb_in (i := 1915) (by decide +kernel) rfl
theorem ti_MM : Cond.initialized "ClauseProverModel" ∈ lw_tbg := tb_in (i := 14) (by decide +kernel) rfl
theorem ml_MM_401 : ax_LV "ClauseProverModel" 401 y_MM_refuse b_MM_refuse 3 (some (.boolean)) 2 := ax_LV.mk (tb_in (i := 1912) (by decide +kernel) rfl) (tb_in (i := 1914) (by decide +kernel) rfl) (pv_in (i := 90) (by decide +kernel) rfl) ti_MM tc_MM_refuse (by decide +kernel)
set_option maxHeartbeats 4000000 in
set_option maxRecDepth 100000 in
theorem m28_MM_feed (l : Launch) (D : va_G) (kA : Nat → ClassId) (a0 : Nat) (a1 : Nat) (b0 : Nat) (b1 : Nat) (b2 : Nat) (b3 : Nat) (b4 : Nat) (b5 : Nat) (b6 : Nat) (b7 : Nat) (b8 : Nat) (b9 : Nat) (b10 : Nat) (b11 : Nat) (b12 : Nat) (b13 : Nat) (b14 : Nat) (b15 : Nat) (b16 : Nat) (b17 : Nat) (b18 : Nat) (b19 : Nat) (b20 : Nat) (b21 : Nat) (b22 : Nat) (b23 : Nat) (b24 : Nat) (b25 : Nat) (b26 : Nat) (b27 : Nat) (b28 : Nat) (b29 : Nat) (b30 : Nat) (b31 : Nat) (b32 : Nat) (b33 : Nat) (b34 : Nat) (b35 : Nat) (b36 : Nat) (b37 : Nat) (b38 : Nat) (b39 : Nat) (b40 : Nat) (b41 : Nat) (b42 : Nat) (b43 : Nat) (b44 : Nat) (b45 : Nat) (b46 : Nat) (b47 : Nat) (b48 : Nat) (b49 : Nat) (b50 : Nat) (b51 : Nat) (b52 : Nat) (b53 : Nat) (b54 : Nat) (b55 : Nat) (b56 : Nat) (b57 : Nat) (b58 : Nat) (b59 : Nat) (b60 : Nat) (b61 : Nat) (b62 : Nat) (b63 : Nat) (b64 : Nat) (b65 : Nat) (b66 : Nat) (b67 : Nat) (b68 : Nat) (b69 : Nat) (b70 : Nat) (b71 : Nat) (b72 : Nat) (b73 : Nat) (b74 : Nat) (i0 : Int32) (i1 : Int32) (i2 : Int32) (i3 : Int32) (i4 : Int32) : ax_Mi l D kA y_MM_feed b_MM_feed 8 .int 1 22 0 0 [.ref a0, .int i0, .int i1, .int i2, .int i3, .int i4] [(a0, .inr (12, [.ref a1, .ref b0, .int 0, .int 0, .int 0, .int 0, .int 0, .int 0, .int 0, .int 0, .int 0, .int 0, .int 0, .ref b1, .ref b2, .ref b3, .ref b4, .ref b5, .int 0, .int 1, .int 0, .ref b6, .ref b7, .ref b8, .ref b9, .int 0, .ref b10, .ref b11, .int 0, .int 0, .ref b12, .ref b13, .ref b14, .ref b15, .ref b16, .ref b17, .ref b18, .int 0, .int 0, .int 0, .int 0, .ref b19, .ref b20, .ref b21, .ref b22, .ref b23, .ref b24, .int 0, .ref b25, .ref b26, .ref b27, .ref b28, .ref b29, .ref b30, .ref b31, .int 0, .int 0, .ref b32, .ref b33, .ref b34, .ref b35, .ref b36, .int 0, .ref b37, .ref b38, .int 0, .ref b39, .ref b40, .ref b41, .ref b42, .ref b43, .ref b44, .int 0, .ref b45, .ref b46, .ref b47, .ref b48, .ref b49, .ref b50, .ref b51, .ref b52, .ref b53, .ref b54, .ref b55, .int 0, .int 0, .int 0, .int 0, .int (-1), .int 0, .int 0, .int 0, .int 0, .int 0, .int 0, .ref b56, .ref b57, .ref b58, .int 0, .ref b59, .ref b60, .int 0, .ref b61, .ref b62, .ref b63, .int 0, .ref b64, .ref b65, .ref b66, .ref b67, .ref b68, .ref b69, .int 0, .int (-1), .int 0, .ref b70, .int (-1), .int (-1), .int (-1), .ref b71, .int 0, .ref b72, .int 0, .ref b73, .int 0, .int 0, .ref b74])), (a1, .inl (kA 2, 65536, .inl (fun _ => 0)))] (fun r w1 => r = 20 ∧ w1 = [(a0, .inr (12, [.ref a1, .ref b0, .int 20, .int 0, .int 0, .int 0, .int 0, .int 0, .int 0, .int 0, .int 0, .int 0, .int 0, .ref b1, .ref b2, .ref b3, .ref b4, .ref b5, .int 0, .int 1, .int 0, .ref b6, .ref b7, .ref b8, .ref b9, .int 0, .ref b10, .ref b11, .int 0, .int 0, .ref b12, .ref b13, .ref b14, .ref b15, .ref b16, .ref b17, .ref b18, .int 0, .int 0, .int 0, .int 0, .ref b19, .ref b20, .ref b21, .ref b22, .ref b23, .ref b24, .int 0, .ref b25, .ref b26, .ref b27, .ref b28, .ref b29, .ref b30, .ref b31, .int 0, .int 0, .ref b32, .ref b33, .ref b34, .ref b35, .ref b36, .int 0, .ref b37, .ref b38, .int 0, .ref b39, .ref b40, .ref b41, .ref b42, .ref b43, .ref b44, .int 0, .ref b45, .ref b46, .ref b47, .ref b48, .ref b49, .ref b50, .ref b51, .ref b52, .ref b53, .ref b54, .ref b55, .int 0, .int 0, .int 0, .int 0, .int (-1), .int 0, .int 0, .int 0, .int 0, .int 0, .int 0, .ref b56, .ref b57, .ref b58, .int 0, .ref b59, .ref b60, .int 0, .ref b61, .ref b62, .ref b63, .int 0, .ref b64, .ref b65, .ref b66, .ref b67, .ref b68, .ref b69, .int 0, .int (-1), .int 0, .ref b70, .int (-1), .int (-1), .int (-1), .ref b71, .int 0, .ref b72, .int 0, .ref b73, .int 0, .int 0, .ref b74])), (a1, .inl (kA 2, 65536, .inl (upd (upd (upd (upd (upd (upd (upd (upd (upd (upd (upd (upd (upd (upd (upd (upd (upd (upd (upd (upd (fun _ => 0) (Int32.toNatClampNeg 0) (vp_nar .byte ((((i0 : Int32).toUInt32 >>> ((24 : Int32).toUInt32 &&& Int32.toUInt32 31)).toInt32).toInt8.toInt32))) (Int32.toNatClampNeg 1) (vp_nar .byte ((((i0 : Int32).toUInt32 >>> ((16 : Int32).toUInt32 &&& Int32.toUInt32 31)).toInt32).toInt8.toInt32))) (Int32.toNatClampNeg 2) (vp_nar .byte ((((i0 : Int32).toUInt32 >>> ((8 : Int32).toUInt32 &&& Int32.toUInt32 31)).toInt32).toInt8.toInt32))) (Int32.toNatClampNeg 3) (vp_nar .byte ((((i0 : Int32).toUInt32 >>> ((0 : Int32).toUInt32 &&& Int32.toUInt32 31)).toInt32).toInt8.toInt32))) (Int32.toNatClampNeg 4) (vp_nar .byte ((((i1 : Int32).toUInt32 >>> ((24 : Int32).toUInt32 &&& Int32.toUInt32 31)).toInt32).toInt8.toInt32))) (Int32.toNatClampNeg 5) (vp_nar .byte ((((i1 : Int32).toUInt32 >>> ((16 : Int32).toUInt32 &&& Int32.toUInt32 31)).toInt32).toInt8.toInt32))) (Int32.toNatClampNeg 6) (vp_nar .byte ((((i1 : Int32).toUInt32 >>> ((8 : Int32).toUInt32 &&& Int32.toUInt32 31)).toInt32).toInt8.toInt32))) (Int32.toNatClampNeg 7) (vp_nar .byte ((((i1 : Int32).toUInt32 >>> ((0 : Int32).toUInt32 &&& Int32.toUInt32 31)).toInt32).toInt8.toInt32))) (Int32.toNatClampNeg 8) (vp_nar .byte ((((i2 : Int32).toUInt32 >>> ((24 : Int32).toUInt32 &&& Int32.toUInt32 31)).toInt32).toInt8.toInt32))) (Int32.toNatClampNeg 9) (vp_nar .byte ((((i2 : Int32).toUInt32 >>> ((16 : Int32).toUInt32 &&& Int32.toUInt32 31)).toInt32).toInt8.toInt32))) (Int32.toNatClampNeg 10) (vp_nar .byte ((((i2 : Int32).toUInt32 >>> ((8 : Int32).toUInt32 &&& Int32.toUInt32 31)).toInt32).toInt8.toInt32))) (Int32.toNatClampNeg 11) (vp_nar .byte ((((i2 : Int32).toUInt32 >>> ((0 : Int32).toUInt32 &&& Int32.toUInt32 31)).toInt32).toInt8.toInt32))) (Int32.toNatClampNeg 12) (vp_nar .byte ((((i3 : Int32).toUInt32 >>> ((24 : Int32).toUInt32 &&& Int32.toUInt32 31)).toInt32).toInt8.toInt32))) (Int32.toNatClampNeg 13) (vp_nar .byte ((((i3 : Int32).toUInt32 >>> ((16 : Int32).toUInt32 &&& Int32.toUInt32 31)).toInt32).toInt8.toInt32))) (Int32.toNatClampNeg 14) (vp_nar .byte ((((i3 : Int32).toUInt32 >>> ((8 : Int32).toUInt32 &&& Int32.toUInt32 31)).toInt32).toInt8.toInt32))) (Int32.toNatClampNeg 15) (vp_nar .byte ((((i3 : Int32).toUInt32 >>> ((0 : Int32).toUInt32 &&& Int32.toUInt32 31)).toInt32).toInt8.toInt32))) (Int32.toNatClampNeg 16) (vp_nar .byte ((((i4 : Int32).toUInt32 >>> ((24 : Int32).toUInt32 &&& Int32.toUInt32 31)).toInt32).toInt8.toInt32))) (Int32.toNatClampNeg 17) (vp_nar .byte ((((i4 : Int32).toUInt32 >>> ((16 : Int32).toUInt32 &&& Int32.toUInt32 31)).toInt32).toInt8.toInt32))) (Int32.toNatClampNeg 18) (vp_nar .byte ((((i4 : Int32).toUInt32 >>> ((8 : Int32).toUInt32 &&& Int32.toUInt32 31)).toInt32).toInt8.toInt32))) (Int32.toNatClampNeg 19) (vp_nar .byte ((((i4 : Int32).toUInt32 >>> ((0 : Int32).toUInt32 &&& Int32.toUInt32 31)).toInt32).toInt8.toInt32)))))]) := by
  refine ax_Mi.of (by decide +kernel) (Nat.le_of_ble_eq_true rfl) ?_
  intro p e s m args below meth c C hnm
  refine ax_ls ([(0, .ref a0), (1, .int i0), (2, .int i1), (3, .int i2), (4, .int i3), (5, .int i4)]) [0, 1, 2, 3, 4, 5] rfl ?_
  refine ax_aload_n (pc := 0) C d_MM_feed_0 rfl 0 rfl ?_
  refine ax_iconst (pc := 1) C 0 d_MM_feed_1 (by decide +kernel) ?_
  refine ax_put (pc := 2) C k_MM 4 lk_MM_24 d_MM_feed_2 (Nat.le_of_ble_eq_true rfl) 0 rfl rfl rfl rfl (Nat.le_of_ble_eq_true rfl) ?_
  refine ax_w ([(a0, .inr (12, [.ref a1, .ref b0, .int 0, .int 0, .int 0, .int 0, .int 0, .int 0, .int 0, .int 0, .int 0, .int 0, .int 0, .ref b1, .ref b2, .ref b3, .ref b4, .ref b5, .int 0, .int 1, .int 0, .ref b6, .ref b7, .ref b8, .ref b9, .int 0, .ref b10, .ref b11, .int 0, .int 0, .ref b12, .ref b13, .ref b14, .ref b15, .ref b16, .ref b17, .ref b18, .int 0, .int 0, .int 0, .int 0, .ref b19, .ref b20, .ref b21, .ref b22, .ref b23, .ref b24, .int 0, .ref b25, .ref b26, .ref b27, .ref b28, .ref b29, .ref b30, .ref b31, .int 0, .int 0, .ref b32, .ref b33, .ref b34, .ref b35, .ref b36, .int 0, .ref b37, .ref b38, .int 0, .ref b39, .ref b40, .ref b41, .ref b42, .ref b43, .ref b44, .int 0, .ref b45, .ref b46, .ref b47, .ref b48, .ref b49, .ref b50, .ref b51, .ref b52, .ref b53, .ref b54, .ref b55, .int 0, .int 0, .int 0, .int 0, .int (-1), .int 0, .int 0, .int 0, .int 0, .int 0, .int 0, .ref b56, .ref b57, .ref b58, .int 0, .ref b59, .ref b60, .int 0, .ref b61, .ref b62, .ref b63, .int 0, .ref b64, .ref b65, .ref b66, .ref b67, .ref b68, .ref b69, .int 0, .int (-1), .int 0, .ref b70, .int (-1), .int (-1), .int (-1), .ref b71, .int 0, .ref b72, .int 0, .ref b73, .int 0, .int 0, .ref b74])), (a1, .inl (kA 2, 65536, .inl (fun _ => 0)))]) rfl ?_
  refine ax_aload_n (pc := 5) C d_MM_feed_5 rfl 0 rfl ?_
  refine ax_iconst (pc := 6) C 1 d_MM_feed_6 (by decide +kernel) ?_
  refine ax_aload_n (pc := 7) C d_MM_feed_7 rfl 0 rfl ?_
  refine ax_get (pc := 8) C k_MM 2 lk_MM_17 d_MM_feed_8 (Nat.le_of_ble_eq_true rfl) 0 rfl rfl ?_
  refine ax_ldcw (pc := 11) C tb_constant_1911 d_MM_feed_11 ?_
  refine ax_icmp_le (pc := 14) C 21 d_MM_feed_14 (by decide) (fun _ => ?_) (fun h => absurd h (by decide))
  refine ax_iconst (pc := 21) C 0 d_MM_feed_21 (by decide +kernel) ?_
  refine ax_callVi (pc := 22) C (As := [.int 1, .int 0]) (rest := []) (wr := [(a0, .inr (12, [.ref a1, .ref b0, .int 0, .int 0, .int 0, .int 0, .int 0, .int 0, .int 0, .int 0, .int 0, .int 0, .int 0, .ref b1, .ref b2, .ref b3, .ref b4, .ref b5, .int 0, .int 1, .int 0, .ref b6, .ref b7, .ref b8, .ref b9, .int 0, .ref b10, .ref b11, .int 0, .int 0, .ref b12, .ref b13, .ref b14, .ref b15, .ref b16, .ref b17, .ref b18, .int 0, .int 0, .int 0, .int 0, .ref b19, .ref b20, .ref b21, .ref b22, .ref b23, .ref b24, .int 0, .ref b25, .ref b26, .ref b27, .ref b28, .ref b29, .ref b30, .ref b31, .int 0, .int 0, .ref b32, .ref b33, .ref b34, .ref b35, .ref b36, .int 0, .ref b37, .ref b38, .int 0, .ref b39, .ref b40, .ref b41, .ref b42, .ref b43, .ref b44, .int 0, .ref b45, .ref b46, .ref b47, .ref b48, .ref b49, .ref b50, .ref b51, .ref b52, .ref b53, .ref b54, .ref b55, .int 0, .int 0, .int 0, .int 0, .int (-1), .int 0, .int 0, .int 0, .int 0, .int 0, .int 0, .ref b56, .ref b57, .ref b58, .int 0, .ref b59, .ref b60, .int 0, .ref b61, .ref b62, .ref b63, .int 0, .ref b64, .ref b65, .ref b66, .ref b67, .ref b68, .ref b69, .int 0, .int (-1), .int 0, .ref b70, .int (-1), .int (-1), .int (-1), .ref b71, .int 0, .ref b72, .int 0, .ref b73, .int 0, .int 0, .ref b74])), (a1, .inl (kA 2, 65536, .inl (fun _ => 0)))]) (m29_MM_refuse l D kA a0) ml_MM_401 0 rfl rfl rfl d_MM_feed_22 rfl rfl [] [0, 1] rfl (by decide) rfl (by decide) (by decide) (Nat.le_of_ble_eq_true rfl) (Nat.le_of_ble_eq_true rfl) (Nat.le_of_ble_eq_true rfl) (Nat.le_of_ble_eq_true rfl) (Nat.le_of_ble_eq_true rfl) (fun r22 w1 hw1 => ?_)
  obtain ⟨rfl, rfl⟩ := hw1
  refine ax_w ([(a0, .inr (12, [.ref a1, .ref b0, .int 0, .int 0, .int 0, .int 0, .int 0, .int 0, .int 0, .int 0, .int 0, .int 0, .int 0, .ref b1, .ref b2, .ref b3, .ref b4, .ref b5, .int 0, .int 1, .int 0, .ref b6, .ref b7, .ref b8, .ref b9, .int 0, .ref b10, .ref b11, .int 0, .int 0, .ref b12, .ref b13, .ref b14, .ref b15, .ref b16, .ref b17, .ref b18, .int 0, .int 0, .int 0, .int 0, .ref b19, .ref b20, .ref b21, .ref b22, .ref b23, .ref b24, .int 0, .ref b25, .ref b26, .ref b27, .ref b28, .ref b29, .ref b30, .ref b31, .int 0, .int 0, .ref b32, .ref b33, .ref b34, .ref b35, .ref b36, .int 0, .ref b37, .ref b38, .int 0, .ref b39, .ref b40, .ref b41, .ref b42, .ref b43, .ref b44, .int 0, .ref b45, .ref b46, .ref b47, .ref b48, .ref b49, .ref b50, .ref b51, .ref b52, .ref b53, .ref b54, .ref b55, .int 0, .int 0, .int 0, .int 0, .int (-1), .int 0, .int 0, .int 0, .int 0, .int 0, .int 0, .ref b56, .ref b57, .ref b58, .int 0, .ref b59, .ref b60, .int 0, .ref b61, .ref b62, .ref b63, .int 0, .ref b64, .ref b65, .ref b66, .ref b67, .ref b68, .ref b69, .int 0, .int (-1), .int 0, .ref b70, .int (-1), .int (-1), .int (-1), .ref b71, .int 0, .ref b72, .int 0, .ref b73, .int 0, .int 0, .ref b74])), (a1, .inl (kA 2, 65536, .inl (fun _ => 0)))]) rfl ?_
  refine ax_if_eq (pc := 25) C 30 d_MM_feed_25 (by decide) (fun _ => ?_) (fun h => absurd h (by decide))
  refine ax_iconst (pc := 30) C 0 d_MM_feed_30 (by decide +kernel) ?_
  refine ax_istore (pc := 31) C d_MM_feed_31 (Nat.le_of_ble_eq_true rfl) ([(6, .int 0), (0, .ref a0), (1, .int i0), (2, .int i1), (3, .int i2), (4, .int i3), (5, .int i4)]) rfl ?_
  refine ax_iload (pc := 33) C d_MM_feed_33 0 rfl ?_
  refine ax_bipush (pc := 35) C 20 d_MM_feed_35 (by decide +kernel) ?_
  refine ax_icmp_ge (pc := 37) C 124 d_MM_feed_37 (by decide) (fun h => absurd h (by decide)) (fun _ => ?_)
  refine ax_iload (pc := 40) C d_MM_feed_40 0 rfl ?_
  refine ax_iconst (pc := 42) C 4 d_MM_feed_42 (by decide +kernel) ?_
  refine ax_icmp_ge (pc := 43) C 50 d_MM_feed_43 (by decide) (fun h => absurd h (by decide)) (fun _ => ?_)
  refine ax_iload_n (pc := 46) C d_MM_feed_46 rfl 2 rfl ?_
  refine ax_goto (pc := 47) C 86 d_MM_feed_47 (by decide) ?_
  refine ax_istore (pc := 86) C d_MM_feed_86 (Nat.le_of_ble_eq_true rfl) ([(7, .int i0), (6, .int 0), (0, .ref a0), (1, .int i0), (2, .int i1), (3, .int i2), (4, .int i3), (5, .int i4)]) rfl ?_
  refine ax_aload_n (pc := 88) C d_MM_feed_88 rfl 2 rfl ?_
  refine ax_get (pc := 89) C k_MM 0 lk_MM_8 d_MM_feed_89 (Nat.le_of_ble_eq_true rfl) 0 rfl rfl ?_
  refine ax_aload_n (pc := 92) C d_MM_feed_92 rfl 2 rfl ?_
  refine ax_dup (pc := 93) C d_MM_feed_93 rfl ?_
  refine ax_get (pc := 94) C k_MM 2 lk_MM_17 d_MM_feed_94 (Nat.le_of_ble_eq_true rfl) 0 rfl rfl ?_
  refine ax_dup_x1 (pc := 97) C d_MM_feed_97 rfl rfl ?_
  refine ax_iconst (pc := 98) C 1 d_MM_feed_98 (by decide +kernel) ?_
  refine ax_iadd (pc := 99) C d_MM_feed_99 ?_
  refine ax_nrm 1 (by decide) ?_
  refine ax_put (pc := 100) C k_MM 2 lk_MM_17 d_MM_feed_100 (Nat.le_of_ble_eq_true rfl) 0 rfl rfl rfl rfl (Nat.le_of_ble_eq_true rfl) ?_
  refine ax_w ([(a0, .inr (12, [.ref a1, .ref b0, .int 1, .int 0, .int 0, .int 0, .int 0, .int 0, .int 0, .int 0, .int 0, .int 0, .int 0, .ref b1, .ref b2, .ref b3, .ref b4, .ref b5, .int 0, .int 1, .int 0, .ref b6, .ref b7, .ref b8, .ref b9, .int 0, .ref b10, .ref b11, .int 0, .int 0, .ref b12, .ref b13, .ref b14, .ref b15, .ref b16, .ref b17, .ref b18, .int 0, .int 0, .int 0, .int 0, .ref b19, .ref b20, .ref b21, .ref b22, .ref b23, .ref b24, .int 0, .ref b25, .ref b26, .ref b27, .ref b28, .ref b29, .ref b30, .ref b31, .int 0, .int 0, .ref b32, .ref b33, .ref b34, .ref b35, .ref b36, .int 0, .ref b37, .ref b38, .int 0, .ref b39, .ref b40, .ref b41, .ref b42, .ref b43, .ref b44, .int 0, .ref b45, .ref b46, .ref b47, .ref b48, .ref b49, .ref b50, .ref b51, .ref b52, .ref b53, .ref b54, .ref b55, .int 0, .int 0, .int 0, .int 0, .int (-1), .int 0, .int 0, .int 0, .int 0, .int 0, .int 0, .ref b56, .ref b57, .ref b58, .int 0, .ref b59, .ref b60, .int 0, .ref b61, .ref b62, .ref b63, .int 0, .ref b64, .ref b65, .ref b66, .ref b67, .ref b68, .ref b69, .int 0, .int (-1), .int 0, .ref b70, .int (-1), .int (-1), .int (-1), .ref b71, .int 0, .ref b72, .int 0, .ref b73, .int 0, .int 0, .ref b74])), (a1, .inl (kA 2, 65536, .inl (fun _ => 0)))]) rfl ?_
  refine ax_iload (pc := 103) C d_MM_feed_103 0 rfl ?_
  refine ax_bipush (pc := 105) C 24 d_MM_feed_105 (by decide +kernel) ?_
  refine ax_bipush (pc := 107) C 8 d_MM_feed_107 (by decide +kernel) ?_
  refine ax_iload (pc := 109) C d_MM_feed_109 1 rfl ?_
  refine ax_iconst (pc := 111) C 4 d_MM_feed_111 (by decide +kernel) ?_
  refine ax_irem (pc := 112) C d_MM_feed_112 (by decide) ?_
  refine ax_nrm 0 (by decide) ?_
  refine ax_imul (pc := 113) C d_MM_feed_113 ?_
  refine ax_nrm 0 (by decide) ?_
  refine ax_isub (pc := 114) C d_MM_feed_114 ?_
  refine ax_nrm 24 (by decide) ?_
  refine ax_iushr (pc := 115) C (((i0 : Int32).toUInt32 >>> ((24 : Int32).toUInt32 &&& Int32.toUInt32 31)).toInt32) d_MM_feed_115 rfl ?_
  refine ax_i2b (pc := 116) C ((((i0 : Int32).toUInt32 >>> ((24 : Int32).toUInt32 &&& Int32.toUInt32 31)).toInt32).toInt8.toInt32) d_MM_feed_116 rfl ?_
  refine ax_bast (pc := 117) C 1 rfl d_MM_feed_117 (by unfold vp_in; decide) ?_
  refine ax_w ([(a0, .inr (12, [.ref a1, .ref b0, .int 1, .int 0, .int 0, .int 0, .int 0, .int 0, .int 0, .int 0, .int 0, .int 0, .int 0, .ref b1, .ref b2, .ref b3, .ref b4, .ref b5, .int 0, .int 1, .int 0, .ref b6, .ref b7, .ref b8, .ref b9, .int 0, .ref b10, .ref b11, .int 0, .int 0, .ref b12, .ref b13, .ref b14, .ref b15, .ref b16, .ref b17, .ref b18, .int 0, .int 0, .int 0, .int 0, .ref b19, .ref b20, .ref b21, .ref b22, .ref b23, .ref b24, .int 0, .ref b25, .ref b26, .ref b27, .ref b28, .ref b29, .ref b30, .ref b31, .int 0, .int 0, .ref b32, .ref b33, .ref b34, .ref b35, .ref b36, .int 0, .ref b37, .ref b38, .int 0, .ref b39, .ref b40, .ref b41, .ref b42, .ref b43, .ref b44, .int 0, .ref b45, .ref b46, .ref b47, .ref b48, .ref b49, .ref b50, .ref b51, .ref b52, .ref b53, .ref b54, .ref b55, .int 0, .int 0, .int 0, .int 0, .int (-1), .int 0, .int 0, .int 0, .int 0, .int 0, .int 0, .ref b56, .ref b57, .ref b58, .int 0, .ref b59, .ref b60, .int 0, .ref b61, .ref b62, .ref b63, .int 0, .ref b64, .ref b65, .ref b66, .ref b67, .ref b68, .ref b69, .int 0, .int (-1), .int 0, .ref b70, .int (-1), .int (-1), .int (-1), .ref b71, .int 0, .ref b72, .int 0, .ref b73, .int 0, .int 0, .ref b74])), (a1, .inl (kA 2, 65536, .inl (upd (fun _ => 0) (Int32.toNatClampNeg 0) (vp_nar .byte ((((i0 : Int32).toUInt32 >>> ((24 : Int32).toUInt32 &&& Int32.toUInt32 31)).toInt32).toInt8.toInt32)))))]) rfl ?_
  refine ax_iinc (pc := 118) C (1) d_MM_feed_118 1 rfl (by decide) (Nat.le_of_ble_eq_true rfl) ([(6, .int 1), (7, .int i0), (0, .ref a0), (1, .int i0), (2, .int i1), (3, .int i2), (4, .int i3), (5, .int i4)]) rfl ?_
  refine ax_goto (pc := 121) C 33 d_MM_feed_121 (by decide) ?_
  refine ax_iload (pc := 33) C d_MM_feed_33 0 rfl ?_
  refine ax_bipush (pc := 35) C 20 d_MM_feed_35 (by decide +kernel) ?_
  refine ax_icmp_ge (pc := 37) C 124 d_MM_feed_37 (by decide) (fun h => absurd h (by decide)) (fun _ => ?_)
  refine ax_iload (pc := 40) C d_MM_feed_40 0 rfl ?_
  refine ax_iconst (pc := 42) C 4 d_MM_feed_42 (by decide +kernel) ?_
  refine ax_icmp_ge (pc := 43) C 50 d_MM_feed_43 (by decide) (fun h => absurd h (by decide)) (fun _ => ?_)
  refine ax_iload_n (pc := 46) C d_MM_feed_46 rfl 3 rfl ?_
  refine ax_goto (pc := 47) C 86 d_MM_feed_47 (by decide) ?_
  refine ax_istore (pc := 86) C d_MM_feed_86 (Nat.le_of_ble_eq_true rfl) ([(7, .int i0), (6, .int 1), (0, .ref a0), (1, .int i0), (2, .int i1), (3, .int i2), (4, .int i3), (5, .int i4)]) rfl ?_
  refine ax_aload_n (pc := 88) C d_MM_feed_88 rfl 2 rfl ?_
  refine ax_get (pc := 89) C k_MM 0 lk_MM_8 d_MM_feed_89 (Nat.le_of_ble_eq_true rfl) 0 rfl rfl ?_
  refine ax_aload_n (pc := 92) C d_MM_feed_92 rfl 2 rfl ?_
  refine ax_dup (pc := 93) C d_MM_feed_93 rfl ?_
  refine ax_get (pc := 94) C k_MM 2 lk_MM_17 d_MM_feed_94 (Nat.le_of_ble_eq_true rfl) 0 rfl rfl ?_
  refine ax_dup_x1 (pc := 97) C d_MM_feed_97 rfl rfl ?_
  refine ax_iconst (pc := 98) C 1 d_MM_feed_98 (by decide +kernel) ?_
  refine ax_iadd (pc := 99) C d_MM_feed_99 ?_
  refine ax_nrm 2 (by decide) ?_
  refine ax_put (pc := 100) C k_MM 2 lk_MM_17 d_MM_feed_100 (Nat.le_of_ble_eq_true rfl) 0 rfl rfl rfl rfl (Nat.le_of_ble_eq_true rfl) ?_
  refine ax_w ([(a0, .inr (12, [.ref a1, .ref b0, .int 2, .int 0, .int 0, .int 0, .int 0, .int 0, .int 0, .int 0, .int 0, .int 0, .int 0, .ref b1, .ref b2, .ref b3, .ref b4, .ref b5, .int 0, .int 1, .int 0, .ref b6, .ref b7, .ref b8, .ref b9, .int 0, .ref b10, .ref b11, .int 0, .int 0, .ref b12, .ref b13, .ref b14, .ref b15, .ref b16, .ref b17, .ref b18, .int 0, .int 0, .int 0, .int 0, .ref b19, .ref b20, .ref b21, .ref b22, .ref b23, .ref b24, .int 0, .ref b25, .ref b26, .ref b27, .ref b28, .ref b29, .ref b30, .ref b31, .int 0, .int 0, .ref b32, .ref b33, .ref b34, .ref b35, .ref b36, .int 0, .ref b37, .ref b38, .int 0, .ref b39, .ref b40, .ref b41, .ref b42, .ref b43, .ref b44, .int 0, .ref b45, .ref b46, .ref b47, .ref b48, .ref b49, .ref b50, .ref b51, .ref b52, .ref b53, .ref b54, .ref b55, .int 0, .int 0, .int 0, .int 0, .int (-1), .int 0, .int 0, .int 0, .int 0, .int 0, .int 0, .ref b56, .ref b57, .ref b58, .int 0, .ref b59, .ref b60, .int 0, .ref b61, .ref b62, .ref b63, .int 0, .ref b64, .ref b65, .ref b66, .ref b67, .ref b68, .ref b69, .int 0, .int (-1), .int 0, .ref b70, .int (-1), .int (-1), .int (-1), .ref b71, .int 0, .ref b72, .int 0, .ref b73, .int 0, .int 0, .ref b74])), (a1, .inl (kA 2, 65536, .inl (upd (fun _ => 0) (Int32.toNatClampNeg 0) (vp_nar .byte ((((i0 : Int32).toUInt32 >>> ((24 : Int32).toUInt32 &&& Int32.toUInt32 31)).toInt32).toInt8.toInt32)))))]) rfl ?_
  refine ax_iload (pc := 103) C d_MM_feed_103 0 rfl ?_
  refine ax_bipush (pc := 105) C 24 d_MM_feed_105 (by decide +kernel) ?_
  refine ax_bipush (pc := 107) C 8 d_MM_feed_107 (by decide +kernel) ?_
  refine ax_iload (pc := 109) C d_MM_feed_109 1 rfl ?_
  refine ax_iconst (pc := 111) C 4 d_MM_feed_111 (by decide +kernel) ?_
  refine ax_irem (pc := 112) C d_MM_feed_112 (by decide) ?_
  refine ax_nrm 1 (by decide) ?_
  refine ax_imul (pc := 113) C d_MM_feed_113 ?_
  refine ax_nrm 8 (by decide) ?_
  refine ax_isub (pc := 114) C d_MM_feed_114 ?_
  refine ax_nrm 16 (by decide) ?_
  refine ax_iushr (pc := 115) C (((i0 : Int32).toUInt32 >>> ((16 : Int32).toUInt32 &&& Int32.toUInt32 31)).toInt32) d_MM_feed_115 rfl ?_
  refine ax_i2b (pc := 116) C ((((i0 : Int32).toUInt32 >>> ((16 : Int32).toUInt32 &&& Int32.toUInt32 31)).toInt32).toInt8.toInt32) d_MM_feed_116 rfl ?_
  refine ax_bast (pc := 117) C 1 rfl d_MM_feed_117 (by unfold vp_in; decide) ?_
  refine ax_w ([(a0, .inr (12, [.ref a1, .ref b0, .int 2, .int 0, .int 0, .int 0, .int 0, .int 0, .int 0, .int 0, .int 0, .int 0, .int 0, .ref b1, .ref b2, .ref b3, .ref b4, .ref b5, .int 0, .int 1, .int 0, .ref b6, .ref b7, .ref b8, .ref b9, .int 0, .ref b10, .ref b11, .int 0, .int 0, .ref b12, .ref b13, .ref b14, .ref b15, .ref b16, .ref b17, .ref b18, .int 0, .int 0, .int 0, .int 0, .ref b19, .ref b20, .ref b21, .ref b22, .ref b23, .ref b24, .int 0, .ref b25, .ref b26, .ref b27, .ref b28, .ref b29, .ref b30, .ref b31, .int 0, .int 0, .ref b32, .ref b33, .ref b34, .ref b35, .ref b36, .int 0, .ref b37, .ref b38, .int 0, .ref b39, .ref b40, .ref b41, .ref b42, .ref b43, .ref b44, .int 0, .ref b45, .ref b46, .ref b47, .ref b48, .ref b49, .ref b50, .ref b51, .ref b52, .ref b53, .ref b54, .ref b55, .int 0, .int 0, .int 0, .int 0, .int (-1), .int 0, .int 0, .int 0, .int 0, .int 0, .int 0, .ref b56, .ref b57, .ref b58, .int 0, .ref b59, .ref b60, .int 0, .ref b61, .ref b62, .ref b63, .int 0, .ref b64, .ref b65, .ref b66, .ref b67, .ref b68, .ref b69, .int 0, .int (-1), .int 0, .ref b70, .int (-1), .int (-1), .int (-1), .ref b71, .int 0, .ref b72, .int 0, .ref b73, .int 0, .int 0, .ref b74])), (a1, .inl (kA 2, 65536, .inl (upd (upd (fun _ => 0) (Int32.toNatClampNeg 0) (vp_nar .byte ((((i0 : Int32).toUInt32 >>> ((24 : Int32).toUInt32 &&& Int32.toUInt32 31)).toInt32).toInt8.toInt32))) (Int32.toNatClampNeg 1) (vp_nar .byte ((((i0 : Int32).toUInt32 >>> ((16 : Int32).toUInt32 &&& Int32.toUInt32 31)).toInt32).toInt8.toInt32)))))]) rfl ?_
  refine ax_iinc (pc := 118) C (2) d_MM_feed_118 1 rfl (by decide) (Nat.le_of_ble_eq_true rfl) ([(6, .int 2), (7, .int i0), (0, .ref a0), (1, .int i0), (2, .int i1), (3, .int i2), (4, .int i3), (5, .int i4)]) rfl ?_
  refine ax_goto (pc := 121) C 33 d_MM_feed_121 (by decide) ?_
  refine ax_iload (pc := 33) C d_MM_feed_33 0 rfl ?_
  refine ax_bipush (pc := 35) C 20 d_MM_feed_35 (by decide +kernel) ?_
  refine ax_icmp_ge (pc := 37) C 124 d_MM_feed_37 (by decide) (fun h => absurd h (by decide)) (fun _ => ?_)
  refine ax_iload (pc := 40) C d_MM_feed_40 0 rfl ?_
  refine ax_iconst (pc := 42) C 4 d_MM_feed_42 (by decide +kernel) ?_
  refine ax_icmp_ge (pc := 43) C 50 d_MM_feed_43 (by decide) (fun h => absurd h (by decide)) (fun _ => ?_)
  refine ax_iload_n (pc := 46) C d_MM_feed_46 rfl 3 rfl ?_
  refine ax_goto (pc := 47) C 86 d_MM_feed_47 (by decide) ?_
  refine ax_istore (pc := 86) C d_MM_feed_86 (Nat.le_of_ble_eq_true rfl) ([(7, .int i0), (6, .int 2), (0, .ref a0), (1, .int i0), (2, .int i1), (3, .int i2), (4, .int i3), (5, .int i4)]) rfl ?_
  refine ax_aload_n (pc := 88) C d_MM_feed_88 rfl 2 rfl ?_
  refine ax_get (pc := 89) C k_MM 0 lk_MM_8 d_MM_feed_89 (Nat.le_of_ble_eq_true rfl) 0 rfl rfl ?_
  refine ax_aload_n (pc := 92) C d_MM_feed_92 rfl 2 rfl ?_
  refine ax_dup (pc := 93) C d_MM_feed_93 rfl ?_
  refine ax_get (pc := 94) C k_MM 2 lk_MM_17 d_MM_feed_94 (Nat.le_of_ble_eq_true rfl) 0 rfl rfl ?_
  refine ax_dup_x1 (pc := 97) C d_MM_feed_97 rfl rfl ?_
  refine ax_iconst (pc := 98) C 1 d_MM_feed_98 (by decide +kernel) ?_
  refine ax_iadd (pc := 99) C d_MM_feed_99 ?_
  refine ax_nrm 3 (by decide) ?_
  refine ax_put (pc := 100) C k_MM 2 lk_MM_17 d_MM_feed_100 (Nat.le_of_ble_eq_true rfl) 0 rfl rfl rfl rfl (Nat.le_of_ble_eq_true rfl) ?_
  refine ax_w ([(a0, .inr (12, [.ref a1, .ref b0, .int 3, .int 0, .int 0, .int 0, .int 0, .int 0, .int 0, .int 0, .int 0, .int 0, .int 0, .ref b1, .ref b2, .ref b3, .ref b4, .ref b5, .int 0, .int 1, .int 0, .ref b6, .ref b7, .ref b8, .ref b9, .int 0, .ref b10, .ref b11, .int 0, .int 0, .ref b12, .ref b13, .ref b14, .ref b15, .ref b16, .ref b17, .ref b18, .int 0, .int 0, .int 0, .int 0, .ref b19, .ref b20, .ref b21, .ref b22, .ref b23, .ref b24, .int 0, .ref b25, .ref b26, .ref b27, .ref b28, .ref b29, .ref b30, .ref b31, .int 0, .int 0, .ref b32, .ref b33, .ref b34, .ref b35, .ref b36, .int 0, .ref b37, .ref b38, .int 0, .ref b39, .ref b40, .ref b41, .ref b42, .ref b43, .ref b44, .int 0, .ref b45, .ref b46, .ref b47, .ref b48, .ref b49, .ref b50, .ref b51, .ref b52, .ref b53, .ref b54, .ref b55, .int 0, .int 0, .int 0, .int 0, .int (-1), .int 0, .int 0, .int 0, .int 0, .int 0, .int 0, .ref b56, .ref b57, .ref b58, .int 0, .ref b59, .ref b60, .int 0, .ref b61, .ref b62, .ref b63, .int 0, .ref b64, .ref b65, .ref b66, .ref b67, .ref b68, .ref b69, .int 0, .int (-1), .int 0, .ref b70, .int (-1), .int (-1), .int (-1), .ref b71, .int 0, .ref b72, .int 0, .ref b73, .int 0, .int 0, .ref b74])), (a1, .inl (kA 2, 65536, .inl (upd (upd (fun _ => 0) (Int32.toNatClampNeg 0) (vp_nar .byte ((((i0 : Int32).toUInt32 >>> ((24 : Int32).toUInt32 &&& Int32.toUInt32 31)).toInt32).toInt8.toInt32))) (Int32.toNatClampNeg 1) (vp_nar .byte ((((i0 : Int32).toUInt32 >>> ((16 : Int32).toUInt32 &&& Int32.toUInt32 31)).toInt32).toInt8.toInt32)))))]) rfl ?_
  refine ax_iload (pc := 103) C d_MM_feed_103 0 rfl ?_
  refine ax_bipush (pc := 105) C 24 d_MM_feed_105 (by decide +kernel) ?_
  refine ax_bipush (pc := 107) C 8 d_MM_feed_107 (by decide +kernel) ?_
  refine ax_iload (pc := 109) C d_MM_feed_109 1 rfl ?_
  refine ax_iconst (pc := 111) C 4 d_MM_feed_111 (by decide +kernel) ?_
  refine ax_irem (pc := 112) C d_MM_feed_112 (by decide) ?_
  refine ax_nrm 2 (by decide) ?_
  refine ax_imul (pc := 113) C d_MM_feed_113 ?_
  refine ax_nrm 16 (by decide) ?_
  refine ax_isub (pc := 114) C d_MM_feed_114 ?_
  refine ax_nrm 8 (by decide) ?_
  refine ax_iushr (pc := 115) C (((i0 : Int32).toUInt32 >>> ((8 : Int32).toUInt32 &&& Int32.toUInt32 31)).toInt32) d_MM_feed_115 rfl ?_
  refine ax_i2b (pc := 116) C ((((i0 : Int32).toUInt32 >>> ((8 : Int32).toUInt32 &&& Int32.toUInt32 31)).toInt32).toInt8.toInt32) d_MM_feed_116 rfl ?_
  refine ax_bast (pc := 117) C 1 rfl d_MM_feed_117 (by unfold vp_in; decide) ?_
  refine ax_w ([(a0, .inr (12, [.ref a1, .ref b0, .int 3, .int 0, .int 0, .int 0, .int 0, .int 0, .int 0, .int 0, .int 0, .int 0, .int 0, .ref b1, .ref b2, .ref b3, .ref b4, .ref b5, .int 0, .int 1, .int 0, .ref b6, .ref b7, .ref b8, .ref b9, .int 0, .ref b10, .ref b11, .int 0, .int 0, .ref b12, .ref b13, .ref b14, .ref b15, .ref b16, .ref b17, .ref b18, .int 0, .int 0, .int 0, .int 0, .ref b19, .ref b20, .ref b21, .ref b22, .ref b23, .ref b24, .int 0, .ref b25, .ref b26, .ref b27, .ref b28, .ref b29, .ref b30, .ref b31, .int 0, .int 0, .ref b32, .ref b33, .ref b34, .ref b35, .ref b36, .int 0, .ref b37, .ref b38, .int 0, .ref b39, .ref b40, .ref b41, .ref b42, .ref b43, .ref b44, .int 0, .ref b45, .ref b46, .ref b47, .ref b48, .ref b49, .ref b50, .ref b51, .ref b52, .ref b53, .ref b54, .ref b55, .int 0, .int 0, .int 0, .int 0, .int (-1), .int 0, .int 0, .int 0, .int 0, .int 0, .int 0, .ref b56, .ref b57, .ref b58, .int 0, .ref b59, .ref b60, .int 0, .ref b61, .ref b62, .ref b63, .int 0, .ref b64, .ref b65, .ref b66, .ref b67, .ref b68, .ref b69, .int 0, .int (-1), .int 0, .ref b70, .int (-1), .int (-1), .int (-1), .ref b71, .int 0, .ref b72, .int 0, .ref b73, .int 0, .int 0, .ref b74])), (a1, .inl (kA 2, 65536, .inl (upd (upd (upd (fun _ => 0) (Int32.toNatClampNeg 0) (vp_nar .byte ((((i0 : Int32).toUInt32 >>> ((24 : Int32).toUInt32 &&& Int32.toUInt32 31)).toInt32).toInt8.toInt32))) (Int32.toNatClampNeg 1) (vp_nar .byte ((((i0 : Int32).toUInt32 >>> ((16 : Int32).toUInt32 &&& Int32.toUInt32 31)).toInt32).toInt8.toInt32))) (Int32.toNatClampNeg 2) (vp_nar .byte ((((i0 : Int32).toUInt32 >>> ((8 : Int32).toUInt32 &&& Int32.toUInt32 31)).toInt32).toInt8.toInt32)))))]) rfl ?_
  refine ax_iinc (pc := 118) C (3) d_MM_feed_118 1 rfl (by decide) (Nat.le_of_ble_eq_true rfl) ([(6, .int 3), (7, .int i0), (0, .ref a0), (1, .int i0), (2, .int i1), (3, .int i2), (4, .int i3), (5, .int i4)]) rfl ?_
  refine ax_goto (pc := 121) C 33 d_MM_feed_121 (by decide) ?_
  refine ax_iload (pc := 33) C d_MM_feed_33 0 rfl ?_
  refine ax_bipush (pc := 35) C 20 d_MM_feed_35 (by decide +kernel) ?_
  refine ax_icmp_ge (pc := 37) C 124 d_MM_feed_37 (by decide) (fun h => absurd h (by decide)) (fun _ => ?_)
  refine ax_iload (pc := 40) C d_MM_feed_40 0 rfl ?_
  refine ax_iconst (pc := 42) C 4 d_MM_feed_42 (by decide +kernel) ?_
  refine ax_icmp_ge (pc := 43) C 50 d_MM_feed_43 (by decide) (fun h => absurd h (by decide)) (fun _ => ?_)
  refine ax_iload_n (pc := 46) C d_MM_feed_46 rfl 3 rfl ?_
  refine ax_goto (pc := 47) C 86 d_MM_feed_47 (by decide) ?_
  refine ax_istore (pc := 86) C d_MM_feed_86 (Nat.le_of_ble_eq_true rfl) ([(7, .int i0), (6, .int 3), (0, .ref a0), (1, .int i0), (2, .int i1), (3, .int i2), (4, .int i3), (5, .int i4)]) rfl ?_
  refine ax_aload_n (pc := 88) C d_MM_feed_88 rfl 2 rfl ?_
  refine ax_get (pc := 89) C k_MM 0 lk_MM_8 d_MM_feed_89 (Nat.le_of_ble_eq_true rfl) 0 rfl rfl ?_
  refine ax_aload_n (pc := 92) C d_MM_feed_92 rfl 2 rfl ?_
  refine ax_dup (pc := 93) C d_MM_feed_93 rfl ?_
  refine ax_get (pc := 94) C k_MM 2 lk_MM_17 d_MM_feed_94 (Nat.le_of_ble_eq_true rfl) 0 rfl rfl ?_
  refine ax_dup_x1 (pc := 97) C d_MM_feed_97 rfl rfl ?_
  refine ax_iconst (pc := 98) C 1 d_MM_feed_98 (by decide +kernel) ?_
  refine ax_iadd (pc := 99) C d_MM_feed_99 ?_
  refine ax_nrm 4 (by decide) ?_
  refine ax_put (pc := 100) C k_MM 2 lk_MM_17 d_MM_feed_100 (Nat.le_of_ble_eq_true rfl) 0 rfl rfl rfl rfl (Nat.le_of_ble_eq_true rfl) ?_
  refine ax_w ([(a0, .inr (12, [.ref a1, .ref b0, .int 4, .int 0, .int 0, .int 0, .int 0, .int 0, .int 0, .int 0, .int 0, .int 0, .int 0, .ref b1, .ref b2, .ref b3, .ref b4, .ref b5, .int 0, .int 1, .int 0, .ref b6, .ref b7, .ref b8, .ref b9, .int 0, .ref b10, .ref b11, .int 0, .int 0, .ref b12, .ref b13, .ref b14, .ref b15, .ref b16, .ref b17, .ref b18, .int 0, .int 0, .int 0, .int 0, .ref b19, .ref b20, .ref b21, .ref b22, .ref b23, .ref b24, .int 0, .ref b25, .ref b26, .ref b27, .ref b28, .ref b29, .ref b30, .ref b31, .int 0, .int 0, .ref b32, .ref b33, .ref b34, .ref b35, .ref b36, .int 0, .ref b37, .ref b38, .int 0, .ref b39, .ref b40, .ref b41, .ref b42, .ref b43, .ref b44, .int 0, .ref b45, .ref b46, .ref b47, .ref b48, .ref b49, .ref b50, .ref b51, .ref b52, .ref b53, .ref b54, .ref b55, .int 0, .int 0, .int 0, .int 0, .int (-1), .int 0, .int 0, .int 0, .int 0, .int 0, .int 0, .ref b56, .ref b57, .ref b58, .int 0, .ref b59, .ref b60, .int 0, .ref b61, .ref b62, .ref b63, .int 0, .ref b64, .ref b65, .ref b66, .ref b67, .ref b68, .ref b69, .int 0, .int (-1), .int 0, .ref b70, .int (-1), .int (-1), .int (-1), .ref b71, .int 0, .ref b72, .int 0, .ref b73, .int 0, .int 0, .ref b74])), (a1, .inl (kA 2, 65536, .inl (upd (upd (upd (fun _ => 0) (Int32.toNatClampNeg 0) (vp_nar .byte ((((i0 : Int32).toUInt32 >>> ((24 : Int32).toUInt32 &&& Int32.toUInt32 31)).toInt32).toInt8.toInt32))) (Int32.toNatClampNeg 1) (vp_nar .byte ((((i0 : Int32).toUInt32 >>> ((16 : Int32).toUInt32 &&& Int32.toUInt32 31)).toInt32).toInt8.toInt32))) (Int32.toNatClampNeg 2) (vp_nar .byte ((((i0 : Int32).toUInt32 >>> ((8 : Int32).toUInt32 &&& Int32.toUInt32 31)).toInt32).toInt8.toInt32)))))]) rfl ?_
  refine ax_iload (pc := 103) C d_MM_feed_103 0 rfl ?_
  refine ax_bipush (pc := 105) C 24 d_MM_feed_105 (by decide +kernel) ?_
  refine ax_bipush (pc := 107) C 8 d_MM_feed_107 (by decide +kernel) ?_
  refine ax_iload (pc := 109) C d_MM_feed_109 1 rfl ?_
  refine ax_iconst (pc := 111) C 4 d_MM_feed_111 (by decide +kernel) ?_
  refine ax_irem (pc := 112) C d_MM_feed_112 (by decide) ?_
  refine ax_nrm 3 (by decide) ?_
  refine ax_imul (pc := 113) C d_MM_feed_113 ?_
  refine ax_nrm 24 (by decide) ?_
  refine ax_isub (pc := 114) C d_MM_feed_114 ?_
  refine ax_nrm 0 (by decide) ?_
  refine ax_iushr (pc := 115) C (((i0 : Int32).toUInt32 >>> ((0 : Int32).toUInt32 &&& Int32.toUInt32 31)).toInt32) d_MM_feed_115 rfl ?_
  refine ax_i2b (pc := 116) C ((((i0 : Int32).toUInt32 >>> ((0 : Int32).toUInt32 &&& Int32.toUInt32 31)).toInt32).toInt8.toInt32) d_MM_feed_116 rfl ?_
  refine ax_bast (pc := 117) C 1 rfl d_MM_feed_117 (by unfold vp_in; decide) ?_
  refine ax_w ([(a0, .inr (12, [.ref a1, .ref b0, .int 4, .int 0, .int 0, .int 0, .int 0, .int 0, .int 0, .int 0, .int 0, .int 0, .int 0, .ref b1, .ref b2, .ref b3, .ref b4, .ref b5, .int 0, .int 1, .int 0, .ref b6, .ref b7, .ref b8, .ref b9, .int 0, .ref b10, .ref b11, .int 0, .int 0, .ref b12, .ref b13, .ref b14, .ref b15, .ref b16, .ref b17, .ref b18, .int 0, .int 0, .int 0, .int 0, .ref b19, .ref b20, .ref b21, .ref b22, .ref b23, .ref b24, .int 0, .ref b25, .ref b26, .ref b27, .ref b28, .ref b29, .ref b30, .ref b31, .int 0, .int 0, .ref b32, .ref b33, .ref b34, .ref b35, .ref b36, .int 0, .ref b37, .ref b38, .int 0, .ref b39, .ref b40, .ref b41, .ref b42, .ref b43, .ref b44, .int 0, .ref b45, .ref b46, .ref b47, .ref b48, .ref b49, .ref b50, .ref b51, .ref b52, .ref b53, .ref b54, .ref b55, .int 0, .int 0, .int 0, .int 0, .int (-1), .int 0, .int 0, .int 0, .int 0, .int 0, .int 0, .ref b56, .ref b57, .ref b58, .int 0, .ref b59, .ref b60, .int 0, .ref b61, .ref b62, .ref b63, .int 0, .ref b64, .ref b65, .ref b66, .ref b67, .ref b68, .ref b69, .int 0, .int (-1), .int 0, .ref b70, .int (-1), .int (-1), .int (-1), .ref b71, .int 0, .ref b72, .int 0, .ref b73, .int 0, .int 0, .ref b74])), (a1, .inl (kA 2, 65536, .inl (upd (upd (upd (upd (fun _ => 0) (Int32.toNatClampNeg 0) (vp_nar .byte ((((i0 : Int32).toUInt32 >>> ((24 : Int32).toUInt32 &&& Int32.toUInt32 31)).toInt32).toInt8.toInt32))) (Int32.toNatClampNeg 1) (vp_nar .byte ((((i0 : Int32).toUInt32 >>> ((16 : Int32).toUInt32 &&& Int32.toUInt32 31)).toInt32).toInt8.toInt32))) (Int32.toNatClampNeg 2) (vp_nar .byte ((((i0 : Int32).toUInt32 >>> ((8 : Int32).toUInt32 &&& Int32.toUInt32 31)).toInt32).toInt8.toInt32))) (Int32.toNatClampNeg 3) (vp_nar .byte ((((i0 : Int32).toUInt32 >>> ((0 : Int32).toUInt32 &&& Int32.toUInt32 31)).toInt32).toInt8.toInt32)))))]) rfl ?_
  refine ax_iinc (pc := 118) C (4) d_MM_feed_118 1 rfl (by decide) (Nat.le_of_ble_eq_true rfl) ([(6, .int 4), (7, .int i0), (0, .ref a0), (1, .int i0), (2, .int i1), (3, .int i2), (4, .int i3), (5, .int i4)]) rfl ?_
  refine ax_goto (pc := 121) C 33 d_MM_feed_121 (by decide) ?_
  refine ax_iload (pc := 33) C d_MM_feed_33 0 rfl ?_
  refine ax_bipush (pc := 35) C 20 d_MM_feed_35 (by decide +kernel) ?_
  refine ax_icmp_ge (pc := 37) C 124 d_MM_feed_37 (by decide) (fun h => absurd h (by decide)) (fun _ => ?_)
  refine ax_iload (pc := 40) C d_MM_feed_40 0 rfl ?_
  refine ax_iconst (pc := 42) C 4 d_MM_feed_42 (by decide +kernel) ?_
  refine ax_icmp_ge (pc := 43) C 50 d_MM_feed_43 (by decide) (fun _ => ?_) (fun h => absurd h (by decide))
  refine ax_iload (pc := 50) C d_MM_feed_50 0 rfl ?_
  refine ax_bipush (pc := 52) C 8 d_MM_feed_52 (by decide +kernel) ?_
  refine ax_icmp_ge (pc := 54) C 61 d_MM_feed_54 (by decide) (fun h => absurd h (by decide)) (fun _ => ?_)
  refine ax_iload_n (pc := 57) C d_MM_feed_57 rfl 4 rfl ?_
  refine ax_goto (pc := 58) C 86 d_MM_feed_58 (by decide) ?_
  refine ax_istore (pc := 86) C d_MM_feed_86 (Nat.le_of_ble_eq_true rfl) ([(7, .int i1), (6, .int 4), (0, .ref a0), (1, .int i0), (2, .int i1), (3, .int i2), (4, .int i3), (5, .int i4)]) rfl ?_
  refine ax_aload_n (pc := 88) C d_MM_feed_88 rfl 2 rfl ?_
  refine ax_get (pc := 89) C k_MM 0 lk_MM_8 d_MM_feed_89 (Nat.le_of_ble_eq_true rfl) 0 rfl rfl ?_
  refine ax_aload_n (pc := 92) C d_MM_feed_92 rfl 2 rfl ?_
  refine ax_dup (pc := 93) C d_MM_feed_93 rfl ?_
  refine ax_get (pc := 94) C k_MM 2 lk_MM_17 d_MM_feed_94 (Nat.le_of_ble_eq_true rfl) 0 rfl rfl ?_
  refine ax_dup_x1 (pc := 97) C d_MM_feed_97 rfl rfl ?_
  refine ax_iconst (pc := 98) C 1 d_MM_feed_98 (by decide +kernel) ?_
  refine ax_iadd (pc := 99) C d_MM_feed_99 ?_
  refine ax_nrm 5 (by decide) ?_
  refine ax_put (pc := 100) C k_MM 2 lk_MM_17 d_MM_feed_100 (Nat.le_of_ble_eq_true rfl) 0 rfl rfl rfl rfl (Nat.le_of_ble_eq_true rfl) ?_
  refine ax_w ([(a0, .inr (12, [.ref a1, .ref b0, .int 5, .int 0, .int 0, .int 0, .int 0, .int 0, .int 0, .int 0, .int 0, .int 0, .int 0, .ref b1, .ref b2, .ref b3, .ref b4, .ref b5, .int 0, .int 1, .int 0, .ref b6, .ref b7, .ref b8, .ref b9, .int 0, .ref b10, .ref b11, .int 0, .int 0, .ref b12, .ref b13, .ref b14, .ref b15, .ref b16, .ref b17, .ref b18, .int 0, .int 0, .int 0, .int 0, .ref b19, .ref b20, .ref b21, .ref b22, .ref b23, .ref b24, .int 0, .ref b25, .ref b26, .ref b27, .ref b28, .ref b29, .ref b30, .ref b31, .int 0, .int 0, .ref b32, .ref b33, .ref b34, .ref b35, .ref b36, .int 0, .ref b37, .ref b38, .int 0, .ref b39, .ref b40, .ref b41, .ref b42, .ref b43, .ref b44, .int 0, .ref b45, .ref b46, .ref b47, .ref b48, .ref b49, .ref b50, .ref b51, .ref b52, .ref b53, .ref b54, .ref b55, .int 0, .int 0, .int 0, .int 0, .int (-1), .int 0, .int 0, .int 0, .int 0, .int 0, .int 0, .ref b56, .ref b57, .ref b58, .int 0, .ref b59, .ref b60, .int 0, .ref b61, .ref b62, .ref b63, .int 0, .ref b64, .ref b65, .ref b66, .ref b67, .ref b68, .ref b69, .int 0, .int (-1), .int 0, .ref b70, .int (-1), .int (-1), .int (-1), .ref b71, .int 0, .ref b72, .int 0, .ref b73, .int 0, .int 0, .ref b74])), (a1, .inl (kA 2, 65536, .inl (upd (upd (upd (upd (fun _ => 0) (Int32.toNatClampNeg 0) (vp_nar .byte ((((i0 : Int32).toUInt32 >>> ((24 : Int32).toUInt32 &&& Int32.toUInt32 31)).toInt32).toInt8.toInt32))) (Int32.toNatClampNeg 1) (vp_nar .byte ((((i0 : Int32).toUInt32 >>> ((16 : Int32).toUInt32 &&& Int32.toUInt32 31)).toInt32).toInt8.toInt32))) (Int32.toNatClampNeg 2) (vp_nar .byte ((((i0 : Int32).toUInt32 >>> ((8 : Int32).toUInt32 &&& Int32.toUInt32 31)).toInt32).toInt8.toInt32))) (Int32.toNatClampNeg 3) (vp_nar .byte ((((i0 : Int32).toUInt32 >>> ((0 : Int32).toUInt32 &&& Int32.toUInt32 31)).toInt32).toInt8.toInt32)))))]) rfl ?_
  refine ax_iload (pc := 103) C d_MM_feed_103 0 rfl ?_
  refine ax_bipush (pc := 105) C 24 d_MM_feed_105 (by decide +kernel) ?_
  refine ax_bipush (pc := 107) C 8 d_MM_feed_107 (by decide +kernel) ?_
  refine ax_iload (pc := 109) C d_MM_feed_109 1 rfl ?_
  refine ax_iconst (pc := 111) C 4 d_MM_feed_111 (by decide +kernel) ?_
  refine ax_irem (pc := 112) C d_MM_feed_112 (by decide) ?_
  refine ax_nrm 0 (by decide) ?_
  refine ax_imul (pc := 113) C d_MM_feed_113 ?_
  refine ax_nrm 0 (by decide) ?_
  refine ax_isub (pc := 114) C d_MM_feed_114 ?_
  refine ax_nrm 24 (by decide) ?_
  refine ax_iushr (pc := 115) C (((i1 : Int32).toUInt32 >>> ((24 : Int32).toUInt32 &&& Int32.toUInt32 31)).toInt32) d_MM_feed_115 rfl ?_
  refine ax_i2b (pc := 116) C ((((i1 : Int32).toUInt32 >>> ((24 : Int32).toUInt32 &&& Int32.toUInt32 31)).toInt32).toInt8.toInt32) d_MM_feed_116 rfl ?_
  refine ax_bast (pc := 117) C 1 rfl d_MM_feed_117 (by unfold vp_in; decide) ?_
  refine ax_w ([(a0, .inr (12, [.ref a1, .ref b0, .int 5, .int 0, .int 0, .int 0, .int 0, .int 0, .int 0, .int 0, .int 0, .int 0, .int 0, .ref b1, .ref b2, .ref b3, .ref b4, .ref b5, .int 0, .int 1, .int 0, .ref b6, .ref b7, .ref b8, .ref b9, .int 0, .ref b10, .ref b11, .int 0, .int 0, .ref b12, .ref b13, .ref b14, .ref b15, .ref b16, .ref b17, .ref b18, .int 0, .int 0, .int 0, .int 0, .ref b19, .ref b20, .ref b21, .ref b22, .ref b23, .ref b24, .int 0, .ref b25, .ref b26, .ref b27, .ref b28, .ref b29, .ref b30, .ref b31, .int 0, .int 0, .ref b32, .ref b33, .ref b34, .ref b35, .ref b36, .int 0, .ref b37, .ref b38, .int 0, .ref b39, .ref b40, .ref b41, .ref b42, .ref b43, .ref b44, .int 0, .ref b45, .ref b46, .ref b47, .ref b48, .ref b49, .ref b50, .ref b51, .ref b52, .ref b53, .ref b54, .ref b55, .int 0, .int 0, .int 0, .int 0, .int (-1), .int 0, .int 0, .int 0, .int 0, .int 0, .int 0, .ref b56, .ref b57, .ref b58, .int 0, .ref b59, .ref b60, .int 0, .ref b61, .ref b62, .ref b63, .int 0, .ref b64, .ref b65, .ref b66, .ref b67, .ref b68, .ref b69, .int 0, .int (-1), .int 0, .ref b70, .int (-1), .int (-1), .int (-1), .ref b71, .int 0, .ref b72, .int 0, .ref b73, .int 0, .int 0, .ref b74])), (a1, .inl (kA 2, 65536, .inl (upd (upd (upd (upd (upd (fun _ => 0) (Int32.toNatClampNeg 0) (vp_nar .byte ((((i0 : Int32).toUInt32 >>> ((24 : Int32).toUInt32 &&& Int32.toUInt32 31)).toInt32).toInt8.toInt32))) (Int32.toNatClampNeg 1) (vp_nar .byte ((((i0 : Int32).toUInt32 >>> ((16 : Int32).toUInt32 &&& Int32.toUInt32 31)).toInt32).toInt8.toInt32))) (Int32.toNatClampNeg 2) (vp_nar .byte ((((i0 : Int32).toUInt32 >>> ((8 : Int32).toUInt32 &&& Int32.toUInt32 31)).toInt32).toInt8.toInt32))) (Int32.toNatClampNeg 3) (vp_nar .byte ((((i0 : Int32).toUInt32 >>> ((0 : Int32).toUInt32 &&& Int32.toUInt32 31)).toInt32).toInt8.toInt32))) (Int32.toNatClampNeg 4) (vp_nar .byte ((((i1 : Int32).toUInt32 >>> ((24 : Int32).toUInt32 &&& Int32.toUInt32 31)).toInt32).toInt8.toInt32)))))]) rfl ?_
  refine ax_iinc (pc := 118) C (5) d_MM_feed_118 1 rfl (by decide) (Nat.le_of_ble_eq_true rfl) ([(6, .int 5), (7, .int i1), (0, .ref a0), (1, .int i0), (2, .int i1), (3, .int i2), (4, .int i3), (5, .int i4)]) rfl ?_
  refine ax_goto (pc := 121) C 33 d_MM_feed_121 (by decide) ?_
  refine ax_iload (pc := 33) C d_MM_feed_33 0 rfl ?_
  refine ax_bipush (pc := 35) C 20 d_MM_feed_35 (by decide +kernel) ?_
  refine ax_icmp_ge (pc := 37) C 124 d_MM_feed_37 (by decide) (fun h => absurd h (by decide)) (fun _ => ?_)
  refine ax_iload (pc := 40) C d_MM_feed_40 0 rfl ?_
  refine ax_iconst (pc := 42) C 4 d_MM_feed_42 (by decide +kernel) ?_
  refine ax_icmp_ge (pc := 43) C 50 d_MM_feed_43 (by decide) (fun _ => ?_) (fun h => absurd h (by decide))
  refine ax_iload (pc := 50) C d_MM_feed_50 0 rfl ?_
  refine ax_bipush (pc := 52) C 8 d_MM_feed_52 (by decide +kernel) ?_
  refine ax_icmp_ge (pc := 54) C 61 d_MM_feed_54 (by decide) (fun h => absurd h (by decide)) (fun _ => ?_)
  refine ax_iload_n (pc := 57) C d_MM_feed_57 rfl 4 rfl ?_
  refine ax_goto (pc := 58) C 86 d_MM_feed_58 (by decide) ?_
  refine ax_istore (pc := 86) C d_MM_feed_86 (Nat.le_of_ble_eq_true rfl) ([(7, .int i1), (6, .int 5), (0, .ref a0), (1, .int i0), (2, .int i1), (3, .int i2), (4, .int i3), (5, .int i4)]) rfl ?_
  refine ax_aload_n (pc := 88) C d_MM_feed_88 rfl 2 rfl ?_
  refine ax_get (pc := 89) C k_MM 0 lk_MM_8 d_MM_feed_89 (Nat.le_of_ble_eq_true rfl) 0 rfl rfl ?_
  refine ax_aload_n (pc := 92) C d_MM_feed_92 rfl 2 rfl ?_
  refine ax_dup (pc := 93) C d_MM_feed_93 rfl ?_
  refine ax_get (pc := 94) C k_MM 2 lk_MM_17 d_MM_feed_94 (Nat.le_of_ble_eq_true rfl) 0 rfl rfl ?_
  refine ax_dup_x1 (pc := 97) C d_MM_feed_97 rfl rfl ?_
  refine ax_iconst (pc := 98) C 1 d_MM_feed_98 (by decide +kernel) ?_
  refine ax_iadd (pc := 99) C d_MM_feed_99 ?_
  refine ax_nrm 6 (by decide) ?_
  refine ax_put (pc := 100) C k_MM 2 lk_MM_17 d_MM_feed_100 (Nat.le_of_ble_eq_true rfl) 0 rfl rfl rfl rfl (Nat.le_of_ble_eq_true rfl) ?_
  refine ax_w ([(a0, .inr (12, [.ref a1, .ref b0, .int 6, .int 0, .int 0, .int 0, .int 0, .int 0, .int 0, .int 0, .int 0, .int 0, .int 0, .ref b1, .ref b2, .ref b3, .ref b4, .ref b5, .int 0, .int 1, .int 0, .ref b6, .ref b7, .ref b8, .ref b9, .int 0, .ref b10, .ref b11, .int 0, .int 0, .ref b12, .ref b13, .ref b14, .ref b15, .ref b16, .ref b17, .ref b18, .int 0, .int 0, .int 0, .int 0, .ref b19, .ref b20, .ref b21, .ref b22, .ref b23, .ref b24, .int 0, .ref b25, .ref b26, .ref b27, .ref b28, .ref b29, .ref b30, .ref b31, .int 0, .int 0, .ref b32, .ref b33, .ref b34, .ref b35, .ref b36, .int 0, .ref b37, .ref b38, .int 0, .ref b39, .ref b40, .ref b41, .ref b42, .ref b43, .ref b44, .int 0, .ref b45, .ref b46, .ref b47, .ref b48, .ref b49, .ref b50, .ref b51, .ref b52, .ref b53, .ref b54, .ref b55, .int 0, .int 0, .int 0, .int 0, .int (-1), .int 0, .int 0, .int 0, .int 0, .int 0, .int 0, .ref b56, .ref b57, .ref b58, .int 0, .ref b59, .ref b60, .int 0, .ref b61, .ref b62, .ref b63, .int 0, .ref b64, .ref b65, .ref b66, .ref b67, .ref b68, .ref b69, .int 0, .int (-1), .int 0, .ref b70, .int (-1), .int (-1), .int (-1), .ref b71, .int 0, .ref b72, .int 0, .ref b73, .int 0, .int 0, .ref b74])), (a1, .inl (kA 2, 65536, .inl (upd (upd (upd (upd (upd (fun _ => 0) (Int32.toNatClampNeg 0) (vp_nar .byte ((((i0 : Int32).toUInt32 >>> ((24 : Int32).toUInt32 &&& Int32.toUInt32 31)).toInt32).toInt8.toInt32))) (Int32.toNatClampNeg 1) (vp_nar .byte ((((i0 : Int32).toUInt32 >>> ((16 : Int32).toUInt32 &&& Int32.toUInt32 31)).toInt32).toInt8.toInt32))) (Int32.toNatClampNeg 2) (vp_nar .byte ((((i0 : Int32).toUInt32 >>> ((8 : Int32).toUInt32 &&& Int32.toUInt32 31)).toInt32).toInt8.toInt32))) (Int32.toNatClampNeg 3) (vp_nar .byte ((((i0 : Int32).toUInt32 >>> ((0 : Int32).toUInt32 &&& Int32.toUInt32 31)).toInt32).toInt8.toInt32))) (Int32.toNatClampNeg 4) (vp_nar .byte ((((i1 : Int32).toUInt32 >>> ((24 : Int32).toUInt32 &&& Int32.toUInt32 31)).toInt32).toInt8.toInt32)))))]) rfl ?_
  refine ax_iload (pc := 103) C d_MM_feed_103 0 rfl ?_
  refine ax_bipush (pc := 105) C 24 d_MM_feed_105 (by decide +kernel) ?_
  refine ax_bipush (pc := 107) C 8 d_MM_feed_107 (by decide +kernel) ?_
  refine ax_iload (pc := 109) C d_MM_feed_109 1 rfl ?_
  refine ax_iconst (pc := 111) C 4 d_MM_feed_111 (by decide +kernel) ?_
  refine ax_irem (pc := 112) C d_MM_feed_112 (by decide) ?_
  refine ax_nrm 1 (by decide) ?_
  refine ax_imul (pc := 113) C d_MM_feed_113 ?_
  refine ax_nrm 8 (by decide) ?_
  refine ax_isub (pc := 114) C d_MM_feed_114 ?_
  refine ax_nrm 16 (by decide) ?_
  refine ax_iushr (pc := 115) C (((i1 : Int32).toUInt32 >>> ((16 : Int32).toUInt32 &&& Int32.toUInt32 31)).toInt32) d_MM_feed_115 rfl ?_
  refine ax_i2b (pc := 116) C ((((i1 : Int32).toUInt32 >>> ((16 : Int32).toUInt32 &&& Int32.toUInt32 31)).toInt32).toInt8.toInt32) d_MM_feed_116 rfl ?_
  refine ax_bast (pc := 117) C 1 rfl d_MM_feed_117 (by unfold vp_in; decide) ?_
  refine ax_w ([(a0, .inr (12, [.ref a1, .ref b0, .int 6, .int 0, .int 0, .int 0, .int 0, .int 0, .int 0, .int 0, .int 0, .int 0, .int 0, .ref b1, .ref b2, .ref b3, .ref b4, .ref b5, .int 0, .int 1, .int 0, .ref b6, .ref b7, .ref b8, .ref b9, .int 0, .ref b10, .ref b11, .int 0, .int 0, .ref b12, .ref b13, .ref b14, .ref b15, .ref b16, .ref b17, .ref b18, .int 0, .int 0, .int 0, .int 0, .ref b19, .ref b20, .ref b21, .ref b22, .ref b23, .ref b24, .int 0, .ref b25, .ref b26, .ref b27, .ref b28, .ref b29, .ref b30, .ref b31, .int 0, .int 0, .ref b32, .ref b33, .ref b34, .ref b35, .ref b36, .int 0, .ref b37, .ref b38, .int 0, .ref b39, .ref b40, .ref b41, .ref b42, .ref b43, .ref b44, .int 0, .ref b45, .ref b46, .ref b47, .ref b48, .ref b49, .ref b50, .ref b51, .ref b52, .ref b53, .ref b54, .ref b55, .int 0, .int 0, .int 0, .int 0, .int (-1), .int 0, .int 0, .int 0, .int 0, .int 0, .int 0, .ref b56, .ref b57, .ref b58, .int 0, .ref b59, .ref b60, .int 0, .ref b61, .ref b62, .ref b63, .int 0, .ref b64, .ref b65, .ref b66, .ref b67, .ref b68, .ref b69, .int 0, .int (-1), .int 0, .ref b70, .int (-1), .int (-1), .int (-1), .ref b71, .int 0, .ref b72, .int 0, .ref b73, .int 0, .int 0, .ref b74])), (a1, .inl (kA 2, 65536, .inl (upd (upd (upd (upd (upd (upd (fun _ => 0) (Int32.toNatClampNeg 0) (vp_nar .byte ((((i0 : Int32).toUInt32 >>> ((24 : Int32).toUInt32 &&& Int32.toUInt32 31)).toInt32).toInt8.toInt32))) (Int32.toNatClampNeg 1) (vp_nar .byte ((((i0 : Int32).toUInt32 >>> ((16 : Int32).toUInt32 &&& Int32.toUInt32 31)).toInt32).toInt8.toInt32))) (Int32.toNatClampNeg 2) (vp_nar .byte ((((i0 : Int32).toUInt32 >>> ((8 : Int32).toUInt32 &&& Int32.toUInt32 31)).toInt32).toInt8.toInt32))) (Int32.toNatClampNeg 3) (vp_nar .byte ((((i0 : Int32).toUInt32 >>> ((0 : Int32).toUInt32 &&& Int32.toUInt32 31)).toInt32).toInt8.toInt32))) (Int32.toNatClampNeg 4) (vp_nar .byte ((((i1 : Int32).toUInt32 >>> ((24 : Int32).toUInt32 &&& Int32.toUInt32 31)).toInt32).toInt8.toInt32))) (Int32.toNatClampNeg 5) (vp_nar .byte ((((i1 : Int32).toUInt32 >>> ((16 : Int32).toUInt32 &&& Int32.toUInt32 31)).toInt32).toInt8.toInt32)))))]) rfl ?_
  refine ax_iinc (pc := 118) C (6) d_MM_feed_118 1 rfl (by decide) (Nat.le_of_ble_eq_true rfl) ([(6, .int 6), (7, .int i1), (0, .ref a0), (1, .int i0), (2, .int i1), (3, .int i2), (4, .int i3), (5, .int i4)]) rfl ?_
  refine ax_goto (pc := 121) C 33 d_MM_feed_121 (by decide) ?_
  refine ax_iload (pc := 33) C d_MM_feed_33 0 rfl ?_
  refine ax_bipush (pc := 35) C 20 d_MM_feed_35 (by decide +kernel) ?_
  refine ax_icmp_ge (pc := 37) C 124 d_MM_feed_37 (by decide) (fun h => absurd h (by decide)) (fun _ => ?_)
  refine ax_iload (pc := 40) C d_MM_feed_40 0 rfl ?_
  refine ax_iconst (pc := 42) C 4 d_MM_feed_42 (by decide +kernel) ?_
  refine ax_icmp_ge (pc := 43) C 50 d_MM_feed_43 (by decide) (fun _ => ?_) (fun h => absurd h (by decide))
  refine ax_iload (pc := 50) C d_MM_feed_50 0 rfl ?_
  refine ax_bipush (pc := 52) C 8 d_MM_feed_52 (by decide +kernel) ?_
  refine ax_icmp_ge (pc := 54) C 61 d_MM_feed_54 (by decide) (fun h => absurd h (by decide)) (fun _ => ?_)
  refine ax_iload_n (pc := 57) C d_MM_feed_57 rfl 4 rfl ?_
  refine ax_goto (pc := 58) C 86 d_MM_feed_58 (by decide) ?_
  refine ax_istore (pc := 86) C d_MM_feed_86 (Nat.le_of_ble_eq_true rfl) ([(7, .int i1), (6, .int 6), (0, .ref a0), (1, .int i0), (2, .int i1), (3, .int i2), (4, .int i3), (5, .int i4)]) rfl ?_
  refine ax_aload_n (pc := 88) C d_MM_feed_88 rfl 2 rfl ?_
  refine ax_get (pc := 89) C k_MM 0 lk_MM_8 d_MM_feed_89 (Nat.le_of_ble_eq_true rfl) 0 rfl rfl ?_
  refine ax_aload_n (pc := 92) C d_MM_feed_92 rfl 2 rfl ?_
  refine ax_dup (pc := 93) C d_MM_feed_93 rfl ?_
  refine ax_get (pc := 94) C k_MM 2 lk_MM_17 d_MM_feed_94 (Nat.le_of_ble_eq_true rfl) 0 rfl rfl ?_
  refine ax_dup_x1 (pc := 97) C d_MM_feed_97 rfl rfl ?_
  refine ax_iconst (pc := 98) C 1 d_MM_feed_98 (by decide +kernel) ?_
  refine ax_iadd (pc := 99) C d_MM_feed_99 ?_
  refine ax_nrm 7 (by decide) ?_
  refine ax_put (pc := 100) C k_MM 2 lk_MM_17 d_MM_feed_100 (Nat.le_of_ble_eq_true rfl) 0 rfl rfl rfl rfl (Nat.le_of_ble_eq_true rfl) ?_
  refine ax_w ([(a0, .inr (12, [.ref a1, .ref b0, .int 7, .int 0, .int 0, .int 0, .int 0, .int 0, .int 0, .int 0, .int 0, .int 0, .int 0, .ref b1, .ref b2, .ref b3, .ref b4, .ref b5, .int 0, .int 1, .int 0, .ref b6, .ref b7, .ref b8, .ref b9, .int 0, .ref b10, .ref b11, .int 0, .int 0, .ref b12, .ref b13, .ref b14, .ref b15, .ref b16, .ref b17, .ref b18, .int 0, .int 0, .int 0, .int 0, .ref b19, .ref b20, .ref b21, .ref b22, .ref b23, .ref b24, .int 0, .ref b25, .ref b26, .ref b27, .ref b28, .ref b29, .ref b30, .ref b31, .int 0, .int 0, .ref b32, .ref b33, .ref b34, .ref b35, .ref b36, .int 0, .ref b37, .ref b38, .int 0, .ref b39, .ref b40, .ref b41, .ref b42, .ref b43, .ref b44, .int 0, .ref b45, .ref b46, .ref b47, .ref b48, .ref b49, .ref b50, .ref b51, .ref b52, .ref b53, .ref b54, .ref b55, .int 0, .int 0, .int 0, .int 0, .int (-1), .int 0, .int 0, .int 0, .int 0, .int 0, .int 0, .ref b56, .ref b57, .ref b58, .int 0, .ref b59, .ref b60, .int 0, .ref b61, .ref b62, .ref b63, .int 0, .ref b64, .ref b65, .ref b66, .ref b67, .ref b68, .ref b69, .int 0, .int (-1), .int 0, .ref b70, .int (-1), .int (-1), .int (-1), .ref b71, .int 0, .ref b72, .int 0, .ref b73, .int 0, .int 0, .ref b74])), (a1, .inl (kA 2, 65536, .inl (upd (upd (upd (upd (upd (upd (fun _ => 0) (Int32.toNatClampNeg 0) (vp_nar .byte ((((i0 : Int32).toUInt32 >>> ((24 : Int32).toUInt32 &&& Int32.toUInt32 31)).toInt32).toInt8.toInt32))) (Int32.toNatClampNeg 1) (vp_nar .byte ((((i0 : Int32).toUInt32 >>> ((16 : Int32).toUInt32 &&& Int32.toUInt32 31)).toInt32).toInt8.toInt32))) (Int32.toNatClampNeg 2) (vp_nar .byte ((((i0 : Int32).toUInt32 >>> ((8 : Int32).toUInt32 &&& Int32.toUInt32 31)).toInt32).toInt8.toInt32))) (Int32.toNatClampNeg 3) (vp_nar .byte ((((i0 : Int32).toUInt32 >>> ((0 : Int32).toUInt32 &&& Int32.toUInt32 31)).toInt32).toInt8.toInt32))) (Int32.toNatClampNeg 4) (vp_nar .byte ((((i1 : Int32).toUInt32 >>> ((24 : Int32).toUInt32 &&& Int32.toUInt32 31)).toInt32).toInt8.toInt32))) (Int32.toNatClampNeg 5) (vp_nar .byte ((((i1 : Int32).toUInt32 >>> ((16 : Int32).toUInt32 &&& Int32.toUInt32 31)).toInt32).toInt8.toInt32)))))]) rfl ?_
  refine ax_iload (pc := 103) C d_MM_feed_103 0 rfl ?_
  refine ax_bipush (pc := 105) C 24 d_MM_feed_105 (by decide +kernel) ?_
  refine ax_bipush (pc := 107) C 8 d_MM_feed_107 (by decide +kernel) ?_
  refine ax_iload (pc := 109) C d_MM_feed_109 1 rfl ?_
  refine ax_iconst (pc := 111) C 4 d_MM_feed_111 (by decide +kernel) ?_
  refine ax_irem (pc := 112) C d_MM_feed_112 (by decide) ?_
  refine ax_nrm 2 (by decide) ?_
  refine ax_imul (pc := 113) C d_MM_feed_113 ?_
  refine ax_nrm 16 (by decide) ?_
  refine ax_isub (pc := 114) C d_MM_feed_114 ?_
  refine ax_nrm 8 (by decide) ?_
  refine ax_iushr (pc := 115) C (((i1 : Int32).toUInt32 >>> ((8 : Int32).toUInt32 &&& Int32.toUInt32 31)).toInt32) d_MM_feed_115 rfl ?_
  refine ax_i2b (pc := 116) C ((((i1 : Int32).toUInt32 >>> ((8 : Int32).toUInt32 &&& Int32.toUInt32 31)).toInt32).toInt8.toInt32) d_MM_feed_116 rfl ?_
  refine ax_bast (pc := 117) C 1 rfl d_MM_feed_117 (by unfold vp_in; decide) ?_
  refine ax_w ([(a0, .inr (12, [.ref a1, .ref b0, .int 7, .int 0, .int 0, .int 0, .int 0, .int 0, .int 0, .int 0, .int 0, .int 0, .int 0, .ref b1, .ref b2, .ref b3, .ref b4, .ref b5, .int 0, .int 1, .int 0, .ref b6, .ref b7, .ref b8, .ref b9, .int 0, .ref b10, .ref b11, .int 0, .int 0, .ref b12, .ref b13, .ref b14, .ref b15, .ref b16, .ref b17, .ref b18, .int 0, .int 0, .int 0, .int 0, .ref b19, .ref b20, .ref b21, .ref b22, .ref b23, .ref b24, .int 0, .ref b25, .ref b26, .ref b27, .ref b28, .ref b29, .ref b30, .ref b31, .int 0, .int 0, .ref b32, .ref b33, .ref b34, .ref b35, .ref b36, .int 0, .ref b37, .ref b38, .int 0, .ref b39, .ref b40, .ref b41, .ref b42, .ref b43, .ref b44, .int 0, .ref b45, .ref b46, .ref b47, .ref b48, .ref b49, .ref b50, .ref b51, .ref b52, .ref b53, .ref b54, .ref b55, .int 0, .int 0, .int 0, .int 0, .int (-1), .int 0, .int 0, .int 0, .int 0, .int 0, .int 0, .ref b56, .ref b57, .ref b58, .int 0, .ref b59, .ref b60, .int 0, .ref b61, .ref b62, .ref b63, .int 0, .ref b64, .ref b65, .ref b66, .ref b67, .ref b68, .ref b69, .int 0, .int (-1), .int 0, .ref b70, .int (-1), .int (-1), .int (-1), .ref b71, .int 0, .ref b72, .int 0, .ref b73, .int 0, .int 0, .ref b74])), (a1, .inl (kA 2, 65536, .inl (upd (upd (upd (upd (upd (upd (upd (fun _ => 0) (Int32.toNatClampNeg 0) (vp_nar .byte ((((i0 : Int32).toUInt32 >>> ((24 : Int32).toUInt32 &&& Int32.toUInt32 31)).toInt32).toInt8.toInt32))) (Int32.toNatClampNeg 1) (vp_nar .byte ((((i0 : Int32).toUInt32 >>> ((16 : Int32).toUInt32 &&& Int32.toUInt32 31)).toInt32).toInt8.toInt32))) (Int32.toNatClampNeg 2) (vp_nar .byte ((((i0 : Int32).toUInt32 >>> ((8 : Int32).toUInt32 &&& Int32.toUInt32 31)).toInt32).toInt8.toInt32))) (Int32.toNatClampNeg 3) (vp_nar .byte ((((i0 : Int32).toUInt32 >>> ((0 : Int32).toUInt32 &&& Int32.toUInt32 31)).toInt32).toInt8.toInt32))) (Int32.toNatClampNeg 4) (vp_nar .byte ((((i1 : Int32).toUInt32 >>> ((24 : Int32).toUInt32 &&& Int32.toUInt32 31)).toInt32).toInt8.toInt32))) (Int32.toNatClampNeg 5) (vp_nar .byte ((((i1 : Int32).toUInt32 >>> ((16 : Int32).toUInt32 &&& Int32.toUInt32 31)).toInt32).toInt8.toInt32))) (Int32.toNatClampNeg 6) (vp_nar .byte ((((i1 : Int32).toUInt32 >>> ((8 : Int32).toUInt32 &&& Int32.toUInt32 31)).toInt32).toInt8.toInt32)))))]) rfl ?_
  refine ax_iinc (pc := 118) C (7) d_MM_feed_118 1 rfl (by decide) (Nat.le_of_ble_eq_true rfl) ([(6, .int 7), (7, .int i1), (0, .ref a0), (1, .int i0), (2, .int i1), (3, .int i2), (4, .int i3), (5, .int i4)]) rfl ?_
  refine ax_goto (pc := 121) C 33 d_MM_feed_121 (by decide) ?_
  refine ax_iload (pc := 33) C d_MM_feed_33 0 rfl ?_
  refine ax_bipush (pc := 35) C 20 d_MM_feed_35 (by decide +kernel) ?_
  refine ax_icmp_ge (pc := 37) C 124 d_MM_feed_37 (by decide) (fun h => absurd h (by decide)) (fun _ => ?_)
  refine ax_iload (pc := 40) C d_MM_feed_40 0 rfl ?_
  refine ax_iconst (pc := 42) C 4 d_MM_feed_42 (by decide +kernel) ?_
  refine ax_icmp_ge (pc := 43) C 50 d_MM_feed_43 (by decide) (fun _ => ?_) (fun h => absurd h (by decide))
  refine ax_iload (pc := 50) C d_MM_feed_50 0 rfl ?_
  refine ax_bipush (pc := 52) C 8 d_MM_feed_52 (by decide +kernel) ?_
  refine ax_icmp_ge (pc := 54) C 61 d_MM_feed_54 (by decide) (fun h => absurd h (by decide)) (fun _ => ?_)
  refine ax_iload_n (pc := 57) C d_MM_feed_57 rfl 4 rfl ?_
  refine ax_goto (pc := 58) C 86 d_MM_feed_58 (by decide) ?_
  refine ax_istore (pc := 86) C d_MM_feed_86 (Nat.le_of_ble_eq_true rfl) ([(7, .int i1), (6, .int 7), (0, .ref a0), (1, .int i0), (2, .int i1), (3, .int i2), (4, .int i3), (5, .int i4)]) rfl ?_
  refine ax_aload_n (pc := 88) C d_MM_feed_88 rfl 2 rfl ?_
  refine ax_get (pc := 89) C k_MM 0 lk_MM_8 d_MM_feed_89 (Nat.le_of_ble_eq_true rfl) 0 rfl rfl ?_
  refine ax_aload_n (pc := 92) C d_MM_feed_92 rfl 2 rfl ?_
  refine ax_dup (pc := 93) C d_MM_feed_93 rfl ?_
  refine ax_get (pc := 94) C k_MM 2 lk_MM_17 d_MM_feed_94 (Nat.le_of_ble_eq_true rfl) 0 rfl rfl ?_
  refine ax_dup_x1 (pc := 97) C d_MM_feed_97 rfl rfl ?_
  refine ax_iconst (pc := 98) C 1 d_MM_feed_98 (by decide +kernel) ?_
  refine ax_iadd (pc := 99) C d_MM_feed_99 ?_
  refine ax_nrm 8 (by decide) ?_
  refine ax_put (pc := 100) C k_MM 2 lk_MM_17 d_MM_feed_100 (Nat.le_of_ble_eq_true rfl) 0 rfl rfl rfl rfl (Nat.le_of_ble_eq_true rfl) ?_
  refine ax_w ([(a0, .inr (12, [.ref a1, .ref b0, .int 8, .int 0, .int 0, .int 0, .int 0, .int 0, .int 0, .int 0, .int 0, .int 0, .int 0, .ref b1, .ref b2, .ref b3, .ref b4, .ref b5, .int 0, .int 1, .int 0, .ref b6, .ref b7, .ref b8, .ref b9, .int 0, .ref b10, .ref b11, .int 0, .int 0, .ref b12, .ref b13, .ref b14, .ref b15, .ref b16, .ref b17, .ref b18, .int 0, .int 0, .int 0, .int 0, .ref b19, .ref b20, .ref b21, .ref b22, .ref b23, .ref b24, .int 0, .ref b25, .ref b26, .ref b27, .ref b28, .ref b29, .ref b30, .ref b31, .int 0, .int 0, .ref b32, .ref b33, .ref b34, .ref b35, .ref b36, .int 0, .ref b37, .ref b38, .int 0, .ref b39, .ref b40, .ref b41, .ref b42, .ref b43, .ref b44, .int 0, .ref b45, .ref b46, .ref b47, .ref b48, .ref b49, .ref b50, .ref b51, .ref b52, .ref b53, .ref b54, .ref b55, .int 0, .int 0, .int 0, .int 0, .int (-1), .int 0, .int 0, .int 0, .int 0, .int 0, .int 0, .ref b56, .ref b57, .ref b58, .int 0, .ref b59, .ref b60, .int 0, .ref b61, .ref b62, .ref b63, .int 0, .ref b64, .ref b65, .ref b66, .ref b67, .ref b68, .ref b69, .int 0, .int (-1), .int 0, .ref b70, .int (-1), .int (-1), .int (-1), .ref b71, .int 0, .ref b72, .int 0, .ref b73, .int 0, .int 0, .ref b74])), (a1, .inl (kA 2, 65536, .inl (upd (upd (upd (upd (upd (upd (upd (fun _ => 0) (Int32.toNatClampNeg 0) (vp_nar .byte ((((i0 : Int32).toUInt32 >>> ((24 : Int32).toUInt32 &&& Int32.toUInt32 31)).toInt32).toInt8.toInt32))) (Int32.toNatClampNeg 1) (vp_nar .byte ((((i0 : Int32).toUInt32 >>> ((16 : Int32).toUInt32 &&& Int32.toUInt32 31)).toInt32).toInt8.toInt32))) (Int32.toNatClampNeg 2) (vp_nar .byte ((((i0 : Int32).toUInt32 >>> ((8 : Int32).toUInt32 &&& Int32.toUInt32 31)).toInt32).toInt8.toInt32))) (Int32.toNatClampNeg 3) (vp_nar .byte ((((i0 : Int32).toUInt32 >>> ((0 : Int32).toUInt32 &&& Int32.toUInt32 31)).toInt32).toInt8.toInt32))) (Int32.toNatClampNeg 4) (vp_nar .byte ((((i1 : Int32).toUInt32 >>> ((24 : Int32).toUInt32 &&& Int32.toUInt32 31)).toInt32).toInt8.toInt32))) (Int32.toNatClampNeg 5) (vp_nar .byte ((((i1 : Int32).toUInt32 >>> ((16 : Int32).toUInt32 &&& Int32.toUInt32 31)).toInt32).toInt8.toInt32))) (Int32.toNatClampNeg 6) (vp_nar .byte ((((i1 : Int32).toUInt32 >>> ((8 : Int32).toUInt32 &&& Int32.toUInt32 31)).toInt32).toInt8.toInt32)))))]) rfl ?_
  refine ax_iload (pc := 103) C d_MM_feed_103 0 rfl ?_
  refine ax_bipush (pc := 105) C 24 d_MM_feed_105 (by decide +kernel) ?_
  refine ax_bipush (pc := 107) C 8 d_MM_feed_107 (by decide +kernel) ?_
  refine ax_iload (pc := 109) C d_MM_feed_109 1 rfl ?_
  refine ax_iconst (pc := 111) C 4 d_MM_feed_111 (by decide +kernel) ?_
  refine ax_irem (pc := 112) C d_MM_feed_112 (by decide) ?_
  refine ax_nrm 3 (by decide) ?_
  refine ax_imul (pc := 113) C d_MM_feed_113 ?_
  refine ax_nrm 24 (by decide) ?_
  refine ax_isub (pc := 114) C d_MM_feed_114 ?_
  refine ax_nrm 0 (by decide) ?_
  refine ax_iushr (pc := 115) C (((i1 : Int32).toUInt32 >>> ((0 : Int32).toUInt32 &&& Int32.toUInt32 31)).toInt32) d_MM_feed_115 rfl ?_
  refine ax_i2b (pc := 116) C ((((i1 : Int32).toUInt32 >>> ((0 : Int32).toUInt32 &&& Int32.toUInt32 31)).toInt32).toInt8.toInt32) d_MM_feed_116 rfl ?_
  refine ax_bast (pc := 117) C 1 rfl d_MM_feed_117 (by unfold vp_in; decide) ?_
  refine ax_w ([(a0, .inr (12, [.ref a1, .ref b0, .int 8, .int 0, .int 0, .int 0, .int 0, .int 0, .int 0, .int 0, .int 0, .int 0, .int 0, .ref b1, .ref b2, .ref b3, .ref b4, .ref b5, .int 0, .int 1, .int 0, .ref b6, .ref b7, .ref b8, .ref b9, .int 0, .ref b10, .ref b11, .int 0, .int 0, .ref b12, .ref b13, .ref b14, .ref b15, .ref b16, .ref b17, .ref b18, .int 0, .int 0, .int 0, .int 0, .ref b19, .ref b20, .ref b21, .ref b22, .ref b23, .ref b24, .int 0, .ref b25, .ref b26, .ref b27, .ref b28, .ref b29, .ref b30, .ref b31, .int 0, .int 0, .ref b32, .ref b33, .ref b34, .ref b35, .ref b36, .int 0, .ref b37, .ref b38, .int 0, .ref b39, .ref b40, .ref b41, .ref b42, .ref b43, .ref b44, .int 0, .ref b45, .ref b46, .ref b47, .ref b48, .ref b49, .ref b50, .ref b51, .ref b52, .ref b53, .ref b54, .ref b55, .int 0, .int 0, .int 0, .int 0, .int (-1), .int 0, .int 0, .int 0, .int 0, .int 0, .int 0, .ref b56, .ref b57, .ref b58, .int 0, .ref b59, .ref b60, .int 0, .ref b61, .ref b62, .ref b63, .int 0, .ref b64, .ref b65, .ref b66, .ref b67, .ref b68, .ref b69, .int 0, .int (-1), .int 0, .ref b70, .int (-1), .int (-1), .int (-1), .ref b71, .int 0, .ref b72, .int 0, .ref b73, .int 0, .int 0, .ref b74])), (a1, .inl (kA 2, 65536, .inl (upd (upd (upd (upd (upd (upd (upd (upd (fun _ => 0) (Int32.toNatClampNeg 0) (vp_nar .byte ((((i0 : Int32).toUInt32 >>> ((24 : Int32).toUInt32 &&& Int32.toUInt32 31)).toInt32).toInt8.toInt32))) (Int32.toNatClampNeg 1) (vp_nar .byte ((((i0 : Int32).toUInt32 >>> ((16 : Int32).toUInt32 &&& Int32.toUInt32 31)).toInt32).toInt8.toInt32))) (Int32.toNatClampNeg 2) (vp_nar .byte ((((i0 : Int32).toUInt32 >>> ((8 : Int32).toUInt32 &&& Int32.toUInt32 31)).toInt32).toInt8.toInt32))) (Int32.toNatClampNeg 3) (vp_nar .byte ((((i0 : Int32).toUInt32 >>> ((0 : Int32).toUInt32 &&& Int32.toUInt32 31)).toInt32).toInt8.toInt32))) (Int32.toNatClampNeg 4) (vp_nar .byte ((((i1 : Int32).toUInt32 >>> ((24 : Int32).toUInt32 &&& Int32.toUInt32 31)).toInt32).toInt8.toInt32))) (Int32.toNatClampNeg 5) (vp_nar .byte ((((i1 : Int32).toUInt32 >>> ((16 : Int32).toUInt32 &&& Int32.toUInt32 31)).toInt32).toInt8.toInt32))) (Int32.toNatClampNeg 6) (vp_nar .byte ((((i1 : Int32).toUInt32 >>> ((8 : Int32).toUInt32 &&& Int32.toUInt32 31)).toInt32).toInt8.toInt32))) (Int32.toNatClampNeg 7) (vp_nar .byte ((((i1 : Int32).toUInt32 >>> ((0 : Int32).toUInt32 &&& Int32.toUInt32 31)).toInt32).toInt8.toInt32)))))]) rfl ?_
  refine ax_iinc (pc := 118) C (8) d_MM_feed_118 1 rfl (by decide) (Nat.le_of_ble_eq_true rfl) ([(6, .int 8), (7, .int i1), (0, .ref a0), (1, .int i0), (2, .int i1), (3, .int i2), (4, .int i3), (5, .int i4)]) rfl ?_
  refine ax_goto (pc := 121) C 33 d_MM_feed_121 (by decide) ?_
  refine ax_iload (pc := 33) C d_MM_feed_33 0 rfl ?_
  refine ax_bipush (pc := 35) C 20 d_MM_feed_35 (by decide +kernel) ?_
  refine ax_icmp_ge (pc := 37) C 124 d_MM_feed_37 (by decide) (fun h => absurd h (by decide)) (fun _ => ?_)
  refine ax_iload (pc := 40) C d_MM_feed_40 0 rfl ?_
  refine ax_iconst (pc := 42) C 4 d_MM_feed_42 (by decide +kernel) ?_
  refine ax_icmp_ge (pc := 43) C 50 d_MM_feed_43 (by decide) (fun _ => ?_) (fun h => absurd h (by decide))
  refine ax_iload (pc := 50) C d_MM_feed_50 0 rfl ?_
  refine ax_bipush (pc := 52) C 8 d_MM_feed_52 (by decide +kernel) ?_
  refine ax_icmp_ge (pc := 54) C 61 d_MM_feed_54 (by decide) (fun _ => ?_) (fun h => absurd h (by decide))
  refine ax_iload (pc := 61) C d_MM_feed_61 0 rfl ?_
  refine ax_bipush (pc := 63) C 12 d_MM_feed_63 (by decide +kernel) ?_
  refine ax_icmp_ge (pc := 65) C 72 d_MM_feed_65 (by decide) (fun h => absurd h (by decide)) (fun _ => ?_)
  refine ax_iload_n (pc := 68) C d_MM_feed_68 rfl 5 rfl ?_
  refine ax_goto (pc := 69) C 86 d_MM_feed_69 (by decide) ?_
  refine ax_istore (pc := 86) C d_MM_feed_86 (Nat.le_of_ble_eq_true rfl) ([(7, .int i2), (6, .int 8), (0, .ref a0), (1, .int i0), (2, .int i1), (3, .int i2), (4, .int i3), (5, .int i4)]) rfl ?_
  refine ax_aload_n (pc := 88) C d_MM_feed_88 rfl 2 rfl ?_
  refine ax_get (pc := 89) C k_MM 0 lk_MM_8 d_MM_feed_89 (Nat.le_of_ble_eq_true rfl) 0 rfl rfl ?_
  refine ax_aload_n (pc := 92) C d_MM_feed_92 rfl 2 rfl ?_
  refine ax_dup (pc := 93) C d_MM_feed_93 rfl ?_
  refine ax_get (pc := 94) C k_MM 2 lk_MM_17 d_MM_feed_94 (Nat.le_of_ble_eq_true rfl) 0 rfl rfl ?_
  refine ax_dup_x1 (pc := 97) C d_MM_feed_97 rfl rfl ?_
  refine ax_iconst (pc := 98) C 1 d_MM_feed_98 (by decide +kernel) ?_
  refine ax_iadd (pc := 99) C d_MM_feed_99 ?_
  refine ax_nrm 9 (by decide) ?_
  refine ax_put (pc := 100) C k_MM 2 lk_MM_17 d_MM_feed_100 (Nat.le_of_ble_eq_true rfl) 0 rfl rfl rfl rfl (Nat.le_of_ble_eq_true rfl) ?_
  refine ax_w ([(a0, .inr (12, [.ref a1, .ref b0, .int 9, .int 0, .int 0, .int 0, .int 0, .int 0, .int 0, .int 0, .int 0, .int 0, .int 0, .ref b1, .ref b2, .ref b3, .ref b4, .ref b5, .int 0, .int 1, .int 0, .ref b6, .ref b7, .ref b8, .ref b9, .int 0, .ref b10, .ref b11, .int 0, .int 0, .ref b12, .ref b13, .ref b14, .ref b15, .ref b16, .ref b17, .ref b18, .int 0, .int 0, .int 0, .int 0, .ref b19, .ref b20, .ref b21, .ref b22, .ref b23, .ref b24, .int 0, .ref b25, .ref b26, .ref b27, .ref b28, .ref b29, .ref b30, .ref b31, .int 0, .int 0, .ref b32, .ref b33, .ref b34, .ref b35, .ref b36, .int 0, .ref b37, .ref b38, .int 0, .ref b39, .ref b40, .ref b41, .ref b42, .ref b43, .ref b44, .int 0, .ref b45, .ref b46, .ref b47, .ref b48, .ref b49, .ref b50, .ref b51, .ref b52, .ref b53, .ref b54, .ref b55, .int 0, .int 0, .int 0, .int 0, .int (-1), .int 0, .int 0, .int 0, .int 0, .int 0, .int 0, .ref b56, .ref b57, .ref b58, .int 0, .ref b59, .ref b60, .int 0, .ref b61, .ref b62, .ref b63, .int 0, .ref b64, .ref b65, .ref b66, .ref b67, .ref b68, .ref b69, .int 0, .int (-1), .int 0, .ref b70, .int (-1), .int (-1), .int (-1), .ref b71, .int 0, .ref b72, .int 0, .ref b73, .int 0, .int 0, .ref b74])), (a1, .inl (kA 2, 65536, .inl (upd (upd (upd (upd (upd (upd (upd (upd (fun _ => 0) (Int32.toNatClampNeg 0) (vp_nar .byte ((((i0 : Int32).toUInt32 >>> ((24 : Int32).toUInt32 &&& Int32.toUInt32 31)).toInt32).toInt8.toInt32))) (Int32.toNatClampNeg 1) (vp_nar .byte ((((i0 : Int32).toUInt32 >>> ((16 : Int32).toUInt32 &&& Int32.toUInt32 31)).toInt32).toInt8.toInt32))) (Int32.toNatClampNeg 2) (vp_nar .byte ((((i0 : Int32).toUInt32 >>> ((8 : Int32).toUInt32 &&& Int32.toUInt32 31)).toInt32).toInt8.toInt32))) (Int32.toNatClampNeg 3) (vp_nar .byte ((((i0 : Int32).toUInt32 >>> ((0 : Int32).toUInt32 &&& Int32.toUInt32 31)).toInt32).toInt8.toInt32))) (Int32.toNatClampNeg 4) (vp_nar .byte ((((i1 : Int32).toUInt32 >>> ((24 : Int32).toUInt32 &&& Int32.toUInt32 31)).toInt32).toInt8.toInt32))) (Int32.toNatClampNeg 5) (vp_nar .byte ((((i1 : Int32).toUInt32 >>> ((16 : Int32).toUInt32 &&& Int32.toUInt32 31)).toInt32).toInt8.toInt32))) (Int32.toNatClampNeg 6) (vp_nar .byte ((((i1 : Int32).toUInt32 >>> ((8 : Int32).toUInt32 &&& Int32.toUInt32 31)).toInt32).toInt8.toInt32))) (Int32.toNatClampNeg 7) (vp_nar .byte ((((i1 : Int32).toUInt32 >>> ((0 : Int32).toUInt32 &&& Int32.toUInt32 31)).toInt32).toInt8.toInt32)))))]) rfl ?_
  refine ax_iload (pc := 103) C d_MM_feed_103 0 rfl ?_
  refine ax_bipush (pc := 105) C 24 d_MM_feed_105 (by decide +kernel) ?_
  refine ax_bipush (pc := 107) C 8 d_MM_feed_107 (by decide +kernel) ?_
  refine ax_iload (pc := 109) C d_MM_feed_109 1 rfl ?_
  refine ax_iconst (pc := 111) C 4 d_MM_feed_111 (by decide +kernel) ?_
  refine ax_irem (pc := 112) C d_MM_feed_112 (by decide) ?_
  refine ax_nrm 0 (by decide) ?_
  refine ax_imul (pc := 113) C d_MM_feed_113 ?_
  refine ax_nrm 0 (by decide) ?_
  refine ax_isub (pc := 114) C d_MM_feed_114 ?_
  refine ax_nrm 24 (by decide) ?_
  refine ax_iushr (pc := 115) C (((i2 : Int32).toUInt32 >>> ((24 : Int32).toUInt32 &&& Int32.toUInt32 31)).toInt32) d_MM_feed_115 rfl ?_
  refine ax_i2b (pc := 116) C ((((i2 : Int32).toUInt32 >>> ((24 : Int32).toUInt32 &&& Int32.toUInt32 31)).toInt32).toInt8.toInt32) d_MM_feed_116 rfl ?_
  refine ax_bast (pc := 117) C 1 rfl d_MM_feed_117 (by unfold vp_in; decide) ?_
  refine ax_w ([(a0, .inr (12, [.ref a1, .ref b0, .int 9, .int 0, .int 0, .int 0, .int 0, .int 0, .int 0, .int 0, .int 0, .int 0, .int 0, .ref b1, .ref b2, .ref b3, .ref b4, .ref b5, .int 0, .int 1, .int 0, .ref b6, .ref b7, .ref b8, .ref b9, .int 0, .ref b10, .ref b11, .int 0, .int 0, .ref b12, .ref b13, .ref b14, .ref b15, .ref b16, .ref b17, .ref b18, .int 0, .int 0, .int 0, .int 0, .ref b19, .ref b20, .ref b21, .ref b22, .ref b23, .ref b24, .int 0, .ref b25, .ref b26, .ref b27, .ref b28, .ref b29, .ref b30, .ref b31, .int 0, .int 0, .ref b32, .ref b33, .ref b34, .ref b35, .ref b36, .int 0, .ref b37, .ref b38, .int 0, .ref b39, .ref b40, .ref b41, .ref b42, .ref b43, .ref b44, .int 0, .ref b45, .ref b46, .ref b47, .ref b48, .ref b49, .ref b50, .ref b51, .ref b52, .ref b53, .ref b54, .ref b55, .int 0, .int 0, .int 0, .int 0, .int (-1), .int 0, .int 0, .int 0, .int 0, .int 0, .int 0, .ref b56, .ref b57, .ref b58, .int 0, .ref b59, .ref b60, .int 0, .ref b61, .ref b62, .ref b63, .int 0, .ref b64, .ref b65, .ref b66, .ref b67, .ref b68, .ref b69, .int 0, .int (-1), .int 0, .ref b70, .int (-1), .int (-1), .int (-1), .ref b71, .int 0, .ref b72, .int 0, .ref b73, .int 0, .int 0, .ref b74])), (a1, .inl (kA 2, 65536, .inl (upd (upd (upd (upd (upd (upd (upd (upd (upd (fun _ => 0) (Int32.toNatClampNeg 0) (vp_nar .byte ((((i0 : Int32).toUInt32 >>> ((24 : Int32).toUInt32 &&& Int32.toUInt32 31)).toInt32).toInt8.toInt32))) (Int32.toNatClampNeg 1) (vp_nar .byte ((((i0 : Int32).toUInt32 >>> ((16 : Int32).toUInt32 &&& Int32.toUInt32 31)).toInt32).toInt8.toInt32))) (Int32.toNatClampNeg 2) (vp_nar .byte ((((i0 : Int32).toUInt32 >>> ((8 : Int32).toUInt32 &&& Int32.toUInt32 31)).toInt32).toInt8.toInt32))) (Int32.toNatClampNeg 3) (vp_nar .byte ((((i0 : Int32).toUInt32 >>> ((0 : Int32).toUInt32 &&& Int32.toUInt32 31)).toInt32).toInt8.toInt32))) (Int32.toNatClampNeg 4) (vp_nar .byte ((((i1 : Int32).toUInt32 >>> ((24 : Int32).toUInt32 &&& Int32.toUInt32 31)).toInt32).toInt8.toInt32))) (Int32.toNatClampNeg 5) (vp_nar .byte ((((i1 : Int32).toUInt32 >>> ((16 : Int32).toUInt32 &&& Int32.toUInt32 31)).toInt32).toInt8.toInt32))) (Int32.toNatClampNeg 6) (vp_nar .byte ((((i1 : Int32).toUInt32 >>> ((8 : Int32).toUInt32 &&& Int32.toUInt32 31)).toInt32).toInt8.toInt32))) (Int32.toNatClampNeg 7) (vp_nar .byte ((((i1 : Int32).toUInt32 >>> ((0 : Int32).toUInt32 &&& Int32.toUInt32 31)).toInt32).toInt8.toInt32))) (Int32.toNatClampNeg 8) (vp_nar .byte ((((i2 : Int32).toUInt32 >>> ((24 : Int32).toUInt32 &&& Int32.toUInt32 31)).toInt32).toInt8.toInt32)))))]) rfl ?_
  refine ax_iinc (pc := 118) C (9) d_MM_feed_118 1 rfl (by decide) (Nat.le_of_ble_eq_true rfl) ([(6, .int 9), (7, .int i2), (0, .ref a0), (1, .int i0), (2, .int i1), (3, .int i2), (4, .int i3), (5, .int i4)]) rfl ?_
  refine ax_goto (pc := 121) C 33 d_MM_feed_121 (by decide) ?_
  refine ax_iload (pc := 33) C d_MM_feed_33 0 rfl ?_
  refine ax_bipush (pc := 35) C 20 d_MM_feed_35 (by decide +kernel) ?_
  refine ax_icmp_ge (pc := 37) C 124 d_MM_feed_37 (by decide) (fun h => absurd h (by decide)) (fun _ => ?_)
  refine ax_iload (pc := 40) C d_MM_feed_40 0 rfl ?_
  refine ax_iconst (pc := 42) C 4 d_MM_feed_42 (by decide +kernel) ?_
  refine ax_icmp_ge (pc := 43) C 50 d_MM_feed_43 (by decide) (fun _ => ?_) (fun h => absurd h (by decide))
  refine ax_iload (pc := 50) C d_MM_feed_50 0 rfl ?_
  refine ax_bipush (pc := 52) C 8 d_MM_feed_52 (by decide +kernel) ?_
  refine ax_icmp_ge (pc := 54) C 61 d_MM_feed_54 (by decide) (fun _ => ?_) (fun h => absurd h (by decide))
  refine ax_iload (pc := 61) C d_MM_feed_61 0 rfl ?_
  refine ax_bipush (pc := 63) C 12 d_MM_feed_63 (by decide +kernel) ?_
  refine ax_icmp_ge (pc := 65) C 72 d_MM_feed_65 (by decide) (fun h => absurd h (by decide)) (fun _ => ?_)
  refine ax_iload_n (pc := 68) C d_MM_feed_68 rfl 5 rfl ?_
  refine ax_goto (pc := 69) C 86 d_MM_feed_69 (by decide) ?_
  refine ax_istore (pc := 86) C d_MM_feed_86 (Nat.le_of_ble_eq_true rfl) ([(7, .int i2), (6, .int 9), (0, .ref a0), (1, .int i0), (2, .int i1), (3, .int i2), (4, .int i3), (5, .int i4)]) rfl ?_
  refine ax_aload_n (pc := 88) C d_MM_feed_88 rfl 2 rfl ?_
  refine ax_get (pc := 89) C k_MM 0 lk_MM_8 d_MM_feed_89 (Nat.le_of_ble_eq_true rfl) 0 rfl rfl ?_
  refine ax_aload_n (pc := 92) C d_MM_feed_92 rfl 2 rfl ?_
  refine ax_dup (pc := 93) C d_MM_feed_93 rfl ?_
  refine ax_get (pc := 94) C k_MM 2 lk_MM_17 d_MM_feed_94 (Nat.le_of_ble_eq_true rfl) 0 rfl rfl ?_
  refine ax_dup_x1 (pc := 97) C d_MM_feed_97 rfl rfl ?_
  refine ax_iconst (pc := 98) C 1 d_MM_feed_98 (by decide +kernel) ?_
  refine ax_iadd (pc := 99) C d_MM_feed_99 ?_
  refine ax_nrm 10 (by decide) ?_
  refine ax_put (pc := 100) C k_MM 2 lk_MM_17 d_MM_feed_100 (Nat.le_of_ble_eq_true rfl) 0 rfl rfl rfl rfl (Nat.le_of_ble_eq_true rfl) ?_
  refine ax_w ([(a0, .inr (12, [.ref a1, .ref b0, .int 10, .int 0, .int 0, .int 0, .int 0, .int 0, .int 0, .int 0, .int 0, .int 0, .int 0, .ref b1, .ref b2, .ref b3, .ref b4, .ref b5, .int 0, .int 1, .int 0, .ref b6, .ref b7, .ref b8, .ref b9, .int 0, .ref b10, .ref b11, .int 0, .int 0, .ref b12, .ref b13, .ref b14, .ref b15, .ref b16, .ref b17, .ref b18, .int 0, .int 0, .int 0, .int 0, .ref b19, .ref b20, .ref b21, .ref b22, .ref b23, .ref b24, .int 0, .ref b25, .ref b26, .ref b27, .ref b28, .ref b29, .ref b30, .ref b31, .int 0, .int 0, .ref b32, .ref b33, .ref b34, .ref b35, .ref b36, .int 0, .ref b37, .ref b38, .int 0, .ref b39, .ref b40, .ref b41, .ref b42, .ref b43, .ref b44, .int 0, .ref b45, .ref b46, .ref b47, .ref b48, .ref b49, .ref b50, .ref b51, .ref b52, .ref b53, .ref b54, .ref b55, .int 0, .int 0, .int 0, .int 0, .int (-1), .int 0, .int 0, .int 0, .int 0, .int 0, .int 0, .ref b56, .ref b57, .ref b58, .int 0, .ref b59, .ref b60, .int 0, .ref b61, .ref b62, .ref b63, .int 0, .ref b64, .ref b65, .ref b66, .ref b67, .ref b68, .ref b69, .int 0, .int (-1), .int 0, .ref b70, .int (-1), .int (-1), .int (-1), .ref b71, .int 0, .ref b72, .int 0, .ref b73, .int 0, .int 0, .ref b74])), (a1, .inl (kA 2, 65536, .inl (upd (upd (upd (upd (upd (upd (upd (upd (upd (fun _ => 0) (Int32.toNatClampNeg 0) (vp_nar .byte ((((i0 : Int32).toUInt32 >>> ((24 : Int32).toUInt32 &&& Int32.toUInt32 31)).toInt32).toInt8.toInt32))) (Int32.toNatClampNeg 1) (vp_nar .byte ((((i0 : Int32).toUInt32 >>> ((16 : Int32).toUInt32 &&& Int32.toUInt32 31)).toInt32).toInt8.toInt32))) (Int32.toNatClampNeg 2) (vp_nar .byte ((((i0 : Int32).toUInt32 >>> ((8 : Int32).toUInt32 &&& Int32.toUInt32 31)).toInt32).toInt8.toInt32))) (Int32.toNatClampNeg 3) (vp_nar .byte ((((i0 : Int32).toUInt32 >>> ((0 : Int32).toUInt32 &&& Int32.toUInt32 31)).toInt32).toInt8.toInt32))) (Int32.toNatClampNeg 4) (vp_nar .byte ((((i1 : Int32).toUInt32 >>> ((24 : Int32).toUInt32 &&& Int32.toUInt32 31)).toInt32).toInt8.toInt32))) (Int32.toNatClampNeg 5) (vp_nar .byte ((((i1 : Int32).toUInt32 >>> ((16 : Int32).toUInt32 &&& Int32.toUInt32 31)).toInt32).toInt8.toInt32))) (Int32.toNatClampNeg 6) (vp_nar .byte ((((i1 : Int32).toUInt32 >>> ((8 : Int32).toUInt32 &&& Int32.toUInt32 31)).toInt32).toInt8.toInt32))) (Int32.toNatClampNeg 7) (vp_nar .byte ((((i1 : Int32).toUInt32 >>> ((0 : Int32).toUInt32 &&& Int32.toUInt32 31)).toInt32).toInt8.toInt32))) (Int32.toNatClampNeg 8) (vp_nar .byte ((((i2 : Int32).toUInt32 >>> ((24 : Int32).toUInt32 &&& Int32.toUInt32 31)).toInt32).toInt8.toInt32)))))]) rfl ?_
  refine ax_iload (pc := 103) C d_MM_feed_103 0 rfl ?_
  refine ax_bipush (pc := 105) C 24 d_MM_feed_105 (by decide +kernel) ?_
  refine ax_bipush (pc := 107) C 8 d_MM_feed_107 (by decide +kernel) ?_
  refine ax_iload (pc := 109) C d_MM_feed_109 1 rfl ?_
  refine ax_iconst (pc := 111) C 4 d_MM_feed_111 (by decide +kernel) ?_
  refine ax_irem (pc := 112) C d_MM_feed_112 (by decide) ?_
  refine ax_nrm 1 (by decide) ?_
  refine ax_imul (pc := 113) C d_MM_feed_113 ?_
  refine ax_nrm 8 (by decide) ?_
  refine ax_isub (pc := 114) C d_MM_feed_114 ?_
  refine ax_nrm 16 (by decide) ?_
  refine ax_iushr (pc := 115) C (((i2 : Int32).toUInt32 >>> ((16 : Int32).toUInt32 &&& Int32.toUInt32 31)).toInt32) d_MM_feed_115 rfl ?_
  refine ax_i2b (pc := 116) C ((((i2 : Int32).toUInt32 >>> ((16 : Int32).toUInt32 &&& Int32.toUInt32 31)).toInt32).toInt8.toInt32) d_MM_feed_116 rfl ?_
  refine ax_bast (pc := 117) C 1 rfl d_MM_feed_117 (by unfold vp_in; decide) ?_
  refine ax_w ([(a0, .inr (12, [.ref a1, .ref b0, .int 10, .int 0, .int 0, .int 0, .int 0, .int 0, .int 0, .int 0, .int 0, .int 0, .int 0, .ref b1, .ref b2, .ref b3, .ref b4, .ref b5, .int 0, .int 1, .int 0, .ref b6, .ref b7, .ref b8, .ref b9, .int 0, .ref b10, .ref b11, .int 0, .int 0, .ref b12, .ref b13, .ref b14, .ref b15, .ref b16, .ref b17, .ref b18, .int 0, .int 0, .int 0, .int 0, .ref b19, .ref b20, .ref b21, .ref b22, .ref b23, .ref b24, .int 0, .ref b25, .ref b26, .ref b27, .ref b28, .ref b29, .ref b30, .ref b31, .int 0, .int 0, .ref b32, .ref b33, .ref b34, .ref b35, .ref b36, .int 0, .ref b37, .ref b38, .int 0, .ref b39, .ref b40, .ref b41, .ref b42, .ref b43, .ref b44, .int 0, .ref b45, .ref b46, .ref b47, .ref b48, .ref b49, .ref b50, .ref b51, .ref b52, .ref b53, .ref b54, .ref b55, .int 0, .int 0, .int 0, .int 0, .int (-1), .int 0, .int 0, .int 0, .int 0, .int 0, .int 0, .ref b56, .ref b57, .ref b58, .int 0, .ref b59, .ref b60, .int 0, .ref b61, .ref b62, .ref b63, .int 0, .ref b64, .ref b65, .ref b66, .ref b67, .ref b68, .ref b69, .int 0, .int (-1), .int 0, .ref b70, .int (-1), .int (-1), .int (-1), .ref b71, .int 0, .ref b72, .int 0, .ref b73, .int 0, .int 0, .ref b74])), (a1, .inl (kA 2, 65536, .inl (upd (upd (upd (upd (upd (upd (upd (upd (upd (upd (fun _ => 0) (Int32.toNatClampNeg 0) (vp_nar .byte ((((i0 : Int32).toUInt32 >>> ((24 : Int32).toUInt32 &&& Int32.toUInt32 31)).toInt32).toInt8.toInt32))) (Int32.toNatClampNeg 1) (vp_nar .byte ((((i0 : Int32).toUInt32 >>> ((16 : Int32).toUInt32 &&& Int32.toUInt32 31)).toInt32).toInt8.toInt32))) (Int32.toNatClampNeg 2) (vp_nar .byte ((((i0 : Int32).toUInt32 >>> ((8 : Int32).toUInt32 &&& Int32.toUInt32 31)).toInt32).toInt8.toInt32))) (Int32.toNatClampNeg 3) (vp_nar .byte ((((i0 : Int32).toUInt32 >>> ((0 : Int32).toUInt32 &&& Int32.toUInt32 31)).toInt32).toInt8.toInt32))) (Int32.toNatClampNeg 4) (vp_nar .byte ((((i1 : Int32).toUInt32 >>> ((24 : Int32).toUInt32 &&& Int32.toUInt32 31)).toInt32).toInt8.toInt32))) (Int32.toNatClampNeg 5) (vp_nar .byte ((((i1 : Int32).toUInt32 >>> ((16 : Int32).toUInt32 &&& Int32.toUInt32 31)).toInt32).toInt8.toInt32))) (Int32.toNatClampNeg 6) (vp_nar .byte ((((i1 : Int32).toUInt32 >>> ((8 : Int32).toUInt32 &&& Int32.toUInt32 31)).toInt32).toInt8.toInt32))) (Int32.toNatClampNeg 7) (vp_nar .byte ((((i1 : Int32).toUInt32 >>> ((0 : Int32).toUInt32 &&& Int32.toUInt32 31)).toInt32).toInt8.toInt32))) (Int32.toNatClampNeg 8) (vp_nar .byte ((((i2 : Int32).toUInt32 >>> ((24 : Int32).toUInt32 &&& Int32.toUInt32 31)).toInt32).toInt8.toInt32))) (Int32.toNatClampNeg 9) (vp_nar .byte ((((i2 : Int32).toUInt32 >>> ((16 : Int32).toUInt32 &&& Int32.toUInt32 31)).toInt32).toInt8.toInt32)))))]) rfl ?_
  refine ax_iinc (pc := 118) C (10) d_MM_feed_118 1 rfl (by decide) (Nat.le_of_ble_eq_true rfl) ([(6, .int 10), (7, .int i2), (0, .ref a0), (1, .int i0), (2, .int i1), (3, .int i2), (4, .int i3), (5, .int i4)]) rfl ?_
  refine ax_goto (pc := 121) C 33 d_MM_feed_121 (by decide) ?_
  refine ax_iload (pc := 33) C d_MM_feed_33 0 rfl ?_
  refine ax_bipush (pc := 35) C 20 d_MM_feed_35 (by decide +kernel) ?_
  refine ax_icmp_ge (pc := 37) C 124 d_MM_feed_37 (by decide) (fun h => absurd h (by decide)) (fun _ => ?_)
  refine ax_iload (pc := 40) C d_MM_feed_40 0 rfl ?_
  refine ax_iconst (pc := 42) C 4 d_MM_feed_42 (by decide +kernel) ?_
  refine ax_icmp_ge (pc := 43) C 50 d_MM_feed_43 (by decide) (fun _ => ?_) (fun h => absurd h (by decide))
  refine ax_iload (pc := 50) C d_MM_feed_50 0 rfl ?_
  refine ax_bipush (pc := 52) C 8 d_MM_feed_52 (by decide +kernel) ?_
  refine ax_icmp_ge (pc := 54) C 61 d_MM_feed_54 (by decide) (fun _ => ?_) (fun h => absurd h (by decide))
  refine ax_iload (pc := 61) C d_MM_feed_61 0 rfl ?_
  refine ax_bipush (pc := 63) C 12 d_MM_feed_63 (by decide +kernel) ?_
  refine ax_icmp_ge (pc := 65) C 72 d_MM_feed_65 (by decide) (fun h => absurd h (by decide)) (fun _ => ?_)
  refine ax_iload_n (pc := 68) C d_MM_feed_68 rfl 5 rfl ?_
  refine ax_goto (pc := 69) C 86 d_MM_feed_69 (by decide) ?_
  refine ax_istore (pc := 86) C d_MM_feed_86 (Nat.le_of_ble_eq_true rfl) ([(7, .int i2), (6, .int 10), (0, .ref a0), (1, .int i0), (2, .int i1), (3, .int i2), (4, .int i3), (5, .int i4)]) rfl ?_
  refine ax_aload_n (pc := 88) C d_MM_feed_88 rfl 2 rfl ?_
  refine ax_get (pc := 89) C k_MM 0 lk_MM_8 d_MM_feed_89 (Nat.le_of_ble_eq_true rfl) 0 rfl rfl ?_
  refine ax_aload_n (pc := 92) C d_MM_feed_92 rfl 2 rfl ?_
  refine ax_dup (pc := 93) C d_MM_feed_93 rfl ?_
  refine ax_get (pc := 94) C k_MM 2 lk_MM_17 d_MM_feed_94 (Nat.le_of_ble_eq_true rfl) 0 rfl rfl ?_
  refine ax_dup_x1 (pc := 97) C d_MM_feed_97 rfl rfl ?_
  refine ax_iconst (pc := 98) C 1 d_MM_feed_98 (by decide +kernel) ?_
  refine ax_iadd (pc := 99) C d_MM_feed_99 ?_
  refine ax_nrm 11 (by decide) ?_
  refine ax_put (pc := 100) C k_MM 2 lk_MM_17 d_MM_feed_100 (Nat.le_of_ble_eq_true rfl) 0 rfl rfl rfl rfl (Nat.le_of_ble_eq_true rfl) ?_
  refine ax_w ([(a0, .inr (12, [.ref a1, .ref b0, .int 11, .int 0, .int 0, .int 0, .int 0, .int 0, .int 0, .int 0, .int 0, .int 0, .int 0, .ref b1, .ref b2, .ref b3, .ref b4, .ref b5, .int 0, .int 1, .int 0, .ref b6, .ref b7, .ref b8, .ref b9, .int 0, .ref b10, .ref b11, .int 0, .int 0, .ref b12, .ref b13, .ref b14, .ref b15, .ref b16, .ref b17, .ref b18, .int 0, .int 0, .int 0, .int 0, .ref b19, .ref b20, .ref b21, .ref b22, .ref b23, .ref b24, .int 0, .ref b25, .ref b26, .ref b27, .ref b28, .ref b29, .ref b30, .ref b31, .int 0, .int 0, .ref b32, .ref b33, .ref b34, .ref b35, .ref b36, .int 0, .ref b37, .ref b38, .int 0, .ref b39, .ref b40, .ref b41, .ref b42, .ref b43, .ref b44, .int 0, .ref b45, .ref b46, .ref b47, .ref b48, .ref b49, .ref b50, .ref b51, .ref b52, .ref b53, .ref b54, .ref b55, .int 0, .int 0, .int 0, .int 0, .int (-1), .int 0, .int 0, .int 0, .int 0, .int 0, .int 0, .ref b56, .ref b57, .ref b58, .int 0, .ref b59, .ref b60, .int 0, .ref b61, .ref b62, .ref b63, .int 0, .ref b64, .ref b65, .ref b66, .ref b67, .ref b68, .ref b69, .int 0, .int (-1), .int 0, .ref b70, .int (-1), .int (-1), .int (-1), .ref b71, .int 0, .ref b72, .int 0, .ref b73, .int 0, .int 0, .ref b74])), (a1, .inl (kA 2, 65536, .inl (upd (upd (upd (upd (upd (upd (upd (upd (upd (upd (fun _ => 0) (Int32.toNatClampNeg 0) (vp_nar .byte ((((i0 : Int32).toUInt32 >>> ((24 : Int32).toUInt32 &&& Int32.toUInt32 31)).toInt32).toInt8.toInt32))) (Int32.toNatClampNeg 1) (vp_nar .byte ((((i0 : Int32).toUInt32 >>> ((16 : Int32).toUInt32 &&& Int32.toUInt32 31)).toInt32).toInt8.toInt32))) (Int32.toNatClampNeg 2) (vp_nar .byte ((((i0 : Int32).toUInt32 >>> ((8 : Int32).toUInt32 &&& Int32.toUInt32 31)).toInt32).toInt8.toInt32))) (Int32.toNatClampNeg 3) (vp_nar .byte ((((i0 : Int32).toUInt32 >>> ((0 : Int32).toUInt32 &&& Int32.toUInt32 31)).toInt32).toInt8.toInt32))) (Int32.toNatClampNeg 4) (vp_nar .byte ((((i1 : Int32).toUInt32 >>> ((24 : Int32).toUInt32 &&& Int32.toUInt32 31)).toInt32).toInt8.toInt32))) (Int32.toNatClampNeg 5) (vp_nar .byte ((((i1 : Int32).toUInt32 >>> ((16 : Int32).toUInt32 &&& Int32.toUInt32 31)).toInt32).toInt8.toInt32))) (Int32.toNatClampNeg 6) (vp_nar .byte ((((i1 : Int32).toUInt32 >>> ((8 : Int32).toUInt32 &&& Int32.toUInt32 31)).toInt32).toInt8.toInt32))) (Int32.toNatClampNeg 7) (vp_nar .byte ((((i1 : Int32).toUInt32 >>> ((0 : Int32).toUInt32 &&& Int32.toUInt32 31)).toInt32).toInt8.toInt32))) (Int32.toNatClampNeg 8) (vp_nar .byte ((((i2 : Int32).toUInt32 >>> ((24 : Int32).toUInt32 &&& Int32.toUInt32 31)).toInt32).toInt8.toInt32))) (Int32.toNatClampNeg 9) (vp_nar .byte ((((i2 : Int32).toUInt32 >>> ((16 : Int32).toUInt32 &&& Int32.toUInt32 31)).toInt32).toInt8.toInt32)))))]) rfl ?_
  refine ax_iload (pc := 103) C d_MM_feed_103 0 rfl ?_
  refine ax_bipush (pc := 105) C 24 d_MM_feed_105 (by decide +kernel) ?_
  refine ax_bipush (pc := 107) C 8 d_MM_feed_107 (by decide +kernel) ?_
  refine ax_iload (pc := 109) C d_MM_feed_109 1 rfl ?_
  refine ax_iconst (pc := 111) C 4 d_MM_feed_111 (by decide +kernel) ?_
  refine ax_irem (pc := 112) C d_MM_feed_112 (by decide) ?_
  refine ax_nrm 2 (by decide) ?_
  refine ax_imul (pc := 113) C d_MM_feed_113 ?_
  refine ax_nrm 16 (by decide) ?_
  refine ax_isub (pc := 114) C d_MM_feed_114 ?_
  refine ax_nrm 8 (by decide) ?_
  refine ax_iushr (pc := 115) C (((i2 : Int32).toUInt32 >>> ((8 : Int32).toUInt32 &&& Int32.toUInt32 31)).toInt32) d_MM_feed_115 rfl ?_
  refine ax_i2b (pc := 116) C ((((i2 : Int32).toUInt32 >>> ((8 : Int32).toUInt32 &&& Int32.toUInt32 31)).toInt32).toInt8.toInt32) d_MM_feed_116 rfl ?_
  refine ax_bast (pc := 117) C 1 rfl d_MM_feed_117 (by unfold vp_in; decide) ?_
  refine ax_w ([(a0, .inr (12, [.ref a1, .ref b0, .int 11, .int 0, .int 0, .int 0, .int 0, .int 0, .int 0, .int 0, .int 0, .int 0, .int 0, .ref b1, .ref b2, .ref b3, .ref b4, .ref b5, .int 0, .int 1, .int 0, .ref b6, .ref b7, .ref b8, .ref b9, .int 0, .ref b10, .ref b11, .int 0, .int 0, .ref b12, .ref b13, .ref b14, .ref b15, .ref b16, .ref b17, .ref b18, .int 0, .int 0, .int 0, .int 0, .ref b19, .ref b20, .ref b21, .ref b22, .ref b23, .ref b24, .int 0, .ref b25, .ref b26, .ref b27, .ref b28, .ref b29, .ref b30, .ref b31, .int 0, .int 0, .ref b32, .ref b33, .ref b34, .ref b35, .ref b36, .int 0, .ref b37, .ref b38, .int 0, .ref b39, .ref b40, .ref b41, .ref b42, .ref b43, .ref b44, .int 0, .ref b45, .ref b46, .ref b47, .ref b48, .ref b49, .ref b50, .ref b51, .ref b52, .ref b53, .ref b54, .ref b55, .int 0, .int 0, .int 0, .int 0, .int (-1), .int 0, .int 0, .int 0, .int 0, .int 0, .int 0, .ref b56, .ref b57, .ref b58, .int 0, .ref b59, .ref b60, .int 0, .ref b61, .ref b62, .ref b63, .int 0, .ref b64, .ref b65, .ref b66, .ref b67, .ref b68, .ref b69, .int 0, .int (-1), .int 0, .ref b70, .int (-1), .int (-1), .int (-1), .ref b71, .int 0, .ref b72, .int 0, .ref b73, .int 0, .int 0, .ref b74])), (a1, .inl (kA 2, 65536, .inl (upd (upd (upd (upd (upd (upd (upd (upd (upd (upd (upd (fun _ => 0) (Int32.toNatClampNeg 0) (vp_nar .byte ((((i0 : Int32).toUInt32 >>> ((24 : Int32).toUInt32 &&& Int32.toUInt32 31)).toInt32).toInt8.toInt32))) (Int32.toNatClampNeg 1) (vp_nar .byte ((((i0 : Int32).toUInt32 >>> ((16 : Int32).toUInt32 &&& Int32.toUInt32 31)).toInt32).toInt8.toInt32))) (Int32.toNatClampNeg 2) (vp_nar .byte ((((i0 : Int32).toUInt32 >>> ((8 : Int32).toUInt32 &&& Int32.toUInt32 31)).toInt32).toInt8.toInt32))) (Int32.toNatClampNeg 3) (vp_nar .byte ((((i0 : Int32).toUInt32 >>> ((0 : Int32).toUInt32 &&& Int32.toUInt32 31)).toInt32).toInt8.toInt32))) (Int32.toNatClampNeg 4) (vp_nar .byte ((((i1 : Int32).toUInt32 >>> ((24 : Int32).toUInt32 &&& Int32.toUInt32 31)).toInt32).toInt8.toInt32))) (Int32.toNatClampNeg 5) (vp_nar .byte ((((i1 : Int32).toUInt32 >>> ((16 : Int32).toUInt32 &&& Int32.toUInt32 31)).toInt32).toInt8.toInt32))) (Int32.toNatClampNeg 6) (vp_nar .byte ((((i1 : Int32).toUInt32 >>> ((8 : Int32).toUInt32 &&& Int32.toUInt32 31)).toInt32).toInt8.toInt32))) (Int32.toNatClampNeg 7) (vp_nar .byte ((((i1 : Int32).toUInt32 >>> ((0 : Int32).toUInt32 &&& Int32.toUInt32 31)).toInt32).toInt8.toInt32))) (Int32.toNatClampNeg 8) (vp_nar .byte ((((i2 : Int32).toUInt32 >>> ((24 : Int32).toUInt32 &&& Int32.toUInt32 31)).toInt32).toInt8.toInt32))) (Int32.toNatClampNeg 9) (vp_nar .byte ((((i2 : Int32).toUInt32 >>> ((16 : Int32).toUInt32 &&& Int32.toUInt32 31)).toInt32).toInt8.toInt32))) (Int32.toNatClampNeg 10) (vp_nar .byte ((((i2 : Int32).toUInt32 >>> ((8 : Int32).toUInt32 &&& Int32.toUInt32 31)).toInt32).toInt8.toInt32)))))]) rfl ?_
  refine ax_iinc (pc := 118) C (11) d_MM_feed_118 1 rfl (by decide) (Nat.le_of_ble_eq_true rfl) ([(6, .int 11), (7, .int i2), (0, .ref a0), (1, .int i0), (2, .int i1), (3, .int i2), (4, .int i3), (5, .int i4)]) rfl ?_
  refine ax_goto (pc := 121) C 33 d_MM_feed_121 (by decide) ?_
  refine ax_iload (pc := 33) C d_MM_feed_33 0 rfl ?_
  refine ax_bipush (pc := 35) C 20 d_MM_feed_35 (by decide +kernel) ?_
  refine ax_icmp_ge (pc := 37) C 124 d_MM_feed_37 (by decide) (fun h => absurd h (by decide)) (fun _ => ?_)
  refine ax_iload (pc := 40) C d_MM_feed_40 0 rfl ?_
  refine ax_iconst (pc := 42) C 4 d_MM_feed_42 (by decide +kernel) ?_
  refine ax_icmp_ge (pc := 43) C 50 d_MM_feed_43 (by decide) (fun _ => ?_) (fun h => absurd h (by decide))
  refine ax_iload (pc := 50) C d_MM_feed_50 0 rfl ?_
  refine ax_bipush (pc := 52) C 8 d_MM_feed_52 (by decide +kernel) ?_
  refine ax_icmp_ge (pc := 54) C 61 d_MM_feed_54 (by decide) (fun _ => ?_) (fun h => absurd h (by decide))
  refine ax_iload (pc := 61) C d_MM_feed_61 0 rfl ?_
  refine ax_bipush (pc := 63) C 12 d_MM_feed_63 (by decide +kernel) ?_
  refine ax_icmp_ge (pc := 65) C 72 d_MM_feed_65 (by decide) (fun h => absurd h (by decide)) (fun _ => ?_)
  refine ax_iload_n (pc := 68) C d_MM_feed_68 rfl 5 rfl ?_
  refine ax_goto (pc := 69) C 86 d_MM_feed_69 (by decide) ?_
  refine ax_istore (pc := 86) C d_MM_feed_86 (Nat.le_of_ble_eq_true rfl) ([(7, .int i2), (6, .int 11), (0, .ref a0), (1, .int i0), (2, .int i1), (3, .int i2), (4, .int i3), (5, .int i4)]) rfl ?_
  refine ax_aload_n (pc := 88) C d_MM_feed_88 rfl 2 rfl ?_
  refine ax_get (pc := 89) C k_MM 0 lk_MM_8 d_MM_feed_89 (Nat.le_of_ble_eq_true rfl) 0 rfl rfl ?_
  refine ax_aload_n (pc := 92) C d_MM_feed_92 rfl 2 rfl ?_
  refine ax_dup (pc := 93) C d_MM_feed_93 rfl ?_
  refine ax_get (pc := 94) C k_MM 2 lk_MM_17 d_MM_feed_94 (Nat.le_of_ble_eq_true rfl) 0 rfl rfl ?_
  refine ax_dup_x1 (pc := 97) C d_MM_feed_97 rfl rfl ?_
  refine ax_iconst (pc := 98) C 1 d_MM_feed_98 (by decide +kernel) ?_
  refine ax_iadd (pc := 99) C d_MM_feed_99 ?_
  refine ax_nrm 12 (by decide) ?_
  refine ax_put (pc := 100) C k_MM 2 lk_MM_17 d_MM_feed_100 (Nat.le_of_ble_eq_true rfl) 0 rfl rfl rfl rfl (Nat.le_of_ble_eq_true rfl) ?_
  refine ax_w ([(a0, .inr (12, [.ref a1, .ref b0, .int 12, .int 0, .int 0, .int 0, .int 0, .int 0, .int 0, .int 0, .int 0, .int 0, .int 0, .ref b1, .ref b2, .ref b3, .ref b4, .ref b5, .int 0, .int 1, .int 0, .ref b6, .ref b7, .ref b8, .ref b9, .int 0, .ref b10, .ref b11, .int 0, .int 0, .ref b12, .ref b13, .ref b14, .ref b15, .ref b16, .ref b17, .ref b18, .int 0, .int 0, .int 0, .int 0, .ref b19, .ref b20, .ref b21, .ref b22, .ref b23, .ref b24, .int 0, .ref b25, .ref b26, .ref b27, .ref b28, .ref b29, .ref b30, .ref b31, .int 0, .int 0, .ref b32, .ref b33, .ref b34, .ref b35, .ref b36, .int 0, .ref b37, .ref b38, .int 0, .ref b39, .ref b40, .ref b41, .ref b42, .ref b43, .ref b44, .int 0, .ref b45, .ref b46, .ref b47, .ref b48, .ref b49, .ref b50, .ref b51, .ref b52, .ref b53, .ref b54, .ref b55, .int 0, .int 0, .int 0, .int 0, .int (-1), .int 0, .int 0, .int 0, .int 0, .int 0, .int 0, .ref b56, .ref b57, .ref b58, .int 0, .ref b59, .ref b60, .int 0, .ref b61, .ref b62, .ref b63, .int 0, .ref b64, .ref b65, .ref b66, .ref b67, .ref b68, .ref b69, .int 0, .int (-1), .int 0, .ref b70, .int (-1), .int (-1), .int (-1), .ref b71, .int 0, .ref b72, .int 0, .ref b73, .int 0, .int 0, .ref b74])), (a1, .inl (kA 2, 65536, .inl (upd (upd (upd (upd (upd (upd (upd (upd (upd (upd (upd (fun _ => 0) (Int32.toNatClampNeg 0) (vp_nar .byte ((((i0 : Int32).toUInt32 >>> ((24 : Int32).toUInt32 &&& Int32.toUInt32 31)).toInt32).toInt8.toInt32))) (Int32.toNatClampNeg 1) (vp_nar .byte ((((i0 : Int32).toUInt32 >>> ((16 : Int32).toUInt32 &&& Int32.toUInt32 31)).toInt32).toInt8.toInt32))) (Int32.toNatClampNeg 2) (vp_nar .byte ((((i0 : Int32).toUInt32 >>> ((8 : Int32).toUInt32 &&& Int32.toUInt32 31)).toInt32).toInt8.toInt32))) (Int32.toNatClampNeg 3) (vp_nar .byte ((((i0 : Int32).toUInt32 >>> ((0 : Int32).toUInt32 &&& Int32.toUInt32 31)).toInt32).toInt8.toInt32))) (Int32.toNatClampNeg 4) (vp_nar .byte ((((i1 : Int32).toUInt32 >>> ((24 : Int32).toUInt32 &&& Int32.toUInt32 31)).toInt32).toInt8.toInt32))) (Int32.toNatClampNeg 5) (vp_nar .byte ((((i1 : Int32).toUInt32 >>> ((16 : Int32).toUInt32 &&& Int32.toUInt32 31)).toInt32).toInt8.toInt32))) (Int32.toNatClampNeg 6) (vp_nar .byte ((((i1 : Int32).toUInt32 >>> ((8 : Int32).toUInt32 &&& Int32.toUInt32 31)).toInt32).toInt8.toInt32))) (Int32.toNatClampNeg 7) (vp_nar .byte ((((i1 : Int32).toUInt32 >>> ((0 : Int32).toUInt32 &&& Int32.toUInt32 31)).toInt32).toInt8.toInt32))) (Int32.toNatClampNeg 8) (vp_nar .byte ((((i2 : Int32).toUInt32 >>> ((24 : Int32).toUInt32 &&& Int32.toUInt32 31)).toInt32).toInt8.toInt32))) (Int32.toNatClampNeg 9) (vp_nar .byte ((((i2 : Int32).toUInt32 >>> ((16 : Int32).toUInt32 &&& Int32.toUInt32 31)).toInt32).toInt8.toInt32))) (Int32.toNatClampNeg 10) (vp_nar .byte ((((i2 : Int32).toUInt32 >>> ((8 : Int32).toUInt32 &&& Int32.toUInt32 31)).toInt32).toInt8.toInt32)))))]) rfl ?_
  refine ax_iload (pc := 103) C d_MM_feed_103 0 rfl ?_
  refine ax_bipush (pc := 105) C 24 d_MM_feed_105 (by decide +kernel) ?_
  refine ax_bipush (pc := 107) C 8 d_MM_feed_107 (by decide +kernel) ?_
  refine ax_iload (pc := 109) C d_MM_feed_109 1 rfl ?_
  refine ax_iconst (pc := 111) C 4 d_MM_feed_111 (by decide +kernel) ?_
  refine ax_irem (pc := 112) C d_MM_feed_112 (by decide) ?_
  refine ax_nrm 3 (by decide) ?_
  refine ax_imul (pc := 113) C d_MM_feed_113 ?_
  refine ax_nrm 24 (by decide) ?_
  refine ax_isub (pc := 114) C d_MM_feed_114 ?_
  refine ax_nrm 0 (by decide) ?_
  refine ax_iushr (pc := 115) C (((i2 : Int32).toUInt32 >>> ((0 : Int32).toUInt32 &&& Int32.toUInt32 31)).toInt32) d_MM_feed_115 rfl ?_
  refine ax_i2b (pc := 116) C ((((i2 : Int32).toUInt32 >>> ((0 : Int32).toUInt32 &&& Int32.toUInt32 31)).toInt32).toInt8.toInt32) d_MM_feed_116 rfl ?_
  refine ax_bast (pc := 117) C 1 rfl d_MM_feed_117 (by unfold vp_in; decide) ?_
  refine ax_w ([(a0, .inr (12, [.ref a1, .ref b0, .int 12, .int 0, .int 0, .int 0, .int 0, .int 0, .int 0, .int 0, .int 0, .int 0, .int 0, .ref b1, .ref b2, .ref b3, .ref b4, .ref b5, .int 0, .int 1, .int 0, .ref b6, .ref b7, .ref b8, .ref b9, .int 0, .ref b10, .ref b11, .int 0, .int 0, .ref b12, .ref b13, .ref b14, .ref b15, .ref b16, .ref b17, .ref b18, .int 0, .int 0, .int 0, .int 0, .ref b19, .ref b20, .ref b21, .ref b22, .ref b23, .ref b24, .int 0, .ref b25, .ref b26, .ref b27, .ref b28, .ref b29, .ref b30, .ref b31, .int 0, .int 0, .ref b32, .ref b33, .ref b34, .ref b35, .ref b36, .int 0, .ref b37, .ref b38, .int 0, .ref b39, .ref b40, .ref b41, .ref b42, .ref b43, .ref b44, .int 0, .ref b45, .ref b46, .ref b47, .ref b48, .ref b49, .ref b50, .ref b51, .ref b52, .ref b53, .ref b54, .ref b55, .int 0, .int 0, .int 0, .int 0, .int (-1), .int 0, .int 0, .int 0, .int 0, .int 0, .int 0, .ref b56, .ref b57, .ref b58, .int 0, .ref b59, .ref b60, .int 0, .ref b61, .ref b62, .ref b63, .int 0, .ref b64, .ref b65, .ref b66, .ref b67, .ref b68, .ref b69, .int 0, .int (-1), .int 0, .ref b70, .int (-1), .int (-1), .int (-1), .ref b71, .int 0, .ref b72, .int 0, .ref b73, .int 0, .int 0, .ref b74])), (a1, .inl (kA 2, 65536, .inl (upd (upd (upd (upd (upd (upd (upd (upd (upd (upd (upd (upd (fun _ => 0) (Int32.toNatClampNeg 0) (vp_nar .byte ((((i0 : Int32).toUInt32 >>> ((24 : Int32).toUInt32 &&& Int32.toUInt32 31)).toInt32).toInt8.toInt32))) (Int32.toNatClampNeg 1) (vp_nar .byte ((((i0 : Int32).toUInt32 >>> ((16 : Int32).toUInt32 &&& Int32.toUInt32 31)).toInt32).toInt8.toInt32))) (Int32.toNatClampNeg 2) (vp_nar .byte ((((i0 : Int32).toUInt32 >>> ((8 : Int32).toUInt32 &&& Int32.toUInt32 31)).toInt32).toInt8.toInt32))) (Int32.toNatClampNeg 3) (vp_nar .byte ((((i0 : Int32).toUInt32 >>> ((0 : Int32).toUInt32 &&& Int32.toUInt32 31)).toInt32).toInt8.toInt32))) (Int32.toNatClampNeg 4) (vp_nar .byte ((((i1 : Int32).toUInt32 >>> ((24 : Int32).toUInt32 &&& Int32.toUInt32 31)).toInt32).toInt8.toInt32))) (Int32.toNatClampNeg 5) (vp_nar .byte ((((i1 : Int32).toUInt32 >>> ((16 : Int32).toUInt32 &&& Int32.toUInt32 31)).toInt32).toInt8.toInt32))) (Int32.toNatClampNeg 6) (vp_nar .byte ((((i1 : Int32).toUInt32 >>> ((8 : Int32).toUInt32 &&& Int32.toUInt32 31)).toInt32).toInt8.toInt32))) (Int32.toNatClampNeg 7) (vp_nar .byte ((((i1 : Int32).toUInt32 >>> ((0 : Int32).toUInt32 &&& Int32.toUInt32 31)).toInt32).toInt8.toInt32))) (Int32.toNatClampNeg 8) (vp_nar .byte ((((i2 : Int32).toUInt32 >>> ((24 : Int32).toUInt32 &&& Int32.toUInt32 31)).toInt32).toInt8.toInt32))) (Int32.toNatClampNeg 9) (vp_nar .byte ((((i2 : Int32).toUInt32 >>> ((16 : Int32).toUInt32 &&& Int32.toUInt32 31)).toInt32).toInt8.toInt32))) (Int32.toNatClampNeg 10) (vp_nar .byte ((((i2 : Int32).toUInt32 >>> ((8 : Int32).toUInt32 &&& Int32.toUInt32 31)).toInt32).toInt8.toInt32))) (Int32.toNatClampNeg 11) (vp_nar .byte ((((i2 : Int32).toUInt32 >>> ((0 : Int32).toUInt32 &&& Int32.toUInt32 31)).toInt32).toInt8.toInt32)))))]) rfl ?_
  refine ax_iinc (pc := 118) C (12) d_MM_feed_118 1 rfl (by decide) (Nat.le_of_ble_eq_true rfl) ([(6, .int 12), (7, .int i2), (0, .ref a0), (1, .int i0), (2, .int i1), (3, .int i2), (4, .int i3), (5, .int i4)]) rfl ?_
  refine ax_goto (pc := 121) C 33 d_MM_feed_121 (by decide) ?_
  refine ax_iload (pc := 33) C d_MM_feed_33 0 rfl ?_
  refine ax_bipush (pc := 35) C 20 d_MM_feed_35 (by decide +kernel) ?_
  refine ax_icmp_ge (pc := 37) C 124 d_MM_feed_37 (by decide) (fun h => absurd h (by decide)) (fun _ => ?_)
  refine ax_iload (pc := 40) C d_MM_feed_40 0 rfl ?_
  refine ax_iconst (pc := 42) C 4 d_MM_feed_42 (by decide +kernel) ?_
  refine ax_icmp_ge (pc := 43) C 50 d_MM_feed_43 (by decide) (fun _ => ?_) (fun h => absurd h (by decide))
  refine ax_iload (pc := 50) C d_MM_feed_50 0 rfl ?_
  refine ax_bipush (pc := 52) C 8 d_MM_feed_52 (by decide +kernel) ?_
  refine ax_icmp_ge (pc := 54) C 61 d_MM_feed_54 (by decide) (fun _ => ?_) (fun h => absurd h (by decide))
  refine ax_iload (pc := 61) C d_MM_feed_61 0 rfl ?_
  refine ax_bipush (pc := 63) C 12 d_MM_feed_63 (by decide +kernel) ?_
  refine ax_icmp_ge (pc := 65) C 72 d_MM_feed_65 (by decide) (fun _ => ?_) (fun h => absurd h (by decide))
  refine ax_iload (pc := 72) C d_MM_feed_72 0 rfl ?_
  refine ax_bipush (pc := 74) C 16 d_MM_feed_74 (by decide +kernel) ?_
  refine ax_icmp_ge (pc := 76) C 84 d_MM_feed_76 (by decide) (fun h => absurd h (by decide)) (fun _ => ?_)
  refine ax_iload (pc := 79) C d_MM_feed_79 6 rfl ?_
  refine ax_goto (pc := 81) C 86 d_MM_feed_81 (by decide) ?_
  refine ax_istore (pc := 86) C d_MM_feed_86 (Nat.le_of_ble_eq_true rfl) ([(7, .int i3), (6, .int 12), (0, .ref a0), (1, .int i0), (2, .int i1), (3, .int i2), (4, .int i3), (5, .int i4)]) rfl ?_
  refine ax_aload_n (pc := 88) C d_MM_feed_88 rfl 2 rfl ?_
  refine ax_get (pc := 89) C k_MM 0 lk_MM_8 d_MM_feed_89 (Nat.le_of_ble_eq_true rfl) 0 rfl rfl ?_
  refine ax_aload_n (pc := 92) C d_MM_feed_92 rfl 2 rfl ?_
  refine ax_dup (pc := 93) C d_MM_feed_93 rfl ?_
  refine ax_get (pc := 94) C k_MM 2 lk_MM_17 d_MM_feed_94 (Nat.le_of_ble_eq_true rfl) 0 rfl rfl ?_
  refine ax_dup_x1 (pc := 97) C d_MM_feed_97 rfl rfl ?_
  refine ax_iconst (pc := 98) C 1 d_MM_feed_98 (by decide +kernel) ?_
  refine ax_iadd (pc := 99) C d_MM_feed_99 ?_
  refine ax_nrm 13 (by decide) ?_
  refine ax_put (pc := 100) C k_MM 2 lk_MM_17 d_MM_feed_100 (Nat.le_of_ble_eq_true rfl) 0 rfl rfl rfl rfl (Nat.le_of_ble_eq_true rfl) ?_
  refine ax_w ([(a0, .inr (12, [.ref a1, .ref b0, .int 13, .int 0, .int 0, .int 0, .int 0, .int 0, .int 0, .int 0, .int 0, .int 0, .int 0, .ref b1, .ref b2, .ref b3, .ref b4, .ref b5, .int 0, .int 1, .int 0, .ref b6, .ref b7, .ref b8, .ref b9, .int 0, .ref b10, .ref b11, .int 0, .int 0, .ref b12, .ref b13, .ref b14, .ref b15, .ref b16, .ref b17, .ref b18, .int 0, .int 0, .int 0, .int 0, .ref b19, .ref b20, .ref b21, .ref b22, .ref b23, .ref b24, .int 0, .ref b25, .ref b26, .ref b27, .ref b28, .ref b29, .ref b30, .ref b31, .int 0, .int 0, .ref b32, .ref b33, .ref b34, .ref b35, .ref b36, .int 0, .ref b37, .ref b38, .int 0, .ref b39, .ref b40, .ref b41, .ref b42, .ref b43, .ref b44, .int 0, .ref b45, .ref b46, .ref b47, .ref b48, .ref b49, .ref b50, .ref b51, .ref b52, .ref b53, .ref b54, .ref b55, .int 0, .int 0, .int 0, .int 0, .int (-1), .int 0, .int 0, .int 0, .int 0, .int 0, .int 0, .ref b56, .ref b57, .ref b58, .int 0, .ref b59, .ref b60, .int 0, .ref b61, .ref b62, .ref b63, .int 0, .ref b64, .ref b65, .ref b66, .ref b67, .ref b68, .ref b69, .int 0, .int (-1), .int 0, .ref b70, .int (-1), .int (-1), .int (-1), .ref b71, .int 0, .ref b72, .int 0, .ref b73, .int 0, .int 0, .ref b74])), (a1, .inl (kA 2, 65536, .inl (upd (upd (upd (upd (upd (upd (upd (upd (upd (upd (upd (upd (fun _ => 0) (Int32.toNatClampNeg 0) (vp_nar .byte ((((i0 : Int32).toUInt32 >>> ((24 : Int32).toUInt32 &&& Int32.toUInt32 31)).toInt32).toInt8.toInt32))) (Int32.toNatClampNeg 1) (vp_nar .byte ((((i0 : Int32).toUInt32 >>> ((16 : Int32).toUInt32 &&& Int32.toUInt32 31)).toInt32).toInt8.toInt32))) (Int32.toNatClampNeg 2) (vp_nar .byte ((((i0 : Int32).toUInt32 >>> ((8 : Int32).toUInt32 &&& Int32.toUInt32 31)).toInt32).toInt8.toInt32))) (Int32.toNatClampNeg 3) (vp_nar .byte ((((i0 : Int32).toUInt32 >>> ((0 : Int32).toUInt32 &&& Int32.toUInt32 31)).toInt32).toInt8.toInt32))) (Int32.toNatClampNeg 4) (vp_nar .byte ((((i1 : Int32).toUInt32 >>> ((24 : Int32).toUInt32 &&& Int32.toUInt32 31)).toInt32).toInt8.toInt32))) (Int32.toNatClampNeg 5) (vp_nar .byte ((((i1 : Int32).toUInt32 >>> ((16 : Int32).toUInt32 &&& Int32.toUInt32 31)).toInt32).toInt8.toInt32))) (Int32.toNatClampNeg 6) (vp_nar .byte ((((i1 : Int32).toUInt32 >>> ((8 : Int32).toUInt32 &&& Int32.toUInt32 31)).toInt32).toInt8.toInt32))) (Int32.toNatClampNeg 7) (vp_nar .byte ((((i1 : Int32).toUInt32 >>> ((0 : Int32).toUInt32 &&& Int32.toUInt32 31)).toInt32).toInt8.toInt32))) (Int32.toNatClampNeg 8) (vp_nar .byte ((((i2 : Int32).toUInt32 >>> ((24 : Int32).toUInt32 &&& Int32.toUInt32 31)).toInt32).toInt8.toInt32))) (Int32.toNatClampNeg 9) (vp_nar .byte ((((i2 : Int32).toUInt32 >>> ((16 : Int32).toUInt32 &&& Int32.toUInt32 31)).toInt32).toInt8.toInt32))) (Int32.toNatClampNeg 10) (vp_nar .byte ((((i2 : Int32).toUInt32 >>> ((8 : Int32).toUInt32 &&& Int32.toUInt32 31)).toInt32).toInt8.toInt32))) (Int32.toNatClampNeg 11) (vp_nar .byte ((((i2 : Int32).toUInt32 >>> ((0 : Int32).toUInt32 &&& Int32.toUInt32 31)).toInt32).toInt8.toInt32)))))]) rfl ?_
  refine ax_iload (pc := 103) C d_MM_feed_103 0 rfl ?_
  refine ax_bipush (pc := 105) C 24 d_MM_feed_105 (by decide +kernel) ?_
  refine ax_bipush (pc := 107) C 8 d_MM_feed_107 (by decide +kernel) ?_
  refine ax_iload (pc := 109) C d_MM_feed_109 1 rfl ?_
  refine ax_iconst (pc := 111) C 4 d_MM_feed_111 (by decide +kernel) ?_
  refine ax_irem (pc := 112) C d_MM_feed_112 (by decide) ?_
  refine ax_nrm 0 (by decide) ?_
  refine ax_imul (pc := 113) C d_MM_feed_113 ?_
  refine ax_nrm 0 (by decide) ?_
  refine ax_isub (pc := 114) C d_MM_feed_114 ?_
  refine ax_nrm 24 (by decide) ?_
  refine ax_iushr (pc := 115) C (((i3 : Int32).toUInt32 >>> ((24 : Int32).toUInt32 &&& Int32.toUInt32 31)).toInt32) d_MM_feed_115 rfl ?_
  refine ax_i2b (pc := 116) C ((((i3 : Int32).toUInt32 >>> ((24 : Int32).toUInt32 &&& Int32.toUInt32 31)).toInt32).toInt8.toInt32) d_MM_feed_116 rfl ?_
  refine ax_bast (pc := 117) C 1 rfl d_MM_feed_117 (by unfold vp_in; decide) ?_
  refine ax_w ([(a0, .inr (12, [.ref a1, .ref b0, .int 13, .int 0, .int 0, .int 0, .int 0, .int 0, .int 0, .int 0, .int 0, .int 0, .int 0, .ref b1, .ref b2, .ref b3, .ref b4, .ref b5, .int 0, .int 1, .int 0, .ref b6, .ref b7, .ref b8, .ref b9, .int 0, .ref b10, .ref b11, .int 0, .int 0, .ref b12, .ref b13, .ref b14, .ref b15, .ref b16, .ref b17, .ref b18, .int 0, .int 0, .int 0, .int 0, .ref b19, .ref b20, .ref b21, .ref b22, .ref b23, .ref b24, .int 0, .ref b25, .ref b26, .ref b27, .ref b28, .ref b29, .ref b30, .ref b31, .int 0, .int 0, .ref b32, .ref b33, .ref b34, .ref b35, .ref b36, .int 0, .ref b37, .ref b38, .int 0, .ref b39, .ref b40, .ref b41, .ref b42, .ref b43, .ref b44, .int 0, .ref b45, .ref b46, .ref b47, .ref b48, .ref b49, .ref b50, .ref b51, .ref b52, .ref b53, .ref b54, .ref b55, .int 0, .int 0, .int 0, .int 0, .int (-1), .int 0, .int 0, .int 0, .int 0, .int 0, .int 0, .ref b56, .ref b57, .ref b58, .int 0, .ref b59, .ref b60, .int 0, .ref b61, .ref b62, .ref b63, .int 0, .ref b64, .ref b65, .ref b66, .ref b67, .ref b68, .ref b69, .int 0, .int (-1), .int 0, .ref b70, .int (-1), .int (-1), .int (-1), .ref b71, .int 0, .ref b72, .int 0, .ref b73, .int 0, .int 0, .ref b74])), (a1, .inl (kA 2, 65536, .inl (upd (upd (upd (upd (upd (upd (upd (upd (upd (upd (upd (upd (upd (fun _ => 0) (Int32.toNatClampNeg 0) (vp_nar .byte ((((i0 : Int32).toUInt32 >>> ((24 : Int32).toUInt32 &&& Int32.toUInt32 31)).toInt32).toInt8.toInt32))) (Int32.toNatClampNeg 1) (vp_nar .byte ((((i0 : Int32).toUInt32 >>> ((16 : Int32).toUInt32 &&& Int32.toUInt32 31)).toInt32).toInt8.toInt32))) (Int32.toNatClampNeg 2) (vp_nar .byte ((((i0 : Int32).toUInt32 >>> ((8 : Int32).toUInt32 &&& Int32.toUInt32 31)).toInt32).toInt8.toInt32))) (Int32.toNatClampNeg 3) (vp_nar .byte ((((i0 : Int32).toUInt32 >>> ((0 : Int32).toUInt32 &&& Int32.toUInt32 31)).toInt32).toInt8.toInt32))) (Int32.toNatClampNeg 4) (vp_nar .byte ((((i1 : Int32).toUInt32 >>> ((24 : Int32).toUInt32 &&& Int32.toUInt32 31)).toInt32).toInt8.toInt32))) (Int32.toNatClampNeg 5) (vp_nar .byte ((((i1 : Int32).toUInt32 >>> ((16 : Int32).toUInt32 &&& Int32.toUInt32 31)).toInt32).toInt8.toInt32))) (Int32.toNatClampNeg 6) (vp_nar .byte ((((i1 : Int32).toUInt32 >>> ((8 : Int32).toUInt32 &&& Int32.toUInt32 31)).toInt32).toInt8.toInt32))) (Int32.toNatClampNeg 7) (vp_nar .byte ((((i1 : Int32).toUInt32 >>> ((0 : Int32).toUInt32 &&& Int32.toUInt32 31)).toInt32).toInt8.toInt32))) (Int32.toNatClampNeg 8) (vp_nar .byte ((((i2 : Int32).toUInt32 >>> ((24 : Int32).toUInt32 &&& Int32.toUInt32 31)).toInt32).toInt8.toInt32))) (Int32.toNatClampNeg 9) (vp_nar .byte ((((i2 : Int32).toUInt32 >>> ((16 : Int32).toUInt32 &&& Int32.toUInt32 31)).toInt32).toInt8.toInt32))) (Int32.toNatClampNeg 10) (vp_nar .byte ((((i2 : Int32).toUInt32 >>> ((8 : Int32).toUInt32 &&& Int32.toUInt32 31)).toInt32).toInt8.toInt32))) (Int32.toNatClampNeg 11) (vp_nar .byte ((((i2 : Int32).toUInt32 >>> ((0 : Int32).toUInt32 &&& Int32.toUInt32 31)).toInt32).toInt8.toInt32))) (Int32.toNatClampNeg 12) (vp_nar .byte ((((i3 : Int32).toUInt32 >>> ((24 : Int32).toUInt32 &&& Int32.toUInt32 31)).toInt32).toInt8.toInt32)))))]) rfl ?_
  refine ax_iinc (pc := 118) C (13) d_MM_feed_118 1 rfl (by decide) (Nat.le_of_ble_eq_true rfl) ([(6, .int 13), (7, .int i3), (0, .ref a0), (1, .int i0), (2, .int i1), (3, .int i2), (4, .int i3), (5, .int i4)]) rfl ?_
  refine ax_goto (pc := 121) C 33 d_MM_feed_121 (by decide) ?_
  refine ax_iload (pc := 33) C d_MM_feed_33 0 rfl ?_
  refine ax_bipush (pc := 35) C 20 d_MM_feed_35 (by decide +kernel) ?_
  refine ax_icmp_ge (pc := 37) C 124 d_MM_feed_37 (by decide) (fun h => absurd h (by decide)) (fun _ => ?_)
  refine ax_iload (pc := 40) C d_MM_feed_40 0 rfl ?_
  refine ax_iconst (pc := 42) C 4 d_MM_feed_42 (by decide +kernel) ?_
  refine ax_icmp_ge (pc := 43) C 50 d_MM_feed_43 (by decide) (fun _ => ?_) (fun h => absurd h (by decide))
  refine ax_iload (pc := 50) C d_MM_feed_50 0 rfl ?_
  refine ax_bipush (pc := 52) C 8 d_MM_feed_52 (by decide +kernel) ?_
  refine ax_icmp_ge (pc := 54) C 61 d_MM_feed_54 (by decide) (fun _ => ?_) (fun h => absurd h (by decide))
  refine ax_iload (pc := 61) C d_MM_feed_61 0 rfl ?_
  refine ax_bipush (pc := 63) C 12 d_MM_feed_63 (by decide +kernel) ?_
  refine ax_icmp_ge (pc := 65) C 72 d_MM_feed_65 (by decide) (fun _ => ?_) (fun h => absurd h (by decide))
  refine ax_iload (pc := 72) C d_MM_feed_72 0 rfl ?_
  refine ax_bipush (pc := 74) C 16 d_MM_feed_74 (by decide +kernel) ?_
  refine ax_icmp_ge (pc := 76) C 84 d_MM_feed_76 (by decide) (fun h => absurd h (by decide)) (fun _ => ?_)
  refine ax_iload (pc := 79) C d_MM_feed_79 6 rfl ?_
  refine ax_goto (pc := 81) C 86 d_MM_feed_81 (by decide) ?_
  refine ax_istore (pc := 86) C d_MM_feed_86 (Nat.le_of_ble_eq_true rfl) ([(7, .int i3), (6, .int 13), (0, .ref a0), (1, .int i0), (2, .int i1), (3, .int i2), (4, .int i3), (5, .int i4)]) rfl ?_
  refine ax_aload_n (pc := 88) C d_MM_feed_88 rfl 2 rfl ?_
  refine ax_get (pc := 89) C k_MM 0 lk_MM_8 d_MM_feed_89 (Nat.le_of_ble_eq_true rfl) 0 rfl rfl ?_
  refine ax_aload_n (pc := 92) C d_MM_feed_92 rfl 2 rfl ?_
  refine ax_dup (pc := 93) C d_MM_feed_93 rfl ?_
  refine ax_get (pc := 94) C k_MM 2 lk_MM_17 d_MM_feed_94 (Nat.le_of_ble_eq_true rfl) 0 rfl rfl ?_
  refine ax_dup_x1 (pc := 97) C d_MM_feed_97 rfl rfl ?_
  refine ax_iconst (pc := 98) C 1 d_MM_feed_98 (by decide +kernel) ?_
  refine ax_iadd (pc := 99) C d_MM_feed_99 ?_
  refine ax_nrm 14 (by decide) ?_
  refine ax_put (pc := 100) C k_MM 2 lk_MM_17 d_MM_feed_100 (Nat.le_of_ble_eq_true rfl) 0 rfl rfl rfl rfl (Nat.le_of_ble_eq_true rfl) ?_
  refine ax_w ([(a0, .inr (12, [.ref a1, .ref b0, .int 14, .int 0, .int 0, .int 0, .int 0, .int 0, .int 0, .int 0, .int 0, .int 0, .int 0, .ref b1, .ref b2, .ref b3, .ref b4, .ref b5, .int 0, .int 1, .int 0, .ref b6, .ref b7, .ref b8, .ref b9, .int 0, .ref b10, .ref b11, .int 0, .int 0, .ref b12, .ref b13, .ref b14, .ref b15, .ref b16, .ref b17, .ref b18, .int 0, .int 0, .int 0, .int 0, .ref b19, .ref b20, .ref b21, .ref b22, .ref b23, .ref b24, .int 0, .ref b25, .ref b26, .ref b27, .ref b28, .ref b29, .ref b30, .ref b31, .int 0, .int 0, .ref b32, .ref b33, .ref b34, .ref b35, .ref b36, .int 0, .ref b37, .ref b38, .int 0, .ref b39, .ref b40, .ref b41, .ref b42, .ref b43, .ref b44, .int 0, .ref b45, .ref b46, .ref b47, .ref b48, .ref b49, .ref b50, .ref b51, .ref b52, .ref b53, .ref b54, .ref b55, .int 0, .int 0, .int 0, .int 0, .int (-1), .int 0, .int 0, .int 0, .int 0, .int 0, .int 0, .ref b56, .ref b57, .ref b58, .int 0, .ref b59, .ref b60, .int 0, .ref b61, .ref b62, .ref b63, .int 0, .ref b64, .ref b65, .ref b66, .ref b67, .ref b68, .ref b69, .int 0, .int (-1), .int 0, .ref b70, .int (-1), .int (-1), .int (-1), .ref b71, .int 0, .ref b72, .int 0, .ref b73, .int 0, .int 0, .ref b74])), (a1, .inl (kA 2, 65536, .inl (upd (upd (upd (upd (upd (upd (upd (upd (upd (upd (upd (upd (upd (fun _ => 0) (Int32.toNatClampNeg 0) (vp_nar .byte ((((i0 : Int32).toUInt32 >>> ((24 : Int32).toUInt32 &&& Int32.toUInt32 31)).toInt32).toInt8.toInt32))) (Int32.toNatClampNeg 1) (vp_nar .byte ((((i0 : Int32).toUInt32 >>> ((16 : Int32).toUInt32 &&& Int32.toUInt32 31)).toInt32).toInt8.toInt32))) (Int32.toNatClampNeg 2) (vp_nar .byte ((((i0 : Int32).toUInt32 >>> ((8 : Int32).toUInt32 &&& Int32.toUInt32 31)).toInt32).toInt8.toInt32))) (Int32.toNatClampNeg 3) (vp_nar .byte ((((i0 : Int32).toUInt32 >>> ((0 : Int32).toUInt32 &&& Int32.toUInt32 31)).toInt32).toInt8.toInt32))) (Int32.toNatClampNeg 4) (vp_nar .byte ((((i1 : Int32).toUInt32 >>> ((24 : Int32).toUInt32 &&& Int32.toUInt32 31)).toInt32).toInt8.toInt32))) (Int32.toNatClampNeg 5) (vp_nar .byte ((((i1 : Int32).toUInt32 >>> ((16 : Int32).toUInt32 &&& Int32.toUInt32 31)).toInt32).toInt8.toInt32))) (Int32.toNatClampNeg 6) (vp_nar .byte ((((i1 : Int32).toUInt32 >>> ((8 : Int32).toUInt32 &&& Int32.toUInt32 31)).toInt32).toInt8.toInt32))) (Int32.toNatClampNeg 7) (vp_nar .byte ((((i1 : Int32).toUInt32 >>> ((0 : Int32).toUInt32 &&& Int32.toUInt32 31)).toInt32).toInt8.toInt32))) (Int32.toNatClampNeg 8) (vp_nar .byte ((((i2 : Int32).toUInt32 >>> ((24 : Int32).toUInt32 &&& Int32.toUInt32 31)).toInt32).toInt8.toInt32))) (Int32.toNatClampNeg 9) (vp_nar .byte ((((i2 : Int32).toUInt32 >>> ((16 : Int32).toUInt32 &&& Int32.toUInt32 31)).toInt32).toInt8.toInt32))) (Int32.toNatClampNeg 10) (vp_nar .byte ((((i2 : Int32).toUInt32 >>> ((8 : Int32).toUInt32 &&& Int32.toUInt32 31)).toInt32).toInt8.toInt32))) (Int32.toNatClampNeg 11) (vp_nar .byte ((((i2 : Int32).toUInt32 >>> ((0 : Int32).toUInt32 &&& Int32.toUInt32 31)).toInt32).toInt8.toInt32))) (Int32.toNatClampNeg 12) (vp_nar .byte ((((i3 : Int32).toUInt32 >>> ((24 : Int32).toUInt32 &&& Int32.toUInt32 31)).toInt32).toInt8.toInt32)))))]) rfl ?_
  refine ax_iload (pc := 103) C d_MM_feed_103 0 rfl ?_
  refine ax_bipush (pc := 105) C 24 d_MM_feed_105 (by decide +kernel) ?_
  refine ax_bipush (pc := 107) C 8 d_MM_feed_107 (by decide +kernel) ?_
  refine ax_iload (pc := 109) C d_MM_feed_109 1 rfl ?_
  refine ax_iconst (pc := 111) C 4 d_MM_feed_111 (by decide +kernel) ?_
  refine ax_irem (pc := 112) C d_MM_feed_112 (by decide) ?_
  refine ax_nrm 1 (by decide) ?_
  refine ax_imul (pc := 113) C d_MM_feed_113 ?_
  refine ax_nrm 8 (by decide) ?_
  refine ax_isub (pc := 114) C d_MM_feed_114 ?_
  refine ax_nrm 16 (by decide) ?_
  refine ax_iushr (pc := 115) C (((i3 : Int32).toUInt32 >>> ((16 : Int32).toUInt32 &&& Int32.toUInt32 31)).toInt32) d_MM_feed_115 rfl ?_
  refine ax_i2b (pc := 116) C ((((i3 : Int32).toUInt32 >>> ((16 : Int32).toUInt32 &&& Int32.toUInt32 31)).toInt32).toInt8.toInt32) d_MM_feed_116 rfl ?_
  refine ax_bast (pc := 117) C 1 rfl d_MM_feed_117 (by unfold vp_in; decide) ?_
  refine ax_w ([(a0, .inr (12, [.ref a1, .ref b0, .int 14, .int 0, .int 0, .int 0, .int 0, .int 0, .int 0, .int 0, .int 0, .int 0, .int 0, .ref b1, .ref b2, .ref b3, .ref b4, .ref b5, .int 0, .int 1, .int 0, .ref b6, .ref b7, .ref b8, .ref b9, .int 0, .ref b10, .ref b11, .int 0, .int 0, .ref b12, .ref b13, .ref b14, .ref b15, .ref b16, .ref b17, .ref b18, .int 0, .int 0, .int 0, .int 0, .ref b19, .ref b20, .ref b21, .ref b22, .ref b23, .ref b24, .int 0, .ref b25, .ref b26, .ref b27, .ref b28, .ref b29, .ref b30, .ref b31, .int 0, .int 0, .ref b32, .ref b33, .ref b34, .ref b35, .ref b36, .int 0, .ref b37, .ref b38, .int 0, .ref b39, .ref b40, .ref b41, .ref b42, .ref b43, .ref b44, .int 0, .ref b45, .ref b46, .ref b47, .ref b48, .ref b49, .ref b50, .ref b51, .ref b52, .ref b53, .ref b54, .ref b55, .int 0, .int 0, .int 0, .int 0, .int (-1), .int 0, .int 0, .int 0, .int 0, .int 0, .int 0, .ref b56, .ref b57, .ref b58, .int 0, .ref b59, .ref b60, .int 0, .ref b61, .ref b62, .ref b63, .int 0, .ref b64, .ref b65, .ref b66, .ref b67, .ref b68, .ref b69, .int 0, .int (-1), .int 0, .ref b70, .int (-1), .int (-1), .int (-1), .ref b71, .int 0, .ref b72, .int 0, .ref b73, .int 0, .int 0, .ref b74])), (a1, .inl (kA 2, 65536, .inl (upd (upd (upd (upd (upd (upd (upd (upd (upd (upd (upd (upd (upd (upd (fun _ => 0) (Int32.toNatClampNeg 0) (vp_nar .byte ((((i0 : Int32).toUInt32 >>> ((24 : Int32).toUInt32 &&& Int32.toUInt32 31)).toInt32).toInt8.toInt32))) (Int32.toNatClampNeg 1) (vp_nar .byte ((((i0 : Int32).toUInt32 >>> ((16 : Int32).toUInt32 &&& Int32.toUInt32 31)).toInt32).toInt8.toInt32))) (Int32.toNatClampNeg 2) (vp_nar .byte ((((i0 : Int32).toUInt32 >>> ((8 : Int32).toUInt32 &&& Int32.toUInt32 31)).toInt32).toInt8.toInt32))) (Int32.toNatClampNeg 3) (vp_nar .byte ((((i0 : Int32).toUInt32 >>> ((0 : Int32).toUInt32 &&& Int32.toUInt32 31)).toInt32).toInt8.toInt32))) (Int32.toNatClampNeg 4) (vp_nar .byte ((((i1 : Int32).toUInt32 >>> ((24 : Int32).toUInt32 &&& Int32.toUInt32 31)).toInt32).toInt8.toInt32))) (Int32.toNatClampNeg 5) (vp_nar .byte ((((i1 : Int32).toUInt32 >>> ((16 : Int32).toUInt32 &&& Int32.toUInt32 31)).toInt32).toInt8.toInt32))) (Int32.toNatClampNeg 6) (vp_nar .byte ((((i1 : Int32).toUInt32 >>> ((8 : Int32).toUInt32 &&& Int32.toUInt32 31)).toInt32).toInt8.toInt32))) (Int32.toNatClampNeg 7) (vp_nar .byte ((((i1 : Int32).toUInt32 >>> ((0 : Int32).toUInt32 &&& Int32.toUInt32 31)).toInt32).toInt8.toInt32))) (Int32.toNatClampNeg 8) (vp_nar .byte ((((i2 : Int32).toUInt32 >>> ((24 : Int32).toUInt32 &&& Int32.toUInt32 31)).toInt32).toInt8.toInt32))) (Int32.toNatClampNeg 9) (vp_nar .byte ((((i2 : Int32).toUInt32 >>> ((16 : Int32).toUInt32 &&& Int32.toUInt32 31)).toInt32).toInt8.toInt32))) (Int32.toNatClampNeg 10) (vp_nar .byte ((((i2 : Int32).toUInt32 >>> ((8 : Int32).toUInt32 &&& Int32.toUInt32 31)).toInt32).toInt8.toInt32))) (Int32.toNatClampNeg 11) (vp_nar .byte ((((i2 : Int32).toUInt32 >>> ((0 : Int32).toUInt32 &&& Int32.toUInt32 31)).toInt32).toInt8.toInt32))) (Int32.toNatClampNeg 12) (vp_nar .byte ((((i3 : Int32).toUInt32 >>> ((24 : Int32).toUInt32 &&& Int32.toUInt32 31)).toInt32).toInt8.toInt32))) (Int32.toNatClampNeg 13) (vp_nar .byte ((((i3 : Int32).toUInt32 >>> ((16 : Int32).toUInt32 &&& Int32.toUInt32 31)).toInt32).toInt8.toInt32)))))]) rfl ?_
  refine ax_iinc (pc := 118) C (14) d_MM_feed_118 1 rfl (by decide) (Nat.le_of_ble_eq_true rfl) ([(6, .int 14), (7, .int i3), (0, .ref a0), (1, .int i0), (2, .int i1), (3, .int i2), (4, .int i3), (5, .int i4)]) rfl ?_
  refine ax_goto (pc := 121) C 33 d_MM_feed_121 (by decide) ?_
  refine ax_iload (pc := 33) C d_MM_feed_33 0 rfl ?_
  refine ax_bipush (pc := 35) C 20 d_MM_feed_35 (by decide +kernel) ?_
  refine ax_icmp_ge (pc := 37) C 124 d_MM_feed_37 (by decide) (fun h => absurd h (by decide)) (fun _ => ?_)
  refine ax_iload (pc := 40) C d_MM_feed_40 0 rfl ?_
  refine ax_iconst (pc := 42) C 4 d_MM_feed_42 (by decide +kernel) ?_
  refine ax_icmp_ge (pc := 43) C 50 d_MM_feed_43 (by decide) (fun _ => ?_) (fun h => absurd h (by decide))
  refine ax_iload (pc := 50) C d_MM_feed_50 0 rfl ?_
  refine ax_bipush (pc := 52) C 8 d_MM_feed_52 (by decide +kernel) ?_
  refine ax_icmp_ge (pc := 54) C 61 d_MM_feed_54 (by decide) (fun _ => ?_) (fun h => absurd h (by decide))
  refine ax_iload (pc := 61) C d_MM_feed_61 0 rfl ?_
  refine ax_bipush (pc := 63) C 12 d_MM_feed_63 (by decide +kernel) ?_
  refine ax_icmp_ge (pc := 65) C 72 d_MM_feed_65 (by decide) (fun _ => ?_) (fun h => absurd h (by decide))
  refine ax_iload (pc := 72) C d_MM_feed_72 0 rfl ?_
  refine ax_bipush (pc := 74) C 16 d_MM_feed_74 (by decide +kernel) ?_
  refine ax_icmp_ge (pc := 76) C 84 d_MM_feed_76 (by decide) (fun h => absurd h (by decide)) (fun _ => ?_)
  refine ax_iload (pc := 79) C d_MM_feed_79 6 rfl ?_
  refine ax_goto (pc := 81) C 86 d_MM_feed_81 (by decide) ?_
  refine ax_istore (pc := 86) C d_MM_feed_86 (Nat.le_of_ble_eq_true rfl) ([(7, .int i3), (6, .int 14), (0, .ref a0), (1, .int i0), (2, .int i1), (3, .int i2), (4, .int i3), (5, .int i4)]) rfl ?_
  refine ax_aload_n (pc := 88) C d_MM_feed_88 rfl 2 rfl ?_
  refine ax_get (pc := 89) C k_MM 0 lk_MM_8 d_MM_feed_89 (Nat.le_of_ble_eq_true rfl) 0 rfl rfl ?_
  refine ax_aload_n (pc := 92) C d_MM_feed_92 rfl 2 rfl ?_
  refine ax_dup (pc := 93) C d_MM_feed_93 rfl ?_
  refine ax_get (pc := 94) C k_MM 2 lk_MM_17 d_MM_feed_94 (Nat.le_of_ble_eq_true rfl) 0 rfl rfl ?_
  refine ax_dup_x1 (pc := 97) C d_MM_feed_97 rfl rfl ?_
  refine ax_iconst (pc := 98) C 1 d_MM_feed_98 (by decide +kernel) ?_
  refine ax_iadd (pc := 99) C d_MM_feed_99 ?_
  refine ax_nrm 15 (by decide) ?_
  refine ax_put (pc := 100) C k_MM 2 lk_MM_17 d_MM_feed_100 (Nat.le_of_ble_eq_true rfl) 0 rfl rfl rfl rfl (Nat.le_of_ble_eq_true rfl) ?_
  refine ax_w ([(a0, .inr (12, [.ref a1, .ref b0, .int 15, .int 0, .int 0, .int 0, .int 0, .int 0, .int 0, .int 0, .int 0, .int 0, .int 0, .ref b1, .ref b2, .ref b3, .ref b4, .ref b5, .int 0, .int 1, .int 0, .ref b6, .ref b7, .ref b8, .ref b9, .int 0, .ref b10, .ref b11, .int 0, .int 0, .ref b12, .ref b13, .ref b14, .ref b15, .ref b16, .ref b17, .ref b18, .int 0, .int 0, .int 0, .int 0, .ref b19, .ref b20, .ref b21, .ref b22, .ref b23, .ref b24, .int 0, .ref b25, .ref b26, .ref b27, .ref b28, .ref b29, .ref b30, .ref b31, .int 0, .int 0, .ref b32, .ref b33, .ref b34, .ref b35, .ref b36, .int 0, .ref b37, .ref b38, .int 0, .ref b39, .ref b40, .ref b41, .ref b42, .ref b43, .ref b44, .int 0, .ref b45, .ref b46, .ref b47, .ref b48, .ref b49, .ref b50, .ref b51, .ref b52, .ref b53, .ref b54, .ref b55, .int 0, .int 0, .int 0, .int 0, .int (-1), .int 0, .int 0, .int 0, .int 0, .int 0, .int 0, .ref b56, .ref b57, .ref b58, .int 0, .ref b59, .ref b60, .int 0, .ref b61, .ref b62, .ref b63, .int 0, .ref b64, .ref b65, .ref b66, .ref b67, .ref b68, .ref b69, .int 0, .int (-1), .int 0, .ref b70, .int (-1), .int (-1), .int (-1), .ref b71, .int 0, .ref b72, .int 0, .ref b73, .int 0, .int 0, .ref b74])), (a1, .inl (kA 2, 65536, .inl (upd (upd (upd (upd (upd (upd (upd (upd (upd (upd (upd (upd (upd (upd (fun _ => 0) (Int32.toNatClampNeg 0) (vp_nar .byte ((((i0 : Int32).toUInt32 >>> ((24 : Int32).toUInt32 &&& Int32.toUInt32 31)).toInt32).toInt8.toInt32))) (Int32.toNatClampNeg 1) (vp_nar .byte ((((i0 : Int32).toUInt32 >>> ((16 : Int32).toUInt32 &&& Int32.toUInt32 31)).toInt32).toInt8.toInt32))) (Int32.toNatClampNeg 2) (vp_nar .byte ((((i0 : Int32).toUInt32 >>> ((8 : Int32).toUInt32 &&& Int32.toUInt32 31)).toInt32).toInt8.toInt32))) (Int32.toNatClampNeg 3) (vp_nar .byte ((((i0 : Int32).toUInt32 >>> ((0 : Int32).toUInt32 &&& Int32.toUInt32 31)).toInt32).toInt8.toInt32))) (Int32.toNatClampNeg 4) (vp_nar .byte ((((i1 : Int32).toUInt32 >>> ((24 : Int32).toUInt32 &&& Int32.toUInt32 31)).toInt32).toInt8.toInt32))) (Int32.toNatClampNeg 5) (vp_nar .byte ((((i1 : Int32).toUInt32 >>> ((16 : Int32).toUInt32 &&& Int32.toUInt32 31)).toInt32).toInt8.toInt32))) (Int32.toNatClampNeg 6) (vp_nar .byte ((((i1 : Int32).toUInt32 >>> ((8 : Int32).toUInt32 &&& Int32.toUInt32 31)).toInt32).toInt8.toInt32))) (Int32.toNatClampNeg 7) (vp_nar .byte ((((i1 : Int32).toUInt32 >>> ((0 : Int32).toUInt32 &&& Int32.toUInt32 31)).toInt32).toInt8.toInt32))) (Int32.toNatClampNeg 8) (vp_nar .byte ((((i2 : Int32).toUInt32 >>> ((24 : Int32).toUInt32 &&& Int32.toUInt32 31)).toInt32).toInt8.toInt32))) (Int32.toNatClampNeg 9) (vp_nar .byte ((((i2 : Int32).toUInt32 >>> ((16 : Int32).toUInt32 &&& Int32.toUInt32 31)).toInt32).toInt8.toInt32))) (Int32.toNatClampNeg 10) (vp_nar .byte ((((i2 : Int32).toUInt32 >>> ((8 : Int32).toUInt32 &&& Int32.toUInt32 31)).toInt32).toInt8.toInt32))) (Int32.toNatClampNeg 11) (vp_nar .byte ((((i2 : Int32).toUInt32 >>> ((0 : Int32).toUInt32 &&& Int32.toUInt32 31)).toInt32).toInt8.toInt32))) (Int32.toNatClampNeg 12) (vp_nar .byte ((((i3 : Int32).toUInt32 >>> ((24 : Int32).toUInt32 &&& Int32.toUInt32 31)).toInt32).toInt8.toInt32))) (Int32.toNatClampNeg 13) (vp_nar .byte ((((i3 : Int32).toUInt32 >>> ((16 : Int32).toUInt32 &&& Int32.toUInt32 31)).toInt32).toInt8.toInt32)))))]) rfl ?_
  refine ax_iload (pc := 103) C d_MM_feed_103 0 rfl ?_
  refine ax_bipush (pc := 105) C 24 d_MM_feed_105 (by decide +kernel) ?_
  refine ax_bipush (pc := 107) C 8 d_MM_feed_107 (by decide +kernel) ?_
  refine ax_iload (pc := 109) C d_MM_feed_109 1 rfl ?_
  refine ax_iconst (pc := 111) C 4 d_MM_feed_111 (by decide +kernel) ?_
  refine ax_irem (pc := 112) C d_MM_feed_112 (by decide) ?_
  refine ax_nrm 2 (by decide) ?_
  refine ax_imul (pc := 113) C d_MM_feed_113 ?_
  refine ax_nrm 16 (by decide) ?_
  refine ax_isub (pc := 114) C d_MM_feed_114 ?_
  refine ax_nrm 8 (by decide) ?_
  refine ax_iushr (pc := 115) C (((i3 : Int32).toUInt32 >>> ((8 : Int32).toUInt32 &&& Int32.toUInt32 31)).toInt32) d_MM_feed_115 rfl ?_
  refine ax_i2b (pc := 116) C ((((i3 : Int32).toUInt32 >>> ((8 : Int32).toUInt32 &&& Int32.toUInt32 31)).toInt32).toInt8.toInt32) d_MM_feed_116 rfl ?_
  refine ax_bast (pc := 117) C 1 rfl d_MM_feed_117 (by unfold vp_in; decide) ?_
  refine ax_w ([(a0, .inr (12, [.ref a1, .ref b0, .int 15, .int 0, .int 0, .int 0, .int 0, .int 0, .int 0, .int 0, .int 0, .int 0, .int 0, .ref b1, .ref b2, .ref b3, .ref b4, .ref b5, .int 0, .int 1, .int 0, .ref b6, .ref b7, .ref b8, .ref b9, .int 0, .ref b10, .ref b11, .int 0, .int 0, .ref b12, .ref b13, .ref b14, .ref b15, .ref b16, .ref b17, .ref b18, .int 0, .int 0, .int 0, .int 0, .ref b19, .ref b20, .ref b21, .ref b22, .ref b23, .ref b24, .int 0, .ref b25, .ref b26, .ref b27, .ref b28, .ref b29, .ref b30, .ref b31, .int 0, .int 0, .ref b32, .ref b33, .ref b34, .ref b35, .ref b36, .int 0, .ref b37, .ref b38, .int 0, .ref b39, .ref b40, .ref b41, .ref b42, .ref b43, .ref b44, .int 0, .ref b45, .ref b46, .ref b47, .ref b48, .ref b49, .ref b50, .ref b51, .ref b52, .ref b53, .ref b54, .ref b55, .int 0, .int 0, .int 0, .int 0, .int (-1), .int 0, .int 0, .int 0, .int 0, .int 0, .int 0, .ref b56, .ref b57, .ref b58, .int 0, .ref b59, .ref b60, .int 0, .ref b61, .ref b62, .ref b63, .int 0, .ref b64, .ref b65, .ref b66, .ref b67, .ref b68, .ref b69, .int 0, .int (-1), .int 0, .ref b70, .int (-1), .int (-1), .int (-1), .ref b71, .int 0, .ref b72, .int 0, .ref b73, .int 0, .int 0, .ref b74])), (a1, .inl (kA 2, 65536, .inl (upd (upd (upd (upd (upd (upd (upd (upd (upd (upd (upd (upd (upd (upd (upd (fun _ => 0) (Int32.toNatClampNeg 0) (vp_nar .byte ((((i0 : Int32).toUInt32 >>> ((24 : Int32).toUInt32 &&& Int32.toUInt32 31)).toInt32).toInt8.toInt32))) (Int32.toNatClampNeg 1) (vp_nar .byte ((((i0 : Int32).toUInt32 >>> ((16 : Int32).toUInt32 &&& Int32.toUInt32 31)).toInt32).toInt8.toInt32))) (Int32.toNatClampNeg 2) (vp_nar .byte ((((i0 : Int32).toUInt32 >>> ((8 : Int32).toUInt32 &&& Int32.toUInt32 31)).toInt32).toInt8.toInt32))) (Int32.toNatClampNeg 3) (vp_nar .byte ((((i0 : Int32).toUInt32 >>> ((0 : Int32).toUInt32 &&& Int32.toUInt32 31)).toInt32).toInt8.toInt32))) (Int32.toNatClampNeg 4) (vp_nar .byte ((((i1 : Int32).toUInt32 >>> ((24 : Int32).toUInt32 &&& Int32.toUInt32 31)).toInt32).toInt8.toInt32))) (Int32.toNatClampNeg 5) (vp_nar .byte ((((i1 : Int32).toUInt32 >>> ((16 : Int32).toUInt32 &&& Int32.toUInt32 31)).toInt32).toInt8.toInt32))) (Int32.toNatClampNeg 6) (vp_nar .byte ((((i1 : Int32).toUInt32 >>> ((8 : Int32).toUInt32 &&& Int32.toUInt32 31)).toInt32).toInt8.toInt32))) (Int32.toNatClampNeg 7) (vp_nar .byte ((((i1 : Int32).toUInt32 >>> ((0 : Int32).toUInt32 &&& Int32.toUInt32 31)).toInt32).toInt8.toInt32))) (Int32.toNatClampNeg 8) (vp_nar .byte ((((i2 : Int32).toUInt32 >>> ((24 : Int32).toUInt32 &&& Int32.toUInt32 31)).toInt32).toInt8.toInt32))) (Int32.toNatClampNeg 9) (vp_nar .byte ((((i2 : Int32).toUInt32 >>> ((16 : Int32).toUInt32 &&& Int32.toUInt32 31)).toInt32).toInt8.toInt32))) (Int32.toNatClampNeg 10) (vp_nar .byte ((((i2 : Int32).toUInt32 >>> ((8 : Int32).toUInt32 &&& Int32.toUInt32 31)).toInt32).toInt8.toInt32))) (Int32.toNatClampNeg 11) (vp_nar .byte ((((i2 : Int32).toUInt32 >>> ((0 : Int32).toUInt32 &&& Int32.toUInt32 31)).toInt32).toInt8.toInt32))) (Int32.toNatClampNeg 12) (vp_nar .byte ((((i3 : Int32).toUInt32 >>> ((24 : Int32).toUInt32 &&& Int32.toUInt32 31)).toInt32).toInt8.toInt32))) (Int32.toNatClampNeg 13) (vp_nar .byte ((((i3 : Int32).toUInt32 >>> ((16 : Int32).toUInt32 &&& Int32.toUInt32 31)).toInt32).toInt8.toInt32))) (Int32.toNatClampNeg 14) (vp_nar .byte ((((i3 : Int32).toUInt32 >>> ((8 : Int32).toUInt32 &&& Int32.toUInt32 31)).toInt32).toInt8.toInt32)))))]) rfl ?_
  refine ax_iinc (pc := 118) C (15) d_MM_feed_118 1 rfl (by decide) (Nat.le_of_ble_eq_true rfl) ([(6, .int 15), (7, .int i3), (0, .ref a0), (1, .int i0), (2, .int i1), (3, .int i2), (4, .int i3), (5, .int i4)]) rfl ?_
  refine ax_goto (pc := 121) C 33 d_MM_feed_121 (by decide) ?_
  refine ax_iload (pc := 33) C d_MM_feed_33 0 rfl ?_
  refine ax_bipush (pc := 35) C 20 d_MM_feed_35 (by decide +kernel) ?_
  refine ax_icmp_ge (pc := 37) C 124 d_MM_feed_37 (by decide) (fun h => absurd h (by decide)) (fun _ => ?_)
  refine ax_iload (pc := 40) C d_MM_feed_40 0 rfl ?_
  refine ax_iconst (pc := 42) C 4 d_MM_feed_42 (by decide +kernel) ?_
  refine ax_icmp_ge (pc := 43) C 50 d_MM_feed_43 (by decide) (fun _ => ?_) (fun h => absurd h (by decide))
  refine ax_iload (pc := 50) C d_MM_feed_50 0 rfl ?_
  refine ax_bipush (pc := 52) C 8 d_MM_feed_52 (by decide +kernel) ?_
  refine ax_icmp_ge (pc := 54) C 61 d_MM_feed_54 (by decide) (fun _ => ?_) (fun h => absurd h (by decide))
  refine ax_iload (pc := 61) C d_MM_feed_61 0 rfl ?_
  refine ax_bipush (pc := 63) C 12 d_MM_feed_63 (by decide +kernel) ?_
  refine ax_icmp_ge (pc := 65) C 72 d_MM_feed_65 (by decide) (fun _ => ?_) (fun h => absurd h (by decide))
  refine ax_iload (pc := 72) C d_MM_feed_72 0 rfl ?_
  refine ax_bipush (pc := 74) C 16 d_MM_feed_74 (by decide +kernel) ?_
  refine ax_icmp_ge (pc := 76) C 84 d_MM_feed_76 (by decide) (fun h => absurd h (by decide)) (fun _ => ?_)
  refine ax_iload (pc := 79) C d_MM_feed_79 6 rfl ?_
  refine ax_goto (pc := 81) C 86 d_MM_feed_81 (by decide) ?_
  refine ax_istore (pc := 86) C d_MM_feed_86 (Nat.le_of_ble_eq_true rfl) ([(7, .int i3), (6, .int 15), (0, .ref a0), (1, .int i0), (2, .int i1), (3, .int i2), (4, .int i3), (5, .int i4)]) rfl ?_
  refine ax_aload_n (pc := 88) C d_MM_feed_88 rfl 2 rfl ?_
  refine ax_get (pc := 89) C k_MM 0 lk_MM_8 d_MM_feed_89 (Nat.le_of_ble_eq_true rfl) 0 rfl rfl ?_
  refine ax_aload_n (pc := 92) C d_MM_feed_92 rfl 2 rfl ?_
  refine ax_dup (pc := 93) C d_MM_feed_93 rfl ?_
  refine ax_get (pc := 94) C k_MM 2 lk_MM_17 d_MM_feed_94 (Nat.le_of_ble_eq_true rfl) 0 rfl rfl ?_
  refine ax_dup_x1 (pc := 97) C d_MM_feed_97 rfl rfl ?_
  refine ax_iconst (pc := 98) C 1 d_MM_feed_98 (by decide +kernel) ?_
  refine ax_iadd (pc := 99) C d_MM_feed_99 ?_
  refine ax_nrm 16 (by decide) ?_
  refine ax_put (pc := 100) C k_MM 2 lk_MM_17 d_MM_feed_100 (Nat.le_of_ble_eq_true rfl) 0 rfl rfl rfl rfl (Nat.le_of_ble_eq_true rfl) ?_
  refine ax_w ([(a0, .inr (12, [.ref a1, .ref b0, .int 16, .int 0, .int 0, .int 0, .int 0, .int 0, .int 0, .int 0, .int 0, .int 0, .int 0, .ref b1, .ref b2, .ref b3, .ref b4, .ref b5, .int 0, .int 1, .int 0, .ref b6, .ref b7, .ref b8, .ref b9, .int 0, .ref b10, .ref b11, .int 0, .int 0, .ref b12, .ref b13, .ref b14, .ref b15, .ref b16, .ref b17, .ref b18, .int 0, .int 0, .int 0, .int 0, .ref b19, .ref b20, .ref b21, .ref b22, .ref b23, .ref b24, .int 0, .ref b25, .ref b26, .ref b27, .ref b28, .ref b29, .ref b30, .ref b31, .int 0, .int 0, .ref b32, .ref b33, .ref b34, .ref b35, .ref b36, .int 0, .ref b37, .ref b38, .int 0, .ref b39, .ref b40, .ref b41, .ref b42, .ref b43, .ref b44, .int 0, .ref b45, .ref b46, .ref b47, .ref b48, .ref b49, .ref b50, .ref b51, .ref b52, .ref b53, .ref b54, .ref b55, .int 0, .int 0, .int 0, .int 0, .int (-1), .int 0, .int 0, .int 0, .int 0, .int 0, .int 0, .ref b56, .ref b57, .ref b58, .int 0, .ref b59, .ref b60, .int 0, .ref b61, .ref b62, .ref b63, .int 0, .ref b64, .ref b65, .ref b66, .ref b67, .ref b68, .ref b69, .int 0, .int (-1), .int 0, .ref b70, .int (-1), .int (-1), .int (-1), .ref b71, .int 0, .ref b72, .int 0, .ref b73, .int 0, .int 0, .ref b74])), (a1, .inl (kA 2, 65536, .inl (upd (upd (upd (upd (upd (upd (upd (upd (upd (upd (upd (upd (upd (upd (upd (fun _ => 0) (Int32.toNatClampNeg 0) (vp_nar .byte ((((i0 : Int32).toUInt32 >>> ((24 : Int32).toUInt32 &&& Int32.toUInt32 31)).toInt32).toInt8.toInt32))) (Int32.toNatClampNeg 1) (vp_nar .byte ((((i0 : Int32).toUInt32 >>> ((16 : Int32).toUInt32 &&& Int32.toUInt32 31)).toInt32).toInt8.toInt32))) (Int32.toNatClampNeg 2) (vp_nar .byte ((((i0 : Int32).toUInt32 >>> ((8 : Int32).toUInt32 &&& Int32.toUInt32 31)).toInt32).toInt8.toInt32))) (Int32.toNatClampNeg 3) (vp_nar .byte ((((i0 : Int32).toUInt32 >>> ((0 : Int32).toUInt32 &&& Int32.toUInt32 31)).toInt32).toInt8.toInt32))) (Int32.toNatClampNeg 4) (vp_nar .byte ((((i1 : Int32).toUInt32 >>> ((24 : Int32).toUInt32 &&& Int32.toUInt32 31)).toInt32).toInt8.toInt32))) (Int32.toNatClampNeg 5) (vp_nar .byte ((((i1 : Int32).toUInt32 >>> ((16 : Int32).toUInt32 &&& Int32.toUInt32 31)).toInt32).toInt8.toInt32))) (Int32.toNatClampNeg 6) (vp_nar .byte ((((i1 : Int32).toUInt32 >>> ((8 : Int32).toUInt32 &&& Int32.toUInt32 31)).toInt32).toInt8.toInt32))) (Int32.toNatClampNeg 7) (vp_nar .byte ((((i1 : Int32).toUInt32 >>> ((0 : Int32).toUInt32 &&& Int32.toUInt32 31)).toInt32).toInt8.toInt32))) (Int32.toNatClampNeg 8) (vp_nar .byte ((((i2 : Int32).toUInt32 >>> ((24 : Int32).toUInt32 &&& Int32.toUInt32 31)).toInt32).toInt8.toInt32))) (Int32.toNatClampNeg 9) (vp_nar .byte ((((i2 : Int32).toUInt32 >>> ((16 : Int32).toUInt32 &&& Int32.toUInt32 31)).toInt32).toInt8.toInt32))) (Int32.toNatClampNeg 10) (vp_nar .byte ((((i2 : Int32).toUInt32 >>> ((8 : Int32).toUInt32 &&& Int32.toUInt32 31)).toInt32).toInt8.toInt32))) (Int32.toNatClampNeg 11) (vp_nar .byte ((((i2 : Int32).toUInt32 >>> ((0 : Int32).toUInt32 &&& Int32.toUInt32 31)).toInt32).toInt8.toInt32))) (Int32.toNatClampNeg 12) (vp_nar .byte ((((i3 : Int32).toUInt32 >>> ((24 : Int32).toUInt32 &&& Int32.toUInt32 31)).toInt32).toInt8.toInt32))) (Int32.toNatClampNeg 13) (vp_nar .byte ((((i3 : Int32).toUInt32 >>> ((16 : Int32).toUInt32 &&& Int32.toUInt32 31)).toInt32).toInt8.toInt32))) (Int32.toNatClampNeg 14) (vp_nar .byte ((((i3 : Int32).toUInt32 >>> ((8 : Int32).toUInt32 &&& Int32.toUInt32 31)).toInt32).toInt8.toInt32)))))]) rfl ?_
  refine ax_iload (pc := 103) C d_MM_feed_103 0 rfl ?_
  refine ax_bipush (pc := 105) C 24 d_MM_feed_105 (by decide +kernel) ?_
  refine ax_bipush (pc := 107) C 8 d_MM_feed_107 (by decide +kernel) ?_
  refine ax_iload (pc := 109) C d_MM_feed_109 1 rfl ?_
  refine ax_iconst (pc := 111) C 4 d_MM_feed_111 (by decide +kernel) ?_
  refine ax_irem (pc := 112) C d_MM_feed_112 (by decide) ?_
  refine ax_nrm 3 (by decide) ?_
  refine ax_imul (pc := 113) C d_MM_feed_113 ?_
  refine ax_nrm 24 (by decide) ?_
  refine ax_isub (pc := 114) C d_MM_feed_114 ?_
  refine ax_nrm 0 (by decide) ?_
  refine ax_iushr (pc := 115) C (((i3 : Int32).toUInt32 >>> ((0 : Int32).toUInt32 &&& Int32.toUInt32 31)).toInt32) d_MM_feed_115 rfl ?_
  refine ax_i2b (pc := 116) C ((((i3 : Int32).toUInt32 >>> ((0 : Int32).toUInt32 &&& Int32.toUInt32 31)).toInt32).toInt8.toInt32) d_MM_feed_116 rfl ?_
  refine ax_bast (pc := 117) C 1 rfl d_MM_feed_117 (by unfold vp_in; decide) ?_
  refine ax_w ([(a0, .inr (12, [.ref a1, .ref b0, .int 16, .int 0, .int 0, .int 0, .int 0, .int 0, .int 0, .int 0, .int 0, .int 0, .int 0, .ref b1, .ref b2, .ref b3, .ref b4, .ref b5, .int 0, .int 1, .int 0, .ref b6, .ref b7, .ref b8, .ref b9, .int 0, .ref b10, .ref b11, .int 0, .int 0, .ref b12, .ref b13, .ref b14, .ref b15, .ref b16, .ref b17, .ref b18, .int 0, .int 0, .int 0, .int 0, .ref b19, .ref b20, .ref b21, .ref b22, .ref b23, .ref b24, .int 0, .ref b25, .ref b26, .ref b27, .ref b28, .ref b29, .ref b30, .ref b31, .int 0, .int 0, .ref b32, .ref b33, .ref b34, .ref b35, .ref b36, .int 0, .ref b37, .ref b38, .int 0, .ref b39, .ref b40, .ref b41, .ref b42, .ref b43, .ref b44, .int 0, .ref b45, .ref b46, .ref b47, .ref b48, .ref b49, .ref b50, .ref b51, .ref b52, .ref b53, .ref b54, .ref b55, .int 0, .int 0, .int 0, .int 0, .int (-1), .int 0, .int 0, .int 0, .int 0, .int 0, .int 0, .ref b56, .ref b57, .ref b58, .int 0, .ref b59, .ref b60, .int 0, .ref b61, .ref b62, .ref b63, .int 0, .ref b64, .ref b65, .ref b66, .ref b67, .ref b68, .ref b69, .int 0, .int (-1), .int 0, .ref b70, .int (-1), .int (-1), .int (-1), .ref b71, .int 0, .ref b72, .int 0, .ref b73, .int 0, .int 0, .ref b74])), (a1, .inl (kA 2, 65536, .inl (upd (upd (upd (upd (upd (upd (upd (upd (upd (upd (upd (upd (upd (upd (upd (upd (fun _ => 0) (Int32.toNatClampNeg 0) (vp_nar .byte ((((i0 : Int32).toUInt32 >>> ((24 : Int32).toUInt32 &&& Int32.toUInt32 31)).toInt32).toInt8.toInt32))) (Int32.toNatClampNeg 1) (vp_nar .byte ((((i0 : Int32).toUInt32 >>> ((16 : Int32).toUInt32 &&& Int32.toUInt32 31)).toInt32).toInt8.toInt32))) (Int32.toNatClampNeg 2) (vp_nar .byte ((((i0 : Int32).toUInt32 >>> ((8 : Int32).toUInt32 &&& Int32.toUInt32 31)).toInt32).toInt8.toInt32))) (Int32.toNatClampNeg 3) (vp_nar .byte ((((i0 : Int32).toUInt32 >>> ((0 : Int32).toUInt32 &&& Int32.toUInt32 31)).toInt32).toInt8.toInt32))) (Int32.toNatClampNeg 4) (vp_nar .byte ((((i1 : Int32).toUInt32 >>> ((24 : Int32).toUInt32 &&& Int32.toUInt32 31)).toInt32).toInt8.toInt32))) (Int32.toNatClampNeg 5) (vp_nar .byte ((((i1 : Int32).toUInt32 >>> ((16 : Int32).toUInt32 &&& Int32.toUInt32 31)).toInt32).toInt8.toInt32))) (Int32.toNatClampNeg 6) (vp_nar .byte ((((i1 : Int32).toUInt32 >>> ((8 : Int32).toUInt32 &&& Int32.toUInt32 31)).toInt32).toInt8.toInt32))) (Int32.toNatClampNeg 7) (vp_nar .byte ((((i1 : Int32).toUInt32 >>> ((0 : Int32).toUInt32 &&& Int32.toUInt32 31)).toInt32).toInt8.toInt32))) (Int32.toNatClampNeg 8) (vp_nar .byte ((((i2 : Int32).toUInt32 >>> ((24 : Int32).toUInt32 &&& Int32.toUInt32 31)).toInt32).toInt8.toInt32))) (Int32.toNatClampNeg 9) (vp_nar .byte ((((i2 : Int32).toUInt32 >>> ((16 : Int32).toUInt32 &&& Int32.toUInt32 31)).toInt32).toInt8.toInt32))) (Int32.toNatClampNeg 10) (vp_nar .byte ((((i2 : Int32).toUInt32 >>> ((8 : Int32).toUInt32 &&& Int32.toUInt32 31)).toInt32).toInt8.toInt32))) (Int32.toNatClampNeg 11) (vp_nar .byte ((((i2 : Int32).toUInt32 >>> ((0 : Int32).toUInt32 &&& Int32.toUInt32 31)).toInt32).toInt8.toInt32))) (Int32.toNatClampNeg 12) (vp_nar .byte ((((i3 : Int32).toUInt32 >>> ((24 : Int32).toUInt32 &&& Int32.toUInt32 31)).toInt32).toInt8.toInt32))) (Int32.toNatClampNeg 13) (vp_nar .byte ((((i3 : Int32).toUInt32 >>> ((16 : Int32).toUInt32 &&& Int32.toUInt32 31)).toInt32).toInt8.toInt32))) (Int32.toNatClampNeg 14) (vp_nar .byte ((((i3 : Int32).toUInt32 >>> ((8 : Int32).toUInt32 &&& Int32.toUInt32 31)).toInt32).toInt8.toInt32))) (Int32.toNatClampNeg 15) (vp_nar .byte ((((i3 : Int32).toUInt32 >>> ((0 : Int32).toUInt32 &&& Int32.toUInt32 31)).toInt32).toInt8.toInt32)))))]) rfl ?_
  refine ax_iinc (pc := 118) C (16) d_MM_feed_118 1 rfl (by decide) (Nat.le_of_ble_eq_true rfl) ([(6, .int 16), (7, .int i3), (0, .ref a0), (1, .int i0), (2, .int i1), (3, .int i2), (4, .int i3), (5, .int i4)]) rfl ?_
  refine ax_goto (pc := 121) C 33 d_MM_feed_121 (by decide) ?_
  refine ax_iload (pc := 33) C d_MM_feed_33 0 rfl ?_
  refine ax_bipush (pc := 35) C 20 d_MM_feed_35 (by decide +kernel) ?_
  refine ax_icmp_ge (pc := 37) C 124 d_MM_feed_37 (by decide) (fun h => absurd h (by decide)) (fun _ => ?_)
  refine ax_iload (pc := 40) C d_MM_feed_40 0 rfl ?_
  refine ax_iconst (pc := 42) C 4 d_MM_feed_42 (by decide +kernel) ?_
  refine ax_icmp_ge (pc := 43) C 50 d_MM_feed_43 (by decide) (fun _ => ?_) (fun h => absurd h (by decide))
  refine ax_iload (pc := 50) C d_MM_feed_50 0 rfl ?_
  refine ax_bipush (pc := 52) C 8 d_MM_feed_52 (by decide +kernel) ?_
  refine ax_icmp_ge (pc := 54) C 61 d_MM_feed_54 (by decide) (fun _ => ?_) (fun h => absurd h (by decide))
  refine ax_iload (pc := 61) C d_MM_feed_61 0 rfl ?_
  refine ax_bipush (pc := 63) C 12 d_MM_feed_63 (by decide +kernel) ?_
  refine ax_icmp_ge (pc := 65) C 72 d_MM_feed_65 (by decide) (fun _ => ?_) (fun h => absurd h (by decide))
  refine ax_iload (pc := 72) C d_MM_feed_72 0 rfl ?_
  refine ax_bipush (pc := 74) C 16 d_MM_feed_74 (by decide +kernel) ?_
  refine ax_icmp_ge (pc := 76) C 84 d_MM_feed_76 (by decide) (fun _ => ?_) (fun h => absurd h (by decide))
  refine ax_iload (pc := 84) C d_MM_feed_84 7 rfl ?_
  refine ax_istore (pc := 86) C d_MM_feed_86 (Nat.le_of_ble_eq_true rfl) ([(7, .int i4), (6, .int 16), (0, .ref a0), (1, .int i0), (2, .int i1), (3, .int i2), (4, .int i3), (5, .int i4)]) rfl ?_
  refine ax_aload_n (pc := 88) C d_MM_feed_88 rfl 2 rfl ?_
  refine ax_get (pc := 89) C k_MM 0 lk_MM_8 d_MM_feed_89 (Nat.le_of_ble_eq_true rfl) 0 rfl rfl ?_
  refine ax_aload_n (pc := 92) C d_MM_feed_92 rfl 2 rfl ?_
  refine ax_dup (pc := 93) C d_MM_feed_93 rfl ?_
  refine ax_get (pc := 94) C k_MM 2 lk_MM_17 d_MM_feed_94 (Nat.le_of_ble_eq_true rfl) 0 rfl rfl ?_
  refine ax_dup_x1 (pc := 97) C d_MM_feed_97 rfl rfl ?_
  refine ax_iconst (pc := 98) C 1 d_MM_feed_98 (by decide +kernel) ?_
  refine ax_iadd (pc := 99) C d_MM_feed_99 ?_
  refine ax_nrm 17 (by decide) ?_
  refine ax_put (pc := 100) C k_MM 2 lk_MM_17 d_MM_feed_100 (Nat.le_of_ble_eq_true rfl) 0 rfl rfl rfl rfl (Nat.le_of_ble_eq_true rfl) ?_
  refine ax_w ([(a0, .inr (12, [.ref a1, .ref b0, .int 17, .int 0, .int 0, .int 0, .int 0, .int 0, .int 0, .int 0, .int 0, .int 0, .int 0, .ref b1, .ref b2, .ref b3, .ref b4, .ref b5, .int 0, .int 1, .int 0, .ref b6, .ref b7, .ref b8, .ref b9, .int 0, .ref b10, .ref b11, .int 0, .int 0, .ref b12, .ref b13, .ref b14, .ref b15, .ref b16, .ref b17, .ref b18, .int 0, .int 0, .int 0, .int 0, .ref b19, .ref b20, .ref b21, .ref b22, .ref b23, .ref b24, .int 0, .ref b25, .ref b26, .ref b27, .ref b28, .ref b29, .ref b30, .ref b31, .int 0, .int 0, .ref b32, .ref b33, .ref b34, .ref b35, .ref b36, .int 0, .ref b37, .ref b38, .int 0, .ref b39, .ref b40, .ref b41, .ref b42, .ref b43, .ref b44, .int 0, .ref b45, .ref b46, .ref b47, .ref b48, .ref b49, .ref b50, .ref b51, .ref b52, .ref b53, .ref b54, .ref b55, .int 0, .int 0, .int 0, .int 0, .int (-1), .int 0, .int 0, .int 0, .int 0, .int 0, .int 0, .ref b56, .ref b57, .ref b58, .int 0, .ref b59, .ref b60, .int 0, .ref b61, .ref b62, .ref b63, .int 0, .ref b64, .ref b65, .ref b66, .ref b67, .ref b68, .ref b69, .int 0, .int (-1), .int 0, .ref b70, .int (-1), .int (-1), .int (-1), .ref b71, .int 0, .ref b72, .int 0, .ref b73, .int 0, .int 0, .ref b74])), (a1, .inl (kA 2, 65536, .inl (upd (upd (upd (upd (upd (upd (upd (upd (upd (upd (upd (upd (upd (upd (upd (upd (fun _ => 0) (Int32.toNatClampNeg 0) (vp_nar .byte ((((i0 : Int32).toUInt32 >>> ((24 : Int32).toUInt32 &&& Int32.toUInt32 31)).toInt32).toInt8.toInt32))) (Int32.toNatClampNeg 1) (vp_nar .byte ((((i0 : Int32).toUInt32 >>> ((16 : Int32).toUInt32 &&& Int32.toUInt32 31)).toInt32).toInt8.toInt32))) (Int32.toNatClampNeg 2) (vp_nar .byte ((((i0 : Int32).toUInt32 >>> ((8 : Int32).toUInt32 &&& Int32.toUInt32 31)).toInt32).toInt8.toInt32))) (Int32.toNatClampNeg 3) (vp_nar .byte ((((i0 : Int32).toUInt32 >>> ((0 : Int32).toUInt32 &&& Int32.toUInt32 31)).toInt32).toInt8.toInt32))) (Int32.toNatClampNeg 4) (vp_nar .byte ((((i1 : Int32).toUInt32 >>> ((24 : Int32).toUInt32 &&& Int32.toUInt32 31)).toInt32).toInt8.toInt32))) (Int32.toNatClampNeg 5) (vp_nar .byte ((((i1 : Int32).toUInt32 >>> ((16 : Int32).toUInt32 &&& Int32.toUInt32 31)).toInt32).toInt8.toInt32))) (Int32.toNatClampNeg 6) (vp_nar .byte ((((i1 : Int32).toUInt32 >>> ((8 : Int32).toUInt32 &&& Int32.toUInt32 31)).toInt32).toInt8.toInt32))) (Int32.toNatClampNeg 7) (vp_nar .byte ((((i1 : Int32).toUInt32 >>> ((0 : Int32).toUInt32 &&& Int32.toUInt32 31)).toInt32).toInt8.toInt32))) (Int32.toNatClampNeg 8) (vp_nar .byte ((((i2 : Int32).toUInt32 >>> ((24 : Int32).toUInt32 &&& Int32.toUInt32 31)).toInt32).toInt8.toInt32))) (Int32.toNatClampNeg 9) (vp_nar .byte ((((i2 : Int32).toUInt32 >>> ((16 : Int32).toUInt32 &&& Int32.toUInt32 31)).toInt32).toInt8.toInt32))) (Int32.toNatClampNeg 10) (vp_nar .byte ((((i2 : Int32).toUInt32 >>> ((8 : Int32).toUInt32 &&& Int32.toUInt32 31)).toInt32).toInt8.toInt32))) (Int32.toNatClampNeg 11) (vp_nar .byte ((((i2 : Int32).toUInt32 >>> ((0 : Int32).toUInt32 &&& Int32.toUInt32 31)).toInt32).toInt8.toInt32))) (Int32.toNatClampNeg 12) (vp_nar .byte ((((i3 : Int32).toUInt32 >>> ((24 : Int32).toUInt32 &&& Int32.toUInt32 31)).toInt32).toInt8.toInt32))) (Int32.toNatClampNeg 13) (vp_nar .byte ((((i3 : Int32).toUInt32 >>> ((16 : Int32).toUInt32 &&& Int32.toUInt32 31)).toInt32).toInt8.toInt32))) (Int32.toNatClampNeg 14) (vp_nar .byte ((((i3 : Int32).toUInt32 >>> ((8 : Int32).toUInt32 &&& Int32.toUInt32 31)).toInt32).toInt8.toInt32))) (Int32.toNatClampNeg 15) (vp_nar .byte ((((i3 : Int32).toUInt32 >>> ((0 : Int32).toUInt32 &&& Int32.toUInt32 31)).toInt32).toInt8.toInt32)))))]) rfl ?_
  refine ax_iload (pc := 103) C d_MM_feed_103 0 rfl ?_
  refine ax_bipush (pc := 105) C 24 d_MM_feed_105 (by decide +kernel) ?_
  refine ax_bipush (pc := 107) C 8 d_MM_feed_107 (by decide +kernel) ?_
  refine ax_iload (pc := 109) C d_MM_feed_109 1 rfl ?_
  refine ax_iconst (pc := 111) C 4 d_MM_feed_111 (by decide +kernel) ?_
  refine ax_irem (pc := 112) C d_MM_feed_112 (by decide) ?_
  refine ax_nrm 0 (by decide) ?_
  refine ax_imul (pc := 113) C d_MM_feed_113 ?_
  refine ax_nrm 0 (by decide) ?_
  refine ax_isub (pc := 114) C d_MM_feed_114 ?_
  refine ax_nrm 24 (by decide) ?_
  refine ax_iushr (pc := 115) C (((i4 : Int32).toUInt32 >>> ((24 : Int32).toUInt32 &&& Int32.toUInt32 31)).toInt32) d_MM_feed_115 rfl ?_
  refine ax_i2b (pc := 116) C ((((i4 : Int32).toUInt32 >>> ((24 : Int32).toUInt32 &&& Int32.toUInt32 31)).toInt32).toInt8.toInt32) d_MM_feed_116 rfl ?_
  refine ax_bast (pc := 117) C 1 rfl d_MM_feed_117 (by unfold vp_in; decide) ?_
  refine ax_w ([(a0, .inr (12, [.ref a1, .ref b0, .int 17, .int 0, .int 0, .int 0, .int 0, .int 0, .int 0, .int 0, .int 0, .int 0, .int 0, .ref b1, .ref b2, .ref b3, .ref b4, .ref b5, .int 0, .int 1, .int 0, .ref b6, .ref b7, .ref b8, .ref b9, .int 0, .ref b10, .ref b11, .int 0, .int 0, .ref b12, .ref b13, .ref b14, .ref b15, .ref b16, .ref b17, .ref b18, .int 0, .int 0, .int 0, .int 0, .ref b19, .ref b20, .ref b21, .ref b22, .ref b23, .ref b24, .int 0, .ref b25, .ref b26, .ref b27, .ref b28, .ref b29, .ref b30, .ref b31, .int 0, .int 0, .ref b32, .ref b33, .ref b34, .ref b35, .ref b36, .int 0, .ref b37, .ref b38, .int 0, .ref b39, .ref b40, .ref b41, .ref b42, .ref b43, .ref b44, .int 0, .ref b45, .ref b46, .ref b47, .ref b48, .ref b49, .ref b50, .ref b51, .ref b52, .ref b53, .ref b54, .ref b55, .int 0, .int 0, .int 0, .int 0, .int (-1), .int 0, .int 0, .int 0, .int 0, .int 0, .int 0, .ref b56, .ref b57, .ref b58, .int 0, .ref b59, .ref b60, .int 0, .ref b61, .ref b62, .ref b63, .int 0, .ref b64, .ref b65, .ref b66, .ref b67, .ref b68, .ref b69, .int 0, .int (-1), .int 0, .ref b70, .int (-1), .int (-1), .int (-1), .ref b71, .int 0, .ref b72, .int 0, .ref b73, .int 0, .int 0, .ref b74])), (a1, .inl (kA 2, 65536, .inl (upd (upd (upd (upd (upd (upd (upd (upd (upd (upd (upd (upd (upd (upd (upd (upd (upd (fun _ => 0) (Int32.toNatClampNeg 0) (vp_nar .byte ((((i0 : Int32).toUInt32 >>> ((24 : Int32).toUInt32 &&& Int32.toUInt32 31)).toInt32).toInt8.toInt32))) (Int32.toNatClampNeg 1) (vp_nar .byte ((((i0 : Int32).toUInt32 >>> ((16 : Int32).toUInt32 &&& Int32.toUInt32 31)).toInt32).toInt8.toInt32))) (Int32.toNatClampNeg 2) (vp_nar .byte ((((i0 : Int32).toUInt32 >>> ((8 : Int32).toUInt32 &&& Int32.toUInt32 31)).toInt32).toInt8.toInt32))) (Int32.toNatClampNeg 3) (vp_nar .byte ((((i0 : Int32).toUInt32 >>> ((0 : Int32).toUInt32 &&& Int32.toUInt32 31)).toInt32).toInt8.toInt32))) (Int32.toNatClampNeg 4) (vp_nar .byte ((((i1 : Int32).toUInt32 >>> ((24 : Int32).toUInt32 &&& Int32.toUInt32 31)).toInt32).toInt8.toInt32))) (Int32.toNatClampNeg 5) (vp_nar .byte ((((i1 : Int32).toUInt32 >>> ((16 : Int32).toUInt32 &&& Int32.toUInt32 31)).toInt32).toInt8.toInt32))) (Int32.toNatClampNeg 6) (vp_nar .byte ((((i1 : Int32).toUInt32 >>> ((8 : Int32).toUInt32 &&& Int32.toUInt32 31)).toInt32).toInt8.toInt32))) (Int32.toNatClampNeg 7) (vp_nar .byte ((((i1 : Int32).toUInt32 >>> ((0 : Int32).toUInt32 &&& Int32.toUInt32 31)).toInt32).toInt8.toInt32))) (Int32.toNatClampNeg 8) (vp_nar .byte ((((i2 : Int32).toUInt32 >>> ((24 : Int32).toUInt32 &&& Int32.toUInt32 31)).toInt32).toInt8.toInt32))) (Int32.toNatClampNeg 9) (vp_nar .byte ((((i2 : Int32).toUInt32 >>> ((16 : Int32).toUInt32 &&& Int32.toUInt32 31)).toInt32).toInt8.toInt32))) (Int32.toNatClampNeg 10) (vp_nar .byte ((((i2 : Int32).toUInt32 >>> ((8 : Int32).toUInt32 &&& Int32.toUInt32 31)).toInt32).toInt8.toInt32))) (Int32.toNatClampNeg 11) (vp_nar .byte ((((i2 : Int32).toUInt32 >>> ((0 : Int32).toUInt32 &&& Int32.toUInt32 31)).toInt32).toInt8.toInt32))) (Int32.toNatClampNeg 12) (vp_nar .byte ((((i3 : Int32).toUInt32 >>> ((24 : Int32).toUInt32 &&& Int32.toUInt32 31)).toInt32).toInt8.toInt32))) (Int32.toNatClampNeg 13) (vp_nar .byte ((((i3 : Int32).toUInt32 >>> ((16 : Int32).toUInt32 &&& Int32.toUInt32 31)).toInt32).toInt8.toInt32))) (Int32.toNatClampNeg 14) (vp_nar .byte ((((i3 : Int32).toUInt32 >>> ((8 : Int32).toUInt32 &&& Int32.toUInt32 31)).toInt32).toInt8.toInt32))) (Int32.toNatClampNeg 15) (vp_nar .byte ((((i3 : Int32).toUInt32 >>> ((0 : Int32).toUInt32 &&& Int32.toUInt32 31)).toInt32).toInt8.toInt32))) (Int32.toNatClampNeg 16) (vp_nar .byte ((((i4 : Int32).toUInt32 >>> ((24 : Int32).toUInt32 &&& Int32.toUInt32 31)).toInt32).toInt8.toInt32)))))]) rfl ?_
  refine ax_iinc (pc := 118) C (17) d_MM_feed_118 1 rfl (by decide) (Nat.le_of_ble_eq_true rfl) ([(6, .int 17), (7, .int i4), (0, .ref a0), (1, .int i0), (2, .int i1), (3, .int i2), (4, .int i3), (5, .int i4)]) rfl ?_
  refine ax_goto (pc := 121) C 33 d_MM_feed_121 (by decide) ?_
  refine ax_iload (pc := 33) C d_MM_feed_33 0 rfl ?_
  refine ax_bipush (pc := 35) C 20 d_MM_feed_35 (by decide +kernel) ?_
  refine ax_icmp_ge (pc := 37) C 124 d_MM_feed_37 (by decide) (fun h => absurd h (by decide)) (fun _ => ?_)
  refine ax_iload (pc := 40) C d_MM_feed_40 0 rfl ?_
  refine ax_iconst (pc := 42) C 4 d_MM_feed_42 (by decide +kernel) ?_
  refine ax_icmp_ge (pc := 43) C 50 d_MM_feed_43 (by decide) (fun _ => ?_) (fun h => absurd h (by decide))
  refine ax_iload (pc := 50) C d_MM_feed_50 0 rfl ?_
  refine ax_bipush (pc := 52) C 8 d_MM_feed_52 (by decide +kernel) ?_
  refine ax_icmp_ge (pc := 54) C 61 d_MM_feed_54 (by decide) (fun _ => ?_) (fun h => absurd h (by decide))
  refine ax_iload (pc := 61) C d_MM_feed_61 0 rfl ?_
  refine ax_bipush (pc := 63) C 12 d_MM_feed_63 (by decide +kernel) ?_
  refine ax_icmp_ge (pc := 65) C 72 d_MM_feed_65 (by decide) (fun _ => ?_) (fun h => absurd h (by decide))
  refine ax_iload (pc := 72) C d_MM_feed_72 0 rfl ?_
  refine ax_bipush (pc := 74) C 16 d_MM_feed_74 (by decide +kernel) ?_
  refine ax_icmp_ge (pc := 76) C 84 d_MM_feed_76 (by decide) (fun _ => ?_) (fun h => absurd h (by decide))
  refine ax_iload (pc := 84) C d_MM_feed_84 7 rfl ?_
  refine ax_istore (pc := 86) C d_MM_feed_86 (Nat.le_of_ble_eq_true rfl) ([(7, .int i4), (6, .int 17), (0, .ref a0), (1, .int i0), (2, .int i1), (3, .int i2), (4, .int i3), (5, .int i4)]) rfl ?_
  refine ax_aload_n (pc := 88) C d_MM_feed_88 rfl 2 rfl ?_
  refine ax_get (pc := 89) C k_MM 0 lk_MM_8 d_MM_feed_89 (Nat.le_of_ble_eq_true rfl) 0 rfl rfl ?_
  refine ax_aload_n (pc := 92) C d_MM_feed_92 rfl 2 rfl ?_
  refine ax_dup (pc := 93) C d_MM_feed_93 rfl ?_
  refine ax_get (pc := 94) C k_MM 2 lk_MM_17 d_MM_feed_94 (Nat.le_of_ble_eq_true rfl) 0 rfl rfl ?_
  refine ax_dup_x1 (pc := 97) C d_MM_feed_97 rfl rfl ?_
  refine ax_iconst (pc := 98) C 1 d_MM_feed_98 (by decide +kernel) ?_
  refine ax_iadd (pc := 99) C d_MM_feed_99 ?_
  refine ax_nrm 18 (by decide) ?_
  refine ax_put (pc := 100) C k_MM 2 lk_MM_17 d_MM_feed_100 (Nat.le_of_ble_eq_true rfl) 0 rfl rfl rfl rfl (Nat.le_of_ble_eq_true rfl) ?_
  refine ax_w ([(a0, .inr (12, [.ref a1, .ref b0, .int 18, .int 0, .int 0, .int 0, .int 0, .int 0, .int 0, .int 0, .int 0, .int 0, .int 0, .ref b1, .ref b2, .ref b3, .ref b4, .ref b5, .int 0, .int 1, .int 0, .ref b6, .ref b7, .ref b8, .ref b9, .int 0, .ref b10, .ref b11, .int 0, .int 0, .ref b12, .ref b13, .ref b14, .ref b15, .ref b16, .ref b17, .ref b18, .int 0, .int 0, .int 0, .int 0, .ref b19, .ref b20, .ref b21, .ref b22, .ref b23, .ref b24, .int 0, .ref b25, .ref b26, .ref b27, .ref b28, .ref b29, .ref b30, .ref b31, .int 0, .int 0, .ref b32, .ref b33, .ref b34, .ref b35, .ref b36, .int 0, .ref b37, .ref b38, .int 0, .ref b39, .ref b40, .ref b41, .ref b42, .ref b43, .ref b44, .int 0, .ref b45, .ref b46, .ref b47, .ref b48, .ref b49, .ref b50, .ref b51, .ref b52, .ref b53, .ref b54, .ref b55, .int 0, .int 0, .int 0, .int 0, .int (-1), .int 0, .int 0, .int 0, .int 0, .int 0, .int 0, .ref b56, .ref b57, .ref b58, .int 0, .ref b59, .ref b60, .int 0, .ref b61, .ref b62, .ref b63, .int 0, .ref b64, .ref b65, .ref b66, .ref b67, .ref b68, .ref b69, .int 0, .int (-1), .int 0, .ref b70, .int (-1), .int (-1), .int (-1), .ref b71, .int 0, .ref b72, .int 0, .ref b73, .int 0, .int 0, .ref b74])), (a1, .inl (kA 2, 65536, .inl (upd (upd (upd (upd (upd (upd (upd (upd (upd (upd (upd (upd (upd (upd (upd (upd (upd (fun _ => 0) (Int32.toNatClampNeg 0) (vp_nar .byte ((((i0 : Int32).toUInt32 >>> ((24 : Int32).toUInt32 &&& Int32.toUInt32 31)).toInt32).toInt8.toInt32))) (Int32.toNatClampNeg 1) (vp_nar .byte ((((i0 : Int32).toUInt32 >>> ((16 : Int32).toUInt32 &&& Int32.toUInt32 31)).toInt32).toInt8.toInt32))) (Int32.toNatClampNeg 2) (vp_nar .byte ((((i0 : Int32).toUInt32 >>> ((8 : Int32).toUInt32 &&& Int32.toUInt32 31)).toInt32).toInt8.toInt32))) (Int32.toNatClampNeg 3) (vp_nar .byte ((((i0 : Int32).toUInt32 >>> ((0 : Int32).toUInt32 &&& Int32.toUInt32 31)).toInt32).toInt8.toInt32))) (Int32.toNatClampNeg 4) (vp_nar .byte ((((i1 : Int32).toUInt32 >>> ((24 : Int32).toUInt32 &&& Int32.toUInt32 31)).toInt32).toInt8.toInt32))) (Int32.toNatClampNeg 5) (vp_nar .byte ((((i1 : Int32).toUInt32 >>> ((16 : Int32).toUInt32 &&& Int32.toUInt32 31)).toInt32).toInt8.toInt32))) (Int32.toNatClampNeg 6) (vp_nar .byte ((((i1 : Int32).toUInt32 >>> ((8 : Int32).toUInt32 &&& Int32.toUInt32 31)).toInt32).toInt8.toInt32))) (Int32.toNatClampNeg 7) (vp_nar .byte ((((i1 : Int32).toUInt32 >>> ((0 : Int32).toUInt32 &&& Int32.toUInt32 31)).toInt32).toInt8.toInt32))) (Int32.toNatClampNeg 8) (vp_nar .byte ((((i2 : Int32).toUInt32 >>> ((24 : Int32).toUInt32 &&& Int32.toUInt32 31)).toInt32).toInt8.toInt32))) (Int32.toNatClampNeg 9) (vp_nar .byte ((((i2 : Int32).toUInt32 >>> ((16 : Int32).toUInt32 &&& Int32.toUInt32 31)).toInt32).toInt8.toInt32))) (Int32.toNatClampNeg 10) (vp_nar .byte ((((i2 : Int32).toUInt32 >>> ((8 : Int32).toUInt32 &&& Int32.toUInt32 31)).toInt32).toInt8.toInt32))) (Int32.toNatClampNeg 11) (vp_nar .byte ((((i2 : Int32).toUInt32 >>> ((0 : Int32).toUInt32 &&& Int32.toUInt32 31)).toInt32).toInt8.toInt32))) (Int32.toNatClampNeg 12) (vp_nar .byte ((((i3 : Int32).toUInt32 >>> ((24 : Int32).toUInt32 &&& Int32.toUInt32 31)).toInt32).toInt8.toInt32))) (Int32.toNatClampNeg 13) (vp_nar .byte ((((i3 : Int32).toUInt32 >>> ((16 : Int32).toUInt32 &&& Int32.toUInt32 31)).toInt32).toInt8.toInt32))) (Int32.toNatClampNeg 14) (vp_nar .byte ((((i3 : Int32).toUInt32 >>> ((8 : Int32).toUInt32 &&& Int32.toUInt32 31)).toInt32).toInt8.toInt32))) (Int32.toNatClampNeg 15) (vp_nar .byte ((((i3 : Int32).toUInt32 >>> ((0 : Int32).toUInt32 &&& Int32.toUInt32 31)).toInt32).toInt8.toInt32))) (Int32.toNatClampNeg 16) (vp_nar .byte ((((i4 : Int32).toUInt32 >>> ((24 : Int32).toUInt32 &&& Int32.toUInt32 31)).toInt32).toInt8.toInt32)))))]) rfl ?_
  refine ax_iload (pc := 103) C d_MM_feed_103 0 rfl ?_
  refine ax_bipush (pc := 105) C 24 d_MM_feed_105 (by decide +kernel) ?_
  refine ax_bipush (pc := 107) C 8 d_MM_feed_107 (by decide +kernel) ?_
  refine ax_iload (pc := 109) C d_MM_feed_109 1 rfl ?_
  refine ax_iconst (pc := 111) C 4 d_MM_feed_111 (by decide +kernel) ?_
  refine ax_irem (pc := 112) C d_MM_feed_112 (by decide) ?_
  refine ax_nrm 1 (by decide) ?_
  refine ax_imul (pc := 113) C d_MM_feed_113 ?_
  refine ax_nrm 8 (by decide) ?_
  refine ax_isub (pc := 114) C d_MM_feed_114 ?_
  refine ax_nrm 16 (by decide) ?_
  refine ax_iushr (pc := 115) C (((i4 : Int32).toUInt32 >>> ((16 : Int32).toUInt32 &&& Int32.toUInt32 31)).toInt32) d_MM_feed_115 rfl ?_
  refine ax_i2b (pc := 116) C ((((i4 : Int32).toUInt32 >>> ((16 : Int32).toUInt32 &&& Int32.toUInt32 31)).toInt32).toInt8.toInt32) d_MM_feed_116 rfl ?_
  refine ax_bast (pc := 117) C 1 rfl d_MM_feed_117 (by unfold vp_in; decide) ?_
  refine ax_w ([(a0, .inr (12, [.ref a1, .ref b0, .int 18, .int 0, .int 0, .int 0, .int 0, .int 0, .int 0, .int 0, .int 0, .int 0, .int 0, .ref b1, .ref b2, .ref b3, .ref b4, .ref b5, .int 0, .int 1, .int 0, .ref b6, .ref b7, .ref b8, .ref b9, .int 0, .ref b10, .ref b11, .int 0, .int 0, .ref b12, .ref b13, .ref b14, .ref b15, .ref b16, .ref b17, .ref b18, .int 0, .int 0, .int 0, .int 0, .ref b19, .ref b20, .ref b21, .ref b22, .ref b23, .ref b24, .int 0, .ref b25, .ref b26, .ref b27, .ref b28, .ref b29, .ref b30, .ref b31, .int 0, .int 0, .ref b32, .ref b33, .ref b34, .ref b35, .ref b36, .int 0, .ref b37, .ref b38, .int 0, .ref b39, .ref b40, .ref b41, .ref b42, .ref b43, .ref b44, .int 0, .ref b45, .ref b46, .ref b47, .ref b48, .ref b49, .ref b50, .ref b51, .ref b52, .ref b53, .ref b54, .ref b55, .int 0, .int 0, .int 0, .int 0, .int (-1), .int 0, .int 0, .int 0, .int 0, .int 0, .int 0, .ref b56, .ref b57, .ref b58, .int 0, .ref b59, .ref b60, .int 0, .ref b61, .ref b62, .ref b63, .int 0, .ref b64, .ref b65, .ref b66, .ref b67, .ref b68, .ref b69, .int 0, .int (-1), .int 0, .ref b70, .int (-1), .int (-1), .int (-1), .ref b71, .int 0, .ref b72, .int 0, .ref b73, .int 0, .int 0, .ref b74])), (a1, .inl (kA 2, 65536, .inl (upd (upd (upd (upd (upd (upd (upd (upd (upd (upd (upd (upd (upd (upd (upd (upd (upd (upd (fun _ => 0) (Int32.toNatClampNeg 0) (vp_nar .byte ((((i0 : Int32).toUInt32 >>> ((24 : Int32).toUInt32 &&& Int32.toUInt32 31)).toInt32).toInt8.toInt32))) (Int32.toNatClampNeg 1) (vp_nar .byte ((((i0 : Int32).toUInt32 >>> ((16 : Int32).toUInt32 &&& Int32.toUInt32 31)).toInt32).toInt8.toInt32))) (Int32.toNatClampNeg 2) (vp_nar .byte ((((i0 : Int32).toUInt32 >>> ((8 : Int32).toUInt32 &&& Int32.toUInt32 31)).toInt32).toInt8.toInt32))) (Int32.toNatClampNeg 3) (vp_nar .byte ((((i0 : Int32).toUInt32 >>> ((0 : Int32).toUInt32 &&& Int32.toUInt32 31)).toInt32).toInt8.toInt32))) (Int32.toNatClampNeg 4) (vp_nar .byte ((((i1 : Int32).toUInt32 >>> ((24 : Int32).toUInt32 &&& Int32.toUInt32 31)).toInt32).toInt8.toInt32))) (Int32.toNatClampNeg 5) (vp_nar .byte ((((i1 : Int32).toUInt32 >>> ((16 : Int32).toUInt32 &&& Int32.toUInt32 31)).toInt32).toInt8.toInt32))) (Int32.toNatClampNeg 6) (vp_nar .byte ((((i1 : Int32).toUInt32 >>> ((8 : Int32).toUInt32 &&& Int32.toUInt32 31)).toInt32).toInt8.toInt32))) (Int32.toNatClampNeg 7) (vp_nar .byte ((((i1 : Int32).toUInt32 >>> ((0 : Int32).toUInt32 &&& Int32.toUInt32 31)).toInt32).toInt8.toInt32))) (Int32.toNatClampNeg 8) (vp_nar .byte ((((i2 : Int32).toUInt32 >>> ((24 : Int32).toUInt32 &&& Int32.toUInt32 31)).toInt32).toInt8.toInt32))) (Int32.toNatClampNeg 9) (vp_nar .byte ((((i2 : Int32).toUInt32 >>> ((16 : Int32).toUInt32 &&& Int32.toUInt32 31)).toInt32).toInt8.toInt32))) (Int32.toNatClampNeg 10) (vp_nar .byte ((((i2 : Int32).toUInt32 >>> ((8 : Int32).toUInt32 &&& Int32.toUInt32 31)).toInt32).toInt8.toInt32))) (Int32.toNatClampNeg 11) (vp_nar .byte ((((i2 : Int32).toUInt32 >>> ((0 : Int32).toUInt32 &&& Int32.toUInt32 31)).toInt32).toInt8.toInt32))) (Int32.toNatClampNeg 12) (vp_nar .byte ((((i3 : Int32).toUInt32 >>> ((24 : Int32).toUInt32 &&& Int32.toUInt32 31)).toInt32).toInt8.toInt32))) (Int32.toNatClampNeg 13) (vp_nar .byte ((((i3 : Int32).toUInt32 >>> ((16 : Int32).toUInt32 &&& Int32.toUInt32 31)).toInt32).toInt8.toInt32))) (Int32.toNatClampNeg 14) (vp_nar .byte ((((i3 : Int32).toUInt32 >>> ((8 : Int32).toUInt32 &&& Int32.toUInt32 31)).toInt32).toInt8.toInt32))) (Int32.toNatClampNeg 15) (vp_nar .byte ((((i3 : Int32).toUInt32 >>> ((0 : Int32).toUInt32 &&& Int32.toUInt32 31)).toInt32).toInt8.toInt32))) (Int32.toNatClampNeg 16) (vp_nar .byte ((((i4 : Int32).toUInt32 >>> ((24 : Int32).toUInt32 &&& Int32.toUInt32 31)).toInt32).toInt8.toInt32))) (Int32.toNatClampNeg 17) (vp_nar .byte ((((i4 : Int32).toUInt32 >>> ((16 : Int32).toUInt32 &&& Int32.toUInt32 31)).toInt32).toInt8.toInt32)))))]) rfl ?_
  refine ax_iinc (pc := 118) C (18) d_MM_feed_118 1 rfl (by decide) (Nat.le_of_ble_eq_true rfl) ([(6, .int 18), (7, .int i4), (0, .ref a0), (1, .int i0), (2, .int i1), (3, .int i2), (4, .int i3), (5, .int i4)]) rfl ?_
  refine ax_goto (pc := 121) C 33 d_MM_feed_121 (by decide) ?_
  refine ax_iload (pc := 33) C d_MM_feed_33 0 rfl ?_
  refine ax_bipush (pc := 35) C 20 d_MM_feed_35 (by decide +kernel) ?_
  refine ax_icmp_ge (pc := 37) C 124 d_MM_feed_37 (by decide) (fun h => absurd h (by decide)) (fun _ => ?_)
  refine ax_iload (pc := 40) C d_MM_feed_40 0 rfl ?_
  refine ax_iconst (pc := 42) C 4 d_MM_feed_42 (by decide +kernel) ?_
  refine ax_icmp_ge (pc := 43) C 50 d_MM_feed_43 (by decide) (fun _ => ?_) (fun h => absurd h (by decide))
  refine ax_iload (pc := 50) C d_MM_feed_50 0 rfl ?_
  refine ax_bipush (pc := 52) C 8 d_MM_feed_52 (by decide +kernel) ?_
  refine ax_icmp_ge (pc := 54) C 61 d_MM_feed_54 (by decide) (fun _ => ?_) (fun h => absurd h (by decide))
  refine ax_iload (pc := 61) C d_MM_feed_61 0 rfl ?_
  refine ax_bipush (pc := 63) C 12 d_MM_feed_63 (by decide +kernel) ?_
  refine ax_icmp_ge (pc := 65) C 72 d_MM_feed_65 (by decide) (fun _ => ?_) (fun h => absurd h (by decide))
  refine ax_iload (pc := 72) C d_MM_feed_72 0 rfl ?_
  refine ax_bipush (pc := 74) C 16 d_MM_feed_74 (by decide +kernel) ?_
  refine ax_icmp_ge (pc := 76) C 84 d_MM_feed_76 (by decide) (fun _ => ?_) (fun h => absurd h (by decide))
  refine ax_iload (pc := 84) C d_MM_feed_84 7 rfl ?_
  refine ax_istore (pc := 86) C d_MM_feed_86 (Nat.le_of_ble_eq_true rfl) ([(7, .int i4), (6, .int 18), (0, .ref a0), (1, .int i0), (2, .int i1), (3, .int i2), (4, .int i3), (5, .int i4)]) rfl ?_
  refine ax_aload_n (pc := 88) C d_MM_feed_88 rfl 2 rfl ?_
  refine ax_get (pc := 89) C k_MM 0 lk_MM_8 d_MM_feed_89 (Nat.le_of_ble_eq_true rfl) 0 rfl rfl ?_
  refine ax_aload_n (pc := 92) C d_MM_feed_92 rfl 2 rfl ?_
  refine ax_dup (pc := 93) C d_MM_feed_93 rfl ?_
  refine ax_get (pc := 94) C k_MM 2 lk_MM_17 d_MM_feed_94 (Nat.le_of_ble_eq_true rfl) 0 rfl rfl ?_
  refine ax_dup_x1 (pc := 97) C d_MM_feed_97 rfl rfl ?_
  refine ax_iconst (pc := 98) C 1 d_MM_feed_98 (by decide +kernel) ?_
  refine ax_iadd (pc := 99) C d_MM_feed_99 ?_
  refine ax_nrm 19 (by decide) ?_
  refine ax_put (pc := 100) C k_MM 2 lk_MM_17 d_MM_feed_100 (Nat.le_of_ble_eq_true rfl) 0 rfl rfl rfl rfl (Nat.le_of_ble_eq_true rfl) ?_
  refine ax_w ([(a0, .inr (12, [.ref a1, .ref b0, .int 19, .int 0, .int 0, .int 0, .int 0, .int 0, .int 0, .int 0, .int 0, .int 0, .int 0, .ref b1, .ref b2, .ref b3, .ref b4, .ref b5, .int 0, .int 1, .int 0, .ref b6, .ref b7, .ref b8, .ref b9, .int 0, .ref b10, .ref b11, .int 0, .int 0, .ref b12, .ref b13, .ref b14, .ref b15, .ref b16, .ref b17, .ref b18, .int 0, .int 0, .int 0, .int 0, .ref b19, .ref b20, .ref b21, .ref b22, .ref b23, .ref b24, .int 0, .ref b25, .ref b26, .ref b27, .ref b28, .ref b29, .ref b30, .ref b31, .int 0, .int 0, .ref b32, .ref b33, .ref b34, .ref b35, .ref b36, .int 0, .ref b37, .ref b38, .int 0, .ref b39, .ref b40, .ref b41, .ref b42, .ref b43, .ref b44, .int 0, .ref b45, .ref b46, .ref b47, .ref b48, .ref b49, .ref b50, .ref b51, .ref b52, .ref b53, .ref b54, .ref b55, .int 0, .int 0, .int 0, .int 0, .int (-1), .int 0, .int 0, .int 0, .int 0, .int 0, .int 0, .ref b56, .ref b57, .ref b58, .int 0, .ref b59, .ref b60, .int 0, .ref b61, .ref b62, .ref b63, .int 0, .ref b64, .ref b65, .ref b66, .ref b67, .ref b68, .ref b69, .int 0, .int (-1), .int 0, .ref b70, .int (-1), .int (-1), .int (-1), .ref b71, .int 0, .ref b72, .int 0, .ref b73, .int 0, .int 0, .ref b74])), (a1, .inl (kA 2, 65536, .inl (upd (upd (upd (upd (upd (upd (upd (upd (upd (upd (upd (upd (upd (upd (upd (upd (upd (upd (fun _ => 0) (Int32.toNatClampNeg 0) (vp_nar .byte ((((i0 : Int32).toUInt32 >>> ((24 : Int32).toUInt32 &&& Int32.toUInt32 31)).toInt32).toInt8.toInt32))) (Int32.toNatClampNeg 1) (vp_nar .byte ((((i0 : Int32).toUInt32 >>> ((16 : Int32).toUInt32 &&& Int32.toUInt32 31)).toInt32).toInt8.toInt32))) (Int32.toNatClampNeg 2) (vp_nar .byte ((((i0 : Int32).toUInt32 >>> ((8 : Int32).toUInt32 &&& Int32.toUInt32 31)).toInt32).toInt8.toInt32))) (Int32.toNatClampNeg 3) (vp_nar .byte ((((i0 : Int32).toUInt32 >>> ((0 : Int32).toUInt32 &&& Int32.toUInt32 31)).toInt32).toInt8.toInt32))) (Int32.toNatClampNeg 4) (vp_nar .byte ((((i1 : Int32).toUInt32 >>> ((24 : Int32).toUInt32 &&& Int32.toUInt32 31)).toInt32).toInt8.toInt32))) (Int32.toNatClampNeg 5) (vp_nar .byte ((((i1 : Int32).toUInt32 >>> ((16 : Int32).toUInt32 &&& Int32.toUInt32 31)).toInt32).toInt8.toInt32))) (Int32.toNatClampNeg 6) (vp_nar .byte ((((i1 : Int32).toUInt32 >>> ((8 : Int32).toUInt32 &&& Int32.toUInt32 31)).toInt32).toInt8.toInt32))) (Int32.toNatClampNeg 7) (vp_nar .byte ((((i1 : Int32).toUInt32 >>> ((0 : Int32).toUInt32 &&& Int32.toUInt32 31)).toInt32).toInt8.toInt32))) (Int32.toNatClampNeg 8) (vp_nar .byte ((((i2 : Int32).toUInt32 >>> ((24 : Int32).toUInt32 &&& Int32.toUInt32 31)).toInt32).toInt8.toInt32))) (Int32.toNatClampNeg 9) (vp_nar .byte ((((i2 : Int32).toUInt32 >>> ((16 : Int32).toUInt32 &&& Int32.toUInt32 31)).toInt32).toInt8.toInt32))) (Int32.toNatClampNeg 10) (vp_nar .byte ((((i2 : Int32).toUInt32 >>> ((8 : Int32).toUInt32 &&& Int32.toUInt32 31)).toInt32).toInt8.toInt32))) (Int32.toNatClampNeg 11) (vp_nar .byte ((((i2 : Int32).toUInt32 >>> ((0 : Int32).toUInt32 &&& Int32.toUInt32 31)).toInt32).toInt8.toInt32))) (Int32.toNatClampNeg 12) (vp_nar .byte ((((i3 : Int32).toUInt32 >>> ((24 : Int32).toUInt32 &&& Int32.toUInt32 31)).toInt32).toInt8.toInt32))) (Int32.toNatClampNeg 13) (vp_nar .byte ((((i3 : Int32).toUInt32 >>> ((16 : Int32).toUInt32 &&& Int32.toUInt32 31)).toInt32).toInt8.toInt32))) (Int32.toNatClampNeg 14) (vp_nar .byte ((((i3 : Int32).toUInt32 >>> ((8 : Int32).toUInt32 &&& Int32.toUInt32 31)).toInt32).toInt8.toInt32))) (Int32.toNatClampNeg 15) (vp_nar .byte ((((i3 : Int32).toUInt32 >>> ((0 : Int32).toUInt32 &&& Int32.toUInt32 31)).toInt32).toInt8.toInt32))) (Int32.toNatClampNeg 16) (vp_nar .byte ((((i4 : Int32).toUInt32 >>> ((24 : Int32).toUInt32 &&& Int32.toUInt32 31)).toInt32).toInt8.toInt32))) (Int32.toNatClampNeg 17) (vp_nar .byte ((((i4 : Int32).toUInt32 >>> ((16 : Int32).toUInt32 &&& Int32.toUInt32 31)).toInt32).toInt8.toInt32)))))]) rfl ?_
  refine ax_iload (pc := 103) C d_MM_feed_103 0 rfl ?_
  refine ax_bipush (pc := 105) C 24 d_MM_feed_105 (by decide +kernel) ?_
  refine ax_bipush (pc := 107) C 8 d_MM_feed_107 (by decide +kernel) ?_
  refine ax_iload (pc := 109) C d_MM_feed_109 1 rfl ?_
  refine ax_iconst (pc := 111) C 4 d_MM_feed_111 (by decide +kernel) ?_
  refine ax_irem (pc := 112) C d_MM_feed_112 (by decide) ?_
  refine ax_nrm 2 (by decide) ?_
  refine ax_imul (pc := 113) C d_MM_feed_113 ?_
  refine ax_nrm 16 (by decide) ?_
  refine ax_isub (pc := 114) C d_MM_feed_114 ?_
  refine ax_nrm 8 (by decide) ?_
  refine ax_iushr (pc := 115) C (((i4 : Int32).toUInt32 >>> ((8 : Int32).toUInt32 &&& Int32.toUInt32 31)).toInt32) d_MM_feed_115 rfl ?_
  refine ax_i2b (pc := 116) C ((((i4 : Int32).toUInt32 >>> ((8 : Int32).toUInt32 &&& Int32.toUInt32 31)).toInt32).toInt8.toInt32) d_MM_feed_116 rfl ?_
  refine ax_bast (pc := 117) C 1 rfl d_MM_feed_117 (by unfold vp_in; decide) ?_
  refine ax_w ([(a0, .inr (12, [.ref a1, .ref b0, .int 19, .int 0, .int 0, .int 0, .int 0, .int 0, .int 0, .int 0, .int 0, .int 0, .int 0, .ref b1, .ref b2, .ref b3, .ref b4, .ref b5, .int 0, .int 1, .int 0, .ref b6, .ref b7, .ref b8, .ref b9, .int 0, .ref b10, .ref b11, .int 0, .int 0, .ref b12, .ref b13, .ref b14, .ref b15, .ref b16, .ref b17, .ref b18, .int 0, .int 0, .int 0, .int 0, .ref b19, .ref b20, .ref b21, .ref b22, .ref b23, .ref b24, .int 0, .ref b25, .ref b26, .ref b27, .ref b28, .ref b29, .ref b30, .ref b31, .int 0, .int 0, .ref b32, .ref b33, .ref b34, .ref b35, .ref b36, .int 0, .ref b37, .ref b38, .int 0, .ref b39, .ref b40, .ref b41, .ref b42, .ref b43, .ref b44, .int 0, .ref b45, .ref b46, .ref b47, .ref b48, .ref b49, .ref b50, .ref b51, .ref b52, .ref b53, .ref b54, .ref b55, .int 0, .int 0, .int 0, .int 0, .int (-1), .int 0, .int 0, .int 0, .int 0, .int 0, .int 0, .ref b56, .ref b57, .ref b58, .int 0, .ref b59, .ref b60, .int 0, .ref b61, .ref b62, .ref b63, .int 0, .ref b64, .ref b65, .ref b66, .ref b67, .ref b68, .ref b69, .int 0, .int (-1), .int 0, .ref b70, .int (-1), .int (-1), .int (-1), .ref b71, .int 0, .ref b72, .int 0, .ref b73, .int 0, .int 0, .ref b74])), (a1, .inl (kA 2, 65536, .inl (upd (upd (upd (upd (upd (upd (upd (upd (upd (upd (upd (upd (upd (upd (upd (upd (upd (upd (upd (fun _ => 0) (Int32.toNatClampNeg 0) (vp_nar .byte ((((i0 : Int32).toUInt32 >>> ((24 : Int32).toUInt32 &&& Int32.toUInt32 31)).toInt32).toInt8.toInt32))) (Int32.toNatClampNeg 1) (vp_nar .byte ((((i0 : Int32).toUInt32 >>> ((16 : Int32).toUInt32 &&& Int32.toUInt32 31)).toInt32).toInt8.toInt32))) (Int32.toNatClampNeg 2) (vp_nar .byte ((((i0 : Int32).toUInt32 >>> ((8 : Int32).toUInt32 &&& Int32.toUInt32 31)).toInt32).toInt8.toInt32))) (Int32.toNatClampNeg 3) (vp_nar .byte ((((i0 : Int32).toUInt32 >>> ((0 : Int32).toUInt32 &&& Int32.toUInt32 31)).toInt32).toInt8.toInt32))) (Int32.toNatClampNeg 4) (vp_nar .byte ((((i1 : Int32).toUInt32 >>> ((24 : Int32).toUInt32 &&& Int32.toUInt32 31)).toInt32).toInt8.toInt32))) (Int32.toNatClampNeg 5) (vp_nar .byte ((((i1 : Int32).toUInt32 >>> ((16 : Int32).toUInt32 &&& Int32.toUInt32 31)).toInt32).toInt8.toInt32))) (Int32.toNatClampNeg 6) (vp_nar .byte ((((i1 : Int32).toUInt32 >>> ((8 : Int32).toUInt32 &&& Int32.toUInt32 31)).toInt32).toInt8.toInt32))) (Int32.toNatClampNeg 7) (vp_nar .byte ((((i1 : Int32).toUInt32 >>> ((0 : Int32).toUInt32 &&& Int32.toUInt32 31)).toInt32).toInt8.toInt32))) (Int32.toNatClampNeg 8) (vp_nar .byte ((((i2 : Int32).toUInt32 >>> ((24 : Int32).toUInt32 &&& Int32.toUInt32 31)).toInt32).toInt8.toInt32))) (Int32.toNatClampNeg 9) (vp_nar .byte ((((i2 : Int32).toUInt32 >>> ((16 : Int32).toUInt32 &&& Int32.toUInt32 31)).toInt32).toInt8.toInt32))) (Int32.toNatClampNeg 10) (vp_nar .byte ((((i2 : Int32).toUInt32 >>> ((8 : Int32).toUInt32 &&& Int32.toUInt32 31)).toInt32).toInt8.toInt32))) (Int32.toNatClampNeg 11) (vp_nar .byte ((((i2 : Int32).toUInt32 >>> ((0 : Int32).toUInt32 &&& Int32.toUInt32 31)).toInt32).toInt8.toInt32))) (Int32.toNatClampNeg 12) (vp_nar .byte ((((i3 : Int32).toUInt32 >>> ((24 : Int32).toUInt32 &&& Int32.toUInt32 31)).toInt32).toInt8.toInt32))) (Int32.toNatClampNeg 13) (vp_nar .byte ((((i3 : Int32).toUInt32 >>> ((16 : Int32).toUInt32 &&& Int32.toUInt32 31)).toInt32).toInt8.toInt32))) (Int32.toNatClampNeg 14) (vp_nar .byte ((((i3 : Int32).toUInt32 >>> ((8 : Int32).toUInt32 &&& Int32.toUInt32 31)).toInt32).toInt8.toInt32))) (Int32.toNatClampNeg 15) (vp_nar .byte ((((i3 : Int32).toUInt32 >>> ((0 : Int32).toUInt32 &&& Int32.toUInt32 31)).toInt32).toInt8.toInt32))) (Int32.toNatClampNeg 16) (vp_nar .byte ((((i4 : Int32).toUInt32 >>> ((24 : Int32).toUInt32 &&& Int32.toUInt32 31)).toInt32).toInt8.toInt32))) (Int32.toNatClampNeg 17) (vp_nar .byte ((((i4 : Int32).toUInt32 >>> ((16 : Int32).toUInt32 &&& Int32.toUInt32 31)).toInt32).toInt8.toInt32))) (Int32.toNatClampNeg 18) (vp_nar .byte ((((i4 : Int32).toUInt32 >>> ((8 : Int32).toUInt32 &&& Int32.toUInt32 31)).toInt32).toInt8.toInt32)))))]) rfl ?_
  refine ax_iinc (pc := 118) C (19) d_MM_feed_118 1 rfl (by decide) (Nat.le_of_ble_eq_true rfl) ([(6, .int 19), (7, .int i4), (0, .ref a0), (1, .int i0), (2, .int i1), (3, .int i2), (4, .int i3), (5, .int i4)]) rfl ?_
  refine ax_goto (pc := 121) C 33 d_MM_feed_121 (by decide) ?_
  refine ax_iload (pc := 33) C d_MM_feed_33 0 rfl ?_
  refine ax_bipush (pc := 35) C 20 d_MM_feed_35 (by decide +kernel) ?_
  refine ax_icmp_ge (pc := 37) C 124 d_MM_feed_37 (by decide) (fun h => absurd h (by decide)) (fun _ => ?_)
  refine ax_iload (pc := 40) C d_MM_feed_40 0 rfl ?_
  refine ax_iconst (pc := 42) C 4 d_MM_feed_42 (by decide +kernel) ?_
  refine ax_icmp_ge (pc := 43) C 50 d_MM_feed_43 (by decide) (fun _ => ?_) (fun h => absurd h (by decide))
  refine ax_iload (pc := 50) C d_MM_feed_50 0 rfl ?_
  refine ax_bipush (pc := 52) C 8 d_MM_feed_52 (by decide +kernel) ?_
  refine ax_icmp_ge (pc := 54) C 61 d_MM_feed_54 (by decide) (fun _ => ?_) (fun h => absurd h (by decide))
  refine ax_iload (pc := 61) C d_MM_feed_61 0 rfl ?_
  refine ax_bipush (pc := 63) C 12 d_MM_feed_63 (by decide +kernel) ?_
  refine ax_icmp_ge (pc := 65) C 72 d_MM_feed_65 (by decide) (fun _ => ?_) (fun h => absurd h (by decide))
  refine ax_iload (pc := 72) C d_MM_feed_72 0 rfl ?_
  refine ax_bipush (pc := 74) C 16 d_MM_feed_74 (by decide +kernel) ?_
  refine ax_icmp_ge (pc := 76) C 84 d_MM_feed_76 (by decide) (fun _ => ?_) (fun h => absurd h (by decide))
  refine ax_iload (pc := 84) C d_MM_feed_84 7 rfl ?_
  refine ax_istore (pc := 86) C d_MM_feed_86 (Nat.le_of_ble_eq_true rfl) ([(7, .int i4), (6, .int 19), (0, .ref a0), (1, .int i0), (2, .int i1), (3, .int i2), (4, .int i3), (5, .int i4)]) rfl ?_
  refine ax_aload_n (pc := 88) C d_MM_feed_88 rfl 2 rfl ?_
  refine ax_get (pc := 89) C k_MM 0 lk_MM_8 d_MM_feed_89 (Nat.le_of_ble_eq_true rfl) 0 rfl rfl ?_
  refine ax_aload_n (pc := 92) C d_MM_feed_92 rfl 2 rfl ?_
  refine ax_dup (pc := 93) C d_MM_feed_93 rfl ?_
  refine ax_get (pc := 94) C k_MM 2 lk_MM_17 d_MM_feed_94 (Nat.le_of_ble_eq_true rfl) 0 rfl rfl ?_
  refine ax_dup_x1 (pc := 97) C d_MM_feed_97 rfl rfl ?_
  refine ax_iconst (pc := 98) C 1 d_MM_feed_98 (by decide +kernel) ?_
  refine ax_iadd (pc := 99) C d_MM_feed_99 ?_
  refine ax_nrm 20 (by decide) ?_
  refine ax_put (pc := 100) C k_MM 2 lk_MM_17 d_MM_feed_100 (Nat.le_of_ble_eq_true rfl) 0 rfl rfl rfl rfl (Nat.le_of_ble_eq_true rfl) ?_
  refine ax_w ([(a0, .inr (12, [.ref a1, .ref b0, .int 20, .int 0, .int 0, .int 0, .int 0, .int 0, .int 0, .int 0, .int 0, .int 0, .int 0, .ref b1, .ref b2, .ref b3, .ref b4, .ref b5, .int 0, .int 1, .int 0, .ref b6, .ref b7, .ref b8, .ref b9, .int 0, .ref b10, .ref b11, .int 0, .int 0, .ref b12, .ref b13, .ref b14, .ref b15, .ref b16, .ref b17, .ref b18, .int 0, .int 0, .int 0, .int 0, .ref b19, .ref b20, .ref b21, .ref b22, .ref b23, .ref b24, .int 0, .ref b25, .ref b26, .ref b27, .ref b28, .ref b29, .ref b30, .ref b31, .int 0, .int 0, .ref b32, .ref b33, .ref b34, .ref b35, .ref b36, .int 0, .ref b37, .ref b38, .int 0, .ref b39, .ref b40, .ref b41, .ref b42, .ref b43, .ref b44, .int 0, .ref b45, .ref b46, .ref b47, .ref b48, .ref b49, .ref b50, .ref b51, .ref b52, .ref b53, .ref b54, .ref b55, .int 0, .int 0, .int 0, .int 0, .int (-1), .int 0, .int 0, .int 0, .int 0, .int 0, .int 0, .ref b56, .ref b57, .ref b58, .int 0, .ref b59, .ref b60, .int 0, .ref b61, .ref b62, .ref b63, .int 0, .ref b64, .ref b65, .ref b66, .ref b67, .ref b68, .ref b69, .int 0, .int (-1), .int 0, .ref b70, .int (-1), .int (-1), .int (-1), .ref b71, .int 0, .ref b72, .int 0, .ref b73, .int 0, .int 0, .ref b74])), (a1, .inl (kA 2, 65536, .inl (upd (upd (upd (upd (upd (upd (upd (upd (upd (upd (upd (upd (upd (upd (upd (upd (upd (upd (upd (fun _ => 0) (Int32.toNatClampNeg 0) (vp_nar .byte ((((i0 : Int32).toUInt32 >>> ((24 : Int32).toUInt32 &&& Int32.toUInt32 31)).toInt32).toInt8.toInt32))) (Int32.toNatClampNeg 1) (vp_nar .byte ((((i0 : Int32).toUInt32 >>> ((16 : Int32).toUInt32 &&& Int32.toUInt32 31)).toInt32).toInt8.toInt32))) (Int32.toNatClampNeg 2) (vp_nar .byte ((((i0 : Int32).toUInt32 >>> ((8 : Int32).toUInt32 &&& Int32.toUInt32 31)).toInt32).toInt8.toInt32))) (Int32.toNatClampNeg 3) (vp_nar .byte ((((i0 : Int32).toUInt32 >>> ((0 : Int32).toUInt32 &&& Int32.toUInt32 31)).toInt32).toInt8.toInt32))) (Int32.toNatClampNeg 4) (vp_nar .byte ((((i1 : Int32).toUInt32 >>> ((24 : Int32).toUInt32 &&& Int32.toUInt32 31)).toInt32).toInt8.toInt32))) (Int32.toNatClampNeg 5) (vp_nar .byte ((((i1 : Int32).toUInt32 >>> ((16 : Int32).toUInt32 &&& Int32.toUInt32 31)).toInt32).toInt8.toInt32))) (Int32.toNatClampNeg 6) (vp_nar .byte ((((i1 : Int32).toUInt32 >>> ((8 : Int32).toUInt32 &&& Int32.toUInt32 31)).toInt32).toInt8.toInt32))) (Int32.toNatClampNeg 7) (vp_nar .byte ((((i1 : Int32).toUInt32 >>> ((0 : Int32).toUInt32 &&& Int32.toUInt32 31)).toInt32).toInt8.toInt32))) (Int32.toNatClampNeg 8) (vp_nar .byte ((((i2 : Int32).toUInt32 >>> ((24 : Int32).toUInt32 &&& Int32.toUInt32 31)).toInt32).toInt8.toInt32))) (Int32.toNatClampNeg 9) (vp_nar .byte ((((i2 : Int32).toUInt32 >>> ((16 : Int32).toUInt32 &&& Int32.toUInt32 31)).toInt32).toInt8.toInt32))) (Int32.toNatClampNeg 10) (vp_nar .byte ((((i2 : Int32).toUInt32 >>> ((8 : Int32).toUInt32 &&& Int32.toUInt32 31)).toInt32).toInt8.toInt32))) (Int32.toNatClampNeg 11) (vp_nar .byte ((((i2 : Int32).toUInt32 >>> ((0 : Int32).toUInt32 &&& Int32.toUInt32 31)).toInt32).toInt8.toInt32))) (Int32.toNatClampNeg 12) (vp_nar .byte ((((i3 : Int32).toUInt32 >>> ((24 : Int32).toUInt32 &&& Int32.toUInt32 31)).toInt32).toInt8.toInt32))) (Int32.toNatClampNeg 13) (vp_nar .byte ((((i3 : Int32).toUInt32 >>> ((16 : Int32).toUInt32 &&& Int32.toUInt32 31)).toInt32).toInt8.toInt32))) (Int32.toNatClampNeg 14) (vp_nar .byte ((((i3 : Int32).toUInt32 >>> ((8 : Int32).toUInt32 &&& Int32.toUInt32 31)).toInt32).toInt8.toInt32))) (Int32.toNatClampNeg 15) (vp_nar .byte ((((i3 : Int32).toUInt32 >>> ((0 : Int32).toUInt32 &&& Int32.toUInt32 31)).toInt32).toInt8.toInt32))) (Int32.toNatClampNeg 16) (vp_nar .byte ((((i4 : Int32).toUInt32 >>> ((24 : Int32).toUInt32 &&& Int32.toUInt32 31)).toInt32).toInt8.toInt32))) (Int32.toNatClampNeg 17) (vp_nar .byte ((((i4 : Int32).toUInt32 >>> ((16 : Int32).toUInt32 &&& Int32.toUInt32 31)).toInt32).toInt8.toInt32))) (Int32.toNatClampNeg 18) (vp_nar .byte ((((i4 : Int32).toUInt32 >>> ((8 : Int32).toUInt32 &&& Int32.toUInt32 31)).toInt32).toInt8.toInt32)))))]) rfl ?_
  refine ax_iload (pc := 103) C d_MM_feed_103 0 rfl ?_
  refine ax_bipush (pc := 105) C 24 d_MM_feed_105 (by decide +kernel) ?_
  refine ax_bipush (pc := 107) C 8 d_MM_feed_107 (by decide +kernel) ?_
  refine ax_iload (pc := 109) C d_MM_feed_109 1 rfl ?_
  refine ax_iconst (pc := 111) C 4 d_MM_feed_111 (by decide +kernel) ?_
  refine ax_irem (pc := 112) C d_MM_feed_112 (by decide) ?_
  refine ax_nrm 3 (by decide) ?_
  refine ax_imul (pc := 113) C d_MM_feed_113 ?_
  refine ax_nrm 24 (by decide) ?_
  refine ax_isub (pc := 114) C d_MM_feed_114 ?_
  refine ax_nrm 0 (by decide) ?_
  refine ax_iushr (pc := 115) C (((i4 : Int32).toUInt32 >>> ((0 : Int32).toUInt32 &&& Int32.toUInt32 31)).toInt32) d_MM_feed_115 rfl ?_
  refine ax_i2b (pc := 116) C ((((i4 : Int32).toUInt32 >>> ((0 : Int32).toUInt32 &&& Int32.toUInt32 31)).toInt32).toInt8.toInt32) d_MM_feed_116 rfl ?_
  refine ax_bast (pc := 117) C 1 rfl d_MM_feed_117 (by unfold vp_in; decide) ?_
  refine ax_w ([(a0, .inr (12, [.ref a1, .ref b0, .int 20, .int 0, .int 0, .int 0, .int 0, .int 0, .int 0, .int 0, .int 0, .int 0, .int 0, .ref b1, .ref b2, .ref b3, .ref b4, .ref b5, .int 0, .int 1, .int 0, .ref b6, .ref b7, .ref b8, .ref b9, .int 0, .ref b10, .ref b11, .int 0, .int 0, .ref b12, .ref b13, .ref b14, .ref b15, .ref b16, .ref b17, .ref b18, .int 0, .int 0, .int 0, .int 0, .ref b19, .ref b20, .ref b21, .ref b22, .ref b23, .ref b24, .int 0, .ref b25, .ref b26, .ref b27, .ref b28, .ref b29, .ref b30, .ref b31, .int 0, .int 0, .ref b32, .ref b33, .ref b34, .ref b35, .ref b36, .int 0, .ref b37, .ref b38, .int 0, .ref b39, .ref b40, .ref b41, .ref b42, .ref b43, .ref b44, .int 0, .ref b45, .ref b46, .ref b47, .ref b48, .ref b49, .ref b50, .ref b51, .ref b52, .ref b53, .ref b54, .ref b55, .int 0, .int 0, .int 0, .int 0, .int (-1), .int 0, .int 0, .int 0, .int 0, .int 0, .int 0, .ref b56, .ref b57, .ref b58, .int 0, .ref b59, .ref b60, .int 0, .ref b61, .ref b62, .ref b63, .int 0, .ref b64, .ref b65, .ref b66, .ref b67, .ref b68, .ref b69, .int 0, .int (-1), .int 0, .ref b70, .int (-1), .int (-1), .int (-1), .ref b71, .int 0, .ref b72, .int 0, .ref b73, .int 0, .int 0, .ref b74])), (a1, .inl (kA 2, 65536, .inl (upd (upd (upd (upd (upd (upd (upd (upd (upd (upd (upd (upd (upd (upd (upd (upd (upd (upd (upd (upd (fun _ => 0) (Int32.toNatClampNeg 0) (vp_nar .byte ((((i0 : Int32).toUInt32 >>> ((24 : Int32).toUInt32 &&& Int32.toUInt32 31)).toInt32).toInt8.toInt32))) (Int32.toNatClampNeg 1) (vp_nar .byte ((((i0 : Int32).toUInt32 >>> ((16 : Int32).toUInt32 &&& Int32.toUInt32 31)).toInt32).toInt8.toInt32))) (Int32.toNatClampNeg 2) (vp_nar .byte ((((i0 : Int32).toUInt32 >>> ((8 : Int32).toUInt32 &&& Int32.toUInt32 31)).toInt32).toInt8.toInt32))) (Int32.toNatClampNeg 3) (vp_nar .byte ((((i0 : Int32).toUInt32 >>> ((0 : Int32).toUInt32 &&& Int32.toUInt32 31)).toInt32).toInt8.toInt32))) (Int32.toNatClampNeg 4) (vp_nar .byte ((((i1 : Int32).toUInt32 >>> ((24 : Int32).toUInt32 &&& Int32.toUInt32 31)).toInt32).toInt8.toInt32))) (Int32.toNatClampNeg 5) (vp_nar .byte ((((i1 : Int32).toUInt32 >>> ((16 : Int32).toUInt32 &&& Int32.toUInt32 31)).toInt32).toInt8.toInt32))) (Int32.toNatClampNeg 6) (vp_nar .byte ((((i1 : Int32).toUInt32 >>> ((8 : Int32).toUInt32 &&& Int32.toUInt32 31)).toInt32).toInt8.toInt32))) (Int32.toNatClampNeg 7) (vp_nar .byte ((((i1 : Int32).toUInt32 >>> ((0 : Int32).toUInt32 &&& Int32.toUInt32 31)).toInt32).toInt8.toInt32))) (Int32.toNatClampNeg 8) (vp_nar .byte ((((i2 : Int32).toUInt32 >>> ((24 : Int32).toUInt32 &&& Int32.toUInt32 31)).toInt32).toInt8.toInt32))) (Int32.toNatClampNeg 9) (vp_nar .byte ((((i2 : Int32).toUInt32 >>> ((16 : Int32).toUInt32 &&& Int32.toUInt32 31)).toInt32).toInt8.toInt32))) (Int32.toNatClampNeg 10) (vp_nar .byte ((((i2 : Int32).toUInt32 >>> ((8 : Int32).toUInt32 &&& Int32.toUInt32 31)).toInt32).toInt8.toInt32))) (Int32.toNatClampNeg 11) (vp_nar .byte ((((i2 : Int32).toUInt32 >>> ((0 : Int32).toUInt32 &&& Int32.toUInt32 31)).toInt32).toInt8.toInt32))) (Int32.toNatClampNeg 12) (vp_nar .byte ((((i3 : Int32).toUInt32 >>> ((24 : Int32).toUInt32 &&& Int32.toUInt32 31)).toInt32).toInt8.toInt32))) (Int32.toNatClampNeg 13) (vp_nar .byte ((((i3 : Int32).toUInt32 >>> ((16 : Int32).toUInt32 &&& Int32.toUInt32 31)).toInt32).toInt8.toInt32))) (Int32.toNatClampNeg 14) (vp_nar .byte ((((i3 : Int32).toUInt32 >>> ((8 : Int32).toUInt32 &&& Int32.toUInt32 31)).toInt32).toInt8.toInt32))) (Int32.toNatClampNeg 15) (vp_nar .byte ((((i3 : Int32).toUInt32 >>> ((0 : Int32).toUInt32 &&& Int32.toUInt32 31)).toInt32).toInt8.toInt32))) (Int32.toNatClampNeg 16) (vp_nar .byte ((((i4 : Int32).toUInt32 >>> ((24 : Int32).toUInt32 &&& Int32.toUInt32 31)).toInt32).toInt8.toInt32))) (Int32.toNatClampNeg 17) (vp_nar .byte ((((i4 : Int32).toUInt32 >>> ((16 : Int32).toUInt32 &&& Int32.toUInt32 31)).toInt32).toInt8.toInt32))) (Int32.toNatClampNeg 18) (vp_nar .byte ((((i4 : Int32).toUInt32 >>> ((8 : Int32).toUInt32 &&& Int32.toUInt32 31)).toInt32).toInt8.toInt32))) (Int32.toNatClampNeg 19) (vp_nar .byte ((((i4 : Int32).toUInt32 >>> ((0 : Int32).toUInt32 &&& Int32.toUInt32 31)).toInt32).toInt8.toInt32)))))]) rfl ?_
  refine ax_iinc (pc := 118) C (20) d_MM_feed_118 1 rfl (by decide) (Nat.le_of_ble_eq_true rfl) ([(6, .int 20), (7, .int i4), (0, .ref a0), (1, .int i0), (2, .int i1), (3, .int i2), (4, .int i3), (5, .int i4)]) rfl ?_
  refine ax_goto (pc := 121) C 33 d_MM_feed_121 (by decide) ?_
  refine ax_iload (pc := 33) C d_MM_feed_33 0 rfl ?_
  refine ax_bipush (pc := 35) C 20 d_MM_feed_35 (by decide +kernel) ?_
  refine ax_icmp_ge (pc := 37) C 124 d_MM_feed_37 (by decide) (fun _ => ?_) (fun h => absurd h (by decide))
  refine ax_aload_n (pc := 124) C d_MM_feed_124 rfl 2 rfl ?_
  refine ax_get (pc := 125) C k_MM 2 lk_MM_17 d_MM_feed_125 (Nat.le_of_ble_eq_true rfl) 0 rfl rfl ?_
  exact ax_iret (pc := 128) C d_MM_feed_128 ⟨rfl, rfl⟩ (by decide) (by decide)
