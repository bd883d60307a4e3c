set_option maxHeartbeats 4000000 in
set_option maxRecDepth 100000 in
theorem m120_CP_symbol (l : Launch) (htr : l.stackTraces = false) (D : va_G) (kA : Nat → ClassId) (a0 : Nat) (a1 : Nat) (b0 : Nat) (b1 : Nat) (b2 : Nat) (b3 : Nat) (b4 : Nat) (b5 : Nat) (b6 : Nat) (b7 : Nat) (b8 : Nat) (b9 : Nat) (b10 : Nat) (b11 : Nat) (b12 : Nat) (b13 : Nat) (b14 : Nat) (i0 : Int32) (h0 : ¬ i0 < 0) (h1 : ¬ i0 ≤ 2) : ax_Mx l D kA y_CP_symbol b_CP_symbol 4 (some .int) 6 90 1 6 [.ref a0, .int 0, .int i0] [(a0, .inr (11, [.ref b0, .ref b1, .ref b2, .ref a1, .ref b3, .ref b4, .ref b5, .ref b6, .ref b7, .ref b8, .int 0, .int 0])), (a1, .inr (1, [.ref b9, .ref b10, .ref b11, .ref b12, .int 0, .int 1, .ref b13, .ref b14]))] "java/lang/IllegalArgumentException" (fun w1 => w1 = [(a0, .inr (11, [.ref b0, .ref b1, .ref b2, .ref a1, .ref b3, .ref b4, .ref b5, .ref b6, .ref b7, .ref b8, .int 0, .int 0])), (a1, .inr (1, [.ref b9, .ref b10, .ref b11, .ref b12, .int 0, .int 1, .ref b13, .ref b14]))]) := by
  refine ax_Mx.of (by decide +kernel) (Nat.le_of_ble_eq_true rfl) ?_
  intro p e s m args below meth c C hadm hex hX hP0
  refine ax_ls ([(0, .ref a0), (1, .int 0), (2, .int i0)]) [0, 1, 2] rfl ?_
  refine ax_iload_n (pc := 0) C d_CP_symbol_0 rfl 1 rfl ?_
  refine ax_if_lt (pc := 1) C 15 d_CP_symbol_1 (by decide) (fun h => absurd h (by decide)) (fun _ => ?_)
  refine ax_iload_n (pc := 4) C d_CP_symbol_4 rfl 1 rfl ?_
  refine ax_aload_n (pc := 5) C d_CP_symbol_5 rfl 0 rfl ?_
  refine ax_get (pc := 6) C k_CP 3 lk_CP_28 d_CP_symbol_6 (Nat.le_of_ble_eq_true rfl) 0 rfl rfl ?_
  refine ax_get (pc := 9) C k_Sym 5 lk_CP_258 d_CP_symbol_9 (Nat.le_of_ble_eq_true rfl) 1 rfl rfl ?_
  refine ax_icmp_lt (pc := 12) C 26 d_CP_symbol_12 (by decide) (fun _ => ?_) (fun h => absurd h (by decide))
  refine ax_iload_n (pc := 26) C d_CP_symbol_26 rfl 2 rfl ?_
  refine ax_if_lt (pc := 27) C 35 d_CP_symbol_27 (by decide) (fun h => absurd h h0) (fun _ => ?_)
  refine ax_iload_n (pc := 30) C d_CP_symbol_30 rfl 2 rfl ?_
  refine ax_iconst (pc := 31) C 2 d_CP_symbol_31 (by decide +kernel) ?_
  refine ax_icmp_le (pc := 32) C 45 d_CP_symbol_32 (by decide) (fun h => absurd h h1) (fun _ => ?_)
  exact ax_throw2 (pc := 35) C hadm htr hex hX hP0 (is := 159) (tx := "no such what") ta_IAE (by decide +kernel) (by decide) tb_classLink_984 tb_instantiable_985 tb_initialized_21 (by decide +kernel) (by decide +kernel) (by decide +kernel) (by decide +kernel) d_CP_symbol_35 d_CP_symbol_38 d_CP_symbol_39 d_CP_symbol_41 d_CP_symbol_44 (Nat.le_of_ble_eq_true rfl) (Nat.le_of_ble_eq_true rfl) (Nat.le_of_ble_eq_true rfl) (Nat.le_of_ble_eq_true rfl) rfl rfl rfl
set_option maxHeartbeats 4000000 in
set_option maxRecDepth 100000 in
theorem m119_Law_symbol (l : Launch) (htr : l.stackTraces = false) (D : va_G) (kA : Nat → ClassId) (a0 : Nat) (a1 : Nat) (b0 : Nat) (b1 : Nat) (b2 : Nat) (b3 : Nat) (b4 : Nat) (b5 : Nat) (b6 : Nat) (b7 : Nat) (b8 : Nat) (b9 : Nat) (b10 : Nat) (b11 : Nat) (b12 : Nat) (b13 : Nat) (b14 : Nat) (b15 : Nat) (i0 : Int32) (h0 : ¬ i0 < 0) (h1 : ¬ i0 ≤ 2) : ax_Mw l D kA y_Law_symbol b_Law_symbol 5 [(0, 10, 13, 28), (0, 10, 17, 19)] 7 113 1 6 [.ref a0, .int 0, .int i0, .ref b0] [(a0, .inr (11, [.ref b1, .ref b2, .ref b3, .ref a1, .ref b4, .ref b5, .ref b6, .ref b7, .ref b8, .ref b9, .int 0, .int 0])), (a1, .inr (1, [.ref b10, .ref b11, .ref b12, .ref b13, .int 0, .int 1, .ref b14, .ref b15]))] (fun r w1 => r = 2 ∧ w1 = [(a0, .inr (11, [.ref b1, .ref b2, .ref b3, .ref a1, .ref b4, .ref b5, .ref b6, .ref b7, .ref b8, .ref b9, .int 0, .int 0])), (a1, .inr (1, [.ref b10, .ref b11, .ref b12, .ref b13, .int 0, .int 1, .ref b14, .ref b15]))]) := by
  refine ax_Mw.of (by decide +kernel) (Nat.le_of_ble_eq_true rfl) ?_
  intro p e s m args below meth c C hadm hmeth hcode htb hX
  refine ax_ls ([(0, .ref a0), (1, .int 0), (2, .int i0), (3, .ref b0)]) [0, 1, 2, 3] rfl ?_
  refine ax_aload_n (pc := 0) C d_Law_symbol_0 rfl 3 rfl ?_
  refine ax_iconst (pc := 1) C 0 d_Law_symbol_1 (by decide +kernel) ?_
  refine ax_aload_n (pc := 2) C d_Law_symbol_2 rfl 0 rfl ?_
  refine ax_iload_n (pc := 3) C d_Law_symbol_3 rfl 1 rfl ?_
  refine ax_iload_n (pc := 4) C d_Law_symbol_4 rfl 2 rfl ?_
  refine ax_callVx (pc := 5) C hX (hpc := 17) (As := [.int 0, .int i0]) (rest := [.int 0, .ref b0]) (wr := []) (m120_CP_symbol l htr D kA a0 a1 b1 b2 b3 b4 b5 b6 b7 b8 b9 b10 b11 b12 b13 b14 b15 i0 h0 h1) ml_Law_45 0 rfl rfl rfl d_Law_symbol_5 rfl rfl [0, 1] [] rfl (by decide) rfl (by decide) (by decide) (Nat.le_of_ble_eq_true rfl) (Nat.le_of_ble_eq_true rfl) (Nat.le_of_ble_eq_true rfl) (Nat.le_of_ble_eq_true rfl) (Nat.le_of_ble_eq_true rfl) (cx_F2 hadm hmeth hcode C.2.2.2.1 htb ⟨by decide, by decide⟩ ⟨by decide, by decide⟩ (by decide) (by decide) (C.2.2.2.2.1 _ tb_classLink_1284) (C.2.2.2.2.1 _ tb_classLink_979) hX.2.2.2.2) (fun xe5 w1 hw1 => ?_)
  obtain rfl := hw1
  refine ax_w ([(a0, .inr (11, [.ref b1, .ref b2, .ref b3, .ref a1, .ref b4, .ref b5, .ref b6, .ref b7, .ref b8, .ref b9, .int 0, .int 0])), (a1, .inr (1, [.ref b10, .ref b11, .ref b12, .ref b13, .int 0, .int 1, .ref b14, .ref b15]))]) rfl ?_
  refine ax_astore (pc := 17) C d_Law_symbol_17 (Nat.le_of_ble_eq_true rfl) ([(4, .ref xe5), (0, .ref a0), (1, .int 0), (2, .int i0), (3, .ref b0)]) rfl ?_
  refine ax_iconst (pc := 19) C 2 d_Law_symbol_19 (by decide +kernel) ?_
  exact ax_iret (pc := 20) C d_Law_symbol_20 ⟨rfl, rfl⟩ (by decide) (by decide)
set_option maxHeartbeats 4000000 in
set_option maxRecDepth 100000 in
theorem m121_MM_symbol2 (l : Launch) (D : va_G) (kA : Nat → ClassId) (a0 : Nat) (b0 : Nat) (b1 : Nat) (b2 : Nat) (b3 : Nat) (b4 : Nat) (b5 : Nat) (b6 : Nat) (b7 : Nat) (b8 : Nat) (b9 : Nat) (b10 : Nat) (b11 : Nat) (b12 : Nat) (b13 : Nat) (b14 : Nat) (b15 : Nat) (b16 : Nat) (b17 : Nat) (b18 : Nat) (b19 : Nat) (b20 : Nat) (b21 : Nat) (b22 : Nat) (b23 : Nat) (b24 : Nat) (b25 : Nat) (b26 : Nat) (b27 : Nat) (b28 : Nat) (b29 : Nat) (b30 : Nat) (b31 : Nat) (b32 : Nat) (b33 : Nat) (b34 : Nat) (b35 : Nat) (b36 : Nat) (b37 : Nat) (b38 : Nat) (b39 : Nat) (b40 : Nat) (b41 : Nat) (b42 : Nat) (b43 : Nat) (b44 : Nat) (b45 : Nat) (b46 : Nat) (b47 : Nat) (b48 : Nat) (b49 : Nat) (b50 : Nat) (b51 : Nat) (b52 : Nat) (b53 : Nat) (b54 : Nat) (b55 : Nat) (b56 : Nat) (b57 : Nat) (b58 : Nat) (b59 : Nat) (b60 : Nat) (b61 : Nat) (b62 : Nat) (b63 : Nat) (b64 : Nat) (b65 : Nat) (b66 : Nat) (b67 : Nat) (b68 : Nat) (b69 : Nat) (b70 : Nat) (b71 : Nat) (b72 : Nat) (b73 : Nat) (b74 : Nat) (b75 : Nat) (i0 : Int32) (h0 : ¬ i0 < 0) (h1 : ¬ i0 ≤ 2) : ax_Mi l D kA y_MM_symbol2 b_MM_symbol2 3 .int 1 22 0 0 [.ref a0, .int 0, .int i0] [(a0, .inr (12, [.ref b0, .ref b1, .int 0, .int 0, .int 0, .int 0, .int 0, .int 0, .int 0, .int 0, .int 0, .int 0, .int 0, .ref b2, .ref b3, .ref b4, .ref b5, .ref b6, .int 0, .int 1, .int 0, .ref b7, .ref b8, .ref b9, .ref b10, .int 0, .ref b11, .ref b12, .int 0, .int 0, .ref b13, .ref b14, .ref b15, .ref b16, .ref b17, .ref b18, .ref b19, .int 0, .int 0, .int 0, .int 0, .ref b20, .ref b21, .ref b22, .ref b23, .ref b24, .ref b25, .int 0, .ref b26, .ref b27, .ref b28, .ref b29, .ref b30, .ref b31, .ref b32, .int 0, .int 0, .ref b33, .ref b34, .ref b35, .ref b36, .ref b37, .int 0, .ref b38, .ref b39, .int 0, .ref b40, .ref b41, .ref b42, .ref b43, .ref b44, .ref b45, .int 0, .ref b46, .ref b47, .ref b48, .ref b49, .ref b50, .ref b51, .ref b52, .ref b53, .ref b54, .ref b55, .ref b56, .int 0, .int 0, .int 0, .int 0, .int (-1), .int 0, .int 0, .int 0, .int 0, .int 0, .int 0, .ref b57, .ref b58, .ref b59, .int 0, .ref b60, .ref b61, .int 0, .ref b62, .ref b63, .ref b64, .int 0, .ref b65, .ref b66, .ref b67, .ref b68, .ref b69, .ref b70, .int 0, .int (-1), .int 0, .ref b71, .int (-1), .int (-1), .int (-1), .ref b72, .int 0, .ref b73, .int 0, .ref b74, .int 0, .int 0, .ref b75]))] (fun r w1 => r = 0 ∧ w1 = [(a0, .inr (12, [.ref b0, .ref b1, .int 0, .int 0, .int 2, .int 0, .int 0, .int 0, .int 0, .int 0, .int 0, .int 0, .int 0, .ref b2, .ref b3, .ref b4, .ref b5, .ref b6, .int 0, .int 1, .int 0, .ref b7, .ref b8, .ref b9, .ref b10, .int 0, .ref b11, .ref b12, .int 0, .int 0, .ref b13, .ref b14, .ref b15, .ref b16, .ref b17, .ref b18, .ref b19, .int 0, .int 0, .int 0, .int 0, .ref b20, .ref b21, .ref b22, .ref b23, .ref b24, .ref b25, .int 0, .ref b26, .ref b27, .ref b28, .ref b29, .ref b30, .ref b31, .ref b32, .int 0, .int 0, .ref b33, .ref b34, .ref b35, .ref b36, .ref b37, .int 0, .ref b38, .ref b39, .int 0, .ref b40, .ref b41, .ref b42, .ref b43, .ref b44, .ref b45, .int 0, .ref b46, .ref b47, .ref b48, .ref b49, .ref b50, .ref b51, .ref b52, .ref b53, .ref b54, .ref b55, .ref b56, .int 0, .int 0, .int 0, .int 0, .int (-1), .int 0, .int 0, .int 0, .int 0, .int 0, .int 0, .ref b57, .ref b58, .ref b59, .int 0, .ref b60, .ref b61, .int 0, .ref b62, .ref b63, .ref b64, .int 0, .ref b65, .ref b66, .ref b67, .ref b68, .ref b69, .ref b70, .int 0, .int (-1), .int 0, .ref b71, .int (-1), .int (-1), .int (-1), .ref b72, .int 0, .ref b73, .int 0, .ref b74, .int 0, .int 0, .ref b75]))]) := by
  refine ax_Mi.of (by decide +kernel) (Nat.le_of_ble_eq_true rfl) ?_
  intro p e s m args below meth c C hnm
  refine ax_ls ([(0, .ref a0), (1, .int 0), (2, .int i0)]) [0, 1, 2] rfl ?_
  refine ax_aload_n (pc := 0) C d_MM_symbol2_0 rfl 0 rfl ?_
  refine ax_iconst (pc := 1) C 0 d_MM_symbol2_1 (by decide +kernel) ?_
  refine ax_put (pc := 2) C k_MM 4 lk_MM_24 d_MM_symbol2_2 (Nat.le_of_ble_eq_true rfl) 0 rfl rfl rfl rfl (Nat.le_of_ble_eq_true rfl) ?_
  refine ax_w ([(a0, .inr (12, [.ref b0, .ref b1, .int 0, .int 0, .int 0, .int 0, .int 0, .int 0, .int 0, .int 0, .int 0, .int 0, .int 0, .ref b2, .ref b3, .ref b4, .ref b5, .ref b6, .int 0, .int 1, .int 0, .ref b7, .ref b8, .ref b9, .ref b10, .int 0, .ref b11, .ref b12, .int 0, .int 0, .ref b13, .ref b14, .ref b15, .ref b16, .ref b17, .ref b18, .ref b19, .int 0, .int 0, .int 0, .int 0, .ref b20, .ref b21, .ref b22, .ref b23, .ref b24, .ref b25, .int 0, .ref b26, .ref b27, .ref b28, .ref b29, .ref b30, .ref b31, .ref b32, .int 0, .int 0, .ref b33, .ref b34, .ref b35, .ref b36, .ref b37, .int 0, .ref b38, .ref b39, .int 0, .ref b40, .ref b41, .ref b42, .ref b43, .ref b44, .ref b45, .int 0, .ref b46, .ref b47, .ref b48, .ref b49, .ref b50, .ref b51, .ref b52, .ref b53, .ref b54, .ref b55, .ref b56, .int 0, .int 0, .int 0, .int 0, .int (-1), .int 0, .int 0, .int 0, .int 0, .int 0, .int 0, .ref b57, .ref b58, .ref b59, .int 0, .ref b60, .ref b61, .int 0, .ref b62, .ref b63, .ref b64, .int 0, .ref b65, .ref b66, .ref b67, .ref b68, .ref b69, .ref b70, .int 0, .int (-1), .int 0, .ref b71, .int (-1), .int (-1), .int (-1), .ref b72, .int 0, .ref b73, .int 0, .ref b74, .int 0, .int 0, .ref b75]))]) rfl ?_
  refine ax_aload_n (pc := 5) C d_MM_symbol2_5 rfl 0 rfl ?_
  refine ax_iconst (pc := 6) C 1 d_MM_symbol2_6 (by decide +kernel) ?_
  refine ax_iload_n (pc := 7) C d_MM_symbol2_7 rfl 1 rfl ?_
  refine ax_if_lt (pc := 8) C 19 d_MM_symbol2_8 (by decide) (fun h => absurd h (by decide)) (fun _ => ?_)
  refine ax_iload_n (pc := 11) C d_MM_symbol2_11 rfl 1 rfl ?_
  refine ax_aload_n (pc := 12) C d_MM_symbol2_12 rfl 0 rfl ?_
  refine ax_get (pc := 13) C k_MM 19 lk_MM_71 d_MM_symbol2_13 (Nat.le_of_ble_eq_true rfl) 0 rfl rfl ?_
  refine ax_icmp_lt (pc := 16) C 23 d_MM_symbol2_16 (by decide) (fun _ => ?_) (fun h => absurd h (by decide))
  refine ax_iconst (pc := 23) C 0 d_MM_symbol2_23 (by decide +kernel) ?_
  refine ax_callVi (pc := 24) C (As := [.int 1, .int 0]) (rest := []) (wr := [(a0, .inr (12, [.ref b0, .ref b1, .int 0, .int 0, .int 0, .int 0, .int 0, .int 0, .int 0, .int 0, .int 0, .int 0, .int 0, .ref b2, .ref b3, .ref b4, .ref b5, .ref b6, .int 0, .int 1, .int 0, .ref b7, .ref b8, .ref b9, .ref b10, .int 0, .ref b11, .ref b12, .int 0, .int 0, .ref b13, .ref b14, .ref b15, .ref b16, .ref b17, .ref b18, .ref b19, .int 0, .int 0, .int 0, .int 0, .ref b20, .ref b21, .ref b22, .ref b23, .ref b24, .ref b25, .int 0, .ref b26, .ref b27, .ref b28, .ref b29, .ref b30, .ref b31, .ref b32, .int 0, .int 0, .ref b33, .ref b34, .ref b35, .ref b36, .ref b37, .int 0, .ref b38, .ref b39, .int 0, .ref b40, .ref b41, .ref b42, .ref b43, .ref b44, .ref b45, .int 0, .ref b46, .ref b47, .ref b48, .ref b49, .ref b50, .ref b51, .ref b52, .ref b53, .ref b54, .ref b55, .ref b56, .int 0, .int 0, .int 0, .int 0, .int (-1), .int 0, .int 0, .int 0, .int 0, .int 0, .int 0, .ref b57, .ref b58, .ref b59, .int 0, .ref b60, .ref b61, .int 0, .ref b62, .ref b63, .ref b64, .int 0, .ref b65, .ref b66, .ref b67, .ref b68, .ref b69, .ref b70, .int 0, .int (-1), .int 0, .ref b71, .int (-1), .int (-1), .int (-1), .ref b72, .int 0, .ref b73, .int 0, .ref b74, .int 0, .int 0, .ref b75]))]) (m29_MM_refuse l D kA a0) ml_MM_401 0 rfl rfl rfl d_MM_symbol2_24 rfl rfl [] [0] rfl (by decide) rfl (by decide) (by decide) (Nat.le_of_ble_eq_true rfl) (Nat.le_of_ble_eq_true rfl) (Nat.le_of_ble_eq_true rfl) (Nat.le_of_ble_eq_true rfl) (Nat.le_of_ble_eq_true rfl) (fun r24 w1 hw1 => ?_)
  obtain ⟨rfl, rfl⟩ := hw1
  refine ax_w ([(a0, .inr (12, [.ref b0, .ref b1, .int 0, .int 0, .int 0, .int 0, .int 0, .int 0, .int 0, .int 0, .int 0, .int 0, .int 0, .ref b2, .ref b3, .ref b4, .ref b5, .ref b6, .int 0, .int 1, .int 0, .ref b7, .ref b8, .ref b9, .ref b10, .int 0, .ref b11, .ref b12, .int 0, .int 0, .ref b13, .ref b14, .ref b15, .ref b16, .ref b17, .ref b18, .ref b19, .int 0, .int 0, .int 0, .int 0, .ref b20, .ref b21, .ref b22, .ref b23, .ref b24, .ref b25, .int 0, .ref b26, .ref b27, .ref b28, .ref b29, .ref b30, .ref b31, .ref b32, .int 0, .int 0, .ref b33, .ref b34, .ref b35, .ref b36, .ref b37, .int 0, .ref b38, .ref b39, .int 0, .ref b40, .ref b41, .ref b42, .ref b43, .ref b44, .ref b45, .int 0, .ref b46, .ref b47, .ref b48, .ref b49, .ref b50, .ref b51, .ref b52, .ref b53, .ref b54, .ref b55, .ref b56, .int 0, .int 0, .int 0, .int 0, .int (-1), .int 0, .int 0, .int 0, .int 0, .int 0, .int 0, .ref b57, .ref b58, .ref b59, .int 0, .ref b60, .ref b61, .int 0, .ref b62, .ref b63, .ref b64, .int 0, .ref b65, .ref b66, .ref b67, .ref b68, .ref b69, .ref b70, .int 0, .int (-1), .int 0, .ref b71, .int (-1), .int (-1), .int (-1), .ref b72, .int 0, .ref b73, .int 0, .ref b74, .int 0, .int 0, .ref b75]))]) rfl ?_
  refine ax_if_ne (pc := 27) C 52 d_MM_symbol2_27 (by decide) (fun h => absurd h (by decide)) (fun _ => ?_)
  refine ax_aload_n (pc := 30) C d_MM_symbol2_30 rfl 0 rfl ?_
  refine ax_iconst (pc := 31) C 2 d_MM_symbol2_31 (by decide +kernel) ?_
  refine ax_iload_n (pc := 32) C d_MM_symbol2_32 rfl 2 rfl ?_
  refine ax_if_lt (pc := 33) C 41 d_MM_symbol2_33 (by decide) (fun h => absurd h h0) (fun _ => ?_)
  refine ax_iload_n (pc := 36) C d_MM_symbol2_36 rfl 2 rfl ?_
  refine ax_iconst (pc := 37) C 2 d_MM_symbol2_37 (by decide +kernel) ?_
  refine ax_icmp_le (pc := 38) C 45 d_MM_symbol2_38 (by decide) (fun h => absurd h h1) (fun _ => ?_)
  refine ax_iconst (pc := 41) C 1 d_MM_symbol2_41 (by decide +kernel) ?_
  refine ax_goto (pc := 42) C 46 d_MM_symbol2_42 (by decide) ?_
  refine ax_callVi (pc := 46) C (As := [.int 2, .int 1]) (rest := []) (wr := []) (m117_MM_refuse l D kA a0 b0 b1 b2 b3 b4 b5 b6 b7 b8 b9 b10 b11 b12 b13 b14 b15 b16 b17 b18 b19 b20 b21 b22 b23 b24 b25 b26 b27 b28 b29 b30 b31 b32 b33 b34 b35 b36 b37 b38 b39 b40 b41 b42 b43 b44 b45 b46 b47 b48 b49 b50 b51 b52 b53 b54 b55 b56 b57 b58 b59 b60 b61 b62 b63 b64 b65 b66 b67 b68 b69 b70 b71 b72 b73 b74 b75) ml_MM_401 0 rfl rfl rfl d_MM_symbol2_46 rfl rfl [0] [] rfl (by decide) rfl (by decide) (by decide) (Nat.le_of_ble_eq_true rfl) (Nat.le_of_ble_eq_true rfl) (Nat.le_of_ble_eq_true rfl) (Nat.le_of_ble_eq_true rfl) (Nat.le_of_ble_eq_true rfl) (fun r46 w1 hw1 => ?_)
  obtain ⟨rfl, rfl⟩ := hw1
  refine ax_w ([(a0, .inr (12, [.ref b0, .ref b1, .int 0, .int 0, .int 2, .int 0, .int 0, .int 0, .int 0, .int 0, .int 0, .int 0, .int 0, .ref b2, .ref b3, .ref b4, .ref b5, .ref b6, .int 0, .int 1, .int 0, .ref b7, .ref b8, .ref b9, .ref b10, .int 0, .ref b11, .ref b12, .int 0, .int 0, .ref b13, .ref b14, .ref b15, .ref b16, .ref b17, .ref b18, .ref b19, .int 0, .int 0, .int 0, .int 0, .ref b20, .ref b21, .ref b22, .ref b23, .ref b24, .ref b25, .int 0, .ref b26, .ref b27, .ref b28, .ref b29, .ref b30, .ref b31, .ref b32, .int 0, .int 0, .ref b33, .ref b34, .ref b35, .ref b36, .ref b37, .int 0, .ref b38, .ref b39, .int 0, .ref b40, .ref b41, .ref b42, .ref b43, .ref b44, .ref b45, .int 0, .ref b46, .ref b47, .ref b48, .ref b49, .ref b50, .ref b51, .ref b52, .ref b53, .ref b54, .ref b55, .ref b56, .int 0, .int 0, .int 0, .int 0, .int (-1), .int 0, .int 0, .int 0, .int 0, .int 0, .int 0, .ref b57, .ref b58, .ref b59, .int 0, .ref b60, .ref b61, .int 0, .ref b62, .ref b63, .ref b64, .int 0, .ref b65, .ref b66, .ref b67, .ref b68, .ref b69, .ref b70, .int 0, .int (-1), .int 0, .ref b71, .int (-1), .int (-1), .int (-1), .ref b72, .int 0, .ref b73, .int 0, .ref b74, .int 0, .int 0, .ref b75]))]) rfl ?_
  refine ax_if_eq (pc := 49) C 54 d_MM_symbol2_49 (by decide) (fun h => absurd h (by decide)) (fun _ => ?_)
  refine ax_iconst (pc := 52) C 0 d_MM_symbol2_52 (by decide +kernel) ?_
  exact ax_iret (pc := 53) C d_MM_symbol2_53 ⟨rfl, rfl⟩ (by decide) (by decide)
abbrev b_CP_proof : ByteArray := prog_1_method_19_code
def y_CP_proof : MethodName := ⟨"ClauseProver", "proof", "()I"⟩
theorem d_CP_proof_0 : decode b_CP_proof 0 = .ok (.aload_n 0, 1) := by decide +kernel
theorem d_CP_proof_1 : decode b_CP_proof 1 = .ok (.getfield 69, 3) := by decide +kernel
theorem d_CP_proof_4 : decode b_CP_proof 4 = .ok (.getfield 264, 3) := by decide +kernel
theorem d_CP_proof_7 : decode b_CP_proof 7 = .ok (.getfield 82, 3) := by decide +kernel
theorem d_CP_proof_10 : decode b_CP_proof 10 = .ok (.ireturn, 1) := by decide +kernel
theorem lk_CP_264 : Cond.fieldLink "ClauseProver" 264 (F_Sat 7).1 (F_Sat 7).2.1 (F_Sat 7).2.2.1 ∈ lw_tbg := tb_in (i := 438) (by decide +kernel) rfl
set_option maxHeartbeats 4000000 in
set_option maxRecDepth 100000 in
theorem m122_CP_proof (l : Launch) (D : va_G) (kA : Nat → ClassId) (a0 : Nat) (a1 : Nat) (a2 : Nat) (b0 : Nat) (b1 : Nat) (b2 : Nat) (b3 : Nat) (b4 : Nat) (b5 : Nat) (b6 : Nat) (b7 : Nat) (b8 : Nat) (b9 : Nat) (b10 : Nat) (b11 : Nat) (b12 : Nat) : ax_Mi l D kA y_CP_proof b_CP_proof 1 .int 0 0 0 0 [.ref a0] [(a0, .inr (11, [.ref b0, .ref b1, .ref b2, .ref b3, .ref b4, .ref b5, .ref b6, .ref b7, .ref a1, .ref b8, .int 0, .int 0])), (a1, .inr (9, [.int 0, .int 0, .int 0, .int 0, .int 0, .int 0, .int 0, .ref a2, .ref b3, .ref b7, .ref b6, .ref b9, .ref b10, .ref b11])), (a2, .inr (0, [.ref b12, .int 0]))] (fun r w1 => r = 0 ∧ w1 = [(a0, .inr (11, [.ref b0, .ref b1, .ref b2, .ref b3, .ref b4, .ref b5, .ref b6, .ref b7, .ref a1, .ref b8, .int 0, .int 0])), (a1, .inr (9, [.int 0, .int 0, .int 0, .int 0, .int 0, .int 0, .int 0, .ref a2, .ref b3, .ref b7, .ref b6, .ref b9, .ref b10, .ref b11])), (a2, .inr (0, [.ref b12, .int 0]))]) := by
  refine ax_Mi.of (by decide +kernel) (Nat.le_of_ble_eq_true rfl) ?_
  intro p e s m args below meth c C hnm
  refine ax_ls ([(0, .ref a0)]) [0] rfl ?_
  refine ax_aload_n (pc := 0) C d_CP_proof_0 rfl 0 rfl ?_
  refine ax_get (pc := 1) C k_CP 8 lk_CP_69 d_CP_proof_1 (Nat.le_of_ble_eq_true rfl) 0 rfl rfl ?_
  refine ax_get (pc := 4) C k_Sat 7 lk_CP_264 d_CP_proof_4 (Nat.le_of_ble_eq_true rfl) 1 rfl rfl ?_
  refine ax_get (pc := 7) C k_Row 1 lk_CP_82 d_CP_proof_7 (Nat.le_of_ble_eq_true rfl) 2 rfl rfl ?_
  exact ax_iret (pc := 10) C d_CP_proof_10 ⟨rfl, rfl⟩ (by decide) (by decide)
abbrev b_MM_proof : ByteArray := prog_14_method_124_code
def y_MM_proof : MethodName := ⟨"ClauseProverModel", "proof", "()I"⟩
theorem d_MM_proof_0 : decode b_MM_proof 0 = .ok (.aload_n 0, 1) := by decide +kernel
theorem d_MM_proof_1 : decode b_MM_proof 1 = .ok (.iconst 0, 1) := by decide +kernel
theorem d_MM_proof_2 : decode b_MM_proof 2 = .ok (.putfield 24, 3) := by decide +kernel
theorem d_MM_proof_5 : decode b_MM_proof 5 = .ok (.aload_n 0, 1) := by decide +kernel
theorem d_MM_proof_6 : decode b_MM_proof 6 = .ok (.invokevirtual 777, 3) := by decide +kernel
theorem d_MM_proof_9 : decode b_MM_proof 9 = .ok (.ireturn, 1) := by decide +kernel
abbrev b_MM_prove : ByteArray := prog_14_method_123_code
def y_MM_prove : MethodName := ⟨"ClauseProverModel", "prove", "()I"⟩
theorem d_MM_prove_0 : decode b_MM_prove 0 = .ok (.aload_n 0, 1) := by decide +kernel
theorem d_MM_prove_1 : decode b_MM_prove 1 = .ok (.getfield 388, 3) := by decide +kernel
theorem d_MM_prove_4 : decode b_MM_prove 4 = .ok (.iconst 0, 1) := by decide +kernel
theorem d_MM_prove_5 : decode b_MM_prove 5 = .ok (.invokestatic 774, 3) := by decide +kernel
theorem d_MM_prove_8 : decode b_MM_prove 8 = .ok (.aload_n 0, 1) := by decide +kernel
theorem d_MM_prove_9 : decode b_MM_prove 9 = .ok (.getfield 281, 3) := by decide +kernel
theorem d_MM_prove_12 : decode b_MM_prove 12 = .ok (.ifCond .ge 5, 3) := by decide +kernel
theorem d_MM_prove_15 : decode b_MM_prove 15 = .ok (.iconst 0, 1) := by decide +kernel
theorem d_MM_prove_16 : decode b_MM_prove 16 = .ok (.ireturn, 1) := by decide +kernel
theorem d_MM_prove_17 : decode b_MM_prove 17 = .ok (.aload_n 0, 1) := by decide +kernel
theorem d_MM_prove_18 : decode b_MM_prove 18 = .ok (.getfield 388, 3) := by decide +kernel
theorem d_MM_prove_21 : decode b_MM_prove 21 = .ok (.aload_n 0, 1) := by decide +kernel
theorem d_MM_prove_22 : decode b_MM_prove 22 = .ok (.getfield 281, 3) := by decide +kernel
theorem d_MM_prove_25 : decode b_MM_prove 25 = .ok (.iconst 1, 1) := by decide +kernel
theorem d_MM_prove_26 : decode b_MM_prove 26 = .ok (.bastore, 1) := by decide +kernel
theorem d_MM_prove_27 : decode b_MM_prove 27 = .ok (.iconst 0, 1) := by decide +kernel
theorem d_MM_prove_28 : decode b_MM_prove 28 = .ok (.istore_n 1, 1) := by decide +kernel
theorem d_MM_prove_29 : decode b_MM_prove 29 = .ok (.aload_n 0, 1) := by decide +kernel
theorem d_MM_prove_30 : decode b_MM_prove 30 = .ok (.getfield 269, 3) := by decide +kernel
theorem d_MM_prove_33 : decode b_MM_prove 33 = .ok (.iconst 1, 1) := by decide +kernel
theorem d_MM_prove_34 : decode b_MM_prove 34 = .ok (.isub, 1) := by decide +kernel
theorem d_MM_prove_35 : decode b_MM_prove 35 = .ok (.istore_n 2, 1) := by decide +kernel
theorem d_MM_prove_36 : decode b_MM_prove 36 = .ok (.iload_n 2, 1) := by decide +kernel
theorem d_MM_prove_37 : decode b_MM_prove 37 = .ok (.ifCond .lt 103, 3) := by decide +kernel
theorem d_MM_prove_40 : decode b_MM_prove 40 = .ok (.aload_n 0, 1) := by decide +kernel
theorem d_MM_prove_41 : decode b_MM_prove 41 = .ok (.getfield 388, 3) := by decide +kernel
theorem d_MM_prove_44 : decode b_MM_prove 44 = .ok (.iload_n 2, 1) := by decide +kernel
theorem d_MM_prove_45 : decode b_MM_prove 45 = .ok (.baload, 1) := by decide +kernel
theorem d_MM_prove_46 : decode b_MM_prove 46 = .ok (.ifCond .ne 6, 3) := by decide +kernel
theorem d_MM_prove_49 : decode b_MM_prove 49 = .ok (.goto 85, 3) := by decide +kernel
theorem d_MM_prove_52 : decode b_MM_prove 52 = .ok (.iinc 1 1, 3) := by decide +kernel
theorem d_MM_prove_55 : decode b_MM_prove 55 = .ok (.aload_n 0, 1) := by decide +kernel
theorem d_MM_prove_56 : decode b_MM_prove 56 = .ok (.getfield 250, 3) := by decide +kernel
theorem d_MM_prove_59 : decode b_MM_prove 59 = .ok (.iload_n 2, 1) := by decide +kernel
theorem d_MM_prove_60 : decode b_MM_prove 60 = .ok (.iaload, 1) := by decide +kernel
theorem d_MM_prove_61 : decode b_MM_prove 61 = .ok (.ifCond .lt 15, 3) := by decide +kernel
theorem d_MM_prove_64 : decode b_MM_prove 64 = .ok (.aload_n 0, 1) := by decide +kernel
theorem d_MM_prove_65 : decode b_MM_prove 65 = .ok (.getfield 388, 3) := by decide +kernel
theorem d_MM_prove_68 : decode b_MM_prove 68 = .ok (.aload_n 0, 1) := by decide +kernel
theorem d_MM_prove_69 : decode b_MM_prove 69 = .ok (.getfield 250, 3) := by decide +kernel
theorem d_MM_prove_72 : decode b_MM_prove 72 = .ok (.iload_n 2, 1) := by decide +kernel
theorem d_MM_prove_73 : decode b_MM_prove 73 = .ok (.iaload, 1) := by decide +kernel
theorem d_MM_prove_74 : decode b_MM_prove 74 = .ok (.iconst 1, 1) := by decide +kernel
theorem d_MM_prove_75 : decode b_MM_prove 75 = .ok (.bastore, 1) := by decide +kernel
theorem d_MM_prove_76 : decode b_MM_prove 76 = .ok (.aload_n 0, 1) := by decide +kernel
theorem d_MM_prove_77 : decode b_MM_prove 77 = .ok (.getfield 253, 3) := by decide +kernel
theorem d_MM_prove_80 : decode b_MM_prove 80 = .ok (.iload_n 2, 1) := by decide +kernel
theorem d_MM_prove_81 : decode b_MM_prove 81 = .ok (.iaload, 1) := by decide +kernel
theorem d_MM_prove_82 : decode b_MM_prove 82 = .ok (.ifCond .lt 15, 3) := by decide +kernel
theorem d_MM_prove_85 : decode b_MM_prove 85 = .ok (.aload_n 0, 1) := by decide +kernel
theorem d_MM_prove_86 : decode b_MM_prove 86 = .ok (.getfield 388, 3) := by decide +kernel
theorem d_MM_prove_89 : decode b_MM_prove 89 = .ok (.aload_n 0, 1) := by decide +kernel
theorem d_MM_prove_90 : decode b_MM_prove 90 = .ok (.getfield 253, 3) := by decide +kernel
theorem d_MM_prove_93 : decode b_MM_prove 93 = .ok (.iload_n 2, 1) := by decide +kernel
theorem d_MM_prove_94 : decode b_MM_prove 94 = .ok (.iaload, 1) := by decide +kernel
theorem d_MM_prove_95 : decode b_MM_prove 95 = .ok (.iconst 1, 1) := by decide +kernel
theorem d_MM_prove_96 : decode b_MM_prove 96 = .ok (.bastore, 1) := by decide +kernel
theorem d_MM_prove_97 : decode b_MM_prove 97 = .ok (.iconst 0, 1) := by decide +kernel
theorem d_MM_prove_98 : decode b_MM_prove 98 = .ok (.istore_n 3, 1) := by decide +kernel
theorem d_MM_prove_99 : decode b_MM_prove 99 = .ok (.iload_n 3, 1) := by decide +kernel
theorem d_MM_prove_100 : decode b_MM_prove 100 = .ok (.aload_n 0, 1) := by decide +kernel
theorem d_MM_prove_101 : decode b_MM_prove 101 = .ok (.getfield 262, 3) := by decide +kernel
theorem d_MM_prove_104 : decode b_MM_prove 104 = .ok (.iload_n 2, 1) := by decide +kernel
theorem d_MM_prove_105 : decode b_MM_prove 105 = .ok (.iaload, 1) := by decide +kernel
theorem d_MM_prove_106 : decode b_MM_prove 106 = .ok (.if_icmp .ge 28, 3) := by decide +kernel
theorem d_MM_prove_109 : decode b_MM_prove 109 = .ok (.aload_n 0, 1) := by decide +kernel
theorem d_MM_prove_110 : decode b_MM_prove 110 = .ok (.getfield 388, 3) := by decide +kernel
theorem d_MM_prove_113 : decode b_MM_prove 113 = .ok (.aload_n 0, 1) := by decide +kernel
theorem d_MM_prove_114 : decode b_MM_prove 114 = .ok (.getfield 266, 3) := by decide +kernel
theorem d_MM_prove_117 : decode b_MM_prove 117 = .ok (.aload_n 0, 1) := by decide +kernel
theorem d_MM_prove_118 : decode b_MM_prove 118 = .ok (.getfield 259, 3) := by decide +kernel
theorem d_MM_prove_121 : decode b_MM_prove 121 = .ok (.iload_n 2, 1) := by decide +kernel
theorem d_MM_prove_122 : decode b_MM_prove 122 = .ok (.iaload, 1) := by decide +kernel
theorem d_MM_prove_123 : decode b_MM_prove 123 = .ok (.iload_n 3, 1) := by decide +kernel
theorem d_MM_prove_124 : decode b_MM_prove 124 = .ok (.iadd, 1) := by decide +kernel
theorem d_MM_prove_125 : decode b_MM_prove 125 = .ok (.iaload, 1) := by decide +kernel
theorem d_MM_prove_126 : decode b_MM_prove 126 = .ok (.iconst 1, 1) := by decide +kernel
theorem d_MM_prove_127 : decode b_MM_prove 127 = .ok (.bastore, 1) := by decide +kernel
theorem d_MM_prove_128 : decode b_MM_prove 128 = .ok (.iinc 3 1, 3) := by decide +kernel
theorem d_MM_prove_131 : decode b_MM_prove 131 = .ok (.goto (-32), 3) := by decide +kernel
theorem d_MM_prove_134 : decode b_MM_prove 134 = .ok (.iinc 2 (-1), 3) := by decide +kernel
theorem d_MM_prove_137 : decode b_MM_prove 137 = .ok (.goto (-101), 3) := by decide +kernel
theorem d_MM_prove_140 : decode b_MM_prove 140 = .ok (.iload_n 1, 1) := by decide +kernel
theorem d_MM_prove_141 : decode b_MM_prove 141 = .ok (.ireturn, 1) := by decide +kernel
theorem tc_CP_proof : Cond.code y_CP_proof b_CP_proof 1 (some (.int)) ∈ lw_tbg := tb_in (i := 878) (by decide +kernel) rfl
theorem ml_Law_106 : ax_LV "ClauseProverLaw" 106 y_CP_proof b_CP_proof 1 (some (.int)) 0 := ax_LV.mk (tb_in (i := 875) (by decide +kernel) rfl) (tb_in (i := 876) (by decide +kernel) rfl) (tb_in (i := 877) (by decide +kernel) rfl) ti_CP tc_CP_proof (by decide +kernel)
theorem tc_Arr_fill2 : Cond.code y_Arr_fill2 b_Arr_fill2 4 none ∈ lw_tbg := tb_in (i := 2448) (by decide +kernel) rfl
theorem ml_MM_774 : ax_LS "ClauseProverModel" 774 y_Arr_fill2 b_Arr_fill2 4 none 2 := ax_LS.mk (tb_in (i := 2446) (by decide +kernel) rfl) (tb_in (i := 2447) (by decide +kernel) rfl) ti_Arr tc_Arr_fill2 (by decide +kernel)
set_option maxHeartbeats 4000000 in
set_option maxRecDepth 100000 in
theorem m124_MM_prove (l : Launch) (D : va_G) (kA : Nat → ClassId) (a0 : Nat) (a1 : Nat) (b0 : Nat) (b1 : Nat) (b2 : Nat) (b3 : Nat) (b4 : Nat) (b5 : Nat) (b6 : Nat) (b7 : Nat) (b8 : Nat) (b9 : Nat) (b10 : Nat) (b11 : Nat) (b12 : Nat) (b13 : Nat) (b14 : Nat) (b15 : Nat) (b16 : Nat) (b17 : Nat) (b18 : Nat) (b19 : Nat) (b20 : Nat) (b21 : Nat) (b22 : Nat) (b23 : Nat) (b24 : Nat) (b25 : Nat) (b26 : Nat) (b27 : Nat) (b28 : Nat) (b29 : Nat) (b30 : Nat) (b31 : Nat) (b32 : Nat) (b33 : Nat) (b34 : Nat) (b35 : Nat) (b36 : Nat) (b37 : Nat) (b38 : Nat) (b39 : Nat) (b40 : Nat) (b41 : Nat) (b42 : Nat) (b43 : Nat) (b44 : Nat) (b45 : Nat) (b46 : Nat) (b47 : Nat) (b48 : Nat) (b49 : Nat) (b50 : Nat) (b51 : Nat) (b52 : Nat) (b53 : Nat) (b54 : Nat) (b55 : Nat) (b56 : Nat) (b57 : Nat) (b58 : Nat) (b59 : Nat) (b60 : Nat) (b61 : Nat) (b62 : Nat) (b63 : Nat) (b64 : Nat) (b65 : Nat) (b66 : Nat) (b67 : Nat) (b68 : Nat) (b69 : Nat) (b70 : Nat) (b71 : Nat) (b72 : Nat) (b73 : Nat) (b74 : Nat) : ax_Mi l D kA y_MM_prove b_MM_prove 4 .int 1 23 0 0 [.ref a0] [(a0, .inr (12, [.ref b0, .ref b1, .int 0, .int 0, .int 0, .int 0, .int 0, .int 0, .int 0, .int 0, .int 0, .int 0, .int 0, .ref b2, .ref b3, .ref b4, .ref b5, .ref b6, .int 0, .int 1, .int 0, .ref b7, .ref b8, .ref b9, .ref b10, .int 0, .ref b11, .ref b12, .int 0, .int 0, .ref b13, .ref b14, .ref b15, .ref b16, .ref b17, .ref b18, .ref b19, .int 0, .int 0, .int 0, .int 0, .ref b20, .ref b21, .ref b22, .ref b23, .ref b24, .ref b25, .int 0, .ref b26, .ref b27, .ref b28, .ref b29, .ref b30, .ref b31, .ref b32, .int 0, .int 0, .ref b33, .ref b34, .ref b35, .ref b36, .ref b37, .int 0, .ref b38, .ref b39, .int 0, .ref b40, .ref b41, .ref b42, .ref b43, .ref b44, .ref b45, .int 0, .ref b46, .ref b47, .ref b48, .ref b49, .ref b50, .ref b51, .ref b52, .ref b53, .ref b54, .ref b55, .ref b56, .int 0, .int 0, .int 0, .int 0, .int (-1), .int 0, .int 0, .int 0, .int 0, .int 0, .int 0, .ref b57, .ref b58, .ref b59, .int 0, .ref b60, .ref b61, .int 0, .ref b62, .ref b63, .ref b64, .int 0, .ref b65, .ref b66, .ref b67, .ref b68, .ref b69, .ref b70, .int 0, .int (-1), .int 0, .ref b71, .int (-1), .int (-1), .int (-1), .ref b72, .int 0, .ref b73, .int 0, .ref a1, .int 0, .int 0, .ref b74])), (a1, .inl (kA 1, 2001, .inl (fun _ => 0)))] (fun r w1 => r = 0 ∧ w1 = [(a0, .inr (12, [.ref b0, .ref b1, .int 0, .int 0, .int 0, .int 0, .int 0, .int 0, .int 0, .int 0, .int 0, .int 0, .int 0, .ref b2, .ref b3, .ref b4, .ref b5, .ref b6, .int 0, .int 1, .int 0, .ref b7, .ref b8, .ref b9, .ref b10, .int 0, .ref b11, .ref b12, .int 0, .int 0, .ref b13, .ref b14, .ref b15, .ref b16, .ref b17, .ref b18, .ref b19, .int 0, .int 0, .int 0, .int 0, .ref b20, .ref b21, .ref b22, .ref b23, .ref b24, .ref b25, .int 0, .ref b26, .ref b27, .ref b28, .ref b29, .ref b30, .ref b31, .ref b32, .int 0, .int 0, .ref b33, .ref b34, .ref b35, .ref b36, .ref b37, .int 0, .ref b38, .ref b39, .int 0, .ref b40, .ref b41, .ref b42, .ref b43, .ref b44, .ref b45, .int 0, .ref b46, .ref b47, .ref b48, .ref b49, .ref b50, .ref b51, .ref b52, .ref b53, .ref b54, .ref b55, .ref b56, .int 0, .int 0, .int 0, .int 0, .int (-1), .int 0, .int 0, .int 0, .int 0, .int 0, .int 0, .ref b57, .ref b58, .ref b59, .int 0, .ref b60, .ref b61, .int 0, .ref b62, .ref b63, .ref b64, .int 0, .ref b65, .ref b66, .ref b67, .ref b68, .ref b69, .ref b70, .int 0, .int (-1), .int 0, .ref b71, .int (-1), .int (-1), .int (-1), .ref b72, .int 0, .ref b73, .int 0, .ref a1, .int 0, .int 0, .ref b74])), (a1, .inl (kA 1, 2001, .inl (ax_fill (fun _ => 0) (vp_nar .boolean 0) 2001)))]) := by
  refine ax_Mi.of (by decide +kernel) (Nat.le_of_ble_eq_true rfl) ?_
  intro p e s m args below meth c C hnm
  refine ax_ls ([(0, .ref a0)]) [0] rfl ?_
  refine ax_aload_n (pc := 0) C d_MM_prove_0 rfl 0 rfl ?_
  refine ax_get (pc := 1) C k_MM 123 lk_MM_388 d_MM_prove_1 (Nat.le_of_ble_eq_true rfl) 0 rfl rfl ?_
  refine ax_iconst (pc := 4) C 0 d_MM_prove_4 (by decide +kernel) ?_
  refine ax_callSv (pc := 5) C (As := [.ref a1, .int 0]) (rest := []) (wr := [(a0, .inr (12, [.ref b0, .ref b1, .int 0, .int 0, .int 0, .int 0, .int 0, .int 0, .int 0, .int 0, .int 0, .int 0, .int 0, .ref b2, .ref b3, .ref b4, .ref b5, .ref b6, .int 0, .int 1, .int 0, .ref b7, .ref b8, .ref b9, .ref b10, .int 0, .ref b11, .ref b12, .int 0, .int 0, .ref b13, .ref b14, .ref b15, .ref b16, .ref b17, .ref b18, .ref b19, .int 0, .int 0, .int 0, .int 0, .ref b20, .ref b21, .ref b22, .ref b23, .ref b24, .ref b25, .int 0, .ref b26, .ref b27, .ref b28, .ref b29, .ref b30, .ref b31, .ref b32, .int 0, .int 0, .ref b33, .ref b34, .ref b35, .ref b36, .ref b37, .int 0, .ref b38, .ref b39, .int 0, .ref b40, .ref b41, .ref b42, .ref b43, .ref b44, .ref b45, .int 0, .ref b46, .ref b47, .ref b48, .ref b49, .ref b50, .ref b51, .ref b52, .ref b53, .ref b54, .ref b55, .ref b56, .int 0, .int 0, .int 0, .int 0, .int (-1), .int 0, .int 0, .int 0, .int 0, .int 0, .int 0, .ref b57, .ref b58, .ref b59, .int 0, .ref b60, .ref b61, .int 0, .ref b62, .ref b63, .ref b64, .int 0, .ref b65, .ref b66, .ref b67, .ref b68, .ref b69, .ref b70, .int 0, .int (-1), .int 0, .ref b71, .int (-1), .int (-1), .int (-1), .ref b72, .int 0, .ref b73, .int 0, .ref a1, .int 0, .int 0, .ref b74]))]) (c_Arr_fill2 l D kA a1 2001 (fun _ => 0) 0 (by decide)) ml_MM_774 d_MM_prove_5 rfl rfl [1] [0] rfl (by decide) rfl (by decide) (by decide) (Nat.le_of_ble_eq_true rfl) (Nat.le_of_ble_eq_true rfl) (Nat.le_of_ble_eq_true rfl) (Nat.le_of_ble_eq_true rfl) (Nat.le_of_ble_eq_true rfl) (fun w1 hw1 => ?_)
  subst hw1
  refine ax_w ([(a0, .inr (12, [.ref b0, .ref b1, .int 0, .int 0, .int 0, .int 0, .int 0, .int 0, .int 0, .int 0, .int 0, .int 0, .int 0, .ref b2, .ref b3, .ref b4, .ref b5, .ref b6, .int 0, .int 1, .int 0, .ref b7, .ref b8, .ref b9, .ref b10, .int 0, .ref b11, .ref b12, .int 0, .int 0, .ref b13, .ref b14, .ref b15, .ref b16, .ref b17, .ref b18, .ref b19, .int 0, .int 0, .int 0, .int 0, .ref b20, .ref b21, .ref b22, .ref b23, .ref b24, .ref b25, .int 0, .ref b26, .ref b27, .ref b28, .ref b29, .ref b30, .ref b31, .ref b32, .int 0, .int 0, .ref b33, .ref b34, .ref b35, .ref b36, .ref b37, .int 0, .ref b38, .ref b39, .int 0, .ref b40, .ref b41, .ref b42, .ref b43, .ref b44, .ref b45, .int 0, .ref b46, .ref b47, .ref b48, .ref b49, .ref b50, .ref b51, .ref b52, .ref b53, .ref b54, .ref b55, .ref b56, .int 0, .int 0, .int 0, .int 0, .int (-1), .int 0, .int 0, .int 0, .int 0, .int 0, .int 0, .ref b57, .ref b58, .ref b59, .int 0, .ref b60, .ref b61, .int 0, .ref b62, .ref b63, .ref b64, .int 0, .ref b65, .ref b66, .ref b67, .ref b68, .ref b69, .ref b70, .int 0, .int (-1), .int 0, .ref b71, .int (-1), .int (-1), .int (-1), .ref b72, .int 0, .ref b73, .int 0, .ref a1, .int 0, .int 0, .ref b74])), (a1, .inl (kA 1, 2001, .inl (ax_fill (fun _ => 0) (vp_nar .boolean 0) 2001)))]) rfl ?_
  refine ax_aload_n (pc := 8) C d_MM_prove_8 rfl 0 rfl ?_
  refine ax_get (pc := 9) C k_MM 88 lk_MM_281 d_MM_prove_9 (Nat.le_of_ble_eq_true rfl) 0 rfl rfl ?_
  refine ax_if_ge (pc := 12) C 17 d_MM_prove_12 (by decide) (fun h => absurd h (by decide)) (fun _ => ?_)
  refine ax_iconst (pc := 15) C 0 d_MM_prove_15 (by decide +kernel) ?_
  exact ax_iret (pc := 16) C d_MM_prove_16 ⟨rfl, rfl⟩ (by decide) (by decide)
theorem tc_MM_prove : Cond.code y_MM_prove b_MM_prove 4 (some (.int)) ∈ lw_tbg := tb_in (i := 2445) (by decide +kernel) rfl
theorem ml_MM_777 : ax_LV "ClauseProverModel" 777 y_MM_prove b_MM_prove 4 (some (.int)) 0 := ax_LV.mk (tb_in (i := 2442) (by decide +kernel) rfl) (tb_in (i := 2444) (by decide +kernel) rfl) (pv_in (i := 198) (by decide +kernel) rfl) ti_MM tc_MM_prove (by decide +kernel)
set_option maxHeartbeats 4000000 in
set_option maxRecDepth 100000 in
theorem m123_MM_proof (l : Launch) (D : va_G) (kA : Nat → ClassId) (a0 : Nat) (a1 : Nat) (b0 : Nat) (b1 : Nat) (b2 : Nat) (b3 : Nat) (b4 : Nat) (b5 : Nat) (b6 : Nat) (b7 : Nat) (b8 : Nat) (b9 : Nat) (b10 : Nat) (b11 : Nat) (b12 : Nat) (b13 : Nat) (b14 : Nat) (b15 : Nat) (b16 : Nat) (b17 : Nat) (b18 : Nat) (b19 : Nat) (b20 : Nat) (b21 : Nat) (b22 : Nat) (b23 : Nat) (b24 : Nat) (b25 : Nat) (b26 : Nat) (b27 : Nat) (b28 : Nat) (b29 : Nat) (b30 : Nat) (b31 : Nat) (b32 : Nat) (b33 : Nat) (b34 : Nat) (b35 : Nat) (b36 : Nat) (b37 : Nat) (b38 : Nat) (b39 : Nat) (b40 : Nat) (b41 : Nat) (b42 : Nat) (b43 : Nat) (b44 : Nat) (b45 : Nat) (b46 : Nat) (b47 : Nat) (b48 : Nat) (b49 : Nat) (b50 : Nat) (b51 : Nat) (b52 : Nat) (b53 : Nat) (b54 : Nat) (b55 : Nat) (b56 : Nat) (b57 : Nat) (b58 : Nat) (b59 : Nat) (b60 : Nat) (b61 : Nat) (b62 : Nat) (b63 : Nat) (b64 : Nat) (b65 : Nat) (b66 : Nat) (b67 : Nat) (b68 : Nat) (b69 : Nat) (b70 : Nat) (b71 : Nat) (b72 : Nat) (b73 : Nat) (b74 : Nat) : ax_Mi l D kA y_MM_proof b_MM_proof 1 .int 2 46 0 0 [.ref a0] [(a0, .inr (12, [.ref b0, .ref b1, .int 0, .int 0, .int 0, .int 0, .int 0, .int 0, .int 0, .int 0, .int 0, .int 0, .int 0, .ref b2, .ref b3, .ref b4, .ref b5, .ref b6, .int 0, .int 1, .int 0, .ref b7, .ref b8, .ref b9, .ref b10, .int 0, .ref b11, .ref b12, .int 0, .int 0, .ref b13, .ref b14, .ref b15, .ref b16, .ref b17, .ref b18, .ref b19, .int 0, .int 0, .int 0, .int 0, .ref b20, .ref b21, .ref b22, .ref b23, .ref b24, .ref b25, .int 0, .ref b26, .ref b27, .ref b28, .ref b29, .ref b30, .ref b31, .ref b32, .int 0, .int 0, .ref b33, .ref b34, .ref b35, .ref b36, .ref b37, .int 0, .ref b38, .ref b39, .int 0, .ref b40, .ref b41, .ref b42, .ref b43, .ref b44, .ref b45, .int 0, .ref b46, .ref b47, .ref b48, .ref b49, .ref b50, .ref b51, .ref b52, .ref b53, .ref b54, .ref b55, .ref b56, .int 0, .int 0, .int 0, .int 0, .int (-1), .int 0, .int 0, .int 0, .int 0, .int 0, .int 0, .ref b57, .ref b58, .ref b59, .int 0, .ref b60, .ref b61, .int 0, .ref b62, .ref b63, .ref b64, .int 0, .ref b65, .ref b66, .ref b67, .ref b68, .ref b69, .ref b70, .int 0, .int (-1), .int 0, .ref b71, .int (-1), .int (-1), .int (-1), .ref b72, .int 0, .ref b73, .int 0, .ref a1, .int 0, .int 0, .ref b74])), (a1, .inl (kA 1, 2001, .inl (fun _ => 0)))] (fun r w1 => r = 0 ∧ w1 = [(a0, .inr (12, [.ref b0, .ref b1, .int 0, .int 0, .int 0, .int 0, .int 0, .int 0, .int 0, .int 0, .int 0, .int 0, .int 0, .ref b2, .ref b3, .ref b4, .ref b5, .ref b6, .int 0, .int 1, .int 0, .ref b7, .ref b8, .ref b9, .ref b10, .int 0, .ref b11, .ref b12, .int 0, .int 0, .ref b13, .ref b14, .ref b15, .ref b16, .ref b17, .ref b18, .ref b19, .int 0, .int 0, .int 0, .int 0, .ref b20, .ref b21, .ref b22, .ref b23, .ref b24, .ref b25, .int 0, .ref b26, .ref b27, .ref b28, .ref b29, .ref b30, .ref b31, .ref b32, .int 0, .int 0, .ref b33, .ref b34, .ref b35, .ref b36, .ref b37, .int 0, .ref b38, .ref b39, .int 0, .ref b40, .ref b41, .ref b42, .ref b43, .ref b44, .ref b45, .int 0, .ref b46, .ref b47, .ref b48, .ref b49, .ref b50, .ref b51, .ref b52, .ref b53, .ref b54, .ref b55, .ref b56, .int 0, .int 0, .int 0, .int 0, .int (-1), .int 0, .int 0, .int 0, .int 0, .int 0, .int 0, .ref b57, .ref b58, .ref b59, .int 0, .ref b60, .ref b61, .int 0, .ref b62, .ref b63, .ref b64, .int 0, .ref b65, .ref b66, .ref b67, .ref b68, .ref b69, .ref b70, .int 0, .int (-1), .int 0, .ref b71, .int (-1), .int (-1), .int (-1), .ref b72, .int 0, .ref b73, .int 0, .ref a1, .int 0, .int 0, .ref b74])), (a1, .inl (kA 1, 2001, .inl (ax_fill (fun _ => 0) (vp_nar .boolean 0) 2001)))]) := by
  refine ax_Mi.of (by decide +kernel) (Nat.le_of_ble_eq_true rfl) ?_
  intro p e s m args below meth c C hnm
  refine ax_ls ([(0, .ref a0)]) [0] rfl ?_
  refine ax_aload_n (pc := 0) C d_MM_proof_0 rfl 0 rfl ?_
  refine ax_iconst (pc := 1) C 0 d_MM_proof_1 (by decide +kernel) ?_
  refine ax_put (pc := 2) C k_MM 4 lk_MM_24 d_MM_proof_2 (Nat.le_of_ble_eq_true rfl) 0 rfl rfl rfl rfl (Nat.le_of_ble_eq_true rfl) ?_
  refine ax_w ([(a0, .inr (12, [.ref b0, .ref b1, .int 0, .int 0, .int 0, .int 0, .int 0, .int 0, .int 0, .int 0, .int 0, .int 0, .int 0, .ref b2, .ref b3, .ref b4, .ref b5, .ref b6, .int 0, .int 1, .int 0, .ref b7, .ref b8, .ref b9, .ref b10, .int 0, .ref b11, .ref b12, .int 0, .int 0, .ref b13, .ref b14, .ref b15, .ref b16, .ref b17, .ref b18, .ref b19, .int 0, .int 0, .int 0, .int 0, .ref b20, .ref b21, .ref b22, .ref b23, .ref b24, .ref b25, .int 0, .ref b26, .ref b27, .ref b28, .ref b29, .ref b30, .ref b31, .ref b32, .int 0, .int 0, .ref b33, .ref b34, .ref b35, .ref b36, .ref b37, .int 0, .ref b38, .ref b39, .int 0, .ref b40, .ref b41, .ref b42, .ref b43, .ref b44, .ref b45, .int 0, .ref b46, .ref b47, .ref b48, .ref b49, .ref b50, .ref b51, .ref b52, .ref b53, .ref b54, .ref b55, .ref b56, .int 0, .int 0, .int 0, .int 0, .int (-1), .int 0, .int 0, .int 0, .int 0, .int 0, .int 0, .ref b57, .ref b58, .ref b59, .int 0, .ref b60, .ref b61, .int 0, .ref b62, .ref b63, .ref b64, .int 0, .ref b65, .ref b66, .ref b67, .ref b68, .ref b69, .ref b70, .int 0, .int (-1), .int 0, .ref b71, .int (-1), .int (-1), .int (-1), .ref b72, .int 0, .ref b73, .int 0, .ref a1, .int 0, .int 0, .ref b74])), (a1, .inl (kA 1, 2001, .inl (fun _ => 0)))]) rfl ?_
  refine ax_aload_n (pc := 5) C d_MM_proof_5 rfl 0 rfl ?_
  refine ax_callVi (pc := 6) C (As := []) (rest := []) (wr := []) (m124_MM_prove l D kA a0 a1 b0 b1 b2 b3 b4 b5 b6 b7 b8 b9 b10 b11 b12 b13 b14 b15 b16 b17 b18 b19 b20 b21 b22 b23 b24 b25 b26 b27 b28 b29 b30 b31 b32 b33 b34 b35 b36 b37 b38 b39 b40 b41 b42 b43 b44 b45 b46 b47 b48 b49 b50 b51 b52 b53 b54 b55 b56 b57 b58 b59 b60 b61 b62 b63 b64 b65 b66 b67 b68 b69 b70 b71 b72 b73 b74) ml_MM_777 0 rfl rfl rfl d_MM_proof_6 rfl rfl [0, 1] [] rfl (by decide) rfl (by decide) (by decide) (Nat.le_of_ble_eq_true rfl) (Nat.le_of_ble_eq_true rfl) (Nat.le_of_ble_eq_true rfl) (Nat.le_of_ble_eq_true rfl) (Nat.le_of_ble_eq_true rfl) (fun r6 w1 hw1 => ?_)
  obtain ⟨rfl, rfl⟩ := hw1
  refine ax_w ([(a0, .inr (12, [.ref b0, .ref b1, .int 0, .int 0, .int 0, .int 0, .int 0, .int 0, .int 0, .int 0, .int 0, .int 0, .int 0, .ref b2, .ref b3, .ref b4, .ref b5, .ref b6, .int 0, .int 1, .int 0, .ref b7, .ref b8, .ref b9, .ref b10, .int 0, .ref b11, .ref b12, .int 0, .int 0, .ref b13, .ref b14, .ref b15, .ref b16, .ref b17, .ref b18, .ref b19, .int 0, .int 0, .int 0, .int 0, .ref b20, .ref b21, .ref b22, .ref b23, .ref b24, .ref b25, .int 0, .ref b26, .ref b27, .ref b28, .ref b29, .ref b30, .ref b31, .ref b32, .int 0, .int 0, .ref b33, .ref b34, .ref b35, .ref b36, .ref b37, .int 0, .ref b38, .ref b39, .int 0, .ref b40, .ref b41, .ref b42, .ref b43, .ref b44, .ref b45, .int 0, .ref b46, .ref b47, .ref b48, .ref b49, .ref b50, .ref b51, .ref b52, .ref b53, .ref b54, .ref b55, .ref b56, .int 0, .int 0, .int 0, .int 0, .int (-1), .int 0, .int 0, .int 0, .int 0, .int 0, .int 0, .ref b57, .ref b58, .ref b59, .int 0, .ref b60, .ref b61, .int 0, .ref b62, .ref b63, .ref b64, .int 0, .ref b65, .ref b66, .ref b67, .ref b68, .ref b69, .ref b70, .int 0, .int (-1), .int 0, .ref b71, .int (-1), .int (-1), .int (-1), .ref b72, .int 0, .ref b73, .int 0, .ref a1, .int 0, .int 0, .ref b74])), (a1, .inl (kA 1, 2001, .inl (ax_fill (fun _ => 0) (vp_nar .boolean 0) 2001)))]) rfl ?_
  exact ax_iret (pc := 9) C d_MM_proof_9 ⟨rfl, rfl⟩ (by decide) (by decide)
abbrev b_Law_step : ByteArray := method_12_code
def y_Law_step : MethodName := ⟨"ClauseProverLaw", "step", "(LClauseProver;I[J)I"⟩
theorem d_Law_step_0 : decode b_Law_step 0 = .ok (.aload_n 2, 1) := by decide +kernel
theorem d_Law_step_1 : decode b_Law_step 1 = .ok (.iconst 0, 1) := by decide +kernel
theorem d_Law_step_2 : decode b_Law_step 2 = .ok (.aload_n 0, 1) := by decide +kernel
theorem d_Law_step_3 : decode b_Law_step 3 = .ok (.iload_n 1, 1) := by decide +kernel
theorem d_Law_step_4 : decode b_Law_step 4 = .ok (.invokevirtual 48, 3) := by decide +kernel
theorem d_Law_step_7 : decode b_Law_step 7 = .ok (.i2l, 1) := by decide +kernel
theorem d_Law_step_8 : decode b_Law_step 8 = .ok (.lastore, 1) := by decide +kernel
theorem d_Law_step_9 : decode b_Law_step 9 = .ok (.goto 6, 3) := by decide +kernel
theorem d_Law_step_12 : decode b_Law_step 12 = .ok (.astore_n 3, 1) := by decide +kernel
theorem d_Law_step_13 : decode b_Law_step 13 = .ok (.iconst 1, 1) := by decide +kernel
theorem d_Law_step_14 : decode b_Law_step 14 = .ok (.ireturn, 1) := by decide +kernel
theorem d_Law_step_15 : decode b_Law_step 15 = .ok (.iconst 0, 1) := by decide +kernel
theorem d_Law_step_16 : decode b_Law_step 16 = .ok (.ireturn, 1) := by decide +kernel
abbrev b_CP_step : ByteArray := prog_1_method_20_code
def y_CP_step : MethodName := ⟨"ClauseProver", "step", "(I)I"⟩
theorem d_CP_step_0 : decode b_CP_step 0 = .ok (.iload_n 1, 1) := by decide +kernel
theorem d_CP_step_1 : decode b_CP_step 1 = .ok (.ifCond .lt 17, 3) := by decide +kernel
theorem d_CP_step_4 : decode b_CP_step 4 = .ok (.iload_n 1, 1) := by decide +kernel
theorem d_CP_step_5 : decode b_CP_step 5 = .ok (.aload_n 0, 1) := by decide +kernel
theorem d_CP_step_6 : decode b_CP_step 6 = .ok (.getfield 69, 3) := by decide +kernel
theorem d_CP_step_9 : decode b_CP_step 9 = .ok (.getfield 264, 3) := by decide +kernel
theorem d_CP_step_12 : decode b_CP_step 12 = .ok (.getfield 82, 3) := by decide +kernel
theorem d_CP_step_15 : decode b_CP_step 15 = .ok (.if_icmp .lt 14, 3) := by decide +kernel
theorem d_CP_step_18 : decode b_CP_step 18 = .ok (.new 253, 3) := by decide +kernel
theorem d_CP_step_21 : decode b_CP_step 21 = .ok (.dup, 1) := by decide +kernel
theorem d_CP_step_22 : decode b_CP_step 22 = .ok (.ldc_w 267, 3) := by decide +kernel
theorem d_CP_step_25 : decode b_CP_step 25 = .ok (.invokespecial 257, 3) := by decide +kernel
theorem d_CP_step_28 : decode b_CP_step 28 = .ok (.athrow, 1) := by decide +kernel
theorem d_CP_step_29 : decode b_CP_step 29 = .ok (.aload_n 0, 1) := by decide +kernel
theorem d_CP_step_30 : decode b_CP_step 30 = .ok (.getfield 69, 3) := by decide +kernel
theorem d_CP_step_33 : decode b_CP_step 33 = .ok (.getfield 264, 3) := by decide +kernel
theorem d_CP_step_36 : decode b_CP_step 36 = .ok (.getfield 110, 3) := by decide +kernel
theorem d_CP_step_39 : decode b_CP_step 39 = .ok (.iload_n 1, 1) := by decide +kernel
theorem d_CP_step_40 : decode b_CP_step 40 = .ok (.iaload, 1) := by decide +kernel
theorem d_CP_step_41 : decode b_CP_step 41 = .ok (.ireturn, 1) := by decide +kernel
set_option maxHeartbeats 4000000 in
set_option maxRecDepth 100000 in
theorem m126_CP_step (l : Launch) (htr : l.stackTraces = false) (D : va_G) (kA : Nat → ClassId) (a0 : Nat) (a1 : Nat) (a2 : Nat) (b0 : Nat) (b1 : Nat) (b2 : Nat) (b3 : Nat) (b4 : Nat) (b5 : Nat) (b6 : Nat) (b7 : Nat) (b8 : Nat) (b9 : Nat) (b10 : Nat) (b11 : Nat) (b12 : Nat) (i0 : Int32) : ax_Mx l D kA y_CP_step b_CP_step 2 (some .int) 6 90 1 6 [.ref a0, .int i0] [(a0, .inr (11, [.ref b0, .ref b1, .ref b2, .ref b3, .ref b4, .ref b5, .ref b6, .ref b7, .ref a1, .ref b8, .int 0, .int 0])), (a1, .inr (9, [.int 0, .int 0, .int 0, .int 0, .int 0, .int 0, .int 0, .ref a2, .ref b3, .ref b7, .ref b6, .ref b9, .ref b10, .ref b11])), (a2, .inr (0, [.ref b12, .int 0]))] "java/lang/IndexOutOfBoundsException" (fun w1 => w1 = [(a0, .inr (11, [.ref b0, .ref b1, .ref b2, .ref b3, .ref b4, .ref b5, .ref b6, .ref b7, .ref a1, .ref b8, .int 0, .int 0])), (a1, .inr (9, [.int 0, .int 0, .int 0, .int 0, .int 0, .int 0, .int 0, .ref a2, .ref b3, .ref b7, .ref b6, .ref b9, .ref b10, .ref b11])), (a2, .inr (0, [.ref b12, .int 0]))]) := by
  refine ax_Mx.of (by decide +kernel) (Nat.le_of_ble_eq_true rfl) ?_
  intro p e s m args below meth c C hadm hex hX hP0
  refine ax_ls ([(0, .ref a0), (1, .int i0)]) [0, 1] rfl ?_
  refine ax_iload_n (pc := 0) C d_CP_step_0 rfl 1 rfl ?_
  refine ax_if_lt (pc := 1) C 18 d_CP_step_1 (by decide) (fun hc1_1 => ?_) (fun hc1_1 => ?_)
  · exact ax_throw3 (pc := 18) C hadm htr hex hX hP0 (is := 267) (tx := "no such clause of the proof") ta_IOB (by decide +kernel) (by decide) tb_classLink_1426 tb_instantiable_1427 tb_initialized_30 (by decide +kernel) (by decide +kernel) (by decide +kernel) (by decide +kernel) d_CP_step_18 d_CP_step_21 d_CP_step_22 d_CP_step_25 d_CP_step_28 (Nat.le_of_ble_eq_true rfl) (Nat.le_of_ble_eq_true rfl) (Nat.le_of_ble_eq_true rfl) (Nat.le_of_ble_eq_true rfl) rfl rfl rfl
  · refine ax_iload_n (pc := 4) C d_CP_step_4 rfl 1 rfl ?_
    refine ax_aload_n (pc := 5) C d_CP_step_5 rfl 0 rfl ?_
    refine ax_get (pc := 6) C k_CP 8 lk_CP_69 d_CP_step_6 (Nat.le_of_ble_eq_true rfl) 0 rfl rfl ?_
    refine ax_get (pc := 9) C k_Sat 7 lk_CP_264 d_CP_step_9 (Nat.le_of_ble_eq_true rfl) 1 rfl rfl ?_
    refine ax_get (pc := 12) C k_Row 1 lk_CP_82 d_CP_step_12 (Nat.le_of_ble_eq_true rfl) 2 rfl rfl ?_
    refine ax_icmp_lt (pc := 15) C 29 d_CP_step_15 (by decide) (fun h => absurd h hc1_1) (fun _ => ?_)
    exact ax_throw3 (pc := 18) C hadm htr hex hX hP0 (is := 267) (tx := "no such clause of the proof") ta_IOB (by decide +kernel) (by decide) tb_classLink_1426 tb_instantiable_1427 tb_initialized_30 (by decide +kernel) (by decide +kernel) (by decide +kernel) (by decide +kernel) d_CP_step_18 d_CP_step_21 d_CP_step_22 d_CP_step_25 d_CP_step_28 (Nat.le_of_ble_eq_true rfl) (Nat.le_of_ble_eq_true rfl) (Nat.le_of_ble_eq_true rfl) (Nat.le_of_ble_eq_true rfl) rfl rfl rfl
theorem tc_CP_step : Cond.code y_CP_step b_CP_step 2 (some (.int)) ∈ lw_tbg := tb_in (i := 1457) (by decide +kernel) rfl
theorem ml_Law_48 : ax_LV "ClauseProverLaw" 48 y_CP_step b_CP_step 2 (some (.int)) 1 := ax_LV.mk (tb_in (i := 1454) (by decide +kernel) rfl) (tb_in (i := 1455) (by decide +kernel) rfl) (tb_in (i := 1456) (by decide +kernel) rfl) ti_CP tc_CP_step (by decide +kernel)
set_option maxHeartbeats 4000000 in
set_option maxRecDepth 100000 in
theorem m125_Law_step (l : Launch) (htr : l.stackTraces = false) (D : va_G) (kA : Nat → ClassId) (a0 : Nat) (a1 : Nat) (a2 : Nat) (b0 : Nat) (b1 : Nat) (b2 : Nat) (b3 : Nat) (b4 : Nat) (b5 : Nat) (b6 : Nat) (b7 : Nat) (b8 : Nat) (b9 : Nat) (b10 : Nat) (b11 : Nat) (b12 : Nat) (b13 : Nat) (i0 : Int32) : ax_Mw l D kA y_Law_step b_Law_step 4 [(0, 9, 12, 43)] 7 111 1 6 [.ref a0, .int i0, .ref b0] [(a0, .inr (11, [.ref b1, .ref b2, .ref b3, .ref b4, .ref b5, .ref b6, .ref b7, .ref b8, .ref a1, .ref b9, .int 0, .int 0])), (a1, .inr (9, [.int 0, .int 0, .int 0, .int 0, .int 0, .int 0, .int 0, .ref a2, .ref b4, .ref b8, .ref b7, .ref b10, .ref b11, .ref b12])), (a2, .inr (0, [.ref b13, .int 0]))] (fun r w1 => r = 1 ∧ w1 = [(a0, .inr (11, [.ref b1, .ref b2, .ref b3, .ref b4, .ref b5, .ref b6, .ref b7, .ref b8, .ref a1, .ref b9, .int 0, .int 0])), (a1, .inr (9, [.int 0, .int 0, .int 0, .int 0, .int 0, .int 0, .int 0, .ref a2, .ref b4, .ref b8, .ref b7, .ref b10, .ref b11, .ref b12])), (a2, .inr (0, [.ref b13, .int 0]))]) := by
  refine ax_Mw.of (by decide +kernel) (Nat.le_of_ble_eq_true rfl) ?_
  intro p e s m args below meth c C hadm hmeth hcode htb hX
  refine ax_ls ([(0, .ref a0), (1, .int i0), (2, .ref b0)]) [0, 1, 2] rfl ?_
  refine ax_aload_n (pc := 0) C d_Law_step_0 rfl 2 rfl ?_
  refine ax_iconst (pc := 1) C 0 d_Law_step_1 (by decide +kernel) ?_
  refine ax_aload_n (pc := 2) C d_Law_step_2 rfl 0 rfl ?_
  refine ax_iload_n (pc := 3) C d_Law_step_3 rfl 1 rfl ?_
  refine ax_callVx (pc := 4) C hX (hpc := 12) (As := [.int i0]) (rest := [.int 0, .ref b0]) (wr := []) (m126_CP_step l htr D kA a0 a1 a2 b1 b2 b3 b4 b5 b6 b7 b8 b9 b10 b11 b12 b13 i0) ml_Law_48 0 rfl rfl rfl d_Law_step_4 rfl rfl [0, 1, 2] [] rfl (by decide) rfl (by decide) (by decide) (Nat.le_of_ble_eq_true rfl) (Nat.le_of_ble_eq_true rfl) (Nat.le_of_ble_eq_true rfl) (Nat.le_of_ble_eq_true rfl) (Nat.le_of_ble_eq_true rfl) (cx_F1 hadm hmeth hcode C.2.2.2.1 htb ⟨by decide, by decide⟩ (by decide) (C.2.2.2.2.1 _ tb_classLink_1421)) (fun xe4 w1 hw1 => ?_)
  obtain rfl := hw1
  refine ax_w ([(a0, .inr (11, [.ref b1, .ref b2, .ref b3, .ref b4, .ref b5, .ref b6, .ref b7, .ref b8, .ref a1, .ref b9, .int 0, .int 0])), (a1, .inr (9, [.int 0, .int 0, .int 0, .int 0, .int 0, .int 0, .int 0, .ref a2, .ref b4, .ref b8, .ref b7, .ref b10, .ref b11, .ref b12])), (a2, .inr (0, [.ref b13, .int 0]))]) rfl ?_
  refine ax_astore_n (pc := 12) C d_Law_step_12 rfl (Nat.le_of_ble_eq_true rfl) ([(3, .ref xe4), (0, .ref a0), (1, .int i0), (2, .ref b0)]) rfl ?_
  refine ax_iconst (pc := 13) C 1 d_Law_step_13 (by decide +kernel) ?_
  exact ax_iret (pc := 14) C d_Law_step_14 ⟨rfl, rfl⟩ (by decide) (by decide)
abbrev b_MM_step2 : ByteArray := prog_14_method_125_code
def y_MM_step2 : MethodName := ⟨"ClauseProverModel", "step", "(I)I"⟩
theorem d_MM_step2_0 : decode b_MM_step2 0 = .ok (.aload_n 0, 1) := by decide +kernel
theorem d_MM_step2_1 : decode b_MM_step2 1 = .ok (.iconst 0, 1) := by decide +kernel
theorem d_MM_step2_2 : decode b_MM_step2 2 = .ok (.putfield 24, 3) := by decide +kernel
theorem d_MM_step2_5 : decode b_MM_step2 5 = .ok (.aload_n 0, 1) := by decide +kernel
theorem d_MM_step2_6 : decode b_MM_step2 6 = .ok (.invokevirtual 777, 3) := by decide +kernel
theorem d_MM_step2_9 : decode b_MM_step2 9 = .ok (.istore_n 2, 1) := by decide +kernel
theorem d_MM_step2_10 : decode b_MM_step2 10 = .ok (.aload_n 0, 1) := by decide +kernel
theorem d_MM_step2_11 : decode b_MM_step2 11 = .ok (.iconst 1, 1) := by decide +kernel
theorem d_MM_step2_12 : decode b_MM_step2 12 = .ok (.iload_n 1, 1) := by decide +kernel
theorem d_MM_step2_13 : decode b_MM_step2 13 = .ok (.ifCond .lt 8, 3) := by decide +kernel
theorem d_MM_step2_16 : decode b_MM_step2 16 = .ok (.iload_n 1, 1) := by decide +kernel
theorem d_MM_step2_17 : decode b_MM_step2 17 = .ok (.iload_n 2, 1) := by decide +kernel
theorem d_MM_step2_18 : decode b_MM_step2 18 = .ok (.if_icmp .lt 7, 3) := by decide +kernel
theorem d_MM_step2_21 : decode b_MM_step2 21 = .ok (.iconst 1, 1) := by decide +kernel
theorem d_MM_step2_22 : decode b_MM_step2 22 = .ok (.goto 4, 3) := by decide +kernel
theorem d_MM_step2_25 : decode b_MM_step2 25 = .ok (.iconst 0, 1) := by decide +kernel
theorem d_MM_step2_26 : decode b_MM_step2 26 = .ok (.invokevirtual 401, 3) := by decide +kernel
theorem d_MM_step2_29 : decode b_MM_step2 29 = .ok (.ifCond .eq 5, 3) := by decide +kernel
theorem d_MM_step2_32 : decode b_MM_step2 32 = .ok (.iconst 0, 1) := by decide +kernel
theorem d_MM_step2_33 : decode b_MM_step2 33 = .ok (.ireturn, 1) := by decide +kernel
theorem d_MM_step2_34 : decode b_MM_step2 34 = .ok (.iconst (-1), 1) := by decide +kernel
theorem d_MM_step2_35 : decode b_MM_step2 35 = .ok (.istore_n 3, 1) := by decide +kernel
theorem d_MM_step2_36 : decode b_MM_step2 36 = .ok (.iload_n 1, 1) := by decide +kernel
theorem d_MM_step2_37 : decode b_MM_step2 37 = .ok (.istore 4, 2) := by decide +kernel
theorem d_MM_step2_39 : decode b_MM_step2 39 = .ok (.iload 4, 2) := by decide +kernel
theorem d_MM_step2_41 : decode b_MM_step2 41 = .ok (.ifCond .lt 27, 3) := by decide +kernel
theorem d_MM_step2_44 : decode b_MM_step2 44 = .ok (.iinc 3 1, 3) := by decide +kernel
theorem d_MM_step2_47 : decode b_MM_step2 47 = .ok (.aload_n 0, 1) := by decide +kernel
theorem d_MM_step2_48 : decode b_MM_step2 48 = .ok (.getfield 388, 3) := by decide +kernel
theorem d_MM_step2_51 : decode b_MM_step2 51 = .ok (.iload_n 3, 1) := by decide +kernel
theorem d_MM_step2_52 : decode b_MM_step2 52 = .ok (.baload, 1) := by decide +kernel
theorem d_MM_step2_53 : decode b_MM_step2 53 = .ok (.ifCond .ne 9, 3) := by decide +kernel
theorem d_MM_step2_56 : decode b_MM_step2 56 = .ok (.iinc 3 1, 3) := by decide +kernel
theorem d_MM_step2_59 : decode b_MM_step2 59 = .ok (.goto (-12), 3) := by decide +kernel
theorem d_MM_step2_62 : decode b_MM_step2 62 = .ok (.iinc 4 (-1), 3) := by decide +kernel
theorem d_MM_step2_65 : decode b_MM_step2 65 = .ok (.goto (-26), 3) := by decide +kernel
theorem d_MM_step2_68 : decode b_MM_step2 68 = .ok (.iload_n 3, 1) := by decide +kernel
theorem d_MM_step2_69 : decode b_MM_step2 69 = .ok (.ireturn, 1) := by decide +kernel
theorem tc_Law_step : Cond.codeWith y_Law_step b_Law_step 4 (some .int) [(0, 9, 12, 43)] ∈ lw_tbg := tb_in (i := 1453) (by decide +kernel) rfl
theorem mw_Law_110 : ax_LSw "ClauseProverLaw" 110 y_Law_step b_Law_step 4 [(0, 9, 12, 43)] 3 := ax_LSw.mk (tb_in (i := 1451) (by decide +kernel) rfl) (tb_in (i := 1452) (by decide +kernel) rfl) ti_Law tc_Law_step (by decide +kernel)
set_option maxHeartbeats 4000000 in
set_option maxRecDepth 100000 in
theorem m127_MM_step2 (l : Launch) (D : va_G) (kA : Nat → ClassId) (a0 : Nat) (a1 : Nat) (b0 : Nat) (b1 : Nat) (b2 : Nat) (b3 : Nat) (b4 : Nat) (b5 : Nat) (b6 : Nat) (b7 : Nat) (b8 : Nat) (b9 : Nat) (b10 : Nat) (b11 : Nat) (b12 : Nat) (b13 : Nat) (b14 : Nat) (b15 : Nat) (b16 : Nat) (b17 : Nat) (b18 : Nat) (b19 : Nat) (b20 : Nat) (b21 : Nat) (b22 : Nat) (b23 : Nat) (b24 : Nat) (b25 : Nat) (b26 : Nat) (b27 : Nat) (b28 : Nat) (b29 : Nat) (b30 : Nat) (b31 : Nat) (b32 : Nat) (b33 : Nat) (b34 : Nat) (b35 : Nat) (b36 : Nat) (b37 : Nat) (b38 : Nat) (b39 : Nat) (b40 : Nat) (b41 : Nat) (b42 : Nat) (b43 : Nat) (b44 : Nat) (b45 : Nat) (b46 : Nat) (b47 : Nat) (b48 : Nat) (b49 : Nat) (b50 : Nat) (b51 : Nat) (b52 : Nat) (b53 : Nat) (b54 : Nat) (b55 : Nat) (b56 : Nat) (b57 : Nat) (b58 : Nat) (b59 : Nat) (b60 : Nat) (b61 : Nat) (b62 : Nat) (b63 : Nat) (b64 : Nat) (b65 : Nat) (b66 : Nat) (b67 : Nat) (b68 : Nat) (b69 : Nat) (b70 : Nat) (b71 : Nat) (b72 : Nat) (b73 : Nat) (b74 : Nat) (i0 : Int32) : ax_Mi l D kA y_MM_step2 b_MM_step2 5 .int 2 46 0 0 [.ref a0, .int i0] [(a0, .inr (12, [.ref b0, .ref b1, .int 0, .int 0, .int 0, .int 0, .int 0, .int 0, .int 0, .int 0, .int 0, .int 0, .int 0, .ref b2, .ref b3, .ref b4, .ref b5, .ref b6, .int 0, .int 1, .int 0, .ref b7, .ref b8, .ref b9, .ref b10, .int 0, .ref b11, .ref b12, .int 0, .int 0, .ref b13, .ref b14, .ref b15, .ref b16, .ref b17, .ref b18, .ref b19, .int 0, .int 0, .int 0, .int 0, .ref b20, .ref b21, .ref b22, .ref b23, .ref b24, .ref b25, .int 0, .ref b26, .ref b27, .ref b28, .ref b29, .ref b30, .ref b31, .ref b32, .int 0, .int 0, .ref b33, .ref b34, .ref b35, .ref b36, .ref b37, .int 0, .ref b38, .ref b39, .int 0, .ref b40, .ref b41, .ref b42, .ref b43, .ref b44, .ref b45, .int 0, .ref b46, .ref b47, .ref b48, .ref b49, .ref b50, .ref b51, .ref b52, .ref b53, .ref b54, .ref b55, .ref b56, .int 0, .int 0, .int 0, .int 0, .int (-1), .int 0, .int 0, .int 0, .int 0, .int 0, .int 0, .ref b57, .ref b58, .ref b59, .int 0, .ref b60, .ref b61, .int 0, .ref b62, .ref b63, .ref b64, .int 0, .ref b65, .ref b66, .ref b67, .ref b68, .ref b69, .ref b70, .int 0, .int (-1), .int 0, .ref b71, .int (-1), .int (-1), .int (-1), .ref b72, .int 0, .ref b73, .int 0, .ref a1, .int 0, .int 0, .ref b74])), (a1, .inl (kA 1, 2001, .inl (fun _ => 0)))] (fun r w1 => r = 0 ∧ w1 = [(a1, .inl (kA 1, 2001, .inl (ax_fill (fun _ => 0) (vp_nar .boolean 0) 2001))), (a0, .inr (12, [.ref b0, .ref b1, .int 0, .int 0, .int 1, .int 0, .int 0, .int 0, .int 0, .int 0, .int 0, .int 0, .int 0, .ref b2, .ref b3, .ref b4, .ref b5, .ref b6, .int 0, .int 1, .int 0, .ref b7, .ref b8, .ref b9, .ref b10, .int 0, .ref b11, .ref b12, .int 0, .int 0, .ref b13, .ref b14, .ref b15, .ref b16, .ref b17, .ref b18, .ref b19, .int 0, .int 0, .int 0, .int 0, .ref b20, .ref b21, .ref b22, .ref b23, .ref b24, .ref b25, .int 0, .ref b26, .ref b27, .ref b28, .ref b29, .ref b30, .ref b31, .ref b32, .int 0, .int 0, .ref b33, .ref b34, .ref b35, .ref b36, .ref b37, .int 0, .ref b38, .ref b39, .int 0, .ref b40, .ref b41, .ref b42, .ref b43, .ref b44, .ref b45, .int 0, .ref b46, .ref b47, .ref b48, .ref b49, .ref b50, .ref b51, .ref b52, .ref b53, .ref b54, .ref b55, .ref b56, .int 0, .int 0, .int 0, .int 0, .int (-1), .int 0, .int 0, .int 0, .int 0, .int 0, .int 0, .ref b57, .ref b58, .ref b59, .int 0, .ref b60, .ref b61, .int 0, .ref b62, .ref b63, .ref b64, .int 0, .ref b65, .ref b66, .ref b67, .ref b68, .ref b69, .ref b70, .int 0, .int (-1), .int 0, .ref b71, .int (-1), .int (-1), .int (-1), .ref b72, .int 0, .ref b73, .int 0, .ref a1, .int 0, .int 0, .ref b74]))]) := by
  refine ax_Mi.of (by decide +kernel) (Nat.le_of_ble_eq_true rfl) ?_
  intro p e s m args below meth c C hnm
  refine ax_ls ([(0, .ref a0), (1, .int i0)]) [0, 1] rfl ?_
  refine ax_aload_n (pc := 0) C d_MM_step2_0 rfl 0 rfl ?_
  refine ax_iconst (pc := 1) C 0 d_MM_step2_1 (by decide +kernel) ?_
  refine ax_put (pc := 2) C k_MM 4 lk_MM_24 d_MM_step2_2 (Nat.le_of_ble_eq_true rfl) 0 rfl rfl rfl rfl (Nat.le_of_ble_eq_true rfl) ?_
  refine ax_w ([(a0, .inr (12, [.ref b0, .ref b1, .int 0, .int 0, .int 0, .int 0, .int 0, .int 0, .int 0, .int 0, .int 0, .int 0, .int 0, .ref b2, .ref b3, .ref b4, .ref b5, .ref b6, .int 0, .int 1, .int 0, .ref b7, .ref b8, .ref b9, .ref b10, .int 0, .ref b11, .ref b12, .int 0, .int 0, .ref b13, .ref b14, .ref b15, .ref b16, .ref b17, .ref b18, .ref b19, .int 0, .int 0, .int 0, .int 0, .ref b20, .ref b21, .ref b22, .ref b23, .ref b24, .ref b25, .int 0, .ref b26, .ref b27, .ref b28, .ref b29, .ref b30, .ref b31, .ref b32, .int 0, .int 0, .ref b33, .ref b34, .ref b35, .ref b36, .ref b37, .int 0, .ref b38, .ref b39, .int 0, .ref b40, .ref b41, .ref b42, .ref b43, .ref b44, .ref b45, .int 0, .ref b46, .ref b47, .ref b48, .ref b49, .ref b50, .ref b51, .ref b52, .ref b53, .ref b54, .ref b55, .ref b56, .int 0, .int 0, .int 0, .int 0, .int (-1), .int 0, .int 0, .int 0, .int 0, .int 0, .int 0, .ref b57, .ref b58, .ref b59, .int 0, .ref b60, .ref b61, .int 0, .ref b62, .ref b63, .ref b64, .int 0, .ref b65, .ref b66, .ref b67, .ref b68, .ref b69, .ref b70, .int 0, .int (-1), .int 0, .ref b71, .int (-1), .int (-1), .int (-1), .ref b72, .int 0, .ref b73, .int 0, .ref a1, .int 0, .int 0, .ref b74])), (a1, .inl (kA 1, 2001, .inl (fun _ => 0)))]) rfl ?_
  refine ax_aload_n (pc := 5) C d_MM_step2_5 rfl 0 rfl ?_
  refine ax_callVi (pc := 6) C (As := []) (rest := []) (wr := []) (m124_MM_prove l D kA a0 a1 b0 b1 b2 b3 b4 b5 b6 b7 b8 b9 b10 b11 b12 b13 b14 b15 b16 b17 b18 b19 b20 b21 b22 b23 b24 b25 b26 b27 b28 b29 b30 b31 b32 b33 b34 b35 b36 b37 b38 b39 b40 b41 b42 b43 b44 b45 b46 b47 b48 b49 b50 b51 b52 b53 b54 b55 b56 b57 b58 b59 b60 b61 b62 b63 b64 b65 b66 b67 b68 b69 b70 b71 b72 b73 b74) ml_MM_777 0 rfl rfl rfl d_MM_step2_6 rfl rfl [0, 1] [] rfl (by decide) rfl (by decide) (by decide) (Nat.le_of_ble_eq_true rfl) (Nat.le_of_ble_eq_true rfl) (Nat.le_of_ble_eq_true rfl) (Nat.le_of_ble_eq_true rfl) (Nat.le_of_ble_eq_true rfl) (fun r6 w1 hw1 => ?_)
  obtain ⟨rfl, rfl⟩ := hw1
  refine ax_w ([(a0, .inr (12, [.ref b0, .ref b1, .int 0, .int 0, .int 0, .int 0, .int 0, .int 0, .int 0, .int 0, .int 0, .int 0, .int 0, .ref b2, .ref b3, .ref b4, .ref b5, .ref b6, .int 0, .int 1, .int 0, .ref b7, .ref b8, .ref b9, .ref b10, .int 0, .ref b11, .ref b12, .int 0, .int 0, .ref b13, .ref b14, .ref b15, .ref b16, .ref b17, .ref b18, .ref b19, .int 0, .int 0, .int 0, .int 0, .ref b20, .ref b21, .ref b22, .ref b23, .ref b24, .ref b25, .int 0, .ref b26, .ref b27, .ref b28, .ref b29, .ref b30, .ref b31, .ref b32, .int 0, .int 0, .ref b33, .ref b34, .ref b35, .ref b36, .ref b37, .int 0, .ref b38, .ref b39, .int 0, .ref b40, .ref b41, .ref b42, .ref b43, .ref b44, .ref b45, .int 0, .ref b46, .ref b47, .ref b48, .ref b49, .ref b50, .ref b51, .ref b52, .ref b53, .ref b54, .ref b55, .ref b56, .int 0, .int 0, .int 0, .int 0, .int (-1), .int 0, .int 0, .int 0, .int 0, .int 0, .int 0, .ref b57, .ref b58, .ref b59, .int 0, .ref b60, .ref b61, .int 0, .ref b62, .ref b63, .ref b64, .int 0, .ref b65, .ref b66, .ref b67, .ref b68, .ref b69, .ref b70, .int 0, .int (-1), .int 0, .ref b71, .int (-1), .int (-1), .int (-1), .ref b72, .int 0, .ref b73, .int 0, .ref a1, .int 0, .int 0, .ref b74])), (a1, .inl (kA 1, 2001, .inl (ax_fill (fun _ => 0) (vp_nar .boolean 0) 2001)))]) rfl ?_
  refine ax_istore_n (pc := 9) C d_MM_step2_9 rfl (Nat.le_of_ble_eq_true rfl) ([(2, .int 0), (0, .ref a0), (1, .int i0)]) rfl ?_
  refine ax_aload_n (pc := 10) C d_MM_step2_10 rfl 1 rfl ?_
  refine ax_iconst (pc := 11) C 1 d_MM_step2_11 (by decide +kernel) ?_
  refine ax_iload_n (pc := 12) C d_MM_step2_12 rfl 2 rfl ?_
  refine ax_if_lt (pc := 13) C 21 d_MM_step2_13 (by decide) (fun hc13_1 => ?_) (fun hc13_1 => ?_)
  · refine ax_iconst (pc := 21) C 1 d_MM_step2_21 (by decide +kernel) ?_
    refine ax_goto (pc := 22) C 26 d_MM_step2_22 (by decide) ?_
    refine ax_callVi (pc := 26) C (As := [.int 1, .int 1]) (rest := []) (wr := [(a1, .inl (kA 1, 2001, .inl (ax_fill (fun _ => 0) (vp_nar .boolean 0) 2001)))]) (m34_MM_refuse l D kA a0 b0 b1 b2 b3 b4 b5 b6 b7 b8 b9 b10 b11 b12 b13 b14 b15 b16 b17 b18 b19 b20 b21 b22 b23 b24 b25 b26 b27 b28 b29 b30 b31 b32 b33 b34 b35 b36 b37 b38 b39 b40 b41 b42 b43 b44 b45 b46 b47 b48 b49 b50 b51 b52 b53 b54 b55 b56 b57 b58 b59 b60 b61 b62 b63 b64 b65 b66 b67 b68 b69 b70 b71 b72 b73 a1 b74) ml_MM_401 0 rfl rfl rfl d_MM_step2_26 rfl rfl [0] [1] rfl (by decide) rfl (by decide) (by decide) (Nat.le_of_ble_eq_true rfl) (Nat.le_of_ble_eq_true rfl) (Nat.le_of_ble_eq_true rfl) (Nat.le_of_ble_eq_true rfl) (Nat.le_of_ble_eq_true rfl) (fun r26 w1 hw1 => ?_)
    obtain ⟨rfl, rfl⟩ := hw1
    refine ax_w ([(a1, .inl (kA 1, 2001, .inl (ax_fill (fun _ => 0) (vp_nar .boolean 0) 2001))), (a0, .inr (12, [.ref b0, .ref b1, .int 0, .int 0, .int 1, .int 0, .int 0, .int 0, .int 0, .int 0, .int 0, .int 0, .int 0, .ref b2, .ref b3, .ref b4, .ref b5, .ref b6, .int 0, .int 1, .int 0, .ref b7, .ref b8, .ref b9, .ref b10, .int 0, .ref b11, .ref b12, .int 0, .int 0, .ref b13, .ref b14, .ref b15, .ref b16, .ref b17, .ref b18, .ref b19, .int 0, .int 0, .int 0, .int 0, .ref b20, .ref b21, .ref b22, .ref b23, .ref b24, .ref b25, .int 0, .ref b26, .ref b27, .ref b28, .ref b29, .ref b30, .ref b31, .ref b32, .int 0, .int 0, .ref b33, .ref b34, .ref b35, .ref b36, .ref b37, .int 0, .ref b38, .ref b39, .int 0, .ref b40, .ref b41, .ref b42, .ref b43, .ref b44, .ref b45, .int 0, .ref b46, .ref b47, .ref b48, .ref b49, .ref b50, .ref b51, .ref b52, .ref b53, .ref b54, .ref b55, .ref b56, .int 0, .int 0, .int 0, .int 0, .int (-1), .int 0, .int 0, .int 0, .int 0, .int 0, .int 0, .ref b57, .ref b58, .ref b59, .int 0, .ref b60, .ref b61, .int 0, .ref b62, .ref b63, .ref b64, .int 0, .ref b65, .ref b66, .ref b67, .ref b68, .ref b69, .ref b70, .int 0, .int (-1), .int 0, .ref b71, .int (-1), .int (-1), .int (-1), .ref b72, .int 0, .ref b73, .int 0, .ref a1, .int 0, .int 0, .ref b74]))]) rfl ?_
    refine ax_if_eq (pc := 29) C 34 d_MM_step2_29 (by decide) (fun h => absurd h (by decide)) (fun _ => ?_)
    refine ax_iconst (pc := 32) C 0 d_MM_step2_32 (by decide +kernel) ?_
    exact ax_iret (pc := 33) C d_MM_step2_33 ⟨rfl, rfl⟩ (by decide) (by decide)
  · refine ax_iload_n (pc := 16) C d_MM_step2_16 rfl 2 rfl ?_
    refine ax_iload_n (pc := 17) C d_MM_step2_17 rfl 0 rfl ?_
    refine ax_icmp_lt (pc := 18) C 25 d_MM_step2_18 (by decide) (fun h => absurd h hc13_1) (fun _ => ?_)
    refine ax_iconst (pc := 21) C 1 d_MM_step2_21 (by decide +kernel) ?_
    refine ax_goto (pc := 22) C 26 d_MM_step2_22 (by decide) ?_
    refine ax_callVi (pc := 26) C (As := [.int 1, .int 1]) (rest := []) (wr := [(a1, .inl (kA 1, 2001, .inl (ax_fill (fun _ => 0) (vp_nar .boolean 0) 2001)))]) (m34_MM_refuse l D kA a0 b0 b1 b2 b3 b4 b5 b6 b7 b8 b9 b10 b11 b12 b13 b14 b15 b16 b17 b18 b19 b20 b21 b22 b23 b24 b25 b26 b27 b28 b29 b30 b31 b32 b33 b34 b35 b36 b37 b38 b39 b40 b41 b42 b43 b44 b45 b46 b47 b48 b49 b50 b51 b52 b53 b54 b55 b56 b57 b58 b59 b60 b61 b62 b63 b64 b65 b66 b67 b68 b69 b70 b71 b72 b73 a1 b74) ml_MM_401 0 rfl rfl rfl d_MM_step2_26 rfl rfl [0] [1] rfl (by decide) rfl (by decide) (by decide) (Nat.le_of_ble_eq_true rfl) (Nat.le_of_ble_eq_true rfl) (Nat.le_of_ble_eq_true rfl) (Nat.le_of_ble_eq_true rfl) (Nat.le_of_ble_eq_true rfl) (fun r26 w1 hw1 => ?_)
    obtain ⟨rfl, rfl⟩ := hw1
    refine ax_w ([(a1, .inl (kA 1, 2001, .inl (ax_fill (fun _ => 0) (vp_nar .boolean 0) 2001))), (a0, .inr (12, [.ref b0, .ref b1, .int 0, .int 0, .int 1, .int 0, .int 0, .int 0, .int 0, .int 0, .int 0, .int 0, .int 0, .ref b2, .ref b3, .ref b4, .ref b5, .ref b6, .int 0, .int 1, .int 0, .ref b7, .ref b8, .ref b9, .ref b10, .int 0, .ref b11, .ref b12, .int 0, .int 0, .ref b13, .ref b14, .ref b15, .ref b16, .ref b17, .ref b18, .ref b19, .int 0, .int 0, .int 0, .int 0, .ref b20, .ref b21, .ref b22, .ref b23, .ref b24, .ref b25, .int 0, .ref b26, .ref b27, .ref b28, .ref b29, .ref b30, .ref b31, .ref b32, .int 0, .int 0, .ref b33, .ref b34, .ref b35, .ref b36, .ref b37, .int 0, .ref b38, .ref b39, .int 0, .ref b40, .ref b41, .ref b42, .ref b43, .ref b44, .ref b45, .int 0, .ref b46, .ref b47, .ref b48, .ref b49, .ref b50, .ref b51, .ref b52, .ref b53, .ref b54, .ref b55, .ref b56, .int 0, .int 0, .int 0, .int 0, .int (-1), .int 0, .int 0, .int 0, .int 0, .int 0, .int 0, .ref b57, .ref b58, .ref b59, .int 0, .ref b60, .ref b61, .int 0, .ref b62, .ref b63, .ref b64, .int 0, .ref b65, .ref b66, .ref b67, .ref b68, .ref b69, .ref b70, .int 0, .int (-1), .int 0, .ref b71, .int (-1), .int (-1), .int (-1), .ref b72, .int 0, .ref b73, .int 0, .ref a1, .int 0, .int 0, .ref b74]))]) rfl ?_
    refine ax_if_eq (pc := 29) C 34 d_MM_step2_29 (by decide) (fun h => absurd h (by decide)) (fun _ => ?_)
    refine ax_iconst (pc := 32) C 0 d_MM_step2_32 (by decide +kernel) ?_
    exact ax_iret (pc := 33) C d_MM_step2_33 ⟨rfl, rfl⟩ (by decide) (by decide)
abbrev b_Law_look : ByteArray := method_13_code
def y_Law_look : MethodName := ⟨"ClauseProverLaw", "look", "(LClauseProver;II[J)I"⟩
theorem d_Law_look_0 : decode b_Law_look 0 = .ok (.aload_n 3, 1) := by decide +kernel
theorem d_Law_look_1 : decode b_Law_look 1 = .ok (.iconst 0, 1) := by decide +kernel
theorem d_Law_look_2 : decode b_Law_look 2 = .ok (.aload_n 0, 1) := by decide +kernel
theorem d_Law_look_3 : decode b_Law_look 3 = .ok (.iload_n 1, 1) := by decide +kernel
theorem d_Law_look_4 : decode b_Law_look 4 = .ok (.iload_n 2, 1) := by decide +kernel
theorem d_Law_look_5 : decode b_Law_look 5 = .ok (.invokevirtual 51, 3) := by decide +kernel
theorem d_Law_look_8 : decode b_Law_look 8 = .ok (.i2l, 1) := by decide +kernel
theorem d_Law_look_9 : decode b_Law_look 9 = .ok (.lastore, 1) := by decide +kernel
theorem d_Law_look_10 : decode b_Law_look 10 = .ok (.goto 7, 3) := by decide +kernel
theorem d_Law_look_13 : decode b_Law_look 13 = .ok (.astore 4, 2) := by decide +kernel
theorem d_Law_look_15 : decode b_Law_look 15 = .ok (.iconst 1, 1) := by decide +kernel
theorem d_Law_look_16 : decode b_Law_look 16 = .ok (.ireturn, 1) := by decide +kernel
theorem d_Law_look_17 : decode b_Law_look 17 = .ok (.iconst 0, 1) := by decide +kernel
theorem d_Law_look_18 : decode b_Law_look 18 = .ok (.ireturn, 1) := by decide +kernel
abbrev b_CP_look : ByteArray := prog_1_method_21_code
def y_CP_look : MethodName := ⟨"ClauseProver", "look", "(II)I"⟩
theorem d_CP_look_0 : decode b_CP_look 0 = .ok (.iload_n 2, 1) := by decide +kernel
theorem d_CP_look_1 : decode b_CP_look 1 = .ok (.iconst 1, 1) := by decide +kernel
theorem d_CP_look_2 : decode b_CP_look 2 = .ok (.if_icmp .lt 8, 3) := by decide +kernel
theorem d_CP_look_5 : decode b_CP_look 5 = .ok (.iload_n 2, 1) := by decide +kernel
theorem d_CP_look_6 : decode b_CP_look 6 = .ok (.iconst 3, 1) := by decide +kernel
theorem d_CP_look_7 : decode b_CP_look 7 = .ok (.if_icmp .le 14, 3) := by decide +kernel
theorem d_CP_look_10 : decode b_CP_look 10 = .ok (.new 100, 3) := by decide +kernel
theorem d_CP_look_13 : decode b_CP_look 13 = .ok (.dup, 1) := by decide +kernel
theorem d_CP_look_14 : decode b_CP_look 14 = .ok (.ldc_w 269, 3) := by decide +kernel
theorem d_CP_look_17 : decode b_CP_look 17 = .ok (.invokespecial 104, 3) := by decide +kernel
theorem d_CP_look_20 : decode b_CP_look 20 = .ok (.athrow, 1) := by decide +kernel
theorem d_CP_look_21 : decode b_CP_look 21 = .ok (.aload_n 0, 1) := by decide +kernel
theorem d_CP_look_22 : decode b_CP_look 22 = .ok (.getfield 78, 3) := by decide +kernel
theorem d_CP_look_25 : decode b_CP_look 25 = .ok (.iload_n 1, 1) := by decide +kernel
theorem d_CP_look_26 : decode b_CP_look 26 = .ok (.iload_n 2, 1) := by decide +kernel
theorem d_CP_look_27 : decode b_CP_look 27 = .ok (.invokevirtual 271, 3) := by decide +kernel
theorem d_CP_look_30 : decode b_CP_look 30 = .ok (.ifCond .ne 5, 3) := by decide +kernel
theorem d_CP_look_33 : decode b_CP_look 33 = .ok (.iconst (-1), 1) := by decide +kernel
theorem d_CP_look_34 : decode b_CP_look 34 = .ok (.ireturn, 1) := by decide +kernel
theorem d_CP_look_35 : decode b_CP_look 35 = .ok (.iconst 0, 1) := by decide +kernel
theorem d_CP_look_36 : decode b_CP_look 36 = .ok (.istore_n 3, 1) := by decide +kernel
theorem d_CP_look_37 : decode b_CP_look 37 = .ok (.aload_n 0, 1) := by decide +kernel
theorem d_CP_look_38 : decode b_CP_look 38 = .ok (.getfield 60, 3) := by decide +kernel
theorem d_CP_look_41 : decode b_CP_look 41 = .ok (.getfield 135, 3) := by decide +kernel
theorem d_CP_look_44 : decode b_CP_look 44 = .ok (.istore 4, 2) := by decide +kernel
theorem d_CP_look_46 : decode b_CP_look 46 = .ok (.iload 4, 2) := by decide +kernel
theorem d_CP_look_48 : decode b_CP_look 48 = .ok (.aload_n 0, 1) := by decide +kernel
theorem d_CP_look_49 : decode b_CP_look 49 = .ok (.getfield 60, 3) := by decide +kernel
theorem d_CP_look_52 : decode b_CP_look 52 = .ok (.getfield 134, 3) := by decide +kernel
theorem d_CP_look_55 : decode b_CP_look 55 = .ok (.if_icmp .ge 24, 3) := by decide +kernel
theorem d_CP_look_58 : decode b_CP_look 58 = .ok (.aload_n 0, 1) := by decide +kernel
theorem d_CP_look_59 : decode b_CP_look 59 = .ok (.getfield 78, 3) := by decide +kernel
theorem d_CP_look_62 : decode b_CP_look 62 = .ok (.iload 4, 2) := by decide +kernel
theorem d_CP_look_64 : decode b_CP_look 64 = .ok (.invokevirtual 275, 3) := by decide +kernel
theorem d_CP_look_67 : decode b_CP_look 67 = .ok (.ifCond .ne 6, 3) := by decide +kernel
theorem d_CP_look_70 : decode b_CP_look 70 = .ok (.iinc 3 1, 3) := by decide +kernel
theorem d_CP_look_73 : decode b_CP_look 73 = .ok (.iinc 4 1, 3) := by decide +kernel
theorem d_CP_look_76 : decode b_CP_look 76 = .ok (.goto (-30), 3) := by decide +kernel
theorem d_CP_look_79 : decode b_CP_look 79 = .ok (.iload_n 3, 1) := by decide +kernel
theorem d_CP_look_80 : decode b_CP_look 80 = .ok (.ireturn, 1) := by decide +kernel
set_option maxHeartbeats 4000000 in
set_option maxRecDepth 100000 in
theorem m129_CP_look (l : Launch) (htr : l.stackTraces = false) (D : va_G) (kA : Nat → ClassId) (b0 : Nat) (i0 : Int32) (i1 : Int32) (h0 : i1 < 1) : ax_Mx l D kA y_CP_look b_CP_look 5 (some .int) 6 90 1 6 [.ref b0, .int i0, .int i1] [] "java/lang/IllegalArgumentException" (fun w1 => w1 = []) := by
  refine ax_Mx.of (by decide +kernel) (Nat.le_of_ble_eq_true rfl) ?_
  intro p e s m args below meth c C hadm hex hX hP0
  refine ax_ls ([(0, .ref b0), (1, .int i0), (2, .int i1)]) [0, 1, 2] rfl ?_
  refine ax_iload_n (pc := 0) C d_CP_look_0 rfl 2 rfl ?_
  refine ax_iconst (pc := 1) C 1 d_CP_look_1 (by decide +kernel) ?_
  refine ax_icmp_lt (pc := 2) C 10 d_CP_look_2 (by decide) (fun _ => ?_) (fun h => absurd h0 h)
  exact ax_throw3 (pc := 10) C hadm htr hex hX hP0 (is := 269) (tx := "not 1 .. 3 elements") ta_IAE (by decide +kernel) (by decide) tb_classLink_984 tb_instantiable_985 tb_initialized_21 (by decide +kernel) (by decide +kernel) (by decide +kernel) (by decide +kernel) d_CP_look_10 d_CP_look_13 d_CP_look_14 d_CP_look_17 d_CP_look_20 (Nat.le_of_ble_eq_true rfl) (Nat.le_of_ble_eq_true rfl) (Nat.le_of_ble_eq_true rfl) (Nat.le_of_ble_eq_true rfl) rfl rfl rfl
theorem tc_CP_look : Cond.code y_CP_look b_CP_look 5 (some (.int)) ∈ lw_tbg := tb_in (i := 1465) (by decide +kernel) rfl
theorem ml_Law_51 : ax_LV "ClauseProverLaw" 51 y_CP_look b_CP_look 5 (some (.int)) 2 := ax_LV.mk (tb_in (i := 1462) (by decide +kernel) rfl) (tb_in (i := 1463) (by decide +kernel) rfl) (tb_in (i := 1464) (by decide +kernel) rfl) ti_CP tc_CP_look (by decide +kernel)
set_option maxHeartbeats 4000000 in
set_option maxRecDepth 100000 in
theorem m128_Law_look (l : Launch) (htr : l.stackTraces = false) (D : va_G) (kA : Nat → ClassId) (a0 : Nat) (b0 : Nat) (b1 : Nat) (b2 : Nat) (b3 : Nat) (b4 : Nat) (b5 : Nat) (b6 : Nat) (b7 : Nat) (b8 : Nat) (b9 : Nat) (b10 : Nat) (i0 : Int32) (i1 : Int32) (h0 : i1 < 1) : ax_Mw l D kA y_Law_look b_Law_look 5 [(0, 10, 13, 19)] 7 114 1 6 [.ref a0, .int i0, .int i1, .ref b0] [(a0, .inr (11, [.ref b1, .ref b2, .ref b3, .ref b4, .ref b5, .ref b6, .ref b7, .ref b8, .ref b9, .ref b10, .int 0, .int 0]))] (fun r w1 => r = 1 ∧ w1 = [(a0, .inr (11, [.ref b1, .ref b2, .ref b3, .ref b4, .ref b5, .ref b6, .ref b7, .ref b8, .ref b9, .ref b10, .int 0, .int 0]))]) := by
  refine ax_Mw.of (by decide +kernel) (Nat.le_of_ble_eq_true rfl) ?_
  intro p e s m args below meth c C hadm hmeth hcode htb hX
  refine ax_ls ([(0, .ref a0), (1, .int i0), (2, .int i1), (3, .ref b0)]) [0, 1, 2, 3] rfl ?_
  refine ax_aload_n (pc := 0) C d_Law_look_0 rfl 3 rfl ?_
  refine ax_iconst (pc := 1) C 0 d_Law_look_1 (by decide +kernel) ?_
  refine ax_aload_n (pc := 2) C d_Law_look_2 rfl 0 rfl ?_
  refine ax_iload_n (pc := 3) C d_Law_look_3 rfl 1 rfl ?_
  refine ax_iload_n (pc := 4) C d_Law_look_4 rfl 2 rfl ?_
  refine ax_callVx (pc := 5) C hX (hpc := 13) (As := [.int i0, .int i1]) (rest := [.int 0, .ref b0]) (wr := [(a0, .inr (11, [.ref b1, .ref b2, .ref b3, .ref b4, .ref b5, .ref b6, .ref b7, .ref b8, .ref b9, .ref b10, .int 0, .int 0]))]) (m129_CP_look l htr D kA a0 i0 i1 h0) ml_Law_51 0 rfl rfl rfl d_Law_look_5 rfl rfl [] [0] rfl (by decide) rfl (by decide) (by decide) (Nat.le_of_ble_eq_true rfl) (Nat.le_of_ble_eq_true rfl) (Nat.le_of_ble_eq_true rfl) (Nat.le_of_ble_eq_true rfl) (Nat.le_of_ble_eq_true rfl) (cx_F1 hadm hmeth hcode C.2.2.2.1 htb ⟨by decide, by decide⟩ (by decide) (C.2.2.2.2.1 _ tb_classLink_979)) (fun xe5 w1 hw1 => ?_)
  obtain rfl := hw1
  refine ax_w ([(a0, .inr (11, [.ref b1, .ref b2, .ref b3, .ref b4, .ref b5, .ref b6, .ref b7, .ref b8, .ref b9, .ref b10, .int 0, .int 0]))]) rfl ?_
  refine ax_astore (pc := 13) C d_Law_look_13 (Nat.le_of_ble_eq_true rfl) ([(4, .ref xe5), (0, .ref a0), (1, .int i0), (2, .int i1), (3, .ref b0)]) rfl ?_
  refine ax_iconst (pc := 15) C 1 d_Law_look_15 (by decide +kernel) ?_
  exact ax_iret (pc := 16) C d_Law_look_16 ⟨rfl, rfl⟩ (by decide) (by decide)
abbrev b_MM_look : ByteArray := prog_14_method_130_code
def y_MM_look : MethodName := ⟨"ClauseProverModel", "look", "(II)I"⟩
theorem d_MM_look_0 : decode b_MM_look 0 = .ok (.aload_n 0, 1) := by decide +kernel
theorem d_MM_look_1 : decode b_MM_look 1 = .ok (.iconst 0, 1) := by decide +kernel
theorem d_MM_look_2 : decode b_MM_look 2 = .ok (.putfield 24, 3) := by decide +kernel
theorem d_MM_look_5 : decode b_MM_look 5 = .ok (.aload_n 0, 1) := by decide +kernel
theorem d_MM_look_6 : decode b_MM_look 6 = .ok (.iconst 1, 1) := by decide +kernel
theorem d_MM_look_7 : decode b_MM_look 7 = .ok (.iload_n 2, 1) := by decide +kernel
theorem d_MM_look_8 : decode b_MM_look 8 = .ok (.iconst 1, 1) := by decide +kernel
theorem d_MM_look_9 : decode b_MM_look 9 = .ok (.if_icmp .lt 8, 3) := by decide +kernel
theorem d_MM_look_12 : decode b_MM_look 12 = .ok (.iload_n 2, 1) := by decide +kernel
theorem d_MM_look_13 : decode b_MM_look 13 = .ok (.iconst 3, 1) := by decide +kernel
theorem d_MM_look_14 : decode b_MM_look 14 = .ok (.if_icmp .le 7, 3) := by decide +kernel
theorem d_MM_look_17 : decode b_MM_look 17 = .ok (.iconst 1, 1) := by decide +kernel
theorem d_MM_look_18 : decode b_MM_look 18 = .ok (.goto 4, 3) := by decide +kernel
theorem d_MM_look_21 : decode b_MM_look 21 = .ok (.iconst 0, 1) := by decide +kernel
theorem d_MM_look_22 : decode b_MM_look 22 = .ok (.invokevirtual 401, 3) := by decide +kernel
theorem d_MM_look_25 : decode b_MM_look 25 = .ok (.ifCond .eq 5, 3) := by decide +kernel
theorem d_MM_look_28 : decode b_MM_look 28 = .ok (.iconst 0, 1) := by decide +kernel
theorem d_MM_look_29 : decode b_MM_look 29 = .ok (.ireturn, 1) := by decide +kernel
theorem d_MM_look_30 : decode b_MM_look 30 = .ok (.aload_n 0, 1) := by decide +kernel
theorem d_MM_look_31 : decode b_MM_look 31 = .ok (.iload_n 1, 1) := by decide +kernel
theorem d_MM_look_32 : decode b_MM_look 32 = .ok (.putfield 391, 3) := by decide +kernel
theorem d_MM_look_35 : decode b_MM_look 35 = .ok (.aload_n 0, 1) := by decide +kernel
theorem d_MM_look_36 : decode b_MM_look 36 = .ok (.iload_n 2, 1) := by decide +kernel
theorem d_MM_look_37 : decode b_MM_look 37 = .ok (.putfield 394, 3) := by decide +kernel
theorem d_MM_look_40 : decode b_MM_look 40 = .ok (.aload_n 0, 1) := by decide +kernel
theorem d_MM_look_41 : decode b_MM_look 41 = .ok (.invokevirtual 791, 3) := by decide +kernel
theorem d_MM_look_44 : decode b_MM_look 44 = .ok (.ifCond .ne 5, 3) := by decide +kernel
theorem d_MM_look_47 : decode b_MM_look 47 = .ok (.iconst (-1), 1) := by decide +kernel
theorem d_MM_look_48 : decode b_MM_look 48 = .ok (.ireturn, 1) := by decide +kernel
theorem d_MM_look_49 : decode b_MM_look 49 = .ok (.iconst 0, 1) := by decide +kernel
theorem d_MM_look_50 : decode b_MM_look 50 = .ok (.istore_n 3, 1) := by decide +kernel
theorem d_MM_look_51 : decode b_MM_look 51 = .ok (.iconst 0, 1) := by decide +kernel
theorem d_MM_look_52 : decode b_MM_look 52 = .ok (.istore 4, 2) := by decide +kernel
theorem d_MM_look_54 : decode b_MM_look 54 = .ok (.iload 4, 2) := by decide +kernel
theorem d_MM_look_56 : decode b_MM_look 56 = .ok (.aload_n 0, 1) := by decide +kernel
theorem d_MM_look_57 : decode b_MM_look 57 = .ok (.getfield 269, 3) := by decide +kernel
theorem d_MM_look_60 : decode b_MM_look 60 = .ok (.if_icmp .ge 21, 3) := by decide +kernel
theorem d_MM_look_63 : decode b_MM_look 63 = .ok (.aload_n 0, 1) := by decide +kernel
theorem d_MM_look_64 : decode b_MM_look 64 = .ok (.iload 4, 2) := by decide +kernel
theorem d_MM_look_66 : decode b_MM_look 66 = .ok (.invokevirtual 788, 3) := by decide +kernel
theorem d_MM_look_69 : decode b_MM_look 69 = .ok (.ifCond .ne 6, 3) := by decide +kernel
theorem d_MM_look_72 : decode b_MM_look 72 = .ok (.iinc 3 1, 3) := by decide +kernel
theorem d_MM_look_75 : decode b_MM_look 75 = .ok (.iinc 4 1, 3) := by decide +kernel
theorem d_MM_look_78 : decode b_MM_look 78 = .ok (.goto (-24), 3) := by decide +kernel
theorem d_MM_look_81 : decode b_MM_look 81 = .ok (.iload_n 3, 1) := by decide +kernel
theorem d_MM_look_82 : decode b_MM_look 82 = .ok (.ireturn, 1) := by decide +kernel
theorem tc_Law_look : Cond.codeWith y_Law_look b_Law_look 5 (some .int) [(0, 10, 13, 19)] ∈ lw_tbg := tb_in (i := 1461) (by decide +kernel) rfl
theorem mw_Law_113 : ax_LSw "ClauseProverLaw" 113 y_Law_look b_Law_look 5 [(0, 10, 13, 19)] 4 := ax_LSw.mk (tb_in (i := 1459) (by decide +kernel) rfl) (tb_in (i := 1460) (by decide +kernel) rfl) ti_Law tc_Law_look (by decide +kernel)
set_option maxHeartbeats 4000000 in
set_option maxRecDepth 100000 in
theorem m130_MM_look (l : Launch) (D : va_G) (kA : Nat → ClassId) (a0 : Nat) (b0 : Nat) (b1 : Nat) (b2 : Nat) (b3 : Nat) (b4 : Nat) (b5 : Nat) (b6 : Nat) (b7 : Nat) (b8 : Nat) (b9 : Nat) (b10 : Nat) (b11 : Nat) (b12 : Nat) (b13 : Nat) (b14 : Nat) (b15 : Nat) (b16 : Nat) (b17 : Nat) (b18 : Nat) (b19 : Nat) (b20 : Nat) (b21 : Nat) (b22 : Nat) (b23 : Nat) (b24 : Nat) (b25 : Nat) (b26 : Nat) (b27 : Nat) (b28 : Nat) (b29 : Nat) (b30 : Nat) (b31 : Nat) (b32 : Nat) (b33 : Nat) (b34 : Nat) (b35 : Nat) (b36 : Nat) (b37 : Nat) (b38 : Nat) (b39 : Nat) (b40 : Nat) (b41 : Nat) (b42 : Nat) (b43 : Nat) (b44 : Nat) (b45 : Nat) (b46 : Nat) (b47 : Nat) (b48 : Nat) (b49 : Nat) (b50 : Nat) (b51 : Nat) (b52 : Nat) (b53 : Nat) (b54 : Nat) (b55 : Nat) (b56 : Nat) (b57 : Nat) (b58 : Nat) (b59 : Nat) (b60 : Nat) (b61 : Nat) (b62 : Nat) (b63 : Nat) (b64 : Nat) (b65 : Nat) (b66 : Nat) (b67 : Nat) (b68 : Nat) (b69 : Nat) (b70 : Nat) (b71 : Nat) (b72 : Nat) (b73 : Nat) (b74 : Nat) (b75 : Nat) (i0 : Int32) (i1 : Int32) (h0 : i1 < 1) : ax_Mi l D kA y_MM_look b_MM_look 5 .int 1 22 0 0 [.ref a0, .int i0, .int i1] [(a0, .inr (12, [.ref b0, .ref b1, .int 0, .int 0, .int 0, .int 0, .int 0, .int 0, .int 0, .int 0, .int 0, .int 0, .int 0, .ref b2, .ref b3, .ref b4, .ref b5, .ref b6, .int 0, .int 1, .int 0, .ref b7, .ref b8, .ref b9, .ref b10, .int 0, .ref b11, .ref b12, .int 0, .int 0, .ref b13, .ref b14, .ref b15, .ref b16, .ref b17, .ref b18, .ref b19, .int 0, .int 0, .int 0, .int 0, .ref b20, .ref b21, .ref b22, .ref b23, .ref b24, .ref b25, .int 0, .ref b26, .ref b27, .ref b28, .ref b29, .ref b30, .ref b31, .ref b32, .int 0, .int 0, .ref b33, .ref b34, .ref b35, .ref b36, .ref b37, .int 0, .ref b38, .ref b39, .int 0, .ref b40, .ref b41, .ref b42, .ref b43, .ref b44, .ref b45, .int 0, .ref b46, .ref b47, .ref b48, .ref b49, .ref b50, .ref b51, .ref b52, .ref b53, .ref b54, .ref b55, .ref b56, .int 0, .int 0, .int 0, .int 0, .int (-1), .int 0, .int 0, .int 0, .int 0, .int 0, .int 0, .ref b57, .ref b58, .ref b59, .int 0, .ref b60, .ref b61, .int 0, .ref b62, .ref b63, .ref b64, .int 0, .ref b65, .ref b66, .ref b67, .ref b68, .ref b69, .ref b70, .int 0, .int (-1), .int 0, .ref b71, .int (-1), .int (-1), .int (-1), .ref b72, .int 0, .ref b73, .int 0, .ref b74, .int 0, .int 0, .ref b75]))] (fun r w1 => r = 0 ∧ w1 = [(a0, .inr (12, [.ref b0, .ref b1, .int 0, .int 0, .int 1, .int 0, .int 0, .int 0, .int 0, .int 0, .int 0, .int 0, .int 0, .ref b2, .ref b3, .ref b4, .ref b5, .ref b6, .int 0, .int 1, .int 0, .ref b7, .ref b8, .ref b9, .ref b10, .int 0, .ref b11, .ref b12, .int 0, .int 0, .ref b13, .ref b14, .ref b15, .ref b16, .ref b17, .ref b18, .ref b19, .int 0, .int 0, .int 0, .int 0, .ref b20, .ref b21, .ref b22, .ref b23, .ref b24, .ref b25, .int 0, .ref b26, .ref b27, .ref b28, .ref b29, .ref b30, .ref b31, .ref b32, .int 0, .int 0, .ref b33, .ref b34, .ref b35, .ref b36, .ref b37, .int 0, .ref b38, .ref b39, .int 0, .ref b40, .ref b41, .ref b42, .ref b43, .ref b44, .ref b45, .int 0, .ref b46, .ref b47, .ref b48, .ref b49, .ref b50, .ref b51, .ref b52, .ref b53, .ref b54, .ref b55, .ref b56, .int 0, .int 0, .int 0, .int 0, .int (-1), .int 0, .int 0, .int 0, .int 0, .int 0, .int 0, .ref b57, .ref b58, .ref b59, .int 0, .ref b60, .ref b61, .int 0, .ref b62, .ref b63, .ref b64, .int 0, .ref b65, .ref b66, .ref b67, .ref b68, .ref b69, .ref b70, .int 0, .int (-1), .int 0, .ref b71, .int (-1), .int (-1), .int (-1), .ref b72, .int 0, .ref b73, .int 0, .ref b74, .int 0, .int 0, .ref b75]))]) := by
  refine ax_Mi.of (by decide +kernel) (Nat.le_of_ble_eq_true rfl) ?_
  intro p e s m args below meth c C hnm
  refine ax_ls ([(0, .ref a0), (1, .int i0), (2, .int i1)]) [0, 1, 2] rfl ?_
  refine ax_aload_n (pc := 0) C d_MM_look_0 rfl 0 rfl ?_
  refine ax_iconst (pc := 1) C 0 d_MM_look_1 (by decide +kernel) ?_
  refine ax_put (pc := 2) C k_MM 4 lk_MM_24 d_MM_look_2 (Nat.le_of_ble_eq_true rfl) 0 rfl rfl rfl rfl (Nat.le_of_ble_eq_true rfl) ?_
  refine ax_w ([(a0, .inr (12, [.ref b0, .ref b1, .int 0, .int 0, .int 0, .int 0, .int 0, .int 0, .int 0, .int 0, .int 0, .int 0, .int 0, .ref b2, .ref b3, .ref b4, .ref b5, .ref b6, .int 0, .int 1, .int 0, .ref b7, .ref b8, .ref b9, .ref b10, .int 0, .ref b11, .ref b12, .int 0, .int 0, .ref b13, .ref b14, .ref b15, .ref b16, .ref b17, .ref b18, .ref b19, .int 0, .int 0, .int 0, .int 0, .ref b20, .ref b21, .ref b22, .ref b23, .ref b24, .ref b25, .int 0, .ref b26, .ref b27, .ref b28, .ref b29, .ref b30, .ref b31, .ref b32, .int 0, .int 0, .ref b33, .ref b34, .ref b35, .ref b36, .ref b37, .int 0, .ref b38, .ref b39, .int 0, .ref b40, .ref b41, .ref b42, .ref b43, .ref b44, .ref b45, .int 0, .ref b46, .ref b47, .ref b48, .ref b49, .ref b50, .ref b51, .ref b52, .ref b53, .ref b54, .ref b55, .ref b56, .int 0, .int 0, .int 0, .int 0, .int (-1), .int 0, .int 0, .int 0, .int 0, .int 0, .int 0, .ref b57, .ref b58, .ref b59, .int 0, .ref b60, .ref b61, .int 0, .ref b62, .ref b63, .ref b64, .int 0, .ref b65, .ref b66, .ref b67, .ref b68, .ref b69, .ref b70, .int 0, .int (-1), .int 0, .ref b71, .int (-1), .int (-1), .int (-1), .ref b72, .int 0, .ref b73, .int 0, .ref b74, .int 0, .int 0, .ref b75]))]) rfl ?_
  refine ax_aload_n (pc := 5) C d_MM_look_5 rfl 0 rfl ?_
  refine ax_iconst (pc := 6) C 1 d_MM_look_6 (by decide +kernel) ?_
  refine ax_iload_n (pc := 7) C d_MM_look_7 rfl 2 rfl ?_
  refine ax_iconst (pc := 8) C 1 d_MM_look_8 (by decide +kernel) ?_
  refine ax_icmp_lt (pc := 9) C 17 d_MM_look_9 (by decide) (fun _ => ?_) (fun h => absurd h0 h)
  refine ax_iconst (pc := 17) C 1 d_MM_look_17 (by decide +kernel) ?_
  refine ax_goto (pc := 18) C 22 d_MM_look_18 (by decide) ?_
  refine ax_callVi (pc := 22) C (As := [.int 1, .int 1]) (rest := []) (wr := []) (m34_MM_refuse l D kA a0 b0 b1 b2 b3 b4 b5 b6 b7 b8 b9 b10 b11 b12 b13 b14 b15 b16 b17 b18 b19 b20 b21 b22 b23 b24 b25 b26 b27 b28 b29 b30 b31 b32 b33 b34 b35 b36 b37 b38 b39 b40 b41 b42 b43 b44 b45 b46 b47 b48 b49 b50 b51 b52 b53 b54 b55 b56 b57 b58 b59 b60 b61 b62 b63 b64 b65 b66 b67 b68 b69 b70 b71 b72 b73 b74 b75) ml_MM_401 0 rfl rfl rfl d_MM_look_22 rfl rfl [0] [] rfl (by decide) rfl (by decide) (by decide) (Nat.le_of_ble_eq_true rfl) (Nat.le_of_ble_eq_true rfl) (Nat.le_of_ble_eq_true rfl) (Nat.le_of_ble_eq_true rfl) (Nat.le_of_ble_eq_true rfl) (fun r22 w1 hw1 => ?_)
  obtain ⟨rfl, rfl⟩ := hw1
  refine ax_w ([(a0, .inr (12, [.ref b0, .ref b1, .int 0, .int 0, .int 1, .int 0, .int 0, .int 0, .int 0, .int 0, .int 0, .int 0, .int 0, .ref b2, .ref b3, .ref b4, .ref b5, .ref b6, .int 0, .int 1, .int 0, .ref b7, .ref b8, .ref b9, .ref b10, .int 0, .ref b11, .ref b12, .int 0, .int 0, .ref b13, .ref b14, .ref b15, .ref b16, .ref b17, .ref b18, .ref b19, .int 0, .int 0, .int 0, .int 0, .ref b20, .ref b21, .ref b22, .ref b23, .ref b24, .ref b25, .int 0, .ref b26, .ref b27, .ref b28, .ref b29, .ref b30, .ref b31, .ref b32, .int 0, .int 0, .ref b33, .ref b34, .ref b35, .ref b36, .ref b37, .int 0, .ref b38, .ref b39, .int 0, .ref b40, .ref b41, .ref b42, .ref b43, .ref b44, .ref b45, .int 0, .ref b46, .ref b47, .ref b48, .ref b49, .ref b50, .ref b51, .ref b52, .ref b53, .ref b54, .ref b55, .ref b56, .int 0, .int 0, .int 0, .int 0, .int (-1), .int 0, .int 0, .int 0, .int 0, .int 0, .int 0, .ref b57, .ref b58, .ref b59, .int 0, .ref b60, .ref b61, .int 0, .ref b62, .ref b63, .ref b64, .int 0, .ref b65, .ref b66, .ref b67, .ref b68, .ref b69, .ref b70, .int 0, .int (-1), .int 0, .ref b71, .int (-1), .int (-1), .int (-1), .ref b72, .int 0, .ref b73, .int 0, .ref b74, .int 0, .int 0, .ref b75]))]) rfl ?_
  refine ax_if_eq (pc := 25) C 30 d_MM_look_25 (by decide) (fun h => absurd h (by decide)) (fun _ => ?_)
  refine ax_iconst (pc := 28) C 0 d_MM_look_28 (by decide +kernel) ?_
  exact ax_iret (pc := 29) C d_MM_look_29 ⟨rfl, rfl⟩ (by decide) (by decide)
set_option maxHeartbeats 4000000 in
set_option maxRecDepth 100000 in
theorem m132_CP_look (l : Launch) (htr : l.stackTraces = false) (D : va_G) (kA : Nat → ClassId) (b0 : Nat) (i0 : Int32) (i1 : Int32) (h0 : ¬ i1 < 1) (h1 : ¬ i1 ≤ 3) : ax_Mx l D kA y_CP_look b_CP_look 5 (some .int) 6 90 1 6 [.ref b0, .int i0, .int i1] [] "java/lang/IllegalArgumentException" (fun w1 => w1 = []) := by
  refine ax_Mx.of (by decide +kernel) (Nat.le_of_ble_eq_true rfl) ?_
  intro p e s m args below meth c C hadm hex hX hP0
  refine ax_ls ([(0, .ref b0), (1, .int i0), (2, .int i1)]) [0, 1, 2] rfl ?_
  refine ax_iload_n (pc := 0) C d_CP_look_0 rfl 2 rfl ?_
  refine ax_iconst (pc := 1) C 1 d_CP_look_1 (by decide +kernel) ?_
  refine ax_icmp_lt (pc := 2) C 10 d_CP_look_2 (by decide) (fun h => absurd h h0) (fun _ => ?_)
  refine ax_iload_n (pc := 5) C d_CP_look_5 rfl 2 rfl ?_
  refine ax_iconst (pc := 6) C 3 d_CP_look_6 (by decide +kernel) ?_
  refine ax_icmp_le (pc := 7) C 21 d_CP_look_7 (by decide) (fun h => absurd h h1) (fun _ => ?_)
  exact ax_throw3 (pc := 10) C hadm htr hex hX hP0 (is := 269) (tx := "not 1 .. 3 elements") ta_IAE (by decide +kernel) (by decide) tb_classLink_984 tb_instantiable_985 tb_initialized_21 (by decide +kernel) (by decide +kernel) (by decide +kernel) (by decide +kernel) d_CP_look_10 d_CP_look_13 d_CP_look_14 d_CP_look_17 d_CP_look_20 (Nat.le_of_ble_eq_true rfl) (Nat.le_of_ble_eq_true rfl) (Nat.le_of_ble_eq_true rfl) (Nat.le_of_ble_eq_true rfl) rfl rfl rfl
set_option maxHeartbeats 4000000 in
set_option maxRecDepth 100000 in
theorem m131_Law_look (l : Launch) (htr : l.stackTraces = false) (D : va_G) (kA : Nat → ClassId) (a0 : Nat) (b0 : Nat) (b1 : Nat) (b2 : Nat) (b3 : Nat) (b4 : Nat) (b5 : Nat) (b6 : Nat) (b7 : Nat) (b8 : Nat) (b9 : Nat) (b10 : Nat) (i0 : Int32) (i1 : Int32) (h0 : ¬ i1 < 1) (h1 : ¬ i1 ≤ 3) : ax_Mw l D kA y_Law_look b_Law_look 5 [(0, 10, 13, 19)] 7 114 1 6 [.ref a0, .int i0, .int i1, .ref b0] [(a0, .inr (11, [.ref b1, .ref b2, .ref b3, .ref b4, .ref b5, .ref b6, .ref b7, .ref b8, .ref b9, .ref b10, .int 0, .int 0]))] (fun r w1 => r = 1 ∧ w1 = [(a0, .inr (11, [.ref b1, .ref b2, .ref b3, .ref b4, .ref b5, .ref b6, .ref b7, .ref b8, .ref b9, .ref b10, .int 0, .int 0]))]) := by
  refine ax_Mw.of (by decide +kernel) (Nat.le_of_ble_eq_true rfl) ?_
  intro p e s m args below meth c C hadm hmeth hcode htb hX
  refine ax_ls ([(0, .ref a0), (1, .int i0), (2, .int i1), (3, .ref b0)]) [0, 1, 2, 3] rfl ?_
  refine ax_aload_n (pc := 0) C d_Law_look_0 rfl 3 rfl ?_
  refine ax_iconst (pc := 1) C 0 d_Law_look_1 (by decide +kernel) ?_
  refine ax_aload_n (pc := 2) C d_Law_look_2 rfl 0 rfl ?_
  refine ax_iload_n (pc := 3) C d_Law_look_3 rfl 1 rfl ?_
  refine ax_iload_n (pc := 4) C d_Law_look_4 rfl 2 rfl ?_
  refine ax_callVx (pc := 5) C hX (hpc := 13) (As := [.int i0, .int i1]) (rest := [.int 0, .ref b0]) (wr := [(a0, .inr (11, [.ref b1, .ref b2, .ref b3, .ref b4, .ref b5, .ref b6, .ref b7, .ref b8, .ref b9, .ref b10, .int 0, .int 0]))]) (m132_CP_look l htr D kA a0 i0 i1 h0 h1) ml_Law_51 0 rfl rfl rfl d_Law_look_5 rfl rfl [] [0] rfl (by decide) rfl (by decide) (by decide) (Nat.le_of_ble_eq_true rfl) (Nat.le_of_ble_eq_true rfl) (Nat.le_of_ble_eq_true rfl) (Nat.le_of_ble_eq_true rfl) (Nat.le_of_ble_eq_true rfl) (cx_F1 hadm hmeth hcode C.2.2.2.1 htb ⟨by decide, by decide⟩ (by decide) (C.2.2.2.2.1 _ tb_classLink_979)) (fun xe5 w1 hw1 => ?_)
  obtain rfl := hw1
  refine ax_w ([(a0, .inr (11, [.ref b1, .ref b2, .ref b3, .ref b4, .ref b5, .ref b6, .ref b7, .ref b8, .ref b9, .ref b10, .int 0, .int 0]))]) rfl ?_
  refine ax_astore (pc := 13) C d_Law_look_13 (Nat.le_of_ble_eq_true rfl) ([(4, .ref xe5), (0, .ref a0), (1, .int i0), (2, .int i1), (3, .ref b0)]) rfl ?_
  refine ax_iconst (pc := 15) C 1 d_Law_look_15 (by decide +kernel) ?_
  exact ax_iret (pc := 16) C d_Law_look_16 ⟨rfl, rfl⟩ (by decide) (by decide)
set_option maxHeartbeats 4000000 in
set_option maxRecDepth 100000 in
theorem m133_MM_look (l : Launch) (D : va_G) (kA : Nat → ClassId) (a0 : Nat) (b0 : Nat) (b1 : Nat) (b2 : Nat) (b3 : Nat) (b4 : Nat) (b5 : Nat) (b6 : Nat) (b7 : Nat) (b8 : Nat) (b9 : Nat) (b10 : Nat) (b11 : Nat) (b12 : Nat) (b13 : Nat) (b14 : Nat) (b15 : Nat) (b16 : Nat) (b17 : Nat) (b18 : Nat) (b19 : Nat) (b20 : Nat) (b21 : Nat) (b22 : Nat) (b23 : Nat) (b24 : Nat) (b25 : Nat) (b26 : Nat) (b27 : Nat) (b28 : Nat) (b29 : Nat) (b30 : Nat) (b31 : Nat) (b32 : Nat) (b33 : Nat) (b34 : Nat) (b35 : Nat) (b36 : Nat) (b37 : Nat) (b38 : Nat) (b39 : Nat) (b40 : Nat) (b41 : Nat) (b42 : Nat) (b43 : Nat) (b44 : Nat) (b45 : Nat) (b46 : Nat) (b47 : Nat) (b48 : Nat) (b49 : Nat) (b50 : Nat) (b51 : Nat) (b52 : Nat) (b53 : Nat) (b54 : Nat) (b55 : Nat) (b56 : Nat) (b57 : Nat) (b58 : Nat) (b59 : Nat) (b60 : Nat) (b61 : Nat) (b62 : Nat) (b63 : Nat) (b64 : Nat) (b65 : Nat) (b66 : Nat) (b67 : Nat) (b68 : Nat) (b69 : Nat) (b70 : Nat) (b71 : Nat) (b72 : Nat) (b73 : Nat) (b74 : Nat) (b75 : Nat) (i0 : Int32) (i1 : Int32) (h0 : ¬ i1 < 1) (h1 : ¬ i1 ≤ 3) : ax_Mi l D kA y_MM_look b_MM_look 5 .int 1 22 0 0 [.ref a0, .int i0, .int i1] [(a0, .inr (12, [.ref b0, .ref b1, .int 0, .int 0, .int 0, .int 0, .int 0, .int 0, .int 0, .int 0, .int 0, .int 0, .int 0, .ref b2, .ref b3, .ref b4, .ref b5, .ref b6, .int 0, .int 1, .int 0, .ref b7, .ref b8, .ref b9, .ref b10, .int 0, .ref b11, .ref b12, .int 0, .int 0, .ref b13, .ref b14, .ref b15, .ref b16, .ref b17, .ref b18, .ref b19, .int 0, .int 0, .int 0, .int 0, .ref b20, .ref b21, .ref b22, .ref b23, .ref b24, .ref b25, .int 0, .ref b26, .ref b27, .ref b28, .ref b29, .ref b30, .ref b31, .ref b32, .int 0, .int 0, .ref b33, .ref b34, .ref b35, .ref b36, .ref b37, .int 0, .ref b38, .ref b39, .int 0, .ref b40, .ref b41, .ref b42, .ref b43, .ref b44, .ref b45, .int 0, .ref b46, .ref b47, .ref b48, .ref b49, .ref b50, .ref b51, .ref b52, .ref b53, .ref b54, .ref b55, .ref b56, .int 0, .int 0, .int 0, .int 0, .int (-1), .int 0, .int 0, .int 0, .int 0, .int 0, .int 0, .ref b57, .ref b58, .ref b59, .int 0, .ref b60, .ref b61, .int 0, .ref b62, .ref b63, .ref b64, .int 0, .ref b65, .ref b66, .ref b67, .ref b68, .ref b69, .ref b70, .int 0, .int (-1), .int 0, .ref b71, .int (-1), .int (-1), .int (-1), .ref b72, .int 0, .ref b73, .int 0, .ref b74, .int 0, .int 0, .ref b75]))] (fun r w1 => r = 0 ∧ w1 = [(a0, .inr (12, [.ref b0, .ref b1, .int 0, .int 0, .int 1, .int 0, .int 0, .int 0, .int 0, .int 0, .int 0, .int 0, .int 0, .ref b2, .ref b3, .ref b4, .ref b5, .ref b6, .int 0, .int 1, .int 0, .ref b7, .ref b8, .ref b9, .ref b10, .int 0, .ref b11, .ref b12, .int 0, .int 0, .ref b13, .ref b14, .ref b15, .ref b16, .ref b17, .ref b18, .ref b19, .int 0, .int 0, .int 0, .int 0, .ref b20, .ref b21, .ref b22, .ref b23, .ref b24, .ref b25, .int 0, .ref b26, .ref b27, .ref b28, .ref b29, .ref b30, .ref b31, .ref b32, .int 0, .int 0, .ref b33, .ref b34, .ref b35, .ref b36, .ref b37, .int 0, .ref b38, .ref b39, .int 0, .ref b40, .ref b41, .ref b42, .ref b43, .ref b44, .ref b45, .int 0, .ref b46, .ref b47, .ref b48, .ref b49, .ref b50, .ref b51, .ref b52, .ref b53, .ref b54, .ref b55, .ref b56, .int 0, .int 0, .int 0, .int 0, .int (-1), .int 0, .int 0, .int 0, .int 0, .int 0, .int 0, .ref b57, .ref b58, .ref b59, .int 0, .ref b60, .ref b61, .int 0, .ref b62, .ref b63, .ref b64, .int 0, .ref b65, .ref b66, .ref b67, .ref b68, .ref b69, .ref b70, .int 0, .int (-1), .int 0, .ref b71, .int (-1), .int (-1), .int (-1), .ref b72, .int 0, .ref b73, .int 0, .ref b74, .int 0, .int 0, .ref b75]))]) := by
  refine ax_Mi.of (by decide +kernel) (Nat.le_of_ble_eq_true rfl) ?_
  intro p e s m args below meth c C hnm
  refine ax_ls ([(0, .ref a0), (1, .int i0), (2, .int i1)]) [0, 1, 2] rfl ?_
  refine ax_aload_n (pc := 0) C d_MM_look_0 rfl 0 rfl ?_
  refine ax_iconst (pc := 1) C 0 d_MM_look_1 (by decide +kernel) ?_
  refine ax_put (pc := 2) C k_MM 4 lk_MM_24 d_MM_look_2 (Nat.le_of_ble_eq_true rfl) 0 rfl rfl rfl rfl (Nat.le_of_ble_eq_true rfl) ?_
  refine ax_w ([(a0, .inr (12, [.ref b0, .ref b1, .int 0, .int 0, .int 0, .int 0, .int 0, .int 0, .int 0, .int 0, .int 0, .int 0, .int 0, .ref b2, .ref b3, .ref b4, .ref b5, .ref b6, .int 0, .int 1, .int 0, .ref b7, .ref b8, .ref b9, .ref b10, .int 0, .ref b11, .ref b12, .int 0, .int 0, .ref b13, .ref b14, .ref b15, .ref b16, .ref b17, .ref b18, .ref b19, .int 0, .int 0, .int 0, .int 0, .ref b20, .ref b21, .ref b22, .ref b23, .ref b24, .ref b25, .int 0, .ref b26, .ref b27, .ref b28, .ref b29, .ref b30, .ref b31, .ref b32, .int 0, .int 0, .ref b33, .ref b34, .ref b35, .ref b36, .ref b37, .int 0, .ref b38, .ref b39, .int 0, .ref b40, .ref b41, .ref b42, .ref b43, .ref b44, .ref b45, .int 0, .ref b46, .ref b47, .ref b48, .ref b49, .ref b50, .ref b51, .ref b52, .ref b53, .ref b54, .ref b55, .ref b56, .int 0, .int 0, .int 0, .int 0, .int (-1), .int 0, .int 0, .int 0, .int 0, .int 0, .int 0, .ref b57, .ref b58, .ref b59, .int 0, .ref b60, .ref b61, .int 0, .ref b62, .ref b63, .ref b64, .int 0, .ref b65, .ref b66, .ref b67, .ref b68, .ref b69, .ref b70, .int 0, .int (-1), .int 0, .ref b71, .int (-1), .int (-1), .int (-1), .ref b72, .int 0, .ref b73, .int 0, .ref b74, .int 0, .int 0, .ref b75]))]) rfl ?_
  refine ax_aload_n (pc := 5) C d_MM_look_5 rfl 0 rfl ?_
  refine ax_iconst (pc := 6) C 1 d_MM_look_6 (by decide +kernel) ?_
  refine ax_iload_n (pc := 7) C d_MM_look_7 rfl 2 rfl ?_
  refine ax_iconst (pc := 8) C 1 d_MM_look_8 (by decide +kernel) ?_
  refine ax_icmp_lt (pc := 9) C 17 d_MM_look_9 (by decide) (fun h => absurd h h0) (fun _ => ?_)
  refine ax_iload_n (pc := 12) C d_MM_look_12 rfl 2 rfl ?_
  refine ax_iconst (pc := 13) C 3 d_MM_look_13 (by decide +kernel) ?_
  refine ax_icmp_le (pc := 14) C 21 d_MM_look_14 (by decide) (fun h => absurd h h1) (fun _ => ?_)
  refine ax_iconst (pc := 17) C 1 d_MM_look_17 (by decide +kernel) ?_
  refine ax_goto (pc := 18) C 22 d_MM_look_18 (by decide) ?_
  refine ax_callVi (pc := 22) C (As := [.int 1, .int 1]) (rest := []) (wr := []) (m34_MM_refuse l D kA a0 b0 b1 b2 b3 b4 b5 b6 b7 b8 b9 b10 b11 b12 b13 b14 b15 b16 b17 b18 b19 b20 b21 b22 b23 b24 b25 b26 b27 b28 b29 b30 b31 b32 b33 b34 b35 b36 b37 b38 b39 b40 b41 b42 b43 b44 b45 b46 b47 b48 b49 b50 b51 b52 b53 b54 b55 b56 b57 b58 b59 b60 b61 b62 b63 b64 b65 b66 b67 b68 b69 b70 b71 b72 b73 b74 b75) ml_MM_401 0 rfl rfl rfl d_MM_look_22 rfl rfl [0] [] rfl (by decide) rfl (by decide) (by decide) (Nat.le_of_ble_eq_true rfl) (Nat.le_of_ble_eq_true rfl) (Nat.le_of_ble_eq_true rfl) (Nat.le_of_ble_eq_true rfl) (Nat.le_of_ble_eq_true rfl) (fun r22 w1 hw1 => ?_)
  obtain ⟨rfl, rfl⟩ := hw1
  refine ax_w ([(a0, .inr (12, [.ref b0, .ref b1, .int 0, .int 0, .int 1, .int 0, .int 0, .int 0, .int 0, .int 0, .int 0, .int 0, .int 0, .ref b2, .ref b3, .ref b4, .ref b5, .ref b6, .int 0, .int 1, .int 0, .ref b7, .ref b8, .ref b9, .ref b10, .int 0, .ref b11, .ref b12, .int 0, .int 0, .ref b13, .ref b14, .ref b15, .ref b16, .ref b17, .ref b18, .ref b19, .int 0, .int 0, .int 0, .int 0, .ref b20, .ref b21, .ref b22, .ref b23, .ref b24, .ref b25, .int 0, .ref b26, .ref b27, .ref b28, .ref b29, .ref b30, .ref b31, .ref b32, .int 0, .int 0, .ref b33, .ref b34, .ref b35, .ref b36, .ref b37, .int 0, .ref b38, .ref b39, .int 0, .ref b40, .ref b41, .ref b42, .ref b43, .ref b44, .ref b45, .int 0, .ref b46, .ref b47, .ref b48, .ref b49, .ref b50, .ref b51, .ref b52, .ref b53, .ref b54, .ref b55, .ref b56, .int 0, .int 0, .int 0, .int 0, .int (-1), .int 0, .int 0, .int 0, .int 0, .int 0, .int 0, .ref b57, .ref b58, .ref b59, .int 0, .ref b60, .ref b61, .int 0, .ref b62, .ref b63, .ref b64, .int 0, .ref b65, .ref b66, .ref b67, .ref b68, .ref b69, .ref b70, .int 0, .int (-1), .int 0, .ref b71, .int (-1), .int (-1), .int (-1), .ref b72, .int 0, .ref b73, .int 0, .ref b74, .int 0, .int 0, .ref b75]))]) rfl ?_
  refine ax_if_eq (pc := 25) C 30 d_MM_look_25 (by decide) (fun h => absurd h (by decide)) (fun _ => ?_)
  refine ax_iconst (pc := 28) C 0 d_MM_look_28 (by decide +kernel) ?_
  exact ax_iret (pc := 29) C d_MM_look_29 ⟨rfl, rfl⟩ (by decide) (by decide)
abbrev b_Mod_suitsText : ByteArray := prog_5_method_2_code
def y_Mod_suitsText : MethodName := ⟨"ClauseProver$Model", "suitsText", "(II)Z"⟩
theorem d_Mod_suitsText_0 : decode b_Mod_suitsText 0 = .ok (.aload_n 0, 1) := by decide +kernel
theorem d_Mod_suitsText_1 : decode b_Mod_suitsText 1 = .ok (.iload_n 1, 1) := by decide +kernel
theorem d_Mod_suitsText_2 : decode b_Mod_suitsText 2 = .ok (.putfield 30, 3) := by decide +kernel
theorem d_Mod_suitsText_5 : decode b_Mod_suitsText 5 = .ok (.aload_n 0, 1) := by decide +kernel
theorem d_Mod_suitsText_6 : decode b_Mod_suitsText 6 = .ok (.iload_n 2, 1) := by decide +kernel
theorem d_Mod_suitsText_7 : decode b_Mod_suitsText 7 = .ok (.putfield 18, 3) := by decide +kernel
theorem d_Mod_suitsText_10 : decode b_Mod_suitsText 10 = .ok (.iconst 0, 1) := by decide +kernel
theorem d_Mod_suitsText_11 : decode b_Mod_suitsText 11 = .ok (.istore_n 3, 1) := by decide +kernel
theorem d_Mod_suitsText_12 : decode b_Mod_suitsText 12 = .ok (.iload_n 3, 1) := by decide +kernel
theorem d_Mod_suitsText_13 : decode b_Mod_suitsText 13 = .ok (.aload_n 0, 1) := by decide +kernel
theorem d_Mod_suitsText_14 : decode b_Mod_suitsText 14 = .ok (.getfield 26, 3) := by decide +kernel
theorem d_Mod_suitsText_17 : decode b_Mod_suitsText 17 = .ok (.getfield 33, 3) := by decide +kernel
theorem d_Mod_suitsText_20 : decode b_Mod_suitsText 20 = .ok (.if_icmp .ge 19, 3) := by decide +kernel
theorem d_Mod_suitsText_23 : decode b_Mod_suitsText 23 = .ok (.aload_n 0, 1) := by decide +kernel
theorem d_Mod_suitsText_24 : decode b_Mod_suitsText 24 = .ok (.iload_n 3, 1) := by decide +kernel
theorem d_Mod_suitsText_25 : decode b_Mod_suitsText 25 = .ok (.invokevirtual 38, 3) := by decide +kernel
theorem d_Mod_suitsText_28 : decode b_Mod_suitsText 28 = .ok (.ifCond .ne 5, 3) := by decide +kernel
theorem d_Mod_suitsText_31 : decode b_Mod_suitsText 31 = .ok (.iconst 0, 1) := by decide +kernel
theorem d_Mod_suitsText_32 : decode b_Mod_suitsText 32 = .ok (.ireturn, 1) := by decide +kernel
theorem d_Mod_suitsText_33 : decode b_Mod_suitsText 33 = .ok (.iinc 3 1, 3) := by decide +kernel
theorem d_Mod_suitsText_36 : decode b_Mod_suitsText 36 = .ok (.goto (-24), 3) := by decide +kernel
theorem d_Mod_suitsText_39 : decode b_Mod_suitsText 39 = .ok (.iconst 1, 1) := by decide +kernel
theorem d_Mod_suitsText_40 : decode b_Mod_suitsText 40 = .ok (.ireturn, 1) := by decide +kernel
theorem lk_Mod_30 : Cond.fieldLink "ClauseProver$Model" 30 (F_Mod 4).1 (F_Mod 4).2.1 (F_Mod 4).2.2.1 ∈ lw_tbg := tb_in (i := 484) (by decide +kernel) rfl
theorem lk_Mod_33 : Cond.fieldLink "ClauseProver$Model" 33 (F_Sto 3).1 (F_Sto 3).2.1 (F_Sto 3).2.2.1 ∈ lw_tbg := tb_in (i := 333) (by decide +kernel) rfl
set_option maxHeartbeats 4000000 in
set_option maxRecDepth 100000 in
theorem m136_Mod_suitsText (l : Launch) (D : va_G) (kA : Nat → ClassId) (a0 : Nat) (a1 : Nat) (b0 : Nat) (b1 : Nat) (b2 : Nat) (b3 : Nat) (b4 : Nat) (b5 : Nat) (i0 : Int32) (i1 : Int32) : ax_Mi l D kA y_Mod_suitsText b_Mod_suitsText 4 .boolean 0 0 0 0 [.ref a1, .int i0, .int i1] [(a0, .inr (6, [.ref b0, .ref b1, .int 0, .int 0, .ref b2, .ref b3])), (a1, .inr (10, [.ref b2, .ref a0, .ref b4, .ref b5, .int 0, .int 1]))] (fun r w1 => r = 1 ∧ w1 = [(a0, .inr (6, [.ref b0, .ref b1, .int 0, .int 0, .ref b2, .ref b3])), (a1, .inr (10, [.ref b2, .ref a0, .ref b4, .ref b5, .int i0, .int i1]))]) := by
  refine ax_Mi.of (by decide +kernel) (Nat.le_of_ble_eq_true rfl) ?_
  intro p e s m args below meth c C hnm
  refine ax_ls ([(0, .ref a1), (1, .int i0), (2, .int i1)]) [0, 1, 2] rfl ?_
  refine ax_aload_n (pc := 0) C d_Mod_suitsText_0 rfl 0 rfl ?_
  refine ax_iload_n (pc := 1) C d_Mod_suitsText_1 rfl 1 rfl ?_
  refine ax_put (pc := 2) C k_Mod 4 lk_Mod_30 d_Mod_suitsText_2 (Nat.le_of_ble_eq_true rfl) 1 rfl rfl rfl rfl (Nat.le_of_ble_eq_true rfl) ?_
  refine ax_w ([(a0, .inr (6, [.ref b0, .ref b1, .int 0, .int 0, .ref b2, .ref b3])), (a1, .inr (10, [.ref b2, .ref a0, .ref b4, .ref b5, .int i0, .int 1]))]) rfl ?_
  refine ax_aload_n (pc := 5) C d_Mod_suitsText_5 rfl 0 rfl ?_
  refine ax_iload_n (pc := 6) C d_Mod_suitsText_6 rfl 2 rfl ?_
  refine ax_put (pc := 7) C k_Mod 5 lk_Mod_18 d_Mod_suitsText_7 (Nat.le_of_ble_eq_true rfl) 1 rfl rfl rfl rfl (Nat.le_of_ble_eq_true rfl) ?_
  refine ax_w ([(a0, .inr (6, [.ref b0, .ref b1, .int 0, .int 0, .ref b2, .ref b3])), (a1, .inr (10, [.ref b2, .ref a0, .ref b4, .ref b5, .int i0, .int i1]))]) rfl ?_
  refine ax_iconst (pc := 10) C 0 d_Mod_suitsText_10 (by decide +kernel) ?_
  refine ax_istore_n (pc := 11) C d_Mod_suitsText_11 rfl (Nat.le_of_ble_eq_true rfl) ([(3, .int 0), (0, .ref a1), (1, .int i0), (2, .int i1)]) rfl ?_
  refine ax_iload_n (pc := 12) C d_Mod_suitsText_12 rfl 0 rfl ?_
  refine ax_aload_n (pc := 13) C d_Mod_suitsText_13 rfl 1 rfl ?_
  refine ax_get (pc := 14) C k_Mod 1 lk_Mod_26 d_Mod_suitsText_14 (Nat.le_of_ble_eq_true rfl) 1 rfl rfl ?_
  refine ax_get (pc := 17) C k_Sto 3 lk_Mod_33 d_Mod_suitsText_17 (Nat.le_of_ble_eq_true rfl) 0 rfl rfl ?_
  refine ax_icmp_ge (pc := 20) C 39 d_Mod_suitsText_20 (by decide) (fun _ => ?_) (fun h => absurd h (by decide))
  refine ax_iconst (pc := 39) C 1 d_Mod_suitsText_39 (by decide +kernel) ?_
  exact ax_zret (pc := 40) C d_Mod_suitsText_40 rfl ⟨rfl, rfl⟩ (by decide) (by decide)
theorem tc_Mod_suitsText : Cond.code y_Mod_suitsText b_Mod_suitsText 4 (some (.boolean)) ∈ lw_tbg := tb_in (i := 1470) (by decide +kernel) rfl
theorem ml_CP_271 : ax_LV "ClauseProver" 271 y_Mod_suitsText b_Mod_suitsText 4 (some (.boolean)) 2 := ax_LV.mk (tb_in (i := 1467) (by decide +kernel) rfl) (tb_in (i := 1468) (by decide +kernel) rfl) (tb_in (i := 1469) (by decide +kernel) rfl) ti_Mod tc_Mod_suitsText (by decide +kernel)
set_option maxHeartbeats 4000000 in
set_option maxRecDepth 100000 in
theorem m135_CP_look (l : Launch) (D : va_G) (kA : Nat → ClassId) (a0 : Nat) (a1 : Nat) (a2 : Nat) (b0 : Nat) (b1 : Nat) (b2 : Nat) (b3 : Nat) (b4 : Nat) (b5 : Nat) (b6 : Nat) (b7 : Nat) (b8 : Nat) (b9 : Nat) (b10 : Nat) (b11 : Nat) (b12 : Nat) (i0 : Int32) (i1 : Int32) (h0 : i1 ≤ 3) (h1 : ¬ i1 < 1) : ax_Mi l D kA y_CP_look b_CP_look 5 .int 1 23 0 0 [.ref a0, .int i0, .int i1] [(a0, .inr (11, [.ref b0, .ref b1, .ref b2, .ref b3, .ref b4, .ref b5, .ref b6, .ref a1, .ref b7, .ref a2, .int 0, .int 0])), (a1, .inr (6, [.ref b8, .ref b9, .int 0, .int 0, .ref b3, .ref b10])), (a2, .inr (10, [.ref b3, .ref a1, .ref b11, .ref b12, .int 0, .int 1]))] (fun r w1 => r = 0 ∧ w1 = [(a0, .inr (11, [.ref b0, .ref b1, .ref b2, .ref b3, .ref b4, .ref b5, .ref b6, .ref a1, .ref b7, .ref a2, .int 0, .int 0])), (a1, .inr (6, [.ref b8, .ref b9, .int 0, .int 0, .ref b3, .ref b10])), (a2, .inr (10, [.ref b3, .ref a1, .ref b11, .ref b12, .int i0, .int i1]))]) := by
  refine ax_Mi.of (by decide +kernel) (Nat.le_of_ble_eq_true rfl) ?_
  intro p e s m args below meth c C hnm
  refine ax_ls ([(0, .ref a0), (1, .int i0), (2, .int i1)]) [0, 1, 2] rfl ?_
  refine ax_iload_n (pc := 0) C d_CP_look_0 rfl 2 rfl ?_
  refine ax_iconst (pc := 1) C 1 d_CP_look_1 (by decide +kernel) ?_
  refine ax_icmp_lt (pc := 2) C 10 d_CP_look_2 (by decide) (fun h => absurd h h1) (fun _ => ?_)
  refine ax_iload_n (pc := 5) C d_CP_look_5 rfl 2 rfl ?_
  refine ax_iconst (pc := 6) C 3 d_CP_look_6 (by decide +kernel) ?_
  refine ax_icmp_le (pc := 7) C 21 d_CP_look_7 (by decide) (fun _ => ?_) (fun h => absurd h0 h)
  refine ax_aload_n (pc := 21) C d_CP_look_21 rfl 0 rfl ?_
  refine ax_get (pc := 22) C k_CP 9 lk_CP_78 d_CP_look_22 (Nat.le_of_ble_eq_true rfl) 0 rfl rfl ?_
  refine ax_iload_n (pc := 25) C d_CP_look_25 rfl 1 rfl ?_
  refine ax_iload_n (pc := 26) C d_CP_look_26 rfl 2 rfl ?_
  refine ax_callVi (pc := 27) C (As := [.int i0, .int i1]) (rest := []) (wr := [(a0, .inr (11, [.ref b0, .ref b1, .ref b2, .ref b3, .ref b4, .ref b5, .ref b6, .ref a1, .ref b7, .ref a2, .int 0, .int 0]))]) (m136_Mod_suitsText l D kA a1 a2 b8 b9 b3 b10 b11 b12 i0 i1) ml_CP_271 2 rfl rfl rfl d_CP_look_27 rfl rfl [1, 2] [0] rfl (by decide) rfl (by decide) (by decide) (Nat.le_of_ble_eq_true rfl) (Nat.le_of_ble_eq_true rfl) (Nat.le_of_ble_eq_true rfl) (Nat.le_of_ble_eq_true rfl) (Nat.le_of_ble_eq_true rfl) (fun r27 w1 hw1 => ?_)
  obtain ⟨rfl, rfl⟩ := hw1
  refine ax_w ([(a0, .inr (11, [.ref b0, .ref b1, .ref b2, .ref b3, .ref b4, .ref b5, .ref b6, .ref a1, .ref b7, .ref a2, .int 0, .int 0])), (a1, .inr (6, [.ref b8, .ref b9, .int 0, .int 0, .ref b3, .ref b10])), (a2, .inr (10, [.ref b3, .ref a1, .ref b11, .ref b12, .int i0, .int i1]))]) rfl ?_
  refine ax_if_ne (pc := 30) C 35 d_CP_look_30 (by decide) (fun _ => ?_) (fun h => absurd h (by decide))
  refine ax_iconst (pc := 35) C 0 d_CP_look_35 (by decide +kernel) ?_
  refine ax_istore_n (pc := 36) C d_CP_look_36 rfl (Nat.le_of_ble_eq_true rfl) ([(3, .int 0), (0, .ref a0), (1, .int i0), (2, .int i1)]) rfl ?_
  refine ax_aload_n (pc := 37) C d_CP_look_37 rfl 1 rfl ?_
  refine ax_get (pc := 38) C k_CP 7 lk_CP_60 d_CP_look_38 (Nat.le_of_ble_eq_true rfl) 0 rfl rfl ?_
  refine ax_get (pc := 41) C k_Sto 3 lk_CP_135 d_CP_look_41 (Nat.le_of_ble_eq_true rfl) 1 rfl rfl ?_
  refine ax_istore (pc := 44) C d_CP_look_44 (Nat.le_of_ble_eq_true rfl) ([(4, .int 0), (3, .int 0), (0, .ref a0), (1, .int i0), (2, .int i1)]) rfl ?_
  refine ax_iload (pc := 46) C d_CP_look_46 0 rfl ?_
  refine ax_aload_n (pc := 48) C d_CP_look_48 rfl 2 rfl ?_
  refine ax_get (pc := 49) C k_CP 7 lk_CP_60 d_CP_look_49 (Nat.le_of_ble_eq_true rfl) 0 rfl rfl ?_
  refine ax_get (pc := 52) C k_Sto 2 lk_CP_134 d_CP_look_52 (Nat.le_of_ble_eq_true rfl) 1 rfl rfl ?_
  refine ax_icmp_ge (pc := 55) C 79 d_CP_look_55 (by decide) (fun _ => ?_) (fun h => absurd h (by decide))
  refine ax_iload_n (pc := 79) C d_CP_look_79 rfl 1 rfl ?_
  exact ax_iret (pc := 80) C d_CP_look_80 ⟨rfl, rfl⟩ (by decide) (by decide)
set_option maxHeartbeats 4000000 in
set_option maxRecDepth 100000 in
theorem m134_Law_look (l : Launch) (D : va_G) (kA : Nat → ClassId) (a0 : Nat) (a1 : Nat) (a2 : Nat) (a3 : Nat) (b0 : Nat) (b1 : Nat) (b2 : Nat) (b3 : Nat) (b4 : Nat) (b5 : Nat) (b6 : Nat) (b7 : Nat) (b8 : Nat) (b9 : Nat) (b10 : Nat) (b11 : Nat) (b12 : Nat) (i0 : Int32) (i1 : Int32) (h0 : i1 ≤ 3) (h1 : ¬ i1 < 1) : ax_Mw l D kA y_Law_look b_Law_look 5 [(0, 10, 13, 19)] 2 47 0 0 [.ref a0, .int i0, .int i1, .ref a3] [(a0, .inr (11, [.ref b0, .ref b1, .ref b2, .ref b3, .ref b4, .ref b5, .ref b6, .ref a1, .ref b7, .ref a2, .int 0, .int 0])), (a1, .inr (6, [.ref b8, .ref b9, .int 0, .int 0, .ref b3, .ref b10])), (a2, .inr (10, [.ref b3, .ref a1, .ref b11, .ref b12, .int 0, .int 1])), (a3, .inl (kA 3, 1, .inr (.inl (fun _ => 0))))] (fun r w1 => r = 0 ∧ w1 = [(a3, .inl (kA 3, 1, .inr (.inl (vp_updL (fun _ => 0) (Int32.toNatClampNeg 0) (Int32.toInt64 0))))), (a0, .inr (11, [.ref b0, .ref b1, .ref b2, .ref b3, .ref b4, .ref b5, .ref b6, .ref a1, .ref b7, .ref a2, .int 0, .int 0])), (a1, .inr (6, [.ref b8, .ref b9, .int 0, .int 0, .ref b3, .ref b10])), (a2, .inr (10, [.ref b3, .ref a1, .ref b11, .ref b12, .int i0, .int i1]))]) := by
  refine ax_Mw.of (by decide +kernel) (Nat.le_of_ble_eq_true rfl) ?_
  intro p e s m args below meth c C hadm hmeth hcode htb hX
  refine ax_ls ([(0, .ref a0), (1, .int i0), (2, .int i1), (3, .ref a3)]) [0, 1, 2, 3] rfl ?_
  refine ax_aload_n (pc := 0) C d_Law_look_0 rfl 3 rfl ?_
  refine ax_iconst (pc := 1) C 0 d_Law_look_1 (by decide +kernel) ?_
  refine ax_aload_n (pc := 2) C d_Law_look_2 rfl 0 rfl ?_
  refine ax_iload_n (pc := 3) C d_Law_look_3 rfl 1 rfl ?_
  refine ax_iload_n (pc := 4) C d_Law_look_4 rfl 2 rfl ?_
  refine ax_callVi (pc := 5) C (As := [.int i0, .int i1]) (rest := [.int 0, .ref a3]) (wr := [(a3, .inl (kA 3, 1, .inr (.inl (fun _ => 0))))]) (m135_CP_look l D kA a0 a1 a2 b0 b1 b2 b3 b4 b5 b6 b7 b8 b9 b10 b11 b12 i0 i1 h0 h1) ml_Law_51 0 rfl rfl rfl d_Law_look_5 rfl rfl [0, 1, 2] [3] rfl (by decide) rfl (by decide) (by decide) (Nat.le_of_ble_eq_true rfl) (Nat.le_of_ble_eq_true rfl) (Nat.le_of_ble_eq_true rfl) (Nat.le_of_ble_eq_true rfl) (Nat.le_of_ble_eq_true rfl) (fun r5 w1 hw1 => ?_)
  obtain ⟨rfl, rfl⟩ := hw1
  refine ax_w ([(a3, .inl (kA 3, 1, .inr (.inl (fun _ => 0)))), (a0, .inr (11, [.ref b0, .ref b1, .ref b2, .ref b3, .ref b4, .ref b5, .ref b6, .ref a1, .ref b7, .ref a2, .int 0, .int 0])), (a1, .inr (6, [.ref b8, .ref b9, .int 0, .int 0, .ref b3, .ref b10])), (a2, .inr (10, [.ref b3, .ref a1, .ref b11, .ref b12, .int i0, .int i1]))]) rfl ?_
  refine ax_i2l (pc := 8) C (Int32.toInt64 0) d_Law_look_8 rfl ?_
  refine ax_last (pc := 9) C 0 rfl d_Law_look_9 (by unfold vp_in; decide) ?_
  refine ax_w ([(a3, .inl (kA 3, 1, .inr (.inl (vp_updL (fun _ => 0) (Int32.toNatClampNeg 0) (Int32.toInt64 0))))), (a0, .inr (11, [.ref b0, .ref b1, .ref b2, .ref b3, .ref b4, .ref b5, .ref b6, .ref a1, .ref b7, .ref a2, .int 0, .int 0])), (a1, .inr (6, [.ref b8, .ref b9, .int 0, .int 0, .ref b3, .ref b10])), (a2, .inr (10, [.ref b3, .ref a1, .ref b11, .ref b12, .int i0, .int i1]))]) rfl ?_
  refine ax_goto (pc := 10) C 17 d_Law_look_10 (by decide) ?_
  refine ax_iconst (pc := 17) C 0 d_Law_look_17 (by decide +kernel) ?_
  exact ax_iret (pc := 18) C d_Law_look_18 ⟨rfl, rfl⟩ (by decide) (by decide)
abbrev b_MM_textIsTrue : ByteArray := prog_14_method_129_code
def y_MM_textIsTrue : MethodName := ⟨"ClauseProverModel", "textIsTrue", "()Z"⟩
theorem d_MM_textIsTrue_0 : decode b_MM_textIsTrue 0 = .ok (.iconst 0, 1) := by decide +kernel
theorem d_MM_textIsTrue_1 : decode b_MM_textIsTrue 1 = .ok (.istore_n 1, 1) := by decide +kernel
theorem d_MM_textIsTrue_2 : decode b_MM_textIsTrue 2 = .ok (.iload_n 1, 1) := by decide +kernel
theorem d_MM_textIsTrue_3 : decode b_MM_textIsTrue 3 = .ok (.aload_n 0, 1) := by decide +kernel
theorem d_MM_textIsTrue_4 : decode b_MM_textIsTrue 4 = .ok (.getfield 272, 3) := by decide +kernel
theorem d_MM_textIsTrue_7 : decode b_MM_textIsTrue 7 = .ok (.if_icmp .ge 19, 3) := by decide +kernel
theorem d_MM_textIsTrue_10 : decode b_MM_textIsTrue 10 = .ok (.aload_n 0, 1) := by decide +kernel
theorem d_MM_textIsTrue_11 : decode b_MM_textIsTrue 11 = .ok (.iload_n 1, 1) := by decide +kernel
theorem d_MM_textIsTrue_12 : decode b_MM_textIsTrue 12 = .ok (.invokevirtual 788, 3) := by decide +kernel
theorem d_MM_textIsTrue_15 : decode b_MM_textIsTrue 15 = .ok (.ifCond .ne 5, 3) := by decide +kernel
theorem d_MM_textIsTrue_18 : decode b_MM_textIsTrue 18 = .ok (.iconst 0, 1) := by decide +kernel
theorem d_MM_textIsTrue_19 : decode b_MM_textIsTrue 19 = .ok (.ireturn, 1) := by decide +kernel
theorem d_MM_textIsTrue_20 : decode b_MM_textIsTrue 20 = .ok (.iinc 1 1, 3) := by decide +kernel
theorem d_MM_textIsTrue_23 : decode b_MM_textIsTrue 23 = .ok (.goto (-21), 3) := by decide +kernel
theorem d_MM_textIsTrue_26 : decode b_MM_textIsTrue 26 = .ok (.iconst 1, 1) := by decide +kernel
theorem d_MM_textIsTrue_27 : decode b_MM_textIsTrue 27 = .ok (.ireturn, 1) := by decide +kernel
set_option maxHeartbeats 4000000 in
set_option maxRecDepth 100000 in
theorem m138_MM_textIsTrue (l : Launch) (D : va_G) (kA : Nat → ClassId) (a0 : Nat) (b0 : Nat) (b1 : Nat) (b2 : Nat) (b3 : Nat) (b4 : Nat) (b5 : Nat) (b6 : Nat) (b7 : Nat) (b8 : Nat) (b9 : Nat) (b10 : Nat) (b11 : Nat) (b12 : Nat) (b13 : Nat) (b14 : Nat) (b15 : Nat) (b16 : Nat) (b17 : Nat) (b18 : Nat) (b19 : Nat) (b20 : Nat) (b21 : Nat) (b22 : Nat) (b23 : Nat) (b24 : Nat) (b25 : Nat) (b26 : Nat) (b27 : Nat) (b28 : Nat) (b29 : Nat) (b30 : Nat) (b31 : Nat) (b32 : Nat) (b33 : Nat) (b34 : Nat) (b35 : Nat) (b36 : Nat) (b37 : Nat) (b38 : Nat) (b39 : Nat) (b40 : Nat) (b41 : Nat) (b42 : Nat) (b43 : Nat) (b44 : Nat) (b45 : Nat) (b46 : Nat) (b47 : Nat) (b48 : Nat) (b49 : Nat) (b50 : Nat) (b51 : Nat) (b52 : Nat) (b53 : Nat) (b54 : Nat) (b55 : Nat) (b56 : Nat) (b57 : Nat) (b58 : Nat) (b59 : Nat) (b60 : Nat) (b61 : Nat) (b62 : Nat) (b63 : Nat) (b64 : Nat) (b65 : Nat) (b66 : Nat) (b67 : Nat) (b68 : Nat) (b69 : Nat) (b70 : Nat) (b71 : Nat) (b72 : Nat) (b73 : Nat) (b74 : Nat) (b75 : Nat) (i0 : Int32) (i1 : Int32) : ax_Mi l D kA y_MM_textIsTrue b_MM_textIsTrue 2 .boolean 0 0 0 0 [.ref a0] [(a0, .inr (12, [.ref b0, .ref b1, .int 0, .int 0, .int 0, .int 0, .int 0, .int 0, .int 0, .int 0, .int 0, .int 0, .int 0, .ref b2, .ref b3, .ref b4, .ref b5, .ref b6, .int 0, .int 1, .int 0, .ref b7, .ref b8, .ref b9, .ref b10, .int 0, .ref b11, .ref b12, .int 0, .int 0, .ref b13, .ref b14, .ref b15, .ref b16, .ref b17, .ref b18, .ref b19, .int 0, .int 0, .int 0, .int 0, .ref b20, .ref b21, .ref b22, .ref b23, .ref b24, .ref b25, .int 0, .ref b26, .ref b27, .ref b28, .ref b29, .ref b30, .ref b31, .ref b32, .int 0, .int 0, .ref b33, .ref b34, .ref b35, .ref b36, .ref b37, .int 0, .ref b38, .ref b39, .int 0, .ref b40, .ref b41, .ref b42, .ref b43, .ref b44, .ref b45, .int 0, .ref b46, .ref b47, .ref b48, .ref b49, .ref b50, .ref b51, .ref b52, .ref b53, .ref b54, .ref b55, .ref b56, .int 0, .int 0, .int 0, .int 0, .int (-1), .int 0, .int 0, .int 0, .int 0, .int 0, .int 0, .ref b57, .ref b58, .ref b59, .int 0, .ref b60, .ref b61, .int 0, .ref b62, .ref b63, .ref b64, .int 0, .ref b65, .ref b66, .ref b67, .ref b68, .ref b69, .ref b70, .int 0, .int (-1), .int 0, .ref b71, .int (-1), .int (-1), .int (-1), .ref b72, .int 0, .ref b73, .int 0, .ref b74, .int i0, .int i1, .ref b75]))] (fun r w1 => r = 1 ∧ w1 = [(a0, .inr (12, [.ref b0, .ref b1, .int 0, .int 0, .int 0, .int 0, .int 0, .int 0, .int 0, .int 0, .int 0, .int 0, .int 0, .ref b2, .ref b3, .ref b4, .ref b5, .ref b6, .int 0, .int 1, .int 0, .ref b7, .ref b8, .ref b9, .ref b10, .int 0, .ref b11, .ref b12, .int 0, .int 0, .ref b13, .ref b14, .ref b15, .ref b16, .ref b17, .ref b18, .ref b19, .int 0, .int 0, .int 0, .int 0, .ref b20, .ref b21, .ref b22, .ref b23, .ref b24, .ref b25, .int 0, .ref b26, .ref b27, .ref b28, .ref b29, .ref b30, .ref b31, .ref b32, .int 0, .int 0, .ref b33, .ref b34, .ref b35, .ref b36, .ref b37, .int 0, .ref b38, .ref b39, .int 0, .ref b40, .ref b41, .ref b42, .ref b43, .ref b44, .ref b45, .int 0, .ref b46, .ref b47, .ref b48, .ref b49, .ref b50, .ref b51, .ref b52, .ref b53, .ref b54, .ref b55, .ref b56, .int 0, .int 0, .int 0, .int 0, .int (-1), .int 0, .int 0, .int 0, .int 0, .int 0, .int 0, .ref b57, .ref b58, .ref b59, .int 0, .ref b60, .ref b61, .int 0, .ref b62, .ref b63, .ref b64, .int 0, .ref b65, .ref b66, .ref b67, .ref b68, .ref b69, .ref b70, .int 0, .int (-1), .int 0, .ref b71, .int (-1), .int (-1), .int (-1), .ref b72, .int 0, .ref b73, .int 0, .ref b74, .int i0, .int i1, .ref b75]))]) := by
  refine ax_Mi.of (by decide +kernel) (Nat.le_of_ble_eq_true rfl) ?_
  intro p e s m args below meth c C hnm
  refine ax_ls ([(0, .ref a0)]) [0] rfl ?_
  refine ax_iconst (pc := 0) C 0 d_MM_textIsTrue_0 (by decide +kernel) ?_
  refine ax_istore_n (pc := 1) C d_MM_textIsTrue_1 rfl (Nat.le_of_ble_eq_true rfl) ([(1, .int 0), (0, .ref a0)]) rfl ?_
  refine ax_iload_n (pc := 2) C d_MM_textIsTrue_2 rfl 0 rfl ?_
  refine ax_aload_n (pc := 3) C d_MM_textIsTrue_3 rfl 1 rfl ?_
  refine ax_get (pc := 4) C k_MM 85 lk_MM_272 d_MM_textIsTrue_4 (Nat.le_of_ble_eq_true rfl) 0 rfl rfl ?_
  refine ax_icmp_ge (pc := 7) C 26 d_MM_textIsTrue_7 (by decide) (fun _ => ?_) (fun h => absurd h (by decide))
  refine ax_iconst (pc := 26) C 1 d_MM_textIsTrue_26 (by decide +kernel) ?_
  exact ax_zret (pc := 27) C d_MM_textIsTrue_27 rfl ⟨rfl, rfl⟩ (by decide) (by decide)
theorem tc_MM_textIsTrue : Cond.code y_MM_textIsTrue b_MM_textIsTrue 2 (some (.boolean)) ∈ lw_tbg := tb_in (i := 2460) (by decide +kernel) rfl
theorem ml_MM_791 : ax_LV "ClauseProverModel" 791 y_MM_textIsTrue b_MM_textIsTrue 2 (some (.boolean)) 0 := ax_LV.mk (tb_in (i := 2457) (by decide +kernel) rfl) (tb_in (i := 2459) (by decide +kernel) rfl) (pv_in (i := 199) (by decide +kernel) rfl) ti_MM tc_MM_textIsTrue (by decide +kernel)
set_option maxHeartbeats 4000000 in
set_option maxRecDepth 100000 in
theorem m137_MM_look (l : Launch) (D : va_G) (kA : Nat → ClassId) (a0 : Nat) (b0 : Nat) (b1 : Nat) (b2 : Nat) (b3 : Nat) (b4 : Nat) (b5 : Nat) (b6 : Nat) (b7 : Nat) (b8 : Nat) (b9 : Nat) (b10 : Nat) (b11 : Nat) (b12 : Nat) (b13 : Nat) (b14 : Nat) (b15 : Nat) (b16 : Nat) (b17 : Nat) (b18 : Nat) (b19 : Nat) (b20 : Nat) (b21 : Nat) (b22 : Nat) (b23 : Nat) (b24 : Nat) (b25 : Nat) (b26 : Nat) (b27 : Nat) (b28 : Nat) (b29 : Nat) (b30 : Nat) (b31 : Nat) (b32 : Nat) (b33 : Nat) (b34 : Nat) (b35 : Nat) (b36 : Nat) (b37 : Nat) (b38 : Nat) (b39 : Nat) (b40 : Nat) (b41 : Nat) (b42 : Nat) (b43 : Nat) (b44 : Nat) (b45 : Nat) (b46 : Nat) (b47 : Nat) (b48 : Nat) (b49 : Nat) (b50 : Nat) (b51 : Nat) (b52 : Nat) (b53 : Nat) (b54 : Nat) (b55 : Nat) (b56 : Nat) (b57 : Nat) (b58 : Nat) (b59 : Nat) (b60 : Nat) (b61 : Nat) (b62 : Nat) (b63 : Nat) (b64 : Nat) (b65 : Nat) (b66 : Nat) (b67 : Nat) (b68 : Nat) (b69 : Nat) (b70 : Nat) (b71 : Nat) (b72 : Nat) (b73 : Nat) (b74 : Nat) (b75 : Nat) (i0 : Int32) (i1 : Int32) (h0 : i1 ≤ 3) (h1 : ¬ i1 < 1) : ax_Mi l D kA y_MM_look b_MM_look 5 .int 1 22 0 0 [.ref a0, .int i0, .int i1] [(a0, .inr (12, [.ref b0, .ref b1, .int 0, .int 0, .int 0, .int 0, .int 0, .int 0, .int 0, .int 0, .int 0, .int 0, .int 0, .ref b2, .ref b3, .ref b4, .ref b5, .ref b6, .int 0, .int 1, .int 0, .ref b7, .ref b8, .ref b9, .ref b10, .int 0, .ref b11, .ref b12, .int 0, .int 0, .ref b13, .ref b14, .ref b15, .ref b16, .ref b17, .ref b18, .ref b19, .int 0, .int 0, .int 0, .int 0, .ref b20, .ref b21, .ref b22, .ref b23, .ref b24, .ref b25, .int 0, .ref b26, .ref b27, .ref b28, .ref b29, .ref b30, .ref b31, .ref b32, .int 0, .int 0, .ref b33, .ref b34, .ref b35, .ref b36, .ref b37, .int 0, .ref b38, .ref b39, .int 0, .ref b40, .ref b41, .ref b42, .ref b43, .ref b44, .ref b45, .int 0, .ref b46, .ref b47, .ref b48, .ref b49, .ref b50, .ref b51, .ref b52, .ref b53, .ref b54, .ref b55, .ref b56, .int 0, .int 0, .int 0, .int 0, .int (-1), .int 0, .int 0, .int 0, .int 0, .int 0, .int 0, .ref b57, .ref b58, .ref b59, .int 0, .ref b60, .ref b61, .int 0, .ref b62, .ref b63, .ref b64, .int 0, .ref b65, .ref b66, .ref b67, .ref b68, .ref b69, .ref b70, .int 0, .int (-1), .int 0, .ref b71, .int (-1), .int (-1), .int (-1), .ref b72, .int 0, .ref b73, .int 0, .ref b74, .int 0, .int 0, .ref b75]))] (fun r w1 => r = 0 ∧ w1 = [(a0, .inr (12, [.ref b0, .ref b1, .int 0, .int 0, .int 0, .int 0, .int 0, .int 0, .int 0, .int 0, .int 0, .int 0, .int 0, .ref b2, .ref b3, .ref b4, .ref b5, .ref b6, .int 0, .int 1, .int 0, .ref b7, .ref b8, .ref b9, .ref b10, .int 0, .ref b11, .ref b12, .int 0, .int 0, .ref b13, .ref b14, .ref b15, .ref b16, .ref b17, .ref b18, .ref b19, .int 0, .int 0, .int 0, .int 0, .ref b20, .ref b21, .ref b22, .ref b23, .ref b24, .ref b25, .int 0, .ref b26, .ref b27, .ref b28, .ref b29, .ref b30, .ref b31, .ref b32, .int 0, .int 0, .ref b33, .ref b34, .ref b35, .ref b36, .ref b37, .int 0, .ref b38, .ref b39, .int 0, .ref b40, .ref b41, .ref b42, .ref b43, .ref b44, .ref b45, .int 0, .ref b46, .ref b47, .ref b48, .ref b49, .ref b50, .ref b51, .ref b52, .ref b53, .ref b54, .ref b55, .ref b56, .int 0, .int 0, .int 0, .int 0, .int (-1), .int 0, .int 0, .int 0, .int 0, .int 0, .int 0, .ref b57, .ref b58, .ref b59, .int 0, .ref b60, .ref b61, .int 0, .ref b62, .ref b63, .ref b64, .int 0, .ref b65, .ref b66, .ref b67, .ref b68, .ref b69, .ref b70, .int 0, .int (-1), .int 0, .ref b71, .int (-1), .int (-1), .int (-1), .ref b72, .int 0, .ref b73, .int 0, .ref b74, .int i0, .int i1, .ref b75]))]) := by
  refine ax_Mi.of (by decide +kernel) (Nat.le_of_ble_eq_true rfl) ?_
  intro p e s m args below meth c C hnm
  refine ax_ls ([(0, .ref a0), (1, .int i0), (2, .int i1)]) [0, 1, 2] rfl ?_
  refine ax_aload_n (pc := 0) C d_MM_look_0 rfl 0 rfl ?_
  refine ax_iconst (pc := 1) C 0 d_MM_look_1 (by decide +kernel) ?_
  refine ax_put (pc := 2) C k_MM 4 lk_MM_24 d_MM_look_2 (Nat.le_of_ble_eq_true rfl) 0 rfl rfl rfl rfl (Nat.le_of_ble_eq_true rfl) ?_
  refine ax_w ([(a0, .inr (12, [.ref b0, .ref b1, .int 0, .int 0, .int 0, .int 0, .int 0, .int 0, .int 0, .int 0, .int 0, .int 0, .int 0, .ref b2, .ref b3, .ref b4, .ref b5, .ref b6, .int 0, .int 1, .int 0, .ref b7, .ref b8, .ref b9, .ref b10, .int 0, .ref b11, .ref b12, .int 0, .int 0, .ref b13, .ref b14, .ref b15, .ref b16, .ref b17, .ref b18, .ref b19, .int 0, .int 0, .int 0, .int 0, .ref b20, .ref b21, .ref b22, .ref b23, .ref b24, .ref b25, .int 0, .ref b26, .ref b27, .ref b28, .ref b29, .ref b30, .ref b31, .ref b32, .int 0, .int 0, .ref b33, .ref b34, .ref b35, .ref b36, .ref b37, .int 0, .ref b38, .ref b39, .int 0, .ref b40, .ref b41, .ref b42, .ref b43, .ref b44, .ref b45, .int 0, .ref b46, .ref b47, .ref b48, .ref b49, .ref b50, .ref b51, .ref b52, .ref b53, .ref b54, .ref b55, .ref b56, .int 0, .int 0, .int 0, .int 0, .int (-1), .int 0, .int 0, .int 0, .int 0, .int 0, .int 0, .ref b57, .ref b58, .ref b59, .int 0, .ref b60, .ref b61, .int 0, .ref b62, .ref b63, .ref b64, .int 0, .ref b65, .ref b66, .ref b67, .ref b68, .ref b69, .ref b70, .int 0, .int (-1), .int 0, .ref b71, .int (-1), .int (-1), .int (-1), .ref b72, .int 0, .ref b73, .int 0, .ref b74, .int 0, .int 0, .ref b75]))]) rfl ?_
  refine ax_aload_n (pc := 5) C d_MM_look_5 rfl 0 rfl ?_
  refine ax_iconst (pc := 6) C 1 d_MM_look_6 (by decide +kernel) ?_
  refine ax_iload_n (pc := 7) C d_MM_look_7 rfl 2 rfl ?_
  refine ax_iconst (pc := 8) C 1 d_MM_look_8 (by decide +kernel) ?_
  refine ax_icmp_lt (pc := 9) C 17 d_MM_look_9 (by decide) (fun h => absurd h h1) (fun _ => ?_)
  refine ax_iload_n (pc := 12) C d_MM_look_12 rfl 2 rfl ?_
  refine ax_iconst (pc := 13) C 3 d_MM_look_13 (by decide +kernel) ?_
  refine ax_icmp_le (pc := 14) C 21 d_MM_look_14 (by decide) (fun _ => ?_) (fun h => absurd h0 h)
  refine ax_iconst (pc := 21) C 0 d_MM_look_21 (by decide +kernel) ?_
  refine ax_callVi (pc := 22) C (As := [.int 1, .int 0]) (rest := []) (wr := [(a0, .inr (12, [.ref b0, .ref b1, .int 0, .int 0, .int 0, .int 0, .int 0, .int 0, .int 0, .int 0, .int 0, .int 0, .int 0, .ref b2, .ref b3, .ref b4, .ref b5, .ref b6, .int 0, .int 1, .int 0, .ref b7, .ref b8, .ref b9, .ref b10, .int 0, .ref b11, .ref b12, .int 0, .int 0, .ref b13, .ref b14, .ref b15, .ref b16, .ref b17, .ref b18, .ref b19, .int 0, .int 0, .int 0, .int 0, .ref b20, .ref b21, .ref b22, .ref b23, .ref b24, .ref b25, .int 0, .ref b26, .ref b27, .ref b28, .ref b29, .ref b30, .ref b31, .ref b32, .int 0, .int 0, .ref b33, .ref b34, .ref b35, .ref b36, .ref b37, .int 0, .ref b38, .ref b39, .int 0, .ref b40, .ref b41, .ref b42, .ref b43, .ref b44, .ref b45, .int 0, .ref b46, .ref b47, .ref b48, .ref b49, .ref b50, .ref b51, .ref b52, .ref b53, .ref b54, .ref b55, .ref b56, .int 0, .int 0, .int 0, .int 0, .int (-1), .int 0, .int 0, .int 0, .int 0, .int 0, .int 0, .ref b57, .ref b58, .ref b59, .int 0, .ref b60, .ref b61, .int 0, .ref b62, .ref b63, .ref b64, .int 0, .ref b65, .ref b66, .ref b67, .ref b68, .ref b69, .ref b70, .int 0, .int (-1), .int 0, .ref b71, .int (-1), .int (-1), .int (-1), .ref b72, .int 0, .ref b73, .int 0, .ref b74, .int 0, .int 0, .ref b75]))]) (m29_MM_refuse l D kA a0) ml_MM_401 0 rfl rfl rfl d_MM_look_22 rfl rfl [] [0] rfl (by decide) rfl (by decide) (by decide) (Nat.le_of_ble_eq_true rfl) (Nat.le_of_ble_eq_true rfl) (Nat.le_of_ble_eq_true rfl) (Nat.le_of_ble_eq_true rfl) (Nat.le_of_ble_eq_true rfl) (fun r22 w1 hw1 => ?_)
  obtain ⟨rfl, rfl⟩ := hw1
  refine ax_w ([(a0, .inr (12, [.ref b0, .ref b1, .int 0, .int 0, .int 0, .int 0, .int 0, .int 0, .int 0, .int 0, .int 0, .int 0, .int 0, .ref b2, .ref b3, .ref b4, .ref b5, .ref b6, .int 0, .int 1, .int 0, .ref b7, .ref b8, .ref b9, .ref b10, .int 0, .ref b11, .ref b12, .int 0, .int 0, .ref b13, .ref b14, .ref b15, .ref b16, .ref b17, .ref b18, .ref b19, .int 0, .int 0, .int 0, .int 0, .ref b20, .ref b21, .ref b22, .ref b23, .ref b24, .ref b25, .int 0, .ref b26, .ref b27, .ref b28, .ref b29, .ref b30, .ref b31, .ref b32, .int 0, .int 0, .ref b33, .ref b34, .ref b35, .ref b36, .ref b37, .int 0, .ref b38, .ref b39, .int 0, .ref b40, .ref b41, .ref b42, .ref b43, .ref b44, .ref b45, .int 0, .ref b46, .ref b47, .ref b48, .ref b49, .ref b50, .ref b51, .ref b52, .ref b53, .ref b54, .ref b55, .ref b56, .int 0, .int 0, .int 0, .int 0, .int (-1), .int 0, .int 0, .int 0, .int 0, .int 0, .int 0, .ref b57, .ref b58, .ref b59, .int 0, .ref b60, .ref b61, .int 0, .ref b62, .ref b63, .ref b64, .int 0, .ref b65, .ref b66, .ref b67, .ref b68, .ref b69, .ref b70, .int 0, .int (-1), .int 0, .ref b71, .int (-1), .int (-1), .int (-1), .ref b72, .int 0, .ref b73, .int 0, .ref b74, .int 0, .int 0, .ref b75]))]) rfl ?_
  refine ax_if_eq (pc := 25) C 30 d_MM_look_25 (by decide) (fun _ => ?_) (fun h => absurd h (by decide))
  refine ax_aload_n (pc := 30) C d_MM_look_30 rfl 0 rfl ?_
  refine ax_iload_n (pc := 31) C d_MM_look_31 rfl 1 rfl ?_
  refine ax_put (pc := 32) C k_MM 124 lk_MM_391 d_MM_look_32 (Nat.le_of_ble_eq_true rfl) 0 rfl rfl rfl rfl (Nat.le_of_ble_eq_true rfl) ?_
  refine ax_w ([(a0, .inr (12, [.ref b0, .ref b1, .int 0, .int 0, .int 0, .int 0, .int 0, .int 0, .int 0, .int 0, .int 0, .int 0, .int 0, .ref b2, .ref b3, .ref b4, .ref b5, .ref b6, .int 0, .int 1, .int 0, .ref b7, .ref b8, .ref b9, .ref b10, .int 0, .ref b11, .ref b12, .int 0, .int 0, .ref b13, .ref b14, .ref b15, .ref b16, .ref b17, .ref b18, .ref b19, .int 0, .int 0, .int 0, .int 0, .ref b20, .ref b21, .ref b22, .ref b23, .ref b24, .ref b25, .int 0, .ref b26, .ref b27, .ref b28, .ref b29, .ref b30, .ref b31, .ref b32, .int 0, .int 0, .ref b33, .ref b34, .ref b35, .ref b36, .ref b37, .int 0, .ref b38, .ref b39, .int 0, .ref b40, .ref b41, .ref b42, .ref b43, .ref b44, .ref b45, .int 0, .ref b46, .ref b47, .ref b48, .ref b49, .ref b50, .ref b51, .ref b52, .ref b53, .ref b54, .ref b55, .ref b56, .int 0, .int 0, .int 0, .int 0, .int (-1), .int 0, .int 0, .int 0, .int 0, .int 0, .int 0, .ref b57, .ref b58, .ref b59, .int 0, .ref b60, .ref b61, .int 0, .ref b62, .ref b63, .ref b64, .int 0, .ref b65, .ref b66, .ref b67, .ref b68, .ref b69, .ref b70, .int 0, .int (-1), .int 0, .ref b71, .int (-1), .int (-1), .int (-1), .ref b72, .int 0, .ref b73, .int 0, .ref b74, .int i0, .int 0, .ref b75]))]) rfl ?_
  refine ax_aload_n (pc := 35) C d_MM_look_35 rfl 0 rfl ?_
  refine ax_iload_n (pc := 36) C d_MM_look_36 rfl 2 rfl ?_
  refine ax_put (pc := 37) C k_MM 125 lk_MM_394 d_MM_look_37 (Nat.le_of_ble_eq_true rfl) 0 rfl rfl rfl rfl (Nat.le_of_ble_eq_true rfl) ?_
  refine ax_w ([(a0, .inr (12, [.ref b0, .ref b1, .int 0, .int 0, .int 0, .int 0, .int 0, .int 0, .int 0, .int 0, .int 0, .int 0, .int 0, .ref b2, .ref b3, .ref b4, .ref b5, .ref b6, .int 0, .int 1, .int 0, .ref b7, .ref b8, .ref b9, .ref b10, .int 0, .ref b11, .ref b12, .int 0, .int 0, .ref b13, .ref b14, .ref b15, .ref b16, .ref b17, .ref b18, .ref b19, .int 0, .int 0, .int 0, .int 0, .ref b20, .ref b21, .ref b22, .ref b23, .ref b24, .ref b25, .int 0, .ref b26, .ref b27, .ref b28, .ref b29, .ref b30, .ref b31, .ref b32, .int 0, .int 0, .ref b33, .ref b34, .ref b35, .ref b36, .ref b37, .int 0, .ref b38, .ref b39, .int 0, .ref b40, .ref b41, .ref b42, .ref b43, .ref b44, .ref b45, .int 0, .ref b46, .ref b47, .ref b48, .ref b49, .ref b50, .ref b51, .ref b52, .ref b53, .ref b54, .ref b55, .ref b56, .int 0, .int 0, .int 0, .int 0, .int (-1), .int 0, .int 0, .int 0, .int 0, .int 0, .int 0, .ref b57, .ref b58, .ref b59, .int 0, .ref b60, .ref b61, .int 0, .ref b62, .ref b63, .ref b64, .int 0, .ref b65, .ref b66, .ref b67, .ref b68, .ref b69, .ref b70, .int 0, .int (-1), .int 0, .ref b71, .int (-1), .int (-1), .int (-1), .ref b72, .int 0, .ref b73, .int 0, .ref b74, .int i0, .int i1, .ref b75]))]) rfl ?_
  refine ax_aload_n (pc := 40) C d_MM_look_40 rfl 0 rfl ?_
  refine ax_callVi (pc := 41) C (As := []) (rest := []) (wr := []) (m138_MM_textIsTrue l D kA a0 b0 b1 b2 b3 b4 b5 b6 b7 b8 b9 b10 b11 b12 b13 b14 b15 b16 b17 b18 b19 b20 b21 b22 b23 b24 b25 b26 b27 b28 b29 b30 b31 b32 b33 b34 b35 b36 b37 b38 b39 b40 b41 b42 b43 b44 b45 b46 b47 b48 b49 b50 b51 b52 b53 b54 b55 b56 b57 b58 b59 b60 b61 b62 b63 b64 b65 b66 b67 b68 b69 b70 b71 b72 b73 b74 b75 i0 i1) ml_MM_791 0 rfl rfl rfl d_MM_look_41 rfl rfl [0] [] rfl (by decide) rfl (by decide) (by decide) (Nat.le_of_ble_eq_true rfl) (Nat.le_of_ble_eq_true rfl) (Nat.le_of_ble_eq_true rfl) (Nat.le_of_ble_eq_true rfl) (Nat.le_of_ble_eq_true rfl) (fun r41 w1 hw1 => ?_)
  obtain ⟨rfl, rfl⟩ := hw1
  refine ax_w ([(a0, .inr (12, [.ref b0, .ref b1, .int 0, .int 0, .int 0, .int 0, .int 0, .int 0, .int 0, .int 0, .int 0, .int 0, .int 0, .ref b2, .ref b3, .ref b4, .ref b5, .ref b6, .int 0, .int 1, .int 0, .ref b7, .ref b8, .ref b9, .ref b10, .int 0, .ref b11, .ref b12, .int 0, .int 0, .ref b13, .ref b14, .ref b15, .ref b16, .ref b17, .ref b18, .ref b19, .int 0, .int 0, .int 0, .int 0, .ref b20, .ref b21, .ref b22, .ref b23, .ref b24, .ref b25, .int 0, .ref b26, .ref b27, .ref b28, .ref b29, .ref b30, .ref b31, .ref b32, .int 0, .int 0, .ref b33, .ref b34, .ref b35, .ref b36, .ref b37, .int 0, .ref b38, .ref b39, .int 0, .ref b40, .ref b41, .ref b42, .ref b43, .ref b44, .ref b45, .int 0, .ref b46, .ref b47, .ref b48, .ref b49, .ref b50, .ref b51, .ref b52, .ref b53, .ref b54, .ref b55, .ref b56, .int 0, .int 0, .int 0, .int 0, .int (-1), .int 0, .int 0, .int 0, .int 0, .int 0, .int 0, .ref b57, .ref b58, .ref b59, .int 0, .ref b60, .ref b61, .int 0, .ref b62, .ref b63, .ref b64, .int 0, .ref b65, .ref b66, .ref b67, .ref b68, .ref b69, .ref b70, .int 0, .int (-1), .int 0, .ref b71, .int (-1), .int (-1), .int (-1), .ref b72, .int 0, .ref b73, .int 0, .ref b74, .int i0, .int i1, .ref b75]))]) rfl ?_
  refine ax_if_ne (pc := 44) C 49 d_MM_look_44 (by decide) (fun _ => ?_) (fun h => absurd h (by decide))
  refine ax_iconst (pc := 49) C 0 d_MM_look_49 (by decide +kernel) ?_
  refine ax_istore_n (pc := 50) C d_MM_look_50 rfl (Nat.le_of_ble_eq_true rfl) ([(3, .int 0), (0, .ref a0), (1, .int i0), (2, .int i1)]) rfl ?_
  refine ax_iconst (pc := 51) C 0 d_MM_look_51 (by decide +kernel) ?_
  refine ax_istore (pc := 52) C d_MM_look_52 (Nat.le_of_ble_eq_true rfl) ([(4, .int 0), (3, .int 0), (0, .ref a0), (1, .int i0), (2, .int i1)]) rfl ?_
  refine ax_iload (pc := 54) C d_MM_look_54 0 rfl ?_
  refine ax_aload_n (pc := 56) C d_MM_look_56 rfl 2 rfl ?_
  refine ax_get (pc := 57) C k_MM 84 lk_MM_269 d_MM_look_57 (Nat.le_of_ble_eq_true rfl) 0 rfl rfl ?_
  refine ax_icmp_ge (pc := 60) C 81 d_MM_look_60 (by decide) (fun _ => ?_) (fun h => absurd h (by decide))
  refine ax_iload_n (pc := 81) C d_MM_look_81 rfl 1 rfl ?_
  exact ax_iret (pc := 82) C d_MM_look_82 ⟨rfl, rfl⟩ (by decide) (by decide)
set_option maxHeartbeats 4000000 in
set_option maxRecDepth 100000 in
theorem m139_MM_thrown (l : Launch) (D : va_G) (kA : Nat → ClassId) (a0 : Nat) (b0 : Nat) (b1 : Nat) (b2 : Nat) (b3 : Nat) (b4 : Nat) (b5 : Nat) (b6 : Nat) (b7 : Nat) (b8 : Nat) (b9 : Nat) (b10 : Nat) (b11 : Nat) (b12 : Nat) (b13 : Nat) (b14 : Nat) (b15 : Nat) (b16 : Nat) (b17 : Nat) (b18 : Nat) (b19 : Nat) (b20 : Nat) (b21 : Nat) (b22 : Nat) (b23 : Nat) (b24 : Nat) (b25 : Nat) (b26 : Nat) (b27 : Nat) (b28 : Nat) (b29 : Nat) (b30 : Nat) (b31 : Nat) (b32 : Nat) (b33 : Nat) (b34 : Nat) (b35 : Nat) (b36 : Nat) (b37 : Nat) (b38 : Nat) (b39 : Nat) (b40 : Nat) (b41 : Nat) (b42 : Nat) (b43 : Nat) (b44 : Nat) (b45 : Nat) (b46 : Nat) (b47 : Nat) (b48 : Nat) (b49 : Nat) (b50 : Nat) (b51 : Nat) (b52 : Nat) (b53 : Nat) (b54 : Nat) (b55 : Nat) (b56 : Nat) (b57 : Nat) (b58 : Nat) (b59 : Nat) (b60 : Nat) (b61 : Nat) (b62 : Nat) (b63 : Nat) (b64 : Nat) (b65 : Nat) (b66 : Nat) (b67 : Nat) (b68 : Nat) (b69 : Nat) (b70 : Nat) (b71 : Nat) (b72 : Nat) (b73 : Nat) (b74 : Nat) (b75 : Nat) (i0 : Int32) (i1 : Int32) : ax_Mi l D kA y_MM_thrown b_MM_thrown 1 .int 0 0 0 0 [.ref a0] [(a0, .inr (12, [.ref b0, .ref b1, .int 0, .int 0, .int 0, .int 0, .int 0, .int 0, .int 0, .int 0, .int 0, .int 0, .int 0, .ref b2, .ref b3, .ref b4, .ref b5, .ref b6, .int 0, .int 1, .int 0, .ref b7, .ref b8, .ref b9, .ref b10, .int 0, .ref b11, .ref b12, .int 0, .int 0, .ref b13, .ref b14, .ref b15, .ref b16, .ref b17, .ref b18, .ref b19, .int 0, .int 0, .int 0, .int 0, .ref b20, .ref b21, .ref b22, .ref b23, .ref b24, .ref b25, .int 0, .ref b26, .ref b27, .ref b28, .ref b29, .ref b30, .ref b31, .ref b32, .int 0, .int 0, .ref b33, .ref b34, .ref b35, .ref b36, .ref b37, .int 0, .ref b38, .ref b39, .int 0, .ref b40, .ref b41, .ref b42, .ref b43, .ref b44, .ref b45, .int 0, .ref b46, .ref b47, .ref b48, .ref b49, .ref b50, .ref b51, .ref b52, .ref b53, .ref b54, .ref b55, .ref b56, .int 0, .int 0, .int 0, .int 0, .int (-1), .int 0, .int 0, .int 0, .int 0, .int 0, .int 0, .ref b57, .ref b58, .ref b59, .int 0, .ref b60, .ref b61, .int 0, .ref b62, .ref b63, .ref b64, .int 0, .ref b65, .ref b66, .ref b67, .ref b68, .ref b69, .ref b70, .int 0, .int (-1), .int 0, .ref b71, .int (-1), .int (-1), .int (-1), .ref b72, .int 0, .ref b73, .int 0, .ref b74, .int i0, .int i1, .ref b75]))] (fun r w1 => r = 0 ∧ w1 = [(a0, .inr (12, [.ref b0, .ref b1, .int 0, .int 0, .int 0, .int 0, .int 0, .int 0, .int 0, .int 0, .int 0, .int 0, .int 0, .ref b2, .ref b3, .ref b4, .ref b5, .ref b6, .int 0, .int 1, .int 0, .ref b7, .ref b8, .ref b9, .ref b10, .int 0, .ref b11, .ref b12, .int 0, .int 0, .ref b13, .ref b14, .ref b15, .ref b16, .ref b17, .ref b18, .ref b19, .int 0, .int 0, .int 0, .int 0, .ref b20, .ref b21, .ref b22, .ref b23, .ref b24, .ref b25, .int 0, .ref b26, .ref b27, .ref b28, .ref b29, .ref b30, .ref b31, .ref b32, .int 0, .int 0, .ref b33, .ref b34, .ref b35, .ref b36, .ref b37, .int 0, .ref b38, .ref b39, .int 0, .ref b40, .ref b41, .ref b42, .ref b43, .ref b44, .ref b45, .int 0, .ref b46, .ref b47, .ref b48, .ref b49, .ref b50, .ref b51, .ref b52, .ref b53, .ref b54, .ref b55, .ref b56, .int 0, .int 0, .int 0, .int 0, .int (-1), .int 0, .int 0, .int 0, .int 0, .int 0, .int 0, .ref b57, .ref b58, .ref b59, .int 0, .ref b60, .ref b61, .int 0, .ref b62, .ref b63, .ref b64, .int 0, .ref b65, .ref b66, .ref b67, .ref b68, .ref b69, .ref b70, .int 0, .int (-1), .int 0, .ref b71, .int (-1), .int (-1), .int (-1), .ref b72, .int 0, .ref b73, .int 0, .ref b74, .int i0, .int i1, .ref b75]))]) := by
  refine ax_Mi.of (by decide +kernel) (Nat.le_of_ble_eq_true rfl) ?_
  intro p e s m args below meth c C hnm
  refine ax_ls ([(0, .ref a0)]) [0] rfl ?_
  refine ax_aload_n (pc := 0) C d_MM_thrown_0 rfl 0 rfl ?_
  refine ax_get (pc := 1) C k_MM 4 lk_MM_24 d_MM_thrown_1 (Nat.le_of_ble_eq_true rfl) 0 rfl rfl ?_
  exact ax_iret (pc := 4) C d_MM_thrown_4 ⟨rfl, rfl⟩ (by decide) (by decide)
abbrev b_Law_search : ByteArray := method_14_code
def y_Law_search : MethodName := ⟨"ClauseProverLaw", "search", "(LClauseProver;III[J)I"⟩
theorem d_Law_search_0 : decode b_Law_search 0 = .ok (.aload 4, 2) := by decide +kernel
theorem d_Law_search_2 : decode b_Law_search 2 = .ok (.iconst 0, 1) := by decide +kernel
theorem d_Law_search_3 : decode b_Law_search 3 = .ok (.aload_n 0, 1) := by decide +kernel
theorem d_Law_search_4 : decode b_Law_search 4 = .ok (.iload_n 1, 1) := by decide +kernel
theorem d_Law_search_5 : decode b_Law_search 5 = .ok (.iload_n 2, 1) := by decide +kernel
theorem d_Law_search_6 : decode b_Law_search 6 = .ok (.iload_n 3, 1) := by decide +kernel
theorem d_Law_search_7 : decode b_Law_search 7 = .ok (.invokevirtual 54, 3) := by decide +kernel
theorem d_Law_search_10 : decode b_Law_search 10 = .ok (.i2l, 1) := by decide +kernel
theorem d_Law_search_11 : decode b_Law_search 11 = .ok (.lastore, 1) := by decide +kernel
theorem d_Law_search_12 : decode b_Law_search 12 = .ok (.goto 7, 3) := by decide +kernel
theorem d_Law_search_15 : decode b_Law_search 15 = .ok (.astore 5, 2) := by decide +kernel
theorem d_Law_search_17 : decode b_Law_search 17 = .ok (.iconst 1, 1) := by decide +kernel
theorem d_Law_search_18 : decode b_Law_search 18 = .ok (.ireturn, 1) := by decide +kernel
theorem d_Law_search_19 : decode b_Law_search 19 = .ok (.iconst 0, 1) := by decide +kernel
theorem d_Law_search_20 : decode b_Law_search 20 = .ok (.ireturn, 1) := by decide +kernel
abbrev b_CP_search : ByteArray := prog_1_method_22_code
def y_CP_search : MethodName := ⟨"ClauseProver", "search", "(III)I"⟩
theorem d_CP_search_0 : decode b_CP_search 0 = .ok (.iload_n 2, 1) := by decide +kernel
theorem d_CP_search_1 : decode b_CP_search 1 = .ok (.iconst 1, 1) := by decide +kernel
theorem d_CP_search_2 : decode b_CP_search 2 = .ok (.if_icmp .lt 19, 3) := by decide +kernel
theorem d_CP_search_5 : decode b_CP_search 5 = .ok (.iload_n 2, 1) := by decide +kernel
theorem d_CP_search_6 : decode b_CP_search 6 = .ok (.iconst 3, 1) := by decide +kernel
theorem d_CP_search_7 : decode b_CP_search 7 = .ok (.if_icmp .gt 14, 3) := by decide +kernel
theorem d_CP_search_10 : decode b_CP_search 10 = .ok (.iload_n 3, 1) := by decide +kernel
theorem d_CP_search_11 : decode b_CP_search 11 = .ok (.iconst 1, 1) := by decide +kernel
theorem d_CP_search_12 : decode b_CP_search 12 = .ok (.if_icmp .lt 9, 3) := by decide +kernel
theorem d_CP_search_15 : decode b_CP_search 15 = .ok (.iload_n 3, 1) := by decide +kernel
theorem d_CP_search_16 : decode b_CP_search 16 = .ok (.bipush 50, 2) := by decide +kernel
theorem d_CP_search_18 : decode b_CP_search 18 = .ok (.if_icmp .le 14, 3) := by decide +kernel
theorem d_CP_search_21 : decode b_CP_search 21 = .ok (.new 100, 3) := by decide +kernel
theorem d_CP_search_24 : decode b_CP_search 24 = .ok (.dup, 1) := by decide +kernel
theorem d_CP_search_25 : decode b_CP_search 25 = .ok (.ldc_w 278, 3) := by decide +kernel
theorem d_CP_search_28 : decode b_CP_search 28 = .ok (.invokespecial 104, 3) := by decide +kernel
theorem d_CP_search_31 : decode b_CP_search 31 = .ok (.athrow, 1) := by decide +kernel
theorem d_CP_search_32 : decode b_CP_search 32 = .ok (.iconst 0, 1) := by decide +kernel
theorem d_CP_search_33 : decode b_CP_search 33 = .ok (.istore 4, 2) := by decide +kernel
theorem d_CP_search_35 : decode b_CP_search 35 = .ok (.iload 4, 2) := by decide +kernel
theorem d_CP_search_37 : decode b_CP_search 37 = .ok (.iload_n 3, 1) := by decide +kernel
theorem d_CP_search_38 : decode b_CP_search 38 = .ok (.if_icmp .ge 27, 3) := by decide +kernel
theorem d_CP_search_41 : decode b_CP_search 41 = .ok (.aload_n 0, 1) := by decide +kernel
theorem d_CP_search_42 : decode b_CP_search 42 = .ok (.getfield 78, 3) := by decide +kernel
theorem d_CP_search_45 : decode b_CP_search 45 = .ok (.iload_n 1, 1) := by decide +kernel
theorem d_CP_search_46 : decode b_CP_search 46 = .ok (.iload 4, 2) := by decide +kernel
theorem d_CP_search_48 : decode b_CP_search 48 = .ok (.iadd, 1) := by decide +kernel
theorem d_CP_search_49 : decode b_CP_search 49 = .ok (.iload_n 2, 1) := by decide +kernel
theorem d_CP_search_50 : decode b_CP_search 50 = .ok (.invokevirtual 271, 3) := by decide +kernel
theorem d_CP_search_53 : decode b_CP_search 53 = .ok (.ifCond .eq 6, 3) := by decide +kernel
theorem d_CP_search_56 : decode b_CP_search 56 = .ok (.iload 4, 2) := by decide +kernel
theorem d_CP_search_58 : decode b_CP_search 58 = .ok (.ireturn, 1) := by decide +kernel
theorem d_CP_search_59 : decode b_CP_search 59 = .ok (.iinc 4 1, 3) := by decide +kernel
theorem d_CP_search_62 : decode b_CP_search 62 = .ok (.goto (-27), 3) := by decide +kernel
theorem d_CP_search_65 : decode b_CP_search 65 = .ok (.iconst (-1), 1) := by decide +kernel
theorem d_CP_search_66 : decode b_CP_search 66 = .ok (.ireturn, 1) := by decide +kernel
set_option maxHeartbeats 4000000 in
set_option maxRecDepth 100000 in
theorem m141_CP_search (l : Launch) (htr : l.stackTraces = false) (D : va_G) (kA : Nat → ClassId) (b0 : Nat) (i0 : Int32) (i1 : Int32) (i2 : Int32) (h0 : i1 < 1) : ax_Mx l D kA y_CP_search b_CP_search 5 (some .int) 6 90 1 6 [.ref b0, .int i0, .int i1, .int i2] [] "java/lang/IllegalArgumentException" (fun w1 => w1 = []) := by
  refine ax_Mx.of (by decide +kernel) (Nat.le_of_ble_eq_true rfl) ?_
  intro p e s m args below meth c C hadm hex hX hP0
  refine ax_ls ([(0, .ref b0), (1, .int i0), (2, .int i1), (3, .int i2)]) [0, 1, 2, 3] rfl ?_
  refine ax_iload_n (pc := 0) C d_CP_search_0 rfl 2 rfl ?_
  refine ax_iconst (pc := 1) C 1 d_CP_search_1 (by decide +kernel) ?_
  refine ax_icmp_lt (pc := 2) C 21 d_CP_search_2 (by decide) (fun _ => ?_) (fun h => absurd h0 h)
  exact ax_throw3 (pc := 21) C hadm htr hex hX hP0 (is := 278) (tx := "not 1 .. 3 elements or not 1 .. 50 seeds") ta_IAE (by decide +kernel) (by decide) tb_classLink_984 tb_instantiable_985 tb_initialized_21 (by decide +kernel) (by decide +kernel) (by decide +kernel) (by decide +kernel) d_CP_search_21 d_CP_search_24 d_CP_search_25 d_CP_search_28 d_CP_search_31 (Nat.le_of_ble_eq_true rfl) (Nat.le_of_ble_eq_true rfl) (Nat.le_of_ble_eq_true rfl) (Nat.le_of_ble_eq_true rfl) rfl rfl rfl
theorem tc_CP_search : Cond.code y_CP_search b_CP_search 5 (some (.int)) ∈ lw_tbg := tb_in (i := 1508) (by decide +kernel) rfl
theorem ml_Law_54 : ax_LV "ClauseProverLaw" 54 y_CP_search b_CP_search 5 (some (.int)) 3 := ax_LV.mk (tb_in (i := 1505) (by decide +kernel) rfl) (tb_in (i := 1506) (by decide +kernel) rfl) (tb_in (i := 1507) (by decide +kernel) rfl) ti_CP tc_CP_search (by decide +kernel)
set_option maxHeartbeats 4000000 in
set_option maxRecDepth 100000 in
theorem m140_Law_search (l : Launch) (htr : l.stackTraces = false) (D : va_G) (kA : Nat → ClassId) (a0 : Nat) (b0 : Nat) (b1 : Nat) (b2 : Nat) (b3 : Nat) (b4 : Nat) (b5 : Nat) (b6 : Nat) (b7 : Nat) (b8 : Nat) (b9 : Nat) (b10 : Nat) (i0 : Int32) (i1 : Int32) (i2 : Int32) (h0 : i1 < 1) : ax_Mw l D kA y_Law_search b_Law_search 6 [(0, 12, 15, 19)] 7 114 1 6 [.ref a0, .int i0, .int i1, .int i2, .ref b0] [(a0, .inr (11, [.ref b1, .ref b2, .ref b3, .ref b4, .ref b5, .ref b6, .ref b7, .ref b8, .ref b9, .ref b10, .int 0, .int 0]))] (fun r w1 => r = 1 ∧ w1 = [(a0, .inr (11, [.ref b1, .ref b2, .ref b3, .ref b4, .ref b5, .ref b6, .ref b7, .ref b8, .ref b9, .ref b10, .int 0, .int 0]))]) := by
  refine ax_Mw.of (by decide +kernel) (Nat.le_of_ble_eq_true rfl) ?_
  intro p e s m args below meth c C hadm hmeth hcode htb hX
  refine ax_ls ([(0, .ref a0), (1, .int i0), (2, .int i1), (3, .int i2), (4, .ref b0)]) [0, 1, 2, 3, 4] rfl ?_
  refine ax_aload (pc := 0) C d_Law_search_0 4 rfl ?_
  refine ax_iconst (pc := 2) C 0 d_Law_search_2 (by decide +kernel) ?_
  refine ax_aload_n (pc := 3) C d_Law_search_3 rfl 0 rfl ?_
  refine ax_iload_n (pc := 4) C d_Law_search_4 rfl 1 rfl ?_
  refine ax_iload_n (pc := 5) C d_Law_search_5 rfl 2 rfl ?_
  refine ax_iload_n (pc := 6) C d_Law_search_6 rfl 3 rfl ?_
  refine ax_callVx (pc := 7) C hX (hpc := 15) (As := [.int i0, .int i1, .int i2]) (rest := [.int 0, .ref b0]) (wr := [(a0, .inr (11, [.ref b1, .ref b2, .ref b3, .ref b4, .ref b5, .ref b6, .ref b7, .ref b8, .ref b9, .ref b10, .int 0, .int 0]))]) (m141_CP_search l htr D kA a0 i0 i1 i2 h0) ml_Law_54 0 rfl rfl rfl d_Law_search_7 rfl rfl [] [0] rfl (by decide) rfl (by decide) (by decide) (Nat.le_of_ble_eq_true rfl) (Nat.le_of_ble_eq_true rfl) (Nat.le_of_ble_eq_true rfl) (Nat.le_of_ble_eq_true rfl) (Nat.le_of_ble_eq_true rfl) (cx_F1 hadm hmeth hcode C.2.2.2.1 htb ⟨by decide, by decide⟩ (by decide) (C.2.2.2.2.1 _ tb_classLink_979)) (fun xe7 w1 hw1 => ?_)
  obtain rfl := hw1
  refine ax_w ([(a0, .inr (11, [.ref b1, .ref b2, .ref b3, .ref b4, .ref b5, .ref b6, .ref b7, .ref b8, .ref b9, .ref b10, .int 0, .int 0]))]) rfl ?_
  refine ax_astore (pc := 15) C d_Law_search_15 (Nat.le_of_ble_eq_true rfl) ([(5, .ref xe7), (0, .ref a0), (1, .int i0), (2, .int i1), (3, .int i2), (4, .ref b0)]) rfl ?_
  refine ax_iconst (pc := 17) C 1 d_Law_search_17 (by decide +kernel) ?_
  exact ax_iret (pc := 18) C d_Law_search_18 ⟨rfl, rfl⟩ (by decide) (by decide)
abbrev b_MM_search : ByteArray := prog_14_method_131_code
def y_MM_search : MethodName := ⟨"ClauseProverModel", "search", "(III)I"⟩
theorem d_MM_search_0 : decode b_MM_search 0 = .ok (.aload_n 0, 1) := by decide +kernel
theorem d_MM_search_1 : decode b_MM_search 1 = .ok (.iconst 0, 1) := by decide +kernel
theorem d_MM_search_2 : decode b_MM_search 2 = .ok (.putfield 24, 3) := by decide +kernel
theorem d_MM_search_5 : decode b_MM_search 5 = .ok (.aload_n 0, 1) := by decide +kernel
theorem d_MM_search_6 : decode b_MM_search 6 = .ok (.iconst 1, 1) := by decide +kernel
theorem d_MM_search_7 : decode b_MM_search 7 = .ok (.iload_n 2, 1) := by decide +kernel
theorem d_MM_search_8 : decode b_MM_search 8 = .ok (.iconst 1, 1) := by decide +kernel
theorem d_MM_search_9 : decode b_MM_search 9 = .ok (.if_icmp .lt 19, 3) := by decide +kernel
theorem d_MM_search_12 : decode b_MM_search 12 = .ok (.iload_n 2, 1) := by decide +kernel
theorem d_MM_search_13 : decode b_MM_search 13 = .ok (.iconst 3, 1) := by decide +kernel
theorem d_MM_search_14 : decode b_MM_search 14 = .ok (.if_icmp .gt 14, 3) := by decide +kernel
theorem d_MM_search_17 : decode b_MM_search 17 = .ok (.iload_n 3, 1) := by decide +kernel
theorem d_MM_search_18 : decode b_MM_search 18 = .ok (.iconst 1, 1) := by decide +kernel
theorem d_MM_search_19 : decode b_MM_search 19 = .ok (.if_icmp .lt 9, 3) := by decide +kernel
theorem d_MM_search_22 : decode b_MM_search 22 = .ok (.iload_n 3, 1) := by decide +kernel
theorem d_MM_search_23 : decode b_MM_search 23 = .ok (.bipush 50, 2) := by decide +kernel
theorem d_MM_search_25 : decode b_MM_search 25 = .ok (.if_icmp .le 7, 3) := by decide +kernel
theorem d_MM_search_28 : decode b_MM_search 28 = .ok (.iconst 1, 1) := by decide +kernel
theorem d_MM_search_29 : decode b_MM_search 29 = .ok (.goto 4, 3) := by decide +kernel
theorem d_MM_search_32 : decode b_MM_search 32 = .ok (.iconst 0, 1) := by decide +kernel
theorem d_MM_search_33 : decode b_MM_search 33 = .ok (.invokevirtual 401, 3) := by decide +kernel
theorem d_MM_search_36 : decode b_MM_search 36 = .ok (.ifCond .eq 5, 3) := by decide +kernel
theorem d_MM_search_39 : decode b_MM_search 39 = .ok (.iconst 0, 1) := by decide +kernel
theorem d_MM_search_40 : decode b_MM_search 40 = .ok (.ireturn, 1) := by decide +kernel
theorem d_MM_search_41 : decode b_MM_search 41 = .ok (.aload_n 0, 1) := by decide +kernel
theorem d_MM_search_42 : decode b_MM_search 42 = .ok (.iload_n 2, 1) := by decide +kernel
theorem d_MM_search_43 : decode b_MM_search 43 = .ok (.putfield 394, 3) := by decide +kernel
theorem d_MM_search_46 : decode b_MM_search 46 = .ok (.iconst 0, 1) := by decide +kernel
theorem d_MM_search_47 : decode b_MM_search 47 = .ok (.istore 4, 2) := by decide +kernel
theorem d_MM_search_49 : decode b_MM_search 49 = .ok (.iload 4, 2) := by decide +kernel
theorem d_MM_search_51 : decode b_MM_search 51 = .ok (.iload_n 3, 1) := by decide +kernel
theorem d_MM_search_52 : decode b_MM_search 52 = .ok (.if_icmp .ge 27, 3) := by decide +kernel
theorem d_MM_search_55 : decode b_MM_search 55 = .ok (.aload_n 0, 1) := by decide +kernel
theorem d_MM_search_56 : decode b_MM_search 56 = .ok (.iload_n 1, 1) := by decide +kernel
theorem d_MM_search_57 : decode b_MM_search 57 = .ok (.iload 4, 2) := by decide +kernel
theorem d_MM_search_59 : decode b_MM_search 59 = .ok (.iadd, 1) := by decide +kernel
theorem d_MM_search_60 : decode b_MM_search 60 = .ok (.putfield 391, 3) := by decide +kernel
theorem d_MM_search_63 : decode b_MM_search 63 = .ok (.aload_n 0, 1) := by decide +kernel
theorem d_MM_search_64 : decode b_MM_search 64 = .ok (.invokevirtual 791, 3) := by decide +kernel
theorem d_MM_search_67 : decode b_MM_search 67 = .ok (.ifCond .eq 6, 3) := by decide +kernel
theorem d_MM_search_70 : decode b_MM_search 70 = .ok (.iload 4, 2) := by decide +kernel
theorem d_MM_search_72 : decode b_MM_search 72 = .ok (.ireturn, 1) := by decide +kernel
theorem d_MM_search_73 : decode b_MM_search 73 = .ok (.iinc 4 1, 3) := by decide +kernel
theorem d_MM_search_76 : decode b_MM_search 76 = .ok (.goto (-27), 3) := by decide +kernel
theorem d_MM_search_79 : decode b_MM_search 79 = .ok (.iconst (-1), 1) := by decide +kernel
theorem d_MM_search_80 : decode b_MM_search 80 = .ok (.ireturn, 1) := by decide +kernel
theorem tc_Law_search : Cond.codeWith y_Law_search b_Law_search 6 (some .int) [(0, 12, 15, 19)] ∈ lw_tbg := tb_in (i := 1504) (by decide +kernel) rfl
theorem mw_Law_116 : ax_LSw "ClauseProverLaw" 116 y_Law_search b_Law_search 6 [(0, 12, 15, 19)] 5 := ax_LSw.mk (tb_in (i := 1502) (by decide +kernel) rfl) (tb_in (i := 1503) (by decide +kernel) rfl) ti_Law tc_Law_search (by decide +kernel)
set_option maxHeartbeats 4000000 in
set_option maxRecDepth 100000 in
theorem m142_MM_search (l : Launch) (D : va_G) (kA : Nat → ClassId) (a0 : Nat) (b0 : Nat) (b1 : Nat) (b2 : Nat) (b3 : Nat) (b4 : Nat) (b5 : Nat) (b6 : Nat) (b7 : Nat) (b8 : Nat) (b9 : Nat) (b10 : Nat) (b11 : Nat) (b12 : Nat) (b13 : Nat) (b14 : Nat) (b15 : Nat) (b16 : Nat) (b17 : Nat) (b18 : Nat) (b19 : Nat) (b20 : Nat) (b21 : Nat) (b22 : Nat) (b23 : Nat) (b24 : Nat) (b25 : Nat) (b26 : Nat) (b27 : Nat) (b28 : Nat) (b29 : Nat) (b30 : Nat) (b31 : Nat) (b32 : Nat) (b33 : Nat) (b34 : Nat) (b35 : Nat) (b36 : Nat) (b37 : Nat) (b38 : Nat) (b39 : Nat) (b40 : Nat) (b41 : Nat) (b42 : Nat) (b43 : Nat) (b44 : Nat) (b45 : Nat) (b46 : Nat) (b47 : Nat) (b48 : Nat) (b49 : Nat) (b50 : Nat) (b51 : Nat) (b52 : Nat) (b53 : Nat) (b54 : Nat) (b55 : Nat) (b56 : Nat) (b57 : Nat) (b58 : Nat) (b59 : Nat) (b60 : Nat) (b61 : Nat) (b62 : Nat) (b63 : Nat) (b64 : Nat) (b65 : Nat) (b66 : Nat) (b67 : Nat) (b68 : Nat) (b69 : Nat) (b70 : Nat) (b71 : Nat) (b72 : Nat) (b73 : Nat) (b74 : Nat) (b75 : Nat) (i0 : Int32) (i1 : Int32) (i2 : Int32) (h0 : i1 < 1) : ax_Mi l D kA y_MM_search b_MM_search 5 .int 1 22 0 0 [.ref a0, .int i0, .int i1, .int i2] [(a0, .inr (12, [.ref b0, .ref b1, .int 0, .int 0, .int 0, .int 0, .int 0, .int 0, .int 0, .int 0, .int 0, .int 0, .int 0, .ref b2, .ref b3, .ref b4, .ref b5, .ref b6, .int 0, .int 1, .int 0, .ref b7, .ref b8, .ref b9, .ref b10, .int 0, .ref b11, .ref b12, .int 0, .int 0, .ref b13, .ref b14, .ref b15, .ref b16, .ref b17, .ref b18, .ref b19, .int 0, .int 0, .int 0, .int 0, .ref b20, .ref b21, .ref b22, .ref b23, .ref b24, .ref b25, .int 0, .ref b26, .ref b27, .ref b28, .ref b29, .ref b30, .ref b31, .ref b32, .int 0, .int 0, .ref b33, .ref b34, .ref b35, .ref b36, .ref b37, .int 0, .ref b38, .ref b39, .int 0, .ref b40, .ref b41, .ref b42, .ref b43, .ref b44, .ref b45, .int 0, .ref b46, .ref b47, .ref b48, .ref b49, .ref b50, .ref b51, .ref b52, .ref b53, .ref b54, .ref b55, .ref b56, .int 0, .int 0, .int 0, .int 0, .int (-1), .int 0, .int 0, .int 0, .int 0, .int 0, .int 0, .ref b57, .ref b58, .ref b59, .int 0, .ref b60, .ref b61, .int 0, .ref b62, .ref b63, .ref b64, .int 0, .ref b65, .ref b66, .ref b67, .ref b68, .ref b69, .ref b70, .int 0, .int (-1), .int 0, .ref b71, .int (-1), .int (-1), .int (-1), .ref b72, .int 0, .ref b73, .int 0, .ref b74, .int 0, .int 0, .ref b75]))] (fun r w1 => r = 0 ∧ w1 = [(a0, .inr (12, [.ref b0, .ref b1, .int 0, .int 0, .int 1, .int 0, .int 0, .int 0, .int 0, .int 0, .int 0, .int 0, .int 0, .ref b2, .ref b3, .ref b4, .ref b5, .ref b6, .int 0, .int 1, .int 0, .ref b7, .ref b8, .ref b9, .ref b10, .int 0, .ref b11, .ref b12, .int 0, .int 0, .ref b13, .ref b14, .ref b15, .ref b16, .ref b17, .ref b18, .ref b19, .int 0, .int 0, .int 0, .int 0, .ref b20, .ref b21, .ref b22, .ref b23, .ref b24, .ref b25, .int 0, .ref b26, .ref b27, .ref b28, .ref b29, .ref b30, .ref b31, .ref b32, .int 0, .int 0, .ref b33, .ref b34, .ref b35, .ref b36, .ref b37, .int 0, .ref b38, .ref b39, .int 0, .ref b40, .ref b41, .ref b42, .ref b43, .ref b44, .ref b45, .int 0, .ref b46, .ref b47, .ref b48, .ref b49, .ref b50, .ref b51, .ref b52, .ref b53, .ref b54, .ref b55, .ref b56, .int 0, .int 0, .int 0, .int 0, .int (-1), .int 0, .int 0, .int 0, .int 0, .int 0, .int 0, .ref b57, .ref b58, .ref b59, .int 0, .ref b60, .ref b61, .int 0, .ref b62, .ref b63, .ref b64, .int 0, .ref b65, .ref b66, .ref b67, .ref b68, .ref b69, .ref b70, .int 0, .int (-1), .int 0, .ref b71, .int (-1), .int (-1), .int (-1), .ref b72, .int 0, .ref b73, .int 0, .ref b74, .int 0, .int 0, .ref b75]))]) := by
  refine ax_Mi.of (by decide +kernel) (Nat.le_of_ble_eq_true rfl) ?_
  intro p e s m args below meth c C hnm
  refine ax_ls ([(0, .ref a0), (1, .int i0), (2, .int i1), (3, .int i2)]) [0, 1, 2, 3] rfl ?_
  refine ax_aload_n (pc := 0) C d_MM_search_0 rfl 0 rfl ?_
  refine ax_iconst (pc := 1) C 0 d_MM_search_1 (by decide +kernel) ?_
  refine ax_put (pc := 2) C k_MM 4 lk_MM_24 d_MM_search_2 (Nat.le_of_ble_eq_true rfl) 0 rfl rfl rfl rfl (Nat.le_of_ble_eq_true rfl) ?_
  refine ax_w ([(a0, .inr (12, [.ref b0, .ref b1, .int 0, .int 0, .int 0, .int 0, .int 0, .int 0, .int 0, .int 0, .int 0, .int 0, .int 0, .ref b2, .ref b3, .ref b4, .ref b5, .ref b6, .int 0, .int 1, .int 0, .ref b7, .ref b8, .ref b9, .ref b10, .int 0, .ref b11, .ref b12, .int 0, .int 0, .ref b13, .ref b14, .ref b15, .ref b16, .ref b17, .ref b18, .ref b19, .int 0, .int 0, .int 0, .int 0, .ref b20, .ref b21, .ref b22, .ref b23, .ref b24, .ref b25, .int 0, .ref b26, .ref b27, .ref b28, .ref b29, .ref b30, .ref b31, .ref b32, .int 0, .int 0, .ref b33, .ref b34, .ref b35, .ref b36, .ref b37, .int 0, .ref b38, .ref b39, .int 0, .ref b40, .ref b41, .ref b42, .ref b43, .ref b44, .ref b45, .int 0, .ref b46, .ref b47, .ref b48, .ref b49, .ref b50, .ref b51, .ref b52, .ref b53, .ref b54, .ref b55, .ref b56, .int 0, .int 0, .int 0, .int 0, .int (-1), .int 0, .int 0, .int 0, .int 0, .int 0, .int 0, .ref b57, .ref b58, .ref b59, .int 0, .ref b60, .ref b61, .int 0, .ref b62, .ref b63, .ref b64, .int 0, .ref b65, .ref b66, .ref b67, .ref b68, .ref b69, .ref b70, .int 0, .int (-1), .int 0, .ref b71, .int (-1), .int (-1), .int (-1), .ref b72, .int 0, .ref b73, .int 0, .ref b74, .int 0, .int 0, .ref b75]))]) rfl ?_
  refine ax_aload_n (pc := 5) C d_MM_search_5 rfl 0 rfl ?_
  refine ax_iconst (pc := 6) C 1 d_MM_search_6 (by decide +kernel) ?_
  refine ax_iload_n (pc := 7) C d_MM_search_7 rfl 2 rfl ?_
  refine ax_iconst (pc := 8) C 1 d_MM_search_8 (by decide +kernel) ?_
  refine ax_icmp_lt (pc := 9) C 28 d_MM_search_9 (by decide) (fun _ => ?_) (fun h => absurd h0 h)
  refine ax_iconst (pc := 28) C 1 d_MM_search_28 (by decide +kernel) ?_
  refine ax_goto (pc := 29) C 33 d_MM_search_29 (by decide) ?_
  refine ax_callVi (pc := 33) C (As := [.int 1, .int 1]) (rest := []) (wr := []) (m34_MM_refuse l D kA a0 b0 b1 b2 b3 b4 b5 b6 b7 b8 b9 b10 b11 b12 b13 b14 b15 b16 b17 b18 b19 b20 b21 b22 b23 b24 b25 b26 b27 b28 b29 b30 b31 b32 b33 b34 b35 b36 b37 b38 b39 b40 b41 b42 b43 b44 b45 b46 b47 b48 b49 b50 b51 b52 b53 b54 b55 b56 b57 b58 b59 b60 b61 b62 b63 b64 b65 b66 b67 b68 b69 b70 b71 b72 b73 b74 b75) ml_MM_401 0 rfl rfl rfl d_MM_search_33 rfl rfl [0] [] rfl (by decide) rfl (by decide) (by decide) (Nat.le_of_ble_eq_true rfl) (Nat.le_of_ble_eq_true rfl) (Nat.le_of_ble_eq_true rfl) (Nat.le_of_ble_eq_true rfl) (Nat.le_of_ble_eq_true rfl) (fun r33 w1 hw1 => ?_)
  obtain ⟨rfl, rfl⟩ := hw1
  refine ax_w ([(a0, .inr (12, [.ref b0, .ref b1, .int 0, .int 0, .int 1, .int 0, .int 0, .int 0, .int 0, .int 0, .int 0, .int 0, .int 0, .ref b2, .ref b3, .ref b4, .ref b5, .ref b6, .int 0, .int 1, .int 0, .ref b7, .ref b8, .ref b9, .ref b10, .int 0, .ref b11, .ref b12, .int 0, .int 0, .ref b13, .ref b14, .ref b15, .ref b16, .ref b17, .ref b18, .ref b19, .int 0, .int 0, .int 0, .int 0, .ref b20, .ref b21, .ref b22, .ref b23, .ref b24, .ref b25, .int 0, .ref b26, .ref b27, .ref b28, .ref b29, .ref b30, .ref b31, .ref b32, .int 0, .int 0, .ref b33, .ref b34, .ref b35, .ref b36, .ref b37, .int 0, .ref b38, .ref b39, .int 0, .ref b40, .ref b41, .ref b42, .ref b43, .ref b44, .ref b45, .int 0, .ref b46, .ref b47, .ref b48, .ref b49, .ref b50, .ref b51, .ref b52, .ref b53, .ref b54, .ref b55, .ref b56, .int 0, .int 0, .int 0, .int 0, .int (-1), .int 0, .int 0, .int 0, .int 0, .int 0, .int 0, .ref b57, .ref b58, .ref b59, .int 0, .ref b60, .ref b61, .int 0, .ref b62, .ref b63, .ref b64, .int 0, .ref b65, .ref b66, .ref b67, .ref b68, .ref b69, .ref b70, .int 0, .int (-1), .int 0, .ref b71, .int (-1), .int (-1), .int (-1), .ref b72, .int 0, .ref b73, .int 0, .ref b74, .int 0, .int 0, .ref b75]))]) rfl ?_
  refine ax_if_eq (pc := 36) C 41 d_MM_search_36 (by decide) (fun h => absurd h (by decide)) (fun _ => ?_)
  refine ax_iconst (pc := 39) C 0 d_MM_search_39 (by decide +kernel) ?_
  exact ax_iret (pc := 40) C d_MM_search_40 ⟨rfl, rfl⟩ (by decide) (by decide)
set_option maxHeartbeats 4000000 in
set_option maxRecDepth 100000 in
theorem m144_CP_search (l : Launch) (htr : l.stackTraces = false) (D : va_G) (kA : Nat → ClassId) (b0 : Nat) (i0 : Int32) (i1 : Int32) (i2 : Int32) (h0 : 3 < i1) (h1 : ¬ i1 < 1) : ax_Mx l D kA y_CP_search b_CP_search 5 (some .int) 6 90 1 6 [.ref b0, .int i0, .int i1, .int i2] [] "java/lang/IllegalArgumentException" (fun w1 => w1 = []) := by
  refine ax_Mx.of (by decide +kernel) (Nat.le_of_ble_eq_true rfl) ?_
  intro p e s m args below meth c C hadm hex hX hP0
  refine ax_ls ([(0, .ref b0), (1, .int i0), (2, .int i1), (3, .int i2)]) [0, 1, 2, 3] rfl ?_
  refine ax_iload_n (pc := 0) C d_CP_search_0 rfl 2 rfl ?_
  refine ax_iconst (pc := 1) C 1 d_CP_search_1 (by decide +kernel) ?_
  refine ax_icmp_lt (pc := 2) C 21 d_CP_search_2 (by decide) (fun h => absurd h h1) (fun _ => ?_)
  refine ax_iload_n (pc := 5) C d_CP_search_5 rfl 2 rfl ?_
  refine ax_iconst (pc := 6) C 3 d_CP_search_6 (by decide +kernel) ?_
  refine ax_icmp_gt (pc := 7) C 21 d_CP_search_7 (by decide) (fun _ => ?_) (fun h => absurd h0 h)
  exact ax_throw3 (pc := 21) C hadm htr hex hX hP0 (is := 278) (tx := "not 1 .. 3 elements or not 1 .. 50 seeds") ta_IAE (by decide +kernel) (by decide) tb_classLink_984 tb_instantiable_985 tb_initialized_21 (by decide +kernel) (by decide +kernel) (by decide +kernel) (by decide +kernel) d_CP_search_21 d_CP_search_24 d_CP_search_25 d_CP_search_28 d_CP_search_31 (Nat.le_of_ble_eq_true rfl) (Nat.le_of_ble_eq_true rfl) (Nat.le_of_ble_eq_true rfl) (Nat.le_of_ble_eq_true rfl) rfl rfl rfl
set_option maxHeartbeats 4000000 in
set_option maxRecDepth 100000 in
theorem m143_Law_search (l : Launch) (htr : l.stackTraces = false) (D : va_G) (kA : Nat → ClassId) (a0 : Nat) (b0 : Nat) (b1 : Nat) (b2 : Nat) (b3 : Nat) (b4 : Nat) (b5 : Nat) (b6 : Nat) (b7 : Nat) (b8 : Nat) (b9 : Nat) (b10 : Nat) (i0 : Int32) (i1 : Int32) (i2 : Int32) (h0 : 3 < i1) (h1 : ¬ i1 < 1) : ax_Mw l D kA y_Law_search b_Law_search 6 [(0, 12, 15, 19)] 7 114 1 6 [.ref a0, .int i0, .int i1, .int i2, .ref b0] [(a0, .inr (11, [.ref b1, .ref b2, .ref b3, .ref b4, .ref b5, .ref b6, .ref b7, .ref b8, .ref b9, .ref b10, .int 0, .int 0]))] (fun r w1 => r = 1 ∧ w1 = [(a0, .inr (11, [.ref b1, .ref b2, .ref b3, .ref b4, .ref b5, .ref b6, .ref b7, .ref b8, .ref b9, .ref b10, .int 0, .int 0]))]) := by
  refine ax_Mw.of (by decide +kernel) (Nat.le_of_ble_eq_true rfl) ?_
  intro p e s m args below meth c C hadm hmeth hcode htb hX
  refine ax_ls ([(0, .ref a0), (1, .int i0), (2, .int i1), (3, .int i2), (4, .ref b0)]) [0, 1, 2, 3, 4] rfl ?_
  refine ax_aload (pc := 0) C d_Law_search_0 4 rfl ?_
  refine ax_iconst (pc := 2) C 0 d_Law_search_2 (by decide +kernel) ?_
  refine ax_aload_n (pc := 3) C d_Law_search_3 rfl 0 rfl ?_
  refine ax_iload_n (pc := 4) C d_Law_search_4 rfl 1 rfl ?_
  refine ax_iload_n (pc := 5) C d_Law_search_5 rfl 2 rfl ?_
  refine ax_iload_n (pc := 6) C d_Law_search_6 rfl 3 rfl ?_
  refine ax_callVx (pc := 7) C hX (hpc := 15) (As := [.int i0, .int i1, .int i2]) (rest := [.int 0, .ref b0]) (wr := [(a0, .inr (11, [.ref b1, .ref b2, .ref b3, .ref b4, .ref b5, .ref b6, .ref b7, .ref b8, .ref b9, .ref b10, .int 0, .int 0]))]) (m144_CP_search l htr D kA a0 i0 i1 i2 h0 h1) ml_Law_54 0 rfl rfl rfl d_Law_search_7 rfl rfl [] [0] rfl (by decide) rfl (by decide) (by decide) (Nat.le_of_ble_eq_true rfl) (Nat.le_of_ble_eq_true rfl) (Nat.le_of_ble_eq_true rfl) (Nat.le_of_ble_eq_true rfl) (Nat.le_of_ble_eq_true rfl) (cx_F1 hadm hmeth hcode C.2.2.2.1 htb ⟨by decide, by decide⟩ (by decide) (C.2.2.2.2.1 _ tb_classLink_979)) (fun xe7 w1 hw1 => ?_)
  obtain rfl := hw1
  refine ax_w ([(a0, .inr (11, [.ref b1, .ref b2, .ref b3, .ref b4, .ref b5, .ref b6, .ref b7, .ref b8, .ref b9, .ref b10, .int 0, .int 0]))]) rfl ?_
  refine ax_astore (pc := 15) C d_Law_search_15 (Nat.le_of_ble_eq_true rfl) ([(5, .ref xe7), (0, .ref a0), (1, .int i0), (2, .int i1), (3, .int i2), (4, .ref b0)]) rfl ?_
  refine ax_iconst (pc := 17) C 1 d_Law_search_17 (by decide +kernel) ?_
  exact ax_iret (pc := 18) C d_Law_search_18 ⟨rfl, rfl⟩ (by decide) (by decide)
set_option maxHeartbeats 4000000 in
set_option maxRecDepth 100000 in
theorem m145_MM_search (l : Launch) (D : va_G) (kA : Nat → ClassId) (a0 : Nat) (b0 : Nat) (b1 : Nat) (b2 : Nat) (b3 : Nat) (b4 : Nat) (b5 : Nat) (b6 : Nat) (b7 : Nat) (b8 : Nat) (b9 : Nat) (b10 : Nat) (b11 : Nat) (b12 : Nat) (b13 : Nat) (b14 : Nat) (b15 : Nat) (b16 : Nat) (b17 : Nat) (b18 : Nat) (b19 : Nat) (b20 : Nat) (b21 : Nat) (b22 : Nat) (b23 : Nat) (b24 : Nat) (b25 : Nat) (b26 : Nat) (b27 : Nat) (b28 : Nat) (b29 : Nat) (b30 : Nat) (b31 : Nat) (b32 : Nat) (b33 : Nat) (b34 : Nat) (b35 : Nat) (b36 : Nat) (b37 : Nat) (b38 : Nat) (b39 : Nat) (b40 : Nat) (b41 : Nat) (b42 : Nat) (b43 : Nat) (b44 : Nat) (b45 : Nat) (b46 : Nat) (b47 : Nat) (b48 : Nat) (b49 : Nat) (b50 : Nat) (b51 : Nat) (b52 : Nat) (b53 : Nat) (b54 : Nat) (b55 : Nat) (b56 : Nat) (b57 : Nat) (b58 : Nat) (b59 : Nat) (b60 : Nat) (b61 : Nat) (b62 : Nat) (b63 : Nat) (b64 : Nat) (b65 : Nat) (b66 : Nat) (b67 : Nat) (b68 : Nat) (b69 : Nat) (b70 : Nat) (b71 : Nat) (b72 : Nat) (b73 : Nat) (b74 : Nat) (b75 : Nat) (i0 : Int32) (i1 : Int32) (i2 : Int32) (h0 : 3 < i1) (h1 : ¬ i1 < 1) : ax_Mi l D kA y_MM_search b_MM_search 5 .int 1 22 0 0 [.ref a0, .int i0, .int i1, .int i2] [(a0, .inr (12, [.ref b0, .ref b1, .int 0, .int 0, .int 0, .int 0, .int 0, .int 0, .int 0, .int 0, .int 0, .int 0, .int 0, .ref b2, .ref b3, .ref b4, .ref b5, .ref b6, .int 0, .int 1, .int 0, .ref b7, .ref b8, .ref b9, .ref b10, .int 0, .ref b11, .ref b12, .int 0, .int 0, .ref b13, .ref b14, .ref b15, .ref b16, .ref b17, .ref b18, .ref b19, .int 0, .int 0, .int 0, .int 0, .ref b20, .ref b21, .ref b22, .ref b23, .ref b24, .ref b25, .int 0, .ref b26, .ref b27, .ref b28, .ref b29, .ref b30, .ref b31, .ref b32, .int 0, .int 0, .ref b33, .ref b34, .ref b35, .ref b36, .ref b37, .int 0, .ref b38, .ref b39, .int 0, .ref b40, .ref b41, .ref b42, .ref b43, .ref b44, .ref b45, .int 0, .ref b46, .ref b47, .ref b48, .ref b49, .ref b50, .ref b51, .ref b52, .ref b53, .ref b54, .ref b55, .ref b56, .int 0, .int 0, .int 0, .int 0, .int (-1), .int 0, .int 0, .int 0, .int 0, .int 0, .int 0, .ref b57, .ref b58, .ref b59, .int 0, .ref b60, .ref b61, .int 0, .ref b62, .ref b63, .ref b64, .int 0, .ref b65, .ref b66, .ref b67, .ref b68, .ref b69, .ref b70, .int 0, .int (-1), .int 0, .ref b71, .int (-1), .int (-1), .int (-1), .ref b72, .int 0, .ref b73, .int 0, .ref b74, .int 0, .int 0, .ref b75]))] (fun r w1 => r = 0 ∧ w1 = [(a0, .inr (12, [.ref b0, .ref b1, .int 0, .int 0, .int 1, .int 0, .int 0, .int 0, .int 0, .int 0, .int 0, .int 0, .int 0, .ref b2, .ref b3, .ref b4, .ref b5, .ref b6, .int 0, .int 1, .int 0, .ref b7, .ref b8, .ref b9, .ref b10, .int 0, .ref b11, .ref b12, .int 0, .int 0, .ref b13, .ref b14, .ref b15, .ref b16, .ref b17, .ref b18, .ref b19, .int 0, .int 0, .int 0, .int 0, .ref b20, .ref b21, .ref b22, .ref b23, .ref b24, .ref b25, .int 0, .ref b26, .ref b27, .ref b28, .ref b29, .ref b30, .ref b31, .ref b32, .int 0, .int 0, .ref b33, .ref b34, .ref b35, .ref b36, .ref b37, .int 0, .ref b38, .ref b39, .int 0, .ref b40, .ref b41, .ref b42, .ref b43, .ref b44, .ref b45, .int 0, .ref b46, .ref b47, .ref b48, .ref b49, .ref b50, .ref b51, .ref b52, .ref b53, .ref b54, .ref b55, .ref b56, .int 0, .int 0, .int 0, .int 0, .int (-1), .int 0, .int 0, .int 0, .int 0, .int 0, .int 0, .ref b57, .ref b58, .ref b59, .int 0, .ref b60, .ref b61, .int 0, .ref b62, .ref b63, .ref b64, .int 0, .ref b65, .ref b66, .ref b67, .ref b68, .ref b69, .ref b70, .int 0, .int (-1), .int 0, .ref b71, .int (-1), .int (-1), .int (-1), .ref b72, .int 0, .ref b73, .int 0, .ref b74, .int 0, .int 0, .ref b75]))]) := by
  refine ax_Mi.of (by decide +kernel) (Nat.le_of_ble_eq_true rfl) ?_
  intro p e s m args below meth c C hnm
  refine ax_ls ([(0, .ref a0), (1, .int i0), (2, .int i1), (3, .int i2)]) [0, 1, 2, 3] rfl ?_
  refine ax_aload_n (pc := 0) C d_MM_search_0 rfl 0 rfl ?_
  refine ax_iconst (pc := 1) C 0 d_MM_search_1 (by decide +kernel) ?_
  refine ax_put (pc := 2) C k_MM 4 lk_MM_24 d_MM_search_2 (Nat.le_of_ble_eq_true rfl) 0 rfl rfl rfl rfl (Nat.le_of_ble_eq_true rfl) ?_
  refine ax_w ([(a0, .inr (12, [.ref b0, .ref b1, .int 0, .int 0, .int 0, .int 0, .int 0, .int 0, .int 0, .int 0, .int 0, .int 0, .int 0, .ref b2, .ref b3, .ref b4, .ref b5, .ref b6, .int 0, .int 1, .int 0, .ref b7, .ref b8, .ref b9, .ref b10, .int 0, .ref b11, .ref b12, .int 0, .int 0, .ref b13, .ref b14, .ref b15, .ref b16, .ref b17, .ref b18, .ref b19, .int 0, .int 0, .int 0, .int 0, .ref b20, .ref b21, .ref b22, .ref b23, .ref b24, .ref b25, .int 0, .ref b26, .ref b27, .ref b28, .ref b29, .ref b30, .ref b31, .ref b32, .int 0, .int 0, .ref b33, .ref b34, .ref b35, .ref b36, .ref b37, .int 0, .ref b38, .ref b39, .int 0, .ref b40, .ref b41, .ref b42, .ref b43, .ref b44, .ref b45, .int 0, .ref b46, .ref b47, .ref b48, .ref b49, .ref b50, .ref b51, .ref b52, .ref b53, .ref b54, .ref b55, .ref b56, .int 0, .int 0, .int 0, .int 0, .int (-1), .int 0, .int 0, .int 0, .int 0, .int 0, .int 0, .ref b57, .ref b58, .ref b59, .int 0, .ref b60, .ref b61, .int 0, .ref b62, .ref b63, .ref b64, .int 0, .ref b65, .ref b66, .ref b67, .ref b68, .ref b69, .ref b70, .int 0, .int (-1), .int 0, .ref b71, .int (-1), .int (-1), .int (-1), .ref b72, .int 0, .ref b73, .int 0, .ref b74, .int 0, .int 0, .ref b75]))]) rfl ?_
  refine ax_aload_n (pc := 5) C d_MM_search_5 rfl 0 rfl ?_
  refine ax_iconst (pc := 6) C 1 d_MM_search_6 (by decide +kernel) ?_
  refine ax_iload_n (pc := 7) C d_MM_search_7 rfl 2 rfl ?_
  refine ax_iconst (pc := 8) C 1 d_MM_search_8 (by decide +kernel) ?_
  refine ax_icmp_lt (pc := 9) C 28 d_MM_search_9 (by decide) (fun h => absurd h h1) (fun _ => ?_)
  refine ax_iload_n (pc := 12) C d_MM_search_12 rfl 2 rfl ?_
  refine ax_iconst (pc := 13) C 3 d_MM_search_13 (by decide +kernel) ?_
  refine ax_icmp_gt (pc := 14) C 28 d_MM_search_14 (by decide) (fun _ => ?_) (fun h => absurd h0 h)
  refine ax_iconst (pc := 28) C 1 d_MM_search_28 (by decide +kernel) ?_
  refine ax_goto (pc := 29) C 33 d_MM_search_29 (by decide) ?_
  refine ax_callVi (pc := 33) C (As := [.int 1, .int 1]) (rest := []) (wr := []) (m34_MM_refuse l D kA a0 b0 b1 b2 b3 b4 b5 b6 b7 b8 b9 b10 b11 b12 b13 b14 b15 b16 b17 b18 b19 b20 b21 b22 b23 b24 b25 b26 b27 b28 b29 b30 b31 b32 b33 b34 b35 b36 b37 b38 b39 b40 b41 b42 b43 b44 b45 b46 b47 b48 b49 b50 b51 b52 b53 b54 b55 b56 b57 b58 b59 b60 b61 b62 b63 b64 b65 b66 b67 b68 b69 b70 b71 b72 b73 b74 b75) ml_MM_401 0 rfl rfl rfl d_MM_search_33 rfl rfl [0] [] rfl (by decide) rfl (by decide) (by decide) (Nat.le_of_ble_eq_true rfl) (Nat.le_of_ble_eq_true rfl) (Nat.le_of_ble_eq_true rfl) (Nat.le_of_ble_eq_true rfl) (Nat.le_of_ble_eq_true rfl) (fun r33 w1 hw1 => ?_)
  obtain ⟨rfl, rfl⟩ := hw1
  refine ax_w ([(a0, .inr (12, [.ref b0, .ref b1, .int 0, .int 0, .int 1, .int 0, .int 0, .int 0, .int 0, .int 0, .int 0, .int 0, .int 0, .ref b2, .ref b3, .ref b4, .ref b5, .ref b6, .int 0, .int 1, .int 0, .ref b7, .ref b8, .ref b9, .ref b10, .int 0, .ref b11, .ref b12, .int 0, .int 0, .ref b13, .ref b14, .ref b15, .ref b16, .ref b17, .ref b18, .ref b19, .int 0, .int 0, .int 0, .int 0, .ref b20, .ref b21, .ref b22, .ref b23, .ref b24, .ref b25, .int 0, .ref b26, .ref b27, .ref b28, .ref b29, .ref b30, .ref b31, .ref b32, .int 0, .int 0, .ref b33, .ref b34, .ref b35, .ref b36, .ref b37, .int 0, .ref b38, .ref b39, .int 0, .ref b40, .ref b41, .ref b42, .ref b43, .ref b44, .ref b45, .int 0, .ref b46, .ref b47, .ref b48, .ref b49, .ref b50, .ref b51, .ref b52, .ref b53, .ref b54, .ref b55, .ref b56, .int 0, .int 0, .int 0, .int 0, .int (-1), .int 0, .int 0, .int 0, .int 0, .int 0, .int 0, .ref b57, .ref b58, .ref b59, .int 0, .ref b60, .ref b61, .int 0, .ref b62, .ref b63, .ref b64, .int 0, .ref b65, .ref b66, .ref b67, .ref b68, .ref b69, .ref b70, .int 0, .int (-1), .int 0, .ref b71, .int (-1), .int (-1), .int (-1), .ref b72, .int 0, .ref b73, .int 0, .ref b74, .int 0, .int 0, .ref b75]))]) rfl ?_
  refine ax_if_eq (pc := 36) C 41 d_MM_search_36 (by decide) (fun h => absurd h (by decide)) (fun _ => ?_)
  refine ax_iconst (pc := 39) C 0 d_MM_search_39 (by decide +kernel) ?_
  exact ax_iret (pc := 40) C d_MM_search_40 ⟨rfl, rfl⟩ (by decide) (by decide)
set_option maxHeartbeats 4000000 in
set_option maxRecDepth 100000 in
theorem m147_CP_search (l : Launch) (htr : l.stackTraces = false) (D : va_G) (kA : Nat → ClassId) (b0 : Nat) (i0 : Int32) (i1 : Int32) (i2 : Int32) (h0 : i2 < 1) (h1 : ¬ 3 < i1) (h2 : ¬ i1 < 1) : ax_Mx l D kA y_CP_search b_CP_search 5 (some .int) 6 90 1 6 [.ref b0, .int i0, .int i1, .int i2] [] "java/lang/IllegalArgumentException" (fun w1 => w1 = []) := by
  refine ax_Mx.of (by decide +kernel) (Nat.le_of_ble_eq_true rfl) ?_
  intro p e s m args below meth c C hadm hex hX hP0
  refine ax_ls ([(0, .ref b0), (1, .int i0), (2, .int i1), (3, .int i2)]) [0, 1, 2, 3] rfl ?_
  refine ax_iload_n (pc := 0) C d_CP_search_0 rfl 2 rfl ?_
  refine ax_iconst (pc := 1) C 1 d_CP_search_1 (by decide +kernel) ?_
  refine ax_icmp_lt (pc := 2) C 21 d_CP_search_2 (by decide) (fun h => absurd h h2) (fun _ => ?_)
  refine ax_iload_n (pc := 5) C d_CP_search_5 rfl 2 rfl ?_
  refine ax_iconst (pc := 6) C 3 d_CP_search_6 (by decide +kernel) ?_
  refine ax_icmp_gt (pc := 7) C 21 d_CP_search_7 (by decide) (fun h => absurd h h1) (fun _ => ?_)
  refine ax_iload_n (pc := 10) C d_CP_search_10 rfl 3 rfl ?_
  refine ax_iconst (pc := 11) C 1 d_CP_search_11 (by decide +kernel) ?_
  refine ax_icmp_lt (pc := 12) C 21 d_CP_search_12 (by decide) (fun _ => ?_) (fun h => absurd h0 h)
  exact ax_throw3 (pc := 21) C hadm htr hex hX hP0 (is := 278) (tx := "not 1 .. 3 elements or not 1 .. 50 seeds") ta_IAE (by decide +kernel) (by decide) tb_classLink_984 tb_instantiable_985 tb_initialized_21 (by decide +kernel) (by decide +kernel) (by decide +kernel) (by decide +kernel) d_CP_search_21 d_CP_search_24 d_CP_search_25 d_CP_search_28 d_CP_search_31 (Nat.le_of_ble_eq_true rfl) (Nat.le_of_ble_eq_true rfl) (Nat.le_of_ble_eq_true rfl) (Nat.le_of_ble_eq_true rfl) rfl rfl rfl
set_option maxHeartbeats 4000000 in
set_option maxRecDepth 100000 in
theorem m146_Law_search (l : Launch) (htr : l.stackTraces = false) (D : va_G) (kA : Nat → ClassId) (a0 : Nat) (b0 : Nat) (b1 : Nat) (b2 : Nat) (b3 : Nat) (b4 : Nat) (b5 : Nat) (b6 : Nat) (b7 : Nat) (b8 : Nat) (b9 : Nat) (b10 : Nat) (i0 : Int32) (i1 : Int32) (i2 : Int32) (h0 : i2 < 1) (h1 : ¬ 3 < i1) (h2 : ¬ i1 < 1) : ax_Mw l D kA y_Law_search b_Law_search 6 [(0, 12, 15, 19)] 7 114 1 6 [.ref a0, .int i0, .int i1, .int i2, .ref b0] [(a0, .inr (11, [.ref b1, .ref b2, .ref b3, .ref b4, .ref b5, .ref b6, .ref b7, .ref b8, .ref b9, .ref b10, .int 0, .int 0]))] (fun r w1 => r = 1 ∧ w1 = [(a0, .inr (11, [.ref b1, .ref b2, .ref b3, .ref b4, .ref b5, .ref b6, .ref b7, .ref b8, .ref b9, .ref b10, .int 0, .int 0]))]) := by
  refine ax_Mw.of (by decide +kernel) (Nat.le_of_ble_eq_true rfl) ?_
  intro p e s m args below meth c C hadm hmeth hcode htb hX
  refine ax_ls ([(0, .ref a0), (1, .int i0), (2, .int i1), (3, .int i2), (4, .ref b0)]) [0, 1, 2, 3, 4] rfl ?_
  refine ax_aload (pc := 0) C d_Law_search_0 4 rfl ?_
  refine ax_iconst (pc := 2) C 0 d_Law_search_2 (by decide +kernel) ?_
  refine ax_aload_n (pc := 3) C d_Law_search_3 rfl 0 rfl ?_
  refine ax_iload_n (pc := 4) C d_Law_search_4 rfl 1 rfl ?_
  refine ax_iload_n (pc := 5) C d_Law_search_5 rfl 2 rfl ?_
  refine ax_iload_n (pc := 6) C d_Law_search_6 rfl 3 rfl ?_
  refine ax_callVx (pc := 7) C hX (hpc := 15) (As := [.int i0, .int i1, .int i2]) (rest := [.int 0, .ref b0]) (wr := [(a0, .inr (11, [.ref b1, .ref b2, .ref b3, .ref b4, .ref b5, .ref b6, .ref b7, .ref b8, .ref b9, .ref b10, .int 0, .int 0]))]) (m147_CP_search l htr D kA a0 i0 i1 i2 h0 h1 h2) ml_Law_54 0 rfl rfl rfl d_Law_search_7 rfl rfl [] [0] rfl (by decide) rfl (by decide) (by decide) (Nat.le_of_ble_eq_true rfl) (Nat.le_of_ble_eq_true rfl) (Nat.le_of_ble_eq_true rfl) (Nat.le_of_ble_eq_true rfl) (Nat.le_of_ble_eq_true rfl) (cx_F1 hadm hmeth hcode C.2.2.2.1 htb ⟨by decide, by decide⟩ (by decide) (C.2.2.2.2.1 _ tb_classLink_979)) (fun xe7 w1 hw1 => ?_)
  obtain rfl := hw1
  refine ax_w ([(a0, .inr (11, [.ref b1, .ref b2, .ref b3, .ref b4, .ref b5, .ref b6, .ref b7, .ref b8, .ref b9, .ref b10, .int 0, .int 0]))]) rfl ?_
  refine ax_astore (pc := 15) C d_Law_search_15 (Nat.le_of_ble_eq_true rfl) ([(5, .ref xe7), (0, .ref a0), (1, .int i0), (2, .int i1), (3, .int i2), (4, .ref b0)]) rfl ?_
  refine ax_iconst (pc := 17) C 1 d_Law_search_17 (by decide +kernel) ?_
  exact ax_iret (pc := 18) C d_Law_search_18 ⟨rfl, rfl⟩ (by decide) (by decide)
set_option maxHeartbeats 4000000 in
set_option maxRecDepth 100000 in
theorem m148_MM_search (l : Launch) (D : va_G) (kA : Nat → ClassId) (a0 : Nat) (b0 : Nat) (b1 : Nat) (b2 : Nat) (b3 : Nat) (b4 : Nat) (b5 : Nat) (b6 : Nat) (b7 : Nat) (b8 : Nat) (b9 : Nat) (b10 : Nat) (b11 : Nat) (b12 : Nat) (b13 : Nat) (b14 : Nat) (b15 : Nat) (b16 : Nat) (b17 : Nat) (b18 : Nat) (b19 : Nat) (b20 : Nat) (b21 : Nat) (b22 : Nat) (b23 : Nat) (b24 : Nat) (b25 : Nat) (b26 : Nat) (b27 : Nat) (b28 : Nat) (b29 : Nat) (b30 : Nat) (b31 : Nat) (b32 : Nat) (b33 : Nat) (b34 : Nat) (b35 : Nat) (b36 : Nat) (b37 : Nat) (b38 : Nat) (b39 : Nat) (b40 : Nat) (b41 : Nat) (b42 : Nat) (b43 : Nat) (b44 : Nat) (b45 : Nat) (b46 : Nat) (b47 : Nat) (b48 : Nat) (b49 : Nat) (b50 : Nat) (b51 : Nat) (b52 : Nat) (b53 : Nat) (b54 : Nat) (b55 : Nat) (b56 : Nat) (b57 : Nat) (b58 : Nat) (b59 : Nat) (b60 : Nat) (b61 : Nat) (b62 : Nat) (b63 : Nat) (b64 : Nat) (b65 : Nat) (b66 : Nat) (b67 : Nat) (b68 : Nat) (b69 : Nat) (b70 : Nat) (b71 : Nat) (b72 : Nat) (b73 : Nat) (b74 : Nat) (b75 : Nat) (i0 : Int32) (i1 : Int32) (i2 : Int32) (h0 : i2 < 1) (h1 : ¬ 3 < i1) (h2 : ¬ i1 < 1) : ax_Mi l D kA y_MM_search b_MM_search 5 .int 1 22 0 0 [.ref a0, .int i0, .int i1, .int i2] [(a0, .inr (12, [.ref b0, .ref b1, .int 0, .int 0, .int 0, .int 0, .int 0, .int 0, .int 0, .int 0, .int 0, .int 0, .int 0, .ref b2, .ref b3, .ref b4, .ref b5, .ref b6, .int 0, .int 1, .int 0, .ref b7, .ref b8, .ref b9, .ref b10, .int 0, .ref b11, .ref b12, .int 0, .int 0, .ref b13, .ref b14, .ref b15, .ref b16, .ref b17, .ref b18, .ref b19, .int 0, .int 0, .int 0, .int 0, .ref b20, .ref b21, .ref b22, .ref b23, .ref b24, .ref b25, .int 0, .ref b26, .ref b27, .ref b28, .ref b29, .ref b30, .ref b31, .ref b32, .int 0, .int 0, .ref b33, .ref b34, .ref b35, .ref b36, .ref b37, .int 0, .ref b38, .ref b39, .int 0, .ref b40, .ref b41, .ref b42, .ref b43, .ref b44, .ref b45, .int 0, .ref b46, .ref b47, .ref b48, .ref b49, .ref b50, .ref b51, .ref b52, .ref b53, .ref b54, .ref b55, .ref b56, .int 0, .int 0, .int 0, .int 0, .int (-1), .int 0, .int 0, .int 0, .int 0, .int 0, .int 0, .ref b57, .ref b58, .ref b59, .int 0, .ref b60, .ref b61, .int 0, .ref b62, .ref b63, .ref b64, .int 0, .ref b65, .ref b66, .ref b67, .ref b68, .ref b69, .ref b70, .int 0, .int (-1), .int 0, .ref b71, .int (-1), .int (-1), .int (-1), .ref b72, .int 0, .ref b73, .int 0, .ref b74, .int 0, .int 0, .ref b75]))] (fun r w1 => r = 0 ∧ w1 = [(a0, .inr (12, [.ref b0, .ref b1, .int 0, .int 0, .int 1, .int 0, .int 0, .int 0, .int 0, .int 0, .int 0, .int 0, .int 0, .ref b2, .ref b3, .ref b4, .ref b5, .ref b6, .int 0, .int 1, .int 0, .ref b7, .ref b8, .ref b9, .ref b10, .int 0, .ref b11, .ref b12, .int 0, .int 0, .ref b13, .ref b14, .ref b15, .ref b16, .ref b17, .ref b18, .ref b19, .int 0, .int 0, .int 0, .int 0, .ref b20, .ref b21, .ref b22, .ref b23, .ref b24, .ref b25, .int 0, .ref b26, .ref b27, .ref b28, .ref b29, .ref b30, .ref b31, .ref b32, .int 0, .int 0, .ref b33, .ref b34, .ref b35, .ref b36, .ref b37, .int 0, .ref b38, .ref b39, .int 0, .ref b40, .ref b41, .ref b42, .ref b43, .ref b44, .ref b45, .int 0, .ref b46, .ref b47, .ref b48, .ref b49, .ref b50, .ref b51, .ref b52, .ref b53, .ref b54, .ref b55, .ref b56, .int 0, .int 0, .int 0, .int 0, .int (-1), .int 0, .int 0, .int 0, .int 0, .int 0, .int 0, .ref b57, .ref b58, .ref b59, .int 0, .ref b60, .ref b61, .int 0, .ref b62, .ref b63, .ref b64, .int 0, .ref b65, .ref b66, .ref b67, .ref b68, .ref b69, .ref b70, .int 0, .int (-1), .int 0, .ref b71, .int (-1), .int (-1), .int (-1), .ref b72, .int 0, .ref b73, .int 0, .ref b74, .int 0, .int 0, .ref b75]))]) := by
  refine ax_Mi.of (by decide +kernel) (Nat.le_of_ble_eq_true rfl) ?_
  intro p e s m args below meth c C hnm
  refine ax_ls ([(0, .ref a0), (1, .int i0), (2, .int i1), (3, .int i2)]) [0, 1, 2, 3] rfl ?_
  refine ax_aload_n (pc := 0) C d_MM_search_0 rfl 0 rfl ?_
  refine ax_iconst (pc := 1) C 0 d_MM_search_1 (by decide +kernel) ?_
  refine ax_put (pc := 2) C k_MM 4 lk_MM_24 d_MM_search_2 (Nat.le_of_ble_eq_true rfl) 0 rfl rfl rfl rfl (Nat.le_of_ble_eq_true rfl) ?_
  refine ax_w ([(a0, .inr (12, [.ref b0, .ref b1, .int 0, .int 0, .int 0, .int 0, .int 0, .int 0, .int 0, .int 0, .int 0, .int 0, .int 0, .ref b2, .ref b3, .ref b4, .ref b5, .ref b6, .int 0, .int 1, .int 0, .ref b7, .ref b8, .ref b9, .ref b10, .int 0, .ref b11, .ref b12, .int 0, .int 0, .ref b13, .ref b14, .ref b15, .ref b16, .ref b17, .ref b18, .ref b19, .int 0, .int 0, .int 0, .int 0, .ref b20, .ref b21, .ref b22, .ref b23, .ref b24, .ref b25, .int 0, .ref b26, .ref b27, .ref b28, .ref b29, .ref b30, .ref b31, .ref b32, .int 0, .int 0, .ref b33, .ref b34, .ref b35, .ref b36, .ref b37, .int 0, .ref b38, .ref b39, .int 0, .ref b40, .ref b41, .ref b42, .ref b43, .ref b44, .ref b45, .int 0, .ref b46, .ref b47, .ref b48, .ref b49, .ref b50, .ref b51, .ref b52, .ref b53, .ref b54, .ref b55, .ref b56, .int 0, .int 0, .int 0, .int 0, .int (-1), .int 0, .int 0, .int 0, .int 0, .int 0, .int 0, .ref b57, .ref b58, .ref b59, .int 0, .ref b60, .ref b61, .int 0, .ref b62, .ref b63, .ref b64, .int 0, .ref b65, .ref b66, .ref b67, .ref b68, .ref b69, .ref b70, .int 0, .int (-1), .int 0, .ref b71, .int (-1), .int (-1), .int (-1), .ref b72, .int 0, .ref b73, .int 0, .ref b74, .int 0, .int 0, .ref b75]))]) rfl ?_
  refine ax_aload_n (pc := 5) C d_MM_search_5 rfl 0 rfl ?_
  refine ax_iconst (pc := 6) C 1 d_MM_search_6 (by decide +kernel) ?_
  refine ax_iload_n (pc := 7) C d_MM_search_7 rfl 2 rfl ?_
  refine ax_iconst (pc := 8) C 1 d_MM_search_8 (by decide +kernel) ?_
  refine ax_icmp_lt (pc := 9) C 28 d_MM_search_9 (by decide) (fun h => absurd h h2) (fun _ => ?_)
  refine ax_iload_n (pc := 12) C d_MM_search_12 rfl 2 rfl ?_
  refine ax_iconst (pc := 13) C 3 d_MM_search_13 (by decide +kernel) ?_
  refine ax_icmp_gt (pc := 14) C 28 d_MM_search_14 (by decide) (fun h => absurd h h1) (fun _ => ?_)
  refine ax_iload_n (pc := 17) C d_MM_search_17 rfl 3 rfl ?_
  refine ax_iconst (pc := 18) C 1 d_MM_search_18 (by decide +kernel) ?_
  refine ax_icmp_lt (pc := 19) C 28 d_MM_search_19 (by decide) (fun _ => ?_) (fun h => absurd h0 h)
  refine ax_iconst (pc := 28) C 1 d_MM_search_28 (by decide +kernel) ?_
  refine ax_goto (pc := 29) C 33 d_MM_search_29 (by decide) ?_
  refine ax_callVi (pc := 33) C (As := [.int 1, .int 1]) (rest := []) (wr := []) (m34_MM_refuse l D kA a0 b0 b1 b2 b3 b4 b5 b6 b7 b8 b9 b10 b11 b12 b13 b14 b15 b16 b17 b18 b19 b20 b21 b22 b23 b24 b25 b26 b27 b28 b29 b30 b31 b32 b33 b34 b35 b36 b37 b38 b39 b40 b41 b42 b43 b44 b45 b46 b47 b48 b49 b50 b51 b52 b53 b54 b55 b56 b57 b58 b59 b60 b61 b62 b63 b64 b65 b66 b67 b68 b69 b70 b71 b72 b73 b74 b75) ml_MM_401 0 rfl rfl rfl d_MM_search_33 rfl rfl [0] [] rfl (by decide) rfl (by decide) (by decide) (Nat.le_of_ble_eq_true rfl) (Nat.le_of_ble_eq_true rfl) (Nat.le_of_ble_eq_true rfl) (Nat.le_of_ble_eq_true rfl) (Nat.le_of_ble_eq_true rfl) (fun r33 w1 hw1 => ?_)
  obtain ⟨rfl, rfl⟩ := hw1
  refine ax_w ([(a0, .inr (12, [.ref b0, .ref b1, .int 0, .int 0, .int 1, .int 0, .int 0, .int 0, .int 0, .int 0, .int 0, .int 0, .int 0, .ref b2, .ref b3, .ref b4, .ref b5, .ref b6, .int 0, .int 1, .int 0, .ref b7, .ref b8, .ref b9, .ref b10, .int 0, .ref b11, .ref b12, .int 0, .int 0, .ref b13, .ref b14, .ref b15, .ref b16, .ref b17, .ref b18, .ref b19, .int 0, .int 0, .int 0, .int 0, .ref b20, .ref b21, .ref b22, .ref b23, .ref b24, .ref b25, .int 0, .ref b26, .ref b27, .ref b28, .ref b29, .ref b30, .ref b31, .ref b32, .int 0, .int 0, .ref b33, .ref b34, .ref b35, .ref b36, .ref b37, .int 0, .ref b38, .ref b39, .int 0, .ref b40, .ref b41, .ref b42, .ref b43, .ref b44, .ref b45, .int 0, .ref b46, .ref b47, .ref b48, .ref b49, .ref b50, .ref b51, .ref b52, .ref b53, .ref b54, .ref b55, .ref b56, .int 0, .int 0, .int 0, .int 0, .int (-1), .int 0, .int 0, .int 0, .int 0, .int 0, .int 0, .ref b57, .ref b58, .ref b59, .int 0, .ref b60, .ref b61, .int 0, .ref b62, .ref b63, .ref b64, .int 0, .ref b65, .ref b66, .ref b67, .ref b68, .ref b69, .ref b70, .int 0, .int (-1), .int 0, .ref b71, .int (-1), .int (-1), .int (-1), .ref b72, .int 0, .ref b73, .int 0, .ref b74, .int 0, .int 0, .ref b75]))]) rfl ?_
  refine ax_if_eq (pc := 36) C 41 d_MM_search_36 (by decide) (fun h => absurd h (by decide)) (fun _ => ?_)
  refine ax_iconst (pc := 39) C 0 d_MM_search_39 (by decide +kernel) ?_
  exact ax_iret (pc := 40) C d_MM_search_40 ⟨rfl, rfl⟩ (by decide) (by decide)
