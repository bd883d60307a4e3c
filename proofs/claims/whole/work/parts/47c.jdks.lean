abbrev b_Str_coder : ByteArray := prog_25_method_152_code
def y_Str_coder : MethodName := ⟨"java/lang/String", "coder", "()B"⟩
theorem d_Str_coder_0 : decode b_Str_coder 0 = .ok (.getstatic 38, 3) := by decide +kernel
theorem d_Str_coder_3 : decode b_Str_coder 3 = .ok (.ifCond .eq 10, 3) := by decide +kernel
theorem d_Str_coder_6 : decode b_Str_coder 6 = .ok (.aload_n 0, 1) := by decide +kernel
theorem d_Str_coder_7 : decode b_Str_coder 7 = .ok (.getfield 15, 3) := by decide +kernel
theorem d_Str_coder_10 : decode b_Str_coder 10 = .ok (.goto 4, 3) := by decide +kernel
theorem d_Str_coder_13 : decode b_Str_coder 13 = .ok (.iconst 1, 1) := by decide +kernel
theorem d_Str_coder_14 : decode b_Str_coder 14 = .ok (.ireturn, 1) := by decide +kernel
abbrev b_Str_length : ByteArray := prog_25_method_54_code
def y_Str_length : MethodName := ⟨"java/lang/String", "length", "()I"⟩
theorem d_Str_length_0 : decode b_Str_length 0 = .ok (.aload_n 0, 1) := by decide +kernel
theorem d_Str_length_1 : decode b_Str_length 1 = .ok (.getfield 9, 3) := by decide +kernel
theorem d_Str_length_4 : decode b_Str_length 4 = .ok (.arraylength, 1) := by decide +kernel
theorem d_Str_length_5 : decode b_Str_length 5 = .ok (.aload_n 0, 1) := by decide +kernel
theorem d_Str_length_6 : decode b_Str_length 6 = .ok (.invokevirtual 335, 3) := by decide +kernel
theorem d_Str_length_9 : decode b_Str_length 9 = .ok (.ishr, 1) := by decide +kernel
theorem d_Str_length_10 : decode b_Str_length 10 = .ok (.ireturn, 1) := by decide +kernel
abbrev b_Str_isLatin1 : ByteArray := prog_25_method_154_code
def y_Str_isLatin1 : MethodName := ⟨"java/lang/String", "isLatin1", "()Z"⟩
theorem d_Str_isLatin1_0 : decode b_Str_isLatin1 0 = .ok (.getstatic 38, 3) := by decide +kernel
theorem d_Str_isLatin1_3 : decode b_Str_isLatin1 3 = .ok (.ifCond .eq 14, 3) := by decide +kernel
theorem d_Str_isLatin1_6 : decode b_Str_isLatin1 6 = .ok (.aload_n 0, 1) := by decide +kernel
theorem d_Str_isLatin1_7 : decode b_Str_isLatin1 7 = .ok (.getfield 15, 3) := by decide +kernel
theorem d_Str_isLatin1_10 : decode b_Str_isLatin1 10 = .ok (.ifCond .ne 7, 3) := by decide +kernel
theorem d_Str_isLatin1_13 : decode b_Str_isLatin1 13 = .ok (.iconst 1, 1) := by decide +kernel
theorem d_Str_isLatin1_14 : decode b_Str_isLatin1 14 = .ok (.goto 4, 3) := by decide +kernel
theorem d_Str_isLatin1_17 : decode b_Str_isLatin1 17 = .ok (.iconst 0, 1) := by decide +kernel
theorem d_Str_isLatin1_18 : decode b_Str_isLatin1 18 = .ok (.ireturn, 1) := by decide +kernel
abbrev b_Str_charAt : ByteArray := prog_25_method_56_code
def y_Str_charAt : MethodName := ⟨"java/lang/String", "charAt", "(I)C"⟩
theorem d_Str_charAt_0 : decode b_Str_charAt 0 = .ok (.aload_n 0, 1) := by decide +kernel
theorem d_Str_charAt_1 : decode b_Str_charAt 1 = .ok (.invokevirtual 492, 3) := by decide +kernel
theorem d_Str_charAt_4 : decode b_Str_charAt 4 = .ok (.ifCond .eq 12, 3) := by decide +kernel
theorem d_Str_charAt_7 : decode b_Str_charAt 7 = .ok (.aload_n 0, 1) := by decide +kernel
theorem d_Str_charAt_8 : decode b_Str_charAt 8 = .ok (.getfield 9, 3) := by decide +kernel
theorem d_Str_charAt_11 : decode b_Str_charAt 11 = .ok (.iload_n 1, 1) := by decide +kernel
theorem d_Str_charAt_12 : decode b_Str_charAt 12 = .ok (.invokestatic 495, 3) := by decide +kernel
theorem d_Str_charAt_15 : decode b_Str_charAt 15 = .ok (.ireturn, 1) := by decide +kernel
theorem d_Str_charAt_16 : decode b_Str_charAt 16 = .ok (.aload_n 0, 1) := by decide +kernel
theorem d_Str_charAt_17 : decode b_Str_charAt 17 = .ok (.getfield 9, 3) := by decide +kernel
theorem d_Str_charAt_20 : decode b_Str_charAt 20 = .ok (.iload_n 1, 1) := by decide +kernel
theorem d_Str_charAt_21 : decode b_Str_charAt 21 = .ok (.invokestatic 498, 3) := by decide +kernel
theorem d_Str_charAt_24 : decode b_Str_charAt 24 = .ok (.ireturn, 1) := by decide +kernel
abbrev b_Sl1_charAt : ByteArray := prog_26_method_2_code
def y_Sl1_charAt : MethodName := ⟨"java/lang/StringLatin1", "charAt", "([BI)C"⟩
theorem d_Sl1_charAt_0 : decode b_Sl1_charAt 0 = .ok (.iload_n 1, 1) := by decide +kernel
theorem d_Sl1_charAt_1 : decode b_Sl1_charAt 1 = .ok (.aload_n 0, 1) := by decide +kernel
theorem d_Sl1_charAt_2 : decode b_Sl1_charAt 2 = .ok (.arraylength, 1) := by decide +kernel
theorem d_Sl1_charAt_3 : decode b_Sl1_charAt 3 = .ok (.invokestatic 9, 3) := by decide +kernel
theorem d_Sl1_charAt_6 : decode b_Sl1_charAt 6 = .ok (.aload_n 0, 1) := by decide +kernel
theorem d_Sl1_charAt_7 : decode b_Sl1_charAt 7 = .ok (.iload_n 1, 1) := by decide +kernel
theorem d_Sl1_charAt_8 : decode b_Sl1_charAt 8 = .ok (.baload, 1) := by decide +kernel
theorem d_Sl1_charAt_9 : decode b_Sl1_charAt 9 = .ok (.sipush 255, 3) := by decide +kernel
theorem d_Sl1_charAt_12 : decode b_Sl1_charAt 12 = .ok (.iand, 1) := by decide +kernel
theorem d_Sl1_charAt_13 : decode b_Sl1_charAt 13 = .ok (.i2c, 1) := by decide +kernel
theorem d_Sl1_charAt_14 : decode b_Sl1_charAt 14 = .ok (.ireturn, 1) := by decide +kernel
abbrev b_Str_checkIndex : ByteArray := prog_25_method_155_code
def y_Str_checkIndex : MethodName := ⟨"java/lang/String", "checkIndex", "(II)V"⟩
theorem d_Str_checkIndex_0 : decode b_Str_checkIndex 0 = .ok (.iload_n 0, 1) := by decide +kernel
theorem d_Str_checkIndex_1 : decode b_Str_checkIndex 1 = .ok (.iload_n 1, 1) := by decide +kernel
theorem d_Str_checkIndex_2 : decode b_Str_checkIndex 2 = .ok (.getstatic 1053, 3) := by decide +kernel
theorem d_Str_checkIndex_5 : decode b_Str_checkIndex 5 = .ok (.invokestatic 1059, 3) := by decide +kernel
theorem d_Str_checkIndex_8 : decode b_Str_checkIndex 8 = .ok (.pop, 1) := by decide +kernel
theorem d_Str_checkIndex_9 : decode b_Str_checkIndex 9 = .ok (.return_, 1) := by decide +kernel
abbrev b_Pcd_checkIndex : ByteArray := prog_32_method_11_code
def y_Pcd_checkIndex : MethodName := ⟨"jdk/internal/util/Preconditions", "checkIndex", "(IILjava/util/function/BiFunction;)I"⟩
theorem d_Pcd_checkIndex_0 : decode b_Pcd_checkIndex 0 = .ok (.iload_n 0, 1) := by decide +kernel
theorem d_Pcd_checkIndex_1 : decode b_Pcd_checkIndex 1 = .ok (.ifCond .lt 8, 3) := by decide +kernel
theorem d_Pcd_checkIndex_4 : decode b_Pcd_checkIndex 4 = .ok (.iload_n 0, 1) := by decide +kernel
theorem d_Pcd_checkIndex_5 : decode b_Pcd_checkIndex 5 = .ok (.iload_n 1, 1) := by decide +kernel
theorem d_Pcd_checkIndex_6 : decode b_Pcd_checkIndex 6 = .ok (.if_icmp .lt 10, 3) := by decide +kernel
theorem d_Pcd_checkIndex_9 : decode b_Pcd_checkIndex 9 = .ok (.aload_n 2, 1) := by decide +kernel
theorem d_Pcd_checkIndex_10 : decode b_Pcd_checkIndex 10 = .ok (.iload_n 0, 1) := by decide +kernel
theorem d_Pcd_checkIndex_11 : decode b_Pcd_checkIndex 11 = .ok (.iload_n 1, 1) := by decide +kernel
theorem d_Pcd_checkIndex_12 : decode b_Pcd_checkIndex 12 = .ok (.invokestatic 95, 3) := by decide +kernel
theorem d_Pcd_checkIndex_15 : decode b_Pcd_checkIndex 15 = .ok (.athrow, 1) := by decide +kernel
theorem d_Pcd_checkIndex_16 : decode b_Pcd_checkIndex 16 = .ok (.iload_n 0, 1) := by decide +kernel
theorem d_Pcd_checkIndex_17 : decode b_Pcd_checkIndex 17 = .ok (.ireturn, 1) := by decide +kernel
theorem tc_Str_coder : Cond.code y_Str_coder b_Str_coder 1 (some (.byte)) ∈ lw_tbg := tb_in (i := 1345) (by decide +kernel) rfl
theorem ti_Str : Cond.initialized "java/lang/String" ∈ lw_tbg := tb_in (i := 26) (by decide +kernel) rfl
theorem ml_Str_335 : ax_LV "java/lang/String" 335 y_Str_coder b_Str_coder 1 (some (.byte)) 0 := ax_LV.mk (tb_in (i := 1342) (by decide +kernel) rfl) (tb_in (i := 1343) (by decide +kernel) rfl) (tb_in (i := 1344) (by decide +kernel) rfl) ti_Str tc_Str_coder (by decide +kernel)
theorem tc_Str_isLatin1 : Cond.code y_Str_isLatin1 b_Str_isLatin1 1 (some (.boolean)) ∈ lw_tbg := tb_in (i := 1355) (by decide +kernel) rfl
theorem ml_Str_492 : ax_LV "java/lang/String" 492 y_Str_isLatin1 b_Str_isLatin1 1 (some (.boolean)) 0 := ax_LV.mk (tb_in (i := 1352) (by decide +kernel) rfl) (tb_in (i := 1353) (by decide +kernel) rfl) (tb_in (i := 1354) (by decide +kernel) rfl) ti_Str tc_Str_isLatin1 (by decide +kernel)
theorem tc_Sl1_charAt : Cond.code y_Sl1_charAt b_Sl1_charAt 2 (some .char) ∈ lw_tbg := tb_in (i := 1358) (by decide +kernel) rfl
theorem ti_Sl1 : Cond.initialized "java/lang/StringLatin1" ∈ lw_tbg := tb_in (i := 27) (by decide +kernel) rfl
theorem ml_Str_495 : ax_LS "java/lang/String" 495 y_Sl1_charAt b_Sl1_charAt 2 (some .char) 2 := ax_LS.mk (tb_in (i := 1356) (by decide +kernel) rfl) (tb_in (i := 1357) (by decide +kernel) rfl) ti_Sl1 tc_Sl1_charAt (by decide +kernel)
theorem tc_Str_checkIndex : Cond.code y_Str_checkIndex b_Str_checkIndex 2 none ∈ lw_tbg := tb_in (i := 1361) (by decide +kernel) rfl
theorem ml_Sl1_9 : ax_LS "java/lang/StringLatin1" 9 y_Str_checkIndex b_Str_checkIndex 2 none 2 := ax_LS.mk (tb_in (i := 1359) (by decide +kernel) rfl) (tb_in (i := 1360) (by decide +kernel) rfl) ti_Str tc_Str_checkIndex (by decide +kernel)
theorem tc_Pcd_checkIndex : Cond.code y_Pcd_checkIndex b_Pcd_checkIndex 3 (some (.int)) ∈ lw_tbg := tb_in (i := 1366) (by decide +kernel) rfl
theorem ti_Pcd : Cond.initialized "jdk/internal/util/Preconditions" ∈ lw_tbg := tb_in (i := 28) (by decide +kernel) rfl
theorem ml_Str_1059 : ax_LS "java/lang/String" 1059 y_Pcd_checkIndex b_Pcd_checkIndex 3 (some (.int)) 3 := ax_LS.mk (tb_in (i := 1364) (by decide +kernel) rfl) (tb_in (i := 1365) (by decide +kernel) rfl) ti_Pcd tc_Pcd_checkIndex (by decide +kernel)
theorem tc_Str_length : Cond.code y_Str_length b_Str_length 1 (some (.int)) ∈ lw_tbg := tb_in (i := 1341) (by decide +kernel) rfl
theorem ml_CP_244 : ax_LV "ClauseProver" 244 y_Str_length b_Str_length 1 (some (.int)) 0 := ax_LV.mk (tb_in (i := 1338) (by decide +kernel) rfl) (tb_in (i := 1339) (by decide +kernel) rfl) (tb_in (i := 1340) (by decide +kernel) rfl) ti_Str tc_Str_length (by decide +kernel)
theorem tc_Str_charAt : Cond.code y_Str_charAt b_Str_charAt 2 (some .char) ∈ lw_tbg := tb_in (i := 1351) (by decide +kernel) rfl
theorem ml_CP_249 : ax_LV "ClauseProver" 249 y_Str_charAt b_Str_charAt 2 (some .char) 1 := ax_LV.mk (tb_in (i := 1348) (by decide +kernel) rfl) (tb_in (i := 1349) (by decide +kernel) rfl) (tb_in (i := 1350) (by decide +kernel) rfl) ti_Str tc_Str_charAt (by decide +kernel)
theorem fk_Str_38 : Cond.fieldLink "java/lang/String" 38 "java/lang/String" "COMPACT_STRINGS" "Z" ∈ lw_tbg := tb_in (i := 1346) (by decide +kernel) rfl
theorem fk_Str_1053 : Cond.fieldLink "java/lang/String" 1053 "jdk/internal/util/Preconditions" "SIOOBE_FORMATTER" "Ljava/util/function/BiFunction;" ∈ lw_tbg := tb_in (i := 1362) (by decide +kernel) rfl
theorem fk_Str_9 : Cond.fieldLink "java/lang/String" 9 "java/lang/String" "value" "[B" ∈ lw_tbg := tb_in (i := 2489) (by decide +kernel) rfl
theorem fk_Str_15 : Cond.fieldLink "java/lang/String" 15 "java/lang/String" "coder" "B" ∈ lw_tbg := tb_in (i := 2490) (by decide +kernel) rfl
section SJ
variable {p : Program} {l : Launch} {e : Env} {R : Room} {s : State} {m : MethodId} {args : Array Value} {below : List Frame} {meth : Method} {c : Code} {Q : State → Prop} {D : va_G} {kA : Nat → ClassId} {A : Nat → Prop} {nL : Nat} {cc : ByteArray} {own : String} {ret : Option FieldType} {pc cells slots : Nat} {ls : List (Nat × Value)} {st rest : List Value} {ws : va_W} {w0 : va_W} {mc ms : Nat}
theorem ax_i2c (C : ax_C p s m args meth c cc own nL ret D kA A) {x : Int32} (v : Int32) (hdg : decode cc pc = .ok (.i2c, 1)) (hv : (x.toUInt32 % 65536).toInt32 = v) (k : AW p l e R s m args below meth c D kA A nL Q (pc + 1) (ls) (.int v :: rest) (ws) (cells) (slots)) : AW p l e R s m args below meth c D kA A nL Q (pc) (ls) (.int x :: rest) (ws) (cells) (slots) := fun H locs la hP hD hS hl => lv_i2c C.1 C.2.1 hdg hv (k H locs la hP hD hS hl)
theorem ax_nret {ty : FieldType} {post : Int32 → va_W → Prop} (C : ax_C p s m args meth c cc own nL (some ty) D kA (va_A w0 s.heap.size)) (hdg : decode cc pc = .ok (.ireturn, 1)) {v : Int32} (hn : narrow ty (.int v) = .int v) (hpost : post v ws) (hc : cells ≤ mc) (hs : slots ≤ ms) : AW p l e R s m args below meth c D kA (va_A w0 s.heap.size) nL (ax_Qi below args s D kA w0 mc ms post) (pc) (ls) ([.int v]) (ws) (cells) (slots) := fun H locs la hP hD hS hl =>
  W.widen hc hs (W.zret C.1 C.2.1 C.2.2.2.2.2.2.2.2.1 hn (fun t ht hW => ⟨⟨v, ws, rfl, hpost, by rw [ht]; exact hP, va_K.moved hW.alike C.2.2.2.2.2.1, hD⟩, hS.F ht⟩) hS.2.2 hdg C.2.2.2.2.2.2.2.1)
end SJ
set_option maxRecDepth 4000 in
theorem c_coder (l : Launch) (D : va_G) (kA : Nat → ClassId) {adK adV : Nat → Nat} {i : Nat} (hi : i < 11) : ax_MiY (SX adK adV) l D kA y_Str_coder b_Str_coder 1 .byte 0 0 0 0 [.ref (adK i)] [] (fun r w1 => r = 0 ∧ w1 = []) := by
  refine ax_MiY.of (by decide +kernel) (Nat.le_of_ble_eq_true rfl) ?_
  intro p e s m args below meth c C hnm hX
  have C : ax_C p s m args meth c b_Str_coder "java/lang/String" 1 (some .byte) D kA (va_A [] s.heap.size) := C
  refine ax_ls [(0, .ref (adK i))] [0] rfl ?_
  refine ax_getsK (pc := 0) C hX.2.2.1 fk_Str_38 d_Str_coder_0 ?_
  refine ax_if_eq (pc := 3) C 13 d_Str_coder_3 (by decide) (fun h => absurd h (by decide)) (fun _ => ?_)
  refine ax_aload_n (pc := 6) C d_Str_coder_6 rfl 0 rfl ?_
  refine ax_getK (pc := 7) C (hX.1.1 i hi).2.1 fk_Str_15 d_Str_coder_7 ?_
  refine ax_goto (pc := 10) C 14 d_Str_coder_10 (by decide) ?_
  exact ax_nret (pc := 14) C d_Str_coder_14 rfl ⟨rfl, rfl⟩ (Nat.le_refl _) (Nat.le_refl _)
theorem st_shr {i : Nat} (hi : i < 11) : Int32.ofNat (stL.getD i 0) >>> ((0 : Int32) &&& 31) = Int32.ofNat (stL.getD i 0) := by
  match i, hi with
  | 0, _ => decide
  | 1, _ => decide
  | 2, _ => decide
  | 3, _ => decide
  | 4, _ => decide
  | 5, _ => decide
  | 6, _ => decide
  | 7, _ => decide
  | 8, _ => decide
  | 9, _ => decide
  | 10, _ => decide
  | n + 11, h => omega
set_option maxRecDepth 4000 in
theorem c_slen (l : Launch) (D : va_G) (kA : Nat → ClassId) {adK adV : Nat → Nat} {i : Nat} (hi : i < 11) : ax_MiY (SX adK adV) l D kA y_Str_length b_Str_length 1 .int 1 30 0 0 [.ref (adK i)] [] (fun r w1 => r = Int32.ofNat (stL.getD i 0) ∧ w1 = []) := by
  refine ax_MiY.of (by decide +kernel) (Nat.le_of_ble_eq_true rfl) ?_
  intro p e s m args below meth c C hnm hX
  have C : ax_C p s m args meth c b_Str_length "java/lang/String" 1 (some .int) D kA (va_A [] s.heap.size) := C
  refine ax_ls [(0, .ref (adK i))] [0] rfl ?_
  refine ax_aload_n (pc := 0) C d_Str_length_0 rfl 0 rfl ?_
  refine ax_getK (pc := 1) C (hX.1.1 i hi).2.2.1 fk_Str_9 d_Str_length_1 ?_
  refine ax_lenK (pc := 4) C (hX.1.1 i hi).2.2.2 d_Str_length_4 ?_
  refine ax_aload_n (pc := 5) C d_Str_length_5 rfl 0 rfl ?_
  refine ax_callViY (SX_ok adK adV) (pc := 6) C hX (As := []) (rest := [.int (Int32.ofNat (stL.getD i 0))]) (wr := []) (c_coder l D kA hi) ml_Str_335 (fun H locs hP hS => vk_recv hX.1 hi hS) d_Str_length_6 rfl rfl [] [] rfl (by decide) rfl (by decide) (by intro i h; cases h) (Nat.le_of_ble_eq_true rfl) (Nat.le_of_ble_eq_true rfl) (Nat.le_of_ble_eq_true rfl) (Nat.le_of_ble_eq_true rfl) (Nat.le_of_ble_eq_true rfl) (fun r w1 hw => ?_)
  obtain ⟨rfl, rfl⟩ := hw
  refine ax_ishr (pc := 9) C d_Str_length_9 ?_
  refine ax_iret (pc := 10) C d_Str_length_10 ⟨?_, rfl⟩ (Nat.le_refl _) (Nat.le_refl _)
  exact st_shr hi
set_option maxRecDepth 4000 in
theorem c_isL1 (l : Launch) (D : va_G) (kA : Nat → ClassId) {adK adV : Nat → Nat} {i : Nat} (hi : i < 11) : ax_MiY (SX adK adV) l D kA y_Str_isLatin1 b_Str_isLatin1 1 .boolean 0 0 0 0 [.ref (adK i)] [] (fun r w1 => r = 1 ∧ w1 = []) := by
  refine ax_MiY.of (by decide +kernel) (Nat.le_of_ble_eq_true rfl) ?_
  intro p e s m args below meth c C hnm hX
  have C : ax_C p s m args meth c b_Str_isLatin1 "java/lang/String" 1 (some .boolean) D kA (va_A [] s.heap.size) := C
  refine ax_ls [(0, .ref (adK i))] [0] rfl ?_
  refine ax_getsK (pc := 0) C hX.2.2.1 fk_Str_38 d_Str_isLatin1_0 ?_
  refine ax_if_eq (pc := 3) C 17 d_Str_isLatin1_3 (by decide) (fun h => absurd h (by decide)) (fun _ => ?_)
  refine ax_aload_n (pc := 6) C d_Str_isLatin1_6 rfl 0 rfl ?_
  refine ax_getK (pc := 7) C (hX.1.1 i hi).2.1 fk_Str_15 d_Str_isLatin1_7 ?_
  refine ax_if_ne (pc := 10) C 17 d_Str_isLatin1_10 (by decide) (fun h => absurd rfl h) (fun _ => ?_)
  refine ax_iconst (pc := 13) C 1 d_Str_isLatin1_13 (by decide +kernel) ?_
  refine ax_goto (pc := 14) C 18 d_Str_isLatin1_14 (by decide) ?_
  exact ax_zret (pc := 18) C d_Str_isLatin1_18 rfl ⟨rfl, rfl⟩ (Nat.le_refl _) (Nat.le_refl _)
set_option maxRecDepth 4000 in
theorem c_pck (l : Launch) (D : va_G) (kA : Nat → ClassId) {adK adV : Nat → Nat} {x n : Int32} {v : Value} (hv : v.isRef = true) (h0 : ¬ x < 0) (h1 : x < n) : ax_MiY (SX adK adV) l D kA y_Pcd_checkIndex b_Pcd_checkIndex 3 .int 0 0 0 0 [.int x, .int n, v] [] (fun r w1 => r = x ∧ w1 = []) := by
  refine ax_MiY.of (by decide +kernel) (by cases v <;> first | exact Nat.le_of_ble_eq_true rfl | cases hv) ?_
  intro p e s m args below meth c C hnm hX
  have C : ax_C p s m args meth c b_Pcd_checkIndex "jdk/internal/util/Preconditions" 3 (some .int) D kA (va_A [] s.heap.size) := C
  refine ax_ls [(0, .int x), (1, .int n)] [0, 1] (by rfl) ?_
  refine ax_iload_n (pc := 0) C d_Pcd_checkIndex_0 rfl 0 rfl ?_
  refine ax_if_lt (pc := 1) C 9 d_Pcd_checkIndex_1 (by decide) (fun h => absurd h h0) (fun _ => ?_)
  refine ax_iload_n (pc := 4) C d_Pcd_checkIndex_4 rfl 0 rfl ?_
  refine ax_iload_n (pc := 5) C d_Pcd_checkIndex_5 rfl 1 rfl ?_
  refine ax_icmp_lt (pc := 6) C 16 d_Pcd_checkIndex_6 (by decide) (fun _ => ?_) (fun h => absurd h1 h)
  refine ax_iload_n (pc := 16) C d_Pcd_checkIndex_16 rfl 0 rfl ?_
  exact ax_iret (pc := 17) C d_Pcd_checkIndex_17 ⟨rfl, rfl⟩ (Nat.le_refl _) (Nat.le_refl _)
theorem catR {v : Value} (h : v.isRef = true) : v.category = 1 := by cases v <;> first | rfl | cases h
set_option maxRecDepth 4000 in
theorem c_sck (l : Launch) (D : va_G) (kA : Nat → ClassId) {adK adV : Nat → Nat} {x n : Int32} (h0 : ¬ x < 0) (h1 : x < n) : ax_MvY (SX adK adV) l D kA y_Str_checkIndex b_Str_checkIndex 2 1 30 0 0 [.int x, .int n] [] (fun w1 => w1 = []) := by
  refine ax_MvY.of (by decide +kernel) (Nat.le_of_ble_eq_true rfl) ?_
  intro p e s m args below meth c C hnm hX
  have C : ax_C p s m args meth c b_Str_checkIndex "java/lang/String" 2 none D kA (va_A [] s.heap.size) := C
  refine ax_ls [(0, .int x), (1, .int n)] [0, 1] rfl ?_
  refine ax_iload_n (pc := 0) C d_Str_checkIndex_0 rfl 0 rfl ?_
  refine ax_iload_n (pc := 1) C d_Str_checkIndex_1 rfl 1 rfl ?_
  refine ax_gets (pc := 2) C hX.2.2.2 (tb_in (i := 28) (by decide +kernel) rfl) fk_Str_1053 d_Str_checkIndex_2 (fun v hv => ?_)
  refine ax_callSiY (SX_ok adK adV) (pc := 5) C hX (As := [.int x, .int n, v]) (rest := []) (wr := []) (c_pck l D kA hv h0 h1) ml_Str_1059 d_Str_checkIndex_5 rfl rfl [] [] rfl (by decide) rfl (by decide) (by intro i h; cases h) (Nat.le_of_ble_eq_true rfl) (Nat.le_of_ble_eq_true rfl) (Nat.le_of_ble_eq_true rfl) (Nat.le_of_ble_eq_true rfl) (Nat.le_of_ble_eq_true rfl) (fun r w1 hw => ?_)
  obtain ⟨rfl, rfl⟩ := hw
  refine ax_pop (pc := 8) C d_Str_checkIndex_8 rfl ?_
  exact ax_vret (pc := 9) C d_Str_checkIndex_9 rfl (Nat.le_refl _) (Nat.le_refl _)
theorem st_len {i : Nat} (hi : i < 11) : stL.getD i 0 < 2 ^ 31 := by
  have : ∀ i, i < 11 → stL.getD i 0 < 2 ^ 31 := by decide +kernel
  exact this i hi
/-- the sign j of the String i -/
def stC (i j : Nat) : Int32 := (stB.getD i []).getD j 0
theorem st_all : ∀ i, i < 11 → ∀ j, j < stL.getD i 0 → (¬ Int32.ofNat j < 0 ∧ Int32.ofNat j < Int32.ofNat (stL.getD i 0) ∧ (Int32.ofNat j).toNatClampNeg = j ∧ ((stC i j &&& 255).toUInt32 % 65536).toInt32 = stC i j ∧ narrow .char (.int (stC i j)) = .int (stC i j)) := by decide +kernel
theorem st_ch {i j : Nat} (hi : i < 11) (hj : j < stL.getD i 0) : ¬ Int32.ofNat j < 0 ∧ Int32.ofNat j < Int32.ofNat (stL.getD i 0) ∧ vp_in (Int32.ofNat j) (stL.getD i 0) ∧ (((stB.getD i []).getD (Int32.ofNat j).toNatClampNeg 0 &&& 255).toUInt32 % 65536).toInt32 = stC i j ∧ narrow .char (.int (stC i j)) = .int (stC i j) := by
  obtain ⟨h1, h2, h3, h4, h5⟩ := st_all i hi j hj
  refine ⟨h1, h2, vp_in_nI hj (st_len hi), by rw [h3]; exact h4, h5⟩
set_option maxRecDepth 4000 in
theorem c_l1c (l : Launch) (D : va_G) (kA : Nat → ClassId) {adK adV : Nat → Nat} {i j : Nat} (hi : i < 11) (hj : j < stL.getD i 0) : ax_MiY (SX adK adV) l D kA y_Sl1_charAt b_Sl1_charAt 2 .char 2 60 0 0 [.ref (adV i), .int (Int32.ofNat j)] [] (fun r w1 => r = stC i j ∧ w1 = []) := by
  refine ax_MiY.of (by decide +kernel) (Nat.le_of_ble_eq_true rfl) ?_
  intro p e s m args below meth c C hnm hX
  have C : ax_C p s m args meth c b_Sl1_charAt "java/lang/StringLatin1" 2 (some .char) D kA (va_A [] s.heap.size) := C
  have hs := st_ch hi hj
  refine ax_ls [(0, .ref (adV i)), (1, .int (Int32.ofNat j))] [0, 1] rfl ?_
  refine ax_iload_n (pc := 0) C d_Sl1_charAt_0 rfl 1 rfl ?_
  refine ax_aload_n (pc := 1) C d_Sl1_charAt_1 rfl 0 rfl ?_
  refine ax_lenK (pc := 2) C (hX.1.1 i hi).2.2.2 d_Sl1_charAt_2 ?_
  refine ax_callSvY (SX_ok adK adV) (pc := 3) C hX (As := [.int (Int32.ofNat j), .int (Int32.ofNat (stL.getD i 0))]) (rest := []) (wr := []) (c_sck l D kA hs.1 hs.2.1) ml_Sl1_9 d_Sl1_charAt_3 rfl rfl [] [] rfl (by decide) rfl (by decide) (by intro i h; cases h) (Nat.le_of_ble_eq_true rfl) (Nat.le_of_ble_eq_true rfl) (Nat.le_of_ble_eq_true rfl) (Nat.le_of_ble_eq_true rfl) (Nat.le_of_ble_eq_true rfl) (fun w1 hw => ?_)
  obtain rfl := hw
  refine ax_aload_n (pc := 6) C d_Sl1_charAt_6 rfl 0 rfl ?_
  refine ax_iload_n (pc := 7) C d_Sl1_charAt_7 rfl 1 rfl ?_
  refine ax_baldK (pc := 8) C (hX.1.1 i hi).2.2.2 hs.2.2.1 rfl d_Sl1_charAt_8 ?_
  refine ax_sipush (pc := 9) C 255 d_Sl1_charAt_9 (by decide +kernel) ?_
  refine ax_iand (pc := 12) C d_Sl1_charAt_12 ?_
  refine ax_i2c (pc := 13) C (stC i j) d_Sl1_charAt_13 hs.2.2.2.1 ?_
  exact ax_nret (pc := 14) C d_Sl1_charAt_14 hs.2.2.2.2 ⟨rfl, rfl⟩ (Nat.le_refl _) (Nat.le_refl _)
set_option maxRecDepth 4000 in
theorem c_sch (l : Launch) (D : va_G) (kA : Nat → ClassId) {adK adV : Nat → Nat} {i j : Nat} (hi : i < 11) (hj : j < stL.getD i 0) : ax_MiY (SX adK adV) l D kA y_Str_charAt b_Str_charAt 2 .char 3 90 0 0 [.ref (adK i), .int (Int32.ofNat j)] [] (fun r w1 => r = stC i j ∧ w1 = []) := by
  refine ax_MiY.of (by decide +kernel) (Nat.le_of_ble_eq_true rfl) ?_
  intro p e s m args below meth c C hnm hX
  have C : ax_C p s m args meth c b_Str_charAt "java/lang/String" 2 (some .char) D kA (va_A [] s.heap.size) := C
  have hs := st_ch hi hj
  refine ax_ls [(0, .ref (adK i)), (1, .int (Int32.ofNat j))] [0, 1] rfl ?_
  refine ax_aload_n (pc := 0) C d_Str_charAt_0 rfl 0 rfl ?_
  refine ax_callViY (SX_ok adK adV) (pc := 1) C hX (As := []) (rest := []) (wr := []) (c_isL1 l D kA hi) ml_Str_492 (fun H locs hP hS => vk_recv hX.1 hi hS) d_Str_charAt_1 rfl rfl [] [] rfl (by decide) rfl (by decide) (by intro i h; cases h) (Nat.le_of_ble_eq_true rfl) (Nat.le_of_ble_eq_true rfl) (Nat.le_of_ble_eq_true rfl) (Nat.le_of_ble_eq_true rfl) (Nat.le_of_ble_eq_true rfl) (fun r w1 hw => ?_)
  obtain ⟨rfl, rfl⟩ := hw
  refine ax_if_eq (pc := 4) C 16 d_Str_charAt_4 (by decide) (fun h => absurd h (by decide)) (fun _ => ?_)
  refine ax_aload_n (pc := 7) C d_Str_charAt_7 rfl 0 rfl ?_
  refine ax_getK (pc := 8) C (hX.1.1 i hi).2.2.1 fk_Str_9 d_Str_charAt_8 ?_
  refine ax_iload_n (pc := 11) C d_Str_charAt_11 rfl 1 rfl ?_
  refine ax_callSiY (SX_ok adK adV) (pc := 12) C hX (As := [.ref (adV i), .int (Int32.ofNat j)]) (rest := []) (wr := []) (c_l1c l D kA hi hj) ml_Str_495 d_Str_charAt_12 rfl rfl [] [] rfl (by decide) rfl (by decide) (by intro i h; cases h) (Nat.le_of_ble_eq_true rfl) (Nat.le_of_ble_eq_true rfl) (Nat.le_of_ble_eq_true rfl) (Nat.le_of_ble_eq_true rfl) (Nat.le_of_ble_eq_true rfl) (fun r w1 hw => ?_)
  obtain ⟨rfl, rfl⟩ := hw
  exact ax_nret (pc := 15) C d_Str_charAt_15 hs.2.2.2.2 ⟨rfl, rfl⟩ (Nat.le_refl _) (Nat.le_refl _)
