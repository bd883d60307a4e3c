abbrev b_MM_say : ByteArray := prog_14_method_116_code
def y_MM_say : MethodName := ⟨"ClauseProverModel", "say", "(I)V"⟩
theorem d_MM_say_0 : decode b_MM_say 0 = .ok (.aload_n 0, 1) := by decide +kernel
theorem d_MM_say_1 : decode b_MM_say 1 = .ok (.getfield 21, 3) := by decide +kernel
theorem d_MM_say_4 : decode b_MM_say 4 = .ok (.aload_n 0, 1) := by decide +kernel
theorem d_MM_say_5 : decode b_MM_say 5 = .ok (.getfield 14, 3) := by decide +kernel
theorem d_MM_say_8 : decode b_MM_say 8 = .ok (.arraylength, 1) := by decide +kernel
theorem d_MM_say_9 : decode b_MM_say 9 = .ok (.if_icmp .ne 31, 3) := by decide +kernel
theorem d_MM_say_12 : decode b_MM_say 12 = .ok (.iconst 2, 1) := by decide +kernel
theorem d_MM_say_13 : decode b_MM_say 13 = .ok (.aload_n 0, 1) := by decide +kernel
theorem d_MM_say_14 : decode b_MM_say 14 = .ok (.getfield 21, 3) := by decide +kernel
theorem d_MM_say_17 : decode b_MM_say 17 = .ok (.imul, 1) := by decide +kernel
theorem d_MM_say_18 : decode b_MM_say 18 = .ok (.newarray .byte, 2) := by decide +kernel
theorem d_MM_say_20 : decode b_MM_say 20 = .ok (.astore_n 2, 1) := by decide +kernel
theorem d_MM_say_21 : decode b_MM_say 21 = .ok (.aload_n 0, 1) := by decide +kernel
theorem d_MM_say_22 : decode b_MM_say 22 = .ok (.getfield 14, 3) := by decide +kernel
theorem d_MM_say_25 : decode b_MM_say 25 = .ok (.iconst 0, 1) := by decide +kernel
theorem d_MM_say_26 : decode b_MM_say 26 = .ok (.aload_n 2, 1) := by decide +kernel
theorem d_MM_say_27 : decode b_MM_say 27 = .ok (.iconst 0, 1) := by decide +kernel
theorem d_MM_say_28 : decode b_MM_say 28 = .ok (.aload_n 0, 1) := by decide +kernel
theorem d_MM_say_29 : decode b_MM_say 29 = .ok (.getfield 21, 3) := by decide +kernel
theorem d_MM_say_32 : decode b_MM_say 32 = .ok (.invokestatic 554, 3) := by decide +kernel
theorem d_MM_say_35 : decode b_MM_say 35 = .ok (.aload_n 0, 1) := by decide +kernel
theorem d_MM_say_36 : decode b_MM_say 36 = .ok (.aload_n 2, 1) := by decide +kernel
theorem d_MM_say_37 : decode b_MM_say 37 = .ok (.putfield 14, 3) := by decide +kernel
theorem d_MM_say_40 : decode b_MM_say 40 = .ok (.aload_n 0, 1) := by decide +kernel
theorem d_MM_say_41 : decode b_MM_say 41 = .ok (.getfield 14, 3) := by decide +kernel
theorem d_MM_say_44 : decode b_MM_say 44 = .ok (.aload_n 0, 1) := by decide +kernel
theorem d_MM_say_45 : decode b_MM_say 45 = .ok (.dup, 1) := by decide +kernel
theorem d_MM_say_46 : decode b_MM_say 46 = .ok (.getfield 21, 3) := by decide +kernel
theorem d_MM_say_49 : decode b_MM_say 49 = .ok (.dup_x1, 1) := by decide +kernel
theorem d_MM_say_50 : decode b_MM_say 50 = .ok (.iconst 1, 1) := by decide +kernel
theorem d_MM_say_51 : decode b_MM_say 51 = .ok (.iadd, 1) := by decide +kernel
theorem d_MM_say_52 : decode b_MM_say 52 = .ok (.putfield 21, 3) := by decide +kernel
theorem d_MM_say_55 : decode b_MM_say 55 = .ok (.iload_n 1, 1) := by decide +kernel
theorem d_MM_say_56 : decode b_MM_say 56 = .ok (.i2b, 1) := by decide +kernel
theorem d_MM_say_57 : decode b_MM_say 57 = .ok (.bastore, 1) := by decide +kernel
theorem d_MM_say_58 : decode b_MM_say 58 = .ok (.return_, 1) := by decide +kernel
/-- one byte more to show; a new array where the old one is full -/
def mSay (σ : mS) (x : Int32) : mS := if σ.1 3 = Int32.ofNat (σ.2.2 1) then (va_up σ.1 3 (σ.1 3 + 1), va_up σ.2.1 1 (upd (va_cpy (σ.2.1 1) (fun _ => 0) 0 0 (σ.2.2 1)) (σ.2.2 1) (vp_nar .byte x.toInt8.toInt32)), va_up (va_up (va_up σ.2.2 1 (2 * σ.2.2 1)) 3001 (σ.2.2 3001 + 1)) 3002 (σ.2.2 3002 + 2 * σ.2.2 1)) else (va_up σ.1 3 (σ.1 3 + 1), va_up σ.2.1 1 (upd (σ.2.1 1) (σ.1 3).toNatClampNeg (vp_nar .byte x.toInt8.toInt32)), σ.2.2)
def sok (σ : mS) : Bool := decide (0 < σ.2.2 1 ∧ σ.2.2 1 ≤ 30000000 ∧ ∀ i, i < σ.2.2 1 → fits .byte (.int (σ.2.1 1 i)) = true) && (decide (σ.1 3 = Int32.ofNat (σ.2.2 1)) || bin (σ.1 3) (σ.2.2 1))
theorem dbl_i {L : Nat} (h : L ≤ 30000000) : (2 : Int32) * Int32.ofNat L = Int32.ofNat (2 * L) := by
  apply Int32.toInt_inj.mp
  rw [Int32.toInt_mul]
  have e1 : (Int32.ofNat L).toInt = (L : Int) := nI_toInt (n := L) (by omega)
  have e2 : (Int32.ofNat (2 * L)).toInt = ((2 * L : Nat) : Int) := nI_toInt (n := 2 * L) (by omega)
  have e3 : Int32.toInt 2 = 2 := rfl
  rw [e1, e2, e3]
  exact (Int.bmod_eq_of_le (by omega) (by omega)).trans (by omega)
theorem ofN_c {L : Nat} (h : L ≤ 1000000000) : (Int32.ofNat L).toNatClampNeg = L := by
  have e1 : (Int32.ofNat L).toInt = (L : Int) := nI_toInt (n := L) (by omega)
  show (Int32.ofNat L).toInt.toNat = L
  omega
theorem ofN_0 {L : Nat} (h : L ≤ 1000000000) : ¬ Int32.ofNat L < 0 := by
  have e1 : (Int32.ofNat L).toInt = (L : Int) := nI_toInt (n := L) (by omega)
  rw [Int32.lt_iff_toInt_lt, e1]
  have : Int32.toInt 0 = 0 := rfl
  omega
set_option maxHeartbeats 4000000 in
set_option maxRecDepth 100000 in
theorem c_say1 (l : Launch) (D : va_G) (kA : Nat → ClassId) (z : Nat) (v : Nat → Nat) (σ : mS) (x : Int32) (hn : ¬ σ.1 3 = Int32.ofNat (σ.2.2 1)) (hin : vp_in (σ.1 3) (σ.2.2 1)) : ax_Mv l D kA y_MM_say b_MM_say 3 0 0 0 0 [.ref z, .int x] (mmW kA z v σ) (fun w1 => w1 = mmW kA z v (mSay σ x)) := by
  refine ax_Mv.of (by decide +kernel) (Nat.le_of_ble_eq_true rfl) ?_
  intro p e s m args below meth c C hnm
  have C : ax_C p s m args meth c b_MM_say "ClauseProverModel" 3 none D kA (va_A (mmW kA z v σ) s.heap.size) := C
  have e9 : mSay σ x = mA (mI σ 3 (σ.1 3 + 1)) 1 (σ.1 3).toNatClampNeg (vp_nar .byte x.toInt8.toInt32) := by
    unfold mSay; rw [if_neg hn]; rfl
  refine ax_ls [(0, .ref z), (1, .int x)] [0, 1] rfl ?_
  refine ax_aload_n (pc := 0) C d_MM_say_0 rfl 0 rfl ?_
  refine mg_21 (pc := 1) C d_MM_say_1 ?_
  refine ax_aload_n (pc := 4) C d_MM_say_4 rfl 0 rfl ?_
  refine mg_14 (pc := 5) C d_MM_say_5 ?_
  refine mn_1 (pc := 8) C d_MM_say_8 ?_
  refine ax_icmp_ne (pc := 9) C 40 d_MM_say_9 (by decide) (fun hc => ?_) (fun hc => absurd hc hn)
  refine ax_aload_n (pc := 40) C d_MM_say_40 rfl 0 rfl ?_
  refine mg_14 (pc := 41) C d_MM_say_41 ?_
  refine ax_aload_n (pc := 44) C d_MM_say_44 rfl 0 rfl ?_
  refine ax_dup (pc := 45) C d_MM_say_45 rfl ?_
  refine mg_21 (pc := 46) C d_MM_say_46 ?_
  refine ax_dup_x1 (pc := 49) C d_MM_say_49 rfl rfl ?_
  refine ax_iconst (pc := 50) C 1 d_MM_say_50 (by decide +kernel) ?_
  refine ax_iadd (pc := 51) C d_MM_say_51 ?_
  refine ax_put (pc := 52) C k_MM 3 lk_MM_21 d_MM_say_52 (Nat.le_of_ble_eq_true rfl) 0 rfl rfl rfl rfl (Nat.le_of_ble_eq_true rfl) (ax_w (mmW kA z v (mI σ 3 (σ.1 3 + 1))) rfl ?_)
  refine ax_iload_n (pc := 55) C d_MM_say_55 rfl 1 rfl ?_
  refine ax_i2b (pc := 56) C x.toInt8.toInt32 d_MM_say_56 rfl ?_
  refine ms_1 (pc := 57) C d_MM_say_57 hin ?_
  exact ax_vret (pc := 58) C d_MM_say_58 (by rw [e9]) (Nat.le_of_ble_eq_true rfl) (Nat.le_of_ble_eq_true rfl)
set_option maxHeartbeats 4000000 in
set_option maxRecDepth 100000 in
theorem c_say2 (l : Launch) (D : va_G) (kA : Nat → ClassId) (z : Nat) (v : Nat → Nat) (σ : mS) (x : Int32) (hf : σ.1 3 = Int32.ofNat (σ.2.2 1)) (hL0 : 0 < σ.2.2 1) (hL : σ.2.2 1 ≤ 30000000) (hby : ∀ i, i < σ.2.2 1 → fits .byte (.int (σ.2.1 1 i)) = true) : ax_Mv l D kA y_MM_say b_MM_say 3 1 60 1 (2 * σ.2.2 1) [.ref z, .int x] (mmW kA z v σ) (fun w1 => ∃ q, w1 = mmW kA z (va_up v 1 q) (mSay σ x)) := by
  refine ax_Mv.of (by decide +kernel) (Nat.le_of_ble_eq_true rfl) ?_
  intro p e s m args below meth c C hnm
  have C : ax_C p s m args meth c b_MM_say "ClauseProverModel" 3 none D kA (va_A (mmW kA z v σ) s.heap.size) := C
  have c1 := ofN_c (L := 2 * σ.2.2 1) (by omega)
  have c0 := ofN_c (L := σ.2.2 1) (by omega)
  have n1 := ofN_0 (L := 2 * σ.2.2 1) (by omega)
  have n0 := ofN_0 (L := σ.2.2 1) (by omega)
  refine ax_ls [(0, .ref z), (1, .int x)] [0, 1] rfl ?_
  refine ax_aload_n (pc := 0) C d_MM_say_0 rfl 0 rfl ?_
  refine mg_21 (pc := 1) C d_MM_say_1 ?_
  refine ax_aload_n (pc := 4) C d_MM_say_4 rfl 0 rfl ?_
  refine mg_14 (pc := 5) C d_MM_say_5 ?_
  refine mn_1 (pc := 8) C d_MM_say_8 ?_
  refine ax_icmp_ne (pc := 9) C 40 d_MM_say_9 (by decide) (fun hc => absurd hf hc) (fun _ => ?_)
  refine ax_iconst (pc := 12) C 2 d_MM_say_12 (by decide +kernel) ?_
  refine ax_aload_n (pc := 13) C d_MM_say_13 rfl 0 rfl ?_
  refine mg_21 (pc := 14) C d_MM_say_14 ?_
  refine ax_imul (pc := 17) C d_MM_say_17 ?_
  rw [hf, dbl_i hL]
  refine ax_newB (pc := 18) C tb_arr_byte (2 * σ.2.2 1) d_MM_say_18 n1 c1 (by omega) (by show 0 + 1 ≤ 1; omega) (by show 0 + _ ≤ 2 * σ.2.2 1; omega) (fun q => ?_)
  refine ax_astore_n (pc := 20) C d_MM_say_20 rfl (Nat.le_of_ble_eq_true rfl) [(2, .ref q), (0, .ref z), (1, .int x)] rfl ?_
  refine ax_aload_n (pc := 21) C d_MM_say_21 rfl 1 rfl ?_
  refine ax_get (pc := 22) C k_MM 1 lk_MM_14 d_MM_say_22 (Nat.le_of_ble_eq_true rfl) 0 rfl rfl ?_
  refine ax_iconst (pc := 25) C 0 d_MM_say_25 (by decide +kernel) ?_
  refine ax_aload_n (pc := 26) C d_MM_say_26 rfl 0 rfl ?_
  refine ax_iconst (pc := 27) C 0 d_MM_say_27 (by decide +kernel) ?_
  refine ax_aload_n (pc := 28) C d_MM_say_28 rfl 1 rfl ?_
  refine ax_get (pc := 29) C k_MM 3 lk_MM_21 d_MM_say_29 (Nat.le_of_ble_eq_true rfl) 0 rfl rfl ?_
  rw [show (Value.int (σ.1 3)) = Value.int (Int32.ofNat (σ.2.2 1)) by rw [hf]]
  intro H locs la hP hD hS hl
  refine va_copyi C.1 C.2.1 (by rw [C.2.2.1]; exact hl.1.symm) C.2.2.2.1 (C.2.2.2.2.1 _ tb_methodLink_2164) (C.2.2.2.2.1 _ tb_native_616) (C.2.2.2.2.1 _ tb_static_615) (C.2.2.2.2.1 _ tb_initialized_20) C.2.2.2.2.2.1 hP hD hS 2 86 2 2 rfl rfl rfl rfl rfl (by decide) (by decide) n0 (by rw [c0]; show 0 + _ ≤ σ.2.2 1; omega) (by rw [c0]; show 0 + _ ≤ 2 * σ.2.2 1; omega) (fun i hi => by rw [c0] at hi; show fits .byte (.int (σ.2.1 1 (0 + i))) = true; rw [Nat.zero_add]; exact hby i hi) (Nat.le_refl _) (by have := nfw_ac; show 0 + (nativeFrameWords "java/lang/System" "arraycopy" 5 + 11) ≤ 60; omega) d_MM_say_32 (fun H1 locs1 hP1 hD1 hS1 => ?_)
  refine (?_ : AW p l e { frames := 1, cells := 1, slots := 2 * σ.2.2 1, locals := 60 } s m args below meth c D kA (va_A (mmW kA z v σ) s.heap.size) 3 _ 35 [(2, .ref q), (0, .ref z), (1, .int x)] [] (mmW kA z v σ ++ [(q, .inl (kA 2, 2 * σ.2.2 1, .inl (va_cpy (σ.2.1 1) (fun _ => 0) 0 0 (σ.2.2 1))))]) (0 + 1) (0 + 2 * σ.2.2 1)) H1 locs1 la (by rw [c0] at hP1; exact hP1) (by rw [c0] at hD1; exact hD1) hS1 hl
  refine ax_aload_n (pc := 35) C d_MM_say_35 rfl 1 rfl ?_
  refine ax_aload_n (pc := 36) C d_MM_say_36 rfl 0 rfl ?_
  refine ax_put (pc := 37) C k_MM 1 lk_MM_14 d_MM_say_37 (Nat.le_of_ble_eq_true rfl) 0 rfl rfl rfl rfl (Nat.le_of_ble_eq_true rfl) ?_
  refine ax_sub (0 :: 1 :: 86 :: (List.range 83).map (· + 3)) (mmW kA z (va_up v 1 q) (va_up σ.1 3 (σ.1 3), va_up σ.2.1 1 (va_cpy (σ.2.1 1) (fun _ => 0) 0 0 (σ.2.2 1)), va_up σ.2.2 1 (2 * σ.2.2 1))) (by decide +kernel) rfl ?_
  obtain ⟨σ2, e2⟩ : ∃ s2 : mS, s2 = (va_up σ.1 3 (σ.1 3), va_up σ.2.1 1 (va_cpy (σ.2.1 1) (fun _ => 0) 0 0 (σ.2.2 1)), va_up σ.2.2 1 (2 * σ.2.2 1)) := ⟨_, rfl⟩
  obtain ⟨v2, ev⟩ : ∃ v2, v2 = va_up v 1 q := ⟨_, rfl⟩
  have e3 : σ2.1 3 = Int32.ofNat (σ.2.2 1) := by rw [e2, ← hf]; rfl
  have e4 : σ2.2.2 1 = 2 * σ.2.2 1 := by rw [e2]; rfl
  rw [← e2, ← ev]
  refine ax_aload_n (pc := 40) C d_MM_say_40 rfl 1 rfl ?_
  refine mg_14 (pc := 41) C d_MM_say_41 ?_
  refine ax_aload_n (pc := 44) C d_MM_say_44 rfl 1 rfl ?_
  refine ax_dup (pc := 45) C d_MM_say_45 rfl ?_
  refine mg_21 (pc := 46) C d_MM_say_46 ?_
  refine ax_dup_x1 (pc := 49) C d_MM_say_49 rfl rfl ?_
  refine ax_iconst (pc := 50) C 1 d_MM_say_50 (by decide +kernel) ?_
  refine ax_iadd (pc := 51) C d_MM_say_51 ?_
  refine ax_put (pc := 52) C k_MM 3 lk_MM_21 d_MM_say_52 (Nat.le_of_ble_eq_true rfl) 0 rfl rfl rfl rfl (Nat.le_of_ble_eq_true rfl) (ax_w (mmW kA z v2 (mI σ2 3 (σ2.1 3 + 1))) rfl ?_)
  refine ax_iload_n (pc := 55) C d_MM_say_55 rfl 2 rfl ?_
  refine ax_i2b (pc := 56) C x.toInt8.toInt32 d_MM_say_56 rfl ?_
  refine ms_1 (pc := 57) C d_MM_say_57 (by rw [e3]; show vp_in _ (σ2.2.2 1); rw [e4]; exact vp_in_nI (by omega) (by omega)) ?_
  refine ax_vret (pc := 58) C d_MM_say_58 ⟨q, ?_⟩ (by omega) (by omega)
  rw [← ev]
  have e9 : mSay σ x = (va_up σ.1 3 (σ.1 3 + 1), va_up σ.2.1 1 (upd (va_cpy (σ.2.1 1) (fun _ => 0) 0 0 (σ.2.2 1)) (σ.2.2 1) (vp_nar .byte x.toInt8.toInt32)), va_up (va_up (va_up σ.2.2 1 (2 * σ.2.2 1)) 3001 (σ.2.2 3001 + 1)) 3002 (σ.2.2 3002 + 2 * σ.2.2 1)) := by
    unfold mSay; rw [if_pos hf]
  rw [e9, e3, c0, e2, hf]
  rfl
