theorem tb_methodLink_611 : Cond.methodLink "java/util/Arrays" 304 ⟨"java/lang/Math", "min", "(II)I"⟩ ∈ lw_tbg := tb_in (i := 611) (by decide +kernel) rfl
theorem tb_methodLink_614 : Cond.methodLink "java/util/Arrays" 150 ⟨"java/lang/System", "arraycopy", "(Ljava/lang/Object;ILjava/lang/Object;II)V"⟩ ∈ lw_tbg := tb_in (i := 614) (by decide +kernel) rfl
theorem tc_Arr_copyOf : Cond.code y_Arr_copyOf b_Arr_copyOf 3 (some (.array .int)) ∈ lw_tbg := tb_in (i := 603) (by decide +kernel) rfl
theorem ml_Row_17 : ax_LS "ClauseProver$Row" 17 y_Arr_copyOf b_Arr_copyOf 3 (some (.array .int)) 2 := ax_LS.mk (tb_in (i := 601) (by decide +kernel) rfl) (tb_in (i := 602) (by decide +kernel) rfl) ti_Arr tc_Arr_copyOf (by decide +kernel)
theorem lk_Row_13 : Cond.fieldLink "ClauseProver$Row" 13 (F_Row 1).1 (F_Row 1).2.1 (F_Row 1).2.2.1 ∈ lw_tbg := tb_in (i := 56) (by decide +kernel) rfl
theorem c_copyOf (l : Launch) (D : va_G) (kA : Nat → ClassId) (a L : Nat) (f : Nat → Int32) (m : Int32) (h0 : ¬ m < 0) (hne : ¬ m = Int32.ofNat L) (hi : Int32.ofNat L < m) (hl0 : ¬ Int32.ofNat L < 0) (hlL : (Int32.ofNat L).toNatClampNeg = L) (hL : L ≤ m.toNatClampNeg) (hb : m.toNatClampNeg * 8 ≤ 536870912) : ax_Mr l D kA y_Arr_copyOf b_Arr_copyOf 3 (.array .int) 1 60 1 m.toNatClampNeg [.ref a, .int m] [(a, .inl (kA 0, L, .inl f))] (fun q w1 => w1 = [(a, .inl (kA 0, L, .inl f)), (q, .inl (kA 0, m.toNatClampNeg, .inl (va_cpy f (fun _ => 0) 0 0 L)))]) := by
  refine ax_Mr.of (by decide +kernel) (Nat.le_of_ble_eq_true rfl) ?_
  intro p e s m0 args below meth c C hnm
  have C : ax_C p s m0 args meth c b_Arr_copyOf "java/util/Arrays" 3 (some (.array .int)) D kA (va_A [(a, .inl (kA 0, L, .inl f))] s.heap.size) := C
  refine ax_ls [(0, .ref a), (1, .int m)] [0, 1] rfl ?_
  refine ax_iload_n (pc := 0) C d_Arr_copyOf_0 rfl 1 rfl ?_
  refine ax_aload_n (pc := 1) C d_Arr_copyOf_1 rfl 0 rfl ?_
  refine ax_alen (pc := 2) C 0 0 rfl rfl _ rfl d_Arr_copyOf_2 ?_
  refine ax_icmp_ne (pc := 3) C 14 d_Arr_copyOf_3 (by decide) (fun hc => ?_) (fun hc => ?_)
  · refine ax_iload_n (pc := 14) C d_Arr_copyOf_14 rfl 1 rfl ?_
    refine ax_newI (pc := 15) C tb_arr_int m.toNatClampNeg d_Arr_copyOf_15 h0 rfl hb (by show 0 + 1 ≤ 1; omega) (by show 0 + _ ≤ m.toNatClampNeg; omega) (fun q => ?_)
    refine ax_astore_n (pc := 17) C d_Arr_copyOf_17 rfl (Nat.le_of_ble_eq_true rfl) [(2, .ref q), (0, .ref a), (1, .int m)] rfl ?_
    refine ax_aload_n (pc := 18) C d_Arr_copyOf_18 rfl 1 rfl ?_
    refine ax_iconst (pc := 19) C 0 d_Arr_copyOf_19 (by decide +kernel) ?_
    refine ax_aload_n (pc := 20) C d_Arr_copyOf_20 rfl 0 rfl ?_
    refine ax_iconst (pc := 21) C 0 d_Arr_copyOf_21 (by decide +kernel) ?_
    refine ax_aload_n (pc := 22) C d_Arr_copyOf_22 rfl 1 rfl ?_
    refine ax_alen (pc := 23) C 0 0 rfl rfl _ rfl d_Arr_copyOf_23 ?_
    refine ax_iload_n (pc := 24) C d_Arr_copyOf_24 rfl 2 rfl ?_
    intro H locs la hP hD hS hl
    refine va_mmin C.1 C.2.1 (by rw [C.2.2.1]; exact hl.1.symm) C.2.2.2.1 (C.2.2.2.2.1 _ tb_methodLink_611) (C.2.2.2.2.1 _ tb_static_612) (C.2.2.2.2.1 _ tb_initialized_19) (C.2.2.2.2.1 _ tcm_min) (Nat.le_refl _) (by show _ + 13 ≤ 60; simp [Value.category]) (by show 0 + 1 ≤ 1; omega) (by show 0 + _ ≤ m.toNatClampNeg; omega) d_Arr_copyOf_25 ?_
    have e1 : (if m < Int32.ofNat L then m else Int32.ofNat L) = Int32.ofNat L := if_neg (fun z => by rw [Int32.lt_iff_toInt_lt] at z hi; omega)
    rw [e1]
    refine va_copyi C.1 C.2.1 (by rw [C.2.2.1]; exact hl.1.symm) C.2.2.2.1 (C.2.2.2.2.1 _ tb_methodLink_614) (C.2.2.2.2.1 _ tb_native_616) (C.2.2.2.2.1 _ tb_static_615) (C.2.2.2.2.1 _ tb_initialized_20) C.2.2.2.2.2.1 hP hD hS 0 1 0 0 rfl rfl rfl rfl rfl (by decide) (by decide) hl0 (by rw [hlL]; show 0 + L ≤ L; omega) (by rw [hlL]; show 0 + L ≤ m.toNatClampNeg; omega) (fun i _ => rfl) (Nat.le_refl _) (by have := nfw_ac; show 0 + (nativeFrameWords "java/lang/System" "arraycopy" 5 + 11) ≤ 60; omega) d_Arr_copyOf_28 (fun H1 locs1 hP1 hD1 hS1 => ?_)
    refine (?_ : AW p l e { frames := 1, cells := 1, slots := m.toNatClampNeg, locals := 60 } s m0 args below meth c D kA (va_A [(a, .inl (kA 0, L, .inl f))] s.heap.size) 3 _ 31 [(2, .ref q), (0, .ref a), (1, .int m)] [] [(a, .inl (kA 0, L, .inl f)), (q, .inl (kA 0, m.toNatClampNeg, .inl (va_cpy f (fun _ => 0) 0 0 L)))] (0 + 1) (0 + m.toNatClampNeg)) H1 locs1 la (by rw [hlL] at hP1; exact hP1) (by rw [hlL] at hD1; exact hD1) hS1 hl
    refine ax_aload_n (pc := 31) C d_Arr_copyOf_31 rfl 0 rfl ?_
    exact ax_aret (pc := 32) C (Or.inr ⟨_, rfl⟩) d_Arr_copyOf_32 rfl (by omega) (by omega)
  · exact absurd hc hne
/-- a Row with room -/
theorem c_Row_add1 (l : Launch) (D : va_G) (kA : Nat → ClassId) (r a L : Nat) (f : Nat → Int32) (n x : Int32) (hn : ¬ n = Int32.ofNat L) (hin : vp_in n L) : ax_Mv l D kA y_Row_add b_Row_add 2 0 0 0 0 [.ref r, .int x] [(r, .inr (0, [.ref a, .int n])), (a, .inl (kA 0, L, .inl f))] (fun w1 => w1 = [(r, .inr (0, [.ref a, .int (n + 1)])), (a, .inl (kA 0, L, .inl (upd f n.toNatClampNeg x)))]) := by
  refine ax_Mv.of (by decide +kernel) (Nat.le_of_ble_eq_true rfl) ?_
  intro p e s m0 args below meth c C hnm
  have C : ax_C p s m0 args meth c b_Row_add "ClauseProver$Row" 2 none D kA (va_A [(r, .inr (0, [.ref a, .int n])), (a, .inl (kA 0, L, .inl f))] s.heap.size) := C
  refine ax_ls [(0, .ref r), (1, .int x)] [0, 1] rfl ?_
  refine ax_aload_n (pc := 0) C d_Row_add_0 rfl 0 rfl ?_
  refine ax_get (pc := 1) C k_Row 1 lk_Row_13 d_Row_add_1 (Nat.le_of_ble_eq_true rfl) 0 rfl rfl ?_
  refine ax_aload_n (pc := 4) C d_Row_add_4 rfl 0 rfl ?_
  refine ax_get (pc := 5) C k_Row 0 lk_Row_7 d_Row_add_5 (Nat.le_of_ble_eq_true rfl) 0 rfl rfl ?_
  refine ax_alen (pc := 8) C 1 0 rfl rfl _ rfl d_Row_add_8 ?_
  refine ax_icmp_ne (pc := 9) C 31 d_Row_add_9 (by decide) (fun hc => ?_) (fun hc => absurd hc hn)
  refine ax_aload_n (pc := 31) C d_Row_add_31 rfl 0 rfl ?_
  refine ax_get (pc := 32) C k_Row 0 lk_Row_7 d_Row_add_32 (Nat.le_of_ble_eq_true rfl) 0 rfl rfl ?_
  refine ax_aload_n (pc := 35) C d_Row_add_35 rfl 0 rfl ?_
  refine ax_dup (pc := 36) C d_Row_add_36 rfl ?_
  refine ax_get (pc := 37) C k_Row 1 lk_Row_13 d_Row_add_37 (Nat.le_of_ble_eq_true rfl) 0 rfl rfl ?_
  refine ax_dup_x1 (pc := 40) C d_Row_add_40 rfl rfl ?_
  refine ax_iconst (pc := 41) C 1 d_Row_add_41 (by decide +kernel) ?_
  refine ax_iadd (pc := 42) C d_Row_add_42 ?_
  refine ax_put (pc := 43) C k_Row 1 lk_Row_13 d_Row_add_43 (Nat.le_of_ble_eq_true rfl) 0 rfl rfl rfl rfl (Nat.le_of_ble_eq_true rfl) ?_
  refine ax_w [(r, .inr (0, [.ref a, .int (n + 1)])), (a, .inl (kA 0, L, .inl f))] rfl ?_
  refine ax_iload_n (pc := 46) C d_Row_add_46 rfl 1 rfl ?_
  refine ax_iast (pc := 47) C 1 rfl d_Row_add_47 hin ?_
  exact ax_vret (pc := 48) C d_Row_add_48 rfl (Nat.le_refl _) (Nat.le_refl _)
/-- a full one -/
theorem c_Row_add2 (l : Launch) (D : va_G) (kA : Nat → ClassId) (r a L : Nat) (f : Nat → Int32) (x : Int32) (hL : L ≤ 30000000) : ax_Mv l D kA y_Row_add b_Row_add 2 2 120 1 (2 * L + 1) [.ref r, .int x] [(r, .inr (0, [.ref a, .int (Int32.ofNat L)])), (a, .inl (kA 0, L, .inl f))] (fun w1 => ∃ a2, w1 = [(r, .inr (0, [.ref a2, .int (Int32.ofNat L + 1)])), (a2, .inl (kA 0, 2 * L + 1, .inl (upd (va_cpy f (fun _ => 0) 0 0 L) L x)))]) := by
  have t0 : (Int32.ofNat L).toInt = L := Int32.toInt_ofNat_of_lt (by omega)
  have t1 : (Int32.ofNat L).toNatClampNeg = L := Int32.toNatClampNeg_ofNat_of_lt (by omega)
  have e2 : (2 : Int32) * Int32.ofNat L + 1 = Int32.ofNat (2 * L + 1) := by
    rw [Int32.ofNat_add, Int32.ofNat_mul]; rfl
  have t2 : (Int32.ofNat (2 * L + 1)).toInt = ((2 * L + 1 : Nat) : Int) := Int32.toInt_ofNat_of_lt (by omega)
  have t3 : (Int32.ofNat (2 * L + 1)).toNatClampNeg = 2 * L + 1 := Int32.toNatClampNeg_ofNat_of_lt (by omega)
  have n0 : ¬ Int32.ofNat (2 * L + 1) < 0 := by rw [Int32.lt_iff_toInt_lt, t2]; show ¬ _ < (0 : Int); omega
  have n1 : ¬ Int32.ofNat L < 0 := by rw [Int32.lt_iff_toInt_lt, t0]; show ¬ _ < (0 : Int); omega
  have n2 : Int32.ofNat L < Int32.ofNat (2 * L + 1) := by rw [Int32.lt_iff_toInt_lt, t0, t2]; omega
  have n3 : ¬ Int32.ofNat (2 * L + 1) = Int32.ofNat L := fun z => by have := congrArg Int32.toInt z; rw [t0, t2] at this; omega
  have cof := c_copyOf l D kA a L f (Int32.ofNat (2 * L + 1)) n0 n3 n2 n1 t1 (by rw [t3]; omega) (by rw [t3]; omega)
  rw [t3] at cof
  refine ax_Mv.of (by decide +kernel) (Nat.le_of_ble_eq_true rfl) ?_
  intro p e s m0 args below meth c C hnm
  have C : ax_C p s m0 args meth c b_Row_add "ClauseProver$Row" 2 none D kA (va_A [(r, .inr (0, [.ref a, .int (Int32.ofNat L)])), (a, .inl (kA 0, L, .inl f))] s.heap.size) := C
  refine ax_ls [(0, .ref r), (1, .int x)] [0, 1] rfl ?_
  refine ax_aload_n (pc := 0) C d_Row_add_0 rfl 0 rfl ?_
  refine ax_get (pc := 1) C k_Row 1 lk_Row_13 d_Row_add_1 (Nat.le_of_ble_eq_true rfl) 0 rfl rfl ?_
  refine ax_aload_n (pc := 4) C d_Row_add_4 rfl 0 rfl ?_
  refine ax_get (pc := 5) C k_Row 0 lk_Row_7 d_Row_add_5 (Nat.le_of_ble_eq_true rfl) 0 rfl rfl ?_
  refine ax_alen (pc := 8) C 1 0 rfl rfl _ rfl d_Row_add_8 ?_
  refine ax_icmp_ne (pc := 9) C 31 d_Row_add_9 (by decide) (fun hc => absurd rfl hc) (fun hc => ?_)
  refine ax_aload_n (pc := 12) C d_Row_add_12 rfl 0 rfl ?_
  refine ax_aload_n (pc := 13) C d_Row_add_13 rfl 0 rfl ?_
  refine ax_get (pc := 14) C k_Row 0 lk_Row_7 d_Row_add_14 (Nat.le_of_ble_eq_true rfl) 0 rfl rfl ?_
  refine ax_iconst (pc := 17) C 2 d_Row_add_17 (by decide +kernel) ?_
  refine ax_aload_n (pc := 18) C d_Row_add_18 rfl 0 rfl ?_
  refine ax_get (pc := 19) C k_Row 1 lk_Row_13 d_Row_add_19 (Nat.le_of_ble_eq_true rfl) 0 rfl rfl ?_
  refine ax_imul (pc := 22) C d_Row_add_22 ?_
  refine ax_iconst (pc := 23) C 1 d_Row_add_23 (by decide +kernel) ?_
  refine ax_iadd (pc := 24) C d_Row_add_24 ?_
  rw [e2]
  refine ax_callSr (pc := 25) C (As := [.ref a, .int (Int32.ofNat (2 * L + 1))]) (rest := [.ref r]) (wr := [(r, .inr (0, [.ref a, .int (Int32.ofNat L)]))]) cof ml_Row_17 d_Row_add_25 rfl rfl [1] [0] rfl (by decide) rfl (by decide) (by decide) (by show 1 + 1 ≤ 2; omega) (by show 8 + (3 + 11) + 60 ≤ 120; omega) (by show 0 + 1 ≤ 1; omega) (by show 0 + (2 * L + 1) ≤ 2 * L + 1; omega) (Nat.le_of_ble_eq_true rfl) (fun q w1 hw => ?_)
  obtain rfl := hw
  refine ax_put (pc := 28) C k_Row 0 lk_Row_7 d_Row_add_28 (Nat.le_of_ble_eq_true rfl) 0 rfl rfl rfl rfl (Nat.le_of_ble_eq_true rfl) ?_
  refine ax_sub [0, 2] [(r, .inr (0, [.ref q, .int (Int32.ofNat L)])), (q, .inl (kA 0, 2 * L + 1, .inl (va_cpy f (fun _ => 0) 0 0 L)))] (by decide) rfl ?_
  refine ax_aload_n (pc := 31) C d_Row_add_31 rfl 0 rfl ?_
  refine ax_get (pc := 32) C k_Row 0 lk_Row_7 d_Row_add_32 (Nat.le_of_ble_eq_true rfl) 0 rfl rfl ?_
  refine ax_aload_n (pc := 35) C d_Row_add_35 rfl 0 rfl ?_
  refine ax_dup (pc := 36) C d_Row_add_36 rfl ?_
  refine ax_get (pc := 37) C k_Row 1 lk_Row_13 d_Row_add_37 (Nat.le_of_ble_eq_true rfl) 0 rfl rfl ?_
  refine ax_dup_x1 (pc := 40) C d_Row_add_40 rfl rfl ?_
  refine ax_iconst (pc := 41) C 1 d_Row_add_41 (by decide +kernel) ?_
  refine ax_iadd (pc := 42) C d_Row_add_42 ?_
  refine ax_put (pc := 43) C k_Row 1 lk_Row_13 d_Row_add_43 (Nat.le_of_ble_eq_true rfl) 0 rfl rfl rfl rfl (Nat.le_of_ble_eq_true rfl) ?_
  refine ax_w [(r, .inr (0, [.ref q, .int (Int32.ofNat L + 1)])), (q, .inl (kA 0, 2 * L + 1, .inl (va_cpy f (fun _ => 0) 0 0 L)))] rfl ?_
  refine ax_iload_n (pc := 46) C d_Row_add_46 rfl 1 rfl ?_
  refine ax_iast (pc := 47) C 1 rfl d_Row_add_47 (fun z => z.elim n1 (fun z => by rw [t1] at z; omega)) ?_
  rw [t1]
  exact ax_vret (pc := 48) C d_Row_add_48 ⟨q, rfl⟩ (by omega) (by omega)
