/-- the first k places hold v -/
def ax_fill (f : Nat → Int32) (v : Int32) (k : Nat) : Nat → Int32 := fun j => if j < k then v else f j
theorem ax_fill_0 (f : Nat → Int32) (v : Int32) : ax_fill f v 0 = f := by funext j; simp [ax_fill]
theorem ax_fill_s (f : Nat → Int32) (v : Int32) (k : Nat) : upd (ax_fill f v k) k v = ax_fill f v (k + 1) := by
  funext j
  simp only [upd, ax_fill]
  by_cases h : j = k
  · subst h; simp
  · by_cases h2 : j < k
    · simp [h, h2, Nat.lt_succ_of_lt h2]
    · have : ¬ j < k + 1 := by omega
      simp [h, h2, this]
abbrev b_Arr_fill1 : ByteArray := prog_30_method_103_code
def y_Arr_fill1 : MethodName := ⟨"java/util/Arrays", "fill", "([II)V"⟩
theorem d_Arr_fill1_0 : decode b_Arr_fill1 0 = .ok (.iconst 0, 1) := by decide +kernel
theorem d_Arr_fill1_1 : decode b_Arr_fill1 1 = .ok (.istore_n 2, 1) := by decide +kernel
theorem d_Arr_fill1_2 : decode b_Arr_fill1 2 = .ok (.aload_n 0, 1) := by decide +kernel
theorem d_Arr_fill1_3 : decode b_Arr_fill1 3 = .ok (.arraylength, 1) := by decide +kernel
theorem d_Arr_fill1_4 : decode b_Arr_fill1 4 = .ok (.istore_n 3, 1) := by decide +kernel
theorem d_Arr_fill1_5 : decode b_Arr_fill1 5 = .ok (.iload_n 2, 1) := by decide +kernel
theorem d_Arr_fill1_6 : decode b_Arr_fill1 6 = .ok (.iload_n 3, 1) := by decide +kernel
theorem d_Arr_fill1_7 : decode b_Arr_fill1 7 = .ok (.if_icmp .ge 13, 3) := by decide +kernel
theorem d_Arr_fill1_10 : decode b_Arr_fill1 10 = .ok (.aload_n 0, 1) := by decide +kernel
theorem d_Arr_fill1_11 : decode b_Arr_fill1 11 = .ok (.iload_n 2, 1) := by decide +kernel
theorem d_Arr_fill1_12 : decode b_Arr_fill1 12 = .ok (.iload_n 1, 1) := by decide +kernel
theorem d_Arr_fill1_13 : decode b_Arr_fill1 13 = .ok (.iastore, 1) := by decide +kernel
theorem d_Arr_fill1_14 : decode b_Arr_fill1 14 = .ok (.iinc 2 1, 3) := by decide +kernel
theorem d_Arr_fill1_17 : decode b_Arr_fill1 17 = .ok (.goto (-12), 3) := by decide +kernel
theorem d_Arr_fill1_20 : decode b_Arr_fill1 20 = .ok (.return_, 1) := by decide +kernel
set_option maxHeartbeats 4000000 in
/-- Arrays.fill: all places hold the value -/
theorem c_Arr_fill1 (l : Launch) (D : va_G) (kA : Nat → ClassId) (h n : Nat) (f : Nat → Int32) (v : Int32) (hn : n < 2 ^ 31) : ax_Mv l D kA y_Arr_fill1 b_Arr_fill1 4 0 0 0 0 [.ref h, .int v] [(h, .inl (kA 0, n, .inl f))] (fun w1 => w1 = [(h, .inl (kA 0, n, .inl (ax_fill f v n)))]) := by
  refine ax_Mv.of (by decide +kernel) (Nat.le_of_ble_eq_true rfl) ?_
  intro p e s m args below meth c C hnm
  have loop : ∀ k i : Nat, i + k = n → AW p l e { frames := 0, cells := 0, slots := 0, locals := 0 } s m args below meth c D kA (va_A [(h, .inl (kA 0, n, .inl f))] s.heap.size) 4 (ax_Qv below args s D kA [(h, .inl (kA 0, n, .inl f))] 0 0 (fun w1 => w1 = [(h, .inl (kA 0, n, .inl (ax_fill f v n)))])) 5 [(0, .ref h), (1, .int v), (2, .int (nI i)), (3, .int (nI n))] [] [(h, .inl (kA 0, n, .inl (ax_fill f v i)))] 0 0 := by
    intro k
    induction k with
    | zero =>
      intro i hi
      have hi : i = n := by omega
      subst hi
      refine ax_iload_n (pc := 5) C d_Arr_fill1_5 rfl 2 rfl ?_
      refine ax_iload_n (pc := 6) C d_Arr_fill1_6 rfl 3 rfl ?_
      refine ax_icmp_ge (pc := 7) C 20 d_Arr_fill1_7 (by decide) (fun _ => ?_) (fun hc => absurd (nI_le (Nat.le_refl _) hn) hc)
      exact ax_vret (pc := 20) C d_Arr_fill1_20 rfl (Nat.le_refl _) (Nat.le_refl _)
    | succ k ih =>
      intro i hi
      refine ax_iload_n (pc := 5) C d_Arr_fill1_5 rfl 2 rfl ?_
      refine ax_iload_n (pc := 6) C d_Arr_fill1_6 rfl 3 rfl ?_
      refine ax_icmp_ge (pc := 7) C 20 d_Arr_fill1_7 (by decide) (fun hc => absurd hc (nI_ge (by omega) hn)) (fun _ => ?_)
      refine ax_aload_n (pc := 10) C d_Arr_fill1_10 rfl 0 rfl ?_
      refine ax_iload_n (pc := 11) C d_Arr_fill1_11 rfl 2 rfl ?_
      refine ax_iload_n (pc := 12) C d_Arr_fill1_12 rfl 1 rfl ?_
      refine ax_iast (pc := 13) C 0 rfl d_Arr_fill1_13 (vp_in_nI (by omega) hn) ?_
      refine ax_w ([(h, .inl (kA 0, n, .inl (ax_fill f v (i + 1))))]) (by rw [← ax_fill_s, nI_clamp (by omega)]; rfl) ?_
      refine ax_iinc (pc := 14) C (nI (i + 1)) d_Arr_fill1_14 2 rfl (by rw [nI_succ]; rfl) (Nat.le_of_ble_eq_true rfl) _ rfl ?_
      refine ax_goto (pc := 17) C 5 d_Arr_fill1_17 (by decide) ?_
      refine ax_ls ([(0, .ref h), (1, .int v), (2, .int (nI (i + 1))), (3, .int (nI n))]) [1, 2, 0, 3] rfl ?_
      exact ih (i + 1) (by omega)
  refine ax_ls ([(0, .ref h), (1, .int v)]) [0, 1] rfl ?_
  refine ax_iconst (pc := 0) C 0 d_Arr_fill1_0 (by decide +kernel) ?_
  refine ax_istore_n (pc := 1) C d_Arr_fill1_1 rfl (Nat.le_of_ble_eq_true rfl) _ rfl ?_
  refine ax_aload_n (pc := 2) C d_Arr_fill1_2 rfl 1 rfl ?_
  refine ax_alen (pc := 3) C 0 0 rfl rfl (nI n) rfl d_Arr_fill1_3 ?_
  refine ax_istore_n (pc := 4) C d_Arr_fill1_4 rfl (Nat.le_of_ble_eq_true rfl) _ rfl ?_
  refine ax_ls ([(0, .ref h), (1, .int v), (2, .int (nI 0)), (3, .int (nI n))]) [2, 3, 1, 0] rfl ?_
  refine ax_w ([(h, .inl (kA 0, n, .inl (ax_fill f v 0)))]) (by rw [ax_fill_0]) ?_
  exact loop n 0 (by omega)
abbrev b_Arr_fill2 : ByteArray := prog_30_method_111_code
def y_Arr_fill2 : MethodName := ⟨"java/util/Arrays", "fill", "([ZZ)V"⟩
theorem d_Arr_fill2_0 : decode b_Arr_fill2 0 = .ok (.iconst 0, 1) := by decide +kernel
theorem d_Arr_fill2_1 : decode b_Arr_fill2 1 = .ok (.istore_n 2, 1) := by decide +kernel
theorem d_Arr_fill2_2 : decode b_Arr_fill2 2 = .ok (.aload_n 0, 1) := by decide +kernel
theorem d_Arr_fill2_3 : decode b_Arr_fill2 3 = .ok (.arraylength, 1) := by decide +kernel
theorem d_Arr_fill2_4 : decode b_Arr_fill2 4 = .ok (.istore_n 3, 1) := by decide +kernel
theorem d_Arr_fill2_5 : decode b_Arr_fill2 5 = .ok (.iload_n 2, 1) := by decide +kernel
theorem d_Arr_fill2_6 : decode b_Arr_fill2 6 = .ok (.iload_n 3, 1) := by decide +kernel
theorem d_Arr_fill2_7 : decode b_Arr_fill2 7 = .ok (.if_icmp .ge 13, 3) := by decide +kernel
theorem d_Arr_fill2_10 : decode b_Arr_fill2 10 = .ok (.aload_n 0, 1) := by decide +kernel
theorem d_Arr_fill2_11 : decode b_Arr_fill2 11 = .ok (.iload_n 2, 1) := by decide +kernel
theorem d_Arr_fill2_12 : decode b_Arr_fill2 12 = .ok (.iload_n 1, 1) := by decide +kernel
theorem d_Arr_fill2_13 : decode b_Arr_fill2 13 = .ok (.bastore, 1) := by decide +kernel
theorem d_Arr_fill2_14 : decode b_Arr_fill2 14 = .ok (.iinc 2 1, 3) := by decide +kernel
theorem d_Arr_fill2_17 : decode b_Arr_fill2 17 = .ok (.goto (-12), 3) := by decide +kernel
theorem d_Arr_fill2_20 : decode b_Arr_fill2 20 = .ok (.return_, 1) := by decide +kernel
set_option maxHeartbeats 4000000 in
/-- Arrays.fill: all places hold the value -/
theorem c_Arr_fill2 (l : Launch) (D : va_G) (kA : Nat → ClassId) (h n : Nat) (f : Nat → Int32) (v : Int32) (hn : n < 2 ^ 31) : ax_Mv l D kA y_Arr_fill2 b_Arr_fill2 4 0 0 0 0 [.ref h, .int v] [(h, .inl (kA 1, n, .inl f))] (fun w1 => w1 = [(h, .inl (kA 1, n, .inl (ax_fill f (vp_nar .boolean v) n)))]) := by
  refine ax_Mv.of (by decide +kernel) (Nat.le_of_ble_eq_true rfl) ?_
  intro p e s m args below meth c C hnm
  have loop : ∀ k i : Nat, i + k = n → AW p l e { frames := 0, cells := 0, slots := 0, locals := 0 } s m args below meth c D kA (va_A [(h, .inl (kA 1, n, .inl f))] s.heap.size) 4 (ax_Qv below args s D kA [(h, .inl (kA 1, n, .inl f))] 0 0 (fun w1 => w1 = [(h, .inl (kA 1, n, .inl (ax_fill f (vp_nar .boolean v) n)))])) 5 [(0, .ref h), (1, .int v), (2, .int (nI i)), (3, .int (nI n))] [] [(h, .inl (kA 1, n, .inl (ax_fill f (vp_nar .boolean v) i)))] 0 0 := by
    intro k
    induction k with
    | zero =>
      intro i hi
      have hi : i = n := by omega
      subst hi
      refine ax_iload_n (pc := 5) C d_Arr_fill2_5 rfl 2 rfl ?_
      refine ax_iload_n (pc := 6) C d_Arr_fill2_6 rfl 3 rfl ?_
      refine ax_icmp_ge (pc := 7) C 20 d_Arr_fill2_7 (by decide) (fun _ => ?_) (fun hc => absurd (nI_le (Nat.le_refl _) hn) hc)
      exact ax_vret (pc := 20) C d_Arr_fill2_20 rfl (Nat.le_refl _) (Nat.le_refl _)
    | succ k ih =>
      intro i hi
      refine ax_iload_n (pc := 5) C d_Arr_fill2_5 rfl 2 rfl ?_
      refine ax_iload_n (pc := 6) C d_Arr_fill2_6 rfl 3 rfl ?_
      refine ax_icmp_ge (pc := 7) C 20 d_Arr_fill2_7 (by decide) (fun hc => absurd hc (nI_ge (by omega) hn)) (fun _ => ?_)
      refine ax_aload_n (pc := 10) C d_Arr_fill2_10 rfl 0 rfl ?_
      refine ax_iload_n (pc := 11) C d_Arr_fill2_11 rfl 2 rfl ?_
      refine ax_iload_n (pc := 12) C d_Arr_fill2_12 rfl 1 rfl ?_
      refine ax_zast (pc := 13) C 0 rfl d_Arr_fill2_13 (vp_in_nI (by omega) hn) ?_
      refine ax_w ([(h, .inl (kA 1, n, .inl (ax_fill f (vp_nar .boolean v) (i + 1))))]) (by rw [← ax_fill_s, nI_clamp (by omega)]; rfl) ?_
      refine ax_iinc (pc := 14) C (nI (i + 1)) d_Arr_fill2_14 2 rfl (by rw [nI_succ]; rfl) (Nat.le_of_ble_eq_true rfl) _ rfl ?_
      refine ax_goto (pc := 17) C 5 d_Arr_fill2_17 (by decide) ?_
      refine ax_ls ([(0, .ref h), (1, .int v), (2, .int (nI (i + 1))), (3, .int (nI n))]) [1, 2, 0, 3] rfl ?_
      exact ih (i + 1) (by omega)
  refine ax_ls ([(0, .ref h), (1, .int v)]) [0, 1] rfl ?_
  refine ax_iconst (pc := 0) C 0 d_Arr_fill2_0 (by decide +kernel) ?_
  refine ax_istore_n (pc := 1) C d_Arr_fill2_1 rfl (Nat.le_of_ble_eq_true rfl) _ rfl ?_
  refine ax_aload_n (pc := 2) C d_Arr_fill2_2 rfl 1 rfl ?_
  refine ax_alen (pc := 3) C 0 1 rfl rfl (nI n) rfl d_Arr_fill2_3 ?_
  refine ax_istore_n (pc := 4) C d_Arr_fill2_4 rfl (Nat.le_of_ble_eq_true rfl) _ rfl ?_
  refine ax_ls ([(0, .ref h), (1, .int v), (2, .int (nI 0)), (3, .int (nI n))]) [2, 3, 1, 0] rfl ?_
  refine ax_w ([(h, .inl (kA 1, n, .inl (ax_fill f (vp_nar .boolean v) 0)))]) (by rw [ax_fill_0]) ?_
  exact loop n 0 (by omega)
