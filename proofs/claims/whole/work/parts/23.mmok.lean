set_option maxHeartbeats 4000000 in
set_option maxRecDepth 100000 in
theorem o_0 (l : Launch) (D : va_G) (kA : Nat → ClassId) (z : Nat) (v : Nat → Nat) (rec : mF) (ih : ∀ t σ xs res, rec t σ xs = some res → mSem l D kA z v t σ xs res) (σ : mS) (xs : List Int32) (res : mR) (h : k_0 rec σ xs = some res) : s_0 l D kA z v σ xs res := by
  intro hxs
  subst hxs
  obtain ⟨σf, rf, dd⟩ := res
  have h : (some (σ, (σ.1 4), 0)) = some (σf, rf, dd) := h
  refine ax_Mi.of (by decide +kernel) (Nat.le_of_ble_eq_true rfl) ?_
  intro p e s m args below meth c C hnm
  have C : ax_C p s m args meth c b_MM_thrown "ClauseProverModel" 1 (some .int) D kA (va_A (mmW kA z v σ) s.heap.size) := C
  obtain ⟨F, hFe⟩ : ∃ F, F = dd + 1 := ⟨_, rfl⟩
  obtain ⟨Lo, hLoe⟩ : ∃ Lo, Lo = 64 * dd + 64 := ⟨_, rfl⟩
  obtain ⟨σ0, hσ0⟩ : ∃ s0, s0 = σ := ⟨_, rfl⟩
  suffices K : AW p l e { frames := F, cells := 0, slots := 0, locals := Lo } s m args below meth c D kA (va_A (mmW kA z v σ0) s.heap.size) 1 (ax_Qi below args s D kA (mmW kA z v σ0) 0 0 (fun r w1 => r = rf ∧ w1 = mmW kA z v σf)) 0 [(0, .ref z)] [] (mmW kA z v σ) 0 0 by rw [hFe, hLoe, hσ0] at K; exact ax_ls ([(0, .ref z)]) [0] rfl K
  have C : ax_C p s m args meth c b_MM_thrown "ClauseProverModel" 1 (some .int) D kA (va_A (mmW kA z v σ0) s.heap.size) := by rw [hσ0]; exact C
  have hF : dd + 1 ≤ F := by omega
  have hLo : 64 * dd + 64 ≤ Lo := by omega
  clear hFe hLoe hσ0
  refine ax_aload_n (pc := 0) C d_MM_thrown_0 rfl 0 rfl ?_
  refine mg_24 (pc := 1) C d_MM_thrown_1 ?_
  cases h
  exact ax_iret (pc := 4) C d_MM_thrown_4 ⟨rfl, rfl⟩ (Nat.le_refl _) (Nat.le_refl _)
set_option maxHeartbeats 4000000 in
set_option maxRecDepth 100000 in
theorem o_1 (l : Launch) (D : va_G) (kA : Nat → ClassId) (z : Nat) (v : Nat → Nat) (rec : mF) (ih : ∀ t σ xs res, rec t σ xs = some res → mSem l D kA z v t σ xs res) (σ : mS) (xs : List Int32) (res : mR) (h : k_1 rec σ xs = some res) : s_1 l D kA z v σ xs res := by
  intro x0 x1 x2 x3 x4 hxs
  subst hxs
  obtain ⟨σf, rf, dd⟩ := res
  have h : (lt_ (mI σ 4 0) (fun σ1 => if (σ1.1 2) ≤ 65516 then (rec 2 σ1 [x0, x1, x2, x3, x4, 0, 1]) else (rec 2 σ1 [x0, x1, x2, x3, x4, 1, 1]))) = some (σf, rf, dd) := h
  refine ax_Mi.of (by decide +kernel) (Nat.le_of_ble_eq_true rfl) ?_
  intro p e s m args below meth c C hnm
  have C : ax_C p s m args meth c b_MM_feed "ClauseProverModel" 8 (some .int) D kA (va_A (mmW kA z v σ) s.heap.size) := C
  obtain ⟨F, hFe⟩ : ∃ F, F = dd + 1 := ⟨_, rfl⟩
  obtain ⟨Lo, hLoe⟩ : ∃ Lo, Lo = 64 * dd + 64 := ⟨_, rfl⟩
  obtain ⟨σ0, hσ0⟩ : ∃ s0, s0 = σ := ⟨_, rfl⟩
  suffices K : AW p l e { frames := F, cells := 0, slots := 0, locals := Lo } s m args below meth c D kA (va_A (mmW kA z v σ0) s.heap.size) 8 (ax_Qi below args s D kA (mmW kA z v σ0) 0 0 (fun r w1 => r = rf ∧ w1 = mmW kA z v σf)) 0 [(0, .ref z), (1, .int x0), (2, .int x1), (3, .int x2), (4, .int x3), (5, .int x4)] [] (mmW kA z v σ) 0 0 by rw [hFe, hLoe, hσ0] at K; exact ax_ls ([(0, .ref z), (1, .int x0), (2, .int x1), (3, .int x2), (4, .int x3), (5, .int x4)]) [0, 1, 2, 3, 4, 5] rfl K
  have C : ax_C p s m args meth c b_MM_feed "ClauseProverModel" 8 (some .int) D kA (va_A (mmW kA z v σ0) s.heap.size) := by rw [hσ0]; exact C
  have hF : dd + 1 ≤ F := by omega
  have hLo : 64 * dd + 64 ≤ Lo := by omega
  clear hFe hLoe hσ0
  refine ax_aload_n (pc := 0) C d_MM_feed_0 rfl 0 rfl ?_
  refine ax_iconst (pc := 1) C 0 d_MM_feed_1 (by decide +kernel) ?_
  refine mp_24 (pc := 2) C d_MM_feed_2 ?_
  have h := it_l h
  generalize mI σ 4 0 = σ1 at h ⊢
  refine ax_aload_n (pc := 5) C d_MM_feed_5 rfl 0 rfl ?_
  refine ax_iconst (pc := 6) C 1 d_MM_feed_6 (by decide +kernel) ?_
  refine ax_aload_n (pc := 7) C d_MM_feed_7 rfl 0 rfl ?_
  refine mg_17 (pc := 8) C d_MM_feed_8 ?_
  refine ax_ldcw (pc := 11) C tb_constant_1908 d_MM_feed_11 ?_
  refine ax_icmp_le (pc := 14) C 21 d_MM_feed_14 (by decide) (fun hc => ?_) (fun hc => ?_)
  · have h := it_t hc h
    refine ax_iconst (pc := 21) C 0 d_MM_feed_21 (by decide +kernel) ?_
    refine ax_ls ([(0, .ref z), (1, .int x0), (2, .int x1), (3, .int x2), (4, .int x3), (5, .int x4)]) [0, 1, 2, 3, 4, 5] rfl ?_
    have hm : s_2 l D kA z v σ1 [x0, x1, x2, x3, x4, 0, 1] (σf, rf, _) := ih 2 _ _ _ h
    exact hm _ _ _ _ _ _ _ rfl p e s m args below meth c F Lo σ0 hF hLo C
  · have h := it_f hc h
    refine ax_iconst (pc := 17) C 1 d_MM_feed_17 (by decide +kernel) ?_
    refine ax_goto (pc := 18) C 22 d_MM_feed_18 (by decide) ?_
    refine ax_ls ([(0, .ref z), (1, .int x0), (2, .int x1), (3, .int x2), (4, .int x3), (5, .int x4)]) [0, 1, 2, 3, 4, 5] rfl ?_
    have hm : s_2 l D kA z v σ1 [x0, x1, x2, x3, x4, 1, 1] (σf, rf, _) := ih 2 _ _ _ h
    exact hm _ _ _ _ _ _ _ rfl p e s m args below meth c F Lo σ0 hF hLo C
set_option maxHeartbeats 4000000 in
set_option maxRecDepth 100000 in
theorem o_2 (l : Launch) (D : va_G) (kA : Nat → ClassId) (z : Nat) (v : Nat → Nat) (rec : mF) (ih : ∀ t σ xs res, rec t σ xs = some res → mSem l D kA z v t σ xs res) (σ : mS) (xs : List Int32) (res : mR) (h : k_2 rec σ xs = some res) : s_2 l D kA z v σ xs res := by
  intro x0 x1 x2 x3 x4 x5 x6 hxs
  subst hxs
  obtain ⟨σf, rf, dd⟩ := res
  have h : (bnd (rec 5 σ [x6, x5]) (fun σ1 r1 => if r1 = 0 then (rec 3 σ1 [x0, x1, x2, x3, x4, 0]) else (some (σ1, 0, 0)))) = some (σf, rf, dd) := h
  intro p e s m args below meth c F Lo σ0 hF hLo C
  dsimp only at hF hLo ⊢
  obtain ⟨σ1, r1, d1_1, d2_1, h1, h, hd2, hd1⟩ := it_b h
  have hm : s_5 l D kA z v σ [x6, x5] (σ1, r1, d1_1) := ih 5 _ _ _ h1
  refine mc_Vi (pc := 22) C (As := [.int x6, .int x5]) (rest := []) (hm _ _ rfl) ml_MM_401 d_MM_feed_22 rfl rfl (by dsimp only; omega) (by dsimp only; omega) (Nat.le_of_ble_eq_true rfl) (Nat.le_of_ble_eq_true rfl) (Nat.le_of_ble_eq_true rfl) ?_
  have hF : d2_1 + 1 ≤ F := by omega
  have hLo : 64 * d2_1 + 64 ≤ Lo := by omega
  refine ax_if_eq (pc := 25) C 30 d_MM_feed_25 (by decide) (fun hc => ?_) (fun hc => ?_)
  · have h := it_t hc h
    refine ax_iconst (pc := 30) C 0 d_MM_feed_30 (by decide +kernel) ?_
    refine ax_istore (pc := 31) C d_MM_feed_31 (Nat.le_of_ble_eq_true rfl) ([(6, .int 0), (0, .ref z), (1, .int x0), (2, .int x1), (3, .int x2), (4, .int x3), (5, .int x4)]) rfl ?_
    refine ax_ls ([(0, .ref z), (1, .int x0), (2, .int x1), (3, .int x2), (4, .int x3), (5, .int x4), (6, .int 0)]) [1, 2, 3, 4, 5, 6, 0] rfl ?_
    have hm : s_3 l D kA z v σ1 [x0, x1, x2, x3, x4, 0] (σf, rf, _) := ih 3 _ _ _ h
    exact hm _ _ _ _ _ _ rfl p e s m args below meth c F Lo σ0 hF hLo C
  · have h := it_f hc h
    refine ax_iconst (pc := 28) C 0 d_MM_feed_28 (by decide +kernel) ?_
    cases h
    exact ax_iret (pc := 29) C d_MM_feed_29 ⟨rfl, rfl⟩ (Nat.le_refl _) (Nat.le_refl _)
set_option maxHeartbeats 4000000 in
set_option maxRecDepth 100000 in
theorem o_3 (l : Launch) (D : va_G) (kA : Nat → ClassId) (z : Nat) (v : Nat → Nat) (rec : mF) (ih : ∀ t σ xs res, rec t σ xs = some res → mSem l D kA z v t σ xs res) (σ : mS) (xs : List Int32) (res : mR) (h : k_3 rec σ xs = some res) : s_3 l D kA z v σ xs res := by
  intro x0 x1 x2 x3 x4 x5 hxs
  subst hxs
  obtain ⟨σf, rf, dd⟩ := res
  have h : (if 20 ≤ x5 then (some (σ, (σ.1 2), 0)) else (if 4 ≤ x5 then (if 8 ≤ x5 then (if 12 ≤ x5 then (if 16 ≤ x5 then (rec 4 σ [x0, x1, x2, x3, x4, x5, x4]) else (rec 4 σ [x0, x1, x2, x3, x4, x5, x3])) else (rec 4 σ [x0, x1, x2, x3, x4, x5, x2])) else (rec 4 σ [x0, x1, x2, x3, x4, x5, x1])) else (rec 4 σ [x0, x1, x2, x3, x4, x5, x0]))) = some (σf, rf, dd) := h
  intro p e s m args below meth c F Lo σ0 hF hLo C
  dsimp only at hF hLo ⊢
  refine ax_iload (pc := 33) C d_MM_feed_33 6 rfl ?_
  refine ax_bipush (pc := 35) C 20 d_MM_feed_35 (by decide +kernel) ?_
  refine ax_icmp_ge (pc := 37) C 124 d_MM_feed_37 (by decide) (fun hc => ?_) (fun hc => ?_)
  · have h := it_t hc h
    refine ax_aload_n (pc := 124) C d_MM_feed_124 rfl 0 rfl ?_
    refine mg_17 (pc := 125) C d_MM_feed_125 ?_
    cases h
    exact ax_iret (pc := 128) C d_MM_feed_128 ⟨rfl, rfl⟩ (Nat.le_refl _) (Nat.le_refl _)
  · have h := it_f hc h
    refine ax_iload (pc := 40) C d_MM_feed_40 6 rfl ?_
    refine ax_iconst (pc := 42) C 4 d_MM_feed_42 (by decide +kernel) ?_
    refine ax_icmp_ge (pc := 43) C 50 d_MM_feed_43 (by decide) (fun hc => ?_) (fun hc => ?_)
    · have h := it_t hc h
      refine ax_iload (pc := 50) C d_MM_feed_50 6 rfl ?_
      refine ax_bipush (pc := 52) C 8 d_MM_feed_52 (by decide +kernel) ?_
      refine ax_icmp_ge (pc := 54) C 61 d_MM_feed_54 (by decide) (fun hc => ?_) (fun hc => ?_)
      · have h := it_t hc h
        refine ax_iload (pc := 61) C d_MM_feed_61 6 rfl ?_
        refine ax_bipush (pc := 63) C 12 d_MM_feed_63 (by decide +kernel) ?_
        refine ax_icmp_ge (pc := 65) C 72 d_MM_feed_65 (by decide) (fun hc => ?_) (fun hc => ?_)
        · have h := it_t hc h
          refine ax_iload (pc := 72) C d_MM_feed_72 6 rfl ?_
          refine ax_bipush (pc := 74) C 16 d_MM_feed_74 (by decide +kernel) ?_
          refine ax_icmp_ge (pc := 76) C 84 d_MM_feed_76 (by decide) (fun hc => ?_) (fun hc => ?_)
          · have h := it_t hc h
            refine ax_iload (pc := 84) C d_MM_feed_84 5 rfl ?_
            refine ax_ls ([(0, .ref z), (1, .int x0), (2, .int x1), (3, .int x2), (4, .int x3), (5, .int x4), (6, .int x5)]) [0, 1, 2, 3, 4, 5, 6] rfl ?_
            have hm : s_4 l D kA z v σ [x0, x1, x2, x3, x4, x5, x4] (σf, rf, _) := ih 4 _ _ _ h
            exact hm _ _ _ _ _ _ _ rfl p e s m args below meth c F Lo σ0 hF hLo C
          · have h := it_f hc h
            refine ax_iload (pc := 79) C d_MM_feed_79 4 rfl ?_
            refine ax_goto (pc := 81) C 86 d_MM_feed_81 (by decide) ?_
            refine ax_ls ([(0, .ref z), (1, .int x0), (2, .int x1), (3, .int x2), (4, .int x3), (5, .int x4), (6, .int x5)]) [0, 1, 2, 3, 4, 5, 6] rfl ?_
            have hm : s_4 l D kA z v σ [x0, x1, x2, x3, x4, x5, x3] (σf, rf, _) := ih 4 _ _ _ h
            exact hm _ _ _ _ _ _ _ rfl p e s m args below meth c F Lo σ0 hF hLo C
        · have h := it_f hc h
          refine ax_iload_n (pc := 68) C d_MM_feed_68 rfl 3 rfl ?_
          refine ax_goto (pc := 69) C 86 d_MM_feed_69 (by decide) ?_
          refine ax_ls ([(0, .ref z), (1, .int x0), (2, .int x1), (3, .int x2), (4, .int x3), (5, .int x4), (6, .int x5)]) [0, 1, 2, 3, 4, 5, 6] rfl ?_
          have hm : s_4 l D kA z v σ [x0, x1, x2, x3, x4, x5, x2] (σf, rf, _) := ih 4 _ _ _ h
          exact hm _ _ _ _ _ _ _ rfl p e s m args below meth c F Lo σ0 hF hLo C
      · have h := it_f hc h
        refine ax_iload_n (pc := 57) C d_MM_feed_57 rfl 2 rfl ?_
        refine ax_goto (pc := 58) C 86 d_MM_feed_58 (by decide) ?_
        refine ax_ls ([(0, .ref z), (1, .int x0), (2, .int x1), (3, .int x2), (4, .int x3), (5, .int x4), (6, .int x5)]) [0, 1, 2, 3, 4, 5, 6] rfl ?_
        have hm : s_4 l D kA z v σ [x0, x1, x2, x3, x4, x5, x1] (σf, rf, _) := ih 4 _ _ _ h
        exact hm _ _ _ _ _ _ _ rfl p e s m args below meth c F Lo σ0 hF hLo C
    · have h := it_f hc h
      refine ax_iload_n (pc := 46) C d_MM_feed_46 rfl 1 rfl ?_
      refine ax_goto (pc := 47) C 86 d_MM_feed_47 (by decide) ?_
      refine ax_ls ([(0, .ref z), (1, .int x0), (2, .int x1), (3, .int x2), (4, .int x3), (5, .int x4), (6, .int x5)]) [0, 1, 2, 3, 4, 5, 6] rfl ?_
      have hm : s_4 l D kA z v σ [x0, x1, x2, x3, x4, x5, x0] (σf, rf, _) := ih 4 _ _ _ h
      exact hm _ _ _ _ _ _ _ rfl p e s m args below meth c F Lo σ0 hF hLo C
set_option maxHeartbeats 4000000 in
set_option maxRecDepth 100000 in
theorem o_4 (l : Launch) (D : va_G) (kA : Nat → ClassId) (z : Nat) (v : Nat → Nat) (rec : mF) (ih : ∀ t σ xs res, rec t σ xs = some res → mSem l D kA z v t σ xs res) (σ : mS) (xs : List Int32) (res : mR) (h : k_4 rec σ xs = some res) : s_4 l D kA z v σ xs res := by
  intro x0 x1 x2 x3 x4 x5 x6 hxs
  subst hxs
  obtain ⟨σf, rf, dd⟩ := res
  have h : (lt_ (mI σ 2 (((σ.1 2) : Int32) + 1)) (fun σ1 => if (4 : Int32) = 0 then none else (if bin (σ.1 2) 65536 = true then (lt_ (mA σ1 0 (Int32.toNatClampNeg (σ.1 2)) (vp_nar .byte (((((x6 : Int32).toUInt32 >>> ((((24 : Int32) - ((8 : Int32) * (x5 - x5 / 4 * 4))) : Int32).toUInt32 &&& Int32.toUInt32 31)).toInt32) : Int32).toInt8.toInt32))) (fun σ2 => rec 3 σ2 [x0, x1, x2, x3, x4, (x5 + 1)])) else none))) = some (σf, rf, dd) := h
  intro p e s m args below meth c F Lo σ0 hF hLo C
  dsimp only at hF hLo ⊢
  refine ax_istore (pc := 86) C d_MM_feed_86 (Nat.le_of_ble_eq_true rfl) ([(7, .int x6), (0, .ref z), (1, .int x0), (2, .int x1), (3, .int x2), (4, .int x3), (5, .int x4), (6, .int x5)]) rfl ?_
  refine ax_aload_n (pc := 88) C d_MM_feed_88 rfl 1 rfl ?_
  refine mg_8 (pc := 89) C d_MM_feed_89 ?_
  refine ax_aload_n (pc := 92) C d_MM_feed_92 rfl 1 rfl ?_
  refine ax_dup (pc := 93) C d_MM_feed_93 rfl ?_
  refine mg_17 (pc := 94) C d_MM_feed_94 ?_
  refine ax_dup_x1 (pc := 97) C d_MM_feed_97 rfl rfl ?_
  refine ax_iconst (pc := 98) C 1 d_MM_feed_98 (by decide +kernel) ?_
  refine ax_iadd (pc := 99) C d_MM_feed_99 ?_
  refine mp_17 (pc := 100) C d_MM_feed_100 ?_
  have h := it_l h
  generalize mI σ 2 (((σ.1 2) : Int32) + 1) = σ1 at h ⊢
  refine ax_iload (pc := 103) C d_MM_feed_103 0 rfl ?_
  refine ax_bipush (pc := 105) C 24 d_MM_feed_105 (by decide +kernel) ?_
  refine ax_bipush (pc := 107) C 8 d_MM_feed_107 (by decide +kernel) ?_
  refine ax_iload (pc := 109) C d_MM_feed_109 7 rfl ?_
  refine ax_iconst (pc := 111) C 4 d_MM_feed_111 (by decide +kernel) ?_
  obtain ⟨hz, h⟩ := it_n h
  refine ax_irem (pc := 112) C d_MM_feed_112 hz ?_
  refine ax_imul (pc := 113) C d_MM_feed_113 ?_
  refine ax_isub (pc := 114) C d_MM_feed_114 ?_
  refine ax_iushr (pc := 115) C (((x6 : Int32).toUInt32 >>> ((((24 : Int32) - ((8 : Int32) * (x5 - x5 / 4 * 4))) : Int32).toUInt32 &&& Int32.toUInt32 31)).toInt32) d_MM_feed_115 rfl ?_
  refine ax_i2b (pc := 116) C (((((x6 : Int32).toUInt32 >>> ((((24 : Int32) - ((8 : Int32) * (x5 - x5 / 4 * 4))) : Int32).toUInt32 &&& Int32.toUInt32 31)).toInt32) : Int32).toInt8.toInt32) d_MM_feed_116 rfl ?_
  obtain ⟨hb, h⟩ := it_g h
  refine ms_0 (pc := 117) C d_MM_feed_117 (bin_in hb) ?_
  have h := it_l h
  generalize mA σ1 0 (Int32.toNatClampNeg (σ.1 2)) (vp_nar .byte (((((x6 : Int32).toUInt32 >>> ((((24 : Int32) - ((8 : Int32) * (x5 - x5 / 4 * 4))) : Int32).toUInt32 &&& Int32.toUInt32 31)).toInt32) : Int32).toInt8.toInt32)) = σ2 at h ⊢
  refine ax_iinc (pc := 118) C (x5 + 1) d_MM_feed_118 7 rfl rfl (Nat.le_of_ble_eq_true rfl) ([(6, .int (x5 + 1)), (7, .int x6), (0, .ref z), (1, .int x0), (2, .int x1), (3, .int x2), (4, .int x3), (5, .int x4)]) rfl ?_
  refine ax_goto (pc := 121) C 33 d_MM_feed_121 (by decide) ?_
  refine ax_ls ([(0, .ref z), (1, .int x0), (2, .int x1), (3, .int x2), (4, .int x3), (5, .int x4), (6, .int (x5 + 1))]) [2, 3, 4, 5, 6, 7, 0] rfl ?_
  have hm : s_3 l D kA z v σ2 [x0, x1, x2, x3, x4, (x5 + 1)] (σf, rf, _) := ih 3 _ _ _ h
  exact hm _ _ _ _ _ _ rfl p e s m args below meth c F Lo σ0 hF hLo C
set_option maxHeartbeats 4000000 in
set_option maxRecDepth 100000 in
theorem o_5 (l : Launch) (D : va_G) (kA : Nat → ClassId) (z : Nat) (v : Nat → Nat) (rec : mF) (ih : ∀ t σ xs res, rec t σ xs = some res → mSem l D kA z v t σ xs res) (σ : mS) (xs : List Int32) (res : mR) (h : k_5 rec σ xs = some res) : s_5 l D kA z v σ xs res := by
  intro x0 x1 hxs
  subst hxs
  obtain ⟨σf, rf, dd⟩ := res
  have h : (if x1 = 0 then (rec 6 σ [x0, x1]) else (lt_ (mI σ 4 x0) (fun σ1 => rec 6 σ1 [x0, x1]))) = some (σf, rf, dd) := h
  refine ax_Mi.of (by decide +kernel) (Nat.le_of_ble_eq_true rfl) ?_
  intro p e s m args below meth c C hnm
  have C : ax_C p s m args meth c b_MM_refuse "ClauseProverModel" 3 (some .boolean) D kA (va_A (mmW kA z v σ) s.heap.size) := C
  obtain ⟨F, hFe⟩ : ∃ F, F = dd + 1 := ⟨_, rfl⟩
  obtain ⟨Lo, hLoe⟩ : ∃ Lo, Lo = 64 * dd + 64 := ⟨_, rfl⟩
  obtain ⟨σ0, hσ0⟩ : ∃ s0, s0 = σ := ⟨_, rfl⟩
  suffices K : AW p l e { frames := F, cells := 0, slots := 0, locals := Lo } s m args below meth c D kA (va_A (mmW kA z v σ0) s.heap.size) 3 (ax_Qi below args s D kA (mmW kA z v σ0) 0 0 (fun r w1 => r = rf ∧ w1 = mmW kA z v σf)) 0 [(0, .ref z), (1, .int x0), (2, .int x1)] [] (mmW kA z v σ) 0 0 by rw [hFe, hLoe, hσ0] at K; exact ax_ls ([(0, .ref z), (1, .int x0), (2, .int x1)]) [0, 1, 2] rfl K
  have C : ax_C p s m args meth c b_MM_refuse "ClauseProverModel" 3 (some .boolean) D kA (va_A (mmW kA z v σ0) s.heap.size) := by rw [hσ0]; exact C
  have hF : dd + 1 ≤ F := by omega
  have hLo : 64 * dd + 64 ≤ Lo := by omega
  clear hFe hLoe hσ0
  refine ax_iload_n (pc := 0) C d_MM_refuse_0 rfl 2 rfl ?_
  refine ax_if_eq (pc := 1) C 9 d_MM_refuse_1 (by decide) (fun hc => ?_) (fun hc => ?_)
  · have h := it_t hc h
    refine ax_ls ([(0, .ref z), (1, .int x0), (2, .int x1)]) [0, 1, 2] rfl ?_
    have hm : s_6 l D kA z v σ [x0, x1] (σf, rf, _) := ih 6 _ _ _ h
    exact hm _ _ rfl p e s m args below meth c F Lo σ0 hF hLo C
  · have h := it_f hc h
    refine ax_aload_n (pc := 4) C d_MM_refuse_4 rfl 0 rfl ?_
    refine ax_iload_n (pc := 5) C d_MM_refuse_5 rfl 1 rfl ?_
    refine mp_24 (pc := 6) C d_MM_refuse_6 ?_
    have h := it_l h
    generalize mI σ 4 x0 = σ1 at h ⊢
    refine ax_ls ([(0, .ref z), (1, .int x0), (2, .int x1)]) [0, 1, 2] rfl ?_
    have hm : s_6 l D kA z v σ1 [x0, x1] (σf, rf, _) := ih 6 _ _ _ h
    exact hm _ _ rfl p e s m args below meth c F Lo σ0 hF hLo C
set_option maxHeartbeats 4000000 in
set_option maxRecDepth 100000 in
theorem o_6 (l : Launch) (D : va_G) (kA : Nat → ClassId) (z : Nat) (v : Nat → Nat) (rec : mF) (ih : ∀ t σ xs res, rec t σ xs = some res → mSem l D kA z v t σ xs res) (σ : mS) (xs : List Int32) (res : mR) (h : k_6 rec σ xs = some res) : s_6 l D kA z v σ xs res := by
  intro x0 x1 hxs
  subst hxs
  obtain ⟨σf, rf, dd⟩ := res
  have h : (if x1 = 0 ∨ x1 = 1 then some (σ, x1, 0) else none) = some (σf, rf, dd) := h
  intro p e s m args below meth c F Lo σ0 hF hLo C
  dsimp only at hF hLo ⊢
  refine ax_iload_n (pc := 9) C d_MM_refuse_9 rfl 2 rfl ?_
  obtain ⟨hb, h⟩ := it_g h
  cases h
  exact ax_zret (pc := 10) C d_MM_refuse_10 (nb01 hb) ⟨rfl, rfl⟩ (Nat.le_refl _) (Nat.le_refl _)
set_option maxHeartbeats 4000000 in
set_option maxRecDepth 100000 in
theorem o_7 (l : Launch) (D : va_G) (kA : Nat → ClassId) (z : Nat) (v : Nat → Nat) (rec : mF) (ih : ∀ t σ xs res, rec t σ xs = some res → mSem l D kA z v t σ xs res) (σ : mS) (xs : List Int32) (res : mR) (h : k_7 rec σ xs = some res) : s_7 l D kA z v σ xs res := by
  intro x0 hxs
  subst hxs
  obtain ⟨σf, rf, dd⟩ := res
  have h : (lt_ (mI σ 4 0) (fun σ1 => if x0 < 0 then (rec 8 σ1 [x0, 1]) else (if x0 ≤ (σ1.1 2) then (rec 9 σ1 [x0, 0, 1]) else (rec 8 σ1 [x0, 1])))) = some (σf, rf, dd) := h
  refine ax_Mi.of (by decide +kernel) (Nat.le_of_ble_eq_true rfl) ?_
  intro p e s m args below meth c C hnm
  have C : ax_C p s m args meth c b_MM_end "ClauseProverModel" 2 (some .int) D kA (va_A (mmW kA z v σ) s.heap.size) := C
  obtain ⟨F, hFe⟩ : ∃ F, F = dd + 1 := ⟨_, rfl⟩
  obtain ⟨Lo, hLoe⟩ : ∃ Lo, Lo = 64 * dd + 64 := ⟨_, rfl⟩
  obtain ⟨σ0, hσ0⟩ : ∃ s0, s0 = σ := ⟨_, rfl⟩
  suffices K : AW p l e { frames := F, cells := 0, slots := 0, locals := Lo } s m args below meth c D kA (va_A (mmW kA z v σ0) s.heap.size) 2 (ax_Qi below args s D kA (mmW kA z v σ0) 0 0 (fun r w1 => r = rf ∧ w1 = mmW kA z v σf)) 0 [(0, .ref z), (1, .int x0)] [] (mmW kA z v σ) 0 0 by rw [hFe, hLoe, hσ0] at K; exact ax_ls ([(0, .ref z), (1, .int x0)]) [0, 1] rfl K
  have C : ax_C p s m args meth c b_MM_end "ClauseProverModel" 2 (some .int) D kA (va_A (mmW kA z v σ0) s.heap.size) := by rw [hσ0]; exact C
  have hF : dd + 1 ≤ F := by omega
  have hLo : 64 * dd + 64 ≤ Lo := by omega
  clear hFe hLoe hσ0
  refine ax_aload_n (pc := 0) C d_MM_end_0 rfl 0 rfl ?_
  refine ax_iconst (pc := 1) C 0 d_MM_end_1 (by decide +kernel) ?_
  refine mp_24 (pc := 2) C d_MM_end_2 ?_
  have h := it_l h
  generalize mI σ 4 0 = σ1 at h ⊢
  refine ax_aload_n (pc := 5) C d_MM_end_5 rfl 0 rfl ?_
  refine ax_iconst (pc := 6) C 1 d_MM_end_6 (by decide +kernel) ?_
  refine ax_iload_n (pc := 7) C d_MM_end_7 rfl 1 rfl ?_
  refine ax_if_lt (pc := 8) C 19 d_MM_end_8 (by decide) (fun hc => ?_) (fun hc => ?_)
  · have h := it_t hc h
    refine ax_ls ([(0, .ref z), (1, .int x0)]) [0, 1] rfl ?_
    have hm : s_8 l D kA z v σ1 [x0, 1] (σf, rf, _) := ih 8 _ _ _ h
    exact hm _ _ rfl p e s m args below meth c F Lo σ0 hF hLo C
  · have h := it_f hc h
    refine ax_iload_n (pc := 11) C d_MM_end_11 rfl 1 rfl ?_
    refine ax_aload_n (pc := 12) C d_MM_end_12 rfl 0 rfl ?_
    refine mg_17 (pc := 13) C d_MM_end_13 ?_
    refine ax_icmp_le (pc := 16) C 23 d_MM_end_16 (by decide) (fun hc => ?_) (fun hc => ?_)
    · have h := it_t hc h
      refine ax_iconst (pc := 23) C 0 d_MM_end_23 (by decide +kernel) ?_
      refine ax_ls ([(0, .ref z), (1, .int x0)]) [0, 1] rfl ?_
      have hm : s_9 l D kA z v σ1 [x0, 0, 1] (σf, rf, _) := ih 9 _ _ _ h
      exact hm _ _ _ rfl p e s m args below meth c F Lo σ0 hF hLo C
    · have h := it_f hc h
      refine ax_ls ([(0, .ref z), (1, .int x0)]) [0, 1] rfl ?_
      have hm : s_8 l D kA z v σ1 [x0, 1] (σf, rf, _) := ih 8 _ _ _ h
      exact hm _ _ rfl p e s m args below meth c F Lo σ0 hF hLo C
set_option maxHeartbeats 4000000 in
set_option maxRecDepth 100000 in
theorem o_8 (l : Launch) (D : va_G) (kA : Nat → ClassId) (z : Nat) (v : Nat → Nat) (rec : mF) (ih : ∀ t σ xs res, rec t σ xs = some res → mSem l D kA z v t σ xs res) (σ : mS) (xs : List Int32) (res : mR) (h : k_8 rec σ xs = some res) : s_8 l D kA z v σ xs res := by
  intro x0 x1 hxs
  subst hxs
  obtain ⟨σf, rf, dd⟩ := res
  have h : (rec 9 σ [x0, 1, x1]) = some (σf, rf, dd) := h
  intro p e s m args below meth c F Lo σ0 hF hLo C
  dsimp only at hF hLo ⊢
  refine ax_iconst (pc := 19) C 1 d_MM_end_19 (by decide +kernel) ?_
  refine ax_goto (pc := 20) C 24 d_MM_end_20 (by decide) ?_
  refine ax_ls ([(0, .ref z), (1, .int x0)]) [0, 1] rfl ?_
  have hm : s_9 l D kA z v σ [x0, 1, x1] (σf, rf, _) := ih 9 _ _ _ h
  exact hm _ _ _ rfl p e s m args below meth c F Lo σ0 hF hLo C
set_option maxHeartbeats 4000000 in
set_option maxRecDepth 100000 in
theorem o_9 (l : Launch) (D : va_G) (kA : Nat → ClassId) (z : Nat) (v : Nat → Nat) (rec : mF) (ih : ∀ t σ xs res, rec t σ xs = some res → mSem l D kA z v t σ xs res) (σ : mS) (xs : List Int32) (res : mR) (h : k_9 rec σ xs = some res) : s_9 l D kA z v σ xs res := by
  intro x0 x1 x2 hxs
  subst hxs
  obtain ⟨σf, rf, dd⟩ := res
  have h : (bnd (rec 5 σ [x2, x1]) (fun σ1 r1 => if r1 = 0 then (lt_ (mI σ1 2 x0) (fun σ2 => some (σ2, x0, 0))) else (some (σ1, 0, 0)))) = some (σf, rf, dd) := h
  intro p e s m args below meth c F Lo σ0 hF hLo C
  dsimp only at hF hLo ⊢
  obtain ⟨σ1, r1, d1_1, d2_1, h1, h, hd2, hd1⟩ := it_b h
  have hm : s_5 l D kA z v σ [x2, x1] (σ1, r1, d1_1) := ih 5 _ _ _ h1
  refine mc_Vi (pc := 24) C (As := [.int x2, .int x1]) (rest := []) (hm _ _ rfl) ml_MM_401 d_MM_end_24 rfl rfl (by dsimp only; omega) (by dsimp only; omega) (Nat.le_of_ble_eq_true rfl) (Nat.le_of_ble_eq_true rfl) (Nat.le_of_ble_eq_true rfl) ?_
  have hF : d2_1 + 1 ≤ F := by omega
  have hLo : 64 * d2_1 + 64 ≤ Lo := by omega
  refine ax_if_eq (pc := 27) C 32 d_MM_end_27 (by decide) (fun hc => ?_) (fun hc => ?_)
  · have h := it_t hc h
    refine ax_aload_n (pc := 32) C d_MM_end_32 rfl 0 rfl ?_
    refine ax_iload_n (pc := 33) C d_MM_end_33 rfl 1 rfl ?_
    refine mp_17 (pc := 34) C d_MM_end_34 ?_
    have h := it_l h
    generalize mI σ1 2 x0 = σ2 at h ⊢
    refine ax_iload_n (pc := 37) C d_MM_end_37 rfl 1 rfl ?_
    cases h
    exact ax_iret (pc := 38) C d_MM_end_38 ⟨rfl, rfl⟩ (Nat.le_refl _) (Nat.le_refl _)
  · have h := it_f hc h
    refine ax_iconst (pc := 30) C 0 d_MM_end_30 (by decide +kernel) ?_
    cases h
    exact ax_iret (pc := 31) C d_MM_end_31 ⟨rfl, rfl⟩ (Nat.le_refl _) (Nat.le_refl _)
set_option maxHeartbeats 4000000 in
set_option maxRecDepth 100000 in
theorem o_10 (l : Launch) (D : va_G) (kA : Nat → ClassId) (z : Nat) (v : Nat → Nat) (rec : mF) (ih : ∀ t σ xs res, rec t σ xs = some res → mSem l D kA z v t σ xs res) (σ : mS) (xs : List Int32) (res : mR) (h : k_10 rec σ xs = some res) : s_10 l D kA z v σ xs res := by
  intro hxs
  subst hxs
  obtain ⟨σf, rf, dd⟩ := res
  have h : (rec 11 σ [1]) = some (σf, rf, dd) := h
  refine ax_Mv.of (by decide +kernel) (Nat.le_of_ble_eq_true rfl) ?_
  intro p e s m args below meth c C hnm
  have C : ax_C p s m args meth c b_MM_parts "ClauseProverModel" 2 none D kA (va_A (mmW kA z v σ) s.heap.size) := C
  obtain ⟨F, hFe⟩ : ∃ F, F = dd + 1 := ⟨_, rfl⟩
  obtain ⟨Lo, hLoe⟩ : ∃ Lo, Lo = 64 * dd + 64 := ⟨_, rfl⟩
  obtain ⟨σ0, hσ0⟩ : ∃ s0, s0 = σ := ⟨_, rfl⟩
  suffices K : AW p l e { frames := F, cells := 0, slots := 0, locals := Lo } s m args below meth c D kA (va_A (mmW kA z v σ0) s.heap.size) 2 (ax_Qv below args s D kA (mmW kA z v σ0) 0 0 (fun w1 => w1 = mmW kA z v σf)) 0 [(0, .ref z)] [] (mmW kA z v σ) 0 0 by rw [hFe, hLoe, hσ0] at K; exact ax_ls ([(0, .ref z)]) [0] rfl K
  have C : ax_C p s m args meth c b_MM_parts "ClauseProverModel" 2 none D kA (va_A (mmW kA z v σ0) s.heap.size) := by rw [hσ0]; exact C
  have hF : dd + 1 ≤ F := by omega
  have hLo : 64 * dd + 64 ≤ Lo := by omega
  clear hFe hLoe hσ0
  refine ax_iconst (pc := 0) C 1 d_MM_parts_0 (by decide +kernel) ?_
  refine ax_istore_n (pc := 1) C d_MM_parts_1 rfl (Nat.le_of_ble_eq_true rfl) ([(1, .int 1), (0, .ref z)]) rfl ?_
  refine ax_ls ([(0, .ref z), (1, .int 1)]) [1, 0] rfl ?_
  have hm : s_11 l D kA z v σ [1] (σf, rf, _) := ih 11 _ _ _ h
  exact hm _ rfl p e s m args below meth c F Lo σ0 hF hLo C
set_option maxHeartbeats 4000000 in
set_option maxRecDepth 100000 in
theorem o_11 (l : Launch) (D : va_G) (kA : Nat → ClassId) (z : Nat) (v : Nat → Nat) (rec : mF) (ih : ∀ t σ xs res, rec t σ xs = some res → mSem l D kA z v t σ xs res) (σ : mS) (xs : List Int32) (res : mR) (h : k_11 rec σ xs = some res) : s_11 l D kA z v σ xs res := by
  intro x0 hxs
  subst hxs
  obtain ⟨σf, rf, dd⟩ := res
  have h : (if x0 = 0 then (some (σ, 0, 0)) else (rec 12 σ [0])) = some (σf, rf, dd) := h
  intro p e s m args below meth c F Lo σ0 hF hLo C
  dsimp only at hF hLo ⊢
  refine ax_iload_n (pc := 2) C d_MM_parts_2 rfl 1 rfl ?_
  refine ax_if_eq (pc := 3) C 156 d_MM_parts_3 (by decide) (fun hc => ?_) (fun hc => ?_)
  · have h := it_t hc h
    cases h
    exact ax_vret (pc := 156) C d_MM_parts_156 rfl (Nat.le_refl _) (Nat.le_refl _)
  · have h := it_f hc h
    refine ax_iconst (pc := 6) C 0 d_MM_parts_6 (by decide +kernel) ?_
    refine ax_istore_n (pc := 7) C d_MM_parts_7 rfl (Nat.le_of_ble_eq_true rfl) ([(1, .int 0), (0, .ref z)]) rfl ?_
    refine ax_ls ([(0, .ref z), (1, .int 0)]) [1, 0] rfl ?_
    have hm : s_12 l D kA z v σ [0] (σf, rf, _) := ih 12 _ _ _ h
    exact hm _ rfl p e s m args below meth c F Lo σ0 hF hLo C
set_option maxHeartbeats 4000000 in
set_option maxRecDepth 100000 in
theorem o_12 (l : Launch) (D : va_G) (kA : Nat → ClassId) (z : Nat) (v : Nat → Nat) (rec : mF) (ih : ∀ t σ xs res, rec t σ xs = some res → mSem l D kA z v t σ xs res) (σ : mS) (xs : List Int32) (res : mR) (h : k_12 rec σ xs = some res) : s_12 l D kA z v σ xs res := by
  intro x0 hxs
  subst hxs
  obtain ⟨σf, rf, dd⟩ := res
  have h : (if (σ.1 2) ≤ (σ.1 7) then (rec 14 σ [x0]) else (if bin (σ.1 7) 65536 = true then (if (σ.2.1 0 (Int32.toNatClampNeg (σ.1 7))) = 32 then (rec 13 σ [x0]) else (if bin (σ.1 7) 65536 = true then (if (σ.2.1 0 (Int32.toNatClampNeg (σ.1 7))) = 9 then (rec 13 σ [x0]) else (if bin (σ.1 7) 65536 = true then (if (σ.2.1 0 (Int32.toNatClampNeg (σ.1 7))) = 10 then (rec 13 σ [x0]) else (if bin (σ.1 7) 65536 = true then (if (σ.2.1 0 (Int32.toNatClampNeg (σ.1 7))) = 13 then (rec 13 σ [x0]) else (rec 14 σ [x0])) else none)) else none)) else none)) else none)) = some (σf, rf, dd) := h
  intro p e s m args below meth c F Lo σ0 hF hLo C
  dsimp only at hF hLo ⊢
  refine ax_aload_n (pc := 8) C d_MM_parts_8 rfl 0 rfl ?_
  refine mg_33 (pc := 9) C d_MM_parts_9 ?_
  refine ax_aload_n (pc := 12) C d_MM_parts_12 rfl 0 rfl ?_
  refine mg_17 (pc := 13) C d_MM_parts_13 ?_
  refine ax_icmp_ge (pc := 16) C 88 d_MM_parts_16 (by decide) (fun hc => ?_) (fun hc => ?_)
  · have h := it_t hc h
    refine ax_ls ([(0, .ref z), (1, .int x0)]) [0, 1] rfl ?_
    have hm : s_14 l D kA z v σ [x0] (σf, rf, _) := ih 14 _ _ _ h
    exact hm _ rfl p e s m args below meth c F Lo σ0 hF hLo C
  · have h := it_f hc h
    refine ax_aload_n (pc := 19) C d_MM_parts_19 rfl 0 rfl ?_
    refine mg_8 (pc := 20) C d_MM_parts_20 ?_
    refine ax_aload_n (pc := 23) C d_MM_parts_23 rfl 0 rfl ?_
    refine mg_33 (pc := 24) C d_MM_parts_24 ?_
    obtain ⟨hb, h⟩ := it_g h
    refine ml_0 (pc := 27) C d_MM_parts_27 (bin_in hb) ?_
    refine ax_bipush (pc := 28) C 32 d_MM_parts_28 (by decide +kernel) ?_
    refine ax_icmp_eq (pc := 30) C 75 d_MM_parts_30 (by decide) (fun hc => ?_) (fun hc => ?_)
    · have h := it_t hc h
      refine ax_ls ([(0, .ref z), (1, .int x0)]) [0, 1] rfl ?_
      have hm : s_13 l D kA z v σ [x0] (σf, rf, _) := ih 13 _ _ _ h
      exact hm _ rfl p e s m args below meth c F Lo σ0 hF hLo C
    · have h := it_f hc h
      refine ax_aload_n (pc := 33) C d_MM_parts_33 rfl 0 rfl ?_
      refine mg_8 (pc := 34) C d_MM_parts_34 ?_
      refine ax_aload_n (pc := 37) C d_MM_parts_37 rfl 0 rfl ?_
      refine mg_33 (pc := 38) C d_MM_parts_38 ?_
      obtain ⟨hb, h⟩ := it_g h
      refine ml_0 (pc := 41) C d_MM_parts_41 (bin_in hb) ?_
      refine ax_bipush (pc := 42) C 9 d_MM_parts_42 (by decide +kernel) ?_
      refine ax_icmp_eq (pc := 44) C 75 d_MM_parts_44 (by decide) (fun hc => ?_) (fun hc => ?_)
      · have h := it_t hc h
        refine ax_ls ([(0, .ref z), (1, .int x0)]) [0, 1] rfl ?_
        have hm : s_13 l D kA z v σ [x0] (σf, rf, _) := ih 13 _ _ _ h
        exact hm _ rfl p e s m args below meth c F Lo σ0 hF hLo C
      · have h := it_f hc h
        refine ax_aload_n (pc := 47) C d_MM_parts_47 rfl 0 rfl ?_
        refine mg_8 (pc := 48) C d_MM_parts_48 ?_
        refine ax_aload_n (pc := 51) C d_MM_parts_51 rfl 0 rfl ?_
        refine mg_33 (pc := 52) C d_MM_parts_52 ?_
        obtain ⟨hb, h⟩ := it_g h
        refine ml_0 (pc := 55) C d_MM_parts_55 (bin_in hb) ?_
        refine ax_bipush (pc := 56) C 10 d_MM_parts_56 (by decide +kernel) ?_
        refine ax_icmp_eq (pc := 58) C 75 d_MM_parts_58 (by decide) (fun hc => ?_) (fun hc => ?_)
        · have h := it_t hc h
          refine ax_ls ([(0, .ref z), (1, .int x0)]) [0, 1] rfl ?_
          have hm : s_13 l D kA z v σ [x0] (σf, rf, _) := ih 13 _ _ _ h
          exact hm _ rfl p e s m args below meth c F Lo σ0 hF hLo C
        · have h := it_f hc h
          refine ax_aload_n (pc := 61) C d_MM_parts_61 rfl 0 rfl ?_
          refine mg_8 (pc := 62) C d_MM_parts_62 ?_
          refine ax_aload_n (pc := 65) C d_MM_parts_65 rfl 0 rfl ?_
          refine mg_33 (pc := 66) C d_MM_parts_66 ?_
          obtain ⟨hb, h⟩ := it_g h
          refine ml_0 (pc := 69) C d_MM_parts_69 (bin_in hb) ?_
          refine ax_bipush (pc := 70) C 13 d_MM_parts_70 (by decide +kernel) ?_
          refine ax_icmp_ne (pc := 72) C 88 d_MM_parts_72 (by decide) (fun hc => ?_) (fun hc => ?_)
          · have h := it_f hc h
            refine ax_ls ([(0, .ref z), (1, .int x0)]) [0, 1] rfl ?_
            have hm : s_14 l D kA z v σ [x0] (σf, rf, _) := ih 14 _ _ _ h
            exact hm _ rfl p e s m args below meth c F Lo σ0 hF hLo C
          · have h := it_t hc h
            refine ax_ls ([(0, .ref z), (1, .int x0)]) [0, 1] rfl ?_
            have hm : s_13 l D kA z v σ [x0] (σf, rf, _) := ih 13 _ _ _ h
            exact hm _ rfl p e s m args below meth c F Lo σ0 hF hLo C
set_option maxHeartbeats 4000000 in
set_option maxRecDepth 100000 in
theorem o_13 (l : Launch) (D : va_G) (kA : Nat → ClassId) (z : Nat) (v : Nat → Nat) (rec : mF) (ih : ∀ t σ xs res, rec t σ xs = some res → mSem l D kA z v t σ xs res) (σ : mS) (xs : List Int32) (res : mR) (h : k_13 rec σ xs = some res) : s_13 l D kA z v σ xs res := by
  intro x0 hxs
  subst hxs
  obtain ⟨σf, rf, dd⟩ := res
  have h : (lt_ (mI σ 7 (((σ.1 7) : Int32) + 1)) (fun σ1 => rec 12 σ1 [x0])) = some (σf, rf, dd) := h
  intro p e s m args below meth c F Lo σ0 hF hLo C
  dsimp only at hF hLo ⊢
  refine ax_aload_n (pc := 75) C d_MM_parts_75 rfl 0 rfl ?_
  refine ax_dup (pc := 76) C d_MM_parts_76 rfl ?_
  refine mg_33 (pc := 77) C d_MM_parts_77 ?_
  refine ax_iconst (pc := 80) C 1 d_MM_parts_80 (by decide +kernel) ?_
  refine ax_iadd (pc := 81) C d_MM_parts_81 ?_
  refine mp_33 (pc := 82) C d_MM_parts_82 ?_
  have h := it_l h
  generalize mI σ 7 (((σ.1 7) : Int32) + 1) = σ1 at h ⊢
  refine ax_goto (pc := 85) C 8 d_MM_parts_85 (by decide) ?_
  refine ax_ls ([(0, .ref z), (1, .int x0)]) [0, 1] rfl ?_
  have hm : s_12 l D kA z v σ1 [x0] (σf, rf, _) := ih 12 _ _ _ h
  exact hm _ rfl p e s m args below meth c F Lo σ0 hF hLo C
set_option maxHeartbeats 4000000 in
set_option maxRecDepth 100000 in
theorem o_14 (l : Launch) (D : va_G) (kA : Nat → ClassId) (z : Nat) (v : Nat → Nat) (rec : mF) (ih : ∀ t σ xs res, rec t σ xs = some res → mSem l D kA z v t σ xs res) (σ : mS) (xs : List Int32) (res : mR) (h : k_14 rec σ xs = some res) : s_14 l D kA z v σ xs res := by
  intro x0 hxs
  subst hxs
  obtain ⟨σf, rf, dd⟩ := res
  have h : (if (σ.1 2) ≤ (σ.1 7) then (rec 11 σ [x0]) else (if bin (σ.1 7) 65536 = true then (if (σ.2.1 0 (Int32.toNatClampNeg (σ.1 7))) = 37 then (rec 15 σ [x0]) else (rec 11 σ [x0])) else none)) = some (σf, rf, dd) := h
  intro p e s m args below meth c F Lo σ0 hF hLo C
  dsimp only at hF hLo ⊢
  refine ax_aload_n (pc := 88) C d_MM_parts_88 rfl 0 rfl ?_
  refine mg_33 (pc := 89) C d_MM_parts_89 ?_
  refine ax_aload_n (pc := 92) C d_MM_parts_92 rfl 0 rfl ?_
  refine mg_17 (pc := 93) C d_MM_parts_93 ?_
  refine ax_icmp_ge (pc := 96) C 2 d_MM_parts_96 (by decide) (fun hc => ?_) (fun hc => ?_)
  · have h := it_t hc h
    refine ax_ls ([(0, .ref z), (1, .int x0)]) [0, 1] rfl ?_
    have hm : s_11 l D kA z v σ [x0] (σf, rf, _) := ih 11 _ _ _ h
    exact hm _ rfl p e s m args below meth c F Lo σ0 hF hLo C
  · have h := it_f hc h
    refine ax_aload_n (pc := 99) C d_MM_parts_99 rfl 0 rfl ?_
    refine mg_8 (pc := 100) C d_MM_parts_100 ?_
    refine ax_aload_n (pc := 103) C d_MM_parts_103 rfl 0 rfl ?_
    refine mg_33 (pc := 104) C d_MM_parts_104 ?_
    obtain ⟨hb, h⟩ := it_g h
    refine ml_0 (pc := 107) C d_MM_parts_107 (bin_in hb) ?_
    refine ax_bipush (pc := 108) C 37 d_MM_parts_108 (by decide +kernel) ?_
    refine ax_icmp_ne (pc := 110) C 2 d_MM_parts_110 (by decide) (fun hc => ?_) (fun hc => ?_)
    · have h := it_f hc h
      refine ax_ls ([(0, .ref z), (1, .int x0)]) [0, 1] rfl ?_
      have hm : s_11 l D kA z v σ [x0] (σf, rf, _) := ih 11 _ _ _ h
      exact hm _ rfl p e s m args below meth c F Lo σ0 hF hLo C
    · have h := it_t hc h
      refine ax_ls ([(0, .ref z), (1, .int x0)]) [0, 1] rfl ?_
      have hm : s_15 l D kA z v σ [x0] (σf, rf, _) := ih 15 _ _ _ h
      exact hm _ rfl p e s m args below meth c F Lo σ0 hF hLo C
set_option maxHeartbeats 4000000 in
set_option maxRecDepth 100000 in
theorem o_15 (l : Launch) (D : va_G) (kA : Nat → ClassId) (z : Nat) (v : Nat → Nat) (rec : mF) (ih : ∀ t σ xs res, rec t σ xs = some res → mSem l D kA z v t σ xs res) (σ : mS) (xs : List Int32) (res : mR) (h : k_15 rec σ xs = some res) : s_15 l D kA z v σ xs res := by
  intro x0 hxs
  subst hxs
  obtain ⟨σf, rf, dd⟩ := res
  have h : (if (σ.1 2) ≤ (σ.1 7) then (rec 16 σ [x0]) else (if bin (σ.1 7) 65536 = true then (if (σ.2.1 0 (Int32.toNatClampNeg (σ.1 7))) = 10 then (rec 16 σ [x0]) else (lt_ (mI σ 7 (((σ.1 7) : Int32) + 1)) (fun σ1 => rec 15 σ1 [x0]))) else none)) = some (σf, rf, dd) := h
  intro p e s m args below meth c F Lo σ0 hF hLo C
  dsimp only at hF hLo ⊢
  refine ax_aload_n (pc := 113) C d_MM_parts_113 rfl 0 rfl ?_
  refine mg_33 (pc := 114) C d_MM_parts_114 ?_
  refine ax_aload_n (pc := 117) C d_MM_parts_117 rfl 0 rfl ?_
  refine mg_17 (pc := 118) C d_MM_parts_118 ?_
  refine ax_icmp_ge (pc := 121) C 151 d_MM_parts_121 (by decide) (fun hc => ?_) (fun hc => ?_)
  · have h := it_t hc h
    refine ax_ls ([(0, .ref z), (1, .int x0)]) [0, 1] rfl ?_
    have hm : s_16 l D kA z v σ [x0] (σf, rf, _) := ih 16 _ _ _ h
    exact hm _ rfl p e s m args below meth c F Lo σ0 hF hLo C
  · have h := it_f hc h
    refine ax_aload_n (pc := 124) C d_MM_parts_124 rfl 0 rfl ?_
    refine mg_8 (pc := 125) C d_MM_parts_125 ?_
    refine ax_aload_n (pc := 128) C d_MM_parts_128 rfl 0 rfl ?_
    refine mg_33 (pc := 129) C d_MM_parts_129 ?_
    obtain ⟨hb, h⟩ := it_g h
    refine ml_0 (pc := 132) C d_MM_parts_132 (bin_in hb) ?_
    refine ax_bipush (pc := 133) C 10 d_MM_parts_133 (by decide +kernel) ?_
    refine ax_icmp_eq (pc := 135) C 151 d_MM_parts_135 (by decide) (fun hc => ?_) (fun hc => ?_)
    · have h := it_t hc h
      refine ax_ls ([(0, .ref z), (1, .int x0)]) [0, 1] rfl ?_
      have hm : s_16 l D kA z v σ [x0] (σf, rf, _) := ih 16 _ _ _ h
      exact hm _ rfl p e s m args below meth c F Lo σ0 hF hLo C
    · have h := it_f hc h
      refine ax_aload_n (pc := 138) C d_MM_parts_138 rfl 0 rfl ?_
      refine ax_dup (pc := 139) C d_MM_parts_139 rfl ?_
      refine mg_33 (pc := 140) C d_MM_parts_140 ?_
      refine ax_iconst (pc := 143) C 1 d_MM_parts_143 (by decide +kernel) ?_
      refine ax_iadd (pc := 144) C d_MM_parts_144 ?_
      refine mp_33 (pc := 145) C d_MM_parts_145 ?_
      have h := it_l h
      generalize mI σ 7 (((σ.1 7) : Int32) + 1) = σ1 at h ⊢
      refine ax_goto (pc := 148) C 113 d_MM_parts_148 (by decide) ?_
      refine ax_ls ([(0, .ref z), (1, .int x0)]) [0, 1] rfl ?_
      have hm : s_15 l D kA z v σ1 [x0] (σf, rf, _) := ih 15 _ _ _ h
      exact hm _ rfl p e s m args below meth c F Lo σ0 hF hLo C
set_option maxHeartbeats 4000000 in
set_option maxRecDepth 100000 in
theorem o_16 (l : Launch) (D : va_G) (kA : Nat → ClassId) (z : Nat) (v : Nat → Nat) (rec : mF) (ih : ∀ t σ xs res, rec t σ xs = some res → mSem l D kA z v t σ xs res) (σ : mS) (xs : List Int32) (res : mR) (h : k_16 rec σ xs = some res) : s_16 l D kA z v σ xs res := by
  intro x0 hxs
  subst hxs
  obtain ⟨σf, rf, dd⟩ := res
  have h : (rec 11 σ [1]) = some (σf, rf, dd) := h
  intro p e s m args below meth c F Lo σ0 hF hLo C
  dsimp only at hF hLo ⊢
  refine ax_iconst (pc := 151) C 1 d_MM_parts_151 (by decide +kernel) ?_
  refine ax_istore_n (pc := 152) C d_MM_parts_152 rfl (Nat.le_of_ble_eq_true rfl) ([(1, .int 1), (0, .ref z)]) rfl ?_
  refine ax_goto (pc := 153) C 2 d_MM_parts_153 (by decide) ?_
  refine ax_ls ([(0, .ref z), (1, .int 1)]) [1, 0] rfl ?_
  have hm : s_11 l D kA z v σ [1] (σf, rf, _) := ih 11 _ _ _ h
  exact hm _ rfl p e s m args below meth c F Lo σ0 hF hLo C
set_option maxHeartbeats 4000000 in
set_option maxRecDepth 100000 in
theorem o_17 (l : Launch) (D : va_G) (kA : Nat → ClassId) (z : Nat) (v : Nat → Nat) (rec : mF) (ih : ∀ t σ xs res, rec t σ xs = some res → mSem l D kA z v t σ xs res) (σ : mS) (xs : List Int32) (res : mR) (h : k_17 rec σ xs = some res) : s_17 l D kA z v σ xs res := by
  intro x0 hxs
  subst hxs
  obtain ⟨σf, rf, dd⟩ := res
  have h : (if x0 < 97 then (rec 18 σ [x0]) else (if x0 ≤ 122 then (rec 19 σ [x0]) else (rec 18 σ [x0]))) = some (σf, rf, dd) := h
  refine ax_Mi.of (by decide +kernel) (Nat.le_of_ble_eq_true rfl) ?_
  intro p e s m args below meth c C hnm
  have C : ax_C p s m args meth c b_MM_letter "ClauseProverModel" 2 (some .boolean) D kA (va_A (mmW kA z v σ) s.heap.size) := C
  obtain ⟨F, hFe⟩ : ∃ F, F = dd + 1 := ⟨_, rfl⟩
  obtain ⟨Lo, hLoe⟩ : ∃ Lo, Lo = 64 * dd + 64 := ⟨_, rfl⟩
  obtain ⟨σ0, hσ0⟩ : ∃ s0, s0 = σ := ⟨_, rfl⟩
  suffices K : AW p l e { frames := F, cells := 0, slots := 0, locals := Lo } s m args below meth c D kA (va_A (mmW kA z v σ0) s.heap.size) 2 (ax_Qi below args s D kA (mmW kA z v σ0) 0 0 (fun r w1 => r = rf ∧ w1 = mmW kA z v σf)) 0 [(0, .ref z), (1, .int x0)] [] (mmW kA z v σ) 0 0 by rw [hFe, hLoe, hσ0] at K; exact ax_ls ([(0, .ref z), (1, .int x0)]) [0, 1] rfl K
  have C : ax_C p s m args meth c b_MM_letter "ClauseProverModel" 2 (some .boolean) D kA (va_A (mmW kA z v σ0) s.heap.size) := by rw [hσ0]; exact C
  have hF : dd + 1 ≤ F := by omega
  have hLo : 64 * dd + 64 ≤ Lo := by omega
  clear hFe hLoe hσ0
  refine ax_iload_n (pc := 0) C d_MM_letter_0 rfl 1 rfl ?_
  refine ax_bipush (pc := 1) C 97 d_MM_letter_1 (by decide +kernel) ?_
  refine ax_icmp_lt (pc := 3) C 12 d_MM_letter_3 (by decide) (fun hc => ?_) (fun hc => ?_)
  · have h := it_t hc h
    refine ax_ls ([(0, .ref z), (1, .int x0)]) [0, 1] rfl ?_
    have hm : s_18 l D kA z v σ [x0] (σf, rf, _) := ih 18 _ _ _ h
    exact hm _ rfl p e s m args below meth c F Lo σ0 hF hLo C
  · have h := it_f hc h
    refine ax_iload_n (pc := 6) C d_MM_letter_6 rfl 1 rfl ?_
    refine ax_bipush (pc := 7) C 122 d_MM_letter_7 (by decide +kernel) ?_
    refine ax_icmp_le (pc := 9) C 24 d_MM_letter_9 (by decide) (fun hc => ?_) (fun hc => ?_)
    · have h := it_t hc h
      refine ax_ls ([(0, .ref z), (1, .int x0)]) [0, 1] rfl ?_
      have hm : s_19 l D kA z v σ [x0] (σf, rf, _) := ih 19 _ _ _ h
      exact hm _ rfl p e s m args below meth c F Lo σ0 hF hLo C
    · have h := it_f hc h
      refine ax_ls ([(0, .ref z), (1, .int x0)]) [0, 1] rfl ?_
      have hm : s_18 l D kA z v σ [x0] (σf, rf, _) := ih 18 _ _ _ h
      exact hm _ rfl p e s m args below meth c F Lo σ0 hF hLo C
set_option maxHeartbeats 4000000 in
set_option maxRecDepth 100000 in
theorem o_18 (l : Launch) (D : va_G) (kA : Nat → ClassId) (z : Nat) (v : Nat → Nat) (rec : mF) (ih : ∀ t σ xs res, rec t σ xs = some res → mSem l D kA z v t σ xs res) (σ : mS) (xs : List Int32) (res : mR) (h : k_18 rec σ xs = some res) : s_18 l D kA z v σ xs res := by
  intro x0 hxs
  subst hxs
  obtain ⟨σf, rf, dd⟩ := res
  have h : (if x0 < 65 then (rec 20 σ [x0]) else (if 90 < x0 then (rec 20 σ [x0]) else (rec 19 σ [x0]))) = some (σf, rf, dd) := h
  intro p e s m args below meth c F Lo σ0 hF hLo C
  dsimp only at hF hLo ⊢
  refine ax_iload_n (pc := 12) C d_MM_letter_12 rfl 1 rfl ?_
  refine ax_bipush (pc := 13) C 65 d_MM_letter_13 (by decide +kernel) ?_
  refine ax_icmp_lt (pc := 15) C 28 d_MM_letter_15 (by decide) (fun hc => ?_) (fun hc => ?_)
  · have h := it_t hc h
    refine ax_ls ([(0, .ref z), (1, .int x0)]) [0, 1] rfl ?_
    have hm : s_20 l D kA z v σ [x0] (σf, rf, _) := ih 20 _ _ _ h
    exact hm _ rfl p e s m args below meth c F Lo σ0 hF hLo C
  · have h := it_f hc h
    refine ax_iload_n (pc := 18) C d_MM_letter_18 rfl 1 rfl ?_
    refine ax_bipush (pc := 19) C 90 d_MM_letter_19 (by decide +kernel) ?_
    refine ax_icmp_gt (pc := 21) C 28 d_MM_letter_21 (by decide) (fun hc => ?_) (fun hc => ?_)
    · have h := it_t hc h
      refine ax_ls ([(0, .ref z), (1, .int x0)]) [0, 1] rfl ?_
      have hm : s_20 l D kA z v σ [x0] (σf, rf, _) := ih 20 _ _ _ h
      exact hm _ rfl p e s m args below meth c F Lo σ0 hF hLo C
    · have h := it_f hc h
      refine ax_ls ([(0, .ref z), (1, .int x0)]) [0, 1] rfl ?_
      have hm : s_19 l D kA z v σ [x0] (σf, rf, _) := ih 19 _ _ _ h
      exact hm _ rfl p e s m args below meth c F Lo σ0 hF hLo C
set_option maxHeartbeats 4000000 in
set_option maxRecDepth 100000 in
theorem o_19 (l : Launch) (D : va_G) (kA : Nat → ClassId) (z : Nat) (v : Nat → Nat) (rec : mF) (ih : ∀ t σ xs res, rec t σ xs = some res → mSem l D kA z v t σ xs res) (σ : mS) (xs : List Int32) (res : mR) (h : k_19 rec σ xs = some res) : s_19 l D kA z v σ xs res := by
  intro x0 hxs
  subst hxs
  obtain ⟨σf, rf, dd⟩ := res
  have h : (rec 21 σ [x0, 1]) = some (σf, rf, dd) := h
  intro p e s m args below meth c F Lo σ0 hF hLo C
  dsimp only at hF hLo ⊢
  refine ax_iconst (pc := 24) C 1 d_MM_letter_24 (by decide +kernel) ?_
  refine ax_goto (pc := 25) C 29 d_MM_letter_25 (by decide) ?_
  refine ax_ls ([(0, .ref z), (1, .int x0)]) [0, 1] rfl ?_
  have hm : s_21 l D kA z v σ [x0, 1] (σf, rf, _) := ih 21 _ _ _ h
  exact hm _ _ rfl p e s m args below meth c F Lo σ0 hF hLo C
set_option maxHeartbeats 4000000 in
set_option maxRecDepth 100000 in
theorem o_20 (l : Launch) (D : va_G) (kA : Nat → ClassId) (z : Nat) (v : Nat → Nat) (rec : mF) (ih : ∀ t σ xs res, rec t σ xs = some res → mSem l D kA z v t σ xs res) (σ : mS) (xs : List Int32) (res : mR) (h : k_20 rec σ xs = some res) : s_20 l D kA z v σ xs res := by
  intro x0 hxs
  subst hxs
  obtain ⟨σf, rf, dd⟩ := res
  have h : (rec 21 σ [x0, 0]) = some (σf, rf, dd) := h
  intro p e s m args below meth c F Lo σ0 hF hLo C
  dsimp only at hF hLo ⊢
  refine ax_iconst (pc := 28) C 0 d_MM_letter_28 (by decide +kernel) ?_
  refine ax_ls ([(0, .ref z), (1, .int x0)]) [0, 1] rfl ?_
  have hm : s_21 l D kA z v σ [x0, 0] (σf, rf, _) := ih 21 _ _ _ h
  exact hm _ _ rfl p e s m args below meth c F Lo σ0 hF hLo C
set_option maxHeartbeats 4000000 in
set_option maxRecDepth 100000 in
theorem o_21 (l : Launch) (D : va_G) (kA : Nat → ClassId) (z : Nat) (v : Nat → Nat) (rec : mF) (ih : ∀ t σ xs res, rec t σ xs = some res → mSem l D kA z v t σ xs res) (σ : mS) (xs : List Int32) (res : mR) (h : k_21 rec σ xs = some res) : s_21 l D kA z v σ xs res := by
  intro x0 x1 hxs
  subst hxs
  obtain ⟨σf, rf, dd⟩ := res
  have h : (if x1 = 0 ∨ x1 = 1 then some (σ, x1, 0) else none) = some (σf, rf, dd) := h
  intro p e s m args below meth c F Lo σ0 hF hLo C
  dsimp only at hF hLo ⊢
  obtain ⟨hb, h⟩ := it_g h
  cases h
  exact ax_zret (pc := 29) C d_MM_letter_29 (nb01 hb) ⟨rfl, rfl⟩ (Nat.le_refl _) (Nat.le_refl _)
set_option maxHeartbeats 4000000 in
set_option maxRecDepth 100000 in
theorem o_22 (l : Launch) (D : va_G) (kA : Nat → ClassId) (z : Nat) (v : Nat → Nat) (rec : mF) (ih : ∀ t σ xs res, rec t σ xs = some res → mSem l D kA z v t σ xs res) (σ : mS) (xs : List Int32) (res : mR) (h : k_22 rec σ xs = some res) : s_22 l D kA z v σ xs res := by
  intro x0 hxs
  subst hxs
  obtain ⟨σf, rf, dd⟩ := res
  have h : (bnd (rec 17 σ [x0]) (fun σ1 r1 => if r1 = 0 then (if x0 < 48 then (rec 23 σ1 [x0]) else (if x0 ≤ 57 then (rec 24 σ1 [x0]) else (rec 23 σ1 [x0]))) else (rec 24 σ1 [x0]))) = some (σf, rf, dd) := h
  refine ax_Mi.of (by decide +kernel) (Nat.le_of_ble_eq_true rfl) ?_
  intro p e s m args below meth c C hnm
  have C : ax_C p s m args meth c b_MM_inWord "ClauseProverModel" 2 (some .boolean) D kA (va_A (mmW kA z v σ) s.heap.size) := C
  obtain ⟨F, hFe⟩ : ∃ F, F = dd + 1 := ⟨_, rfl⟩
  obtain ⟨Lo, hLoe⟩ : ∃ Lo, Lo = 64 * dd + 64 := ⟨_, rfl⟩
  obtain ⟨σ0, hσ0⟩ : ∃ s0, s0 = σ := ⟨_, rfl⟩
  suffices K : AW p l e { frames := F, cells := 0, slots := 0, locals := Lo } s m args below meth c D kA (va_A (mmW kA z v σ0) s.heap.size) 2 (ax_Qi below args s D kA (mmW kA z v σ0) 0 0 (fun r w1 => r = rf ∧ w1 = mmW kA z v σf)) 0 [(0, .ref z), (1, .int x0)] [] (mmW kA z v σ) 0 0 by rw [hFe, hLoe, hσ0] at K; exact ax_ls ([(0, .ref z), (1, .int x0)]) [0, 1] rfl K
  have C : ax_C p s m args meth c b_MM_inWord "ClauseProverModel" 2 (some .boolean) D kA (va_A (mmW kA z v σ0) s.heap.size) := by rw [hσ0]; exact C
  have hF : dd + 1 ≤ F := by omega
  have hLo : 64 * dd + 64 ≤ Lo := by omega
  clear hFe hLoe hσ0
  refine ax_aload_n (pc := 0) C d_MM_inWord_0 rfl 0 rfl ?_
  refine ax_iload_n (pc := 1) C d_MM_inWord_1 rfl 1 rfl ?_
  obtain ⟨σ1, r1, d1_1, d2_1, h1, h, hd2, hd1⟩ := it_b h
  have hm : s_17 l D kA z v σ [x0] (σ1, r1, d1_1) := ih 17 _ _ _ h1
  refine mc_Vi (pc := 2) C (As := [.int x0]) (rest := []) (hm _ rfl) ml_MM_405 d_MM_inWord_2 rfl rfl (by dsimp only; omega) (by dsimp only; omega) (Nat.le_of_ble_eq_true rfl) (Nat.le_of_ble_eq_true rfl) (Nat.le_of_ble_eq_true rfl) ?_
  have hF : d2_1 + 1 ≤ F := by omega
  have hLo : 64 * d2_1 + 64 ≤ Lo := by omega
  refine ax_if_ne (pc := 5) C 26 d_MM_inWord_5 (by decide) (fun hc => ?_) (fun hc => ?_)
  · have h := it_f hc h
    refine ax_ls ([(0, .ref z), (1, .int x0)]) [0, 1] rfl ?_
    have hm : s_24 l D kA z v σ1 [x0] (σf, rf, _) := ih 24 _ _ _ h
    exact hm _ rfl p e s m args below meth c F Lo σ0 hF hLo C
  · have h := it_t hc h
    refine ax_iload_n (pc := 8) C d_MM_inWord_8 rfl 1 rfl ?_
    refine ax_bipush (pc := 9) C 48 d_MM_inWord_9 (by decide +kernel) ?_
    refine ax_icmp_lt (pc := 11) C 20 d_MM_inWord_11 (by decide) (fun hc => ?_) (fun hc => ?_)
    · have h := it_t hc h
      refine ax_ls ([(0, .ref z), (1, .int x0)]) [0, 1] rfl ?_
      have hm : s_23 l D kA z v σ1 [x0] (σf, rf, _) := ih 23 _ _ _ h
      exact hm _ rfl p e s m args below meth c F Lo σ0 hF hLo C
    · have h := it_f hc h
      refine ax_iload_n (pc := 14) C d_MM_inWord_14 rfl 1 rfl ?_
      refine ax_bipush (pc := 15) C 57 d_MM_inWord_15 (by decide +kernel) ?_
      refine ax_icmp_le (pc := 17) C 26 d_MM_inWord_17 (by decide) (fun hc => ?_) (fun hc => ?_)
      · have h := it_t hc h
        refine ax_ls ([(0, .ref z), (1, .int x0)]) [0, 1] rfl ?_
        have hm : s_24 l D kA z v σ1 [x0] (σf, rf, _) := ih 24 _ _ _ h
        exact hm _ rfl p e s m args below meth c F Lo σ0 hF hLo C
      · have h := it_f hc h
        refine ax_ls ([(0, .ref z), (1, .int x0)]) [0, 1] rfl ?_
        have hm : s_23 l D kA z v σ1 [x0] (σf, rf, _) := ih 23 _ _ _ h
        exact hm _ rfl p e s m args below meth c F Lo σ0 hF hLo C
set_option maxHeartbeats 4000000 in
set_option maxRecDepth 100000 in
theorem o_23 (l : Launch) (D : va_G) (kA : Nat → ClassId) (z : Nat) (v : Nat → Nat) (rec : mF) (ih : ∀ t σ xs res, rec t σ xs = some res → mSem l D kA z v t σ xs res) (σ : mS) (xs : List Int32) (res : mR) (h : k_23 rec σ xs = some res) : s_23 l D kA z v σ xs res := by
  intro x0 hxs
  subst hxs
  obtain ⟨σf, rf, dd⟩ := res
  have h : (if x0 = 95 then (rec 24 σ [x0]) else (rec 25 σ [x0, 0])) = some (σf, rf, dd) := h
  intro p e s m args below meth c F Lo σ0 hF hLo C
  dsimp only at hF hLo ⊢
  refine ax_iload_n (pc := 20) C d_MM_inWord_20 rfl 1 rfl ?_
  refine ax_bipush (pc := 21) C 95 d_MM_inWord_21 (by decide +kernel) ?_
  refine ax_icmp_ne (pc := 23) C 30 d_MM_inWord_23 (by decide) (fun hc => ?_) (fun hc => ?_)
  · have h := it_f hc h
    refine ax_iconst (pc := 30) C 0 d_MM_inWord_30 (by decide +kernel) ?_
    refine ax_ls ([(0, .ref z), (1, .int x0)]) [0, 1] rfl ?_
    have hm : s_25 l D kA z v σ [x0, 0] (σf, rf, _) := ih 25 _ _ _ h
    exact hm _ _ rfl p e s m args below meth c F Lo σ0 hF hLo C
  · have h := it_t hc h
    refine ax_ls ([(0, .ref z), (1, .int x0)]) [0, 1] rfl ?_
    have hm : s_24 l D kA z v σ [x0] (σf, rf, _) := ih 24 _ _ _ h
    exact hm _ rfl p e s m args below meth c F Lo σ0 hF hLo C
set_option maxHeartbeats 4000000 in
set_option maxRecDepth 100000 in
theorem o_24 (l : Launch) (D : va_G) (kA : Nat → ClassId) (z : Nat) (v : Nat → Nat) (rec : mF) (ih : ∀ t σ xs res, rec t σ xs = some res → mSem l D kA z v t σ xs res) (σ : mS) (xs : List Int32) (res : mR) (h : k_24 rec σ xs = some res) : s_24 l D kA z v σ xs res := by
  intro x0 hxs
  subst hxs
  obtain ⟨σf, rf, dd⟩ := res
  have h : (rec 25 σ [x0, 1]) = some (σf, rf, dd) := h
  intro p e s m args below meth c F Lo σ0 hF hLo C
  dsimp only at hF hLo ⊢
  refine ax_iconst (pc := 26) C 1 d_MM_inWord_26 (by decide +kernel) ?_
  refine ax_goto (pc := 27) C 31 d_MM_inWord_27 (by decide) ?_
  refine ax_ls ([(0, .ref z), (1, .int x0)]) [0, 1] rfl ?_
  have hm : s_25 l D kA z v σ [x0, 1] (σf, rf, _) := ih 25 _ _ _ h
  exact hm _ _ rfl p e s m args below meth c F Lo σ0 hF hLo C
set_option maxHeartbeats 4000000 in
set_option maxRecDepth 100000 in
theorem o_25 (l : Launch) (D : va_G) (kA : Nat → ClassId) (z : Nat) (v : Nat → Nat) (rec : mF) (ih : ∀ t σ xs res, rec t σ xs = some res → mSem l D kA z v t σ xs res) (σ : mS) (xs : List Int32) (res : mR) (h : k_25 rec σ xs = some res) : s_25 l D kA z v σ xs res := by
  intro x0 x1 hxs
  subst hxs
  obtain ⟨σf, rf, dd⟩ := res
  have h : (if x1 = 0 ∨ x1 = 1 then some (σ, x1, 0) else none) = some (σf, rf, dd) := h
  intro p e s m args below meth c F Lo σ0 hF hLo C
  dsimp only at hF hLo ⊢
  obtain ⟨hb, h⟩ := it_g h
  cases h
  exact ax_zret (pc := 31) C d_MM_inWord_31 (nb01 hb) ⟨rfl, rfl⟩ (Nat.le_refl _) (Nat.le_refl _)
set_option maxHeartbeats 4000000 in
set_option maxRecDepth 100000 in
theorem o_26 (l : Launch) (D : va_G) (kA : Nat → ClassId) (z : Nat) (v : Nat → Nat) (rec : mF) (ih : ∀ t σ xs res, rec t σ xs = some res → mSem l D kA z v t σ xs res) (σ : mS) (xs : List Int32) (res : mR) (h : k_26 rec σ xs = some res) : s_26 l D kA z v σ xs res := by
  intro x0 x1 hxs
  subst hxs
  obtain ⟨σf, rf, dd⟩ := res
  have h : (if (σ.1 2) ≤ x0 then (rec 27 σ [x0, x1]) else (if bin x0 65536 = true then (if (σ.2.1 0 (Int32.toNatClampNeg x0)) = x1 then (rec 28 σ [x0, x1, 1]) else (rec 27 σ [x0, x1])) else none)) = some (σf, rf, dd) := h
  refine ax_Mi.of (by decide +kernel) (Nat.le_of_ble_eq_true rfl) ?_
  intro p e s m args below meth c C hnm
  have C : ax_C p s m args meth c b_MM_at "ClauseProverModel" 3 (some .boolean) D kA (va_A (mmW kA z v σ) s.heap.size) := C
  obtain ⟨F, hFe⟩ : ∃ F, F = dd + 1 := ⟨_, rfl⟩
  obtain ⟨Lo, hLoe⟩ : ∃ Lo, Lo = 64 * dd + 64 := ⟨_, rfl⟩
  obtain ⟨σ0, hσ0⟩ : ∃ s0, s0 = σ := ⟨_, rfl⟩
  suffices K : AW p l e { frames := F, cells := 0, slots := 0, locals := Lo } s m args below meth c D kA (va_A (mmW kA z v σ0) s.heap.size) 3 (ax_Qi below args s D kA (mmW kA z v σ0) 0 0 (fun r w1 => r = rf ∧ w1 = mmW kA z v σf)) 0 [(0, .ref z), (1, .int x0), (2, .int x1)] [] (mmW kA z v σ) 0 0 by rw [hFe, hLoe, hσ0] at K; exact ax_ls ([(0, .ref z), (1, .int x0), (2, .int x1)]) [0, 1, 2] rfl K
  have C : ax_C p s m args meth c b_MM_at "ClauseProverModel" 3 (some .boolean) D kA (va_A (mmW kA z v σ0) s.heap.size) := by rw [hσ0]; exact C
  have hF : dd + 1 ≤ F := by omega
  have hLo : 64 * dd + 64 ≤ Lo := by omega
  clear hFe hLoe hσ0
  refine ax_iload_n (pc := 0) C d_MM_at_0 rfl 1 rfl ?_
  refine ax_aload_n (pc := 1) C d_MM_at_1 rfl 0 rfl ?_
  refine mg_17 (pc := 2) C d_MM_at_2 ?_
  refine ax_icmp_ge (pc := 5) C 22 d_MM_at_5 (by decide) (fun hc => ?_) (fun hc => ?_)
  · have h := it_t hc h
    refine ax_ls ([(0, .ref z), (1, .int x0), (2, .int x1)]) [0, 1, 2] rfl ?_
    have hm : s_27 l D kA z v σ [x0, x1] (σf, rf, _) := ih 27 _ _ _ h
    exact hm _ _ rfl p e s m args below meth c F Lo σ0 hF hLo C
  · have h := it_f hc h
    refine ax_aload_n (pc := 8) C d_MM_at_8 rfl 0 rfl ?_
    refine mg_8 (pc := 9) C d_MM_at_9 ?_
    refine ax_iload_n (pc := 12) C d_MM_at_12 rfl 1 rfl ?_
    obtain ⟨hb, h⟩ := it_g h
    refine ml_0 (pc := 13) C d_MM_at_13 (bin_in hb) ?_
    refine ax_iload_n (pc := 14) C d_MM_at_14 rfl 2 rfl ?_
    refine ax_icmp_ne (pc := 15) C 22 d_MM_at_15 (by decide) (fun hc => ?_) (fun hc => ?_)
    · have h := it_f hc h
      refine ax_ls ([(0, .ref z), (1, .int x0), (2, .int x1)]) [0, 1, 2] rfl ?_
      have hm : s_27 l D kA z v σ [x0, x1] (σf, rf, _) := ih 27 _ _ _ h
      exact hm _ _ rfl p e s m args below meth c F Lo σ0 hF hLo C
    · have h := it_t hc h
      refine ax_iconst (pc := 18) C 1 d_MM_at_18 (by decide +kernel) ?_
      refine ax_goto (pc := 19) C 23 d_MM_at_19 (by decide) ?_
      refine ax_ls ([(0, .ref z), (1, .int x0), (2, .int x1)]) [0, 1, 2] rfl ?_
      have hm : s_28 l D kA z v σ [x0, x1, 1] (σf, rf, _) := ih 28 _ _ _ h
      exact hm _ _ _ rfl p e s m args below meth c F Lo σ0 hF hLo C
set_option maxHeartbeats 4000000 in
set_option maxRecDepth 100000 in
theorem o_27 (l : Launch) (D : va_G) (kA : Nat → ClassId) (z : Nat) (v : Nat → Nat) (rec : mF) (ih : ∀ t σ xs res, rec t σ xs = some res → mSem l D kA z v t σ xs res) (σ : mS) (xs : List Int32) (res : mR) (h : k_27 rec σ xs = some res) : s_27 l D kA z v σ xs res := by
  intro x0 x1 hxs
  subst hxs
  obtain ⟨σf, rf, dd⟩ := res
  have h : (rec 28 σ [x0, x1, 0]) = some (σf, rf, dd) := h
  intro p e s m args below meth c F Lo σ0 hF hLo C
  dsimp only at hF hLo ⊢
  refine ax_iconst (pc := 22) C 0 d_MM_at_22 (by decide +kernel) ?_
  refine ax_ls ([(0, .ref z), (1, .int x0), (2, .int x1)]) [0, 1, 2] rfl ?_
  have hm : s_28 l D kA z v σ [x0, x1, 0] (σf, rf, _) := ih 28 _ _ _ h
  exact hm _ _ _ rfl p e s m args below meth c F Lo σ0 hF hLo C
set_option maxHeartbeats 4000000 in
set_option maxRecDepth 100000 in
theorem o_28 (l : Launch) (D : va_G) (kA : Nat → ClassId) (z : Nat) (v : Nat → Nat) (rec : mF) (ih : ∀ t σ xs res, rec t σ xs = some res → mSem l D kA z v t σ xs res) (σ : mS) (xs : List Int32) (res : mR) (h : k_28 rec σ xs = some res) : s_28 l D kA z v σ xs res := by
  intro x0 x1 x2 hxs
  subst hxs
  obtain ⟨σf, rf, dd⟩ := res
  have h : (if x2 = 0 ∨ x2 = 1 then some (σ, x2, 0) else none) = some (σf, rf, dd) := h
  intro p e s m args below meth c F Lo σ0 hF hLo C
  dsimp only at hF hLo ⊢
  obtain ⟨hb, h⟩ := it_g h
  cases h
  exact ax_zret (pc := 23) C d_MM_at_23 (nb01 hb) ⟨rfl, rfl⟩ (Nat.le_refl _) (Nat.le_refl _)
set_option maxHeartbeats 4000000 in
set_option maxRecDepth 100000 in
theorem o_29 (l : Launch) (D : va_G) (kA : Nat → ClassId) (z : Nat) (v : Nat → Nat) (rec : mF) (ih : ∀ t σ xs res, rec t σ xs = some res → mSem l D kA z v t σ xs res) (σ : mS) (xs : List Int32) (res : mR) (h : k_29 rec σ xs = some res) : s_29 l D kA z v σ xs res := by
  intro x0 x1 x2 x3 hxs
  subst hxs
  obtain ⟨σf, rf, dd⟩ := res
  have h : (if bin (σ.1 37) 20100 = true then (lt_ (mA σ 30 (Int32.toNatClampNeg (σ.1 37)) x0) (fun σ1 => if bin (σ1.1 37) 20100 = true then (lt_ (mA σ1 31 (Int32.toNatClampNeg (σ1.1 37)) x1) (fun σ2 => if bin (σ2.1 37) 20100 = true then (lt_ (mA σ2 32 (Int32.toNatClampNeg (σ2.1 37)) x2) (fun σ3 => if bin (σ3.1 37) 20100 = true then (lt_ (mA σ3 33 (Int32.toNatClampNeg (σ3.1 37)) x3) (fun σ4 => lt_ (mI σ4 37 (((σ4.1 37) : Int32) + 1)) (fun σ5 => some (σ5, (σ4.1 37), 0)))) else none)) else none)) else none)) else none) = some (σf, rf, dd) := h
  refine ax_Mi.of (by decide +kernel) (Nat.le_of_ble_eq_true rfl) ?_
  intro p e s m args below meth c C hnm
  have C : ax_C p s m args meth c b_MM_node "ClauseProverModel" 5 (some .int) D kA (va_A (mmW kA z v σ) s.heap.size) := C
  obtain ⟨F, hFe⟩ : ∃ F, F = dd + 1 := ⟨_, rfl⟩
  obtain ⟨Lo, hLoe⟩ : ∃ Lo, Lo = 64 * dd + 64 := ⟨_, rfl⟩
  obtain ⟨σ0, hσ0⟩ : ∃ s0, s0 = σ := ⟨_, rfl⟩
  suffices K : AW p l e { frames := F, cells := 0, slots := 0, locals := Lo } s m args below meth c D kA (va_A (mmW kA z v σ0) s.heap.size) 5 (ax_Qi below args s D kA (mmW kA z v σ0) 0 0 (fun r w1 => r = rf ∧ w1 = mmW kA z v σf)) 0 [(0, .ref z), (1, .int x0), (2, .int x1), (3, .int x2), (4, .int x3)] [] (mmW kA z v σ) 0 0 by rw [hFe, hLoe, hσ0] at K; exact ax_ls ([(0, .ref z), (1, .int x0), (2, .int x1), (3, .int x2), (4, .int x3)]) [0, 1, 2, 3, 4] rfl K
  have C : ax_C p s m args meth c b_MM_node "ClauseProverModel" 5 (some .int) D kA (va_A (mmW kA z v σ0) s.heap.size) := by rw [hσ0]; exact C
  have hF : dd + 1 ≤ F := by omega
  have hLo : 64 * dd + 64 ≤ Lo := by omega
  clear hFe hLoe hσ0
  refine ax_aload_n (pc := 0) C d_MM_node_0 rfl 0 rfl ?_
  refine mg_105 (pc := 1) C d_MM_node_1 ?_
  refine ax_aload_n (pc := 4) C d_MM_node_4 rfl 0 rfl ?_
  refine mg_126 (pc := 5) C d_MM_node_5 ?_
  refine ax_iload_n (pc := 8) C d_MM_node_8 rfl 1 rfl ?_
  obtain ⟨hb, h⟩ := it_g h
  refine ms_30 (pc := 9) C d_MM_node_9 (bin_in hb) ?_
  have h := it_l h
  generalize mA σ 30 (Int32.toNatClampNeg (σ.1 37)) x0 = σ1 at h ⊢
  refine ax_aload_n (pc := 10) C d_MM_node_10 rfl 0 rfl ?_
  refine mg_108 (pc := 11) C d_MM_node_11 ?_
  refine ax_aload_n (pc := 14) C d_MM_node_14 rfl 0 rfl ?_
  refine mg_126 (pc := 15) C d_MM_node_15 ?_
  refine ax_iload_n (pc := 18) C d_MM_node_18 rfl 2 rfl ?_
  obtain ⟨hb, h⟩ := it_g h
  refine ms_31 (pc := 19) C d_MM_node_19 (bin_in hb) ?_
  have h := it_l h
  generalize mA σ1 31 (Int32.toNatClampNeg (σ1.1 37)) x1 = σ2 at h ⊢
  refine ax_aload_n (pc := 20) C d_MM_node_20 rfl 0 rfl ?_
  refine mg_111 (pc := 21) C d_MM_node_21 ?_
  refine ax_aload_n (pc := 24) C d_MM_node_24 rfl 0 rfl ?_
  refine mg_126 (pc := 25) C d_MM_node_25 ?_
  refine ax_iload_n (pc := 28) C d_MM_node_28 rfl 3 rfl ?_
  obtain ⟨hb, h⟩ := it_g h
  refine ms_32 (pc := 29) C d_MM_node_29 (bin_in hb) ?_
  have h := it_l h
  generalize mA σ2 32 (Int32.toNatClampNeg (σ2.1 37)) x2 = σ3 at h ⊢
  refine ax_aload_n (pc := 30) C d_MM_node_30 rfl 0 rfl ?_
  refine mg_114 (pc := 31) C d_MM_node_31 ?_
  refine ax_aload_n (pc := 34) C d_MM_node_34 rfl 0 rfl ?_
  refine mg_126 (pc := 35) C d_MM_node_35 ?_
  refine ax_iload (pc := 38) C d_MM_node_38 4 rfl ?_
  obtain ⟨hb, h⟩ := it_g h
  refine ms_33 (pc := 40) C d_MM_node_40 (bin_in hb) ?_
  have h := it_l h
  generalize mA σ3 33 (Int32.toNatClampNeg (σ3.1 37)) x3 = σ4 at h ⊢
  refine ax_aload_n (pc := 41) C d_MM_node_41 rfl 0 rfl ?_
  refine ax_dup (pc := 42) C d_MM_node_42 rfl ?_
  refine mg_126 (pc := 43) C d_MM_node_43 ?_
  refine ax_dup_x1 (pc := 46) C d_MM_node_46 rfl rfl ?_
  refine ax_iconst (pc := 47) C 1 d_MM_node_47 (by decide +kernel) ?_
  refine ax_iadd (pc := 48) C d_MM_node_48 ?_
  refine mp_126 (pc := 49) C d_MM_node_49 ?_
  have h := it_l h
  generalize mI σ4 37 (((σ4.1 37) : Int32) + 1) = σ5 at h ⊢
  cases h
  exact ax_iret (pc := 52) C d_MM_node_52 ⟨rfl, rfl⟩ (Nat.le_refl _) (Nat.le_refl _)
set_option maxHeartbeats 4000000 in
set_option maxRecDepth 100000 in
theorem o_30 (l : Launch) (D : va_G) (kA : Nat → ClassId) (z : Nat) (v : Nat → Nat) (rec : mF) (ih : ∀ t σ xs res, rec t σ xs = some res → mSem l D kA z v t σ xs res) (σ : mS) (xs : List Int32) (res : mR) (h : k_30 rec σ xs = some res) : s_30 l D kA z v σ xs res := by
  intro x0 hxs
  subst hxs
  obtain ⟨σf, rf, dd⟩ := res
  have h : (if bin x0 300 = true then (if (σ.2.1 22 (Int32.toNatClampNeg x0)) = (((σ.1 10) : Int32) - (σ.1 9)) then (rec 31 σ [x0, 0]) else (some (σ, 0, 0))) else none) = some (σf, rf, dd) := h
  refine ax_Mi.of (by decide +kernel) (Nat.le_of_ble_eq_true rfl) ?_
  intro p e s m args below meth c C hnm
  have C : ax_C p s m args meth c b_MM_isBinder "ClauseProverModel" 3 (some .boolean) D kA (va_A (mmW kA z v σ) s.heap.size) := C
  obtain ⟨F, hFe⟩ : ∃ F, F = dd + 1 := ⟨_, rfl⟩
  obtain ⟨Lo, hLoe⟩ : ∃ Lo, Lo = 64 * dd + 64 := ⟨_, rfl⟩
  obtain ⟨σ0, hσ0⟩ : ∃ s0, s0 = σ := ⟨_, rfl⟩
  suffices K : AW p l e { frames := F, cells := 0, slots := 0, locals := Lo } s m args below meth c D kA (va_A (mmW kA z v σ0) s.heap.size) 3 (ax_Qi below args s D kA (mmW kA z v σ0) 0 0 (fun r w1 => r = rf ∧ w1 = mmW kA z v σf)) 0 [(0, .ref z), (1, .int x0)] [] (mmW kA z v σ) 0 0 by rw [hFe, hLoe, hσ0] at K; exact ax_ls ([(0, .ref z), (1, .int x0)]) [0, 1] rfl K
  have C : ax_C p s m args meth c b_MM_isBinder "ClauseProverModel" 3 (some .boolean) D kA (va_A (mmW kA z v σ0) s.heap.size) := by rw [hσ0]; exact C
  have hF : dd + 1 ≤ F := by omega
  have hLo : 64 * dd + 64 ≤ Lo := by omega
  clear hFe hLoe hσ0
  refine ax_aload_n (pc := 0) C d_MM_isBinder_0 rfl 0 rfl ?_
  refine mg_80 (pc := 1) C d_MM_isBinder_1 ?_
  refine ax_iload_n (pc := 4) C d_MM_isBinder_4 rfl 1 rfl ?_
  obtain ⟨hb, h⟩ := it_g h
  refine ml_22 (pc := 5) C d_MM_isBinder_5 (bin_in hb) ?_
  refine ax_aload_n (pc := 6) C d_MM_isBinder_6 rfl 0 rfl ?_
  refine mg_42 (pc := 7) C d_MM_isBinder_7 ?_
  refine ax_aload_n (pc := 10) C d_MM_isBinder_10 rfl 0 rfl ?_
  refine mg_39 (pc := 11) C d_MM_isBinder_11 ?_
  refine ax_isub (pc := 14) C d_MM_isBinder_14 ?_
  refine ax_icmp_eq (pc := 15) C 20 d_MM_isBinder_15 (by decide) (fun hc => ?_) (fun hc => ?_)
  · have h := it_t hc h
    refine ax_iconst (pc := 20) C 0 d_MM_isBinder_20 (by decide +kernel) ?_
    refine ax_istore_n (pc := 21) C d_MM_isBinder_21 rfl (Nat.le_of_ble_eq_true rfl) ([(2, .int 0), (0, .ref z), (1, .int x0)]) rfl ?_
    refine ax_ls ([(0, .ref z), (1, .int x0), (2, .int 0)]) [1, 2, 0] rfl ?_
    have hm : s_31 l D kA z v σ [x0, 0] (σf, rf, _) := ih 31 _ _ _ h
    exact hm _ _ rfl p e s m args below meth c F Lo σ0 hF hLo C
  · have h := it_f hc h
    refine ax_iconst (pc := 18) C 0 d_MM_isBinder_18 (by decide +kernel) ?_
    cases h
    exact ax_zret (pc := 19) C d_MM_isBinder_19 rfl ⟨rfl, rfl⟩ (Nat.le_refl _) (Nat.le_refl _)
set_option maxHeartbeats 4000000 in
set_option maxRecDepth 100000 in
theorem o_31 (l : Launch) (D : va_G) (kA : Nat → ClassId) (z : Nat) (v : Nat → Nat) (rec : mF) (ih : ∀ t σ xs res, rec t σ xs = some res → mSem l D kA z v t σ xs res) (σ : mS) (xs : List Int32) (res : mR) (h : k_31 rec σ xs = some res) : s_31 l D kA z v σ xs res := by
  intro x0 x1 hxs
  subst hxs
  obtain ⟨σf, rf, dd⟩ := res
  have h : (if bin x0 300 = true then (if (σ.2.1 22 (Int32.toNatClampNeg x0)) ≤ x1 then (some (σ, 1, 0)) else (if bin x0 300 = true then (if bin (((σ.2.1 21 (Int32.toNatClampNeg x0)) : Int32) + x1) 65536 = true then (if bin (((σ.1 9) : Int32) + x1) 65536 = true then (if (σ.2.1 0 (Int32.toNatClampNeg (((σ.2.1 21 (Int32.toNatClampNeg x0)) : Int32) + x1))) = (σ.2.1 0 (Int32.toNatClampNeg (((σ.1 9) : Int32) + x1))) then (rec 31 σ [x0, (x1 + 1)]) else (some (σ, 0, 0))) else none) else none) else none)) else none) = some (σf, rf, dd) := h
  intro p e s m args below meth c F Lo σ0 hF hLo C
  dsimp only at hF hLo ⊢
  refine ax_iload_n (pc := 22) C d_MM_isBinder_22 rfl 2 rfl ?_
  refine ax_aload_n (pc := 23) C d_MM_isBinder_23 rfl 0 rfl ?_
  refine mg_80 (pc := 24) C d_MM_isBinder_24 ?_
  refine ax_iload_n (pc := 27) C d_MM_isBinder_27 rfl 1 rfl ?_
  obtain ⟨hb, h⟩ := it_g h
  refine ml_22 (pc := 28) C d_MM_isBinder_28 (bin_in hb) ?_
  refine ax_icmp_ge (pc := 29) C 67 d_MM_isBinder_29 (by decide) (fun hc => ?_) (fun hc => ?_)
  · have h := it_t hc h
    refine ax_iconst (pc := 67) C 1 d_MM_isBinder_67 (by decide +kernel) ?_
    cases h
    exact ax_zret (pc := 68) C d_MM_isBinder_68 rfl ⟨rfl, rfl⟩ (Nat.le_refl _) (Nat.le_refl _)
  · have h := it_f hc h
    refine ax_aload_n (pc := 32) C d_MM_isBinder_32 rfl 0 rfl ?_
    refine mg_8 (pc := 33) C d_MM_isBinder_33 ?_
    refine ax_aload_n (pc := 36) C d_MM_isBinder_36 rfl 0 rfl ?_
    refine mg_77 (pc := 37) C d_MM_isBinder_37 ?_
    refine ax_iload_n (pc := 40) C d_MM_isBinder_40 rfl 1 rfl ?_
    obtain ⟨hb, h⟩ := it_g h
    refine ml_21 (pc := 41) C d_MM_isBinder_41 (bin_in hb) ?_
    refine ax_iload_n (pc := 42) C d_MM_isBinder_42 rfl 2 rfl ?_
    refine ax_iadd (pc := 43) C d_MM_isBinder_43 ?_
    obtain ⟨hb, h⟩ := it_g h
    refine ml_0 (pc := 44) C d_MM_isBinder_44 (bin_in hb) ?_
    refine ax_aload_n (pc := 45) C d_MM_isBinder_45 rfl 0 rfl ?_
    refine mg_8 (pc := 46) C d_MM_isBinder_46 ?_
    refine ax_aload_n (pc := 49) C d_MM_isBinder_49 rfl 0 rfl ?_
    refine mg_39 (pc := 50) C d_MM_isBinder_50 ?_
    refine ax_iload_n (pc := 53) C d_MM_isBinder_53 rfl 2 rfl ?_
    refine ax_iadd (pc := 54) C d_MM_isBinder_54 ?_
    obtain ⟨hb, h⟩ := it_g h
    refine ml_0 (pc := 55) C d_MM_isBinder_55 (bin_in hb) ?_
    refine ax_icmp_eq (pc := 56) C 61 d_MM_isBinder_56 (by decide) (fun hc => ?_) (fun hc => ?_)
    · have h := it_t hc h
      refine ax_iinc (pc := 61) C (x1 + 1) d_MM_isBinder_61 2 rfl rfl (Nat.le_of_ble_eq_true rfl) ([(2, .int (x1 + 1)), (0, .ref z), (1, .int x0)]) rfl ?_
      refine ax_goto (pc := 64) C 22 d_MM_isBinder_64 (by decide) ?_
      refine ax_ls ([(0, .ref z), (1, .int x0), (2, .int (x1 + 1))]) [1, 2, 0] rfl ?_
      have hm : s_31 l D kA z v σ [x0, (x1 + 1)] (σf, rf, _) := ih 31 _ _ _ h
      exact hm _ _ rfl p e s m args below meth c F Lo σ0 hF hLo C
    · have h := it_f hc h
      refine ax_iconst (pc := 59) C 0 d_MM_isBinder_59 (by decide +kernel) ?_
      cases h
      exact ax_zret (pc := 60) C d_MM_isBinder_60 rfl ⟨rfl, rfl⟩ (Nat.le_refl _) (Nat.le_refl _)
set_option maxHeartbeats 4000000 in
set_option maxRecDepth 100000 in
theorem o_32 (l : Launch) (D : va_G) (kA : Nat → ClassId) (z : Nat) (v : Nat → Nat) (rec : mF) (ih : ∀ t σ xs res, rec t σ xs = some res → mSem l D kA z v t σ xs res) (σ : mS) (xs : List Int32) (res : mR) (h : k_32 rec σ xs = some res) : s_32 l D kA z v σ xs res := by
  intro x0 x1 hxs
  subst hxs
  obtain ⟨σf, rf, dd⟩ := res
  have h : (if bin (σ.1 38) 20100 = true then (lt_ (mA σ 34 (Int32.toNatClampNeg (σ.1 38)) x0) (fun σ1 => if bin (σ1.1 38) 20100 = true then (lt_ (mA σ1 35 (Int32.toNatClampNeg (σ1.1 38)) x1) (fun σ2 => if bin (σ2.1 38) 20100 = true then (lt_ (mA σ2 36 (Int32.toNatClampNeg (σ2.1 38)) (-1)) (fun σ3 => lt_ (mI σ3 38 (((σ3.1 38) : Int32) + 1)) (fun σ4 => some (σ4, (σ3.1 38), 0)))) else none)) else none)) else none) = some (σf, rf, dd) := h
  refine ax_Mi.of (by decide +kernel) (Nat.le_of_ble_eq_true rfl) ?_
  intro p e s m args below meth c C hnm
  have C : ax_C p s m args meth c b_MM_term "ClauseProverModel" 3 (some .int) D kA (va_A (mmW kA z v σ) s.heap.size) := C
  obtain ⟨F, hFe⟩ : ∃ F, F = dd + 1 := ⟨_, rfl⟩
  obtain ⟨Lo, hLoe⟩ : ∃ Lo, Lo = 64 * dd + 64 := ⟨_, rfl⟩
  obtain ⟨σ0, hσ0⟩ : ∃ s0, s0 = σ := ⟨_, rfl⟩
  suffices K : AW p l e { frames := F, cells := 0, slots := 0, locals := Lo } s m args below meth c D kA (va_A (mmW kA z v σ0) s.heap.size) 3 (ax_Qi below args s D kA (mmW kA z v σ0) 0 0 (fun r w1 => r = rf ∧ w1 = mmW kA z v σf)) 0 [(0, .ref z), (1, .int x0), (2, .int x1)] [] (mmW kA z v σ) 0 0 by rw [hFe, hLoe, hσ0] at K; exact ax_ls ([(0, .ref z), (1, .int x0), (2, .int x1)]) [0, 1, 2] rfl K
  have C : ax_C p s m args meth c b_MM_term "ClauseProverModel" 3 (some .int) D kA (va_A (mmW kA z v σ0) s.heap.size) := by rw [hσ0]; exact C
  have hF : dd + 1 ≤ F := by omega
  have hLo : 64 * dd + 64 ≤ Lo := by omega
  clear hFe hLoe hσ0
  refine ax_aload_n (pc := 0) C d_MM_term_0 rfl 0 rfl ?_
  refine mg_117 (pc := 1) C d_MM_term_1 ?_
  refine ax_aload_n (pc := 4) C d_MM_term_4 rfl 0 rfl ?_
  refine mg_129 (pc := 5) C d_MM_term_5 ?_
  refine ax_iload_n (pc := 8) C d_MM_term_8 rfl 1 rfl ?_
  obtain ⟨hb, h⟩ := it_g h
  refine ms_34 (pc := 9) C d_MM_term_9 (bin_in hb) ?_
  have h := it_l h
  generalize mA σ 34 (Int32.toNatClampNeg (σ.1 38)) x0 = σ1 at h ⊢
  refine ax_aload_n (pc := 10) C d_MM_term_10 rfl 0 rfl ?_
  refine mg_120 (pc := 11) C d_MM_term_11 ?_
  refine ax_aload_n (pc := 14) C d_MM_term_14 rfl 0 rfl ?_
  refine mg_129 (pc := 15) C d_MM_term_15 ?_
  refine ax_iload_n (pc := 18) C d_MM_term_18 rfl 2 rfl ?_
  obtain ⟨hb, h⟩ := it_g h
  refine ms_35 (pc := 19) C d_MM_term_19 (bin_in hb) ?_
  have h := it_l h
  generalize mA σ1 35 (Int32.toNatClampNeg (σ1.1 38)) x1 = σ2 at h ⊢
  refine ax_aload_n (pc := 20) C d_MM_term_20 rfl 0 rfl ?_
  refine mg_123 (pc := 21) C d_MM_term_21 ?_
  refine ax_aload_n (pc := 24) C d_MM_term_24 rfl 0 rfl ?_
  refine mg_129 (pc := 25) C d_MM_term_25 ?_
  refine ax_iconst (pc := 28) C (-1) d_MM_term_28 (by decide +kernel) ?_
  obtain ⟨hb, h⟩ := it_g h
  refine ms_36 (pc := 29) C d_MM_term_29 (bin_in hb) ?_
  have h := it_l h
  generalize mA σ2 36 (Int32.toNatClampNeg (σ2.1 38)) (-1) = σ3 at h ⊢
  refine ax_aload_n (pc := 30) C d_MM_term_30 rfl 0 rfl ?_
  refine ax_dup (pc := 31) C d_MM_term_31 rfl ?_
  refine mg_129 (pc := 32) C d_MM_term_32 ?_
  refine ax_dup_x1 (pc := 35) C d_MM_term_35 rfl rfl ?_
  refine ax_iconst (pc := 36) C 1 d_MM_term_36 (by decide +kernel) ?_
  refine ax_iadd (pc := 37) C d_MM_term_37 ?_
  refine mp_129 (pc := 38) C d_MM_term_38 ?_
  have h := it_l h
  generalize mI σ3 38 (((σ3.1 38) : Int32) + 1) = σ4 at h ⊢
  cases h
  exact ax_iret (pc := 41) C d_MM_term_41 ⟨rfl, rfl⟩ (Nat.le_refl _) (Nat.le_refl _)
set_option maxHeartbeats 4000000 in
set_option maxRecDepth 100000 in
theorem o_33 (l : Launch) (D : va_G) (kA : Nat → ClassId) (z : Nat) (v : Nat → Nat) (rec : mF) (ih : ∀ t σ xs res, rec t σ xs = some res → mSem l D kA z v t σ xs res) (σ : mS) (xs : List Int32) (res : mR) (h : k_33 rec σ xs = some res) : s_33 l D kA z v σ xs res := by
  intro x0 hxs
  subst hxs
  obtain ⟨σf, rf, dd⟩ := res
  have h : (rec 34 σ [x0, 0, x0]) = some (σf, rf, dd) := h
  refine ax_Mi.of (by decide +kernel) (Nat.le_of_ble_eq_true rfl) ?_
  intro p e s m args below meth c C hnm
  have C : ax_C p s m args meth c b_MM_length "ClauseProverModel" 4 (some .int) D kA (va_A (mmW kA z v σ) s.heap.size) := C
  obtain ⟨F, hFe⟩ : ∃ F, F = dd + 1 := ⟨_, rfl⟩
  obtain ⟨Lo, hLoe⟩ : ∃ Lo, Lo = 64 * dd + 64 := ⟨_, rfl⟩
  obtain ⟨σ0, hσ0⟩ : ∃ s0, s0 = σ := ⟨_, rfl⟩
  suffices K : AW p l e { frames := F, cells := 0, slots := 0, locals := Lo } s m args below meth c D kA (va_A (mmW kA z v σ0) s.heap.size) 4 (ax_Qi below args s D kA (mmW kA z v σ0) 0 0 (fun r w1 => r = rf ∧ w1 = mmW kA z v σf)) 0 [(0, .ref z), (1, .int x0)] [] (mmW kA z v σ) 0 0 by rw [hFe, hLoe, hσ0] at K; exact ax_ls ([(0, .ref z), (1, .int x0)]) [0, 1] rfl K
  have C : ax_C p s m args meth c b_MM_length "ClauseProverModel" 4 (some .int) D kA (va_A (mmW kA z v σ0) s.heap.size) := by rw [hσ0]; exact C
  have hF : dd + 1 ≤ F := by omega
  have hLo : 64 * dd + 64 ≤ Lo := by omega
  clear hFe hLoe hσ0
  refine ax_iconst (pc := 0) C 0 d_MM_length_0 (by decide +kernel) ?_
  refine ax_istore_n (pc := 1) C d_MM_length_1 rfl (Nat.le_of_ble_eq_true rfl) ([(2, .int 0), (0, .ref z), (1, .int x0)]) rfl ?_
  refine ax_iload_n (pc := 2) C d_MM_length_2 rfl 2 rfl ?_
  refine ax_istore_n (pc := 3) C d_MM_length_3 rfl (Nat.le_of_ble_eq_true rfl) ([(3, .int x0), (2, .int 0), (0, .ref z), (1, .int x0)]) rfl ?_
  refine ax_ls ([(0, .ref z), (1, .int x0), (2, .int 0), (3, .int x0)]) [2, 3, 1, 0] rfl ?_
  have hm : s_34 l D kA z v σ [x0, 0, x0] (σf, rf, _) := ih 34 _ _ _ h
  exact hm _ _ _ rfl p e s m args below meth c F Lo σ0 hF hLo C
set_option maxHeartbeats 4000000 in
set_option maxRecDepth 100000 in
theorem o_34 (l : Launch) (D : va_G) (kA : Nat → ClassId) (z : Nat) (v : Nat → Nat) (rec : mF) (ih : ∀ t σ xs res, rec t σ xs = some res → mSem l D kA z v t σ xs res) (σ : mS) (xs : List Int32) (res : mR) (h : k_34 rec σ xs = some res) : s_34 l D kA z v σ xs res := by
  intro x0 x1 x2 hxs
  subst hxs
  obtain ⟨σf, rf, dd⟩ := res
  have h : (if x2 < 0 then (some (σ, x1, 0)) else (if bin x2 20100 = true then (rec 34 σ [x0, (x1 + 1), (σ.2.1 36 (Int32.toNatClampNeg x2))]) else none)) = some (σf, rf, dd) := h
  intro p e s m args below meth c F Lo σ0 hF hLo C
  dsimp only at hF hLo ⊢
  refine ax_iload_n (pc := 4) C d_MM_length_4 rfl 3 rfl ?_
  refine ax_if_lt (pc := 5) C 21 d_MM_length_5 (by decide) (fun hc => ?_) (fun hc => ?_)
  · have h := it_t hc h
    refine ax_iload_n (pc := 21) C d_MM_length_21 rfl 2 rfl ?_
    cases h
    exact ax_iret (pc := 22) C d_MM_length_22 ⟨rfl, rfl⟩ (Nat.le_refl _) (Nat.le_refl _)
  · have h := it_f hc h
    refine ax_iinc (pc := 8) C (x1 + 1) d_MM_length_8 2 rfl rfl (Nat.le_of_ble_eq_true rfl) ([(2, .int (x1 + 1)), (0, .ref z), (1, .int x0), (3, .int x2)]) rfl ?_
    refine ax_aload_n (pc := 11) C d_MM_length_11 rfl 1 rfl ?_
    refine mg_123 (pc := 12) C d_MM_length_12 ?_
    refine ax_iload_n (pc := 15) C d_MM_length_15 rfl 3 rfl ?_
    obtain ⟨hb, h⟩ := it_g h
    refine ml_36 (pc := 16) C d_MM_length_16 (bin_in hb) ?_
    refine ax_istore_n (pc := 17) C d_MM_length_17 rfl (Nat.le_of_ble_eq_true rfl) ([(3, .int (σ.2.1 36 (Int32.toNatClampNeg x2))), (2, .int (x1 + 1)), (0, .ref z), (1, .int x0)]) rfl ?_
    refine ax_goto (pc := 18) C 4 d_MM_length_18 (by decide) ?_
    refine ax_ls ([(0, .ref z), (1, .int x0), (2, .int (x1 + 1)), (3, .int (σ.2.1 36 (Int32.toNatClampNeg x2)))]) [2, 3, 1, 0] rfl ?_
    have hm : s_34 l D kA z v σ [x0, (x1 + 1), (σ.2.1 36 (Int32.toNatClampNeg x2))] (σf, rf, _) := ih 34 _ _ _ h
    exact hm _ _ _ rfl p e s m args below meth c F Lo σ0 hF hLo C
set_option maxHeartbeats 4000000 in
set_option maxRecDepth 100000 in
theorem o_35 (l : Launch) (D : va_G) (kA : Nat → ClassId) (z : Nat) (v : Nat → Nat) (rec : mF) (ih : ∀ t σ xs res, rec t σ xs = some res → mSem l D kA z v t σ xs res) (σ : mS) (xs : List Int32) (res : mR) (h : k_35 rec σ xs = some res) : s_35 l D kA z v σ xs res := by
  intro x0 x1 hxs
  subst hxs
  obtain ⟨σf, rf, dd⟩ := res
  have h : (if bin (σ.1 40) 20100 = true then (lt_ (mA σ 41 (Int32.toNatClampNeg (σ.1 40)) x0) (fun σ1 => if bin (σ1.1 40) 20100 = true then (lt_ (mA σ1 42 (Int32.toNatClampNeg (σ1.1 40)) x1) (fun σ2 => lt_ (mI σ2 40 (((σ2.1 40) : Int32) + 1)) (fun σ3 => lt_ (mI σ3 39 (σ2.1 40)) (fun σ4 => some (σ4, 0, 0))))) else none)) else none) = some (σf, rf, dd) := h
  refine ax_Mv.of (by decide +kernel) (Nat.le_of_ble_eq_true rfl) ?_
  intro p e s m args below meth c C hnm
  have C : ax_C p s m args meth c b_MM_termOf "ClauseProverModel" 3 none D kA (va_A (mmW kA z v σ) s.heap.size) := C
  obtain ⟨F, hFe⟩ : ∃ F, F = dd + 1 := ⟨_, rfl⟩
  obtain ⟨Lo, hLoe⟩ : ∃ Lo, Lo = 64 * dd + 64 := ⟨_, rfl⟩
  obtain ⟨σ0, hσ0⟩ : ∃ s0, s0 = σ := ⟨_, rfl⟩
  suffices K : AW p l e { frames := F, cells := 0, slots := 0, locals := Lo } s m args below meth c D kA (va_A (mmW kA z v σ0) s.heap.size) 3 (ax_Qv below args s D kA (mmW kA z v σ0) 0 0 (fun w1 => w1 = mmW kA z v σf)) 0 [(0, .ref z), (1, .int x0), (2, .int x1)] [] (mmW kA z v σ) 0 0 by rw [hFe, hLoe, hσ0] at K; exact ax_ls ([(0, .ref z), (1, .int x0), (2, .int x1)]) [0, 1, 2] rfl K
  have C : ax_C p s m args meth c b_MM_termOf "ClauseProverModel" 3 none D kA (va_A (mmW kA z v σ0) s.heap.size) := by rw [hσ0]; exact C
  have hF : dd + 1 ≤ F := by omega
  have hLo : 64 * dd + 64 ≤ Lo := by omega
  clear hFe hLoe hσ0
  refine ax_aload_n (pc := 0) C d_MM_termOf_0 rfl 0 rfl ?_
  refine mg_138 (pc := 1) C d_MM_termOf_1 ?_
  refine ax_aload_n (pc := 4) C d_MM_termOf_4 rfl 0 rfl ?_
  refine mg_135 (pc := 5) C d_MM_termOf_5 ?_
  refine ax_iload_n (pc := 8) C d_MM_termOf_8 rfl 1 rfl ?_
  obtain ⟨hb, h⟩ := it_g h
  refine ms_41 (pc := 9) C d_MM_termOf_9 (bin_in hb) ?_
  have h := it_l h
  generalize mA σ 41 (Int32.toNatClampNeg (σ.1 40)) x0 = σ1 at h ⊢
  refine ax_aload_n (pc := 10) C d_MM_termOf_10 rfl 0 rfl ?_
  refine mg_141 (pc := 11) C d_MM_termOf_11 ?_
  refine ax_aload_n (pc := 14) C d_MM_termOf_14 rfl 0 rfl ?_
  refine mg_135 (pc := 15) C d_MM_termOf_15 ?_
  refine ax_iload_n (pc := 18) C d_MM_termOf_18 rfl 2 rfl ?_
  obtain ⟨hb, h⟩ := it_g h
  refine ms_42 (pc := 19) C d_MM_termOf_19 (bin_in hb) ?_
  have h := it_l h
  generalize mA σ1 42 (Int32.toNatClampNeg (σ1.1 40)) x1 = σ2 at h ⊢
  refine ax_aload_n (pc := 20) C d_MM_termOf_20 rfl 0 rfl ?_
  refine ax_aload_n (pc := 21) C d_MM_termOf_21 rfl 0 rfl ?_
  refine ax_dup (pc := 22) C d_MM_termOf_22 rfl ?_
  refine mg_135 (pc := 23) C d_MM_termOf_23 ?_
  refine ax_dup_x1 (pc := 26) C d_MM_termOf_26 rfl rfl ?_
  refine ax_iconst (pc := 27) C 1 d_MM_termOf_27 (by decide +kernel) ?_
  refine ax_iadd (pc := 28) C d_MM_termOf_28 ?_
  refine mp_135 (pc := 29) C d_MM_termOf_29 ?_
  have h := it_l h
  generalize mI σ2 40 (((σ2.1 40) : Int32) + 1) = σ3 at h ⊢
  refine mp_132 (pc := 32) C d_MM_termOf_32 ?_
  have h := it_l h
  generalize mI σ3 39 (σ2.1 40) = σ4 at h ⊢
  cases h
  exact ax_vret (pc := 35) C d_MM_termOf_35 rfl (Nat.le_refl _) (Nat.le_refl _)
set_option maxHeartbeats 4000000 in
set_option maxRecDepth 100000 in
theorem o_36 (l : Launch) (D : va_G) (kA : Nat → ClassId) (z : Nat) (v : Nat → Nat) (rec : mF) (ih : ∀ t σ xs res, rec t σ xs = some res → mSem l D kA z v t σ xs res) (σ : mS) (xs : List Int32) (res : mR) (h : k_36 rec σ xs = some res) : s_36 l D kA z v σ xs res := by
  intro x0 x1 x2 hxs
  subst hxs
  obtain ⟨σf, rf, dd⟩ := res
  have h : (if bin x1 20100 = true then (if bin x2 20100 = true then (bnd (rec 29 σ [x0, x1, x2, ((1 : Int32) + (if (σ.2.1 33 (Int32.toNatClampNeg x1)) < (σ.2.1 33 (Int32.toNatClampNeg x2)) then (σ.2.1 33 (Int32.toNatClampNeg x2)) else (σ.2.1 33 (Int32.toNatClampNeg x1))))]) (fun σ1 r1 => some (σ1, r1, 0))) else none) else none) = some (σf, rf, dd) := h
  refine ax_Mi.of (by decide +kernel) (Nat.le_of_ble_eq_true rfl) ?_
  intro p e s m args below meth c C hnm
  have C : ax_C p s m args meth c b_MM_joined1 "ClauseProverModel" 4 (some .int) D kA (va_A (mmW kA z v σ) s.heap.size) := C
  obtain ⟨F, hFe⟩ : ∃ F, F = dd + 1 := ⟨_, rfl⟩
  obtain ⟨Lo, hLoe⟩ : ∃ Lo, Lo = 64 * dd + 64 := ⟨_, rfl⟩
  obtain ⟨σ0, hσ0⟩ : ∃ s0, s0 = σ := ⟨_, rfl⟩
  suffices K : AW p l e { frames := F, cells := 0, slots := 0, locals := Lo } s m args below meth c D kA (va_A (mmW kA z v σ0) s.heap.size) 4 (ax_Qi below args s D kA (mmW kA z v σ0) 0 0 (fun r w1 => r = rf ∧ w1 = mmW kA z v σf)) 0 [(0, .ref z), (1, .int x0), (2, .int x1), (3, .int x2)] [] (mmW kA z v σ) 0 0 by rw [hFe, hLoe, hσ0] at K; exact ax_ls ([(0, .ref z), (1, .int x0), (2, .int x1), (3, .int x2)]) [0, 1, 2, 3] rfl K
  have C : ax_C p s m args meth c b_MM_joined1 "ClauseProverModel" 4 (some .int) D kA (va_A (mmW kA z v σ0) s.heap.size) := by rw [hσ0]; exact C
  have hF : dd + 1 ≤ F := by omega
  have hLo : 64 * dd + 64 ≤ Lo := by omega
  clear hFe hLoe hσ0
  refine ax_aload_n (pc := 0) C d_MM_joined1_0 rfl 0 rfl ?_
  refine ax_iload_n (pc := 1) C d_MM_joined1_1 rfl 1 rfl ?_
  refine ax_iload_n (pc := 2) C d_MM_joined1_2 rfl 2 rfl ?_
  refine ax_iload_n (pc := 3) C d_MM_joined1_3 rfl 3 rfl ?_
  refine ax_iconst (pc := 4) C 1 d_MM_joined1_4 (by decide +kernel) ?_
  refine ax_aload_n (pc := 5) C d_MM_joined1_5 rfl 0 rfl ?_
  refine mg_114 (pc := 6) C d_MM_joined1_6 ?_
  refine ax_iload_n (pc := 9) C d_MM_joined1_9 rfl 2 rfl ?_
  obtain ⟨hb, h⟩ := it_g h
  refine ml_33 (pc := 10) C d_MM_joined1_10 (bin_in hb) ?_
  refine ax_aload_n (pc := 11) C d_MM_joined1_11 rfl 0 rfl ?_
  refine mg_114 (pc := 12) C d_MM_joined1_12 ?_
  refine ax_iload_n (pc := 15) C d_MM_joined1_15 rfl 3 rfl ?_
  obtain ⟨hb, h⟩ := it_g h
  refine ml_33 (pc := 16) C d_MM_joined1_16 (bin_in hb) ?_
  refine mx_max (pc := 17) C tb_methodLink_2076 tb_static_699 tb_initialized_19 tcm_max d_MM_joined1_17 hF (Nat.le_of_ble_eq_true rfl) ?_
  refine ax_iadd (pc := 20) C d_MM_joined1_20 ?_
  obtain ⟨σ1, r1, d1_1, d2_1, h1, h, hd2, hd1⟩ := it_b h
  have hm : s_29 l D kA z v σ [x0, x1, x2, ((1 : Int32) + (if (σ.2.1 33 (Int32.toNatClampNeg x1)) < (σ.2.1 33 (Int32.toNatClampNeg x2)) then (σ.2.1 33 (Int32.toNatClampNeg x2)) else (σ.2.1 33 (Int32.toNatClampNeg x1))))] (σ1, r1, d1_1) := ih 29 _ _ _ h1
  refine mc_Vi (pc := 21) C (As := [.int x0, .int x1, .int x2, .int ((1 : Int32) + (if (σ.2.1 33 (Int32.toNatClampNeg x1)) < (σ.2.1 33 (Int32.toNatClampNeg x2)) then (σ.2.1 33 (Int32.toNatClampNeg x2)) else (σ.2.1 33 (Int32.toNatClampNeg x1))))]) (rest := []) (hm _ _ _ _ rfl) ml_MM_450 d_MM_joined1_21 rfl rfl (by dsimp only; omega) (by dsimp only; omega) (Nat.le_of_ble_eq_true rfl) (Nat.le_of_ble_eq_true rfl) (Nat.le_of_ble_eq_true rfl) ?_
  have hF : d2_1 + 1 ≤ F := by omega
  have hLo : 64 * d2_1 + 64 ≤ Lo := by omega
  cases h
  exact ax_iret (pc := 24) C d_MM_joined1_24 ⟨rfl, rfl⟩ (Nat.le_refl _) (Nat.le_refl _)
set_option maxHeartbeats 4000000 in
set_option maxRecDepth 100000 in
theorem o_37 (l : Launch) (D : va_G) (kA : Nat → ClassId) (z : Nat) (v : Nat → Nat) (rec : mF) (ih : ∀ t σ xs res, rec t σ xs = some res → mSem l D kA z v t σ xs res) (σ : mS) (xs : List Int32) (res : mR) (h : k_37 rec σ xs = some res) : s_37 l D kA z v σ xs res := by
  intro x0 x1 x2 hxs
  subst hxs
  obtain ⟨σf, rf, dd⟩ := res
  have h : (if bin x0 20100 = true then (if ((σ.2.1 30 (Int32.toNatClampNeg x0)) : Int32).toInt < 0 ∨ 5 < ((σ.2.1 30 (Int32.toNatClampNeg x0)) : Int32).toInt then (if bin x0 20100 = true then (if (σ.2.1 30 (Int32.toNatClampNeg x0)) = 6 then (rec 40 σ [x0, x1, x2, 1, x0]) else (rec 40 σ [x0, x1, x2, 0, x0])) else none) else (if ((σ.2.1 30 (Int32.toNatClampNeg x0)) : Int32) = 0 then (rec 42 σ [x0, x1, x2]) else (if ((σ.2.1 30 (Int32.toNatClampNeg x0)) : Int32) = 1 then (if bin x0 20100 = true then (if x1 = 0 then (rec 38 σ [x0, x1, x2, 1, (σ.2.1 31 (Int32.toNatClampNeg x0))]) else (rec 38 σ [x0, x1, x2, 0, (σ.2.1 31 (Int32.toNatClampNeg x0))])) else none) else (if ((σ.2.1 30 (Int32.toNatClampNeg x0)) : Int32) = 2 then (if bin x0 20100 = true then (bnd (rec 37 σ [(σ.2.1 31 (Int32.toNatClampNeg x0)), x1, x2]) (fun σ1 r1 => if bin x0 20100 = true then (bnd (rec 37 σ1 [(σ1.2.1 32 (Int32.toNatClampNeg x0)), x1, x2]) (fun σ2 r2 => rec 42 σ2 [x0, x1, x2])) else none)) else none) else (if ((σ.2.1 30 (Int32.toNatClampNeg x0)) : Int32) = 3 then (if bin x0 20100 = true then (bnd (rec 37 σ [(σ.2.1 31 (Int32.toNatClampNeg x0)), x1, x2]) (fun σ3 r3 => if bin x0 20100 = true then (bnd (rec 37 σ3 [(σ3.2.1 32 (Int32.toNatClampNeg x0)), x1, x2]) (fun σ4 r4 => rec 42 σ4 [x0, x1, x2])) else none)) else none) else (if ((σ.2.1 30 (Int32.toNatClampNeg x0)) : Int32) = 4 then (if bin x0 20100 = true then (if x1 = 0 then (rec 39 σ [x0, x1, x2, 1, (σ.2.1 31 (Int32.toNatClampNeg x0))]) else (rec 39 σ [x0, x1, x2, 0, (σ.2.1 31 (Int32.toNatClampNeg x0))])) else none) else (if bin x0 20100 = true then (bnd (rec 43 σ [(σ.2.1 31 (Int32.toNatClampNeg x0)), x2]) (fun σ5 r5 => if bin x0 20100 = true then (bnd (rec 43 σ5 [(σ5.2.1 32 (Int32.toNatClampNeg x0)), x2]) (fun σ6 r6 => rec 42 σ6 [x0, x1, x2])) else none)) else none))))))) else none) = some (σf, rf, dd) := h
  refine ax_Mv.of (by decide +kernel) (Nat.le_of_ble_eq_true rfl) ?_
  intro p e s m args below meth c C hnm
  have C : ax_C p s m args meth c b_MM_mark "ClauseProverModel" 4 none D kA (va_A (mmW kA z v σ) s.heap.size) := C
  obtain ⟨F, hFe⟩ : ∃ F, F = dd + 1 := ⟨_, rfl⟩
  obtain ⟨Lo, hLoe⟩ : ∃ Lo, Lo = 64 * dd + 64 := ⟨_, rfl⟩
  obtain ⟨σ0, hσ0⟩ : ∃ s0, s0 = σ := ⟨_, rfl⟩
  suffices K : AW p l e { frames := F, cells := 0, slots := 0, locals := Lo } s m args below meth c D kA (va_A (mmW kA z v σ0) s.heap.size) 4 (ax_Qv below args s D kA (mmW kA z v σ0) 0 0 (fun w1 => w1 = mmW kA z v σf)) 0 [(0, .ref z), (1, .int x0), (2, .int x1), (3, .int x2)] [] (mmW kA z v σ) 0 0 by rw [hFe, hLoe, hσ0] at K; exact ax_ls ([(0, .ref z), (1, .int x0), (2, .int x1), (3, .int x2)]) [0, 1, 2, 3] rfl K
  have C : ax_C p s m args meth c b_MM_mark "ClauseProverModel" 4 none D kA (va_A (mmW kA z v σ0) s.heap.size) := by rw [hσ0]; exact C
  have hF : dd + 1 ≤ F := by omega
  have hLo : 64 * dd + 64 ≤ Lo := by omega
  clear hFe hLoe hσ0
  refine ax_aload_n (pc := 0) C d_MM_mark_0 rfl 0 rfl ?_
  refine mg_105 (pc := 1) C d_MM_mark_1 ?_
  refine ax_iload_n (pc := 4) C d_MM_mark_4 rfl 1 rfl ?_
  obtain ⟨hb, h⟩ := it_g h
  refine ml_30 (pc := 5) C d_MM_mark_5 (bin_in hb) ?_
  by_cases hr : ((σ.2.1 30 (Int32.toNatClampNeg x0)) : Int32).toInt < 0 ∨ 5 < ((σ.2.1 30 (Int32.toNatClampNeg x0)) : Int32).toInt
  · have h := it_t hr h
    refine ax_tableOut (pc := 6) C 157 d_MM_mark_6 hr (by decide) ?_
    refine ax_aload_n (pc := 157) C d_MM_mark_157 rfl 0 rfl ?_
    refine ax_iload_n (pc := 158) C d_MM_mark_158 rfl 1 rfl ?_
    refine ax_aload_n (pc := 159) C d_MM_mark_159 rfl 0 rfl ?_
    refine mg_105 (pc := 160) C d_MM_mark_160 ?_
    refine ax_iload_n (pc := 163) C d_MM_mark_163 rfl 1 rfl ?_
    obtain ⟨hb, h⟩ := it_g h
    refine ml_30 (pc := 164) C d_MM_mark_164 (bin_in hb) ?_
    refine ax_bipush (pc := 165) C 6 d_MM_mark_165 (by decide +kernel) ?_
    refine ax_icmp_ne (pc := 167) C 174 d_MM_mark_167 (by decide) (fun hc => ?_) (fun hc => ?_)
    · have h := it_f hc h
      refine ax_iconst (pc := 174) C 0 d_MM_mark_174 (by decide +kernel) ?_
      refine ax_ls ([(0, .ref z), (1, .int x0), (2, .int x1), (3, .int x2)]) [0, 1, 2, 3] rfl ?_
      have hm : s_40 l D kA z v σ [x0, x1, x2, 0, x0] (σf, rf, _) := ih 40 _ _ _ h
      exact hm _ _ _ _ _ rfl p e s m args below meth c F Lo σ0 hF hLo C
    · have h := it_t hc h
      refine ax_iconst (pc := 170) C 1 d_MM_mark_170 (by decide +kernel) ?_
      refine ax_goto (pc := 171) C 175 d_MM_mark_171 (by decide) ?_
      refine ax_ls ([(0, .ref z), (1, .int x0), (2, .int x1), (3, .int x2)]) [0, 1, 2, 3] rfl ?_
      have hm : s_40 l D kA z v σ [x0, x1, x2, 1, x0] (σf, rf, _) := ih 40 _ _ _ h
      exact hm _ _ _ _ _ rfl p e s m args below meth c F Lo σ0 hF hLo C
  · have h := it_f hr h
    by_cases hv : ((σ.2.1 30 (Int32.toNatClampNeg x0)) : Int32) = 0
    · have h := it_t hv h
      refine ax_tableIn (pc := 6) C 44 d_MM_mark_6 (by omega) (by omega) (by rw [hv]; rfl) (by decide) ?_
      refine ax_goto (pc := 44) C 211 d_MM_mark_44 (by decide) ?_
      refine ax_ls ([(0, .ref z), (1, .int x0), (2, .int x1), (3, .int x2)]) [0, 1, 2, 3] rfl ?_
      have hm : s_42 l D kA z v σ [x0, x1, x2] (σf, rf, _) := ih 42 _ _ _ h
      exact hm _ _ _ rfl p e s m args below meth c F Lo σ0 hF hLo C
    · have h := it_f hv h
      have hn0 : ¬ ((σ.2.1 30 (Int32.toNatClampNeg x0)) : Int32).toInt = 0 := fun q => hv (i32q (by rw [q]; rfl))
      by_cases hv : ((σ.2.1 30 (Int32.toNatClampNeg x0)) : Int32) = 1
      · have h := it_t hv h
        refine ax_tableIn (pc := 6) C 47 d_MM_mark_6 (by omega) (by omega) (by rw [hv]; rfl) (by decide) ?_
        refine ax_aload_n (pc := 47) C d_MM_mark_47 rfl 0 rfl ?_
        refine ax_aload_n (pc := 48) C d_MM_mark_48 rfl 0 rfl ?_
        refine mg_108 (pc := 49) C d_MM_mark_49 ?_
        refine ax_iload_n (pc := 52) C d_MM_mark_52 rfl 1 rfl ?_
        obtain ⟨hb, h⟩ := it_g h
        refine ml_31 (pc := 53) C d_MM_mark_53 (bin_in hb) ?_
        refine ax_iload_n (pc := 54) C d_MM_mark_54 rfl 2 rfl ?_
        refine ax_if_ne (pc := 55) C 62 d_MM_mark_55 (by decide) (fun hc => ?_) (fun hc => ?_)
        · have h := it_f hc h
          refine ax_iconst (pc := 62) C 0 d_MM_mark_62 (by decide +kernel) ?_
          refine ax_ls ([(0, .ref z), (1, .int x0), (2, .int x1), (3, .int x2)]) [0, 1, 2, 3] rfl ?_
          have hm : s_38 l D kA z v σ [x0, x1, x2, 0, (σ.2.1 31 (Int32.toNatClampNeg x0))] (σf, rf, _) := ih 38 _ _ _ h
          exact hm _ _ _ _ _ rfl p e s m args below meth c F Lo σ0 hF hLo C
        · have h := it_t hc h
          refine ax_iconst (pc := 58) C 1 d_MM_mark_58 (by decide +kernel) ?_
          refine ax_goto (pc := 59) C 63 d_MM_mark_59 (by decide) ?_
          refine ax_ls ([(0, .ref z), (1, .int x0), (2, .int x1), (3, .int x2)]) [0, 1, 2, 3] rfl ?_
          have hm : s_38 l D kA z v σ [x0, x1, x2, 1, (σ.2.1 31 (Int32.toNatClampNeg x0))] (σf, rf, _) := ih 38 _ _ _ h
          exact hm _ _ _ _ _ rfl p e s m args below meth c F Lo σ0 hF hLo C
      · have h := it_f hv h
        have hn1 : ¬ ((σ.2.1 30 (Int32.toNatClampNeg x0)) : Int32).toInt = 1 := fun q => hv (i32q (by rw [q]; rfl))
        by_cases hv : ((σ.2.1 30 (Int32.toNatClampNeg x0)) : Int32) = 2
        · have h := it_t hv h
          refine ax_tableIn (pc := 6) C 70 d_MM_mark_6 (by omega) (by omega) (by rw [hv]; rfl) (by decide) ?_
          refine ax_aload_n (pc := 70) C d_MM_mark_70 rfl 0 rfl ?_
          refine ax_aload_n (pc := 71) C d_MM_mark_71 rfl 0 rfl ?_
          refine mg_108 (pc := 72) C d_MM_mark_72 ?_
          refine ax_iload_n (pc := 75) C d_MM_mark_75 rfl 1 rfl ?_
          obtain ⟨hb, h⟩ := it_g h
          refine ml_31 (pc := 76) C d_MM_mark_76 (bin_in hb) ?_
          refine ax_iload_n (pc := 77) C d_MM_mark_77 rfl 2 rfl ?_
          refine ax_iload_n (pc := 78) C d_MM_mark_78 rfl 3 rfl ?_
          obtain ⟨σ1, r1, d1_1, d2_1, h1, h, hd2, hd1⟩ := it_b h
          have hm : s_37 l D kA z v σ [(σ.2.1 31 (Int32.toNatClampNeg x0)), x1, x2] (σ1, r1, d1_1) := ih 37 _ _ _ h1
          refine mc_Vv (pc := 79) C (As := [.int (σ.2.1 31 (Int32.toNatClampNeg x0)), .int x1, .int x2]) (rest := []) (hm _ _ _ rfl) ml_MM_522 d_MM_mark_79 rfl rfl (by dsimp only; omega) (by dsimp only; omega) (Nat.le_of_ble_eq_true rfl) (Nat.le_of_ble_eq_true rfl) (Nat.le_of_ble_eq_true rfl) ?_
          have hF : d2_1 + 1 ≤ F := by omega
          have hLo : 64 * d2_1 + 64 ≤ Lo := by omega
          refine ax_aload_n (pc := 82) C d_MM_mark_82 rfl 0 rfl ?_
          refine ax_aload_n (pc := 83) C d_MM_mark_83 rfl 0 rfl ?_
          refine mg_111 (pc := 84) C d_MM_mark_84 ?_
          refine ax_iload_n (pc := 87) C d_MM_mark_87 rfl 1 rfl ?_
          obtain ⟨hb, h⟩ := it_g h
          refine ml_32 (pc := 88) C d_MM_mark_88 (bin_in hb) ?_
          refine ax_iload_n (pc := 89) C d_MM_mark_89 rfl 2 rfl ?_
          refine ax_iload_n (pc := 90) C d_MM_mark_90 rfl 3 rfl ?_
          obtain ⟨σ2, r2, d1_2, d2_2, h1, h, hd2, hd1⟩ := it_b h
          have hm : s_37 l D kA z v σ1 [(σ1.2.1 32 (Int32.toNatClampNeg x0)), x1, x2] (σ2, r2, d1_2) := ih 37 _ _ _ h1
          refine mc_Vv (pc := 91) C (As := [.int (σ1.2.1 32 (Int32.toNatClampNeg x0)), .int x1, .int x2]) (rest := []) (hm _ _ _ rfl) ml_MM_522 d_MM_mark_91 rfl rfl (by dsimp only; omega) (by dsimp only; omega) (Nat.le_of_ble_eq_true rfl) (Nat.le_of_ble_eq_true rfl) (Nat.le_of_ble_eq_true rfl) ?_
          have hF : d2_2 + 1 ≤ F := by omega
          have hLo : 64 * d2_2 + 64 ≤ Lo := by omega
          refine ax_goto (pc := 94) C 211 d_MM_mark_94 (by decide) ?_
          refine ax_ls ([(0, .ref z), (1, .int x0), (2, .int x1), (3, .int x2)]) [0, 1, 2, 3] rfl ?_
          have hm : s_42 l D kA z v σ2 [x0, x1, x2] (σf, rf, _) := ih 42 _ _ _ h
          exact hm _ _ _ rfl p e s m args below meth c F Lo σ0 hF hLo C
        · have h := it_f hv h
          have hn2 : ¬ ((σ.2.1 30 (Int32.toNatClampNeg x0)) : Int32).toInt = 2 := fun q => hv (i32q (by rw [q]; rfl))
          by_cases hv : ((σ.2.1 30 (Int32.toNatClampNeg x0)) : Int32) = 3
          · have h := it_t hv h
            refine ax_tableIn (pc := 6) C 70 d_MM_mark_6 (by omega) (by omega) (by rw [hv]; rfl) (by decide) ?_
            refine ax_aload_n (pc := 70) C d_MM_mark_70 rfl 0 rfl ?_
            refine ax_aload_n (pc := 71) C d_MM_mark_71 rfl 0 rfl ?_
            refine mg_108 (pc := 72) C d_MM_mark_72 ?_
            refine ax_iload_n (pc := 75) C d_MM_mark_75 rfl 1 rfl ?_
            obtain ⟨hb, h⟩ := it_g h
            refine ml_31 (pc := 76) C d_MM_mark_76 (bin_in hb) ?_
            refine ax_iload_n (pc := 77) C d_MM_mark_77 rfl 2 rfl ?_
            refine ax_iload_n (pc := 78) C d_MM_mark_78 rfl 3 rfl ?_
            obtain ⟨σ3, r3, d1_3, d2_3, h1, h, hd2, hd1⟩ := it_b h
            have hm : s_37 l D kA z v σ [(σ.2.1 31 (Int32.toNatClampNeg x0)), x1, x2] (σ3, r3, d1_3) := ih 37 _ _ _ h1
            refine mc_Vv (pc := 79) C (As := [.int (σ.2.1 31 (Int32.toNatClampNeg x0)), .int x1, .int x2]) (rest := []) (hm _ _ _ rfl) ml_MM_522 d_MM_mark_79 rfl rfl (by dsimp only; omega) (by dsimp only; omega) (Nat.le_of_ble_eq_true rfl) (Nat.le_of_ble_eq_true rfl) (Nat.le_of_ble_eq_true rfl) ?_
            have hF : d2_3 + 1 ≤ F := by omega
            have hLo : 64 * d2_3 + 64 ≤ Lo := by omega
            refine ax_aload_n (pc := 82) C d_MM_mark_82 rfl 0 rfl ?_
            refine ax_aload_n (pc := 83) C d_MM_mark_83 rfl 0 rfl ?_
            refine mg_111 (pc := 84) C d_MM_mark_84 ?_
            refine ax_iload_n (pc := 87) C d_MM_mark_87 rfl 1 rfl ?_
            obtain ⟨hb, h⟩ := it_g h
            refine ml_32 (pc := 88) C d_MM_mark_88 (bin_in hb) ?_
            refine ax_iload_n (pc := 89) C d_MM_mark_89 rfl 2 rfl ?_
            refine ax_iload_n (pc := 90) C d_MM_mark_90 rfl 3 rfl ?_
            obtain ⟨σ4, r4, d1_4, d2_4, h1, h, hd2, hd1⟩ := it_b h
            have hm : s_37 l D kA z v σ3 [(σ3.2.1 32 (Int32.toNatClampNeg x0)), x1, x2] (σ4, r4, d1_4) := ih 37 _ _ _ h1
            refine mc_Vv (pc := 91) C (As := [.int (σ3.2.1 32 (Int32.toNatClampNeg x0)), .int x1, .int x2]) (rest := []) (hm _ _ _ rfl) ml_MM_522 d_MM_mark_91 rfl rfl (by dsimp only; omega) (by dsimp only; omega) (Nat.le_of_ble_eq_true rfl) (Nat.le_of_ble_eq_true rfl) (Nat.le_of_ble_eq_true rfl) ?_
            have hF : d2_4 + 1 ≤ F := by omega
            have hLo : 64 * d2_4 + 64 ≤ Lo := by omega
            refine ax_goto (pc := 94) C 211 d_MM_mark_94 (by decide) ?_
            refine ax_ls ([(0, .ref z), (1, .int x0), (2, .int x1), (3, .int x2)]) [0, 1, 2, 3] rfl ?_
            have hm : s_42 l D kA z v σ4 [x0, x1, x2] (σf, rf, _) := ih 42 _ _ _ h
            exact hm _ _ _ rfl p e s m args below meth c F Lo σ0 hF hLo C
          · have h := it_f hv h
            have hn3 : ¬ ((σ.2.1 30 (Int32.toNatClampNeg x0)) : Int32).toInt = 3 := fun q => hv (i32q (by rw [q]; rfl))
            by_cases hv : ((σ.2.1 30 (Int32.toNatClampNeg x0)) : Int32) = 4
            · have h := it_t hv h
              refine ax_tableIn (pc := 6) C 97 d_MM_mark_6 (by omega) (by omega) (by rw [hv]; rfl) (by decide) ?_
              refine ax_aload_n (pc := 97) C d_MM_mark_97 rfl 0 rfl ?_
              refine ax_aload_n (pc := 98) C d_MM_mark_98 rfl 0 rfl ?_
              refine mg_108 (pc := 99) C d_MM_mark_99 ?_
              refine ax_iload_n (pc := 102) C d_MM_mark_102 rfl 1 rfl ?_
              obtain ⟨hb, h⟩ := it_g h
              refine ml_31 (pc := 103) C d_MM_mark_103 (bin_in hb) ?_
              refine ax_iload_n (pc := 104) C d_MM_mark_104 rfl 2 rfl ?_
              refine ax_if_ne (pc := 105) C 112 d_MM_mark_105 (by decide) (fun hc => ?_) (fun hc => ?_)
              · have h := it_f hc h
                refine ax_iconst (pc := 112) C 0 d_MM_mark_112 (by decide +kernel) ?_
                refine ax_ls ([(0, .ref z), (1, .int x0), (2, .int x1), (3, .int x2)]) [0, 1, 2, 3] rfl ?_
                have hm : s_39 l D kA z v σ [x0, x1, x2, 0, (σ.2.1 31 (Int32.toNatClampNeg x0))] (σf, rf, _) := ih 39 _ _ _ h
                exact hm _ _ _ _ _ rfl p e s m args below meth c F Lo σ0 hF hLo C
              · have h := it_t hc h
                refine ax_iconst (pc := 108) C 1 d_MM_mark_108 (by decide +kernel) ?_
                refine ax_goto (pc := 109) C 113 d_MM_mark_109 (by decide) ?_
                refine ax_ls ([(0, .ref z), (1, .int x0), (2, .int x1), (3, .int x2)]) [0, 1, 2, 3] rfl ?_
                have hm : s_39 l D kA z v σ [x0, x1, x2, 1, (σ.2.1 31 (Int32.toNatClampNeg x0))] (σf, rf, _) := ih 39 _ _ _ h
                exact hm _ _ _ _ _ rfl p e s m args below meth c F Lo σ0 hF hLo C
            · have h := it_f hv h
              have hn4 : ¬ ((σ.2.1 30 (Int32.toNatClampNeg x0)) : Int32).toInt = 4 := fun q => hv (i32q (by rw [q]; rfl))
              have hv : ((σ.2.1 30 (Int32.toNatClampNeg x0)) : Int32) = 5 := i32q (by have e9 : (5 : Int32).toInt = 5 := rfl; omega)
              refine ax_tableIn (pc := 6) C 132 d_MM_mark_6 (by omega) (by omega) (by rw [hv]; rfl) (by decide) ?_
              refine ax_aload_n (pc := 132) C d_MM_mark_132 rfl 0 rfl ?_
              refine ax_aload_n (pc := 133) C d_MM_mark_133 rfl 0 rfl ?_
              refine mg_108 (pc := 134) C d_MM_mark_134 ?_
              refine ax_iload_n (pc := 137) C d_MM_mark_137 rfl 1 rfl ?_
              obtain ⟨hb, h⟩ := it_g h
              refine ml_31 (pc := 138) C d_MM_mark_138 (bin_in hb) ?_
              refine ax_iload_n (pc := 139) C d_MM_mark_139 rfl 3 rfl ?_
              obtain ⟨σ5, r5, d1_5, d2_5, h1, h, hd2, hd1⟩ := it_b h
              have hm : s_43 l D kA z v σ [(σ.2.1 31 (Int32.toNatClampNeg x0)), x2] (σ5, r5, d1_5) := ih 43 _ _ _ h1
              refine mc_Vv (pc := 140) C (As := [.int (σ.2.1 31 (Int32.toNatClampNeg x0)), .int x2]) (rest := []) (hm _ _ rfl) ml_MM_526 d_MM_mark_140 rfl rfl (by dsimp only; omega) (by dsimp only; omega) (Nat.le_of_ble_eq_true rfl) (Nat.le_of_ble_eq_true rfl) (Nat.le_of_ble_eq_true rfl) ?_
              have hF : d2_5 + 1 ≤ F := by omega
              have hLo : 64 * d2_5 + 64 ≤ Lo := by omega
              refine ax_aload_n (pc := 143) C d_MM_mark_143 rfl 0 rfl ?_
              refine ax_aload_n (pc := 144) C d_MM_mark_144 rfl 0 rfl ?_
              refine mg_111 (pc := 145) C d_MM_mark_145 ?_
              refine ax_iload_n (pc := 148) C d_MM_mark_148 rfl 1 rfl ?_
              obtain ⟨hb, h⟩ := it_g h
              refine ml_32 (pc := 149) C d_MM_mark_149 (bin_in hb) ?_
              refine ax_iload_n (pc := 150) C d_MM_mark_150 rfl 3 rfl ?_
              obtain ⟨σ6, r6, d1_6, d2_6, h1, h, hd2, hd1⟩ := it_b h
              have hm : s_43 l D kA z v σ5 [(σ5.2.1 32 (Int32.toNatClampNeg x0)), x2] (σ6, r6, d1_6) := ih 43 _ _ _ h1
              refine mc_Vv (pc := 151) C (As := [.int (σ5.2.1 32 (Int32.toNatClampNeg x0)), .int x2]) (rest := []) (hm _ _ rfl) ml_MM_526 d_MM_mark_151 rfl rfl (by dsimp only; omega) (by dsimp only; omega) (Nat.le_of_ble_eq_true rfl) (Nat.le_of_ble_eq_true rfl) (Nat.le_of_ble_eq_true rfl) ?_
              have hF : d2_6 + 1 ≤ F := by omega
              have hLo : 64 * d2_6 + 64 ≤ Lo := by omega
              refine ax_goto (pc := 154) C 211 d_MM_mark_154 (by decide) ?_
              refine ax_ls ([(0, .ref z), (1, .int x0), (2, .int x1), (3, .int x2)]) [0, 1, 2, 3] rfl ?_
              have hm : s_42 l D kA z v σ6 [x0, x1, x2] (σf, rf, _) := ih 42 _ _ _ h
              exact hm _ _ _ rfl p e s m args below meth c F Lo σ0 hF hLo C
set_option maxHeartbeats 4000000 in
set_option maxRecDepth 100000 in
theorem o_38 (l : Launch) (D : va_G) (kA : Nat → ClassId) (z : Nat) (v : Nat → Nat) (rec : mF) (ih : ∀ t σ xs res, rec t σ xs = some res → mSem l D kA z v t σ xs res) (σ : mS) (xs : List Int32) (res : mR) (h : k_38 rec σ xs = some res) : s_38 l D kA z v σ xs res := by
  intro x0 x1 x2 x3 x4 hxs
  subst hxs
  obtain ⟨σf, rf, dd⟩ := res
  have h : (bnd (rec 37 σ [x4, x3, x2]) (fun σ1 r1 => rec 42 σ1 [x0, x1, x2])) = some (σf, rf, dd) := h
  intro p e s m args below meth c F Lo σ0 hF hLo C
  dsimp only at hF hLo ⊢
  refine ax_iload_n (pc := 63) C d_MM_mark_63 rfl 3 rfl ?_
  obtain ⟨σ1, r1, d1_1, d2_1, h1, h, hd2, hd1⟩ := it_b h
  have hm : s_37 l D kA z v σ [x4, x3, x2] (σ1, r1, d1_1) := ih 37 _ _ _ h1
  refine mc_Vv (pc := 64) C (As := [.int x4, .int x3, .int x2]) (rest := []) (hm _ _ _ rfl) ml_MM_522 d_MM_mark_64 rfl rfl (by dsimp only; omega) (by dsimp only; omega) (Nat.le_of_ble_eq_true rfl) (Nat.le_of_ble_eq_true rfl) (Nat.le_of_ble_eq_true rfl) ?_
  have hF : d2_1 + 1 ≤ F := by omega
  have hLo : 64 * d2_1 + 64 ≤ Lo := by omega
  refine ax_goto (pc := 67) C 211 d_MM_mark_67 (by decide) ?_
  refine ax_ls ([(0, .ref z), (1, .int x0), (2, .int x1), (3, .int x2)]) [0, 1, 2, 3] rfl ?_
  have hm : s_42 l D kA z v σ1 [x0, x1, x2] (σf, rf, _) := ih 42 _ _ _ h
  exact hm _ _ _ rfl p e s m args below meth c F Lo σ0 hF hLo C
set_option maxHeartbeats 4000000 in
set_option maxRecDepth 100000 in
theorem o_39 (l : Launch) (D : va_G) (kA : Nat → ClassId) (z : Nat) (v : Nat → Nat) (rec : mF) (ih : ∀ t σ xs res, rec t σ xs = some res → mSem l D kA z v t σ xs res) (σ : mS) (xs : List Int32) (res : mR) (h : k_39 rec σ xs = some res) : s_39 l D kA z v σ xs res := by
  intro x0 x1 x2 x3 x4 hxs
  subst hxs
  obtain ⟨σf, rf, dd⟩ := res
  have h : (bnd (rec 37 σ [x4, x3, x2]) (fun σ1 r1 => if bin x0 20100 = true then (bnd (rec 37 σ1 [(σ1.2.1 32 (Int32.toNatClampNeg x0)), x1, x2]) (fun σ2 r2 => rec 42 σ2 [x0, x1, x2])) else none)) = some (σf, rf, dd) := h
  intro p e s m args below meth c F Lo σ0 hF hLo C
  dsimp only at hF hLo ⊢
  refine ax_iload_n (pc := 113) C d_MM_mark_113 rfl 3 rfl ?_
  obtain ⟨σ1, r1, d1_1, d2_1, h1, h, hd2, hd1⟩ := it_b h
  have hm : s_37 l D kA z v σ [x4, x3, x2] (σ1, r1, d1_1) := ih 37 _ _ _ h1
  refine mc_Vv (pc := 114) C (As := [.int x4, .int x3, .int x2]) (rest := []) (hm _ _ _ rfl) ml_MM_522 d_MM_mark_114 rfl rfl (by dsimp only; omega) (by dsimp only; omega) (Nat.le_of_ble_eq_true rfl) (Nat.le_of_ble_eq_true rfl) (Nat.le_of_ble_eq_true rfl) ?_
  have hF : d2_1 + 1 ≤ F := by omega
  have hLo : 64 * d2_1 + 64 ≤ Lo := by omega
  refine ax_aload_n (pc := 117) C d_MM_mark_117 rfl 0 rfl ?_
  refine ax_aload_n (pc := 118) C d_MM_mark_118 rfl 0 rfl ?_
  refine mg_111 (pc := 119) C d_MM_mark_119 ?_
  refine ax_iload_n (pc := 122) C d_MM_mark_122 rfl 1 rfl ?_
  obtain ⟨hb, h⟩ := it_g h
  refine ml_32 (pc := 123) C d_MM_mark_123 (bin_in hb) ?_
  refine ax_iload_n (pc := 124) C d_MM_mark_124 rfl 2 rfl ?_
  refine ax_iload_n (pc := 125) C d_MM_mark_125 rfl 3 rfl ?_
  obtain ⟨σ2, r2, d1_2, d2_2, h1, h, hd2, hd1⟩ := it_b h
  have hm : s_37 l D kA z v σ1 [(σ1.2.1 32 (Int32.toNatClampNeg x0)), x1, x2] (σ2, r2, d1_2) := ih 37 _ _ _ h1
  refine mc_Vv (pc := 126) C (As := [.int (σ1.2.1 32 (Int32.toNatClampNeg x0)), .int x1, .int x2]) (rest := []) (hm _ _ _ rfl) ml_MM_522 d_MM_mark_126 rfl rfl (by dsimp only; omega) (by dsimp only; omega) (Nat.le_of_ble_eq_true rfl) (Nat.le_of_ble_eq_true rfl) (Nat.le_of_ble_eq_true rfl) ?_
  have hF : d2_2 + 1 ≤ F := by omega
  have hLo : 64 * d2_2 + 64 ≤ Lo := by omega
  refine ax_goto (pc := 129) C 211 d_MM_mark_129 (by decide) ?_
  refine ax_ls ([(0, .ref z), (1, .int x0), (2, .int x1), (3, .int x2)]) [0, 1, 2, 3] rfl ?_
  have hm : s_42 l D kA z v σ2 [x0, x1, x2] (σf, rf, _) := ih 42 _ _ _ h
  exact hm _ _ _ rfl p e s m args below meth c F Lo σ0 hF hLo C
set_option maxHeartbeats 4000000 in
set_option maxRecDepth 100000 in
theorem o_40 (l : Launch) (D : va_G) (kA : Nat → ClassId) (z : Nat) (v : Nat → Nat) (rec : mF) (ih : ∀ t σ xs res, rec t σ xs = some res → mSem l D kA z v t σ xs res) (σ : mS) (xs : List Int32) (res : mR) (h : k_40 rec σ xs = some res) : s_40 l D kA z v σ xs res := by
  intro x0 x1 x2 x3 x4 hxs
  subst hxs
  obtain ⟨σf, rf, dd⟩ := res
  have h : (if x3 = x1 then (rec 41 σ [x0, x1, x2, 0, x4]) else (rec 41 σ [x0, x1, x2, 1, x4])) = some (σf, rf, dd) := h
  intro p e s m args below meth c F Lo σ0 hF hLo C
  dsimp only at hF hLo ⊢
  refine ax_iload_n (pc := 175) C d_MM_mark_175 rfl 2 rfl ?_
  refine ax_icmp_eq (pc := 176) C 183 d_MM_mark_176 (by decide) (fun hc => ?_) (fun hc => ?_)
  · have h := it_t hc h
    refine ax_iconst (pc := 183) C 0 d_MM_mark_183 (by decide +kernel) ?_
    refine ax_ls ([(0, .ref z), (1, .int x0), (2, .int x1), (3, .int x2)]) [0, 1, 2, 3] rfl ?_
    have hm : s_41 l D kA z v σ [x0, x1, x2, 0, x4] (σf, rf, _) := ih 41 _ _ _ h
    exact hm _ _ _ _ _ rfl p e s m args below meth c F Lo σ0 hF hLo C
  · have h := it_f hc h
    refine ax_iconst (pc := 179) C 1 d_MM_mark_179 (by decide +kernel) ?_
    refine ax_goto (pc := 180) C 184 d_MM_mark_180 (by decide) ?_
    refine ax_ls ([(0, .ref z), (1, .int x0), (2, .int x1), (3, .int x2)]) [0, 1, 2, 3] rfl ?_
    have hm : s_41 l D kA z v σ [x0, x1, x2, 1, x4] (σf, rf, _) := ih 41 _ _ _ h
    exact hm _ _ _ _ _ rfl p e s m args below meth c F Lo σ0 hF hLo C
set_option maxHeartbeats 4000000 in
set_option maxRecDepth 100000 in
theorem o_41 (l : Launch) (D : va_G) (kA : Nat → ClassId) (z : Nat) (v : Nat → Nat) (rec : mF) (ih : ∀ t σ xs res, rec t σ xs = some res → mSem l D kA z v t σ xs res) (σ : mS) (xs : List Int32) (res : mR) (h : k_41 rec σ xs = some res) : s_41 l D kA z v σ xs res := by
  intro x0 x1 x2 x3 x4 hxs
  subst hxs
  obtain ⟨σf, rf, dd⟩ := res
  have h : (bnd (rec 48 σ [x4, x3, x2]) (fun σ1 r1 => if bin x0 20100 = true then (if bin x0 20100 = true then (if (1000 : Int32) = 0 then none else (bnd (rec 37 σ1 [(σ1.2.1 31 (Int32.toNatClampNeg x0)), x1, ((x2 : Int32) + ((σ1.2.1 32 (Int32.toNatClampNeg x0)) - (σ1.2.1 32 (Int32.toNatClampNeg x0)) / 1000 * 1000))]) (fun σ2 r2 => rec 42 σ2 [x0, x1, x2]))) else none) else none)) = some (σf, rf, dd) := h
  intro p e s m args below meth c F Lo σ0 hF hLo C
  dsimp only at hF hLo ⊢
  refine ax_iload_n (pc := 184) C d_MM_mark_184 rfl 3 rfl ?_
  obtain ⟨σ1, r1, d1_1, d2_1, h1, h, hd2, hd1⟩ := it_b h
  have hm : s_48 l D kA z v σ [x4, x3, x2] (σ1, r1, d1_1) := ih 48 _ _ _ h1
  refine mc_Vv (pc := 185) C (As := [.int x4, .int x3, .int x2]) (rest := []) (hm _ _ _ rfl) ml_MM_529 d_MM_mark_185 rfl rfl (by dsimp only; omega) (by dsimp only; omega) (Nat.le_of_ble_eq_true rfl) (Nat.le_of_ble_eq_true rfl) (Nat.le_of_ble_eq_true rfl) ?_
  have hF : d2_1 + 1 ≤ F := by omega
  have hLo : 64 * d2_1 + 64 ≤ Lo := by omega
  refine ax_aload_n (pc := 188) C d_MM_mark_188 rfl 0 rfl ?_
  refine ax_aload_n (pc := 189) C d_MM_mark_189 rfl 0 rfl ?_
  refine mg_108 (pc := 190) C d_MM_mark_190 ?_
  refine ax_iload_n (pc := 193) C d_MM_mark_193 rfl 1 rfl ?_
  obtain ⟨hb, h⟩ := it_g h
  refine ml_31 (pc := 194) C d_MM_mark_194 (bin_in hb) ?_
  refine ax_iload_n (pc := 195) C d_MM_mark_195 rfl 2 rfl ?_
  refine ax_iload_n (pc := 196) C d_MM_mark_196 rfl 3 rfl ?_
  refine ax_aload_n (pc := 197) C d_MM_mark_197 rfl 0 rfl ?_
  refine mg_111 (pc := 198) C d_MM_mark_198 ?_
  refine ax_iload_n (pc := 201) C d_MM_mark_201 rfl 1 rfl ?_
  obtain ⟨hb, h⟩ := it_g h
  refine ml_32 (pc := 202) C d_MM_mark_202 (bin_in hb) ?_
  refine ax_sipush (pc := 203) C 1000 d_MM_mark_203 (by decide +kernel) ?_
  obtain ⟨hz, h⟩ := it_n h
  refine ax_irem (pc := 206) C d_MM_mark_206 hz ?_
  refine ax_iadd (pc := 207) C d_MM_mark_207 ?_
  obtain ⟨σ2, r2, d1_2, d2_2, h1, h, hd2, hd1⟩ := it_b h
  have hm : s_37 l D kA z v σ1 [(σ1.2.1 31 (Int32.toNatClampNeg x0)), x1, ((x2 : Int32) + ((σ1.2.1 32 (Int32.toNatClampNeg x0)) - (σ1.2.1 32 (Int32.toNatClampNeg x0)) / 1000 * 1000))] (σ2, r2, d1_2) := ih 37 _ _ _ h1
  refine mc_Vv (pc := 208) C (As := [.int (σ1.2.1 31 (Int32.toNatClampNeg x0)), .int x1, .int ((x2 : Int32) + ((σ1.2.1 32 (Int32.toNatClampNeg x0)) - (σ1.2.1 32 (Int32.toNatClampNeg x0)) / 1000 * 1000))]) (rest := []) (hm _ _ _ rfl) ml_MM_522 d_MM_mark_208 rfl rfl (by dsimp only; omega) (by dsimp only; omega) (Nat.le_of_ble_eq_true rfl) (Nat.le_of_ble_eq_true rfl) (Nat.le_of_ble_eq_true rfl) ?_
  have hF : d2_2 + 1 ≤ F := by omega
  have hLo : 64 * d2_2 + 64 ≤ Lo := by omega
  refine ax_ls ([(0, .ref z), (1, .int x0), (2, .int x1), (3, .int x2)]) [0, 1, 2, 3] rfl ?_
  have hm : s_42 l D kA z v σ2 [x0, x1, x2] (σf, rf, _) := ih 42 _ _ _ h
  exact hm _ _ _ rfl p e s m args below meth c F Lo σ0 hF hLo C
set_option maxHeartbeats 4000000 in
set_option maxRecDepth 100000 in
theorem o_42 (l : Launch) (D : va_G) (kA : Nat → ClassId) (z : Nat) (v : Nat → Nat) (rec : mF) (ih : ∀ t σ xs res, rec t σ xs = some res → mSem l D kA z v t σ xs res) (σ : mS) (xs : List Int32) (res : mR) (h : k_42 rec σ xs = some res) : s_42 l D kA z v σ xs res := by
  intro x0 x1 x2 hxs
  subst hxs
  obtain ⟨σf, rf, dd⟩ := res
  have h : (some (σ, 0, 0)) = some (σf, rf, dd) := h
  intro p e s m args below meth c F Lo σ0 hF hLo C
  dsimp only at hF hLo ⊢
  cases h
  exact ax_vret (pc := 211) C d_MM_mark_211 rfl (Nat.le_refl _) (Nat.le_refl _)
set_option maxHeartbeats 4000000 in
set_option maxRecDepth 100000 in
theorem o_43 (l : Launch) (D : va_G) (kA : Nat → ClassId) (z : Nat) (v : Nat → Nat) (rec : mF) (ih : ∀ t σ xs res, rec t σ xs = some res → mSem l D kA z v t σ xs res) (σ : mS) (xs : List Int32) (res : mR) (h : k_43 rec σ xs = some res) : s_43 l D kA z v σ xs res := by
  intro x0 x1 hxs
  subst hxs
  obtain ⟨σf, rf, dd⟩ := res
  have h : (if bin x0 20100 = true then (if (σ.2.1 30 (Int32.toNatClampNeg x0)) = 0 then (some (σ, 0, 0)) else (if bin x0 20100 = true then (if (σ.2.1 30 (Int32.toNatClampNeg x0)) = 6 then (rec 44 σ [x0, x1]) else (if bin x0 20100 = true then (if (σ.2.1 30 (Int32.toNatClampNeg x0)) = 7 then (rec 44 σ [x0, x1]) else (rec 45 σ [x0, x1, 0])) else none)) else none)) else none) = some (σf, rf, dd) := h
  refine ax_Mv.of (by decide +kernel) (Nat.le_of_ble_eq_true rfl) ?_
  intro p e s m args below meth c C hnm
  have C : ax_C p s m args meth c b_MM_mark2 "ClauseProverModel" 4 none D kA (va_A (mmW kA z v σ) s.heap.size) := C
  obtain ⟨F, hFe⟩ : ∃ F, F = dd + 1 := ⟨_, rfl⟩
  obtain ⟨Lo, hLoe⟩ : ∃ Lo, Lo = 64 * dd + 64 := ⟨_, rfl⟩
  obtain ⟨σ0, hσ0⟩ : ∃ s0, s0 = σ := ⟨_, rfl⟩
  suffices K : AW p l e { frames := F, cells := 0, slots := 0, locals := Lo } s m args below meth c D kA (va_A (mmW kA z v σ0) s.heap.size) 4 (ax_Qv below args s D kA (mmW kA z v σ0) 0 0 (fun w1 => w1 = mmW kA z v σf)) 0 [(0, .ref z), (1, .int x0), (2, .int x1)] [] (mmW kA z v σ) 0 0 by rw [hFe, hLoe, hσ0] at K; exact ax_ls ([(0, .ref z), (1, .int x0), (2, .int x1)]) [0, 1, 2] rfl K
  have C : ax_C p s m args meth c b_MM_mark2 "ClauseProverModel" 4 none D kA (va_A (mmW kA z v σ0) s.heap.size) := by rw [hσ0]; exact C
  have hF : dd + 1 ≤ F := by omega
  have hLo : 64 * dd + 64 ≤ Lo := by omega
  clear hFe hLoe hσ0
  refine ax_aload_n (pc := 0) C d_MM_mark2_0 rfl 0 rfl ?_
  refine mg_105 (pc := 1) C d_MM_mark2_1 ?_
  refine ax_iload_n (pc := 4) C d_MM_mark2_4 rfl 1 rfl ?_
  obtain ⟨hb, h⟩ := it_g h
  refine ml_30 (pc := 5) C d_MM_mark2_5 (bin_in hb) ?_
  refine ax_if_ne (pc := 6) C 10 d_MM_mark2_6 (by decide) (fun hc => ?_) (fun hc => ?_)
  · have h := it_f hc h
    refine ax_aload_n (pc := 10) C d_MM_mark2_10 rfl 0 rfl ?_
    refine mg_105 (pc := 11) C d_MM_mark2_11 ?_
    refine ax_iload_n (pc := 14) C d_MM_mark2_14 rfl 1 rfl ?_
    obtain ⟨hb, h⟩ := it_g h
    refine ml_30 (pc := 15) C d_MM_mark2_15 (bin_in hb) ?_
    refine ax_bipush (pc := 16) C 6 d_MM_mark2_16 (by decide +kernel) ?_
    refine ax_icmp_eq (pc := 18) C 32 d_MM_mark2_18 (by decide) (fun hc => ?_) (fun hc => ?_)
    · have h := it_t hc h
      refine ax_ls ([(0, .ref z), (1, .int x0), (2, .int x1)]) [0, 1, 2] rfl ?_
      have hm : s_44 l D kA z v σ [x0, x1] (σf, rf, _) := ih 44 _ _ _ h
      exact hm _ _ rfl p e s m args below meth c F Lo σ0 hF hLo C
    · have h := it_f hc h
      refine ax_aload_n (pc := 21) C d_MM_mark2_21 rfl 0 rfl ?_
      refine mg_105 (pc := 22) C d_MM_mark2_22 ?_
      refine ax_iload_n (pc := 25) C d_MM_mark2_25 rfl 1 rfl ?_
      obtain ⟨hb, h⟩ := it_g h
      refine ml_30 (pc := 26) C d_MM_mark2_26 (bin_in hb) ?_
      refine ax_bipush (pc := 27) C 7 d_MM_mark2_27 (by decide +kernel) ?_
      refine ax_icmp_ne (pc := 29) C 45 d_MM_mark2_29 (by decide) (fun hc => ?_) (fun hc => ?_)
      · have h := it_f hc h
        refine ax_iconst (pc := 45) C 0 d_MM_mark2_45 (by decide +kernel) ?_
        refine ax_ls ([(0, .ref z), (1, .int x0), (2, .int x1)]) [0, 1, 2] rfl ?_
        have hm : s_45 l D kA z v σ [x0, x1, 0] (σf, rf, _) := ih 45 _ _ _ h
        exact hm _ _ _ rfl p e s m args below meth c F Lo σ0 hF hLo C
      · have h := it_t hc h
        refine ax_ls ([(0, .ref z), (1, .int x0), (2, .int x1)]) [0, 1, 2] rfl ?_
        have hm : s_44 l D kA z v σ [x0, x1] (σf, rf, _) := ih 44 _ _ _ h
        exact hm _ _ rfl p e s m args below meth c F Lo σ0 hF hLo C
  · have h := it_t hc h
    cases h
    exact ax_vret (pc := 9) C d_MM_mark2_9 rfl (Nat.le_refl _) (Nat.le_refl _)
set_option maxHeartbeats 4000000 in
set_option maxRecDepth 100000 in
theorem o_44 (l : Launch) (D : va_G) (kA : Nat → ClassId) (z : Nat) (v : Nat → Nat) (rec : mF) (ih : ∀ t σ xs res, rec t σ xs = some res → mSem l D kA z v t σ xs res) (σ : mS) (xs : List Int32) (res : mR) (h : k_44 rec σ xs = some res) : s_44 l D kA z v σ xs res := by
  intro x0 x1 hxs
  subst hxs
  obtain ⟨σf, rf, dd⟩ := res
  have h : (if bin x0 20100 = true then (if (1000 : Int32) = 0 then none else (rec 45 σ [x0, x1, ((σ.2.1 32 (Int32.toNatClampNeg x0)) - (σ.2.1 32 (Int32.toNatClampNeg x0)) / 1000 * 1000)])) else none) = some (σf, rf, dd) := h
  intro p e s m args below meth c F Lo σ0 hF hLo C
  dsimp only at hF hLo ⊢
  refine ax_aload_n (pc := 32) C d_MM_mark2_32 rfl 0 rfl ?_
  refine mg_111 (pc := 33) C d_MM_mark2_33 ?_
  refine ax_iload_n (pc := 36) C d_MM_mark2_36 rfl 1 rfl ?_
  obtain ⟨hb, h⟩ := it_g h
  refine ml_32 (pc := 37) C d_MM_mark2_37 (bin_in hb) ?_
  refine ax_sipush (pc := 38) C 1000 d_MM_mark2_38 (by decide +kernel) ?_
  obtain ⟨hz, h⟩ := it_n h
  refine ax_irem (pc := 41) C d_MM_mark2_41 hz ?_
  refine ax_goto (pc := 42) C 46 d_MM_mark2_42 (by decide) ?_
  refine ax_ls ([(0, .ref z), (1, .int x0), (2, .int x1)]) [0, 1, 2] rfl ?_
  have hm : s_45 l D kA z v σ [x0, x1, ((σ.2.1 32 (Int32.toNatClampNeg x0)) - (σ.2.1 32 (Int32.toNatClampNeg x0)) / 1000 * 1000)] (σf, rf, _) := ih 45 _ _ _ h
  exact hm _ _ _ rfl p e s m args below meth c F Lo σ0 hF hLo C
set_option maxHeartbeats 4000000 in
set_option maxRecDepth 100000 in
theorem o_45 (l : Launch) (D : va_G) (kA : Nat → ClassId) (z : Nat) (v : Nat → Nat) (rec : mF) (ih : ∀ t σ xs res, rec t σ xs = some res → mSem l D kA z v t σ xs res) (σ : mS) (xs : List Int32) (res : mR) (h : k_45 rec σ xs = some res) : s_45 l D kA z v σ xs res := by
  intro x0 x1 x2 hxs
  subst hxs
  obtain ⟨σf, rf, dd⟩ := res
  have h : (if x2 ≤ 0 then (rec 46 σ [x0, x1, x2]) else (bnd (rec 48 σ [x0, 1, x1]) (fun σ1 r1 => rec 46 σ1 [x0, x1, x2]))) = some (σf, rf, dd) := h
  intro p e s m args below meth c F Lo σ0 hF hLo C
  dsimp only at hF hLo ⊢
  refine ax_istore_n (pc := 46) C d_MM_mark2_46 rfl (Nat.le_of_ble_eq_true rfl) ([(3, .int x2), (0, .ref z), (1, .int x0), (2, .int x1)]) rfl ?_
  refine ax_iload_n (pc := 47) C d_MM_mark2_47 rfl 0 rfl ?_
  refine ax_if_le (pc := 48) C 58 d_MM_mark2_48 (by decide) (fun hc => ?_) (fun hc => ?_)
  · have h := it_t hc h
    refine ax_ls ([(0, .ref z), (1, .int x0), (2, .int x1), (3, .int x2)]) [1, 2, 3, 0] rfl ?_
    have hm : s_46 l D kA z v σ [x0, x1, x2] (σf, rf, _) := ih 46 _ _ _ h
    exact hm _ _ _ rfl p e s m args below meth c F Lo σ0 hF hLo C
  · have h := it_f hc h
    refine ax_aload_n (pc := 51) C d_MM_mark2_51 rfl 1 rfl ?_
    refine ax_iload_n (pc := 52) C d_MM_mark2_52 rfl 2 rfl ?_
    refine ax_iconst (pc := 53) C 1 d_MM_mark2_53 (by decide +kernel) ?_
    refine ax_iload_n (pc := 54) C d_MM_mark2_54 rfl 3 rfl ?_
    obtain ⟨σ1, r1, d1_1, d2_1, h1, h, hd2, hd1⟩ := it_b h
    have hm : s_48 l D kA z v σ [x0, 1, x1] (σ1, r1, d1_1) := ih 48 _ _ _ h1
    refine mc_Vv (pc := 55) C (As := [.int x0, .int 1, .int x1]) (rest := []) (hm _ _ _ rfl) ml_MM_529 d_MM_mark2_55 rfl rfl (by dsimp only; omega) (by dsimp only; omega) (Nat.le_of_ble_eq_true rfl) (Nat.le_of_ble_eq_true rfl) (Nat.le_of_ble_eq_true rfl) ?_
    have hF : d2_1 + 1 ≤ F := by omega
    have hLo : 64 * d2_1 + 64 ≤ Lo := by omega
    refine ax_ls ([(0, .ref z), (1, .int x0), (2, .int x1), (3, .int x2)]) [1, 2, 3, 0] rfl ?_
    have hm : s_46 l D kA z v σ1 [x0, x1, x2] (σf, rf, _) := ih 46 _ _ _ h
    exact hm _ _ _ rfl p e s m args below meth c F Lo σ0 hF hLo C
set_option maxHeartbeats 4000000 in
set_option maxRecDepth 100000 in
theorem o_46 (l : Launch) (D : va_G) (kA : Nat → ClassId) (z : Nat) (v : Nat → Nat) (rec : mF) (ih : ∀ t σ xs res, rec t σ xs = some res → mSem l D kA z v t σ xs res) (σ : mS) (xs : List Int32) (res : mR) (h : k_46 rec σ xs = some res) : s_46 l D kA z v σ xs res := by
  intro x0 x1 x2 hxs
  subst hxs
  obtain ⟨σf, rf, dd⟩ := res
  have h : (if bin x0 20100 = true then (bnd (rec 43 σ [(σ.2.1 31 (Int32.toNatClampNeg x0)), ((x1 : Int32) + x2)]) (fun σ1 r1 => if bin x0 20100 = true then (if (σ1.2.1 30 (Int32.toNatClampNeg x0)) < 2 then (rec 47 σ1 [x0, x1, x2]) else (if bin x0 20100 = true then (if 5 < (σ1.2.1 30 (Int32.toNatClampNeg x0)) then (rec 47 σ1 [x0, x1, x2]) else (if bin x0 20100 = true then (bnd (rec 43 σ1 [(σ1.2.1 32 (Int32.toNatClampNeg x0)), x1]) (fun σ2 r2 => rec 47 σ2 [x0, x1, x2])) else none)) else none)) else none)) else none) = some (σf, rf, dd) := h
  intro p e s m args below meth c F Lo σ0 hF hLo C
  dsimp only at hF hLo ⊢
  refine ax_aload_n (pc := 58) C d_MM_mark2_58 rfl 0 rfl ?_
  refine ax_aload_n (pc := 59) C d_MM_mark2_59 rfl 0 rfl ?_
  refine mg_108 (pc := 60) C d_MM_mark2_60 ?_
  refine ax_iload_n (pc := 63) C d_MM_mark2_63 rfl 1 rfl ?_
  obtain ⟨hb, h⟩ := it_g h
  refine ml_31 (pc := 64) C d_MM_mark2_64 (bin_in hb) ?_
  refine ax_iload_n (pc := 65) C d_MM_mark2_65 rfl 2 rfl ?_
  refine ax_iload_n (pc := 66) C d_MM_mark2_66 rfl 3 rfl ?_
  refine ax_iadd (pc := 67) C d_MM_mark2_67 ?_
  obtain ⟨σ1, r1, d1_1, d2_1, h1, h, hd2, hd1⟩ := it_b h
  have hm : s_43 l D kA z v σ [(σ.2.1 31 (Int32.toNatClampNeg x0)), ((x1 : Int32) + x2)] (σ1, r1, d1_1) := ih 43 _ _ _ h1
  refine mc_Vv (pc := 68) C (As := [.int (σ.2.1 31 (Int32.toNatClampNeg x0)), .int ((x1 : Int32) + x2)]) (rest := []) (hm _ _ rfl) ml_MM_526 d_MM_mark2_68 rfl rfl (by dsimp only; omega) (by dsimp only; omega) (Nat.le_of_ble_eq_true rfl) (Nat.le_of_ble_eq_true rfl) (Nat.le_of_ble_eq_true rfl) ?_
  have hF : d2_1 + 1 ≤ F := by omega
  have hLo : 64 * d2_1 + 64 ≤ Lo := by omega
  refine ax_aload_n (pc := 71) C d_MM_mark2_71 rfl 0 rfl ?_
  refine mg_105 (pc := 72) C d_MM_mark2_72 ?_
  refine ax_iload_n (pc := 75) C d_MM_mark2_75 rfl 1 rfl ?_
  obtain ⟨hb, h⟩ := it_g h
  refine ml_30 (pc := 76) C d_MM_mark2_76 (bin_in hb) ?_
  refine ax_iconst (pc := 77) C 2 d_MM_mark2_77 (by decide +kernel) ?_
  refine ax_icmp_lt (pc := 78) C 102 d_MM_mark2_78 (by decide) (fun hc => ?_) (fun hc => ?_)
  · have h := it_t hc h
    refine ax_ls ([(0, .ref z), (1, .int x0), (2, .int x1), (3, .int x2)]) [0, 1, 2, 3] rfl ?_
    have hm : s_47 l D kA z v σ1 [x0, x1, x2] (σf, rf, _) := ih 47 _ _ _ h
    exact hm _ _ _ rfl p e s m args below meth c F Lo σ0 hF hLo C
  · have h := it_f hc h
    refine ax_aload_n (pc := 81) C d_MM_mark2_81 rfl 0 rfl ?_
    refine mg_105 (pc := 82) C d_MM_mark2_82 ?_
    refine ax_iload_n (pc := 85) C d_MM_mark2_85 rfl 1 rfl ?_
    obtain ⟨hb, h⟩ := it_g h
    refine ml_30 (pc := 86) C d_MM_mark2_86 (bin_in hb) ?_
    refine ax_iconst (pc := 87) C 5 d_MM_mark2_87 (by decide +kernel) ?_
    refine ax_icmp_gt (pc := 88) C 102 d_MM_mark2_88 (by decide) (fun hc => ?_) (fun hc => ?_)
    · have h := it_t hc h
      refine ax_ls ([(0, .ref z), (1, .int x0), (2, .int x1), (3, .int x2)]) [0, 1, 2, 3] rfl ?_
      have hm : s_47 l D kA z v σ1 [x0, x1, x2] (σf, rf, _) := ih 47 _ _ _ h
      exact hm _ _ _ rfl p e s m args below meth c F Lo σ0 hF hLo C
    · have h := it_f hc h
      refine ax_aload_n (pc := 91) C d_MM_mark2_91 rfl 0 rfl ?_
      refine ax_aload_n (pc := 92) C d_MM_mark2_92 rfl 0 rfl ?_
      refine mg_111 (pc := 93) C d_MM_mark2_93 ?_
      refine ax_iload_n (pc := 96) C d_MM_mark2_96 rfl 1 rfl ?_
      obtain ⟨hb, h⟩ := it_g h
      refine ml_32 (pc := 97) C d_MM_mark2_97 (bin_in hb) ?_
      refine ax_iload_n (pc := 98) C d_MM_mark2_98 rfl 2 rfl ?_
      obtain ⟨σ2, r2, d1_2, d2_2, h1, h, hd2, hd1⟩ := it_b h
      have hm : s_43 l D kA z v σ1 [(σ1.2.1 32 (Int32.toNatClampNeg x0)), x1] (σ2, r2, d1_2) := ih 43 _ _ _ h1
      refine mc_Vv (pc := 99) C (As := [.int (σ1.2.1 32 (Int32.toNatClampNeg x0)), .int x1]) (rest := []) (hm _ _ rfl) ml_MM_526 d_MM_mark2_99 rfl rfl (by dsimp only; omega) (by dsimp only; omega) (Nat.le_of_ble_eq_true rfl) (Nat.le_of_ble_eq_true rfl) (Nat.le_of_ble_eq_true rfl) ?_
      have hF : d2_2 + 1 ≤ F := by omega
      have hLo : 64 * d2_2 + 64 ≤ Lo := by omega
      refine ax_ls ([(0, .ref z), (1, .int x0), (2, .int x1), (3, .int x2)]) [0, 1, 2, 3] rfl ?_
      have hm : s_47 l D kA z v σ2 [x0, x1, x2] (σf, rf, _) := ih 47 _ _ _ h
      exact hm _ _ _ rfl p e s m args below meth c F Lo σ0 hF hLo C
set_option maxHeartbeats 4000000 in
set_option maxRecDepth 100000 in
theorem o_47 (l : Launch) (D : va_G) (kA : Nat → ClassId) (z : Nat) (v : Nat → Nat) (rec : mF) (ih : ∀ t σ xs res, rec t σ xs = some res → mSem l D kA z v t σ xs res) (σ : mS) (xs : List Int32) (res : mR) (h : k_47 rec σ xs = some res) : s_47 l D kA z v σ xs res := by
  intro x0 x1 x2 hxs
  subst hxs
  obtain ⟨σf, rf, dd⟩ := res
  have h : (some (σ, 0, 0)) = some (σf, rf, dd) := h
  intro p e s m args below meth c F Lo σ0 hF hLo C
  dsimp only at hF hLo ⊢
  cases h
  exact ax_vret (pc := 102) C d_MM_mark2_102 rfl (Nat.le_refl _) (Nat.le_refl _)
set_option maxHeartbeats 4000000 in
set_option maxRecDepth 100000 in
theorem o_48 (l : Launch) (D : va_G) (kA : Nat → ClassId) (z : Nat) (v : Nat → Nat) (rec : mF) (ih : ∀ t σ xs res, rec t σ xs = some res → mSem l D kA z v t σ xs res) (σ : mS) (xs : List Int32) (res : mR) (h : k_48 rec σ xs = some res) : s_48 l D kA z v σ xs res := by
  intro x0 x1 x2 hxs
  subst hxs
  obtain ⟨σf, rf, dd⟩ := res
  have h : (rec 49 σ [x0, x1, x2, 0]) = some (σf, rf, dd) := h
  refine ax_Mv.of (by decide +kernel) (Nat.le_of_ble_eq_true rfl) ?_
  intro p e s m args below meth c C hnm
  have C : ax_C p s m args meth c b_MM_marked "ClauseProverModel" 6 none D kA (va_A (mmW kA z v σ) s.heap.size) := C
  obtain ⟨F, hFe⟩ : ∃ F, F = dd + 1 := ⟨_, rfl⟩
  obtain ⟨Lo, hLoe⟩ : ∃ Lo, Lo = 64 * dd + 64 := ⟨_, rfl⟩
  obtain ⟨σ0, hσ0⟩ : ∃ s0, s0 = σ := ⟨_, rfl⟩
  suffices K : AW p l e { frames := F, cells := 0, slots := 0, locals := Lo } s m args below meth c D kA (va_A (mmW kA z v σ0) s.heap.size) 6 (ax_Qv below args s D kA (mmW kA z v σ0) 0 0 (fun w1 => w1 = mmW kA z v σf)) 0 [(0, .ref z), (1, .int x0), (2, .int x1), (3, .int x2)] [] (mmW kA z v σ) 0 0 by rw [hFe, hLoe, hσ0] at K; exact ax_ls ([(0, .ref z), (1, .int x0), (2, .int x1), (3, .int x2)]) [0, 1, 2, 3] rfl K
  have C : ax_C p s m args meth c b_MM_marked "ClauseProverModel" 6 none D kA (va_A (mmW kA z v σ0) s.heap.size) := by rw [hσ0]; exact C
  have hF : dd + 1 ≤ F := by omega
  have hLo : 64 * dd + 64 ≤ Lo := by omega
  clear hFe hLoe hσ0
  refine ax_iconst (pc := 0) C 0 d_MM_marked_0 (by decide +kernel) ?_
  refine ax_istore (pc := 1) C d_MM_marked_1 (Nat.le_of_ble_eq_true rfl) ([(4, .int 0), (0, .ref z), (1, .int x0), (2, .int x1), (3, .int x2)]) rfl ?_
  refine ax_ls ([(0, .ref z), (1, .int x0), (2, .int x1), (3, .int x2), (4, .int 0)]) [1, 2, 3, 4, 0] rfl ?_
  have hm : s_49 l D kA z v σ [x0, x1, x2, 0] (σf, rf, _) := ih 49 _ _ _ h
  exact hm _ _ _ _ rfl p e s m args below meth c F Lo σ0 hF hLo C
set_option maxHeartbeats 4000000 in
set_option maxRecDepth 100000 in
theorem o_49 (l : Launch) (D : va_G) (kA : Nat → ClassId) (z : Nat) (v : Nat → Nat) (rec : mF) (ih : ∀ t σ xs res, rec t σ xs = some res → mSem l D kA z v t σ xs res) (σ : mS) (xs : List Int32) (res : mR) (h : k_49 rec σ xs = some res) : s_49 l D kA z v σ xs res := by
  intro x0 x1 x2 x3 hxs
  subst hxs
  obtain ⟨σf, rf, dd⟩ := res
  have h : (if bin x0 20100 = true then (if (1000 : Int32) = 0 then none else (if ((σ.2.1 32 (Int32.toNatClampNeg x0)) - (σ.2.1 32 (Int32.toNatClampNeg x0)) / 1000 * 1000) ≤ x3 then (some (σ, 0, 0)) else (if bin x0 20100 = true then (if (1000 : Int32) = 0 then none else (if x1 = 0 then (rec 50 σ [x0, x1, x2, x3, ((((σ.2.1 32 (Int32.toNatClampNeg x0)) / 1000) : Int32) + x3)]) else (if bin ((((σ.2.1 32 (Int32.toNatClampNeg x0)) / 1000) : Int32) + x3) 300 = true then (lt_ (mA σ 24 (Int32.toNatClampNeg ((((σ.2.1 32 (Int32.toNatClampNeg x0)) / 1000) : Int32) + x3)) (vp_nar .boolean 1)) (fun σ1 => rec 50 σ1 [x0, x1, x2, x3, ((((σ.2.1 32 (Int32.toNatClampNeg x0)) / 1000) : Int32) + x3)])) else none))) else none))) else none) = some (σf, rf, dd) := h
  intro p e s m args below meth c F Lo σ0 hF hLo C
  dsimp only at hF hLo ⊢
  refine ax_iload (pc := 3) C d_MM_marked_3 4 rfl ?_
  refine ax_aload_n (pc := 5) C d_MM_marked_5 rfl 0 rfl ?_
  refine mg_111 (pc := 6) C d_MM_marked_6 ?_
  refine ax_iload_n (pc := 9) C d_MM_marked_9 rfl 1 rfl ?_
  obtain ⟨hb, h⟩ := it_g h
  refine ml_32 (pc := 10) C d_MM_marked_10 (bin_in hb) ?_
  refine ax_sipush (pc := 11) C 1000 d_MM_marked_11 (by decide +kernel) ?_
  obtain ⟨hz, h⟩ := it_n h
  refine ax_irem (pc := 14) C d_MM_marked_14 hz ?_
  refine ax_icmp_ge (pc := 15) C 62 d_MM_marked_15 (by decide) (fun hc => ?_) (fun hc => ?_)
  · have h := it_t hc h
    cases h
    exact ax_vret (pc := 62) C d_MM_marked_62 rfl (Nat.le_refl _) (Nat.le_refl _)
  · have h := it_f hc h
    refine ax_aload_n (pc := 18) C d_MM_marked_18 rfl 0 rfl ?_
    refine mg_111 (pc := 19) C d_MM_marked_19 ?_
    refine ax_iload_n (pc := 22) C d_MM_marked_22 rfl 1 rfl ?_
    obtain ⟨hb, h⟩ := it_g h
    refine ml_32 (pc := 23) C d_MM_marked_23 (bin_in hb) ?_
    refine ax_sipush (pc := 24) C 1000 d_MM_marked_24 (by decide +kernel) ?_
    obtain ⟨hz, h⟩ := it_n h
    refine ax_idiv (pc := 27) C d_MM_marked_27 hz ?_
    refine ax_iload (pc := 28) C d_MM_marked_28 4 rfl ?_
    refine ax_iadd (pc := 30) C d_MM_marked_30 ?_
    refine ax_istore (pc := 31) C d_MM_marked_31 (Nat.le_of_ble_eq_true rfl) ([(5, .int ((((σ.2.1 32 (Int32.toNatClampNeg x0)) / 1000) : Int32) + x3)), (0, .ref z), (1, .int x0), (2, .int x1), (3, .int x2), (4, .int x3)]) rfl ?_
    refine ax_iload_n (pc := 33) C d_MM_marked_33 rfl 3 rfl ?_
    refine ax_if_eq (pc := 34) C 45 d_MM_marked_34 (by decide) (fun hc => ?_) (fun hc => ?_)
    · have h := it_t hc h
      refine ax_ls ([(0, .ref z), (1, .int x0), (2, .int x1), (3, .int x2), (4, .int x3), (5, .int ((((σ.2.1 32 (Int32.toNatClampNeg x0)) / 1000) : Int32) + x3))]) [1, 2, 3, 4, 5, 0] rfl ?_
      have hm : s_50 l D kA z v σ [x0, x1, x2, x3, ((((σ.2.1 32 (Int32.toNatClampNeg x0)) / 1000) : Int32) + x3)] (σf, rf, _) := ih 50 _ _ _ h
      exact hm _ _ _ _ _ rfl p e s m args below meth c F Lo σ0 hF hLo C
    · have h := it_f hc h
      refine ax_aload_n (pc := 37) C d_MM_marked_37 rfl 1 rfl ?_
      refine mg_86 (pc := 38) C d_MM_marked_38 ?_
      refine ax_iload (pc := 41) C d_MM_marked_41 0 rfl ?_
      refine ax_iconst (pc := 43) C 1 d_MM_marked_43 (by decide +kernel) ?_
      obtain ⟨hb, h⟩ := it_g h
      refine ms_24 (pc := 44) C d_MM_marked_44 (bin_in hb) ?_
      have h := it_l h
      generalize mA σ 24 (Int32.toNatClampNeg ((((σ.2.1 32 (Int32.toNatClampNeg x0)) / 1000) : Int32) + x3)) (vp_nar .boolean 1) = σ1 at h ⊢
      refine ax_ls ([(0, .ref z), (1, .int x0), (2, .int x1), (3, .int x2), (4, .int x3), (5, .int ((((σ.2.1 32 (Int32.toNatClampNeg x0)) / 1000) : Int32) + x3))]) [1, 2, 3, 4, 5, 0] rfl ?_
      have hm : s_50 l D kA z v σ1 [x0, x1, x2, x3, ((((σ.2.1 32 (Int32.toNatClampNeg x0)) / 1000) : Int32) + x3)] (σf, rf, _) := ih 50 _ _ _ h
      exact hm _ _ _ _ _ rfl p e s m args below meth c F Lo σ0 hF hLo C
set_option maxHeartbeats 4000000 in
set_option maxRecDepth 100000 in
theorem o_50 (l : Launch) (D : va_G) (kA : Nat → ClassId) (z : Nat) (v : Nat → Nat) (rec : mF) (ih : ∀ t σ xs res, rec t σ xs = some res → mSem l D kA z v t σ xs res) (σ : mS) (xs : List Int32) (res : mR) (h : k_50 rec σ xs = some res) : s_50 l D kA z v σ xs res := by
  intro x0 x1 x2 x3 x4 hxs
  subst hxs
  obtain ⟨σf, rf, dd⟩ := res
  have h : (if bin x4 300 = true then (lt_ (mA σ 58 (Int32.toNatClampNeg x4) ((x2 : Int32) + x3)) (fun σ1 => rec 49 σ1 [x0, x1, x2, (x3 + 1)])) else none) = some (σf, rf, dd) := h
  intro p e s m args below meth c F Lo σ0 hF hLo C
  dsimp only at hF hLo ⊢
  refine ax_aload_n (pc := 45) C d_MM_marked_45 rfl 0 rfl ?_
  refine mg_190 (pc := 46) C d_MM_marked_46 ?_
  refine ax_iload (pc := 49) C d_MM_marked_49 5 rfl ?_
  refine ax_iload_n (pc := 51) C d_MM_marked_51 rfl 3 rfl ?_
  refine ax_iload (pc := 52) C d_MM_marked_52 4 rfl ?_
  refine ax_iadd (pc := 54) C d_MM_marked_54 ?_
  obtain ⟨hb, h⟩ := it_g h
  refine ms_58 (pc := 55) C d_MM_marked_55 (bin_in hb) ?_
  have h := it_l h
  generalize mA σ 58 (Int32.toNatClampNeg x4) ((x2 : Int32) + x3) = σ1 at h ⊢
  refine ax_iinc (pc := 56) C (x3 + 1) d_MM_marked_56 4 rfl rfl (Nat.le_of_ble_eq_true rfl) ([(4, .int (x3 + 1)), (0, .ref z), (1, .int x0), (2, .int x1), (3, .int x2), (5, .int x4)]) rfl ?_
  refine ax_goto (pc := 59) C 3 d_MM_marked_59 (by decide) ?_
  refine ax_ls ([(0, .ref z), (1, .int x0), (2, .int x1), (3, .int x2), (4, .int (x3 + 1))]) [1, 2, 3, 4, 0] rfl ?_
  have hm : s_49 l D kA z v σ1 [x0, x1, x2, (x3 + 1)] (σf, rf, _) := ih 49 _ _ _ h
  exact hm _ _ _ _ rfl p e s m args below meth c F Lo σ0 hF hLo C
set_option maxHeartbeats 4000000 in
set_option maxRecDepth 100000 in
theorem o_51 (l : Launch) (D : va_G) (kA : Nat → ClassId) (z : Nat) (v : Nat → Nat) (rec : mF) (ih : ∀ t σ xs res, rec t σ xs = some res → mSem l D kA z v t σ xs res) (σ : mS) (xs : List Int32) (res : mR) (h : k_51 rec σ xs = some res) : s_51 l D kA z v σ xs res := by
  intro x0 x1 hxs
  subst hxs
  obtain ⟨σf, rf, dd⟩ := res
  have h : (if bin x0 20100 = true then (if ((σ.2.1 30 (Int32.toNatClampNeg x0)) : Int32).toInt < 0 ∨ 5 < ((σ.2.1 30 (Int32.toNatClampNeg x0)) : Int32).toInt then (if bin x0 20100 = true then (bnd (rec 51 σ [(σ.2.1 31 (Int32.toNatClampNeg x0)), x1]) (fun σ1 r1 => some (σ1, r1, 0))) else none) else (if ((σ.2.1 30 (Int32.toNatClampNeg x0)) : Int32) = 0 then (some (σ, 1, 0)) else (if ((σ.2.1 30 (Int32.toNatClampNeg x0)) : Int32) = 1 then (if bin x0 20100 = true then (if x1 = 0 then (rec 52 σ [x0, x1, 1, (σ.2.1 31 (Int32.toNatClampNeg x0))]) else (rec 52 σ [x0, x1, 0, (σ.2.1 31 (Int32.toNatClampNeg x0))])) else none) else (if ((σ.2.1 30 (Int32.toNatClampNeg x0)) : Int32) = 2 then (if bin x0 20100 = true then (if (σ.2.1 30 (Int32.toNatClampNeg x0)) = 2 then (rec 53 σ [x0, x1, 1]) else (rec 53 σ [x0, x1, 0])) else none) else (if ((σ.2.1 30 (Int32.toNatClampNeg x0)) : Int32) = 3 then (if bin x0 20100 = true then (if (σ.2.1 30 (Int32.toNatClampNeg x0)) = 2 then (rec 53 σ [x0, x1, 1]) else (rec 53 σ [x0, x1, 0])) else none) else (if ((σ.2.1 30 (Int32.toNatClampNeg x0)) : Int32) = 4 then (if x1 = 0 then (if bin x0 20100 = true then (bnd (rec 51 σ [(σ.2.1 31 (Int32.toNatClampNeg x0)), 1]) (fun σ2 r2 => if bin x0 20100 = true then (bnd (rec 51 σ2 [(σ2.2.1 32 (Int32.toNatClampNeg x0)), 0]) (fun σ3 r3 => bnd (rec 58 σ3 [((r2 : Int32) + r3)]) (fun σ4 r4 => rec 55 σ4 [x0, x1, r4]))) else none)) else none) else (if bin x0 20100 = true then (bnd (rec 51 σ [(σ.2.1 31 (Int32.toNatClampNeg x0)), 0]) (fun σ5 r5 => if bin x0 20100 = true then (bnd (rec 51 σ5 [(σ5.2.1 32 (Int32.toNatClampNeg x0)), 1]) (fun σ6 r6 => bnd (rec 58 σ6 [((r5 : Int32) * r6)]) (fun σ7 r7 => rec 55 σ7 [x0, x1, r7]))) else none)) else none)) else (if bin x0 20100 = true then (bnd (rec 51 σ [(σ.2.1 31 (Int32.toNatClampNeg x0)), 1]) (fun σ8 r8 => if bin x0 20100 = true then (bnd (rec 51 σ8 [(σ8.2.1 32 (Int32.toNatClampNeg x0)), 1]) (fun σ9 r9 => if 200 < r8 then (rec 56 σ9 [x0, x1, r8, r9]) else (if r9 ≤ 200 then (if bin x0 20100 = true then (bnd (rec 51 σ9 [(σ9.2.1 31 (Int32.toNatClampNeg x0)), 0]) (fun σ10 r10 => if bin x0 20100 = true then (bnd (rec 51 σ10 [(σ10.2.1 32 (Int32.toNatClampNeg x0)), 0]) (fun σ11 r11 => if x1 = 0 then (bnd (rec 58 σ11 [((((r8 : Int32) * r9) : Int32) + ((r10 : Int32) * r11))]) (fun σ12 r12 => rec 57 σ12 [x0, x1, r8, r9, r10, r11, r12])) else (bnd (rec 58 σ11 [((((r10 : Int32) * r9) : Int32) + ((r11 : Int32) * r8))]) (fun σ13 r13 => rec 57 σ13 [x0, x1, r8, r9, r10, r11, r13])))) else none)) else none) else (rec 56 σ9 [x0, x1, r8, r9])))) else none)) else none))))))) else none) = some (σf, rf, dd) := h
  refine ax_Mi.of (by decide +kernel) (Nat.le_of_ble_eq_true rfl) ?_
  intro p e s m args below meth c C hnm
  have C : ax_C p s m args meth c b_MM_count2 "ClauseProverModel" 7 (some .int) D kA (va_A (mmW kA z v σ) s.heap.size) := C
  obtain ⟨F, hFe⟩ : ∃ F, F = dd + 1 := ⟨_, rfl⟩
  obtain ⟨Lo, hLoe⟩ : ∃ Lo, Lo = 64 * dd + 64 := ⟨_, rfl⟩
  obtain ⟨σ0, hσ0⟩ : ∃ s0, s0 = σ := ⟨_, rfl⟩
  suffices K : AW p l e { frames := F, cells := 0, slots := 0, locals := Lo } s m args below meth c D kA (va_A (mmW kA z v σ0) s.heap.size) 7 (ax_Qi below args s D kA (mmW kA z v σ0) 0 0 (fun r w1 => r = rf ∧ w1 = mmW kA z v σf)) 0 [(0, .ref z), (1, .int x0), (2, .int x1)] [] (mmW kA z v σ) 0 0 by rw [hFe, hLoe, hσ0] at K; exact ax_ls ([(0, .ref z), (1, .int x0), (2, .int x1)]) [0, 1, 2] rfl K
  have C : ax_C p s m args meth c b_MM_count2 "ClauseProverModel" 7 (some .int) D kA (va_A (mmW kA z v σ0) s.heap.size) := by rw [hσ0]; exact C
  have hF : dd + 1 ≤ F := by omega
  have hLo : 64 * dd + 64 ≤ Lo := by omega
  clear hFe hLoe hσ0
  refine ax_aload_n (pc := 0) C d_MM_count2_0 rfl 0 rfl ?_
  refine mg_105 (pc := 1) C d_MM_count2_1 ?_
  refine ax_iload_n (pc := 4) C d_MM_count2_4 rfl 1 rfl ?_
  obtain ⟨hb, h⟩ := it_g h
  refine ml_30 (pc := 5) C d_MM_count2_5 (bin_in hb) ?_
  by_cases hr : ((σ.2.1 30 (Int32.toNatClampNeg x0)) : Int32).toInt < 0 ∨ 5 < ((σ.2.1 30 (Int32.toNatClampNeg x0)) : Int32).toInt
  · have h := it_t hr h
    refine ax_tableOut (pc := 6) C 305 d_MM_count2_6 hr (by decide) ?_
    refine ax_aload_n (pc := 305) C d_MM_count2_305 rfl 0 rfl ?_
    refine ax_aload_n (pc := 306) C d_MM_count2_306 rfl 0 rfl ?_
    refine mg_108 (pc := 307) C d_MM_count2_307 ?_
    refine ax_iload_n (pc := 310) C d_MM_count2_310 rfl 1 rfl ?_
    obtain ⟨hb, h⟩ := it_g h
    refine ml_31 (pc := 311) C d_MM_count2_311 (bin_in hb) ?_
    refine ax_iload_n (pc := 312) C d_MM_count2_312 rfl 2 rfl ?_
    obtain ⟨σ1, r1, d1_1, d2_1, h1, h, hd2, hd1⟩ := it_b h
    have hm : s_51 l D kA z v σ [(σ.2.1 31 (Int32.toNatClampNeg x0)), x1] (σ1, r1, d1_1) := ih 51 _ _ _ h1
    refine mc_Vi (pc := 313) C (As := [.int (σ.2.1 31 (Int32.toNatClampNeg x0)), .int x1]) (rest := []) (hm _ _ rfl) ml_MM_532 d_MM_count2_313 rfl rfl (by dsimp only; omega) (by dsimp only; omega) (Nat.le_of_ble_eq_true rfl) (Nat.le_of_ble_eq_true rfl) (Nat.le_of_ble_eq_true rfl) ?_
    have hF : d2_1 + 1 ≤ F := by omega
    have hLo : 64 * d2_1 + 64 ≤ Lo := by omega
    cases h
    exact ax_iret (pc := 316) C d_MM_count2_316 ⟨rfl, rfl⟩ (Nat.le_refl _) (Nat.le_refl _)
  · have h := it_f hr h
    by_cases hv : ((σ.2.1 30 (Int32.toNatClampNeg x0)) : Int32) = 0
    · have h := it_t hv h
      refine ax_tableIn (pc := 6) C 44 d_MM_count2_6 (by omega) (by omega) (by rw [hv]; rfl) (by decide) ?_
      refine ax_iconst (pc := 44) C 1 d_MM_count2_44 (by decide +kernel) ?_
      cases h
      exact ax_iret (pc := 45) C d_MM_count2_45 ⟨rfl, rfl⟩ (Nat.le_refl _) (Nat.le_refl _)
    · have h := it_f hv h
      have hn0 : ¬ ((σ.2.1 30 (Int32.toNatClampNeg x0)) : Int32).toInt = 0 := fun q => hv (i32q (by rw [q]; rfl))
      by_cases hv : ((σ.2.1 30 (Int32.toNatClampNeg x0)) : Int32) = 1
      · have h := it_t hv h
        refine ax_tableIn (pc := 6) C 46 d_MM_count2_6 (by omega) (by omega) (by rw [hv]; rfl) (by decide) ?_
        refine ax_aload_n (pc := 46) C d_MM_count2_46 rfl 0 rfl ?_
        refine ax_aload_n (pc := 47) C d_MM_count2_47 rfl 0 rfl ?_
        refine mg_108 (pc := 48) C d_MM_count2_48 ?_
        refine ax_iload_n (pc := 51) C d_MM_count2_51 rfl 1 rfl ?_
        obtain ⟨hb, h⟩ := it_g h
        refine ml_31 (pc := 52) C d_MM_count2_52 (bin_in hb) ?_
        refine ax_iload_n (pc := 53) C d_MM_count2_53 rfl 2 rfl ?_
        refine ax_if_ne (pc := 54) C 61 d_MM_count2_54 (by decide) (fun hc => ?_) (fun hc => ?_)
        · have h := it_f hc h
          refine ax_iconst (pc := 61) C 0 d_MM_count2_61 (by decide +kernel) ?_
          refine ax_ls ([(0, .ref z), (1, .int x0), (2, .int x1)]) [0, 1, 2] rfl ?_
          have hm : s_52 l D kA z v σ [x0, x1, 0, (σ.2.1 31 (Int32.toNatClampNeg x0))] (σf, rf, _) := ih 52 _ _ _ h
          exact hm _ _ _ _ rfl p e s m args below meth c F Lo σ0 hF hLo C
        · have h := it_t hc h
          refine ax_iconst (pc := 57) C 1 d_MM_count2_57 (by decide +kernel) ?_
          refine ax_goto (pc := 58) C 62 d_MM_count2_58 (by decide) ?_
          refine ax_ls ([(0, .ref z), (1, .int x0), (2, .int x1)]) [0, 1, 2] rfl ?_
          have hm : s_52 l D kA z v σ [x0, x1, 1, (σ.2.1 31 (Int32.toNatClampNeg x0))] (σf, rf, _) := ih 52 _ _ _ h
          exact hm _ _ _ _ rfl p e s m args below meth c F Lo σ0 hF hLo C
      · have h := it_f hv h
        have hn1 : ¬ ((σ.2.1 30 (Int32.toNatClampNeg x0)) : Int32).toInt = 1 := fun q => hv (i32q (by rw [q]; rfl))
        by_cases hv : ((σ.2.1 30 (Int32.toNatClampNeg x0)) : Int32) = 2
        · have h := it_t hv h
          refine ax_tableIn (pc := 6) C 66 d_MM_count2_6 (by omega) (by omega) (by rw [hv]; rfl) (by decide) ?_
          refine ax_aload_n (pc := 66) C d_MM_count2_66 rfl 0 rfl ?_
          refine mg_105 (pc := 67) C d_MM_count2_67 ?_
          refine ax_iload_n (pc := 70) C d_MM_count2_70 rfl 1 rfl ?_
          obtain ⟨hb, h⟩ := it_g h
          refine ml_30 (pc := 71) C d_MM_count2_71 (bin_in hb) ?_
          refine ax_iconst (pc := 72) C 2 d_MM_count2_72 (by decide +kernel) ?_
          refine ax_icmp_ne (pc := 73) C 80 d_MM_count2_73 (by decide) (fun hc => ?_) (fun hc => ?_)
          · have h := it_f hc h
            refine ax_iconst (pc := 80) C 0 d_MM_count2_80 (by decide +kernel) ?_
            refine ax_ls ([(0, .ref z), (1, .int x0), (2, .int x1)]) [0, 1, 2] rfl ?_
            have hm : s_53 l D kA z v σ [x0, x1, 0] (σf, rf, _) := ih 53 _ _ _ h
            exact hm _ _ _ rfl p e s m args below meth c F Lo σ0 hF hLo C
          · have h := it_t hc h
            refine ax_iconst (pc := 76) C 1 d_MM_count2_76 (by decide +kernel) ?_
            refine ax_goto (pc := 77) C 81 d_MM_count2_77 (by decide) ?_
            refine ax_ls ([(0, .ref z), (1, .int x0), (2, .int x1)]) [0, 1, 2] rfl ?_
            have hm : s_53 l D kA z v σ [x0, x1, 1] (σf, rf, _) := ih 53 _ _ _ h
            exact hm _ _ _ rfl p e s m args below meth c F Lo σ0 hF hLo C
        · have h := it_f hv h
          have hn2 : ¬ ((σ.2.1 30 (Int32.toNatClampNeg x0)) : Int32).toInt = 2 := fun q => hv (i32q (by rw [q]; rfl))
          by_cases hv : ((σ.2.1 30 (Int32.toNatClampNeg x0)) : Int32) = 3
          · have h := it_t hv h
            refine ax_tableIn (pc := 6) C 66 d_MM_count2_6 (by omega) (by omega) (by rw [hv]; rfl) (by decide) ?_
            refine ax_aload_n (pc := 66) C d_MM_count2_66 rfl 0 rfl ?_
            refine mg_105 (pc := 67) C d_MM_count2_67 ?_
            refine ax_iload_n (pc := 70) C d_MM_count2_70 rfl 1 rfl ?_
            obtain ⟨hb, h⟩ := it_g h
            refine ml_30 (pc := 71) C d_MM_count2_71 (bin_in hb) ?_
            refine ax_iconst (pc := 72) C 2 d_MM_count2_72 (by decide +kernel) ?_
            refine ax_icmp_ne (pc := 73) C 80 d_MM_count2_73 (by decide) (fun hc => ?_) (fun hc => ?_)
            · have h := it_f hc h
              refine ax_iconst (pc := 80) C 0 d_MM_count2_80 (by decide +kernel) ?_
              refine ax_ls ([(0, .ref z), (1, .int x0), (2, .int x1)]) [0, 1, 2] rfl ?_
              have hm : s_53 l D kA z v σ [x0, x1, 0] (σf, rf, _) := ih 53 _ _ _ h
              exact hm _ _ _ rfl p e s m args below meth c F Lo σ0 hF hLo C
            · have h := it_t hc h
              refine ax_iconst (pc := 76) C 1 d_MM_count2_76 (by decide +kernel) ?_
              refine ax_goto (pc := 77) C 81 d_MM_count2_77 (by decide) ?_
              refine ax_ls ([(0, .ref z), (1, .int x0), (2, .int x1)]) [0, 1, 2] rfl ?_
              have hm : s_53 l D kA z v σ [x0, x1, 1] (σf, rf, _) := ih 53 _ _ _ h
              exact hm _ _ _ rfl p e s m args below meth c F Lo σ0 hF hLo C
          · have h := it_f hv h
            have hn3 : ¬ ((σ.2.1 30 (Int32.toNatClampNeg x0)) : Int32).toInt = 3 := fun q => hv (i32q (by rw [q]; rfl))
            by_cases hv : ((σ.2.1 30 (Int32.toNatClampNeg x0)) : Int32) = 4
            · have h := it_t hv h
              refine ax_tableIn (pc := 6) C 141 d_MM_count2_6 (by omega) (by omega) (by rw [hv]; rfl) (by decide) ?_
              refine ax_iload_n (pc := 141) C d_MM_count2_141 rfl 2 rfl ?_
              refine ax_if_eq (pc := 142) C 174 d_MM_count2_142 (by decide) (fun hc => ?_) (fun hc => ?_)
              · have h := it_t hc h
                refine ax_aload_n (pc := 174) C d_MM_count2_174 rfl 0 rfl ?_
                refine ax_aload_n (pc := 175) C d_MM_count2_175 rfl 0 rfl ?_
                refine mg_108 (pc := 176) C d_MM_count2_176 ?_
                refine ax_iload_n (pc := 179) C d_MM_count2_179 rfl 1 rfl ?_
                obtain ⟨hb, h⟩ := it_g h
                refine ml_31 (pc := 180) C d_MM_count2_180 (bin_in hb) ?_
                refine ax_iconst (pc := 181) C 1 d_MM_count2_181 (by decide +kernel) ?_
                obtain ⟨σ2, r2, d1_2, d2_2, h1, h, hd2, hd1⟩ := it_b h
                have hm : s_51 l D kA z v σ [(σ.2.1 31 (Int32.toNatClampNeg x0)), 1] (σ2, r2, d1_2) := ih 51 _ _ _ h1
                refine mc_Vi (pc := 182) C (As := [.int (σ.2.1 31 (Int32.toNatClampNeg x0)), .int 1]) (rest := []) (hm _ _ rfl) ml_MM_532 d_MM_count2_182 rfl rfl (by dsimp only; omega) (by dsimp only; omega) (Nat.le_of_ble_eq_true rfl) (Nat.le_of_ble_eq_true rfl) (Nat.le_of_ble_eq_true rfl) ?_
                have hF : d2_2 + 1 ≤ F := by omega
                have hLo : 64 * d2_2 + 64 ≤ Lo := by omega
                refine ax_aload_n (pc := 185) C d_MM_count2_185 rfl 0 rfl ?_
                refine ax_aload_n (pc := 186) C d_MM_count2_186 rfl 0 rfl ?_
                refine mg_111 (pc := 187) C d_MM_count2_187 ?_
                refine ax_iload_n (pc := 190) C d_MM_count2_190 rfl 1 rfl ?_
                obtain ⟨hb, h⟩ := it_g h
                refine ml_32 (pc := 191) C d_MM_count2_191 (bin_in hb) ?_
                refine ax_iconst (pc := 192) C 0 d_MM_count2_192 (by decide +kernel) ?_
                obtain ⟨σ3, r3, d1_3, d2_3, h1, h, hd2, hd1⟩ := it_b h
                have hm : s_51 l D kA z v σ2 [(σ2.2.1 32 (Int32.toNatClampNeg x0)), 0] (σ3, r3, d1_3) := ih 51 _ _ _ h1
                refine mc_Vi (pc := 193) C (As := [.int (σ2.2.1 32 (Int32.toNatClampNeg x0)), .int 0]) (rest := [.int r2]) (hm _ _ rfl) ml_MM_532 d_MM_count2_193 rfl rfl (by dsimp only; omega) (by dsimp only; omega) (Nat.le_of_ble_eq_true rfl) (Nat.le_of_ble_eq_true rfl) (Nat.le_of_ble_eq_true rfl) ?_
                have hF : d2_3 + 1 ≤ F := by omega
                have hLo : 64 * d2_3 + 64 ≤ Lo := by omega
                refine ax_iadd (pc := 196) C d_MM_count2_196 ?_
                obtain ⟨σ4, r4, d1_4, d2_4, h1, h, hd2, hd1⟩ := it_b h
                have hm : s_58 l D kA z v σ3 [((r2 : Int32) + r3)] (σ4, r4, d1_4) := ih 58 _ _ _ h1
                refine mc_Si (pc := 197) C (As := [.int ((r2 : Int32) + r3)]) (rest := []) (hm _ rfl) ml_MM_535 d_MM_count2_197 rfl rfl (by dsimp only; omega) (by dsimp only; omega) (Nat.le_of_ble_eq_true rfl) (Nat.le_of_ble_eq_true rfl) (Nat.le_of_ble_eq_true rfl) ?_
                have hF : d2_4 + 1 ≤ F := by omega
                have hLo : 64 * d2_4 + 64 ≤ Lo := by omega
                refine ax_ls ([(0, .ref z), (1, .int x0), (2, .int x1)]) [0, 1, 2] rfl ?_
                have hm : s_55 l D kA z v σ4 [x0, x1, r4] (σf, rf, _) := ih 55 _ _ _ h
                exact hm _ _ _ rfl p e s m args below meth c F Lo σ0 hF hLo C
              · have h := it_f hc h
                refine ax_aload_n (pc := 145) C d_MM_count2_145 rfl 0 rfl ?_
                refine ax_aload_n (pc := 146) C d_MM_count2_146 rfl 0 rfl ?_
                refine mg_108 (pc := 147) C d_MM_count2_147 ?_
                refine ax_iload_n (pc := 150) C d_MM_count2_150 rfl 1 rfl ?_
                obtain ⟨hb, h⟩ := it_g h
                refine ml_31 (pc := 151) C d_MM_count2_151 (bin_in hb) ?_
                refine ax_iconst (pc := 152) C 0 d_MM_count2_152 (by decide +kernel) ?_
                obtain ⟨σ5, r5, d1_5, d2_5, h1, h, hd2, hd1⟩ := it_b h
                have hm : s_51 l D kA z v σ [(σ.2.1 31 (Int32.toNatClampNeg x0)), 0] (σ5, r5, d1_5) := ih 51 _ _ _ h1
                refine mc_Vi (pc := 153) C (As := [.int (σ.2.1 31 (Int32.toNatClampNeg x0)), .int 0]) (rest := []) (hm _ _ rfl) ml_MM_532 d_MM_count2_153 rfl rfl (by dsimp only; omega) (by dsimp only; omega) (Nat.le_of_ble_eq_true rfl) (Nat.le_of_ble_eq_true rfl) (Nat.le_of_ble_eq_true rfl) ?_
                have hF : d2_5 + 1 ≤ F := by omega
                have hLo : 64 * d2_5 + 64 ≤ Lo := by omega
                refine ax_aload_n (pc := 156) C d_MM_count2_156 rfl 0 rfl ?_
                refine ax_aload_n (pc := 157) C d_MM_count2_157 rfl 0 rfl ?_
                refine mg_111 (pc := 158) C d_MM_count2_158 ?_
                refine ax_iload_n (pc := 161) C d_MM_count2_161 rfl 1 rfl ?_
                obtain ⟨hb, h⟩ := it_g h
                refine ml_32 (pc := 162) C d_MM_count2_162 (bin_in hb) ?_
                refine ax_iconst (pc := 163) C 1 d_MM_count2_163 (by decide +kernel) ?_
                obtain ⟨σ6, r6, d1_6, d2_6, h1, h, hd2, hd1⟩ := it_b h
                have hm : s_51 l D kA z v σ5 [(σ5.2.1 32 (Int32.toNatClampNeg x0)), 1] (σ6, r6, d1_6) := ih 51 _ _ _ h1
                refine mc_Vi (pc := 164) C (As := [.int (σ5.2.1 32 (Int32.toNatClampNeg x0)), .int 1]) (rest := [.int r5]) (hm _ _ rfl) ml_MM_532 d_MM_count2_164 rfl rfl (by dsimp only; omega) (by dsimp only; omega) (Nat.le_of_ble_eq_true rfl) (Nat.le_of_ble_eq_true rfl) (Nat.le_of_ble_eq_true rfl) ?_
                have hF : d2_6 + 1 ≤ F := by omega
                have hLo : 64 * d2_6 + 64 ≤ Lo := by omega
                refine ax_imul (pc := 167) C d_MM_count2_167 ?_
                obtain ⟨σ7, r7, d1_7, d2_7, h1, h, hd2, hd1⟩ := it_b h
                have hm : s_58 l D kA z v σ6 [((r5 : Int32) * r6)] (σ7, r7, d1_7) := ih 58 _ _ _ h1
                refine mc_Si (pc := 168) C (As := [.int ((r5 : Int32) * r6)]) (rest := []) (hm _ rfl) ml_MM_535 d_MM_count2_168 rfl rfl (by dsimp only; omega) (by dsimp only; omega) (Nat.le_of_ble_eq_true rfl) (Nat.le_of_ble_eq_true rfl) (Nat.le_of_ble_eq_true rfl) ?_
                have hF : d2_7 + 1 ≤ F := by omega
                have hLo : 64 * d2_7 + 64 ≤ Lo := by omega
                refine ax_goto (pc := 171) C 200 d_MM_count2_171 (by decide) ?_
                refine ax_ls ([(0, .ref z), (1, .int x0), (2, .int x1)]) [0, 1, 2] rfl ?_
                have hm : s_55 l D kA z v σ7 [x0, x1, r7] (σf, rf, _) := ih 55 _ _ _ h
                exact hm _ _ _ rfl p e s m args below meth c F Lo σ0 hF hLo C
            · have h := it_f hv h
              have hn4 : ¬ ((σ.2.1 30 (Int32.toNatClampNeg x0)) : Int32).toInt = 4 := fun q => hv (i32q (by rw [q]; rfl))
              have hv : ((σ.2.1 30 (Int32.toNatClampNeg x0)) : Int32) = 5 := i32q (by have e9 : (5 : Int32).toInt = 5 := rfl; omega)
              refine ax_tableIn (pc := 6) C 201 d_MM_count2_6 (by omega) (by omega) (by rw [hv]; rfl) (by decide) ?_
              refine ax_aload_n (pc := 201) C d_MM_count2_201 rfl 0 rfl ?_
              refine ax_aload_n (pc := 202) C d_MM_count2_202 rfl 0 rfl ?_
              refine mg_108 (pc := 203) C d_MM_count2_203 ?_
              refine ax_iload_n (pc := 206) C d_MM_count2_206 rfl 1 rfl ?_
              obtain ⟨hb, h⟩ := it_g h
              refine ml_31 (pc := 207) C d_MM_count2_207 (bin_in hb) ?_
              refine ax_iconst (pc := 208) C 1 d_MM_count2_208 (by decide +kernel) ?_
              obtain ⟨σ8, r8, d1_8, d2_8, h1, h, hd2, hd1⟩ := it_b h
              have hm : s_51 l D kA z v σ [(σ.2.1 31 (Int32.toNatClampNeg x0)), 1] (σ8, r8, d1_8) := ih 51 _ _ _ h1
              refine mc_Vi (pc := 209) C (As := [.int (σ.2.1 31 (Int32.toNatClampNeg x0)), .int 1]) (rest := []) (hm _ _ rfl) ml_MM_532 d_MM_count2_209 rfl rfl (by dsimp only; omega) (by dsimp only; omega) (Nat.le_of_ble_eq_true rfl) (Nat.le_of_ble_eq_true rfl) (Nat.le_of_ble_eq_true rfl) ?_
              have hF : d2_8 + 1 ≤ F := by omega
              have hLo : 64 * d2_8 + 64 ≤ Lo := by omega
              refine ax_istore_n (pc := 212) C d_MM_count2_212 rfl (Nat.le_of_ble_eq_true rfl) ([(3, .int r8), (0, .ref z), (1, .int x0), (2, .int x1)]) rfl ?_
              refine ax_aload_n (pc := 213) C d_MM_count2_213 rfl 1 rfl ?_
              refine ax_aload_n (pc := 214) C d_MM_count2_214 rfl 1 rfl ?_
              refine mg_111 (pc := 215) C d_MM_count2_215 ?_
              refine ax_iload_n (pc := 218) C d_MM_count2_218 rfl 2 rfl ?_
              obtain ⟨hb, h⟩ := it_g h
              refine ml_32 (pc := 219) C d_MM_count2_219 (bin_in hb) ?_
              refine ax_iconst (pc := 220) C 1 d_MM_count2_220 (by decide +kernel) ?_
              obtain ⟨σ9, r9, d1_9, d2_9, h1, h, hd2, hd1⟩ := it_b h
              have hm : s_51 l D kA z v σ8 [(σ8.2.1 32 (Int32.toNatClampNeg x0)), 1] (σ9, r9, d1_9) := ih 51 _ _ _ h1
              refine mc_Vi (pc := 221) C (As := [.int (σ8.2.1 32 (Int32.toNatClampNeg x0)), .int 1]) (rest := []) (hm _ _ rfl) ml_MM_532 d_MM_count2_221 rfl rfl (by dsimp only; omega) (by dsimp only; omega) (Nat.le_of_ble_eq_true rfl) (Nat.le_of_ble_eq_true rfl) (Nat.le_of_ble_eq_true rfl) ?_
              have hF : d2_9 + 1 ≤ F := by omega
              have hLo : 64 * d2_9 + 64 ≤ Lo := by omega
              refine ax_istore (pc := 224) C d_MM_count2_224 (Nat.le_of_ble_eq_true rfl) ([(4, .int r9), (3, .int r8), (0, .ref z), (1, .int x0), (2, .int x1)]) rfl ?_
              refine ax_iload_n (pc := 226) C d_MM_count2_226 rfl 1 rfl ?_
              refine ax_sipush (pc := 227) C 200 d_MM_count2_227 (by decide +kernel) ?_
              refine ax_icmp_gt (pc := 230) C 241 d_MM_count2_230 (by decide) (fun hc => ?_) (fun hc => ?_)
              · have h := it_t hc h
                refine ax_ls ([(0, .ref z), (1, .int x0), (2, .int x1), (3, .int r8), (4, .int r9)]) [2, 3, 4, 1, 0] rfl ?_
                have hm : s_56 l D kA z v σ9 [x0, x1, r8, r9] (σf, rf, _) := ih 56 _ _ _ h
                exact hm _ _ _ _ rfl p e s m args below meth c F Lo σ0 hF hLo C
              · have h := it_f hc h
                refine ax_iload (pc := 233) C d_MM_count2_233 0 rfl ?_
                refine ax_sipush (pc := 235) C 200 d_MM_count2_235 (by decide +kernel) ?_
                refine ax_icmp_le (pc := 238) C 245 d_MM_count2_238 (by decide) (fun hc => ?_) (fun hc => ?_)
                · have h := it_t hc h
                  refine ax_aload_n (pc := 245) C d_MM_count2_245 rfl 2 rfl ?_
                  refine ax_aload_n (pc := 246) C d_MM_count2_246 rfl 2 rfl ?_
                  refine mg_108 (pc := 247) C d_MM_count2_247 ?_
                  refine ax_iload_n (pc := 250) C d_MM_count2_250 rfl 3 rfl ?_
                  obtain ⟨hb, h⟩ := it_g h
                  refine ml_31 (pc := 251) C d_MM_count2_251 (bin_in hb) ?_
                  refine ax_iconst (pc := 252) C 0 d_MM_count2_252 (by decide +kernel) ?_
                  obtain ⟨σ10, r10, d1_10, d2_10, h1, h, hd2, hd1⟩ := it_b h
                  have hm : s_51 l D kA z v σ9 [(σ9.2.1 31 (Int32.toNatClampNeg x0)), 0] (σ10, r10, d1_10) := ih 51 _ _ _ h1
                  refine mc_Vi (pc := 253) C (As := [.int (σ9.2.1 31 (Int32.toNatClampNeg x0)), .int 0]) (rest := []) (hm _ _ rfl) ml_MM_532 d_MM_count2_253 rfl rfl (by dsimp only; omega) (by dsimp only; omega) (Nat.le_of_ble_eq_true rfl) (Nat.le_of_ble_eq_true rfl) (Nat.le_of_ble_eq_true rfl) ?_
                  have hF : d2_10 + 1 ≤ F := by omega
                  have hLo : 64 * d2_10 + 64 ≤ Lo := by omega
                  refine ax_istore (pc := 256) C d_MM_count2_256 (Nat.le_of_ble_eq_true rfl) ([(5, .int r10), (4, .int r9), (3, .int r8), (0, .ref z), (1, .int x0), (2, .int x1)]) rfl ?_
                  refine ax_aload_n (pc := 258) C d_MM_count2_258 rfl 3 rfl ?_
                  refine ax_aload_n (pc := 259) C d_MM_count2_259 rfl 3 rfl ?_
                  refine mg_111 (pc := 260) C d_MM_count2_260 ?_
                  refine ax_iload_n (pc := 263) C d_MM_count2_263 rfl 4 rfl ?_
                  obtain ⟨hb, h⟩ := it_g h
                  refine ml_32 (pc := 264) C d_MM_count2_264 (bin_in hb) ?_
                  refine ax_iconst (pc := 265) C 0 d_MM_count2_265 (by decide +kernel) ?_
                  obtain ⟨σ11, r11, d1_11, d2_11, h1, h, hd2, hd1⟩ := it_b h
                  have hm : s_51 l D kA z v σ10 [(σ10.2.1 32 (Int32.toNatClampNeg x0)), 0] (σ11, r11, d1_11) := ih 51 _ _ _ h1
                  refine mc_Vi (pc := 266) C (As := [.int (σ10.2.1 32 (Int32.toNatClampNeg x0)), .int 0]) (rest := []) (hm _ _ rfl) ml_MM_532 d_MM_count2_266 rfl rfl (by dsimp only; omega) (by dsimp only; omega) (Nat.le_of_ble_eq_true rfl) (Nat.le_of_ble_eq_true rfl) (Nat.le_of_ble_eq_true rfl) ?_
                  have hF : d2_11 + 1 ≤ F := by omega
                  have hLo : 64 * d2_11 + 64 ≤ Lo := by omega
                  refine ax_istore (pc := 269) C d_MM_count2_269 (Nat.le_of_ble_eq_true rfl) ([(6, .int r11), (5, .int r10), (4, .int r9), (3, .int r8), (0, .ref z), (1, .int x0), (2, .int x1)]) rfl ?_
                  refine ax_iload_n (pc := 271) C d_MM_count2_271 rfl 6 rfl ?_
                  refine ax_if_eq (pc := 272) C 291 d_MM_count2_272 (by decide) (fun hc => ?_) (fun hc => ?_)
                  · have h := it_t hc h
                    refine ax_iload_n (pc := 291) C d_MM_count2_291 rfl 3 rfl ?_
                    refine ax_iload (pc := 292) C d_MM_count2_292 2 rfl ?_
                    refine ax_imul (pc := 294) C d_MM_count2_294 ?_
                    refine ax_iload (pc := 295) C d_MM_count2_295 1 rfl ?_
                    refine ax_iload (pc := 297) C d_MM_count2_297 0 rfl ?_
                    refine ax_imul (pc := 299) C d_MM_count2_299 ?_
                    refine ax_iadd (pc := 300) C d_MM_count2_300 ?_
                    obtain ⟨σ12, r12, d1_12, d2_12, h1, h, hd2, hd1⟩ := it_b h
                    have hm : s_58 l D kA z v σ11 [((((r8 : Int32) * r9) : Int32) + ((r10 : Int32) * r11))] (σ12, r12, d1_12) := ih 58 _ _ _ h1
                    refine mc_Si (pc := 301) C (As := [.int ((((r8 : Int32) * r9) : Int32) + ((r10 : Int32) * r11))]) (rest := []) (hm _ rfl) ml_MM_535 d_MM_count2_301 rfl rfl (by dsimp only; omega) (by dsimp only; omega) (Nat.le_of_ble_eq_true rfl) (Nat.le_of_ble_eq_true rfl) (Nat.le_of_ble_eq_true rfl) ?_
                    have hF : d2_12 + 1 ≤ F := by omega
                    have hLo : 64 * d2_12 + 64 ≤ Lo := by omega
                    refine ax_ls ([(0, .ref z), (1, .int x0), (2, .int x1), (3, .int r8), (4, .int r9), (5, .int r10), (6, .int r11)]) [4, 5, 6, 3, 2, 1, 0] rfl ?_
                    have hm : s_57 l D kA z v σ12 [x0, x1, r8, r9, r10, r11, r12] (σf, rf, _) := ih 57 _ _ _ h
                    exact hm _ _ _ _ _ _ _ rfl p e s m args below meth c F Lo σ0 hF hLo C
                  · have h := it_f hc h
                    refine ax_iload (pc := 275) C d_MM_count2_275 1 rfl ?_
                    refine ax_iload (pc := 277) C d_MM_count2_277 2 rfl ?_
                    refine ax_imul (pc := 279) C d_MM_count2_279 ?_
                    refine ax_iload (pc := 280) C d_MM_count2_280 0 rfl ?_
                    refine ax_iload_n (pc := 282) C d_MM_count2_282 rfl 3 rfl ?_
                    refine ax_imul (pc := 283) C d_MM_count2_283 ?_
                    refine ax_iadd (pc := 284) C d_MM_count2_284 ?_
                    obtain ⟨σ13, r13, d1_13, d2_13, h1, h, hd2, hd1⟩ := it_b h
                    have hm : s_58 l D kA z v σ11 [((((r10 : Int32) * r9) : Int32) + ((r11 : Int32) * r8))] (σ13, r13, d1_13) := ih 58 _ _ _ h1
                    refine mc_Si (pc := 285) C (As := [.int ((((r10 : Int32) * r9) : Int32) + ((r11 : Int32) * r8))]) (rest := []) (hm _ rfl) ml_MM_535 d_MM_count2_285 rfl rfl (by dsimp only; omega) (by dsimp only; omega) (Nat.le_of_ble_eq_true rfl) (Nat.le_of_ble_eq_true rfl) (Nat.le_of_ble_eq_true rfl) ?_
                    have hF : d2_13 + 1 ≤ F := by omega
                    have hLo : 64 * d2_13 + 64 ≤ Lo := by omega
                    refine ax_goto (pc := 288) C 304 d_MM_count2_288 (by decide) ?_
                    refine ax_ls ([(0, .ref z), (1, .int x0), (2, .int x1), (3, .int r8), (4, .int r9), (5, .int r10), (6, .int r11)]) [4, 5, 6, 3, 2, 1, 0] rfl ?_
                    have hm : s_57 l D kA z v σ13 [x0, x1, r8, r9, r10, r11, r13] (σf, rf, _) := ih 57 _ _ _ h
                    exact hm _ _ _ _ _ _ _ rfl p e s m args below meth c F Lo σ0 hF hLo C
                · have h := it_f hc h
                  refine ax_ls ([(0, .ref z), (1, .int x0), (2, .int x1), (3, .int r8), (4, .int r9)]) [2, 3, 4, 1, 0] rfl ?_
                  have hm : s_56 l D kA z v σ9 [x0, x1, r8, r9] (σf, rf, _) := ih 56 _ _ _ h
                  exact hm _ _ _ _ rfl p e s m args below meth c F Lo σ0 hF hLo C
set_option maxHeartbeats 4000000 in
set_option maxRecDepth 100000 in
theorem o_52 (l : Launch) (D : va_G) (kA : Nat → ClassId) (z : Nat) (v : Nat → Nat) (rec : mF) (ih : ∀ t σ xs res, rec t σ xs = some res → mSem l D kA z v t σ xs res) (σ : mS) (xs : List Int32) (res : mR) (h : k_52 rec σ xs = some res) : s_52 l D kA z v σ xs res := by
  intro x0 x1 x2 x3 hxs
  subst hxs
  obtain ⟨σf, rf, dd⟩ := res
  have h : (bnd (rec 51 σ [x3, x2]) (fun σ1 r1 => some (σ1, r1, 0))) = some (σf, rf, dd) := h
  intro p e s m args below meth c F Lo σ0 hF hLo C
  dsimp only at hF hLo ⊢
  obtain ⟨σ1, r1, d1_1, d2_1, h1, h, hd2, hd1⟩ := it_b h
  have hm : s_51 l D kA z v σ [x3, x2] (σ1, r1, d1_1) := ih 51 _ _ _ h1
  refine mc_Vi (pc := 62) C (As := [.int x3, .int x2]) (rest := []) (hm _ _ rfl) ml_MM_532 d_MM_count2_62 rfl rfl (by dsimp only; omega) (by dsimp only; omega) (Nat.le_of_ble_eq_true rfl) (Nat.le_of_ble_eq_true rfl) (Nat.le_of_ble_eq_true rfl) ?_
  have hF : d2_1 + 1 ≤ F := by omega
  have hLo : 64 * d2_1 + 64 ≤ Lo := by omega
  cases h
  exact ax_iret (pc := 65) C d_MM_count2_65 ⟨rfl, rfl⟩ (Nat.le_refl _) (Nat.le_refl _)
set_option maxHeartbeats 4000000 in
set_option maxRecDepth 100000 in
theorem o_53 (l : Launch) (D : va_G) (kA : Nat → ClassId) (z : Nat) (v : Nat → Nat) (rec : mF) (ih : ∀ t σ xs res, rec t σ xs = some res → mSem l D kA z v t σ xs res) (σ : mS) (xs : List Int32) (res : mR) (h : k_53 rec σ xs = some res) : s_53 l D kA z v σ xs res := by
  intro x0 x1 x2 hxs
  subst hxs
  obtain ⟨σf, rf, dd⟩ := res
  have h : (if x2 = x1 then (if bin x0 20100 = true then (bnd (rec 51 σ [(σ.2.1 31 (Int32.toNatClampNeg x0)), x1]) (fun σ4 r4 => if bin x0 20100 = true then (bnd (rec 51 σ4 [(σ4.2.1 32 (Int32.toNatClampNeg x0)), x1]) (fun σ5 r5 => bnd (rec 58 σ5 [((r4 : Int32) + r5)]) (fun σ6 r6 => rec 54 σ6 [x0, x1, r6]))) else none)) else none) else (if bin x0 20100 = true then (bnd (rec 51 σ [(σ.2.1 31 (Int32.toNatClampNeg x0)), x1]) (fun σ1 r1 => if bin x0 20100 = true then (bnd (rec 51 σ1 [(σ1.2.1 32 (Int32.toNatClampNeg x0)), x1]) (fun σ2 r2 => bnd (rec 58 σ2 [((r1 : Int32) * r2)]) (fun σ3 r3 => rec 54 σ3 [x0, x1, r3]))) else none)) else none)) = some (σf, rf, dd) := h
  intro p e s m args below meth c F Lo σ0 hF hLo C
  dsimp only at hF hLo ⊢
  refine ax_iload_n (pc := 81) C d_MM_count2_81 rfl 2 rfl ?_
  refine ax_icmp_ne (pc := 82) C 114 d_MM_count2_82 (by decide) (fun hc => ?_) (fun hc => ?_)
  · have h := it_f hc h
    refine ax_aload_n (pc := 114) C d_MM_count2_114 rfl 0 rfl ?_
    refine ax_aload_n (pc := 115) C d_MM_count2_115 rfl 0 rfl ?_
    refine mg_108 (pc := 116) C d_MM_count2_116 ?_
    refine ax_iload_n (pc := 119) C d_MM_count2_119 rfl 1 rfl ?_
    obtain ⟨hb, h⟩ := it_g h
    refine ml_31 (pc := 120) C d_MM_count2_120 (bin_in hb) ?_
    refine ax_iload_n (pc := 121) C d_MM_count2_121 rfl 2 rfl ?_
    obtain ⟨σ1, r1, d1_1, d2_1, h1, h, hd2, hd1⟩ := it_b h
    have hm : s_51 l D kA z v σ [(σ.2.1 31 (Int32.toNatClampNeg x0)), x1] (σ1, r1, d1_1) := ih 51 _ _ _ h1
    refine mc_Vi (pc := 122) C (As := [.int (σ.2.1 31 (Int32.toNatClampNeg x0)), .int x1]) (rest := []) (hm _ _ rfl) ml_MM_532 d_MM_count2_122 rfl rfl (by dsimp only; omega) (by dsimp only; omega) (Nat.le_of_ble_eq_true rfl) (Nat.le_of_ble_eq_true rfl) (Nat.le_of_ble_eq_true rfl) ?_
    have hF : d2_1 + 1 ≤ F := by omega
    have hLo : 64 * d2_1 + 64 ≤ Lo := by omega
    refine ax_aload_n (pc := 125) C d_MM_count2_125 rfl 0 rfl ?_
    refine ax_aload_n (pc := 126) C d_MM_count2_126 rfl 0 rfl ?_
    refine mg_111 (pc := 127) C d_MM_count2_127 ?_
    refine ax_iload_n (pc := 130) C d_MM_count2_130 rfl 1 rfl ?_
    obtain ⟨hb, h⟩ := it_g h
    refine ml_32 (pc := 131) C d_MM_count2_131 (bin_in hb) ?_
    refine ax_iload_n (pc := 132) C d_MM_count2_132 rfl 2 rfl ?_
    obtain ⟨σ2, r2, d1_2, d2_2, h1, h, hd2, hd1⟩ := it_b h
    have hm : s_51 l D kA z v σ1 [(σ1.2.1 32 (Int32.toNatClampNeg x0)), x1] (σ2, r2, d1_2) := ih 51 _ _ _ h1
    refine mc_Vi (pc := 133) C (As := [.int (σ1.2.1 32 (Int32.toNatClampNeg x0)), .int x1]) (rest := [.int r1]) (hm _ _ rfl) ml_MM_532 d_MM_count2_133 rfl rfl (by dsimp only; omega) (by dsimp only; omega) (Nat.le_of_ble_eq_true rfl) (Nat.le_of_ble_eq_true rfl) (Nat.le_of_ble_eq_true rfl) ?_
    have hF : d2_2 + 1 ≤ F := by omega
    have hLo : 64 * d2_2 + 64 ≤ Lo := by omega
    refine ax_imul (pc := 136) C d_MM_count2_136 ?_
    obtain ⟨σ3, r3, d1_3, d2_3, h1, h, hd2, hd1⟩ := it_b h
    have hm : s_58 l D kA z v σ2 [((r1 : Int32) * r2)] (σ3, r3, d1_3) := ih 58 _ _ _ h1
    refine mc_Si (pc := 137) C (As := [.int ((r1 : Int32) * r2)]) (rest := []) (hm _ rfl) ml_MM_535 d_MM_count2_137 rfl rfl (by dsimp only; omega) (by dsimp only; omega) (Nat.le_of_ble_eq_true rfl) (Nat.le_of_ble_eq_true rfl) (Nat.le_of_ble_eq_true rfl) ?_
    have hF : d2_3 + 1 ≤ F := by omega
    have hLo : 64 * d2_3 + 64 ≤ Lo := by omega
    refine ax_ls ([(0, .ref z), (1, .int x0), (2, .int x1)]) [0, 1, 2] rfl ?_
    have hm : s_54 l D kA z v σ3 [x0, x1, r3] (σf, rf, _) := ih 54 _ _ _ h
    exact hm _ _ _ rfl p e s m args below meth c F Lo σ0 hF hLo C
  · have h := it_t hc h
    refine ax_aload_n (pc := 85) C d_MM_count2_85 rfl 0 rfl ?_
    refine ax_aload_n (pc := 86) C d_MM_count2_86 rfl 0 rfl ?_
    refine mg_108 (pc := 87) C d_MM_count2_87 ?_
    refine ax_iload_n (pc := 90) C d_MM_count2_90 rfl 1 rfl ?_
    obtain ⟨hb, h⟩ := it_g h
    refine ml_31 (pc := 91) C d_MM_count2_91 (bin_in hb) ?_
    refine ax_iload_n (pc := 92) C d_MM_count2_92 rfl 2 rfl ?_
    obtain ⟨σ4, r4, d1_4, d2_4, h1, h, hd2, hd1⟩ := it_b h
    have hm : s_51 l D kA z v σ [(σ.2.1 31 (Int32.toNatClampNeg x0)), x1] (σ4, r4, d1_4) := ih 51 _ _ _ h1
    refine mc_Vi (pc := 93) C (As := [.int (σ.2.1 31 (Int32.toNatClampNeg x0)), .int x1]) (rest := []) (hm _ _ rfl) ml_MM_532 d_MM_count2_93 rfl rfl (by dsimp only; omega) (by dsimp only; omega) (Nat.le_of_ble_eq_true rfl) (Nat.le_of_ble_eq_true rfl) (Nat.le_of_ble_eq_true rfl) ?_
    have hF : d2_4 + 1 ≤ F := by omega
    have hLo : 64 * d2_4 + 64 ≤ Lo := by omega
    refine ax_aload_n (pc := 96) C d_MM_count2_96 rfl 0 rfl ?_
    refine ax_aload_n (pc := 97) C d_MM_count2_97 rfl 0 rfl ?_
    refine mg_111 (pc := 98) C d_MM_count2_98 ?_
    refine ax_iload_n (pc := 101) C d_MM_count2_101 rfl 1 rfl ?_
    obtain ⟨hb, h⟩ := it_g h
    refine ml_32 (pc := 102) C d_MM_count2_102 (bin_in hb) ?_
    refine ax_iload_n (pc := 103) C d_MM_count2_103 rfl 2 rfl ?_
    obtain ⟨σ5, r5, d1_5, d2_5, h1, h, hd2, hd1⟩ := it_b h
    have hm : s_51 l D kA z v σ4 [(σ4.2.1 32 (Int32.toNatClampNeg x0)), x1] (σ5, r5, d1_5) := ih 51 _ _ _ h1
    refine mc_Vi (pc := 104) C (As := [.int (σ4.2.1 32 (Int32.toNatClampNeg x0)), .int x1]) (rest := [.int r4]) (hm _ _ rfl) ml_MM_532 d_MM_count2_104 rfl rfl (by dsimp only; omega) (by dsimp only; omega) (Nat.le_of_ble_eq_true rfl) (Nat.le_of_ble_eq_true rfl) (Nat.le_of_ble_eq_true rfl) ?_
    have hF : d2_5 + 1 ≤ F := by omega
    have hLo : 64 * d2_5 + 64 ≤ Lo := by omega
    refine ax_iadd (pc := 107) C d_MM_count2_107 ?_
    obtain ⟨σ6, r6, d1_6, d2_6, h1, h, hd2, hd1⟩ := it_b h
    have hm : s_58 l D kA z v σ5 [((r4 : Int32) + r5)] (σ6, r6, d1_6) := ih 58 _ _ _ h1
    refine mc_Si (pc := 108) C (As := [.int ((r4 : Int32) + r5)]) (rest := []) (hm _ rfl) ml_MM_535 d_MM_count2_108 rfl rfl (by dsimp only; omega) (by dsimp only; omega) (Nat.le_of_ble_eq_true rfl) (Nat.le_of_ble_eq_true rfl) (Nat.le_of_ble_eq_true rfl) ?_
    have hF : d2_6 + 1 ≤ F := by omega
    have hLo : 64 * d2_6 + 64 ≤ Lo := by omega
    refine ax_goto (pc := 111) C 140 d_MM_count2_111 (by decide) ?_
    refine ax_ls ([(0, .ref z), (1, .int x0), (2, .int x1)]) [0, 1, 2] rfl ?_
    have hm : s_54 l D kA z v σ6 [x0, x1, r6] (σf, rf, _) := ih 54 _ _ _ h
    exact hm _ _ _ rfl p e s m args below meth c F Lo σ0 hF hLo C
set_option maxHeartbeats 4000000 in
set_option maxRecDepth 100000 in
theorem o_54 (l : Launch) (D : va_G) (kA : Nat → ClassId) (z : Nat) (v : Nat → Nat) (rec : mF) (ih : ∀ t σ xs res, rec t σ xs = some res → mSem l D kA z v t σ xs res) (σ : mS) (xs : List Int32) (res : mR) (h : k_54 rec σ xs = some res) : s_54 l D kA z v σ xs res := by
  intro x0 x1 x2 hxs
  subst hxs
  obtain ⟨σf, rf, dd⟩ := res
  have h : (some (σ, x2, 0)) = some (σf, rf, dd) := h
  intro p e s m args below meth c F Lo σ0 hF hLo C
  dsimp only at hF hLo ⊢
  cases h
  exact ax_iret (pc := 140) C d_MM_count2_140 ⟨rfl, rfl⟩ (Nat.le_refl _) (Nat.le_refl _)
set_option maxHeartbeats 4000000 in
set_option maxRecDepth 100000 in
theorem o_55 (l : Launch) (D : va_G) (kA : Nat → ClassId) (z : Nat) (v : Nat → Nat) (rec : mF) (ih : ∀ t σ xs res, rec t σ xs = some res → mSem l D kA z v t σ xs res) (σ : mS) (xs : List Int32) (res : mR) (h : k_55 rec σ xs = some res) : s_55 l D kA z v σ xs res := by
  intro x0 x1 x2 hxs
  subst hxs
  obtain ⟨σf, rf, dd⟩ := res
  have h : (some (σ, x2, 0)) = some (σf, rf, dd) := h
  intro p e s m args below meth c F Lo σ0 hF hLo C
  dsimp only at hF hLo ⊢
  cases h
  exact ax_iret (pc := 200) C d_MM_count2_200 ⟨rfl, rfl⟩ (Nat.le_refl _) (Nat.le_refl _)
set_option maxHeartbeats 4000000 in
set_option maxRecDepth 100000 in
theorem o_56 (l : Launch) (D : va_G) (kA : Nat → ClassId) (z : Nat) (v : Nat → Nat) (rec : mF) (ih : ∀ t σ xs res, rec t σ xs = some res → mSem l D kA z v t σ xs res) (σ : mS) (xs : List Int32) (res : mR) (h : k_56 rec σ xs = some res) : s_56 l D kA z v σ xs res := by
  intro x0 x1 x2 x3 hxs
  subst hxs
  obtain ⟨σf, rf, dd⟩ := res
  have h : (some (σ, 201, 0)) = some (σf, rf, dd) := h
  intro p e s m args below meth c F Lo σ0 hF hLo C
  dsimp only at hF hLo ⊢
  refine ax_sipush (pc := 241) C 201 d_MM_count2_241 (by decide +kernel) ?_
  cases h
  exact ax_iret (pc := 244) C d_MM_count2_244 ⟨rfl, rfl⟩ (Nat.le_refl _) (Nat.le_refl _)
set_option maxHeartbeats 4000000 in
set_option maxRecDepth 100000 in
theorem o_57 (l : Launch) (D : va_G) (kA : Nat → ClassId) (z : Nat) (v : Nat → Nat) (rec : mF) (ih : ∀ t σ xs res, rec t σ xs = some res → mSem l D kA z v t σ xs res) (σ : mS) (xs : List Int32) (res : mR) (h : k_57 rec σ xs = some res) : s_57 l D kA z v σ xs res := by
  intro x0 x1 x2 x3 x4 x5 x6 hxs
  subst hxs
  obtain ⟨σf, rf, dd⟩ := res
  have h : (some (σ, x6, 0)) = some (σf, rf, dd) := h
  intro p e s m args below meth c F Lo σ0 hF hLo C
  dsimp only at hF hLo ⊢
  cases h
  exact ax_iret (pc := 304) C d_MM_count2_304 ⟨rfl, rfl⟩ (Nat.le_refl _) (Nat.le_refl _)
set_option maxHeartbeats 4000000 in
set_option maxRecDepth 100000 in
theorem o_58 (l : Launch) (D : va_G) (kA : Nat → ClassId) (z : Nat) (v : Nat → Nat) (rec : mF) (ih : ∀ t σ xs res, rec t σ xs = some res → mSem l D kA z v t σ xs res) (σ : mS) (xs : List Int32) (res : mR) (h : k_58 rec σ xs = some res) : s_58 l D kA z v σ xs res := by
  intro x0 hxs
  subst hxs
  obtain ⟨σf, rf, dd⟩ := res
  have h : (some (σ, (if x0 < 201 then x0 else 201), 0)) = some (σf, rf, dd) := h
  refine ax_Mi.of (by decide +kernel) (Nat.le_of_ble_eq_true rfl) ?_
  intro p e s m args below meth c C hnm
  have C : ax_C p s m args meth c b_MM_capped "ClauseProverModel" 1 (some .int) D kA (va_A (mmW kA z v σ) s.heap.size) := C
  obtain ⟨F, hFe⟩ : ∃ F, F = dd + 1 := ⟨_, rfl⟩
  obtain ⟨Lo, hLoe⟩ : ∃ Lo, Lo = 64 * dd + 64 := ⟨_, rfl⟩
  obtain ⟨σ0, hσ0⟩ : ∃ s0, s0 = σ := ⟨_, rfl⟩
  suffices K : AW p l e { frames := F, cells := 0, slots := 0, locals := Lo } s m args below meth c D kA (va_A (mmW kA z v σ0) s.heap.size) 1 (ax_Qi below args s D kA (mmW kA z v σ0) 0 0 (fun r w1 => r = rf ∧ w1 = mmW kA z v σf)) 0 [(0, .int x0)] [] (mmW kA z v σ) 0 0 by rw [hFe, hLoe, hσ0] at K; exact ax_ls ([(0, .int x0)]) [0] rfl K
  have C : ax_C p s m args meth c b_MM_capped "ClauseProverModel" 1 (some .int) D kA (va_A (mmW kA z v σ0) s.heap.size) := by rw [hσ0]; exact C
  have hF : dd + 1 ≤ F := by omega
  have hLo : 64 * dd + 64 ≤ Lo := by omega
  clear hFe hLoe hσ0
  refine ax_sipush (pc := 0) C 201 d_MM_capped_0 (by decide +kernel) ?_
  refine ax_iload_n (pc := 3) C d_MM_capped_3 rfl 0 rfl ?_
  refine mx_min (pc := 4) C tb_methodLink_2100 tb_static_610 tb_initialized_19 tcm_min d_MM_capped_4 hF (Nat.le_of_ble_eq_true rfl) ?_
  cases h
  exact ax_iret (pc := 7) C d_MM_capped_7 ⟨rfl, rfl⟩ (Nat.le_refl _) (Nat.le_refl _)
set_option maxHeartbeats 4000000 in
set_option maxRecDepth 100000 in
theorem o_59 (l : Launch) (D : va_G) (kA : Nat → ClassId) (z : Nat) (v : Nat → Nat) (rec : mF) (ih : ∀ t σ xs res, rec t σ xs = some res → mSem l D kA z v t σ xs res) (σ : mS) (xs : List Int32) (res : mR) (h : k_59 rec σ xs = some res) : s_59 l D kA z v σ xs res := by
  intro x0 x1 hxs
  subst hxs
  obtain ⟨σf, rf, dd⟩ := res
  have h : (if x1 = 0 then (rec 60 σ [x0, x1, 1, 0]) else (rec 61 σ [x0, x1, 1])) = some (σf, rf, dd) := h
  refine ax_Mv.of (by decide +kernel) (Nat.le_of_ble_eq_true rfl) ?_
  intro p e s m args below meth c C hnm
  have C : ax_C p s m args meth c b_MM_bind2 "ClauseProverModel" 5 none D kA (va_A (mmW kA z v σ) s.heap.size) := C
  obtain ⟨F, hFe⟩ : ∃ F, F = dd + 1 := ⟨_, rfl⟩
  obtain ⟨Lo, hLoe⟩ : ∃ Lo, Lo = 64 * dd + 64 := ⟨_, rfl⟩
  obtain ⟨σ0, hσ0⟩ : ∃ s0, s0 = σ := ⟨_, rfl⟩
  suffices K : AW p l e { frames := F, cells := 0, slots := 0, locals := Lo } s m args below meth c D kA (va_A (mmW kA z v σ0) s.heap.size) 5 (ax_Qv below args s D kA (mmW kA z v σ0) 0 0 (fun w1 => w1 = mmW kA z v σf)) 0 [(0, .ref z), (1, .int x0), (2, .int x1)] [] (mmW kA z v σ) 0 0 by rw [hFe, hLoe, hσ0] at K; exact ax_ls ([(0, .ref z), (1, .int x0), (2, .int x1)]) [0, 1, 2] rfl K
  have C : ax_C p s m args meth c b_MM_bind2 "ClauseProverModel" 5 none D kA (va_A (mmW kA z v σ0) s.heap.size) := by rw [hσ0]; exact C
  have hF : dd + 1 ≤ F := by omega
  have hLo : 64 * dd + 64 ≤ Lo := by omega
  clear hFe hLoe hσ0
  refine ax_iconst (pc := 0) C 1 d_MM_bind2_0 (by decide +kernel) ?_
  refine ax_istore_n (pc := 1) C d_MM_bind2_1 rfl (Nat.le_of_ble_eq_true rfl) ([(3, .int 1), (0, .ref z), (1, .int x0), (2, .int x1)]) rfl ?_
  refine ax_iload_n (pc := 2) C d_MM_bind2_2 rfl 3 rfl ?_
  refine ax_if_ne (pc := 3) C 40 d_MM_bind2_3 (by decide) (fun hc => ?_) (fun hc => ?_)
  · have h := it_f hc h
    refine ax_ls ([(0, .ref z), (1, .int x0), (2, .int x1), (3, .int 1)]) [1, 2, 3, 0] rfl ?_
    have hm : s_61 l D kA z v σ [x0, x1, 1] (σf, rf, _) := ih 61 _ _ _ h
    exact hm _ _ _ rfl p e s m args below meth c F Lo σ0 hF hLo C
  · have h := it_t hc h
    refine ax_iconst (pc := 6) C 0 d_MM_bind2_6 (by decide +kernel) ?_
    refine ax_istore (pc := 7) C d_MM_bind2_7 (Nat.le_of_ble_eq_true rfl) ([(4, .int 0), (3, .int 1), (0, .ref z), (1, .int x0), (2, .int x1)]) rfl ?_
    refine ax_ls ([(0, .ref z), (1, .int x0), (2, .int x1), (3, .int 1), (4, .int 0)]) [2, 3, 4, 1, 0] rfl ?_
    have hm : s_60 l D kA z v σ [x0, x1, 1, 0] (σf, rf, _) := ih 60 _ _ _ h
    exact hm _ _ _ _ rfl p e s m args below meth c F Lo σ0 hF hLo C
set_option maxHeartbeats 4000000 in
set_option maxRecDepth 100000 in
theorem o_60 (l : Launch) (D : va_G) (kA : Nat → ClassId) (z : Nat) (v : Nat → Nat) (rec : mF) (ih : ∀ t σ xs res, rec t σ xs = some res → mSem l D kA z v t σ xs res) (σ : mS) (xs : List Int32) (res : mR) (h : k_60 rec σ xs = some res) : s_60 l D kA z v σ xs res := by
  intro x0 x1 x2 x3 hxs
  subst hxs
  obtain ⟨σf, rf, dd⟩ := res
  have h : (if (σ.1 62) ≤ x3 then (rec 61 σ [x0, x1, x2]) else (if bin x3 300 = true then (rec 60 σ [x0, x1, (if ((x2 : Int32) + (σ.2.1 60 (Int32.toNatClampNeg x3))) < 1000 then ((x2 : Int32) + (σ.2.1 60 (Int32.toNatClampNeg x3))) else 1000), (x3 + 1)]) else none)) = some (σf, rf, dd) := h
  intro p e s m args below meth c F Lo σ0 hF hLo C
  dsimp only at hF hLo ⊢
  refine ax_iload (pc := 9) C d_MM_bind2_9 4 rfl ?_
  refine ax_aload_n (pc := 11) C d_MM_bind2_11 rfl 0 rfl ?_
  refine mg_202 (pc := 12) C d_MM_bind2_12 ?_
  refine ax_icmp_ge (pc := 15) C 40 d_MM_bind2_15 (by decide) (fun hc => ?_) (fun hc => ?_)
  · have h := it_t hc h
    refine ax_ls ([(0, .ref z), (1, .int x0), (2, .int x1), (3, .int x2)]) [0, 1, 2, 3] rfl ?_
    have hm : s_61 l D kA z v σ [x0, x1, x2] (σf, rf, _) := ih 61 _ _ _ h
    exact hm _ _ _ rfl p e s m args below meth c F Lo σ0 hF hLo C
  · have h := it_f hc h
    refine ax_sipush (pc := 18) C 1000 d_MM_bind2_18 (by decide +kernel) ?_
    refine ax_iload_n (pc := 21) C d_MM_bind2_21 rfl 3 rfl ?_
    refine ax_aload_n (pc := 22) C d_MM_bind2_22 rfl 0 rfl ?_
    refine mg_196 (pc := 23) C d_MM_bind2_23 ?_
    refine ax_iload (pc := 26) C d_MM_bind2_26 4 rfl ?_
    obtain ⟨hb, h⟩ := it_g h
    refine ml_60 (pc := 28) C d_MM_bind2_28 (bin_in hb) ?_
    refine ax_iadd (pc := 29) C d_MM_bind2_29 ?_
    refine mx_min (pc := 30) C tb_methodLink_2100 tb_static_610 tb_initialized_19 tcm_min d_MM_bind2_30 hF (Nat.le_of_ble_eq_true rfl) ?_
    refine ax_istore_n (pc := 33) C d_MM_bind2_33 rfl (Nat.le_of_ble_eq_true rfl) ([(3, .int (if ((x2 : Int32) + (σ.2.1 60 (Int32.toNatClampNeg x3))) < 1000 then ((x2 : Int32) + (σ.2.1 60 (Int32.toNatClampNeg x3))) else 1000)), (0, .ref z), (1, .int x0), (2, .int x1), (4, .int x3)]) rfl ?_
    refine ax_iinc (pc := 34) C (x3 + 1) d_MM_bind2_34 4 rfl rfl (Nat.le_of_ble_eq_true rfl) ([(4, .int (x3 + 1)), (3, .int (if ((x2 : Int32) + (σ.2.1 60 (Int32.toNatClampNeg x3))) < 1000 then ((x2 : Int32) + (σ.2.1 60 (Int32.toNatClampNeg x3))) else 1000)), (0, .ref z), (1, .int x0), (2, .int x1)]) rfl ?_
    refine ax_goto (pc := 37) C 9 d_MM_bind2_37 (by decide) ?_
    refine ax_ls ([(0, .ref z), (1, .int x0), (2, .int x1), (3, .int (if ((x2 : Int32) + (σ.2.1 60 (Int32.toNatClampNeg x3))) < 1000 then ((x2 : Int32) + (σ.2.1 60 (Int32.toNatClampNeg x3))) else 1000)), (4, .int (x3 + 1))]) [2, 3, 4, 1, 0] rfl ?_
    have hm : s_60 l D kA z v σ [x0, x1, (if ((x2 : Int32) + (σ.2.1 60 (Int32.toNatClampNeg x3))) < 1000 then ((x2 : Int32) + (σ.2.1 60 (Int32.toNatClampNeg x3))) else 1000), (x3 + 1)] (σf, rf, _) := ih 60 _ _ _ h
    exact hm _ _ _ _ rfl p e s m args below meth c F Lo σ0 hF hLo C
set_option maxHeartbeats 4000000 in
set_option maxRecDepth 100000 in
theorem o_61 (l : Launch) (D : va_G) (kA : Nat → ClassId) (z : Nat) (v : Nat → Nat) (rec : mF) (ih : ∀ t σ xs res, rec t σ xs = some res → mSem l D kA z v t σ xs res) (σ : mS) (xs : List Int32) (res : mR) (h : k_61 rec σ xs = some res) : s_61 l D kA z v σ xs res := by
  intro x0 x1 x2 hxs
  subst hxs
  obtain ⟨σf, rf, dd⟩ := res
  have h : (if x1 = 0 then (rec 62 σ [x0, x1, x2, (σ.1 62), x0]) else (rec 62 σ [x0, x1, x2, (-1), x0])) = some (σf, rf, dd) := h
  intro p e s m args below meth c F Lo σ0 hF hLo C
  dsimp only at hF hLo ⊢
  refine ax_aload_n (pc := 40) C d_MM_bind2_40 rfl 0 rfl ?_
  refine mg_199 (pc := 41) C d_MM_bind2_41 ?_
  refine ax_iload_n (pc := 44) C d_MM_bind2_44 rfl 1 rfl ?_
  refine ax_iload_n (pc := 45) C d_MM_bind2_45 rfl 2 rfl ?_
  refine ax_if_eq (pc := 46) C 53 d_MM_bind2_46 (by decide) (fun hc => ?_) (fun hc => ?_)
  · have h := it_t hc h
    refine ax_aload_n (pc := 53) C d_MM_bind2_53 rfl 0 rfl ?_
    refine mg_202 (pc := 54) C d_MM_bind2_54 ?_
    refine ax_ls ([(0, .ref z), (1, .int x0), (2, .int x1), (3, .int x2)]) [0, 1, 2, 3] rfl ?_
    have hm : s_62 l D kA z v σ [x0, x1, x2, (σ.1 62), x0] (σf, rf, _) := ih 62 _ _ _ h
    exact hm _ _ _ _ _ rfl p e s m args below meth c F Lo σ0 hF hLo C
  · have h := it_f hc h
    refine ax_iconst (pc := 49) C (-1) d_MM_bind2_49 (by decide +kernel) ?_
    refine ax_goto (pc := 50) C 57 d_MM_bind2_50 (by decide) ?_
    refine ax_ls ([(0, .ref z), (1, .int x0), (2, .int x1), (3, .int x2)]) [0, 1, 2, 3] rfl ?_
    have hm : s_62 l D kA z v σ [x0, x1, x2, (-1), x0] (σf, rf, _) := ih 62 _ _ _ h
    exact hm _ _ _ _ _ rfl p e s m args below meth c F Lo σ0 hF hLo C
set_option maxHeartbeats 4000000 in
set_option maxRecDepth 100000 in
theorem o_62 (l : Launch) (D : va_G) (kA : Nat → ClassId) (z : Nat) (v : Nat → Nat) (rec : mF) (ih : ∀ t σ xs res, rec t σ xs = some res → mSem l D kA z v t σ xs res) (σ : mS) (xs : List Int32) (res : mR) (h : k_62 rec σ xs = some res) : s_62 l D kA z v σ xs res := by
  intro x0 x1 x2 x3 x4 hxs
  subst hxs
  obtain ⟨σf, rf, dd⟩ := res
  have h : (if bin x4 300 = true then (lt_ (mA σ 61 (Int32.toNatClampNeg x4) x3) (fun σ1 => if bin (σ1.1 62) 300 = true then (lt_ (mA σ1 60 (Int32.toNatClampNeg (σ1.1 62)) x2) (fun σ2 => lt_ (mI σ2 62 (((σ2.1 62) : Int32) + 1)) (fun σ3 => if bin (σ2.1 62) 300 = true then (lt_ (mA σ3 59 (Int32.toNatClampNeg (σ2.1 62)) x0) (fun σ4 => some (σ4, 0, 0))) else none))) else none)) else none) = some (σf, rf, dd) := h
  intro p e s m args below meth c F Lo σ0 hF hLo C
  dsimp only at hF hLo ⊢
  obtain ⟨hb, h⟩ := it_g h
  refine ms_61 (pc := 57) C d_MM_bind2_57 (bin_in hb) ?_
  have h := it_l h
  generalize mA σ 61 (Int32.toNatClampNeg x4) x3 = σ1 at h ⊢
  refine ax_aload_n (pc := 58) C d_MM_bind2_58 rfl 0 rfl ?_
  refine mg_196 (pc := 59) C d_MM_bind2_59 ?_
  refine ax_aload_n (pc := 62) C d_MM_bind2_62 rfl 0 rfl ?_
  refine mg_202 (pc := 63) C d_MM_bind2_63 ?_
  refine ax_iload_n (pc := 66) C d_MM_bind2_66 rfl 3 rfl ?_
  obtain ⟨hb, h⟩ := it_g h
  refine ms_60 (pc := 67) C d_MM_bind2_67 (bin_in hb) ?_
  have h := it_l h
  generalize mA σ1 60 (Int32.toNatClampNeg (σ1.1 62)) x2 = σ2 at h ⊢
  refine ax_aload_n (pc := 68) C d_MM_bind2_68 rfl 0 rfl ?_
  refine mg_193 (pc := 69) C d_MM_bind2_69 ?_
  refine ax_aload_n (pc := 72) C d_MM_bind2_72 rfl 0 rfl ?_
  refine ax_dup (pc := 73) C d_MM_bind2_73 rfl ?_
  refine mg_202 (pc := 74) C d_MM_bind2_74 ?_
  refine ax_dup_x1 (pc := 77) C d_MM_bind2_77 rfl rfl ?_
  refine ax_iconst (pc := 78) C 1 d_MM_bind2_78 (by decide +kernel) ?_
  refine ax_iadd (pc := 79) C d_MM_bind2_79 ?_
  refine mp_202 (pc := 80) C d_MM_bind2_80 ?_
  have h := it_l h
  generalize mI σ2 62 (((σ2.1 62) : Int32) + 1) = σ3 at h ⊢
  refine ax_iload_n (pc := 83) C d_MM_bind2_83 rfl 1 rfl ?_
  obtain ⟨hb, h⟩ := it_g h
  refine ms_59 (pc := 84) C d_MM_bind2_84 (bin_in hb) ?_
  have h := it_l h
  generalize mA σ3 59 (Int32.toNatClampNeg (σ2.1 62)) x0 = σ4 at h ⊢
  cases h
  exact ax_vret (pc := 85) C d_MM_bind2_85 rfl (Nat.le_refl _) (Nat.le_refl _)
set_option maxHeartbeats 4000000 in
set_option maxRecDepth 100000 in
theorem o_63 (l : Launch) (D : va_G) (kA : Nat → ClassId) (z : Nat) (v : Nat → Nat) (rec : mF) (ih : ∀ t σ xs res, rec t σ xs = some res → mSem l D kA z v t σ xs res) (σ : mS) (xs : List Int32) (res : mR) (h : k_63 rec σ xs = some res) : s_63 l D kA z v σ xs res := by
  intro x0 hxs
  subst hxs
  obtain ⟨σf, rf, dd⟩ := res
  have h : (if bin x0 20100 = true then (if 0 ≤ (σ.2.1 34 (Int32.toNatClampNeg x0)) then (if bin x0 20100 = true then (rec 65 σ [x0, 1, (σ.2.1 35 (Int32.toNatClampNeg x0))]) else none) else (rec 64 σ [x0, 0])) else none) = some (σf, rf, dd) := h
  refine ax_Mi.of (by decide +kernel) (Nat.le_of_ble_eq_true rfl) ?_
  intro p e s m args below meth c C hnm
  have C : ax_C p s m args meth c b_MM_weightOf "ClauseProverModel" 4 (some .int) D kA (va_A (mmW kA z v σ) s.heap.size) := C
  obtain ⟨F, hFe⟩ : ∃ F, F = dd + 1 := ⟨_, rfl⟩
  obtain ⟨Lo, hLoe⟩ : ∃ Lo, Lo = 64 * dd + 64 := ⟨_, rfl⟩
  obtain ⟨σ0, hσ0⟩ : ∃ s0, s0 = σ := ⟨_, rfl⟩
  suffices K : AW p l e { frames := F, cells := 0, slots := 0, locals := Lo } s m args below meth c D kA (va_A (mmW kA z v σ0) s.heap.size) 4 (ax_Qi below args s D kA (mmW kA z v σ0) 0 0 (fun r w1 => r = rf ∧ w1 = mmW kA z v σf)) 0 [(0, .ref z), (1, .int x0)] [] (mmW kA z v σ) 0 0 by rw [hFe, hLoe, hσ0] at K; exact ax_ls ([(0, .ref z), (1, .int x0)]) [0, 1] rfl K
  have C : ax_C p s m args meth c b_MM_weightOf "ClauseProverModel" 4 (some .int) D kA (va_A (mmW kA z v σ0) s.heap.size) := by rw [hσ0]; exact C
  have hF : dd + 1 ≤ F := by omega
  have hLo : 64 * dd + 64 ≤ Lo := by omega
  clear hFe hLoe hσ0
  refine ax_aload_n (pc := 0) C d_MM_weightOf_0 rfl 0 rfl ?_
  refine mg_117 (pc := 1) C d_MM_weightOf_1 ?_
  refine ax_iload_n (pc := 4) C d_MM_weightOf_4 rfl 1 rfl ?_
  obtain ⟨hb, h⟩ := it_g h
  refine ml_34 (pc := 5) C d_MM_weightOf_5 (bin_in hb) ?_
  refine ax_if_ge (pc := 6) C 41 d_MM_weightOf_6 (by decide) (fun hc => ?_) (fun hc => ?_)
  · have h := it_t hc h
    refine ax_iconst (pc := 41) C 1 d_MM_weightOf_41 (by decide +kernel) ?_
    refine ax_istore_n (pc := 42) C d_MM_weightOf_42 rfl (Nat.le_of_ble_eq_true rfl) ([(2, .int 1), (0, .ref z), (1, .int x0)]) rfl ?_
    refine ax_aload_n (pc := 43) C d_MM_weightOf_43 rfl 1 rfl ?_
    refine mg_120 (pc := 44) C d_MM_weightOf_44 ?_
    refine ax_iload_n (pc := 47) C d_MM_weightOf_47 rfl 2 rfl ?_
    obtain ⟨hb, h⟩ := it_g h
    refine ml_35 (pc := 48) C d_MM_weightOf_48 (bin_in hb) ?_
    refine ax_istore_n (pc := 49) C d_MM_weightOf_49 rfl (Nat.le_of_ble_eq_true rfl) ([(3, .int (σ.2.1 35 (Int32.toNatClampNeg x0))), (2, .int 1), (0, .ref z), (1, .int x0)]) rfl ?_
    refine ax_ls ([(0, .ref z), (1, .int x0), (2, .int 1), (3, .int (σ.2.1 35 (Int32.toNatClampNeg x0)))]) [2, 3, 1, 0] rfl ?_
    have hm : s_65 l D kA z v σ [x0, 1, (σ.2.1 35 (Int32.toNatClampNeg x0))] (σf, rf, _) := ih 65 _ _ _ h
    exact hm _ _ _ rfl p e s m args below meth c F Lo σ0 hF hLo C
  · have h := it_f hc h
    refine ax_iconst (pc := 9) C 0 d_MM_weightOf_9 (by decide +kernel) ?_
    refine ax_istore_n (pc := 10) C d_MM_weightOf_10 rfl (Nat.le_of_ble_eq_true rfl) ([(2, .int 0), (0, .ref z), (1, .int x0)]) rfl ?_
    refine ax_ls ([(0, .ref z), (1, .int x0), (2, .int 0)]) [1, 2, 0] rfl ?_
    have hm : s_64 l D kA z v σ [x0, 0] (σf, rf, _) := ih 64 _ _ _ h
    exact hm _ _ rfl p e s m args below meth c F Lo σ0 hF hLo C
set_option maxHeartbeats 4000000 in
set_option maxRecDepth 100000 in
theorem o_64 (l : Launch) (D : va_G) (kA : Nat → ClassId) (z : Nat) (v : Nat → Nat) (rec : mF) (ih : ∀ t σ xs res, rec t σ xs = some res → mSem l D kA z v t σ xs res) (σ : mS) (xs : List Int32) (res : mR) (h : k_64 rec σ xs = some res) : s_64 l D kA z v σ xs res := by
  intro x0 x1 hxs
  subst hxs
  obtain ⟨σf, rf, dd⟩ := res
  have h : (if bin x1 300 = true then (if bin x0 20100 = true then (if (σ.2.1 59 (Int32.toNatClampNeg x1)) = (((-1) : Int32) - (σ.2.1 34 (Int32.toNatClampNeg x0))) then (if bin x1 300 = true then (some (σ, (σ.2.1 60 (Int32.toNatClampNeg x1)), 0)) else none) else (rec 64 σ [x0, (x1 + 1)])) else none) else none) = some (σf, rf, dd) := h
  intro p e s m args below meth c F Lo σ0 hF hLo C
  dsimp only at hF hLo ⊢
  refine ax_aload_n (pc := 11) C d_MM_weightOf_11 rfl 0 rfl ?_
  refine mg_193 (pc := 12) C d_MM_weightOf_12 ?_
  refine ax_iload_n (pc := 15) C d_MM_weightOf_15 rfl 2 rfl ?_
  obtain ⟨hb, h⟩ := it_g h
  refine ml_59 (pc := 16) C d_MM_weightOf_16 (bin_in hb) ?_
  refine ax_iconst (pc := 17) C (-1) d_MM_weightOf_17 (by decide +kernel) ?_
  refine ax_aload_n (pc := 18) C d_MM_weightOf_18 rfl 0 rfl ?_
  refine mg_117 (pc := 19) C d_MM_weightOf_19 ?_
  refine ax_iload_n (pc := 22) C d_MM_weightOf_22 rfl 1 rfl ?_
  obtain ⟨hb, h⟩ := it_g h
  refine ml_34 (pc := 23) C d_MM_weightOf_23 (bin_in hb) ?_
  refine ax_isub (pc := 24) C d_MM_weightOf_24 ?_
  refine ax_icmp_eq (pc := 25) C 34 d_MM_weightOf_25 (by decide) (fun hc => ?_) (fun hc => ?_)
  · have h := it_t hc h
    refine ax_aload_n (pc := 34) C d_MM_weightOf_34 rfl 0 rfl ?_
    refine mg_196 (pc := 35) C d_MM_weightOf_35 ?_
    refine ax_iload_n (pc := 38) C d_MM_weightOf_38 rfl 2 rfl ?_
    obtain ⟨hb, h⟩ := it_g h
    refine ml_60 (pc := 39) C d_MM_weightOf_39 (bin_in hb) ?_
    cases h
    exact ax_iret (pc := 40) C d_MM_weightOf_40 ⟨rfl, rfl⟩ (Nat.le_refl _) (Nat.le_refl _)
  · have h := it_f hc h
    refine ax_iinc (pc := 28) C (x1 + 1) d_MM_weightOf_28 2 rfl rfl (Nat.le_of_ble_eq_true rfl) ([(2, .int (x1 + 1)), (0, .ref z), (1, .int x0)]) rfl ?_
    refine ax_goto (pc := 31) C 11 d_MM_weightOf_31 (by decide) ?_
    refine ax_ls ([(0, .ref z), (1, .int x0), (2, .int (x1 + 1))]) [1, 2, 0] rfl ?_
    have hm : s_64 l D kA z v σ [x0, (x1 + 1)] (σf, rf, _) := ih 64 _ _ _ h
    exact hm _ _ rfl p e s m args below meth c F Lo σ0 hF hLo C
set_option maxHeartbeats 4000000 in
set_option maxRecDepth 100000 in
theorem o_65 (l : Launch) (D : va_G) (kA : Nat → ClassId) (z : Nat) (v : Nat → Nat) (rec : mF) (ih : ∀ t σ xs res, rec t σ xs = some res → mSem l D kA z v t σ xs res) (σ : mS) (xs : List Int32) (res : mR) (h : k_65 rec σ xs = some res) : s_65 l D kA z v σ xs res := by
  intro x0 x1 x2 hxs
  subst hxs
  obtain ⟨σf, rf, dd⟩ := res
  have h : (if x2 < 0 then (some (σ, x1, 0)) else (bnd (rec 63 σ [x2]) (fun σ1 r1 => if bin x2 20100 = true then (rec 65 σ1 [x0, (if ((x1 : Int32) + r1) < 1000 then ((x1 : Int32) + r1) else 1000), (σ1.2.1 36 (Int32.toNatClampNeg x2))]) else none))) = some (σf, rf, dd) := h
  intro p e s m args below meth c F Lo σ0 hF hLo C
  dsimp only at hF hLo ⊢
  refine ax_iload_n (pc := 50) C d_MM_weightOf_50 rfl 3 rfl ?_
  refine ax_if_lt (pc := 51) C 78 d_MM_weightOf_51 (by decide) (fun hc => ?_) (fun hc => ?_)
  · have h := it_t hc h
    refine ax_iload_n (pc := 78) C d_MM_weightOf_78 rfl 2 rfl ?_
    cases h
    exact ax_iret (pc := 79) C d_MM_weightOf_79 ⟨rfl, rfl⟩ (Nat.le_refl _) (Nat.le_refl _)
  · have h := it_f hc h
    refine ax_sipush (pc := 54) C 1000 d_MM_weightOf_54 (by decide +kernel) ?_
    refine ax_iload_n (pc := 57) C d_MM_weightOf_57 rfl 2 rfl ?_
    refine ax_aload_n (pc := 58) C d_MM_weightOf_58 rfl 0 rfl ?_
    refine ax_iload_n (pc := 59) C d_MM_weightOf_59 rfl 3 rfl ?_
    obtain ⟨σ1, r1, d1_1, d2_1, h1, h, hd2, hd1⟩ := it_b h
    have hm : s_63 l D kA z v σ [x2] (σ1, r1, d1_1) := ih 63 _ _ _ h1
    refine mc_Vi (pc := 60) C (As := [.int x2]) (rest := [.int x1, .int 1000]) (hm _ rfl) ml_MM_541 d_MM_weightOf_60 rfl rfl (by dsimp only; omega) (by dsimp only; omega) (Nat.le_of_ble_eq_true rfl) (Nat.le_of_ble_eq_true rfl) (Nat.le_of_ble_eq_true rfl) ?_
    have hF : d2_1 + 1 ≤ F := by omega
    have hLo : 64 * d2_1 + 64 ≤ Lo := by omega
    refine ax_iadd (pc := 63) C d_MM_weightOf_63 ?_
    refine mx_min (pc := 64) C tb_methodLink_2100 tb_static_610 tb_initialized_19 tcm_min d_MM_weightOf_64 hF (Nat.le_of_ble_eq_true rfl) ?_
    refine ax_istore_n (pc := 67) C d_MM_weightOf_67 rfl (Nat.le_of_ble_eq_true rfl) ([(2, .int (if ((x1 : Int32) + r1) < 1000 then ((x1 : Int32) + r1) else 1000)), (0, .ref z), (1, .int x0), (3, .int x2)]) rfl ?_
    refine ax_aload_n (pc := 68) C d_MM_weightOf_68 rfl 1 rfl ?_
    refine mg_123 (pc := 69) C d_MM_weightOf_69 ?_
    refine ax_iload_n (pc := 72) C d_MM_weightOf_72 rfl 3 rfl ?_
    obtain ⟨hb, h⟩ := it_g h
    refine ml_36 (pc := 73) C d_MM_weightOf_73 (bin_in hb) ?_
    refine ax_istore_n (pc := 74) C d_MM_weightOf_74 rfl (Nat.le_of_ble_eq_true rfl) ([(3, .int (σ1.2.1 36 (Int32.toNatClampNeg x2))), (2, .int (if ((x1 : Int32) + r1) < 1000 then ((x1 : Int32) + r1) else 1000)), (0, .ref z), (1, .int x0)]) rfl ?_
    refine ax_goto (pc := 75) C 50 d_MM_weightOf_75 (by decide) ?_
    refine ax_ls ([(0, .ref z), (1, .int x0), (2, .int (if ((x1 : Int32) + r1) < 1000 then ((x1 : Int32) + r1) else 1000)), (3, .int (σ1.2.1 36 (Int32.toNatClampNeg x2)))]) [2, 3, 1, 0] rfl ?_
    have hm : s_65 l D kA z v σ1 [x0, (if ((x1 : Int32) + r1) < 1000 then ((x1 : Int32) + r1) else 1000), (σ1.2.1 36 (Int32.toNatClampNeg x2))] (σf, rf, _) := ih 65 _ _ _ h
    exact hm _ _ _ rfl p e s m args below meth c F Lo σ0 hF hLo C
set_option maxHeartbeats 4000000 in
set_option maxRecDepth 100000 in
theorem o_66 (l : Launch) (D : va_G) (kA : Nat → ClassId) (z : Nat) (v : Nat → Nat) (rec : mF) (ih : ∀ t σ xs res, rec t σ xs = some res → mSem l D kA z v t σ xs res) (σ : mS) (xs : List Int32) (res : mR) (h : k_66 rec σ xs = some res) : s_66 l D kA z v σ xs res := by
  intro x0 hxs
  subst hxs
  obtain ⟨σf, rf, dd⟩ := res
  have h : (if bin x0 20100 = true then (if 0 ≤ (σ.2.1 34 (Int32.toNatClampNeg x0)) then (if bin x0 20100 = true then (if bin x0 20100 = true then (bnd (rec 72 σ [(σ.2.1 34 (Int32.toNatClampNeg x0)), (σ.2.1 35 (Int32.toNatClampNeg x0))]) (fun σ1 r1 => rec 67 σ1 [x0, r1])) else none) else none) else (if bin x0 20100 = true then (bnd (rec 68 σ [(((-1) : Int32) - (σ.2.1 34 (Int32.toNatClampNeg x0)))]) (fun σ2 r2 => rec 67 σ2 [x0, r2])) else none)) else none) = some (σf, rf, dd) := h
  refine ax_Mi.of (by decide +kernel) (Nat.le_of_ble_eq_true rfl) ?_
  intro p e s m args below meth c C hnm
  have C : ax_C p s m args meth c b_MM_built1 "ClauseProverModel" 2 (some .int) D kA (va_A (mmW kA z v σ) s.heap.size) := C
  obtain ⟨F, hFe⟩ : ∃ F, F = dd + 1 := ⟨_, rfl⟩
  obtain ⟨Lo, hLoe⟩ : ∃ Lo, Lo = 64 * dd + 64 := ⟨_, rfl⟩
  obtain ⟨σ0, hσ0⟩ : ∃ s0, s0 = σ := ⟨_, rfl⟩
  suffices K : AW p l e { frames := F, cells := 0, slots := 0, locals := Lo } s m args below meth c D kA (va_A (mmW kA z v σ0) s.heap.size) 2 (ax_Qi below args s D kA (mmW kA z v σ0) 0 0 (fun r w1 => r = rf ∧ w1 = mmW kA z v σf)) 0 [(0, .ref z), (1, .int x0)] [] (mmW kA z v σ) 0 0 by rw [hFe, hLoe, hσ0] at K; exact ax_ls ([(0, .ref z), (1, .int x0)]) [0, 1] rfl K
  have C : ax_C p s m args meth c b_MM_built1 "ClauseProverModel" 2 (some .int) D kA (va_A (mmW kA z v σ0) s.heap.size) := by rw [hσ0]; exact C
  have hF : dd + 1 ≤ F := by omega
  have hLo : 64 * dd + 64 ≤ Lo := by omega
  clear hFe hLoe hσ0
  refine ax_aload_n (pc := 0) C d_MM_built1_0 rfl 0 rfl ?_
  refine mg_117 (pc := 1) C d_MM_built1_1 ?_
  refine ax_iload_n (pc := 4) C d_MM_built1_4 rfl 1 rfl ?_
  obtain ⟨hb, h⟩ := it_g h
  refine ml_34 (pc := 5) C d_MM_built1_5 (bin_in hb) ?_
  refine ax_if_ge (pc := 6) C 24 d_MM_built1_6 (by decide) (fun hc => ?_) (fun hc => ?_)
  · have h := it_t hc h
    refine ax_aload_n (pc := 24) C d_MM_built1_24 rfl 0 rfl ?_
    refine ax_aload_n (pc := 25) C d_MM_built1_25 rfl 0 rfl ?_
    refine mg_117 (pc := 26) C d_MM_built1_26 ?_
    refine ax_iload_n (pc := 29) C d_MM_built1_29 rfl 1 rfl ?_
    obtain ⟨hb, h⟩ := it_g h
    refine ml_34 (pc := 30) C d_MM_built1_30 (bin_in hb) ?_
    refine ax_aload_n (pc := 31) C d_MM_built1_31 rfl 0 rfl ?_
    refine mg_120 (pc := 32) C d_MM_built1_32 ?_
    refine ax_iload_n (pc := 35) C d_MM_built1_35 rfl 1 rfl ?_
    obtain ⟨hb, h⟩ := it_g h
    refine ml_35 (pc := 36) C d_MM_built1_36 (bin_in hb) ?_
    obtain ⟨σ1, r1, d1_1, d2_1, h1, h, hd2, hd1⟩ := it_b h
    have hm : s_72 l D kA z v σ [(σ.2.1 34 (Int32.toNatClampNeg x0)), (σ.2.1 35 (Int32.toNatClampNeg x0))] (σ1, r1, d1_1) := ih 72 _ _ _ h1
    refine mc_Vi (pc := 37) C (As := [.int (σ.2.1 34 (Int32.toNatClampNeg x0)), .int (σ.2.1 35 (Int32.toNatClampNeg x0))]) (rest := []) (hm _ _ rfl) ml_MM_546 d_MM_built1_37 rfl rfl (by dsimp only; omega) (by dsimp only; omega) (Nat.le_of_ble_eq_true rfl) (Nat.le_of_ble_eq_true rfl) (Nat.le_of_ble_eq_true rfl) ?_
    have hF : d2_1 + 1 ≤ F := by omega
    have hLo : 64 * d2_1 + 64 ≤ Lo := by omega
    refine ax_ls ([(0, .ref z), (1, .int x0)]) [0, 1] rfl ?_
    have hm : s_67 l D kA z v σ1 [x0, r1] (σf, rf, _) := ih 67 _ _ _ h
    exact hm _ _ rfl p e s m args below meth c F Lo σ0 hF hLo C
  · have h := it_f hc h
    refine ax_aload_n (pc := 9) C d_MM_built1_9 rfl 0 rfl ?_
    refine ax_iconst (pc := 10) C (-1) d_MM_built1_10 (by decide +kernel) ?_
    refine ax_aload_n (pc := 11) C d_MM_built1_11 rfl 0 rfl ?_
    refine mg_117 (pc := 12) C d_MM_built1_12 ?_
    refine ax_iload_n (pc := 15) C d_MM_built1_15 rfl 1 rfl ?_
    obtain ⟨hb, h⟩ := it_g h
    refine ml_34 (pc := 16) C d_MM_built1_16 (bin_in hb) ?_
    refine ax_isub (pc := 17) C d_MM_built1_17 ?_
    obtain ⟨σ2, r2, d1_2, d2_2, h1, h, hd2, hd1⟩ := it_b h
    have hm : s_68 l D kA z v σ [(((-1) : Int32) - (σ.2.1 34 (Int32.toNatClampNeg x0)))] (σ2, r2, d1_2) := ih 68 _ _ _ h1
    refine mc_Vi (pc := 18) C (As := [.int (((-1) : Int32) - (σ.2.1 34 (Int32.toNatClampNeg x0)))]) (rest := []) (hm _ rfl) ml_MM_544 d_MM_built1_18 rfl rfl (by dsimp only; omega) (by dsimp only; omega) (Nat.le_of_ble_eq_true rfl) (Nat.le_of_ble_eq_true rfl) (Nat.le_of_ble_eq_true rfl) ?_
    have hF : d2_2 + 1 ≤ F := by omega
    have hLo : 64 * d2_2 + 64 ≤ Lo := by omega
    refine ax_goto (pc := 21) C 40 d_MM_built1_21 (by decide) ?_
    refine ax_ls ([(0, .ref z), (1, .int x0)]) [0, 1] rfl ?_
    have hm : s_67 l D kA z v σ2 [x0, r2] (σf, rf, _) := ih 67 _ _ _ h
    exact hm _ _ rfl p e s m args below meth c F Lo σ0 hF hLo C
set_option maxHeartbeats 4000000 in
set_option maxRecDepth 100000 in
theorem o_67 (l : Launch) (D : va_G) (kA : Nat → ClassId) (z : Nat) (v : Nat → Nat) (rec : mF) (ih : ∀ t σ xs res, rec t σ xs = some res → mSem l D kA z v t σ xs res) (σ : mS) (xs : List Int32) (res : mR) (h : k_67 rec σ xs = some res) : s_67 l D kA z v σ xs res := by
  intro x0 x1 hxs
  subst hxs
  obtain ⟨σf, rf, dd⟩ := res
  have h : (some (σ, x1, 0)) = some (σf, rf, dd) := h
  intro p e s m args below meth c F Lo σ0 hF hLo C
  dsimp only at hF hLo ⊢
  cases h
  exact ax_iret (pc := 40) C d_MM_built1_40 ⟨rfl, rfl⟩ (Nat.le_refl _) (Nat.le_refl _)
set_option maxHeartbeats 4000000 in
set_option maxRecDepth 100000 in
theorem o_68 (l : Launch) (D : va_G) (kA : Nat → ClassId) (z : Nat) (v : Nat → Nat) (rec : mF) (ih : ∀ t σ xs res, rec t σ xs = some res → mSem l D kA z v t σ xs res) (σ : mS) (xs : List Int32) (res : mR) (h : k_68 rec σ xs = some res) : s_68 l D kA z v σ xs res := by
  intro x0 hxs
  subst hxs
  obtain ⟨σf, rf, dd⟩ := res
  have h : (if bin x0 300 = true then (if 0 ≤ (σ.2.1 61 (Int32.toNatClampNeg x0)) then (if bin x0 300 = true then (bnd (rec 71 σ [(σ.2.1 23 (Int32.toNatClampNeg x0))]) (fun σ1 r1 => if bin x0 300 = true then (rec 69 σ1 [x0, r1, (σ1.2.1 61 (Int32.toNatClampNeg x0)), (-1), 0]) else none)) else none) else (bnd (rec 71 σ [(((-1) : Int32) - x0)]) (fun σ2 r2 => some (σ2, r2, 0)))) else none) = some (σf, rf, dd) := h
  refine ax_Mi.of (by decide +kernel) (Nat.le_of_ble_eq_true rfl) ?_
  intro p e s m args below meth c C hnm
  have C : ax_C p s m args meth c b_MM_bound1 "ClauseProverModel" 7 (some .int) D kA (va_A (mmW kA z v σ) s.heap.size) := C
  obtain ⟨F, hFe⟩ : ∃ F, F = dd + 1 := ⟨_, rfl⟩
  obtain ⟨Lo, hLoe⟩ : ∃ Lo, Lo = 64 * dd + 64 := ⟨_, rfl⟩
  obtain ⟨σ0, hσ0⟩ : ∃ s0, s0 = σ := ⟨_, rfl⟩
  suffices K : AW p l e { frames := F, cells := 0, slots := 0, locals := Lo } s m args below meth c D kA (va_A (mmW kA z v σ0) s.heap.size) 7 (ax_Qi below args s D kA (mmW kA z v σ0) 0 0 (fun r w1 => r = rf ∧ w1 = mmW kA z v σf)) 0 [(0, .ref z), (1, .int x0)] [] (mmW kA z v σ) 0 0 by rw [hFe, hLoe, hσ0] at K; exact ax_ls ([(0, .ref z), (1, .int x0)]) [0, 1] rfl K
  have C : ax_C p s m args meth c b_MM_bound1 "ClauseProverModel" 7 (some .int) D kA (va_A (mmW kA z v σ0) s.heap.size) := by rw [hσ0]; exact C
  have hF : dd + 1 ≤ F := by omega
  have hLo : 64 * dd + 64 ≤ Lo := by omega
  clear hFe hLoe hσ0
  refine ax_aload_n (pc := 0) C d_MM_bound1_0 rfl 0 rfl ?_
  refine mg_199 (pc := 1) C d_MM_bound1_1 ?_
  refine ax_iload_n (pc := 4) C d_MM_bound1_4 rfl 1 rfl ?_
  obtain ⟨hb, h⟩ := it_g h
  refine ml_61 (pc := 5) C d_MM_bound1_5 (bin_in hb) ?_
  refine ax_if_ge (pc := 6) C 17 d_MM_bound1_6 (by decide) (fun hc => ?_) (fun hc => ?_)
  · have h := it_t hc h
    refine ax_aload_n (pc := 17) C d_MM_bound1_17 rfl 0 rfl ?_
    refine ax_aload_n (pc := 18) C d_MM_bound1_18 rfl 0 rfl ?_
    refine mg_83 (pc := 19) C d_MM_bound1_19 ?_
    refine ax_iload_n (pc := 22) C d_MM_bound1_22 rfl 1 rfl ?_
    obtain ⟨hb, h⟩ := it_g h
    refine ml_23 (pc := 23) C d_MM_bound1_23 (bin_in hb) ?_
    obtain ⟨σ1, r1, d1_1, d2_1, h1, h, hd2, hd1⟩ := it_b h
    have hm : s_71 l D kA z v σ [(σ.2.1 23 (Int32.toNatClampNeg x0))] (σ1, r1, d1_1) := ih 71 _ _ _ h1
    refine mc_Vi (pc := 24) C (As := [.int (σ.2.1 23 (Int32.toNatClampNeg x0))]) (rest := []) (hm _ rfl) ml_MM_516 d_MM_bound1_24 rfl rfl (by dsimp only; omega) (by dsimp only; omega) (Nat.le_of_ble_eq_true rfl) (Nat.le_of_ble_eq_true rfl) (Nat.le_of_ble_eq_true rfl) ?_
    have hF : d2_1 + 1 ≤ F := by omega
    have hLo : 64 * d2_1 + 64 ≤ Lo := by omega
    refine ax_istore_n (pc := 27) C d_MM_bound1_27 rfl (Nat.le_of_ble_eq_true rfl) ([(2, .int r1), (0, .ref z), (1, .int x0)]) rfl ?_
    refine ax_aload_n (pc := 28) C d_MM_bound1_28 rfl 1 rfl ?_
    refine mg_199 (pc := 29) C d_MM_bound1_29 ?_
    refine ax_iload_n (pc := 32) C d_MM_bound1_32 rfl 2 rfl ?_
    obtain ⟨hb, h⟩ := it_g h
    refine ml_61 (pc := 33) C d_MM_bound1_33 (bin_in hb) ?_
    refine ax_istore_n (pc := 34) C d_MM_bound1_34 rfl (Nat.le_of_ble_eq_true rfl) ([(3, .int (σ1.2.1 61 (Int32.toNatClampNeg x0))), (2, .int r1), (0, .ref z), (1, .int x0)]) rfl ?_
    refine ax_iconst (pc := 35) C (-1) d_MM_bound1_35 (by decide +kernel) ?_
    refine ax_istore (pc := 36) C d_MM_bound1_36 (Nat.le_of_ble_eq_true rfl) ([(4, .int (-1)), (3, .int (σ1.2.1 61 (Int32.toNatClampNeg x0))), (2, .int r1), (0, .ref z), (1, .int x0)]) rfl ?_
    refine ax_iconst (pc := 38) C 0 d_MM_bound1_38 (by decide +kernel) ?_
    refine ax_istore (pc := 39) C d_MM_bound1_39 (Nat.le_of_ble_eq_true rfl) ([(5, .int 0), (4, .int (-1)), (3, .int (σ1.2.1 61 (Int32.toNatClampNeg x0))), (2, .int r1), (0, .ref z), (1, .int x0)]) rfl ?_
    refine ax_ls ([(0, .ref z), (1, .int x0), (2, .int r1), (3, .int (σ1.2.1 61 (Int32.toNatClampNeg x0))), (4, .int (-1)), (5, .int 0)]) [4, 5, 3, 2, 1, 0] rfl ?_
    have hm : s_69 l D kA z v σ1 [x0, r1, (σ1.2.1 61 (Int32.toNatClampNeg x0)), (-1), 0] (σf, rf, _) := ih 69 _ _ _ h
    exact hm _ _ _ _ _ rfl p e s m args below meth c F Lo σ0 hF hLo C
  · have h := it_f hc h
    refine ax_aload_n (pc := 9) C d_MM_bound1_9 rfl 0 rfl ?_
    refine ax_iconst (pc := 10) C (-1) d_MM_bound1_10 (by decide +kernel) ?_
    refine ax_iload_n (pc := 11) C d_MM_bound1_11 rfl 1 rfl ?_
    refine ax_isub (pc := 12) C d_MM_bound1_12 ?_
    obtain ⟨σ2, r2, d1_2, d2_2, h1, h, hd2, hd1⟩ := it_b h
    have hm : s_71 l D kA z v σ [(((-1) : Int32) - x0)] (σ2, r2, d1_2) := ih 71 _ _ _ h1
    refine mc_Vi (pc := 13) C (As := [.int (((-1) : Int32) - x0)]) (rest := []) (hm _ rfl) ml_MM_516 d_MM_bound1_13 rfl rfl (by dsimp only; omega) (by dsimp only; omega) (Nat.le_of_ble_eq_true rfl) (Nat.le_of_ble_eq_true rfl) (Nat.le_of_ble_eq_true rfl) ?_
    have hF : d2_2 + 1 ≤ F := by omega
    have hLo : 64 * d2_2 + 64 ≤ Lo := by omega
    cases h
    exact ax_iret (pc := 16) C d_MM_bound1_16 ⟨rfl, rfl⟩ (Nat.le_refl _) (Nat.le_refl _)
set_option maxHeartbeats 4000000 in
set_option maxRecDepth 100000 in
theorem o_69 (l : Launch) (D : va_G) (kA : Nat → ClassId) (z : Nat) (v : Nat → Nat) (rec : mF) (ih : ∀ t σ xs res, rec t σ xs = some res → mSem l D kA z v t σ xs res) (σ : mS) (xs : List Int32) (res : mR) (h : k_69 rec σ xs = some res) : s_69 l D kA z v σ xs res := by
  intro x0 x1 x2 x3 x4 hxs
  subst hxs
  obtain ⟨σf, rf, dd⟩ := res
  have h : (if x2 ≤ x4 then (some (σ, x1, 0)) else (if bin x4 300 = true then (bnd (rec 68 σ [(σ.2.1 59 (Int32.toNatClampNeg x4))]) (fun σ1 r1 => if 0 ≤ x3 then (if bin x3 420000 = true then (lt_ (mA σ1 45 (Int32.toNatClampNeg x3) r1) (fun σ2 => rec 70 σ2 [x0, x1, x2, x3, x4, r1])) else none) else (if bin x1 420000 = true then (lt_ (mA σ1 44 (Int32.toNatClampNeg x1) r1) (fun σ3 => rec 70 σ3 [x0, x1, x2, x3, x4, r1])) else none))) else none)) = some (σf, rf, dd) := h
  intro p e s m args below meth c F Lo σ0 hF hLo C
  dsimp only at hF hLo ⊢
  refine ax_iload (pc := 41) C d_MM_bound1_41 5 rfl ?_
  refine ax_iload_n (pc := 43) C d_MM_bound1_43 rfl 3 rfl ?_
  refine ax_icmp_ge (pc := 44) C 111 d_MM_bound1_44 (by decide) (fun hc => ?_) (fun hc => ?_)
  · have h := it_t hc h
    refine ax_iload_n (pc := 111) C d_MM_bound1_111 rfl 2 rfl ?_
    cases h
    exact ax_iret (pc := 112) C d_MM_bound1_112 ⟨rfl, rfl⟩ (Nat.le_refl _) (Nat.le_refl _)
  · have h := it_f hc h
    refine ax_aload_n (pc := 47) C d_MM_bound1_47 rfl 0 rfl ?_
    refine ax_aload_n (pc := 48) C d_MM_bound1_48 rfl 0 rfl ?_
    refine mg_193 (pc := 49) C d_MM_bound1_49 ?_
    refine ax_iload (pc := 52) C d_MM_bound1_52 5 rfl ?_
    obtain ⟨hb, h⟩ := it_g h
    refine ml_59 (pc := 54) C d_MM_bound1_54 (bin_in hb) ?_
    obtain ⟨σ1, r1, d1_1, d2_1, h1, h, hd2, hd1⟩ := it_b h
    have hm : s_68 l D kA z v σ [(σ.2.1 59 (Int32.toNatClampNeg x4))] (σ1, r1, d1_1) := ih 68 _ _ _ h1
    refine mc_Vi (pc := 55) C (As := [.int (σ.2.1 59 (Int32.toNatClampNeg x4))]) (rest := []) (hm _ rfl) ml_MM_544 d_MM_bound1_55 rfl rfl (by dsimp only; omega) (by dsimp only; omega) (Nat.le_of_ble_eq_true rfl) (Nat.le_of_ble_eq_true rfl) (Nat.le_of_ble_eq_true rfl) ?_
    have hF : d2_1 + 1 ≤ F := by omega
    have hLo : 64 * d2_1 + 64 ≤ Lo := by omega
    refine ax_istore (pc := 58) C d_MM_bound1_58 (Nat.le_of_ble_eq_true rfl) ([(6, .int r1), (0, .ref z), (1, .int x0), (2, .int x1), (3, .int x2), (4, .int x3), (5, .int x4)]) rfl ?_
    refine ax_iload (pc := 60) C d_MM_bound1_60 5 rfl ?_
    refine ax_if_ge (pc := 62) C 76 d_MM_bound1_62 (by decide) (fun hc => ?_) (fun hc => ?_)
    · have h := it_t hc h
      refine ax_aload_n (pc := 76) C d_MM_bound1_76 rfl 1 rfl ?_
      refine mg_151 (pc := 77) C d_MM_bound1_77 ?_
      refine ax_iload (pc := 80) C d_MM_bound1_80 5 rfl ?_
      refine ax_iload (pc := 82) C d_MM_bound1_82 0 rfl ?_
      obtain ⟨hb, h⟩ := it_g h
      refine ms_45 (pc := 84) C d_MM_bound1_84 (bin_in hb) ?_
      have h := it_l h
      generalize mA σ1 45 (Int32.toNatClampNeg x3) r1 = σ2 at h ⊢
      refine ax_ls ([(0, .ref z), (1, .int x0), (2, .int x1), (3, .int x2), (4, .int x3), (5, .int x4), (6, .int r1)]) [1, 2, 3, 4, 5, 6, 0] rfl ?_
      have hm : s_70 l D kA z v σ2 [x0, x1, x2, x3, x4, r1] (σf, rf, _) := ih 70 _ _ _ h
      exact hm _ _ _ _ _ _ rfl p e s m args below meth c F Lo σ0 hF hLo C
    · have h := it_f hc h
      refine ax_aload_n (pc := 65) C d_MM_bound1_65 rfl 1 rfl ?_
      refine mg_148 (pc := 66) C d_MM_bound1_66 ?_
      refine ax_iload_n (pc := 69) C d_MM_bound1_69 rfl 3 rfl ?_
      refine ax_iload (pc := 70) C d_MM_bound1_70 0 rfl ?_
      obtain ⟨hb, h⟩ := it_g h
      refine ms_44 (pc := 72) C d_MM_bound1_72 (bin_in hb) ?_
      have h := it_l h
      generalize mA σ1 44 (Int32.toNatClampNeg x1) r1 = σ3 at h ⊢
      refine ax_goto (pc := 73) C 85 d_MM_bound1_73 (by decide) ?_
      refine ax_ls ([(0, .ref z), (1, .int x0), (2, .int x1), (3, .int x2), (4, .int x3), (5, .int x4), (6, .int r1)]) [1, 2, 3, 4, 5, 6, 0] rfl ?_
      have hm : s_70 l D kA z v σ3 [x0, x1, x2, x3, x4, r1] (σf, rf, _) := ih 70 _ _ _ h
      exact hm _ _ _ _ _ _ rfl p e s m args below meth c F Lo σ0 hF hLo C
set_option maxHeartbeats 4000000 in
set_option maxRecDepth 100000 in
theorem o_70 (l : Launch) (D : va_G) (kA : Nat → ClassId) (z : Nat) (v : Nat → Nat) (rec : mF) (ih : ∀ t σ xs res, rec t σ xs = some res → mSem l D kA z v t σ xs res) (σ : mS) (xs : List Int32) (res : mR) (h : k_70 rec σ xs = some res) : s_70 l D kA z v σ xs res := by
  intro x0 x1 x2 x3 x4 x5 hxs
  subst hxs
  obtain ⟨σf, rf, dd⟩ := res
  have h : (if bin x1 420000 = true then (if bin x5 420000 = true then (if bin x1 420000 = true then (lt_ (mA σ 46 (Int32.toNatClampNeg x1) (((σ.2.1 46 (Int32.toNatClampNeg x1)) : Int32) + (σ.2.1 46 (Int32.toNatClampNeg x5)))) (fun σ1 => rec 69 σ1 [x0, x1, x2, x5, (x4 + 1)])) else none) else none) else none) = some (σf, rf, dd) := h
  intro p e s m args below meth c F Lo σ0 hF hLo C
  dsimp only at hF hLo ⊢
  refine ax_iload (pc := 85) C d_MM_bound1_85 6 rfl ?_
  refine ax_istore (pc := 87) C d_MM_bound1_87 (Nat.le_of_ble_eq_true rfl) ([(4, .int x5), (0, .ref z), (1, .int x0), (2, .int x1), (3, .int x2), (5, .int x4), (6, .int x5)]) rfl ?_
  refine ax_aload_n (pc := 89) C d_MM_bound1_89 rfl 1 rfl ?_
  refine mg_154 (pc := 90) C d_MM_bound1_90 ?_
  refine ax_iload_n (pc := 93) C d_MM_bound1_93 rfl 3 rfl ?_
  refine ax_dup2 (pc := 94) C d_MM_bound1_94 rfl rfl ?_
  obtain ⟨hb, h⟩ := it_g h
  refine ml_46 (pc := 95) C d_MM_bound1_95 (bin_in hb) ?_
  refine ax_aload_n (pc := 96) C d_MM_bound1_96 rfl 1 rfl ?_
  refine mg_154 (pc := 97) C d_MM_bound1_97 ?_
  refine ax_iload (pc := 100) C d_MM_bound1_100 6 rfl ?_
  obtain ⟨hb, h⟩ := it_g h
  refine ml_46 (pc := 102) C d_MM_bound1_102 (bin_in hb) ?_
  refine ax_iadd (pc := 103) C d_MM_bound1_103 ?_
  obtain ⟨hb, h⟩ := it_g h
  refine ms_46 (pc := 104) C d_MM_bound1_104 (bin_in hb) ?_
  have h := it_l h
  generalize mA σ 46 (Int32.toNatClampNeg x1) (((σ.2.1 46 (Int32.toNatClampNeg x1)) : Int32) + (σ.2.1 46 (Int32.toNatClampNeg x5))) = σ1 at h ⊢
  refine ax_iinc (pc := 105) C (x4 + 1) d_MM_bound1_105 5 rfl rfl (Nat.le_of_ble_eq_true rfl) ([(5, .int (x4 + 1)), (4, .int x5), (0, .ref z), (1, .int x0), (2, .int x1), (3, .int x2), (6, .int x5)]) rfl ?_
  refine ax_goto (pc := 108) C 41 d_MM_bound1_108 (by decide) ?_
  refine ax_ls ([(0, .ref z), (1, .int x0), (2, .int x1), (3, .int x2), (4, .int x5), (5, .int (x4 + 1))]) [2, 3, 4, 5, 1, 0] rfl ?_
  have hm : s_69 l D kA z v σ1 [x0, x1, x2, x5, (x4 + 1)] (σf, rf, _) := ih 69 _ _ _ h
  exact hm _ _ _ _ _ rfl p e s m args below meth c F Lo σ0 hF hLo C
set_option maxHeartbeats 4000000 in
set_option maxRecDepth 100000 in
theorem o_71 (l : Launch) (D : va_G) (kA : Nat → ClassId) (z : Nat) (v : Nat → Nat) (rec : mF) (ih : ∀ t σ xs res, rec t σ xs = some res → mSem l D kA z v t σ xs res) (σ : mS) (xs : List Int32) (res : mR) (h : k_71 rec σ xs = some res) : s_71 l D kA z v σ xs res := by
  intro x0 hxs
  subst hxs
  obtain ⟨σf, rf, dd⟩ := res
  have h : (if bin (σ.1 47) 420000 = true then (lt_ (mA σ 43 (Int32.toNatClampNeg (σ.1 47)) x0) (fun σ1 => if bin (σ1.1 47) 420000 = true then (lt_ (mA σ1 44 (Int32.toNatClampNeg (σ1.1 47)) (-1)) (fun σ2 => if bin (σ2.1 47) 420000 = true then (lt_ (mA σ2 45 (Int32.toNatClampNeg (σ2.1 47)) (-1)) (fun σ3 => if bin (σ3.1 47) 420000 = true then (lt_ (mA σ3 46 (Int32.toNatClampNeg (σ3.1 47)) 1) (fun σ4 => lt_ (mI σ4 47 (((σ4.1 47) : Int32) + 1)) (fun σ5 => some (σ5, (σ4.1 47), 0)))) else none)) else none)) else none)) else none) = some (σf, rf, dd) := h
  refine ax_Mi.of (by decide +kernel) (Nat.le_of_ble_eq_true rfl) ?_
  intro p e s m args below meth c C hnm
  have C : ax_C p s m args meth c b_MM_fresh "ClauseProverModel" 2 (some .int) D kA (va_A (mmW kA z v σ) s.heap.size) := C
  obtain ⟨F, hFe⟩ : ∃ F, F = dd + 1 := ⟨_, rfl⟩
  obtain ⟨Lo, hLoe⟩ : ∃ Lo, Lo = 64 * dd + 64 := ⟨_, rfl⟩
  obtain ⟨σ0, hσ0⟩ : ∃ s0, s0 = σ := ⟨_, rfl⟩
  suffices K : AW p l e { frames := F, cells := 0, slots := 0, locals := Lo } s m args below meth c D kA (va_A (mmW kA z v σ0) s.heap.size) 2 (ax_Qi below args s D kA (mmW kA z v σ0) 0 0 (fun r w1 => r = rf ∧ w1 = mmW kA z v σf)) 0 [(0, .ref z), (1, .int x0)] [] (mmW kA z v σ) 0 0 by rw [hFe, hLoe, hσ0] at K; exact ax_ls ([(0, .ref z), (1, .int x0)]) [0, 1] rfl K
  have C : ax_C p s m args meth c b_MM_fresh "ClauseProverModel" 2 (some .int) D kA (va_A (mmW kA z v σ0) s.heap.size) := by rw [hσ0]; exact C
  have hF : dd + 1 ≤ F := by omega
  have hLo : 64 * dd + 64 ≤ Lo := by omega
  clear hFe hLoe hσ0
  refine ax_aload_n (pc := 0) C d_MM_fresh_0 rfl 0 rfl ?_
  refine mg_145 (pc := 1) C d_MM_fresh_1 ?_
  refine ax_aload_n (pc := 4) C d_MM_fresh_4 rfl 0 rfl ?_
  refine mg_157 (pc := 5) C d_MM_fresh_5 ?_
  refine ax_iload_n (pc := 8) C d_MM_fresh_8 rfl 1 rfl ?_
  obtain ⟨hb, h⟩ := it_g h
  refine ms_43 (pc := 9) C d_MM_fresh_9 (bin_in hb) ?_
  have h := it_l h
  generalize mA σ 43 (Int32.toNatClampNeg (σ.1 47)) x0 = σ1 at h ⊢
  refine ax_aload_n (pc := 10) C d_MM_fresh_10 rfl 0 rfl ?_
  refine mg_148 (pc := 11) C d_MM_fresh_11 ?_
  refine ax_aload_n (pc := 14) C d_MM_fresh_14 rfl 0 rfl ?_
  refine mg_157 (pc := 15) C d_MM_fresh_15 ?_
  refine ax_iconst (pc := 18) C (-1) d_MM_fresh_18 (by decide +kernel) ?_
  obtain ⟨hb, h⟩ := it_g h
  refine ms_44 (pc := 19) C d_MM_fresh_19 (bin_in hb) ?_
  have h := it_l h
  generalize mA σ1 44 (Int32.toNatClampNeg (σ1.1 47)) (-1) = σ2 at h ⊢
  refine ax_aload_n (pc := 20) C d_MM_fresh_20 rfl 0 rfl ?_
  refine mg_151 (pc := 21) C d_MM_fresh_21 ?_
  refine ax_aload_n (pc := 24) C d_MM_fresh_24 rfl 0 rfl ?_
  refine mg_157 (pc := 25) C d_MM_fresh_25 ?_
  refine ax_iconst (pc := 28) C (-1) d_MM_fresh_28 (by decide +kernel) ?_
  obtain ⟨hb, h⟩ := it_g h
  refine ms_45 (pc := 29) C d_MM_fresh_29 (bin_in hb) ?_
  have h := it_l h
  generalize mA σ2 45 (Int32.toNatClampNeg (σ2.1 47)) (-1) = σ3 at h ⊢
  refine ax_aload_n (pc := 30) C d_MM_fresh_30 rfl 0 rfl ?_
  refine mg_154 (pc := 31) C d_MM_fresh_31 ?_
  refine ax_aload_n (pc := 34) C d_MM_fresh_34 rfl 0 rfl ?_
  refine mg_157 (pc := 35) C d_MM_fresh_35 ?_
  refine ax_iconst (pc := 38) C 1 d_MM_fresh_38 (by decide +kernel) ?_
  obtain ⟨hb, h⟩ := it_g h
  refine ms_46 (pc := 39) C d_MM_fresh_39 (bin_in hb) ?_
  have h := it_l h
  generalize mA σ3 46 (Int32.toNatClampNeg (σ3.1 47)) 1 = σ4 at h ⊢
  refine ax_aload_n (pc := 40) C d_MM_fresh_40 rfl 0 rfl ?_
  refine ax_dup (pc := 41) C d_MM_fresh_41 rfl ?_
  refine mg_157 (pc := 42) C d_MM_fresh_42 ?_
  refine ax_dup_x1 (pc := 45) C d_MM_fresh_45 rfl rfl ?_
  refine ax_iconst (pc := 46) C 1 d_MM_fresh_46 (by decide +kernel) ?_
  refine ax_iadd (pc := 47) C d_MM_fresh_47 ?_
  refine mp_157 (pc := 48) C d_MM_fresh_48 ?_
  have h := it_l h
  generalize mI σ4 47 (((σ4.1 47) : Int32) + 1) = σ5 at h ⊢
  cases h
  exact ax_iret (pc := 51) C d_MM_fresh_51 ⟨rfl, rfl⟩ (Nat.le_refl _) (Nat.le_refl _)
set_option maxHeartbeats 4000000 in
set_option maxRecDepth 100000 in
theorem o_72 (l : Launch) (D : va_G) (kA : Nat → ClassId) (z : Nat) (v : Nat → Nat) (rec : mF) (ih : ∀ t σ xs res, rec t σ xs = some res → mSem l D kA z v t σ xs res) (σ : mS) (xs : List Int32) (res : mR) (h : k_72 rec σ xs = some res) : s_72 l D kA z v σ xs res := by
  intro x0 x1 hxs
  subst hxs
  obtain ⟨σf, rf, dd⟩ := res
  have h : (bnd (rec 71 σ [x0]) (fun σ1 r1 => rec 73 σ1 [x0, x1, r1, (-1), x1])) = some (σf, rf, dd) := h
  refine ax_Mi.of (by decide +kernel) (Nat.le_of_ble_eq_true rfl) ?_
  intro p e s m args below meth c C hnm
  have C : ax_C p s m args meth c b_MM_built2 "ClauseProverModel" 7 (some .int) D kA (va_A (mmW kA z v σ) s.heap.size) := C
  obtain ⟨F, hFe⟩ : ∃ F, F = dd + 1 := ⟨_, rfl⟩
  obtain ⟨Lo, hLoe⟩ : ∃ Lo, Lo = 64 * dd + 64 := ⟨_, rfl⟩
  obtain ⟨σ0, hσ0⟩ : ∃ s0, s0 = σ := ⟨_, rfl⟩
  suffices K : AW p l e { frames := F, cells := 0, slots := 0, locals := Lo } s m args below meth c D kA (va_A (mmW kA z v σ0) s.heap.size) 7 (ax_Qi below args s D kA (mmW kA z v σ0) 0 0 (fun r w1 => r = rf ∧ w1 = mmW kA z v σf)) 0 [(0, .ref z), (1, .int x0), (2, .int x1)] [] (mmW kA z v σ) 0 0 by rw [hFe, hLoe, hσ0] at K; exact ax_ls ([(0, .ref z), (1, .int x0), (2, .int x1)]) [0, 1, 2] rfl K
  have C : ax_C p s m args meth c b_MM_built2 "ClauseProverModel" 7 (some .int) D kA (va_A (mmW kA z v σ0) s.heap.size) := by rw [hσ0]; exact C
  have hF : dd + 1 ≤ F := by omega
  have hLo : 64 * dd + 64 ≤ Lo := by omega
  clear hFe hLoe hσ0
  refine ax_aload_n (pc := 0) C d_MM_built2_0 rfl 0 rfl ?_
  refine ax_iload_n (pc := 1) C d_MM_built2_1 rfl 1 rfl ?_
  obtain ⟨σ1, r1, d1_1, d2_1, h1, h, hd2, hd1⟩ := it_b h
  have hm : s_71 l D kA z v σ [x0] (σ1, r1, d1_1) := ih 71 _ _ _ h1
  refine mc_Vi (pc := 2) C (As := [.int x0]) (rest := []) (hm _ rfl) ml_MM_516 d_MM_built2_2 rfl rfl (by dsimp only; omega) (by dsimp only; omega) (Nat.le_of_ble_eq_true rfl) (Nat.le_of_ble_eq_true rfl) (Nat.le_of_ble_eq_true rfl) ?_
  have hF : d2_1 + 1 ≤ F := by omega
  have hLo : 64 * d2_1 + 64 ≤ Lo := by omega
  refine ax_istore_n (pc := 5) C d_MM_built2_5 rfl (Nat.le_of_ble_eq_true rfl) ([(3, .int r1), (0, .ref z), (1, .int x0), (2, .int x1)]) rfl ?_
  refine ax_iconst (pc := 6) C (-1) d_MM_built2_6 (by decide +kernel) ?_
  refine ax_istore (pc := 7) C d_MM_built2_7 (Nat.le_of_ble_eq_true rfl) ([(4, .int (-1)), (3, .int r1), (0, .ref z), (1, .int x0), (2, .int x1)]) rfl ?_
  refine ax_iload_n (pc := 9) C d_MM_built2_9 rfl 4 rfl ?_
  refine ax_istore (pc := 10) C d_MM_built2_10 (Nat.le_of_ble_eq_true rfl) ([(5, .int x1), (4, .int (-1)), (3, .int r1), (0, .ref z), (1, .int x0), (2, .int x1)]) rfl ?_
  refine ax_ls ([(0, .ref z), (1, .int x0), (2, .int x1), (3, .int r1), (4, .int (-1)), (5, .int x1)]) [3, 4, 5, 2, 1, 0] rfl ?_
  have hm : s_73 l D kA z v σ1 [x0, x1, r1, (-1), x1] (σf, rf, _) := ih 73 _ _ _ h
  exact hm _ _ _ _ _ rfl p e s m args below meth c F Lo σ0 hF hLo C
set_option maxHeartbeats 4000000 in
set_option maxRecDepth 100000 in
theorem o_73 (l : Launch) (D : va_G) (kA : Nat → ClassId) (z : Nat) (v : Nat → Nat) (rec : mF) (ih : ∀ t σ xs res, rec t σ xs = some res → mSem l D kA z v t σ xs res) (σ : mS) (xs : List Int32) (res : mR) (h : k_73 rec σ xs = some res) : s_73 l D kA z v σ xs res := by
  intro x0 x1 x2 x3 x4 hxs
  subst hxs
  obtain ⟨σf, rf, dd⟩ := res
  have h : (if x4 < 0 then (some (σ, x2, 0)) else (bnd (rec 66 σ [x4]) (fun σ1 r1 => if 0 ≤ x3 then (if bin x3 420000 = true then (lt_ (mA σ1 45 (Int32.toNatClampNeg x3) r1) (fun σ2 => rec 74 σ2 [x0, x1, x2, x3, x4, r1])) else none) else (if bin x2 420000 = true then (lt_ (mA σ1 44 (Int32.toNatClampNeg x2) r1) (fun σ3 => rec 74 σ3 [x0, x1, x2, x3, x4, r1])) else none)))) = some (σf, rf, dd) := h
  intro p e s m args below meth c F Lo σ0 hF hLo C
  dsimp only at hF hLo ⊢
  refine ax_iload (pc := 12) C d_MM_built2_12 5 rfl ?_
  refine ax_if_lt (pc := 14) C 82 d_MM_built2_14 (by decide) (fun hc => ?_) (fun hc => ?_)
  · have h := it_t hc h
    refine ax_iload_n (pc := 82) C d_MM_built2_82 rfl 3 rfl ?_
    cases h
    exact ax_iret (pc := 83) C d_MM_built2_83 ⟨rfl, rfl⟩ (Nat.le_refl _) (Nat.le_refl _)
  · have h := it_f hc h
    refine ax_aload_n (pc := 17) C d_MM_built2_17 rfl 0 rfl ?_
    refine ax_iload (pc := 18) C d_MM_built2_18 5 rfl ?_
    obtain ⟨σ1, r1, d1_1, d2_1, h1, h, hd2, hd1⟩ := it_b h
    have hm : s_66 l D kA z v σ [x4] (σ1, r1, d1_1) := ih 66 _ _ _ h1
    refine mc_Vi (pc := 20) C (As := [.int x4]) (rest := []) (hm _ rfl) ml_MM_549 d_MM_built2_20 rfl rfl (by dsimp only; omega) (by dsimp only; omega) (Nat.le_of_ble_eq_true rfl) (Nat.le_of_ble_eq_true rfl) (Nat.le_of_ble_eq_true rfl) ?_
    have hF : d2_1 + 1 ≤ F := by omega
    have hLo : 64 * d2_1 + 64 ≤ Lo := by omega
    refine ax_istore (pc := 23) C d_MM_built2_23 (Nat.le_of_ble_eq_true rfl) ([(6, .int r1), (0, .ref z), (1, .int x0), (2, .int x1), (3, .int x2), (4, .int x3), (5, .int x4)]) rfl ?_
    refine ax_iload (pc := 25) C d_MM_built2_25 5 rfl ?_
    refine ax_if_ge (pc := 27) C 41 d_MM_built2_27 (by decide) (fun hc => ?_) (fun hc => ?_)
    · have h := it_t hc h
      refine ax_aload_n (pc := 41) C d_MM_built2_41 rfl 1 rfl ?_
      refine mg_151 (pc := 42) C d_MM_built2_42 ?_
      refine ax_iload (pc := 45) C d_MM_built2_45 5 rfl ?_
      refine ax_iload (pc := 47) C d_MM_built2_47 0 rfl ?_
      obtain ⟨hb, h⟩ := it_g h
      refine ms_45 (pc := 49) C d_MM_built2_49 (bin_in hb) ?_
      have h := it_l h
      generalize mA σ1 45 (Int32.toNatClampNeg x3) r1 = σ2 at h ⊢
      refine ax_ls ([(0, .ref z), (1, .int x0), (2, .int x1), (3, .int x2), (4, .int x3), (5, .int x4), (6, .int r1)]) [1, 2, 3, 4, 5, 6, 0] rfl ?_
      have hm : s_74 l D kA z v σ2 [x0, x1, x2, x3, x4, r1] (σf, rf, _) := ih 74 _ _ _ h
      exact hm _ _ _ _ _ _ rfl p e s m args below meth c F Lo σ0 hF hLo C
    · have h := it_f hc h
      refine ax_aload_n (pc := 30) C d_MM_built2_30 rfl 1 rfl ?_
      refine mg_148 (pc := 31) C d_MM_built2_31 ?_
      refine ax_iload_n (pc := 34) C d_MM_built2_34 rfl 4 rfl ?_
      refine ax_iload (pc := 35) C d_MM_built2_35 0 rfl ?_
      obtain ⟨hb, h⟩ := it_g h
      refine ms_44 (pc := 37) C d_MM_built2_37 (bin_in hb) ?_
      have h := it_l h
      generalize mA σ1 44 (Int32.toNatClampNeg x2) r1 = σ3 at h ⊢
      refine ax_goto (pc := 38) C 50 d_MM_built2_38 (by decide) ?_
      refine ax_ls ([(0, .ref z), (1, .int x0), (2, .int x1), (3, .int x2), (4, .int x3), (5, .int x4), (6, .int r1)]) [1, 2, 3, 4, 5, 6, 0] rfl ?_
      have hm : s_74 l D kA z v σ3 [x0, x1, x2, x3, x4, r1] (σf, rf, _) := ih 74 _ _ _ h
      exact hm _ _ _ _ _ _ rfl p e s m args below meth c F Lo σ0 hF hLo C
set_option maxHeartbeats 4000000 in
set_option maxRecDepth 100000 in
theorem o_74 (l : Launch) (D : va_G) (kA : Nat → ClassId) (z : Nat) (v : Nat → Nat) (rec : mF) (ih : ∀ t σ xs res, rec t σ xs = some res → mSem l D kA z v t σ xs res) (σ : mS) (xs : List Int32) (res : mR) (h : k_74 rec σ xs = some res) : s_74 l D kA z v σ xs res := by
  intro x0 x1 x2 x3 x4 x5 hxs
  subst hxs
  obtain ⟨σf, rf, dd⟩ := res
  have h : (if bin x2 420000 = true then (if bin x5 420000 = true then (if bin x2 420000 = true then (lt_ (mA σ 46 (Int32.toNatClampNeg x2) (((σ.2.1 46 (Int32.toNatClampNeg x2)) : Int32) + (σ.2.1 46 (Int32.toNatClampNeg x5)))) (fun σ1 => if bin x4 20100 = true then (rec 73 σ1 [x0, x1, x2, x5, (σ1.2.1 36 (Int32.toNatClampNeg x4))]) else none)) else none) else none) else none) = some (σf, rf, dd) := h
  intro p e s m args below meth c F Lo σ0 hF hLo C
  dsimp only at hF hLo ⊢
  refine ax_iload (pc := 50) C d_MM_built2_50 6 rfl ?_
  refine ax_istore (pc := 52) C d_MM_built2_52 (Nat.le_of_ble_eq_true rfl) ([(4, .int x5), (0, .ref z), (1, .int x0), (2, .int x1), (3, .int x2), (5, .int x4), (6, .int x5)]) rfl ?_
  refine ax_aload_n (pc := 54) C d_MM_built2_54 rfl 1 rfl ?_
  refine mg_154 (pc := 55) C d_MM_built2_55 ?_
  refine ax_iload_n (pc := 58) C d_MM_built2_58 rfl 4 rfl ?_
  refine ax_dup2 (pc := 59) C d_MM_built2_59 rfl rfl ?_
  obtain ⟨hb, h⟩ := it_g h
  refine ml_46 (pc := 60) C d_MM_built2_60 (bin_in hb) ?_
  refine ax_aload_n (pc := 61) C d_MM_built2_61 rfl 1 rfl ?_
  refine mg_154 (pc := 62) C d_MM_built2_62 ?_
  refine ax_iload (pc := 65) C d_MM_built2_65 6 rfl ?_
  obtain ⟨hb, h⟩ := it_g h
  refine ml_46 (pc := 67) C d_MM_built2_67 (bin_in hb) ?_
  refine ax_iadd (pc := 68) C d_MM_built2_68 ?_
  obtain ⟨hb, h⟩ := it_g h
  refine ms_46 (pc := 69) C d_MM_built2_69 (bin_in hb) ?_
  have h := it_l h
  generalize mA σ 46 (Int32.toNatClampNeg x2) (((σ.2.1 46 (Int32.toNatClampNeg x2)) : Int32) + (σ.2.1 46 (Int32.toNatClampNeg x5))) = σ1 at h ⊢
  refine ax_aload_n (pc := 70) C d_MM_built2_70 rfl 1 rfl ?_
  refine mg_123 (pc := 71) C d_MM_built2_71 ?_
  refine ax_iload (pc := 74) C d_MM_built2_74 5 rfl ?_
  obtain ⟨hb, h⟩ := it_g h
  refine ml_36 (pc := 76) C d_MM_built2_76 (bin_in hb) ?_
  refine ax_istore (pc := 77) C d_MM_built2_77 (Nat.le_of_ble_eq_true rfl) ([(5, .int (σ1.2.1 36 (Int32.toNatClampNeg x4))), (4, .int x5), (0, .ref z), (1, .int x0), (2, .int x1), (3, .int x2), (6, .int x5)]) rfl ?_
  refine ax_goto (pc := 79) C 12 d_MM_built2_79 (by decide) ?_
  refine ax_ls ([(0, .ref z), (1, .int x0), (2, .int x1), (3, .int x2), (4, .int x5), (5, .int (σ1.2.1 36 (Int32.toNatClampNeg x4)))]) [2, 3, 4, 5, 1, 0] rfl ?_
  have hm : s_73 l D kA z v σ1 [x0, x1, x2, x5, (σ1.2.1 36 (Int32.toNatClampNeg x4))] (σf, rf, _) := ih 73 _ _ _ h
  exact hm _ _ _ _ _ rfl p e s m args below meth c F Lo σ0 hF hLo C
set_option maxHeartbeats 4000000 in
set_option maxRecDepth 100000 in
theorem o_75 (l : Launch) (D : va_G) (kA : Nat → ClassId) (z : Nat) (v : Nat → Nat) (rec : mF) (ih : ∀ t σ xs res, rec t σ xs = some res → mSem l D kA z v t σ xs res) (σ : mS) (xs : List Int32) (res : mR) (h : k_75 rec σ xs = some res) : s_75 l D kA z v σ xs res := by
  intro x0 x1 hxs
  subst hxs
  obtain ⟨σf, rf, dd⟩ := res
  have h : (lt_ (mI σ 98 0) (fun σ1 => rec 76 σ1 [x0, x1, 0, x0])) = some (σf, rf, dd) := h
  refine ax_Mi.of (by decide +kernel) (Nat.le_of_ble_eq_true rfl) ?_
  intro p e s m args below meth c C hnm
  have C : ax_C p s m args meth c b_MM_fits "ClauseProverModel" 5 (some .boolean) D kA (va_A (mmW kA z v σ) s.heap.size) := C
  obtain ⟨F, hFe⟩ : ∃ F, F = dd + 1 := ⟨_, rfl⟩
  obtain ⟨Lo, hLoe⟩ : ∃ Lo, Lo = 64 * dd + 64 := ⟨_, rfl⟩
  obtain ⟨σ0, hσ0⟩ : ∃ s0, s0 = σ := ⟨_, rfl⟩
  suffices K : AW p l e { frames := F, cells := 0, slots := 0, locals := Lo } s m args below meth c D kA (va_A (mmW kA z v σ0) s.heap.size) 5 (ax_Qi below args s D kA (mmW kA z v σ0) 0 0 (fun r w1 => r = rf ∧ w1 = mmW kA z v σf)) 0 [(0, .ref z), (1, .int x0), (2, .int x1)] [] (mmW kA z v σ) 0 0 by rw [hFe, hLoe, hσ0] at K; exact ax_ls ([(0, .ref z), (1, .int x0), (2, .int x1)]) [0, 1, 2] rfl K
  have C : ax_C p s m args meth c b_MM_fits "ClauseProverModel" 5 (some .boolean) D kA (va_A (mmW kA z v σ0) s.heap.size) := by rw [hσ0]; exact C
  have hF : dd + 1 ≤ F := by omega
  have hLo : 64 * dd + 64 ≤ Lo := by omega
  clear hFe hLoe hσ0
  refine ax_iconst (pc := 0) C 0 d_MM_fits_0 (by decide +kernel) ?_
  refine ax_istore_n (pc := 1) C d_MM_fits_1 rfl (Nat.le_of_ble_eq_true rfl) ([(3, .int 0), (0, .ref z), (1, .int x0), (2, .int x1)]) rfl ?_
  refine ax_aload_n (pc := 2) C d_MM_fits_2 rfl 1 rfl ?_
  refine ax_iconst (pc := 3) C 0 d_MM_fits_3 (by decide +kernel) ?_
  refine mp_311 (pc := 4) C d_MM_fits_4 ?_
  have h := it_l h
  generalize mI σ 98 0 = σ1 at h ⊢
  refine ax_iload_n (pc := 7) C d_MM_fits_7 rfl 2 rfl ?_
  refine ax_istore (pc := 8) C d_MM_fits_8 (Nat.le_of_ble_eq_true rfl) ([(4, .int x0), (3, .int 0), (0, .ref z), (1, .int x0), (2, .int x1)]) rfl ?_
  refine ax_ls ([(0, .ref z), (1, .int x0), (2, .int x1), (3, .int 0), (4, .int x0)]) [2, 3, 4, 1, 0] rfl ?_
  have hm : s_76 l D kA z v σ1 [x0, x1, 0, x0] (σf, rf, _) := ih 76 _ _ _ h
  exact hm _ _ _ _ rfl p e s m args below meth c F Lo σ0 hF hLo C
set_option maxHeartbeats 4000000 in
set_option maxRecDepth 100000 in
theorem o_76 (l : Launch) (D : va_G) (kA : Nat → ClassId) (z : Nat) (v : Nat → Nat) (rec : mF) (ih : ∀ t σ xs res, rec t σ xs = some res → mSem l D kA z v t σ xs res) (σ : mS) (xs : List Int32) (res : mR) (h : k_76 rec σ xs = some res) : s_76 l D kA z v σ xs res := by
  intro x0 x1 x2 x3 hxs
  subst hxs
  obtain ⟨σf, rf, dd⟩ := res
  have h : (if ((x0 : Int32) + x1) ≤ x3 then (if 100 < x2 then (rec 77 σ [x0, x1, x2, x3]) else (bnd (rec 80 σ []) (fun σ1 r1 => if 6 < r1 then (rec 77 σ1 [x0, x1, x2, x3]) else (rec 78 σ1 [x0, x1, x2, x3, 1])))) else (if bin x3 28800 = true then (if bin (σ.2.1 63 (Int32.toNatClampNeg x3)) 420000 = true then (if bin ((x3 : Int32) + 1) 28800 = true then (if bin (σ.2.1 63 (Int32.toNatClampNeg ((x3 : Int32) + 1))) 420000 = true then (if bin x3 28800 = true then (if bin ((x3 : Int32) + 1) 28800 = true then (bnd (rec 79 σ [(σ.2.1 63 (Int32.toNatClampNeg x3)), (σ.2.1 63 (Int32.toNatClampNeg ((x3 : Int32) + 1))), 1]) (fun σ2 r2 => rec 76 σ2 [x0, x1, ((x2 : Int32) + (((σ.2.1 46 (Int32.toNatClampNeg (σ.2.1 63 (Int32.toNatClampNeg x3)))) : Int32) + (σ.2.1 46 (Int32.toNatClampNeg (σ.2.1 63 (Int32.toNatClampNeg ((x3 : Int32) + 1))))))), (x3 + 3)])) else none) else none) else none) else none) else none) else none)) = some (σf, rf, dd) := h
  intro p e s m args below meth c F Lo σ0 hF hLo C
  dsimp only at hF hLo ⊢
  refine ax_iload (pc := 10) C d_MM_fits_10 4 rfl ?_
  refine ax_iload_n (pc := 12) C d_MM_fits_12 rfl 1 rfl ?_
  refine ax_iload_n (pc := 13) C d_MM_fits_13 rfl 2 rfl ?_
  refine ax_iadd (pc := 14) C d_MM_fits_14 ?_
  refine ax_icmp_ge (pc := 15) C 75 d_MM_fits_15 (by decide) (fun hc => ?_) (fun hc => ?_)
  · have h := it_t hc h
    refine ax_iload_n (pc := 75) C d_MM_fits_75 rfl 3 rfl ?_
    refine ax_bipush (pc := 76) C 100 d_MM_fits_76 (by decide +kernel) ?_
    refine ax_icmp_gt (pc := 78) C 94 d_MM_fits_78 (by decide) (fun hc => ?_) (fun hc => ?_)
    · have h := it_t hc h
      refine ax_ls ([(0, .ref z), (1, .int x0), (2, .int x1), (3, .int x2), (4, .int x3)]) [0, 1, 2, 3, 4] rfl ?_
      have hm : s_77 l D kA z v σ [x0, x1, x2, x3] (σf, rf, _) := ih 77 _ _ _ h
      exact hm _ _ _ _ rfl p e s m args below meth c F Lo σ0 hF hLo C
    · have h := it_f hc h
      refine ax_aload_n (pc := 81) C d_MM_fits_81 rfl 0 rfl ?_
      obtain ⟨σ1, r1, d1_1, d2_1, h1, h, hd2, hd1⟩ := it_b h
      have hm : s_80 l D kA z v σ [] (σ1, r1, d1_1) := ih 80 _ _ _ h1
      refine mc_Vi (pc := 82) C (As := []) (rest := []) (hm rfl) ml_MM_638 d_MM_fits_82 rfl rfl (by dsimp only; omega) (by dsimp only; omega) (Nat.le_of_ble_eq_true rfl) (Nat.le_of_ble_eq_true rfl) (Nat.le_of_ble_eq_true rfl) ?_
      have hF : d2_1 + 1 ≤ F := by omega
      have hLo : 64 * d2_1 + 64 ≤ Lo := by omega
      refine ax_bipush (pc := 85) C 6 d_MM_fits_85 (by decide +kernel) ?_
      refine ax_icmp_gt (pc := 87) C 94 d_MM_fits_87 (by decide) (fun hc => ?_) (fun hc => ?_)
      · have h := it_t hc h
        refine ax_ls ([(0, .ref z), (1, .int x0), (2, .int x1), (3, .int x2), (4, .int x3)]) [0, 1, 2, 3, 4] rfl ?_
        have hm : s_77 l D kA z v σ1 [x0, x1, x2, x3] (σf, rf, _) := ih 77 _ _ _ h
        exact hm _ _ _ _ rfl p e s m args below meth c F Lo σ0 hF hLo C
      · have h := it_f hc h
        refine ax_iconst (pc := 90) C 1 d_MM_fits_90 (by decide +kernel) ?_
        refine ax_goto (pc := 91) C 95 d_MM_fits_91 (by decide) ?_
        refine ax_ls ([(0, .ref z), (1, .int x0), (2, .int x1), (3, .int x2), (4, .int x3)]) [0, 1, 2, 3, 4] rfl ?_
        have hm : s_78 l D kA z v σ1 [x0, x1, x2, x3, 1] (σf, rf, _) := ih 78 _ _ _ h
        exact hm _ _ _ _ _ rfl p e s m args below meth c F Lo σ0 hF hLo C
  · have h := it_f hc h
    refine ax_iload_n (pc := 18) C d_MM_fits_18 rfl 3 rfl ?_
    refine ax_aload_n (pc := 19) C d_MM_fits_19 rfl 0 rfl ?_
    refine mg_154 (pc := 20) C d_MM_fits_20 ?_
    refine ax_aload_n (pc := 23) C d_MM_fits_23 rfl 0 rfl ?_
    refine mg_205 (pc := 24) C d_MM_fits_24 ?_
    refine ax_iload (pc := 27) C d_MM_fits_27 4 rfl ?_
    obtain ⟨hb, h⟩ := it_g h
    refine ml_63 (pc := 29) C d_MM_fits_29 (bin_in hb) ?_
    obtain ⟨hb, h⟩ := it_g h
    refine ml_46 (pc := 30) C d_MM_fits_30 (bin_in hb) ?_
    refine ax_aload_n (pc := 31) C d_MM_fits_31 rfl 0 rfl ?_
    refine mg_154 (pc := 32) C d_MM_fits_32 ?_
    refine ax_aload_n (pc := 35) C d_MM_fits_35 rfl 0 rfl ?_
    refine mg_205 (pc := 36) C d_MM_fits_36 ?_
    refine ax_iload (pc := 39) C d_MM_fits_39 4 rfl ?_
    refine ax_iconst (pc := 41) C 1 d_MM_fits_41 (by decide +kernel) ?_
    refine ax_iadd (pc := 42) C d_MM_fits_42 ?_
    obtain ⟨hb, h⟩ := it_g h
    refine ml_63 (pc := 43) C d_MM_fits_43 (bin_in hb) ?_
    obtain ⟨hb, h⟩ := it_g h
    refine ml_46 (pc := 44) C d_MM_fits_44 (bin_in hb) ?_
    refine ax_iadd (pc := 45) C d_MM_fits_45 ?_
    refine ax_iadd (pc := 46) C d_MM_fits_46 ?_
    refine ax_istore_n (pc := 47) C d_MM_fits_47 rfl (Nat.le_of_ble_eq_true rfl) ([(3, .int ((x2 : Int32) + (((σ.2.1 46 (Int32.toNatClampNeg (σ.2.1 63 (Int32.toNatClampNeg x3)))) : Int32) + (σ.2.1 46 (Int32.toNatClampNeg (σ.2.1 63 (Int32.toNatClampNeg ((x3 : Int32) + 1)))))))), (0, .ref z), (1, .int x0), (2, .int x1), (4, .int x3)]) rfl ?_
    refine ax_aload_n (pc := 48) C d_MM_fits_48 rfl 1 rfl ?_
    refine ax_aload_n (pc := 49) C d_MM_fits_49 rfl 1 rfl ?_
    refine mg_205 (pc := 50) C d_MM_fits_50 ?_
    refine ax_iload (pc := 53) C d_MM_fits_53 4 rfl ?_
    obtain ⟨hb, h⟩ := it_g h
    refine ml_63 (pc := 55) C d_MM_fits_55 (bin_in hb) ?_
    refine ax_aload_n (pc := 56) C d_MM_fits_56 rfl 1 rfl ?_
    refine mg_205 (pc := 57) C d_MM_fits_57 ?_
    refine ax_iload (pc := 60) C d_MM_fits_60 4 rfl ?_
    refine ax_iconst (pc := 62) C 1 d_MM_fits_62 (by decide +kernel) ?_
    refine ax_iadd (pc := 63) C d_MM_fits_63 ?_
    obtain ⟨hb, h⟩ := it_g h
    refine ml_63 (pc := 64) C d_MM_fits_64 (bin_in hb) ?_
    refine ax_iconst (pc := 65) C 1 d_MM_fits_65 (by decide +kernel) ?_
    obtain ⟨σ2, r2, d1_2, d2_2, h1, h, hd2, hd1⟩ := it_b h
    have hm : s_79 l D kA z v σ [(σ.2.1 63 (Int32.toNatClampNeg x3)), (σ.2.1 63 (Int32.toNatClampNeg ((x3 : Int32) + 1))), 1] (σ2, r2, d1_2) := ih 79 _ _ _ h1
    refine mc_Vv (pc := 66) C (As := [.int (σ.2.1 63 (Int32.toNatClampNeg x3)), .int (σ.2.1 63 (Int32.toNatClampNeg ((x3 : Int32) + 1))), .int 1]) (rest := []) (hm _ _ _ rfl) ml_MM_634 d_MM_fits_66 rfl rfl (by dsimp only; omega) (by dsimp only; omega) (Nat.le_of_ble_eq_true rfl) (Nat.le_of_ble_eq_true rfl) (Nat.le_of_ble_eq_true rfl) ?_
    have hF : d2_2 + 1 ≤ F := by omega
    have hLo : 64 * d2_2 + 64 ≤ Lo := by omega
    refine ax_iinc (pc := 69) C (x3 + 3) d_MM_fits_69 4 rfl rfl (Nat.le_of_ble_eq_true rfl) ([(4, .int (x3 + 3)), (3, .int ((x2 : Int32) + (((σ.2.1 46 (Int32.toNatClampNeg (σ.2.1 63 (Int32.toNatClampNeg x3)))) : Int32) + (σ.2.1 46 (Int32.toNatClampNeg (σ.2.1 63 (Int32.toNatClampNeg ((x3 : Int32) + 1)))))))), (0, .ref z), (1, .int x0), (2, .int x1)]) rfl ?_
    refine ax_goto (pc := 72) C 10 d_MM_fits_72 (by decide) ?_
    refine ax_ls ([(0, .ref z), (1, .int x0), (2, .int x1), (3, .int ((x2 : Int32) + (((σ.2.1 46 (Int32.toNatClampNeg (σ.2.1 63 (Int32.toNatClampNeg x3)))) : Int32) + (σ.2.1 46 (Int32.toNatClampNeg (σ.2.1 63 (Int32.toNatClampNeg ((x3 : Int32) + 1)))))))), (4, .int (x3 + 3))]) [2, 3, 4, 1, 0] rfl ?_
    have hm : s_76 l D kA z v σ2 [x0, x1, ((x2 : Int32) + (((σ.2.1 46 (Int32.toNatClampNeg (σ.2.1 63 (Int32.toNatClampNeg x3)))) : Int32) + (σ.2.1 46 (Int32.toNatClampNeg (σ.2.1 63 (Int32.toNatClampNeg ((x3 : Int32) + 1))))))), (x3 + 3)] (σf, rf, _) := ih 76 _ _ _ h
    exact hm _ _ _ _ rfl p e s m args below meth c F Lo σ0 hF hLo C
set_option maxHeartbeats 4000000 in
set_option maxRecDepth 100000 in
theorem o_77 (l : Launch) (D : va_G) (kA : Nat → ClassId) (z : Nat) (v : Nat → Nat) (rec : mF) (ih : ∀ t σ xs res, rec t σ xs = some res → mSem l D kA z v t σ xs res) (σ : mS) (xs : List Int32) (res : mR) (h : k_77 rec σ xs = some res) : s_77 l D kA z v σ xs res := by
  intro x0 x1 x2 x3 hxs
  subst hxs
  obtain ⟨σf, rf, dd⟩ := res
  have h : (rec 78 σ [x0, x1, x2, x3, 0]) = some (σf, rf, dd) := h
  intro p e s m args below meth c F Lo σ0 hF hLo C
  dsimp only at hF hLo ⊢
  refine ax_iconst (pc := 94) C 0 d_MM_fits_94 (by decide +kernel) ?_
  refine ax_ls ([(0, .ref z), (1, .int x0), (2, .int x1), (3, .int x2), (4, .int x3)]) [0, 1, 2, 3, 4] rfl ?_
  have hm : s_78 l D kA z v σ [x0, x1, x2, x3, 0] (σf, rf, _) := ih 78 _ _ _ h
  exact hm _ _ _ _ _ rfl p e s m args below meth c F Lo σ0 hF hLo C
set_option maxHeartbeats 4000000 in
set_option maxRecDepth 100000 in
theorem o_78 (l : Launch) (D : va_G) (kA : Nat → ClassId) (z : Nat) (v : Nat → Nat) (rec : mF) (ih : ∀ t σ xs res, rec t σ xs = some res → mSem l D kA z v t σ xs res) (σ : mS) (xs : List Int32) (res : mR) (h : k_78 rec σ xs = some res) : s_78 l D kA z v σ xs res := by
  intro x0 x1 x2 x3 x4 hxs
  subst hxs
  obtain ⟨σf, rf, dd⟩ := res
  have h : (if x4 = 0 ∨ x4 = 1 then some (σ, x4, 0) else none) = some (σf, rf, dd) := h
  intro p e s m args below meth c F Lo σ0 hF hLo C
  dsimp only at hF hLo ⊢
  obtain ⟨hb, h⟩ := it_g h
  cases h
  exact ax_zret (pc := 95) C d_MM_fits_95 (nb01 hb) ⟨rfl, rfl⟩ (Nat.le_refl _) (Nat.le_refl _)
set_option maxHeartbeats 4000000 in
set_option maxRecDepth 100000 in
theorem o_79 (l : Launch) (D : va_G) (kA : Nat → ClassId) (z : Nat) (v : Nat → Nat) (rec : mF) (ih : ∀ t σ xs res, rec t σ xs = some res → mSem l D kA z v t σ xs res) (σ : mS) (xs : List Int32) (res : mR) (h : k_79 rec σ xs = some res) : s_79 l D kA z v σ xs res := by
  intro x0 x1 x2 hxs
  subst hxs
  obtain ⟨σf, rf, dd⟩ := res
  have h : (if bin (σ.1 98) 40 = true then (lt_ (mA σ 95 (Int32.toNatClampNeg (σ.1 98)) x0) (fun σ1 => if bin (σ1.1 98) 40 = true then (lt_ (mA σ1 96 (Int32.toNatClampNeg (σ1.1 98)) x1) (fun σ2 => lt_ (mI σ2 98 (((σ2.1 98) : Int32) + 1)) (fun σ3 => if bin (σ2.1 98) 40 = true then (lt_ (mA σ3 97 (Int32.toNatClampNeg (σ2.1 98)) (vp_nar .boolean x2)) (fun σ4 => some (σ4, 0, 0))) else none))) else none)) else none) = some (σf, rf, dd) := h
  refine ax_Mv.of (by decide +kernel) (Nat.le_of_ble_eq_true rfl) ?_
  intro p e s m args below meth c C hnm
  have C : ax_C p s m args meth c b_MM_add "ClauseProverModel" 4 none D kA (va_A (mmW kA z v σ) s.heap.size) := C
  obtain ⟨F, hFe⟩ : ∃ F, F = dd + 1 := ⟨_, rfl⟩
  obtain ⟨Lo, hLoe⟩ : ∃ Lo, Lo = 64 * dd + 64 := ⟨_, rfl⟩
  obtain ⟨σ0, hσ0⟩ : ∃ s0, s0 = σ := ⟨_, rfl⟩
  suffices K : AW p l e { frames := F, cells := 0, slots := 0, locals := Lo } s m args below meth c D kA (va_A (mmW kA z v σ0) s.heap.size) 4 (ax_Qv below args s D kA (mmW kA z v σ0) 0 0 (fun w1 => w1 = mmW kA z v σf)) 0 [(0, .ref z), (1, .int x0), (2, .int x1), (3, .int x2)] [] (mmW kA z v σ) 0 0 by rw [hFe, hLoe, hσ0] at K; exact ax_ls ([(0, .ref z), (1, .int x0), (2, .int x1), (3, .int x2)]) [0, 1, 2, 3] rfl K
  have C : ax_C p s m args meth c b_MM_add "ClauseProverModel" 4 none D kA (va_A (mmW kA z v σ0) s.heap.size) := by rw [hσ0]; exact C
  have hF : dd + 1 ≤ F := by omega
  have hLo : 64 * dd + 64 ≤ Lo := by omega
  clear hFe hLoe hσ0
  refine ax_aload_n (pc := 0) C d_MM_add_0 rfl 0 rfl ?_
  refine mg_302 (pc := 1) C d_MM_add_1 ?_
  refine ax_aload_n (pc := 4) C d_MM_add_4 rfl 0 rfl ?_
  refine mg_311 (pc := 5) C d_MM_add_5 ?_
  refine ax_iload_n (pc := 8) C d_MM_add_8 rfl 1 rfl ?_
  obtain ⟨hb, h⟩ := it_g h
  refine ms_95 (pc := 9) C d_MM_add_9 (bin_in hb) ?_
  have h := it_l h
  generalize mA σ 95 (Int32.toNatClampNeg (σ.1 98)) x0 = σ1 at h ⊢
  refine ax_aload_n (pc := 10) C d_MM_add_10 rfl 0 rfl ?_
  refine mg_305 (pc := 11) C d_MM_add_11 ?_
  refine ax_aload_n (pc := 14) C d_MM_add_14 rfl 0 rfl ?_
  refine mg_311 (pc := 15) C d_MM_add_15 ?_
  refine ax_iload_n (pc := 18) C d_MM_add_18 rfl 2 rfl ?_
  obtain ⟨hb, h⟩ := it_g h
  refine ms_96 (pc := 19) C d_MM_add_19 (bin_in hb) ?_
  have h := it_l h
  generalize mA σ1 96 (Int32.toNatClampNeg (σ1.1 98)) x1 = σ2 at h ⊢
  refine ax_aload_n (pc := 20) C d_MM_add_20 rfl 0 rfl ?_
  refine mg_308 (pc := 21) C d_MM_add_21 ?_
  refine ax_aload_n (pc := 24) C d_MM_add_24 rfl 0 rfl ?_
  refine ax_dup (pc := 25) C d_MM_add_25 rfl ?_
  refine mg_311 (pc := 26) C d_MM_add_26 ?_
  refine ax_dup_x1 (pc := 29) C d_MM_add_29 rfl rfl ?_
  refine ax_iconst (pc := 30) C 1 d_MM_add_30 (by decide +kernel) ?_
  refine ax_iadd (pc := 31) C d_MM_add_31 ?_
  refine mp_311 (pc := 32) C d_MM_add_32 ?_
  have h := it_l h
  generalize mI σ2 98 (((σ2.1 98) : Int32) + 1) = σ3 at h ⊢
  refine ax_iload_n (pc := 35) C d_MM_add_35 rfl 3 rfl ?_
  obtain ⟨hb, h⟩ := it_g h
  refine ms_97 (pc := 36) C d_MM_add_36 (bin_in hb) ?_
  have h := it_l h
  generalize mA σ3 97 (Int32.toNatClampNeg (σ2.1 98)) (vp_nar .boolean x2) = σ4 at h ⊢
  cases h
  exact ax_vret (pc := 37) C d_MM_add_37 rfl (Nat.le_refl _) (Nat.le_refl _)
set_option maxHeartbeats 4000000 in
set_option maxRecDepth 100000 in
theorem o_80 (l : Launch) (D : va_G) (kA : Nat → ClassId) (z : Nat) (v : Nat → Nat) (rec : mF) (ih : ∀ t σ xs res, rec t σ xs = some res → mSem l D kA z v t σ xs res) (σ : mS) (xs : List Int32) (res : mR) (h : k_80 rec σ xs = some res) : s_80 l D kA z v σ xs res := by
  intro hxs
  subst hxs
  obtain ⟨σf, rf, dd⟩ := res
  have h : (lt_ (mI σ 101 0) (fun σ1 => rec 81 σ1 [0])) = some (σf, rf, dd) := h
  refine ax_Mi.of (by decide +kernel) (Nat.le_of_ble_eq_true rfl) ?_
  intro p e s m args below meth c C hnm
  have C : ax_C p s m args meth c b_MM_distinct "ClauseProverModel" 2 (some .int) D kA (va_A (mmW kA z v σ) s.heap.size) := C
  obtain ⟨F, hFe⟩ : ∃ F, F = dd + 1 := ⟨_, rfl⟩
  obtain ⟨Lo, hLoe⟩ : ∃ Lo, Lo = 64 * dd + 64 := ⟨_, rfl⟩
  obtain ⟨σ0, hσ0⟩ : ∃ s0, s0 = σ := ⟨_, rfl⟩
  suffices K : AW p l e { frames := F, cells := 0, slots := 0, locals := Lo } s m args below meth c D kA (va_A (mmW kA z v σ0) s.heap.size) 2 (ax_Qi below args s D kA (mmW kA z v σ0) 0 0 (fun r w1 => r = rf ∧ w1 = mmW kA z v σf)) 0 [(0, .ref z)] [] (mmW kA z v σ) 0 0 by rw [hFe, hLoe, hσ0] at K; exact ax_ls ([(0, .ref z)]) [0] rfl K
  have C : ax_C p s m args meth c b_MM_distinct "ClauseProverModel" 2 (some .int) D kA (va_A (mmW kA z v σ0) s.heap.size) := by rw [hσ0]; exact C
  have hF : dd + 1 ≤ F := by omega
  have hLo : 64 * dd + 64 ≤ Lo := by omega
  clear hFe hLoe hσ0
  refine ax_aload_n (pc := 0) C d_MM_distinct_0 rfl 0 rfl ?_
  refine ax_iconst (pc := 1) C 0 d_MM_distinct_1 (by decide +kernel) ?_
  refine mp_320 (pc := 2) C d_MM_distinct_2 ?_
  have h := it_l h
  generalize mI σ 101 0 = σ1 at h ⊢
  refine ax_iconst (pc := 5) C 0 d_MM_distinct_5 (by decide +kernel) ?_
  refine ax_istore_n (pc := 6) C d_MM_distinct_6 rfl (Nat.le_of_ble_eq_true rfl) ([(1, .int 0), (0, .ref z)]) rfl ?_
  refine ax_ls ([(0, .ref z), (1, .int 0)]) [1, 0] rfl ?_
  have hm : s_81 l D kA z v σ1 [0] (σf, rf, _) := ih 81 _ _ _ h
  exact hm _ rfl p e s m args below meth c F Lo σ0 hF hLo C
set_option maxHeartbeats 4000000 in
set_option maxRecDepth 100000 in
theorem o_81 (l : Launch) (D : va_G) (kA : Nat → ClassId) (z : Nat) (v : Nat → Nat) (rec : mF) (ih : ∀ t σ xs res, rec t σ xs = some res → mSem l D kA z v t σ xs res) (σ : mS) (xs : List Int32) (res : mR) (h : k_81 rec σ xs = some res) : s_81 l D kA z v σ xs res := by
  intro x0 hxs
  subst hxs
  obtain ⟨σf, rf, dd⟩ := res
  have h : (if (σ.1 98) ≤ x0 then (some (σ, (σ.1 101), 0)) else (if bin x0 40 = true then (bnd (rec 82 σ [(σ.2.1 95 (Int32.toNatClampNeg x0))]) (fun σ1 r1 => if bin x0 40 = true then (bnd (rec 82 σ1 [(σ1.2.1 96 (Int32.toNatClampNeg x0))]) (fun σ2 r2 => rec 81 σ2 [(x0 + 1)])) else none)) else none)) = some (σf, rf, dd) := h
  intro p e s m args below meth c F Lo σ0 hF hLo C
  dsimp only at hF hLo ⊢
  refine ax_iload_n (pc := 7) C d_MM_distinct_7 rfl 1 rfl ?_
  refine ax_aload_n (pc := 8) C d_MM_distinct_8 rfl 0 rfl ?_
  refine mg_311 (pc := 9) C d_MM_distinct_9 ?_
  refine ax_icmp_ge (pc := 12) C 41 d_MM_distinct_12 (by decide) (fun hc => ?_) (fun hc => ?_)
  · have h := it_t hc h
    refine ax_aload_n (pc := 41) C d_MM_distinct_41 rfl 0 rfl ?_
    refine mg_320 (pc := 42) C d_MM_distinct_42 ?_
    cases h
    exact ax_iret (pc := 45) C d_MM_distinct_45 ⟨rfl, rfl⟩ (Nat.le_refl _) (Nat.le_refl _)
  · have h := it_f hc h
    refine ax_aload_n (pc := 15) C d_MM_distinct_15 rfl 0 rfl ?_
    refine ax_aload_n (pc := 16) C d_MM_distinct_16 rfl 0 rfl ?_
    refine mg_302 (pc := 17) C d_MM_distinct_17 ?_
    refine ax_iload_n (pc := 20) C d_MM_distinct_20 rfl 1 rfl ?_
    obtain ⟨hb, h⟩ := it_g h
    refine ml_95 (pc := 21) C d_MM_distinct_21 (bin_in hb) ?_
    obtain ⟨σ1, r1, d1_1, d2_1, h1, h, hd2, hd1⟩ := it_b h
    have hm : s_82 l D kA z v σ [(σ.2.1 95 (Int32.toNatClampNeg x0))] (σ1, r1, d1_1) := ih 82 _ _ _ h1
    refine mc_Vv (pc := 22) C (As := [.int (σ.2.1 95 (Int32.toNatClampNeg x0))]) (rest := []) (hm _ rfl) ml_MM_583 d_MM_distinct_22 rfl rfl (by dsimp only; omega) (by dsimp only; omega) (Nat.le_of_ble_eq_true rfl) (Nat.le_of_ble_eq_true rfl) (Nat.le_of_ble_eq_true rfl) ?_
    have hF : d2_1 + 1 ≤ F := by omega
    have hLo : 64 * d2_1 + 64 ≤ Lo := by omega
    refine ax_aload_n (pc := 25) C d_MM_distinct_25 rfl 0 rfl ?_
    refine ax_aload_n (pc := 26) C d_MM_distinct_26 rfl 0 rfl ?_
    refine mg_305 (pc := 27) C d_MM_distinct_27 ?_
    refine ax_iload_n (pc := 30) C d_MM_distinct_30 rfl 1 rfl ?_
    obtain ⟨hb, h⟩ := it_g h
    refine ml_96 (pc := 31) C d_MM_distinct_31 (bin_in hb) ?_
    obtain ⟨σ2, r2, d1_2, d2_2, h1, h, hd2, hd1⟩ := it_b h
    have hm : s_82 l D kA z v σ1 [(σ1.2.1 96 (Int32.toNatClampNeg x0))] (σ2, r2, d1_2) := ih 82 _ _ _ h1
    refine mc_Vv (pc := 32) C (As := [.int (σ1.2.1 96 (Int32.toNatClampNeg x0))]) (rest := []) (hm _ rfl) ml_MM_583 d_MM_distinct_32 rfl rfl (by dsimp only; omega) (by dsimp only; omega) (Nat.le_of_ble_eq_true rfl) (Nat.le_of_ble_eq_true rfl) (Nat.le_of_ble_eq_true rfl) ?_
    have hF : d2_2 + 1 ≤ F := by omega
    have hLo : 64 * d2_2 + 64 ≤ Lo := by omega
    refine ax_iinc (pc := 35) C (x0 + 1) d_MM_distinct_35 1 rfl rfl (Nat.le_of_ble_eq_true rfl) ([(1, .int (x0 + 1)), (0, .ref z)]) rfl ?_
    refine ax_goto (pc := 38) C 7 d_MM_distinct_38 (by decide) ?_
    refine ax_ls ([(0, .ref z), (1, .int (x0 + 1))]) [1, 0] rfl ?_
    have hm : s_81 l D kA z v σ2 [(x0 + 1)] (σf, rf, _) := ih 81 _ _ _ h
    exact hm _ rfl p e s m args below meth c F Lo σ0 hF hLo C
set_option maxHeartbeats 4000000 in
set_option maxRecDepth 100000 in
theorem o_82 (l : Launch) (D : va_G) (kA : Nat → ClassId) (z : Nat) (v : Nat → Nat) (rec : mF) (ih : ∀ t σ xs res, rec t σ xs = some res → mSem l D kA z v t σ xs res) (σ : mS) (xs : List Int32) (res : mR) (h : k_82 rec σ xs = some res) : s_82 l D kA z v σ xs res := by
  intro x0 hxs
  subst hxs
  obtain ⟨σf, rf, dd⟩ := res
  have h : (if bin x0 420000 = true then (if 0 ≤ (σ.2.1 43 (Int32.toNatClampNeg x0)) then (if bin x0 420000 = true then (rec 84 σ [x0, (σ.2.1 44 (Int32.toNatClampNeg x0))]) else none) else (rec 83 σ [x0, 0])) else none) = some (σf, rf, dd) := h
  refine ax_Mv.of (by decide +kernel) (Nat.le_of_ble_eq_true rfl) ?_
  intro p e s m args below meth c C hnm
  have C : ax_C p s m args meth c b_MM_note "ClauseProverModel" 3 none D kA (va_A (mmW kA z v σ) s.heap.size) := C
  obtain ⟨F, hFe⟩ : ∃ F, F = dd + 1 := ⟨_, rfl⟩
  obtain ⟨Lo, hLoe⟩ : ∃ Lo, Lo = 64 * dd + 64 := ⟨_, rfl⟩
  obtain ⟨σ0, hσ0⟩ : ∃ s0, s0 = σ := ⟨_, rfl⟩
  suffices K : AW p l e { frames := F, cells := 0, slots := 0, locals := Lo } s m args below meth c D kA (va_A (mmW kA z v σ0) s.heap.size) 3 (ax_Qv below args s D kA (mmW kA z v σ0) 0 0 (fun w1 => w1 = mmW kA z v σf)) 0 [(0, .ref z), (1, .int x0)] [] (mmW kA z v σ) 0 0 by rw [hFe, hLoe, hσ0] at K; exact ax_ls ([(0, .ref z), (1, .int x0)]) [0, 1] rfl K
  have C : ax_C p s m args meth c b_MM_note "ClauseProverModel" 3 none D kA (va_A (mmW kA z v σ0) s.heap.size) := by rw [hσ0]; exact C
  have hF : dd + 1 ≤ F := by omega
  have hLo : 64 * dd + 64 ≤ Lo := by omega
  clear hFe hLoe hσ0
  refine ax_aload_n (pc := 0) C d_MM_note_0 rfl 0 rfl ?_
  refine mg_145 (pc := 1) C d_MM_note_1 ?_
  refine ax_iload_n (pc := 4) C d_MM_note_4 rfl 1 rfl ?_
  obtain ⟨hb, h⟩ := it_g h
  refine ml_43 (pc := 5) C d_MM_note_5 (bin_in hb) ?_
  refine ax_if_ge (pc := 6) C 64 d_MM_note_6 (by decide) (fun hc => ?_) (fun hc => ?_)
  · have h := it_t hc h
    refine ax_aload_n (pc := 64) C d_MM_note_64 rfl 0 rfl ?_
    refine mg_148 (pc := 65) C d_MM_note_65 ?_
    refine ax_iload_n (pc := 68) C d_MM_note_68 rfl 1 rfl ?_
    obtain ⟨hb, h⟩ := it_g h
    refine ml_44 (pc := 69) C d_MM_note_69 (bin_in hb) ?_
    refine ax_istore_n (pc := 70) C d_MM_note_70 rfl (Nat.le_of_ble_eq_true rfl) ([(2, .int (σ.2.1 44 (Int32.toNatClampNeg x0))), (0, .ref z), (1, .int x0)]) rfl ?_
    refine ax_ls ([(0, .ref z), (1, .int x0), (2, .int (σ.2.1 44 (Int32.toNatClampNeg x0)))]) [1, 2, 0] rfl ?_
    have hm : s_84 l D kA z v σ [x0, (σ.2.1 44 (Int32.toNatClampNeg x0))] (σf, rf, _) := ih 84 _ _ _ h
    exact hm _ _ rfl p e s m args below meth c F Lo σ0 hF hLo C
  · have h := it_f hc h
    refine ax_iconst (pc := 9) C 0 d_MM_note_9 (by decide +kernel) ?_
    refine ax_istore_n (pc := 10) C d_MM_note_10 rfl (Nat.le_of_ble_eq_true rfl) ([(2, .int 0), (0, .ref z), (1, .int x0)]) rfl ?_
    refine ax_ls ([(0, .ref z), (1, .int x0), (2, .int 0)]) [1, 2, 0] rfl ?_
    have hm : s_83 l D kA z v σ [x0, 0] (σf, rf, _) := ih 83 _ _ _ h
    exact hm _ _ rfl p e s m args below meth c F Lo σ0 hF hLo C
set_option maxHeartbeats 4000000 in
set_option maxRecDepth 100000 in
theorem o_83 (l : Launch) (D : va_G) (kA : Nat → ClassId) (z : Nat) (v : Nat → Nat) (rec : mF) (ih : ∀ t σ xs res, rec t σ xs = some res → mSem l D kA z v t σ xs res) (σ : mS) (xs : List Int32) (res : mR) (h : k_83 rec σ xs = some res) : s_83 l D kA z v σ xs res := by
  intro x0 x1 hxs
  subst hxs
  obtain ⟨σf, rf, dd⟩ := res
  have h : (if (σ.1 101) ≤ x1 then (lt_ (mI σ 101 (((σ.1 101) : Int32) + 1)) (fun σ1 => if bin x0 420000 = true then (if bin (σ.1 101) 400 = true then (lt_ (mA σ1 100 (Int32.toNatClampNeg (σ.1 101)) (σ1.2.1 43 (Int32.toNatClampNeg x0))) (fun σ2 => some (σ2, 0, 0))) else none) else none)) else (if bin x1 400 = true then (if bin x0 420000 = true then (if (σ.2.1 100 (Int32.toNatClampNeg x1)) = (σ.2.1 43 (Int32.toNatClampNeg x0)) then (some (σ, 0, 0)) else (rec 83 σ [x0, (x1 + 1)])) else none) else none)) = some (σf, rf, dd) := h
  intro p e s m args below meth c F Lo σ0 hF hLo C
  dsimp only at hF hLo ⊢
  refine ax_iload_n (pc := 11) C d_MM_note_11 rfl 2 rfl ?_
  refine ax_aload_n (pc := 12) C d_MM_note_12 rfl 0 rfl ?_
  refine mg_320 (pc := 13) C d_MM_note_13 ?_
  refine ax_icmp_ge (pc := 16) C 41 d_MM_note_16 (by decide) (fun hc => ?_) (fun hc => ?_)
  · have h := it_t hc h
    refine ax_aload_n (pc := 41) C d_MM_note_41 rfl 0 rfl ?_
    refine mg_317 (pc := 42) C d_MM_note_42 ?_
    refine ax_aload_n (pc := 45) C d_MM_note_45 rfl 0 rfl ?_
    refine ax_dup (pc := 46) C d_MM_note_46 rfl ?_
    refine mg_320 (pc := 47) C d_MM_note_47 ?_
    refine ax_dup_x1 (pc := 50) C d_MM_note_50 rfl rfl ?_
    refine ax_iconst (pc := 51) C 1 d_MM_note_51 (by decide +kernel) ?_
    refine ax_iadd (pc := 52) C d_MM_note_52 ?_
    refine mp_320 (pc := 53) C d_MM_note_53 ?_
    have h := it_l h
    generalize mI σ 101 (((σ.1 101) : Int32) + 1) = σ1 at h ⊢
    refine ax_aload_n (pc := 56) C d_MM_note_56 rfl 0 rfl ?_
    refine mg_145 (pc := 57) C d_MM_note_57 ?_
    refine ax_iload_n (pc := 60) C d_MM_note_60 rfl 1 rfl ?_
    obtain ⟨hb, h⟩ := it_g h
    refine ml_43 (pc := 61) C d_MM_note_61 (bin_in hb) ?_
    obtain ⟨hb, h⟩ := it_g h
    refine ms_100 (pc := 62) C d_MM_note_62 (bin_in hb) ?_
    have h := it_l h
    generalize mA σ1 100 (Int32.toNatClampNeg (σ.1 101)) (σ1.2.1 43 (Int32.toNatClampNeg x0)) = σ2 at h ⊢
    cases h
    exact ax_vret (pc := 63) C d_MM_note_63 rfl (Nat.le_refl _) (Nat.le_refl _)
  · have h := it_f hc h
    refine ax_aload_n (pc := 19) C d_MM_note_19 rfl 0 rfl ?_
    refine mg_317 (pc := 20) C d_MM_note_20 ?_
    refine ax_iload_n (pc := 23) C d_MM_note_23 rfl 2 rfl ?_
    obtain ⟨hb, h⟩ := it_g h
    refine ml_100 (pc := 24) C d_MM_note_24 (bin_in hb) ?_
    refine ax_aload_n (pc := 25) C d_MM_note_25 rfl 0 rfl ?_
    refine mg_145 (pc := 26) C d_MM_note_26 ?_
    refine ax_iload_n (pc := 29) C d_MM_note_29 rfl 1 rfl ?_
    obtain ⟨hb, h⟩ := it_g h
    refine ml_43 (pc := 30) C d_MM_note_30 (bin_in hb) ?_
    refine ax_icmp_ne (pc := 31) C 35 d_MM_note_31 (by decide) (fun hc => ?_) (fun hc => ?_)
    · have h := it_f hc h
      refine ax_iinc (pc := 35) C (x1 + 1) d_MM_note_35 2 rfl rfl (Nat.le_of_ble_eq_true rfl) ([(2, .int (x1 + 1)), (0, .ref z), (1, .int x0)]) rfl ?_
      refine ax_goto (pc := 38) C 11 d_MM_note_38 (by decide) ?_
      refine ax_ls ([(0, .ref z), (1, .int x0), (2, .int (x1 + 1))]) [1, 2, 0] rfl ?_
      have hm : s_83 l D kA z v σ [x0, (x1 + 1)] (σf, rf, _) := ih 83 _ _ _ h
      exact hm _ _ rfl p e s m args below meth c F Lo σ0 hF hLo C
    · have h := it_t hc h
      cases h
      exact ax_vret (pc := 34) C d_MM_note_34 rfl (Nat.le_refl _) (Nat.le_refl _)
set_option maxHeartbeats 4000000 in
set_option maxRecDepth 100000 in
theorem o_84 (l : Launch) (D : va_G) (kA : Nat → ClassId) (z : Nat) (v : Nat → Nat) (rec : mF) (ih : ∀ t σ xs res, rec t σ xs = some res → mSem l D kA z v t σ xs res) (σ : mS) (xs : List Int32) (res : mR) (h : k_84 rec σ xs = some res) : s_84 l D kA z v σ xs res := by
  intro x0 x1 hxs
  subst hxs
  obtain ⟨σf, rf, dd⟩ := res
  have h : (if x1 < 0 then (some (σ, 0, 0)) else (bnd (rec 82 σ [x1]) (fun σ1 r1 => if bin x1 420000 = true then (rec 84 σ1 [x0, (σ1.2.1 45 (Int32.toNatClampNeg x1))]) else none))) = some (σf, rf, dd) := h
  intro p e s m args below meth c F Lo σ0 hF hLo C
  dsimp only at hF hLo ⊢
  refine ax_iload_n (pc := 71) C d_MM_note_71 rfl 2 rfl ?_
  refine ax_if_lt (pc := 72) C 90 d_MM_note_72 (by decide) (fun hc => ?_) (fun hc => ?_)
  · have h := it_t hc h
    cases h
    exact ax_vret (pc := 90) C d_MM_note_90 rfl (Nat.le_refl _) (Nat.le_refl _)
  · have h := it_f hc h
    refine ax_aload_n (pc := 75) C d_MM_note_75 rfl 0 rfl ?_
    refine ax_iload_n (pc := 76) C d_MM_note_76 rfl 2 rfl ?_
    obtain ⟨σ1, r1, d1_1, d2_1, h1, h, hd2, hd1⟩ := it_b h
    have hm : s_82 l D kA z v σ [x1] (σ1, r1, d1_1) := ih 82 _ _ _ h1
    refine mc_Vv (pc := 77) C (As := [.int x1]) (rest := []) (hm _ rfl) ml_MM_583 d_MM_note_77 rfl rfl (by dsimp only; omega) (by dsimp only; omega) (Nat.le_of_ble_eq_true rfl) (Nat.le_of_ble_eq_true rfl) (Nat.le_of_ble_eq_true rfl) ?_
    have hF : d2_1 + 1 ≤ F := by omega
    have hLo : 64 * d2_1 + 64 ≤ Lo := by omega
    refine ax_aload_n (pc := 80) C d_MM_note_80 rfl 0 rfl ?_
    refine mg_151 (pc := 81) C d_MM_note_81 ?_
    refine ax_iload_n (pc := 84) C d_MM_note_84 rfl 2 rfl ?_
    obtain ⟨hb, h⟩ := it_g h
    refine ml_45 (pc := 85) C d_MM_note_85 (bin_in hb) ?_
    refine ax_istore_n (pc := 86) C d_MM_note_86 rfl (Nat.le_of_ble_eq_true rfl) ([(2, .int (σ1.2.1 45 (Int32.toNatClampNeg x1))), (0, .ref z), (1, .int x0)]) rfl ?_
    refine ax_goto (pc := 87) C 71 d_MM_note_87 (by decide) ?_
    refine ax_ls ([(0, .ref z), (1, .int x0), (2, .int (σ1.2.1 45 (Int32.toNatClampNeg x1)))]) [1, 2, 0] rfl ?_
    have hm : s_84 l D kA z v σ1 [x0, (σ1.2.1 45 (Int32.toNatClampNeg x1))] (σf, rf, _) := ih 84 _ _ _ h
    exact hm _ _ rfl p e s m args below meth c F Lo σ0 hF hLo C
set_option maxHeartbeats 4000000 in
set_option maxRecDepth 100000 in
theorem o_85 (l : Launch) (D : va_G) (kA : Nat → ClassId) (z : Nat) (v : Nat → Nat) (rec : mF) (ih : ∀ t σ xs res, rec t σ xs = some res → mSem l D kA z v t σ xs res) (σ : mS) (xs : List Int32) (res : mR) (h : k_85 rec σ xs = some res) : s_85 l D kA z v σ xs res := by
  intro x0 hxs
  subst hxs
  obtain ⟨σf, rf, dd⟩ := res
  have h : (if bin x0 420000 = true then (bnd (rec 71 σ [(σ.2.1 43 (Int32.toNatClampNeg x0))]) (fun σ1 r1 => if bin x0 420000 = true then (rec 86 σ1 [x0, r1, (-1), (σ1.2.1 44 (Int32.toNatClampNeg x0))]) else none)) else none) = some (σf, rf, dd) := h
  refine ax_Mi.of (by decide +kernel) (Nat.le_of_ble_eq_true rfl) ?_
  intro p e s m args below meth c C hnm
  have C : ax_C p s m args meth c b_MM_copy "ClauseProverModel" 6 (some .int) D kA (va_A (mmW kA z v σ) s.heap.size) := C
  obtain ⟨F, hFe⟩ : ∃ F, F = dd + 1 := ⟨_, rfl⟩
  obtain ⟨Lo, hLoe⟩ : ∃ Lo, Lo = 64 * dd + 64 := ⟨_, rfl⟩
  obtain ⟨σ0, hσ0⟩ : ∃ s0, s0 = σ := ⟨_, rfl⟩
  suffices K : AW p l e { frames := F, cells := 0, slots := 0, locals := Lo } s m args below meth c D kA (va_A (mmW kA z v σ0) s.heap.size) 6 (ax_Qi below args s D kA (mmW kA z v σ0) 0 0 (fun r w1 => r = rf ∧ w1 = mmW kA z v σf)) 0 [(0, .ref z), (1, .int x0)] [] (mmW kA z v σ) 0 0 by rw [hFe, hLoe, hσ0] at K; exact ax_ls ([(0, .ref z), (1, .int x0)]) [0, 1] rfl K
  have C : ax_C p s m args meth c b_MM_copy "ClauseProverModel" 6 (some .int) D kA (va_A (mmW kA z v σ0) s.heap.size) := by rw [hσ0]; exact C
  have hF : dd + 1 ≤ F := by omega
  have hLo : 64 * dd + 64 ≤ Lo := by omega
  clear hFe hLoe hσ0
  refine ax_aload_n (pc := 0) C d_MM_copy_0 rfl 0 rfl ?_
  refine ax_aload_n (pc := 1) C d_MM_copy_1 rfl 0 rfl ?_
  refine mg_145 (pc := 2) C d_MM_copy_2 ?_
  refine ax_iload_n (pc := 5) C d_MM_copy_5 rfl 1 rfl ?_
  obtain ⟨hb, h⟩ := it_g h
  refine ml_43 (pc := 6) C d_MM_copy_6 (bin_in hb) ?_
  obtain ⟨σ1, r1, d1_1, d2_1, h1, h, hd2, hd1⟩ := it_b h
  have hm : s_71 l D kA z v σ [(σ.2.1 43 (Int32.toNatClampNeg x0))] (σ1, r1, d1_1) := ih 71 _ _ _ h1
  refine mc_Vi (pc := 7) C (As := [.int (σ.2.1 43 (Int32.toNatClampNeg x0))]) (rest := []) (hm _ rfl) ml_MM_516 d_MM_copy_7 rfl rfl (by dsimp only; omega) (by dsimp only; omega) (Nat.le_of_ble_eq_true rfl) (Nat.le_of_ble_eq_true rfl) (Nat.le_of_ble_eq_true rfl) ?_
  have hF : d2_1 + 1 ≤ F := by omega
  have hLo : 64 * d2_1 + 64 ≤ Lo := by omega
  refine ax_istore_n (pc := 10) C d_MM_copy_10 rfl (Nat.le_of_ble_eq_true rfl) ([(2, .int r1), (0, .ref z), (1, .int x0)]) rfl ?_
  refine ax_iconst (pc := 11) C (-1) d_MM_copy_11 (by decide +kernel) ?_
  refine ax_istore_n (pc := 12) C d_MM_copy_12 rfl (Nat.le_of_ble_eq_true rfl) ([(3, .int (-1)), (2, .int r1), (0, .ref z), (1, .int x0)]) rfl ?_
  refine ax_aload_n (pc := 13) C d_MM_copy_13 rfl 2 rfl ?_
  refine mg_148 (pc := 14) C d_MM_copy_14 ?_
  refine ax_iload_n (pc := 17) C d_MM_copy_17 rfl 3 rfl ?_
  obtain ⟨hb, h⟩ := it_g h
  refine ml_44 (pc := 18) C d_MM_copy_18 (bin_in hb) ?_
  refine ax_istore (pc := 19) C d_MM_copy_19 (Nat.le_of_ble_eq_true rfl) ([(4, .int (σ1.2.1 44 (Int32.toNatClampNeg x0))), (3, .int (-1)), (2, .int r1), (0, .ref z), (1, .int x0)]) rfl ?_
  refine ax_ls ([(0, .ref z), (1, .int x0), (2, .int r1), (3, .int (-1)), (4, .int (σ1.2.1 44 (Int32.toNatClampNeg x0)))]) [3, 4, 2, 1, 0] rfl ?_
  have hm : s_86 l D kA z v σ1 [x0, r1, (-1), (σ1.2.1 44 (Int32.toNatClampNeg x0))] (σf, rf, _) := ih 86 _ _ _ h
  exact hm _ _ _ _ rfl p e s m args below meth c F Lo σ0 hF hLo C
set_option maxHeartbeats 4000000 in
set_option maxRecDepth 100000 in
theorem o_86 (l : Launch) (D : va_G) (kA : Nat → ClassId) (z : Nat) (v : Nat → Nat) (rec : mF) (ih : ∀ t σ xs res, rec t σ xs = some res → mSem l D kA z v t σ xs res) (σ : mS) (xs : List Int32) (res : mR) (h : k_86 rec σ xs = some res) : s_86 l D kA z v σ xs res := by
  intro x0 x1 x2 x3 hxs
  subst hxs
  obtain ⟨σf, rf, dd⟩ := res
  have h : (if x3 < 0 then (some (σ, x1, 0)) else (bnd (rec 85 σ [x3]) (fun σ1 r1 => if 0 ≤ x2 then (if bin x2 420000 = true then (lt_ (mA σ1 45 (Int32.toNatClampNeg x2) r1) (fun σ2 => rec 87 σ2 [x0, x1, x2, x3, r1])) else none) else (if bin x1 420000 = true then (lt_ (mA σ1 44 (Int32.toNatClampNeg x1) r1) (fun σ3 => rec 87 σ3 [x0, x1, x2, x3, r1])) else none)))) = some (σf, rf, dd) := h
  intro p e s m args below meth c F Lo σ0 hF hLo C
  dsimp only at hF hLo ⊢
  refine ax_iload (pc := 21) C d_MM_copy_21 4 rfl ?_
  refine ax_if_lt (pc := 23) C 88 d_MM_copy_23 (by decide) (fun hc => ?_) (fun hc => ?_)
  · have h := it_t hc h
    refine ax_iload_n (pc := 88) C d_MM_copy_88 rfl 2 rfl ?_
    cases h
    exact ax_iret (pc := 89) C d_MM_copy_89 ⟨rfl, rfl⟩ (Nat.le_refl _) (Nat.le_refl _)
  · have h := it_f hc h
    refine ax_aload_n (pc := 26) C d_MM_copy_26 rfl 0 rfl ?_
    refine ax_iload (pc := 27) C d_MM_copy_27 4 rfl ?_
    obtain ⟨σ1, r1, d1_1, d2_1, h1, h, hd2, hd1⟩ := it_b h
    have hm : s_85 l D kA z v σ [x3] (σ1, r1, d1_1) := ih 85 _ _ _ h1
    refine mc_Vi (pc := 29) C (As := [.int x3]) (rest := []) (hm _ rfl) ml_MM_519 d_MM_copy_29 rfl rfl (by dsimp only; omega) (by dsimp only; omega) (Nat.le_of_ble_eq_true rfl) (Nat.le_of_ble_eq_true rfl) (Nat.le_of_ble_eq_true rfl) ?_
    have hF : d2_1 + 1 ≤ F := by omega
    have hLo : 64 * d2_1 + 64 ≤ Lo := by omega
    refine ax_istore (pc := 32) C d_MM_copy_32 (Nat.le_of_ble_eq_true rfl) ([(5, .int r1), (0, .ref z), (1, .int x0), (2, .int x1), (3, .int x2), (4, .int x3)]) rfl ?_
    refine ax_iload_n (pc := 34) C d_MM_copy_34 rfl 4 rfl ?_
    refine ax_if_ge (pc := 35) C 49 d_MM_copy_35 (by decide) (fun hc => ?_) (fun hc => ?_)
    · have h := it_t hc h
      refine ax_aload_n (pc := 49) C d_MM_copy_49 rfl 1 rfl ?_
      refine mg_151 (pc := 50) C d_MM_copy_50 ?_
      refine ax_iload_n (pc := 53) C d_MM_copy_53 rfl 4 rfl ?_
      refine ax_iload (pc := 54) C d_MM_copy_54 0 rfl ?_
      obtain ⟨hb, h⟩ := it_g h
      refine ms_45 (pc := 56) C d_MM_copy_56 (bin_in hb) ?_
      have h := it_l h
      generalize mA σ1 45 (Int32.toNatClampNeg x2) r1 = σ2 at h ⊢
      refine ax_ls ([(0, .ref z), (1, .int x0), (2, .int x1), (3, .int x2), (4, .int x3), (5, .int r1)]) [1, 2, 3, 4, 5, 0] rfl ?_
      have hm : s_87 l D kA z v σ2 [x0, x1, x2, x3, r1] (σf, rf, _) := ih 87 _ _ _ h
      exact hm _ _ _ _ _ rfl p e s m args below meth c F Lo σ0 hF hLo C
    · have h := it_f hc h
      refine ax_aload_n (pc := 38) C d_MM_copy_38 rfl 1 rfl ?_
      refine mg_148 (pc := 39) C d_MM_copy_39 ?_
      refine ax_iload_n (pc := 42) C d_MM_copy_42 rfl 3 rfl ?_
      refine ax_iload (pc := 43) C d_MM_copy_43 0 rfl ?_
      obtain ⟨hb, h⟩ := it_g h
      refine ms_44 (pc := 45) C d_MM_copy_45 (bin_in hb) ?_
      have h := it_l h
      generalize mA σ1 44 (Int32.toNatClampNeg x1) r1 = σ3 at h ⊢
      refine ax_goto (pc := 46) C 57 d_MM_copy_46 (by decide) ?_
      refine ax_ls ([(0, .ref z), (1, .int x0), (2, .int x1), (3, .int x2), (4, .int x3), (5, .int r1)]) [1, 2, 3, 4, 5, 0] rfl ?_
      have hm : s_87 l D kA z v σ3 [x0, x1, x2, x3, r1] (σf, rf, _) := ih 87 _ _ _ h
      exact hm _ _ _ _ _ rfl p e s m args below meth c F Lo σ0 hF hLo C
set_option maxHeartbeats 4000000 in
set_option maxRecDepth 100000 in
theorem o_87 (l : Launch) (D : va_G) (kA : Nat → ClassId) (z : Nat) (v : Nat → Nat) (rec : mF) (ih : ∀ t σ xs res, rec t σ xs = some res → mSem l D kA z v t σ xs res) (σ : mS) (xs : List Int32) (res : mR) (h : k_87 rec σ xs = some res) : s_87 l D kA z v σ xs res := by
  intro x0 x1 x2 x3 x4 hxs
  subst hxs
  obtain ⟨σf, rf, dd⟩ := res
  have h : (if bin x1 420000 = true then (if bin x4 420000 = true then (if bin x1 420000 = true then (lt_ (mA σ 46 (Int32.toNatClampNeg x1) (((σ.2.1 46 (Int32.toNatClampNeg x1)) : Int32) + (σ.2.1 46 (Int32.toNatClampNeg x4)))) (fun σ1 => if bin x3 420000 = true then (rec 86 σ1 [x0, x1, x4, (σ1.2.1 45 (Int32.toNatClampNeg x3))]) else none)) else none) else none) else none) = some (σf, rf, dd) := h
  intro p e s m args below meth c F Lo σ0 hF hLo C
  dsimp only at hF hLo ⊢
  refine ax_iload (pc := 57) C d_MM_copy_57 5 rfl ?_
  refine ax_istore_n (pc := 59) C d_MM_copy_59 rfl (Nat.le_of_ble_eq_true rfl) ([(3, .int x4), (0, .ref z), (1, .int x0), (2, .int x1), (4, .int x3), (5, .int x4)]) rfl ?_
  refine ax_aload_n (pc := 60) C d_MM_copy_60 rfl 1 rfl ?_
  refine mg_154 (pc := 61) C d_MM_copy_61 ?_
  refine ax_iload_n (pc := 64) C d_MM_copy_64 rfl 3 rfl ?_
  refine ax_dup2 (pc := 65) C d_MM_copy_65 rfl rfl ?_
  obtain ⟨hb, h⟩ := it_g h
  refine ml_46 (pc := 66) C d_MM_copy_66 (bin_in hb) ?_
  refine ax_aload_n (pc := 67) C d_MM_copy_67 rfl 1 rfl ?_
  refine mg_154 (pc := 68) C d_MM_copy_68 ?_
  refine ax_iload (pc := 71) C d_MM_copy_71 5 rfl ?_
  obtain ⟨hb, h⟩ := it_g h
  refine ml_46 (pc := 73) C d_MM_copy_73 (bin_in hb) ?_
  refine ax_iadd (pc := 74) C d_MM_copy_74 ?_
  obtain ⟨hb, h⟩ := it_g h
  refine ms_46 (pc := 75) C d_MM_copy_75 (bin_in hb) ?_
  have h := it_l h
  generalize mA σ 46 (Int32.toNatClampNeg x1) (((σ.2.1 46 (Int32.toNatClampNeg x1)) : Int32) + (σ.2.1 46 (Int32.toNatClampNeg x4))) = σ1 at h ⊢
  refine ax_aload_n (pc := 76) C d_MM_copy_76 rfl 1 rfl ?_
  refine mg_151 (pc := 77) C d_MM_copy_77 ?_
  refine ax_iload (pc := 80) C d_MM_copy_80 4 rfl ?_
  obtain ⟨hb, h⟩ := it_g h
  refine ml_45 (pc := 82) C d_MM_copy_82 (bin_in hb) ?_
  refine ax_istore (pc := 83) C d_MM_copy_83 (Nat.le_of_ble_eq_true rfl) ([(4, .int (σ1.2.1 45 (Int32.toNatClampNeg x3))), (3, .int x4), (0, .ref z), (1, .int x0), (2, .int x1), (5, .int x4)]) rfl ?_
  refine ax_goto (pc := 85) C 21 d_MM_copy_85 (by decide) ?_
  refine ax_ls ([(0, .ref z), (1, .int x0), (2, .int x1), (3, .int x4), (4, .int (σ1.2.1 45 (Int32.toNatClampNeg x3)))]) [2, 3, 4, 1, 0] rfl ?_
  have hm : s_86 l D kA z v σ1 [x0, x1, x4, (σ1.2.1 45 (Int32.toNatClampNeg x3))] (σf, rf, _) := ih 86 _ _ _ h
  exact hm _ _ _ _ rfl p e s m args below meth c F Lo σ0 hF hLo C
set_option maxHeartbeats 4000000 in
set_option maxRecDepth 100000 in
theorem o_88 (l : Launch) (D : va_G) (kA : Nat → ClassId) (z : Nat) (v : Nat → Nat) (rec : mF) (ih : ∀ t σ xs res, rec t σ xs = some res → mSem l D kA z v t σ xs res) (σ : mS) (xs : List Int32) (res : mR) (h : k_88 rec σ xs = some res) : s_88 l D kA z v σ xs res := by
  intro hxs
  subst hxs
  obtain ⟨σf, rf, dd⟩ := res
  have h : (rec 89 σ [0, 0]) = some (σf, rf, dd) := h
  refine ax_Mv.of (by decide +kernel) (Nat.le_of_ble_eq_true rfl) ?_
  intro p e s m args below meth c C hnm
  have C : ax_C p s m args meth c b_MM_reduce "ClauseProverModel" 5 none D kA (va_A (mmW kA z v σ) s.heap.size) := C
  obtain ⟨F, hFe⟩ : ∃ F, F = dd + 1 := ⟨_, rfl⟩
  obtain ⟨Lo, hLoe⟩ : ∃ Lo, Lo = 64 * dd + 64 := ⟨_, rfl⟩
  obtain ⟨σ0, hσ0⟩ : ∃ s0, s0 = σ := ⟨_, rfl⟩
  suffices K : AW p l e { frames := F, cells := 0, slots := 0, locals := Lo } s m args below meth c D kA (va_A (mmW kA z v σ0) s.heap.size) 5 (ax_Qv below args s D kA (mmW kA z v σ0) 0 0 (fun w1 => w1 = mmW kA z v σf)) 0 [(0, .ref z)] [] (mmW kA z v σ) 0 0 by rw [hFe, hLoe, hσ0] at K; exact ax_ls ([(0, .ref z)]) [0] rfl K
  have C : ax_C p s m args meth c b_MM_reduce "ClauseProverModel" 5 none D kA (va_A (mmW kA z v σ0) s.heap.size) := by rw [hσ0]; exact C
  have hF : dd + 1 ≤ F := by omega
  have hLo : 64 * dd + 64 ≤ Lo := by omega
  clear hFe hLoe hσ0
  refine ax_iconst (pc := 0) C 0 d_MM_reduce_0 (by decide +kernel) ?_
  refine ax_istore_n (pc := 1) C d_MM_reduce_1 rfl (Nat.le_of_ble_eq_true rfl) ([(1, .int 0), (0, .ref z)]) rfl ?_
  refine ax_iconst (pc := 2) C 0 d_MM_reduce_2 (by decide +kernel) ?_
  refine ax_istore_n (pc := 3) C d_MM_reduce_3 rfl (Nat.le_of_ble_eq_true rfl) ([(2, .int 0), (1, .int 0), (0, .ref z)]) rfl ?_
  refine ax_ls ([(0, .ref z), (1, .int 0), (2, .int 0)]) [2, 1, 0] rfl ?_
  have hm : s_89 l D kA z v σ [0, 0] (σf, rf, _) := ih 89 _ _ _ h
  exact hm _ _ rfl p e s m args below meth c F Lo σ0 hF hLo C
set_option maxHeartbeats 4000000 in
set_option maxRecDepth 100000 in
theorem o_89 (l : Launch) (D : va_G) (kA : Nat → ClassId) (z : Nat) (v : Nat → Nat) (rec : mF) (ih : ∀ t σ xs res, rec t σ xs = some res → mSem l D kA z v t σ xs res) (σ : mS) (xs : List Int32) (res : mR) (h : k_89 rec σ xs = some res) : s_89 l D kA z v σ xs res := by
  intro x0 x1 hxs
  subst hxs
  obtain ⟨σf, rf, dd⟩ := res
  have h : (if (σ.1 98) ≤ x1 then (lt_ (mI σ 98 x0) (fun σ1 => lt_ (mI σ1 101 0) (fun σ2 => rec 95 σ2 [x0, 0]))) else (if bin x1 40 = true then (if (σ.2.1 97 (Int32.toNatClampNeg x1)) = 0 then (if bin x1 40 = true then (if bin x1 40 = true then (bnd (rec 96 σ [(σ.2.1 95 (Int32.toNatClampNeg x1)), (σ.2.1 96 (Int32.toNatClampNeg x1))]) (fun σ3 r3 => if r3 = 0 then (rec 90 σ3 [x0, x1]) else (rec 94 σ3 [x0, x1]))) else none) else none) else (rec 90 σ [x0, x1])) else none)) = some (σf, rf, dd) := h
  intro p e s m args below meth c F Lo σ0 hF hLo C
  dsimp only at hF hLo ⊢
  refine ax_iload_n (pc := 4) C d_MM_reduce_4 rfl 2 rfl ?_
  refine ax_aload_n (pc := 5) C d_MM_reduce_5 rfl 0 rfl ?_
  refine mg_311 (pc := 6) C d_MM_reduce_6 ?_
  refine ax_icmp_ge (pc := 9) C 129 d_MM_reduce_9 (by decide) (fun hc => ?_) (fun hc => ?_)
  · have h := it_t hc h
    refine ax_aload_n (pc := 129) C d_MM_reduce_129 rfl 0 rfl ?_
    refine ax_iload_n (pc := 130) C d_MM_reduce_130 rfl 1 rfl ?_
    refine mp_311 (pc := 131) C d_MM_reduce_131 ?_
    have h := it_l h
    generalize mI σ 98 x0 = σ1 at h ⊢
    refine ax_aload_n (pc := 134) C d_MM_reduce_134 rfl 0 rfl ?_
    refine ax_iconst (pc := 135) C 0 d_MM_reduce_135 (by decide +kernel) ?_
    refine mp_320 (pc := 136) C d_MM_reduce_136 ?_
    have h := it_l h
    generalize mI σ1 101 0 = σ2 at h ⊢
    refine ax_iconst (pc := 139) C 0 d_MM_reduce_139 (by decide +kernel) ?_
    refine ax_istore_n (pc := 140) C d_MM_reduce_140 rfl (Nat.le_of_ble_eq_true rfl) ([(2, .int 0), (0, .ref z), (1, .int x0)]) rfl ?_
    refine ax_ls ([(0, .ref z), (1, .int x0), (2, .int 0)]) [1, 2, 0] rfl ?_
    have hm : s_95 l D kA z v σ2 [x0, 0] (σf, rf, _) := ih 95 _ _ _ h
    exact hm _ _ rfl p e s m args below meth c F Lo σ0 hF hLo C
  · have h := it_f hc h
    refine ax_aload_n (pc := 12) C d_MM_reduce_12 rfl 0 rfl ?_
    refine mg_308 (pc := 13) C d_MM_reduce_13 ?_
    refine ax_iload_n (pc := 16) C d_MM_reduce_16 rfl 2 rfl ?_
    obtain ⟨hb, h⟩ := it_g h
    refine ml_97 (pc := 17) C d_MM_reduce_17 (bin_in hb) ?_
    refine ax_if_ne (pc := 18) C 43 d_MM_reduce_18 (by decide) (fun hc => ?_) (fun hc => ?_)
    · have h := it_f hc h
      refine ax_ls ([(0, .ref z), (1, .int x0), (2, .int x1)]) [0, 1, 2] rfl ?_
      have hm : s_90 l D kA z v σ [x0, x1] (σf, rf, _) := ih 90 _ _ _ h
      exact hm _ _ rfl p e s m args below meth c F Lo σ0 hF hLo C
    · have h := it_t hc h
      refine ax_aload_n (pc := 21) C d_MM_reduce_21 rfl 0 rfl ?_
      refine ax_aload_n (pc := 22) C d_MM_reduce_22 rfl 0 rfl ?_
      refine mg_302 (pc := 23) C d_MM_reduce_23 ?_
      refine ax_iload_n (pc := 26) C d_MM_reduce_26 rfl 2 rfl ?_
      obtain ⟨hb, h⟩ := it_g h
      refine ml_95 (pc := 27) C d_MM_reduce_27 (bin_in hb) ?_
      refine ax_aload_n (pc := 28) C d_MM_reduce_28 rfl 0 rfl ?_
      refine mg_305 (pc := 29) C d_MM_reduce_29 ?_
      refine ax_iload_n (pc := 32) C d_MM_reduce_32 rfl 2 rfl ?_
      obtain ⟨hb, h⟩ := it_g h
      refine ml_96 (pc := 33) C d_MM_reduce_33 (bin_in hb) ?_
      obtain ⟨σ3, r3, d1_3, d2_3, h1, h, hd2, hd1⟩ := it_b h
      have hm : s_96 l D kA z v σ [(σ.2.1 95 (Int32.toNatClampNeg x1)), (σ.2.1 96 (Int32.toNatClampNeg x1))] (σ3, r3, d1_3) := ih 96 _ _ _ h1
      refine mc_Vi (pc := 34) C (As := [.int (σ.2.1 95 (Int32.toNatClampNeg x1)), .int (σ.2.1 96 (Int32.toNatClampNeg x1))]) (rest := []) (hm _ _ rfl) ml_MM_513 d_MM_reduce_34 rfl rfl (by dsimp only; omega) (by dsimp only; omega) (Nat.le_of_ble_eq_true rfl) (Nat.le_of_ble_eq_true rfl) (Nat.le_of_ble_eq_true rfl) ?_
      have hF : d2_3 + 1 ≤ F := by omega
      have hLo : 64 * d2_3 + 64 ≤ Lo := by omega
      refine ax_if_eq (pc := 37) C 43 d_MM_reduce_37 (by decide) (fun hc => ?_) (fun hc => ?_)
      · have h := it_t hc h
        refine ax_ls ([(0, .ref z), (1, .int x0), (2, .int x1)]) [0, 1, 2] rfl ?_
        have hm : s_90 l D kA z v σ3 [x0, x1] (σf, rf, _) := ih 90 _ _ _ h
        exact hm _ _ rfl p e s m args below meth c F Lo σ0 hF hLo C
      · have h := it_f hc h
        refine ax_goto (pc := 40) C 123 d_MM_reduce_40 (by decide) ?_
        refine ax_ls ([(0, .ref z), (1, .int x0), (2, .int x1)]) [0, 1, 2] rfl ?_
        have hm : s_94 l D kA z v σ3 [x0, x1] (σf, rf, _) := ih 94 _ _ _ h
        exact hm _ _ rfl p e s m args below meth c F Lo σ0 hF hLo C
set_option maxHeartbeats 4000000 in
set_option maxRecDepth 100000 in
theorem o_90 (l : Launch) (D : va_G) (kA : Nat → ClassId) (z : Nat) (v : Nat → Nat) (rec : mF) (ih : ∀ t σ xs res, rec t σ xs = some res → mSem l D kA z v t σ xs res) (σ : mS) (xs : List Int32) (res : mR) (h : k_90 rec σ xs = some res) : s_90 l D kA z v σ xs res := by
  intro x0 x1 hxs
  subst hxs
  obtain ⟨σf, rf, dd⟩ := res
  have h : (if bin x1 40 = true then (if bin x0 40 = true then (lt_ (mA σ 95 (Int32.toNatClampNeg x0) (σ.2.1 95 (Int32.toNatClampNeg x1))) (fun σ1 => if bin x1 40 = true then (if bin x0 40 = true then (lt_ (mA σ1 96 (Int32.toNatClampNeg x0) (σ1.2.1 96 (Int32.toNatClampNeg x1))) (fun σ2 => if bin x1 40 = true then (if bin x0 40 = true then (lt_ (mA σ2 97 (Int32.toNatClampNeg x0) (vp_nar .boolean (σ2.2.1 97 (Int32.toNatClampNeg x1)))) (fun σ3 => rec 91 σ3 [x0, x1, 0, 0])) else none) else none)) else none) else none)) else none) else none) = some (σf, rf, dd) := h
  intro p e s m args below meth c F Lo σ0 hF hLo C
  dsimp only at hF hLo ⊢
  refine ax_aload_n (pc := 43) C d_MM_reduce_43 rfl 0 rfl ?_
  refine mg_302 (pc := 44) C d_MM_reduce_44 ?_
  refine ax_iload_n (pc := 47) C d_MM_reduce_47 rfl 1 rfl ?_
  refine ax_aload_n (pc := 48) C d_MM_reduce_48 rfl 0 rfl ?_
  refine mg_302 (pc := 49) C d_MM_reduce_49 ?_
  refine ax_iload_n (pc := 52) C d_MM_reduce_52 rfl 2 rfl ?_
  obtain ⟨hb, h⟩ := it_g h
  refine ml_95 (pc := 53) C d_MM_reduce_53 (bin_in hb) ?_
  obtain ⟨hb, h⟩ := it_g h
  refine ms_95 (pc := 54) C d_MM_reduce_54 (bin_in hb) ?_
  have h := it_l h
  generalize mA σ 95 (Int32.toNatClampNeg x0) (σ.2.1 95 (Int32.toNatClampNeg x1)) = σ1 at h ⊢
  refine ax_aload_n (pc := 55) C d_MM_reduce_55 rfl 0 rfl ?_
  refine mg_305 (pc := 56) C d_MM_reduce_56 ?_
  refine ax_iload_n (pc := 59) C d_MM_reduce_59 rfl 1 rfl ?_
  refine ax_aload_n (pc := 60) C d_MM_reduce_60 rfl 0 rfl ?_
  refine mg_305 (pc := 61) C d_MM_reduce_61 ?_
  refine ax_iload_n (pc := 64) C d_MM_reduce_64 rfl 2 rfl ?_
  obtain ⟨hb, h⟩ := it_g h
  refine ml_96 (pc := 65) C d_MM_reduce_65 (bin_in hb) ?_
  obtain ⟨hb, h⟩ := it_g h
  refine ms_96 (pc := 66) C d_MM_reduce_66 (bin_in hb) ?_
  have h := it_l h
  generalize mA σ1 96 (Int32.toNatClampNeg x0) (σ1.2.1 96 (Int32.toNatClampNeg x1)) = σ2 at h ⊢
  refine ax_aload_n (pc := 67) C d_MM_reduce_67 rfl 0 rfl ?_
  refine mg_308 (pc := 68) C d_MM_reduce_68 ?_
  refine ax_iload_n (pc := 71) C d_MM_reduce_71 rfl 1 rfl ?_
  refine ax_aload_n (pc := 72) C d_MM_reduce_72 rfl 0 rfl ?_
  refine mg_308 (pc := 73) C d_MM_reduce_73 ?_
  refine ax_iload_n (pc := 76) C d_MM_reduce_76 rfl 2 rfl ?_
  obtain ⟨hb, h⟩ := it_g h
  refine ml_97 (pc := 77) C d_MM_reduce_77 (bin_in hb) ?_
  obtain ⟨hb, h⟩ := it_g h
  refine ms_97 (pc := 78) C d_MM_reduce_78 (bin_in hb) ?_
  have h := it_l h
  generalize mA σ2 97 (Int32.toNatClampNeg x0) (vp_nar .boolean (σ2.2.1 97 (Int32.toNatClampNeg x1))) = σ3 at h ⊢
  refine ax_iconst (pc := 79) C 0 d_MM_reduce_79 (by decide +kernel) ?_
  refine ax_istore_n (pc := 80) C d_MM_reduce_80 rfl (Nat.le_of_ble_eq_true rfl) ([(3, .int 0), (0, .ref z), (1, .int x0), (2, .int x1)]) rfl ?_
  refine ax_iconst (pc := 81) C 0 d_MM_reduce_81 (by decide +kernel) ?_
  refine ax_istore (pc := 82) C d_MM_reduce_82 (Nat.le_of_ble_eq_true rfl) ([(4, .int 0), (3, .int 0), (0, .ref z), (1, .int x0), (2, .int x1)]) rfl ?_
  refine ax_ls ([(0, .ref z), (1, .int x0), (2, .int x1), (3, .int 0), (4, .int 0)]) [2, 3, 4, 1, 0] rfl ?_
  have hm : s_91 l D kA z v σ3 [x0, x1, 0, 0] (σf, rf, _) := ih 91 _ _ _ h
  exact hm _ _ _ _ rfl p e s m args below meth c F Lo σ0 hF hLo C
set_option maxHeartbeats 4000000 in
set_option maxRecDepth 100000 in
theorem o_91 (l : Launch) (D : va_G) (kA : Nat → ClassId) (z : Nat) (v : Nat → Nat) (rec : mF) (ih : ∀ t σ xs res, rec t σ xs = some res → mSem l D kA z v t σ xs res) (σ : mS) (xs : List Int32) (res : mR) (h : k_91 rec σ xs = some res) : s_91 l D kA z v σ xs res := by
  intro x0 x1 x2 x3 hxs
  subst hxs
  obtain ⟨σf, rf, dd⟩ := res
  have h : (if x0 ≤ x3 then (if x2 = 0 then (rec 94 σ [(x0 + 1), x1]) else (rec 94 σ [x0, x1])) else (if x2 = 0 then (bnd (rec 99 σ [x3, x0]) (fun σ1 r1 => if r1 = 0 then (rec 93 σ1 [x0, x1, x2, x3, 0]) else (rec 92 σ1 [x0, x1, x2, x3]))) else (rec 92 σ [x0, x1, x2, x3]))) = some (σf, rf, dd) := h
  intro p e s m args below meth c F Lo σ0 hF hLo C
  dsimp only at hF hLo ⊢
  refine ax_iload (pc := 84) C d_MM_reduce_84 4 rfl ?_
  refine ax_iload_n (pc := 86) C d_MM_reduce_86 rfl 1 rfl ?_
  refine ax_icmp_ge (pc := 87) C 116 d_MM_reduce_87 (by decide) (fun hc => ?_) (fun hc => ?_)
  · have h := it_t hc h
    refine ax_iload_n (pc := 116) C d_MM_reduce_116 rfl 3 rfl ?_
    refine ax_if_ne (pc := 117) C 123 d_MM_reduce_117 (by decide) (fun hc => ?_) (fun hc => ?_)
    · have h := it_f hc h
      refine ax_ls ([(0, .ref z), (1, .int x0), (2, .int x1)]) [0, 1, 2] rfl ?_
      have hm : s_94 l D kA z v σ [x0, x1] (σf, rf, _) := ih 94 _ _ _ h
      exact hm _ _ rfl p e s m args below meth c F Lo σ0 hF hLo C
    · have h := it_t hc h
      refine ax_iinc (pc := 120) C (x0 + 1) d_MM_reduce_120 1 rfl rfl (Nat.le_of_ble_eq_true rfl) ([(1, .int (x0 + 1)), (0, .ref z), (2, .int x1), (3, .int x2), (4, .int x3)]) rfl ?_
      refine ax_ls ([(0, .ref z), (1, .int (x0 + 1)), (2, .int x1)]) [1, 0, 2] rfl ?_
      have hm : s_94 l D kA z v σ [(x0 + 1), x1] (σf, rf, _) := ih 94 _ _ _ h
      exact hm _ _ rfl p e s m args below meth c F Lo σ0 hF hLo C
  · have h := it_f hc h
    refine ax_iload_n (pc := 90) C d_MM_reduce_90 rfl 3 rfl ?_
    refine ax_if_ne (pc := 91) C 104 d_MM_reduce_91 (by decide) (fun hc => ?_) (fun hc => ?_)
    · have h := it_f hc h
      refine ax_ls ([(0, .ref z), (1, .int x0), (2, .int x1), (3, .int x2), (4, .int x3)]) [0, 1, 2, 3, 4] rfl ?_
      have hm : s_92 l D kA z v σ [x0, x1, x2, x3] (σf, rf, _) := ih 92 _ _ _ h
      exact hm _ _ _ _ rfl p e s m args below meth c F Lo σ0 hF hLo C
    · have h := it_t hc h
      refine ax_aload_n (pc := 94) C d_MM_reduce_94 rfl 0 rfl ?_
      refine ax_iload (pc := 95) C d_MM_reduce_95 4 rfl ?_
      refine ax_iload_n (pc := 97) C d_MM_reduce_97 rfl 1 rfl ?_
      obtain ⟨σ1, r1, d1_1, d2_1, h1, h, hd2, hd1⟩ := it_b h
      have hm : s_99 l D kA z v σ [x3, x0] (σ1, r1, d1_1) := ih 99 _ _ _ h1
      refine mc_Vi (pc := 98) C (As := [.int x3, .int x0]) (rest := []) (hm _ _ rfl) ml_MM_577 d_MM_reduce_98 rfl rfl (by dsimp only; omega) (by dsimp only; omega) (Nat.le_of_ble_eq_true rfl) (Nat.le_of_ble_eq_true rfl) (Nat.le_of_ble_eq_true rfl) ?_
      have hF : d2_1 + 1 ≤ F := by omega
      have hLo : 64 * d2_1 + 64 ≤ Lo := by omega
      refine ax_if_eq (pc := 101) C 108 d_MM_reduce_101 (by decide) (fun hc => ?_) (fun hc => ?_)
      · have h := it_t hc h
        refine ax_iconst (pc := 108) C 0 d_MM_reduce_108 (by decide +kernel) ?_
        refine ax_ls ([(0, .ref z), (1, .int x0), (2, .int x1), (3, .int x2), (4, .int x3)]) [0, 1, 2, 3, 4] rfl ?_
        have hm : s_93 l D kA z v σ1 [x0, x1, x2, x3, 0] (σf, rf, _) := ih 93 _ _ _ h
        exact hm _ _ _ _ _ rfl p e s m args below meth c F Lo σ0 hF hLo C
      · have h := it_f hc h
        refine ax_ls ([(0, .ref z), (1, .int x0), (2, .int x1), (3, .int x2), (4, .int x3)]) [0, 1, 2, 3, 4] rfl ?_
        have hm : s_92 l D kA z v σ1 [x0, x1, x2, x3] (σf, rf, _) := ih 92 _ _ _ h
        exact hm _ _ _ _ rfl p e s m args below meth c F Lo σ0 hF hLo C
set_option maxHeartbeats 4000000 in
set_option maxRecDepth 100000 in
theorem o_92 (l : Launch) (D : va_G) (kA : Nat → ClassId) (z : Nat) (v : Nat → Nat) (rec : mF) (ih : ∀ t σ xs res, rec t σ xs = some res → mSem l D kA z v t σ xs res) (σ : mS) (xs : List Int32) (res : mR) (h : k_92 rec σ xs = some res) : s_92 l D kA z v σ xs res := by
  intro x0 x1 x2 x3 hxs
  subst hxs
  obtain ⟨σf, rf, dd⟩ := res
  have h : (rec 93 σ [x0, x1, x2, x3, 1]) = some (σf, rf, dd) := h
  intro p e s m args below meth c F Lo σ0 hF hLo C
  dsimp only at hF hLo ⊢
  refine ax_iconst (pc := 104) C 1 d_MM_reduce_104 (by decide +kernel) ?_
  refine ax_goto (pc := 105) C 109 d_MM_reduce_105 (by decide) ?_
  refine ax_ls ([(0, .ref z), (1, .int x0), (2, .int x1), (3, .int x2), (4, .int x3)]) [0, 1, 2, 3, 4] rfl ?_
  have hm : s_93 l D kA z v σ [x0, x1, x2, x3, 1] (σf, rf, _) := ih 93 _ _ _ h
  exact hm _ _ _ _ _ rfl p e s m args below meth c F Lo σ0 hF hLo C
set_option maxHeartbeats 4000000 in
set_option maxRecDepth 100000 in
theorem o_93 (l : Launch) (D : va_G) (kA : Nat → ClassId) (z : Nat) (v : Nat → Nat) (rec : mF) (ih : ∀ t σ xs res, rec t σ xs = some res → mSem l D kA z v t σ xs res) (σ : mS) (xs : List Int32) (res : mR) (h : k_93 rec σ xs = some res) : s_93 l D kA z v σ xs res := by
  intro x0 x1 x2 x3 x4 hxs
  subst hxs
  obtain ⟨σf, rf, dd⟩ := res
  have h : (rec 91 σ [x0, x1, x4, (x3 + 1)]) = some (σf, rf, dd) := h
  intro p e s m args below meth c F Lo σ0 hF hLo C
  dsimp only at hF hLo ⊢
  refine ax_istore_n (pc := 109) C d_MM_reduce_109 rfl (Nat.le_of_ble_eq_true rfl) ([(3, .int x4), (0, .ref z), (1, .int x0), (2, .int x1), (4, .int x3)]) rfl ?_
  refine ax_iinc (pc := 110) C (x3 + 1) d_MM_reduce_110 4 rfl rfl (Nat.le_of_ble_eq_true rfl) ([(4, .int (x3 + 1)), (3, .int x4), (0, .ref z), (1, .int x0), (2, .int x1)]) rfl ?_
  refine ax_goto (pc := 113) C 84 d_MM_reduce_113 (by decide) ?_
  refine ax_ls ([(0, .ref z), (1, .int x0), (2, .int x1), (3, .int x4), (4, .int (x3 + 1))]) [2, 3, 4, 1, 0] rfl ?_
  have hm : s_91 l D kA z v σ [x0, x1, x4, (x3 + 1)] (σf, rf, _) := ih 91 _ _ _ h
  exact hm _ _ _ _ rfl p e s m args below meth c F Lo σ0 hF hLo C
set_option maxHeartbeats 4000000 in
set_option maxRecDepth 100000 in
theorem o_94 (l : Launch) (D : va_G) (kA : Nat → ClassId) (z : Nat) (v : Nat → Nat) (rec : mF) (ih : ∀ t σ xs res, rec t σ xs = some res → mSem l D kA z v t σ xs res) (σ : mS) (xs : List Int32) (res : mR) (h : k_94 rec σ xs = some res) : s_94 l D kA z v σ xs res := by
  intro x0 x1 hxs
  subst hxs
  obtain ⟨σf, rf, dd⟩ := res
  have h : (rec 89 σ [x0, (x1 + 1)]) = some (σf, rf, dd) := h
  intro p e s m args below meth c F Lo σ0 hF hLo C
  dsimp only at hF hLo ⊢
  refine ax_iinc (pc := 123) C (x1 + 1) d_MM_reduce_123 2 rfl rfl (Nat.le_of_ble_eq_true rfl) ([(2, .int (x1 + 1)), (0, .ref z), (1, .int x0)]) rfl ?_
  refine ax_goto (pc := 126) C 4 d_MM_reduce_126 (by decide) ?_
  refine ax_ls ([(0, .ref z), (1, .int x0), (2, .int (x1 + 1))]) [1, 2, 0] rfl ?_
  have hm : s_89 l D kA z v σ [x0, (x1 + 1)] (σf, rf, _) := ih 89 _ _ _ h
  exact hm _ _ rfl p e s m args below meth c F Lo σ0 hF hLo C
set_option maxHeartbeats 4000000 in
set_option maxRecDepth 100000 in
theorem o_95 (l : Launch) (D : va_G) (kA : Nat → ClassId) (z : Nat) (v : Nat → Nat) (rec : mF) (ih : ∀ t σ xs res, rec t σ xs = some res → mSem l D kA z v t σ xs res) (σ : mS) (xs : List Int32) (res : mR) (h : k_95 rec σ xs = some res) : s_95 l D kA z v σ xs res := by
  intro x0 x1 hxs
  subst hxs
  obtain ⟨σf, rf, dd⟩ := res
  have h : (if (σ.1 98) ≤ x1 then (some (σ, 0, 0)) else (if bin x1 40 = true then (bnd (rec 107 σ [(σ.2.1 95 (Int32.toNatClampNeg x1))]) (fun σ1 r1 => if bin x1 40 = true then (bnd (rec 107 σ1 [(σ1.2.1 96 (Int32.toNatClampNeg x1))]) (fun σ2 r2 => rec 95 σ2 [x0, (x1 + 1)])) else none)) else none)) = some (σf, rf, dd) := h
  intro p e s m args below meth c F Lo σ0 hF hLo C
  dsimp only at hF hLo ⊢
  refine ax_iload_n (pc := 141) C d_MM_reduce_141 rfl 2 rfl ?_
  refine ax_aload_n (pc := 142) C d_MM_reduce_142 rfl 0 rfl ?_
  refine mg_311 (pc := 143) C d_MM_reduce_143 ?_
  refine ax_icmp_ge (pc := 146) C 175 d_MM_reduce_146 (by decide) (fun hc => ?_) (fun hc => ?_)
  · have h := it_t hc h
    cases h
    exact ax_vret (pc := 175) C d_MM_reduce_175 rfl (Nat.le_refl _) (Nat.le_refl _)
  · have h := it_f hc h
    refine ax_aload_n (pc := 149) C d_MM_reduce_149 rfl 0 rfl ?_
    refine ax_aload_n (pc := 150) C d_MM_reduce_150 rfl 0 rfl ?_
    refine mg_302 (pc := 151) C d_MM_reduce_151 ?_
    refine ax_iload_n (pc := 154) C d_MM_reduce_154 rfl 2 rfl ?_
    obtain ⟨hb, h⟩ := it_g h
    refine ml_95 (pc := 155) C d_MM_reduce_155 (bin_in hb) ?_
    obtain ⟨σ1, r1, d1_1, d2_1, h1, h, hd2, hd1⟩ := it_b h
    have hm : s_107 l D kA z v σ [(σ.2.1 95 (Int32.toNatClampNeg x1))] (σ1, r1, d1_1) := ih 107 _ _ _ h1
    refine mc_Vv (pc := 156) C (As := [.int (σ.2.1 95 (Int32.toNatClampNeg x1))]) (rest := []) (hm _ rfl) ml_MM_580 d_MM_reduce_156 rfl rfl (by dsimp only; omega) (by dsimp only; omega) (Nat.le_of_ble_eq_true rfl) (Nat.le_of_ble_eq_true rfl) (Nat.le_of_ble_eq_true rfl) ?_
    have hF : d2_1 + 1 ≤ F := by omega
    have hLo : 64 * d2_1 + 64 ≤ Lo := by omega
    refine ax_aload_n (pc := 159) C d_MM_reduce_159 rfl 0 rfl ?_
    refine ax_aload_n (pc := 160) C d_MM_reduce_160 rfl 0 rfl ?_
    refine mg_305 (pc := 161) C d_MM_reduce_161 ?_
    refine ax_iload_n (pc := 164) C d_MM_reduce_164 rfl 2 rfl ?_
    obtain ⟨hb, h⟩ := it_g h
    refine ml_96 (pc := 165) C d_MM_reduce_165 (bin_in hb) ?_
    obtain ⟨σ2, r2, d1_2, d2_2, h1, h, hd2, hd1⟩ := it_b h
    have hm : s_107 l D kA z v σ1 [(σ1.2.1 96 (Int32.toNatClampNeg x1))] (σ2, r2, d1_2) := ih 107 _ _ _ h1
    refine mc_Vv (pc := 166) C (As := [.int (σ1.2.1 96 (Int32.toNatClampNeg x1))]) (rest := []) (hm _ rfl) ml_MM_580 d_MM_reduce_166 rfl rfl (by dsimp only; omega) (by dsimp only; omega) (Nat.le_of_ble_eq_true rfl) (Nat.le_of_ble_eq_true rfl) (Nat.le_of_ble_eq_true rfl) ?_
    have hF : d2_2 + 1 ≤ F := by omega
    have hLo : 64 * d2_2 + 64 ≤ Lo := by omega
    refine ax_iinc (pc := 169) C (x1 + 1) d_MM_reduce_169 2 rfl rfl (Nat.le_of_ble_eq_true rfl) ([(2, .int (x1 + 1)), (0, .ref z), (1, .int x0)]) rfl ?_
    refine ax_goto (pc := 172) C 141 d_MM_reduce_172 (by decide) ?_
    refine ax_ls ([(0, .ref z), (1, .int x0), (2, .int (x1 + 1))]) [1, 2, 0] rfl ?_
    have hm : s_95 l D kA z v σ2 [x0, (x1 + 1)] (σf, rf, _) := ih 95 _ _ _ h
    exact hm _ _ rfl p e s m args below meth c F Lo σ0 hF hLo C
set_option maxHeartbeats 4000000 in
set_option maxRecDepth 100000 in
theorem o_96 (l : Launch) (D : va_G) (kA : Nat → ClassId) (z : Nat) (v : Nat → Nat) (rec : mF) (ih : ∀ t σ xs res, rec t σ xs = some res → mSem l D kA z v t σ xs res) (σ : mS) (xs : List Int32) (res : mR) (h : k_96 rec σ xs = some res) : s_96 l D kA z v σ xs res := by
  intro x0 x1 hxs
  subst hxs
  obtain ⟨σf, rf, dd⟩ := res
  have h : (if bin x0 420000 = true then (if bin x1 420000 = true then (if (σ.2.1 43 (Int32.toNatClampNeg x0)) = (σ.2.1 43 (Int32.toNatClampNeg x1)) then (if bin x0 420000 = true then (if bin x1 420000 = true then (if (σ.2.1 46 (Int32.toNatClampNeg x0)) = (σ.2.1 46 (Int32.toNatClampNeg x1)) then (if bin x1 420000 = true then (if bin x0 420000 = true then (rec 98 σ [x0, x1, (σ.2.1 44 (Int32.toNatClampNeg x1)), (σ.2.1 44 (Int32.toNatClampNeg x0))]) else none) else none) else (rec 97 σ [x0, x1])) else none) else none) else (rec 97 σ [x0, x1])) else none) else none) = some (σf, rf, dd) := h
  refine ax_Mi.of (by decide +kernel) (Nat.le_of_ble_eq_true rfl) ?_
  intro p e s m args below meth c C hnm
  have C : ax_C p s m args meth c b_MM_same "ClauseProverModel" 5 (some .boolean) D kA (va_A (mmW kA z v σ) s.heap.size) := C
  obtain ⟨F, hFe⟩ : ∃ F, F = dd + 1 := ⟨_, rfl⟩
  obtain ⟨Lo, hLoe⟩ : ∃ Lo, Lo = 64 * dd + 64 := ⟨_, rfl⟩
  obtain ⟨σ0, hσ0⟩ : ∃ s0, s0 = σ := ⟨_, rfl⟩
  suffices K : AW p l e { frames := F, cells := 0, slots := 0, locals := Lo } s m args below meth c D kA (va_A (mmW kA z v σ0) s.heap.size) 5 (ax_Qi below args s D kA (mmW kA z v σ0) 0 0 (fun r w1 => r = rf ∧ w1 = mmW kA z v σf)) 0 [(0, .ref z), (1, .int x0), (2, .int x1)] [] (mmW kA z v σ) 0 0 by rw [hFe, hLoe, hσ0] at K; exact ax_ls ([(0, .ref z), (1, .int x0), (2, .int x1)]) [0, 1, 2] rfl K
  have C : ax_C p s m args meth c b_MM_same "ClauseProverModel" 5 (some .boolean) D kA (va_A (mmW kA z v σ0) s.heap.size) := by rw [hσ0]; exact C
  have hF : dd + 1 ≤ F := by omega
  have hLo : 64 * dd + 64 ≤ Lo := by omega
  clear hFe hLoe hσ0
  refine ax_aload_n (pc := 0) C d_MM_same_0 rfl 0 rfl ?_
  refine mg_145 (pc := 1) C d_MM_same_1 ?_
  refine ax_iload_n (pc := 4) C d_MM_same_4 rfl 1 rfl ?_
  obtain ⟨hb, h⟩ := it_g h
  refine ml_43 (pc := 5) C d_MM_same_5 (bin_in hb) ?_
  refine ax_aload_n (pc := 6) C d_MM_same_6 rfl 0 rfl ?_
  refine mg_145 (pc := 7) C d_MM_same_7 ?_
  refine ax_iload_n (pc := 10) C d_MM_same_10 rfl 2 rfl ?_
  obtain ⟨hb, h⟩ := it_g h
  refine ml_43 (pc := 11) C d_MM_same_11 (bin_in hb) ?_
  refine ax_icmp_ne (pc := 12) C 30 d_MM_same_12 (by decide) (fun hc => ?_) (fun hc => ?_)
  · have h := it_f hc h
    refine ax_ls ([(0, .ref z), (1, .int x0), (2, .int x1)]) [0, 1, 2] rfl ?_
    have hm : s_97 l D kA z v σ [x0, x1] (σf, rf, _) := ih 97 _ _ _ h
    exact hm _ _ rfl p e s m args below meth c F Lo σ0 hF hLo C
  · have h := it_t hc h
    refine ax_aload_n (pc := 15) C d_MM_same_15 rfl 0 rfl ?_
    refine mg_154 (pc := 16) C d_MM_same_16 ?_
    refine ax_iload_n (pc := 19) C d_MM_same_19 rfl 1 rfl ?_
    obtain ⟨hb, h⟩ := it_g h
    refine ml_46 (pc := 20) C d_MM_same_20 (bin_in hb) ?_
    refine ax_aload_n (pc := 21) C d_MM_same_21 rfl 0 rfl ?_
    refine mg_154 (pc := 22) C d_MM_same_22 ?_
    refine ax_iload_n (pc := 25) C d_MM_same_25 rfl 2 rfl ?_
    obtain ⟨hb, h⟩ := it_g h
    refine ml_46 (pc := 26) C d_MM_same_26 (bin_in hb) ?_
    refine ax_icmp_eq (pc := 27) C 32 d_MM_same_27 (by decide) (fun hc => ?_) (fun hc => ?_)
    · have h := it_t hc h
      refine ax_aload_n (pc := 32) C d_MM_same_32 rfl 0 rfl ?_
      refine mg_148 (pc := 33) C d_MM_same_33 ?_
      refine ax_iload_n (pc := 36) C d_MM_same_36 rfl 2 rfl ?_
      obtain ⟨hb, h⟩ := it_g h
      refine ml_44 (pc := 37) C d_MM_same_37 (bin_in hb) ?_
      refine ax_istore_n (pc := 38) C d_MM_same_38 rfl (Nat.le_of_ble_eq_true rfl) ([(3, .int (σ.2.1 44 (Int32.toNatClampNeg x1))), (0, .ref z), (1, .int x0), (2, .int x1)]) rfl ?_
      refine ax_aload_n (pc := 39) C d_MM_same_39 rfl 1 rfl ?_
      refine mg_148 (pc := 40) C d_MM_same_40 ?_
      refine ax_iload_n (pc := 43) C d_MM_same_43 rfl 2 rfl ?_
      obtain ⟨hb, h⟩ := it_g h
      refine ml_44 (pc := 44) C d_MM_same_44 (bin_in hb) ?_
      refine ax_istore (pc := 45) C d_MM_same_45 (Nat.le_of_ble_eq_true rfl) ([(4, .int (σ.2.1 44 (Int32.toNatClampNeg x0))), (3, .int (σ.2.1 44 (Int32.toNatClampNeg x1))), (0, .ref z), (1, .int x0), (2, .int x1)]) rfl ?_
      refine ax_ls ([(0, .ref z), (1, .int x0), (2, .int x1), (3, .int (σ.2.1 44 (Int32.toNatClampNeg x1))), (4, .int (σ.2.1 44 (Int32.toNatClampNeg x0)))]) [2, 3, 4, 1, 0] rfl ?_
      have hm : s_98 l D kA z v σ [x0, x1, (σ.2.1 44 (Int32.toNatClampNeg x1)), (σ.2.1 44 (Int32.toNatClampNeg x0))] (σf, rf, _) := ih 98 _ _ _ h
      exact hm _ _ _ _ rfl p e s m args below meth c F Lo σ0 hF hLo C
    · have h := it_f hc h
      refine ax_ls ([(0, .ref z), (1, .int x0), (2, .int x1)]) [0, 1, 2] rfl ?_
      have hm : s_97 l D kA z v σ [x0, x1] (σf, rf, _) := ih 97 _ _ _ h
      exact hm _ _ rfl p e s m args below meth c F Lo σ0 hF hLo C
set_option maxHeartbeats 4000000 in
set_option maxRecDepth 100000 in
theorem o_97 (l : Launch) (D : va_G) (kA : Nat → ClassId) (z : Nat) (v : Nat → Nat) (rec : mF) (ih : ∀ t σ xs res, rec t σ xs = some res → mSem l D kA z v t σ xs res) (σ : mS) (xs : List Int32) (res : mR) (h : k_97 rec σ xs = some res) : s_97 l D kA z v σ xs res := by
  intro x0 x1 hxs
  subst hxs
  obtain ⟨σf, rf, dd⟩ := res
  have h : (some (σ, 0, 0)) = some (σf, rf, dd) := h
  intro p e s m args below meth c F Lo σ0 hF hLo C
  dsimp only at hF hLo ⊢
  refine ax_iconst (pc := 30) C 0 d_MM_same_30 (by decide +kernel) ?_
  cases h
  exact ax_zret (pc := 31) C d_MM_same_31 rfl ⟨rfl, rfl⟩ (Nat.le_refl _) (Nat.le_refl _)
set_option maxHeartbeats 4000000 in
set_option maxRecDepth 100000 in
theorem o_98 (l : Launch) (D : va_G) (kA : Nat → ClassId) (z : Nat) (v : Nat → Nat) (rec : mF) (ih : ∀ t σ xs res, rec t σ xs = some res → mSem l D kA z v t σ xs res) (σ : mS) (xs : List Int32) (res : mR) (h : k_98 rec σ xs = some res) : s_98 l D kA z v σ xs res := by
  intro x0 x1 x2 x3 hxs
  subst hxs
  obtain ⟨σf, rf, dd⟩ := res
  have h : (if x3 < 0 then (some (σ, 1, 0)) else (bnd (rec 96 σ [x3, x2]) (fun σ1 r1 => if r1 = 0 then (some (σ1, 0, 0)) else (if bin x2 420000 = true then (if bin x3 420000 = true then (rec 98 σ1 [x0, x1, (σ1.2.1 45 (Int32.toNatClampNeg x2)), (σ1.2.1 45 (Int32.toNatClampNeg x3))]) else none) else none)))) = some (σf, rf, dd) := h
  intro p e s m args below meth c F Lo σ0 hF hLo C
  dsimp only at hF hLo ⊢
  refine ax_iload (pc := 47) C d_MM_same_47 4 rfl ?_
  refine ax_if_lt (pc := 49) C 83 d_MM_same_49 (by decide) (fun hc => ?_) (fun hc => ?_)
  · have h := it_t hc h
    refine ax_iconst (pc := 83) C 1 d_MM_same_83 (by decide +kernel) ?_
    cases h
    exact ax_zret (pc := 84) C d_MM_same_84 rfl ⟨rfl, rfl⟩ (Nat.le_refl _) (Nat.le_refl _)
  · have h := it_f hc h
    refine ax_aload_n (pc := 52) C d_MM_same_52 rfl 0 rfl ?_
    refine ax_iload (pc := 53) C d_MM_same_53 4 rfl ?_
    refine ax_iload_n (pc := 55) C d_MM_same_55 rfl 3 rfl ?_
    obtain ⟨σ1, r1, d1_1, d2_1, h1, h, hd2, hd1⟩ := it_b h
    have hm : s_96 l D kA z v σ [x3, x2] (σ1, r1, d1_1) := ih 96 _ _ _ h1
    refine mc_Vi (pc := 56) C (As := [.int x3, .int x2]) (rest := []) (hm _ _ rfl) ml_MM_513 d_MM_same_56 rfl rfl (by dsimp only; omega) (by dsimp only; omega) (Nat.le_of_ble_eq_true rfl) (Nat.le_of_ble_eq_true rfl) (Nat.le_of_ble_eq_true rfl) ?_
    have hF : d2_1 + 1 ≤ F := by omega
    have hLo : 64 * d2_1 + 64 ≤ Lo := by omega
    refine ax_if_ne (pc := 59) C 64 d_MM_same_59 (by decide) (fun hc => ?_) (fun hc => ?_)
    · have h := it_f hc h
      refine ax_aload_n (pc := 64) C d_MM_same_64 rfl 0 rfl ?_
      refine mg_151 (pc := 65) C d_MM_same_65 ?_
      refine ax_iload_n (pc := 68) C d_MM_same_68 rfl 3 rfl ?_
      obtain ⟨hb, h⟩ := it_g h
      refine ml_45 (pc := 69) C d_MM_same_69 (bin_in hb) ?_
      refine ax_istore_n (pc := 70) C d_MM_same_70 rfl (Nat.le_of_ble_eq_true rfl) ([(3, .int (σ1.2.1 45 (Int32.toNatClampNeg x2))), (0, .ref z), (1, .int x0), (2, .int x1), (4, .int x3)]) rfl ?_
      refine ax_aload_n (pc := 71) C d_MM_same_71 rfl 1 rfl ?_
      refine mg_151 (pc := 72) C d_MM_same_72 ?_
      refine ax_iload (pc := 75) C d_MM_same_75 4 rfl ?_
      obtain ⟨hb, h⟩ := it_g h
      refine ml_45 (pc := 77) C d_MM_same_77 (bin_in hb) ?_
      refine ax_istore (pc := 78) C d_MM_same_78 (Nat.le_of_ble_eq_true rfl) ([(4, .int (σ1.2.1 45 (Int32.toNatClampNeg x3))), (3, .int (σ1.2.1 45 (Int32.toNatClampNeg x2))), (0, .ref z), (1, .int x0), (2, .int x1)]) rfl ?_
      refine ax_goto (pc := 80) C 47 d_MM_same_80 (by decide) ?_
      refine ax_ls ([(0, .ref z), (1, .int x0), (2, .int x1), (3, .int (σ1.2.1 45 (Int32.toNatClampNeg x2))), (4, .int (σ1.2.1 45 (Int32.toNatClampNeg x3)))]) [2, 3, 4, 1, 0] rfl ?_
      have hm : s_98 l D kA z v σ1 [x0, x1, (σ1.2.1 45 (Int32.toNatClampNeg x2)), (σ1.2.1 45 (Int32.toNatClampNeg x3))] (σf, rf, _) := ih 98 _ _ _ h
      exact hm _ _ _ _ rfl p e s m args below meth c F Lo σ0 hF hLo C
    · have h := it_t hc h
      refine ax_iconst (pc := 62) C 0 d_MM_same_62 (by decide +kernel) ?_
      cases h
      exact ax_zret (pc := 63) C d_MM_same_63 rfl ⟨rfl, rfl⟩ (Nat.le_refl _) (Nat.le_refl _)
set_option maxHeartbeats 4000000 in
set_option maxRecDepth 100000 in
theorem o_99 (l : Launch) (D : va_G) (kA : Nat → ClassId) (z : Nat) (v : Nat → Nat) (rec : mF) (ih : ∀ t σ xs res, rec t σ xs = some res → mSem l D kA z v t σ xs res) (σ : mS) (xs : List Int32) (res : mR) (h : k_99 rec σ xs = some res) : s_99 l D kA z v σ xs res := by
  intro x0 x1 hxs
  subst hxs
  obtain ⟨σf, rf, dd⟩ := res
  have h : (if bin x0 40 = true then (if bin x1 40 = true then (if (σ.2.1 97 (Int32.toNatClampNeg x0)) = (σ.2.1 97 (Int32.toNatClampNeg x1)) then (bnd (rec 102 σ [x0, x1]) (fun σ1 r1 => if r1 = 0 then (rec 100 σ1 [x0, x1]) else (rec 101 σ1 [x0, x1, 1]))) else (rec 100 σ [x0, x1])) else none) else none) = some (σf, rf, dd) := h
  refine ax_Mi.of (by decide +kernel) (Nat.le_of_ble_eq_true rfl) ?_
  intro p e s m args below meth c C hnm
  have C : ax_C p s m args meth c b_MM_sameLiteral "ClauseProverModel" 3 (some .boolean) D kA (va_A (mmW kA z v σ) s.heap.size) := C
  obtain ⟨F, hFe⟩ : ∃ F, F = dd + 1 := ⟨_, rfl⟩
  obtain ⟨Lo, hLoe⟩ : ∃ Lo, Lo = 64 * dd + 64 := ⟨_, rfl⟩
  obtain ⟨σ0, hσ0⟩ : ∃ s0, s0 = σ := ⟨_, rfl⟩
  suffices K : AW p l e { frames := F, cells := 0, slots := 0, locals := Lo } s m args below meth c D kA (va_A (mmW kA z v σ0) s.heap.size) 3 (ax_Qi below args s D kA (mmW kA z v σ0) 0 0 (fun r w1 => r = rf ∧ w1 = mmW kA z v σf)) 0 [(0, .ref z), (1, .int x0), (2, .int x1)] [] (mmW kA z v σ) 0 0 by rw [hFe, hLoe, hσ0] at K; exact ax_ls ([(0, .ref z), (1, .int x0), (2, .int x1)]) [0, 1, 2] rfl K
  have C : ax_C p s m args meth c b_MM_sameLiteral "ClauseProverModel" 3 (some .boolean) D kA (va_A (mmW kA z v σ0) s.heap.size) := by rw [hσ0]; exact C
  have hF : dd + 1 ≤ F := by omega
  have hLo : 64 * dd + 64 ≤ Lo := by omega
  clear hFe hLoe hσ0
  refine ax_aload_n (pc := 0) C d_MM_sameLiteral_0 rfl 0 rfl ?_
  refine mg_308 (pc := 1) C d_MM_sameLiteral_1 ?_
  refine ax_iload_n (pc := 4) C d_MM_sameLiteral_4 rfl 1 rfl ?_
  obtain ⟨hb, h⟩ := it_g h
  refine ml_97 (pc := 5) C d_MM_sameLiteral_5 (bin_in hb) ?_
  refine ax_aload_n (pc := 6) C d_MM_sameLiteral_6 rfl 0 rfl ?_
  refine mg_308 (pc := 7) C d_MM_sameLiteral_7 ?_
  refine ax_iload_n (pc := 10) C d_MM_sameLiteral_10 rfl 2 rfl ?_
  obtain ⟨hb, h⟩ := it_g h
  refine ml_97 (pc := 11) C d_MM_sameLiteral_11 (bin_in hb) ?_
  refine ax_icmp_ne (pc := 12) C 28 d_MM_sameLiteral_12 (by decide) (fun hc => ?_) (fun hc => ?_)
  · have h := it_f hc h
    refine ax_ls ([(0, .ref z), (1, .int x0), (2, .int x1)]) [0, 1, 2] rfl ?_
    have hm : s_100 l D kA z v σ [x0, x1] (σf, rf, _) := ih 100 _ _ _ h
    exact hm _ _ rfl p e s m args below meth c F Lo σ0 hF hLo C
  · have h := it_t hc h
    refine ax_aload_n (pc := 15) C d_MM_sameLiteral_15 rfl 0 rfl ?_
    refine ax_iload_n (pc := 16) C d_MM_sameLiteral_16 rfl 1 rfl ?_
    refine ax_iload_n (pc := 17) C d_MM_sameLiteral_17 rfl 2 rfl ?_
    obtain ⟨σ1, r1, d1_1, d2_1, h1, h, hd2, hd1⟩ := it_b h
    have hm : s_102 l D kA z v σ [x0, x1] (σ1, r1, d1_1) := ih 102 _ _ _ h1
    refine mc_Vi (pc := 18) C (As := [.int x0, .int x1]) (rest := []) (hm _ _ rfl) ml_MM_574 d_MM_sameLiteral_18 rfl rfl (by dsimp only; omega) (by dsimp only; omega) (Nat.le_of_ble_eq_true rfl) (Nat.le_of_ble_eq_true rfl) (Nat.le_of_ble_eq_true rfl) ?_
    have hF : d2_1 + 1 ≤ F := by omega
    have hLo : 64 * d2_1 + 64 ≤ Lo := by omega
    refine ax_if_eq (pc := 21) C 28 d_MM_sameLiteral_21 (by decide) (fun hc => ?_) (fun hc => ?_)
    · have h := it_t hc h
      refine ax_ls ([(0, .ref z), (1, .int x0), (2, .int x1)]) [0, 1, 2] rfl ?_
      have hm : s_100 l D kA z v σ1 [x0, x1] (σf, rf, _) := ih 100 _ _ _ h
      exact hm _ _ rfl p e s m args below meth c F Lo σ0 hF hLo C
    · have h := it_f hc h
      refine ax_iconst (pc := 24) C 1 d_MM_sameLiteral_24 (by decide +kernel) ?_
      refine ax_goto (pc := 25) C 29 d_MM_sameLiteral_25 (by decide) ?_
      refine ax_ls ([(0, .ref z), (1, .int x0), (2, .int x1)]) [0, 1, 2] rfl ?_
      have hm : s_101 l D kA z v σ1 [x0, x1, 1] (σf, rf, _) := ih 101 _ _ _ h
      exact hm _ _ _ rfl p e s m args below meth c F Lo σ0 hF hLo C
set_option maxHeartbeats 4000000 in
set_option maxRecDepth 100000 in
theorem o_100 (l : Launch) (D : va_G) (kA : Nat → ClassId) (z : Nat) (v : Nat → Nat) (rec : mF) (ih : ∀ t σ xs res, rec t σ xs = some res → mSem l D kA z v t σ xs res) (σ : mS) (xs : List Int32) (res : mR) (h : k_100 rec σ xs = some res) : s_100 l D kA z v σ xs res := by
  intro x0 x1 hxs
  subst hxs
  obtain ⟨σf, rf, dd⟩ := res
  have h : (rec 101 σ [x0, x1, 0]) = some (σf, rf, dd) := h
  intro p e s m args below meth c F Lo σ0 hF hLo C
  dsimp only at hF hLo ⊢
  refine ax_iconst (pc := 28) C 0 d_MM_sameLiteral_28 (by decide +kernel) ?_
  refine ax_ls ([(0, .ref z), (1, .int x0), (2, .int x1)]) [0, 1, 2] rfl ?_
  have hm : s_101 l D kA z v σ [x0, x1, 0] (σf, rf, _) := ih 101 _ _ _ h
  exact hm _ _ _ rfl p e s m args below meth c F Lo σ0 hF hLo C
set_option maxHeartbeats 4000000 in
set_option maxRecDepth 100000 in
theorem o_101 (l : Launch) (D : va_G) (kA : Nat → ClassId) (z : Nat) (v : Nat → Nat) (rec : mF) (ih : ∀ t σ xs res, rec t σ xs = some res → mSem l D kA z v t σ xs res) (σ : mS) (xs : List Int32) (res : mR) (h : k_101 rec σ xs = some res) : s_101 l D kA z v σ xs res := by
  intro x0 x1 x2 hxs
  subst hxs
  obtain ⟨σf, rf, dd⟩ := res
  have h : (if x2 = 0 ∨ x2 = 1 then some (σ, x2, 0) else none) = some (σf, rf, dd) := h
  intro p e s m args below meth c F Lo σ0 hF hLo C
  dsimp only at hF hLo ⊢
  obtain ⟨hb, h⟩ := it_g h
  cases h
  exact ax_zret (pc := 29) C d_MM_sameLiteral_29 (nb01 hb) ⟨rfl, rfl⟩ (Nat.le_refl _) (Nat.le_refl _)
set_option maxHeartbeats 4000000 in
set_option maxRecDepth 100000 in
theorem o_102 (l : Launch) (D : va_G) (kA : Nat → ClassId) (z : Nat) (v : Nat → Nat) (rec : mF) (ih : ∀ t σ xs res, rec t σ xs = some res → mSem l D kA z v t σ xs res) (σ : mS) (xs : List Int32) (res : mR) (h : k_102 rec σ xs = some res) : s_102 l D kA z v σ xs res := by
  intro x0 x1 hxs
  subst hxs
  obtain ⟨σf, rf, dd⟩ := res
  have h : (if bin x0 40 = true then (if bin x1 40 = true then (bnd (rec 96 σ [(σ.2.1 95 (Int32.toNatClampNeg x0)), (σ.2.1 95 (Int32.toNatClampNeg x1))]) (fun σ1 r1 => if r1 = 0 then (rec 103 σ1 [x0, x1]) else (if bin x0 40 = true then (if bin x1 40 = true then (bnd (rec 96 σ1 [(σ1.2.1 96 (Int32.toNatClampNeg x0)), (σ1.2.1 96 (Int32.toNatClampNeg x1))]) (fun σ2 r2 => if r2 = 0 then (rec 103 σ2 [x0, x1]) else (rec 104 σ2 [x0, x1]))) else none) else none))) else none) else none) = some (σf, rf, dd) := h
  refine ax_Mi.of (by decide +kernel) (Nat.le_of_ble_eq_true rfl) ?_
  intro p e s m args below meth c C hnm
  have C : ax_C p s m args meth c b_MM_alike "ClauseProverModel" 3 (some .boolean) D kA (va_A (mmW kA z v σ) s.heap.size) := C
  obtain ⟨F, hFe⟩ : ∃ F, F = dd + 1 := ⟨_, rfl⟩
  obtain ⟨Lo, hLoe⟩ : ∃ Lo, Lo = 64 * dd + 64 := ⟨_, rfl⟩
  obtain ⟨σ0, hσ0⟩ : ∃ s0, s0 = σ := ⟨_, rfl⟩
  suffices K : AW p l e { frames := F, cells := 0, slots := 0, locals := Lo } s m args below meth c D kA (va_A (mmW kA z v σ0) s.heap.size) 3 (ax_Qi below args s D kA (mmW kA z v σ0) 0 0 (fun r w1 => r = rf ∧ w1 = mmW kA z v σf)) 0 [(0, .ref z), (1, .int x0), (2, .int x1)] [] (mmW kA z v σ) 0 0 by rw [hFe, hLoe, hσ0] at K; exact ax_ls ([(0, .ref z), (1, .int x0), (2, .int x1)]) [0, 1, 2] rfl K
  have C : ax_C p s m args meth c b_MM_alike "ClauseProverModel" 3 (some .boolean) D kA (va_A (mmW kA z v σ0) s.heap.size) := by rw [hσ0]; exact C
  have hF : dd + 1 ≤ F := by omega
  have hLo : 64 * dd + 64 ≤ Lo := by omega
  clear hFe hLoe hσ0
  refine ax_aload_n (pc := 0) C d_MM_alike_0 rfl 0 rfl ?_
  refine ax_aload_n (pc := 1) C d_MM_alike_1 rfl 0 rfl ?_
  refine mg_302 (pc := 2) C d_MM_alike_2 ?_
  refine ax_iload_n (pc := 5) C d_MM_alike_5 rfl 1 rfl ?_
  obtain ⟨hb, h⟩ := it_g h
  refine ml_95 (pc := 6) C d_MM_alike_6 (bin_in hb) ?_
  refine ax_aload_n (pc := 7) C d_MM_alike_7 rfl 0 rfl ?_
  refine mg_302 (pc := 8) C d_MM_alike_8 ?_
  refine ax_iload_n (pc := 11) C d_MM_alike_11 rfl 2 rfl ?_
  obtain ⟨hb, h⟩ := it_g h
  refine ml_95 (pc := 12) C d_MM_alike_12 (bin_in hb) ?_
  obtain ⟨σ1, r1, d1_1, d2_1, h1, h, hd2, hd1⟩ := it_b h
  have hm : s_96 l D kA z v σ [(σ.2.1 95 (Int32.toNatClampNeg x0)), (σ.2.1 95 (Int32.toNatClampNeg x1))] (σ1, r1, d1_1) := ih 96 _ _ _ h1
  refine mc_Vi (pc := 13) C (As := [.int (σ.2.1 95 (Int32.toNatClampNeg x0)), .int (σ.2.1 95 (Int32.toNatClampNeg x1))]) (rest := []) (hm _ _ rfl) ml_MM_513 d_MM_alike_13 rfl rfl (by dsimp only; omega) (by dsimp only; omega) (Nat.le_of_ble_eq_true rfl) (Nat.le_of_ble_eq_true rfl) (Nat.le_of_ble_eq_true rfl) ?_
  have hF : d2_1 + 1 ≤ F := by omega
  have hLo : 64 * d2_1 + 64 ≤ Lo := by omega
  refine ax_if_eq (pc := 16) C 38 d_MM_alike_16 (by decide) (fun hc => ?_) (fun hc => ?_)
  · have h := it_t hc h
    refine ax_ls ([(0, .ref z), (1, .int x0), (2, .int x1)]) [0, 1, 2] rfl ?_
    have hm : s_103 l D kA z v σ1 [x0, x1] (σf, rf, _) := ih 103 _ _ _ h
    exact hm _ _ rfl p e s m args below meth c F Lo σ0 hF hLo C
  · have h := it_f hc h
    refine ax_aload_n (pc := 19) C d_MM_alike_19 rfl 0 rfl ?_
    refine ax_aload_n (pc := 20) C d_MM_alike_20 rfl 0 rfl ?_
    refine mg_305 (pc := 21) C d_MM_alike_21 ?_
    refine ax_iload_n (pc := 24) C d_MM_alike_24 rfl 1 rfl ?_
    obtain ⟨hb, h⟩ := it_g h
    refine ml_96 (pc := 25) C d_MM_alike_25 (bin_in hb) ?_
    refine ax_aload_n (pc := 26) C d_MM_alike_26 rfl 0 rfl ?_
    refine mg_305 (pc := 27) C d_MM_alike_27 ?_
    refine ax_iload_n (pc := 30) C d_MM_alike_30 rfl 2 rfl ?_
    obtain ⟨hb, h⟩ := it_g h
    refine ml_96 (pc := 31) C d_MM_alike_31 (bin_in hb) ?_
    obtain ⟨σ2, r2, d1_2, d2_2, h1, h, hd2, hd1⟩ := it_b h
    have hm : s_96 l D kA z v σ1 [(σ1.2.1 96 (Int32.toNatClampNeg x0)), (σ1.2.1 96 (Int32.toNatClampNeg x1))] (σ2, r2, d1_2) := ih 96 _ _ _ h1
    refine mc_Vi (pc := 32) C (As := [.int (σ1.2.1 96 (Int32.toNatClampNeg x0)), .int (σ1.2.1 96 (Int32.toNatClampNeg x1))]) (rest := []) (hm _ _ rfl) ml_MM_513 d_MM_alike_32 rfl rfl (by dsimp only; omega) (by dsimp only; omega) (Nat.le_of_ble_eq_true rfl) (Nat.le_of_ble_eq_true rfl) (Nat.le_of_ble_eq_true rfl) ?_
    have hF : d2_2 + 1 ≤ F := by omega
    have hLo : 64 * d2_2 + 64 ≤ Lo := by omega
    refine ax_if_ne (pc := 35) C 76 d_MM_alike_35 (by decide) (fun hc => ?_) (fun hc => ?_)
    · have h := it_f hc h
      refine ax_ls ([(0, .ref z), (1, .int x0), (2, .int x1)]) [0, 1, 2] rfl ?_
      have hm : s_104 l D kA z v σ2 [x0, x1] (σf, rf, _) := ih 104 _ _ _ h
      exact hm _ _ rfl p e s m args below meth c F Lo σ0 hF hLo C
    · have h := it_t hc h
      refine ax_ls ([(0, .ref z), (1, .int x0), (2, .int x1)]) [0, 1, 2] rfl ?_
      have hm : s_103 l D kA z v σ2 [x0, x1] (σf, rf, _) := ih 103 _ _ _ h
      exact hm _ _ rfl p e s m args below meth c F Lo σ0 hF hLo C
set_option maxHeartbeats 4000000 in
set_option maxRecDepth 100000 in
theorem o_103 (l : Launch) (D : va_G) (kA : Nat → ClassId) (z : Nat) (v : Nat → Nat) (rec : mF) (ih : ∀ t σ xs res, rec t σ xs = some res → mSem l D kA z v t σ xs res) (σ : mS) (xs : List Int32) (res : mR) (h : k_103 rec σ xs = some res) : s_103 l D kA z v σ xs res := by
  intro x0 x1 hxs
  subst hxs
  obtain ⟨σf, rf, dd⟩ := res
  have h : (if bin x0 40 = true then (if bin x1 40 = true then (bnd (rec 96 σ [(σ.2.1 95 (Int32.toNatClampNeg x0)), (σ.2.1 96 (Int32.toNatClampNeg x1))]) (fun σ1 r1 => if r1 = 0 then (rec 105 σ1 [x0, x1]) else (if bin x0 40 = true then (if bin x1 40 = true then (bnd (rec 96 σ1 [(σ1.2.1 96 (Int32.toNatClampNeg x0)), (σ1.2.1 95 (Int32.toNatClampNeg x1))]) (fun σ2 r2 => if r2 = 0 then (rec 105 σ2 [x0, x1]) else (rec 104 σ2 [x0, x1]))) else none) else none))) else none) else none) = some (σf, rf, dd) := h
  intro p e s m args below meth c F Lo σ0 hF hLo C
  dsimp only at hF hLo ⊢
  refine ax_aload_n (pc := 38) C d_MM_alike_38 rfl 0 rfl ?_
  refine ax_aload_n (pc := 39) C d_MM_alike_39 rfl 0 rfl ?_
  refine mg_302 (pc := 40) C d_MM_alike_40 ?_
  refine ax_iload_n (pc := 43) C d_MM_alike_43 rfl 1 rfl ?_
  obtain ⟨hb, h⟩ := it_g h
  refine ml_95 (pc := 44) C d_MM_alike_44 (bin_in hb) ?_
  refine ax_aload_n (pc := 45) C d_MM_alike_45 rfl 0 rfl ?_
  refine mg_305 (pc := 46) C d_MM_alike_46 ?_
  refine ax_iload_n (pc := 49) C d_MM_alike_49 rfl 2 rfl ?_
  obtain ⟨hb, h⟩ := it_g h
  refine ml_96 (pc := 50) C d_MM_alike_50 (bin_in hb) ?_
  obtain ⟨σ1, r1, d1_1, d2_1, h1, h, hd2, hd1⟩ := it_b h
  have hm : s_96 l D kA z v σ [(σ.2.1 95 (Int32.toNatClampNeg x0)), (σ.2.1 96 (Int32.toNatClampNeg x1))] (σ1, r1, d1_1) := ih 96 _ _ _ h1
  refine mc_Vi (pc := 51) C (As := [.int (σ.2.1 95 (Int32.toNatClampNeg x0)), .int (σ.2.1 96 (Int32.toNatClampNeg x1))]) (rest := []) (hm _ _ rfl) ml_MM_513 d_MM_alike_51 rfl rfl (by dsimp only; omega) (by dsimp only; omega) (Nat.le_of_ble_eq_true rfl) (Nat.le_of_ble_eq_true rfl) (Nat.le_of_ble_eq_true rfl) ?_
  have hF : d2_1 + 1 ≤ F := by omega
  have hLo : 64 * d2_1 + 64 ≤ Lo := by omega
  refine ax_if_eq (pc := 54) C 80 d_MM_alike_54 (by decide) (fun hc => ?_) (fun hc => ?_)
  · have h := it_t hc h
    refine ax_ls ([(0, .ref z), (1, .int x0), (2, .int x1)]) [0, 1, 2] rfl ?_
    have hm : s_105 l D kA z v σ1 [x0, x1] (σf, rf, _) := ih 105 _ _ _ h
    exact hm _ _ rfl p e s m args below meth c F Lo σ0 hF hLo C
  · have h := it_f hc h
    refine ax_aload_n (pc := 57) C d_MM_alike_57 rfl 0 rfl ?_
    refine ax_aload_n (pc := 58) C d_MM_alike_58 rfl 0 rfl ?_
    refine mg_305 (pc := 59) C d_MM_alike_59 ?_
    refine ax_iload_n (pc := 62) C d_MM_alike_62 rfl 1 rfl ?_
    obtain ⟨hb, h⟩ := it_g h
    refine ml_96 (pc := 63) C d_MM_alike_63 (bin_in hb) ?_
    refine ax_aload_n (pc := 64) C d_MM_alike_64 rfl 0 rfl ?_
    refine mg_302 (pc := 65) C d_MM_alike_65 ?_
    refine ax_iload_n (pc := 68) C d_MM_alike_68 rfl 2 rfl ?_
    obtain ⟨hb, h⟩ := it_g h
    refine ml_95 (pc := 69) C d_MM_alike_69 (bin_in hb) ?_
    obtain ⟨σ2, r2, d1_2, d2_2, h1, h, hd2, hd1⟩ := it_b h
    have hm : s_96 l D kA z v σ1 [(σ1.2.1 96 (Int32.toNatClampNeg x0)), (σ1.2.1 95 (Int32.toNatClampNeg x1))] (σ2, r2, d1_2) := ih 96 _ _ _ h1
    refine mc_Vi (pc := 70) C (As := [.int (σ1.2.1 96 (Int32.toNatClampNeg x0)), .int (σ1.2.1 95 (Int32.toNatClampNeg x1))]) (rest := []) (hm _ _ rfl) ml_MM_513 d_MM_alike_70 rfl rfl (by dsimp only; omega) (by dsimp only; omega) (Nat.le_of_ble_eq_true rfl) (Nat.le_of_ble_eq_true rfl) (Nat.le_of_ble_eq_true rfl) ?_
    have hF : d2_2 + 1 ≤ F := by omega
    have hLo : 64 * d2_2 + 64 ≤ Lo := by omega
    refine ax_if_eq (pc := 73) C 80 d_MM_alike_73 (by decide) (fun hc => ?_) (fun hc => ?_)
    · have h := it_t hc h
      refine ax_ls ([(0, .ref z), (1, .int x0), (2, .int x1)]) [0, 1, 2] rfl ?_
      have hm : s_105 l D kA z v σ2 [x0, x1] (σf, rf, _) := ih 105 _ _ _ h
      exact hm _ _ rfl p e s m args below meth c F Lo σ0 hF hLo C
    · have h := it_f hc h
      refine ax_ls ([(0, .ref z), (1, .int x0), (2, .int x1)]) [0, 1, 2] rfl ?_
      have hm : s_104 l D kA z v σ2 [x0, x1] (σf, rf, _) := ih 104 _ _ _ h
      exact hm _ _ rfl p e s m args below meth c F Lo σ0 hF hLo C
set_option maxHeartbeats 4000000 in
set_option maxRecDepth 100000 in
theorem o_104 (l : Launch) (D : va_G) (kA : Nat → ClassId) (z : Nat) (v : Nat → Nat) (rec : mF) (ih : ∀ t σ xs res, rec t σ xs = some res → mSem l D kA z v t σ xs res) (σ : mS) (xs : List Int32) (res : mR) (h : k_104 rec σ xs = some res) : s_104 l D kA z v σ xs res := by
  intro x0 x1 hxs
  subst hxs
  obtain ⟨σf, rf, dd⟩ := res
  have h : (rec 106 σ [x0, x1, 1]) = some (σf, rf, dd) := h
  intro p e s m args below meth c F Lo σ0 hF hLo C
  dsimp only at hF hLo ⊢
  refine ax_iconst (pc := 76) C 1 d_MM_alike_76 (by decide +kernel) ?_
  refine ax_goto (pc := 77) C 81 d_MM_alike_77 (by decide) ?_
  refine ax_ls ([(0, .ref z), (1, .int x0), (2, .int x1)]) [0, 1, 2] rfl ?_
  have hm : s_106 l D kA z v σ [x0, x1, 1] (σf, rf, _) := ih 106 _ _ _ h
  exact hm _ _ _ rfl p e s m args below meth c F Lo σ0 hF hLo C
set_option maxHeartbeats 4000000 in
set_option maxRecDepth 100000 in
theorem o_105 (l : Launch) (D : va_G) (kA : Nat → ClassId) (z : Nat) (v : Nat → Nat) (rec : mF) (ih : ∀ t σ xs res, rec t σ xs = some res → mSem l D kA z v t σ xs res) (σ : mS) (xs : List Int32) (res : mR) (h : k_105 rec σ xs = some res) : s_105 l D kA z v σ xs res := by
  intro x0 x1 hxs
  subst hxs
  obtain ⟨σf, rf, dd⟩ := res
  have h : (rec 106 σ [x0, x1, 0]) = some (σf, rf, dd) := h
  intro p e s m args below meth c F Lo σ0 hF hLo C
  dsimp only at hF hLo ⊢
  refine ax_iconst (pc := 80) C 0 d_MM_alike_80 (by decide +kernel) ?_
  refine ax_ls ([(0, .ref z), (1, .int x0), (2, .int x1)]) [0, 1, 2] rfl ?_
  have hm : s_106 l D kA z v σ [x0, x1, 0] (σf, rf, _) := ih 106 _ _ _ h
  exact hm _ _ _ rfl p e s m args below meth c F Lo σ0 hF hLo C
set_option maxHeartbeats 4000000 in
set_option maxRecDepth 100000 in
theorem o_106 (l : Launch) (D : va_G) (kA : Nat → ClassId) (z : Nat) (v : Nat → Nat) (rec : mF) (ih : ∀ t σ xs res, rec t σ xs = some res → mSem l D kA z v t σ xs res) (σ : mS) (xs : List Int32) (res : mR) (h : k_106 rec σ xs = some res) : s_106 l D kA z v σ xs res := by
  intro x0 x1 x2 hxs
  subst hxs
  obtain ⟨σf, rf, dd⟩ := res
  have h : (if x2 = 0 ∨ x2 = 1 then some (σ, x2, 0) else none) = some (σf, rf, dd) := h
  intro p e s m args below meth c F Lo σ0 hF hLo C
  dsimp only at hF hLo ⊢
  obtain ⟨hb, h⟩ := it_g h
  cases h
  exact ax_zret (pc := 81) C d_MM_alike_81 (nb01 hb) ⟨rfl, rfl⟩ (Nat.le_refl _) (Nat.le_refl _)
set_option maxHeartbeats 4000000 in
set_option maxRecDepth 100000 in
theorem o_107 (l : Launch) (D : va_G) (kA : Nat → ClassId) (z : Nat) (v : Nat → Nat) (rec : mF) (ih : ∀ t σ xs res, rec t σ xs = some res → mSem l D kA z v t σ xs res) (σ : mS) (xs : List Int32) (res : mR) (h : k_107 rec σ xs = some res) : s_107 l D kA z v σ xs res := by
  intro x0 hxs
  subst hxs
  obtain ⟨σf, rf, dd⟩ := res
  have h : (if bin x0 420000 = true then (if 0 ≤ (σ.2.1 43 (Int32.toNatClampNeg x0)) then (if bin x0 420000 = true then (rec 111 σ [x0, (σ.2.1 44 (Int32.toNatClampNeg x0))]) else none) else (rec 108 σ [x0, 0])) else none) = some (σf, rf, dd) := h
  refine ax_Mv.of (by decide +kernel) (Nat.le_of_ble_eq_true rfl) ?_
  intro p e s m args below meth c C hnm
  have C : ax_C p s m args meth c b_MM_number "ClauseProverModel" 3 none D kA (va_A (mmW kA z v σ) s.heap.size) := C
  obtain ⟨F, hFe⟩ : ∃ F, F = dd + 1 := ⟨_, rfl⟩
  obtain ⟨Lo, hLoe⟩ : ∃ Lo, Lo = 64 * dd + 64 := ⟨_, rfl⟩
  obtain ⟨σ0, hσ0⟩ : ∃ s0, s0 = σ := ⟨_, rfl⟩
  suffices K : AW p l e { frames := F, cells := 0, slots := 0, locals := Lo } s m args below meth c D kA (va_A (mmW kA z v σ0) s.heap.size) 3 (ax_Qv below args s D kA (mmW kA z v σ0) 0 0 (fun w1 => w1 = mmW kA z v σf)) 0 [(0, .ref z), (1, .int x0)] [] (mmW kA z v σ) 0 0 by rw [hFe, hLoe, hσ0] at K; exact ax_ls ([(0, .ref z), (1, .int x0)]) [0, 1] rfl K
  have C : ax_C p s m args meth c b_MM_number "ClauseProverModel" 3 none D kA (va_A (mmW kA z v σ0) s.heap.size) := by rw [hσ0]; exact C
  have hF : dd + 1 ≤ F := by omega
  have hLo : 64 * dd + 64 ≤ Lo := by omega
  clear hFe hLoe hσ0
  refine ax_aload_n (pc := 0) C d_MM_number_0 rfl 0 rfl ?_
  refine mg_145 (pc := 1) C d_MM_number_1 ?_
  refine ax_iload_n (pc := 4) C d_MM_number_4 rfl 1 rfl ?_
  obtain ⟨hb, h⟩ := it_g h
  refine ml_43 (pc := 5) C d_MM_number_5 (bin_in hb) ?_
  refine ax_if_ge (pc := 6) C 80 d_MM_number_6 (by decide) (fun hc => ?_) (fun hc => ?_)
  · have h := it_t hc h
    refine ax_aload_n (pc := 80) C d_MM_number_80 rfl 0 rfl ?_
    refine mg_148 (pc := 81) C d_MM_number_81 ?_
    refine ax_iload_n (pc := 84) C d_MM_number_84 rfl 1 rfl ?_
    obtain ⟨hb, h⟩ := it_g h
    refine ml_44 (pc := 85) C d_MM_number_85 (bin_in hb) ?_
    refine ax_istore_n (pc := 86) C d_MM_number_86 rfl (Nat.le_of_ble_eq_true rfl) ([(2, .int (σ.2.1 44 (Int32.toNatClampNeg x0))), (0, .ref z), (1, .int x0)]) rfl ?_
    refine ax_ls ([(0, .ref z), (1, .int x0), (2, .int (σ.2.1 44 (Int32.toNatClampNeg x0)))]) [1, 2, 0] rfl ?_
    have hm : s_111 l D kA z v σ [x0, (σ.2.1 44 (Int32.toNatClampNeg x0))] (σf, rf, _) := ih 111 _ _ _ h
    exact hm _ _ rfl p e s m args below meth c F Lo σ0 hF hLo C
  · have h := it_f hc h
    refine ax_iconst (pc := 9) C 0 d_MM_number_9 (by decide +kernel) ?_
    refine ax_istore_n (pc := 10) C d_MM_number_10 rfl (Nat.le_of_ble_eq_true rfl) ([(2, .int 0), (0, .ref z), (1, .int x0)]) rfl ?_
    refine ax_ls ([(0, .ref z), (1, .int x0), (2, .int 0)]) [1, 2, 0] rfl ?_
    have hm : s_108 l D kA z v σ [x0, 0] (σf, rf, _) := ih 108 _ _ _ h
    exact hm _ _ rfl p e s m args below meth c F Lo σ0 hF hLo C
set_option maxHeartbeats 4000000 in
set_option maxRecDepth 100000 in
theorem o_108 (l : Launch) (D : va_G) (kA : Nat → ClassId) (z : Nat) (v : Nat → Nat) (rec : mF) (ih : ∀ t σ xs res, rec t σ xs = some res → mSem l D kA z v t σ xs res) (σ : mS) (xs : List Int32) (res : mR) (h : k_108 rec σ xs = some res) : s_108 l D kA z v σ xs res := by
  intro x0 x1 hxs
  subst hxs
  obtain ⟨σf, rf, dd⟩ := res
  have h : (if (σ.1 101) ≤ x1 then (rec 109 σ [x0, x1]) else (if bin x1 400 = true then (if bin x0 420000 = true then (if (σ.2.1 100 (Int32.toNatClampNeg x1)) = (σ.2.1 43 (Int32.toNatClampNeg x0)) then (rec 109 σ [x0, x1]) else (rec 108 σ [x0, (x1 + 1)])) else none) else none)) = some (σf, rf, dd) := h
  intro p e s m args below meth c F Lo σ0 hF hLo C
  dsimp only at hF hLo ⊢
  refine ax_iload_n (pc := 11) C d_MM_number_11 rfl 2 rfl ?_
  refine ax_aload_n (pc := 12) C d_MM_number_12 rfl 0 rfl ?_
  refine mg_320 (pc := 13) C d_MM_number_13 ?_
  refine ax_icmp_ge (pc := 16) C 40 d_MM_number_16 (by decide) (fun hc => ?_) (fun hc => ?_)
  · have h := it_t hc h
    refine ax_ls ([(0, .ref z), (1, .int x0), (2, .int x1)]) [0, 1, 2] rfl ?_
    have hm : s_109 l D kA z v σ [x0, x1] (σf, rf, _) := ih 109 _ _ _ h
    exact hm _ _ rfl p e s m args below meth c F Lo σ0 hF hLo C
  · have h := it_f hc h
    refine ax_aload_n (pc := 19) C d_MM_number_19 rfl 0 rfl ?_
    refine mg_317 (pc := 20) C d_MM_number_20 ?_
    refine ax_iload_n (pc := 23) C d_MM_number_23 rfl 2 rfl ?_
    obtain ⟨hb, h⟩ := it_g h
    refine ml_100 (pc := 24) C d_MM_number_24 (bin_in hb) ?_
    refine ax_aload_n (pc := 25) C d_MM_number_25 rfl 0 rfl ?_
    refine mg_145 (pc := 26) C d_MM_number_26 ?_
    refine ax_iload_n (pc := 29) C d_MM_number_29 rfl 1 rfl ?_
    obtain ⟨hb, h⟩ := it_g h
    refine ml_43 (pc := 30) C d_MM_number_30 (bin_in hb) ?_
    refine ax_icmp_eq (pc := 31) C 40 d_MM_number_31 (by decide) (fun hc => ?_) (fun hc => ?_)
    · have h := it_t hc h
      refine ax_ls ([(0, .ref z), (1, .int x0), (2, .int x1)]) [0, 1, 2] rfl ?_
      have hm : s_109 l D kA z v σ [x0, x1] (σf, rf, _) := ih 109 _ _ _ h
      exact hm _ _ rfl p e s m args below meth c F Lo σ0 hF hLo C
    · have h := it_f hc h
      refine ax_iinc (pc := 34) C (x1 + 1) d_MM_number_34 2 rfl rfl (Nat.le_of_ble_eq_true rfl) ([(2, .int (x1 + 1)), (0, .ref z), (1, .int x0)]) rfl ?_
      refine ax_goto (pc := 37) C 11 d_MM_number_37 (by decide) ?_
      refine ax_ls ([(0, .ref z), (1, .int x0), (2, .int (x1 + 1))]) [1, 2, 0] rfl ?_
      have hm : s_108 l D kA z v σ [x0, (x1 + 1)] (σf, rf, _) := ih 108 _ _ _ h
      exact hm _ _ rfl p e s m args below meth c F Lo σ0 hF hLo C
set_option maxHeartbeats 4000000 in
set_option maxRecDepth 100000 in
theorem o_109 (l : Launch) (D : va_G) (kA : Nat → ClassId) (z : Nat) (v : Nat → Nat) (rec : mF) (ih : ∀ t σ xs res, rec t σ xs = some res → mSem l D kA z v t σ xs res) (σ : mS) (xs : List Int32) (res : mR) (h : k_109 rec σ xs = some res) : s_109 l D kA z v σ xs res := by
  intro x0 x1 hxs
  subst hxs
  obtain ⟨σf, rf, dd⟩ := res
  have h : (if x1 = (σ.1 101) then (lt_ (mI σ 101 (((σ.1 101) : Int32) + 1)) (fun σ1 => if bin x0 420000 = true then (if bin (σ.1 101) 400 = true then (lt_ (mA σ1 100 (Int32.toNatClampNeg (σ.1 101)) (σ1.2.1 43 (Int32.toNatClampNeg x0))) (fun σ2 => rec 110 σ2 [x0, x1])) else none) else none)) else (rec 110 σ [x0, x1])) = some (σf, rf, dd) := h
  intro p e s m args below meth c F Lo σ0 hF hLo C
  dsimp only at hF hLo ⊢
  refine ax_iload_n (pc := 40) C d_MM_number_40 rfl 2 rfl ?_
  refine ax_aload_n (pc := 41) C d_MM_number_41 rfl 0 rfl ?_
  refine mg_320 (pc := 42) C d_MM_number_42 ?_
  refine ax_icmp_ne (pc := 45) C 70 d_MM_number_45 (by decide) (fun hc => ?_) (fun hc => ?_)
  · have h := it_f hc h
    refine ax_ls ([(0, .ref z), (1, .int x0), (2, .int x1)]) [0, 1, 2] rfl ?_
    have hm : s_110 l D kA z v σ [x0, x1] (σf, rf, _) := ih 110 _ _ _ h
    exact hm _ _ rfl p e s m args below meth c F Lo σ0 hF hLo C
  · have h := it_t hc h
    refine ax_aload_n (pc := 48) C d_MM_number_48 rfl 0 rfl ?_
    refine mg_317 (pc := 49) C d_MM_number_49 ?_
    refine ax_aload_n (pc := 52) C d_MM_number_52 rfl 0 rfl ?_
    refine ax_dup (pc := 53) C d_MM_number_53 rfl ?_
    refine mg_320 (pc := 54) C d_MM_number_54 ?_
    refine ax_dup_x1 (pc := 57) C d_MM_number_57 rfl rfl ?_
    refine ax_iconst (pc := 58) C 1 d_MM_number_58 (by decide +kernel) ?_
    refine ax_iadd (pc := 59) C d_MM_number_59 ?_
    refine mp_320 (pc := 60) C d_MM_number_60 ?_
    have h := it_l h
    generalize mI σ 101 (((σ.1 101) : Int32) + 1) = σ1 at h ⊢
    refine ax_aload_n (pc := 63) C d_MM_number_63 rfl 0 rfl ?_
    refine mg_145 (pc := 64) C d_MM_number_64 ?_
    refine ax_iload_n (pc := 67) C d_MM_number_67 rfl 1 rfl ?_
    obtain ⟨hb, h⟩ := it_g h
    refine ml_43 (pc := 68) C d_MM_number_68 (bin_in hb) ?_
    obtain ⟨hb, h⟩ := it_g h
    refine ms_100 (pc := 69) C d_MM_number_69 (bin_in hb) ?_
    have h := it_l h
    generalize mA σ1 100 (Int32.toNatClampNeg (σ.1 101)) (σ1.2.1 43 (Int32.toNatClampNeg x0)) = σ2 at h ⊢
    refine ax_ls ([(0, .ref z), (1, .int x0), (2, .int x1)]) [0, 1, 2] rfl ?_
    have hm : s_110 l D kA z v σ2 [x0, x1] (σf, rf, _) := ih 110 _ _ _ h
    exact hm _ _ rfl p e s m args below meth c F Lo σ0 hF hLo C
set_option maxHeartbeats 4000000 in
set_option maxRecDepth 100000 in
theorem o_110 (l : Launch) (D : va_G) (kA : Nat → ClassId) (z : Nat) (v : Nat → Nat) (rec : mF) (ih : ∀ t σ xs res, rec t σ xs = some res → mSem l D kA z v t σ xs res) (σ : mS) (xs : List Int32) (res : mR) (h : k_110 rec σ xs = some res) : s_110 l D kA z v σ xs res := by
  intro x0 x1 hxs
  subst hxs
  obtain ⟨σf, rf, dd⟩ := res
  have h : (if bin x0 420000 = true then (lt_ (mA σ 43 (Int32.toNatClampNeg x0) (((-1) : Int32) - x1)) (fun σ1 => some (σ1, 0, 0))) else none) = some (σf, rf, dd) := h
  intro p e s m args below meth c F Lo σ0 hF hLo C
  dsimp only at hF hLo ⊢
  refine ax_aload_n (pc := 70) C d_MM_number_70 rfl 0 rfl ?_
  refine mg_145 (pc := 71) C d_MM_number_71 ?_
  refine ax_iload_n (pc := 74) C d_MM_number_74 rfl 1 rfl ?_
  refine ax_iconst (pc := 75) C (-1) d_MM_number_75 (by decide +kernel) ?_
  refine ax_iload_n (pc := 76) C d_MM_number_76 rfl 2 rfl ?_
  refine ax_isub (pc := 77) C d_MM_number_77 ?_
  obtain ⟨hb, h⟩ := it_g h
  refine ms_43 (pc := 78) C d_MM_number_78 (bin_in hb) ?_
  have h := it_l h
  generalize mA σ 43 (Int32.toNatClampNeg x0) (((-1) : Int32) - x1) = σ1 at h ⊢
  cases h
  exact ax_vret (pc := 79) C d_MM_number_79 rfl (Nat.le_refl _) (Nat.le_refl _)
set_option maxHeartbeats 4000000 in
set_option maxRecDepth 100000 in
theorem o_111 (l : Launch) (D : va_G) (kA : Nat → ClassId) (z : Nat) (v : Nat → Nat) (rec : mF) (ih : ∀ t σ xs res, rec t σ xs = some res → mSem l D kA z v t σ xs res) (σ : mS) (xs : List Int32) (res : mR) (h : k_111 rec σ xs = some res) : s_111 l D kA z v σ xs res := by
  intro x0 x1 hxs
  subst hxs
  obtain ⟨σf, rf, dd⟩ := res
  have h : (if x1 < 0 then (some (σ, 0, 0)) else (bnd (rec 107 σ [x1]) (fun σ1 r1 => if bin x1 420000 = true then (rec 111 σ1 [x0, (σ1.2.1 45 (Int32.toNatClampNeg x1))]) else none))) = some (σf, rf, dd) := h
  intro p e s m args below meth c F Lo σ0 hF hLo C
  dsimp only at hF hLo ⊢
  refine ax_iload_n (pc := 87) C d_MM_number_87 rfl 2 rfl ?_
  refine ax_if_lt (pc := 88) C 106 d_MM_number_88 (by decide) (fun hc => ?_) (fun hc => ?_)
  · have h := it_t hc h
    cases h
    exact ax_vret (pc := 106) C d_MM_number_106 rfl (Nat.le_refl _) (Nat.le_refl _)
  · have h := it_f hc h
    refine ax_aload_n (pc := 91) C d_MM_number_91 rfl 0 rfl ?_
    refine ax_iload_n (pc := 92) C d_MM_number_92 rfl 2 rfl ?_
    obtain ⟨σ1, r1, d1_1, d2_1, h1, h, hd2, hd1⟩ := it_b h
    have hm : s_107 l D kA z v σ [x1] (σ1, r1, d1_1) := ih 107 _ _ _ h1
    refine mc_Vv (pc := 93) C (As := [.int x1]) (rest := []) (hm _ rfl) ml_MM_580 d_MM_number_93 rfl rfl (by dsimp only; omega) (by dsimp only; omega) (Nat.le_of_ble_eq_true rfl) (Nat.le_of_ble_eq_true rfl) (Nat.le_of_ble_eq_true rfl) ?_
    have hF : d2_1 + 1 ≤ F := by omega
    have hLo : 64 * d2_1 + 64 ≤ Lo := by omega
    refine ax_aload_n (pc := 96) C d_MM_number_96 rfl 0 rfl ?_
    refine mg_151 (pc := 97) C d_MM_number_97 ?_
    refine ax_iload_n (pc := 100) C d_MM_number_100 rfl 2 rfl ?_
    obtain ⟨hb, h⟩ := it_g h
    refine ml_45 (pc := 101) C d_MM_number_101 (bin_in hb) ?_
    refine ax_istore_n (pc := 102) C d_MM_number_102 rfl (Nat.le_of_ble_eq_true rfl) ([(2, .int (σ1.2.1 45 (Int32.toNatClampNeg x1))), (0, .ref z), (1, .int x0)]) rfl ?_
    refine ax_goto (pc := 103) C 87 d_MM_number_103 (by decide) ?_
    refine ax_ls ([(0, .ref z), (1, .int x0), (2, .int (σ1.2.1 45 (Int32.toNatClampNeg x1)))]) [1, 2, 0] rfl ?_
    have hm : s_111 l D kA z v σ1 [x0, (σ1.2.1 45 (Int32.toNatClampNeg x1))] (σf, rf, _) := ih 111 _ _ _ h
    exact hm _ _ rfl p e s m args below meth c F Lo σ0 hF hLo C
set_option maxHeartbeats 4000000 in
set_option maxRecDepth 100000 in
theorem o_112 (l : Launch) (D : va_G) (kA : Nat → ClassId) (z : Nat) (v : Nat → Nat) (rec : mF) (ih : ∀ t σ xs res, rec t σ xs = some res → mSem l D kA z v t σ xs res) (σ : mS) (xs : List Int32) (res : mR) (h : k_112 rec σ xs = some res) : s_112 l D kA z v σ xs res := by
  intro hxs
  subst hxs
  obtain ⟨σf, rf, dd⟩ := res
  have h : (rec 113 σ [0]) = some (σf, rf, dd) := h
  refine ax_Mi.of (by decide +kernel) (Nat.le_of_ble_eq_true rfl) ?_
  intro p e s m args below meth c C hnm
  have C : ax_C p s m args meth c b_MM_tautology "ClauseProverModel" 3 (some .boolean) D kA (va_A (mmW kA z v σ) s.heap.size) := C
  obtain ⟨F, hFe⟩ : ∃ F, F = dd + 1 := ⟨_, rfl⟩
  obtain ⟨Lo, hLoe⟩ : ∃ Lo, Lo = 64 * dd + 64 := ⟨_, rfl⟩
  obtain ⟨σ0, hσ0⟩ : ∃ s0, s0 = σ := ⟨_, rfl⟩
  suffices K : AW p l e { frames := F, cells := 0, slots := 0, locals := Lo } s m args below meth c D kA (va_A (mmW kA z v σ0) s.heap.size) 3 (ax_Qi below args s D kA (mmW kA z v σ0) 0 0 (fun r w1 => r = rf ∧ w1 = mmW kA z v σf)) 0 [(0, .ref z)] [] (mmW kA z v σ) 0 0 by rw [hFe, hLoe, hσ0] at K; exact ax_ls ([(0, .ref z)]) [0] rfl K
  have C : ax_C p s m args meth c b_MM_tautology "ClauseProverModel" 3 (some .boolean) D kA (va_A (mmW kA z v σ0) s.heap.size) := by rw [hσ0]; exact C
  have hF : dd + 1 ≤ F := by omega
  have hLo : 64 * dd + 64 ≤ Lo := by omega
  clear hFe hLoe hσ0
  refine ax_iconst (pc := 0) C 0 d_MM_tautology_0 (by decide +kernel) ?_
  refine ax_istore_n (pc := 1) C d_MM_tautology_1 rfl (Nat.le_of_ble_eq_true rfl) ([(1, .int 0), (0, .ref z)]) rfl ?_
  refine ax_ls ([(0, .ref z), (1, .int 0)]) [1, 0] rfl ?_
  have hm : s_113 l D kA z v σ [0] (σf, rf, _) := ih 113 _ _ _ h
  exact hm _ rfl p e s m args below meth c F Lo σ0 hF hLo C
set_option maxHeartbeats 4000000 in
set_option maxRecDepth 100000 in
theorem o_113 (l : Launch) (D : va_G) (kA : Nat → ClassId) (z : Nat) (v : Nat → Nat) (rec : mF) (ih : ∀ t σ xs res, rec t σ xs = some res → mSem l D kA z v t σ xs res) (σ : mS) (xs : List Int32) (res : mR) (h : k_113 rec σ xs = some res) : s_113 l D kA z v σ xs res := by
  intro x0 hxs
  subst hxs
  obtain ⟨σf, rf, dd⟩ := res
  have h : (if (σ.1 98) ≤ x0 then (some (σ, 0, 0)) else (if bin x0 40 = true then (if (σ.2.1 97 (Int32.toNatClampNeg x0)) = 0 then (rec 116 σ [x0]) else (if bin x0 40 = true then (if bin x0 40 = true then (bnd (rec 96 σ [(σ.2.1 95 (Int32.toNatClampNeg x0)), (σ.2.1 96 (Int32.toNatClampNeg x0))]) (fun σ1 r1 => if r1 = 0 then (rec 114 σ1 [x0, 0]) else (some (σ1, 1, 0)))) else none) else none)) else none)) = some (σf, rf, dd) := h
  intro p e s m args below meth c F Lo σ0 hF hLo C
  dsimp only at hF hLo ⊢
  refine ax_iload_n (pc := 2) C d_MM_tautology_2 rfl 1 rfl ?_
  refine ax_aload_n (pc := 3) C d_MM_tautology_3 rfl 0 rfl ?_
  refine mg_311 (pc := 4) C d_MM_tautology_4 ?_
  refine ax_icmp_ge (pc := 7) C 85 d_MM_tautology_7 (by decide) (fun hc => ?_) (fun hc => ?_)
  · have h := it_t hc h
    refine ax_iconst (pc := 85) C 0 d_MM_tautology_85 (by decide +kernel) ?_
    cases h
    exact ax_zret (pc := 86) C d_MM_tautology_86 rfl ⟨rfl, rfl⟩ (Nat.le_refl _) (Nat.le_refl _)
  · have h := it_f hc h
    refine ax_aload_n (pc := 10) C d_MM_tautology_10 rfl 0 rfl ?_
    refine mg_308 (pc := 11) C d_MM_tautology_11 ?_
    refine ax_iload_n (pc := 14) C d_MM_tautology_14 rfl 1 rfl ?_
    obtain ⟨hb, h⟩ := it_g h
    refine ml_97 (pc := 15) C d_MM_tautology_15 (bin_in hb) ?_
    refine ax_if_ne (pc := 16) C 22 d_MM_tautology_16 (by decide) (fun hc => ?_) (fun hc => ?_)
    · have h := it_f hc h
      refine ax_aload_n (pc := 22) C d_MM_tautology_22 rfl 0 rfl ?_
      refine ax_aload_n (pc := 23) C d_MM_tautology_23 rfl 0 rfl ?_
      refine mg_302 (pc := 24) C d_MM_tautology_24 ?_
      refine ax_iload_n (pc := 27) C d_MM_tautology_27 rfl 1 rfl ?_
      obtain ⟨hb, h⟩ := it_g h
      refine ml_95 (pc := 28) C d_MM_tautology_28 (bin_in hb) ?_
      refine ax_aload_n (pc := 29) C d_MM_tautology_29 rfl 0 rfl ?_
      refine mg_305 (pc := 30) C d_MM_tautology_30 ?_
      refine ax_iload_n (pc := 33) C d_MM_tautology_33 rfl 1 rfl ?_
      obtain ⟨hb, h⟩ := it_g h
      refine ml_96 (pc := 34) C d_MM_tautology_34 (bin_in hb) ?_
      obtain ⟨σ1, r1, d1_1, d2_1, h1, h, hd2, hd1⟩ := it_b h
      have hm : s_96 l D kA z v σ [(σ.2.1 95 (Int32.toNatClampNeg x0)), (σ.2.1 96 (Int32.toNatClampNeg x0))] (σ1, r1, d1_1) := ih 96 _ _ _ h1
      refine mc_Vi (pc := 35) C (As := [.int (σ.2.1 95 (Int32.toNatClampNeg x0)), .int (σ.2.1 96 (Int32.toNatClampNeg x0))]) (rest := []) (hm _ _ rfl) ml_MM_513 d_MM_tautology_35 rfl rfl (by dsimp only; omega) (by dsimp only; omega) (Nat.le_of_ble_eq_true rfl) (Nat.le_of_ble_eq_true rfl) (Nat.le_of_ble_eq_true rfl) ?_
      have hF : d2_1 + 1 ≤ F := by omega
      have hLo : 64 * d2_1 + 64 ≤ Lo := by omega
      refine ax_if_eq (pc := 38) C 43 d_MM_tautology_38 (by decide) (fun hc => ?_) (fun hc => ?_)
      · have h := it_t hc h
        refine ax_iconst (pc := 43) C 0 d_MM_tautology_43 (by decide +kernel) ?_
        refine ax_istore_n (pc := 44) C d_MM_tautology_44 rfl (Nat.le_of_ble_eq_true rfl) ([(2, .int 0), (0, .ref z), (1, .int x0)]) rfl ?_
        refine ax_ls ([(0, .ref z), (1, .int x0), (2, .int 0)]) [1, 2, 0] rfl ?_
        have hm : s_114 l D kA z v σ1 [x0, 0] (σf, rf, _) := ih 114 _ _ _ h
        exact hm _ _ rfl p e s m args below meth c F Lo σ0 hF hLo C
      · have h := it_f hc h
        refine ax_iconst (pc := 41) C 1 d_MM_tautology_41 (by decide +kernel) ?_
        cases h
        exact ax_zret (pc := 42) C d_MM_tautology_42 rfl ⟨rfl, rfl⟩ (Nat.le_refl _) (Nat.le_refl _)
    · have h := it_t hc h
      refine ax_goto (pc := 19) C 79 d_MM_tautology_19 (by decide) ?_
      refine ax_ls ([(0, .ref z), (1, .int x0)]) [0, 1] rfl ?_
      have hm : s_116 l D kA z v σ [x0] (σf, rf, _) := ih 116 _ _ _ h
      exact hm _ rfl p e s m args below meth c F Lo σ0 hF hLo C
set_option maxHeartbeats 4000000 in
set_option maxRecDepth 100000 in
theorem o_114 (l : Launch) (D : va_G) (kA : Nat → ClassId) (z : Nat) (v : Nat → Nat) (rec : mF) (ih : ∀ t σ xs res, rec t σ xs = some res → mSem l D kA z v t σ xs res) (σ : mS) (xs : List Int32) (res : mR) (h : k_114 rec σ xs = some res) : s_114 l D kA z v σ xs res := by
  intro x0 x1 hxs
  subst hxs
  obtain ⟨σf, rf, dd⟩ := res
  have h : (if (σ.1 98) ≤ x1 then (rec 116 σ [x0]) else (if bin x1 40 = true then (if (σ.2.1 97 (Int32.toNatClampNeg x1)) = 0 then (bnd (rec 102 σ [x0, x1]) (fun σ1 r1 => if r1 = 0 then (rec 115 σ1 [x0, x1]) else (some (σ1, 1, 0)))) else (rec 115 σ [x0, x1])) else none)) = some (σf, rf, dd) := h
  intro p e s m args below meth c F Lo σ0 hF hLo C
  dsimp only at hF hLo ⊢
  refine ax_iload_n (pc := 45) C d_MM_tautology_45 rfl 2 rfl ?_
  refine ax_aload_n (pc := 46) C d_MM_tautology_46 rfl 0 rfl ?_
  refine mg_311 (pc := 47) C d_MM_tautology_47 ?_
  refine ax_icmp_ge (pc := 50) C 79 d_MM_tautology_50 (by decide) (fun hc => ?_) (fun hc => ?_)
  · have h := it_t hc h
    refine ax_ls ([(0, .ref z), (1, .int x0)]) [0, 1] rfl ?_
    have hm : s_116 l D kA z v σ [x0] (σf, rf, _) := ih 116 _ _ _ h
    exact hm _ rfl p e s m args below meth c F Lo σ0 hF hLo C
  · have h := it_f hc h
    refine ax_aload_n (pc := 53) C d_MM_tautology_53 rfl 0 rfl ?_
    refine mg_308 (pc := 54) C d_MM_tautology_54 ?_
    refine ax_iload_n (pc := 57) C d_MM_tautology_57 rfl 2 rfl ?_
    obtain ⟨hb, h⟩ := it_g h
    refine ml_97 (pc := 58) C d_MM_tautology_58 (bin_in hb) ?_
    refine ax_if_ne (pc := 59) C 73 d_MM_tautology_59 (by decide) (fun hc => ?_) (fun hc => ?_)
    · have h := it_f hc h
      refine ax_ls ([(0, .ref z), (1, .int x0), (2, .int x1)]) [0, 1, 2] rfl ?_
      have hm : s_115 l D kA z v σ [x0, x1] (σf, rf, _) := ih 115 _ _ _ h
      exact hm _ _ rfl p e s m args below meth c F Lo σ0 hF hLo C
    · have h := it_t hc h
      refine ax_aload_n (pc := 62) C d_MM_tautology_62 rfl 0 rfl ?_
      refine ax_iload_n (pc := 63) C d_MM_tautology_63 rfl 1 rfl ?_
      refine ax_iload_n (pc := 64) C d_MM_tautology_64 rfl 2 rfl ?_
      obtain ⟨σ1, r1, d1_1, d2_1, h1, h, hd2, hd1⟩ := it_b h
      have hm : s_102 l D kA z v σ [x0, x1] (σ1, r1, d1_1) := ih 102 _ _ _ h1
      refine mc_Vi (pc := 65) C (As := [.int x0, .int x1]) (rest := []) (hm _ _ rfl) ml_MM_574 d_MM_tautology_65 rfl rfl (by dsimp only; omega) (by dsimp only; omega) (Nat.le_of_ble_eq_true rfl) (Nat.le_of_ble_eq_true rfl) (Nat.le_of_ble_eq_true rfl) ?_
      have hF : d2_1 + 1 ≤ F := by omega
      have hLo : 64 * d2_1 + 64 ≤ Lo := by omega
      refine ax_if_eq (pc := 68) C 73 d_MM_tautology_68 (by decide) (fun hc => ?_) (fun hc => ?_)
      · have h := it_t hc h
        refine ax_ls ([(0, .ref z), (1, .int x0), (2, .int x1)]) [0, 1, 2] rfl ?_
        have hm : s_115 l D kA z v σ1 [x0, x1] (σf, rf, _) := ih 115 _ _ _ h
        exact hm _ _ rfl p e s m args below meth c F Lo σ0 hF hLo C
      · have h := it_f hc h
        refine ax_iconst (pc := 71) C 1 d_MM_tautology_71 (by decide +kernel) ?_
        cases h
        exact ax_zret (pc := 72) C d_MM_tautology_72 rfl ⟨rfl, rfl⟩ (Nat.le_refl _) (Nat.le_refl _)
set_option maxHeartbeats 4000000 in
set_option maxRecDepth 100000 in
theorem o_115 (l : Launch) (D : va_G) (kA : Nat → ClassId) (z : Nat) (v : Nat → Nat) (rec : mF) (ih : ∀ t σ xs res, rec t σ xs = some res → mSem l D kA z v t σ xs res) (σ : mS) (xs : List Int32) (res : mR) (h : k_115 rec σ xs = some res) : s_115 l D kA z v σ xs res := by
  intro x0 x1 hxs
  subst hxs
  obtain ⟨σf, rf, dd⟩ := res
  have h : (rec 114 σ [x0, (x1 + 1)]) = some (σf, rf, dd) := h
  intro p e s m args below meth c F Lo σ0 hF hLo C
  dsimp only at hF hLo ⊢
  refine ax_iinc (pc := 73) C (x1 + 1) d_MM_tautology_73 2 rfl rfl (Nat.le_of_ble_eq_true rfl) ([(2, .int (x1 + 1)), (0, .ref z), (1, .int x0)]) rfl ?_
  refine ax_goto (pc := 76) C 45 d_MM_tautology_76 (by decide) ?_
  refine ax_ls ([(0, .ref z), (1, .int x0), (2, .int (x1 + 1))]) [1, 2, 0] rfl ?_
  have hm : s_114 l D kA z v σ [x0, (x1 + 1)] (σf, rf, _) := ih 114 _ _ _ h
  exact hm _ _ rfl p e s m args below meth c F Lo σ0 hF hLo C
set_option maxHeartbeats 4000000 in
set_option maxRecDepth 100000 in
theorem o_116 (l : Launch) (D : va_G) (kA : Nat → ClassId) (z : Nat) (v : Nat → Nat) (rec : mF) (ih : ∀ t σ xs res, rec t σ xs = some res → mSem l D kA z v t σ xs res) (σ : mS) (xs : List Int32) (res : mR) (h : k_116 rec σ xs = some res) : s_116 l D kA z v σ xs res := by
  intro x0 hxs
  subst hxs
  obtain ⟨σf, rf, dd⟩ := res
  have h : (rec 113 σ [(x0 + 1)]) = some (σf, rf, dd) := h
  intro p e s m args below meth c F Lo σ0 hF hLo C
  dsimp only at hF hLo ⊢
  refine ax_iinc (pc := 79) C (x0 + 1) d_MM_tautology_79 1 rfl rfl (Nat.le_of_ble_eq_true rfl) ([(1, .int (x0 + 1)), (0, .ref z)]) rfl ?_
  refine ax_goto (pc := 82) C 2 d_MM_tautology_82 (by decide) ?_
  refine ax_ls ([(0, .ref z), (1, .int (x0 + 1))]) [1, 0] rfl ?_
  have hm : s_113 l D kA z v σ [(x0 + 1)] (σf, rf, _) := ih 113 _ _ _ h
  exact hm _ rfl p e s m args below meth c F Lo σ0 hF hLo C
set_option maxHeartbeats 4000000 in
set_option maxRecDepth 100000 in
theorem o_117 (l : Launch) (D : va_G) (kA : Nat → ClassId) (z : Nat) (v : Nat → Nat) (rec : mF) (ih : ∀ t σ xs res, rec t σ xs = some res → mSem l D kA z v t σ xs res) (σ : mS) (xs : List Int32) (res : mR) (h : k_117 rec σ xs = some res) : s_117 l D kA z v σ xs res := by
  intro x0 x1 hxs
  subst hxs
  obtain ⟨σf, rf, dd⟩ := res
  have h : (if bin x0 420000 = true then (if 0 ≤ (σ.2.1 43 (Int32.toNatClampNeg x0)) then (lt_ (mFl σ 102 0 8) (fun σ1 => bnd (rec 119 σ1 [x0, 1]) (fun σ2 r2 => bnd (rec 119 σ2 [x1, (-1)]) (fun σ3 r3 => rec 118 σ3 [x0, x1, 0])))) else (some (σ, 0, 0))) else none) = some (σf, rf, dd) := h
  refine ax_Mi.of (by decide +kernel) (Nat.le_of_ble_eq_true rfl) ?_
  intro p e s m args below meth c C hnm
  have C : ax_C p s m args meth c b_MM_greater "ClauseProverModel" 4 (some .boolean) D kA (va_A (mmW kA z v σ) s.heap.size) := C
  obtain ⟨F, hFe⟩ : ∃ F, F = dd + 1 := ⟨_, rfl⟩
  obtain ⟨Lo, hLoe⟩ : ∃ Lo, Lo = 64 * dd + 64 := ⟨_, rfl⟩
  obtain ⟨σ0, hσ0⟩ : ∃ s0, s0 = σ := ⟨_, rfl⟩
  suffices K : AW p l e { frames := F, cells := 0, slots := 0, locals := Lo } s m args below meth c D kA (va_A (mmW kA z v σ0) s.heap.size) 4 (ax_Qi below args s D kA (mmW kA z v σ0) 0 0 (fun r w1 => r = rf ∧ w1 = mmW kA z v σf)) 0 [(0, .ref z), (1, .int x0), (2, .int x1)] [] (mmW kA z v σ) 0 0 by rw [hFe, hLoe, hσ0] at K; exact ax_ls ([(0, .ref z), (1, .int x0), (2, .int x1)]) [0, 1, 2] rfl K
  have C : ax_C p s m args meth c b_MM_greater "ClauseProverModel" 4 (some .boolean) D kA (va_A (mmW kA z v σ0) s.heap.size) := by rw [hσ0]; exact C
  have hF : dd + 1 ≤ F := by omega
  have hLo : 64 * dd + 64 ≤ Lo := by omega
  clear hFe hLoe hσ0
  refine ax_aload_n (pc := 0) C d_MM_greater_0 rfl 0 rfl ?_
  refine mg_145 (pc := 1) C d_MM_greater_1 ?_
  refine ax_iload_n (pc := 4) C d_MM_greater_4 rfl 1 rfl ?_
  obtain ⟨hb, h⟩ := it_g h
  refine ml_43 (pc := 5) C d_MM_greater_5 (bin_in hb) ?_
  refine ax_if_ge (pc := 6) C 11 d_MM_greater_6 (by decide) (fun hc => ?_) (fun hc => ?_)
  · have h := it_t hc h
    refine ax_aload_n (pc := 11) C d_MM_greater_11 rfl 0 rfl ?_
    refine mg_323 (pc := 12) C d_MM_greater_12 ?_
    refine ax_iconst (pc := 15) C 0 d_MM_greater_15 (by decide +kernel) ?_
    refine mf_102 (pc := 16) C (rest := []) ml_MM_588 d_MM_greater_16 rfl hF hLo (Nat.le_of_ble_eq_true rfl) ?_
    have h := it_l h
    generalize mFl σ 102 0 8 = σ1 at h ⊢
    refine ax_aload_n (pc := 19) C d_MM_greater_19 rfl 0 rfl ?_
    refine ax_iload_n (pc := 20) C d_MM_greater_20 rfl 1 rfl ?_
    refine ax_iconst (pc := 21) C 1 d_MM_greater_21 (by decide +kernel) ?_
    obtain ⟨σ2, r2, d1_2, d2_2, h1, h, hd2, hd1⟩ := it_b h
    have hm : s_119 l D kA z v σ1 [x0, 1] (σ2, r2, d1_2) := ih 119 _ _ _ h1
    refine mc_Vv (pc := 22) C (As := [.int x0, .int 1]) (rest := []) (hm _ _ rfl) ml_MM_586 d_MM_greater_22 rfl rfl (by dsimp only; omega) (by dsimp only; omega) (Nat.le_of_ble_eq_true rfl) (Nat.le_of_ble_eq_true rfl) (Nat.le_of_ble_eq_true rfl) ?_
    have hF : d2_2 + 1 ≤ F := by omega
    have hLo : 64 * d2_2 + 64 ≤ Lo := by omega
    refine ax_aload_n (pc := 25) C d_MM_greater_25 rfl 0 rfl ?_
    refine ax_iload_n (pc := 26) C d_MM_greater_26 rfl 2 rfl ?_
    refine ax_iconst (pc := 27) C (-1) d_MM_greater_27 (by decide +kernel) ?_
    obtain ⟨σ3, r3, d1_3, d2_3, h1, h, hd2, hd1⟩ := it_b h
    have hm : s_119 l D kA z v σ2 [x1, (-1)] (σ3, r3, d1_3) := ih 119 _ _ _ h1
    refine mc_Vv (pc := 28) C (As := [.int x1, .int (-1)]) (rest := []) (hm _ _ rfl) ml_MM_586 d_MM_greater_28 rfl rfl (by dsimp only; omega) (by dsimp only; omega) (Nat.le_of_ble_eq_true rfl) (Nat.le_of_ble_eq_true rfl) (Nat.le_of_ble_eq_true rfl) ?_
    have hF : d2_3 + 1 ≤ F := by omega
    have hLo : 64 * d2_3 + 64 ≤ Lo := by omega
    refine ax_iconst (pc := 31) C 0 d_MM_greater_31 (by decide +kernel) ?_
    refine ax_istore_n (pc := 32) C d_MM_greater_32 rfl (Nat.le_of_ble_eq_true rfl) ([(3, .int 0), (0, .ref z), (1, .int x0), (2, .int x1)]) rfl ?_
    refine ax_ls ([(0, .ref z), (1, .int x0), (2, .int x1), (3, .int 0)]) [1, 2, 3, 0] rfl ?_
    have hm : s_118 l D kA z v σ3 [x0, x1, 0] (σf, rf, _) := ih 118 _ _ _ h
    exact hm _ _ _ rfl p e s m args below meth c F Lo σ0 hF hLo C
  · have h := it_f hc h
    refine ax_iconst (pc := 9) C 0 d_MM_greater_9 (by decide +kernel) ?_
    cases h
    exact ax_zret (pc := 10) C d_MM_greater_10 rfl ⟨rfl, rfl⟩ (Nat.le_refl _) (Nat.le_refl _)
set_option maxHeartbeats 4000000 in
set_option maxRecDepth 100000 in
theorem o_118 (l : Launch) (D : va_G) (kA : Nat → ClassId) (z : Nat) (v : Nat → Nat) (rec : mF) (ih : ∀ t σ xs res, rec t σ xs = some res → mSem l D kA z v t σ xs res) (σ : mS) (xs : List Int32) (res : mR) (h : k_118 rec σ xs = some res) : s_118 l D kA z v σ xs res := by
  intro x0 x1 x2 hxs
  subst hxs
  obtain ⟨σf, rf, dd⟩ := res
  have h : (if 8 ≤ x2 then (bnd (rec 121 σ [x0, x1]) (fun σ1 r1 => if r1 = 0 ∨ r1 = 1 then some (σ1, r1, 0) else none)) else (if bin x2 8 = true then (if 0 ≤ (σ.2.1 102 (Int32.toNatClampNeg x2)) then (rec 118 σ [x0, x1, (x2 + 1)]) else (some (σ, 0, 0))) else none)) = some (σf, rf, dd) := h
  intro p e s m args below meth c F Lo σ0 hF hLo C
  dsimp only at hF hLo ⊢
  refine ax_iload_n (pc := 33) C d_MM_greater_33 rfl 3 rfl ?_
  refine ax_bipush (pc := 34) C 8 d_MM_greater_34 (by decide +kernel) ?_
  refine ax_icmp_ge (pc := 36) C 56 d_MM_greater_36 (by decide) (fun hc => ?_) (fun hc => ?_)
  · have h := it_t hc h
    refine ax_aload_n (pc := 56) C d_MM_greater_56 rfl 0 rfl ?_
    refine ax_iload_n (pc := 57) C d_MM_greater_57 rfl 1 rfl ?_
    refine ax_iload_n (pc := 58) C d_MM_greater_58 rfl 2 rfl ?_
    obtain ⟨σ1, r1, d1_1, d2_1, h1, h, hd2, hd1⟩ := it_b h
    have hm : s_121 l D kA z v σ [x0, x1] (σ1, r1, d1_1) := ih 121 _ _ _ h1
    refine mc_Vi (pc := 59) C (As := [.int x0, .int x1]) (rest := []) (hm _ _ rfl) ml_MM_594 d_MM_greater_59 rfl rfl (by dsimp only; omega) (by dsimp only; omega) (Nat.le_of_ble_eq_true rfl) (Nat.le_of_ble_eq_true rfl) (Nat.le_of_ble_eq_true rfl) ?_
    have hF : d2_1 + 1 ≤ F := by omega
    have hLo : 64 * d2_1 + 64 ≤ Lo := by omega
    obtain ⟨hb, h⟩ := it_g h
    cases h
    exact ax_zret (pc := 62) C d_MM_greater_62 (nb01 hb) ⟨rfl, rfl⟩ (Nat.le_refl _) (Nat.le_refl _)
  · have h := it_f hc h
    refine ax_aload_n (pc := 39) C d_MM_greater_39 rfl 0 rfl ?_
    refine mg_323 (pc := 40) C d_MM_greater_40 ?_
    refine ax_iload_n (pc := 43) C d_MM_greater_43 rfl 3 rfl ?_
    obtain ⟨hb, h⟩ := it_g h
    refine ml_102 (pc := 44) C d_MM_greater_44 (bin_in hb) ?_
    refine ax_if_ge (pc := 45) C 50 d_MM_greater_45 (by decide) (fun hc => ?_) (fun hc => ?_)
    · have h := it_t hc h
      refine ax_iinc (pc := 50) C (x2 + 1) d_MM_greater_50 3 rfl rfl (Nat.le_of_ble_eq_true rfl) ([(3, .int (x2 + 1)), (0, .ref z), (1, .int x0), (2, .int x1)]) rfl ?_
      refine ax_goto (pc := 53) C 33 d_MM_greater_53 (by decide) ?_
      refine ax_ls ([(0, .ref z), (1, .int x0), (2, .int x1), (3, .int (x2 + 1))]) [1, 2, 3, 0] rfl ?_
      have hm : s_118 l D kA z v σ [x0, x1, (x2 + 1)] (σf, rf, _) := ih 118 _ _ _ h
      exact hm _ _ _ rfl p e s m args below meth c F Lo σ0 hF hLo C
    · have h := it_f hc h
      refine ax_iconst (pc := 48) C 0 d_MM_greater_48 (by decide +kernel) ?_
      cases h
      exact ax_zret (pc := 49) C d_MM_greater_49 rfl ⟨rfl, rfl⟩ (Nat.le_refl _) (Nat.le_refl _)
set_option maxHeartbeats 4000000 in
set_option maxRecDepth 100000 in
theorem o_119 (l : Launch) (D : va_G) (kA : Nat → ClassId) (z : Nat) (v : Nat → Nat) (rec : mF) (ih : ∀ t σ xs res, rec t σ xs = some res → mSem l D kA z v t σ xs res) (σ : mS) (xs : List Int32) (res : mR) (h : k_119 rec σ xs = some res) : s_119 l D kA z v σ xs res := by
  intro x0 x1 hxs
  subst hxs
  obtain ⟨σf, rf, dd⟩ := res
  have h : (if bin x0 420000 = true then (if 0 ≤ (σ.2.1 43 (Int32.toNatClampNeg x0)) then (if bin x0 420000 = true then (rec 120 σ [x0, x1, (σ.2.1 44 (Int32.toNatClampNeg x0))]) else none) else (if bin x0 420000 = true then (if bin (((-1) : Int32) - (σ.2.1 43 (Int32.toNatClampNeg x0))) 8 = true then (if bin (((-1) : Int32) - (σ.2.1 43 (Int32.toNatClampNeg x0))) 8 = true then (lt_ (mA σ 102 (Int32.toNatClampNeg (((-1) : Int32) - (σ.2.1 43 (Int32.toNatClampNeg x0)))) (((σ.2.1 102 (Int32.toNatClampNeg (((-1) : Int32) - (σ.2.1 43 (Int32.toNatClampNeg x0))))) : Int32) + x1)) (fun σ1 => some (σ1, 0, 0))) else none) else none) else none)) else none) = some (σf, rf, dd) := h
  refine ax_Mv.of (by decide +kernel) (Nat.le_of_ble_eq_true rfl) ?_
  intro p e s m args below meth c C hnm
  have C : ax_C p s m args meth c b_MM_times "ClauseProverModel" 4 none D kA (va_A (mmW kA z v σ) s.heap.size) := C
  obtain ⟨F, hFe⟩ : ∃ F, F = dd + 1 := ⟨_, rfl⟩
  obtain ⟨Lo, hLoe⟩ : ∃ Lo, Lo = 64 * dd + 64 := ⟨_, rfl⟩
  obtain ⟨σ0, hσ0⟩ : ∃ s0, s0 = σ := ⟨_, rfl⟩
  suffices K : AW p l e { frames := F, cells := 0, slots := 0, locals := Lo } s m args below meth c D kA (va_A (mmW kA z v σ0) s.heap.size) 4 (ax_Qv below args s D kA (mmW kA z v σ0) 0 0 (fun w1 => w1 = mmW kA z v σf)) 0 [(0, .ref z), (1, .int x0), (2, .int x1)] [] (mmW kA z v σ) 0 0 by rw [hFe, hLoe, hσ0] at K; exact ax_ls ([(0, .ref z), (1, .int x0), (2, .int x1)]) [0, 1, 2] rfl K
  have C : ax_C p s m args meth c b_MM_times "ClauseProverModel" 4 none D kA (va_A (mmW kA z v σ0) s.heap.size) := by rw [hσ0]; exact C
  have hF : dd + 1 ≤ F := by omega
  have hLo : 64 * dd + 64 ≤ Lo := by omega
  clear hFe hLoe hσ0
  refine ax_aload_n (pc := 0) C d_MM_times_0 rfl 0 rfl ?_
  refine mg_145 (pc := 1) C d_MM_times_1 ?_
  refine ax_iload_n (pc := 4) C d_MM_times_4 rfl 1 rfl ?_
  obtain ⟨hb, h⟩ := it_g h
  refine ml_43 (pc := 5) C d_MM_times_5 (bin_in hb) ?_
  refine ax_if_ge (pc := 6) C 27 d_MM_times_6 (by decide) (fun hc => ?_) (fun hc => ?_)
  · have h := it_t hc h
    refine ax_aload_n (pc := 27) C d_MM_times_27 rfl 0 rfl ?_
    refine mg_148 (pc := 28) C d_MM_times_28 ?_
    refine ax_iload_n (pc := 31) C d_MM_times_31 rfl 1 rfl ?_
    obtain ⟨hb, h⟩ := it_g h
    refine ml_44 (pc := 32) C d_MM_times_32 (bin_in hb) ?_
    refine ax_istore_n (pc := 33) C d_MM_times_33 rfl (Nat.le_of_ble_eq_true rfl) ([(3, .int (σ.2.1 44 (Int32.toNatClampNeg x0))), (0, .ref z), (1, .int x0), (2, .int x1)]) rfl ?_
    refine ax_ls ([(0, .ref z), (1, .int x0), (2, .int x1), (3, .int (σ.2.1 44 (Int32.toNatClampNeg x0)))]) [1, 2, 3, 0] rfl ?_
    have hm : s_120 l D kA z v σ [x0, x1, (σ.2.1 44 (Int32.toNatClampNeg x0))] (σf, rf, _) := ih 120 _ _ _ h
    exact hm _ _ _ rfl p e s m args below meth c F Lo σ0 hF hLo C
  · have h := it_f hc h
    refine ax_aload_n (pc := 9) C d_MM_times_9 rfl 0 rfl ?_
    refine mg_323 (pc := 10) C d_MM_times_10 ?_
    refine ax_iconst (pc := 13) C (-1) d_MM_times_13 (by decide +kernel) ?_
    refine ax_aload_n (pc := 14) C d_MM_times_14 rfl 0 rfl ?_
    refine mg_145 (pc := 15) C d_MM_times_15 ?_
    refine ax_iload_n (pc := 18) C d_MM_times_18 rfl 1 rfl ?_
    obtain ⟨hb, h⟩ := it_g h
    refine ml_43 (pc := 19) C d_MM_times_19 (bin_in hb) ?_
    refine ax_isub (pc := 20) C d_MM_times_20 ?_
    refine ax_dup2 (pc := 21) C d_MM_times_21 rfl rfl ?_
    obtain ⟨hb, h⟩ := it_g h
    refine ml_102 (pc := 22) C d_MM_times_22 (bin_in hb) ?_
    refine ax_iload_n (pc := 23) C d_MM_times_23 rfl 2 rfl ?_
    refine ax_iadd (pc := 24) C d_MM_times_24 ?_
    obtain ⟨hb, h⟩ := it_g h
    refine ms_102 (pc := 25) C d_MM_times_25 (bin_in hb) ?_
    have h := it_l h
    generalize mA σ 102 (Int32.toNatClampNeg (((-1) : Int32) - (σ.2.1 43 (Int32.toNatClampNeg x0)))) (((σ.2.1 102 (Int32.toNatClampNeg (((-1) : Int32) - (σ.2.1 43 (Int32.toNatClampNeg x0))))) : Int32) + x1) = σ1 at h ⊢
    cases h
    exact ax_vret (pc := 26) C d_MM_times_26 rfl (Nat.le_refl _) (Nat.le_refl _)
set_option maxHeartbeats 4000000 in
set_option maxRecDepth 100000 in
theorem o_120 (l : Launch) (D : va_G) (kA : Nat → ClassId) (z : Nat) (v : Nat → Nat) (rec : mF) (ih : ∀ t σ xs res, rec t σ xs = some res → mSem l D kA z v t σ xs res) (σ : mS) (xs : List Int32) (res : mR) (h : k_120 rec σ xs = some res) : s_120 l D kA z v σ xs res := by
  intro x0 x1 x2 hxs
  subst hxs
  obtain ⟨σf, rf, dd⟩ := res
  have h : (if x2 < 0 then (some (σ, 0, 0)) else (bnd (rec 119 σ [x2, x1]) (fun σ1 r1 => if bin x2 420000 = true then (rec 120 σ1 [x0, x1, (σ1.2.1 45 (Int32.toNatClampNeg x2))]) else none))) = some (σf, rf, dd) := h
  intro p e s m args below meth c F Lo σ0 hF hLo C
  dsimp only at hF hLo ⊢
  refine ax_iload_n (pc := 34) C d_MM_times_34 rfl 3 rfl ?_
  refine ax_if_lt (pc := 35) C 54 d_MM_times_35 (by decide) (fun hc => ?_) (fun hc => ?_)
  · have h := it_t hc h
    cases h
    exact ax_vret (pc := 54) C d_MM_times_54 rfl (Nat.le_refl _) (Nat.le_refl _)
  · have h := it_f hc h
    refine ax_aload_n (pc := 38) C d_MM_times_38 rfl 0 rfl ?_
    refine ax_iload_n (pc := 39) C d_MM_times_39 rfl 3 rfl ?_
    refine ax_iload_n (pc := 40) C d_MM_times_40 rfl 2 rfl ?_
    obtain ⟨σ1, r1, d1_1, d2_1, h1, h, hd2, hd1⟩ := it_b h
    have hm : s_119 l D kA z v σ [x2, x1] (σ1, r1, d1_1) := ih 119 _ _ _ h1
    refine mc_Vv (pc := 41) C (As := [.int x2, .int x1]) (rest := []) (hm _ _ rfl) ml_MM_586 d_MM_times_41 rfl rfl (by dsimp only; omega) (by dsimp only; omega) (Nat.le_of_ble_eq_true rfl) (Nat.le_of_ble_eq_true rfl) (Nat.le_of_ble_eq_true rfl) ?_
    have hF : d2_1 + 1 ≤ F := by omega
    have hLo : 64 * d2_1 + 64 ≤ Lo := by omega
    refine ax_aload_n (pc := 44) C d_MM_times_44 rfl 0 rfl ?_
    refine mg_151 (pc := 45) C d_MM_times_45 ?_
    refine ax_iload_n (pc := 48) C d_MM_times_48 rfl 3 rfl ?_
    obtain ⟨hb, h⟩ := it_g h
    refine ml_45 (pc := 49) C d_MM_times_49 (bin_in hb) ?_
    refine ax_istore_n (pc := 50) C d_MM_times_50 rfl (Nat.le_of_ble_eq_true rfl) ([(3, .int (σ1.2.1 45 (Int32.toNatClampNeg x2))), (0, .ref z), (1, .int x0), (2, .int x1)]) rfl ?_
    refine ax_goto (pc := 51) C 34 d_MM_times_51 (by decide) ?_
    refine ax_ls ([(0, .ref z), (1, .int x0), (2, .int x1), (3, .int (σ1.2.1 45 (Int32.toNatClampNeg x2)))]) [1, 2, 3, 0] rfl ?_
    have hm : s_120 l D kA z v σ1 [x0, x1, (σ1.2.1 45 (Int32.toNatClampNeg x2))] (σf, rf, _) := ih 120 _ _ _ h
    exact hm _ _ _ rfl p e s m args below meth c F Lo σ0 hF hLo C
set_option maxHeartbeats 4000000 in
set_option maxRecDepth 100000 in
theorem o_121 (l : Launch) (D : va_G) (kA : Nat → ClassId) (z : Nat) (v : Nat → Nat) (rec : mF) (ih : ∀ t σ xs res, rec t σ xs = some res → mSem l D kA z v t σ xs res) (σ : mS) (xs : List Int32) (res : mR) (h : k_121 rec σ xs = some res) : s_121 l D kA z v σ xs res := by
  intro x0 x1 hxs
  subst hxs
  obtain ⟨σf, rf, dd⟩ := res
  have h : (if bin x0 420000 = true then (if bin x1 420000 = true then (if (σ.2.1 46 (Int32.toNatClampNeg x0)) = (σ.2.1 46 (Int32.toNatClampNeg x1)) then (if bin x1 420000 = true then (if 0 ≤ (σ.2.1 43 (Int32.toNatClampNeg x1)) then (if bin x0 420000 = true then (if bin x1 420000 = true then (if (σ.2.1 43 (Int32.toNatClampNeg x0)) = (σ.2.1 43 (Int32.toNatClampNeg x1)) then (if bin x1 420000 = true then (if bin x0 420000 = true then (rec 124 σ [x0, x1, (σ.2.1 44 (Int32.toNatClampNeg x1)), (σ.2.1 44 (Int32.toNatClampNeg x0))]) else none) else none) else (if bin x0 420000 = true then (if bin x1 420000 = true then (if (σ.2.1 43 (Int32.toNatClampNeg x0)) ≤ (σ.2.1 43 (Int32.toNatClampNeg x1)) then (rec 123 σ [x0, x1, 0]) else (rec 123 σ [x0, x1, 1])) else none) else none)) else none) else none) else (some (σ, 0, 0))) else none) else (if bin x0 420000 = true then (if bin x1 420000 = true then (if (σ.2.1 46 (Int32.toNatClampNeg x0)) ≤ (σ.2.1 46 (Int32.toNatClampNeg x1)) then (rec 122 σ [x0, x1, 0]) else (rec 122 σ [x0, x1, 1])) else none) else none)) else none) else none) = some (σf, rf, dd) := h
  refine ax_Mi.of (by decide +kernel) (Nat.le_of_ble_eq_true rfl) ?_
  intro p e s m args below meth c C hnm
  have C : ax_C p s m args meth c b_MM_above "ClauseProverModel" 5 (some .boolean) D kA (va_A (mmW kA z v σ) s.heap.size) := C
  obtain ⟨F, hFe⟩ : ∃ F, F = dd + 1 := ⟨_, rfl⟩
  obtain ⟨Lo, hLoe⟩ : ∃ Lo, Lo = 64 * dd + 64 := ⟨_, rfl⟩
  obtain ⟨σ0, hσ0⟩ : ∃ s0, s0 = σ := ⟨_, rfl⟩
  suffices K : AW p l e { frames := F, cells := 0, slots := 0, locals := Lo } s m args below meth c D kA (va_A (mmW kA z v σ0) s.heap.size) 5 (ax_Qi below args s D kA (mmW kA z v σ0) 0 0 (fun r w1 => r = rf ∧ w1 = mmW kA z v σf)) 0 [(0, .ref z), (1, .int x0), (2, .int x1)] [] (mmW kA z v σ) 0 0 by rw [hFe, hLoe, hσ0] at K; exact ax_ls ([(0, .ref z), (1, .int x0), (2, .int x1)]) [0, 1, 2] rfl K
  have C : ax_C p s m args meth c b_MM_above "ClauseProverModel" 5 (some .boolean) D kA (va_A (mmW kA z v σ0) s.heap.size) := by rw [hσ0]; exact C
  have hF : dd + 1 ≤ F := by omega
  have hLo : 64 * dd + 64 ≤ Lo := by omega
  clear hFe hLoe hσ0
  refine ax_aload_n (pc := 0) C d_MM_above_0 rfl 0 rfl ?_
  refine mg_154 (pc := 1) C d_MM_above_1 ?_
  refine ax_iload_n (pc := 4) C d_MM_above_4 rfl 1 rfl ?_
  obtain ⟨hb, h⟩ := it_g h
  refine ml_46 (pc := 5) C d_MM_above_5 (bin_in hb) ?_
  refine ax_aload_n (pc := 6) C d_MM_above_6 rfl 0 rfl ?_
  refine mg_154 (pc := 7) C d_MM_above_7 ?_
  refine ax_iload_n (pc := 10) C d_MM_above_10 rfl 2 rfl ?_
  obtain ⟨hb, h⟩ := it_g h
  refine ml_46 (pc := 11) C d_MM_above_11 (bin_in hb) ?_
  refine ax_icmp_eq (pc := 12) C 36 d_MM_above_12 (by decide) (fun hc => ?_) (fun hc => ?_)
  · have h := it_t hc h
    refine ax_aload_n (pc := 36) C d_MM_above_36 rfl 0 rfl ?_
    refine mg_145 (pc := 37) C d_MM_above_37 ?_
    refine ax_iload_n (pc := 40) C d_MM_above_40 rfl 2 rfl ?_
    obtain ⟨hb, h⟩ := it_g h
    refine ml_43 (pc := 41) C d_MM_above_41 (bin_in hb) ?_
    refine ax_if_ge (pc := 42) C 47 d_MM_above_42 (by decide) (fun hc => ?_) (fun hc => ?_)
    · have h := it_t hc h
      refine ax_aload_n (pc := 47) C d_MM_above_47 rfl 0 rfl ?_
      refine mg_145 (pc := 48) C d_MM_above_48 ?_
      refine ax_iload_n (pc := 51) C d_MM_above_51 rfl 1 rfl ?_
      obtain ⟨hb, h⟩ := it_g h
      refine ml_43 (pc := 52) C d_MM_above_52 (bin_in hb) ?_
      refine ax_aload_n (pc := 53) C d_MM_above_53 rfl 0 rfl ?_
      refine mg_145 (pc := 54) C d_MM_above_54 ?_
      refine ax_iload_n (pc := 57) C d_MM_above_57 rfl 2 rfl ?_
      obtain ⟨hb, h⟩ := it_g h
      refine ml_43 (pc := 58) C d_MM_above_58 (bin_in hb) ?_
      refine ax_icmp_eq (pc := 59) C 83 d_MM_above_59 (by decide) (fun hc => ?_) (fun hc => ?_)
      · have h := it_t hc h
        refine ax_aload_n (pc := 83) C d_MM_above_83 rfl 0 rfl ?_
        refine mg_148 (pc := 84) C d_MM_above_84 ?_
        refine ax_iload_n (pc := 87) C d_MM_above_87 rfl 2 rfl ?_
        obtain ⟨hb, h⟩ := it_g h
        refine ml_44 (pc := 88) C d_MM_above_88 (bin_in hb) ?_
        refine ax_istore_n (pc := 89) C d_MM_above_89 rfl (Nat.le_of_ble_eq_true rfl) ([(3, .int (σ.2.1 44 (Int32.toNatClampNeg x1))), (0, .ref z), (1, .int x0), (2, .int x1)]) rfl ?_
        refine ax_aload_n (pc := 90) C d_MM_above_90 rfl 1 rfl ?_
        refine mg_148 (pc := 91) C d_MM_above_91 ?_
        refine ax_iload_n (pc := 94) C d_MM_above_94 rfl 2 rfl ?_
        obtain ⟨hb, h⟩ := it_g h
        refine ml_44 (pc := 95) C d_MM_above_95 (bin_in hb) ?_
        refine ax_istore (pc := 96) C d_MM_above_96 (Nat.le_of_ble_eq_true rfl) ([(4, .int (σ.2.1 44 (Int32.toNatClampNeg x0))), (3, .int (σ.2.1 44 (Int32.toNatClampNeg x1))), (0, .ref z), (1, .int x0), (2, .int x1)]) rfl ?_
        refine ax_ls ([(0, .ref z), (1, .int x0), (2, .int x1), (3, .int (σ.2.1 44 (Int32.toNatClampNeg x1))), (4, .int (σ.2.1 44 (Int32.toNatClampNeg x0)))]) [2, 3, 4, 1, 0] rfl ?_
        have hm : s_124 l D kA z v σ [x0, x1, (σ.2.1 44 (Int32.toNatClampNeg x1)), (σ.2.1 44 (Int32.toNatClampNeg x0))] (σf, rf, _) := ih 124 _ _ _ h
        exact hm _ _ _ _ rfl p e s m args below meth c F Lo σ0 hF hLo C
      · have h := it_f hc h
        refine ax_aload_n (pc := 62) C d_MM_above_62 rfl 0 rfl ?_
        refine mg_145 (pc := 63) C d_MM_above_63 ?_
        refine ax_iload_n (pc := 66) C d_MM_above_66 rfl 1 rfl ?_
        obtain ⟨hb, h⟩ := it_g h
        refine ml_43 (pc := 67) C d_MM_above_67 (bin_in hb) ?_
        refine ax_aload_n (pc := 68) C d_MM_above_68 rfl 0 rfl ?_
        refine mg_145 (pc := 69) C d_MM_above_69 ?_
        refine ax_iload_n (pc := 72) C d_MM_above_72 rfl 2 rfl ?_
        obtain ⟨hb, h⟩ := it_g h
        refine ml_43 (pc := 73) C d_MM_above_73 (bin_in hb) ?_
        refine ax_icmp_le (pc := 74) C 81 d_MM_above_74 (by decide) (fun hc => ?_) (fun hc => ?_)
        · have h := it_t hc h
          refine ax_iconst (pc := 81) C 0 d_MM_above_81 (by decide +kernel) ?_
          refine ax_ls ([(0, .ref z), (1, .int x0), (2, .int x1)]) [0, 1, 2] rfl ?_
          have hm : s_123 l D kA z v σ [x0, x1, 0] (σf, rf, _) := ih 123 _ _ _ h
          exact hm _ _ _ rfl p e s m args below meth c F Lo σ0 hF hLo C
        · have h := it_f hc h
          refine ax_iconst (pc := 77) C 1 d_MM_above_77 (by decide +kernel) ?_
          refine ax_goto (pc := 78) C 82 d_MM_above_78 (by decide) ?_
          refine ax_ls ([(0, .ref z), (1, .int x0), (2, .int x1)]) [0, 1, 2] rfl ?_
          have hm : s_123 l D kA z v σ [x0, x1, 1] (σf, rf, _) := ih 123 _ _ _ h
          exact hm _ _ _ rfl p e s m args below meth c F Lo σ0 hF hLo C
    · have h := it_f hc h
      refine ax_iconst (pc := 45) C 0 d_MM_above_45 (by decide +kernel) ?_
      cases h
      exact ax_zret (pc := 46) C d_MM_above_46 rfl ⟨rfl, rfl⟩ (Nat.le_refl _) (Nat.le_refl _)
  · have h := it_f hc h
    refine ax_aload_n (pc := 15) C d_MM_above_15 rfl 0 rfl ?_
    refine mg_154 (pc := 16) C d_MM_above_16 ?_
    refine ax_iload_n (pc := 19) C d_MM_above_19 rfl 1 rfl ?_
    obtain ⟨hb, h⟩ := it_g h
    refine ml_46 (pc := 20) C d_MM_above_20 (bin_in hb) ?_
    refine ax_aload_n (pc := 21) C d_MM_above_21 rfl 0 rfl ?_
    refine mg_154 (pc := 22) C d_MM_above_22 ?_
    refine ax_iload_n (pc := 25) C d_MM_above_25 rfl 2 rfl ?_
    obtain ⟨hb, h⟩ := it_g h
    refine ml_46 (pc := 26) C d_MM_above_26 (bin_in hb) ?_
    refine ax_icmp_le (pc := 27) C 34 d_MM_above_27 (by decide) (fun hc => ?_) (fun hc => ?_)
    · have h := it_t hc h
      refine ax_iconst (pc := 34) C 0 d_MM_above_34 (by decide +kernel) ?_
      refine ax_ls ([(0, .ref z), (1, .int x0), (2, .int x1)]) [0, 1, 2] rfl ?_
      have hm : s_122 l D kA z v σ [x0, x1, 0] (σf, rf, _) := ih 122 _ _ _ h
      exact hm _ _ _ rfl p e s m args below meth c F Lo σ0 hF hLo C
    · have h := it_f hc h
      refine ax_iconst (pc := 30) C 1 d_MM_above_30 (by decide +kernel) ?_
      refine ax_goto (pc := 31) C 35 d_MM_above_31 (by decide) ?_
      refine ax_ls ([(0, .ref z), (1, .int x0), (2, .int x1)]) [0, 1, 2] rfl ?_
      have hm : s_122 l D kA z v σ [x0, x1, 1] (σf, rf, _) := ih 122 _ _ _ h
      exact hm _ _ _ rfl p e s m args below meth c F Lo σ0 hF hLo C
set_option maxHeartbeats 4000000 in
set_option maxRecDepth 100000 in
theorem o_122 (l : Launch) (D : va_G) (kA : Nat → ClassId) (z : Nat) (v : Nat → Nat) (rec : mF) (ih : ∀ t σ xs res, rec t σ xs = some res → mSem l D kA z v t σ xs res) (σ : mS) (xs : List Int32) (res : mR) (h : k_122 rec σ xs = some res) : s_122 l D kA z v σ xs res := by
  intro x0 x1 x2 hxs
  subst hxs
  obtain ⟨σf, rf, dd⟩ := res
  have h : (if x2 = 0 ∨ x2 = 1 then some (σ, x2, 0) else none) = some (σf, rf, dd) := h
  intro p e s m args below meth c F Lo σ0 hF hLo C
  dsimp only at hF hLo ⊢
  obtain ⟨hb, h⟩ := it_g h
  cases h
  exact ax_zret (pc := 35) C d_MM_above_35 (nb01 hb) ⟨rfl, rfl⟩ (Nat.le_refl _) (Nat.le_refl _)
set_option maxHeartbeats 4000000 in
set_option maxRecDepth 100000 in
theorem o_123 (l : Launch) (D : va_G) (kA : Nat → ClassId) (z : Nat) (v : Nat → Nat) (rec : mF) (ih : ∀ t σ xs res, rec t σ xs = some res → mSem l D kA z v t σ xs res) (σ : mS) (xs : List Int32) (res : mR) (h : k_123 rec σ xs = some res) : s_123 l D kA z v σ xs res := by
  intro x0 x1 x2 hxs
  subst hxs
  obtain ⟨σf, rf, dd⟩ := res
  have h : (if x2 = 0 ∨ x2 = 1 then some (σ, x2, 0) else none) = some (σf, rf, dd) := h
  intro p e s m args below meth c F Lo σ0 hF hLo C
  dsimp only at hF hLo ⊢
  obtain ⟨hb, h⟩ := it_g h
  cases h
  exact ax_zret (pc := 82) C d_MM_above_82 (nb01 hb) ⟨rfl, rfl⟩ (Nat.le_refl _) (Nat.le_refl _)
set_option maxHeartbeats 4000000 in
set_option maxRecDepth 100000 in
theorem o_124 (l : Launch) (D : va_G) (kA : Nat → ClassId) (z : Nat) (v : Nat → Nat) (rec : mF) (ih : ∀ t σ xs res, rec t σ xs = some res → mSem l D kA z v t σ xs res) (σ : mS) (xs : List Int32) (res : mR) (h : k_124 rec σ xs = some res) : s_124 l D kA z v σ xs res := by
  intro x0 x1 x2 x3 hxs
  subst hxs
  obtain ⟨σf, rf, dd⟩ := res
  have h : (if x3 < 0 then (some (σ, 0, 0)) else (bnd (rec 96 σ [x3, x2]) (fun σ1 r1 => if r1 = 0 then (bnd (rec 117 σ1 [x3, x2]) (fun σ2 r2 => if r2 = 0 ∨ r2 = 1 then some (σ2, r2, 0) else none)) else (if bin x2 420000 = true then (if bin x3 420000 = true then (rec 124 σ1 [x0, x1, (σ1.2.1 45 (Int32.toNatClampNeg x2)), (σ1.2.1 45 (Int32.toNatClampNeg x3))]) else none) else none)))) = some (σf, rf, dd) := h
  intro p e s m args below meth c F Lo σ0 hF hLo C
  dsimp only at hF hLo ⊢
  refine ax_iload (pc := 98) C d_MM_above_98 4 rfl ?_
  refine ax_if_lt (pc := 100) C 140 d_MM_above_100 (by decide) (fun hc => ?_) (fun hc => ?_)
  · have h := it_t hc h
    refine ax_iconst (pc := 140) C 0 d_MM_above_140 (by decide +kernel) ?_
    cases h
    exact ax_zret (pc := 141) C d_MM_above_141 rfl ⟨rfl, rfl⟩ (Nat.le_refl _) (Nat.le_refl _)
  · have h := it_f hc h
    refine ax_aload_n (pc := 103) C d_MM_above_103 rfl 0 rfl ?_
    refine ax_iload (pc := 104) C d_MM_above_104 4 rfl ?_
    refine ax_iload_n (pc := 106) C d_MM_above_106 rfl 3 rfl ?_
    obtain ⟨σ1, r1, d1_1, d2_1, h1, h, hd2, hd1⟩ := it_b h
    have hm : s_96 l D kA z v σ [x3, x2] (σ1, r1, d1_1) := ih 96 _ _ _ h1
    refine mc_Vi (pc := 107) C (As := [.int x3, .int x2]) (rest := []) (hm _ _ rfl) ml_MM_513 d_MM_above_107 rfl rfl (by dsimp only; omega) (by dsimp only; omega) (Nat.le_of_ble_eq_true rfl) (Nat.le_of_ble_eq_true rfl) (Nat.le_of_ble_eq_true rfl) ?_
    have hF : d2_1 + 1 ≤ F := by omega
    have hLo : 64 * d2_1 + 64 ≤ Lo := by omega
    refine ax_if_ne (pc := 110) C 121 d_MM_above_110 (by decide) (fun hc => ?_) (fun hc => ?_)
    · have h := it_f hc h
      refine ax_aload_n (pc := 121) C d_MM_above_121 rfl 0 rfl ?_
      refine mg_151 (pc := 122) C d_MM_above_122 ?_
      refine ax_iload_n (pc := 125) C d_MM_above_125 rfl 3 rfl ?_
      obtain ⟨hb, h⟩ := it_g h
      refine ml_45 (pc := 126) C d_MM_above_126 (bin_in hb) ?_
      refine ax_istore_n (pc := 127) C d_MM_above_127 rfl (Nat.le_of_ble_eq_true rfl) ([(3, .int (σ1.2.1 45 (Int32.toNatClampNeg x2))), (0, .ref z), (1, .int x0), (2, .int x1), (4, .int x3)]) rfl ?_
      refine ax_aload_n (pc := 128) C d_MM_above_128 rfl 1 rfl ?_
      refine mg_151 (pc := 129) C d_MM_above_129 ?_
      refine ax_iload (pc := 132) C d_MM_above_132 4 rfl ?_
      obtain ⟨hb, h⟩ := it_g h
      refine ml_45 (pc := 134) C d_MM_above_134 (bin_in hb) ?_
      refine ax_istore (pc := 135) C d_MM_above_135 (Nat.le_of_ble_eq_true rfl) ([(4, .int (σ1.2.1 45 (Int32.toNatClampNeg x3))), (3, .int (σ1.2.1 45 (Int32.toNatClampNeg x2))), (0, .ref z), (1, .int x0), (2, .int x1)]) rfl ?_
      refine ax_goto (pc := 137) C 98 d_MM_above_137 (by decide) ?_
      refine ax_ls ([(0, .ref z), (1, .int x0), (2, .int x1), (3, .int (σ1.2.1 45 (Int32.toNatClampNeg x2))), (4, .int (σ1.2.1 45 (Int32.toNatClampNeg x3)))]) [2, 3, 4, 1, 0] rfl ?_
      have hm : s_124 l D kA z v σ1 [x0, x1, (σ1.2.1 45 (Int32.toNatClampNeg x2)), (σ1.2.1 45 (Int32.toNatClampNeg x3))] (σf, rf, _) := ih 124 _ _ _ h
      exact hm _ _ _ _ rfl p e s m args below meth c F Lo σ0 hF hLo C
    · have h := it_t hc h
      refine ax_aload_n (pc := 113) C d_MM_above_113 rfl 0 rfl ?_
      refine ax_iload (pc := 114) C d_MM_above_114 4 rfl ?_
      refine ax_iload_n (pc := 116) C d_MM_above_116 rfl 3 rfl ?_
      obtain ⟨σ2, r2, d1_2, d2_2, h1, h, hd2, hd1⟩ := it_b h
      have hm : s_117 l D kA z v σ1 [x3, x2] (σ2, r2, d1_2) := ih 117 _ _ _ h1
      refine mc_Vi (pc := 117) C (As := [.int x3, .int x2]) (rest := []) (hm _ _ rfl) ml_MM_597 d_MM_above_117 rfl rfl (by dsimp only; omega) (by dsimp only; omega) (Nat.le_of_ble_eq_true rfl) (Nat.le_of_ble_eq_true rfl) (Nat.le_of_ble_eq_true rfl) ?_
      have hF : d2_2 + 1 ≤ F := by omega
      have hLo : 64 * d2_2 + 64 ≤ Lo := by omega
      obtain ⟨hb, h⟩ := it_g h
      cases h
      exact ax_zret (pc := 120) C d_MM_above_120 (nb01 hb) ⟨rfl, rfl⟩ (Nat.le_refl _) (Nat.le_refl _)
set_option maxHeartbeats 4000000 in
set_option maxRecDepth 100000 in
theorem o_125 (l : Launch) (D : va_G) (kA : Nat → ClassId) (z : Nat) (v : Nat → Nat) (rec : mF) (ih : ∀ t σ xs res, rec t σ xs = some res → mSem l D kA z v t σ xs res) (σ : mS) (xs : List Int32) (res : mR) (h : k_125 rec σ xs = some res) : s_125 l D kA z v σ xs res := by
  intro x0 hxs
  subst hxs
  obtain ⟨σf, rf, dd⟩ := res
  have h : (lt_ (mI σ 4 0) (fun σ1 => if x0 = 0 then (rec 126 σ1 [x0, (σ1.1 5)]) else (if x0 = 1 then (rec 126 σ1 [x0, (σ1.1 6)]) else (rec 126 σ1 [x0, (-1)])))) = some (σf, rf, dd) := h
  refine ax_Mi.of (by decide +kernel) (Nat.le_of_ble_eq_true rfl) ?_
  intro p e s m args below meth c C hnm
  have C : ax_C p s m args meth c b_MM_fault "ClauseProverModel" 2 (some .int) D kA (va_A (mmW kA z v σ) s.heap.size) := C
  obtain ⟨F, hFe⟩ : ∃ F, F = dd + 1 := ⟨_, rfl⟩
  obtain ⟨Lo, hLoe⟩ : ∃ Lo, Lo = 64 * dd + 64 := ⟨_, rfl⟩
  obtain ⟨σ0, hσ0⟩ : ∃ s0, s0 = σ := ⟨_, rfl⟩
  suffices K : AW p l e { frames := F, cells := 0, slots := 0, locals := Lo } s m args below meth c D kA (va_A (mmW kA z v σ0) s.heap.size) 2 (ax_Qi below args s D kA (mmW kA z v σ0) 0 0 (fun r w1 => r = rf ∧ w1 = mmW kA z v σf)) 0 [(0, .ref z), (1, .int x0)] [] (mmW kA z v σ) 0 0 by rw [hFe, hLoe, hσ0] at K; exact ax_ls ([(0, .ref z), (1, .int x0)]) [0, 1] rfl K
  have C : ax_C p s m args meth c b_MM_fault "ClauseProverModel" 2 (some .int) D kA (va_A (mmW kA z v σ0) s.heap.size) := by rw [hσ0]; exact C
  have hF : dd + 1 ≤ F := by omega
  have hLo : 64 * dd + 64 ≤ Lo := by omega
  clear hFe hLoe hσ0
  refine ax_aload_n (pc := 0) C d_MM_fault_0 rfl 0 rfl ?_
  refine ax_iconst (pc := 1) C 0 d_MM_fault_1 (by decide +kernel) ?_
  refine mp_24 (pc := 2) C d_MM_fault_2 ?_
  have h := it_l h
  generalize mI σ 4 0 = σ1 at h ⊢
  refine ax_iload_n (pc := 5) C d_MM_fault_5 rfl 1 rfl ?_
  refine ax_if_ne (pc := 6) C 16 d_MM_fault_6 (by decide) (fun hc => ?_) (fun hc => ?_)
  · have h := it_f hc h
    refine ax_iload_n (pc := 16) C d_MM_fault_16 rfl 1 rfl ?_
    refine ax_iconst (pc := 17) C 1 d_MM_fault_17 (by decide +kernel) ?_
    refine ax_icmp_ne (pc := 18) C 28 d_MM_fault_18 (by decide) (fun hc => ?_) (fun hc => ?_)
    · have h := it_f hc h
      refine ax_iconst (pc := 28) C (-1) d_MM_fault_28 (by decide +kernel) ?_
      refine ax_ls ([(0, .ref z), (1, .int x0)]) [0, 1] rfl ?_
      have hm : s_126 l D kA z v σ1 [x0, (-1)] (σf, rf, _) := ih 126 _ _ _ h
      exact hm _ _ rfl p e s m args below meth c F Lo σ0 hF hLo C
    · have h := it_t hc h
      refine ax_aload_n (pc := 21) C d_MM_fault_21 rfl 0 rfl ?_
      refine mg_30 (pc := 22) C d_MM_fault_22 ?_
      refine ax_goto (pc := 25) C 29 d_MM_fault_25 (by decide) ?_
      refine ax_ls ([(0, .ref z), (1, .int x0)]) [0, 1] rfl ?_
      have hm : s_126 l D kA z v σ1 [x0, (σ1.1 6)] (σf, rf, _) := ih 126 _ _ _ h
      exact hm _ _ rfl p e s m args below meth c F Lo σ0 hF hLo C
  · have h := it_t hc h
    refine ax_aload_n (pc := 9) C d_MM_fault_9 rfl 0 rfl ?_
    refine mg_27 (pc := 10) C d_MM_fault_10 ?_
    refine ax_goto (pc := 13) C 29 d_MM_fault_13 (by decide) ?_
    refine ax_ls ([(0, .ref z), (1, .int x0)]) [0, 1] rfl ?_
    have hm : s_126 l D kA z v σ1 [x0, (σ1.1 5)] (σf, rf, _) := ih 126 _ _ _ h
    exact hm _ _ rfl p e s m args below meth c F Lo σ0 hF hLo C
set_option maxHeartbeats 4000000 in
set_option maxRecDepth 100000 in
theorem o_126 (l : Launch) (D : va_G) (kA : Nat → ClassId) (z : Nat) (v : Nat → Nat) (rec : mF) (ih : ∀ t σ xs res, rec t σ xs = some res → mSem l D kA z v t σ xs res) (σ : mS) (xs : List Int32) (res : mR) (h : k_126 rec σ xs = some res) : s_126 l D kA z v σ xs res := by
  intro x0 x1 hxs
  subst hxs
  obtain ⟨σf, rf, dd⟩ := res
  have h : (some (σ, x1, 0)) = some (σf, rf, dd) := h
  intro p e s m args below meth c F Lo σ0 hF hLo C
  dsimp only at hF hLo ⊢
  cases h
  exact ax_iret (pc := 29) C d_MM_fault_29 ⟨rfl, rfl⟩ (Nat.le_refl _) (Nat.le_refl _)
set_option maxHeartbeats 4000000 in
set_option maxRecDepth 100000 in
theorem o_127 (l : Launch) (D : va_G) (kA : Nat → ClassId) (z : Nat) (v : Nat → Nat) (rec : mF) (ih : ∀ t σ xs res, rec t σ xs = some res → mSem l D kA z v t σ xs res) (σ : mS) (xs : List Int32) (res : mR) (h : k_127 rec σ xs = some res) : s_127 l D kA z v σ xs res := by
  intro hxs
  subst hxs
  obtain ⟨σf, rf, dd⟩ := res
  have h : (if (5 : Int32) = 0 then none else (if ((((σ.1 89) : Int32) + 1) - (((σ.1 89) : Int32) + 1) / 5 * 5) = 0 then (rec 128 σ [(-1), 1]) else (rec 128 σ [(-1), 0]))) = some (σf, rf, dd) := h
  refine ax_Mi.of (by decide +kernel) (Nat.le_of_ble_eq_true rfl) ?_
  intro p e s m args below meth c C hnm
  have C : ax_C p s m args meth c b_MM_given "ClauseProverModel" 4 (some .int) D kA (va_A (mmW kA z v σ) s.heap.size) := C
  obtain ⟨F, hFe⟩ : ∃ F, F = dd + 1 := ⟨_, rfl⟩
  obtain ⟨Lo, hLoe⟩ : ∃ Lo, Lo = 64 * dd + 64 := ⟨_, rfl⟩
  obtain ⟨σ0, hσ0⟩ : ∃ s0, s0 = σ := ⟨_, rfl⟩
  suffices K : AW p l e { frames := F, cells := 0, slots := 0, locals := Lo } s m args below meth c D kA (va_A (mmW kA z v σ0) s.heap.size) 4 (ax_Qi below args s D kA (mmW kA z v σ0) 0 0 (fun r w1 => r = rf ∧ w1 = mmW kA z v σf)) 0 [(0, .ref z)] [] (mmW kA z v σ) 0 0 by rw [hFe, hLoe, hσ0] at K; exact ax_ls ([(0, .ref z)]) [0] rfl K
  have C : ax_C p s m args meth c b_MM_given "ClauseProverModel" 4 (some .int) D kA (va_A (mmW kA z v σ0) s.heap.size) := by rw [hσ0]; exact C
  have hF : dd + 1 ≤ F := by omega
  have hLo : 64 * dd + 64 ≤ Lo := by omega
  clear hFe hLoe hσ0
  refine ax_iconst (pc := 0) C (-1) d_MM_given_0 (by decide +kernel) ?_
  refine ax_istore_n (pc := 1) C d_MM_given_1 rfl (Nat.le_of_ble_eq_true rfl) ([(1, .int (-1)), (0, .ref z)]) rfl ?_
  refine ax_aload_n (pc := 2) C d_MM_given_2 rfl 1 rfl ?_
  refine mg_284 (pc := 3) C d_MM_given_3 ?_
  refine ax_iconst (pc := 6) C 1 d_MM_given_6 (by decide +kernel) ?_
  refine ax_iadd (pc := 7) C d_MM_given_7 ?_
  refine ax_iconst (pc := 8) C 5 d_MM_given_8 (by decide +kernel) ?_
  obtain ⟨hz, h⟩ := it_n h
  refine ax_irem (pc := 9) C d_MM_given_9 hz ?_
  refine ax_if_ne (pc := 10) C 17 d_MM_given_10 (by decide) (fun hc => ?_) (fun hc => ?_)
  · have h := it_f hc h
    refine ax_iconst (pc := 17) C 0 d_MM_given_17 (by decide +kernel) ?_
    refine ax_ls ([(0, .ref z), (1, .int (-1))]) [1, 0] rfl ?_
    have hm : s_128 l D kA z v σ [(-1), 0] (σf, rf, _) := ih 128 _ _ _ h
    exact hm _ _ rfl p e s m args below meth c F Lo σ0 hF hLo C
  · have h := it_t hc h
    refine ax_iconst (pc := 13) C 1 d_MM_given_13 (by decide +kernel) ?_
    refine ax_goto (pc := 14) C 18 d_MM_given_14 (by decide) ?_
    refine ax_ls ([(0, .ref z), (1, .int (-1))]) [1, 0] rfl ?_
    have hm : s_128 l D kA z v σ [(-1), 1] (σf, rf, _) := ih 128 _ _ _ h
    exact hm _ _ rfl p e s m args below meth c F Lo σ0 hF hLo C
set_option maxHeartbeats 4000000 in
set_option maxRecDepth 100000 in
theorem o_128 (l : Launch) (D : va_G) (kA : Nat → ClassId) (z : Nat) (v : Nat → Nat) (rec : mF) (ih : ∀ t σ xs res, rec t σ xs = some res → mSem l D kA z v t σ xs res) (σ : mS) (xs : List Int32) (res : mR) (h : k_128 rec σ xs = some res) : s_128 l D kA z v σ xs res := by
  intro x0 x1 hxs
  subst hxs
  obtain ⟨σf, rf, dd⟩ := res
  have h : (rec 129 σ [x0, x1, 0]) = some (σf, rf, dd) := h
  intro p e s m args below meth c F Lo σ0 hF hLo C
  dsimp only at hF hLo ⊢
  refine ax_istore_n (pc := 18) C d_MM_given_18 rfl (Nat.le_of_ble_eq_true rfl) ([(2, .int x1), (0, .ref z), (1, .int x0)]) rfl ?_
  refine ax_iconst (pc := 19) C 0 d_MM_given_19 (by decide +kernel) ?_
  refine ax_istore_n (pc := 20) C d_MM_given_20 rfl (Nat.le_of_ble_eq_true rfl) ([(3, .int 0), (2, .int x1), (0, .ref z), (1, .int x0)]) rfl ?_
  refine ax_ls ([(0, .ref z), (1, .int x0), (2, .int x1), (3, .int 0)]) [2, 3, 1, 0] rfl ?_
  have hm : s_129 l D kA z v σ [x0, x1, 0] (σf, rf, _) := ih 129 _ _ _ h
  exact hm _ _ _ rfl p e s m args below meth c F Lo σ0 hF hLo C
set_option maxHeartbeats 4000000 in
set_option maxRecDepth 100000 in
theorem o_129 (l : Launch) (D : va_G) (kA : Nat → ClassId) (z : Nat) (v : Nat → Nat) (rec : mF) (ih : ∀ t σ xs res, rec t σ xs = some res → mSem l D kA z v t σ xs res) (σ : mS) (xs : List Int32) (res : mR) (h : k_129 rec σ xs = some res) : s_129 l D kA z v σ xs res := by
  intro x0 x1 x2 hxs
  subst hxs
  obtain ⟨σf, rf, dd⟩ := res
  have h : (if (σ.1 84) ≤ x2 then (some (σ, x0, 0)) else (if bin x2 2001 = true then (if (σ.2.1 80 (Int32.toNatClampNeg x2)) = 0 then (if x0 < 0 then (rec 130 σ [x0, x1, x2]) else (if x1 = 0 then (if bin x2 2001 = true then (if bin x0 2001 = true then (if (σ.2.1 75 (Int32.toNatClampNeg x0)) ≤ (σ.2.1 75 (Int32.toNatClampNeg x2)) then (rec 131 σ [x0, x1, x2]) else (rec 130 σ [x0, x1, x2])) else none) else none) else (rec 131 σ [x0, x1, x2]))) else (rec 131 σ [x0, x1, x2])) else none)) = some (σf, rf, dd) := h
  intro p e s m args below meth c F Lo σ0 hF hLo C
  dsimp only at hF hLo ⊢
  refine ax_iload_n (pc := 21) C d_MM_given_21 rfl 3 rfl ?_
  refine ax_aload_n (pc := 22) C d_MM_given_22 rfl 0 rfl ?_
  refine mg_269 (pc := 23) C d_MM_given_23 ?_
  refine ax_icmp_ge (pc := 26) C 72 d_MM_given_26 (by decide) (fun hc => ?_) (fun hc => ?_)
  · have h := it_t hc h
    refine ax_iload_n (pc := 72) C d_MM_given_72 rfl 1 rfl ?_
    cases h
    exact ax_iret (pc := 73) C d_MM_given_73 ⟨rfl, rfl⟩ (Nat.le_refl _) (Nat.le_refl _)
  · have h := it_f hc h
    refine ax_aload_n (pc := 29) C d_MM_given_29 rfl 0 rfl ?_
    refine mg_256 (pc := 30) C d_MM_given_30 ?_
    refine ax_iload_n (pc := 33) C d_MM_given_33 rfl 3 rfl ?_
    obtain ⟨hb, h⟩ := it_g h
    refine ml_80 (pc := 34) C d_MM_given_34 (bin_in hb) ?_
    refine ax_if_eq (pc := 35) C 41 d_MM_given_35 (by decide) (fun hc => ?_) (fun hc => ?_)
    · have h := it_t hc h
      refine ax_iload_n (pc := 41) C d_MM_given_41 rfl 1 rfl ?_
      refine ax_if_lt (pc := 42) C 64 d_MM_given_42 (by decide) (fun hc => ?_) (fun hc => ?_)
      · have h := it_t hc h
        refine ax_ls ([(0, .ref z), (1, .int x0), (2, .int x1), (3, .int x2)]) [0, 1, 2, 3] rfl ?_
        have hm : s_130 l D kA z v σ [x0, x1, x2] (σf, rf, _) := ih 130 _ _ _ h
        exact hm _ _ _ rfl p e s m args below meth c F Lo σ0 hF hLo C
      · have h := it_f hc h
        refine ax_iload_n (pc := 45) C d_MM_given_45 rfl 2 rfl ?_
        refine ax_if_ne (pc := 46) C 66 d_MM_given_46 (by decide) (fun hc => ?_) (fun hc => ?_)
        · have h := it_f hc h
          refine ax_ls ([(0, .ref z), (1, .int x0), (2, .int x1), (3, .int x2)]) [0, 1, 2, 3] rfl ?_
          have hm : s_131 l D kA z v σ [x0, x1, x2] (σf, rf, _) := ih 131 _ _ _ h
          exact hm _ _ _ rfl p e s m args below meth c F Lo σ0 hF hLo C
        · have h := it_t hc h
          refine ax_aload_n (pc := 49) C d_MM_given_49 rfl 0 rfl ?_
          refine mg_241 (pc := 50) C d_MM_given_50 ?_
          refine ax_iload_n (pc := 53) C d_MM_given_53 rfl 3 rfl ?_
          obtain ⟨hb, h⟩ := it_g h
          refine ml_75 (pc := 54) C d_MM_given_54 (bin_in hb) ?_
          refine ax_aload_n (pc := 55) C d_MM_given_55 rfl 0 rfl ?_
          refine mg_241 (pc := 56) C d_MM_given_56 ?_
          refine ax_iload_n (pc := 59) C d_MM_given_59 rfl 1 rfl ?_
          obtain ⟨hb, h⟩ := it_g h
          refine ml_75 (pc := 60) C d_MM_given_60 (bin_in hb) ?_
          refine ax_icmp_ge (pc := 61) C 66 d_MM_given_61 (by decide) (fun hc => ?_) (fun hc => ?_)
          · have h := it_t hc h
            refine ax_ls ([(0, .ref z), (1, .int x0), (2, .int x1), (3, .int x2)]) [0, 1, 2, 3] rfl ?_
            have hm : s_131 l D kA z v σ [x0, x1, x2] (σf, rf, _) := ih 131 _ _ _ h
            exact hm _ _ _ rfl p e s m args below meth c F Lo σ0 hF hLo C
          · have h := it_f hc h
            refine ax_ls ([(0, .ref z), (1, .int x0), (2, .int x1), (3, .int x2)]) [0, 1, 2, 3] rfl ?_
            have hm : s_130 l D kA z v σ [x0, x1, x2] (σf, rf, _) := ih 130 _ _ _ h
            exact hm _ _ _ rfl p e s m args below meth c F Lo σ0 hF hLo C
    · have h := it_f hc h
      refine ax_goto (pc := 38) C 66 d_MM_given_38 (by decide) ?_
      refine ax_ls ([(0, .ref z), (1, .int x0), (2, .int x1), (3, .int x2)]) [0, 1, 2, 3] rfl ?_
      have hm : s_131 l D kA z v σ [x0, x1, x2] (σf, rf, _) := ih 131 _ _ _ h
      exact hm _ _ _ rfl p e s m args below meth c F Lo σ0 hF hLo C
set_option maxHeartbeats 4000000 in
set_option maxRecDepth 100000 in
theorem o_130 (l : Launch) (D : va_G) (kA : Nat → ClassId) (z : Nat) (v : Nat → Nat) (rec : mF) (ih : ∀ t σ xs res, rec t σ xs = some res → mSem l D kA z v t σ xs res) (σ : mS) (xs : List Int32) (res : mR) (h : k_130 rec σ xs = some res) : s_130 l D kA z v σ xs res := by
  intro x0 x1 x2 hxs
  subst hxs
  obtain ⟨σf, rf, dd⟩ := res
  have h : (rec 131 σ [x2, x1, x2]) = some (σf, rf, dd) := h
  intro p e s m args below meth c F Lo σ0 hF hLo C
  dsimp only at hF hLo ⊢
  refine ax_iload_n (pc := 64) C d_MM_given_64 rfl 3 rfl ?_
  refine ax_istore_n (pc := 65) C d_MM_given_65 rfl (Nat.le_of_ble_eq_true rfl) ([(1, .int x2), (0, .ref z), (2, .int x1), (3, .int x2)]) rfl ?_
  refine ax_ls ([(0, .ref z), (1, .int x2), (2, .int x1), (3, .int x2)]) [1, 0, 2, 3] rfl ?_
  have hm : s_131 l D kA z v σ [x2, x1, x2] (σf, rf, _) := ih 131 _ _ _ h
  exact hm _ _ _ rfl p e s m args below meth c F Lo σ0 hF hLo C
set_option maxHeartbeats 4000000 in
set_option maxRecDepth 100000 in
theorem o_131 (l : Launch) (D : va_G) (kA : Nat → ClassId) (z : Nat) (v : Nat → Nat) (rec : mF) (ih : ∀ t σ xs res, rec t σ xs = some res → mSem l D kA z v t σ xs res) (σ : mS) (xs : List Int32) (res : mR) (h : k_131 rec σ xs = some res) : s_131 l D kA z v σ xs res := by
  intro x0 x1 x2 hxs
  subst hxs
  obtain ⟨σf, rf, dd⟩ := res
  have h : (rec 129 σ [x0, x1, (x2 + 1)]) = some (σf, rf, dd) := h
  intro p e s m args below meth c F Lo σ0 hF hLo C
  dsimp only at hF hLo ⊢
  refine ax_iinc (pc := 66) C (x2 + 1) d_MM_given_66 3 rfl rfl (Nat.le_of_ble_eq_true rfl) ([(3, .int (x2 + 1)), (0, .ref z), (1, .int x0), (2, .int x1)]) rfl ?_
  refine ax_goto (pc := 69) C 21 d_MM_given_69 (by decide) ?_
  refine ax_ls ([(0, .ref z), (1, .int x0), (2, .int x1), (3, .int (x2 + 1))]) [1, 2, 3, 0] rfl ?_
  have hm : s_129 l D kA z v σ [x0, x1, (x2 + 1)] (σf, rf, _) := ih 129 _ _ _ h
  exact hm _ _ _ rfl p e s m args below meth c F Lo σ0 hF hLo C
set_option maxHeartbeats 4000000 in
set_option maxRecDepth 100000 in
theorem o_132 (l : Launch) (D : va_G) (kA : Nat → ClassId) (z : Nat) (v : Nat → Nat) (rec : mF) (ih : ∀ t σ xs res, rec t σ xs = some res → mSem l D kA z v t σ xs res) (σ : mS) (xs : List Int32) (res : mR) (h : k_132 rec σ xs = some res) : s_132 l D kA z v σ xs res := by
  intro x0 hxs
  subst hxs
  obtain ⟨σf, rf, dd⟩ := res
  have h : (lt_ (mI σ 87 1) (fun σ1 => lt_ (mI σ1 88 x0) (fun σ2 => some (σ2, 0, 0)))) = some (σf, rf, dd) := h
  refine ax_Mv.of (by decide +kernel) (Nat.le_of_ble_eq_true rfl) ?_
  intro p e s m args below meth c C hnm
  have C : ax_C p s m args meth c b_MM_refuted "ClauseProverModel" 2 none D kA (va_A (mmW kA z v σ) s.heap.size) := C
  obtain ⟨F, hFe⟩ : ∃ F, F = dd + 1 := ⟨_, rfl⟩
  obtain ⟨Lo, hLoe⟩ : ∃ Lo, Lo = 64 * dd + 64 := ⟨_, rfl⟩
  obtain ⟨σ0, hσ0⟩ : ∃ s0, s0 = σ := ⟨_, rfl⟩
  suffices K : AW p l e { frames := F, cells := 0, slots := 0, locals := Lo } s m args below meth c D kA (va_A (mmW kA z v σ0) s.heap.size) 2 (ax_Qv below args s D kA (mmW kA z v σ0) 0 0 (fun w1 => w1 = mmW kA z v σf)) 0 [(0, .ref z), (1, .int x0)] [] (mmW kA z v σ) 0 0 by rw [hFe, hLoe, hσ0] at K; exact ax_ls ([(0, .ref z), (1, .int x0)]) [0, 1] rfl K
  have C : ax_C p s m args meth c b_MM_refuted "ClauseProverModel" 2 none D kA (va_A (mmW kA z v σ0) s.heap.size) := by rw [hσ0]; exact C
  have hF : dd + 1 ≤ F := by omega
  have hLo : 64 * dd + 64 ≤ Lo := by omega
  clear hFe hLoe hσ0
  refine ax_aload_n (pc := 0) C d_MM_refuted_0 rfl 0 rfl ?_
  refine ax_iconst (pc := 1) C 1 d_MM_refuted_1 (by decide +kernel) ?_
  refine mp_278 (pc := 2) C d_MM_refuted_2 ?_
  have h := it_l h
  generalize mI σ 87 1 = σ1 at h ⊢
  refine ax_aload_n (pc := 5) C d_MM_refuted_5 rfl 0 rfl ?_
  refine ax_iload_n (pc := 6) C d_MM_refuted_6 rfl 1 rfl ?_
  refine mp_281 (pc := 7) C d_MM_refuted_7 ?_
  have h := it_l h
  generalize mI σ1 88 x0 = σ2 at h ⊢
  cases h
  exact ax_vret (pc := 10) C d_MM_refuted_10 rfl (Nat.le_refl _) (Nat.le_refl _)
set_option maxHeartbeats 4000000 in
set_option maxRecDepth 100000 in
theorem o_133 (l : Launch) (D : va_G) (kA : Nat → ClassId) (z : Nat) (v : Nat → Nat) (rec : mF) (ih : ∀ t σ xs res, rec t σ xs = some res → mSem l D kA z v t σ xs res) (σ : mS) (xs : List Int32) (res : mR) (h : k_133 rec σ xs = some res) : s_133 l D kA z v σ xs res := by
  intro x0 hxs
  subst hxs
  obtain ⟨σf, rf, dd⟩ := res
  have h : (lt_ (mI σ 47 205000) (fun σ1 => lt_ (mI σ1 98 0) (fun σ2 => lt_ (mI σ2 120 0) (fun σ3 => if bin x0 2001 = true then (rec 134 σ3 [x0, (σ3.2.1 73 (Int32.toNatClampNeg x0))]) else none)))) = some (σf, rf, dd) := h
  refine ax_Mi.of (by decide +kernel) (Nat.le_of_ble_eq_true rfl) ?_
  intro p e s m args below meth c C hnm
  have C : ax_C p s m args meth c b_MM_rewrite "ClauseProverModel" 6 (some .int) D kA (va_A (mmW kA z v σ) s.heap.size) := C
  obtain ⟨F, hFe⟩ : ∃ F, F = dd + 1 := ⟨_, rfl⟩
  obtain ⟨Lo, hLoe⟩ : ∃ Lo, Lo = 64 * dd + 64 := ⟨_, rfl⟩
  obtain ⟨σ0, hσ0⟩ : ∃ s0, s0 = σ := ⟨_, rfl⟩
  suffices K : AW p l e { frames := F, cells := 0, slots := 0, locals := Lo } s m args below meth c D kA (va_A (mmW kA z v σ0) s.heap.size) 6 (ax_Qi below args s D kA (mmW kA z v σ0) 0 0 (fun r w1 => r = rf ∧ w1 = mmW kA z v σf)) 0 [(0, .ref z), (1, .int x0)] [] (mmW kA z v σ) 0 0 by rw [hFe, hLoe, hσ0] at K; exact ax_ls ([(0, .ref z), (1, .int x0)]) [0, 1] rfl K
  have C : ax_C p s m args meth c b_MM_rewrite "ClauseProverModel" 6 (some .int) D kA (va_A (mmW kA z v σ0) s.heap.size) := by rw [hσ0]; exact C
  have hF : dd + 1 ≤ F := by omega
  have hLo : 64 * dd + 64 ≤ Lo := by omega
  clear hFe hLoe hσ0
  refine ax_aload_n (pc := 0) C d_MM_rewrite_0 rfl 0 rfl ?_
  refine ax_ldcw (pc := 1) C tb_constant_2106 d_MM_rewrite_1 ?_
  refine mp_157 (pc := 4) C d_MM_rewrite_4 ?_
  have h := it_l h
  generalize mI σ 47 205000 = σ1 at h ⊢
  refine ax_aload_n (pc := 7) C d_MM_rewrite_7 rfl 0 rfl ?_
  refine ax_iconst (pc := 8) C 0 d_MM_rewrite_8 (by decide +kernel) ?_
  refine mp_311 (pc := 9) C d_MM_rewrite_9 ?_
  have h := it_l h
  generalize mI σ1 98 0 = σ2 at h ⊢
  refine ax_aload_n (pc := 12) C d_MM_rewrite_12 rfl 0 rfl ?_
  refine ax_iconst (pc := 13) C 0 d_MM_rewrite_13 (by decide +kernel) ?_
  refine mp_377 (pc := 14) C d_MM_rewrite_14 ?_
  have h := it_l h
  generalize mI σ2 120 0 = σ3 at h ⊢
  refine ax_aload_n (pc := 17) C d_MM_rewrite_17 rfl 0 rfl ?_
  refine mg_235 (pc := 18) C d_MM_rewrite_18 ?_
  refine ax_iload_n (pc := 21) C d_MM_rewrite_21 rfl 1 rfl ?_
  obtain ⟨hb, h⟩ := it_g h
  refine ml_73 (pc := 22) C d_MM_rewrite_22 (bin_in hb) ?_
  refine ax_istore_n (pc := 23) C d_MM_rewrite_23 rfl (Nat.le_of_ble_eq_true rfl) ([(2, .int (σ3.2.1 73 (Int32.toNatClampNeg x0))), (0, .ref z), (1, .int x0)]) rfl ?_
  refine ax_ls ([(0, .ref z), (1, .int x0), (2, .int (σ3.2.1 73 (Int32.toNatClampNeg x0)))]) [1, 2, 0] rfl ?_
  have hm : s_134 l D kA z v σ3 [x0, (σ3.2.1 73 (Int32.toNatClampNeg x0))] (σf, rf, _) := ih 134 _ _ _ h
  exact hm _ _ rfl p e s m args below meth c F Lo σ0 hF hLo C
set_option maxHeartbeats 4000000 in
set_option maxRecDepth 100000 in
theorem o_134 (l : Launch) (D : va_G) (kA : Nat → ClassId) (z : Nat) (v : Nat → Nat) (rec : mF) (ih : ∀ t σ xs res, rec t σ xs = some res → mSem l D kA z v t σ xs res) (σ : mS) (xs : List Int32) (res : mR) (h : k_134 rec σ xs = some res) : s_134 l D kA z v σ xs res := by
  intro x0 x1 hxs
  subst hxs
  obtain ⟨σf, rf, dd⟩ := res
  have h : (if bin x0 2001 = true then (if bin x0 2001 = true then (if (((σ.2.1 73 (Int32.toNatClampNeg x0)) : Int32) + (σ.2.1 74 (Int32.toNatClampNeg x0))) ≤ x1 then (rec 135 σ [x0, 0, 1]) else (if bin x1 16100 = true then (bnd (rec 85 σ [(σ.2.1 66 (Int32.toNatClampNeg x1))]) (fun σ1 r1 => if bin x1 16100 = true then (bnd (rec 85 σ1 [(σ1.2.1 67 (Int32.toNatClampNeg x1))]) (fun σ2 r2 => if bin x1 16100 = true then (bnd (rec 79 σ2 [r1, r2, (σ2.2.1 68 (Int32.toNatClampNeg x1))]) (fun σ3 r3 => rec 134 σ3 [x0, (x1 + 1)])) else none)) else none)) else none)) else none) else none) = some (σf, rf, dd) := h
  intro p e s m args below meth c F Lo σ0 hF hLo C
  dsimp only at hF hLo ⊢
  refine ax_iload_n (pc := 24) C d_MM_rewrite_24 rfl 2 rfl ?_
  refine ax_aload_n (pc := 25) C d_MM_rewrite_25 rfl 0 rfl ?_
  refine mg_235 (pc := 26) C d_MM_rewrite_26 ?_
  refine ax_iload_n (pc := 29) C d_MM_rewrite_29 rfl 1 rfl ?_
  obtain ⟨hb, h⟩ := it_g h
  refine ml_73 (pc := 30) C d_MM_rewrite_30 (bin_in hb) ?_
  refine ax_aload_n (pc := 31) C d_MM_rewrite_31 rfl 0 rfl ?_
  refine mg_238 (pc := 32) C d_MM_rewrite_32 ?_
  refine ax_iload_n (pc := 35) C d_MM_rewrite_35 rfl 1 rfl ?_
  obtain ⟨hb, h⟩ := it_g h
  refine ml_74 (pc := 36) C d_MM_rewrite_36 (bin_in hb) ?_
  refine ax_iadd (pc := 37) C d_MM_rewrite_37 ?_
  refine ax_icmp_ge (pc := 38) C 77 d_MM_rewrite_38 (by decide) (fun hc => ?_) (fun hc => ?_)
  · have h := it_t hc h
    refine ax_iconst (pc := 77) C 0 d_MM_rewrite_77 (by decide +kernel) ?_
    refine ax_istore_n (pc := 78) C d_MM_rewrite_78 rfl (Nat.le_of_ble_eq_true rfl) ([(2, .int 0), (0, .ref z), (1, .int x0)]) rfl ?_
    refine ax_iconst (pc := 79) C 1 d_MM_rewrite_79 (by decide +kernel) ?_
    refine ax_istore_n (pc := 80) C d_MM_rewrite_80 rfl (Nat.le_of_ble_eq_true rfl) ([(3, .int 1), (2, .int 0), (0, .ref z), (1, .int x0)]) rfl ?_
    refine ax_ls ([(0, .ref z), (1, .int x0), (2, .int 0), (3, .int 1)]) [2, 3, 1, 0] rfl ?_
    have hm : s_135 l D kA z v σ [x0, 0, 1] (σf, rf, _) := ih 135 _ _ _ h
    exact hm _ _ _ rfl p e s m args below meth c F Lo σ0 hF hLo C
  · have h := it_f hc h
    refine ax_aload_n (pc := 41) C d_MM_rewrite_41 rfl 0 rfl ?_
    refine ax_aload_n (pc := 42) C d_MM_rewrite_42 rfl 0 rfl ?_
    refine ax_aload_n (pc := 43) C d_MM_rewrite_43 rfl 0 rfl ?_
    refine mg_214 (pc := 44) C d_MM_rewrite_44 ?_
    refine ax_iload_n (pc := 47) C d_MM_rewrite_47 rfl 2 rfl ?_
    obtain ⟨hb, h⟩ := it_g h
    refine ml_66 (pc := 48) C d_MM_rewrite_48 (bin_in hb) ?_
    obtain ⟨σ1, r1, d1_1, d2_1, h1, h, hd2, hd1⟩ := it_b h
    have hm : s_85 l D kA z v σ [(σ.2.1 66 (Int32.toNatClampNeg x1))] (σ1, r1, d1_1) := ih 85 _ _ _ h1
    refine mc_Vi (pc := 49) C (As := [.int (σ.2.1 66 (Int32.toNatClampNeg x1))]) (rest := [.ref z]) (hm _ rfl) ml_MM_519 d_MM_rewrite_49 rfl rfl (by dsimp only; omega) (by dsimp only; omega) (Nat.le_of_ble_eq_true rfl) (Nat.le_of_ble_eq_true rfl) (Nat.le_of_ble_eq_true rfl) ?_
    have hF : d2_1 + 1 ≤ F := by omega
    have hLo : 64 * d2_1 + 64 ≤ Lo := by omega
    refine ax_aload_n (pc := 52) C d_MM_rewrite_52 rfl 0 rfl ?_
    refine ax_aload_n (pc := 53) C d_MM_rewrite_53 rfl 0 rfl ?_
    refine mg_217 (pc := 54) C d_MM_rewrite_54 ?_
    refine ax_iload_n (pc := 57) C d_MM_rewrite_57 rfl 2 rfl ?_
    obtain ⟨hb, h⟩ := it_g h
    refine ml_67 (pc := 58) C d_MM_rewrite_58 (bin_in hb) ?_
    obtain ⟨σ2, r2, d1_2, d2_2, h1, h, hd2, hd1⟩ := it_b h
    have hm : s_85 l D kA z v σ1 [(σ1.2.1 67 (Int32.toNatClampNeg x1))] (σ2, r2, d1_2) := ih 85 _ _ _ h1
    refine mc_Vi (pc := 59) C (As := [.int (σ1.2.1 67 (Int32.toNatClampNeg x1))]) (rest := [.int r1, .ref z]) (hm _ rfl) ml_MM_519 d_MM_rewrite_59 rfl rfl (by dsimp only; omega) (by dsimp only; omega) (Nat.le_of_ble_eq_true rfl) (Nat.le_of_ble_eq_true rfl) (Nat.le_of_ble_eq_true rfl) ?_
    have hF : d2_2 + 1 ≤ F := by omega
    have hLo : 64 * d2_2 + 64 ≤ Lo := by omega
    refine ax_aload_n (pc := 62) C d_MM_rewrite_62 rfl 0 rfl ?_
    refine mg_220 (pc := 63) C d_MM_rewrite_63 ?_
    refine ax_iload_n (pc := 66) C d_MM_rewrite_66 rfl 2 rfl ?_
    obtain ⟨hb, h⟩ := it_g h
    refine ml_68 (pc := 67) C d_MM_rewrite_67 (bin_in hb) ?_
    obtain ⟨σ3, r3, d1_3, d2_3, h1, h, hd2, hd1⟩ := it_b h
    have hm : s_79 l D kA z v σ2 [r1, r2, (σ2.2.1 68 (Int32.toNatClampNeg x1))] (σ3, r3, d1_3) := ih 79 _ _ _ h1
    refine mc_Vv (pc := 68) C (As := [.int r1, .int r2, .int (σ2.2.1 68 (Int32.toNatClampNeg x1))]) (rest := []) (hm _ _ _ rfl) ml_MM_634 d_MM_rewrite_68 rfl rfl (by dsimp only; omega) (by dsimp only; omega) (Nat.le_of_ble_eq_true rfl) (Nat.le_of_ble_eq_true rfl) (Nat.le_of_ble_eq_true rfl) ?_
    have hF : d2_3 + 1 ≤ F := by omega
    have hLo : 64 * d2_3 + 64 ≤ Lo := by omega
    refine ax_iinc (pc := 71) C (x1 + 1) d_MM_rewrite_71 2 rfl rfl (Nat.le_of_ble_eq_true rfl) ([(2, .int (x1 + 1)), (0, .ref z), (1, .int x0)]) rfl ?_
    refine ax_goto (pc := 74) C 24 d_MM_rewrite_74 (by decide) ?_
    refine ax_ls ([(0, .ref z), (1, .int x0), (2, .int (x1 + 1))]) [1, 2, 0] rfl ?_
    have hm : s_134 l D kA z v σ3 [x0, (x1 + 1)] (σf, rf, _) := ih 134 _ _ _ h
    exact hm _ _ rfl p e s m args below meth c F Lo σ0 hF hLo C
set_option maxHeartbeats 4000000 in
set_option maxRecDepth 100000 in
theorem o_135 (l : Launch) (D : va_G) (kA : Nat → ClassId) (z : Nat) (v : Nat → Nat) (rec : mF) (ih : ∀ t σ xs res, rec t σ xs = some res → mSem l D kA z v t σ xs res) (σ : mS) (xs : List Int32) (res : mR) (h : k_135 rec σ xs = some res) : s_135 l D kA z v σ xs res := by
  intro x0 x1 x2 hxs
  subst hxs
  obtain ⟨σf, rf, dd⟩ := res
  have h : (if x2 = 0 then (rec 143 σ [x0, x1, x2]) else (if 60 ≤ x1 then (rec 143 σ [x0, x1, x2]) else (rec 136 σ [x0, x1, 0, 0]))) = some (σf, rf, dd) := h
  intro p e s m args below meth c F Lo σ0 hF hLo C
  dsimp only at hF hLo ⊢
  refine ax_iload_n (pc := 81) C d_MM_rewrite_81 rfl 3 rfl ?_
  refine ax_if_eq (pc := 82) C 271 d_MM_rewrite_82 (by decide) (fun hc => ?_) (fun hc => ?_)
  · have h := it_t hc h
    refine ax_ls ([(0, .ref z), (1, .int x0), (2, .int x1), (3, .int x2)]) [0, 1, 2, 3] rfl ?_
    have hm : s_143 l D kA z v σ [x0, x1, x2] (σf, rf, _) := ih 143 _ _ _ h
    exact hm _ _ _ rfl p e s m args below meth c F Lo σ0 hF hLo C
  · have h := it_f hc h
    refine ax_iload_n (pc := 85) C d_MM_rewrite_85 rfl 2 rfl ?_
    refine ax_bipush (pc := 86) C 60 d_MM_rewrite_86 (by decide +kernel) ?_
    refine ax_icmp_ge (pc := 88) C 271 d_MM_rewrite_88 (by decide) (fun hc => ?_) (fun hc => ?_)
    · have h := it_t hc h
      refine ax_ls ([(0, .ref z), (1, .int x0), (2, .int x1), (3, .int x2)]) [0, 1, 2, 3] rfl ?_
      have hm : s_143 l D kA z v σ [x0, x1, x2] (σf, rf, _) := ih 143 _ _ _ h
      exact hm _ _ _ rfl p e s m args below meth c F Lo σ0 hF hLo C
    · have h := it_f hc h
      refine ax_iconst (pc := 91) C 0 d_MM_rewrite_91 (by decide +kernel) ?_
      refine ax_istore_n (pc := 92) C d_MM_rewrite_92 rfl (Nat.le_of_ble_eq_true rfl) ([(3, .int 0), (0, .ref z), (1, .int x0), (2, .int x1)]) rfl ?_
      refine ax_iconst (pc := 93) C 0 d_MM_rewrite_93 (by decide +kernel) ?_
      refine ax_istore (pc := 94) C d_MM_rewrite_94 (Nat.le_of_ble_eq_true rfl) ([(4, .int 0), (3, .int 0), (0, .ref z), (1, .int x0), (2, .int x1)]) rfl ?_
      refine ax_ls ([(0, .ref z), (1, .int x0), (2, .int x1), (3, .int 0), (4, .int 0)]) [2, 3, 4, 1, 0] rfl ?_
      have hm : s_136 l D kA z v σ [x0, x1, 0, 0] (σf, rf, _) := ih 136 _ _ _ h
      exact hm _ _ _ _ rfl p e s m args below meth c F Lo σ0 hF hLo C
set_option maxHeartbeats 4000000 in
set_option maxRecDepth 100000 in
theorem o_136 (l : Launch) (D : va_G) (kA : Nat → ClassId) (z : Nat) (v : Nat → Nat) (rec : mF) (ih : ∀ t σ xs res, rec t σ xs = some res → mSem l D kA z v t σ xs res) (σ : mS) (xs : List Int32) (res : mR) (h : k_136 rec σ xs = some res) : s_136 l D kA z v σ xs res := by
  intro x0 x1 x2 x3 hxs
  subst hxs
  obtain ⟨σf, rf, dd⟩ := res
  have h : (if (σ.1 98) ≤ x3 then (rec 138 σ [x0, x1, x2, x3]) else (if x2 = 0 then (if bin x3 40 = true then (bnd (rec 144 σ [(σ.2.1 95 (Int32.toNatClampNeg x3))]) (fun σ1 r1 => if r1 = 0 then (if bin x3 40 = true then (bnd (rec 144 σ1 [(σ1.2.1 96 (Int32.toNatClampNeg x3))]) (fun σ2 r2 => if r2 = 0 then (rec 137 σ2 [x0, x1, x2, x3]) else (if bin x3 40 = true then (bnd (rec 171 σ2 [(σ2.2.1 96 (Int32.toNatClampNeg x3))]) (fun σ3 r3 => if bin x3 40 = true then (lt_ (mA σ3 96 (Int32.toNatClampNeg x3) r3) (fun σ4 => rec 137 σ4 [x0, x1, 1, x3])) else none)) else none))) else none) else (if bin x3 40 = true then (bnd (rec 171 σ1 [(σ1.2.1 95 (Int32.toNatClampNeg x3))]) (fun σ5 r5 => if bin x3 40 = true then (lt_ (mA σ5 95 (Int32.toNatClampNeg x3) r5) (fun σ6 => rec 137 σ6 [x0, x1, 1, x3])) else none)) else none))) else none) else (rec 138 σ [x0, x1, x2, x3]))) = some (σf, rf, dd) := h
  intro p e s m args below meth c F Lo σ0 hF hLo C
  dsimp only at hF hLo ⊢
  refine ax_iload (pc := 96) C d_MM_rewrite_96 4 rfl ?_
  refine ax_aload_n (pc := 98) C d_MM_rewrite_98 rfl 0 rfl ?_
  refine mg_311 (pc := 99) C d_MM_rewrite_99 ?_
  refine ax_icmp_ge (pc := 102) C 186 d_MM_rewrite_102 (by decide) (fun hc => ?_) (fun hc => ?_)
  · have h := it_t hc h
    refine ax_ls ([(0, .ref z), (1, .int x0), (2, .int x1), (3, .int x2), (4, .int x3)]) [0, 1, 2, 3, 4] rfl ?_
    have hm : s_138 l D kA z v σ [x0, x1, x2, x3] (σf, rf, _) := ih 138 _ _ _ h
    exact hm _ _ _ _ rfl p e s m args below meth c F Lo σ0 hF hLo C
  · have h := it_f hc h
    refine ax_iload_n (pc := 105) C d_MM_rewrite_105 rfl 3 rfl ?_
    refine ax_if_ne (pc := 106) C 186 d_MM_rewrite_106 (by decide) (fun hc => ?_) (fun hc => ?_)
    · have h := it_f hc h
      refine ax_ls ([(0, .ref z), (1, .int x0), (2, .int x1), (3, .int x2), (4, .int x3)]) [0, 1, 2, 3, 4] rfl ?_
      have hm : s_138 l D kA z v σ [x0, x1, x2, x3] (σf, rf, _) := ih 138 _ _ _ h
      exact hm _ _ _ _ rfl p e s m args below meth c F Lo σ0 hF hLo C
    · have h := it_t hc h
      refine ax_aload_n (pc := 109) C d_MM_rewrite_109 rfl 0 rfl ?_
      refine ax_aload_n (pc := 110) C d_MM_rewrite_110 rfl 0 rfl ?_
      refine mg_302 (pc := 111) C d_MM_rewrite_111 ?_
      refine ax_iload (pc := 114) C d_MM_rewrite_114 4 rfl ?_
      obtain ⟨hb, h⟩ := it_g h
      refine ml_95 (pc := 116) C d_MM_rewrite_116 (bin_in hb) ?_
      obtain ⟨σ1, r1, d1_1, d2_1, h1, h, hd2, hd1⟩ := it_b h
      have hm : s_144 l D kA z v σ [(σ.2.1 95 (Int32.toNatClampNeg x3))] (σ1, r1, d1_1) := ih 144 _ _ _ h1
      refine mc_Vi (pc := 117) C (As := [.int (σ.2.1 95 (Int32.toNatClampNeg x3))]) (rest := []) (hm _ rfl) ml_MM_703 d_MM_rewrite_117 rfl rfl (by dsimp only; omega) (by dsimp only; omega) (Nat.le_of_ble_eq_true rfl) (Nat.le_of_ble_eq_true rfl) (Nat.le_of_ble_eq_true rfl) ?_
      have hF : d2_1 + 1 ≤ F := by omega
      have hLo : 64 * d2_1 + 64 ≤ Lo := by omega
      refine ax_if_eq (pc := 120) C 146 d_MM_rewrite_120 (by decide) (fun hc => ?_) (fun hc => ?_)
      · have h := it_t hc h
        refine ax_aload_n (pc := 146) C d_MM_rewrite_146 rfl 0 rfl ?_
        refine ax_aload_n (pc := 147) C d_MM_rewrite_147 rfl 0 rfl ?_
        refine mg_305 (pc := 148) C d_MM_rewrite_148 ?_
        refine ax_iload (pc := 151) C d_MM_rewrite_151 4 rfl ?_
        obtain ⟨hb, h⟩ := it_g h
        refine ml_96 (pc := 153) C d_MM_rewrite_153 (bin_in hb) ?_
        obtain ⟨σ2, r2, d1_2, d2_2, h1, h, hd2, hd1⟩ := it_b h
        have hm : s_144 l D kA z v σ1 [(σ1.2.1 96 (Int32.toNatClampNeg x3))] (σ2, r2, d1_2) := ih 144 _ _ _ h1
        refine mc_Vi (pc := 154) C (As := [.int (σ1.2.1 96 (Int32.toNatClampNeg x3))]) (rest := []) (hm _ rfl) ml_MM_703 d_MM_rewrite_154 rfl rfl (by dsimp only; omega) (by dsimp only; omega) (Nat.le_of_ble_eq_true rfl) (Nat.le_of_ble_eq_true rfl) (Nat.le_of_ble_eq_true rfl) ?_
        have hF : d2_2 + 1 ≤ F := by omega
        have hLo : 64 * d2_2 + 64 ≤ Lo := by omega
        refine ax_if_eq (pc := 157) C 180 d_MM_rewrite_157 (by decide) (fun hc => ?_) (fun hc => ?_)
        · have h := it_t hc h
          refine ax_ls ([(0, .ref z), (1, .int x0), (2, .int x1), (3, .int x2), (4, .int x3)]) [0, 1, 2, 3, 4] rfl ?_
          have hm : s_137 l D kA z v σ2 [x0, x1, x2, x3] (σf, rf, _) := ih 137 _ _ _ h
          exact hm _ _ _ _ rfl p e s m args below meth c F Lo σ0 hF hLo C
        · have h := it_f hc h
          refine ax_aload_n (pc := 160) C d_MM_rewrite_160 rfl 0 rfl ?_
          refine mg_305 (pc := 161) C d_MM_rewrite_161 ?_
          refine ax_iload (pc := 164) C d_MM_rewrite_164 4 rfl ?_
          refine ax_aload_n (pc := 166) C d_MM_rewrite_166 rfl 0 rfl ?_
          refine ax_aload_n (pc := 167) C d_MM_rewrite_167 rfl 0 rfl ?_
          refine mg_305 (pc := 168) C d_MM_rewrite_168 ?_
          refine ax_iload (pc := 171) C d_MM_rewrite_171 4 rfl ?_
          obtain ⟨hb, h⟩ := it_g h
          refine ml_96 (pc := 173) C d_MM_rewrite_173 (bin_in hb) ?_
          obtain ⟨σ3, r3, d1_3, d2_3, h1, h, hd2, hd1⟩ := it_b h
          have hm : s_171 l D kA z v σ2 [(σ2.2.1 96 (Int32.toNatClampNeg x3))] (σ3, r3, d1_3) := ih 171 _ _ _ h1
          refine mc_Vi (pc := 174) C (As := [.int (σ2.2.1 96 (Int32.toNatClampNeg x3))]) (rest := [.int x3, .ref (v 58)]) (hm _ rfl) ml_MM_706 d_MM_rewrite_174 rfl rfl (by dsimp only; omega) (by dsimp only; omega) (Nat.le_of_ble_eq_true rfl) (Nat.le_of_ble_eq_true rfl) (Nat.le_of_ble_eq_true rfl) ?_
          have hF : d2_3 + 1 ≤ F := by omega
          have hLo : 64 * d2_3 + 64 ≤ Lo := by omega
          obtain ⟨hb, h⟩ := it_g h
          refine ms_96 (pc := 177) C d_MM_rewrite_177 (bin_in hb) ?_
          have h := it_l h
          generalize mA σ3 96 (Int32.toNatClampNeg x3) r3 = σ4 at h ⊢
          refine ax_iconst (pc := 178) C 1 d_MM_rewrite_178 (by decide +kernel) ?_
          refine ax_istore_n (pc := 179) C d_MM_rewrite_179 rfl (Nat.le_of_ble_eq_true rfl) ([(3, .int 1), (0, .ref z), (1, .int x0), (2, .int x1), (4, .int x3)]) rfl ?_
          refine ax_ls ([(0, .ref z), (1, .int x0), (2, .int x1), (3, .int 1), (4, .int x3)]) [1, 2, 3, 0, 4] rfl ?_
          have hm : s_137 l D kA z v σ4 [x0, x1, 1, x3] (σf, rf, _) := ih 137 _ _ _ h
          exact hm _ _ _ _ rfl p e s m args below meth c F Lo σ0 hF hLo C
      · have h := it_f hc h
        refine ax_aload_n (pc := 123) C d_MM_rewrite_123 rfl 0 rfl ?_
        refine mg_302 (pc := 124) C d_MM_rewrite_124 ?_
        refine ax_iload (pc := 127) C d_MM_rewrite_127 4 rfl ?_
        refine ax_aload_n (pc := 129) C d_MM_rewrite_129 rfl 0 rfl ?_
        refine ax_aload_n (pc := 130) C d_MM_rewrite_130 rfl 0 rfl ?_
        refine mg_302 (pc := 131) C d_MM_rewrite_131 ?_
        refine ax_iload (pc := 134) C d_MM_rewrite_134 4 rfl ?_
        obtain ⟨hb, h⟩ := it_g h
        refine ml_95 (pc := 136) C d_MM_rewrite_136 (bin_in hb) ?_
        obtain ⟨σ5, r5, d1_5, d2_5, h1, h, hd2, hd1⟩ := it_b h
        have hm : s_171 l D kA z v σ1 [(σ1.2.1 95 (Int32.toNatClampNeg x3))] (σ5, r5, d1_5) := ih 171 _ _ _ h1
        refine mc_Vi (pc := 137) C (As := [.int (σ1.2.1 95 (Int32.toNatClampNeg x3))]) (rest := [.int x3, .ref (v 57)]) (hm _ rfl) ml_MM_706 d_MM_rewrite_137 rfl rfl (by dsimp only; omega) (by dsimp only; omega) (Nat.le_of_ble_eq_true rfl) (Nat.le_of_ble_eq_true rfl) (Nat.le_of_ble_eq_true rfl) ?_
        have hF : d2_5 + 1 ≤ F := by omega
        have hLo : 64 * d2_5 + 64 ≤ Lo := by omega
        obtain ⟨hb, h⟩ := it_g h
        refine ms_95 (pc := 140) C d_MM_rewrite_140 (bin_in hb) ?_
        have h := it_l h
        generalize mA σ5 95 (Int32.toNatClampNeg x3) r5 = σ6 at h ⊢
        refine ax_iconst (pc := 141) C 1 d_MM_rewrite_141 (by decide +kernel) ?_
        refine ax_istore_n (pc := 142) C d_MM_rewrite_142 rfl (Nat.le_of_ble_eq_true rfl) ([(3, .int 1), (0, .ref z), (1, .int x0), (2, .int x1), (4, .int x3)]) rfl ?_
        refine ax_goto (pc := 143) C 180 d_MM_rewrite_143 (by decide) ?_
        refine ax_ls ([(0, .ref z), (1, .int x0), (2, .int x1), (3, .int 1), (4, .int x3)]) [1, 2, 3, 0, 4] rfl ?_
        have hm : s_137 l D kA z v σ6 [x0, x1, 1, x3] (σf, rf, _) := ih 137 _ _ _ h
        exact hm _ _ _ _ rfl p e s m args below meth c F Lo σ0 hF hLo C
set_option maxHeartbeats 4000000 in
set_option maxRecDepth 100000 in
theorem o_137 (l : Launch) (D : va_G) (kA : Nat → ClassId) (z : Nat) (v : Nat → Nat) (rec : mF) (ih : ∀ t σ xs res, rec t σ xs = some res → mSem l D kA z v t σ xs res) (σ : mS) (xs : List Int32) (res : mR) (h : k_137 rec σ xs = some res) : s_137 l D kA z v σ xs res := by
  intro x0 x1 x2 x3 hxs
  subst hxs
  obtain ⟨σf, rf, dd⟩ := res
  have h : (rec 136 σ [x0, x1, x2, (x3 + 1)]) = some (σf, rf, dd) := h
  intro p e s m args below meth c F Lo σ0 hF hLo C
  dsimp only at hF hLo ⊢
  refine ax_iinc (pc := 180) C (x3 + 1) d_MM_rewrite_180 4 rfl rfl (Nat.le_of_ble_eq_true rfl) ([(4, .int (x3 + 1)), (0, .ref z), (1, .int x0), (2, .int x1), (3, .int x2)]) rfl ?_
  refine ax_goto (pc := 183) C 96 d_MM_rewrite_183 (by decide) ?_
  refine ax_ls ([(0, .ref z), (1, .int x0), (2, .int x1), (3, .int x2), (4, .int (x3 + 1))]) [1, 2, 3, 4, 0] rfl ?_
  have hm : s_136 l D kA z v σ [x0, x1, x2, (x3 + 1)] (σf, rf, _) := ih 136 _ _ _ h
  exact hm _ _ _ _ rfl p e s m args below meth c F Lo σ0 hF hLo C
set_option maxHeartbeats 4000000 in
set_option maxRecDepth 100000 in
theorem o_138 (l : Launch) (D : va_G) (kA : Nat → ClassId) (z : Nat) (v : Nat → Nat) (rec : mF) (ih : ∀ t σ xs res, rec t σ xs = some res → mSem l D kA z v t σ xs res) (σ : mS) (xs : List Int32) (res : mR) (h : k_138 rec σ xs = some res) : s_138 l D kA z v σ xs res := by
  intro x0 x1 x2 x3 hxs
  subst hxs
  obtain ⟨σf, rf, dd⟩ := res
  have h : (if x2 = 0 then (rec 143 σ [x0, x1, x2]) else (rec 139 σ [x0, (x1 + 1), x2, 0, 0])) = some (σf, rf, dd) := h
  intro p e s m args below meth c F Lo σ0 hF hLo C
  dsimp only at hF hLo ⊢
  refine ax_iload_n (pc := 186) C d_MM_rewrite_186 rfl 3 rfl ?_
  refine ax_if_ne (pc := 187) C 193 d_MM_rewrite_187 (by decide) (fun hc => ?_) (fun hc => ?_)
  · have h := it_f hc h
    refine ax_iinc (pc := 193) C (x1 + 1) d_MM_rewrite_193 2 rfl rfl (Nat.le_of_ble_eq_true rfl) ([(2, .int (x1 + 1)), (0, .ref z), (1, .int x0), (3, .int x2), (4, .int x3)]) rfl ?_
    refine ax_iconst (pc := 196) C 0 d_MM_rewrite_196 (by decide +kernel) ?_
    refine ax_istore (pc := 197) C d_MM_rewrite_197 (Nat.le_of_ble_eq_true rfl) ([(4, .int 0), (2, .int (x1 + 1)), (0, .ref z), (1, .int x0), (3, .int x2)]) rfl ?_
    refine ax_iconst (pc := 199) C 0 d_MM_rewrite_199 (by decide +kernel) ?_
    refine ax_istore (pc := 200) C d_MM_rewrite_200 (Nat.le_of_ble_eq_true rfl) ([(5, .int 0), (4, .int 0), (2, .int (x1 + 1)), (0, .ref z), (1, .int x0), (3, .int x2)]) rfl ?_
    refine ax_ls ([(0, .ref z), (1, .int x0), (2, .int (x1 + 1)), (3, .int x2), (4, .int 0), (5, .int 0)]) [3, 4, 2, 5, 1, 0] rfl ?_
    have hm : s_139 l D kA z v σ [x0, (x1 + 1), x2, 0, 0] (σf, rf, _) := ih 139 _ _ _ h
    exact hm _ _ _ _ _ rfl p e s m args below meth c F Lo σ0 hF hLo C
  · have h := it_t hc h
    refine ax_goto (pc := 190) C 271 d_MM_rewrite_190 (by decide) ?_
    refine ax_ls ([(0, .ref z), (1, .int x0), (2, .int x1), (3, .int x2)]) [0, 1, 2, 3] rfl ?_
    have hm : s_143 l D kA z v σ [x0, x1, x2] (σf, rf, _) := ih 143 _ _ _ h
    exact hm _ _ _ rfl p e s m args below meth c F Lo σ0 hF hLo C
set_option maxHeartbeats 4000000 in
set_option maxRecDepth 100000 in
theorem o_139 (l : Launch) (D : va_G) (kA : Nat → ClassId) (z : Nat) (v : Nat → Nat) (rec : mF) (ih : ∀ t σ xs res, rec t σ xs = some res → mSem l D kA z v t σ xs res) (σ : mS) (xs : List Int32) (res : mR) (h : k_139 rec σ xs = some res) : s_139 l D kA z v σ xs res := by
  intro x0 x1 x2 x3 x4 hxs
  subst hxs
  obtain ⟨σf, rf, dd⟩ := res
  have h : (if (σ.1 120) ≤ x4 then (if x3 = 0 then (lt_ (mI σ 120 (((σ.1 120) : Int32) + 1)) (fun σ1 => if bin (σ.1 120) 60 = true then (lt_ (mA σ1 119 (Int32.toNatClampNeg (σ.1 120)) (σ1.1 118)) (fun σ2 => rec 142 σ2 [x0, x1, x2, x3, x4])) else none)) else (rec 142 σ [x0, x1, x2, x3, x4])) else (if x3 = 0 then (if bin x4 60 = true then (if (σ.2.1 119 (Int32.toNatClampNeg x4)) = (σ.1 118) then (rec 140 σ [x0, x1, x2, x3, x4]) else (rec 141 σ [x0, x1, x2, x3, x4, 0])) else none) else (rec 140 σ [x0, x1, x2, x3, x4]))) = some (σf, rf, dd) := h
  intro p e s m args below meth c F Lo σ0 hF hLo C
  dsimp only at hF hLo ⊢
  refine ax_iload (pc := 202) C d_MM_rewrite_202 5 rfl ?_
  refine ax_aload_n (pc := 204) C d_MM_rewrite_204 rfl 0 rfl ?_
  refine mg_377 (pc := 205) C d_MM_rewrite_205 ?_
  refine ax_icmp_ge (pc := 208) C 243 d_MM_rewrite_208 (by decide) (fun hc => ?_) (fun hc => ?_)
  · have h := it_t hc h
    refine ax_iload (pc := 243) C d_MM_rewrite_243 4 rfl ?_
    refine ax_if_ne (pc := 245) C 268 d_MM_rewrite_245 (by decide) (fun hc => ?_) (fun hc => ?_)
    · have h := it_f hc h
      refine ax_ls ([(0, .ref z), (1, .int x0), (2, .int x1), (3, .int x2), (4, .int x3), (5, .int x4)]) [0, 1, 2, 3, 4, 5] rfl ?_
      have hm : s_142 l D kA z v σ [x0, x1, x2, x3, x4] (σf, rf, _) := ih 142 _ _ _ h
      exact hm _ _ _ _ _ rfl p e s m args below meth c F Lo σ0 hF hLo C
    · have h := it_t hc h
      refine ax_aload_n (pc := 248) C d_MM_rewrite_248 rfl 0 rfl ?_
      refine mg_374 (pc := 249) C d_MM_rewrite_249 ?_
      refine ax_aload_n (pc := 252) C d_MM_rewrite_252 rfl 0 rfl ?_
      refine ax_dup (pc := 253) C d_MM_rewrite_253 rfl ?_
      refine mg_377 (pc := 254) C d_MM_rewrite_254 ?_
      refine ax_dup_x1 (pc := 257) C d_MM_rewrite_257 rfl rfl ?_
      refine ax_iconst (pc := 258) C 1 d_MM_rewrite_258 (by decide +kernel) ?_
      refine ax_iadd (pc := 259) C d_MM_rewrite_259 ?_
      refine mp_377 (pc := 260) C d_MM_rewrite_260 ?_
      have h := it_l h
      generalize mI σ 120 (((σ.1 120) : Int32) + 1) = σ1 at h ⊢
      refine ax_aload_n (pc := 263) C d_MM_rewrite_263 rfl 0 rfl ?_
      refine mg_371 (pc := 264) C d_MM_rewrite_264 ?_
      obtain ⟨hb, h⟩ := it_g h
      refine ms_119 (pc := 267) C d_MM_rewrite_267 (bin_in hb) ?_
      have h := it_l h
      generalize mA σ1 119 (Int32.toNatClampNeg (σ.1 120)) (σ1.1 118) = σ2 at h ⊢
      refine ax_ls ([(0, .ref z), (1, .int x0), (2, .int x1), (3, .int x2), (4, .int x3), (5, .int x4)]) [0, 1, 2, 3, 4, 5] rfl ?_
      have hm : s_142 l D kA z v σ2 [x0, x1, x2, x3, x4] (σf, rf, _) := ih 142 _ _ _ h
      exact hm _ _ _ _ _ rfl p e s m args below meth c F Lo σ0 hF hLo C
  · have h := it_f hc h
    refine ax_iload (pc := 211) C d_MM_rewrite_211 4 rfl ?_
    refine ax_if_ne (pc := 213) C 230 d_MM_rewrite_213 (by decide) (fun hc => ?_) (fun hc => ?_)
    · have h := it_f hc h
      refine ax_ls ([(0, .ref z), (1, .int x0), (2, .int x1), (3, .int x2), (4, .int x3), (5, .int x4)]) [0, 1, 2, 3, 4, 5] rfl ?_
      have hm : s_140 l D kA z v σ [x0, x1, x2, x3, x4] (σf, rf, _) := ih 140 _ _ _ h
      exact hm _ _ _ _ _ rfl p e s m args below meth c F Lo σ0 hF hLo C
    · have h := it_t hc h
      refine ax_aload_n (pc := 216) C d_MM_rewrite_216 rfl 0 rfl ?_
      refine mg_374 (pc := 217) C d_MM_rewrite_217 ?_
      refine ax_iload (pc := 220) C d_MM_rewrite_220 5 rfl ?_
      obtain ⟨hb, h⟩ := it_g h
      refine ml_119 (pc := 222) C d_MM_rewrite_222 (bin_in hb) ?_
      refine ax_aload_n (pc := 223) C d_MM_rewrite_223 rfl 0 rfl ?_
      refine mg_371 (pc := 224) C d_MM_rewrite_224 ?_
      refine ax_icmp_ne (pc := 227) C 234 d_MM_rewrite_227 (by decide) (fun hc => ?_) (fun hc => ?_)
      · have h := it_f hc h
        refine ax_iconst (pc := 234) C 0 d_MM_rewrite_234 (by decide +kernel) ?_
        refine ax_ls ([(0, .ref z), (1, .int x0), (2, .int x1), (3, .int x2), (4, .int x3), (5, .int x4)]) [0, 1, 2, 3, 4, 5] rfl ?_
        have hm : s_141 l D kA z v σ [x0, x1, x2, x3, x4, 0] (σf, rf, _) := ih 141 _ _ _ h
        exact hm _ _ _ _ _ _ rfl p e s m args below meth c F Lo σ0 hF hLo C
      · have h := it_t hc h
        refine ax_ls ([(0, .ref z), (1, .int x0), (2, .int x1), (3, .int x2), (4, .int x3), (5, .int x4)]) [0, 1, 2, 3, 4, 5] rfl ?_
        have hm : s_140 l D kA z v σ [x0, x1, x2, x3, x4] (σf, rf, _) := ih 140 _ _ _ h
        exact hm _ _ _ _ _ rfl p e s m args below meth c F Lo σ0 hF hLo C
set_option maxHeartbeats 4000000 in
set_option maxRecDepth 100000 in
theorem o_140 (l : Launch) (D : va_G) (kA : Nat → ClassId) (z : Nat) (v : Nat → Nat) (rec : mF) (ih : ∀ t σ xs res, rec t σ xs = some res → mSem l D kA z v t σ xs res) (σ : mS) (xs : List Int32) (res : mR) (h : k_140 rec σ xs = some res) : s_140 l D kA z v σ xs res := by
  intro x0 x1 x2 x3 x4 hxs
  subst hxs
  obtain ⟨σf, rf, dd⟩ := res
  have h : (rec 141 σ [x0, x1, x2, x3, x4, 1]) = some (σf, rf, dd) := h
  intro p e s m args below meth c F Lo σ0 hF hLo C
  dsimp only at hF hLo ⊢
  refine ax_iconst (pc := 230) C 1 d_MM_rewrite_230 (by decide +kernel) ?_
  refine ax_goto (pc := 231) C 235 d_MM_rewrite_231 (by decide) ?_
  refine ax_ls ([(0, .ref z), (1, .int x0), (2, .int x1), (3, .int x2), (4, .int x3), (5, .int x4)]) [0, 1, 2, 3, 4, 5] rfl ?_
  have hm : s_141 l D kA z v σ [x0, x1, x2, x3, x4, 1] (σf, rf, _) := ih 141 _ _ _ h
  exact hm _ _ _ _ _ _ rfl p e s m args below meth c F Lo σ0 hF hLo C
set_option maxHeartbeats 4000000 in
set_option maxRecDepth 100000 in
theorem o_141 (l : Launch) (D : va_G) (kA : Nat → ClassId) (z : Nat) (v : Nat → Nat) (rec : mF) (ih : ∀ t σ xs res, rec t σ xs = some res → mSem l D kA z v t σ xs res) (σ : mS) (xs : List Int32) (res : mR) (h : k_141 rec σ xs = some res) : s_141 l D kA z v σ xs res := by
  intro x0 x1 x2 x3 x4 x5 hxs
  subst hxs
  obtain ⟨σf, rf, dd⟩ := res
  have h : (rec 139 σ [x0, x1, x2, x5, (x4 + 1)]) = some (σf, rf, dd) := h
  intro p e s m args below meth c F Lo σ0 hF hLo C
  dsimp only at hF hLo ⊢
  refine ax_istore (pc := 235) C d_MM_rewrite_235 (Nat.le_of_ble_eq_true rfl) ([(4, .int x5), (0, .ref z), (1, .int x0), (2, .int x1), (3, .int x2), (5, .int x4)]) rfl ?_
  refine ax_iinc (pc := 237) C (x4 + 1) d_MM_rewrite_237 5 rfl rfl (Nat.le_of_ble_eq_true rfl) ([(5, .int (x4 + 1)), (4, .int x5), (0, .ref z), (1, .int x0), (2, .int x1), (3, .int x2)]) rfl ?_
  refine ax_goto (pc := 240) C 202 d_MM_rewrite_240 (by decide) ?_
  refine ax_ls ([(0, .ref z), (1, .int x0), (2, .int x1), (3, .int x2), (4, .int x5), (5, .int (x4 + 1))]) [2, 3, 4, 5, 1, 0] rfl ?_
  have hm : s_139 l D kA z v σ [x0, x1, x2, x5, (x4 + 1)] (σf, rf, _) := ih 139 _ _ _ h
  exact hm _ _ _ _ _ rfl p e s m args below meth c F Lo σ0 hF hLo C
set_option maxHeartbeats 4000000 in
set_option maxRecDepth 100000 in
theorem o_142 (l : Launch) (D : va_G) (kA : Nat → ClassId) (z : Nat) (v : Nat → Nat) (rec : mF) (ih : ∀ t σ xs res, rec t σ xs = some res → mSem l D kA z v t σ xs res) (σ : mS) (xs : List Int32) (res : mR) (h : k_142 rec σ xs = some res) : s_142 l D kA z v σ xs res := by
  intro x0 x1 x2 x3 x4 hxs
  subst hxs
  obtain ⟨σf, rf, dd⟩ := res
  have h : (rec 135 σ [x0, x1, x2]) = some (σf, rf, dd) := h
  intro p e s m args below meth c F Lo σ0 hF hLo C
  dsimp only at hF hLo ⊢
  refine ax_goto (pc := 268) C 81 d_MM_rewrite_268 (by decide) ?_
  refine ax_ls ([(0, .ref z), (1, .int x0), (2, .int x1), (3, .int x2)]) [0, 1, 2, 3] rfl ?_
  have hm : s_135 l D kA z v σ [x0, x1, x2] (σf, rf, _) := ih 135 _ _ _ h
  exact hm _ _ _ rfl p e s m args below meth c F Lo σ0 hF hLo C
set_option maxHeartbeats 4000000 in
set_option maxRecDepth 100000 in
theorem o_143 (l : Launch) (D : va_G) (kA : Nat → ClassId) (z : Nat) (v : Nat → Nat) (rec : mF) (ih : ∀ t σ xs res, rec t σ xs = some res → mSem l D kA z v t σ xs res) (σ : mS) (xs : List Int32) (res : mR) (h : k_143 rec σ xs = some res) : s_143 l D kA z v σ xs res := by
  intro x0 x1 x2 hxs
  subst hxs
  obtain ⟨σf, rf, dd⟩ := res
  have h : (some (σ, x1, 0)) = some (σf, rf, dd) := h
  intro p e s m args below meth c F Lo σ0 hF hLo C
  dsimp only at hF hLo ⊢
  refine ax_iload_n (pc := 271) C d_MM_rewrite_271 rfl 2 rfl ?_
  cases h
  exact ax_iret (pc := 272) C d_MM_rewrite_272 ⟨rfl, rfl⟩ (Nat.le_refl _) (Nat.le_refl _)
set_option maxHeartbeats 4000000 in
set_option maxRecDepth 100000 in
theorem o_144 (l : Launch) (D : va_G) (kA : Nat → ClassId) (z : Nat) (v : Nat → Nat) (rec : mF) (ih : ∀ t σ xs res, rec t σ xs = some res → mSem l D kA z v t σ xs res) (σ : mS) (xs : List Int32) (res : mR) (h : k_144 rec σ xs = some res) : s_144 l D kA z v σ xs res := by
  intro x0 hxs
  subst hxs
  obtain ⟨σf, rf, dd⟩ := res
  have h : (rec 145 σ [x0, 0]) = some (σf, rf, dd) := h
  refine ax_Mi.of (by decide +kernel) (Nat.le_of_ble_eq_true rfl) ?_
  intro p e s m args below meth c C hnm
  have C : ax_C p s m args meth c b_MM_findPlace "ClauseProverModel" 6 (some .boolean) D kA (va_A (mmW kA z v σ) s.heap.size) := C
  obtain ⟨F, hFe⟩ : ∃ F, F = dd + 1 := ⟨_, rfl⟩
  obtain ⟨Lo, hLoe⟩ : ∃ Lo, Lo = 64 * dd + 64 := ⟨_, rfl⟩
  obtain ⟨σ0, hσ0⟩ : ∃ s0, s0 = σ := ⟨_, rfl⟩
  suffices K : AW p l e { frames := F, cells := 0, slots := 0, locals := Lo } s m args below meth c D kA (va_A (mmW kA z v σ0) s.heap.size) 6 (ax_Qi below args s D kA (mmW kA z v σ0) 0 0 (fun r w1 => r = rf ∧ w1 = mmW kA z v σf)) 0 [(0, .ref z), (1, .int x0)] [] (mmW kA z v σ) 0 0 by rw [hFe, hLoe, hσ0] at K; exact ax_ls ([(0, .ref z), (1, .int x0)]) [0, 1] rfl K
  have C : ax_C p s m args meth c b_MM_findPlace "ClauseProverModel" 6 (some .boolean) D kA (va_A (mmW kA z v σ0) s.heap.size) := by rw [hσ0]; exact C
  have hF : dd + 1 ≤ F := by omega
  have hLo : 64 * dd + 64 ≤ Lo := by omega
  clear hFe hLoe hσ0
  refine ax_iconst (pc := 0) C 0 d_MM_findPlace_0 (by decide +kernel) ?_
  refine ax_istore_n (pc := 1) C d_MM_findPlace_1 rfl (Nat.le_of_ble_eq_true rfl) ([(2, .int 0), (0, .ref z), (1, .int x0)]) rfl ?_
  refine ax_ls ([(0, .ref z), (1, .int x0), (2, .int 0)]) [1, 2, 0] rfl ?_
  have hm : s_145 l D kA z v σ [x0, 0] (σf, rf, _) := ih 145 _ _ _ h
  exact hm _ _ rfl p e s m args below meth c F Lo σ0 hF hLo C
set_option maxHeartbeats 4000000 in
set_option maxRecDepth 100000 in
theorem o_145 (l : Launch) (D : va_G) (kA : Nat → ClassId) (z : Nat) (v : Nat → Nat) (rec : mF) (ih : ∀ t σ xs res, rec t σ xs = some res → mSem l D kA z v t σ xs res) (σ : mS) (xs : List Int32) (res : mR) (h : k_145 rec σ xs = some res) : s_145 l D kA z v σ xs res := by
  intro x0 x1 hxs
  subst hxs
  obtain ⟨σf, rf, dd⟩ := res
  have h : (if (σ.1 84) ≤ x1 then (if bin x0 420000 = true then (rec 148 σ [x0, (σ.2.1 44 (Int32.toNatClampNeg x0))]) else none) else (if bin x1 2001 = true then (if (σ.2.1 80 (Int32.toNatClampNeg x1)) = 1 then (bnd (rec 149 σ [x1]) (fun σ1 r1 => if r1 = 0 then (rec 147 σ1 [x0, x1]) else (rec 146 σ1 [x0, x1, 0]))) else (rec 147 σ [x0, x1])) else none)) = some (σf, rf, dd) := h
  intro p e s m args below meth c F Lo σ0 hF hLo C
  dsimp only at hF hLo ⊢
  refine ax_iload_n (pc := 2) C d_MM_findPlace_2 rfl 2 rfl ?_
  refine ax_aload_n (pc := 3) C d_MM_findPlace_3 rfl 0 rfl ?_
  refine mg_269 (pc := 4) C d_MM_findPlace_4 ?_
  refine ax_icmp_ge (pc := 7) C 97 d_MM_findPlace_7 (by decide) (fun hc => ?_) (fun hc => ?_)
  · have h := it_t hc h
    refine ax_aload_n (pc := 97) C d_MM_findPlace_97 rfl 0 rfl ?_
    refine mg_148 (pc := 98) C d_MM_findPlace_98 ?_
    refine ax_iload_n (pc := 101) C d_MM_findPlace_101 rfl 1 rfl ?_
    obtain ⟨hb, h⟩ := it_g h
    refine ml_44 (pc := 102) C d_MM_findPlace_102 (bin_in hb) ?_
    refine ax_istore_n (pc := 103) C d_MM_findPlace_103 rfl (Nat.le_of_ble_eq_true rfl) ([(2, .int (σ.2.1 44 (Int32.toNatClampNeg x0))), (0, .ref z), (1, .int x0)]) rfl ?_
    refine ax_ls ([(0, .ref z), (1, .int x0), (2, .int (σ.2.1 44 (Int32.toNatClampNeg x0)))]) [1, 2, 0] rfl ?_
    have hm : s_148 l D kA z v σ [x0, (σ.2.1 44 (Int32.toNatClampNeg x0))] (σf, rf, _) := ih 148 _ _ _ h
    exact hm _ _ rfl p e s m args below meth c F Lo σ0 hF hLo C
  · have h := it_f hc h
    refine ax_aload_n (pc := 10) C d_MM_findPlace_10 rfl 0 rfl ?_
    refine mg_256 (pc := 11) C d_MM_findPlace_11 ?_
    refine ax_iload_n (pc := 14) C d_MM_findPlace_14 rfl 2 rfl ?_
    obtain ⟨hb, h⟩ := it_g h
    refine ml_80 (pc := 15) C d_MM_findPlace_15 (bin_in hb) ?_
    refine ax_iconst (pc := 16) C 1 d_MM_findPlace_16 (by decide +kernel) ?_
    refine ax_icmp_ne (pc := 17) C 91 d_MM_findPlace_17 (by decide) (fun hc => ?_) (fun hc => ?_)
    · have h := it_f hc h
      refine ax_ls ([(0, .ref z), (1, .int x0), (2, .int x1)]) [0, 1, 2] rfl ?_
      have hm : s_147 l D kA z v σ [x0, x1] (σf, rf, _) := ih 147 _ _ _ h
      exact hm _ _ rfl p e s m args below meth c F Lo σ0 hF hLo C
    · have h := it_t hc h
      refine ax_aload_n (pc := 20) C d_MM_findPlace_20 rfl 0 rfl ?_
      refine ax_iload_n (pc := 21) C d_MM_findPlace_21 rfl 2 rfl ?_
      obtain ⟨σ1, r1, d1_1, d2_1, h1, h, hd2, hd1⟩ := it_b h
      have hm : s_149 l D kA z v σ [x1] (σ1, r1, d1_1) := ih 149 _ _ _ h1
      refine mc_Vi (pc := 22) C (As := [.int x1]) (rest := []) (hm _ rfl) ml_MM_697 d_MM_findPlace_22 rfl rfl (by dsimp only; omega) (by dsimp only; omega) (Nat.le_of_ble_eq_true rfl) (Nat.le_of_ble_eq_true rfl) (Nat.le_of_ble_eq_true rfl) ?_
      have hF : d2_1 + 1 ≤ F := by omega
      have hLo : 64 * d2_1 + 64 ≤ Lo := by omega
      refine ax_if_ne (pc := 25) C 31 d_MM_findPlace_25 (by decide) (fun hc => ?_) (fun hc => ?_)
      · have h := it_f hc h
        refine ax_iconst (pc := 31) C 0 d_MM_findPlace_31 (by decide +kernel) ?_
        refine ax_istore_n (pc := 32) C d_MM_findPlace_32 rfl (Nat.le_of_ble_eq_true rfl) ([(3, .int 0), (0, .ref z), (1, .int x0), (2, .int x1)]) rfl ?_
        refine ax_ls ([(0, .ref z), (1, .int x0), (2, .int x1), (3, .int 0)]) [1, 2, 3, 0] rfl ?_
        have hm : s_146 l D kA z v σ1 [x0, x1, 0] (σf, rf, _) := ih 146 _ _ _ h
        exact hm _ _ _ rfl p e s m args below meth c F Lo σ0 hF hLo C
      · have h := it_t hc h
        refine ax_goto (pc := 28) C 91 d_MM_findPlace_28 (by decide) ?_
        refine ax_ls ([(0, .ref z), (1, .int x0), (2, .int x1)]) [0, 1, 2] rfl ?_
        have hm : s_147 l D kA z v σ1 [x0, x1] (σf, rf, _) := ih 147 _ _ _ h
        exact hm _ _ rfl p e s m args below meth c F Lo σ0 hF hLo C
set_option maxHeartbeats 4000000 in
set_option maxRecDepth 100000 in
theorem o_146 (l : Launch) (D : va_G) (kA : Nat → ClassId) (z : Nat) (v : Nat → Nat) (rec : mF) (ih : ∀ t σ xs res, rec t σ xs = some res → mSem l D kA z v t σ xs res) (σ : mS) (xs : List Int32) (res : mR) (h : k_146 rec σ xs = some res) : s_146 l D kA z v σ xs res := by
  intro x0 x1 x2 hxs
  subst hxs
  obtain ⟨σf, rf, dd⟩ := res
  have h : (if 2 ≤ x2 then (rec 147 σ [x0, x1]) else (bnd (rec 152 σ [x1, x2, x0]) (fun σ1 r1 => if 0 ≤ r1 then (lt_ (mI σ1 116 x0) (fun σ2 => lt_ (mI σ2 117 r1) (fun σ3 => lt_ (mI σ3 118 x1) (fun σ4 => some (σ4, 1, 0))))) else (lt_ (mI σ1 47 (σ.1 47)) (fun σ5 => rec 146 σ5 [x0, x1, (x2 + 1)]))))) = some (σf, rf, dd) := h
  intro p e s m args below meth c F Lo σ0 hF hLo C
  dsimp only at hF hLo ⊢
  refine ax_iload_n (pc := 33) C d_MM_findPlace_33 rfl 3 rfl ?_
  refine ax_iconst (pc := 34) C 2 d_MM_findPlace_34 (by decide +kernel) ?_
  refine ax_icmp_ge (pc := 35) C 91 d_MM_findPlace_35 (by decide) (fun hc => ?_) (fun hc => ?_)
  · have h := it_t hc h
    refine ax_ls ([(0, .ref z), (1, .int x0), (2, .int x1)]) [0, 1, 2] rfl ?_
    have hm : s_147 l D kA z v σ [x0, x1] (σf, rf, _) := ih 147 _ _ _ h
    exact hm _ _ rfl p e s m args below meth c F Lo σ0 hF hLo C
  · have h := it_f hc h
    refine ax_aload_n (pc := 38) C d_MM_findPlace_38 rfl 0 rfl ?_
    refine mg_157 (pc := 39) C d_MM_findPlace_39 ?_
    refine ax_istore (pc := 42) C d_MM_findPlace_42 (Nat.le_of_ble_eq_true rfl) ([(4, .int (σ.1 47)), (0, .ref z), (1, .int x0), (2, .int x1), (3, .int x2)]) rfl ?_
    refine ax_aload_n (pc := 44) C d_MM_findPlace_44 rfl 1 rfl ?_
    refine ax_iload_n (pc := 45) C d_MM_findPlace_45 rfl 3 rfl ?_
    refine ax_iload_n (pc := 46) C d_MM_findPlace_46 rfl 4 rfl ?_
    refine ax_iload_n (pc := 47) C d_MM_findPlace_47 rfl 2 rfl ?_
    obtain ⟨σ1, r1, d1_1, d2_1, h1, h, hd2, hd1⟩ := it_b h
    have hm : s_152 l D kA z v σ [x1, x2, x0] (σ1, r1, d1_1) := ih 152 _ _ _ h1
    refine mc_Vi (pc := 48) C (As := [.int x1, .int x2, .int x0]) (rest := []) (hm _ _ _ rfl) ml_MM_700 d_MM_findPlace_48 rfl rfl (by dsimp only; omega) (by dsimp only; omega) (Nat.le_of_ble_eq_true rfl) (Nat.le_of_ble_eq_true rfl) (Nat.le_of_ble_eq_true rfl) ?_
    have hF : d2_1 + 1 ≤ F := by omega
    have hLo : 64 * d2_1 + 64 ≤ Lo := by omega
    refine ax_istore (pc := 51) C d_MM_findPlace_51 (Nat.le_of_ble_eq_true rfl) ([(5, .int r1), (4, .int (σ.1 47)), (0, .ref z), (1, .int x0), (2, .int x1), (3, .int x2)]) rfl ?_
    refine ax_iload (pc := 53) C d_MM_findPlace_53 0 rfl ?_
    refine ax_if_ge (pc := 55) C 67 d_MM_findPlace_55 (by decide) (fun hc => ?_) (fun hc => ?_)
    · have h := it_t hc h
      refine ax_aload_n (pc := 67) C d_MM_findPlace_67 rfl 2 rfl ?_
      refine ax_iload_n (pc := 68) C d_MM_findPlace_68 rfl 3 rfl ?_
      refine mp_365 (pc := 69) C d_MM_findPlace_69 ?_
      have h := it_l h
      generalize mI σ1 116 x0 = σ2 at h ⊢
      refine ax_aload_n (pc := 72) C d_MM_findPlace_72 rfl 2 rfl ?_
      refine ax_iload (pc := 73) C d_MM_findPlace_73 0 rfl ?_
      refine mp_368 (pc := 75) C d_MM_findPlace_75 ?_
      have h := it_l h
      generalize mI σ2 117 r1 = σ3 at h ⊢
      refine ax_aload_n (pc := 78) C d_MM_findPlace_78 rfl 2 rfl ?_
      refine ax_iload_n (pc := 79) C d_MM_findPlace_79 rfl 4 rfl ?_
      refine mp_371 (pc := 80) C d_MM_findPlace_80 ?_
      have h := it_l h
      generalize mI σ3 118 x1 = σ4 at h ⊢
      refine ax_iconst (pc := 83) C 1 d_MM_findPlace_83 (by decide +kernel) ?_
      cases h
      exact ax_zret (pc := 84) C d_MM_findPlace_84 rfl ⟨rfl, rfl⟩ (Nat.le_refl _) (Nat.le_refl _)
    · have h := it_f hc h
      refine ax_aload_n (pc := 58) C d_MM_findPlace_58 rfl 2 rfl ?_
      refine ax_iload (pc := 59) C d_MM_findPlace_59 1 rfl ?_
      refine mp_157 (pc := 61) C d_MM_findPlace_61 ?_
      have h := it_l h
      generalize mI σ1 47 (σ.1 47) = σ5 at h ⊢
      refine ax_goto (pc := 64) C 85 d_MM_findPlace_64 (by decide) ?_
      refine ax_iinc (pc := 85) C (x2 + 1) d_MM_findPlace_85 5 rfl rfl (Nat.le_of_ble_eq_true rfl) ([(3, .int (x2 + 1)), (5, .int r1), (4, .int (σ.1 47)), (0, .ref z), (1, .int x0), (2, .int x1)]) rfl ?_
      refine ax_goto (pc := 88) C 33 d_MM_findPlace_88 (by decide) ?_
      refine ax_ls ([(0, .ref z), (1, .int x0), (2, .int x1), (3, .int (x2 + 1))]) [3, 4, 5, 0] rfl ?_
      have hm : s_146 l D kA z v σ5 [x0, x1, (x2 + 1)] (σf, rf, _) := ih 146 _ _ _ h
      exact hm _ _ _ rfl p e s m args below meth c F Lo σ0 hF hLo C
set_option maxHeartbeats 4000000 in
set_option maxRecDepth 100000 in
theorem o_147 (l : Launch) (D : va_G) (kA : Nat → ClassId) (z : Nat) (v : Nat → Nat) (rec : mF) (ih : ∀ t σ xs res, rec t σ xs = some res → mSem l D kA z v t σ xs res) (σ : mS) (xs : List Int32) (res : mR) (h : k_147 rec σ xs = some res) : s_147 l D kA z v σ xs res := by
  intro x0 x1 hxs
  subst hxs
  obtain ⟨σf, rf, dd⟩ := res
  have h : (rec 145 σ [x0, (x1 + 1)]) = some (σf, rf, dd) := h
  intro p e s m args below meth c F Lo σ0 hF hLo C
  dsimp only at hF hLo ⊢
  refine ax_iinc (pc := 91) C (x1 + 1) d_MM_findPlace_91 2 rfl rfl (Nat.le_of_ble_eq_true rfl) ([(2, .int (x1 + 1)), (0, .ref z), (1, .int x0)]) rfl ?_
  refine ax_goto (pc := 94) C 2 d_MM_findPlace_94 (by decide) ?_
  refine ax_ls ([(0, .ref z), (1, .int x0), (2, .int (x1 + 1))]) [1, 2, 0] rfl ?_
  have hm : s_145 l D kA z v σ [x0, (x1 + 1)] (σf, rf, _) := ih 145 _ _ _ h
  exact hm _ _ rfl p e s m args below meth c F Lo σ0 hF hLo C
set_option maxHeartbeats 4000000 in
set_option maxRecDepth 100000 in
theorem o_148 (l : Launch) (D : va_G) (kA : Nat → ClassId) (z : Nat) (v : Nat → Nat) (rec : mF) (ih : ∀ t σ xs res, rec t σ xs = some res → mSem l D kA z v t σ xs res) (σ : mS) (xs : List Int32) (res : mR) (h : k_148 rec σ xs = some res) : s_148 l D kA z v σ xs res := by
  intro x0 x1 hxs
  subst hxs
  obtain ⟨σf, rf, dd⟩ := res
  have h : (if x1 < 0 then (some (σ, 0, 0)) else (bnd (rec 144 σ [x1]) (fun σ1 r1 => if r1 = 0 then (if bin x1 420000 = true then (rec 148 σ1 [x0, (σ1.2.1 45 (Int32.toNatClampNeg x1))]) else none) else (some (σ1, 1, 0))))) = some (σf, rf, dd) := h
  intro p e s m args below meth c F Lo σ0 hF hLo C
  dsimp only at hF hLo ⊢
  refine ax_iload_n (pc := 104) C d_MM_findPlace_104 rfl 2 rfl ?_
  refine ax_if_lt (pc := 105) C 128 d_MM_findPlace_105 (by decide) (fun hc => ?_) (fun hc => ?_)
  · have h := it_t hc h
    refine ax_iconst (pc := 128) C 0 d_MM_findPlace_128 (by decide +kernel) ?_
    cases h
    exact ax_zret (pc := 129) C d_MM_findPlace_129 rfl ⟨rfl, rfl⟩ (Nat.le_refl _) (Nat.le_refl _)
  · have h := it_f hc h
    refine ax_aload_n (pc := 108) C d_MM_findPlace_108 rfl 0 rfl ?_
    refine ax_iload_n (pc := 109) C d_MM_findPlace_109 rfl 2 rfl ?_
    obtain ⟨σ1, r1, d1_1, d2_1, h1, h, hd2, hd1⟩ := it_b h
    have hm : s_144 l D kA z v σ [x1] (σ1, r1, d1_1) := ih 144 _ _ _ h1
    refine mc_Vi (pc := 110) C (As := [.int x1]) (rest := []) (hm _ rfl) ml_MM_703 d_MM_findPlace_110 rfl rfl (by dsimp only; omega) (by dsimp only; omega) (Nat.le_of_ble_eq_true rfl) (Nat.le_of_ble_eq_true rfl) (Nat.le_of_ble_eq_true rfl) ?_
    have hF : d2_1 + 1 ≤ F := by omega
    have hLo : 64 * d2_1 + 64 ≤ Lo := by omega
    refine ax_if_eq (pc := 113) C 118 d_MM_findPlace_113 (by decide) (fun hc => ?_) (fun hc => ?_)
    · have h := it_t hc h
      refine ax_aload_n (pc := 118) C d_MM_findPlace_118 rfl 0 rfl ?_
      refine mg_151 (pc := 119) C d_MM_findPlace_119 ?_
      refine ax_iload_n (pc := 122) C d_MM_findPlace_122 rfl 2 rfl ?_
      obtain ⟨hb, h⟩ := it_g h
      refine ml_45 (pc := 123) C d_MM_findPlace_123 (bin_in hb) ?_
      refine ax_istore_n (pc := 124) C d_MM_findPlace_124 rfl (Nat.le_of_ble_eq_true rfl) ([(2, .int (σ1.2.1 45 (Int32.toNatClampNeg x1))), (0, .ref z), (1, .int x0)]) rfl ?_
      refine ax_goto (pc := 125) C 104 d_MM_findPlace_125 (by decide) ?_
      refine ax_ls ([(0, .ref z), (1, .int x0), (2, .int (σ1.2.1 45 (Int32.toNatClampNeg x1)))]) [1, 2, 0] rfl ?_
      have hm : s_148 l D kA z v σ1 [x0, (σ1.2.1 45 (Int32.toNatClampNeg x1))] (σf, rf, _) := ih 148 _ _ _ h
      exact hm _ _ rfl p e s m args below meth c F Lo σ0 hF hLo C
    · have h := it_f hc h
      refine ax_iconst (pc := 116) C 1 d_MM_findPlace_116 (by decide +kernel) ?_
      cases h
      exact ax_zret (pc := 117) C d_MM_findPlace_117 rfl ⟨rfl, rfl⟩ (Nat.le_refl _) (Nat.le_refl _)
set_option maxHeartbeats 4000000 in
set_option maxRecDepth 100000 in
theorem o_149 (l : Launch) (D : va_G) (kA : Nat → ClassId) (z : Nat) (v : Nat → Nat) (rec : mF) (ih : ∀ t σ xs res, rec t σ xs = some res → mSem l D kA z v t σ xs res) (σ : mS) (xs : List Int32) (res : mR) (h : k_149 rec σ xs = some res) : s_149 l D kA z v σ xs res := by
  intro x0 hxs
  subst hxs
  obtain ⟨σf, rf, dd⟩ := res
  have h : (if bin x0 2001 = true then (if (σ.2.1 74 (Int32.toNatClampNeg x0)) = 1 then (if bin x0 2001 = true then (if bin (σ.2.1 73 (Int32.toNatClampNeg x0)) 16100 = true then (if (σ.2.1 68 (Int32.toNatClampNeg (σ.2.1 73 (Int32.toNatClampNeg x0)))) = 0 then (rec 150 σ [x0]) else (rec 151 σ [x0, 1])) else none) else none) else (rec 150 σ [x0])) else none) = some (σf, rf, dd) := h
  refine ax_Mi.of (by decide +kernel) (Nat.le_of_ble_eq_true rfl) ?_
  intro p e s m args below meth c C hnm
  have C : ax_C p s m args meth c b_MM_isUnit "ClauseProverModel" 2 (some .boolean) D kA (va_A (mmW kA z v σ) s.heap.size) := C
  obtain ⟨F, hFe⟩ : ∃ F, F = dd + 1 := ⟨_, rfl⟩
  obtain ⟨Lo, hLoe⟩ : ∃ Lo, Lo = 64 * dd + 64 := ⟨_, rfl⟩
  obtain ⟨σ0, hσ0⟩ : ∃ s0, s0 = σ := ⟨_, rfl⟩
  suffices K : AW p l e { frames := F, cells := 0, slots := 0, locals := Lo } s m args below meth c D kA (va_A (mmW kA z v σ0) s.heap.size) 2 (ax_Qi below args s D kA (mmW kA z v σ0) 0 0 (fun r w1 => r = rf ∧ w1 = mmW kA z v σf)) 0 [(0, .ref z), (1, .int x0)] [] (mmW kA z v σ) 0 0 by rw [hFe, hLoe, hσ0] at K; exact ax_ls ([(0, .ref z), (1, .int x0)]) [0, 1] rfl K
  have C : ax_C p s m args meth c b_MM_isUnit "ClauseProverModel" 2 (some .boolean) D kA (va_A (mmW kA z v σ0) s.heap.size) := by rw [hσ0]; exact C
  have hF : dd + 1 ≤ F := by omega
  have hLo : 64 * dd + 64 ≤ Lo := by omega
  clear hFe hLoe hσ0
  refine ax_aload_n (pc := 0) C d_MM_isUnit_0 rfl 0 rfl ?_
  refine mg_238 (pc := 1) C d_MM_isUnit_1 ?_
  refine ax_iload_n (pc := 4) C d_MM_isUnit_4 rfl 1 rfl ?_
  obtain ⟨hb, h⟩ := it_g h
  refine ml_74 (pc := 5) C d_MM_isUnit_5 (bin_in hb) ?_
  refine ax_iconst (pc := 6) C 1 d_MM_isUnit_6 (by decide +kernel) ?_
  refine ax_icmp_ne (pc := 7) C 28 d_MM_isUnit_7 (by decide) (fun hc => ?_) (fun hc => ?_)
  · have h := it_f hc h
    refine ax_ls ([(0, .ref z), (1, .int x0)]) [0, 1] rfl ?_
    have hm : s_150 l D kA z v σ [x0] (σf, rf, _) := ih 150 _ _ _ h
    exact hm _ rfl p e s m args below meth c F Lo σ0 hF hLo C
  · have h := it_t hc h
    refine ax_aload_n (pc := 10) C d_MM_isUnit_10 rfl 0 rfl ?_
    refine mg_220 (pc := 11) C d_MM_isUnit_11 ?_
    refine ax_aload_n (pc := 14) C d_MM_isUnit_14 rfl 0 rfl ?_
    refine mg_235 (pc := 15) C d_MM_isUnit_15 ?_
    refine ax_iload_n (pc := 18) C d_MM_isUnit_18 rfl 1 rfl ?_
    obtain ⟨hb, h⟩ := it_g h
    refine ml_73 (pc := 19) C d_MM_isUnit_19 (bin_in hb) ?_
    obtain ⟨hb, h⟩ := it_g h
    refine ml_68 (pc := 20) C d_MM_isUnit_20 (bin_in hb) ?_
    refine ax_if_eq (pc := 21) C 28 d_MM_isUnit_21 (by decide) (fun hc => ?_) (fun hc => ?_)
    · have h := it_t hc h
      refine ax_ls ([(0, .ref z), (1, .int x0)]) [0, 1] rfl ?_
      have hm : s_150 l D kA z v σ [x0] (σf, rf, _) := ih 150 _ _ _ h
      exact hm _ rfl p e s m args below meth c F Lo σ0 hF hLo C
    · have h := it_f hc h
      refine ax_iconst (pc := 24) C 1 d_MM_isUnit_24 (by decide +kernel) ?_
      refine ax_goto (pc := 25) C 29 d_MM_isUnit_25 (by decide) ?_
      refine ax_ls ([(0, .ref z), (1, .int x0)]) [0, 1] rfl ?_
      have hm : s_151 l D kA z v σ [x0, 1] (σf, rf, _) := ih 151 _ _ _ h
      exact hm _ _ rfl p e s m args below meth c F Lo σ0 hF hLo C
set_option maxHeartbeats 4000000 in
set_option maxRecDepth 100000 in
theorem o_150 (l : Launch) (D : va_G) (kA : Nat → ClassId) (z : Nat) (v : Nat → Nat) (rec : mF) (ih : ∀ t σ xs res, rec t σ xs = some res → mSem l D kA z v t σ xs res) (σ : mS) (xs : List Int32) (res : mR) (h : k_150 rec σ xs = some res) : s_150 l D kA z v σ xs res := by
  intro x0 hxs
  subst hxs
  obtain ⟨σf, rf, dd⟩ := res
  have h : (rec 151 σ [x0, 0]) = some (σf, rf, dd) := h
  intro p e s m args below meth c F Lo σ0 hF hLo C
  dsimp only at hF hLo ⊢
  refine ax_iconst (pc := 28) C 0 d_MM_isUnit_28 (by decide +kernel) ?_
  refine ax_ls ([(0, .ref z), (1, .int x0)]) [0, 1] rfl ?_
  have hm : s_151 l D kA z v σ [x0, 0] (σf, rf, _) := ih 151 _ _ _ h
  exact hm _ _ rfl p e s m args below meth c F Lo σ0 hF hLo C
set_option maxHeartbeats 4000000 in
set_option maxRecDepth 100000 in
theorem o_151 (l : Launch) (D : va_G) (kA : Nat → ClassId) (z : Nat) (v : Nat → Nat) (rec : mF) (ih : ∀ t σ xs res, rec t σ xs = some res → mSem l D kA z v t σ xs res) (σ : mS) (xs : List Int32) (res : mR) (h : k_151 rec σ xs = some res) : s_151 l D kA z v σ xs res := by
  intro x0 x1 hxs
  subst hxs
  obtain ⟨σf, rf, dd⟩ := res
  have h : (if x1 = 0 ∨ x1 = 1 then some (σ, x1, 0) else none) = some (σf, rf, dd) := h
  intro p e s m args below meth c F Lo σ0 hF hLo C
  dsimp only at hF hLo ⊢
  obtain ⟨hb, h⟩ := it_g h
  cases h
  exact ax_zret (pc := 29) C d_MM_isUnit_29 (nb01 hb) ⟨rfl, rfl⟩ (Nat.le_refl _) (Nat.le_refl _)
set_option maxHeartbeats 4000000 in
set_option maxRecDepth 100000 in
theorem o_152 (l : Launch) (D : va_G) (kA : Nat → ClassId) (z : Nat) (v : Nat → Nat) (rec : mF) (ih : ∀ t σ xs res, rec t σ xs = some res → mSem l D kA z v t σ xs res) (σ : mS) (xs : List Int32) (res : mR) (h : k_152 rec σ xs = some res) : s_152 l D kA z v σ xs res := by
  intro x0 x1 x2 hxs
  subst hxs
  obtain ⟨σf, rf, dd⟩ := res
  have h : (lt_ (mFl σ 115 (-1) 6) (fun σ1 => if bin x0 2001 = true then (bnd (rec 155 σ1 [(σ1.2.1 73 (Int32.toNatClampNeg x0)), x1, 0]) (fun σ2 r2 => bnd (rec 158 σ2 [r2, x2]) (fun σ3 r3 => if r3 = 0 then (some (σ3, (-1), 0)) else (if bin x0 2001 = true then (bnd (rec 155 σ3 [(σ3.2.1 73 (Int32.toNatClampNeg x0)), x1, 1]) (fun σ4 r4 => bnd (rec 163 σ4 [r4]) (fun σ5 r5 => if r5 = 0 then (rec 153 σ5 [x0, x1, x2, r4]) else (bnd (rec 166 σ5 [r4]) (fun σ6 r6 => if bin x2 420000 = true then (if r6 ≤ (σ6.2.1 46 (Int32.toNatClampNeg x2)) then (bnd (rec 168 σ6 [r4]) (fun σ7 r7 => bnd (rec 117 σ7 [x2, r7]) (fun σ8 r8 => if r8 = 0 then (rec 154 σ8 [x0, x1, x2, r4, r7, (-1)]) else (rec 154 σ8 [x0, x1, x2, r4, r7, r7])))) else (rec 153 σ6 [x0, x1, x2, r4])) else none))))) else none)))) else none)) = some (σf, rf, dd) := h
  refine ax_Mi.of (by decide +kernel) (Nat.le_of_ble_eq_true rfl) ?_
  intro p e s m args below meth c C hnm
  have C : ax_C p s m args meth c b_MM_becomes "ClauseProverModel" 6 (some .int) D kA (va_A (mmW kA z v σ) s.heap.size) := C
  obtain ⟨F, hFe⟩ : ∃ F, F = dd + 1 := ⟨_, rfl⟩
  obtain ⟨Lo, hLoe⟩ : ∃ Lo, Lo = 64 * dd + 64 := ⟨_, rfl⟩
  obtain ⟨σ0, hσ0⟩ : ∃ s0, s0 = σ := ⟨_, rfl⟩
  suffices K : AW p l e { frames := F, cells := 0, slots := 0, locals := Lo } s m args below meth c D kA (va_A (mmW kA z v σ0) s.heap.size) 6 (ax_Qi below args s D kA (mmW kA z v σ0) 0 0 (fun r w1 => r = rf ∧ w1 = mmW kA z v σf)) 0 [(0, .ref z), (1, .int x0), (2, .int x1), (3, .int x2)] [] (mmW kA z v σ) 0 0 by rw [hFe, hLoe, hσ0] at K; exact ax_ls ([(0, .ref z), (1, .int x0), (2, .int x1), (3, .int x2)]) [0, 1, 2, 3] rfl K
  have C : ax_C p s m args meth c b_MM_becomes "ClauseProverModel" 6 (some .int) D kA (va_A (mmW kA z v σ0) s.heap.size) := by rw [hσ0]; exact C
  have hF : dd + 1 ≤ F := by omega
  have hLo : 64 * dd + 64 ≤ Lo := by omega
  clear hFe hLoe hσ0
  refine ax_aload_n (pc := 0) C d_MM_becomes_0 rfl 0 rfl ?_
  refine mg_362 (pc := 1) C d_MM_becomes_1 ?_
  refine ax_iconst (pc := 4) C (-1) d_MM_becomes_4 (by decide +kernel) ?_
  refine mf_115 (pc := 5) C (rest := []) ml_MM_588 d_MM_becomes_5 rfl hF hLo (Nat.le_of_ble_eq_true rfl) ?_
  have h := it_l h
  generalize mFl σ 115 (-1) 6 = σ1 at h ⊢
  refine ax_aload_n (pc := 8) C d_MM_becomes_8 rfl 0 rfl ?_
  refine ax_aload_n (pc := 9) C d_MM_becomes_9 rfl 0 rfl ?_
  refine ax_aload_n (pc := 10) C d_MM_becomes_10 rfl 0 rfl ?_
  refine mg_235 (pc := 11) C d_MM_becomes_11 ?_
  refine ax_iload_n (pc := 14) C d_MM_becomes_14 rfl 1 rfl ?_
  obtain ⟨hb, h⟩ := it_g h
  refine ml_73 (pc := 15) C d_MM_becomes_15 (bin_in hb) ?_
  refine ax_iload_n (pc := 16) C d_MM_becomes_16 rfl 2 rfl ?_
  refine ax_iconst (pc := 17) C 0 d_MM_becomes_17 (by decide +kernel) ?_
  obtain ⟨σ2, r2, d1_2, d2_2, h1, h, hd2, hd1⟩ := it_b h
  have hm : s_155 l D kA z v σ1 [(σ1.2.1 73 (Int32.toNatClampNeg x0)), x1, 0] (σ2, r2, d1_2) := ih 155 _ _ _ h1
  refine mc_Vi (pc := 18) C (As := [.int (σ1.2.1 73 (Int32.toNatClampNeg x0)), .int x1, .int 0]) (rest := [.ref z]) (hm _ _ _ rfl) ml_MM_658 d_MM_becomes_18 rfl rfl (by dsimp only; omega) (by dsimp only; omega) (Nat.le_of_ble_eq_true rfl) (Nat.le_of_ble_eq_true rfl) (Nat.le_of_ble_eq_true rfl) ?_
  have hF : d2_2 + 1 ≤ F := by omega
  have hLo : 64 * d2_2 + 64 ≤ Lo := by omega
  refine ax_iload_n (pc := 21) C d_MM_becomes_21 rfl 3 rfl ?_
  obtain ⟨σ3, r3, d1_3, d2_3, h1, h, hd2, hd1⟩ := it_b h
  have hm : s_158 l D kA z v σ2 [r2, x2] (σ3, r3, d1_3) := ih 158 _ _ _ h1
  refine mc_Vi (pc := 22) C (As := [.int r2, .int x2]) (rest := []) (hm _ _ rfl) ml_MM_685 d_MM_becomes_22 rfl rfl (by dsimp only; omega) (by dsimp only; omega) (Nat.le_of_ble_eq_true rfl) (Nat.le_of_ble_eq_true rfl) (Nat.le_of_ble_eq_true rfl) ?_
  have hF : d2_3 + 1 ≤ F := by omega
  have hLo : 64 * d2_3 + 64 ≤ Lo := by omega
  refine ax_if_ne (pc := 25) C 30 d_MM_becomes_25 (by decide) (fun hc => ?_) (fun hc => ?_)
  · have h := it_f hc h
    refine ax_aload_n (pc := 30) C d_MM_becomes_30 rfl 0 rfl ?_
    refine ax_aload_n (pc := 31) C d_MM_becomes_31 rfl 0 rfl ?_
    refine mg_235 (pc := 32) C d_MM_becomes_32 ?_
    refine ax_iload_n (pc := 35) C d_MM_becomes_35 rfl 1 rfl ?_
    obtain ⟨hb, h⟩ := it_g h
    refine ml_73 (pc := 36) C d_MM_becomes_36 (bin_in hb) ?_
    refine ax_iload_n (pc := 37) C d_MM_becomes_37 rfl 2 rfl ?_
    refine ax_iconst (pc := 38) C 1 d_MM_becomes_38 (by decide +kernel) ?_
    obtain ⟨σ4, r4, d1_4, d2_4, h1, h, hd2, hd1⟩ := it_b h
    have hm : s_155 l D kA z v σ3 [(σ3.2.1 73 (Int32.toNatClampNeg x0)), x1, 1] (σ4, r4, d1_4) := ih 155 _ _ _ h1
    refine mc_Vi (pc := 39) C (As := [.int (σ3.2.1 73 (Int32.toNatClampNeg x0)), .int x1, .int 1]) (rest := []) (hm _ _ _ rfl) ml_MM_658 d_MM_becomes_39 rfl rfl (by dsimp only; omega) (by dsimp only; omega) (Nat.le_of_ble_eq_true rfl) (Nat.le_of_ble_eq_true rfl) (Nat.le_of_ble_eq_true rfl) ?_
    have hF : d2_4 + 1 ≤ F := by omega
    have hLo : 64 * d2_4 + 64 ≤ Lo := by omega
    refine ax_istore (pc := 42) C d_MM_becomes_42 (Nat.le_of_ble_eq_true rfl) ([(4, .int r4), (0, .ref z), (1, .int x0), (2, .int x1), (3, .int x2)]) rfl ?_
    refine ax_aload_n (pc := 44) C d_MM_becomes_44 rfl 1 rfl ?_
    refine ax_iload (pc := 45) C d_MM_becomes_45 0 rfl ?_
    obtain ⟨σ5, r5, d1_5, d2_5, h1, h, hd2, hd1⟩ := it_b h
    have hm : s_163 l D kA z v σ4 [r4] (σ5, r5, d1_5) := ih 163 _ _ _ h1
    refine mc_Vi (pc := 47) C (As := [.int r4]) (rest := []) (hm _ rfl) ml_MM_688 d_MM_becomes_47 rfl rfl (by dsimp only; omega) (by dsimp only; omega) (Nat.le_of_ble_eq_true rfl) (Nat.le_of_ble_eq_true rfl) (Nat.le_of_ble_eq_true rfl) ?_
    have hF : d2_5 + 1 ≤ F := by omega
    have hLo : 64 * d2_5 + 64 ≤ Lo := by omega
    refine ax_if_eq (pc := 50) C 68 d_MM_becomes_50 (by decide) (fun hc => ?_) (fun hc => ?_)
    · have h := it_t hc h
      refine ax_ls ([(0, .ref z), (1, .int x0), (2, .int x1), (3, .int x2), (4, .int r4)]) [1, 2, 3, 4, 0] rfl ?_
      have hm : s_153 l D kA z v σ5 [x0, x1, x2, r4] (σf, rf, _) := ih 153 _ _ _ h
      exact hm _ _ _ _ rfl p e s m args below meth c F Lo σ0 hF hLo C
    · have h := it_f hc h
      refine ax_aload_n (pc := 53) C d_MM_becomes_53 rfl 1 rfl ?_
      refine ax_iload (pc := 54) C d_MM_becomes_54 0 rfl ?_
      obtain ⟨σ6, r6, d1_6, d2_6, h1, h, hd2, hd1⟩ := it_b h
      have hm : s_166 l D kA z v σ5 [r4] (σ6, r6, d1_6) := ih 166 _ _ _ h1
      refine mc_Vi (pc := 56) C (As := [.int r4]) (rest := []) (hm _ rfl) ml_MM_691 d_MM_becomes_56 rfl rfl (by dsimp only; omega) (by dsimp only; omega) (Nat.le_of_ble_eq_true rfl) (Nat.le_of_ble_eq_true rfl) (Nat.le_of_ble_eq_true rfl) ?_
      have hF : d2_6 + 1 ≤ F := by omega
      have hLo : 64 * d2_6 + 64 ≤ Lo := by omega
      refine ax_aload_n (pc := 59) C d_MM_becomes_59 rfl 1 rfl ?_
      refine mg_154 (pc := 60) C d_MM_becomes_60 ?_
      refine ax_iload_n (pc := 63) C d_MM_becomes_63 rfl 4 rfl ?_
      obtain ⟨hb, h⟩ := it_g h
      refine ml_46 (pc := 64) C d_MM_becomes_64 (bin_in hb) ?_
      refine ax_icmp_le (pc := 65) C 70 d_MM_becomes_65 (by decide) (fun hc => ?_) (fun hc => ?_)
      · have h := it_t hc h
        refine ax_aload_n (pc := 70) C d_MM_becomes_70 rfl 1 rfl ?_
        refine ax_iload (pc := 71) C d_MM_becomes_71 0 rfl ?_
        obtain ⟨σ7, r7, d1_7, d2_7, h1, h, hd2, hd1⟩ := it_b h
        have hm : s_168 l D kA z v σ6 [r4] (σ7, r7, d1_7) := ih 168 _ _ _ h1
        refine mc_Vi (pc := 73) C (As := [.int r4]) (rest := []) (hm _ rfl) ml_MM_694 d_MM_becomes_73 rfl rfl (by dsimp only; omega) (by dsimp only; omega) (Nat.le_of_ble_eq_true rfl) (Nat.le_of_ble_eq_true rfl) (Nat.le_of_ble_eq_true rfl) ?_
        have hF : d2_7 + 1 ≤ F := by omega
        have hLo : 64 * d2_7 + 64 ≤ Lo := by omega
        refine ax_istore (pc := 76) C d_MM_becomes_76 (Nat.le_of_ble_eq_true rfl) ([(5, .int r7), (4, .int r4), (0, .ref z), (1, .int x0), (2, .int x1), (3, .int x2)]) rfl ?_
        refine ax_aload_n (pc := 78) C d_MM_becomes_78 rfl 2 rfl ?_
        refine ax_iload_n (pc := 79) C d_MM_becomes_79 rfl 5 rfl ?_
        refine ax_iload (pc := 80) C d_MM_becomes_80 0 rfl ?_
        obtain ⟨σ8, r8, d1_8, d2_8, h1, h, hd2, hd1⟩ := it_b h
        have hm : s_117 l D kA z v σ7 [x2, r7] (σ8, r8, d1_8) := ih 117 _ _ _ h1
        refine mc_Vi (pc := 82) C (As := [.int x2, .int r7]) (rest := []) (hm _ _ rfl) ml_MM_597 d_MM_becomes_82 rfl rfl (by dsimp only; omega) (by dsimp only; omega) (Nat.le_of_ble_eq_true rfl) (Nat.le_of_ble_eq_true rfl) (Nat.le_of_ble_eq_true rfl) ?_
        have hF : d2_8 + 1 ≤ F := by omega
        have hLo : 64 * d2_8 + 64 ≤ Lo := by omega
        refine ax_if_eq (pc := 85) C 93 d_MM_becomes_85 (by decide) (fun hc => ?_) (fun hc => ?_)
        · have h := it_t hc h
          refine ax_iconst (pc := 93) C (-1) d_MM_becomes_93 (by decide +kernel) ?_
          refine ax_ls ([(0, .ref z), (1, .int x0), (2, .int x1), (3, .int x2), (4, .int r4), (5, .int r7)]) [2, 3, 4, 5, 1, 0] rfl ?_
          have hm : s_154 l D kA z v σ8 [x0, x1, x2, r4, r7, (-1)] (σf, rf, _) := ih 154 _ _ _ h
          exact hm _ _ _ _ _ _ rfl p e s m args below meth c F Lo σ0 hF hLo C
        · have h := it_f hc h
          refine ax_iload (pc := 88) C d_MM_becomes_88 0 rfl ?_
          refine ax_goto (pc := 90) C 94 d_MM_becomes_90 (by decide) ?_
          refine ax_ls ([(0, .ref z), (1, .int x0), (2, .int x1), (3, .int x2), (4, .int r4), (5, .int r7)]) [2, 3, 4, 5, 1, 0] rfl ?_
          have hm : s_154 l D kA z v σ8 [x0, x1, x2, r4, r7, r7] (σf, rf, _) := ih 154 _ _ _ h
          exact hm _ _ _ _ _ _ rfl p e s m args below meth c F Lo σ0 hF hLo C
      · have h := it_f hc h
        refine ax_ls ([(0, .ref z), (1, .int x0), (2, .int x1), (3, .int x2), (4, .int r4)]) [1, 2, 3, 4, 0] rfl ?_
        have hm : s_153 l D kA z v σ6 [x0, x1, x2, r4] (σf, rf, _) := ih 153 _ _ _ h
        exact hm _ _ _ _ rfl p e s m args below meth c F Lo σ0 hF hLo C
  · have h := it_t hc h
    refine ax_iconst (pc := 28) C (-1) d_MM_becomes_28 (by decide +kernel) ?_
    cases h
    exact ax_iret (pc := 29) C d_MM_becomes_29 ⟨rfl, rfl⟩ (Nat.le_refl _) (Nat.le_refl _)
set_option maxHeartbeats 4000000 in
set_option maxRecDepth 100000 in
theorem o_153 (l : Launch) (D : va_G) (kA : Nat → ClassId) (z : Nat) (v : Nat → Nat) (rec : mF) (ih : ∀ t σ xs res, rec t σ xs = some res → mSem l D kA z v t σ xs res) (σ : mS) (xs : List Int32) (res : mR) (h : k_153 rec σ xs = some res) : s_153 l D kA z v σ xs res := by
  intro x0 x1 x2 x3 hxs
  subst hxs
  obtain ⟨σf, rf, dd⟩ := res
  have h : (some (σ, (-1), 0)) = some (σf, rf, dd) := h
  intro p e s m args below meth c F Lo σ0 hF hLo C
  dsimp only at hF hLo ⊢
  refine ax_iconst (pc := 68) C (-1) d_MM_becomes_68 (by decide +kernel) ?_
  cases h
  exact ax_iret (pc := 69) C d_MM_becomes_69 ⟨rfl, rfl⟩ (Nat.le_refl _) (Nat.le_refl _)
set_option maxHeartbeats 4000000 in
set_option maxRecDepth 100000 in
theorem o_154 (l : Launch) (D : va_G) (kA : Nat → ClassId) (z : Nat) (v : Nat → Nat) (rec : mF) (ih : ∀ t σ xs res, rec t σ xs = some res → mSem l D kA z v t σ xs res) (σ : mS) (xs : List Int32) (res : mR) (h : k_154 rec σ xs = some res) : s_154 l D kA z v σ xs res := by
  intro x0 x1 x2 x3 x4 x5 hxs
  subst hxs
  obtain ⟨σf, rf, dd⟩ := res
  have h : (some (σ, x5, 0)) = some (σf, rf, dd) := h
  intro p e s m args below meth c F Lo σ0 hF hLo C
  dsimp only at hF hLo ⊢
  cases h
  exact ax_iret (pc := 94) C d_MM_becomes_94 ⟨rfl, rfl⟩ (Nat.le_refl _) (Nat.le_refl _)
set_option maxHeartbeats 4000000 in
set_option maxRecDepth 100000 in
theorem o_155 (l : Launch) (D : va_G) (kA : Nat → ClassId) (z : Nat) (v : Nat → Nat) (rec : mF) (ih : ∀ t σ xs res, rec t σ xs = some res → mSem l D kA z v t σ xs res) (σ : mS) (xs : List Int32) (res : mR) (h : k_155 rec σ xs = some res) : s_155 l D kA z v σ xs res := by
  intro x0 x1 x2 hxs
  subst hxs
  obtain ⟨σf, rf, dd⟩ := res
  have h : (if x1 = 0 then (rec 156 σ [x0, x1, x2, 1]) else (rec 156 σ [x0, x1, x2, 0])) = some (σf, rf, dd) := h
  refine ax_Mi.of (by decide +kernel) (Nat.le_of_ble_eq_true rfl) ?_
  intro p e s m args below meth c C hnm
  have C : ax_C p s m args meth c b_MM_side2 "ClauseProverModel" 4 (some .int) D kA (va_A (mmW kA z v σ) s.heap.size) := C
  obtain ⟨F, hFe⟩ : ∃ F, F = dd + 1 := ⟨_, rfl⟩
  obtain ⟨Lo, hLoe⟩ : ∃ Lo, Lo = 64 * dd + 64 := ⟨_, rfl⟩
  obtain ⟨σ0, hσ0⟩ : ∃ s0, s0 = σ := ⟨_, rfl⟩
  suffices K : AW p l e { frames := F, cells := 0, slots := 0, locals := Lo } s m args below meth c D kA (va_A (mmW kA z v σ0) s.heap.size) 4 (ax_Qi below args s D kA (mmW kA z v σ0) 0 0 (fun r w1 => r = rf ∧ w1 = mmW kA z v σf)) 0 [(0, .ref z), (1, .int x0), (2, .int x1), (3, .int x2)] [] (mmW kA z v σ) 0 0 by rw [hFe, hLoe, hσ0] at K; exact ax_ls ([(0, .ref z), (1, .int x0), (2, .int x1), (3, .int x2)]) [0, 1, 2, 3] rfl K
  have C : ax_C p s m args meth c b_MM_side2 "ClauseProverModel" 4 (some .int) D kA (va_A (mmW kA z v σ0) s.heap.size) := by rw [hσ0]; exact C
  have hF : dd + 1 ≤ F := by omega
  have hLo : 64 * dd + 64 ≤ Lo := by omega
  clear hFe hLoe hσ0
  refine ax_iload_n (pc := 0) C d_MM_side2_0 rfl 2 rfl ?_
  refine ax_if_ne (pc := 1) C 8 d_MM_side2_1 (by decide) (fun hc => ?_) (fun hc => ?_)
  · have h := it_f hc h
    refine ax_iconst (pc := 8) C 0 d_MM_side2_8 (by decide +kernel) ?_
    refine ax_ls ([(0, .ref z), (1, .int x0), (2, .int x1), (3, .int x2)]) [0, 1, 2, 3] rfl ?_
    have hm : s_156 l D kA z v σ [x0, x1, x2, 0] (σf, rf, _) := ih 156 _ _ _ h
    exact hm _ _ _ _ rfl p e s m args below meth c F Lo σ0 hF hLo C
  · have h := it_t hc h
    refine ax_iconst (pc := 4) C 1 d_MM_side2_4 (by decide +kernel) ?_
    refine ax_goto (pc := 5) C 9 d_MM_side2_5 (by decide) ?_
    refine ax_ls ([(0, .ref z), (1, .int x0), (2, .int x1), (3, .int x2)]) [0, 1, 2, 3] rfl ?_
    have hm : s_156 l D kA z v σ [x0, x1, x2, 1] (σf, rf, _) := ih 156 _ _ _ h
    exact hm _ _ _ _ rfl p e s m args below meth c F Lo σ0 hF hLo C
set_option maxHeartbeats 4000000 in
set_option maxRecDepth 100000 in
theorem o_156 (l : Launch) (D : va_G) (kA : Nat → ClassId) (z : Nat) (v : Nat → Nat) (rec : mF) (ih : ∀ t σ xs res, rec t σ xs = some res → mSem l D kA z v t σ xs res) (σ : mS) (xs : List Int32) (res : mR) (h : k_156 rec σ xs = some res) : s_156 l D kA z v σ xs res := by
  intro x0 x1 x2 x3 hxs
  subst hxs
  obtain ⟨σf, rf, dd⟩ := res
  have h : (if x3 = x2 then (if bin x0 16100 = true then (rec 157 σ [x0, x1, x2, (σ.2.1 67 (Int32.toNatClampNeg x0))]) else none) else (if bin x0 16100 = true then (rec 157 σ [x0, x1, x2, (σ.2.1 66 (Int32.toNatClampNeg x0))]) else none)) = some (σf, rf, dd) := h
  intro p e s m args below meth c F Lo σ0 hF hLo C
  dsimp only at hF hLo ⊢
  refine ax_iload_n (pc := 9) C d_MM_side2_9 rfl 3 rfl ?_
  refine ax_icmp_eq (pc := 10) C 22 d_MM_side2_10 (by decide) (fun hc => ?_) (fun hc => ?_)
  · have h := it_t hc h
    refine ax_aload_n (pc := 22) C d_MM_side2_22 rfl 0 rfl ?_
    refine mg_217 (pc := 23) C d_MM_side2_23 ?_
    refine ax_iload_n (pc := 26) C d_MM_side2_26 rfl 1 rfl ?_
    obtain ⟨hb, h⟩ := it_g h
    refine ml_67 (pc := 27) C d_MM_side2_27 (bin_in hb) ?_
    refine ax_ls ([(0, .ref z), (1, .int x0), (2, .int x1), (3, .int x2)]) [0, 1, 2, 3] rfl ?_
    have hm : s_157 l D kA z v σ [x0, x1, x2, (σ.2.1 67 (Int32.toNatClampNeg x0))] (σf, rf, _) := ih 157 _ _ _ h
    exact hm _ _ _ _ rfl p e s m args below meth c F Lo σ0 hF hLo C
  · have h := it_f hc h
    refine ax_aload_n (pc := 13) C d_MM_side2_13 rfl 0 rfl ?_
    refine mg_214 (pc := 14) C d_MM_side2_14 ?_
    refine ax_iload_n (pc := 17) C d_MM_side2_17 rfl 1 rfl ?_
    obtain ⟨hb, h⟩ := it_g h
    refine ml_66 (pc := 18) C d_MM_side2_18 (bin_in hb) ?_
    refine ax_goto (pc := 19) C 28 d_MM_side2_19 (by decide) ?_
    refine ax_ls ([(0, .ref z), (1, .int x0), (2, .int x1), (3, .int x2)]) [0, 1, 2, 3] rfl ?_
    have hm : s_157 l D kA z v σ [x0, x1, x2, (σ.2.1 66 (Int32.toNatClampNeg x0))] (σf, rf, _) := ih 157 _ _ _ h
    exact hm _ _ _ _ rfl p e s m args below meth c F Lo σ0 hF hLo C
set_option maxHeartbeats 4000000 in
set_option maxRecDepth 100000 in
theorem o_157 (l : Launch) (D : va_G) (kA : Nat → ClassId) (z : Nat) (v : Nat → Nat) (rec : mF) (ih : ∀ t σ xs res, rec t σ xs = some res → mSem l D kA z v t σ xs res) (σ : mS) (xs : List Int32) (res : mR) (h : k_157 rec σ xs = some res) : s_157 l D kA z v σ xs res := by
  intro x0 x1 x2 x3 hxs
  subst hxs
  obtain ⟨σf, rf, dd⟩ := res
  have h : (some (σ, x3, 0)) = some (σf, rf, dd) := h
  intro p e s m args below meth c F Lo σ0 hF hLo C
  dsimp only at hF hLo ⊢
  cases h
  exact ax_iret (pc := 28) C d_MM_side2_28 ⟨rfl, rfl⟩ (Nat.le_refl _) (Nat.le_refl _)
set_option maxHeartbeats 4000000 in
set_option maxRecDepth 100000 in
theorem o_158 (l : Launch) (D : va_G) (kA : Nat → ClassId) (z : Nat) (v : Nat → Nat) (rec : mF) (ih : ∀ t σ xs res, rec t σ xs = some res → mSem l D kA z v t σ xs res) (σ : mS) (xs : List Int32) (res : mR) (h : k_158 rec σ xs = some res) : s_158 l D kA z v σ xs res := by
  intro x0 x1 hxs
  subst hxs
  obtain ⟨σf, rf, dd⟩ := res
  have h : (if bin x0 420000 = true then (if 0 ≤ (σ.2.1 43 (Int32.toNatClampNeg x0)) then (if bin x0 420000 = true then (if bin x1 420000 = true then (if (σ.2.1 43 (Int32.toNatClampNeg x0)) = (σ.2.1 43 (Int32.toNatClampNeg x1)) then (if bin x1 420000 = true then (if bin x0 420000 = true then (rec 159 σ [x0, x1, (σ.2.1 44 (Int32.toNatClampNeg x1)), (σ.2.1 44 (Int32.toNatClampNeg x0))]) else none) else none) else (some (σ, 0, 0))) else none) else none) else (if bin x0 420000 = true then (if bin (((-1) : Int32) - (σ.2.1 43 (Int32.toNatClampNeg x0))) 6 = true then (if (σ.2.1 115 (Int32.toNatClampNeg (((-1) : Int32) - (σ.2.1 43 (Int32.toNatClampNeg x0))))) < 0 then (bnd (rec 160 σ [x1]) (fun σ1 r1 => if r1 = 0 then (if bin (((-1) : Int32) - (σ.2.1 43 (Int32.toNatClampNeg x0))) 6 = true then (lt_ (mA σ1 115 (Int32.toNatClampNeg (((-1) : Int32) - (σ.2.1 43 (Int32.toNatClampNeg x0)))) x1) (fun σ2 => some (σ2, 1, 0))) else none) else (some (σ1, 0, 0)))) else (if bin (((-1) : Int32) - (σ.2.1 43 (Int32.toNatClampNeg x0))) 6 = true then (bnd (rec 96 σ [(σ.2.1 115 (Int32.toNatClampNeg (((-1) : Int32) - (σ.2.1 43 (Int32.toNatClampNeg x0))))), x1]) (fun σ3 r3 => if r3 = 0 ∨ r3 = 1 then some (σ3, r3, 0) else none)) else none)) else none) else none)) else none) = some (σf, rf, dd) := h
  refine ax_Mi.of (by decide +kernel) (Nat.le_of_ble_eq_true rfl) ?_
  intro p e s m args below meth c C hnm
  have C : ax_C p s m args meth c b_MM_match "ClauseProverModel" 5 (some .boolean) D kA (va_A (mmW kA z v σ) s.heap.size) := C
  obtain ⟨F, hFe⟩ : ∃ F, F = dd + 1 := ⟨_, rfl⟩
  obtain ⟨Lo, hLoe⟩ : ∃ Lo, Lo = 64 * dd + 64 := ⟨_, rfl⟩
  obtain ⟨σ0, hσ0⟩ : ∃ s0, s0 = σ := ⟨_, rfl⟩
  suffices K : AW p l e { frames := F, cells := 0, slots := 0, locals := Lo } s m args below meth c D kA (va_A (mmW kA z v σ0) s.heap.size) 5 (ax_Qi below args s D kA (mmW kA z v σ0) 0 0 (fun r w1 => r = rf ∧ w1 = mmW kA z v σf)) 0 [(0, .ref z), (1, .int x0), (2, .int x1)] [] (mmW kA z v σ) 0 0 by rw [hFe, hLoe, hσ0] at K; exact ax_ls ([(0, .ref z), (1, .int x0), (2, .int x1)]) [0, 1, 2] rfl K
  have C : ax_C p s m args meth c b_MM_match "ClauseProverModel" 5 (some .boolean) D kA (va_A (mmW kA z v σ0) s.heap.size) := by rw [hσ0]; exact C
  have hF : dd + 1 ≤ F := by omega
  have hLo : 64 * dd + 64 ≤ Lo := by omega
  clear hFe hLoe hσ0
  refine ax_aload_n (pc := 0) C d_MM_match_0 rfl 0 rfl ?_
  refine mg_145 (pc := 1) C d_MM_match_1 ?_
  refine ax_iload_n (pc := 4) C d_MM_match_4 rfl 1 rfl ?_
  obtain ⟨hb, h⟩ := it_g h
  refine ml_43 (pc := 5) C d_MM_match_5 (bin_in hb) ?_
  refine ax_if_ge (pc := 6) C 58 d_MM_match_6 (by decide) (fun hc => ?_) (fun hc => ?_)
  · have h := it_t hc h
    refine ax_aload_n (pc := 58) C d_MM_match_58 rfl 0 rfl ?_
    refine mg_145 (pc := 59) C d_MM_match_59 ?_
    refine ax_iload_n (pc := 62) C d_MM_match_62 rfl 1 rfl ?_
    obtain ⟨hb, h⟩ := it_g h
    refine ml_43 (pc := 63) C d_MM_match_63 (bin_in hb) ?_
    refine ax_aload_n (pc := 64) C d_MM_match_64 rfl 0 rfl ?_
    refine mg_145 (pc := 65) C d_MM_match_65 ?_
    refine ax_iload_n (pc := 68) C d_MM_match_68 rfl 2 rfl ?_
    obtain ⟨hb, h⟩ := it_g h
    refine ml_43 (pc := 69) C d_MM_match_69 (bin_in hb) ?_
    refine ax_icmp_eq (pc := 70) C 75 d_MM_match_70 (by decide) (fun hc => ?_) (fun hc => ?_)
    · have h := it_t hc h
      refine ax_aload_n (pc := 75) C d_MM_match_75 rfl 0 rfl ?_
      refine mg_148 (pc := 76) C d_MM_match_76 ?_
      refine ax_iload_n (pc := 79) C d_MM_match_79 rfl 2 rfl ?_
      obtain ⟨hb, h⟩ := it_g h
      refine ml_44 (pc := 80) C d_MM_match_80 (bin_in hb) ?_
      refine ax_istore_n (pc := 81) C d_MM_match_81 rfl (Nat.le_of_ble_eq_true rfl) ([(3, .int (σ.2.1 44 (Int32.toNatClampNeg x1))), (0, .ref z), (1, .int x0), (2, .int x1)]) rfl ?_
      refine ax_aload_n (pc := 82) C d_MM_match_82 rfl 1 rfl ?_
      refine mg_148 (pc := 83) C d_MM_match_83 ?_
      refine ax_iload_n (pc := 86) C d_MM_match_86 rfl 2 rfl ?_
      obtain ⟨hb, h⟩ := it_g h
      refine ml_44 (pc := 87) C d_MM_match_87 (bin_in hb) ?_
      refine ax_istore (pc := 88) C d_MM_match_88 (Nat.le_of_ble_eq_true rfl) ([(4, .int (σ.2.1 44 (Int32.toNatClampNeg x0))), (3, .int (σ.2.1 44 (Int32.toNatClampNeg x1))), (0, .ref z), (1, .int x0), (2, .int x1)]) rfl ?_
      refine ax_ls ([(0, .ref z), (1, .int x0), (2, .int x1), (3, .int (σ.2.1 44 (Int32.toNatClampNeg x1))), (4, .int (σ.2.1 44 (Int32.toNatClampNeg x0)))]) [2, 3, 4, 1, 0] rfl ?_
      have hm : s_159 l D kA z v σ [x0, x1, (σ.2.1 44 (Int32.toNatClampNeg x1)), (σ.2.1 44 (Int32.toNatClampNeg x0))] (σf, rf, _) := ih 159 _ _ _ h
      exact hm _ _ _ _ rfl p e s m args below meth c F Lo σ0 hF hLo C
    · have h := it_f hc h
      refine ax_iconst (pc := 73) C 0 d_MM_match_73 (by decide +kernel) ?_
      cases h
      exact ax_zret (pc := 74) C d_MM_match_74 rfl ⟨rfl, rfl⟩ (Nat.le_refl _) (Nat.le_refl _)
  · have h := it_f hc h
    refine ax_iconst (pc := 9) C (-1) d_MM_match_9 (by decide +kernel) ?_
    refine ax_aload_n (pc := 10) C d_MM_match_10 rfl 0 rfl ?_
    refine mg_145 (pc := 11) C d_MM_match_11 ?_
    refine ax_iload_n (pc := 14) C d_MM_match_14 rfl 1 rfl ?_
    obtain ⟨hb, h⟩ := it_g h
    refine ml_43 (pc := 15) C d_MM_match_15 (bin_in hb) ?_
    refine ax_isub (pc := 16) C d_MM_match_16 ?_
    refine ax_istore_n (pc := 17) C d_MM_match_17 rfl (Nat.le_of_ble_eq_true rfl) ([(3, .int (((-1) : Int32) - (σ.2.1 43 (Int32.toNatClampNeg x0)))), (0, .ref z), (1, .int x0), (2, .int x1)]) rfl ?_
    refine ax_aload_n (pc := 18) C d_MM_match_18 rfl 1 rfl ?_
    refine mg_362 (pc := 19) C d_MM_match_19 ?_
    refine ax_iload_n (pc := 22) C d_MM_match_22 rfl 0 rfl ?_
    obtain ⟨hb, h⟩ := it_g h
    refine ml_115 (pc := 23) C d_MM_match_23 (bin_in hb) ?_
    refine ax_if_lt (pc := 24) C 39 d_MM_match_24 (by decide) (fun hc => ?_) (fun hc => ?_)
    · have h := it_t hc h
      refine ax_aload_n (pc := 39) C d_MM_match_39 rfl 1 rfl ?_
      refine ax_iload_n (pc := 40) C d_MM_match_40 rfl 3 rfl ?_
      obtain ⟨σ1, r1, d1_1, d2_1, h1, h, hd2, hd1⟩ := it_b h
      have hm : s_160 l D kA z v σ [x1] (σ1, r1, d1_1) := ih 160 _ _ _ h1
      refine mc_Vi (pc := 41) C (As := [.int x1]) (rest := []) (hm _ rfl) ml_MM_617 d_MM_match_41 rfl rfl (by dsimp only; omega) (by dsimp only; omega) (Nat.le_of_ble_eq_true rfl) (Nat.le_of_ble_eq_true rfl) (Nat.le_of_ble_eq_true rfl) ?_
      have hF : d2_1 + 1 ≤ F := by omega
      have hLo : 64 * d2_1 + 64 ≤ Lo := by omega
      refine ax_if_eq (pc := 44) C 49 d_MM_match_44 (by decide) (fun hc => ?_) (fun hc => ?_)
      · have h := it_t hc h
        refine ax_aload_n (pc := 49) C d_MM_match_49 rfl 1 rfl ?_
        refine mg_362 (pc := 50) C d_MM_match_50 ?_
        refine ax_iload_n (pc := 53) C d_MM_match_53 rfl 0 rfl ?_
        refine ax_iload_n (pc := 54) C d_MM_match_54 rfl 3 rfl ?_
        obtain ⟨hb, h⟩ := it_g h
        refine ms_115 (pc := 55) C d_MM_match_55 (bin_in hb) ?_
        have h := it_l h
        generalize mA σ1 115 (Int32.toNatClampNeg (((-1) : Int32) - (σ.2.1 43 (Int32.toNatClampNeg x0)))) x1 = σ2 at h ⊢
        refine ax_iconst (pc := 56) C 1 d_MM_match_56 (by decide +kernel) ?_
        cases h
        exact ax_zret (pc := 57) C d_MM_match_57 rfl ⟨rfl, rfl⟩ (Nat.le_refl _) (Nat.le_refl _)
      · have h := it_f hc h
        refine ax_iconst (pc := 47) C 0 d_MM_match_47 (by decide +kernel) ?_
        cases h
        exact ax_zret (pc := 48) C d_MM_match_48 rfl ⟨rfl, rfl⟩ (Nat.le_refl _) (Nat.le_refl _)
    · have h := it_f hc h
      refine ax_aload_n (pc := 27) C d_MM_match_27 rfl 1 rfl ?_
      refine ax_aload_n (pc := 28) C d_MM_match_28 rfl 1 rfl ?_
      refine mg_362 (pc := 29) C d_MM_match_29 ?_
      refine ax_iload_n (pc := 32) C d_MM_match_32 rfl 0 rfl ?_
      obtain ⟨hb, h⟩ := it_g h
      refine ml_115 (pc := 33) C d_MM_match_33 (bin_in hb) ?_
      refine ax_iload_n (pc := 34) C d_MM_match_34 rfl 3 rfl ?_
      obtain ⟨σ3, r3, d1_3, d2_3, h1, h, hd2, hd1⟩ := it_b h
      have hm : s_96 l D kA z v σ [(σ.2.1 115 (Int32.toNatClampNeg (((-1) : Int32) - (σ.2.1 43 (Int32.toNatClampNeg x0))))), x1] (σ3, r3, d1_3) := ih 96 _ _ _ h1
      refine mc_Vi (pc := 35) C (As := [.int (σ.2.1 115 (Int32.toNatClampNeg (((-1) : Int32) - (σ.2.1 43 (Int32.toNatClampNeg x0))))), .int x1]) (rest := []) (hm _ _ rfl) ml_MM_513 d_MM_match_35 rfl rfl (by dsimp only; omega) (by dsimp only; omega) (Nat.le_of_ble_eq_true rfl) (Nat.le_of_ble_eq_true rfl) (Nat.le_of_ble_eq_true rfl) ?_
      have hF : d2_3 + 1 ≤ F := by omega
      have hLo : 64 * d2_3 + 64 ≤ Lo := by omega
      obtain ⟨hb, h⟩ := it_g h
      cases h
      exact ax_zret (pc := 38) C d_MM_match_38 (nb01 hb) ⟨rfl, rfl⟩ (Nat.le_refl _) (Nat.le_refl _)
set_option maxHeartbeats 4000000 in
set_option maxRecDepth 100000 in
theorem o_159 (l : Launch) (D : va_G) (kA : Nat → ClassId) (z : Nat) (v : Nat → Nat) (rec : mF) (ih : ∀ t σ xs res, rec t σ xs = some res → mSem l D kA z v t σ xs res) (σ : mS) (xs : List Int32) (res : mR) (h : k_159 rec σ xs = some res) : s_159 l D kA z v σ xs res := by
  intro x0 x1 x2 x3 hxs
  subst hxs
  obtain ⟨σf, rf, dd⟩ := res
  have h : (if x3 < 0 then (some (σ, 1, 0)) else (bnd (rec 158 σ [x3, x2]) (fun σ1 r1 => if r1 = 0 then (some (σ1, 0, 0)) else (if bin x2 420000 = true then (if bin x3 420000 = true then (rec 159 σ1 [x0, x1, (σ1.2.1 45 (Int32.toNatClampNeg x2)), (σ1.2.1 45 (Int32.toNatClampNeg x3))]) else none) else none)))) = some (σf, rf, dd) := h
  intro p e s m args below meth c F Lo σ0 hF hLo C
  dsimp only at hF hLo ⊢
  refine ax_iload (pc := 90) C d_MM_match_90 4 rfl ?_
  refine ax_if_lt (pc := 92) C 126 d_MM_match_92 (by decide) (fun hc => ?_) (fun hc => ?_)
  · have h := it_t hc h
    refine ax_iconst (pc := 126) C 1 d_MM_match_126 (by decide +kernel) ?_
    cases h
    exact ax_zret (pc := 127) C d_MM_match_127 rfl ⟨rfl, rfl⟩ (Nat.le_refl _) (Nat.le_refl _)
  · have h := it_f hc h
    refine ax_aload_n (pc := 95) C d_MM_match_95 rfl 0 rfl ?_
    refine ax_iload (pc := 96) C d_MM_match_96 4 rfl ?_
    refine ax_iload_n (pc := 98) C d_MM_match_98 rfl 3 rfl ?_
    obtain ⟨σ1, r1, d1_1, d2_1, h1, h, hd2, hd1⟩ := it_b h
    have hm : s_158 l D kA z v σ [x3, x2] (σ1, r1, d1_1) := ih 158 _ _ _ h1
    refine mc_Vi (pc := 99) C (As := [.int x3, .int x2]) (rest := []) (hm _ _ rfl) ml_MM_685 d_MM_match_99 rfl rfl (by dsimp only; omega) (by dsimp only; omega) (Nat.le_of_ble_eq_true rfl) (Nat.le_of_ble_eq_true rfl) (Nat.le_of_ble_eq_true rfl) ?_
    have hF : d2_1 + 1 ≤ F := by omega
    have hLo : 64 * d2_1 + 64 ≤ Lo := by omega
    refine ax_if_ne (pc := 102) C 107 d_MM_match_102 (by decide) (fun hc => ?_) (fun hc => ?_)
    · have h := it_f hc h
      refine ax_aload_n (pc := 107) C d_MM_match_107 rfl 0 rfl ?_
      refine mg_151 (pc := 108) C d_MM_match_108 ?_
      refine ax_iload_n (pc := 111) C d_MM_match_111 rfl 3 rfl ?_
      obtain ⟨hb, h⟩ := it_g h
      refine ml_45 (pc := 112) C d_MM_match_112 (bin_in hb) ?_
      refine ax_istore_n (pc := 113) C d_MM_match_113 rfl (Nat.le_of_ble_eq_true rfl) ([(3, .int (σ1.2.1 45 (Int32.toNatClampNeg x2))), (0, .ref z), (1, .int x0), (2, .int x1), (4, .int x3)]) rfl ?_
      refine ax_aload_n (pc := 114) C d_MM_match_114 rfl 1 rfl ?_
      refine mg_151 (pc := 115) C d_MM_match_115 ?_
      refine ax_iload (pc := 118) C d_MM_match_118 4 rfl ?_
      obtain ⟨hb, h⟩ := it_g h
      refine ml_45 (pc := 120) C d_MM_match_120 (bin_in hb) ?_
      refine ax_istore (pc := 121) C d_MM_match_121 (Nat.le_of_ble_eq_true rfl) ([(4, .int (σ1.2.1 45 (Int32.toNatClampNeg x3))), (3, .int (σ1.2.1 45 (Int32.toNatClampNeg x2))), (0, .ref z), (1, .int x0), (2, .int x1)]) rfl ?_
      refine ax_goto (pc := 123) C 90 d_MM_match_123 (by decide) ?_
      refine ax_ls ([(0, .ref z), (1, .int x0), (2, .int x1), (3, .int (σ1.2.1 45 (Int32.toNatClampNeg x2))), (4, .int (σ1.2.1 45 (Int32.toNatClampNeg x3)))]) [2, 3, 4, 1, 0] rfl ?_
      have hm : s_159 l D kA z v σ1 [x0, x1, (σ1.2.1 45 (Int32.toNatClampNeg x2)), (σ1.2.1 45 (Int32.toNatClampNeg x3))] (σf, rf, _) := ih 159 _ _ _ h
      exact hm _ _ _ _ rfl p e s m args below meth c F Lo σ0 hF hLo C
    · have h := it_t hc h
      refine ax_iconst (pc := 105) C 0 d_MM_match_105 (by decide +kernel) ?_
      cases h
      exact ax_zret (pc := 106) C d_MM_match_106 rfl ⟨rfl, rfl⟩ (Nat.le_refl _) (Nat.le_refl _)
set_option maxHeartbeats 4000000 in
set_option maxRecDepth 100000 in
theorem o_160 (l : Launch) (D : va_G) (kA : Nat → ClassId) (z : Nat) (v : Nat → Nat) (rec : mF) (ih : ∀ t σ xs res, rec t σ xs = some res → mSem l D kA z v t σ xs res) (σ : mS) (xs : List Int32) (res : mR) (h : k_160 rec σ xs = some res) : s_160 l D kA z v σ xs res := by
  intro x0 hxs
  subst hxs
  obtain ⟨σf, rf, dd⟩ := res
  have h : (if bin x0 420000 = true then (if (σ.2.1 43 (Int32.toNatClampNeg x0)) < 0 then (rec 161 σ [x0]) else (if bin x0 420000 = true then (if bin (σ.2.1 43 (Int32.toNatClampNeg x0)) 900 = true then (if (σ.2.1 49 (Int32.toNatClampNeg (σ.2.1 43 (Int32.toNatClampNeg x0)))) = 0 then (rec 161 σ [x0]) else (rec 162 σ [x0, 1])) else none) else none)) else none) = some (σf, rf, dd) := h
  refine ax_Mi.of (by decide +kernel) (Nat.le_of_ble_eq_true rfl) ?_
  intro p e s m args below meth c C hnm
  have C : ax_C p s m args meth c b_MM_isPredicate "ClauseProverModel" 2 (some .boolean) D kA (va_A (mmW kA z v σ) s.heap.size) := C
  obtain ⟨F, hFe⟩ : ∃ F, F = dd + 1 := ⟨_, rfl⟩
  obtain ⟨Lo, hLoe⟩ : ∃ Lo, Lo = 64 * dd + 64 := ⟨_, rfl⟩
  obtain ⟨σ0, hσ0⟩ : ∃ s0, s0 = σ := ⟨_, rfl⟩
  suffices K : AW p l e { frames := F, cells := 0, slots := 0, locals := Lo } s m args below meth c D kA (va_A (mmW kA z v σ0) s.heap.size) 2 (ax_Qi below args s D kA (mmW kA z v σ0) 0 0 (fun r w1 => r = rf ∧ w1 = mmW kA z v σf)) 0 [(0, .ref z), (1, .int x0)] [] (mmW kA z v σ) 0 0 by rw [hFe, hLoe, hσ0] at K; exact ax_ls ([(0, .ref z), (1, .int x0)]) [0, 1] rfl K
  have C : ax_C p s m args meth c b_MM_isPredicate "ClauseProverModel" 2 (some .boolean) D kA (va_A (mmW kA z v σ0) s.heap.size) := by rw [hσ0]; exact C
  have hF : dd + 1 ≤ F := by omega
  have hLo : 64 * dd + 64 ≤ Lo := by omega
  clear hFe hLoe hσ0
  refine ax_aload_n (pc := 0) C d_MM_isPredicate_0 rfl 0 rfl ?_
  refine mg_145 (pc := 1) C d_MM_isPredicate_1 ?_
  refine ax_iload_n (pc := 4) C d_MM_isPredicate_4 rfl 1 rfl ?_
  obtain ⟨hb, h⟩ := it_g h
  refine ml_43 (pc := 5) C d_MM_isPredicate_5 (bin_in hb) ?_
  refine ax_if_lt (pc := 6) C 27 d_MM_isPredicate_6 (by decide) (fun hc => ?_) (fun hc => ?_)
  · have h := it_t hc h
    refine ax_ls ([(0, .ref z), (1, .int x0)]) [0, 1] rfl ?_
    have hm : s_161 l D kA z v σ [x0] (σf, rf, _) := ih 161 _ _ _ h
    exact hm _ rfl p e s m args below meth c F Lo σ0 hF hLo C
  · have h := it_f hc h
    refine ax_aload_n (pc := 9) C d_MM_isPredicate_9 rfl 0 rfl ?_
    refine mg_163 (pc := 10) C d_MM_isPredicate_10 ?_
    refine ax_aload_n (pc := 13) C d_MM_isPredicate_13 rfl 0 rfl ?_
    refine mg_145 (pc := 14) C d_MM_isPredicate_14 ?_
    refine ax_iload_n (pc := 17) C d_MM_isPredicate_17 rfl 1 rfl ?_
    obtain ⟨hb, h⟩ := it_g h
    refine ml_43 (pc := 18) C d_MM_isPredicate_18 (bin_in hb) ?_
    obtain ⟨hb, h⟩ := it_g h
    refine ml_49 (pc := 19) C d_MM_isPredicate_19 (bin_in hb) ?_
    refine ax_if_eq (pc := 20) C 27 d_MM_isPredicate_20 (by decide) (fun hc => ?_) (fun hc => ?_)
    · have h := it_t hc h
      refine ax_ls ([(0, .ref z), (1, .int x0)]) [0, 1] rfl ?_
      have hm : s_161 l D kA z v σ [x0] (σf, rf, _) := ih 161 _ _ _ h
      exact hm _ rfl p e s m args below meth c F Lo σ0 hF hLo C
    · have h := it_f hc h
      refine ax_iconst (pc := 23) C 1 d_MM_isPredicate_23 (by decide +kernel) ?_
      refine ax_goto (pc := 24) C 28 d_MM_isPredicate_24 (by decide) ?_
      refine ax_ls ([(0, .ref z), (1, .int x0)]) [0, 1] rfl ?_
      have hm : s_162 l D kA z v σ [x0, 1] (σf, rf, _) := ih 162 _ _ _ h
      exact hm _ _ rfl p e s m args below meth c F Lo σ0 hF hLo C
set_option maxHeartbeats 4000000 in
set_option maxRecDepth 100000 in
theorem o_161 (l : Launch) (D : va_G) (kA : Nat → ClassId) (z : Nat) (v : Nat → Nat) (rec : mF) (ih : ∀ t σ xs res, rec t σ xs = some res → mSem l D kA z v t σ xs res) (σ : mS) (xs : List Int32) (res : mR) (h : k_161 rec σ xs = some res) : s_161 l D kA z v σ xs res := by
  intro x0 hxs
  subst hxs
  obtain ⟨σf, rf, dd⟩ := res
  have h : (rec 162 σ [x0, 0]) = some (σf, rf, dd) := h
  intro p e s m args below meth c F Lo σ0 hF hLo C
  dsimp only at hF hLo ⊢
  refine ax_iconst (pc := 27) C 0 d_MM_isPredicate_27 (by decide +kernel) ?_
  refine ax_ls ([(0, .ref z), (1, .int x0)]) [0, 1] rfl ?_
  have hm : s_162 l D kA z v σ [x0, 0] (σf, rf, _) := ih 162 _ _ _ h
  exact hm _ _ rfl p e s m args below meth c F Lo σ0 hF hLo C
set_option maxHeartbeats 4000000 in
set_option maxRecDepth 100000 in
theorem o_162 (l : Launch) (D : va_G) (kA : Nat → ClassId) (z : Nat) (v : Nat → Nat) (rec : mF) (ih : ∀ t σ xs res, rec t σ xs = some res → mSem l D kA z v t σ xs res) (σ : mS) (xs : List Int32) (res : mR) (h : k_162 rec σ xs = some res) : s_162 l D kA z v σ xs res := by
  intro x0 x1 hxs
  subst hxs
  obtain ⟨σf, rf, dd⟩ := res
  have h : (if x1 = 0 ∨ x1 = 1 then some (σ, x1, 0) else none) = some (σf, rf, dd) := h
  intro p e s m args below meth c F Lo σ0 hF hLo C
  dsimp only at hF hLo ⊢
  obtain ⟨hb, h⟩ := it_g h
  cases h
  exact ax_zret (pc := 28) C d_MM_isPredicate_28 (nb01 hb) ⟨rfl, rfl⟩ (Nat.le_refl _) (Nat.le_refl _)
set_option maxHeartbeats 4000000 in
set_option maxRecDepth 100000 in
theorem o_163 (l : Launch) (D : va_G) (kA : Nat → ClassId) (z : Nat) (v : Nat → Nat) (rec : mF) (ih : ∀ t σ xs res, rec t σ xs = some res → mSem l D kA z v t σ xs res) (σ : mS) (xs : List Int32) (res : mR) (h : k_163 rec σ xs = some res) : s_163 l D kA z v σ xs res := by
  intro x0 hxs
  subst hxs
  obtain ⟨σf, rf, dd⟩ := res
  have h : (if bin x0 420000 = true then (if 0 ≤ (σ.2.1 43 (Int32.toNatClampNeg x0)) then (if bin x0 420000 = true then (rec 165 σ [x0, (σ.2.1 44 (Int32.toNatClampNeg x0))]) else none) else (if bin x0 420000 = true then (if bin (((-1) : Int32) - (σ.2.1 43 (Int32.toNatClampNeg x0))) 6 = true then (if (σ.2.1 115 (Int32.toNatClampNeg (((-1) : Int32) - (σ.2.1 43 (Int32.toNatClampNeg x0))))) < 0 then (rec 164 σ [x0, 0]) else (rec 164 σ [x0, 1])) else none) else none)) else none) = some (σf, rf, dd) := h
  refine ax_Mi.of (by decide +kernel) (Nat.le_of_ble_eq_true rfl) ?_
  intro p e s m args below meth c C hnm
  have C : ax_C p s m args meth c b_MM_hasAll "ClauseProverModel" 3 (some .boolean) D kA (va_A (mmW kA z v σ) s.heap.size) := C
  obtain ⟨F, hFe⟩ : ∃ F, F = dd + 1 := ⟨_, rfl⟩
  obtain ⟨Lo, hLoe⟩ : ∃ Lo, Lo = 64 * dd + 64 := ⟨_, rfl⟩
  obtain ⟨σ0, hσ0⟩ : ∃ s0, s0 = σ := ⟨_, rfl⟩
  suffices K : AW p l e { frames := F, cells := 0, slots := 0, locals := Lo } s m args below meth c D kA (va_A (mmW kA z v σ0) s.heap.size) 3 (ax_Qi below args s D kA (mmW kA z v σ0) 0 0 (fun r w1 => r = rf ∧ w1 = mmW kA z v σf)) 0 [(0, .ref z), (1, .int x0)] [] (mmW kA z v σ) 0 0 by rw [hFe, hLoe, hσ0] at K; exact ax_ls ([(0, .ref z), (1, .int x0)]) [0, 1] rfl K
  have C : ax_C p s m args meth c b_MM_hasAll "ClauseProverModel" 3 (some .boolean) D kA (va_A (mmW kA z v σ0) s.heap.size) := by rw [hσ0]; exact C
  have hF : dd + 1 ≤ F := by omega
  have hLo : 64 * dd + 64 ≤ Lo := by omega
  clear hFe hLoe hσ0
  refine ax_aload_n (pc := 0) C d_MM_hasAll_0 rfl 0 rfl ?_
  refine mg_145 (pc := 1) C d_MM_hasAll_1 ?_
  refine ax_iload_n (pc := 4) C d_MM_hasAll_4 rfl 1 rfl ?_
  obtain ⟨hb, h⟩ := it_g h
  refine ml_43 (pc := 5) C d_MM_hasAll_5 (bin_in hb) ?_
  refine ax_if_ge (pc := 6) C 31 d_MM_hasAll_6 (by decide) (fun hc => ?_) (fun hc => ?_)
  · have h := it_t hc h
    refine ax_aload_n (pc := 31) C d_MM_hasAll_31 rfl 0 rfl ?_
    refine mg_148 (pc := 32) C d_MM_hasAll_32 ?_
    refine ax_iload_n (pc := 35) C d_MM_hasAll_35 rfl 1 rfl ?_
    obtain ⟨hb, h⟩ := it_g h
    refine ml_44 (pc := 36) C d_MM_hasAll_36 (bin_in hb) ?_
    refine ax_istore_n (pc := 37) C d_MM_hasAll_37 rfl (Nat.le_of_ble_eq_true rfl) ([(2, .int (σ.2.1 44 (Int32.toNatClampNeg x0))), (0, .ref z), (1, .int x0)]) rfl ?_
    refine ax_ls ([(0, .ref z), (1, .int x0), (2, .int (σ.2.1 44 (Int32.toNatClampNeg x0)))]) [1, 2, 0] rfl ?_
    have hm : s_165 l D kA z v σ [x0, (σ.2.1 44 (Int32.toNatClampNeg x0))] (σf, rf, _) := ih 165 _ _ _ h
    exact hm _ _ rfl p e s m args below meth c F Lo σ0 hF hLo C
  · have h := it_f hc h
    refine ax_aload_n (pc := 9) C d_MM_hasAll_9 rfl 0 rfl ?_
    refine mg_362 (pc := 10) C d_MM_hasAll_10 ?_
    refine ax_iconst (pc := 13) C (-1) d_MM_hasAll_13 (by decide +kernel) ?_
    refine ax_aload_n (pc := 14) C d_MM_hasAll_14 rfl 0 rfl ?_
    refine mg_145 (pc := 15) C d_MM_hasAll_15 ?_
    refine ax_iload_n (pc := 18) C d_MM_hasAll_18 rfl 1 rfl ?_
    obtain ⟨hb, h⟩ := it_g h
    refine ml_43 (pc := 19) C d_MM_hasAll_19 (bin_in hb) ?_
    refine ax_isub (pc := 20) C d_MM_hasAll_20 ?_
    obtain ⟨hb, h⟩ := it_g h
    refine ml_115 (pc := 21) C d_MM_hasAll_21 (bin_in hb) ?_
    refine ax_if_lt (pc := 22) C 29 d_MM_hasAll_22 (by decide) (fun hc => ?_) (fun hc => ?_)
    · have h := it_t hc h
      refine ax_iconst (pc := 29) C 0 d_MM_hasAll_29 (by decide +kernel) ?_
      refine ax_ls ([(0, .ref z), (1, .int x0)]) [0, 1] rfl ?_
      have hm : s_164 l D kA z v σ [x0, 0] (σf, rf, _) := ih 164 _ _ _ h
      exact hm _ _ rfl p e s m args below meth c F Lo σ0 hF hLo C
    · have h := it_f hc h
      refine ax_iconst (pc := 25) C 1 d_MM_hasAll_25 (by decide +kernel) ?_
      refine ax_goto (pc := 26) C 30 d_MM_hasAll_26 (by decide) ?_
      refine ax_ls ([(0, .ref z), (1, .int x0)]) [0, 1] rfl ?_
      have hm : s_164 l D kA z v σ [x0, 1] (σf, rf, _) := ih 164 _ _ _ h
      exact hm _ _ rfl p e s m args below meth c F Lo σ0 hF hLo C
set_option maxHeartbeats 4000000 in
set_option maxRecDepth 100000 in
theorem o_164 (l : Launch) (D : va_G) (kA : Nat → ClassId) (z : Nat) (v : Nat → Nat) (rec : mF) (ih : ∀ t σ xs res, rec t σ xs = some res → mSem l D kA z v t σ xs res) (σ : mS) (xs : List Int32) (res : mR) (h : k_164 rec σ xs = some res) : s_164 l D kA z v σ xs res := by
  intro x0 x1 hxs
  subst hxs
  obtain ⟨σf, rf, dd⟩ := res
  have h : (if x1 = 0 ∨ x1 = 1 then some (σ, x1, 0) else none) = some (σf, rf, dd) := h
  intro p e s m args below meth c F Lo σ0 hF hLo C
  dsimp only at hF hLo ⊢
  obtain ⟨hb, h⟩ := it_g h
  cases h
  exact ax_zret (pc := 30) C d_MM_hasAll_30 (nb01 hb) ⟨rfl, rfl⟩ (Nat.le_refl _) (Nat.le_refl _)
set_option maxHeartbeats 4000000 in
set_option maxRecDepth 100000 in
theorem o_165 (l : Launch) (D : va_G) (kA : Nat → ClassId) (z : Nat) (v : Nat → Nat) (rec : mF) (ih : ∀ t σ xs res, rec t σ xs = some res → mSem l D kA z v t σ xs res) (σ : mS) (xs : List Int32) (res : mR) (h : k_165 rec σ xs = some res) : s_165 l D kA z v σ xs res := by
  intro x0 x1 hxs
  subst hxs
  obtain ⟨σf, rf, dd⟩ := res
  have h : (if x1 < 0 then (some (σ, 1, 0)) else (bnd (rec 163 σ [x1]) (fun σ1 r1 => if r1 = 0 then (some (σ1, 0, 0)) else (if bin x1 420000 = true then (rec 165 σ1 [x0, (σ1.2.1 45 (Int32.toNatClampNeg x1))]) else none)))) = some (σf, rf, dd) := h
  intro p e s m args below meth c F Lo σ0 hF hLo C
  dsimp only at hF hLo ⊢
  refine ax_iload_n (pc := 38) C d_MM_hasAll_38 rfl 2 rfl ?_
  refine ax_if_lt (pc := 39) C 62 d_MM_hasAll_39 (by decide) (fun hc => ?_) (fun hc => ?_)
  · have h := it_t hc h
    refine ax_iconst (pc := 62) C 1 d_MM_hasAll_62 (by decide +kernel) ?_
    cases h
    exact ax_zret (pc := 63) C d_MM_hasAll_63 rfl ⟨rfl, rfl⟩ (Nat.le_refl _) (Nat.le_refl _)
  · have h := it_f hc h
    refine ax_aload_n (pc := 42) C d_MM_hasAll_42 rfl 0 rfl ?_
    refine ax_iload_n (pc := 43) C d_MM_hasAll_43 rfl 2 rfl ?_
    obtain ⟨σ1, r1, d1_1, d2_1, h1, h, hd2, hd1⟩ := it_b h
    have hm : s_163 l D kA z v σ [x1] (σ1, r1, d1_1) := ih 163 _ _ _ h1
    refine mc_Vi (pc := 44) C (As := [.int x1]) (rest := []) (hm _ rfl) ml_MM_688 d_MM_hasAll_44 rfl rfl (by dsimp only; omega) (by dsimp only; omega) (Nat.le_of_ble_eq_true rfl) (Nat.le_of_ble_eq_true rfl) (Nat.le_of_ble_eq_true rfl) ?_
    have hF : d2_1 + 1 ≤ F := by omega
    have hLo : 64 * d2_1 + 64 ≤ Lo := by omega
    refine ax_if_ne (pc := 47) C 52 d_MM_hasAll_47 (by decide) (fun hc => ?_) (fun hc => ?_)
    · have h := it_f hc h
      refine ax_aload_n (pc := 52) C d_MM_hasAll_52 rfl 0 rfl ?_
      refine mg_151 (pc := 53) C d_MM_hasAll_53 ?_
      refine ax_iload_n (pc := 56) C d_MM_hasAll_56 rfl 2 rfl ?_
      obtain ⟨hb, h⟩ := it_g h
      refine ml_45 (pc := 57) C d_MM_hasAll_57 (bin_in hb) ?_
      refine ax_istore_n (pc := 58) C d_MM_hasAll_58 rfl (Nat.le_of_ble_eq_true rfl) ([(2, .int (σ1.2.1 45 (Int32.toNatClampNeg x1))), (0, .ref z), (1, .int x0)]) rfl ?_
      refine ax_goto (pc := 59) C 38 d_MM_hasAll_59 (by decide) ?_
      refine ax_ls ([(0, .ref z), (1, .int x0), (2, .int (σ1.2.1 45 (Int32.toNatClampNeg x1)))]) [1, 2, 0] rfl ?_
      have hm : s_165 l D kA z v σ1 [x0, (σ1.2.1 45 (Int32.toNatClampNeg x1))] (σf, rf, _) := ih 165 _ _ _ h
      exact hm _ _ rfl p e s m args below meth c F Lo σ0 hF hLo C
    · have h := it_t hc h
      refine ax_iconst (pc := 50) C 0 d_MM_hasAll_50 (by decide +kernel) ?_
      cases h
      exact ax_zret (pc := 51) C d_MM_hasAll_51 rfl ⟨rfl, rfl⟩ (Nat.le_refl _) (Nat.le_refl _)
set_option maxHeartbeats 4000000 in
set_option maxRecDepth 100000 in
theorem o_166 (l : Launch) (D : va_G) (kA : Nat → ClassId) (z : Nat) (v : Nat → Nat) (rec : mF) (ih : ∀ t σ xs res, rec t σ xs = some res → mSem l D kA z v t σ xs res) (σ : mS) (xs : List Int32) (res : mR) (h : k_166 rec σ xs = some res) : s_166 l D kA z v σ xs res := by
  intro x0 hxs
  subst hxs
  obtain ⟨σf, rf, dd⟩ := res
  have h : (if bin x0 420000 = true then (if 0 ≤ (σ.2.1 43 (Int32.toNatClampNeg x0)) then (if bin x0 420000 = true then (rec 167 σ [x0, 1, (σ.2.1 44 (Int32.toNatClampNeg x0))]) else none) else (if bin x0 420000 = true then (if bin (((-1) : Int32) - (σ.2.1 43 (Int32.toNatClampNeg x0))) 6 = true then (if bin (σ.2.1 115 (Int32.toNatClampNeg (((-1) : Int32) - (σ.2.1 43 (Int32.toNatClampNeg x0))))) 420000 = true then (some (σ, (σ.2.1 46 (Int32.toNatClampNeg (σ.2.1 115 (Int32.toNatClampNeg (((-1) : Int32) - (σ.2.1 43 (Int32.toNatClampNeg x0))))))), 0)) else none) else none) else none)) else none) = some (σf, rf, dd) := h
  refine ax_Mi.of (by decide +kernel) (Nat.le_of_ble_eq_true rfl) ?_
  intro p e s m args below meth c C hnm
  have C : ax_C p s m args meth c b_MM_weighMatched "ClauseProverModel" 4 (some .int) D kA (va_A (mmW kA z v σ) s.heap.size) := C
  obtain ⟨F, hFe⟩ : ∃ F, F = dd + 1 := ⟨_, rfl⟩
  obtain ⟨Lo, hLoe⟩ : ∃ Lo, Lo = 64 * dd + 64 := ⟨_, rfl⟩
  obtain ⟨σ0, hσ0⟩ : ∃ s0, s0 = σ := ⟨_, rfl⟩
  suffices K : AW p l e { frames := F, cells := 0, slots := 0, locals := Lo } s m args below meth c D kA (va_A (mmW kA z v σ0) s.heap.size) 4 (ax_Qi below args s D kA (mmW kA z v σ0) 0 0 (fun r w1 => r = rf ∧ w1 = mmW kA z v σf)) 0 [(0, .ref z), (1, .int x0)] [] (mmW kA z v σ) 0 0 by rw [hFe, hLoe, hσ0] at K; exact ax_ls ([(0, .ref z), (1, .int x0)]) [0, 1] rfl K
  have C : ax_C p s m args meth c b_MM_weighMatched "ClauseProverModel" 4 (some .int) D kA (va_A (mmW kA z v σ0) s.heap.size) := by rw [hσ0]; exact C
  have hF : dd + 1 ≤ F := by omega
  have hLo : 64 * dd + 64 ≤ Lo := by omega
  clear hFe hLoe hσ0
  refine ax_aload_n (pc := 0) C d_MM_weighMatched_0 rfl 0 rfl ?_
  refine mg_145 (pc := 1) C d_MM_weighMatched_1 ?_
  refine ax_iload_n (pc := 4) C d_MM_weighMatched_4 rfl 1 rfl ?_
  obtain ⟨hb, h⟩ := it_g h
  refine ml_43 (pc := 5) C d_MM_weighMatched_5 (bin_in hb) ?_
  refine ax_if_ge (pc := 6) C 28 d_MM_weighMatched_6 (by decide) (fun hc => ?_) (fun hc => ?_)
  · have h := it_t hc h
    refine ax_iconst (pc := 28) C 1 d_MM_weighMatched_28 (by decide +kernel) ?_
    refine ax_istore_n (pc := 29) C d_MM_weighMatched_29 rfl (Nat.le_of_ble_eq_true rfl) ([(2, .int 1), (0, .ref z), (1, .int x0)]) rfl ?_
    refine ax_aload_n (pc := 30) C d_MM_weighMatched_30 rfl 1 rfl ?_
    refine mg_148 (pc := 31) C d_MM_weighMatched_31 ?_
    refine ax_iload_n (pc := 34) C d_MM_weighMatched_34 rfl 2 rfl ?_
    obtain ⟨hb, h⟩ := it_g h
    refine ml_44 (pc := 35) C d_MM_weighMatched_35 (bin_in hb) ?_
    refine ax_istore_n (pc := 36) C d_MM_weighMatched_36 rfl (Nat.le_of_ble_eq_true rfl) ([(3, .int (σ.2.1 44 (Int32.toNatClampNeg x0))), (2, .int 1), (0, .ref z), (1, .int x0)]) rfl ?_
    refine ax_ls ([(0, .ref z), (1, .int x0), (2, .int 1), (3, .int (σ.2.1 44 (Int32.toNatClampNeg x0)))]) [2, 3, 1, 0] rfl ?_
    have hm : s_167 l D kA z v σ [x0, 1, (σ.2.1 44 (Int32.toNatClampNeg x0))] (σf, rf, _) := ih 167 _ _ _ h
    exact hm _ _ _ rfl p e s m args below meth c F Lo σ0 hF hLo C
  · have h := it_f hc h
    refine ax_aload_n (pc := 9) C d_MM_weighMatched_9 rfl 0 rfl ?_
    refine mg_154 (pc := 10) C d_MM_weighMatched_10 ?_
    refine ax_aload_n (pc := 13) C d_MM_weighMatched_13 rfl 0 rfl ?_
    refine mg_362 (pc := 14) C d_MM_weighMatched_14 ?_
    refine ax_iconst (pc := 17) C (-1) d_MM_weighMatched_17 (by decide +kernel) ?_
    refine ax_aload_n (pc := 18) C d_MM_weighMatched_18 rfl 0 rfl ?_
    refine mg_145 (pc := 19) C d_MM_weighMatched_19 ?_
    refine ax_iload_n (pc := 22) C d_MM_weighMatched_22 rfl 1 rfl ?_
    obtain ⟨hb, h⟩ := it_g h
    refine ml_43 (pc := 23) C d_MM_weighMatched_23 (bin_in hb) ?_
    refine ax_isub (pc := 24) C d_MM_weighMatched_24 ?_
    obtain ⟨hb, h⟩ := it_g h
    refine ml_115 (pc := 25) C d_MM_weighMatched_25 (bin_in hb) ?_
    obtain ⟨hb, h⟩ := it_g h
    refine ml_46 (pc := 26) C d_MM_weighMatched_26 (bin_in hb) ?_
    cases h
    exact ax_iret (pc := 27) C d_MM_weighMatched_27 ⟨rfl, rfl⟩ (Nat.le_refl _) (Nat.le_refl _)
set_option maxHeartbeats 4000000 in
set_option maxRecDepth 100000 in
theorem o_167 (l : Launch) (D : va_G) (kA : Nat → ClassId) (z : Nat) (v : Nat → Nat) (rec : mF) (ih : ∀ t σ xs res, rec t σ xs = some res → mSem l D kA z v t σ xs res) (σ : mS) (xs : List Int32) (res : mR) (h : k_167 rec σ xs = some res) : s_167 l D kA z v σ xs res := by
  intro x0 x1 x2 hxs
  subst hxs
  obtain ⟨σf, rf, dd⟩ := res
  have h : (if x2 < 0 then (some (σ, x1, 0)) else (bnd (rec 166 σ [x2]) (fun σ1 r1 => if bin x2 420000 = true then (rec 167 σ1 [x0, ((x1 : Int32) + r1), (σ1.2.1 45 (Int32.toNatClampNeg x2))]) else none))) = some (σf, rf, dd) := h
  intro p e s m args below meth c F Lo σ0 hF hLo C
  dsimp only at hF hLo ⊢
  refine ax_iload_n (pc := 37) C d_MM_weighMatched_37 rfl 3 rfl ?_
  refine ax_if_lt (pc := 38) C 59 d_MM_weighMatched_38 (by decide) (fun hc => ?_) (fun hc => ?_)
  · have h := it_t hc h
    refine ax_iload_n (pc := 59) C d_MM_weighMatched_59 rfl 2 rfl ?_
    cases h
    exact ax_iret (pc := 60) C d_MM_weighMatched_60 ⟨rfl, rfl⟩ (Nat.le_refl _) (Nat.le_refl _)
  · have h := it_f hc h
    refine ax_iload_n (pc := 41) C d_MM_weighMatched_41 rfl 2 rfl ?_
    refine ax_aload_n (pc := 42) C d_MM_weighMatched_42 rfl 0 rfl ?_
    refine ax_iload_n (pc := 43) C d_MM_weighMatched_43 rfl 3 rfl ?_
    obtain ⟨σ1, r1, d1_1, d2_1, h1, h, hd2, hd1⟩ := it_b h
    have hm : s_166 l D kA z v σ [x2] (σ1, r1, d1_1) := ih 166 _ _ _ h1
    refine mc_Vi (pc := 44) C (As := [.int x2]) (rest := [.int x1]) (hm _ rfl) ml_MM_691 d_MM_weighMatched_44 rfl rfl (by dsimp only; omega) (by dsimp only; omega) (Nat.le_of_ble_eq_true rfl) (Nat.le_of_ble_eq_true rfl) (Nat.le_of_ble_eq_true rfl) ?_
    have hF : d2_1 + 1 ≤ F := by omega
    have hLo : 64 * d2_1 + 64 ≤ Lo := by omega
    refine ax_iadd (pc := 47) C d_MM_weighMatched_47 ?_
    refine ax_istore_n (pc := 48) C d_MM_weighMatched_48 rfl (Nat.le_of_ble_eq_true rfl) ([(2, .int ((x1 : Int32) + r1)), (0, .ref z), (1, .int x0), (3, .int x2)]) rfl ?_
    refine ax_aload_n (pc := 49) C d_MM_weighMatched_49 rfl 1 rfl ?_
    refine mg_151 (pc := 50) C d_MM_weighMatched_50 ?_
    refine ax_iload_n (pc := 53) C d_MM_weighMatched_53 rfl 3 rfl ?_
    obtain ⟨hb, h⟩ := it_g h
    refine ml_45 (pc := 54) C d_MM_weighMatched_54 (bin_in hb) ?_
    refine ax_istore_n (pc := 55) C d_MM_weighMatched_55 rfl (Nat.le_of_ble_eq_true rfl) ([(3, .int (σ1.2.1 45 (Int32.toNatClampNeg x2))), (2, .int ((x1 : Int32) + r1)), (0, .ref z), (1, .int x0)]) rfl ?_
    refine ax_goto (pc := 56) C 37 d_MM_weighMatched_56 (by decide) ?_
    refine ax_ls ([(0, .ref z), (1, .int x0), (2, .int ((x1 : Int32) + r1)), (3, .int (σ1.2.1 45 (Int32.toNatClampNeg x2)))]) [2, 3, 1, 0] rfl ?_
    have hm : s_167 l D kA z v σ1 [x0, ((x1 : Int32) + r1), (σ1.2.1 45 (Int32.toNatClampNeg x2))] (σf, rf, _) := ih 167 _ _ _ h
    exact hm _ _ _ rfl p e s m args below meth c F Lo σ0 hF hLo C
set_option maxHeartbeats 4000000 in
set_option maxRecDepth 100000 in
theorem o_168 (l : Launch) (D : va_G) (kA : Nat → ClassId) (z : Nat) (v : Nat → Nat) (rec : mF) (ih : ∀ t σ xs res, rec t σ xs = some res → mSem l D kA z v t σ xs res) (σ : mS) (xs : List Int32) (res : mR) (h : k_168 rec σ xs = some res) : s_168 l D kA z v σ xs res := by
  intro x0 hxs
  subst hxs
  obtain ⟨σf, rf, dd⟩ := res
  have h : (if bin x0 420000 = true then (if 0 ≤ (σ.2.1 43 (Int32.toNatClampNeg x0)) then (if bin x0 420000 = true then (bnd (rec 71 σ [(σ.2.1 43 (Int32.toNatClampNeg x0))]) (fun σ1 r1 => if bin x0 420000 = true then (rec 169 σ1 [x0, r1, (-1), (σ1.2.1 44 (Int32.toNatClampNeg x0))]) else none)) else none) else (if bin x0 420000 = true then (if bin (((-1) : Int32) - (σ.2.1 43 (Int32.toNatClampNeg x0))) 6 = true then (bnd (rec 85 σ [(σ.2.1 115 (Int32.toNatClampNeg (((-1) : Int32) - (σ.2.1 43 (Int32.toNatClampNeg x0)))))]) (fun σ2 r2 => some (σ2, r2, 0))) else none) else none)) else none) = some (σf, rf, dd) := h
  refine ax_Mi.of (by decide +kernel) (Nat.le_of_ble_eq_true rfl) ?_
  intro p e s m args below meth c C hnm
  have C : ax_C p s m args meth c b_MM_withMatched "ClauseProverModel" 6 (some .int) D kA (va_A (mmW kA z v σ) s.heap.size) := C
  obtain ⟨F, hFe⟩ : ∃ F, F = dd + 1 := ⟨_, rfl⟩
  obtain ⟨Lo, hLoe⟩ : ∃ Lo, Lo = 64 * dd + 64 := ⟨_, rfl⟩
  obtain ⟨σ0, hσ0⟩ : ∃ s0, s0 = σ := ⟨_, rfl⟩
  suffices K : AW p l e { frames := F, cells := 0, slots := 0, locals := Lo } s m args below meth c D kA (va_A (mmW kA z v σ0) s.heap.size) 6 (ax_Qi below args s D kA (mmW kA z v σ0) 0 0 (fun r w1 => r = rf ∧ w1 = mmW kA z v σf)) 0 [(0, .ref z), (1, .int x0)] [] (mmW kA z v σ) 0 0 by rw [hFe, hLoe, hσ0] at K; exact ax_ls ([(0, .ref z), (1, .int x0)]) [0, 1] rfl K
  have C : ax_C p s m args meth c b_MM_withMatched "ClauseProverModel" 6 (some .int) D kA (va_A (mmW kA z v σ0) s.heap.size) := by rw [hσ0]; exact C
  have hF : dd + 1 ≤ F := by omega
  have hLo : 64 * dd + 64 ≤ Lo := by omega
  clear hFe hLoe hσ0
  refine ax_aload_n (pc := 0) C d_MM_withMatched_0 rfl 0 rfl ?_
  refine mg_145 (pc := 1) C d_MM_withMatched_1 ?_
  refine ax_iload_n (pc := 4) C d_MM_withMatched_4 rfl 1 rfl ?_
  obtain ⟨hb, h⟩ := it_g h
  refine ml_43 (pc := 5) C d_MM_withMatched_5 (bin_in hb) ?_
  refine ax_if_ge (pc := 6) C 27 d_MM_withMatched_6 (by decide) (fun hc => ?_) (fun hc => ?_)
  · have h := it_t hc h
    refine ax_aload_n (pc := 27) C d_MM_withMatched_27 rfl 0 rfl ?_
    refine ax_aload_n (pc := 28) C d_MM_withMatched_28 rfl 0 rfl ?_
    refine mg_145 (pc := 29) C d_MM_withMatched_29 ?_
    refine ax_iload_n (pc := 32) C d_MM_withMatched_32 rfl 1 rfl ?_
    obtain ⟨hb, h⟩ := it_g h
    refine ml_43 (pc := 33) C d_MM_withMatched_33 (bin_in hb) ?_
    obtain ⟨σ1, r1, d1_1, d2_1, h1, h, hd2, hd1⟩ := it_b h
    have hm : s_71 l D kA z v σ [(σ.2.1 43 (Int32.toNatClampNeg x0))] (σ1, r1, d1_1) := ih 71 _ _ _ h1
    refine mc_Vi (pc := 34) C (As := [.int (σ.2.1 43 (Int32.toNatClampNeg x0))]) (rest := []) (hm _ rfl) ml_MM_516 d_MM_withMatched_34 rfl rfl (by dsimp only; omega) (by dsimp only; omega) (Nat.le_of_ble_eq_true rfl) (Nat.le_of_ble_eq_true rfl) (Nat.le_of_ble_eq_true rfl) ?_
    have hF : d2_1 + 1 ≤ F := by omega
    have hLo : 64 * d2_1 + 64 ≤ Lo := by omega
    refine ax_istore_n (pc := 37) C d_MM_withMatched_37 rfl (Nat.le_of_ble_eq_true rfl) ([(2, .int r1), (0, .ref z), (1, .int x0)]) rfl ?_
    refine ax_iconst (pc := 38) C (-1) d_MM_withMatched_38 (by decide +kernel) ?_
    refine ax_istore_n (pc := 39) C d_MM_withMatched_39 rfl (Nat.le_of_ble_eq_true rfl) ([(3, .int (-1)), (2, .int r1), (0, .ref z), (1, .int x0)]) rfl ?_
    refine ax_aload_n (pc := 40) C d_MM_withMatched_40 rfl 2 rfl ?_
    refine mg_148 (pc := 41) C d_MM_withMatched_41 ?_
    refine ax_iload_n (pc := 44) C d_MM_withMatched_44 rfl 3 rfl ?_
    obtain ⟨hb, h⟩ := it_g h
    refine ml_44 (pc := 45) C d_MM_withMatched_45 (bin_in hb) ?_
    refine ax_istore (pc := 46) C d_MM_withMatched_46 (Nat.le_of_ble_eq_true rfl) ([(4, .int (σ1.2.1 44 (Int32.toNatClampNeg x0))), (3, .int (-1)), (2, .int r1), (0, .ref z), (1, .int x0)]) rfl ?_
    refine ax_ls ([(0, .ref z), (1, .int x0), (2, .int r1), (3, .int (-1)), (4, .int (σ1.2.1 44 (Int32.toNatClampNeg x0)))]) [3, 4, 2, 1, 0] rfl ?_
    have hm : s_169 l D kA z v σ1 [x0, r1, (-1), (σ1.2.1 44 (Int32.toNatClampNeg x0))] (σf, rf, _) := ih 169 _ _ _ h
    exact hm _ _ _ _ rfl p e s m args below meth c F Lo σ0 hF hLo C
  · have h := it_f hc h
    refine ax_aload_n (pc := 9) C d_MM_withMatched_9 rfl 0 rfl ?_
    refine ax_aload_n (pc := 10) C d_MM_withMatched_10 rfl 0 rfl ?_
    refine mg_362 (pc := 11) C d_MM_withMatched_11 ?_
    refine ax_iconst (pc := 14) C (-1) d_MM_withMatched_14 (by decide +kernel) ?_
    refine ax_aload_n (pc := 15) C d_MM_withMatched_15 rfl 0 rfl ?_
    refine mg_145 (pc := 16) C d_MM_withMatched_16 ?_
    refine ax_iload_n (pc := 19) C d_MM_withMatched_19 rfl 1 rfl ?_
    obtain ⟨hb, h⟩ := it_g h
    refine ml_43 (pc := 20) C d_MM_withMatched_20 (bin_in hb) ?_
    refine ax_isub (pc := 21) C d_MM_withMatched_21 ?_
    obtain ⟨hb, h⟩ := it_g h
    refine ml_115 (pc := 22) C d_MM_withMatched_22 (bin_in hb) ?_
    obtain ⟨σ2, r2, d1_2, d2_2, h1, h, hd2, hd1⟩ := it_b h
    have hm : s_85 l D kA z v σ [(σ.2.1 115 (Int32.toNatClampNeg (((-1) : Int32) - (σ.2.1 43 (Int32.toNatClampNeg x0)))))] (σ2, r2, d1_2) := ih 85 _ _ _ h1
    refine mc_Vi (pc := 23) C (As := [.int (σ.2.1 115 (Int32.toNatClampNeg (((-1) : Int32) - (σ.2.1 43 (Int32.toNatClampNeg x0)))))]) (rest := []) (hm _ rfl) ml_MM_519 d_MM_withMatched_23 rfl rfl (by dsimp only; omega) (by dsimp only; omega) (Nat.le_of_ble_eq_true rfl) (Nat.le_of_ble_eq_true rfl) (Nat.le_of_ble_eq_true rfl) ?_
    have hF : d2_2 + 1 ≤ F := by omega
    have hLo : 64 * d2_2 + 64 ≤ Lo := by omega
    cases h
    exact ax_iret (pc := 26) C d_MM_withMatched_26 ⟨rfl, rfl⟩ (Nat.le_refl _) (Nat.le_refl _)
set_option maxHeartbeats 4000000 in
set_option maxRecDepth 100000 in
theorem o_169 (l : Launch) (D : va_G) (kA : Nat → ClassId) (z : Nat) (v : Nat → Nat) (rec : mF) (ih : ∀ t σ xs res, rec t σ xs = some res → mSem l D kA z v t σ xs res) (σ : mS) (xs : List Int32) (res : mR) (h : k_169 rec σ xs = some res) : s_169 l D kA z v σ xs res := by
  intro x0 x1 x2 x3 hxs
  subst hxs
  obtain ⟨σf, rf, dd⟩ := res
  have h : (if x3 < 0 then (some (σ, x1, 0)) else (bnd (rec 168 σ [x3]) (fun σ1 r1 => if 0 ≤ x2 then (if bin x2 420000 = true then (lt_ (mA σ1 45 (Int32.toNatClampNeg x2) r1) (fun σ2 => rec 170 σ2 [x0, x1, x2, x3, r1])) else none) else (if bin x1 420000 = true then (lt_ (mA σ1 44 (Int32.toNatClampNeg x1) r1) (fun σ3 => rec 170 σ3 [x0, x1, x2, x3, r1])) else none)))) = some (σf, rf, dd) := h
  intro p e s m args below meth c F Lo σ0 hF hLo C
  dsimp only at hF hLo ⊢
  refine ax_iload (pc := 48) C d_MM_withMatched_48 4 rfl ?_
  refine ax_if_lt (pc := 50) C 115 d_MM_withMatched_50 (by decide) (fun hc => ?_) (fun hc => ?_)
  · have h := it_t hc h
    refine ax_iload_n (pc := 115) C d_MM_withMatched_115 rfl 2 rfl ?_
    cases h
    exact ax_iret (pc := 116) C d_MM_withMatched_116 ⟨rfl, rfl⟩ (Nat.le_refl _) (Nat.le_refl _)
  · have h := it_f hc h
    refine ax_aload_n (pc := 53) C d_MM_withMatched_53 rfl 0 rfl ?_
    refine ax_iload (pc := 54) C d_MM_withMatched_54 4 rfl ?_
    obtain ⟨σ1, r1, d1_1, d2_1, h1, h, hd2, hd1⟩ := it_b h
    have hm : s_168 l D kA z v σ [x3] (σ1, r1, d1_1) := ih 168 _ _ _ h1
    refine mc_Vi (pc := 56) C (As := [.int x3]) (rest := []) (hm _ rfl) ml_MM_694 d_MM_withMatched_56 rfl rfl (by dsimp only; omega) (by dsimp only; omega) (Nat.le_of_ble_eq_true rfl) (Nat.le_of_ble_eq_true rfl) (Nat.le_of_ble_eq_true rfl) ?_
    have hF : d2_1 + 1 ≤ F := by omega
    have hLo : 64 * d2_1 + 64 ≤ Lo := by omega
    refine ax_istore (pc := 59) C d_MM_withMatched_59 (Nat.le_of_ble_eq_true rfl) ([(5, .int r1), (0, .ref z), (1, .int x0), (2, .int x1), (3, .int x2), (4, .int x3)]) rfl ?_
    refine ax_iload_n (pc := 61) C d_MM_withMatched_61 rfl 4 rfl ?_
    refine ax_if_ge (pc := 62) C 76 d_MM_withMatched_62 (by decide) (fun hc => ?_) (fun hc => ?_)
    · have h := it_t hc h
      refine ax_aload_n (pc := 76) C d_MM_withMatched_76 rfl 1 rfl ?_
      refine mg_151 (pc := 77) C d_MM_withMatched_77 ?_
      refine ax_iload_n (pc := 80) C d_MM_withMatched_80 rfl 4 rfl ?_
      refine ax_iload (pc := 81) C d_MM_withMatched_81 0 rfl ?_
      obtain ⟨hb, h⟩ := it_g h
      refine ms_45 (pc := 83) C d_MM_withMatched_83 (bin_in hb) ?_
      have h := it_l h
      generalize mA σ1 45 (Int32.toNatClampNeg x2) r1 = σ2 at h ⊢
      refine ax_ls ([(0, .ref z), (1, .int x0), (2, .int x1), (3, .int x2), (4, .int x3), (5, .int r1)]) [1, 2, 3, 4, 5, 0] rfl ?_
      have hm : s_170 l D kA z v σ2 [x0, x1, x2, x3, r1] (σf, rf, _) := ih 170 _ _ _ h
      exact hm _ _ _ _ _ rfl p e s m args below meth c F Lo σ0 hF hLo C
    · have h := it_f hc h
      refine ax_aload_n (pc := 65) C d_MM_withMatched_65 rfl 1 rfl ?_
      refine mg_148 (pc := 66) C d_MM_withMatched_66 ?_
      refine ax_iload_n (pc := 69) C d_MM_withMatched_69 rfl 3 rfl ?_
      refine ax_iload (pc := 70) C d_MM_withMatched_70 0 rfl ?_
      obtain ⟨hb, h⟩ := it_g h
      refine ms_44 (pc := 72) C d_MM_withMatched_72 (bin_in hb) ?_
      have h := it_l h
      generalize mA σ1 44 (Int32.toNatClampNeg x1) r1 = σ3 at h ⊢
      refine ax_goto (pc := 73) C 84 d_MM_withMatched_73 (by decide) ?_
      refine ax_ls ([(0, .ref z), (1, .int x0), (2, .int x1), (3, .int x2), (4, .int x3), (5, .int r1)]) [1, 2, 3, 4, 5, 0] rfl ?_
      have hm : s_170 l D kA z v σ3 [x0, x1, x2, x3, r1] (σf, rf, _) := ih 170 _ _ _ h
      exact hm _ _ _ _ _ rfl p e s m args below meth c F Lo σ0 hF hLo C
set_option maxHeartbeats 4000000 in
set_option maxRecDepth 100000 in
theorem o_170 (l : Launch) (D : va_G) (kA : Nat → ClassId) (z : Nat) (v : Nat → Nat) (rec : mF) (ih : ∀ t σ xs res, rec t σ xs = some res → mSem l D kA z v t σ xs res) (σ : mS) (xs : List Int32) (res : mR) (h : k_170 rec σ xs = some res) : s_170 l D kA z v σ xs res := by
  intro x0 x1 x2 x3 x4 hxs
  subst hxs
  obtain ⟨σf, rf, dd⟩ := res
  have h : (if bin x1 420000 = true then (if bin x4 420000 = true then (if bin x1 420000 = true then (lt_ (mA σ 46 (Int32.toNatClampNeg x1) (((σ.2.1 46 (Int32.toNatClampNeg x1)) : Int32) + (σ.2.1 46 (Int32.toNatClampNeg x4)))) (fun σ1 => if bin x3 420000 = true then (rec 169 σ1 [x0, x1, x4, (σ1.2.1 45 (Int32.toNatClampNeg x3))]) else none)) else none) else none) else none) = some (σf, rf, dd) := h
  intro p e s m args below meth c F Lo σ0 hF hLo C
  dsimp only at hF hLo ⊢
  refine ax_iload (pc := 84) C d_MM_withMatched_84 5 rfl ?_
  refine ax_istore_n (pc := 86) C d_MM_withMatched_86 rfl (Nat.le_of_ble_eq_true rfl) ([(3, .int x4), (0, .ref z), (1, .int x0), (2, .int x1), (4, .int x3), (5, .int x4)]) rfl ?_
  refine ax_aload_n (pc := 87) C d_MM_withMatched_87 rfl 1 rfl ?_
  refine mg_154 (pc := 88) C d_MM_withMatched_88 ?_
  refine ax_iload_n (pc := 91) C d_MM_withMatched_91 rfl 3 rfl ?_
  refine ax_dup2 (pc := 92) C d_MM_withMatched_92 rfl rfl ?_
  obtain ⟨hb, h⟩ := it_g h
  refine ml_46 (pc := 93) C d_MM_withMatched_93 (bin_in hb) ?_
  refine ax_aload_n (pc := 94) C d_MM_withMatched_94 rfl 1 rfl ?_
  refine mg_154 (pc := 95) C d_MM_withMatched_95 ?_
  refine ax_iload (pc := 98) C d_MM_withMatched_98 5 rfl ?_
  obtain ⟨hb, h⟩ := it_g h
  refine ml_46 (pc := 100) C d_MM_withMatched_100 (bin_in hb) ?_
  refine ax_iadd (pc := 101) C d_MM_withMatched_101 ?_
  obtain ⟨hb, h⟩ := it_g h
  refine ms_46 (pc := 102) C d_MM_withMatched_102 (bin_in hb) ?_
  have h := it_l h
  generalize mA σ 46 (Int32.toNatClampNeg x1) (((σ.2.1 46 (Int32.toNatClampNeg x1)) : Int32) + (σ.2.1 46 (Int32.toNatClampNeg x4))) = σ1 at h ⊢
  refine ax_aload_n (pc := 103) C d_MM_withMatched_103 rfl 1 rfl ?_
  refine mg_151 (pc := 104) C d_MM_withMatched_104 ?_
  refine ax_iload (pc := 107) C d_MM_withMatched_107 4 rfl ?_
  obtain ⟨hb, h⟩ := it_g h
  refine ml_45 (pc := 109) C d_MM_withMatched_109 (bin_in hb) ?_
  refine ax_istore (pc := 110) C d_MM_withMatched_110 (Nat.le_of_ble_eq_true rfl) ([(4, .int (σ1.2.1 45 (Int32.toNatClampNeg x3))), (3, .int x4), (0, .ref z), (1, .int x0), (2, .int x1), (5, .int x4)]) rfl ?_
  refine ax_goto (pc := 112) C 48 d_MM_withMatched_112 (by decide) ?_
  refine ax_ls ([(0, .ref z), (1, .int x0), (2, .int x1), (3, .int x4), (4, .int (σ1.2.1 45 (Int32.toNatClampNeg x3)))]) [2, 3, 4, 1, 0] rfl ?_
  have hm : s_169 l D kA z v σ1 [x0, x1, x4, (σ1.2.1 45 (Int32.toNatClampNeg x3))] (σf, rf, _) := ih 169 _ _ _ h
  exact hm _ _ _ _ rfl p e s m args below meth c F Lo σ0 hF hLo C
set_option maxHeartbeats 4000000 in
set_option maxRecDepth 100000 in
theorem o_171 (l : Launch) (D : va_G) (kA : Nat → ClassId) (z : Nat) (v : Nat → Nat) (rec : mF) (ih : ∀ t σ xs res, rec t σ xs = some res → mSem l D kA z v t σ xs res) (σ : mS) (xs : List Int32) (res : mR) (h : k_171 rec σ xs = some res) : s_171 l D kA z v σ xs res := by
  intro x0 hxs
  subst hxs
  obtain ⟨σf, rf, dd⟩ := res
  have h : (if x0 = (σ.1 116) then (bnd (rec 85 σ [(σ.1 117)]) (fun σ2 r2 => some (σ2, r2, 0))) else (if bin x0 420000 = true then (bnd (rec 71 σ [(σ.2.1 43 (Int32.toNatClampNeg x0))]) (fun σ1 r1 => if bin x0 420000 = true then (rec 172 σ1 [x0, r1, (-1), (σ1.2.1 44 (Int32.toNatClampNeg x0))]) else none)) else none)) = some (σf, rf, dd) := h
  refine ax_Mi.of (by decide +kernel) (Nat.le_of_ble_eq_true rfl) ?_
  intro p e s m args below meth c C hnm
  have C : ax_C p s m args meth c b_MM_replacedIn "ClauseProverModel" 6 (some .int) D kA (va_A (mmW kA z v σ) s.heap.size) := C
  obtain ⟨F, hFe⟩ : ∃ F, F = dd + 1 := ⟨_, rfl⟩
  obtain ⟨Lo, hLoe⟩ : ∃ Lo, Lo = 64 * dd + 64 := ⟨_, rfl⟩
  obtain ⟨σ0, hσ0⟩ : ∃ s0, s0 = σ := ⟨_, rfl⟩
  suffices K : AW p l e { frames := F, cells := 0, slots := 0, locals := Lo } s m args below meth c D kA (va_A (mmW kA z v σ0) s.heap.size) 6 (ax_Qi below args s D kA (mmW kA z v σ0) 0 0 (fun r w1 => r = rf ∧ w1 = mmW kA z v σf)) 0 [(0, .ref z), (1, .int x0)] [] (mmW kA z v σ) 0 0 by rw [hFe, hLoe, hσ0] at K; exact ax_ls ([(0, .ref z), (1, .int x0)]) [0, 1] rfl K
  have C : ax_C p s m args meth c b_MM_replacedIn "ClauseProverModel" 6 (some .int) D kA (va_A (mmW kA z v σ0) s.heap.size) := by rw [hσ0]; exact C
  have hF : dd + 1 ≤ F := by omega
  have hLo : 64 * dd + 64 ≤ Lo := by omega
  clear hFe hLoe hσ0
  refine ax_iload_n (pc := 0) C d_MM_replacedIn_0 rfl 1 rfl ?_
  refine ax_aload_n (pc := 1) C d_MM_replacedIn_1 rfl 0 rfl ?_
  refine mg_365 (pc := 2) C d_MM_replacedIn_2 ?_
  refine ax_icmp_ne (pc := 5) C 17 d_MM_replacedIn_5 (by decide) (fun hc => ?_) (fun hc => ?_)
  · have h := it_f hc h
    refine ax_aload_n (pc := 17) C d_MM_replacedIn_17 rfl 0 rfl ?_
    refine ax_aload_n (pc := 18) C d_MM_replacedIn_18 rfl 0 rfl ?_
    refine mg_145 (pc := 19) C d_MM_replacedIn_19 ?_
    refine ax_iload_n (pc := 22) C d_MM_replacedIn_22 rfl 1 rfl ?_
    obtain ⟨hb, h⟩ := it_g h
    refine ml_43 (pc := 23) C d_MM_replacedIn_23 (bin_in hb) ?_
    obtain ⟨σ1, r1, d1_1, d2_1, h1, h, hd2, hd1⟩ := it_b h
    have hm : s_71 l D kA z v σ [(σ.2.1 43 (Int32.toNatClampNeg x0))] (σ1, r1, d1_1) := ih 71 _ _ _ h1
    refine mc_Vi (pc := 24) C (As := [.int (σ.2.1 43 (Int32.toNatClampNeg x0))]) (rest := []) (hm _ rfl) ml_MM_516 d_MM_replacedIn_24 rfl rfl (by dsimp only; omega) (by dsimp only; omega) (Nat.le_of_ble_eq_true rfl) (Nat.le_of_ble_eq_true rfl) (Nat.le_of_ble_eq_true rfl) ?_
    have hF : d2_1 + 1 ≤ F := by omega
    have hLo : 64 * d2_1 + 64 ≤ Lo := by omega
    refine ax_istore_n (pc := 27) C d_MM_replacedIn_27 rfl (Nat.le_of_ble_eq_true rfl) ([(2, .int r1), (0, .ref z), (1, .int x0)]) rfl ?_
    refine ax_iconst (pc := 28) C (-1) d_MM_replacedIn_28 (by decide +kernel) ?_
    refine ax_istore_n (pc := 29) C d_MM_replacedIn_29 rfl (Nat.le_of_ble_eq_true rfl) ([(3, .int (-1)), (2, .int r1), (0, .ref z), (1, .int x0)]) rfl ?_
    refine ax_aload_n (pc := 30) C d_MM_replacedIn_30 rfl 2 rfl ?_
    refine mg_148 (pc := 31) C d_MM_replacedIn_31 ?_
    refine ax_iload_n (pc := 34) C d_MM_replacedIn_34 rfl 3 rfl ?_
    obtain ⟨hb, h⟩ := it_g h
    refine ml_44 (pc := 35) C d_MM_replacedIn_35 (bin_in hb) ?_
    refine ax_istore (pc := 36) C d_MM_replacedIn_36 (Nat.le_of_ble_eq_true rfl) ([(4, .int (σ1.2.1 44 (Int32.toNatClampNeg x0))), (3, .int (-1)), (2, .int r1), (0, .ref z), (1, .int x0)]) rfl ?_
    refine ax_ls ([(0, .ref z), (1, .int x0), (2, .int r1), (3, .int (-1)), (4, .int (σ1.2.1 44 (Int32.toNatClampNeg x0)))]) [3, 4, 2, 1, 0] rfl ?_
    have hm : s_172 l D kA z v σ1 [x0, r1, (-1), (σ1.2.1 44 (Int32.toNatClampNeg x0))] (σf, rf, _) := ih 172 _ _ _ h
    exact hm _ _ _ _ rfl p e s m args below meth c F Lo σ0 hF hLo C
  · have h := it_t hc h
    refine ax_aload_n (pc := 8) C d_MM_replacedIn_8 rfl 0 rfl ?_
    refine ax_aload_n (pc := 9) C d_MM_replacedIn_9 rfl 0 rfl ?_
    refine mg_368 (pc := 10) C d_MM_replacedIn_10 ?_
    obtain ⟨σ2, r2, d1_2, d2_2, h1, h, hd2, hd1⟩ := it_b h
    have hm : s_85 l D kA z v σ [(σ.1 117)] (σ2, r2, d1_2) := ih 85 _ _ _ h1
    refine mc_Vi (pc := 13) C (As := [.int (σ.1 117)]) (rest := []) (hm _ rfl) ml_MM_519 d_MM_replacedIn_13 rfl rfl (by dsimp only; omega) (by dsimp only; omega) (Nat.le_of_ble_eq_true rfl) (Nat.le_of_ble_eq_true rfl) (Nat.le_of_ble_eq_true rfl) ?_
    have hF : d2_2 + 1 ≤ F := by omega
    have hLo : 64 * d2_2 + 64 ≤ Lo := by omega
    cases h
    exact ax_iret (pc := 16) C d_MM_replacedIn_16 ⟨rfl, rfl⟩ (Nat.le_refl _) (Nat.le_refl _)
set_option maxHeartbeats 4000000 in
set_option maxRecDepth 100000 in
theorem o_172 (l : Launch) (D : va_G) (kA : Nat → ClassId) (z : Nat) (v : Nat → Nat) (rec : mF) (ih : ∀ t σ xs res, rec t σ xs = some res → mSem l D kA z v t σ xs res) (σ : mS) (xs : List Int32) (res : mR) (h : k_172 rec σ xs = some res) : s_172 l D kA z v σ xs res := by
  intro x0 x1 x2 x3 hxs
  subst hxs
  obtain ⟨σf, rf, dd⟩ := res
  have h : (if x3 < 0 then (some (σ, x1, 0)) else (bnd (rec 171 σ [x3]) (fun σ1 r1 => if 0 ≤ x2 then (if bin x2 420000 = true then (lt_ (mA σ1 45 (Int32.toNatClampNeg x2) r1) (fun σ2 => rec 173 σ2 [x0, x1, x2, x3, r1])) else none) else (if bin x1 420000 = true then (lt_ (mA σ1 44 (Int32.toNatClampNeg x1) r1) (fun σ3 => rec 173 σ3 [x0, x1, x2, x3, r1])) else none)))) = some (σf, rf, dd) := h
  intro p e s m args below meth c F Lo σ0 hF hLo C
  dsimp only at hF hLo ⊢
  refine ax_iload (pc := 38) C d_MM_replacedIn_38 4 rfl ?_
  refine ax_if_lt (pc := 40) C 105 d_MM_replacedIn_40 (by decide) (fun hc => ?_) (fun hc => ?_)
  · have h := it_t hc h
    refine ax_iload_n (pc := 105) C d_MM_replacedIn_105 rfl 2 rfl ?_
    cases h
    exact ax_iret (pc := 106) C d_MM_replacedIn_106 ⟨rfl, rfl⟩ (Nat.le_refl _) (Nat.le_refl _)
  · have h := it_f hc h
    refine ax_aload_n (pc := 43) C d_MM_replacedIn_43 rfl 0 rfl ?_
    refine ax_iload (pc := 44) C d_MM_replacedIn_44 4 rfl ?_
    obtain ⟨σ1, r1, d1_1, d2_1, h1, h, hd2, hd1⟩ := it_b h
    have hm : s_171 l D kA z v σ [x3] (σ1, r1, d1_1) := ih 171 _ _ _ h1
    refine mc_Vi (pc := 46) C (As := [.int x3]) (rest := []) (hm _ rfl) ml_MM_706 d_MM_replacedIn_46 rfl rfl (by dsimp only; omega) (by dsimp only; omega) (Nat.le_of_ble_eq_true rfl) (Nat.le_of_ble_eq_true rfl) (Nat.le_of_ble_eq_true rfl) ?_
    have hF : d2_1 + 1 ≤ F := by omega
    have hLo : 64 * d2_1 + 64 ≤ Lo := by omega
    refine ax_istore (pc := 49) C d_MM_replacedIn_49 (Nat.le_of_ble_eq_true rfl) ([(5, .int r1), (0, .ref z), (1, .int x0), (2, .int x1), (3, .int x2), (4, .int x3)]) rfl ?_
    refine ax_iload_n (pc := 51) C d_MM_replacedIn_51 rfl 4 rfl ?_
    refine ax_if_ge (pc := 52) C 66 d_MM_replacedIn_52 (by decide) (fun hc => ?_) (fun hc => ?_)
    · have h := it_t hc h
      refine ax_aload_n (pc := 66) C d_MM_replacedIn_66 rfl 1 rfl ?_
      refine mg_151 (pc := 67) C d_MM_replacedIn_67 ?_
      refine ax_iload_n (pc := 70) C d_MM_replacedIn_70 rfl 4 rfl ?_
      refine ax_iload (pc := 71) C d_MM_replacedIn_71 0 rfl ?_
      obtain ⟨hb, h⟩ := it_g h
      refine ms_45 (pc := 73) C d_MM_replacedIn_73 (bin_in hb) ?_
      have h := it_l h
      generalize mA σ1 45 (Int32.toNatClampNeg x2) r1 = σ2 at h ⊢
      refine ax_ls ([(0, .ref z), (1, .int x0), (2, .int x1), (3, .int x2), (4, .int x3), (5, .int r1)]) [1, 2, 3, 4, 5, 0] rfl ?_
      have hm : s_173 l D kA z v σ2 [x0, x1, x2, x3, r1] (σf, rf, _) := ih 173 _ _ _ h
      exact hm _ _ _ _ _ rfl p e s m args below meth c F Lo σ0 hF hLo C
    · have h := it_f hc h
      refine ax_aload_n (pc := 55) C d_MM_replacedIn_55 rfl 1 rfl ?_
      refine mg_148 (pc := 56) C d_MM_replacedIn_56 ?_
      refine ax_iload_n (pc := 59) C d_MM_replacedIn_59 rfl 3 rfl ?_
      refine ax_iload (pc := 60) C d_MM_replacedIn_60 0 rfl ?_
      obtain ⟨hb, h⟩ := it_g h
      refine ms_44 (pc := 62) C d_MM_replacedIn_62 (bin_in hb) ?_
      have h := it_l h
      generalize mA σ1 44 (Int32.toNatClampNeg x1) r1 = σ3 at h ⊢
      refine ax_goto (pc := 63) C 74 d_MM_replacedIn_63 (by decide) ?_
      refine ax_ls ([(0, .ref z), (1, .int x0), (2, .int x1), (3, .int x2), (4, .int x3), (5, .int r1)]) [1, 2, 3, 4, 5, 0] rfl ?_
      have hm : s_173 l D kA z v σ3 [x0, x1, x2, x3, r1] (σf, rf, _) := ih 173 _ _ _ h
      exact hm _ _ _ _ _ rfl p e s m args below meth c F Lo σ0 hF hLo C
set_option maxHeartbeats 4000000 in
set_option maxRecDepth 100000 in
theorem o_173 (l : Launch) (D : va_G) (kA : Nat → ClassId) (z : Nat) (v : Nat → Nat) (rec : mF) (ih : ∀ t σ xs res, rec t σ xs = some res → mSem l D kA z v t σ xs res) (σ : mS) (xs : List Int32) (res : mR) (h : k_173 rec σ xs = some res) : s_173 l D kA z v σ xs res := by
  intro x0 x1 x2 x3 x4 hxs
  subst hxs
  obtain ⟨σf, rf, dd⟩ := res
  have h : (if bin x1 420000 = true then (if bin x4 420000 = true then (if bin x1 420000 = true then (lt_ (mA σ 46 (Int32.toNatClampNeg x1) (((σ.2.1 46 (Int32.toNatClampNeg x1)) : Int32) + (σ.2.1 46 (Int32.toNatClampNeg x4)))) (fun σ1 => if bin x3 420000 = true then (rec 172 σ1 [x0, x1, x4, (σ1.2.1 45 (Int32.toNatClampNeg x3))]) else none)) else none) else none) else none) = some (σf, rf, dd) := h
  intro p e s m args below meth c F Lo σ0 hF hLo C
  dsimp only at hF hLo ⊢
  refine ax_iload (pc := 74) C d_MM_replacedIn_74 5 rfl ?_
  refine ax_istore_n (pc := 76) C d_MM_replacedIn_76 rfl (Nat.le_of_ble_eq_true rfl) ([(3, .int x4), (0, .ref z), (1, .int x0), (2, .int x1), (4, .int x3), (5, .int x4)]) rfl ?_
  refine ax_aload_n (pc := 77) C d_MM_replacedIn_77 rfl 1 rfl ?_
  refine mg_154 (pc := 78) C d_MM_replacedIn_78 ?_
  refine ax_iload_n (pc := 81) C d_MM_replacedIn_81 rfl 3 rfl ?_
  refine ax_dup2 (pc := 82) C d_MM_replacedIn_82 rfl rfl ?_
  obtain ⟨hb, h⟩ := it_g h
  refine ml_46 (pc := 83) C d_MM_replacedIn_83 (bin_in hb) ?_
  refine ax_aload_n (pc := 84) C d_MM_replacedIn_84 rfl 1 rfl ?_
  refine mg_154 (pc := 85) C d_MM_replacedIn_85 ?_
  refine ax_iload (pc := 88) C d_MM_replacedIn_88 5 rfl ?_
  obtain ⟨hb, h⟩ := it_g h
  refine ml_46 (pc := 90) C d_MM_replacedIn_90 (bin_in hb) ?_
  refine ax_iadd (pc := 91) C d_MM_replacedIn_91 ?_
  obtain ⟨hb, h⟩ := it_g h
  refine ms_46 (pc := 92) C d_MM_replacedIn_92 (bin_in hb) ?_
  have h := it_l h
  generalize mA σ 46 (Int32.toNatClampNeg x1) (((σ.2.1 46 (Int32.toNatClampNeg x1)) : Int32) + (σ.2.1 46 (Int32.toNatClampNeg x4))) = σ1 at h ⊢
  refine ax_aload_n (pc := 93) C d_MM_replacedIn_93 rfl 1 rfl ?_
  refine mg_151 (pc := 94) C d_MM_replacedIn_94 ?_
  refine ax_iload (pc := 97) C d_MM_replacedIn_97 4 rfl ?_
  obtain ⟨hb, h⟩ := it_g h
  refine ml_45 (pc := 99) C d_MM_replacedIn_99 (bin_in hb) ?_
  refine ax_istore (pc := 100) C d_MM_replacedIn_100 (Nat.le_of_ble_eq_true rfl) ([(4, .int (σ1.2.1 45 (Int32.toNatClampNeg x3))), (3, .int x4), (0, .ref z), (1, .int x0), (2, .int x1), (5, .int x4)]) rfl ?_
  refine ax_goto (pc := 102) C 38 d_MM_replacedIn_102 (by decide) ?_
  refine ax_ls ([(0, .ref z), (1, .int x0), (2, .int x1), (3, .int x4), (4, .int (σ1.2.1 45 (Int32.toNatClampNeg x3)))]) [2, 3, 4, 1, 0] rfl ?_
  have hm : s_172 l D kA z v σ1 [x0, x1, x4, (σ1.2.1 45 (Int32.toNatClampNeg x3))] (σf, rf, _) := ih 172 _ _ _ h
  exact hm _ _ _ _ rfl p e s m args below meth c F Lo σ0 hF hLo C
set_option maxHeartbeats 4000000 in
set_option maxRecDepth 100000 in
theorem o_174 (l : Launch) (D : va_G) (kA : Nat → ClassId) (z : Nat) (v : Nat → Nat) (rec : mF) (ih : ∀ t σ xs res, rec t σ xs = some res → mSem l D kA z v t σ xs res) (σ : mS) (xs : List Int32) (res : mR) (h : k_174 rec σ xs = some res) : s_174 l D kA z v σ xs res := by
  intro x0 x1 hxs
  subst hxs
  obtain ⟨σf, rf, dd⟩ := res
  have h : (if bin x1 2001 = true then (rec 175 σ [x0, x1, (σ.2.1 73 (Int32.toNatClampNeg x1))]) else none) = some (σf, rf, dd) := h
  refine ax_Mi.of (by decide +kernel) (Nat.le_of_ble_eq_true rfl) ?_
  intro p e s m args below meth c C hnm
  have C : ax_C p s m args meth c b_MM_couldRewrite "ClauseProverModel" 4 (some .boolean) D kA (va_A (mmW kA z v σ) s.heap.size) := C
  obtain ⟨F, hFe⟩ : ∃ F, F = dd + 1 := ⟨_, rfl⟩
  obtain ⟨Lo, hLoe⟩ : ∃ Lo, Lo = 64 * dd + 64 := ⟨_, rfl⟩
  obtain ⟨σ0, hσ0⟩ : ∃ s0, s0 = σ := ⟨_, rfl⟩
  suffices K : AW p l e { frames := F, cells := 0, slots := 0, locals := Lo } s m args below meth c D kA (va_A (mmW kA z v σ0) s.heap.size) 4 (ax_Qi below args s D kA (mmW kA z v σ0) 0 0 (fun r w1 => r = rf ∧ w1 = mmW kA z v σf)) 0 [(0, .ref z), (1, .int x0), (2, .int x1)] [] (mmW kA z v σ) 0 0 by rw [hFe, hLoe, hσ0] at K; exact ax_ls ([(0, .ref z), (1, .int x0), (2, .int x1)]) [0, 1, 2] rfl K
  have C : ax_C p s m args meth c b_MM_couldRewrite "ClauseProverModel" 4 (some .boolean) D kA (va_A (mmW kA z v σ0) s.heap.size) := by rw [hσ0]; exact C
  have hF : dd + 1 ≤ F := by omega
  have hLo : 64 * dd + 64 ≤ Lo := by omega
  clear hFe hLoe hσ0
  refine ax_aload_n (pc := 0) C d_MM_couldRewrite_0 rfl 0 rfl ?_
  refine mg_235 (pc := 1) C d_MM_couldRewrite_1 ?_
  refine ax_iload_n (pc := 4) C d_MM_couldRewrite_4 rfl 2 rfl ?_
  obtain ⟨hb, h⟩ := it_g h
  refine ml_73 (pc := 5) C d_MM_couldRewrite_5 (bin_in hb) ?_
  refine ax_istore_n (pc := 6) C d_MM_couldRewrite_6 rfl (Nat.le_of_ble_eq_true rfl) ([(3, .int (σ.2.1 73 (Int32.toNatClampNeg x1))), (0, .ref z), (1, .int x0), (2, .int x1)]) rfl ?_
  refine ax_ls ([(0, .ref z), (1, .int x0), (2, .int x1), (3, .int (σ.2.1 73 (Int32.toNatClampNeg x1)))]) [1, 2, 3, 0] rfl ?_
  have hm : s_175 l D kA z v σ [x0, x1, (σ.2.1 73 (Int32.toNatClampNeg x1))] (σf, rf, _) := ih 175 _ _ _ h
  exact hm _ _ _ rfl p e s m args below meth c F Lo σ0 hF hLo C
set_option maxHeartbeats 4000000 in
set_option maxRecDepth 100000 in
theorem o_175 (l : Launch) (D : va_G) (kA : Nat → ClassId) (z : Nat) (v : Nat → Nat) (rec : mF) (ih : ∀ t σ xs res, rec t σ xs = some res → mSem l D kA z v t σ xs res) (σ : mS) (xs : List Int32) (res : mR) (h : k_175 rec σ xs = some res) : s_175 l D kA z v σ xs res := by
  intro x0 x1 x2 hxs
  subst hxs
  obtain ⟨σf, rf, dd⟩ := res
  have h : (if bin x1 2001 = true then (if bin x1 2001 = true then (if (((σ.2.1 73 (Int32.toNatClampNeg x1)) : Int32) + (σ.2.1 74 (Int32.toNatClampNeg x1))) ≤ x2 then (some (σ, 0, 0)) else (if bin x2 16100 = true then (bnd (rec 177 σ [x0, (σ.2.1 66 (Int32.toNatClampNeg x2))]) (fun σ1 r1 => if r1 = 0 then (if bin x2 16100 = true then (bnd (rec 177 σ1 [x0, (σ1.2.1 67 (Int32.toNatClampNeg x2))]) (fun σ2 r2 => if r2 = 0 then (rec 175 σ2 [x0, x1, (x2 + 1)]) else (rec 176 σ2 [x0, x1, x2]))) else none) else (rec 176 σ1 [x0, x1, x2]))) else none)) else none) else none) = some (σf, rf, dd) := h
  intro p e s m args below meth c F Lo σ0 hF hLo C
  dsimp only at hF hLo ⊢
  refine ax_iload_n (pc := 7) C d_MM_couldRewrite_7 rfl 3 rfl ?_
  refine ax_aload_n (pc := 8) C d_MM_couldRewrite_8 rfl 0 rfl ?_
  refine mg_235 (pc := 9) C d_MM_couldRewrite_9 ?_
  refine ax_iload_n (pc := 12) C d_MM_couldRewrite_12 rfl 2 rfl ?_
  obtain ⟨hb, h⟩ := it_g h
  refine ml_73 (pc := 13) C d_MM_couldRewrite_13 (bin_in hb) ?_
  refine ax_aload_n (pc := 14) C d_MM_couldRewrite_14 rfl 0 rfl ?_
  refine mg_238 (pc := 15) C d_MM_couldRewrite_15 ?_
  refine ax_iload_n (pc := 18) C d_MM_couldRewrite_18 rfl 2 rfl ?_
  obtain ⟨hb, h⟩ := it_g h
  refine ml_74 (pc := 19) C d_MM_couldRewrite_19 (bin_in hb) ?_
  refine ax_iadd (pc := 20) C d_MM_couldRewrite_20 ?_
  refine ax_icmp_ge (pc := 21) C 60 d_MM_couldRewrite_21 (by decide) (fun hc => ?_) (fun hc => ?_)
  · have h := it_t hc h
    refine ax_iconst (pc := 60) C 0 d_MM_couldRewrite_60 (by decide +kernel) ?_
    cases h
    exact ax_zret (pc := 61) C d_MM_couldRewrite_61 rfl ⟨rfl, rfl⟩ (Nat.le_refl _) (Nat.le_refl _)
  · have h := it_f hc h
    refine ax_aload_n (pc := 24) C d_MM_couldRewrite_24 rfl 0 rfl ?_
    refine ax_iload_n (pc := 25) C d_MM_couldRewrite_25 rfl 1 rfl ?_
    refine ax_aload_n (pc := 26) C d_MM_couldRewrite_26 rfl 0 rfl ?_
    refine mg_214 (pc := 27) C d_MM_couldRewrite_27 ?_
    refine ax_iload_n (pc := 30) C d_MM_couldRewrite_30 rfl 3 rfl ?_
    obtain ⟨hb, h⟩ := it_g h
    refine ml_66 (pc := 31) C d_MM_couldRewrite_31 (bin_in hb) ?_
    obtain ⟨σ1, r1, d1_1, d2_1, h1, h, hd2, hd1⟩ := it_b h
    have hm : s_177 l D kA z v σ [x0, (σ.2.1 66 (Int32.toNatClampNeg x2))] (σ1, r1, d1_1) := ih 177 _ _ _ h1
    refine mc_Vi (pc := 32) C (As := [.int x0, .int (σ.2.1 66 (Int32.toNatClampNeg x2))]) (rest := []) (hm _ _ rfl) ml_MM_709 d_MM_couldRewrite_32 rfl rfl (by dsimp only; omega) (by dsimp only; omega) (Nat.le_of_ble_eq_true rfl) (Nat.le_of_ble_eq_true rfl) (Nat.le_of_ble_eq_true rfl) ?_
    have hF : d2_1 + 1 ≤ F := by omega
    have hLo : 64 * d2_1 + 64 ≤ Lo := by omega
    refine ax_if_ne (pc := 35) C 52 d_MM_couldRewrite_35 (by decide) (fun hc => ?_) (fun hc => ?_)
    · have h := it_f hc h
      refine ax_ls ([(0, .ref z), (1, .int x0), (2, .int x1), (3, .int x2)]) [0, 1, 2, 3] rfl ?_
      have hm : s_176 l D kA z v σ1 [x0, x1, x2] (σf, rf, _) := ih 176 _ _ _ h
      exact hm _ _ _ rfl p e s m args below meth c F Lo σ0 hF hLo C
    · have h := it_t hc h
      refine ax_aload_n (pc := 38) C d_MM_couldRewrite_38 rfl 0 rfl ?_
      refine ax_iload_n (pc := 39) C d_MM_couldRewrite_39 rfl 1 rfl ?_
      refine ax_aload_n (pc := 40) C d_MM_couldRewrite_40 rfl 0 rfl ?_
      refine mg_217 (pc := 41) C d_MM_couldRewrite_41 ?_
      refine ax_iload_n (pc := 44) C d_MM_couldRewrite_44 rfl 3 rfl ?_
      obtain ⟨hb, h⟩ := it_g h
      refine ml_67 (pc := 45) C d_MM_couldRewrite_45 (bin_in hb) ?_
      obtain ⟨σ2, r2, d1_2, d2_2, h1, h, hd2, hd1⟩ := it_b h
      have hm : s_177 l D kA z v σ1 [x0, (σ1.2.1 67 (Int32.toNatClampNeg x2))] (σ2, r2, d1_2) := ih 177 _ _ _ h1
      refine mc_Vi (pc := 46) C (As := [.int x0, .int (σ1.2.1 67 (Int32.toNatClampNeg x2))]) (rest := []) (hm _ _ rfl) ml_MM_709 d_MM_couldRewrite_46 rfl rfl (by dsimp only; omega) (by dsimp only; omega) (Nat.le_of_ble_eq_true rfl) (Nat.le_of_ble_eq_true rfl) (Nat.le_of_ble_eq_true rfl) ?_
      have hF : d2_2 + 1 ≤ F := by omega
      have hLo : 64 * d2_2 + 64 ≤ Lo := by omega
      refine ax_if_eq (pc := 49) C 54 d_MM_couldRewrite_49 (by decide) (fun hc => ?_) (fun hc => ?_)
      · have h := it_t hc h
        refine ax_iinc (pc := 54) C (x2 + 1) d_MM_couldRewrite_54 3 rfl rfl (Nat.le_of_ble_eq_true rfl) ([(3, .int (x2 + 1)), (0, .ref z), (1, .int x0), (2, .int x1)]) rfl ?_
        refine ax_goto (pc := 57) C 7 d_MM_couldRewrite_57 (by decide) ?_
        refine ax_ls ([(0, .ref z), (1, .int x0), (2, .int x1), (3, .int (x2 + 1))]) [1, 2, 3, 0] rfl ?_
        have hm : s_175 l D kA z v σ2 [x0, x1, (x2 + 1)] (σf, rf, _) := ih 175 _ _ _ h
        exact hm _ _ _ rfl p e s m args below meth c F Lo σ0 hF hLo C
      · have h := it_f hc h
        refine ax_ls ([(0, .ref z), (1, .int x0), (2, .int x1), (3, .int x2)]) [0, 1, 2, 3] rfl ?_
        have hm : s_176 l D kA z v σ2 [x0, x1, x2] (σf, rf, _) := ih 176 _ _ _ h
        exact hm _ _ _ rfl p e s m args below meth c F Lo σ0 hF hLo C
set_option maxHeartbeats 4000000 in
set_option maxRecDepth 100000 in
theorem o_176 (l : Launch) (D : va_G) (kA : Nat → ClassId) (z : Nat) (v : Nat → Nat) (rec : mF) (ih : ∀ t σ xs res, rec t σ xs = some res → mSem l D kA z v t σ xs res) (σ : mS) (xs : List Int32) (res : mR) (h : k_176 rec σ xs = some res) : s_176 l D kA z v σ xs res := by
  intro x0 x1 x2 hxs
  subst hxs
  obtain ⟨σf, rf, dd⟩ := res
  have h : (some (σ, 1, 0)) = some (σf, rf, dd) := h
  intro p e s m args below meth c F Lo σ0 hF hLo C
  dsimp only at hF hLo ⊢
  refine ax_iconst (pc := 52) C 1 d_MM_couldRewrite_52 (by decide +kernel) ?_
  cases h
  exact ax_zret (pc := 53) C d_MM_couldRewrite_53 rfl ⟨rfl, rfl⟩ (Nat.le_refl _) (Nat.le_refl _)
set_option maxHeartbeats 4000000 in
set_option maxRecDepth 100000 in
theorem o_177 (l : Launch) (D : va_G) (kA : Nat → ClassId) (z : Nat) (v : Nat → Nat) (rec : mF) (ih : ∀ t σ xs res, rec t σ xs = some res → mSem l D kA z v t σ xs res) (σ : mS) (xs : List Int32) (res : mR) (h : k_177 rec σ xs = some res) : s_177 l D kA z v σ xs res := by
  intro x0 x1 hxs
  subst hxs
  obtain ⟨σf, rf, dd⟩ := res
  have h : (rec 178 σ [x0, x1, 0]) = some (σf, rf, dd) := h
  refine ax_Mi.of (by decide +kernel) (Nat.le_of_ble_eq_true rfl) ?_
  intro p e s m args below meth c C hnm
  have C : ax_C p s m args meth c b_MM_could "ClauseProverModel" 4 (some .boolean) D kA (va_A (mmW kA z v σ) s.heap.size) := C
  obtain ⟨F, hFe⟩ : ∃ F, F = dd + 1 := ⟨_, rfl⟩
  obtain ⟨Lo, hLoe⟩ : ∃ Lo, Lo = 64 * dd + 64 := ⟨_, rfl⟩
  obtain ⟨σ0, hσ0⟩ : ∃ s0, s0 = σ := ⟨_, rfl⟩
  suffices K : AW p l e { frames := F, cells := 0, slots := 0, locals := Lo } s m args below meth c D kA (va_A (mmW kA z v σ0) s.heap.size) 4 (ax_Qi below args s D kA (mmW kA z v σ0) 0 0 (fun r w1 => r = rf ∧ w1 = mmW kA z v σf)) 0 [(0, .ref z), (1, .int x0), (2, .int x1)] [] (mmW kA z v σ) 0 0 by rw [hFe, hLoe, hσ0] at K; exact ax_ls ([(0, .ref z), (1, .int x0), (2, .int x1)]) [0, 1, 2] rfl K
  have C : ax_C p s m args meth c b_MM_could "ClauseProverModel" 4 (some .boolean) D kA (va_A (mmW kA z v σ0) s.heap.size) := by rw [hσ0]; exact C
  have hF : dd + 1 ≤ F := by omega
  have hLo : 64 * dd + 64 ≤ Lo := by omega
  clear hFe hLoe hσ0
  refine ax_iconst (pc := 0) C 0 d_MM_could_0 (by decide +kernel) ?_
  refine ax_istore_n (pc := 1) C d_MM_could_1 rfl (Nat.le_of_ble_eq_true rfl) ([(3, .int 0), (0, .ref z), (1, .int x0), (2, .int x1)]) rfl ?_
  refine ax_ls ([(0, .ref z), (1, .int x0), (2, .int x1), (3, .int 0)]) [1, 2, 3, 0] rfl ?_
  have hm : s_178 l D kA z v σ [x0, x1, 0] (σf, rf, _) := ih 178 _ _ _ h
  exact hm _ _ _ rfl p e s m args below meth c F Lo σ0 hF hLo C
set_option maxHeartbeats 4000000 in
set_option maxRecDepth 100000 in
theorem o_178 (l : Launch) (D : va_G) (kA : Nat → ClassId) (z : Nat) (v : Nat → Nat) (rec : mF) (ih : ∀ t σ xs res, rec t σ xs = some res → mSem l D kA z v t σ xs res) (σ : mS) (xs : List Int32) (res : mR) (h : k_178 rec σ xs = some res) : s_178 l D kA z v σ xs res := by
  intro x0 x1 x2 hxs
  subst hxs
  obtain ⟨σf, rf, dd⟩ := res
  have h : (if 2 ≤ x2 then (if bin x1 420000 = true then (rec 179 σ [x0, x1, (σ.2.1 44 (Int32.toNatClampNeg x1))]) else none) else (lt_ (mI σ 47 205000) (fun σ1 => bnd (rec 152 σ1 [x0, x2, x1]) (fun σ2 r2 => if r2 < 0 then (rec 178 σ2 [x0, x1, (x2 + 1)]) else (some (σ2, 1, 0)))))) = some (σf, rf, dd) := h
  intro p e s m args below meth c F Lo σ0 hF hLo C
  dsimp only at hF hLo ⊢
  refine ax_iload_n (pc := 2) C d_MM_could_2 rfl 3 rfl ?_
  refine ax_iconst (pc := 3) C 2 d_MM_could_3 (by decide +kernel) ?_
  refine ax_icmp_ge (pc := 4) C 32 d_MM_could_4 (by decide) (fun hc => ?_) (fun hc => ?_)
  · have h := it_t hc h
    refine ax_aload_n (pc := 32) C d_MM_could_32 rfl 0 rfl ?_
    refine mg_148 (pc := 33) C d_MM_could_33 ?_
    refine ax_iload_n (pc := 36) C d_MM_could_36 rfl 2 rfl ?_
    obtain ⟨hb, h⟩ := it_g h
    refine ml_44 (pc := 37) C d_MM_could_37 (bin_in hb) ?_
    refine ax_istore_n (pc := 38) C d_MM_could_38 rfl (Nat.le_of_ble_eq_true rfl) ([(3, .int (σ.2.1 44 (Int32.toNatClampNeg x1))), (0, .ref z), (1, .int x0), (2, .int x1)]) rfl ?_
    refine ax_ls ([(0, .ref z), (1, .int x0), (2, .int x1), (3, .int (σ.2.1 44 (Int32.toNatClampNeg x1)))]) [1, 2, 3, 0] rfl ?_
    have hm : s_179 l D kA z v σ [x0, x1, (σ.2.1 44 (Int32.toNatClampNeg x1))] (σf, rf, _) := ih 179 _ _ _ h
    exact hm _ _ _ rfl p e s m args below meth c F Lo σ0 hF hLo C
  · have h := it_f hc h
    refine ax_aload_n (pc := 7) C d_MM_could_7 rfl 0 rfl ?_
    refine ax_ldcw (pc := 8) C tb_constant_2106 d_MM_could_8 ?_
    refine mp_157 (pc := 11) C d_MM_could_11 ?_
    have h := it_l h
    generalize mI σ 47 205000 = σ1 at h ⊢
    refine ax_aload_n (pc := 14) C d_MM_could_14 rfl 0 rfl ?_
    refine ax_iload_n (pc := 15) C d_MM_could_15 rfl 1 rfl ?_
    refine ax_iload_n (pc := 16) C d_MM_could_16 rfl 3 rfl ?_
    refine ax_iload_n (pc := 17) C d_MM_could_17 rfl 2 rfl ?_
    obtain ⟨σ2, r2, d1_2, d2_2, h1, h, hd2, hd1⟩ := it_b h
    have hm : s_152 l D kA z v σ1 [x0, x2, x1] (σ2, r2, d1_2) := ih 152 _ _ _ h1
    refine mc_Vi (pc := 18) C (As := [.int x0, .int x2, .int x1]) (rest := []) (hm _ _ _ rfl) ml_MM_700 d_MM_could_18 rfl rfl (by dsimp only; omega) (by dsimp only; omega) (Nat.le_of_ble_eq_true rfl) (Nat.le_of_ble_eq_true rfl) (Nat.le_of_ble_eq_true rfl) ?_
    have hF : d2_2 + 1 ≤ F := by omega
    have hLo : 64 * d2_2 + 64 ≤ Lo := by omega
    refine ax_if_lt (pc := 21) C 26 d_MM_could_21 (by decide) (fun hc => ?_) (fun hc => ?_)
    · have h := it_t hc h
      refine ax_iinc (pc := 26) C (x2 + 1) d_MM_could_26 3 rfl rfl (Nat.le_of_ble_eq_true rfl) ([(3, .int (x2 + 1)), (0, .ref z), (1, .int x0), (2, .int x1)]) rfl ?_
      refine ax_goto (pc := 29) C 2 d_MM_could_29 (by decide) ?_
      refine ax_ls ([(0, .ref z), (1, .int x0), (2, .int x1), (3, .int (x2 + 1))]) [1, 2, 3, 0] rfl ?_
      have hm : s_178 l D kA z v σ2 [x0, x1, (x2 + 1)] (σf, rf, _) := ih 178 _ _ _ h
      exact hm _ _ _ rfl p e s m args below meth c F Lo σ0 hF hLo C
    · have h := it_f hc h
      refine ax_iconst (pc := 24) C 1 d_MM_could_24 (by decide +kernel) ?_
      cases h
      exact ax_zret (pc := 25) C d_MM_could_25 rfl ⟨rfl, rfl⟩ (Nat.le_refl _) (Nat.le_refl _)
set_option maxHeartbeats 4000000 in
set_option maxRecDepth 100000 in
theorem o_179 (l : Launch) (D : va_G) (kA : Nat → ClassId) (z : Nat) (v : Nat → Nat) (rec : mF) (ih : ∀ t σ xs res, rec t σ xs = some res → mSem l D kA z v t σ xs res) (σ : mS) (xs : List Int32) (res : mR) (h : k_179 rec σ xs = some res) : s_179 l D kA z v σ xs res := by
  intro x0 x1 x2 hxs
  subst hxs
  obtain ⟨σf, rf, dd⟩ := res
  have h : (if x2 < 0 then (some (σ, 0, 0)) else (bnd (rec 177 σ [x0, x2]) (fun σ1 r1 => if r1 = 0 then (if bin x2 420000 = true then (rec 179 σ1 [x0, x1, (σ1.2.1 45 (Int32.toNatClampNeg x2))]) else none) else (some (σ1, 1, 0))))) = some (σf, rf, dd) := h
  intro p e s m args below meth c F Lo σ0 hF hLo C
  dsimp only at hF hLo ⊢
  refine ax_iload_n (pc := 39) C d_MM_could_39 rfl 3 rfl ?_
  refine ax_if_lt (pc := 40) C 64 d_MM_could_40 (by decide) (fun hc => ?_) (fun hc => ?_)
  · have h := it_t hc h
    refine ax_iconst (pc := 64) C 0 d_MM_could_64 (by decide +kernel) ?_
    cases h
    exact ax_zret (pc := 65) C d_MM_could_65 rfl ⟨rfl, rfl⟩ (Nat.le_refl _) (Nat.le_refl _)
  · have h := it_f hc h
    refine ax_aload_n (pc := 43) C d_MM_could_43 rfl 0 rfl ?_
    refine ax_iload_n (pc := 44) C d_MM_could_44 rfl 1 rfl ?_
    refine ax_iload_n (pc := 45) C d_MM_could_45 rfl 3 rfl ?_
    obtain ⟨σ1, r1, d1_1, d2_1, h1, h, hd2, hd1⟩ := it_b h
    have hm : s_177 l D kA z v σ [x0, x2] (σ1, r1, d1_1) := ih 177 _ _ _ h1
    refine mc_Vi (pc := 46) C (As := [.int x0, .int x2]) (rest := []) (hm _ _ rfl) ml_MM_709 d_MM_could_46 rfl rfl (by dsimp only; omega) (by dsimp only; omega) (Nat.le_of_ble_eq_true rfl) (Nat.le_of_ble_eq_true rfl) (Nat.le_of_ble_eq_true rfl) ?_
    have hF : d2_1 + 1 ≤ F := by omega
    have hLo : 64 * d2_1 + 64 ≤ Lo := by omega
    refine ax_if_eq (pc := 49) C 54 d_MM_could_49 (by decide) (fun hc => ?_) (fun hc => ?_)
    · have h := it_t hc h
      refine ax_aload_n (pc := 54) C d_MM_could_54 rfl 0 rfl ?_
      refine mg_151 (pc := 55) C d_MM_could_55 ?_
      refine ax_iload_n (pc := 58) C d_MM_could_58 rfl 3 rfl ?_
      obtain ⟨hb, h⟩ := it_g h
      refine ml_45 (pc := 59) C d_MM_could_59 (bin_in hb) ?_
      refine ax_istore_n (pc := 60) C d_MM_could_60 rfl (Nat.le_of_ble_eq_true rfl) ([(3, .int (σ1.2.1 45 (Int32.toNatClampNeg x2))), (0, .ref z), (1, .int x0), (2, .int x1)]) rfl ?_
      refine ax_goto (pc := 61) C 39 d_MM_could_61 (by decide) ?_
      refine ax_ls ([(0, .ref z), (1, .int x0), (2, .int x1), (3, .int (σ1.2.1 45 (Int32.toNatClampNeg x2)))]) [1, 2, 3, 0] rfl ?_
      have hm : s_179 l D kA z v σ1 [x0, x1, (σ1.2.1 45 (Int32.toNatClampNeg x2))] (σf, rf, _) := ih 179 _ _ _ h
      exact hm _ _ _ rfl p e s m args below meth c F Lo σ0 hF hLo C
    · have h := it_f hc h
      refine ax_iconst (pc := 52) C 1 d_MM_could_52 (by decide +kernel) ?_
      cases h
      exact ax_zret (pc := 53) C d_MM_could_53 rfl ⟨rfl, rfl⟩ (Nat.le_refl _) (Nat.le_refl _)
set_option maxHeartbeats 4000000 in
set_option maxRecDepth 100000 in
theorem o_180 (l : Launch) (D : va_G) (kA : Nat → ClassId) (z : Nat) (v : Nat → Nat) (rec : mF) (ih : ∀ t σ xs res, rec t σ xs = some res → mSem l D kA z v t σ xs res) (σ : mS) (xs : List Int32) (res : mR) (h : k_180 rec σ xs = some res) : s_180 l D kA z v σ xs res := by
  intro x0 x1 hxs
  subst hxs
  obtain ⟨σf, rf, dd⟩ := res
  have h : (if bin x0 16100 = true then (if (σ.2.1 69 (Int32.toNatClampNeg x0)) = ((2 : Int32) - x1) then (rec 181 σ [x0, x1, 0]) else (rec 181 σ [x0, x1, 1])) else none) = some (σf, rf, dd) := h
  refine ax_Mi.of (by decide +kernel) (Nat.le_of_ble_eq_true rfl) ?_
  intro p e s m args below meth c C hnm
  have C : ax_C p s m args meth c b_MM_usable "ClauseProverModel" 3 (some .boolean) D kA (va_A (mmW kA z v σ) s.heap.size) := C
  obtain ⟨F, hFe⟩ : ∃ F, F = dd + 1 := ⟨_, rfl⟩
  obtain ⟨Lo, hLoe⟩ : ∃ Lo, Lo = 64 * dd + 64 := ⟨_, rfl⟩
  obtain ⟨σ0, hσ0⟩ : ∃ s0, s0 = σ := ⟨_, rfl⟩
  suffices K : AW p l e { frames := F, cells := 0, slots := 0, locals := Lo } s m args below meth c D kA (va_A (mmW kA z v σ0) s.heap.size) 3 (ax_Qi below args s D kA (mmW kA z v σ0) 0 0 (fun r w1 => r = rf ∧ w1 = mmW kA z v σf)) 0 [(0, .ref z), (1, .int x0), (2, .int x1)] [] (mmW kA z v σ) 0 0 by rw [hFe, hLoe, hσ0] at K; exact ax_ls ([(0, .ref z), (1, .int x0), (2, .int x1)]) [0, 1, 2] rfl K
  have C : ax_C p s m args meth c b_MM_usable "ClauseProverModel" 3 (some .boolean) D kA (va_A (mmW kA z v σ0) s.heap.size) := by rw [hσ0]; exact C
  have hF : dd + 1 ≤ F := by omega
  have hLo : 64 * dd + 64 ≤ Lo := by omega
  clear hFe hLoe hσ0
  refine ax_aload_n (pc := 0) C d_MM_usable_0 rfl 0 rfl ?_
  refine mg_223 (pc := 1) C d_MM_usable_1 ?_
  refine ax_iload_n (pc := 4) C d_MM_usable_4 rfl 1 rfl ?_
  obtain ⟨hb, h⟩ := it_g h
  refine ml_69 (pc := 5) C d_MM_usable_5 (bin_in hb) ?_
  refine ax_iconst (pc := 6) C 2 d_MM_usable_6 (by decide +kernel) ?_
  refine ax_iload_n (pc := 7) C d_MM_usable_7 rfl 2 rfl ?_
  refine ax_isub (pc := 8) C d_MM_usable_8 ?_
  refine ax_icmp_eq (pc := 9) C 16 d_MM_usable_9 (by decide) (fun hc => ?_) (fun hc => ?_)
  · have h := it_t hc h
    refine ax_iconst (pc := 16) C 0 d_MM_usable_16 (by decide +kernel) ?_
    refine ax_ls ([(0, .ref z), (1, .int x0), (2, .int x1)]) [0, 1, 2] rfl ?_
    have hm : s_181 l D kA z v σ [x0, x1, 0] (σf, rf, _) := ih 181 _ _ _ h
    exact hm _ _ _ rfl p e s m args below meth c F Lo σ0 hF hLo C
  · have h := it_f hc h
    refine ax_iconst (pc := 12) C 1 d_MM_usable_12 (by decide +kernel) ?_
    refine ax_goto (pc := 13) C 17 d_MM_usable_13 (by decide) ?_
    refine ax_ls ([(0, .ref z), (1, .int x0), (2, .int x1)]) [0, 1, 2] rfl ?_
    have hm : s_181 l D kA z v σ [x0, x1, 1] (σf, rf, _) := ih 181 _ _ _ h
    exact hm _ _ _ rfl p e s m args below meth c F Lo σ0 hF hLo C
set_option maxHeartbeats 4000000 in
set_option maxRecDepth 100000 in
theorem o_181 (l : Launch) (D : va_G) (kA : Nat → ClassId) (z : Nat) (v : Nat → Nat) (rec : mF) (ih : ∀ t σ xs res, rec t σ xs = some res → mSem l D kA z v t σ xs res) (σ : mS) (xs : List Int32) (res : mR) (h : k_181 rec σ xs = some res) : s_181 l D kA z v σ xs res := by
  intro x0 x1 x2 hxs
  subst hxs
  obtain ⟨σf, rf, dd⟩ := res
  have h : (if x2 = 0 ∨ x2 = 1 then some (σ, x2, 0) else none) = some (σf, rf, dd) := h
  intro p e s m args below meth c F Lo σ0 hF hLo C
  dsimp only at hF hLo ⊢
  obtain ⟨hb, h⟩ := it_g h
  cases h
  exact ax_zret (pc := 17) C d_MM_usable_17 (nb01 hb) ⟨rfl, rfl⟩ (Nat.le_refl _) (Nat.le_refl _)
set_option maxHeartbeats 4000000 in
set_option maxRecDepth 100000 in
theorem o_182 (l : Launch) (D : va_G) (kA : Nat → ClassId) (z : Nat) (v : Nat → Nat) (rec : mF) (ih : ∀ t σ xs res, rec t σ xs = some res → mSem l D kA z v t σ xs res) (σ : mS) (xs : List Int32) (res : mR) (h : k_182 rec σ xs = some res) : s_182 l D kA z v σ xs res := by
  intro hxs
  subst hxs
  obtain ⟨σf, rf, dd⟩ := res
  have h : (lt_ (mFl σ 106 (-1) 12) (fun σ1 => some (σ1, 0, 0))) = some (σf, rf, dd) := h
  refine ax_Mv.of (by decide +kernel) (Nat.le_of_ble_eq_true rfl) ?_
  intro p e s m args below meth c C hnm
  have C : ax_C p s m args meth c b_MM_unbind "ClauseProverModel" 1 none D kA (va_A (mmW kA z v σ) s.heap.size) := C
  obtain ⟨F, hFe⟩ : ∃ F, F = dd + 1 := ⟨_, rfl⟩
  obtain ⟨Lo, hLoe⟩ : ∃ Lo, Lo = 64 * dd + 64 := ⟨_, rfl⟩
  obtain ⟨σ0, hσ0⟩ : ∃ s0, s0 = σ := ⟨_, rfl⟩
  suffices K : AW p l e { frames := F, cells := 0, slots := 0, locals := Lo } s m args below meth c D kA (va_A (mmW kA z v σ0) s.heap.size) 1 (ax_Qv below args s D kA (mmW kA z v σ0) 0 0 (fun w1 => w1 = mmW kA z v σf)) 0 [(0, .ref z)] [] (mmW kA z v σ) 0 0 by rw [hFe, hLoe, hσ0] at K; exact ax_ls ([(0, .ref z)]) [0] rfl K
  have C : ax_C p s m args meth c b_MM_unbind "ClauseProverModel" 1 none D kA (va_A (mmW kA z v σ0) s.heap.size) := by rw [hσ0]; exact C
  have hF : dd + 1 ≤ F := by omega
  have hLo : 64 * dd + 64 ≤ Lo := by omega
  clear hFe hLoe hσ0
  refine ax_aload_n (pc := 0) C d_MM_unbind_0 rfl 0 rfl ?_
  refine mg_335 (pc := 1) C d_MM_unbind_1 ?_
  refine ax_iconst (pc := 4) C (-1) d_MM_unbind_4 (by decide +kernel) ?_
  refine mf_106 (pc := 5) C (rest := []) ml_MM_588 d_MM_unbind_5 rfl hF hLo (Nat.le_of_ble_eq_true rfl) ?_
  have h := it_l h
  generalize mFl σ 106 (-1) 12 = σ1 at h ⊢
  cases h
  exact ax_vret (pc := 8) C d_MM_unbind_8 rfl (Nat.le_refl _) (Nat.le_refl _)
set_option maxHeartbeats 4000000 in
set_option maxRecDepth 100000 in
theorem o_183 (l : Launch) (D : va_G) (kA : Nat → ClassId) (z : Nat) (v : Nat → Nat) (rec : mF) (ih : ∀ t σ xs res, rec t σ xs = some res → mSem l D kA z v t σ xs res) (σ : mS) (xs : List Int32) (res : mR) (h : k_183 rec σ xs = some res) : s_183 l D kA z v σ xs res := by
  intro x0 x1 x2 x3 hxs
  subst hxs
  obtain ⟨σf, rf, dd⟩ := res
  have h : (rec 184 σ [x0, x1, x2, x3, x0, x1]) = some (σf, rf, dd) := h
  refine ax_Mi.of (by decide +kernel) (Nat.le_of_ble_eq_true rfl) ?_
  intro p e s m args below meth c C hnm
  have C : ax_C p s m args meth c b_MM_unify "ClauseProverModel" 11 (some .boolean) D kA (va_A (mmW kA z v σ) s.heap.size) := C
  obtain ⟨F, hFe⟩ : ∃ F, F = dd + 1 := ⟨_, rfl⟩
  obtain ⟨Lo, hLoe⟩ : ∃ Lo, Lo = 64 * dd + 64 := ⟨_, rfl⟩
  obtain ⟨σ0, hσ0⟩ : ∃ s0, s0 = σ := ⟨_, rfl⟩
  suffices K : AW p l e { frames := F, cells := 0, slots := 0, locals := Lo } s m args below meth c D kA (va_A (mmW kA z v σ0) s.heap.size) 11 (ax_Qi below args s D kA (mmW kA z v σ0) 0 0 (fun r w1 => r = rf ∧ w1 = mmW kA z v σf)) 0 [(0, .ref z), (1, .int x0), (2, .int x1), (3, .int x2), (4, .int x3)] [] (mmW kA z v σ) 0 0 by rw [hFe, hLoe, hσ0] at K; exact ax_ls ([(0, .ref z), (1, .int x0), (2, .int x1), (3, .int x2), (4, .int x3)]) [0, 1, 2, 3, 4] rfl K
  have C : ax_C p s m args meth c b_MM_unify "ClauseProverModel" 11 (some .boolean) D kA (va_A (mmW kA z v σ0) s.heap.size) := by rw [hσ0]; exact C
  have hF : dd + 1 ≤ F := by omega
  have hLo : 64 * dd + 64 ≤ Lo := by omega
  clear hFe hLoe hσ0
  refine ax_iload_n (pc := 0) C d_MM_unify_0 rfl 1 rfl ?_
  refine ax_istore (pc := 1) C d_MM_unify_1 (Nat.le_of_ble_eq_true rfl) ([(5, .int x0), (0, .ref z), (1, .int x0), (2, .int x1), (3, .int x2), (4, .int x3)]) rfl ?_
  refine ax_iload_n (pc := 3) C d_MM_unify_3 rfl 3 rfl ?_
  refine ax_istore (pc := 4) C d_MM_unify_4 (Nat.le_of_ble_eq_true rfl) ([(6, .int x1), (5, .int x0), (0, .ref z), (1, .int x0), (2, .int x1), (3, .int x2), (4, .int x3)]) rfl ?_
  refine ax_ls ([(0, .ref z), (1, .int x0), (2, .int x1), (3, .int x2), (4, .int x3), (5, .int x0), (6, .int x1)]) [2, 3, 4, 5, 6, 1, 0] rfl ?_
  have hm : s_184 l D kA z v σ [x0, x1, x2, x3, x0, x1] (σf, rf, _) := ih 184 _ _ _ h
  exact hm _ _ _ _ _ _ rfl p e s m args below meth c F Lo σ0 hF hLo C
set_option maxHeartbeats 4000000 in
set_option maxRecDepth 100000 in
theorem o_184 (l : Launch) (D : va_G) (kA : Nat → ClassId) (z : Nat) (v : Nat → Nat) (rec : mF) (ih : ∀ t σ xs res, rec t σ xs = some res → mSem l D kA z v t σ xs res) (σ : mS) (xs : List Int32) (res : mR) (h : k_184 rec σ xs = some res) : s_184 l D kA z v σ xs res := by
  intro x0 x1 x2 x3 x4 x5 hxs
  subst hxs
  obtain ⟨σf, rf, dd⟩ := res
  have h : (if bin x4 420000 = true then (if 0 ≤ (σ.2.1 43 (Int32.toNatClampNeg x4)) then (rec 185 σ [x0, x1, x2, x3, x4, x5]) else (if bin x4 420000 = true then (if bin (((((-1) : Int32) - (σ.2.1 43 (Int32.toNatClampNeg x4))) : Int32) + x5) 12 = true then (if (σ.2.1 106 (Int32.toNatClampNeg (((((-1) : Int32) - (σ.2.1 43 (Int32.toNatClampNeg x4))) : Int32) + x5))) < 0 then (rec 185 σ [x0, x1, x2, x3, x4, x5]) else (if bin x4 420000 = true then (if bin (((((-1) : Int32) - (σ.2.1 43 (Int32.toNatClampNeg x4))) : Int32) + x5) 12 = true then (if bin (((((-1) : Int32) - (σ.2.1 43 (Int32.toNatClampNeg x4))) : Int32) + x5) 12 = true then (rec 184 σ [x0, x1, x2, x3, (σ.2.1 106 (Int32.toNatClampNeg (((((-1) : Int32) - (σ.2.1 43 (Int32.toNatClampNeg x4))) : Int32) + x5))), (σ.2.1 107 (Int32.toNatClampNeg (((((-1) : Int32) - (σ.2.1 43 (Int32.toNatClampNeg x4))) : Int32) + x5)))]) else none) else none) else none)) else none) else none)) else none) = some (σf, rf, dd) := h
  intro p e s m args below meth c F Lo σ0 hF hLo C
  dsimp only at hF hLo ⊢
  refine ax_aload_n (pc := 6) C d_MM_unify_6 rfl 0 rfl ?_
  refine mg_145 (pc := 7) C d_MM_unify_7 ?_
  refine ax_iload (pc := 10) C d_MM_unify_10 5 rfl ?_
  obtain ⟨hb, h⟩ := it_g h
  refine ml_43 (pc := 12) C d_MM_unify_12 (bin_in hb) ?_
  refine ax_if_ge (pc := 13) C 71 d_MM_unify_13 (by decide) (fun hc => ?_) (fun hc => ?_)
  · have h := it_t hc h
    refine ax_ls ([(0, .ref z), (1, .int x0), (2, .int x1), (3, .int x2), (4, .int x3), (5, .int x4), (6, .int x5)]) [0, 1, 2, 3, 4, 5, 6] rfl ?_
    have hm : s_185 l D kA z v σ [x0, x1, x2, x3, x4, x5] (σf, rf, _) := ih 185 _ _ _ h
    exact hm _ _ _ _ _ _ rfl p e s m args below meth c F Lo σ0 hF hLo C
  · have h := it_f hc h
    refine ax_aload_n (pc := 16) C d_MM_unify_16 rfl 0 rfl ?_
    refine mg_335 (pc := 17) C d_MM_unify_17 ?_
    refine ax_iconst (pc := 20) C (-1) d_MM_unify_20 (by decide +kernel) ?_
    refine ax_aload_n (pc := 21) C d_MM_unify_21 rfl 0 rfl ?_
    refine mg_145 (pc := 22) C d_MM_unify_22 ?_
    refine ax_iload (pc := 25) C d_MM_unify_25 5 rfl ?_
    obtain ⟨hb, h⟩ := it_g h
    refine ml_43 (pc := 27) C d_MM_unify_27 (bin_in hb) ?_
    refine ax_isub (pc := 28) C d_MM_unify_28 ?_
    refine ax_iload (pc := 29) C d_MM_unify_29 6 rfl ?_
    refine ax_iadd (pc := 31) C d_MM_unify_31 ?_
    obtain ⟨hb, h⟩ := it_g h
    refine ml_106 (pc := 32) C d_MM_unify_32 (bin_in hb) ?_
    refine ax_if_lt (pc := 33) C 71 d_MM_unify_33 (by decide) (fun hc => ?_) (fun hc => ?_)
    · have h := it_t hc h
      refine ax_ls ([(0, .ref z), (1, .int x0), (2, .int x1), (3, .int x2), (4, .int x3), (5, .int x4), (6, .int x5)]) [0, 1, 2, 3, 4, 5, 6] rfl ?_
      have hm : s_185 l D kA z v σ [x0, x1, x2, x3, x4, x5] (σf, rf, _) := ih 185 _ _ _ h
      exact hm _ _ _ _ _ _ rfl p e s m args below meth c F Lo σ0 hF hLo C
    · have h := it_f hc h
      refine ax_iconst (pc := 36) C (-1) d_MM_unify_36 (by decide +kernel) ?_
      refine ax_aload_n (pc := 37) C d_MM_unify_37 rfl 0 rfl ?_
      refine mg_145 (pc := 38) C d_MM_unify_38 ?_
      refine ax_iload (pc := 41) C d_MM_unify_41 5 rfl ?_
      obtain ⟨hb, h⟩ := it_g h
      refine ml_43 (pc := 43) C d_MM_unify_43 (bin_in hb) ?_
      refine ax_isub (pc := 44) C d_MM_unify_44 ?_
      refine ax_iload (pc := 45) C d_MM_unify_45 6 rfl ?_
      refine ax_iadd (pc := 47) C d_MM_unify_47 ?_
      refine ax_istore (pc := 48) C d_MM_unify_48 (Nat.le_of_ble_eq_true rfl) ([(7, .int (((((-1) : Int32) - (σ.2.1 43 (Int32.toNatClampNeg x4))) : Int32) + x5)), (0, .ref z), (1, .int x0), (2, .int x1), (3, .int x2), (4, .int x3), (5, .int x4), (6, .int x5)]) rfl ?_
      refine ax_aload_n (pc := 50) C d_MM_unify_50 rfl 1 rfl ?_
      refine mg_335 (pc := 51) C d_MM_unify_51 ?_
      refine ax_iload (pc := 54) C d_MM_unify_54 0 rfl ?_
      obtain ⟨hb, h⟩ := it_g h
      refine ml_106 (pc := 56) C d_MM_unify_56 (bin_in hb) ?_
      refine ax_istore (pc := 57) C d_MM_unify_57 (Nat.le_of_ble_eq_true rfl) ([(5, .int (σ.2.1 106 (Int32.toNatClampNeg (((((-1) : Int32) - (σ.2.1 43 (Int32.toNatClampNeg x4))) : Int32) + x5)))), (7, .int (((((-1) : Int32) - (σ.2.1 43 (Int32.toNatClampNeg x4))) : Int32) + x5)), (0, .ref z), (1, .int x0), (2, .int x1), (3, .int x2), (4, .int x3), (6, .int x5)]) rfl ?_
      refine ax_aload_n (pc := 59) C d_MM_unify_59 rfl 2 rfl ?_
      refine mg_338 (pc := 60) C d_MM_unify_60 ?_
      refine ax_iload (pc := 63) C d_MM_unify_63 1 rfl ?_
      obtain ⟨hb, h⟩ := it_g h
      refine ml_107 (pc := 65) C d_MM_unify_65 (bin_in hb) ?_
      refine ax_istore (pc := 66) C d_MM_unify_66 (Nat.le_of_ble_eq_true rfl) ([(6, .int (σ.2.1 107 (Int32.toNatClampNeg (((((-1) : Int32) - (σ.2.1 43 (Int32.toNatClampNeg x4))) : Int32) + x5)))), (5, .int (σ.2.1 106 (Int32.toNatClampNeg (((((-1) : Int32) - (σ.2.1 43 (Int32.toNatClampNeg x4))) : Int32) + x5)))), (7, .int (((((-1) : Int32) - (σ.2.1 43 (Int32.toNatClampNeg x4))) : Int32) + x5)), (0, .ref z), (1, .int x0), (2, .int x1), (3, .int x2), (4, .int x3)]) rfl ?_
      refine ax_goto (pc := 68) C 6 d_MM_unify_68 (by decide) ?_
      refine ax_ls ([(0, .ref z), (1, .int x0), (2, .int x1), (3, .int x2), (4, .int x3), (5, .int (σ.2.1 106 (Int32.toNatClampNeg (((((-1) : Int32) - (σ.2.1 43 (Int32.toNatClampNeg x4))) : Int32) + x5)))), (6, .int (σ.2.1 107 (Int32.toNatClampNeg (((((-1) : Int32) - (σ.2.1 43 (Int32.toNatClampNeg x4))) : Int32) + x5))))]) [3, 4, 5, 6, 7, 1, 0] rfl ?_
      have hm : s_184 l D kA z v σ [x0, x1, x2, x3, (σ.2.1 106 (Int32.toNatClampNeg (((((-1) : Int32) - (σ.2.1 43 (Int32.toNatClampNeg x4))) : Int32) + x5))), (σ.2.1 107 (Int32.toNatClampNeg (((((-1) : Int32) - (σ.2.1 43 (Int32.toNatClampNeg x4))) : Int32) + x5)))] (σf, rf, _) := ih 184 _ _ _ h
      exact hm _ _ _ _ _ _ rfl p e s m args below meth c F Lo σ0 hF hLo C
set_option maxHeartbeats 4000000 in
set_option maxRecDepth 100000 in
theorem o_185 (l : Launch) (D : va_G) (kA : Nat → ClassId) (z : Nat) (v : Nat → Nat) (rec : mF) (ih : ∀ t σ xs res, rec t σ xs = some res → mSem l D kA z v t σ xs res) (σ : mS) (xs : List Int32) (res : mR) (h : k_185 rec σ xs = some res) : s_185 l D kA z v σ xs res := by
  intro x0 x1 x2 x3 x4 x5 hxs
  subst hxs
  obtain ⟨σf, rf, dd⟩ := res
  have h : (rec 186 σ [x0, x1, x2, x3, x4, x5, x2, x3]) = some (σf, rf, dd) := h
  intro p e s m args below meth c F Lo σ0 hF hLo C
  dsimp only at hF hLo ⊢
  refine ax_iload_n (pc := 71) C d_MM_unify_71 rfl 3 rfl ?_
  refine ax_istore (pc := 72) C d_MM_unify_72 (Nat.le_of_ble_eq_true rfl) ([(7, .int x2), (0, .ref z), (1, .int x0), (2, .int x1), (3, .int x2), (4, .int x3), (5, .int x4), (6, .int x5)]) rfl ?_
  refine ax_iload (pc := 74) C d_MM_unify_74 5 rfl ?_
  refine ax_istore (pc := 76) C d_MM_unify_76 (Nat.le_of_ble_eq_true rfl) ([(8, .int x3), (7, .int x2), (0, .ref z), (1, .int x0), (2, .int x1), (3, .int x2), (4, .int x3), (5, .int x4), (6, .int x5)]) rfl ?_
  refine ax_ls ([(0, .ref z), (1, .int x0), (2, .int x1), (3, .int x2), (4, .int x3), (5, .int x4), (6, .int x5), (7, .int x2), (8, .int x3)]) [2, 3, 4, 5, 6, 7, 8, 1, 0] rfl ?_
  have hm : s_186 l D kA z v σ [x0, x1, x2, x3, x4, x5, x2, x3] (σf, rf, _) := ih 186 _ _ _ h
  exact hm _ _ _ _ _ _ _ _ rfl p e s m args below meth c F Lo σ0 hF hLo C
set_option maxHeartbeats 4000000 in
set_option maxRecDepth 100000 in
theorem o_186 (l : Launch) (D : va_G) (kA : Nat → ClassId) (z : Nat) (v : Nat → Nat) (rec : mF) (ih : ∀ t σ xs res, rec t σ xs = some res → mSem l D kA z v t σ xs res) (σ : mS) (xs : List Int32) (res : mR) (h : k_186 rec σ xs = some res) : s_186 l D kA z v σ xs res := by
  intro x0 x1 x2 x3 x4 x5 x6 x7 hxs
  subst hxs
  obtain ⟨σf, rf, dd⟩ := res
  have h : (if bin x6 420000 = true then (if 0 ≤ (σ.2.1 43 (Int32.toNatClampNeg x6)) then (rec 187 σ [x0, x1, x2, x3, x4, x5, x6, x7]) else (if bin x6 420000 = true then (if bin (((((-1) : Int32) - (σ.2.1 43 (Int32.toNatClampNeg x6))) : Int32) + x7) 12 = true then (if (σ.2.1 106 (Int32.toNatClampNeg (((((-1) : Int32) - (σ.2.1 43 (Int32.toNatClampNeg x6))) : Int32) + x7))) < 0 then (rec 187 σ [x0, x1, x2, x3, x4, x5, x6, x7]) else (if bin x6 420000 = true then (if bin (((((-1) : Int32) - (σ.2.1 43 (Int32.toNatClampNeg x6))) : Int32) + x7) 12 = true then (if bin (((((-1) : Int32) - (σ.2.1 43 (Int32.toNatClampNeg x6))) : Int32) + x7) 12 = true then (rec 186 σ [x0, x1, x2, x3, x4, x5, (σ.2.1 106 (Int32.toNatClampNeg (((((-1) : Int32) - (σ.2.1 43 (Int32.toNatClampNeg x6))) : Int32) + x7))), (σ.2.1 107 (Int32.toNatClampNeg (((((-1) : Int32) - (σ.2.1 43 (Int32.toNatClampNeg x6))) : Int32) + x7)))]) else none) else none) else none)) else none) else none)) else none) = some (σf, rf, dd) := h
  intro p e s m args below meth c F Lo σ0 hF hLo C
  dsimp only at hF hLo ⊢
  refine ax_aload_n (pc := 78) C d_MM_unify_78 rfl 0 rfl ?_
  refine mg_145 (pc := 79) C d_MM_unify_79 ?_
  refine ax_iload (pc := 82) C d_MM_unify_82 7 rfl ?_
  obtain ⟨hb, h⟩ := it_g h
  refine ml_43 (pc := 84) C d_MM_unify_84 (bin_in hb) ?_
  refine ax_if_ge (pc := 85) C 143 d_MM_unify_85 (by decide) (fun hc => ?_) (fun hc => ?_)
  · have h := it_t hc h
    refine ax_ls ([(0, .ref z), (1, .int x0), (2, .int x1), (3, .int x2), (4, .int x3), (5, .int x4), (6, .int x5), (7, .int x6), (8, .int x7)]) [0, 1, 2, 3, 4, 5, 6, 7, 8] rfl ?_
    have hm : s_187 l D kA z v σ [x0, x1, x2, x3, x4, x5, x6, x7] (σf, rf, _) := ih 187 _ _ _ h
    exact hm _ _ _ _ _ _ _ _ rfl p e s m args below meth c F Lo σ0 hF hLo C
  · have h := it_f hc h
    refine ax_aload_n (pc := 88) C d_MM_unify_88 rfl 0 rfl ?_
    refine mg_335 (pc := 89) C d_MM_unify_89 ?_
    refine ax_iconst (pc := 92) C (-1) d_MM_unify_92 (by decide +kernel) ?_
    refine ax_aload_n (pc := 93) C d_MM_unify_93 rfl 0 rfl ?_
    refine mg_145 (pc := 94) C d_MM_unify_94 ?_
    refine ax_iload (pc := 97) C d_MM_unify_97 7 rfl ?_
    obtain ⟨hb, h⟩ := it_g h
    refine ml_43 (pc := 99) C d_MM_unify_99 (bin_in hb) ?_
    refine ax_isub (pc := 100) C d_MM_unify_100 ?_
    refine ax_iload (pc := 101) C d_MM_unify_101 8 rfl ?_
    refine ax_iadd (pc := 103) C d_MM_unify_103 ?_
    obtain ⟨hb, h⟩ := it_g h
    refine ml_106 (pc := 104) C d_MM_unify_104 (bin_in hb) ?_
    refine ax_if_lt (pc := 105) C 143 d_MM_unify_105 (by decide) (fun hc => ?_) (fun hc => ?_)
    · have h := it_t hc h
      refine ax_ls ([(0, .ref z), (1, .int x0), (2, .int x1), (3, .int x2), (4, .int x3), (5, .int x4), (6, .int x5), (7, .int x6), (8, .int x7)]) [0, 1, 2, 3, 4, 5, 6, 7, 8] rfl ?_
      have hm : s_187 l D kA z v σ [x0, x1, x2, x3, x4, x5, x6, x7] (σf, rf, _) := ih 187 _ _ _ h
      exact hm _ _ _ _ _ _ _ _ rfl p e s m args below meth c F Lo σ0 hF hLo C
    · have h := it_f hc h
      refine ax_iconst (pc := 108) C (-1) d_MM_unify_108 (by decide +kernel) ?_
      refine ax_aload_n (pc := 109) C d_MM_unify_109 rfl 0 rfl ?_
      refine mg_145 (pc := 110) C d_MM_unify_110 ?_
      refine ax_iload (pc := 113) C d_MM_unify_113 7 rfl ?_
      obtain ⟨hb, h⟩ := it_g h
      refine ml_43 (pc := 115) C d_MM_unify_115 (bin_in hb) ?_
      refine ax_isub (pc := 116) C d_MM_unify_116 ?_
      refine ax_iload (pc := 117) C d_MM_unify_117 8 rfl ?_
      refine ax_iadd (pc := 119) C d_MM_unify_119 ?_
      refine ax_istore (pc := 120) C d_MM_unify_120 (Nat.le_of_ble_eq_true rfl) ([(9, .int (((((-1) : Int32) - (σ.2.1 43 (Int32.toNatClampNeg x6))) : Int32) + x7)), (0, .ref z), (1, .int x0), (2, .int x1), (3, .int x2), (4, .int x3), (5, .int x4), (6, .int x5), (7, .int x6), (8, .int x7)]) rfl ?_
      refine ax_aload_n (pc := 122) C d_MM_unify_122 rfl 1 rfl ?_
      refine mg_335 (pc := 123) C d_MM_unify_123 ?_
      refine ax_iload (pc := 126) C d_MM_unify_126 0 rfl ?_
      obtain ⟨hb, h⟩ := it_g h
      refine ml_106 (pc := 128) C d_MM_unify_128 (bin_in hb) ?_
      refine ax_istore (pc := 129) C d_MM_unify_129 (Nat.le_of_ble_eq_true rfl) ([(7, .int (σ.2.1 106 (Int32.toNatClampNeg (((((-1) : Int32) - (σ.2.1 43 (Int32.toNatClampNeg x6))) : Int32) + x7)))), (9, .int (((((-1) : Int32) - (σ.2.1 43 (Int32.toNatClampNeg x6))) : Int32) + x7)), (0, .ref z), (1, .int x0), (2, .int x1), (3, .int x2), (4, .int x3), (5, .int x4), (6, .int x5), (8, .int x7)]) rfl ?_
      refine ax_aload_n (pc := 131) C d_MM_unify_131 rfl 2 rfl ?_
      refine mg_338 (pc := 132) C d_MM_unify_132 ?_
      refine ax_iload (pc := 135) C d_MM_unify_135 1 rfl ?_
      obtain ⟨hb, h⟩ := it_g h
      refine ml_107 (pc := 137) C d_MM_unify_137 (bin_in hb) ?_
      refine ax_istore (pc := 138) C d_MM_unify_138 (Nat.le_of_ble_eq_true rfl) ([(8, .int (σ.2.1 107 (Int32.toNatClampNeg (((((-1) : Int32) - (σ.2.1 43 (Int32.toNatClampNeg x6))) : Int32) + x7)))), (7, .int (σ.2.1 106 (Int32.toNatClampNeg (((((-1) : Int32) - (σ.2.1 43 (Int32.toNatClampNeg x6))) : Int32) + x7)))), (9, .int (((((-1) : Int32) - (σ.2.1 43 (Int32.toNatClampNeg x6))) : Int32) + x7)), (0, .ref z), (1, .int x0), (2, .int x1), (3, .int x2), (4, .int x3), (5, .int x4), (6, .int x5)]) rfl ?_
      refine ax_goto (pc := 140) C 78 d_MM_unify_140 (by decide) ?_
      refine ax_ls ([(0, .ref z), (1, .int x0), (2, .int x1), (3, .int x2), (4, .int x3), (5, .int x4), (6, .int x5), (7, .int (σ.2.1 106 (Int32.toNatClampNeg (((((-1) : Int32) - (σ.2.1 43 (Int32.toNatClampNeg x6))) : Int32) + x7)))), (8, .int (σ.2.1 107 (Int32.toNatClampNeg (((((-1) : Int32) - (σ.2.1 43 (Int32.toNatClampNeg x6))) : Int32) + x7))))]) [3, 4, 5, 6, 7, 8, 9, 1, 0] rfl ?_
      have hm : s_186 l D kA z v σ [x0, x1, x2, x3, x4, x5, (σ.2.1 106 (Int32.toNatClampNeg (((((-1) : Int32) - (σ.2.1 43 (Int32.toNatClampNeg x6))) : Int32) + x7))), (σ.2.1 107 (Int32.toNatClampNeg (((((-1) : Int32) - (σ.2.1 43 (Int32.toNatClampNeg x6))) : Int32) + x7)))] (σf, rf, _) := ih 186 _ _ _ h
      exact hm _ _ _ _ _ _ _ _ rfl p e s m args below meth c F Lo σ0 hF hLo C
set_option maxHeartbeats 4000000 in
set_option maxRecDepth 100000 in
theorem o_187 (l : Launch) (D : va_G) (kA : Nat → ClassId) (z : Nat) (v : Nat → Nat) (rec : mF) (ih : ∀ t σ xs res, rec t σ xs = some res → mSem l D kA z v t σ xs res) (σ : mS) (xs : List Int32) (res : mR) (h : k_187 rec σ xs = some res) : s_187 l D kA z v σ xs res := by
  intro x0 x1 x2 x3 x4 x5 x6 x7 hxs
  subst hxs
  obtain ⟨σf, rf, dd⟩ := res
  have h : (if bin x4 420000 = true then (if 0 ≤ (σ.2.1 43 (Int32.toNatClampNeg x4)) then (rec 188 σ [x0, x1, x2, x3, x4, x5, x6, x7]) else (if bin x6 420000 = true then (if 0 ≤ (σ.2.1 43 (Int32.toNatClampNeg x6)) then (rec 188 σ [x0, x1, x2, x3, x4, x5, x6, x7]) else (if bin x4 420000 = true then (if bin x6 420000 = true then (if (σ.2.1 43 (Int32.toNatClampNeg x4)) = (σ.2.1 43 (Int32.toNatClampNeg x6)) then (if x5 = x7 then (some (σ, 1, 0)) else (rec 188 σ [x0, x1, x2, x3, x4, x5, x6, x7])) else (rec 188 σ [x0, x1, x2, x3, x4, x5, x6, x7])) else none) else none)) else none)) else none) = some (σf, rf, dd) := h
  intro p e s m args below meth c F Lo σ0 hF hLo C
  dsimp only at hF hLo ⊢
  refine ax_aload_n (pc := 143) C d_MM_unify_143 rfl 0 rfl ?_
  refine mg_145 (pc := 144) C d_MM_unify_144 ?_
  refine ax_iload (pc := 147) C d_MM_unify_147 5 rfl ?_
  obtain ⟨hb, h⟩ := it_g h
  refine ml_43 (pc := 149) C d_MM_unify_149 (bin_in hb) ?_
  refine ax_if_ge (pc := 150) C 189 d_MM_unify_150 (by decide) (fun hc => ?_) (fun hc => ?_)
  · have h := it_t hc h
    refine ax_ls ([(0, .ref z), (1, .int x0), (2, .int x1), (3, .int x2), (4, .int x3), (5, .int x4), (6, .int x5), (7, .int x6), (8, .int x7)]) [0, 1, 2, 3, 4, 5, 6, 7, 8] rfl ?_
    have hm : s_188 l D kA z v σ [x0, x1, x2, x3, x4, x5, x6, x7] (σf, rf, _) := ih 188 _ _ _ h
    exact hm _ _ _ _ _ _ _ _ rfl p e s m args below meth c F Lo σ0 hF hLo C
  · have h := it_f hc h
    refine ax_aload_n (pc := 153) C d_MM_unify_153 rfl 0 rfl ?_
    refine mg_145 (pc := 154) C d_MM_unify_154 ?_
    refine ax_iload (pc := 157) C d_MM_unify_157 7 rfl ?_
    obtain ⟨hb, h⟩ := it_g h
    refine ml_43 (pc := 159) C d_MM_unify_159 (bin_in hb) ?_
    refine ax_if_ge (pc := 160) C 189 d_MM_unify_160 (by decide) (fun hc => ?_) (fun hc => ?_)
    · have h := it_t hc h
      refine ax_ls ([(0, .ref z), (1, .int x0), (2, .int x1), (3, .int x2), (4, .int x3), (5, .int x4), (6, .int x5), (7, .int x6), (8, .int x7)]) [0, 1, 2, 3, 4, 5, 6, 7, 8] rfl ?_
      have hm : s_188 l D kA z v σ [x0, x1, x2, x3, x4, x5, x6, x7] (σf, rf, _) := ih 188 _ _ _ h
      exact hm _ _ _ _ _ _ _ _ rfl p e s m args below meth c F Lo σ0 hF hLo C
    · have h := it_f hc h
      refine ax_aload_n (pc := 163) C d_MM_unify_163 rfl 0 rfl ?_
      refine mg_145 (pc := 164) C d_MM_unify_164 ?_
      refine ax_iload (pc := 167) C d_MM_unify_167 5 rfl ?_
      obtain ⟨hb, h⟩ := it_g h
      refine ml_43 (pc := 169) C d_MM_unify_169 (bin_in hb) ?_
      refine ax_aload_n (pc := 170) C d_MM_unify_170 rfl 0 rfl ?_
      refine mg_145 (pc := 171) C d_MM_unify_171 ?_
      refine ax_iload (pc := 174) C d_MM_unify_174 7 rfl ?_
      obtain ⟨hb, h⟩ := it_g h
      refine ml_43 (pc := 176) C d_MM_unify_176 (bin_in hb) ?_
      refine ax_icmp_ne (pc := 177) C 189 d_MM_unify_177 (by decide) (fun hc => ?_) (fun hc => ?_)
      · have h := it_f hc h
        refine ax_ls ([(0, .ref z), (1, .int x0), (2, .int x1), (3, .int x2), (4, .int x3), (5, .int x4), (6, .int x5), (7, .int x6), (8, .int x7)]) [0, 1, 2, 3, 4, 5, 6, 7, 8] rfl ?_
        have hm : s_188 l D kA z v σ [x0, x1, x2, x3, x4, x5, x6, x7] (σf, rf, _) := ih 188 _ _ _ h
        exact hm _ _ _ _ _ _ _ _ rfl p e s m args below meth c F Lo σ0 hF hLo C
      · have h := it_t hc h
        refine ax_iload (pc := 180) C d_MM_unify_180 6 rfl ?_
        refine ax_iload (pc := 182) C d_MM_unify_182 8 rfl ?_
        refine ax_icmp_ne (pc := 184) C 189 d_MM_unify_184 (by decide) (fun hc => ?_) (fun hc => ?_)
        · have h := it_f hc h
          refine ax_ls ([(0, .ref z), (1, .int x0), (2, .int x1), (3, .int x2), (4, .int x3), (5, .int x4), (6, .int x5), (7, .int x6), (8, .int x7)]) [0, 1, 2, 3, 4, 5, 6, 7, 8] rfl ?_
          have hm : s_188 l D kA z v σ [x0, x1, x2, x3, x4, x5, x6, x7] (σf, rf, _) := ih 188 _ _ _ h
          exact hm _ _ _ _ _ _ _ _ rfl p e s m args below meth c F Lo σ0 hF hLo C
        · have h := it_t hc h
          refine ax_iconst (pc := 187) C 1 d_MM_unify_187 (by decide +kernel) ?_
          cases h
          exact ax_zret (pc := 188) C d_MM_unify_188 rfl ⟨rfl, rfl⟩ (Nat.le_refl _) (Nat.le_refl _)
set_option maxHeartbeats 4000000 in
set_option maxRecDepth 100000 in
theorem o_188 (l : Launch) (D : va_G) (kA : Nat → ClassId) (z : Nat) (v : Nat → Nat) (rec : mF) (ih : ∀ t σ xs res, rec t σ xs = some res → mSem l D kA z v t σ xs res) (σ : mS) (xs : List Int32) (res : mR) (h : k_188 rec σ xs = some res) : s_188 l D kA z v σ xs res := by
  intro x0 x1 x2 x3 x4 x5 x6 x7 hxs
  subst hxs
  obtain ⟨σf, rf, dd⟩ := res
  have h : (if bin x4 420000 = true then (if 0 ≤ (σ.2.1 43 (Int32.toNatClampNeg x4)) then (if bin x6 420000 = true then (if 0 ≤ (σ.2.1 43 (Int32.toNatClampNeg x6)) then (if bin x4 420000 = true then (if bin x6 420000 = true then (if (σ.2.1 43 (Int32.toNatClampNeg x4)) = (σ.2.1 43 (Int32.toNatClampNeg x6)) then (if bin x6 420000 = true then (if bin x4 420000 = true then (rec 189 σ [x0, x1, x2, x3, x4, x5, x6, x7, (σ.2.1 44 (Int32.toNatClampNeg x6)), (σ.2.1 44 (Int32.toNatClampNeg x4))]) else none) else none) else (some (σ, 0, 0))) else none) else none) else (if bin x6 420000 = true then (bnd (rec 190 σ [(((((-1) : Int32) - (σ.2.1 43 (Int32.toNatClampNeg x6))) : Int32) + x7), x4, x5]) (fun σ1 r1 => if r1 = 0 ∨ r1 = 1 then some (σ1, r1, 0) else none)) else none)) else none) else (if bin x4 420000 = true then (bnd (rec 190 σ [(((((-1) : Int32) - (σ.2.1 43 (Int32.toNatClampNeg x4))) : Int32) + x5), x6, x7]) (fun σ2 r2 => if r2 = 0 ∨ r2 = 1 then some (σ2, r2, 0) else none)) else none)) else none) = some (σf, rf, dd) := h
  intro p e s m args below meth c F Lo σ0 hF hLo C
  dsimp only at hF hLo ⊢
  refine ax_aload_n (pc := 189) C d_MM_unify_189 rfl 0 rfl ?_
  refine mg_145 (pc := 190) C d_MM_unify_190 ?_
  refine ax_iload (pc := 193) C d_MM_unify_193 5 rfl ?_
  obtain ⟨hb, h⟩ := it_g h
  refine ml_43 (pc := 195) C d_MM_unify_195 (bin_in hb) ?_
  refine ax_if_ge (pc := 196) C 220 d_MM_unify_196 (by decide) (fun hc => ?_) (fun hc => ?_)
  · have h := it_t hc h
    refine ax_aload_n (pc := 220) C d_MM_unify_220 rfl 0 rfl ?_
    refine mg_145 (pc := 221) C d_MM_unify_221 ?_
    refine ax_iload (pc := 224) C d_MM_unify_224 7 rfl ?_
    obtain ⟨hb, h⟩ := it_g h
    refine ml_43 (pc := 226) C d_MM_unify_226 (bin_in hb) ?_
    refine ax_if_ge (pc := 227) C 251 d_MM_unify_227 (by decide) (fun hc => ?_) (fun hc => ?_)
    · have h := it_t hc h
      refine ax_aload_n (pc := 251) C d_MM_unify_251 rfl 0 rfl ?_
      refine mg_145 (pc := 252) C d_MM_unify_252 ?_
      refine ax_iload (pc := 255) C d_MM_unify_255 5 rfl ?_
      obtain ⟨hb, h⟩ := it_g h
      refine ml_43 (pc := 257) C d_MM_unify_257 (bin_in hb) ?_
      refine ax_aload_n (pc := 258) C d_MM_unify_258 rfl 0 rfl ?_
      refine mg_145 (pc := 259) C d_MM_unify_259 ?_
      refine ax_iload (pc := 262) C d_MM_unify_262 7 rfl ?_
      obtain ⟨hb, h⟩ := it_g h
      refine ml_43 (pc := 264) C d_MM_unify_264 (bin_in hb) ?_
      refine ax_icmp_eq (pc := 265) C 270 d_MM_unify_265 (by decide) (fun hc => ?_) (fun hc => ?_)
      · have h := it_t hc h
        refine ax_aload_n (pc := 270) C d_MM_unify_270 rfl 0 rfl ?_
        refine mg_148 (pc := 271) C d_MM_unify_271 ?_
        refine ax_iload (pc := 274) C d_MM_unify_274 7 rfl ?_
        obtain ⟨hb, h⟩ := it_g h
        refine ml_44 (pc := 276) C d_MM_unify_276 (bin_in hb) ?_
        refine ax_istore (pc := 277) C d_MM_unify_277 (Nat.le_of_ble_eq_true rfl) ([(9, .int (σ.2.1 44 (Int32.toNatClampNeg x6))), (0, .ref z), (1, .int x0), (2, .int x1), (3, .int x2), (4, .int x3), (5, .int x4), (6, .int x5), (7, .int x6), (8, .int x7)]) rfl ?_
        refine ax_aload_n (pc := 279) C d_MM_unify_279 rfl 1 rfl ?_
        refine mg_148 (pc := 280) C d_MM_unify_280 ?_
        refine ax_iload (pc := 283) C d_MM_unify_283 6 rfl ?_
        obtain ⟨hb, h⟩ := it_g h
        refine ml_44 (pc := 285) C d_MM_unify_285 (bin_in hb) ?_
        refine ax_istore (pc := 286) C d_MM_unify_286 (Nat.le_of_ble_eq_true rfl) ([(10, .int (σ.2.1 44 (Int32.toNatClampNeg x4))), (9, .int (σ.2.1 44 (Int32.toNatClampNeg x6))), (0, .ref z), (1, .int x0), (2, .int x1), (3, .int x2), (4, .int x3), (5, .int x4), (6, .int x5), (7, .int x6), (8, .int x7)]) rfl ?_
        refine ax_ls ([(0, .ref z), (1, .int x0), (2, .int x1), (3, .int x2), (4, .int x3), (5, .int x4), (6, .int x5), (7, .int x6), (8, .int x7), (9, .int (σ.2.1 44 (Int32.toNatClampNeg x6))), (10, .int (σ.2.1 44 (Int32.toNatClampNeg x4)))]) [2, 3, 4, 5, 6, 7, 8, 9, 10, 1, 0] rfl ?_
        have hm : s_189 l D kA z v σ [x0, x1, x2, x3, x4, x5, x6, x7, (σ.2.1 44 (Int32.toNatClampNeg x6)), (σ.2.1 44 (Int32.toNatClampNeg x4))] (σf, rf, _) := ih 189 _ _ _ h
        exact hm _ _ _ _ _ _ _ _ _ _ rfl p e s m args below meth c F Lo σ0 hF hLo C
      · have h := it_f hc h
        refine ax_iconst (pc := 268) C 0 d_MM_unify_268 (by decide +kernel) ?_
        cases h
        exact ax_zret (pc := 269) C d_MM_unify_269 rfl ⟨rfl, rfl⟩ (Nat.le_refl _) (Nat.le_refl _)
    · have h := it_f hc h
      refine ax_aload_n (pc := 230) C d_MM_unify_230 rfl 0 rfl ?_
      refine ax_iconst (pc := 231) C (-1) d_MM_unify_231 (by decide +kernel) ?_
      refine ax_aload_n (pc := 232) C d_MM_unify_232 rfl 0 rfl ?_
      refine mg_145 (pc := 233) C d_MM_unify_233 ?_
      refine ax_iload (pc := 236) C d_MM_unify_236 7 rfl ?_
      obtain ⟨hb, h⟩ := it_g h
      refine ml_43 (pc := 238) C d_MM_unify_238 (bin_in hb) ?_
      refine ax_isub (pc := 239) C d_MM_unify_239 ?_
      refine ax_iload (pc := 240) C d_MM_unify_240 8 rfl ?_
      refine ax_iadd (pc := 242) C d_MM_unify_242 ?_
      refine ax_iload (pc := 243) C d_MM_unify_243 5 rfl ?_
      refine ax_iload (pc := 245) C d_MM_unify_245 6 rfl ?_
      obtain ⟨σ1, r1, d1_1, d2_1, h1, h, hd2, hd1⟩ := it_b h
      have hm : s_190 l D kA z v σ [(((((-1) : Int32) - (σ.2.1 43 (Int32.toNatClampNeg x6))) : Int32) + x7), x4, x5] (σ1, r1, d1_1) := ih 190 _ _ _ h1
      refine mc_Vi (pc := 247) C (As := [.int (((((-1) : Int32) - (σ.2.1 43 (Int32.toNatClampNeg x6))) : Int32) + x7), .int x4, .int x5]) (rest := []) (hm _ _ _ rfl) ml_MM_610 d_MM_unify_247 rfl rfl (by dsimp only; omega) (by dsimp only; omega) (Nat.le_of_ble_eq_true rfl) (Nat.le_of_ble_eq_true rfl) (Nat.le_of_ble_eq_true rfl) ?_
      have hF : d2_1 + 1 ≤ F := by omega
      have hLo : 64 * d2_1 + 64 ≤ Lo := by omega
      obtain ⟨hb, h⟩ := it_g h
      cases h
      exact ax_zret (pc := 250) C d_MM_unify_250 (nb01 hb) ⟨rfl, rfl⟩ (Nat.le_refl _) (Nat.le_refl _)
  · have h := it_f hc h
    refine ax_aload_n (pc := 199) C d_MM_unify_199 rfl 0 rfl ?_
    refine ax_iconst (pc := 200) C (-1) d_MM_unify_200 (by decide +kernel) ?_
    refine ax_aload_n (pc := 201) C d_MM_unify_201 rfl 0 rfl ?_
    refine mg_145 (pc := 202) C d_MM_unify_202 ?_
    refine ax_iload (pc := 205) C d_MM_unify_205 5 rfl ?_
    obtain ⟨hb, h⟩ := it_g h
    refine ml_43 (pc := 207) C d_MM_unify_207 (bin_in hb) ?_
    refine ax_isub (pc := 208) C d_MM_unify_208 ?_
    refine ax_iload (pc := 209) C d_MM_unify_209 6 rfl ?_
    refine ax_iadd (pc := 211) C d_MM_unify_211 ?_
    refine ax_iload (pc := 212) C d_MM_unify_212 7 rfl ?_
    refine ax_iload (pc := 214) C d_MM_unify_214 8 rfl ?_
    obtain ⟨σ2, r2, d1_2, d2_2, h1, h, hd2, hd1⟩ := it_b h
    have hm : s_190 l D kA z v σ [(((((-1) : Int32) - (σ.2.1 43 (Int32.toNatClampNeg x4))) : Int32) + x5), x6, x7] (σ2, r2, d1_2) := ih 190 _ _ _ h1
    refine mc_Vi (pc := 216) C (As := [.int (((((-1) : Int32) - (σ.2.1 43 (Int32.toNatClampNeg x4))) : Int32) + x5), .int x6, .int x7]) (rest := []) (hm _ _ _ rfl) ml_MM_610 d_MM_unify_216 rfl rfl (by dsimp only; omega) (by dsimp only; omega) (Nat.le_of_ble_eq_true rfl) (Nat.le_of_ble_eq_true rfl) (Nat.le_of_ble_eq_true rfl) ?_
    have hF : d2_2 + 1 ≤ F := by omega
    have hLo : 64 * d2_2 + 64 ≤ Lo := by omega
    obtain ⟨hb, h⟩ := it_g h
    cases h
    exact ax_zret (pc := 219) C d_MM_unify_219 (nb01 hb) ⟨rfl, rfl⟩ (Nat.le_refl _) (Nat.le_refl _)
set_option maxHeartbeats 4000000 in
set_option maxRecDepth 100000 in
theorem o_189 (l : Launch) (D : va_G) (kA : Nat → ClassId) (z : Nat) (v : Nat → Nat) (rec : mF) (ih : ∀ t σ xs res, rec t σ xs = some res → mSem l D kA z v t σ xs res) (σ : mS) (xs : List Int32) (res : mR) (h : k_189 rec σ xs = some res) : s_189 l D kA z v σ xs res := by
  intro x0 x1 x2 x3 x4 x5 x6 x7 x8 x9 hxs
  subst hxs
  obtain ⟨σf, rf, dd⟩ := res
  have h : (if x9 < 0 then (some (σ, 1, 0)) else (bnd (rec 183 σ [x9, x5, x8, x7]) (fun σ1 r1 => if r1 = 0 then (some (σ1, 0, 0)) else (if bin x8 420000 = true then (if bin x9 420000 = true then (rec 189 σ1 [x0, x1, x2, x3, x4, x5, x6, x7, (σ1.2.1 45 (Int32.toNatClampNeg x8)), (σ1.2.1 45 (Int32.toNatClampNeg x9))]) else none) else none)))) = some (σf, rf, dd) := h
  intro p e s m args below meth c F Lo σ0 hF hLo C
  dsimp only at hF hLo ⊢
  refine ax_iload (pc := 288) C d_MM_unify_288 10 rfl ?_
  refine ax_if_lt (pc := 290) C 331 d_MM_unify_290 (by decide) (fun hc => ?_) (fun hc => ?_)
  · have h := it_t hc h
    refine ax_iconst (pc := 331) C 1 d_MM_unify_331 (by decide +kernel) ?_
    cases h
    exact ax_zret (pc := 332) C d_MM_unify_332 rfl ⟨rfl, rfl⟩ (Nat.le_refl _) (Nat.le_refl _)
  · have h := it_f hc h
    refine ax_aload_n (pc := 293) C d_MM_unify_293 rfl 0 rfl ?_
    refine ax_iload (pc := 294) C d_MM_unify_294 10 rfl ?_
    refine ax_iload (pc := 296) C d_MM_unify_296 6 rfl ?_
    refine ax_iload (pc := 298) C d_MM_unify_298 9 rfl ?_
    refine ax_iload (pc := 300) C d_MM_unify_300 8 rfl ?_
    obtain ⟨σ1, r1, d1_1, d2_1, h1, h, hd2, hd1⟩ := it_b h
    have hm : s_183 l D kA z v σ [x9, x5, x8, x7] (σ1, r1, d1_1) := ih 183 _ _ _ h1
    refine mc_Vi (pc := 302) C (As := [.int x9, .int x5, .int x8, .int x7]) (rest := []) (hm _ _ _ _ rfl) ml_MM_613 d_MM_unify_302 rfl rfl (by dsimp only; omega) (by dsimp only; omega) (Nat.le_of_ble_eq_true rfl) (Nat.le_of_ble_eq_true rfl) (Nat.le_of_ble_eq_true rfl) ?_
    have hF : d2_1 + 1 ≤ F := by omega
    have hLo : 64 * d2_1 + 64 ≤ Lo := by omega
    refine ax_if_ne (pc := 305) C 310 d_MM_unify_305 (by decide) (fun hc => ?_) (fun hc => ?_)
    · have h := it_f hc h
      refine ax_aload_n (pc := 310) C d_MM_unify_310 rfl 0 rfl ?_
      refine mg_151 (pc := 311) C d_MM_unify_311 ?_
      refine ax_iload (pc := 314) C d_MM_unify_314 9 rfl ?_
      obtain ⟨hb, h⟩ := it_g h
      refine ml_45 (pc := 316) C d_MM_unify_316 (bin_in hb) ?_
      refine ax_istore (pc := 317) C d_MM_unify_317 (Nat.le_of_ble_eq_true rfl) ([(9, .int (σ1.2.1 45 (Int32.toNatClampNeg x8))), (0, .ref z), (1, .int x0), (2, .int x1), (3, .int x2), (4, .int x3), (5, .int x4), (6, .int x5), (7, .int x6), (8, .int x7), (10, .int x9)]) rfl ?_
      refine ax_aload_n (pc := 319) C d_MM_unify_319 rfl 1 rfl ?_
      refine mg_151 (pc := 320) C d_MM_unify_320 ?_
      refine ax_iload (pc := 323) C d_MM_unify_323 10 rfl ?_
      obtain ⟨hb, h⟩ := it_g h
      refine ml_45 (pc := 325) C d_MM_unify_325 (bin_in hb) ?_
      refine ax_istore (pc := 326) C d_MM_unify_326 (Nat.le_of_ble_eq_true rfl) ([(10, .int (σ1.2.1 45 (Int32.toNatClampNeg x9))), (9, .int (σ1.2.1 45 (Int32.toNatClampNeg x8))), (0, .ref z), (1, .int x0), (2, .int x1), (3, .int x2), (4, .int x3), (5, .int x4), (6, .int x5), (7, .int x6), (8, .int x7)]) rfl ?_
      refine ax_goto (pc := 328) C 288 d_MM_unify_328 (by decide) ?_
      refine ax_ls ([(0, .ref z), (1, .int x0), (2, .int x1), (3, .int x2), (4, .int x3), (5, .int x4), (6, .int x5), (7, .int x6), (8, .int x7), (9, .int (σ1.2.1 45 (Int32.toNatClampNeg x8))), (10, .int (σ1.2.1 45 (Int32.toNatClampNeg x9)))]) [2, 3, 4, 5, 6, 7, 8, 9, 10, 1, 0] rfl ?_
      have hm : s_189 l D kA z v σ1 [x0, x1, x2, x3, x4, x5, x6, x7, (σ1.2.1 45 (Int32.toNatClampNeg x8)), (σ1.2.1 45 (Int32.toNatClampNeg x9))] (σf, rf, _) := ih 189 _ _ _ h
      exact hm _ _ _ _ _ _ _ _ _ _ rfl p e s m args below meth c F Lo σ0 hF hLo C
    · have h := it_t hc h
      refine ax_iconst (pc := 308) C 0 d_MM_unify_308 (by decide +kernel) ?_
      cases h
      exact ax_zret (pc := 309) C d_MM_unify_309 rfl ⟨rfl, rfl⟩ (Nat.le_refl _) (Nat.le_refl _)
set_option maxHeartbeats 4000000 in
set_option maxRecDepth 100000 in
theorem o_190 (l : Launch) (D : va_G) (kA : Nat → ClassId) (z : Nat) (v : Nat → Nat) (rec : mF) (ih : ∀ t σ xs res, rec t σ xs = some res → mSem l D kA z v t σ xs res) (σ : mS) (xs : List Int32) (res : mR) (h : k_190 rec σ xs = some res) : s_190 l D kA z v σ xs res := by
  intro x0 x1 x2 hxs
  subst hxs
  obtain ⟨σf, rf, dd⟩ := res
  have h : (bnd (rec 160 σ [x1]) (fun σ1 r1 => if r1 = 0 then (bnd (rec 192 σ1 [x0, x1, x2]) (fun σ2 r2 => if r2 = 0 then (if bin x0 12 = true then (lt_ (mA σ2 106 (Int32.toNatClampNeg x0) x1) (fun σ3 => if bin x0 12 = true then (lt_ (mA σ3 107 (Int32.toNatClampNeg x0) x2) (fun σ4 => some (σ4, 1, 0))) else none)) else none) else (rec 191 σ2 [x0, x1, x2]))) else (rec 191 σ1 [x0, x1, x2]))) = some (σf, rf, dd) := h
  refine ax_Mi.of (by decide +kernel) (Nat.le_of_ble_eq_true rfl) ?_
  intro p e s m args below meth c C hnm
  have C : ax_C p s m args meth c b_MM_bind1 "ClauseProverModel" 4 (some .boolean) D kA (va_A (mmW kA z v σ) s.heap.size) := C
  obtain ⟨F, hFe⟩ : ∃ F, F = dd + 1 := ⟨_, rfl⟩
  obtain ⟨Lo, hLoe⟩ : ∃ Lo, Lo = 64 * dd + 64 := ⟨_, rfl⟩
  obtain ⟨σ0, hσ0⟩ : ∃ s0, s0 = σ := ⟨_, rfl⟩
  suffices K : AW p l e { frames := F, cells := 0, slots := 0, locals := Lo } s m args below meth c D kA (va_A (mmW kA z v σ0) s.heap.size) 4 (ax_Qi below args s D kA (mmW kA z v σ0) 0 0 (fun r w1 => r = rf ∧ w1 = mmW kA z v σf)) 0 [(0, .ref z), (1, .int x0), (2, .int x1), (3, .int x2)] [] (mmW kA z v σ) 0 0 by rw [hFe, hLoe, hσ0] at K; exact ax_ls ([(0, .ref z), (1, .int x0), (2, .int x1), (3, .int x2)]) [0, 1, 2, 3] rfl K
  have C : ax_C p s m args meth c b_MM_bind1 "ClauseProverModel" 4 (some .boolean) D kA (va_A (mmW kA z v σ0) s.heap.size) := by rw [hσ0]; exact C
  have hF : dd + 1 ≤ F := by omega
  have hLo : 64 * dd + 64 ≤ Lo := by omega
  clear hFe hLoe hσ0
  refine ax_aload_n (pc := 0) C d_MM_bind1_0 rfl 0 rfl ?_
  refine ax_iload_n (pc := 1) C d_MM_bind1_1 rfl 2 rfl ?_
  obtain ⟨σ1, r1, d1_1, d2_1, h1, h, hd2, hd1⟩ := it_b h
  have hm : s_160 l D kA z v σ [x1] (σ1, r1, d1_1) := ih 160 _ _ _ h1
  refine mc_Vi (pc := 2) C (As := [.int x1]) (rest := []) (hm _ rfl) ml_MM_617 d_MM_bind1_2 rfl rfl (by dsimp only; omega) (by dsimp only; omega) (Nat.le_of_ble_eq_true rfl) (Nat.le_of_ble_eq_true rfl) (Nat.le_of_ble_eq_true rfl) ?_
  have hF : d2_1 + 1 ≤ F := by omega
  have hLo : 64 * d2_1 + 64 ≤ Lo := by omega
  refine ax_if_ne (pc := 5) C 18 d_MM_bind1_5 (by decide) (fun hc => ?_) (fun hc => ?_)
  · have h := it_f hc h
    refine ax_ls ([(0, .ref z), (1, .int x0), (2, .int x1), (3, .int x2)]) [0, 1, 2, 3] rfl ?_
    have hm : s_191 l D kA z v σ1 [x0, x1, x2] (σf, rf, _) := ih 191 _ _ _ h
    exact hm _ _ _ rfl p e s m args below meth c F Lo σ0 hF hLo C
  · have h := it_t hc h
    refine ax_aload_n (pc := 8) C d_MM_bind1_8 rfl 0 rfl ?_
    refine ax_iload_n (pc := 9) C d_MM_bind1_9 rfl 1 rfl ?_
    refine ax_iload_n (pc := 10) C d_MM_bind1_10 rfl 2 rfl ?_
    refine ax_iload_n (pc := 11) C d_MM_bind1_11 rfl 3 rfl ?_
    obtain ⟨σ2, r2, d1_2, d2_2, h1, h, hd2, hd1⟩ := it_b h
    have hm : s_192 l D kA z v σ1 [x0, x1, x2] (σ2, r2, d1_2) := ih 192 _ _ _ h1
    refine mc_Vi (pc := 12) C (As := [.int x0, .int x1, .int x2]) (rest := []) (hm _ _ _ rfl) ml_MM_620 d_MM_bind1_12 rfl rfl (by dsimp only; omega) (by dsimp only; omega) (Nat.le_of_ble_eq_true rfl) (Nat.le_of_ble_eq_true rfl) (Nat.le_of_ble_eq_true rfl) ?_
    have hF : d2_2 + 1 ≤ F := by omega
    have hLo : 64 * d2_2 + 64 ≤ Lo := by omega
    refine ax_if_eq (pc := 15) C 20 d_MM_bind1_15 (by decide) (fun hc => ?_) (fun hc => ?_)
    · have h := it_t hc h
      refine ax_aload_n (pc := 20) C d_MM_bind1_20 rfl 0 rfl ?_
      refine mg_335 (pc := 21) C d_MM_bind1_21 ?_
      refine ax_iload_n (pc := 24) C d_MM_bind1_24 rfl 1 rfl ?_
      refine ax_iload_n (pc := 25) C d_MM_bind1_25 rfl 2 rfl ?_
      obtain ⟨hb, h⟩ := it_g h
      refine ms_106 (pc := 26) C d_MM_bind1_26 (bin_in hb) ?_
      have h := it_l h
      generalize mA σ2 106 (Int32.toNatClampNeg x0) x1 = σ3 at h ⊢
      refine ax_aload_n (pc := 27) C d_MM_bind1_27 rfl 0 rfl ?_
      refine mg_338 (pc := 28) C d_MM_bind1_28 ?_
      refine ax_iload_n (pc := 31) C d_MM_bind1_31 rfl 1 rfl ?_
      refine ax_iload_n (pc := 32) C d_MM_bind1_32 rfl 3 rfl ?_
      obtain ⟨hb, h⟩ := it_g h
      refine ms_107 (pc := 33) C d_MM_bind1_33 (bin_in hb) ?_
      have h := it_l h
      generalize mA σ3 107 (Int32.toNatClampNeg x0) x2 = σ4 at h ⊢
      refine ax_iconst (pc := 34) C 1 d_MM_bind1_34 (by decide +kernel) ?_
      cases h
      exact ax_zret (pc := 35) C d_MM_bind1_35 rfl ⟨rfl, rfl⟩ (Nat.le_refl _) (Nat.le_refl _)
    · have h := it_f hc h
      refine ax_ls ([(0, .ref z), (1, .int x0), (2, .int x1), (3, .int x2)]) [0, 1, 2, 3] rfl ?_
      have hm : s_191 l D kA z v σ2 [x0, x1, x2] (σf, rf, _) := ih 191 _ _ _ h
      exact hm _ _ _ rfl p e s m args below meth c F Lo σ0 hF hLo C
set_option maxHeartbeats 4000000 in
set_option maxRecDepth 100000 in
theorem o_191 (l : Launch) (D : va_G) (kA : Nat → ClassId) (z : Nat) (v : Nat → Nat) (rec : mF) (ih : ∀ t σ xs res, rec t σ xs = some res → mSem l D kA z v t σ xs res) (σ : mS) (xs : List Int32) (res : mR) (h : k_191 rec σ xs = some res) : s_191 l D kA z v σ xs res := by
  intro x0 x1 x2 hxs
  subst hxs
  obtain ⟨σf, rf, dd⟩ := res
  have h : (some (σ, 0, 0)) = some (σf, rf, dd) := h
  intro p e s m args below meth c F Lo σ0 hF hLo C
  dsimp only at hF hLo ⊢
  refine ax_iconst (pc := 18) C 0 d_MM_bind1_18 (by decide +kernel) ?_
  cases h
  exact ax_zret (pc := 19) C d_MM_bind1_19 rfl ⟨rfl, rfl⟩ (Nat.le_refl _) (Nat.le_refl _)
set_option maxHeartbeats 4000000 in
set_option maxRecDepth 100000 in
theorem o_192 (l : Launch) (D : va_G) (kA : Nat → ClassId) (z : Nat) (v : Nat → Nat) (rec : mF) (ih : ∀ t σ xs res, rec t σ xs = some res → mSem l D kA z v t σ xs res) (σ : mS) (xs : List Int32) (res : mR) (h : k_192 rec σ xs = some res) : s_192 l D kA z v σ xs res := by
  intro x0 x1 x2 hxs
  subst hxs
  obtain ⟨σf, rf, dd⟩ := res
  have h : (if bin x1 420000 = true then (if 0 ≤ (σ.2.1 43 (Int32.toNatClampNeg x1)) then (if bin x1 420000 = true then (rec 195 σ [x0, x1, x2, (σ.2.1 44 (Int32.toNatClampNeg x1))]) else none) else (if bin x1 420000 = true then (if (((((-1) : Int32) - (σ.2.1 43 (Int32.toNatClampNeg x1))) : Int32) + x2) = x0 then (some (σ, 1, 0)) else (if bin (((((-1) : Int32) - (σ.2.1 43 (Int32.toNatClampNeg x1))) : Int32) + x2) 12 = true then (if (σ.2.1 106 (Int32.toNatClampNeg (((((-1) : Int32) - (σ.2.1 43 (Int32.toNatClampNeg x1))) : Int32) + x2))) < 0 then (rec 193 σ [x0, x1, x2, (((((-1) : Int32) - (σ.2.1 43 (Int32.toNatClampNeg x1))) : Int32) + x2)]) else (if bin (((((-1) : Int32) - (σ.2.1 43 (Int32.toNatClampNeg x1))) : Int32) + x2) 12 = true then (if bin (((((-1) : Int32) - (σ.2.1 43 (Int32.toNatClampNeg x1))) : Int32) + x2) 12 = true then (bnd (rec 192 σ [x0, (σ.2.1 106 (Int32.toNatClampNeg (((((-1) : Int32) - (σ.2.1 43 (Int32.toNatClampNeg x1))) : Int32) + x2))), (σ.2.1 107 (Int32.toNatClampNeg (((((-1) : Int32) - (σ.2.1 43 (Int32.toNatClampNeg x1))) : Int32) + x2)))]) (fun σ1 r1 => if r1 = 0 then (rec 193 σ1 [x0, x1, x2, (((((-1) : Int32) - (σ.2.1 43 (Int32.toNatClampNeg x1))) : Int32) + x2)]) else (rec 194 σ1 [x0, x1, x2, (((((-1) : Int32) - (σ.2.1 43 (Int32.toNatClampNeg x1))) : Int32) + x2), 1]))) else none) else none)) else none)) else none)) else none) = some (σf, rf, dd) := h
  refine ax_Mi.of (by decide +kernel) (Nat.le_of_ble_eq_true rfl) ?_
  intro p e s m args below meth c C hnm
  have C : ax_C p s m args meth c b_MM_occurs "ClauseProverModel" 5 (some .boolean) D kA (va_A (mmW kA z v σ) s.heap.size) := C
  obtain ⟨F, hFe⟩ : ∃ F, F = dd + 1 := ⟨_, rfl⟩
  obtain ⟨Lo, hLoe⟩ : ∃ Lo, Lo = 64 * dd + 64 := ⟨_, rfl⟩
  obtain ⟨σ0, hσ0⟩ : ∃ s0, s0 = σ := ⟨_, rfl⟩
  suffices K : AW p l e { frames := F, cells := 0, slots := 0, locals := Lo } s m args below meth c D kA (va_A (mmW kA z v σ0) s.heap.size) 5 (ax_Qi below args s D kA (mmW kA z v σ0) 0 0 (fun r w1 => r = rf ∧ w1 = mmW kA z v σf)) 0 [(0, .ref z), (1, .int x0), (2, .int x1), (3, .int x2)] [] (mmW kA z v σ) 0 0 by rw [hFe, hLoe, hσ0] at K; exact ax_ls ([(0, .ref z), (1, .int x0), (2, .int x1), (3, .int x2)]) [0, 1, 2, 3] rfl K
  have C : ax_C p s m args meth c b_MM_occurs "ClauseProverModel" 5 (some .boolean) D kA (va_A (mmW kA z v σ0) s.heap.size) := by rw [hσ0]; exact C
  have hF : dd + 1 ≤ F := by omega
  have hLo : 64 * dd + 64 ≤ Lo := by omega
  clear hFe hLoe hσ0
  refine ax_aload_n (pc := 0) C d_MM_occurs_0 rfl 0 rfl ?_
  refine mg_145 (pc := 1) C d_MM_occurs_1 ?_
  refine ax_iload_n (pc := 4) C d_MM_occurs_4 rfl 2 rfl ?_
  obtain ⟨hb, h⟩ := it_g h
  refine ml_43 (pc := 5) C d_MM_occurs_5 (bin_in hb) ?_
  refine ax_if_ge (pc := 6) C 67 d_MM_occurs_6 (by decide) (fun hc => ?_) (fun hc => ?_)
  · have h := it_t hc h
    refine ax_aload_n (pc := 67) C d_MM_occurs_67 rfl 0 rfl ?_
    refine mg_148 (pc := 68) C d_MM_occurs_68 ?_
    refine ax_iload_n (pc := 71) C d_MM_occurs_71 rfl 2 rfl ?_
    obtain ⟨hb, h⟩ := it_g h
    refine ml_44 (pc := 72) C d_MM_occurs_72 (bin_in hb) ?_
    refine ax_istore (pc := 73) C d_MM_occurs_73 (Nat.le_of_ble_eq_true rfl) ([(4, .int (σ.2.1 44 (Int32.toNatClampNeg x1))), (0, .ref z), (1, .int x0), (2, .int x1), (3, .int x2)]) rfl ?_
    refine ax_ls ([(0, .ref z), (1, .int x0), (2, .int x1), (3, .int x2), (4, .int (σ.2.1 44 (Int32.toNatClampNeg x1)))]) [1, 2, 3, 4, 0] rfl ?_
    have hm : s_195 l D kA z v σ [x0, x1, x2, (σ.2.1 44 (Int32.toNatClampNeg x1))] (σf, rf, _) := ih 195 _ _ _ h
    exact hm _ _ _ _ rfl p e s m args below meth c F Lo σ0 hF hLo C
  · have h := it_f hc h
    refine ax_iconst (pc := 9) C (-1) d_MM_occurs_9 (by decide +kernel) ?_
    refine ax_aload_n (pc := 10) C d_MM_occurs_10 rfl 0 rfl ?_
    refine mg_145 (pc := 11) C d_MM_occurs_11 ?_
    refine ax_iload_n (pc := 14) C d_MM_occurs_14 rfl 2 rfl ?_
    obtain ⟨hb, h⟩ := it_g h
    refine ml_43 (pc := 15) C d_MM_occurs_15 (bin_in hb) ?_
    refine ax_isub (pc := 16) C d_MM_occurs_16 ?_
    refine ax_iload_n (pc := 17) C d_MM_occurs_17 rfl 3 rfl ?_
    refine ax_iadd (pc := 18) C d_MM_occurs_18 ?_
    refine ax_istore (pc := 19) C d_MM_occurs_19 (Nat.le_of_ble_eq_true rfl) ([(4, .int (((((-1) : Int32) - (σ.2.1 43 (Int32.toNatClampNeg x1))) : Int32) + x2)), (0, .ref z), (1, .int x0), (2, .int x1), (3, .int x2)]) rfl ?_
    refine ax_iload (pc := 21) C d_MM_occurs_21 0 rfl ?_
    refine ax_iload_n (pc := 23) C d_MM_occurs_23 rfl 2 rfl ?_
    refine ax_icmp_ne (pc := 24) C 29 d_MM_occurs_24 (by decide) (fun hc => ?_) (fun hc => ?_)
    · have h := it_f hc h
      refine ax_aload_n (pc := 29) C d_MM_occurs_29 rfl 1 rfl ?_
      refine mg_335 (pc := 30) C d_MM_occurs_30 ?_
      refine ax_iload (pc := 33) C d_MM_occurs_33 0 rfl ?_
      obtain ⟨hb, h⟩ := it_g h
      refine ml_106 (pc := 35) C d_MM_occurs_35 (bin_in hb) ?_
      refine ax_if_lt (pc := 36) C 65 d_MM_occurs_36 (by decide) (fun hc => ?_) (fun hc => ?_)
      · have h := it_t hc h
        refine ax_ls ([(0, .ref z), (1, .int x0), (2, .int x1), (3, .int x2), (4, .int (((((-1) : Int32) - (σ.2.1 43 (Int32.toNatClampNeg x1))) : Int32) + x2))]) [1, 2, 3, 4, 0] rfl ?_
        have hm : s_193 l D kA z v σ [x0, x1, x2, (((((-1) : Int32) - (σ.2.1 43 (Int32.toNatClampNeg x1))) : Int32) + x2)] (σf, rf, _) := ih 193 _ _ _ h
        exact hm _ _ _ _ rfl p e s m args below meth c F Lo σ0 hF hLo C
      · have h := it_f hc h
        refine ax_aload_n (pc := 39) C d_MM_occurs_39 rfl 1 rfl ?_
        refine ax_iload_n (pc := 40) C d_MM_occurs_40 rfl 2 rfl ?_
        refine ax_aload_n (pc := 41) C d_MM_occurs_41 rfl 1 rfl ?_
        refine mg_335 (pc := 42) C d_MM_occurs_42 ?_
        refine ax_iload (pc := 45) C d_MM_occurs_45 0 rfl ?_
        obtain ⟨hb, h⟩ := it_g h
        refine ml_106 (pc := 47) C d_MM_occurs_47 (bin_in hb) ?_
        refine ax_aload_n (pc := 48) C d_MM_occurs_48 rfl 1 rfl ?_
        refine mg_338 (pc := 49) C d_MM_occurs_49 ?_
        refine ax_iload (pc := 52) C d_MM_occurs_52 0 rfl ?_
        obtain ⟨hb, h⟩ := it_g h
        refine ml_107 (pc := 54) C d_MM_occurs_54 (bin_in hb) ?_
        obtain ⟨σ1, r1, d1_1, d2_1, h1, h, hd2, hd1⟩ := it_b h
        have hm : s_192 l D kA z v σ [x0, (σ.2.1 106 (Int32.toNatClampNeg (((((-1) : Int32) - (σ.2.1 43 (Int32.toNatClampNeg x1))) : Int32) + x2))), (σ.2.1 107 (Int32.toNatClampNeg (((((-1) : Int32) - (σ.2.1 43 (Int32.toNatClampNeg x1))) : Int32) + x2)))] (σ1, r1, d1_1) := ih 192 _ _ _ h1
        refine mc_Vi (pc := 55) C (As := [.int x0, .int (σ.2.1 106 (Int32.toNatClampNeg (((((-1) : Int32) - (σ.2.1 43 (Int32.toNatClampNeg x1))) : Int32) + x2))), .int (σ.2.1 107 (Int32.toNatClampNeg (((((-1) : Int32) - (σ.2.1 43 (Int32.toNatClampNeg x1))) : Int32) + x2)))]) (rest := []) (hm _ _ _ rfl) ml_MM_620 d_MM_occurs_55 rfl rfl (by dsimp only; omega) (by dsimp only; omega) (Nat.le_of_ble_eq_true rfl) (Nat.le_of_ble_eq_true rfl) (Nat.le_of_ble_eq_true rfl) ?_
        have hF : d2_1 + 1 ≤ F := by omega
        have hLo : 64 * d2_1 + 64 ≤ Lo := by omega
        refine ax_if_eq (pc := 58) C 65 d_MM_occurs_58 (by decide) (fun hc => ?_) (fun hc => ?_)
        · have h := it_t hc h
          refine ax_ls ([(0, .ref z), (1, .int x0), (2, .int x1), (3, .int x2), (4, .int (((((-1) : Int32) - (σ.2.1 43 (Int32.toNatClampNeg x1))) : Int32) + x2))]) [1, 2, 3, 4, 0] rfl ?_
          have hm : s_193 l D kA z v σ1 [x0, x1, x2, (((((-1) : Int32) - (σ.2.1 43 (Int32.toNatClampNeg x1))) : Int32) + x2)] (σf, rf, _) := ih 193 _ _ _ h
          exact hm _ _ _ _ rfl p e s m args below meth c F Lo σ0 hF hLo C
        · have h := it_f hc h
          refine ax_iconst (pc := 61) C 1 d_MM_occurs_61 (by decide +kernel) ?_
          refine ax_goto (pc := 62) C 66 d_MM_occurs_62 (by decide) ?_
          refine ax_ls ([(0, .ref z), (1, .int x0), (2, .int x1), (3, .int x2), (4, .int (((((-1) : Int32) - (σ.2.1 43 (Int32.toNatClampNeg x1))) : Int32) + x2))]) [1, 2, 3, 4, 0] rfl ?_
          have hm : s_194 l D kA z v σ1 [x0, x1, x2, (((((-1) : Int32) - (σ.2.1 43 (Int32.toNatClampNeg x1))) : Int32) + x2), 1] (σf, rf, _) := ih 194 _ _ _ h
          exact hm _ _ _ _ _ rfl p e s m args below meth c F Lo σ0 hF hLo C
    · have h := it_t hc h
      refine ax_iconst (pc := 27) C 1 d_MM_occurs_27 (by decide +kernel) ?_
      cases h
      exact ax_zret (pc := 28) C d_MM_occurs_28 rfl ⟨rfl, rfl⟩ (Nat.le_refl _) (Nat.le_refl _)
set_option maxHeartbeats 4000000 in
set_option maxRecDepth 100000 in
theorem o_193 (l : Launch) (D : va_G) (kA : Nat → ClassId) (z : Nat) (v : Nat → Nat) (rec : mF) (ih : ∀ t σ xs res, rec t σ xs = some res → mSem l D kA z v t σ xs res) (σ : mS) (xs : List Int32) (res : mR) (h : k_193 rec σ xs = some res) : s_193 l D kA z v σ xs res := by
  intro x0 x1 x2 x3 hxs
  subst hxs
  obtain ⟨σf, rf, dd⟩ := res
  have h : (rec 194 σ [x0, x1, x2, x3, 0]) = some (σf, rf, dd) := h
  intro p e s m args below meth c F Lo σ0 hF hLo C
  dsimp only at hF hLo ⊢
  refine ax_iconst (pc := 65) C 0 d_MM_occurs_65 (by decide +kernel) ?_
  refine ax_ls ([(0, .ref z), (1, .int x0), (2, .int x1), (3, .int x2), (4, .int x3)]) [0, 1, 2, 3, 4] rfl ?_
  have hm : s_194 l D kA z v σ [x0, x1, x2, x3, 0] (σf, rf, _) := ih 194 _ _ _ h
  exact hm _ _ _ _ _ rfl p e s m args below meth c F Lo σ0 hF hLo C
set_option maxHeartbeats 4000000 in
set_option maxRecDepth 100000 in
theorem o_194 (l : Launch) (D : va_G) (kA : Nat → ClassId) (z : Nat) (v : Nat → Nat) (rec : mF) (ih : ∀ t σ xs res, rec t σ xs = some res → mSem l D kA z v t σ xs res) (σ : mS) (xs : List Int32) (res : mR) (h : k_194 rec σ xs = some res) : s_194 l D kA z v σ xs res := by
  intro x0 x1 x2 x3 x4 hxs
  subst hxs
  obtain ⟨σf, rf, dd⟩ := res
  have h : (if x4 = 0 ∨ x4 = 1 then some (σ, x4, 0) else none) = some (σf, rf, dd) := h
  intro p e s m args below meth c F Lo σ0 hF hLo C
  dsimp only at hF hLo ⊢
  obtain ⟨hb, h⟩ := it_g h
  cases h
  exact ax_zret (pc := 66) C d_MM_occurs_66 (nb01 hb) ⟨rfl, rfl⟩ (Nat.le_refl _) (Nat.le_refl _)
set_option maxHeartbeats 4000000 in
set_option maxRecDepth 100000 in
theorem o_195 (l : Launch) (D : va_G) (kA : Nat → ClassId) (z : Nat) (v : Nat → Nat) (rec : mF) (ih : ∀ t σ xs res, rec t σ xs = some res → mSem l D kA z v t σ xs res) (σ : mS) (xs : List Int32) (res : mR) (h : k_195 rec σ xs = some res) : s_195 l D kA z v σ xs res := by
  intro x0 x1 x2 x3 hxs
  subst hxs
  obtain ⟨σf, rf, dd⟩ := res
  have h : (if x3 < 0 then (some (σ, 0, 0)) else (bnd (rec 192 σ [x0, x3, x2]) (fun σ1 r1 => if r1 = 0 then (if bin x3 420000 = true then (rec 195 σ1 [x0, x1, x2, (σ1.2.1 45 (Int32.toNatClampNeg x3))]) else none) else (some (σ1, 1, 0))))) = some (σf, rf, dd) := h
  intro p e s m args below meth c F Lo σ0 hF hLo C
  dsimp only at hF hLo ⊢
  refine ax_iload (pc := 75) C d_MM_occurs_75 4 rfl ?_
  refine ax_if_lt (pc := 77) C 105 d_MM_occurs_77 (by decide) (fun hc => ?_) (fun hc => ?_)
  · have h := it_t hc h
    refine ax_iconst (pc := 105) C 0 d_MM_occurs_105 (by decide +kernel) ?_
    cases h
    exact ax_zret (pc := 106) C d_MM_occurs_106 rfl ⟨rfl, rfl⟩ (Nat.le_refl _) (Nat.le_refl _)
  · have h := it_f hc h
    refine ax_aload_n (pc := 80) C d_MM_occurs_80 rfl 0 rfl ?_
    refine ax_iload_n (pc := 81) C d_MM_occurs_81 rfl 1 rfl ?_
    refine ax_iload (pc := 82) C d_MM_occurs_82 4 rfl ?_
    refine ax_iload_n (pc := 84) C d_MM_occurs_84 rfl 3 rfl ?_
    obtain ⟨σ1, r1, d1_1, d2_1, h1, h, hd2, hd1⟩ := it_b h
    have hm : s_192 l D kA z v σ [x0, x3, x2] (σ1, r1, d1_1) := ih 192 _ _ _ h1
    refine mc_Vi (pc := 85) C (As := [.int x0, .int x3, .int x2]) (rest := []) (hm _ _ _ rfl) ml_MM_620 d_MM_occurs_85 rfl rfl (by dsimp only; omega) (by dsimp only; omega) (Nat.le_of_ble_eq_true rfl) (Nat.le_of_ble_eq_true rfl) (Nat.le_of_ble_eq_true rfl) ?_
    have hF : d2_1 + 1 ≤ F := by omega
    have hLo : 64 * d2_1 + 64 ≤ Lo := by omega
    refine ax_if_eq (pc := 88) C 93 d_MM_occurs_88 (by decide) (fun hc => ?_) (fun hc => ?_)
    · have h := it_t hc h
      refine ax_aload_n (pc := 93) C d_MM_occurs_93 rfl 0 rfl ?_
      refine mg_151 (pc := 94) C d_MM_occurs_94 ?_
      refine ax_iload (pc := 97) C d_MM_occurs_97 4 rfl ?_
      obtain ⟨hb, h⟩ := it_g h
      refine ml_45 (pc := 99) C d_MM_occurs_99 (bin_in hb) ?_
      refine ax_istore (pc := 100) C d_MM_occurs_100 (Nat.le_of_ble_eq_true rfl) ([(4, .int (σ1.2.1 45 (Int32.toNatClampNeg x3))), (0, .ref z), (1, .int x0), (2, .int x1), (3, .int x2)]) rfl ?_
      refine ax_goto (pc := 102) C 75 d_MM_occurs_102 (by decide) ?_
      refine ax_ls ([(0, .ref z), (1, .int x0), (2, .int x1), (3, .int x2), (4, .int (σ1.2.1 45 (Int32.toNatClampNeg x3)))]) [1, 2, 3, 4, 0] rfl ?_
      have hm : s_195 l D kA z v σ1 [x0, x1, x2, (σ1.2.1 45 (Int32.toNatClampNeg x3))] (σf, rf, _) := ih 195 _ _ _ h
      exact hm _ _ _ _ rfl p e s m args below meth c F Lo σ0 hF hLo C
    · have h := it_f hc h
      refine ax_iconst (pc := 91) C 1 d_MM_occurs_91 (by decide +kernel) ?_
      cases h
      exact ax_zret (pc := 92) C d_MM_occurs_92 rfl ⟨rfl, rfl⟩ (Nat.le_refl _) (Nat.le_refl _)
set_option maxHeartbeats 4000000 in
set_option maxRecDepth 100000 in
theorem o_196 (l : Launch) (D : va_G) (kA : Nat → ClassId) (z : Nat) (v : Nat → Nat) (rec : mF) (ih : ∀ t σ xs res, rec t σ xs = some res → mSem l D kA z v t σ xs res) (σ : mS) (xs : List Int32) (res : mR) (h : k_196 rec σ xs = some res) : s_196 l D kA z v σ xs res := by
  intro hxs
  subst hxs
  obtain ⟨σf, rf, dd⟩ := res
  have h : (lt_ (mI σ 112 0) (fun σ1 => lt_ (mI σ1 113 (-1)) (fun σ2 => some (σ2, 0, 0)))) = some (σf, rf, dd) := h
  refine ax_Mv.of (by decide +kernel) (Nat.le_of_ble_eq_true rfl) ?_
  intro p e s m args below meth c C hnm
  have C : ax_C p s m args meth c b_MM_begin "ClauseProverModel" 1 none D kA (va_A (mmW kA z v σ) s.heap.size) := C
  obtain ⟨F, hFe⟩ : ∃ F, F = dd + 1 := ⟨_, rfl⟩
  obtain ⟨Lo, hLoe⟩ : ∃ Lo, Lo = 64 * dd + 64 := ⟨_, rfl⟩
  obtain ⟨σ0, hσ0⟩ : ∃ s0, s0 = σ := ⟨_, rfl⟩
  suffices K : AW p l e { frames := F, cells := 0, slots := 0, locals := Lo } s m args below meth c D kA (va_A (mmW kA z v σ0) s.heap.size) 1 (ax_Qv below args s D kA (mmW kA z v σ0) 0 0 (fun w1 => w1 = mmW kA z v σf)) 0 [(0, .ref z)] [] (mmW kA z v σ) 0 0 by rw [hFe, hLoe, hσ0] at K; exact ax_ls ([(0, .ref z)]) [0] rfl K
  have C : ax_C p s m args meth c b_MM_begin "ClauseProverModel" 1 none D kA (va_A (mmW kA z v σ0) s.heap.size) := by rw [hσ0]; exact C
  have hF : dd + 1 ≤ F := by omega
  have hLo : 64 * dd + 64 ≤ Lo := by omega
  clear hFe hLoe hσ0
  refine ax_aload_n (pc := 0) C d_MM_begin_0 rfl 0 rfl ?_
  refine ax_iconst (pc := 1) C 0 d_MM_begin_1 (by decide +kernel) ?_
  refine mp_353 (pc := 2) C d_MM_begin_2 ?_
  have h := it_l h
  generalize mI σ 112 0 = σ1 at h ⊢
  refine ax_aload_n (pc := 5) C d_MM_begin_5 rfl 0 rfl ?_
  refine ax_iconst (pc := 6) C (-1) d_MM_begin_6 (by decide +kernel) ?_
  refine mp_356 (pc := 7) C d_MM_begin_7 ?_
  have h := it_l h
  generalize mI σ1 113 (-1) = σ2 at h ⊢
  cases h
  exact ax_vret (pc := 10) C d_MM_begin_10 rfl (Nat.le_refl _) (Nat.le_refl _)
set_option maxHeartbeats 4000000 in
set_option maxRecDepth 100000 in
theorem o_197 (l : Launch) (D : va_G) (kA : Nat → ClassId) (z : Nat) (v : Nat → Nat) (rec : mF) (ih : ∀ t σ xs res, rec t σ xs = some res → mSem l D kA z v t σ xs res) (σ : mS) (xs : List Int32) (res : mR) (h : k_197 rec σ xs = some res) : s_197 l D kA z v σ xs res := by
  intro x0 x1 x2 x3 hxs
  subst hxs
  obtain ⟨σf, rf, dd⟩ := res
  have h : (if bin x0 2001 = true then (rec 198 σ [x0, x1, x2, x3, (σ.2.1 73 (Int32.toNatClampNeg x0))]) else none) = some (σf, rf, dd) := h
  refine ax_Mv.of (by decide +kernel) (Nat.le_of_ble_eq_true rfl) ?_
  intro p e s m args below meth c C hnm
  have C : ax_C p s m args meth c b_MM_planOthers "ClauseProverModel" 6 none D kA (va_A (mmW kA z v σ) s.heap.size) := C
  obtain ⟨F, hFe⟩ : ∃ F, F = dd + 1 := ⟨_, rfl⟩
  obtain ⟨Lo, hLoe⟩ : ∃ Lo, Lo = 64 * dd + 64 := ⟨_, rfl⟩
  obtain ⟨σ0, hσ0⟩ : ∃ s0, s0 = σ := ⟨_, rfl⟩
  suffices K : AW p l e { frames := F, cells := 0, slots := 0, locals := Lo } s m args below meth c D kA (va_A (mmW kA z v σ0) s.heap.size) 6 (ax_Qv below args s D kA (mmW kA z v σ0) 0 0 (fun w1 => w1 = mmW kA z v σf)) 0 [(0, .ref z), (1, .int x0), (2, .int x1), (3, .int x2), (4, .int x3)] [] (mmW kA z v σ) 0 0 by rw [hFe, hLoe, hσ0] at K; exact ax_ls ([(0, .ref z), (1, .int x0), (2, .int x1), (3, .int x2), (4, .int x3)]) [0, 1, 2, 3, 4] rfl K
  have C : ax_C p s m args meth c b_MM_planOthers "ClauseProverModel" 6 none D kA (va_A (mmW kA z v σ0) s.heap.size) := by rw [hσ0]; exact C
  have hF : dd + 1 ≤ F := by omega
  have hLo : 64 * dd + 64 ≤ Lo := by omega
  clear hFe hLoe hσ0
  refine ax_aload_n (pc := 0) C d_MM_planOthers_0 rfl 0 rfl ?_
  refine mg_235 (pc := 1) C d_MM_planOthers_1 ?_
  refine ax_iload_n (pc := 4) C d_MM_planOthers_4 rfl 1 rfl ?_
  obtain ⟨hb, h⟩ := it_g h
  refine ml_73 (pc := 5) C d_MM_planOthers_5 (bin_in hb) ?_
  refine ax_istore (pc := 6) C d_MM_planOthers_6 (Nat.le_of_ble_eq_true rfl) ([(5, .int (σ.2.1 73 (Int32.toNatClampNeg x0))), (0, .ref z), (1, .int x0), (2, .int x1), (3, .int x2), (4, .int x3)]) rfl ?_
  refine ax_ls ([(0, .ref z), (1, .int x0), (2, .int x1), (3, .int x2), (4, .int x3), (5, .int (σ.2.1 73 (Int32.toNatClampNeg x0)))]) [1, 2, 3, 4, 5, 0] rfl ?_
  have hm : s_198 l D kA z v σ [x0, x1, x2, x3, (σ.2.1 73 (Int32.toNatClampNeg x0))] (σf, rf, _) := ih 198 _ _ _ h
  exact hm _ _ _ _ _ rfl p e s m args below meth c F Lo σ0 hF hLo C
set_option maxHeartbeats 4000000 in
set_option maxRecDepth 100000 in
theorem o_198 (l : Launch) (D : va_G) (kA : Nat → ClassId) (z : Nat) (v : Nat → Nat) (rec : mF) (ih : ∀ t σ xs res, rec t σ xs = some res → mSem l D kA z v t σ xs res) (σ : mS) (xs : List Int32) (res : mR) (h : k_198 rec σ xs = some res) : s_198 l D kA z v σ xs res := by
  intro x0 x1 x2 x3 x4 hxs
  subst hxs
  obtain ⟨σf, rf, dd⟩ := res
  have h : (if bin x0 2001 = true then (if bin x0 2001 = true then (if (((σ.2.1 73 (Int32.toNatClampNeg x0)) : Int32) + (σ.2.1 74 (Int32.toNatClampNeg x0))) ≤ x4 then (some (σ, 0, 0)) else (if x4 = x2 then (rec 199 σ [x0, x1, x2, x3, x4]) else (if x4 = x3 then (rec 199 σ [x0, x1, x2, x3, x4]) else (if bin x4 16100 = true then (if bin x4 16100 = true then (if bin x4 16100 = true then (bnd (rec 200 σ [(σ.2.1 66 (Int32.toNatClampNeg x4)), (σ.2.1 67 (Int32.toNatClampNeg x4)), x1, (σ.2.1 68 (Int32.toNatClampNeg x4))]) (fun σ1 r1 => rec 199 σ1 [x0, x1, x2, x3, x4])) else none) else none) else none)))) else none) else none) = some (σf, rf, dd) := h
  intro p e s m args below meth c F Lo σ0 hF hLo C
  dsimp only at hF hLo ⊢
  refine ax_iload (pc := 8) C d_MM_planOthers_8 5 rfl ?_
  refine ax_aload_n (pc := 10) C d_MM_planOthers_10 rfl 0 rfl ?_
  refine mg_235 (pc := 11) C d_MM_planOthers_11 ?_
  refine ax_iload_n (pc := 14) C d_MM_planOthers_14 rfl 1 rfl ?_
  obtain ⟨hb, h⟩ := it_g h
  refine ml_73 (pc := 15) C d_MM_planOthers_15 (bin_in hb) ?_
  refine ax_aload_n (pc := 16) C d_MM_planOthers_16 rfl 0 rfl ?_
  refine mg_238 (pc := 17) C d_MM_planOthers_17 ?_
  refine ax_iload_n (pc := 20) C d_MM_planOthers_20 rfl 1 rfl ?_
  obtain ⟨hb, h⟩ := it_g h
  refine ml_74 (pc := 21) C d_MM_planOthers_21 (bin_in hb) ?_
  refine ax_iadd (pc := 22) C d_MM_planOthers_22 ?_
  refine ax_icmp_ge (pc := 23) C 71 d_MM_planOthers_23 (by decide) (fun hc => ?_) (fun hc => ?_)
  · have h := it_t hc h
    cases h
    exact ax_vret (pc := 71) C d_MM_planOthers_71 rfl (Nat.le_refl _) (Nat.le_refl _)
  · have h := it_f hc h
    refine ax_iload (pc := 26) C d_MM_planOthers_26 5 rfl ?_
    refine ax_iload_n (pc := 28) C d_MM_planOthers_28 rfl 3 rfl ?_
    refine ax_icmp_eq (pc := 29) C 65 d_MM_planOthers_29 (by decide) (fun hc => ?_) (fun hc => ?_)
    · have h := it_t hc h
      refine ax_ls ([(0, .ref z), (1, .int x0), (2, .int x1), (3, .int x2), (4, .int x3), (5, .int x4)]) [0, 1, 2, 3, 4, 5] rfl ?_
      have hm : s_199 l D kA z v σ [x0, x1, x2, x3, x4] (σf, rf, _) := ih 199 _ _ _ h
      exact hm _ _ _ _ _ rfl p e s m args below meth c F Lo σ0 hF hLo C
    · have h := it_f hc h
      refine ax_iload (pc := 32) C d_MM_planOthers_32 5 rfl ?_
      refine ax_iload (pc := 34) C d_MM_planOthers_34 4 rfl ?_
      refine ax_icmp_eq (pc := 36) C 65 d_MM_planOthers_36 (by decide) (fun hc => ?_) (fun hc => ?_)
      · have h := it_t hc h
        refine ax_ls ([(0, .ref z), (1, .int x0), (2, .int x1), (3, .int x2), (4, .int x3), (5, .int x4)]) [0, 1, 2, 3, 4, 5] rfl ?_
        have hm : s_199 l D kA z v σ [x0, x1, x2, x3, x4] (σf, rf, _) := ih 199 _ _ _ h
        exact hm _ _ _ _ _ rfl p e s m args below meth c F Lo σ0 hF hLo C
      · have h := it_f hc h
        refine ax_aload_n (pc := 39) C d_MM_planOthers_39 rfl 0 rfl ?_
        refine ax_aload_n (pc := 40) C d_MM_planOthers_40 rfl 0 rfl ?_
        refine mg_214 (pc := 41) C d_MM_planOthers_41 ?_
        refine ax_iload (pc := 44) C d_MM_planOthers_44 5 rfl ?_
        obtain ⟨hb, h⟩ := it_g h
        refine ml_66 (pc := 46) C d_MM_planOthers_46 (bin_in hb) ?_
        refine ax_aload_n (pc := 47) C d_MM_planOthers_47 rfl 0 rfl ?_
        refine mg_217 (pc := 48) C d_MM_planOthers_48 ?_
        refine ax_iload (pc := 51) C d_MM_planOthers_51 5 rfl ?_
        obtain ⟨hb, h⟩ := it_g h
        refine ml_67 (pc := 53) C d_MM_planOthers_53 (bin_in hb) ?_
        refine ax_iload_n (pc := 54) C d_MM_planOthers_54 rfl 2 rfl ?_
        refine ax_aload_n (pc := 55) C d_MM_planOthers_55 rfl 0 rfl ?_
        refine mg_220 (pc := 56) C d_MM_planOthers_56 ?_
        refine ax_iload (pc := 59) C d_MM_planOthers_59 5 rfl ?_
        obtain ⟨hb, h⟩ := it_g h
        refine ml_68 (pc := 61) C d_MM_planOthers_61 (bin_in hb) ?_
        obtain ⟨σ1, r1, d1_1, d2_1, h1, h, hd2, hd1⟩ := it_b h
        have hm : s_200 l D kA z v σ [(σ.2.1 66 (Int32.toNatClampNeg x4)), (σ.2.1 67 (Int32.toNatClampNeg x4)), x1, (σ.2.1 68 (Int32.toNatClampNeg x4))] (σ1, r1, d1_1) := ih 200 _ _ _ h1
        refine mc_Vv (pc := 62) C (As := [.int (σ.2.1 66 (Int32.toNatClampNeg x4)), .int (σ.2.1 67 (Int32.toNatClampNeg x4)), .int x1, .int (σ.2.1 68 (Int32.toNatClampNeg x4))]) (rest := []) (hm _ _ _ _ rfl) ml_MM_651 d_MM_planOthers_62 rfl rfl (by dsimp only; omega) (by dsimp only; omega) (Nat.le_of_ble_eq_true rfl) (Nat.le_of_ble_eq_true rfl) (Nat.le_of_ble_eq_true rfl) ?_
        have hF : d2_1 + 1 ≤ F := by omega
        have hLo : 64 * d2_1 + 64 ≤ Lo := by omega
        refine ax_ls ([(0, .ref z), (1, .int x0), (2, .int x1), (3, .int x2), (4, .int x3), (5, .int x4)]) [0, 1, 2, 3, 4, 5] rfl ?_
        have hm : s_199 l D kA z v σ1 [x0, x1, x2, x3, x4] (σf, rf, _) := ih 199 _ _ _ h
        exact hm _ _ _ _ _ rfl p e s m args below meth c F Lo σ0 hF hLo C
set_option maxHeartbeats 4000000 in
set_option maxRecDepth 100000 in
theorem o_199 (l : Launch) (D : va_G) (kA : Nat → ClassId) (z : Nat) (v : Nat → Nat) (rec : mF) (ih : ∀ t σ xs res, rec t σ xs = some res → mSem l D kA z v t σ xs res) (σ : mS) (xs : List Int32) (res : mR) (h : k_199 rec σ xs = some res) : s_199 l D kA z v σ xs res := by
  intro x0 x1 x2 x3 x4 hxs
  subst hxs
  obtain ⟨σf, rf, dd⟩ := res
  have h : (rec 198 σ [x0, x1, x2, x3, (x4 + 1)]) = some (σf, rf, dd) := h
  intro p e s m args below meth c F Lo σ0 hF hLo C
  dsimp only at hF hLo ⊢
  refine ax_iinc (pc := 65) C (x4 + 1) d_MM_planOthers_65 5 rfl rfl (Nat.le_of_ble_eq_true rfl) ([(5, .int (x4 + 1)), (0, .ref z), (1, .int x0), (2, .int x1), (3, .int x2), (4, .int x3)]) rfl ?_
  refine ax_goto (pc := 68) C 8 d_MM_planOthers_68 (by decide) ?_
  refine ax_ls ([(0, .ref z), (1, .int x0), (2, .int x1), (3, .int x2), (4, .int x3), (5, .int (x4 + 1))]) [1, 2, 3, 4, 5, 0] rfl ?_
  have hm : s_198 l D kA z v σ [x0, x1, x2, x3, (x4 + 1)] (σf, rf, _) := ih 198 _ _ _ h
  exact hm _ _ _ _ _ rfl p e s m args below meth c F Lo σ0 hF hLo C
set_option maxHeartbeats 4000000 in
set_option maxRecDepth 100000 in
theorem o_200 (l : Launch) (D : va_G) (kA : Nat → ClassId) (z : Nat) (v : Nat → Nat) (rec : mF) (ih : ∀ t σ xs res, rec t σ xs = some res → mSem l D kA z v t σ xs res) (σ : mS) (xs : List Int32) (res : mR) (h : k_200 rec σ xs = some res) : s_200 l D kA z v σ xs res := by
  intro x0 x1 x2 x3 hxs
  subst hxs
  obtain ⟨σf, rf, dd⟩ := res
  have h : (if bin (σ.1 112) 20 = true then (lt_ (mA σ 108 (Int32.toNatClampNeg (σ.1 112)) x0) (fun σ1 => if bin (σ1.1 112) 20 = true then (lt_ (mA σ1 109 (Int32.toNatClampNeg (σ1.1 112)) x1) (fun σ2 => if bin (σ2.1 112) 20 = true then (lt_ (mA σ2 110 (Int32.toNatClampNeg (σ2.1 112)) x2) (fun σ3 => lt_ (mI σ3 112 (((σ3.1 112) : Int32) + 1)) (fun σ4 => if bin (σ3.1 112) 20 = true then (lt_ (mA σ4 111 (Int32.toNatClampNeg (σ3.1 112)) (vp_nar .boolean x3)) (fun σ5 => some (σ5, 0, 0))) else none))) else none)) else none)) else none) = some (σf, rf, dd) := h
  refine ax_Mv.of (by decide +kernel) (Nat.le_of_ble_eq_true rfl) ?_
  intro p e s m args below meth c C hnm
  have C : ax_C p s m args meth c b_MM_plan "ClauseProverModel" 5 none D kA (va_A (mmW kA z v σ) s.heap.size) := C
  obtain ⟨F, hFe⟩ : ∃ F, F = dd + 1 := ⟨_, rfl⟩
  obtain ⟨Lo, hLoe⟩ : ∃ Lo, Lo = 64 * dd + 64 := ⟨_, rfl⟩
  obtain ⟨σ0, hσ0⟩ : ∃ s0, s0 = σ := ⟨_, rfl⟩
  suffices K : AW p l e { frames := F, cells := 0, slots := 0, locals := Lo } s m args below meth c D kA (va_A (mmW kA z v σ0) s.heap.size) 5 (ax_Qv below args s D kA (mmW kA z v σ0) 0 0 (fun w1 => w1 = mmW kA z v σf)) 0 [(0, .ref z), (1, .int x0), (2, .int x1), (3, .int x2), (4, .int x3)] [] (mmW kA z v σ) 0 0 by rw [hFe, hLoe, hσ0] at K; exact ax_ls ([(0, .ref z), (1, .int x0), (2, .int x1), (3, .int x2), (4, .int x3)]) [0, 1, 2, 3, 4] rfl K
  have C : ax_C p s m args meth c b_MM_plan "ClauseProverModel" 5 none D kA (va_A (mmW kA z v σ0) s.heap.size) := by rw [hσ0]; exact C
  have hF : dd + 1 ≤ F := by omega
  have hLo : 64 * dd + 64 ≤ Lo := by omega
  clear hFe hLoe hσ0
  refine ax_aload_n (pc := 0) C d_MM_plan_0 rfl 0 rfl ?_
  refine mg_341 (pc := 1) C d_MM_plan_1 ?_
  refine ax_aload_n (pc := 4) C d_MM_plan_4 rfl 0 rfl ?_
  refine mg_353 (pc := 5) C d_MM_plan_5 ?_
  refine ax_iload_n (pc := 8) C d_MM_plan_8 rfl 1 rfl ?_
  obtain ⟨hb, h⟩ := it_g h
  refine ms_108 (pc := 9) C d_MM_plan_9 (bin_in hb) ?_
  have h := it_l h
  generalize mA σ 108 (Int32.toNatClampNeg (σ.1 112)) x0 = σ1 at h ⊢
  refine ax_aload_n (pc := 10) C d_MM_plan_10 rfl 0 rfl ?_
  refine mg_344 (pc := 11) C d_MM_plan_11 ?_
  refine ax_aload_n (pc := 14) C d_MM_plan_14 rfl 0 rfl ?_
  refine mg_353 (pc := 15) C d_MM_plan_15 ?_
  refine ax_iload_n (pc := 18) C d_MM_plan_18 rfl 2 rfl ?_
  obtain ⟨hb, h⟩ := it_g h
  refine ms_109 (pc := 19) C d_MM_plan_19 (bin_in hb) ?_
  have h := it_l h
  generalize mA σ1 109 (Int32.toNatClampNeg (σ1.1 112)) x1 = σ2 at h ⊢
  refine ax_aload_n (pc := 20) C d_MM_plan_20 rfl 0 rfl ?_
  refine mg_347 (pc := 21) C d_MM_plan_21 ?_
  refine ax_aload_n (pc := 24) C d_MM_plan_24 rfl 0 rfl ?_
  refine mg_353 (pc := 25) C d_MM_plan_25 ?_
  refine ax_iload_n (pc := 28) C d_MM_plan_28 rfl 3 rfl ?_
  obtain ⟨hb, h⟩ := it_g h
  refine ms_110 (pc := 29) C d_MM_plan_29 (bin_in hb) ?_
  have h := it_l h
  generalize mA σ2 110 (Int32.toNatClampNeg (σ2.1 112)) x2 = σ3 at h ⊢
  refine ax_aload_n (pc := 30) C d_MM_plan_30 rfl 0 rfl ?_
  refine mg_350 (pc := 31) C d_MM_plan_31 ?_
  refine ax_aload_n (pc := 34) C d_MM_plan_34 rfl 0 rfl ?_
  refine ax_dup (pc := 35) C d_MM_plan_35 rfl ?_
  refine mg_353 (pc := 36) C d_MM_plan_36 ?_
  refine ax_dup_x1 (pc := 39) C d_MM_plan_39 rfl rfl ?_
  refine ax_iconst (pc := 40) C 1 d_MM_plan_40 (by decide +kernel) ?_
  refine ax_iadd (pc := 41) C d_MM_plan_41 ?_
  refine mp_353 (pc := 42) C d_MM_plan_42 ?_
  have h := it_l h
  generalize mI σ3 112 (((σ3.1 112) : Int32) + 1) = σ4 at h ⊢
  refine ax_iload (pc := 45) C d_MM_plan_45 4 rfl ?_
  obtain ⟨hb, h⟩ := it_g h
  refine ms_111 (pc := 47) C d_MM_plan_47 (bin_in hb) ?_
  have h := it_l h
  generalize mA σ4 111 (Int32.toNatClampNeg (σ3.1 112)) (vp_nar .boolean x3) = σ5 at h ⊢
  cases h
  exact ax_vret (pc := 48) C d_MM_plan_48 rfl (Nat.le_refl _) (Nat.le_refl _)
set_option maxHeartbeats 4000000 in
set_option maxRecDepth 100000 in
theorem o_201 (l : Launch) (D : va_G) (kA : Nat → ClassId) (z : Nat) (v : Nat → Nat) (rec : mF) (ih : ∀ t σ xs res, rec t σ xs = some res → mSem l D kA z v t σ xs res) (σ : mS) (xs : List Int32) (res : mR) (h : k_201 rec σ xs = some res) : s_201 l D kA z v σ xs res := by
  intro x0 hxs
  subst hxs
  obtain ⟨σf, rf, dd⟩ := res
  have h : (if bin x0 20 = true then (if (σ.2.1 110 (Int32.toNatClampNeg x0)) = 6 then (rec 202 σ [x0, (σ.1 113)]) else (rec 202 σ [x0, (-1)])) else none) = some (σf, rf, dd) := h
  refine ax_Mi.of (by decide +kernel) (Nat.le_of_ble_eq_true rfl) ?_
  intro p e s m args below meth c C hnm
  have C : ax_C p s m args meth c b_MM_placeIn "ClauseProverModel" 2 (some .int) D kA (va_A (mmW kA z v σ) s.heap.size) := C
  obtain ⟨F, hFe⟩ : ∃ F, F = dd + 1 := ⟨_, rfl⟩
  obtain ⟨Lo, hLoe⟩ : ∃ Lo, Lo = 64 * dd + 64 := ⟨_, rfl⟩
  obtain ⟨σ0, hσ0⟩ : ∃ s0, s0 = σ := ⟨_, rfl⟩
  suffices K : AW p l e { frames := F, cells := 0, slots := 0, locals := Lo } s m args below meth c D kA (va_A (mmW kA z v σ0) s.heap.size) 2 (ax_Qi below args s D kA (mmW kA z v σ0) 0 0 (fun r w1 => r = rf ∧ w1 = mmW kA z v σf)) 0 [(0, .ref z), (1, .int x0)] [] (mmW kA z v σ) 0 0 by rw [hFe, hLoe, hσ0] at K; exact ax_ls ([(0, .ref z), (1, .int x0)]) [0, 1] rfl K
  have C : ax_C p s m args meth c b_MM_placeIn "ClauseProverModel" 2 (some .int) D kA (va_A (mmW kA z v σ0) s.heap.size) := by rw [hσ0]; exact C
  have hF : dd + 1 ≤ F := by omega
  have hLo : 64 * dd + 64 ≤ Lo := by omega
  clear hFe hLoe hσ0
  refine ax_aload_n (pc := 0) C d_MM_placeIn_0 rfl 0 rfl ?_
  refine mg_347 (pc := 1) C d_MM_placeIn_1 ?_
  refine ax_iload_n (pc := 4) C d_MM_placeIn_4 rfl 1 rfl ?_
  obtain ⟨hb, h⟩ := it_g h
  refine ml_110 (pc := 5) C d_MM_placeIn_5 (bin_in hb) ?_
  refine ax_bipush (pc := 6) C 6 d_MM_placeIn_6 (by decide +kernel) ?_
  refine ax_icmp_ne (pc := 8) C 18 d_MM_placeIn_8 (by decide) (fun hc => ?_) (fun hc => ?_)
  · have h := it_f hc h
    refine ax_iconst (pc := 18) C (-1) d_MM_placeIn_18 (by decide +kernel) ?_
    refine ax_ls ([(0, .ref z), (1, .int x0)]) [0, 1] rfl ?_
    have hm : s_202 l D kA z v σ [x0, (-1)] (σf, rf, _) := ih 202 _ _ _ h
    exact hm _ _ rfl p e s m args below meth c F Lo σ0 hF hLo C
  · have h := it_t hc h
    refine ax_aload_n (pc := 11) C d_MM_placeIn_11 rfl 0 rfl ?_
    refine mg_356 (pc := 12) C d_MM_placeIn_12 ?_
    refine ax_goto (pc := 15) C 19 d_MM_placeIn_15 (by decide) ?_
    refine ax_ls ([(0, .ref z), (1, .int x0)]) [0, 1] rfl ?_
    have hm : s_202 l D kA z v σ [x0, (σ.1 113)] (σf, rf, _) := ih 202 _ _ _ h
    exact hm _ _ rfl p e s m args below meth c F Lo σ0 hF hLo C
set_option maxHeartbeats 4000000 in
set_option maxRecDepth 100000 in
theorem o_202 (l : Launch) (D : va_G) (kA : Nat → ClassId) (z : Nat) (v : Nat → Nat) (rec : mF) (ih : ∀ t σ xs res, rec t σ xs = some res → mSem l D kA z v t σ xs res) (σ : mS) (xs : List Int32) (res : mR) (h : k_202 rec σ xs = some res) : s_202 l D kA z v σ xs res := by
  intro x0 x1 hxs
  subst hxs
  obtain ⟨σf, rf, dd⟩ := res
  have h : (some (σ, x1, 0)) = some (σf, rf, dd) := h
  intro p e s m args below meth c F Lo σ0 hF hLo C
  dsimp only at hF hLo ⊢
  cases h
  exact ax_iret (pc := 19) C d_MM_placeIn_19 ⟨rfl, rfl⟩ (Nat.le_refl _) (Nat.le_refl _)
set_option maxHeartbeats 4000000 in
set_option maxRecDepth 100000 in
theorem o_203 (l : Launch) (D : va_G) (kA : Nat → ClassId) (z : Nat) (v : Nat → Nat) (rec : mF) (ih : ∀ t σ xs res, rec t σ xs = some res → mSem l D kA z v t σ xs res) (σ : mS) (xs : List Int32) (res : mR) (h : k_203 rec σ xs = some res) : s_203 l D kA z v σ xs res := by
  intro x0 x1 x2 x3 x4 hxs
  subst hxs
  obtain ⟨σf, rf, dd⟩ := res
  have h : (if x0 = x2 then (bnd (rec 203 σ [x3, x4, (-1), (-1), 0]) (fun σ2 r2 => some (σ2, r2, 0))) else (if bin x0 420000 = true then (if 0 ≤ (σ.2.1 43 (Int32.toNatClampNeg x0)) then (if bin x0 420000 = true then (rec 205 σ [x0, x1, x2, x3, x4, 1, (σ.2.1 44 (Int32.toNatClampNeg x0))]) else none) else (if bin x0 420000 = true then (if bin (((((-1) : Int32) - (σ.2.1 43 (Int32.toNatClampNeg x0))) : Int32) + x1) 12 = true then (if 0 ≤ (σ.2.1 106 (Int32.toNatClampNeg (((((-1) : Int32) - (σ.2.1 43 (Int32.toNatClampNeg x0))) : Int32) + x1))) then (if bin (((((-1) : Int32) - (σ.2.1 43 (Int32.toNatClampNeg x0))) : Int32) + x1) 12 = true then (if bin (((((-1) : Int32) - (σ.2.1 43 (Int32.toNatClampNeg x0))) : Int32) + x1) 12 = true then (bnd (rec 203 σ [(σ.2.1 106 (Int32.toNatClampNeg (((((-1) : Int32) - (σ.2.1 43 (Int32.toNatClampNeg x0))) : Int32) + x1))), (σ.2.1 107 (Int32.toNatClampNeg (((((-1) : Int32) - (σ.2.1 43 (Int32.toNatClampNeg x0))) : Int32) + x1))), (-1), (-1), 0]) (fun σ1 r1 => rec 204 σ1 [x0, x1, x2, x3, x4, (((((-1) : Int32) - (σ.2.1 43 (Int32.toNatClampNeg x0))) : Int32) + x1), r1])) else none) else none) else (rec 204 σ [x0, x1, x2, x3, x4, (((((-1) : Int32) - (σ.2.1 43 (Int32.toNatClampNeg x0))) : Int32) + x1), 1])) else none) else none)) else none)) = some (σf, rf, dd) := h
  refine ax_Mi.of (by decide +kernel) (Nat.le_of_ble_eq_true rfl) ?_
  intro p e s m args below meth c C hnm
  have C : ax_C p s m args meth c b_MM_weigh "ClauseProverModel" 8 (some .int) D kA (va_A (mmW kA z v σ) s.heap.size) := C
  obtain ⟨F, hFe⟩ : ∃ F, F = dd + 1 := ⟨_, rfl⟩
  obtain ⟨Lo, hLoe⟩ : ∃ Lo, Lo = 64 * dd + 64 := ⟨_, rfl⟩
  obtain ⟨σ0, hσ0⟩ : ∃ s0, s0 = σ := ⟨_, rfl⟩
  suffices K : AW p l e { frames := F, cells := 0, slots := 0, locals := Lo } s m args below meth c D kA (va_A (mmW kA z v σ0) s.heap.size) 8 (ax_Qi below args s D kA (mmW kA z v σ0) 0 0 (fun r w1 => r = rf ∧ w1 = mmW kA z v σf)) 0 [(0, .ref z), (1, .int x0), (2, .int x1), (3, .int x2), (4, .int x3), (5, .int x4)] [] (mmW kA z v σ) 0 0 by rw [hFe, hLoe, hσ0] at K; exact ax_ls ([(0, .ref z), (1, .int x0), (2, .int x1), (3, .int x2), (4, .int x3), (5, .int x4)]) [0, 1, 2, 3, 4, 5] rfl K
  have C : ax_C p s m args meth c b_MM_weigh "ClauseProverModel" 8 (some .int) D kA (va_A (mmW kA z v σ0) s.heap.size) := by rw [hσ0]; exact C
  have hF : dd + 1 ≤ F := by omega
  have hLo : 64 * dd + 64 ≤ Lo := by omega
  clear hFe hLoe hσ0
  refine ax_iload_n (pc := 0) C d_MM_weigh_0 rfl 1 rfl ?_
  refine ax_iload_n (pc := 1) C d_MM_weigh_1 rfl 3 rfl ?_
  refine ax_icmp_ne (pc := 2) C 17 d_MM_weigh_2 (by decide) (fun hc => ?_) (fun hc => ?_)
  · have h := it_f hc h
    refine ax_aload_n (pc := 17) C d_MM_weigh_17 rfl 0 rfl ?_
    refine mg_145 (pc := 18) C d_MM_weigh_18 ?_
    refine ax_iload_n (pc := 21) C d_MM_weigh_21 rfl 1 rfl ?_
    obtain ⟨hb, h⟩ := it_g h
    refine ml_43 (pc := 22) C d_MM_weigh_22 (bin_in hb) ?_
    refine ax_if_ge (pc := 23) C 74 d_MM_weigh_23 (by decide) (fun hc => ?_) (fun hc => ?_)
    · have h := it_t hc h
      refine ax_iconst (pc := 74) C 1 d_MM_weigh_74 (by decide +kernel) ?_
      refine ax_istore (pc := 75) C d_MM_weigh_75 (Nat.le_of_ble_eq_true rfl) ([(6, .int 1), (0, .ref z), (1, .int x0), (2, .int x1), (3, .int x2), (4, .int x3), (5, .int x4)]) rfl ?_
      refine ax_aload_n (pc := 77) C d_MM_weigh_77 rfl 1 rfl ?_
      refine mg_148 (pc := 78) C d_MM_weigh_78 ?_
      refine ax_iload_n (pc := 81) C d_MM_weigh_81 rfl 2 rfl ?_
      obtain ⟨hb, h⟩ := it_g h
      refine ml_44 (pc := 82) C d_MM_weigh_82 (bin_in hb) ?_
      refine ax_istore (pc := 83) C d_MM_weigh_83 (Nat.le_of_ble_eq_true rfl) ([(7, .int (σ.2.1 44 (Int32.toNatClampNeg x0))), (6, .int 1), (0, .ref z), (1, .int x0), (2, .int x1), (3, .int x2), (4, .int x3), (5, .int x4)]) rfl ?_
      refine ax_ls ([(0, .ref z), (1, .int x0), (2, .int x1), (3, .int x2), (4, .int x3), (5, .int x4), (6, .int 1), (7, .int (σ.2.1 44 (Int32.toNatClampNeg x0)))]) [2, 3, 4, 5, 6, 7, 1, 0] rfl ?_
      have hm : s_205 l D kA z v σ [x0, x1, x2, x3, x4, 1, (σ.2.1 44 (Int32.toNatClampNeg x0))] (σf, rf, _) := ih 205 _ _ _ h
      exact hm _ _ _ _ _ _ _ rfl p e s m args below meth c F Lo σ0 hF hLo C
    · have h := it_f hc h
      refine ax_iconst (pc := 26) C (-1) d_MM_weigh_26 (by decide +kernel) ?_
      refine ax_aload_n (pc := 27) C d_MM_weigh_27 rfl 0 rfl ?_
      refine mg_145 (pc := 28) C d_MM_weigh_28 ?_
      refine ax_iload_n (pc := 31) C d_MM_weigh_31 rfl 1 rfl ?_
      obtain ⟨hb, h⟩ := it_g h
      refine ml_43 (pc := 32) C d_MM_weigh_32 (bin_in hb) ?_
      refine ax_isub (pc := 33) C d_MM_weigh_33 ?_
      refine ax_iload_n (pc := 34) C d_MM_weigh_34 rfl 2 rfl ?_
      refine ax_iadd (pc := 35) C d_MM_weigh_35 ?_
      refine ax_istore (pc := 36) C d_MM_weigh_36 (Nat.le_of_ble_eq_true rfl) ([(6, .int (((((-1) : Int32) - (σ.2.1 43 (Int32.toNatClampNeg x0))) : Int32) + x1)), (0, .ref z), (1, .int x0), (2, .int x1), (3, .int x2), (4, .int x3), (5, .int x4)]) rfl ?_
      refine ax_aload_n (pc := 38) C d_MM_weigh_38 rfl 1 rfl ?_
      refine mg_335 (pc := 39) C d_MM_weigh_39 ?_
      refine ax_iload (pc := 42) C d_MM_weigh_42 0 rfl ?_
      obtain ⟨hb, h⟩ := it_g h
      refine ml_106 (pc := 44) C d_MM_weigh_44 (bin_in hb) ?_
      refine ax_if_ge (pc := 45) C 52 d_MM_weigh_45 (by decide) (fun hc => ?_) (fun hc => ?_)
      · have h := it_t hc h
        refine ax_aload_n (pc := 52) C d_MM_weigh_52 rfl 1 rfl ?_
        refine ax_aload_n (pc := 53) C d_MM_weigh_53 rfl 1 rfl ?_
        refine mg_335 (pc := 54) C d_MM_weigh_54 ?_
        refine ax_iload (pc := 57) C d_MM_weigh_57 0 rfl ?_
        obtain ⟨hb, h⟩ := it_g h
        refine ml_106 (pc := 59) C d_MM_weigh_59 (bin_in hb) ?_
        refine ax_aload_n (pc := 60) C d_MM_weigh_60 rfl 1 rfl ?_
        refine mg_338 (pc := 61) C d_MM_weigh_61 ?_
        refine ax_iload (pc := 64) C d_MM_weigh_64 0 rfl ?_
        obtain ⟨hb, h⟩ := it_g h
        refine ml_107 (pc := 66) C d_MM_weigh_66 (bin_in hb) ?_
        refine ax_iconst (pc := 67) C (-1) d_MM_weigh_67 (by decide +kernel) ?_
        refine ax_iconst (pc := 68) C (-1) d_MM_weigh_68 (by decide +kernel) ?_
        refine ax_iconst (pc := 69) C 0 d_MM_weigh_69 (by decide +kernel) ?_
        obtain ⟨σ1, r1, d1_1, d2_1, h1, h, hd2, hd1⟩ := it_b h
        have hm : s_203 l D kA z v σ [(σ.2.1 106 (Int32.toNatClampNeg (((((-1) : Int32) - (σ.2.1 43 (Int32.toNatClampNeg x0))) : Int32) + x1))), (σ.2.1 107 (Int32.toNatClampNeg (((((-1) : Int32) - (σ.2.1 43 (Int32.toNatClampNeg x0))) : Int32) + x1))), (-1), (-1), 0] (σ1, r1, d1_1) := ih 203 _ _ _ h1
        refine mc_Vi (pc := 70) C (As := [.int (σ.2.1 106 (Int32.toNatClampNeg (((((-1) : Int32) - (σ.2.1 43 (Int32.toNatClampNeg x0))) : Int32) + x1))), .int (σ.2.1 107 (Int32.toNatClampNeg (((((-1) : Int32) - (σ.2.1 43 (Int32.toNatClampNeg x0))) : Int32) + x1))), .int (-1), .int (-1), .int 0]) (rest := []) (hm _ _ _ _ _ rfl) ml_MM_623 d_MM_weigh_70 rfl rfl (by dsimp only; omega) (by dsimp only; omega) (Nat.le_of_ble_eq_true rfl) (Nat.le_of_ble_eq_true rfl) (Nat.le_of_ble_eq_true rfl) ?_
        have hF : d2_1 + 1 ≤ F := by omega
        have hLo : 64 * d2_1 + 64 ≤ Lo := by omega
        refine ax_ls ([(0, .ref z), (1, .int x0), (2, .int x1), (3, .int x2), (4, .int x3), (5, .int x4), (6, .int (((((-1) : Int32) - (σ.2.1 43 (Int32.toNatClampNeg x0))) : Int32) + x1))]) [1, 2, 3, 4, 5, 6, 0] rfl ?_
        have hm : s_204 l D kA z v σ1 [x0, x1, x2, x3, x4, (((((-1) : Int32) - (σ.2.1 43 (Int32.toNatClampNeg x0))) : Int32) + x1), r1] (σf, rf, _) := ih 204 _ _ _ h
        exact hm _ _ _ _ _ _ _ rfl p e s m args below meth c F Lo σ0 hF hLo C
      · have h := it_f hc h
        refine ax_iconst (pc := 48) C 1 d_MM_weigh_48 (by decide +kernel) ?_
        refine ax_goto (pc := 49) C 73 d_MM_weigh_49 (by decide) ?_
        refine ax_ls ([(0, .ref z), (1, .int x0), (2, .int x1), (3, .int x2), (4, .int x3), (5, .int x4), (6, .int (((((-1) : Int32) - (σ.2.1 43 (Int32.toNatClampNeg x0))) : Int32) + x1))]) [1, 2, 3, 4, 5, 6, 0] rfl ?_
        have hm : s_204 l D kA z v σ [x0, x1, x2, x3, x4, (((((-1) : Int32) - (σ.2.1 43 (Int32.toNatClampNeg x0))) : Int32) + x1), 1] (σf, rf, _) := ih 204 _ _ _ h
        exact hm _ _ _ _ _ _ _ rfl p e s m args below meth c F Lo σ0 hF hLo C
  · have h := it_t hc h
    refine ax_aload_n (pc := 5) C d_MM_weigh_5 rfl 0 rfl ?_
    refine ax_iload (pc := 6) C d_MM_weigh_6 4 rfl ?_
    refine ax_iload (pc := 8) C d_MM_weigh_8 5 rfl ?_
    refine ax_iconst (pc := 10) C (-1) d_MM_weigh_10 (by decide +kernel) ?_
    refine ax_iconst (pc := 11) C (-1) d_MM_weigh_11 (by decide +kernel) ?_
    refine ax_iconst (pc := 12) C 0 d_MM_weigh_12 (by decide +kernel) ?_
    obtain ⟨σ2, r2, d1_2, d2_2, h1, h, hd2, hd1⟩ := it_b h
    have hm : s_203 l D kA z v σ [x3, x4, (-1), (-1), 0] (σ2, r2, d1_2) := ih 203 _ _ _ h1
    refine mc_Vi (pc := 13) C (As := [.int x3, .int x4, .int (-1), .int (-1), .int 0]) (rest := []) (hm _ _ _ _ _ rfl) ml_MM_623 d_MM_weigh_13 rfl rfl (by dsimp only; omega) (by dsimp only; omega) (Nat.le_of_ble_eq_true rfl) (Nat.le_of_ble_eq_true rfl) (Nat.le_of_ble_eq_true rfl) ?_
    have hF : d2_2 + 1 ≤ F := by omega
    have hLo : 64 * d2_2 + 64 ≤ Lo := by omega
    cases h
    exact ax_iret (pc := 16) C d_MM_weigh_16 ⟨rfl, rfl⟩ (Nat.le_refl _) (Nat.le_refl _)
set_option maxHeartbeats 4000000 in
set_option maxRecDepth 100000 in
theorem o_204 (l : Launch) (D : va_G) (kA : Nat → ClassId) (z : Nat) (v : Nat → Nat) (rec : mF) (ih : ∀ t σ xs res, rec t σ xs = some res → mSem l D kA z v t σ xs res) (σ : mS) (xs : List Int32) (res : mR) (h : k_204 rec σ xs = some res) : s_204 l D kA z v σ xs res := by
  intro x0 x1 x2 x3 x4 x5 x6 hxs
  subst hxs
  obtain ⟨σf, rf, dd⟩ := res
  have h : (some (σ, x6, 0)) = some (σf, rf, dd) := h
  intro p e s m args below meth c F Lo σ0 hF hLo C
  dsimp only at hF hLo ⊢
  cases h
  exact ax_iret (pc := 73) C d_MM_weigh_73 ⟨rfl, rfl⟩ (Nat.le_refl _) (Nat.le_refl _)
set_option maxHeartbeats 4000000 in
set_option maxRecDepth 100000 in
theorem o_205 (l : Launch) (D : va_G) (kA : Nat → ClassId) (z : Nat) (v : Nat → Nat) (rec : mF) (ih : ∀ t σ xs res, rec t σ xs = some res → mSem l D kA z v t σ xs res) (σ : mS) (xs : List Int32) (res : mR) (h : k_205 rec σ xs = some res) : s_205 l D kA z v σ xs res := by
  intro x0 x1 x2 x3 x4 x5 x6 hxs
  subst hxs
  obtain ⟨σf, rf, dd⟩ := res
  have h : (if x6 < 0 then (rec 206 σ [x0, x1, x2, x3, x4, x5, x6]) else (if 1000 ≤ x5 then (rec 206 σ [x0, x1, x2, x3, x4, x5, x6]) else (bnd (rec 203 σ [x6, x1, x2, x3, x4]) (fun σ1 r1 => if bin x6 420000 = true then (rec 205 σ1 [x0, x1, x2, x3, x4, ((x5 : Int32) + r1), (σ1.2.1 45 (Int32.toNatClampNeg x6))]) else none)))) = some (σf, rf, dd) := h
  intro p e s m args below meth c F Lo σ0 hF hLo C
  dsimp only at hF hLo ⊢
  refine ax_iload (pc := 85) C d_MM_weigh_85 7 rfl ?_
  refine ax_if_lt (pc := 87) C 127 d_MM_weigh_87 (by decide) (fun hc => ?_) (fun hc => ?_)
  · have h := it_t hc h
    refine ax_ls ([(0, .ref z), (1, .int x0), (2, .int x1), (3, .int x2), (4, .int x3), (5, .int x4), (6, .int x5), (7, .int x6)]) [0, 1, 2, 3, 4, 5, 6, 7] rfl ?_
    have hm : s_206 l D kA z v σ [x0, x1, x2, x3, x4, x5, x6] (σf, rf, _) := ih 206 _ _ _ h
    exact hm _ _ _ _ _ _ _ rfl p e s m args below meth c F Lo σ0 hF hLo C
  · have h := it_f hc h
    refine ax_iload (pc := 90) C d_MM_weigh_90 6 rfl ?_
    refine ax_sipush (pc := 92) C 1000 d_MM_weigh_92 (by decide +kernel) ?_
    refine ax_icmp_ge (pc := 95) C 127 d_MM_weigh_95 (by decide) (fun hc => ?_) (fun hc => ?_)
    · have h := it_t hc h
      refine ax_ls ([(0, .ref z), (1, .int x0), (2, .int x1), (3, .int x2), (4, .int x3), (5, .int x4), (6, .int x5), (7, .int x6)]) [0, 1, 2, 3, 4, 5, 6, 7] rfl ?_
      have hm : s_206 l D kA z v σ [x0, x1, x2, x3, x4, x5, x6] (σf, rf, _) := ih 206 _ _ _ h
      exact hm _ _ _ _ _ _ _ rfl p e s m args below meth c F Lo σ0 hF hLo C
    · have h := it_f hc h
      refine ax_iload (pc := 98) C d_MM_weigh_98 6 rfl ?_
      refine ax_aload_n (pc := 100) C d_MM_weigh_100 rfl 0 rfl ?_
      refine ax_iload (pc := 101) C d_MM_weigh_101 7 rfl ?_
      refine ax_iload_n (pc := 103) C d_MM_weigh_103 rfl 2 rfl ?_
      refine ax_iload_n (pc := 104) C d_MM_weigh_104 rfl 3 rfl ?_
      refine ax_iload (pc := 105) C d_MM_weigh_105 4 rfl ?_
      refine ax_iload (pc := 107) C d_MM_weigh_107 5 rfl ?_
      obtain ⟨σ1, r1, d1_1, d2_1, h1, h, hd2, hd1⟩ := it_b h
      have hm : s_203 l D kA z v σ [x6, x1, x2, x3, x4] (σ1, r1, d1_1) := ih 203 _ _ _ h1
      refine mc_Vi (pc := 109) C (As := [.int x6, .int x1, .int x2, .int x3, .int x4]) (rest := [.int x5]) (hm _ _ _ _ _ rfl) ml_MM_623 d_MM_weigh_109 rfl rfl (by dsimp only; omega) (by dsimp only; omega) (Nat.le_of_ble_eq_true rfl) (Nat.le_of_ble_eq_true rfl) (Nat.le_of_ble_eq_true rfl) ?_
      have hF : d2_1 + 1 ≤ F := by omega
      have hLo : 64 * d2_1 + 64 ≤ Lo := by omega
      refine ax_iadd (pc := 112) C d_MM_weigh_112 ?_
      refine ax_istore (pc := 113) C d_MM_weigh_113 (Nat.le_of_ble_eq_true rfl) ([(6, .int ((x5 : Int32) + r1)), (0, .ref z), (1, .int x0), (2, .int x1), (3, .int x2), (4, .int x3), (5, .int x4), (7, .int x6)]) rfl ?_
      refine ax_aload_n (pc := 115) C d_MM_weigh_115 rfl 1 rfl ?_
      refine mg_151 (pc := 116) C d_MM_weigh_116 ?_
      refine ax_iload (pc := 119) C d_MM_weigh_119 7 rfl ?_
      obtain ⟨hb, h⟩ := it_g h
      refine ml_45 (pc := 121) C d_MM_weigh_121 (bin_in hb) ?_
      refine ax_istore (pc := 122) C d_MM_weigh_122 (Nat.le_of_ble_eq_true rfl) ([(7, .int (σ1.2.1 45 (Int32.toNatClampNeg x6))), (6, .int ((x5 : Int32) + r1)), (0, .ref z), (1, .int x0), (2, .int x1), (3, .int x2), (4, .int x3), (5, .int x4)]) rfl ?_
      refine ax_goto (pc := 124) C 85 d_MM_weigh_124 (by decide) ?_
      refine ax_ls ([(0, .ref z), (1, .int x0), (2, .int x1), (3, .int x2), (4, .int x3), (5, .int x4), (6, .int ((x5 : Int32) + r1)), (7, .int (σ1.2.1 45 (Int32.toNatClampNeg x6)))]) [2, 3, 4, 5, 6, 7, 1, 0] rfl ?_
      have hm : s_205 l D kA z v σ1 [x0, x1, x2, x3, x4, ((x5 : Int32) + r1), (σ1.2.1 45 (Int32.toNatClampNeg x6))] (σf, rf, _) := ih 205 _ _ _ h
      exact hm _ _ _ _ _ _ _ rfl p e s m args below meth c F Lo σ0 hF hLo C
set_option maxHeartbeats 4000000 in
set_option maxRecDepth 100000 in
theorem o_206 (l : Launch) (D : va_G) (kA : Nat → ClassId) (z : Nat) (v : Nat → Nat) (rec : mF) (ih : ∀ t σ xs res, rec t σ xs = some res → mSem l D kA z v t σ xs res) (σ : mS) (xs : List Int32) (res : mR) (h : k_206 rec σ xs = some res) : s_206 l D kA z v σ xs res := by
  intro x0 x1 x2 x3 x4 x5 x6 hxs
  subst hxs
  obtain ⟨σf, rf, dd⟩ := res
  have h : (some (σ, (if x5 < 1000 then x5 else 1000), 0)) = some (σf, rf, dd) := h
  intro p e s m args below meth c F Lo σ0 hF hLo C
  dsimp only at hF hLo ⊢
  refine ax_sipush (pc := 127) C 1000 d_MM_weigh_127 (by decide +kernel) ?_
  refine ax_iload (pc := 130) C d_MM_weigh_130 6 rfl ?_
  refine mx_min (pc := 132) C tb_methodLink_2100 tb_static_610 tb_initialized_19 tcm_min d_MM_weigh_132 hF (Nat.le_of_ble_eq_true rfl) ?_
  cases h
  exact ax_iret (pc := 135) C d_MM_weigh_135 ⟨rfl, rfl⟩ (Nat.le_refl _) (Nat.le_refl _)
set_option maxHeartbeats 4000000 in
set_option maxRecDepth 100000 in
theorem o_207 (l : Launch) (D : va_G) (kA : Nat → ClassId) (z : Nat) (v : Nat → Nat) (rec : mF) (ih : ∀ t σ xs res, rec t σ xs = some res → mSem l D kA z v t σ xs res) (σ : mS) (xs : List Int32) (res : mR) (h : k_207 rec σ xs = some res) : s_207 l D kA z v σ xs res := by
  intro x0 x1 x2 x3 x4 hxs
  subst hxs
  obtain ⟨σf, rf, dd⟩ := res
  have h : (if x0 = x2 then (bnd (rec 207 σ [x3, x4, (-1), (-1), 0]) (fun σ4 r4 => some (σ4, r4, 0))) else (if bin x0 420000 = true then (if 0 ≤ (σ.2.1 43 (Int32.toNatClampNeg x0)) then (if bin x0 420000 = true then (bnd (rec 71 σ [(σ.2.1 43 (Int32.toNatClampNeg x0))]) (fun σ1 r1 => if bin x0 420000 = true then (rec 209 σ1 [x0, x1, x2, x3, x4, r1, (-1), (σ1.2.1 44 (Int32.toNatClampNeg x0))]) else none)) else none) else (if bin x0 420000 = true then (if bin (((((-1) : Int32) - (σ.2.1 43 (Int32.toNatClampNeg x0))) : Int32) + x1) 12 = true then (if 0 ≤ (σ.2.1 106 (Int32.toNatClampNeg (((((-1) : Int32) - (σ.2.1 43 (Int32.toNatClampNeg x0))) : Int32) + x1))) then (if bin (((((-1) : Int32) - (σ.2.1 43 (Int32.toNatClampNeg x0))) : Int32) + x1) 12 = true then (if bin (((((-1) : Int32) - (σ.2.1 43 (Int32.toNatClampNeg x0))) : Int32) + x1) 12 = true then (bnd (rec 207 σ [(σ.2.1 106 (Int32.toNatClampNeg (((((-1) : Int32) - (σ.2.1 43 (Int32.toNatClampNeg x0))) : Int32) + x1))), (σ.2.1 107 (Int32.toNatClampNeg (((((-1) : Int32) - (σ.2.1 43 (Int32.toNatClampNeg x0))) : Int32) + x1))), (-1), (-1), 0]) (fun σ2 r2 => rec 208 σ2 [x0, x1, x2, x3, x4, (((((-1) : Int32) - (σ.2.1 43 (Int32.toNatClampNeg x0))) : Int32) + x1), r2])) else none) else none) else (bnd (rec 71 σ [(((-1) : Int32) - (((((-1) : Int32) - (σ.2.1 43 (Int32.toNatClampNeg x0))) : Int32) + x1))]) (fun σ3 r3 => rec 208 σ3 [x0, x1, x2, x3, x4, (((((-1) : Int32) - (σ.2.1 43 (Int32.toNatClampNeg x0))) : Int32) + x1), r3]))) else none) else none)) else none)) = some (σf, rf, dd) := h
  refine ax_Mi.of (by decide +kernel) (Nat.le_of_ble_eq_true rfl) ?_
  intro p e s m args below meth c C hnm
  have C : ax_C p s m args meth c b_MM_with "ClauseProverModel" 10 (some .int) D kA (va_A (mmW kA z v σ) s.heap.size) := C
  obtain ⟨F, hFe⟩ : ∃ F, F = dd + 1 := ⟨_, rfl⟩
  obtain ⟨Lo, hLoe⟩ : ∃ Lo, Lo = 64 * dd + 64 := ⟨_, rfl⟩
  obtain ⟨σ0, hσ0⟩ : ∃ s0, s0 = σ := ⟨_, rfl⟩
  suffices K : AW p l e { frames := F, cells := 0, slots := 0, locals := Lo } s m args below meth c D kA (va_A (mmW kA z v σ0) s.heap.size) 10 (ax_Qi below args s D kA (mmW kA z v σ0) 0 0 (fun r w1 => r = rf ∧ w1 = mmW kA z v σf)) 0 [(0, .ref z), (1, .int x0), (2, .int x1), (3, .int x2), (4, .int x3), (5, .int x4)] [] (mmW kA z v σ) 0 0 by rw [hFe, hLoe, hσ0] at K; exact ax_ls ([(0, .ref z), (1, .int x0), (2, .int x1), (3, .int x2), (4, .int x3), (5, .int x4)]) [0, 1, 2, 3, 4, 5] rfl K
  have C : ax_C p s m args meth c b_MM_with "ClauseProverModel" 10 (some .int) D kA (va_A (mmW kA z v σ0) s.heap.size) := by rw [hσ0]; exact C
  have hF : dd + 1 ≤ F := by omega
  have hLo : 64 * dd + 64 ≤ Lo := by omega
  clear hFe hLoe hσ0
  refine ax_iload_n (pc := 0) C d_MM_with_0 rfl 1 rfl ?_
  refine ax_iload_n (pc := 1) C d_MM_with_1 rfl 3 rfl ?_
  refine ax_icmp_ne (pc := 2) C 17 d_MM_with_2 (by decide) (fun hc => ?_) (fun hc => ?_)
  · have h := it_f hc h
    refine ax_aload_n (pc := 17) C d_MM_with_17 rfl 0 rfl ?_
    refine mg_145 (pc := 18) C d_MM_with_18 ?_
    refine ax_iload_n (pc := 21) C d_MM_with_21 rfl 1 rfl ?_
    obtain ⟨hb, h⟩ := it_g h
    refine ml_43 (pc := 22) C d_MM_with_22 (bin_in hb) ?_
    refine ax_if_ge (pc := 23) C 81 d_MM_with_23 (by decide) (fun hc => ?_) (fun hc => ?_)
    · have h := it_t hc h
      refine ax_aload_n (pc := 81) C d_MM_with_81 rfl 0 rfl ?_
      refine ax_aload_n (pc := 82) C d_MM_with_82 rfl 0 rfl ?_
      refine mg_145 (pc := 83) C d_MM_with_83 ?_
      refine ax_iload_n (pc := 86) C d_MM_with_86 rfl 1 rfl ?_
      obtain ⟨hb, h⟩ := it_g h
      refine ml_43 (pc := 87) C d_MM_with_87 (bin_in hb) ?_
      obtain ⟨σ1, r1, d1_1, d2_1, h1, h, hd2, hd1⟩ := it_b h
      have hm : s_71 l D kA z v σ [(σ.2.1 43 (Int32.toNatClampNeg x0))] (σ1, r1, d1_1) := ih 71 _ _ _ h1
      refine mc_Vi (pc := 88) C (As := [.int (σ.2.1 43 (Int32.toNatClampNeg x0))]) (rest := []) (hm _ rfl) ml_MM_516 d_MM_with_88 rfl rfl (by dsimp only; omega) (by dsimp only; omega) (Nat.le_of_ble_eq_true rfl) (Nat.le_of_ble_eq_true rfl) (Nat.le_of_ble_eq_true rfl) ?_
      have hF : d2_1 + 1 ≤ F := by omega
      have hLo : 64 * d2_1 + 64 ≤ Lo := by omega
      refine ax_istore (pc := 91) C d_MM_with_91 (Nat.le_of_ble_eq_true rfl) ([(6, .int r1), (0, .ref z), (1, .int x0), (2, .int x1), (3, .int x2), (4, .int x3), (5, .int x4)]) rfl ?_
      refine ax_iconst (pc := 93) C (-1) d_MM_with_93 (by decide +kernel) ?_
      refine ax_istore (pc := 94) C d_MM_with_94 (Nat.le_of_ble_eq_true rfl) ([(7, .int (-1)), (6, .int r1), (0, .ref z), (1, .int x0), (2, .int x1), (3, .int x2), (4, .int x3), (5, .int x4)]) rfl ?_
      refine ax_aload_n (pc := 96) C d_MM_with_96 rfl 2 rfl ?_
      refine mg_148 (pc := 97) C d_MM_with_97 ?_
      refine ax_iload_n (pc := 100) C d_MM_with_100 rfl 3 rfl ?_
      obtain ⟨hb, h⟩ := it_g h
      refine ml_44 (pc := 101) C d_MM_with_101 (bin_in hb) ?_
      refine ax_istore (pc := 102) C d_MM_with_102 (Nat.le_of_ble_eq_true rfl) ([(8, .int (σ1.2.1 44 (Int32.toNatClampNeg x0))), (7, .int (-1)), (6, .int r1), (0, .ref z), (1, .int x0), (2, .int x1), (3, .int x2), (4, .int x3), (5, .int x4)]) rfl ?_
      refine ax_ls ([(0, .ref z), (1, .int x0), (2, .int x1), (3, .int x2), (4, .int x3), (5, .int x4), (6, .int r1), (7, .int (-1)), (8, .int (σ1.2.1 44 (Int32.toNatClampNeg x0)))]) [3, 4, 5, 6, 7, 8, 2, 1, 0] rfl ?_
      have hm : s_209 l D kA z v σ1 [x0, x1, x2, x3, x4, r1, (-1), (σ1.2.1 44 (Int32.toNatClampNeg x0))] (σf, rf, _) := ih 209 _ _ _ h
      exact hm _ _ _ _ _ _ _ _ rfl p e s m args below meth c F Lo σ0 hF hLo C
    · have h := it_f hc h
      refine ax_iconst (pc := 26) C (-1) d_MM_with_26 (by decide +kernel) ?_
      refine ax_aload_n (pc := 27) C d_MM_with_27 rfl 0 rfl ?_
      refine mg_145 (pc := 28) C d_MM_with_28 ?_
      refine ax_iload_n (pc := 31) C d_MM_with_31 rfl 1 rfl ?_
      obtain ⟨hb, h⟩ := it_g h
      refine ml_43 (pc := 32) C d_MM_with_32 (bin_in hb) ?_
      refine ax_isub (pc := 33) C d_MM_with_33 ?_
      refine ax_iload_n (pc := 34) C d_MM_with_34 rfl 2 rfl ?_
      refine ax_iadd (pc := 35) C d_MM_with_35 ?_
      refine ax_istore (pc := 36) C d_MM_with_36 (Nat.le_of_ble_eq_true rfl) ([(6, .int (((((-1) : Int32) - (σ.2.1 43 (Int32.toNatClampNeg x0))) : Int32) + x1)), (0, .ref z), (1, .int x0), (2, .int x1), (3, .int x2), (4, .int x3), (5, .int x4)]) rfl ?_
      refine ax_aload_n (pc := 38) C d_MM_with_38 rfl 1 rfl ?_
      refine mg_335 (pc := 39) C d_MM_with_39 ?_
      refine ax_iload (pc := 42) C d_MM_with_42 0 rfl ?_
      obtain ⟨hb, h⟩ := it_g h
      refine ml_106 (pc := 44) C d_MM_with_44 (bin_in hb) ?_
      refine ax_if_ge (pc := 45) C 59 d_MM_with_45 (by decide) (fun hc => ?_) (fun hc => ?_)
      · have h := it_t hc h
        refine ax_aload_n (pc := 59) C d_MM_with_59 rfl 1 rfl ?_
        refine ax_aload_n (pc := 60) C d_MM_with_60 rfl 1 rfl ?_
        refine mg_335 (pc := 61) C d_MM_with_61 ?_
        refine ax_iload (pc := 64) C d_MM_with_64 0 rfl ?_
        obtain ⟨hb, h⟩ := it_g h
        refine ml_106 (pc := 66) C d_MM_with_66 (bin_in hb) ?_
        refine ax_aload_n (pc := 67) C d_MM_with_67 rfl 1 rfl ?_
        refine mg_338 (pc := 68) C d_MM_with_68 ?_
        refine ax_iload (pc := 71) C d_MM_with_71 0 rfl ?_
        obtain ⟨hb, h⟩ := it_g h
        refine ml_107 (pc := 73) C d_MM_with_73 (bin_in hb) ?_
        refine ax_iconst (pc := 74) C (-1) d_MM_with_74 (by decide +kernel) ?_
        refine ax_iconst (pc := 75) C (-1) d_MM_with_75 (by decide +kernel) ?_
        refine ax_iconst (pc := 76) C 0 d_MM_with_76 (by decide +kernel) ?_
        obtain ⟨σ2, r2, d1_2, d2_2, h1, h, hd2, hd1⟩ := it_b h
        have hm : s_207 l D kA z v σ [(σ.2.1 106 (Int32.toNatClampNeg (((((-1) : Int32) - (σ.2.1 43 (Int32.toNatClampNeg x0))) : Int32) + x1))), (σ.2.1 107 (Int32.toNatClampNeg (((((-1) : Int32) - (σ.2.1 43 (Int32.toNatClampNeg x0))) : Int32) + x1))), (-1), (-1), 0] (σ2, r2, d1_2) := ih 207 _ _ _ h1
        refine mc_Vi (pc := 77) C (As := [.int (σ.2.1 106 (Int32.toNatClampNeg (((((-1) : Int32) - (σ.2.1 43 (Int32.toNatClampNeg x0))) : Int32) + x1))), .int (σ.2.1 107 (Int32.toNatClampNeg (((((-1) : Int32) - (σ.2.1 43 (Int32.toNatClampNeg x0))) : Int32) + x1))), .int (-1), .int (-1), .int 0]) (rest := []) (hm _ _ _ _ _ rfl) ml_MM_627 d_MM_with_77 rfl rfl (by dsimp only; omega) (by dsimp only; omega) (Nat.le_of_ble_eq_true rfl) (Nat.le_of_ble_eq_true rfl) (Nat.le_of_ble_eq_true rfl) ?_
        have hF : d2_2 + 1 ≤ F := by omega
        have hLo : 64 * d2_2 + 64 ≤ Lo := by omega
        refine ax_ls ([(0, .ref z), (1, .int x0), (2, .int x1), (3, .int x2), (4, .int x3), (5, .int x4), (6, .int (((((-1) : Int32) - (σ.2.1 43 (Int32.toNatClampNeg x0))) : Int32) + x1))]) [1, 2, 3, 4, 5, 6, 0] rfl ?_
        have hm : s_208 l D kA z v σ2 [x0, x1, x2, x3, x4, (((((-1) : Int32) - (σ.2.1 43 (Int32.toNatClampNeg x0))) : Int32) + x1), r2] (σf, rf, _) := ih 208 _ _ _ h
        exact hm _ _ _ _ _ _ _ rfl p e s m args below meth c F Lo σ0 hF hLo C
      · have h := it_f hc h
        refine ax_aload_n (pc := 48) C d_MM_with_48 rfl 1 rfl ?_
        refine ax_iconst (pc := 49) C (-1) d_MM_with_49 (by decide +kernel) ?_
        refine ax_iload (pc := 50) C d_MM_with_50 0 rfl ?_
        refine ax_isub (pc := 52) C d_MM_with_52 ?_
        obtain ⟨σ3, r3, d1_3, d2_3, h1, h, hd2, hd1⟩ := it_b h
        have hm : s_71 l D kA z v σ [(((-1) : Int32) - (((((-1) : Int32) - (σ.2.1 43 (Int32.toNatClampNeg x0))) : Int32) + x1))] (σ3, r3, d1_3) := ih 71 _ _ _ h1
        refine mc_Vi (pc := 53) C (As := [.int (((-1) : Int32) - (((((-1) : Int32) - (σ.2.1 43 (Int32.toNatClampNeg x0))) : Int32) + x1))]) (rest := []) (hm _ rfl) ml_MM_516 d_MM_with_53 rfl rfl (by dsimp only; omega) (by dsimp only; omega) (Nat.le_of_ble_eq_true rfl) (Nat.le_of_ble_eq_true rfl) (Nat.le_of_ble_eq_true rfl) ?_
        have hF : d2_3 + 1 ≤ F := by omega
        have hLo : 64 * d2_3 + 64 ≤ Lo := by omega
        refine ax_goto (pc := 56) C 80 d_MM_with_56 (by decide) ?_
        refine ax_ls ([(0, .ref z), (1, .int x0), (2, .int x1), (3, .int x2), (4, .int x3), (5, .int x4), (6, .int (((((-1) : Int32) - (σ.2.1 43 (Int32.toNatClampNeg x0))) : Int32) + x1))]) [1, 2, 3, 4, 5, 6, 0] rfl ?_
        have hm : s_208 l D kA z v σ3 [x0, x1, x2, x3, x4, (((((-1) : Int32) - (σ.2.1 43 (Int32.toNatClampNeg x0))) : Int32) + x1), r3] (σf, rf, _) := ih 208 _ _ _ h
        exact hm _ _ _ _ _ _ _ rfl p e s m args below meth c F Lo σ0 hF hLo C
  · have h := it_t hc h
    refine ax_aload_n (pc := 5) C d_MM_with_5 rfl 0 rfl ?_
    refine ax_iload (pc := 6) C d_MM_with_6 4 rfl ?_
    refine ax_iload (pc := 8) C d_MM_with_8 5 rfl ?_
    refine ax_iconst (pc := 10) C (-1) d_MM_with_10 (by decide +kernel) ?_
    refine ax_iconst (pc := 11) C (-1) d_MM_with_11 (by decide +kernel) ?_
    refine ax_iconst (pc := 12) C 0 d_MM_with_12 (by decide +kernel) ?_
    obtain ⟨σ4, r4, d1_4, d2_4, h1, h, hd2, hd1⟩ := it_b h
    have hm : s_207 l D kA z v σ [x3, x4, (-1), (-1), 0] (σ4, r4, d1_4) := ih 207 _ _ _ h1
    refine mc_Vi (pc := 13) C (As := [.int x3, .int x4, .int (-1), .int (-1), .int 0]) (rest := []) (hm _ _ _ _ _ rfl) ml_MM_627 d_MM_with_13 rfl rfl (by dsimp only; omega) (by dsimp only; omega) (Nat.le_of_ble_eq_true rfl) (Nat.le_of_ble_eq_true rfl) (Nat.le_of_ble_eq_true rfl) ?_
    have hF : d2_4 + 1 ≤ F := by omega
    have hLo : 64 * d2_4 + 64 ≤ Lo := by omega
    cases h
    exact ax_iret (pc := 16) C d_MM_with_16 ⟨rfl, rfl⟩ (Nat.le_refl _) (Nat.le_refl _)
set_option maxHeartbeats 4000000 in
set_option maxRecDepth 100000 in
theorem o_208 (l : Launch) (D : va_G) (kA : Nat → ClassId) (z : Nat) (v : Nat → Nat) (rec : mF) (ih : ∀ t σ xs res, rec t σ xs = some res → mSem l D kA z v t σ xs res) (σ : mS) (xs : List Int32) (res : mR) (h : k_208 rec σ xs = some res) : s_208 l D kA z v σ xs res := by
  intro x0 x1 x2 x3 x4 x5 x6 hxs
  subst hxs
  obtain ⟨σf, rf, dd⟩ := res
  have h : (some (σ, x6, 0)) = some (σf, rf, dd) := h
  intro p e s m args below meth c F Lo σ0 hF hLo C
  dsimp only at hF hLo ⊢
  cases h
  exact ax_iret (pc := 80) C d_MM_with_80 ⟨rfl, rfl⟩ (Nat.le_refl _) (Nat.le_refl _)
set_option maxHeartbeats 4000000 in
set_option maxRecDepth 100000 in
theorem o_209 (l : Launch) (D : va_G) (kA : Nat → ClassId) (z : Nat) (v : Nat → Nat) (rec : mF) (ih : ∀ t σ xs res, rec t σ xs = some res → mSem l D kA z v t σ xs res) (σ : mS) (xs : List Int32) (res : mR) (h : k_209 rec σ xs = some res) : s_209 l D kA z v σ xs res := by
  intro x0 x1 x2 x3 x4 x5 x6 x7 hxs
  subst hxs
  obtain ⟨σf, rf, dd⟩ := res
  have h : (if x7 < 0 then (some (σ, x5, 0)) else (bnd (rec 207 σ [x7, x1, x2, x3, x4]) (fun σ1 r1 => if 0 ≤ x6 then (if bin x6 420000 = true then (lt_ (mA σ1 45 (Int32.toNatClampNeg x6) r1) (fun σ2 => rec 210 σ2 [x0, x1, x2, x3, x4, x5, x6, x7, r1])) else none) else (if bin x5 420000 = true then (lt_ (mA σ1 44 (Int32.toNatClampNeg x5) r1) (fun σ3 => rec 210 σ3 [x0, x1, x2, x3, x4, x5, x6, x7, r1])) else none)))) = some (σf, rf, dd) := h
  intro p e s m args below meth c F Lo σ0 hF hLo C
  dsimp only at hF hLo ⊢
  refine ax_iload (pc := 104) C d_MM_with_104 8 rfl ?_
  refine ax_if_lt (pc := 106) C 182 d_MM_with_106 (by decide) (fun hc => ?_) (fun hc => ?_)
  · have h := it_t hc h
    refine ax_iload (pc := 182) C d_MM_with_182 6 rfl ?_
    cases h
    exact ax_iret (pc := 184) C d_MM_with_184 ⟨rfl, rfl⟩ (Nat.le_refl _) (Nat.le_refl _)
  · have h := it_f hc h
    refine ax_aload_n (pc := 109) C d_MM_with_109 rfl 0 rfl ?_
    refine ax_iload (pc := 110) C d_MM_with_110 8 rfl ?_
    refine ax_iload_n (pc := 112) C d_MM_with_112 rfl 2 rfl ?_
    refine ax_iload_n (pc := 113) C d_MM_with_113 rfl 3 rfl ?_
    refine ax_iload (pc := 114) C d_MM_with_114 4 rfl ?_
    refine ax_iload (pc := 116) C d_MM_with_116 5 rfl ?_
    obtain ⟨σ1, r1, d1_1, d2_1, h1, h, hd2, hd1⟩ := it_b h
    have hm : s_207 l D kA z v σ [x7, x1, x2, x3, x4] (σ1, r1, d1_1) := ih 207 _ _ _ h1
    refine mc_Vi (pc := 118) C (As := [.int x7, .int x1, .int x2, .int x3, .int x4]) (rest := []) (hm _ _ _ _ _ rfl) ml_MM_627 d_MM_with_118 rfl rfl (by dsimp only; omega) (by dsimp only; omega) (Nat.le_of_ble_eq_true rfl) (Nat.le_of_ble_eq_true rfl) (Nat.le_of_ble_eq_true rfl) ?_
    have hF : d2_1 + 1 ≤ F := by omega
    have hLo : 64 * d2_1 + 64 ≤ Lo := by omega
    refine ax_istore (pc := 121) C d_MM_with_121 (Nat.le_of_ble_eq_true rfl) ([(9, .int r1), (0, .ref z), (1, .int x0), (2, .int x1), (3, .int x2), (4, .int x3), (5, .int x4), (6, .int x5), (7, .int x6), (8, .int x7)]) rfl ?_
    refine ax_iload (pc := 123) C d_MM_with_123 8 rfl ?_
    refine ax_if_ge (pc := 125) C 140 d_MM_with_125 (by decide) (fun hc => ?_) (fun hc => ?_)
    · have h := it_t hc h
      refine ax_aload_n (pc := 140) C d_MM_with_140 rfl 1 rfl ?_
      refine mg_151 (pc := 141) C d_MM_with_141 ?_
      refine ax_iload (pc := 144) C d_MM_with_144 8 rfl ?_
      refine ax_iload (pc := 146) C d_MM_with_146 0 rfl ?_
      obtain ⟨hb, h⟩ := it_g h
      refine ms_45 (pc := 148) C d_MM_with_148 (bin_in hb) ?_
      have h := it_l h
      generalize mA σ1 45 (Int32.toNatClampNeg x6) r1 = σ2 at h ⊢
      refine ax_ls ([(0, .ref z), (1, .int x0), (2, .int x1), (3, .int x2), (4, .int x3), (5, .int x4), (6, .int x5), (7, .int x6), (8, .int x7), (9, .int r1)]) [1, 2, 3, 4, 5, 6, 7, 8, 9, 0] rfl ?_
      have hm : s_210 l D kA z v σ2 [x0, x1, x2, x3, x4, x5, x6, x7, r1] (σf, rf, _) := ih 210 _ _ _ h
      exact hm _ _ _ _ _ _ _ _ _ rfl p e s m args below meth c F Lo σ0 hF hLo C
    · have h := it_f hc h
      refine ax_aload_n (pc := 128) C d_MM_with_128 rfl 1 rfl ?_
      refine mg_148 (pc := 129) C d_MM_with_129 ?_
      refine ax_iload (pc := 132) C d_MM_with_132 7 rfl ?_
      refine ax_iload (pc := 134) C d_MM_with_134 0 rfl ?_
      obtain ⟨hb, h⟩ := it_g h
      refine ms_44 (pc := 136) C d_MM_with_136 (bin_in hb) ?_
      have h := it_l h
      generalize mA σ1 44 (Int32.toNatClampNeg x5) r1 = σ3 at h ⊢
      refine ax_goto (pc := 137) C 149 d_MM_with_137 (by decide) ?_
      refine ax_ls ([(0, .ref z), (1, .int x0), (2, .int x1), (3, .int x2), (4, .int x3), (5, .int x4), (6, .int x5), (7, .int x6), (8, .int x7), (9, .int r1)]) [1, 2, 3, 4, 5, 6, 7, 8, 9, 0] rfl ?_
      have hm : s_210 l D kA z v σ3 [x0, x1, x2, x3, x4, x5, x6, x7, r1] (σf, rf, _) := ih 210 _ _ _ h
      exact hm _ _ _ _ _ _ _ _ _ rfl p e s m args below meth c F Lo σ0 hF hLo C
set_option maxHeartbeats 4000000 in
set_option maxRecDepth 100000 in
theorem o_210 (l : Launch) (D : va_G) (kA : Nat → ClassId) (z : Nat) (v : Nat → Nat) (rec : mF) (ih : ∀ t σ xs res, rec t σ xs = some res → mSem l D kA z v t σ xs res) (σ : mS) (xs : List Int32) (res : mR) (h : k_210 rec σ xs = some res) : s_210 l D kA z v σ xs res := by
  intro x0 x1 x2 x3 x4 x5 x6 x7 x8 hxs
  subst hxs
  obtain ⟨σf, rf, dd⟩ := res
  have h : (if bin x5 420000 = true then (if bin x8 420000 = true then (if bin x5 420000 = true then (lt_ (mA σ 46 (Int32.toNatClampNeg x5) (((σ.2.1 46 (Int32.toNatClampNeg x5)) : Int32) + (σ.2.1 46 (Int32.toNatClampNeg x8)))) (fun σ1 => if bin x7 420000 = true then (rec 209 σ1 [x0, x1, x2, x3, x4, x5, x8, (σ1.2.1 45 (Int32.toNatClampNeg x7))]) else none)) else none) else none) else none) = some (σf, rf, dd) := h
  intro p e s m args below meth c F Lo σ0 hF hLo C
  dsimp only at hF hLo ⊢
  refine ax_iload (pc := 149) C d_MM_with_149 9 rfl ?_
  refine ax_istore (pc := 151) C d_MM_with_151 (Nat.le_of_ble_eq_true rfl) ([(7, .int x8), (0, .ref z), (1, .int x0), (2, .int x1), (3, .int x2), (4, .int x3), (5, .int x4), (6, .int x5), (8, .int x7), (9, .int x8)]) rfl ?_
  refine ax_aload_n (pc := 153) C d_MM_with_153 rfl 1 rfl ?_
  refine mg_154 (pc := 154) C d_MM_with_154 ?_
  refine ax_iload (pc := 157) C d_MM_with_157 7 rfl ?_
  refine ax_dup2 (pc := 159) C d_MM_with_159 rfl rfl ?_
  obtain ⟨hb, h⟩ := it_g h
  refine ml_46 (pc := 160) C d_MM_with_160 (bin_in hb) ?_
  refine ax_aload_n (pc := 161) C d_MM_with_161 rfl 1 rfl ?_
  refine mg_154 (pc := 162) C d_MM_with_162 ?_
  refine ax_iload (pc := 165) C d_MM_with_165 9 rfl ?_
  obtain ⟨hb, h⟩ := it_g h
  refine ml_46 (pc := 167) C d_MM_with_167 (bin_in hb) ?_
  refine ax_iadd (pc := 168) C d_MM_with_168 ?_
  obtain ⟨hb, h⟩ := it_g h
  refine ms_46 (pc := 169) C d_MM_with_169 (bin_in hb) ?_
  have h := it_l h
  generalize mA σ 46 (Int32.toNatClampNeg x5) (((σ.2.1 46 (Int32.toNatClampNeg x5)) : Int32) + (σ.2.1 46 (Int32.toNatClampNeg x8))) = σ1 at h ⊢
  refine ax_aload_n (pc := 170) C d_MM_with_170 rfl 1 rfl ?_
  refine mg_151 (pc := 171) C d_MM_with_171 ?_
  refine ax_iload (pc := 174) C d_MM_with_174 8 rfl ?_
  obtain ⟨hb, h⟩ := it_g h
  refine ml_45 (pc := 176) C d_MM_with_176 (bin_in hb) ?_
  refine ax_istore (pc := 177) C d_MM_with_177 (Nat.le_of_ble_eq_true rfl) ([(8, .int (σ1.2.1 45 (Int32.toNatClampNeg x7))), (7, .int x8), (0, .ref z), (1, .int x0), (2, .int x1), (3, .int x2), (4, .int x3), (5, .int x4), (6, .int x5), (9, .int x8)]) rfl ?_
  refine ax_goto (pc := 179) C 104 d_MM_with_179 (by decide) ?_
  refine ax_ls ([(0, .ref z), (1, .int x0), (2, .int x1), (3, .int x2), (4, .int x3), (5, .int x4), (6, .int x5), (7, .int x8), (8, .int (σ1.2.1 45 (Int32.toNatClampNeg x7)))]) [2, 3, 4, 5, 6, 7, 8, 1, 0] rfl ?_
  have hm : s_209 l D kA z v σ1 [x0, x1, x2, x3, x4, x5, x8, (σ1.2.1 45 (Int32.toNatClampNeg x7))] (σf, rf, _) := ih 209 _ _ _ h
  exact hm _ _ _ _ _ _ _ _ rfl p e s m args below meth c F Lo σ0 hF hLo C
set_option maxHeartbeats 4000000 in
set_option maxRecDepth 100000 in
theorem o_211 (l : Launch) (D : va_G) (kA : Nat → ClassId) (z : Nat) (v : Nat → Nat) (rec : mF) (ih : ∀ t σ xs res, rec t σ xs = some res → mSem l D kA z v t σ xs res) (σ : mS) (xs : List Int32) (res : mR) (h : k_211 rec σ xs = some res) : s_211 l D kA z v σ xs res := by
  intro x0 hxs
  subst hxs
  obtain ⟨σf, rf, dd⟩ := res
  have h : (if bin x0 2001 = true then (rec 212 σ [x0, (σ.2.1 73 (Int32.toNatClampNeg x0))]) else none) = some (σf, rf, dd) := h
  refine ax_Mi.of (by decide +kernel) (Nat.le_of_ble_eq_true rfl) ?_
  intro p e s m args below meth c C hnm
  have C : ax_C p s m args meth c b_MM_isSelected "ClauseProverModel" 3 (some .boolean) D kA (va_A (mmW kA z v σ) s.heap.size) := C
  obtain ⟨F, hFe⟩ : ∃ F, F = dd + 1 := ⟨_, rfl⟩
  obtain ⟨Lo, hLoe⟩ : ∃ Lo, Lo = 64 * dd + 64 := ⟨_, rfl⟩
  obtain ⟨σ0, hσ0⟩ : ∃ s0, s0 = σ := ⟨_, rfl⟩
  suffices K : AW p l e { frames := F, cells := 0, slots := 0, locals := Lo } s m args below meth c D kA (va_A (mmW kA z v σ0) s.heap.size) 3 (ax_Qi below args s D kA (mmW kA z v σ0) 0 0 (fun r w1 => r = rf ∧ w1 = mmW kA z v σf)) 0 [(0, .ref z), (1, .int x0)] [] (mmW kA z v σ) 0 0 by rw [hFe, hLoe, hσ0] at K; exact ax_ls ([(0, .ref z), (1, .int x0)]) [0, 1] rfl K
  have C : ax_C p s m args meth c b_MM_isSelected "ClauseProverModel" 3 (some .boolean) D kA (va_A (mmW kA z v σ0) s.heap.size) := by rw [hσ0]; exact C
  have hF : dd + 1 ≤ F := by omega
  have hLo : 64 * dd + 64 ≤ Lo := by omega
  clear hFe hLoe hσ0
  refine ax_aload_n (pc := 0) C d_MM_isSelected_0 rfl 0 rfl ?_
  refine mg_235 (pc := 1) C d_MM_isSelected_1 ?_
  refine ax_iload_n (pc := 4) C d_MM_isSelected_4 rfl 1 rfl ?_
  obtain ⟨hb, h⟩ := it_g h
  refine ml_73 (pc := 5) C d_MM_isSelected_5 (bin_in hb) ?_
  refine ax_istore_n (pc := 6) C d_MM_isSelected_6 rfl (Nat.le_of_ble_eq_true rfl) ([(2, .int (σ.2.1 73 (Int32.toNatClampNeg x0))), (0, .ref z), (1, .int x0)]) rfl ?_
  refine ax_ls ([(0, .ref z), (1, .int x0), (2, .int (σ.2.1 73 (Int32.toNatClampNeg x0)))]) [1, 2, 0] rfl ?_
  have hm : s_212 l D kA z v σ [x0, (σ.2.1 73 (Int32.toNatClampNeg x0))] (σf, rf, _) := ih 212 _ _ _ h
  exact hm _ _ rfl p e s m args below meth c F Lo σ0 hF hLo C
set_option maxHeartbeats 4000000 in
set_option maxRecDepth 100000 in
theorem o_212 (l : Launch) (D : va_G) (kA : Nat → ClassId) (z : Nat) (v : Nat → Nat) (rec : mF) (ih : ∀ t σ xs res, rec t σ xs = some res → mSem l D kA z v t σ xs res) (σ : mS) (xs : List Int32) (res : mR) (h : k_212 rec σ xs = some res) : s_212 l D kA z v σ xs res := by
  intro x0 x1 hxs
  subst hxs
  obtain ⟨σf, rf, dd⟩ := res
  have h : (if bin x0 2001 = true then (if bin x0 2001 = true then (if (((σ.2.1 73 (Int32.toNatClampNeg x0)) : Int32) + (σ.2.1 74 (Int32.toNatClampNeg x0))) ≤ x1 then (some (σ, 0, 0)) else (if bin x1 16100 = true then (if (σ.2.1 68 (Int32.toNatClampNeg x1)) = 0 then (some (σ, 1, 0)) else (rec 212 σ [x0, (x1 + 1)])) else none)) else none) else none) = some (σf, rf, dd) := h
  intro p e s m args below meth c F Lo σ0 hF hLo C
  dsimp only at hF hLo ⊢
  refine ax_iload_n (pc := 7) C d_MM_isSelected_7 rfl 2 rfl ?_
  refine ax_aload_n (pc := 8) C d_MM_isSelected_8 rfl 0 rfl ?_
  refine mg_235 (pc := 9) C d_MM_isSelected_9 ?_
  refine ax_iload_n (pc := 12) C d_MM_isSelected_12 rfl 1 rfl ?_
  obtain ⟨hb, h⟩ := it_g h
  refine ml_73 (pc := 13) C d_MM_isSelected_13 (bin_in hb) ?_
  refine ax_aload_n (pc := 14) C d_MM_isSelected_14 rfl 0 rfl ?_
  refine mg_238 (pc := 15) C d_MM_isSelected_15 ?_
  refine ax_iload_n (pc := 18) C d_MM_isSelected_18 rfl 1 rfl ?_
  obtain ⟨hb, h⟩ := it_g h
  refine ml_74 (pc := 19) C d_MM_isSelected_19 (bin_in hb) ?_
  refine ax_iadd (pc := 20) C d_MM_isSelected_20 ?_
  refine ax_icmp_ge (pc := 21) C 41 d_MM_isSelected_21 (by decide) (fun hc => ?_) (fun hc => ?_)
  · have h := it_t hc h
    refine ax_iconst (pc := 41) C 0 d_MM_isSelected_41 (by decide +kernel) ?_
    cases h
    exact ax_zret (pc := 42) C d_MM_isSelected_42 rfl ⟨rfl, rfl⟩ (Nat.le_refl _) (Nat.le_refl _)
  · have h := it_f hc h
    refine ax_aload_n (pc := 24) C d_MM_isSelected_24 rfl 0 rfl ?_
    refine mg_220 (pc := 25) C d_MM_isSelected_25 ?_
    refine ax_iload_n (pc := 28) C d_MM_isSelected_28 rfl 2 rfl ?_
    obtain ⟨hb, h⟩ := it_g h
    refine ml_68 (pc := 29) C d_MM_isSelected_29 (bin_in hb) ?_
    refine ax_if_ne (pc := 30) C 35 d_MM_isSelected_30 (by decide) (fun hc => ?_) (fun hc => ?_)
    · have h := it_f hc h
      refine ax_iinc (pc := 35) C (x1 + 1) d_MM_isSelected_35 2 rfl rfl (Nat.le_of_ble_eq_true rfl) ([(2, .int (x1 + 1)), (0, .ref z), (1, .int x0)]) rfl ?_
      refine ax_goto (pc := 38) C 7 d_MM_isSelected_38 (by decide) ?_
      refine ax_ls ([(0, .ref z), (1, .int x0), (2, .int (x1 + 1))]) [1, 2, 0] rfl ?_
      have hm : s_212 l D kA z v σ [x0, (x1 + 1)] (σf, rf, _) := ih 212 _ _ _ h
      exact hm _ _ rfl p e s m args below meth c F Lo σ0 hF hLo C
    · have h := it_t hc h
      refine ax_iconst (pc := 33) C 1 d_MM_isSelected_33 (by decide +kernel) ?_
      cases h
      exact ax_zret (pc := 34) C d_MM_isSelected_34 rfl ⟨rfl, rfl⟩ (Nat.le_refl _) (Nat.le_refl _)
set_option maxHeartbeats 4000000 in
set_option maxRecDepth 100000 in
theorem o_213 (l : Launch) (D : va_G) (kA : Nat → ClassId) (z : Nat) (v : Nat → Nat) (rec : mF) (ih : ∀ t σ xs res, rec t σ xs = some res → mSem l D kA z v t σ xs res) (σ : mS) (xs : List Int32) (res : mR) (h : k_213 rec σ xs = some res) : s_213 l D kA z v σ xs res := by
  intro x0 x1 hxs
  subst hxs
  obtain ⟨σf, rf, dd⟩ := res
  have h : (bnd (rec 214 σ [x0]) (fun σ1 r1 => if r1 = 0 then (if (x1 : Int32).toInt < 0 ∨ 7 < (x1 : Int32).toInt then (lt_ (mI σ1 4 2) (fun σ2 => some (σ2, 0, 0))) else (if (x1 : Int32) = 0 then (if bin x0 2001 = true then (some (σ1, (σ1.2.1 77 (Int32.toNatClampNeg x0)), 0)) else none) else (if (x1 : Int32) = 1 then (if bin x0 2001 = true then (some (σ1, (σ1.2.1 78 (Int32.toNatClampNeg x0)), 0)) else none) else (if (x1 : Int32) = 2 then (if bin x0 2001 = true then (some (σ1, (σ1.2.1 79 (Int32.toNatClampNeg x0)), 0)) else none) else (if (x1 : Int32) = 3 then (if bin x0 2001 = true then (some (σ1, (σ1.2.1 74 (Int32.toNatClampNeg x0)), 0)) else none) else (if (x1 : Int32) = 4 then (if bin x0 2001 = true then (some (σ1, (σ1.2.1 75 (Int32.toNatClampNeg x0)), 0)) else none) else (if (x1 : Int32) = 5 then (if bin x0 2001 = true then (some (σ1, (σ1.2.1 76 (Int32.toNatClampNeg x0)), 0)) else none) else (if (x1 : Int32) = 6 then (if bin x0 2001 = true then (some (σ1, (σ1.2.1 80 (Int32.toNatClampNeg x0)), 0)) else none) else (if bin x0 2001 = true then (some (σ1, (σ1.2.1 82 (Int32.toNatClampNeg x0)), 0)) else none))))))))) else (some (σ1, 0, 0)))) = some (σf, rf, dd) := h
  refine ax_Mi.of (by decide +kernel) (Nat.le_of_ble_eq_true rfl) ?_
  intro p e s m args below meth c C hnm
  have C : ax_C p s m args meth c b_MM_clause "ClauseProverModel" 3 (some .int) D kA (va_A (mmW kA z v σ) s.heap.size) := C
  obtain ⟨F, hFe⟩ : ∃ F, F = dd + 1 := ⟨_, rfl⟩
  obtain ⟨Lo, hLoe⟩ : ∃ Lo, Lo = 64 * dd + 64 := ⟨_, rfl⟩
  obtain ⟨σ0, hσ0⟩ : ∃ s0, s0 = σ := ⟨_, rfl⟩
  suffices K : AW p l e { frames := F, cells := 0, slots := 0, locals := Lo } s m args below meth c D kA (va_A (mmW kA z v σ0) s.heap.size) 3 (ax_Qi below args s D kA (mmW kA z v σ0) 0 0 (fun r w1 => r = rf ∧ w1 = mmW kA z v σf)) 0 [(0, .ref z), (1, .int x0), (2, .int x1)] [] (mmW kA z v σ) 0 0 by rw [hFe, hLoe, hσ0] at K; exact ax_ls ([(0, .ref z), (1, .int x0), (2, .int x1)]) [0, 1, 2] rfl K
  have C : ax_C p s m args meth c b_MM_clause "ClauseProverModel" 3 (some .int) D kA (va_A (mmW kA z v σ0) s.heap.size) := by rw [hσ0]; exact C
  have hF : dd + 1 ≤ F := by omega
  have hLo : 64 * dd + 64 ≤ Lo := by omega
  clear hFe hLoe hσ0
  refine ax_aload_n (pc := 0) C d_MM_clause_0 rfl 0 rfl ?_
  refine ax_iload_n (pc := 1) C d_MM_clause_1 rfl 1 rfl ?_
  obtain ⟨σ1, r1, d1_1, d2_1, h1, h, hd2, hd1⟩ := it_b h
  have hm : s_214 l D kA z v σ [x0] (σ1, r1, d1_1) := ih 214 _ _ _ h1
  refine mc_Vi (pc := 2) C (As := [.int x0]) (rest := []) (hm _ rfl) ml_MM_759 d_MM_clause_2 rfl rfl (by dsimp only; omega) (by dsimp only; omega) (Nat.le_of_ble_eq_true rfl) (Nat.le_of_ble_eq_true rfl) (Nat.le_of_ble_eq_true rfl) ?_
  have hF : d2_1 + 1 ≤ F := by omega
  have hLo : 64 * d2_1 + 64 ≤ Lo := by omega
  refine ax_if_eq (pc := 5) C 10 d_MM_clause_5 (by decide) (fun hc => ?_) (fun hc => ?_)
  · have h := it_t hc h
    refine ax_iload_n (pc := 10) C d_MM_clause_10 rfl 2 rfl ?_
    by_cases hr : (x1 : Int32).toInt < 0 ∨ 7 < (x1 : Int32).toInt
    · have h := it_t hr h
      refine ax_tableOut (pc := 11) C 112 d_MM_clause_11 hr (by decide) ?_
      refine ax_aload_n (pc := 112) C d_MM_clause_112 rfl 0 rfl ?_
      refine ax_iconst (pc := 113) C 2 d_MM_clause_113 (by decide +kernel) ?_
      refine mp_24 (pc := 114) C d_MM_clause_114 ?_
      have h := it_l h
      generalize mI σ1 4 2 = σ2 at h ⊢
      refine ax_iconst (pc := 117) C 0 d_MM_clause_117 (by decide +kernel) ?_
      cases h
      exact ax_iret (pc := 118) C d_MM_clause_118 ⟨rfl, rfl⟩ (Nat.le_refl _) (Nat.le_refl _)
    · have h := it_f hr h
      by_cases hv : (x1 : Int32) = 0
      · have h := it_t hv h
        refine ax_tableIn (pc := 11) C 56 d_MM_clause_11 (by omega) (by omega) (by rw [hv]; rfl) (by decide) ?_
        refine ax_aload_n (pc := 56) C d_MM_clause_56 rfl 0 rfl ?_
        refine mg_247 (pc := 57) C d_MM_clause_57 ?_
        refine ax_iload_n (pc := 60) C d_MM_clause_60 rfl 1 rfl ?_
        obtain ⟨hb, h⟩ := it_g h
        refine ml_77 (pc := 61) C d_MM_clause_61 (bin_in hb) ?_
        cases h
        exact ax_iret (pc := 62) C d_MM_clause_62 ⟨rfl, rfl⟩ (Nat.le_refl _) (Nat.le_refl _)
      · have h := it_f hv h
        have hn0 : ¬ (x1 : Int32).toInt = 0 := fun q => hv (i32q (by rw [q]; rfl))
        by_cases hv : (x1 : Int32) = 1
        · have h := it_t hv h
          refine ax_tableIn (pc := 11) C 63 d_MM_clause_11 (by omega) (by omega) (by rw [hv]; rfl) (by decide) ?_
          refine ax_aload_n (pc := 63) C d_MM_clause_63 rfl 0 rfl ?_
          refine mg_250 (pc := 64) C d_MM_clause_64 ?_
          refine ax_iload_n (pc := 67) C d_MM_clause_67 rfl 1 rfl ?_
          obtain ⟨hb, h⟩ := it_g h
          refine ml_78 (pc := 68) C d_MM_clause_68 (bin_in hb) ?_
          cases h
          exact ax_iret (pc := 69) C d_MM_clause_69 ⟨rfl, rfl⟩ (Nat.le_refl _) (Nat.le_refl _)
        · have h := it_f hv h
          have hn1 : ¬ (x1 : Int32).toInt = 1 := fun q => hv (i32q (by rw [q]; rfl))
          by_cases hv : (x1 : Int32) = 2
          · have h := it_t hv h
            refine ax_tableIn (pc := 11) C 70 d_MM_clause_11 (by omega) (by omega) (by rw [hv]; rfl) (by decide) ?_
            refine ax_aload_n (pc := 70) C d_MM_clause_70 rfl 0 rfl ?_
            refine mg_253 (pc := 71) C d_MM_clause_71 ?_
            refine ax_iload_n (pc := 74) C d_MM_clause_74 rfl 1 rfl ?_
            obtain ⟨hb, h⟩ := it_g h
            refine ml_79 (pc := 75) C d_MM_clause_75 (bin_in hb) ?_
            cases h
            exact ax_iret (pc := 76) C d_MM_clause_76 ⟨rfl, rfl⟩ (Nat.le_refl _) (Nat.le_refl _)
          · have h := it_f hv h
            have hn2 : ¬ (x1 : Int32).toInt = 2 := fun q => hv (i32q (by rw [q]; rfl))
            by_cases hv : (x1 : Int32) = 3
            · have h := it_t hv h
              refine ax_tableIn (pc := 11) C 77 d_MM_clause_11 (by omega) (by omega) (by rw [hv]; rfl) (by decide) ?_
              refine ax_aload_n (pc := 77) C d_MM_clause_77 rfl 0 rfl ?_
              refine mg_238 (pc := 78) C d_MM_clause_78 ?_
              refine ax_iload_n (pc := 81) C d_MM_clause_81 rfl 1 rfl ?_
              obtain ⟨hb, h⟩ := it_g h
              refine ml_74 (pc := 82) C d_MM_clause_82 (bin_in hb) ?_
              cases h
              exact ax_iret (pc := 83) C d_MM_clause_83 ⟨rfl, rfl⟩ (Nat.le_refl _) (Nat.le_refl _)
            · have h := it_f hv h
              have hn3 : ¬ (x1 : Int32).toInt = 3 := fun q => hv (i32q (by rw [q]; rfl))
              by_cases hv : (x1 : Int32) = 4
              · have h := it_t hv h
                refine ax_tableIn (pc := 11) C 84 d_MM_clause_11 (by omega) (by omega) (by rw [hv]; rfl) (by decide) ?_
                refine ax_aload_n (pc := 84) C d_MM_clause_84 rfl 0 rfl ?_
                refine mg_241 (pc := 85) C d_MM_clause_85 ?_
                refine ax_iload_n (pc := 88) C d_MM_clause_88 rfl 1 rfl ?_
                obtain ⟨hb, h⟩ := it_g h
                refine ml_75 (pc := 89) C d_MM_clause_89 (bin_in hb) ?_
                cases h
                exact ax_iret (pc := 90) C d_MM_clause_90 ⟨rfl, rfl⟩ (Nat.le_refl _) (Nat.le_refl _)
              · have h := it_f hv h
                have hn4 : ¬ (x1 : Int32).toInt = 4 := fun q => hv (i32q (by rw [q]; rfl))
                by_cases hv : (x1 : Int32) = 5
                · have h := it_t hv h
                  refine ax_tableIn (pc := 11) C 91 d_MM_clause_11 (by omega) (by omega) (by rw [hv]; rfl) (by decide) ?_
                  refine ax_aload_n (pc := 91) C d_MM_clause_91 rfl 0 rfl ?_
                  refine mg_244 (pc := 92) C d_MM_clause_92 ?_
                  refine ax_iload_n (pc := 95) C d_MM_clause_95 rfl 1 rfl ?_
                  obtain ⟨hb, h⟩ := it_g h
                  refine ml_76 (pc := 96) C d_MM_clause_96 (bin_in hb) ?_
                  cases h
                  exact ax_iret (pc := 97) C d_MM_clause_97 ⟨rfl, rfl⟩ (Nat.le_refl _) (Nat.le_refl _)
                · have h := it_f hv h
                  have hn5 : ¬ (x1 : Int32).toInt = 5 := fun q => hv (i32q (by rw [q]; rfl))
                  by_cases hv : (x1 : Int32) = 6
                  · have h := it_t hv h
                    refine ax_tableIn (pc := 11) C 98 d_MM_clause_11 (by omega) (by omega) (by rw [hv]; rfl) (by decide) ?_
                    refine ax_aload_n (pc := 98) C d_MM_clause_98 rfl 0 rfl ?_
                    refine mg_256 (pc := 99) C d_MM_clause_99 ?_
                    refine ax_iload_n (pc := 102) C d_MM_clause_102 rfl 1 rfl ?_
                    obtain ⟨hb, h⟩ := it_g h
                    refine ml_80 (pc := 103) C d_MM_clause_103 (bin_in hb) ?_
                    cases h
                    exact ax_iret (pc := 104) C d_MM_clause_104 ⟨rfl, rfl⟩ (Nat.le_refl _) (Nat.le_refl _)
                  · have h := it_f hv h
                    have hn6 : ¬ (x1 : Int32).toInt = 6 := fun q => hv (i32q (by rw [q]; rfl))
                    have hv : (x1 : Int32) = 7 := i32q (by have e9 : (7 : Int32).toInt = 7 := rfl; omega)
                    refine ax_tableIn (pc := 11) C 105 d_MM_clause_11 (by omega) (by omega) (by rw [hv]; rfl) (by decide) ?_
                    refine ax_aload_n (pc := 105) C d_MM_clause_105 rfl 0 rfl ?_
                    refine mg_262 (pc := 106) C d_MM_clause_106 ?_
                    refine ax_iload_n (pc := 109) C d_MM_clause_109 rfl 1 rfl ?_
                    obtain ⟨hb, h⟩ := it_g h
                    refine ml_82 (pc := 110) C d_MM_clause_110 (bin_in hb) ?_
                    cases h
                    exact ax_iret (pc := 111) C d_MM_clause_111 ⟨rfl, rfl⟩ (Nat.le_refl _) (Nat.le_refl _)
  · have h := it_f hc h
    refine ax_iconst (pc := 8) C 0 d_MM_clause_8 (by decide +kernel) ?_
    cases h
    exact ax_iret (pc := 9) C d_MM_clause_9 ⟨rfl, rfl⟩ (Nat.le_refl _) (Nat.le_refl _)
set_option maxHeartbeats 4000000 in
set_option maxRecDepth 100000 in
theorem o_214 (l : Launch) (D : va_G) (kA : Nat → ClassId) (z : Nat) (v : Nat → Nat) (rec : mF) (ih : ∀ t σ xs res, rec t σ xs = some res → mSem l D kA z v t σ xs res) (σ : mS) (xs : List Int32) (res : mR) (h : k_214 rec σ xs = some res) : s_214 l D kA z v σ xs res := by
  intro x0 hxs
  subst hxs
  obtain ⟨σf, rf, dd⟩ := res
  have h : (lt_ (mI σ 4 0) (fun σ1 => if x0 < 0 then (rec 215 σ1 [x0, 1]) else (if x0 < (σ1.1 84) then (rec 216 σ1 [x0, 0, 1]) else (rec 215 σ1 [x0, 1])))) = some (σf, rf, dd) := h
  refine ax_Mi.of (by decide +kernel) (Nat.le_of_ble_eq_true rfl) ?_
  intro p e s m args below meth c C hnm
  have C : ax_C p s m args meth c b_MM_none "ClauseProverModel" 2 (some .boolean) D kA (va_A (mmW kA z v σ) s.heap.size) := C
  obtain ⟨F, hFe⟩ : ∃ F, F = dd + 1 := ⟨_, rfl⟩
  obtain ⟨Lo, hLoe⟩ : ∃ Lo, Lo = 64 * dd + 64 := ⟨_, rfl⟩
  obtain ⟨σ0, hσ0⟩ : ∃ s0, s0 = σ := ⟨_, rfl⟩
  suffices K : AW p l e { frames := F, cells := 0, slots := 0, locals := Lo } s m args below meth c D kA (va_A (mmW kA z v σ0) s.heap.size) 2 (ax_Qi below args s D kA (mmW kA z v σ0) 0 0 (fun r w1 => r = rf ∧ w1 = mmW kA z v σf)) 0 [(0, .ref z), (1, .int x0)] [] (mmW kA z v σ) 0 0 by rw [hFe, hLoe, hσ0] at K; exact ax_ls ([(0, .ref z), (1, .int x0)]) [0, 1] rfl K
  have C : ax_C p s m args meth c b_MM_none "ClauseProverModel" 2 (some .boolean) D kA (va_A (mmW kA z v σ0) s.heap.size) := by rw [hσ0]; exact C
  have hF : dd + 1 ≤ F := by omega
  have hLo : 64 * dd + 64 ≤ Lo := by omega
  clear hFe hLoe hσ0
  refine ax_aload_n (pc := 0) C d_MM_none_0 rfl 0 rfl ?_
  refine ax_iconst (pc := 1) C 0 d_MM_none_1 (by decide +kernel) ?_
  refine mp_24 (pc := 2) C d_MM_none_2 ?_
  have h := it_l h
  generalize mI σ 4 0 = σ1 at h ⊢
  refine ax_aload_n (pc := 5) C d_MM_none_5 rfl 0 rfl ?_
  refine ax_iconst (pc := 6) C 1 d_MM_none_6 (by decide +kernel) ?_
  refine ax_iload_n (pc := 7) C d_MM_none_7 rfl 1 rfl ?_
  refine ax_if_lt (pc := 8) C 19 d_MM_none_8 (by decide) (fun hc => ?_) (fun hc => ?_)
  · have h := it_t hc h
    refine ax_ls ([(0, .ref z), (1, .int x0)]) [0, 1] rfl ?_
    have hm : s_215 l D kA z v σ1 [x0, 1] (σf, rf, _) := ih 215 _ _ _ h
    exact hm _ _ rfl p e s m args below meth c F Lo σ0 hF hLo C
  · have h := it_f hc h
    refine ax_iload_n (pc := 11) C d_MM_none_11 rfl 1 rfl ?_
    refine ax_aload_n (pc := 12) C d_MM_none_12 rfl 0 rfl ?_
    refine mg_269 (pc := 13) C d_MM_none_13 ?_
    refine ax_icmp_lt (pc := 16) C 23 d_MM_none_16 (by decide) (fun hc => ?_) (fun hc => ?_)
    · have h := it_t hc h
      refine ax_iconst (pc := 23) C 0 d_MM_none_23 (by decide +kernel) ?_
      refine ax_ls ([(0, .ref z), (1, .int x0)]) [0, 1] rfl ?_
      have hm : s_216 l D kA z v σ1 [x0, 0, 1] (σf, rf, _) := ih 216 _ _ _ h
      exact hm _ _ _ rfl p e s m args below meth c F Lo σ0 hF hLo C
    · have h := it_f hc h
      refine ax_ls ([(0, .ref z), (1, .int x0)]) [0, 1] rfl ?_
      have hm : s_215 l D kA z v σ1 [x0, 1] (σf, rf, _) := ih 215 _ _ _ h
      exact hm _ _ rfl p e s m args below meth c F Lo σ0 hF hLo C
set_option maxHeartbeats 4000000 in
set_option maxRecDepth 100000 in
theorem o_215 (l : Launch) (D : va_G) (kA : Nat → ClassId) (z : Nat) (v : Nat → Nat) (rec : mF) (ih : ∀ t σ xs res, rec t σ xs = some res → mSem l D kA z v t σ xs res) (σ : mS) (xs : List Int32) (res : mR) (h : k_215 rec σ xs = some res) : s_215 l D kA z v σ xs res := by
  intro x0 x1 hxs
  subst hxs
  obtain ⟨σf, rf, dd⟩ := res
  have h : (rec 216 σ [x0, 1, x1]) = some (σf, rf, dd) := h
  intro p e s m args below meth c F Lo σ0 hF hLo C
  dsimp only at hF hLo ⊢
  refine ax_iconst (pc := 19) C 1 d_MM_none_19 (by decide +kernel) ?_
  refine ax_goto (pc := 20) C 24 d_MM_none_20 (by decide) ?_
  refine ax_ls ([(0, .ref z), (1, .int x0)]) [0, 1] rfl ?_
  have hm : s_216 l D kA z v σ [x0, 1, x1] (σf, rf, _) := ih 216 _ _ _ h
  exact hm _ _ _ rfl p e s m args below meth c F Lo σ0 hF hLo C
set_option maxHeartbeats 4000000 in
set_option maxRecDepth 100000 in
theorem o_216 (l : Launch) (D : va_G) (kA : Nat → ClassId) (z : Nat) (v : Nat → Nat) (rec : mF) (ih : ∀ t σ xs res, rec t σ xs = some res → mSem l D kA z v t σ xs res) (σ : mS) (xs : List Int32) (res : mR) (h : k_216 rec σ xs = some res) : s_216 l D kA z v σ xs res := by
  intro x0 x1 x2 hxs
  subst hxs
  obtain ⟨σf, rf, dd⟩ := res
  have h : (bnd (rec 5 σ [x2, x1]) (fun σ1 r1 => if r1 = 0 ∨ r1 = 1 then some (σ1, r1, 0) else none)) = some (σf, rf, dd) := h
  intro p e s m args below meth c F Lo σ0 hF hLo C
  dsimp only at hF hLo ⊢
  obtain ⟨σ1, r1, d1_1, d2_1, h1, h, hd2, hd1⟩ := it_b h
  have hm : s_5 l D kA z v σ [x2, x1] (σ1, r1, d1_1) := ih 5 _ _ _ h1
  refine mc_Vi (pc := 24) C (As := [.int x2, .int x1]) (rest := []) (hm _ _ rfl) ml_MM_401 d_MM_none_24 rfl rfl (by dsimp only; omega) (by dsimp only; omega) (Nat.le_of_ble_eq_true rfl) (Nat.le_of_ble_eq_true rfl) (Nat.le_of_ble_eq_true rfl) ?_
  have hF : d2_1 + 1 ≤ F := by omega
  have hLo : 64 * d2_1 + 64 ≤ Lo := by omega
  obtain ⟨hb, h⟩ := it_g h
  cases h
  exact ax_zret (pc := 27) C d_MM_none_27 (nb01 hb) ⟨rfl, rfl⟩ (Nat.le_refl _) (Nat.le_refl _)
set_option maxHeartbeats 4000000 in
set_option maxRecDepth 100000 in
theorem o_217 (l : Launch) (D : va_G) (kA : Nat → ClassId) (z : Nat) (v : Nat → Nat) (rec : mF) (ih : ∀ t σ xs res, rec t σ xs = some res → mSem l D kA z v t σ xs res) (σ : mS) (xs : List Int32) (res : mR) (h : k_217 rec σ xs = some res) : s_217 l D kA z v σ xs res := by
  intro x0 x1 hxs
  subst hxs
  obtain ⟨σf, rf, dd⟩ := res
  have h : (bnd (rec 214 σ [x0]) (fun σ1 r1 => if r1 = 0 then (if x1 < 0 then (rec 218 σ1 [x0, x1, 1]) else (if bin x0 2001 = true then (if x1 < (σ1.2.1 82 (Int32.toNatClampNeg x0)) then (rec 219 σ1 [x0, x1, 0, 1]) else (rec 218 σ1 [x0, x1, 1])) else none)) else (rec 220 σ1 [x0, x1]))) = some (σf, rf, dd) := h
  refine ax_Mi.of (by decide +kernel) (Nat.le_of_ble_eq_true rfl) ?_
  intro p e s m args below meth c C hnm
  have C : ax_C p s m args meth c b_MM_rewrote "ClauseProverModel" 3 (some .int) D kA (va_A (mmW kA z v σ) s.heap.size) := C
  obtain ⟨F, hFe⟩ : ∃ F, F = dd + 1 := ⟨_, rfl⟩
  obtain ⟨Lo, hLoe⟩ : ∃ Lo, Lo = 64 * dd + 64 := ⟨_, rfl⟩
  obtain ⟨σ0, hσ0⟩ : ∃ s0, s0 = σ := ⟨_, rfl⟩
  suffices K : AW p l e { frames := F, cells := 0, slots := 0, locals := Lo } s m args below meth c D kA (va_A (mmW kA z v σ0) s.heap.size) 3 (ax_Qi below args s D kA (mmW kA z v σ0) 0 0 (fun r w1 => r = rf ∧ w1 = mmW kA z v σf)) 0 [(0, .ref z), (1, .int x0), (2, .int x1)] [] (mmW kA z v σ) 0 0 by rw [hFe, hLoe, hσ0] at K; exact ax_ls ([(0, .ref z), (1, .int x0), (2, .int x1)]) [0, 1, 2] rfl K
  have C : ax_C p s m args meth c b_MM_rewrote "ClauseProverModel" 3 (some .int) D kA (va_A (mmW kA z v σ0) s.heap.size) := by rw [hσ0]; exact C
  have hF : dd + 1 ≤ F := by omega
  have hLo : 64 * dd + 64 ≤ Lo := by omega
  clear hFe hLoe hσ0
  refine ax_aload_n (pc := 0) C d_MM_rewrote_0 rfl 0 rfl ?_
  refine ax_iload_n (pc := 1) C d_MM_rewrote_1 rfl 1 rfl ?_
  obtain ⟨σ1, r1, d1_1, d2_1, h1, h, hd2, hd1⟩ := it_b h
  have hm : s_214 l D kA z v σ [x0] (σ1, r1, d1_1) := ih 214 _ _ _ h1
  refine mc_Vi (pc := 2) C (As := [.int x0]) (rest := []) (hm _ rfl) ml_MM_759 d_MM_rewrote_2 rfl rfl (by dsimp only; omega) (by dsimp only; omega) (Nat.le_of_ble_eq_true rfl) (Nat.le_of_ble_eq_true rfl) (Nat.le_of_ble_eq_true rfl) ?_
  have hF : d2_1 + 1 ≤ F := by omega
  have hLo : 64 * d2_1 + 64 ≤ Lo := by omega
  refine ax_if_ne (pc := 5) C 35 d_MM_rewrote_5 (by decide) (fun hc => ?_) (fun hc => ?_)
  · have h := it_f hc h
    refine ax_ls ([(0, .ref z), (1, .int x0), (2, .int x1)]) [0, 1, 2] rfl ?_
    have hm : s_220 l D kA z v σ1 [x0, x1] (σf, rf, _) := ih 220 _ _ _ h
    exact hm _ _ rfl p e s m args below meth c F Lo σ0 hF hLo C
  · have h := it_t hc h
    refine ax_aload_n (pc := 8) C d_MM_rewrote_8 rfl 0 rfl ?_
    refine ax_iconst (pc := 9) C 1 d_MM_rewrote_9 (by decide +kernel) ?_
    refine ax_iload_n (pc := 10) C d_MM_rewrote_10 rfl 2 rfl ?_
    refine ax_if_lt (pc := 11) C 24 d_MM_rewrote_11 (by decide) (fun hc => ?_) (fun hc => ?_)
    · have h := it_t hc h
      refine ax_ls ([(0, .ref z), (1, .int x0), (2, .int x1)]) [0, 1, 2] rfl ?_
      have hm : s_218 l D kA z v σ1 [x0, x1, 1] (σf, rf, _) := ih 218 _ _ _ h
      exact hm _ _ _ rfl p e s m args below meth c F Lo σ0 hF hLo C
    · have h := it_f hc h
      refine ax_iload_n (pc := 14) C d_MM_rewrote_14 rfl 2 rfl ?_
      refine ax_aload_n (pc := 15) C d_MM_rewrote_15 rfl 0 rfl ?_
      refine mg_262 (pc := 16) C d_MM_rewrote_16 ?_
      refine ax_iload_n (pc := 19) C d_MM_rewrote_19 rfl 1 rfl ?_
      obtain ⟨hb, h⟩ := it_g h
      refine ml_82 (pc := 20) C d_MM_rewrote_20 (bin_in hb) ?_
      refine ax_icmp_lt (pc := 21) C 28 d_MM_rewrote_21 (by decide) (fun hc => ?_) (fun hc => ?_)
      · have h := it_t hc h
        refine ax_iconst (pc := 28) C 0 d_MM_rewrote_28 (by decide +kernel) ?_
        refine ax_ls ([(0, .ref z), (1, .int x0), (2, .int x1)]) [0, 1, 2] rfl ?_
        have hm : s_219 l D kA z v σ1 [x0, x1, 0, 1] (σf, rf, _) := ih 219 _ _ _ h
        exact hm _ _ _ _ rfl p e s m args below meth c F Lo σ0 hF hLo C
      · have h := it_f hc h
        refine ax_ls ([(0, .ref z), (1, .int x0), (2, .int x1)]) [0, 1, 2] rfl ?_
        have hm : s_218 l D kA z v σ1 [x0, x1, 1] (σf, rf, _) := ih 218 _ _ _ h
        exact hm _ _ _ rfl p e s m args below meth c F Lo σ0 hF hLo C
set_option maxHeartbeats 4000000 in
set_option maxRecDepth 100000 in
theorem o_218 (l : Launch) (D : va_G) (kA : Nat → ClassId) (z : Nat) (v : Nat → Nat) (rec : mF) (ih : ∀ t σ xs res, rec t σ xs = some res → mSem l D kA z v t σ xs res) (σ : mS) (xs : List Int32) (res : mR) (h : k_218 rec σ xs = some res) : s_218 l D kA z v σ xs res := by
  intro x0 x1 x2 hxs
  subst hxs
  obtain ⟨σf, rf, dd⟩ := res
  have h : (rec 219 σ [x0, x1, 1, x2]) = some (σf, rf, dd) := h
  intro p e s m args below meth c F Lo σ0 hF hLo C
  dsimp only at hF hLo ⊢
  refine ax_iconst (pc := 24) C 1 d_MM_rewrote_24 (by decide +kernel) ?_
  refine ax_goto (pc := 25) C 29 d_MM_rewrote_25 (by decide) ?_
  refine ax_ls ([(0, .ref z), (1, .int x0), (2, .int x1)]) [0, 1, 2] rfl ?_
  have hm : s_219 l D kA z v σ [x0, x1, 1, x2] (σf, rf, _) := ih 219 _ _ _ h
  exact hm _ _ _ _ rfl p e s m args below meth c F Lo σ0 hF hLo C
set_option maxHeartbeats 4000000 in
set_option maxRecDepth 100000 in
theorem o_219 (l : Launch) (D : va_G) (kA : Nat → ClassId) (z : Nat) (v : Nat → Nat) (rec : mF) (ih : ∀ t σ xs res, rec t σ xs = some res → mSem l D kA z v t σ xs res) (σ : mS) (xs : List Int32) (res : mR) (h : k_219 rec σ xs = some res) : s_219 l D kA z v σ xs res := by
  intro x0 x1 x2 x3 hxs
  subst hxs
  obtain ⟨σf, rf, dd⟩ := res
  have h : (bnd (rec 5 σ [x3, x2]) (fun σ1 r1 => if r1 = 0 then (if bin x0 2001 = true then (if bin (((σ1.2.1 81 (Int32.toNatClampNeg x0)) : Int32) + x1) 130000 = true then (some (σ1, (σ1.2.1 83 (Int32.toNatClampNeg (((σ1.2.1 81 (Int32.toNatClampNeg x0)) : Int32) + x1))), 0)) else none) else none) else (rec 220 σ1 [x0, x1]))) = some (σf, rf, dd) := h
  intro p e s m args below meth c F Lo σ0 hF hLo C
  dsimp only at hF hLo ⊢
  obtain ⟨σ1, r1, d1_1, d2_1, h1, h, hd2, hd1⟩ := it_b h
  have hm : s_5 l D kA z v σ [x3, x2] (σ1, r1, d1_1) := ih 5 _ _ _ h1
  refine mc_Vi (pc := 29) C (As := [.int x3, .int x2]) (rest := []) (hm _ _ rfl) ml_MM_401 d_MM_rewrote_29 rfl rfl (by dsimp only; omega) (by dsimp only; omega) (Nat.le_of_ble_eq_true rfl) (Nat.le_of_ble_eq_true rfl) (Nat.le_of_ble_eq_true rfl) ?_
  have hF : d2_1 + 1 ≤ F := by omega
  have hLo : 64 * d2_1 + 64 ≤ Lo := by omega
  refine ax_if_eq (pc := 32) C 37 d_MM_rewrote_32 (by decide) (fun hc => ?_) (fun hc => ?_)
  · have h := it_t hc h
    refine ax_aload_n (pc := 37) C d_MM_rewrote_37 rfl 0 rfl ?_
    refine mg_266 (pc := 38) C d_MM_rewrote_38 ?_
    refine ax_aload_n (pc := 41) C d_MM_rewrote_41 rfl 0 rfl ?_
    refine mg_259 (pc := 42) C d_MM_rewrote_42 ?_
    refine ax_iload_n (pc := 45) C d_MM_rewrote_45 rfl 1 rfl ?_
    obtain ⟨hb, h⟩ := it_g h
    refine ml_81 (pc := 46) C d_MM_rewrote_46 (bin_in hb) ?_
    refine ax_iload_n (pc := 47) C d_MM_rewrote_47 rfl 2 rfl ?_
    refine ax_iadd (pc := 48) C d_MM_rewrote_48 ?_
    obtain ⟨hb, h⟩ := it_g h
    refine ml_83 (pc := 49) C d_MM_rewrote_49 (bin_in hb) ?_
    cases h
    exact ax_iret (pc := 50) C d_MM_rewrote_50 ⟨rfl, rfl⟩ (Nat.le_refl _) (Nat.le_refl _)
  · have h := it_f hc h
    refine ax_ls ([(0, .ref z), (1, .int x0), (2, .int x1)]) [0, 1, 2] rfl ?_
    have hm : s_220 l D kA z v σ1 [x0, x1] (σf, rf, _) := ih 220 _ _ _ h
    exact hm _ _ rfl p e s m args below meth c F Lo σ0 hF hLo C
set_option maxHeartbeats 4000000 in
set_option maxRecDepth 100000 in
theorem o_220 (l : Launch) (D : va_G) (kA : Nat → ClassId) (z : Nat) (v : Nat → Nat) (rec : mF) (ih : ∀ t σ xs res, rec t σ xs = some res → mSem l D kA z v t σ xs res) (σ : mS) (xs : List Int32) (res : mR) (h : k_220 rec σ xs = some res) : s_220 l D kA z v σ xs res := by
  intro x0 x1 hxs
  subst hxs
  obtain ⟨σf, rf, dd⟩ := res
  have h : (some (σ, 0, 0)) = some (σf, rf, dd) := h
  intro p e s m args below meth c F Lo σ0 hF hLo C
  dsimp only at hF hLo ⊢
  refine ax_iconst (pc := 35) C 0 d_MM_rewrote_35 (by decide +kernel) ?_
  cases h
  exact ax_iret (pc := 36) C d_MM_rewrote_36 ⟨rfl, rfl⟩ (Nat.le_refl _) (Nat.le_refl _)
set_option maxHeartbeats 4000000 in
set_option maxRecDepth 100000 in
theorem o_221 (l : Launch) (D : va_G) (kA : Nat → ClassId) (z : Nat) (v : Nat → Nat) (rec : mF) (ih : ∀ t σ xs res, rec t σ xs = some res → mSem l D kA z v t σ xs res) (σ : mS) (xs : List Int32) (res : mR) (h : k_221 rec σ xs = some res) : s_221 l D kA z v σ xs res := by
  intro x0 x1 x2 hxs
  subst hxs
  obtain ⟨σf, rf, dd⟩ := res
  have h : (bnd (rec 214 σ [x0]) (fun σ1 r1 => if r1 = 0 then (if x1 < 0 then (rec 222 σ1 [x0, x1, x2, 1]) else (if bin x0 2001 = true then (if x1 < (σ1.2.1 74 (Int32.toNatClampNeg x0)) then (rec 223 σ1 [x0, x1, x2, 0, 1]) else (rec 222 σ1 [x0, x1, x2, 1])) else none)) else (rec 224 σ1 [x0, x1, x2]))) = some (σf, rf, dd) := h
  refine ax_Mi.of (by decide +kernel) (Nat.le_of_ble_eq_true rfl) ?_
  intro p e s m args below meth c C hnm
  have C : ax_C p s m args meth c b_MM_literal "ClauseProverModel" 5 (some .int) D kA (va_A (mmW kA z v σ) s.heap.size) := C
  obtain ⟨F, hFe⟩ : ∃ F, F = dd + 1 := ⟨_, rfl⟩
  obtain ⟨Lo, hLoe⟩ : ∃ Lo, Lo = 64 * dd + 64 := ⟨_, rfl⟩
  obtain ⟨σ0, hσ0⟩ : ∃ s0, s0 = σ := ⟨_, rfl⟩
  suffices K : AW p l e { frames := F, cells := 0, slots := 0, locals := Lo } s m args below meth c D kA (va_A (mmW kA z v σ0) s.heap.size) 5 (ax_Qi below args s D kA (mmW kA z v σ0) 0 0 (fun r w1 => r = rf ∧ w1 = mmW kA z v σf)) 0 [(0, .ref z), (1, .int x0), (2, .int x1), (3, .int x2)] [] (mmW kA z v σ) 0 0 by rw [hFe, hLoe, hσ0] at K; exact ax_ls ([(0, .ref z), (1, .int x0), (2, .int x1), (3, .int x2)]) [0, 1, 2, 3] rfl K
  have C : ax_C p s m args meth c b_MM_literal "ClauseProverModel" 5 (some .int) D kA (va_A (mmW kA z v σ0) s.heap.size) := by rw [hσ0]; exact C
  have hF : dd + 1 ≤ F := by omega
  have hLo : 64 * dd + 64 ≤ Lo := by omega
  clear hFe hLoe hσ0
  refine ax_aload_n (pc := 0) C d_MM_literal_0 rfl 0 rfl ?_
  refine ax_iload_n (pc := 1) C d_MM_literal_1 rfl 1 rfl ?_
  obtain ⟨σ1, r1, d1_1, d2_1, h1, h, hd2, hd1⟩ := it_b h
  have hm : s_214 l D kA z v σ [x0] (σ1, r1, d1_1) := ih 214 _ _ _ h1
  refine mc_Vi (pc := 2) C (As := [.int x0]) (rest := []) (hm _ rfl) ml_MM_759 d_MM_literal_2 rfl rfl (by dsimp only; omega) (by dsimp only; omega) (Nat.le_of_ble_eq_true rfl) (Nat.le_of_ble_eq_true rfl) (Nat.le_of_ble_eq_true rfl) ?_
  have hF : d2_1 + 1 ≤ F := by omega
  have hLo : 64 * d2_1 + 64 ≤ Lo := by omega
  refine ax_if_ne (pc := 5) C 35 d_MM_literal_5 (by decide) (fun hc => ?_) (fun hc => ?_)
  · have h := it_f hc h
    refine ax_ls ([(0, .ref z), (1, .int x0), (2, .int x1), (3, .int x2)]) [0, 1, 2, 3] rfl ?_
    have hm : s_224 l D kA z v σ1 [x0, x1, x2] (σf, rf, _) := ih 224 _ _ _ h
    exact hm _ _ _ rfl p e s m args below meth c F Lo σ0 hF hLo C
  · have h := it_t hc h
    refine ax_aload_n (pc := 8) C d_MM_literal_8 rfl 0 rfl ?_
    refine ax_iconst (pc := 9) C 1 d_MM_literal_9 (by decide +kernel) ?_
    refine ax_iload_n (pc := 10) C d_MM_literal_10 rfl 2 rfl ?_
    refine ax_if_lt (pc := 11) C 24 d_MM_literal_11 (by decide) (fun hc => ?_) (fun hc => ?_)
    · have h := it_t hc h
      refine ax_ls ([(0, .ref z), (1, .int x0), (2, .int x1), (3, .int x2)]) [0, 1, 2, 3] rfl ?_
      have hm : s_222 l D kA z v σ1 [x0, x1, x2, 1] (σf, rf, _) := ih 222 _ _ _ h
      exact hm _ _ _ _ rfl p e s m args below meth c F Lo σ0 hF hLo C
    · have h := it_f hc h
      refine ax_iload_n (pc := 14) C d_MM_literal_14 rfl 2 rfl ?_
      refine ax_aload_n (pc := 15) C d_MM_literal_15 rfl 0 rfl ?_
      refine mg_238 (pc := 16) C d_MM_literal_16 ?_
      refine ax_iload_n (pc := 19) C d_MM_literal_19 rfl 1 rfl ?_
      obtain ⟨hb, h⟩ := it_g h
      refine ml_74 (pc := 20) C d_MM_literal_20 (bin_in hb) ?_
      refine ax_icmp_lt (pc := 21) C 28 d_MM_literal_21 (by decide) (fun hc => ?_) (fun hc => ?_)
      · have h := it_t hc h
        refine ax_iconst (pc := 28) C 0 d_MM_literal_28 (by decide +kernel) ?_
        refine ax_ls ([(0, .ref z), (1, .int x0), (2, .int x1), (3, .int x2)]) [0, 1, 2, 3] rfl ?_
        have hm : s_223 l D kA z v σ1 [x0, x1, x2, 0, 1] (σf, rf, _) := ih 223 _ _ _ h
        exact hm _ _ _ _ _ rfl p e s m args below meth c F Lo σ0 hF hLo C
      · have h := it_f hc h
        refine ax_ls ([(0, .ref z), (1, .int x0), (2, .int x1), (3, .int x2)]) [0, 1, 2, 3] rfl ?_
        have hm : s_222 l D kA z v σ1 [x0, x1, x2, 1] (σf, rf, _) := ih 222 _ _ _ h
        exact hm _ _ _ _ rfl p e s m args below meth c F Lo σ0 hF hLo C
set_option maxHeartbeats 4000000 in
set_option maxRecDepth 100000 in
theorem o_222 (l : Launch) (D : va_G) (kA : Nat → ClassId) (z : Nat) (v : Nat → Nat) (rec : mF) (ih : ∀ t σ xs res, rec t σ xs = some res → mSem l D kA z v t σ xs res) (σ : mS) (xs : List Int32) (res : mR) (h : k_222 rec σ xs = some res) : s_222 l D kA z v σ xs res := by
  intro x0 x1 x2 x3 hxs
  subst hxs
  obtain ⟨σf, rf, dd⟩ := res
  have h : (rec 223 σ [x0, x1, x2, 1, x3]) = some (σf, rf, dd) := h
  intro p e s m args below meth c F Lo σ0 hF hLo C
  dsimp only at hF hLo ⊢
  refine ax_iconst (pc := 24) C 1 d_MM_literal_24 (by decide +kernel) ?_
  refine ax_goto (pc := 25) C 29 d_MM_literal_25 (by decide) ?_
  refine ax_ls ([(0, .ref z), (1, .int x0), (2, .int x1), (3, .int x2)]) [0, 1, 2, 3] rfl ?_
  have hm : s_223 l D kA z v σ [x0, x1, x2, 1, x3] (σf, rf, _) := ih 223 _ _ _ h
  exact hm _ _ _ _ _ rfl p e s m args below meth c F Lo σ0 hF hLo C
set_option maxHeartbeats 4000000 in
set_option maxRecDepth 100000 in
theorem o_223 (l : Launch) (D : va_G) (kA : Nat → ClassId) (z : Nat) (v : Nat → Nat) (rec : mF) (ih : ∀ t σ xs res, rec t σ xs = some res → mSem l D kA z v t σ xs res) (σ : mS) (xs : List Int32) (res : mR) (h : k_223 rec σ xs = some res) : s_223 l D kA z v σ xs res := by
  intro x0 x1 x2 x3 x4 hxs
  subst hxs
  obtain ⟨σf, rf, dd⟩ := res
  have h : (bnd (rec 5 σ [x4, x3]) (fun σ1 r1 => if r1 = 0 then (if bin x0 2001 = true then (if (x2 : Int32).toInt < 0 ∨ 3 < (x2 : Int32).toInt then (lt_ (mI σ1 4 2) (fun σ2 => some (σ2, 0, 0))) else (if (x2 : Int32) = 0 then (if bin (((σ1.2.1 73 (Int32.toNatClampNeg x0)) : Int32) + x1) 16100 = true then (if (σ1.2.1 68 (Int32.toNatClampNeg (((σ1.2.1 73 (Int32.toNatClampNeg x0)) : Int32) + x1))) = 0 then (rec 225 σ1 [x0, x1, x2, (((σ1.2.1 73 (Int32.toNatClampNeg x0)) : Int32) + x1), 0]) else (rec 225 σ1 [x0, x1, x2, (((σ1.2.1 73 (Int32.toNatClampNeg x0)) : Int32) + x1), 1])) else none) else (if (x2 : Int32) = 1 then (if bin (((σ1.2.1 73 (Int32.toNatClampNeg x0)) : Int32) + x1) 16100 = true then (some (σ1, (σ1.2.1 69 (Int32.toNatClampNeg (((σ1.2.1 73 (Int32.toNatClampNeg x0)) : Int32) + x1))), 0)) else none) else (if (x2 : Int32) = 2 then (if bin (((σ1.2.1 73 (Int32.toNatClampNeg x0)) : Int32) + x1) 16100 = true then (if (σ1.2.1 71 (Int32.toNatClampNeg (((σ1.2.1 73 (Int32.toNatClampNeg x0)) : Int32) + x1))) = 0 then (rec 226 σ1 [x0, x1, x2, (((σ1.2.1 73 (Int32.toNatClampNeg x0)) : Int32) + x1), 0]) else (rec 226 σ1 [x0, x1, x2, (((σ1.2.1 73 (Int32.toNatClampNeg x0)) : Int32) + x1), 1])) else none) else (if bin (((σ1.2.1 73 (Int32.toNatClampNeg x0)) : Int32) + x1) 16100 = true then (some (σ1, (σ1.2.1 70 (Int32.toNatClampNeg (((σ1.2.1 73 (Int32.toNatClampNeg x0)) : Int32) + x1))), 0)) else none))))) else none) else (rec 224 σ1 [x0, x1, x2]))) = some (σf, rf, dd) := h
  intro p e s m args below meth c F Lo σ0 hF hLo C
  dsimp only at hF hLo ⊢
  obtain ⟨σ1, r1, d1_1, d2_1, h1, h, hd2, hd1⟩ := it_b h
  have hm : s_5 l D kA z v σ [x4, x3] (σ1, r1, d1_1) := ih 5 _ _ _ h1
  refine mc_Vi (pc := 29) C (As := [.int x4, .int x3]) (rest := []) (hm _ _ rfl) ml_MM_401 d_MM_literal_29 rfl rfl (by dsimp only; omega) (by dsimp only; omega) (Nat.le_of_ble_eq_true rfl) (Nat.le_of_ble_eq_true rfl) (Nat.le_of_ble_eq_true rfl) ?_
  have hF : d2_1 + 1 ≤ F := by omega
  have hLo : 64 * d2_1 + 64 ≤ Lo := by omega
  refine ax_if_eq (pc := 32) C 37 d_MM_literal_32 (by decide) (fun hc => ?_) (fun hc => ?_)
  · have h := it_t hc h
    refine ax_aload_n (pc := 37) C d_MM_literal_37 rfl 0 rfl ?_
    refine mg_235 (pc := 38) C d_MM_literal_38 ?_
    refine ax_iload_n (pc := 41) C d_MM_literal_41 rfl 1 rfl ?_
    obtain ⟨hb, h⟩ := it_g h
    refine ml_73 (pc := 42) C d_MM_literal_42 (bin_in hb) ?_
    refine ax_iload_n (pc := 43) C d_MM_literal_43 rfl 2 rfl ?_
    refine ax_iadd (pc := 44) C d_MM_literal_44 ?_
    refine ax_istore (pc := 45) C d_MM_literal_45 (Nat.le_of_ble_eq_true rfl) ([(4, .int (((σ1.2.1 73 (Int32.toNatClampNeg x0)) : Int32) + x1)), (0, .ref z), (1, .int x0), (2, .int x1), (3, .int x2)]) rfl ?_
    refine ax_iload_n (pc := 47) C d_MM_literal_47 rfl 4 rfl ?_
    by_cases hr : (x2 : Int32).toInt < 0 ∨ 3 < (x2 : Int32).toInt
    · have h := it_t hr h
      refine ax_tableOut (pc := 48) C 128 d_MM_literal_48 hr (by decide) ?_
      refine ax_aload_n (pc := 128) C d_MM_literal_128 rfl 1 rfl ?_
      refine ax_iconst (pc := 129) C 2 d_MM_literal_129 (by decide +kernel) ?_
      refine mp_24 (pc := 130) C d_MM_literal_130 ?_
      have h := it_l h
      generalize mI σ1 4 2 = σ2 at h ⊢
      refine ax_iconst (pc := 133) C 0 d_MM_literal_133 (by decide +kernel) ?_
      cases h
      exact ax_iret (pc := 134) C d_MM_literal_134 ⟨rfl, rfl⟩ (Nat.le_refl _) (Nat.le_refl _)
    · have h := it_f hr h
      by_cases hv : (x2 : Int32) = 0
      · have h := it_t hv h
        refine ax_tableIn (pc := 48) C 80 d_MM_literal_48 (by omega) (by omega) (by rw [hv]; rfl) (by decide) ?_
        refine ax_aload_n (pc := 80) C d_MM_literal_80 rfl 1 rfl ?_
        refine mg_220 (pc := 81) C d_MM_literal_81 ?_
        refine ax_iload (pc := 84) C d_MM_literal_84 0 rfl ?_
        obtain ⟨hb, h⟩ := it_g h
        refine ml_68 (pc := 86) C d_MM_literal_86 (bin_in hb) ?_
        refine ax_if_eq (pc := 87) C 94 d_MM_literal_87 (by decide) (fun hc => ?_) (fun hc => ?_)
        · have h := it_t hc h
          refine ax_iconst (pc := 94) C 0 d_MM_literal_94 (by decide +kernel) ?_
          refine ax_ls ([(0, .ref z), (1, .int x0), (2, .int x1), (3, .int x2), (4, .int (((σ1.2.1 73 (Int32.toNatClampNeg x0)) : Int32) + x1))]) [1, 2, 3, 4, 0] rfl ?_
          have hm : s_225 l D kA z v σ1 [x0, x1, x2, (((σ1.2.1 73 (Int32.toNatClampNeg x0)) : Int32) + x1), 0] (σf, rf, _) := ih 225 _ _ _ h
          exact hm _ _ _ _ _ rfl p e s m args below meth c F Lo σ0 hF hLo C
        · have h := it_f hc h
          refine ax_iconst (pc := 90) C 1 d_MM_literal_90 (by decide +kernel) ?_
          refine ax_goto (pc := 91) C 95 d_MM_literal_91 (by decide) ?_
          refine ax_ls ([(0, .ref z), (1, .int x0), (2, .int x1), (3, .int x2), (4, .int (((σ1.2.1 73 (Int32.toNatClampNeg x0)) : Int32) + x1))]) [1, 2, 3, 4, 0] rfl ?_
          have hm : s_225 l D kA z v σ1 [x0, x1, x2, (((σ1.2.1 73 (Int32.toNatClampNeg x0)) : Int32) + x1), 1] (σf, rf, _) := ih 225 _ _ _ h
          exact hm _ _ _ _ _ rfl p e s m args below meth c F Lo σ0 hF hLo C
      · have h := it_f hv h
        have hn0 : ¬ (x2 : Int32).toInt = 0 := fun q => hv (i32q (by rw [q]; rfl))
        by_cases hv : (x2 : Int32) = 1
        · have h := it_t hv h
          refine ax_tableIn (pc := 48) C 96 d_MM_literal_48 (by omega) (by omega) (by rw [hv]; rfl) (by decide) ?_
          refine ax_aload_n (pc := 96) C d_MM_literal_96 rfl 1 rfl ?_
          refine mg_223 (pc := 97) C d_MM_literal_97 ?_
          refine ax_iload (pc := 100) C d_MM_literal_100 0 rfl ?_
          obtain ⟨hb, h⟩ := it_g h
          refine ml_69 (pc := 102) C d_MM_literal_102 (bin_in hb) ?_
          cases h
          exact ax_iret (pc := 103) C d_MM_literal_103 ⟨rfl, rfl⟩ (Nat.le_refl _) (Nat.le_refl _)
        · have h := it_f hv h
          have hn1 : ¬ (x2 : Int32).toInt = 1 := fun q => hv (i32q (by rw [q]; rfl))
          by_cases hv : (x2 : Int32) = 2
          · have h := it_t hv h
            refine ax_tableIn (pc := 48) C 104 d_MM_literal_48 (by omega) (by omega) (by rw [hv]; rfl) (by decide) ?_
            refine ax_aload_n (pc := 104) C d_MM_literal_104 rfl 1 rfl ?_
            refine mg_229 (pc := 105) C d_MM_literal_105 ?_
            refine ax_iload (pc := 108) C d_MM_literal_108 0 rfl ?_
            obtain ⟨hb, h⟩ := it_g h
            refine ml_71 (pc := 110) C d_MM_literal_110 (bin_in hb) ?_
            refine ax_if_eq (pc := 111) C 118 d_MM_literal_111 (by decide) (fun hc => ?_) (fun hc => ?_)
            · have h := it_t hc h
              refine ax_iconst (pc := 118) C 0 d_MM_literal_118 (by decide +kernel) ?_
              refine ax_ls ([(0, .ref z), (1, .int x0), (2, .int x1), (3, .int x2), (4, .int (((σ1.2.1 73 (Int32.toNatClampNeg x0)) : Int32) + x1))]) [1, 2, 3, 4, 0] rfl ?_
              have hm : s_226 l D kA z v σ1 [x0, x1, x2, (((σ1.2.1 73 (Int32.toNatClampNeg x0)) : Int32) + x1), 0] (σf, rf, _) := ih 226 _ _ _ h
              exact hm _ _ _ _ _ rfl p e s m args below meth c F Lo σ0 hF hLo C
            · have h := it_f hc h
              refine ax_iconst (pc := 114) C 1 d_MM_literal_114 (by decide +kernel) ?_
              refine ax_goto (pc := 115) C 119 d_MM_literal_115 (by decide) ?_
              refine ax_ls ([(0, .ref z), (1, .int x0), (2, .int x1), (3, .int x2), (4, .int (((σ1.2.1 73 (Int32.toNatClampNeg x0)) : Int32) + x1))]) [1, 2, 3, 4, 0] rfl ?_
              have hm : s_226 l D kA z v σ1 [x0, x1, x2, (((σ1.2.1 73 (Int32.toNatClampNeg x0)) : Int32) + x1), 1] (σf, rf, _) := ih 226 _ _ _ h
              exact hm _ _ _ _ _ rfl p e s m args below meth c F Lo σ0 hF hLo C
          · have h := it_f hv h
            have hn2 : ¬ (x2 : Int32).toInt = 2 := fun q => hv (i32q (by rw [q]; rfl))
            have hv : (x2 : Int32) = 3 := i32q (by have e9 : (3 : Int32).toInt = 3 := rfl; omega)
            refine ax_tableIn (pc := 48) C 120 d_MM_literal_48 (by omega) (by omega) (by rw [hv]; rfl) (by decide) ?_
            refine ax_aload_n (pc := 120) C d_MM_literal_120 rfl 1 rfl ?_
            refine mg_226 (pc := 121) C d_MM_literal_121 ?_
            refine ax_iload (pc := 124) C d_MM_literal_124 0 rfl ?_
            obtain ⟨hb, h⟩ := it_g h
            refine ml_70 (pc := 126) C d_MM_literal_126 (bin_in hb) ?_
            cases h
            exact ax_iret (pc := 127) C d_MM_literal_127 ⟨rfl, rfl⟩ (Nat.le_refl _) (Nat.le_refl _)
  · have h := it_f hc h
    refine ax_ls ([(0, .ref z), (1, .int x0), (2, .int x1), (3, .int x2)]) [0, 1, 2, 3] rfl ?_
    have hm : s_224 l D kA z v σ1 [x0, x1, x2] (σf, rf, _) := ih 224 _ _ _ h
    exact hm _ _ _ rfl p e s m args below meth c F Lo σ0 hF hLo C
set_option maxHeartbeats 4000000 in
set_option maxRecDepth 100000 in
theorem o_224 (l : Launch) (D : va_G) (kA : Nat → ClassId) (z : Nat) (v : Nat → Nat) (rec : mF) (ih : ∀ t σ xs res, rec t σ xs = some res → mSem l D kA z v t σ xs res) (σ : mS) (xs : List Int32) (res : mR) (h : k_224 rec σ xs = some res) : s_224 l D kA z v σ xs res := by
  intro x0 x1 x2 hxs
  subst hxs
  obtain ⟨σf, rf, dd⟩ := res
  have h : (some (σ, 0, 0)) = some (σf, rf, dd) := h
  intro p e s m args below meth c F Lo σ0 hF hLo C
  dsimp only at hF hLo ⊢
  refine ax_iconst (pc := 35) C 0 d_MM_literal_35 (by decide +kernel) ?_
  cases h
  exact ax_iret (pc := 36) C d_MM_literal_36 ⟨rfl, rfl⟩ (Nat.le_refl _) (Nat.le_refl _)
set_option maxHeartbeats 4000000 in
set_option maxRecDepth 100000 in
theorem o_225 (l : Launch) (D : va_G) (kA : Nat → ClassId) (z : Nat) (v : Nat → Nat) (rec : mF) (ih : ∀ t σ xs res, rec t σ xs = some res → mSem l D kA z v t σ xs res) (σ : mS) (xs : List Int32) (res : mR) (h : k_225 rec σ xs = some res) : s_225 l D kA z v σ xs res := by
  intro x0 x1 x2 x3 x4 hxs
  subst hxs
  obtain ⟨σf, rf, dd⟩ := res
  have h : (some (σ, x4, 0)) = some (σf, rf, dd) := h
  intro p e s m args below meth c F Lo σ0 hF hLo C
  dsimp only at hF hLo ⊢
  cases h
  exact ax_iret (pc := 95) C d_MM_literal_95 ⟨rfl, rfl⟩ (Nat.le_refl _) (Nat.le_refl _)
set_option maxHeartbeats 4000000 in
set_option maxRecDepth 100000 in
theorem o_226 (l : Launch) (D : va_G) (kA : Nat → ClassId) (z : Nat) (v : Nat → Nat) (rec : mF) (ih : ∀ t σ xs res, rec t σ xs = some res → mSem l D kA z v t σ xs res) (σ : mS) (xs : List Int32) (res : mR) (h : k_226 rec σ xs = some res) : s_226 l D kA z v σ xs res := by
  intro x0 x1 x2 x3 x4 hxs
  subst hxs
  obtain ⟨σf, rf, dd⟩ := res
  have h : (some (σ, x4, 0)) = some (σf, rf, dd) := h
  intro p e s m args below meth c F Lo σ0 hF hLo C
  dsimp only at hF hLo ⊢
  cases h
  exact ax_iret (pc := 119) C d_MM_literal_119 ⟨rfl, rfl⟩ (Nat.le_refl _) (Nat.le_refl _)
set_option maxHeartbeats 4000000 in
set_option maxRecDepth 100000 in
theorem o_227 (l : Launch) (D : va_G) (kA : Nat → ClassId) (z : Nat) (v : Nat → Nat) (rec : mF) (ih : ∀ t σ xs res, rec t σ xs = some res → mSem l D kA z v t σ xs res) (σ : mS) (xs : List Int32) (res : mR) (h : k_227 rec σ xs = some res) : s_227 l D kA z v σ xs res := by
  intro x0 hxs
  subst hxs
  obtain ⟨σf, rf, dd⟩ := res
  have h : (lt_ (mI σ 4 0) (fun σ1 => if x0 < 0 then (rec 228 σ1 [x0, 1]) else (if x0 < (σ1.1 3) then (rec 229 σ1 [x0, 0, 1]) else (rec 228 σ1 [x0, 1])))) = some (σf, rf, dd) := h
  refine ax_Mi.of (by decide +kernel) (Nat.le_of_ble_eq_true rfl) ?_
  intro p e s m args below meth c C hnm
  have C : ax_C p s m args meth c b_MM_out "ClauseProverModel" 2 (some .int) D kA (va_A (mmW kA z v σ) s.heap.size) := C
  obtain ⟨F, hFe⟩ : ∃ F, F = dd + 1 := ⟨_, rfl⟩
  obtain ⟨Lo, hLoe⟩ : ∃ Lo, Lo = 64 * dd + 64 := ⟨_, rfl⟩
  obtain ⟨σ0, hσ0⟩ : ∃ s0, s0 = σ := ⟨_, rfl⟩
  suffices K : AW p l e { frames := F, cells := 0, slots := 0, locals := Lo } s m args below meth c D kA (va_A (mmW kA z v σ0) s.heap.size) 2 (ax_Qi below args s D kA (mmW kA z v σ0) 0 0 (fun r w1 => r = rf ∧ w1 = mmW kA z v σf)) 0 [(0, .ref z), (1, .int x0)] [] (mmW kA z v σ) 0 0 by rw [hFe, hLoe, hσ0] at K; exact ax_ls ([(0, .ref z), (1, .int x0)]) [0, 1] rfl K
  have C : ax_C p s m args meth c b_MM_out "ClauseProverModel" 2 (some .int) D kA (va_A (mmW kA z v σ0) s.heap.size) := by rw [hσ0]; exact C
  have hF : dd + 1 ≤ F := by omega
  have hLo : 64 * dd + 64 ≤ Lo := by omega
  clear hFe hLoe hσ0
  refine ax_aload_n (pc := 0) C d_MM_out_0 rfl 0 rfl ?_
  refine ax_iconst (pc := 1) C 0 d_MM_out_1 (by decide +kernel) ?_
  refine mp_24 (pc := 2) C d_MM_out_2 ?_
  have h := it_l h
  generalize mI σ 4 0 = σ1 at h ⊢
  refine ax_aload_n (pc := 5) C d_MM_out_5 rfl 0 rfl ?_
  refine ax_iconst (pc := 6) C 1 d_MM_out_6 (by decide +kernel) ?_
  refine ax_iload_n (pc := 7) C d_MM_out_7 rfl 1 rfl ?_
  refine ax_if_lt (pc := 8) C 19 d_MM_out_8 (by decide) (fun hc => ?_) (fun hc => ?_)
  · have h := it_t hc h
    refine ax_ls ([(0, .ref z), (1, .int x0)]) [0, 1] rfl ?_
    have hm : s_228 l D kA z v σ1 [x0, 1] (σf, rf, _) := ih 228 _ _ _ h
    exact hm _ _ rfl p e s m args below meth c F Lo σ0 hF hLo C
  · have h := it_f hc h
    refine ax_iload_n (pc := 11) C d_MM_out_11 rfl 1 rfl ?_
    refine ax_aload_n (pc := 12) C d_MM_out_12 rfl 0 rfl ?_
    refine mg_21 (pc := 13) C d_MM_out_13 ?_
    refine ax_icmp_lt (pc := 16) C 23 d_MM_out_16 (by decide) (fun hc => ?_) (fun hc => ?_)
    · have h := it_t hc h
      refine ax_iconst (pc := 23) C 0 d_MM_out_23 (by decide +kernel) ?_
      refine ax_ls ([(0, .ref z), (1, .int x0)]) [0, 1] rfl ?_
      have hm : s_229 l D kA z v σ1 [x0, 0, 1] (σf, rf, _) := ih 229 _ _ _ h
      exact hm _ _ _ rfl p e s m args below meth c F Lo σ0 hF hLo C
    · have h := it_f hc h
      refine ax_ls ([(0, .ref z), (1, .int x0)]) [0, 1] rfl ?_
      have hm : s_228 l D kA z v σ1 [x0, 1] (σf, rf, _) := ih 228 _ _ _ h
      exact hm _ _ rfl p e s m args below meth c F Lo σ0 hF hLo C
set_option maxHeartbeats 4000000 in
set_option maxRecDepth 100000 in
theorem o_228 (l : Launch) (D : va_G) (kA : Nat → ClassId) (z : Nat) (v : Nat → Nat) (rec : mF) (ih : ∀ t σ xs res, rec t σ xs = some res → mSem l D kA z v t σ xs res) (σ : mS) (xs : List Int32) (res : mR) (h : k_228 rec σ xs = some res) : s_228 l D kA z v σ xs res := by
  intro x0 x1 hxs
  subst hxs
  obtain ⟨σf, rf, dd⟩ := res
  have h : (rec 229 σ [x0, 1, x1]) = some (σf, rf, dd) := h
  intro p e s m args below meth c F Lo σ0 hF hLo C
  dsimp only at hF hLo ⊢
  refine ax_iconst (pc := 19) C 1 d_MM_out_19 (by decide +kernel) ?_
  refine ax_goto (pc := 20) C 24 d_MM_out_20 (by decide) ?_
  refine ax_ls ([(0, .ref z), (1, .int x0)]) [0, 1] rfl ?_
  have hm : s_229 l D kA z v σ [x0, 1, x1] (σf, rf, _) := ih 229 _ _ _ h
  exact hm _ _ _ rfl p e s m args below meth c F Lo σ0 hF hLo C
set_option maxHeartbeats 4000000 in
set_option maxRecDepth 100000 in
theorem o_229 (l : Launch) (D : va_G) (kA : Nat → ClassId) (z : Nat) (v : Nat → Nat) (rec : mF) (ih : ∀ t σ xs res, rec t σ xs = some res → mSem l D kA z v t σ xs res) (σ : mS) (xs : List Int32) (res : mR) (h : k_229 rec σ xs = some res) : s_229 l D kA z v σ xs res := by
  intro x0 x1 x2 hxs
  subst hxs
  obtain ⟨σf, rf, dd⟩ := res
  have h : (bnd (rec 5 σ [x2, x1]) (fun σ1 r1 => if r1 = 0 then (if bin x0 (σ1.2.2 1) = true then (some (σ1, (σ1.2.1 1 (Int32.toNatClampNeg x0)), 0)) else none) else (some (σ1, 0, 0)))) = some (σf, rf, dd) := h
  intro p e s m args below meth c F Lo σ0 hF hLo C
  dsimp only at hF hLo ⊢
  obtain ⟨σ1, r1, d1_1, d2_1, h1, h, hd2, hd1⟩ := it_b h
  have hm : s_5 l D kA z v σ [x2, x1] (σ1, r1, d1_1) := ih 5 _ _ _ h1
  refine mc_Vi (pc := 24) C (As := [.int x2, .int x1]) (rest := []) (hm _ _ rfl) ml_MM_401 d_MM_out_24 rfl rfl (by dsimp only; omega) (by dsimp only; omega) (Nat.le_of_ble_eq_true rfl) (Nat.le_of_ble_eq_true rfl) (Nat.le_of_ble_eq_true rfl) ?_
  have hF : d2_1 + 1 ≤ F := by omega
  have hLo : 64 * d2_1 + 64 ≤ Lo := by omega
  refine ax_if_eq (pc := 27) C 32 d_MM_out_27 (by decide) (fun hc => ?_) (fun hc => ?_)
  · have h := it_t hc h
    refine ax_aload_n (pc := 32) C d_MM_out_32 rfl 0 rfl ?_
    refine mg_14 (pc := 33) C d_MM_out_33 ?_
    refine ax_iload_n (pc := 36) C d_MM_out_36 rfl 1 rfl ?_
    obtain ⟨hb, h⟩ := it_g h
    refine ml_1 (pc := 37) C d_MM_out_37 (bin_in hb) ?_
    cases h
    exact ax_iret (pc := 38) C d_MM_out_38 ⟨rfl, rfl⟩ (Nat.le_refl _) (Nat.le_refl _)
  · have h := it_f hc h
    refine ax_iconst (pc := 30) C 0 d_MM_out_30 (by decide +kernel) ?_
    cases h
    exact ax_iret (pc := 31) C d_MM_out_31 ⟨rfl, rfl⟩ (Nat.le_refl _) (Nat.le_refl _)
set_option maxHeartbeats 4000000 in
set_option maxRecDepth 100000 in
theorem o_230 (l : Launch) (D : va_G) (kA : Nat → ClassId) (z : Nat) (v : Nat → Nat) (rec : mF) (ih : ∀ t σ xs res, rec t σ xs = some res → mSem l D kA z v t σ xs res) (σ : mS) (xs : List Int32) (res : mR) (h : k_230 rec σ xs = some res) : s_230 l D kA z v σ xs res := by
  intro x0 x1 hxs
  subst hxs
  obtain ⟨σf, rf, dd⟩ := res
  have h : (lt_ (mI σ 4 0) (fun σ1 => if x0 < 0 then (rec 231 σ1 [x0, x1, 1]) else (if x0 < (σ1.1 19) then (rec 232 σ1 [x0, x1, 0, 1]) else (rec 231 σ1 [x0, x1, 1])))) = some (σf, rf, dd) := h
  refine ax_Mi.of (by decide +kernel) (Nat.le_of_ble_eq_true rfl) ?_
  intro p e s m args below meth c C hnm
  have C : ax_C p s m args meth c b_MM_symbol2 "ClauseProverModel" 3 (some .int) D kA (va_A (mmW kA z v σ) s.heap.size) := C
  obtain ⟨F, hFe⟩ : ∃ F, F = dd + 1 := ⟨_, rfl⟩
  obtain ⟨Lo, hLoe⟩ : ∃ Lo, Lo = 64 * dd + 64 := ⟨_, rfl⟩
  obtain ⟨σ0, hσ0⟩ : ∃ s0, s0 = σ := ⟨_, rfl⟩
  suffices K : AW p l e { frames := F, cells := 0, slots := 0, locals := Lo } s m args below meth c D kA (va_A (mmW kA z v σ0) s.heap.size) 3 (ax_Qi below args s D kA (mmW kA z v σ0) 0 0 (fun r w1 => r = rf ∧ w1 = mmW kA z v σf)) 0 [(0, .ref z), (1, .int x0), (2, .int x1)] [] (mmW kA z v σ) 0 0 by rw [hFe, hLoe, hσ0] at K; exact ax_ls ([(0, .ref z), (1, .int x0), (2, .int x1)]) [0, 1, 2] rfl K
  have C : ax_C p s m args meth c b_MM_symbol2 "ClauseProverModel" 3 (some .int) D kA (va_A (mmW kA z v σ0) s.heap.size) := by rw [hσ0]; exact C
  have hF : dd + 1 ≤ F := by omega
  have hLo : 64 * dd + 64 ≤ Lo := by omega
  clear hFe hLoe hσ0
  refine ax_aload_n (pc := 0) C d_MM_symbol2_0 rfl 0 rfl ?_
  refine ax_iconst (pc := 1) C 0 d_MM_symbol2_1 (by decide +kernel) ?_
  refine mp_24 (pc := 2) C d_MM_symbol2_2 ?_
  have h := it_l h
  generalize mI σ 4 0 = σ1 at h ⊢
  refine ax_aload_n (pc := 5) C d_MM_symbol2_5 rfl 0 rfl ?_
  refine ax_iconst (pc := 6) C 1 d_MM_symbol2_6 (by decide +kernel) ?_
  refine ax_iload_n (pc := 7) C d_MM_symbol2_7 rfl 1 rfl ?_
  refine ax_if_lt (pc := 8) C 19 d_MM_symbol2_8 (by decide) (fun hc => ?_) (fun hc => ?_)
  · have h := it_t hc h
    refine ax_ls ([(0, .ref z), (1, .int x0), (2, .int x1)]) [0, 1, 2] rfl ?_
    have hm : s_231 l D kA z v σ1 [x0, x1, 1] (σf, rf, _) := ih 231 _ _ _ h
    exact hm _ _ _ rfl p e s m args below meth c F Lo σ0 hF hLo C
  · have h := it_f hc h
    refine ax_iload_n (pc := 11) C d_MM_symbol2_11 rfl 1 rfl ?_
    refine ax_aload_n (pc := 12) C d_MM_symbol2_12 rfl 0 rfl ?_
    refine mg_71 (pc := 13) C d_MM_symbol2_13 ?_
    refine ax_icmp_lt (pc := 16) C 23 d_MM_symbol2_16 (by decide) (fun hc => ?_) (fun hc => ?_)
    · have h := it_t hc h
      refine ax_iconst (pc := 23) C 0 d_MM_symbol2_23 (by decide +kernel) ?_
      refine ax_ls ([(0, .ref z), (1, .int x0), (2, .int x1)]) [0, 1, 2] rfl ?_
      have hm : s_232 l D kA z v σ1 [x0, x1, 0, 1] (σf, rf, _) := ih 232 _ _ _ h
      exact hm _ _ _ _ rfl p e s m args below meth c F Lo σ0 hF hLo C
    · have h := it_f hc h
      refine ax_ls ([(0, .ref z), (1, .int x0), (2, .int x1)]) [0, 1, 2] rfl ?_
      have hm : s_231 l D kA z v σ1 [x0, x1, 1] (σf, rf, _) := ih 231 _ _ _ h
      exact hm _ _ _ rfl p e s m args below meth c F Lo σ0 hF hLo C
set_option maxHeartbeats 4000000 in
set_option maxRecDepth 100000 in
theorem o_231 (l : Launch) (D : va_G) (kA : Nat → ClassId) (z : Nat) (v : Nat → Nat) (rec : mF) (ih : ∀ t σ xs res, rec t σ xs = some res → mSem l D kA z v t σ xs res) (σ : mS) (xs : List Int32) (res : mR) (h : k_231 rec σ xs = some res) : s_231 l D kA z v σ xs res := by
  intro x0 x1 x2 hxs
  subst hxs
  obtain ⟨σf, rf, dd⟩ := res
  have h : (rec 232 σ [x0, x1, 1, x2]) = some (σf, rf, dd) := h
  intro p e s m args below meth c F Lo σ0 hF hLo C
  dsimp only at hF hLo ⊢
  refine ax_iconst (pc := 19) C 1 d_MM_symbol2_19 (by decide +kernel) ?_
  refine ax_goto (pc := 20) C 24 d_MM_symbol2_20 (by decide) ?_
  refine ax_ls ([(0, .ref z), (1, .int x0), (2, .int x1)]) [0, 1, 2] rfl ?_
  have hm : s_232 l D kA z v σ [x0, x1, 1, x2] (σf, rf, _) := ih 232 _ _ _ h
  exact hm _ _ _ _ rfl p e s m args below meth c F Lo σ0 hF hLo C
set_option maxHeartbeats 4000000 in
set_option maxRecDepth 100000 in
theorem o_232 (l : Launch) (D : va_G) (kA : Nat → ClassId) (z : Nat) (v : Nat → Nat) (rec : mF) (ih : ∀ t σ xs res, rec t σ xs = some res → mSem l D kA z v t σ xs res) (σ : mS) (xs : List Int32) (res : mR) (h : k_232 rec σ xs = some res) : s_232 l D kA z v σ xs res := by
  intro x0 x1 x2 x3 hxs
  subst hxs
  obtain ⟨σf, rf, dd⟩ := res
  have h : (bnd (rec 5 σ [x3, x2]) (fun σ1 r1 => if r1 = 0 then (if x1 < 0 then (rec 233 σ1 [x0, x1, 2]) else (if x1 ≤ 2 then (rec 234 σ1 [x0, x1, 0, 2]) else (rec 233 σ1 [x0, x1, 2]))) else (rec 235 σ1 [x0, x1]))) = some (σf, rf, dd) := h
  intro p e s m args below meth c F Lo σ0 hF hLo C
  dsimp only at hF hLo ⊢
  obtain ⟨σ1, r1, d1_1, d2_1, h1, h, hd2, hd1⟩ := it_b h
  have hm : s_5 l D kA z v σ [x3, x2] (σ1, r1, d1_1) := ih 5 _ _ _ h1
  refine mc_Vi (pc := 24) C (As := [.int x3, .int x2]) (rest := []) (hm _ _ rfl) ml_MM_401 d_MM_symbol2_24 rfl rfl (by dsimp only; omega) (by dsimp only; omega) (Nat.le_of_ble_eq_true rfl) (Nat.le_of_ble_eq_true rfl) (Nat.le_of_ble_eq_true rfl) ?_
  have hF : d2_1 + 1 ≤ F := by omega
  have hLo : 64 * d2_1 + 64 ≤ Lo := by omega
  refine ax_if_ne (pc := 27) C 52 d_MM_symbol2_27 (by decide) (fun hc => ?_) (fun hc => ?_)
  · have h := it_f hc h
    refine ax_ls ([(0, .ref z), (1, .int x0), (2, .int x1)]) [0, 1, 2] rfl ?_
    have hm : s_235 l D kA z v σ1 [x0, x1] (σf, rf, _) := ih 235 _ _ _ h
    exact hm _ _ rfl p e s m args below meth c F Lo σ0 hF hLo C
  · have h := it_t hc h
    refine ax_aload_n (pc := 30) C d_MM_symbol2_30 rfl 0 rfl ?_
    refine ax_iconst (pc := 31) C 2 d_MM_symbol2_31 (by decide +kernel) ?_
    refine ax_iload_n (pc := 32) C d_MM_symbol2_32 rfl 2 rfl ?_
    refine ax_if_lt (pc := 33) C 41 d_MM_symbol2_33 (by decide) (fun hc => ?_) (fun hc => ?_)
    · have h := it_t hc h
      refine ax_ls ([(0, .ref z), (1, .int x0), (2, .int x1)]) [0, 1, 2] rfl ?_
      have hm : s_233 l D kA z v σ1 [x0, x1, 2] (σf, rf, _) := ih 233 _ _ _ h
      exact hm _ _ _ rfl p e s m args below meth c F Lo σ0 hF hLo C
    · have h := it_f hc h
      refine ax_iload_n (pc := 36) C d_MM_symbol2_36 rfl 2 rfl ?_
      refine ax_iconst (pc := 37) C 2 d_MM_symbol2_37 (by decide +kernel) ?_
      refine ax_icmp_le (pc := 38) C 45 d_MM_symbol2_38 (by decide) (fun hc => ?_) (fun hc => ?_)
      · have h := it_t hc h
        refine ax_iconst (pc := 45) C 0 d_MM_symbol2_45 (by decide +kernel) ?_
        refine ax_ls ([(0, .ref z), (1, .int x0), (2, .int x1)]) [0, 1, 2] rfl ?_
        have hm : s_234 l D kA z v σ1 [x0, x1, 0, 2] (σf, rf, _) := ih 234 _ _ _ h
        exact hm _ _ _ _ rfl p e s m args below meth c F Lo σ0 hF hLo C
      · have h := it_f hc h
        refine ax_ls ([(0, .ref z), (1, .int x0), (2, .int x1)]) [0, 1, 2] rfl ?_
        have hm : s_233 l D kA z v σ1 [x0, x1, 2] (σf, rf, _) := ih 233 _ _ _ h
        exact hm _ _ _ rfl p e s m args below meth c F Lo σ0 hF hLo C
set_option maxHeartbeats 4000000 in
set_option maxRecDepth 100000 in
theorem o_233 (l : Launch) (D : va_G) (kA : Nat → ClassId) (z : Nat) (v : Nat → Nat) (rec : mF) (ih : ∀ t σ xs res, rec t σ xs = some res → mSem l D kA z v t σ xs res) (σ : mS) (xs : List Int32) (res : mR) (h : k_233 rec σ xs = some res) : s_233 l D kA z v σ xs res := by
  intro x0 x1 x2 hxs
  subst hxs
  obtain ⟨σf, rf, dd⟩ := res
  have h : (rec 234 σ [x0, x1, 1, x2]) = some (σf, rf, dd) := h
  intro p e s m args below meth c F Lo σ0 hF hLo C
  dsimp only at hF hLo ⊢
  refine ax_iconst (pc := 41) C 1 d_MM_symbol2_41 (by decide +kernel) ?_
  refine ax_goto (pc := 42) C 46 d_MM_symbol2_42 (by decide) ?_
  refine ax_ls ([(0, .ref z), (1, .int x0), (2, .int x1)]) [0, 1, 2] rfl ?_
  have hm : s_234 l D kA z v σ [x0, x1, 1, x2] (σf, rf, _) := ih 234 _ _ _ h
  exact hm _ _ _ _ rfl p e s m args below meth c F Lo σ0 hF hLo C
set_option maxHeartbeats 4000000 in
set_option maxRecDepth 100000 in
theorem o_234 (l : Launch) (D : va_G) (kA : Nat → ClassId) (z : Nat) (v : Nat → Nat) (rec : mF) (ih : ∀ t σ xs res, rec t σ xs = some res → mSem l D kA z v t σ xs res) (σ : mS) (xs : List Int32) (res : mR) (h : k_234 rec σ xs = some res) : s_234 l D kA z v σ xs res := by
  intro x0 x1 x2 x3 hxs
  subst hxs
  obtain ⟨σf, rf, dd⟩ := res
  have h : (bnd (rec 5 σ [x3, x2]) (fun σ1 r1 => if r1 = 0 then (if x1 = 0 then (if bin x0 900 = true then (rec 236 σ1 [x0, x1, (σ1.2.1 48 (Int32.toNatClampNeg x0))]) else none) else (if x1 = 1 then (if bin x0 900 = true then (if (σ1.2.1 49 (Int32.toNatClampNeg x0)) = 0 then (rec 236 σ1 [x0, x1, 0]) else (rec 236 σ1 [x0, x1, 1])) else none) else (if x0 ≤ (σ1.1 20) then (rec 236 σ1 [x0, x1, 0]) else (rec 236 σ1 [x0, x1, 1])))) else (rec 235 σ1 [x0, x1]))) = some (σf, rf, dd) := h
  intro p e s m args below meth c F Lo σ0 hF hLo C
  dsimp only at hF hLo ⊢
  obtain ⟨σ1, r1, d1_1, d2_1, h1, h, hd2, hd1⟩ := it_b h
  have hm : s_5 l D kA z v σ [x3, x2] (σ1, r1, d1_1) := ih 5 _ _ _ h1
  refine mc_Vi (pc := 46) C (As := [.int x3, .int x2]) (rest := []) (hm _ _ rfl) ml_MM_401 d_MM_symbol2_46 rfl rfl (by dsimp only; omega) (by dsimp only; omega) (Nat.le_of_ble_eq_true rfl) (Nat.le_of_ble_eq_true rfl) (Nat.le_of_ble_eq_true rfl) ?_
  have hF : d2_1 + 1 ≤ F := by omega
  have hLo : 64 * d2_1 + 64 ≤ Lo := by omega
  refine ax_if_eq (pc := 49) C 54 d_MM_symbol2_49 (by decide) (fun hc => ?_) (fun hc => ?_)
  · have h := it_t hc h
    refine ax_iload_n (pc := 54) C d_MM_symbol2_54 rfl 2 rfl ?_
    refine ax_if_ne (pc := 55) C 67 d_MM_symbol2_55 (by decide) (fun hc => ?_) (fun hc => ?_)
    · have h := it_f hc h
      refine ax_iload_n (pc := 67) C d_MM_symbol2_67 rfl 2 rfl ?_
      refine ax_iconst (pc := 68) C 1 d_MM_symbol2_68 (by decide +kernel) ?_
      refine ax_icmp_ne (pc := 69) C 89 d_MM_symbol2_69 (by decide) (fun hc => ?_) (fun hc => ?_)
      · have h := it_f hc h
        refine ax_iload_n (pc := 89) C d_MM_symbol2_89 rfl 1 rfl ?_
        refine ax_aload_n (pc := 90) C d_MM_symbol2_90 rfl 0 rfl ?_
        refine mg_74 (pc := 91) C d_MM_symbol2_91 ?_
        refine ax_icmp_le (pc := 94) C 101 d_MM_symbol2_94 (by decide) (fun hc => ?_) (fun hc => ?_)
        · have h := it_t hc h
          refine ax_iconst (pc := 101) C 0 d_MM_symbol2_101 (by decide +kernel) ?_
          refine ax_ls ([(0, .ref z), (1, .int x0), (2, .int x1)]) [0, 1, 2] rfl ?_
          have hm : s_236 l D kA z v σ1 [x0, x1, 0] (σf, rf, _) := ih 236 _ _ _ h
          exact hm _ _ _ rfl p e s m args below meth c F Lo σ0 hF hLo C
        · have h := it_f hc h
          refine ax_iconst (pc := 97) C 1 d_MM_symbol2_97 (by decide +kernel) ?_
          refine ax_goto (pc := 98) C 102 d_MM_symbol2_98 (by decide) ?_
          refine ax_ls ([(0, .ref z), (1, .int x0), (2, .int x1)]) [0, 1, 2] rfl ?_
          have hm : s_236 l D kA z v σ1 [x0, x1, 1] (σf, rf, _) := ih 236 _ _ _ h
          exact hm _ _ _ rfl p e s m args below meth c F Lo σ0 hF hLo C
      · have h := it_t hc h
        refine ax_aload_n (pc := 72) C d_MM_symbol2_72 rfl 0 rfl ?_
        refine mg_163 (pc := 73) C d_MM_symbol2_73 ?_
        refine ax_iload_n (pc := 76) C d_MM_symbol2_76 rfl 1 rfl ?_
        obtain ⟨hb, h⟩ := it_g h
        refine ml_49 (pc := 77) C d_MM_symbol2_77 (bin_in hb) ?_
        refine ax_if_eq (pc := 78) C 85 d_MM_symbol2_78 (by decide) (fun hc => ?_) (fun hc => ?_)
        · have h := it_t hc h
          refine ax_iconst (pc := 85) C 0 d_MM_symbol2_85 (by decide +kernel) ?_
          refine ax_goto (pc := 86) C 102 d_MM_symbol2_86 (by decide) ?_
          refine ax_ls ([(0, .ref z), (1, .int x0), (2, .int x1)]) [0, 1, 2] rfl ?_
          have hm : s_236 l D kA z v σ1 [x0, x1, 0] (σf, rf, _) := ih 236 _ _ _ h
          exact hm _ _ _ rfl p e s m args below meth c F Lo σ0 hF hLo C
        · have h := it_f hc h
          refine ax_iconst (pc := 81) C 1 d_MM_symbol2_81 (by decide +kernel) ?_
          refine ax_goto (pc := 82) C 102 d_MM_symbol2_82 (by decide) ?_
          refine ax_ls ([(0, .ref z), (1, .int x0), (2, .int x1)]) [0, 1, 2] rfl ?_
          have hm : s_236 l D kA z v σ1 [x0, x1, 1] (σf, rf, _) := ih 236 _ _ _ h
          exact hm _ _ _ rfl p e s m args below meth c F Lo σ0 hF hLo C
    · have h := it_t hc h
      refine ax_aload_n (pc := 58) C d_MM_symbol2_58 rfl 0 rfl ?_
      refine mg_160 (pc := 59) C d_MM_symbol2_59 ?_
      refine ax_iload_n (pc := 62) C d_MM_symbol2_62 rfl 1 rfl ?_
      obtain ⟨hb, h⟩ := it_g h
      refine ml_48 (pc := 63) C d_MM_symbol2_63 (bin_in hb) ?_
      refine ax_goto (pc := 64) C 102 d_MM_symbol2_64 (by decide) ?_
      refine ax_ls ([(0, .ref z), (1, .int x0), (2, .int x1)]) [0, 1, 2] rfl ?_
      have hm : s_236 l D kA z v σ1 [x0, x1, (σ1.2.1 48 (Int32.toNatClampNeg x0))] (σf, rf, _) := ih 236 _ _ _ h
      exact hm _ _ _ rfl p e s m args below meth c F Lo σ0 hF hLo C
  · have h := it_f hc h
    refine ax_ls ([(0, .ref z), (1, .int x0), (2, .int x1)]) [0, 1, 2] rfl ?_
    have hm : s_235 l D kA z v σ1 [x0, x1] (σf, rf, _) := ih 235 _ _ _ h
    exact hm _ _ rfl p e s m args below meth c F Lo σ0 hF hLo C
set_option maxHeartbeats 4000000 in
set_option maxRecDepth 100000 in
theorem o_235 (l : Launch) (D : va_G) (kA : Nat → ClassId) (z : Nat) (v : Nat → Nat) (rec : mF) (ih : ∀ t σ xs res, rec t σ xs = some res → mSem l D kA z v t σ xs res) (σ : mS) (xs : List Int32) (res : mR) (h : k_235 rec σ xs = some res) : s_235 l D kA z v σ xs res := by
  intro x0 x1 hxs
  subst hxs
  obtain ⟨σf, rf, dd⟩ := res
  have h : (some (σ, 0, 0)) = some (σf, rf, dd) := h
  intro p e s m args below meth c F Lo σ0 hF hLo C
  dsimp only at hF hLo ⊢
  refine ax_iconst (pc := 52) C 0 d_MM_symbol2_52 (by decide +kernel) ?_
  cases h
  exact ax_iret (pc := 53) C d_MM_symbol2_53 ⟨rfl, rfl⟩ (Nat.le_refl _) (Nat.le_refl _)
set_option maxHeartbeats 4000000 in
set_option maxRecDepth 100000 in
theorem o_236 (l : Launch) (D : va_G) (kA : Nat → ClassId) (z : Nat) (v : Nat → Nat) (rec : mF) (ih : ∀ t σ xs res, rec t σ xs = some res → mSem l D kA z v t σ xs res) (σ : mS) (xs : List Int32) (res : mR) (h : k_236 rec σ xs = some res) : s_236 l D kA z v σ xs res := by
  intro x0 x1 x2 hxs
  subst hxs
  obtain ⟨σf, rf, dd⟩ := res
  have h : (some (σ, x2, 0)) = some (σf, rf, dd) := h
  intro p e s m args below meth c F Lo σ0 hF hLo C
  dsimp only at hF hLo ⊢
  cases h
  exact ax_iret (pc := 102) C d_MM_symbol2_102 ⟨rfl, rfl⟩ (Nat.le_refl _) (Nat.le_refl _)
set_option maxHeartbeats 4000000 in
set_option maxRecDepth 100000 in
theorem o_237 (l : Launch) (D : va_G) (kA : Nat → ClassId) (z : Nat) (v : Nat → Nat) (rec : mF) (ih : ∀ t σ xs res, rec t σ xs = some res → mSem l D kA z v t σ xs res) (σ : mS) (xs : List Int32) (res : mR) (h : k_237 rec σ xs = some res) : s_237 l D kA z v σ xs res := by
  intro hxs
  subst hxs
  obtain ⟨σf, rf, dd⟩ := res
  have h : (lt_ (mI σ 4 0) (fun σ1 => bnd (rec 238 σ1 []) (fun σ2 r2 => some (σ2, r2, 0)))) = some (σf, rf, dd) := h
  refine ax_Mi.of (by decide +kernel) (Nat.le_of_ble_eq_true rfl) ?_
  intro p e s m args below meth c C hnm
  have C : ax_C p s m args meth c b_MM_proof "ClauseProverModel" 1 (some .int) D kA (va_A (mmW kA z v σ) s.heap.size) := C
  obtain ⟨F, hFe⟩ : ∃ F, F = dd + 1 := ⟨_, rfl⟩
  obtain ⟨Lo, hLoe⟩ : ∃ Lo, Lo = 64 * dd + 64 := ⟨_, rfl⟩
  obtain ⟨σ0, hσ0⟩ : ∃ s0, s0 = σ := ⟨_, rfl⟩
  suffices K : AW p l e { frames := F, cells := 0, slots := 0, locals := Lo } s m args below meth c D kA (va_A (mmW kA z v σ0) s.heap.size) 1 (ax_Qi below args s D kA (mmW kA z v σ0) 0 0 (fun r w1 => r = rf ∧ w1 = mmW kA z v σf)) 0 [(0, .ref z)] [] (mmW kA z v σ) 0 0 by rw [hFe, hLoe, hσ0] at K; exact ax_ls ([(0, .ref z)]) [0] rfl K
  have C : ax_C p s m args meth c b_MM_proof "ClauseProverModel" 1 (some .int) D kA (va_A (mmW kA z v σ0) s.heap.size) := by rw [hσ0]; exact C
  have hF : dd + 1 ≤ F := by omega
  have hLo : 64 * dd + 64 ≤ Lo := by omega
  clear hFe hLoe hσ0
  refine ax_aload_n (pc := 0) C d_MM_proof_0 rfl 0 rfl ?_
  refine ax_iconst (pc := 1) C 0 d_MM_proof_1 (by decide +kernel) ?_
  refine mp_24 (pc := 2) C d_MM_proof_2 ?_
  have h := it_l h
  generalize mI σ 4 0 = σ1 at h ⊢
  refine ax_aload_n (pc := 5) C d_MM_proof_5 rfl 0 rfl ?_
  obtain ⟨σ2, r2, d1_2, d2_2, h1, h, hd2, hd1⟩ := it_b h
  have hm : s_238 l D kA z v σ1 [] (σ2, r2, d1_2) := ih 238 _ _ _ h1
  refine mc_Vi (pc := 6) C (As := []) (rest := []) (hm rfl) ml_MM_777 d_MM_proof_6 rfl rfl (by dsimp only; omega) (by dsimp only; omega) (Nat.le_of_ble_eq_true rfl) (Nat.le_of_ble_eq_true rfl) (Nat.le_of_ble_eq_true rfl) ?_
  have hF : d2_2 + 1 ≤ F := by omega
  have hLo : 64 * d2_2 + 64 ≤ Lo := by omega
  cases h
  exact ax_iret (pc := 9) C d_MM_proof_9 ⟨rfl, rfl⟩ (Nat.le_refl _) (Nat.le_refl _)
set_option maxHeartbeats 4000000 in
set_option maxRecDepth 100000 in
theorem o_238 (l : Launch) (D : va_G) (kA : Nat → ClassId) (z : Nat) (v : Nat → Nat) (rec : mF) (ih : ∀ t σ xs res, rec t σ xs = some res → mSem l D kA z v t σ xs res) (σ : mS) (xs : List Int32) (res : mR) (h : k_238 rec σ xs = some res) : s_238 l D kA z v σ xs res := by
  intro hxs
  subst hxs
  obtain ⟨σf, rf, dd⟩ := res
  have h : (lt_ (mFl σ 123 (vp_nar .boolean 0) 2001) (fun σ1 => if 0 ≤ (σ1.1 88) then (if bin (σ1.1 88) 2001 = true then (lt_ (mA σ1 123 (Int32.toNatClampNeg (σ1.1 88)) (vp_nar .boolean 1)) (fun σ2 => rec 239 σ2 [0, (((σ2.1 84) : Int32) - 1)])) else none) else (some (σ1, 0, 0)))) = some (σf, rf, dd) := h
  refine ax_Mi.of (by decide +kernel) (Nat.le_of_ble_eq_true rfl) ?_
  intro p e s m args below meth c C hnm
  have C : ax_C p s m args meth c b_MM_prove "ClauseProverModel" 4 (some .int) D kA (va_A (mmW kA z v σ) s.heap.size) := C
  obtain ⟨F, hFe⟩ : ∃ F, F = dd + 1 := ⟨_, rfl⟩
  obtain ⟨Lo, hLoe⟩ : ∃ Lo, Lo = 64 * dd + 64 := ⟨_, rfl⟩
  obtain ⟨σ0, hσ0⟩ : ∃ s0, s0 = σ := ⟨_, rfl⟩
  suffices K : AW p l e { frames := F, cells := 0, slots := 0, locals := Lo } s m args below meth c D kA (va_A (mmW kA z v σ0) s.heap.size) 4 (ax_Qi below args s D kA (mmW kA z v σ0) 0 0 (fun r w1 => r = rf ∧ w1 = mmW kA z v σf)) 0 [(0, .ref z)] [] (mmW kA z v σ) 0 0 by rw [hFe, hLoe, hσ0] at K; exact ax_ls ([(0, .ref z)]) [0] rfl K
  have C : ax_C p s m args meth c b_MM_prove "ClauseProverModel" 4 (some .int) D kA (va_A (mmW kA z v σ0) s.heap.size) := by rw [hσ0]; exact C
  have hF : dd + 1 ≤ F := by omega
  have hLo : 64 * dd + 64 ≤ Lo := by omega
  clear hFe hLoe hσ0
  refine ax_aload_n (pc := 0) C d_MM_prove_0 rfl 0 rfl ?_
  refine mg_388 (pc := 1) C d_MM_prove_1 ?_
  refine ax_iconst (pc := 4) C 0 d_MM_prove_4 (by decide +kernel) ?_
  refine mf_123 (pc := 5) C (rest := []) ml_MM_774 d_MM_prove_5 rfl hF hLo (Nat.le_of_ble_eq_true rfl) ?_
  have h := it_l h
  generalize mFl σ 123 (vp_nar .boolean 0) 2001 = σ1 at h ⊢
  refine ax_aload_n (pc := 8) C d_MM_prove_8 rfl 0 rfl ?_
  refine mg_281 (pc := 9) C d_MM_prove_9 ?_
  refine ax_if_ge (pc := 12) C 17 d_MM_prove_12 (by decide) (fun hc => ?_) (fun hc => ?_)
  · have h := it_t hc h
    refine ax_aload_n (pc := 17) C d_MM_prove_17 rfl 0 rfl ?_
    refine mg_388 (pc := 18) C d_MM_prove_18 ?_
    refine ax_aload_n (pc := 21) C d_MM_prove_21 rfl 0 rfl ?_
    refine mg_281 (pc := 22) C d_MM_prove_22 ?_
    refine ax_iconst (pc := 25) C 1 d_MM_prove_25 (by decide +kernel) ?_
    obtain ⟨hb, h⟩ := it_g h
    refine ms_123 (pc := 26) C d_MM_prove_26 (bin_in hb) ?_
    have h := it_l h
    generalize mA σ1 123 (Int32.toNatClampNeg (σ1.1 88)) (vp_nar .boolean 1) = σ2 at h ⊢
    refine ax_iconst (pc := 27) C 0 d_MM_prove_27 (by decide +kernel) ?_
    refine ax_istore_n (pc := 28) C d_MM_prove_28 rfl (Nat.le_of_ble_eq_true rfl) ([(1, .int 0), (0, .ref z)]) rfl ?_
    refine ax_aload_n (pc := 29) C d_MM_prove_29 rfl 1 rfl ?_
    refine mg_269 (pc := 30) C d_MM_prove_30 ?_
    refine ax_iconst (pc := 33) C 1 d_MM_prove_33 (by decide +kernel) ?_
    refine ax_isub (pc := 34) C d_MM_prove_34 ?_
    refine ax_istore_n (pc := 35) C d_MM_prove_35 rfl (Nat.le_of_ble_eq_true rfl) ([(2, .int (((σ2.1 84) : Int32) - 1)), (1, .int 0), (0, .ref z)]) rfl ?_
    refine ax_ls ([(0, .ref z), (1, .int 0), (2, .int (((σ2.1 84) : Int32) - 1))]) [2, 1, 0] rfl ?_
    have hm : s_239 l D kA z v σ2 [0, (((σ2.1 84) : Int32) - 1)] (σf, rf, _) := ih 239 _ _ _ h
    exact hm _ _ rfl p e s m args below meth c F Lo σ0 hF hLo C
  · have h := it_f hc h
    refine ax_iconst (pc := 15) C 0 d_MM_prove_15 (by decide +kernel) ?_
    cases h
    exact ax_iret (pc := 16) C d_MM_prove_16 ⟨rfl, rfl⟩ (Nat.le_refl _) (Nat.le_refl _)
set_option maxHeartbeats 4000000 in
set_option maxRecDepth 100000 in
theorem o_239 (l : Launch) (D : va_G) (kA : Nat → ClassId) (z : Nat) (v : Nat → Nat) (rec : mF) (ih : ∀ t σ xs res, rec t σ xs = some res → mSem l D kA z v t σ xs res) (σ : mS) (xs : List Int32) (res : mR) (h : k_239 rec σ xs = some res) : s_239 l D kA z v σ xs res := by
  intro x0 x1 hxs
  subst hxs
  obtain ⟨σf, rf, dd⟩ := res
  have h : (if x1 < 0 then (some (σ, x0, 0)) else (if bin x1 2001 = true then (if (σ.2.1 123 (Int32.toNatClampNeg x1)) = 0 then (rec 243 σ [x0, x1]) else (if bin x1 2001 = true then (if (σ.2.1 78 (Int32.toNatClampNeg x1)) < 0 then (rec 240 σ [(x0 + 1), x1]) else (if bin x1 2001 = true then (if bin (σ.2.1 78 (Int32.toNatClampNeg x1)) 2001 = true then (lt_ (mA σ 123 (Int32.toNatClampNeg (σ.2.1 78 (Int32.toNatClampNeg x1))) (vp_nar .boolean 1)) (fun σ1 => rec 240 σ1 [(x0 + 1), x1])) else none) else none)) else none)) else none)) = some (σf, rf, dd) := h
  intro p e s m args below meth c F Lo σ0 hF hLo C
  dsimp only at hF hLo ⊢
  refine ax_iload_n (pc := 36) C d_MM_prove_36 rfl 2 rfl ?_
  refine ax_if_lt (pc := 37) C 140 d_MM_prove_37 (by decide) (fun hc => ?_) (fun hc => ?_)
  · have h := it_t hc h
    refine ax_iload_n (pc := 140) C d_MM_prove_140 rfl 1 rfl ?_
    cases h
    exact ax_iret (pc := 141) C d_MM_prove_141 ⟨rfl, rfl⟩ (Nat.le_refl _) (Nat.le_refl _)
  · have h := it_f hc h
    refine ax_aload_n (pc := 40) C d_MM_prove_40 rfl 0 rfl ?_
    refine mg_388 (pc := 41) C d_MM_prove_41 ?_
    refine ax_iload_n (pc := 44) C d_MM_prove_44 rfl 2 rfl ?_
    obtain ⟨hb, h⟩ := it_g h
    refine ml_123 (pc := 45) C d_MM_prove_45 (bin_in hb) ?_
    refine ax_if_ne (pc := 46) C 52 d_MM_prove_46 (by decide) (fun hc => ?_) (fun hc => ?_)
    · have h := it_f hc h
      refine ax_iinc (pc := 52) C (x0 + 1) d_MM_prove_52 1 rfl rfl (Nat.le_of_ble_eq_true rfl) ([(1, .int (x0 + 1)), (0, .ref z), (2, .int x1)]) rfl ?_
      refine ax_aload_n (pc := 55) C d_MM_prove_55 rfl 1 rfl ?_
      refine mg_250 (pc := 56) C d_MM_prove_56 ?_
      refine ax_iload_n (pc := 59) C d_MM_prove_59 rfl 2 rfl ?_
      obtain ⟨hb, h⟩ := it_g h
      refine ml_78 (pc := 60) C d_MM_prove_60 (bin_in hb) ?_
      refine ax_if_lt (pc := 61) C 76 d_MM_prove_61 (by decide) (fun hc => ?_) (fun hc => ?_)
      · have h := it_t hc h
        refine ax_ls ([(0, .ref z), (1, .int (x0 + 1)), (2, .int x1)]) [1, 0, 2] rfl ?_
        have hm : s_240 l D kA z v σ [(x0 + 1), x1] (σf, rf, _) := ih 240 _ _ _ h
        exact hm _ _ rfl p e s m args below meth c F Lo σ0 hF hLo C
      · have h := it_f hc h
        refine ax_aload_n (pc := 64) C d_MM_prove_64 rfl 1 rfl ?_
        refine mg_388 (pc := 65) C d_MM_prove_65 ?_
        refine ax_aload_n (pc := 68) C d_MM_prove_68 rfl 1 rfl ?_
        refine mg_250 (pc := 69) C d_MM_prove_69 ?_
        refine ax_iload_n (pc := 72) C d_MM_prove_72 rfl 2 rfl ?_
        obtain ⟨hb, h⟩ := it_g h
        refine ml_78 (pc := 73) C d_MM_prove_73 (bin_in hb) ?_
        refine ax_iconst (pc := 74) C 1 d_MM_prove_74 (by decide +kernel) ?_
        obtain ⟨hb, h⟩ := it_g h
        refine ms_123 (pc := 75) C d_MM_prove_75 (bin_in hb) ?_
        have h := it_l h
        generalize mA σ 123 (Int32.toNatClampNeg (σ.2.1 78 (Int32.toNatClampNeg x1))) (vp_nar .boolean 1) = σ1 at h ⊢
        refine ax_ls ([(0, .ref z), (1, .int (x0 + 1)), (2, .int x1)]) [1, 0, 2] rfl ?_
        have hm : s_240 l D kA z v σ1 [(x0 + 1), x1] (σf, rf, _) := ih 240 _ _ _ h
        exact hm _ _ rfl p e s m args below meth c F Lo σ0 hF hLo C
    · have h := it_t hc h
      refine ax_goto (pc := 49) C 134 d_MM_prove_49 (by decide) ?_
      refine ax_ls ([(0, .ref z), (1, .int x0), (2, .int x1)]) [0, 1, 2] rfl ?_
      have hm : s_243 l D kA z v σ [x0, x1] (σf, rf, _) := ih 243 _ _ _ h
      exact hm _ _ rfl p e s m args below meth c F Lo σ0 hF hLo C
set_option maxHeartbeats 4000000 in
set_option maxRecDepth 100000 in
theorem o_240 (l : Launch) (D : va_G) (kA : Nat → ClassId) (z : Nat) (v : Nat → Nat) (rec : mF) (ih : ∀ t σ xs res, rec t σ xs = some res → mSem l D kA z v t σ xs res) (σ : mS) (xs : List Int32) (res : mR) (h : k_240 rec σ xs = some res) : s_240 l D kA z v σ xs res := by
  intro x0 x1 hxs
  subst hxs
  obtain ⟨σf, rf, dd⟩ := res
  have h : (if bin x1 2001 = true then (if (σ.2.1 79 (Int32.toNatClampNeg x1)) < 0 then (rec 241 σ [x0, x1]) else (if bin x1 2001 = true then (if bin (σ.2.1 79 (Int32.toNatClampNeg x1)) 2001 = true then (lt_ (mA σ 123 (Int32.toNatClampNeg (σ.2.1 79 (Int32.toNatClampNeg x1))) (vp_nar .boolean 1)) (fun σ1 => rec 241 σ1 [x0, x1])) else none) else none)) else none) = some (σf, rf, dd) := h
  intro p e s m args below meth c F Lo σ0 hF hLo C
  dsimp only at hF hLo ⊢
  refine ax_aload_n (pc := 76) C d_MM_prove_76 rfl 0 rfl ?_
  refine mg_253 (pc := 77) C d_MM_prove_77 ?_
  refine ax_iload_n (pc := 80) C d_MM_prove_80 rfl 2 rfl ?_
  obtain ⟨hb, h⟩ := it_g h
  refine ml_79 (pc := 81) C d_MM_prove_81 (bin_in hb) ?_
  refine ax_if_lt (pc := 82) C 97 d_MM_prove_82 (by decide) (fun hc => ?_) (fun hc => ?_)
  · have h := it_t hc h
    refine ax_ls ([(0, .ref z), (1, .int x0), (2, .int x1)]) [0, 1, 2] rfl ?_
    have hm : s_241 l D kA z v σ [x0, x1] (σf, rf, _) := ih 241 _ _ _ h
    exact hm _ _ rfl p e s m args below meth c F Lo σ0 hF hLo C
  · have h := it_f hc h
    refine ax_aload_n (pc := 85) C d_MM_prove_85 rfl 0 rfl ?_
    refine mg_388 (pc := 86) C d_MM_prove_86 ?_
    refine ax_aload_n (pc := 89) C d_MM_prove_89 rfl 0 rfl ?_
    refine mg_253 (pc := 90) C d_MM_prove_90 ?_
    refine ax_iload_n (pc := 93) C d_MM_prove_93 rfl 2 rfl ?_
    obtain ⟨hb, h⟩ := it_g h
    refine ml_79 (pc := 94) C d_MM_prove_94 (bin_in hb) ?_
    refine ax_iconst (pc := 95) C 1 d_MM_prove_95 (by decide +kernel) ?_
    obtain ⟨hb, h⟩ := it_g h
    refine ms_123 (pc := 96) C d_MM_prove_96 (bin_in hb) ?_
    have h := it_l h
    generalize mA σ 123 (Int32.toNatClampNeg (σ.2.1 79 (Int32.toNatClampNeg x1))) (vp_nar .boolean 1) = σ1 at h ⊢
    refine ax_ls ([(0, .ref z), (1, .int x0), (2, .int x1)]) [0, 1, 2] rfl ?_
    have hm : s_241 l D kA z v σ1 [x0, x1] (σf, rf, _) := ih 241 _ _ _ h
    exact hm _ _ rfl p e s m args below meth c F Lo σ0 hF hLo C
set_option maxHeartbeats 4000000 in
set_option maxRecDepth 100000 in
theorem o_241 (l : Launch) (D : va_G) (kA : Nat → ClassId) (z : Nat) (v : Nat → Nat) (rec : mF) (ih : ∀ t σ xs res, rec t σ xs = some res → mSem l D kA z v t σ xs res) (σ : mS) (xs : List Int32) (res : mR) (h : k_241 rec σ xs = some res) : s_241 l D kA z v σ xs res := by
  intro x0 x1 hxs
  subst hxs
  obtain ⟨σf, rf, dd⟩ := res
  have h : (rec 242 σ [x0, x1, 0]) = some (σf, rf, dd) := h
  intro p e s m args below meth c F Lo σ0 hF hLo C
  dsimp only at hF hLo ⊢
  refine ax_iconst (pc := 97) C 0 d_MM_prove_97 (by decide +kernel) ?_
  refine ax_istore_n (pc := 98) C d_MM_prove_98 rfl (Nat.le_of_ble_eq_true rfl) ([(3, .int 0), (0, .ref z), (1, .int x0), (2, .int x1)]) rfl ?_
  refine ax_ls ([(0, .ref z), (1, .int x0), (2, .int x1), (3, .int 0)]) [1, 2, 3, 0] rfl ?_
  have hm : s_242 l D kA z v σ [x0, x1, 0] (σf, rf, _) := ih 242 _ _ _ h
  exact hm _ _ _ rfl p e s m args below meth c F Lo σ0 hF hLo C
set_option maxHeartbeats 4000000 in
set_option maxRecDepth 100000 in
theorem o_242 (l : Launch) (D : va_G) (kA : Nat → ClassId) (z : Nat) (v : Nat → Nat) (rec : mF) (ih : ∀ t σ xs res, rec t σ xs = some res → mSem l D kA z v t σ xs res) (σ : mS) (xs : List Int32) (res : mR) (h : k_242 rec σ xs = some res) : s_242 l D kA z v σ xs res := by
  intro x0 x1 x2 hxs
  subst hxs
  obtain ⟨σf, rf, dd⟩ := res
  have h : (if bin x1 2001 = true then (if (σ.2.1 82 (Int32.toNatClampNeg x1)) ≤ x2 then (rec 243 σ [x0, x1]) else (if bin x1 2001 = true then (if bin (((σ.2.1 81 (Int32.toNatClampNeg x1)) : Int32) + x2) 130000 = true then (if bin (σ.2.1 83 (Int32.toNatClampNeg (((σ.2.1 81 (Int32.toNatClampNeg x1)) : Int32) + x2))) 2001 = true then (lt_ (mA σ 123 (Int32.toNatClampNeg (σ.2.1 83 (Int32.toNatClampNeg (((σ.2.1 81 (Int32.toNatClampNeg x1)) : Int32) + x2)))) (vp_nar .boolean 1)) (fun σ1 => rec 242 σ1 [x0, x1, (x2 + 1)])) else none) else none) else none)) else none) = some (σf, rf, dd) := h
  intro p e s m args below meth c F Lo σ0 hF hLo C
  dsimp only at hF hLo ⊢
  refine ax_iload_n (pc := 99) C d_MM_prove_99 rfl 3 rfl ?_
  refine ax_aload_n (pc := 100) C d_MM_prove_100 rfl 0 rfl ?_
  refine mg_262 (pc := 101) C d_MM_prove_101 ?_
  refine ax_iload_n (pc := 104) C d_MM_prove_104 rfl 2 rfl ?_
  obtain ⟨hb, h⟩ := it_g h
  refine ml_82 (pc := 105) C d_MM_prove_105 (bin_in hb) ?_
  refine ax_icmp_ge (pc := 106) C 134 d_MM_prove_106 (by decide) (fun hc => ?_) (fun hc => ?_)
  · have h := it_t hc h
    refine ax_ls ([(0, .ref z), (1, .int x0), (2, .int x1)]) [0, 1, 2] rfl ?_
    have hm : s_243 l D kA z v σ [x0, x1] (σf, rf, _) := ih 243 _ _ _ h
    exact hm _ _ rfl p e s m args below meth c F Lo σ0 hF hLo C
  · have h := it_f hc h
    refine ax_aload_n (pc := 109) C d_MM_prove_109 rfl 0 rfl ?_
    refine mg_388 (pc := 110) C d_MM_prove_110 ?_
    refine ax_aload_n (pc := 113) C d_MM_prove_113 rfl 0 rfl ?_
    refine mg_266 (pc := 114) C d_MM_prove_114 ?_
    refine ax_aload_n (pc := 117) C d_MM_prove_117 rfl 0 rfl ?_
    refine mg_259 (pc := 118) C d_MM_prove_118 ?_
    refine ax_iload_n (pc := 121) C d_MM_prove_121 rfl 2 rfl ?_
    obtain ⟨hb, h⟩ := it_g h
    refine ml_81 (pc := 122) C d_MM_prove_122 (bin_in hb) ?_
    refine ax_iload_n (pc := 123) C d_MM_prove_123 rfl 3 rfl ?_
    refine ax_iadd (pc := 124) C d_MM_prove_124 ?_
    obtain ⟨hb, h⟩ := it_g h
    refine ml_83 (pc := 125) C d_MM_prove_125 (bin_in hb) ?_
    refine ax_iconst (pc := 126) C 1 d_MM_prove_126 (by decide +kernel) ?_
    obtain ⟨hb, h⟩ := it_g h
    refine ms_123 (pc := 127) C d_MM_prove_127 (bin_in hb) ?_
    have h := it_l h
    generalize mA σ 123 (Int32.toNatClampNeg (σ.2.1 83 (Int32.toNatClampNeg (((σ.2.1 81 (Int32.toNatClampNeg x1)) : Int32) + x2)))) (vp_nar .boolean 1) = σ1 at h ⊢
    refine ax_iinc (pc := 128) C (x2 + 1) d_MM_prove_128 3 rfl rfl (Nat.le_of_ble_eq_true rfl) ([(3, .int (x2 + 1)), (0, .ref z), (1, .int x0), (2, .int x1)]) rfl ?_
    refine ax_goto (pc := 131) C 99 d_MM_prove_131 (by decide) ?_
    refine ax_ls ([(0, .ref z), (1, .int x0), (2, .int x1), (3, .int (x2 + 1))]) [1, 2, 3, 0] rfl ?_
    have hm : s_242 l D kA z v σ1 [x0, x1, (x2 + 1)] (σf, rf, _) := ih 242 _ _ _ h
    exact hm _ _ _ rfl p e s m args below meth c F Lo σ0 hF hLo C
set_option maxHeartbeats 4000000 in
set_option maxRecDepth 100000 in
theorem o_243 (l : Launch) (D : va_G) (kA : Nat → ClassId) (z : Nat) (v : Nat → Nat) (rec : mF) (ih : ∀ t σ xs res, rec t σ xs = some res → mSem l D kA z v t σ xs res) (σ : mS) (xs : List Int32) (res : mR) (h : k_243 rec σ xs = some res) : s_243 l D kA z v σ xs res := by
  intro x0 x1 hxs
  subst hxs
  obtain ⟨σf, rf, dd⟩ := res
  have h : (rec 239 σ [x0, (x1 + (-1))]) = some (σf, rf, dd) := h
  intro p e s m args below meth c F Lo σ0 hF hLo C
  dsimp only at hF hLo ⊢
  refine ax_iinc (pc := 134) C (x1 + (-1)) d_MM_prove_134 2 rfl rfl (Nat.le_of_ble_eq_true rfl) ([(2, .int (x1 + (-1))), (0, .ref z), (1, .int x0)]) rfl ?_
  refine ax_goto (pc := 137) C 36 d_MM_prove_137 (by decide) ?_
  refine ax_ls ([(0, .ref z), (1, .int x0), (2, .int (x1 + (-1)))]) [1, 2, 0] rfl ?_
  have hm : s_239 l D kA z v σ [x0, (x1 + (-1))] (σf, rf, _) := ih 239 _ _ _ h
  exact hm _ _ rfl p e s m args below meth c F Lo σ0 hF hLo C
set_option maxHeartbeats 4000000 in
set_option maxRecDepth 100000 in
theorem o_244 (l : Launch) (D : va_G) (kA : Nat → ClassId) (z : Nat) (v : Nat → Nat) (rec : mF) (ih : ∀ t σ xs res, rec t σ xs = some res → mSem l D kA z v t σ xs res) (σ : mS) (xs : List Int32) (res : mR) (h : k_244 rec σ xs = some res) : s_244 l D kA z v σ xs res := by
  intro x0 hxs
  subst hxs
  obtain ⟨σf, rf, dd⟩ := res
  have h : (lt_ (mI σ 4 0) (fun σ1 => bnd (rec 238 σ1 []) (fun σ2 r2 => if x0 < 0 then (rec 245 σ2 [x0, r2, 1]) else (if x0 < r2 then (rec 246 σ2 [x0, r2, 0, 1]) else (rec 245 σ2 [x0, r2, 1]))))) = some (σf, rf, dd) := h
  refine ax_Mi.of (by decide +kernel) (Nat.le_of_ble_eq_true rfl) ?_
  intro p e s m args below meth c C hnm
  have C : ax_C p s m args meth c b_MM_step2 "ClauseProverModel" 5 (some .int) D kA (va_A (mmW kA z v σ) s.heap.size) := C
  obtain ⟨F, hFe⟩ : ∃ F, F = dd + 1 := ⟨_, rfl⟩
  obtain ⟨Lo, hLoe⟩ : ∃ Lo, Lo = 64 * dd + 64 := ⟨_, rfl⟩
  obtain ⟨σ0, hσ0⟩ : ∃ s0, s0 = σ := ⟨_, rfl⟩
  suffices K : AW p l e { frames := F, cells := 0, slots := 0, locals := Lo } s m args below meth c D kA (va_A (mmW kA z v σ0) s.heap.size) 5 (ax_Qi below args s D kA (mmW kA z v σ0) 0 0 (fun r w1 => r = rf ∧ w1 = mmW kA z v σf)) 0 [(0, .ref z), (1, .int x0)] [] (mmW kA z v σ) 0 0 by rw [hFe, hLoe, hσ0] at K; exact ax_ls ([(0, .ref z), (1, .int x0)]) [0, 1] rfl K
  have C : ax_C p s m args meth c b_MM_step2 "ClauseProverModel" 5 (some .int) D kA (va_A (mmW kA z v σ0) s.heap.size) := by rw [hσ0]; exact C
  have hF : dd + 1 ≤ F := by omega
  have hLo : 64 * dd + 64 ≤ Lo := by omega
  clear hFe hLoe hσ0
  refine ax_aload_n (pc := 0) C d_MM_step2_0 rfl 0 rfl ?_
  refine ax_iconst (pc := 1) C 0 d_MM_step2_1 (by decide +kernel) ?_
  refine mp_24 (pc := 2) C d_MM_step2_2 ?_
  have h := it_l h
  generalize mI σ 4 0 = σ1 at h ⊢
  refine ax_aload_n (pc := 5) C d_MM_step2_5 rfl 0 rfl ?_
  obtain ⟨σ2, r2, d1_2, d2_2, h1, h, hd2, hd1⟩ := it_b h
  have hm : s_238 l D kA z v σ1 [] (σ2, r2, d1_2) := ih 238 _ _ _ h1
  refine mc_Vi (pc := 6) C (As := []) (rest := []) (hm rfl) ml_MM_777 d_MM_step2_6 rfl rfl (by dsimp only; omega) (by dsimp only; omega) (Nat.le_of_ble_eq_true rfl) (Nat.le_of_ble_eq_true rfl) (Nat.le_of_ble_eq_true rfl) ?_
  have hF : d2_2 + 1 ≤ F := by omega
  have hLo : 64 * d2_2 + 64 ≤ Lo := by omega
  refine ax_istore_n (pc := 9) C d_MM_step2_9 rfl (Nat.le_of_ble_eq_true rfl) ([(2, .int r2), (0, .ref z), (1, .int x0)]) rfl ?_
  refine ax_aload_n (pc := 10) C d_MM_step2_10 rfl 1 rfl ?_
  refine ax_iconst (pc := 11) C 1 d_MM_step2_11 (by decide +kernel) ?_
  refine ax_iload_n (pc := 12) C d_MM_step2_12 rfl 2 rfl ?_
  refine ax_if_lt (pc := 13) C 21 d_MM_step2_13 (by decide) (fun hc => ?_) (fun hc => ?_)
  · have h := it_t hc h
    refine ax_ls ([(0, .ref z), (1, .int x0), (2, .int r2)]) [1, 2, 0] rfl ?_
    have hm : s_245 l D kA z v σ2 [x0, r2, 1] (σf, rf, _) := ih 245 _ _ _ h
    exact hm _ _ _ rfl p e s m args below meth c F Lo σ0 hF hLo C
  · have h := it_f hc h
    refine ax_iload_n (pc := 16) C d_MM_step2_16 rfl 2 rfl ?_
    refine ax_iload_n (pc := 17) C d_MM_step2_17 rfl 0 rfl ?_
    refine ax_icmp_lt (pc := 18) C 25 d_MM_step2_18 (by decide) (fun hc => ?_) (fun hc => ?_)
    · have h := it_t hc h
      refine ax_iconst (pc := 25) C 0 d_MM_step2_25 (by decide +kernel) ?_
      refine ax_ls ([(0, .ref z), (1, .int x0), (2, .int r2)]) [1, 2, 0] rfl ?_
      have hm : s_246 l D kA z v σ2 [x0, r2, 0, 1] (σf, rf, _) := ih 246 _ _ _ h
      exact hm _ _ _ _ rfl p e s m args below meth c F Lo σ0 hF hLo C
    · have h := it_f hc h
      refine ax_ls ([(0, .ref z), (1, .int x0), (2, .int r2)]) [1, 2, 0] rfl ?_
      have hm : s_245 l D kA z v σ2 [x0, r2, 1] (σf, rf, _) := ih 245 _ _ _ h
      exact hm _ _ _ rfl p e s m args below meth c F Lo σ0 hF hLo C
set_option maxHeartbeats 4000000 in
set_option maxRecDepth 100000 in
theorem o_245 (l : Launch) (D : va_G) (kA : Nat → ClassId) (z : Nat) (v : Nat → Nat) (rec : mF) (ih : ∀ t σ xs res, rec t σ xs = some res → mSem l D kA z v t σ xs res) (σ : mS) (xs : List Int32) (res : mR) (h : k_245 rec σ xs = some res) : s_245 l D kA z v σ xs res := by
  intro x0 x1 x2 hxs
  subst hxs
  obtain ⟨σf, rf, dd⟩ := res
  have h : (rec 246 σ [x0, x1, 1, x2]) = some (σf, rf, dd) := h
  intro p e s m args below meth c F Lo σ0 hF hLo C
  dsimp only at hF hLo ⊢
  refine ax_iconst (pc := 21) C 1 d_MM_step2_21 (by decide +kernel) ?_
  refine ax_goto (pc := 22) C 26 d_MM_step2_22 (by decide) ?_
  refine ax_ls ([(0, .ref z), (1, .int x0), (2, .int x1)]) [0, 1, 2] rfl ?_
  have hm : s_246 l D kA z v σ [x0, x1, 1, x2] (σf, rf, _) := ih 246 _ _ _ h
  exact hm _ _ _ _ rfl p e s m args below meth c F Lo σ0 hF hLo C
set_option maxHeartbeats 4000000 in
set_option maxRecDepth 100000 in
theorem o_246 (l : Launch) (D : va_G) (kA : Nat → ClassId) (z : Nat) (v : Nat → Nat) (rec : mF) (ih : ∀ t σ xs res, rec t σ xs = some res → mSem l D kA z v t σ xs res) (σ : mS) (xs : List Int32) (res : mR) (h : k_246 rec σ xs = some res) : s_246 l D kA z v σ xs res := by
  intro x0 x1 x2 x3 hxs
  subst hxs
  obtain ⟨σf, rf, dd⟩ := res
  have h : (bnd (rec 5 σ [x3, x2]) (fun σ1 r1 => if r1 = 0 then (rec 247 σ1 [x0, x1, (-1), x0]) else (some (σ1, 0, 0)))) = some (σf, rf, dd) := h
  intro p e s m args below meth c F Lo σ0 hF hLo C
  dsimp only at hF hLo ⊢
  obtain ⟨σ1, r1, d1_1, d2_1, h1, h, hd2, hd1⟩ := it_b h
  have hm : s_5 l D kA z v σ [x3, x2] (σ1, r1, d1_1) := ih 5 _ _ _ h1
  refine mc_Vi (pc := 26) C (As := [.int x3, .int x2]) (rest := []) (hm _ _ rfl) ml_MM_401 d_MM_step2_26 rfl rfl (by dsimp only; omega) (by dsimp only; omega) (Nat.le_of_ble_eq_true rfl) (Nat.le_of_ble_eq_true rfl) (Nat.le_of_ble_eq_true rfl) ?_
  have hF : d2_1 + 1 ≤ F := by omega
  have hLo : 64 * d2_1 + 64 ≤ Lo := by omega
  refine ax_if_eq (pc := 29) C 34 d_MM_step2_29 (by decide) (fun hc => ?_) (fun hc => ?_)
  · have h := it_t hc h
    refine ax_iconst (pc := 34) C (-1) d_MM_step2_34 (by decide +kernel) ?_
    refine ax_istore_n (pc := 35) C d_MM_step2_35 rfl (Nat.le_of_ble_eq_true rfl) ([(3, .int (-1)), (0, .ref z), (1, .int x0), (2, .int x1)]) rfl ?_
    refine ax_iload_n (pc := 36) C d_MM_step2_36 rfl 2 rfl ?_
    refine ax_istore (pc := 37) C d_MM_step2_37 (Nat.le_of_ble_eq_true rfl) ([(4, .int x0), (3, .int (-1)), (0, .ref z), (1, .int x0), (2, .int x1)]) rfl ?_
    refine ax_ls ([(0, .ref z), (1, .int x0), (2, .int x1), (3, .int (-1)), (4, .int x0)]) [2, 3, 4, 1, 0] rfl ?_
    have hm : s_247 l D kA z v σ1 [x0, x1, (-1), x0] (σf, rf, _) := ih 247 _ _ _ h
    exact hm _ _ _ _ rfl p e s m args below meth c F Lo σ0 hF hLo C
  · have h := it_f hc h
    refine ax_iconst (pc := 32) C 0 d_MM_step2_32 (by decide +kernel) ?_
    cases h
    exact ax_iret (pc := 33) C d_MM_step2_33 ⟨rfl, rfl⟩ (Nat.le_refl _) (Nat.le_refl _)
set_option maxHeartbeats 4000000 in
set_option maxRecDepth 100000 in
theorem o_247 (l : Launch) (D : va_G) (kA : Nat → ClassId) (z : Nat) (v : Nat → Nat) (rec : mF) (ih : ∀ t σ xs res, rec t σ xs = some res → mSem l D kA z v t σ xs res) (σ : mS) (xs : List Int32) (res : mR) (h : k_247 rec σ xs = some res) : s_247 l D kA z v σ xs res := by
  intro x0 x1 x2 x3 hxs
  subst hxs
  obtain ⟨σf, rf, dd⟩ := res
  have h : (if x3 < 0 then (some (σ, x2, 0)) else (rec 248 σ [x0, x1, (x2 + 1), x3])) = some (σf, rf, dd) := h
  intro p e s m args below meth c F Lo σ0 hF hLo C
  dsimp only at hF hLo ⊢
  refine ax_iload (pc := 39) C d_MM_step2_39 4 rfl ?_
  refine ax_if_lt (pc := 41) C 68 d_MM_step2_41 (by decide) (fun hc => ?_) (fun hc => ?_)
  · have h := it_t hc h
    refine ax_iload_n (pc := 68) C d_MM_step2_68 rfl 3 rfl ?_
    cases h
    exact ax_iret (pc := 69) C d_MM_step2_69 ⟨rfl, rfl⟩ (Nat.le_refl _) (Nat.le_refl _)
  · have h := it_f hc h
    refine ax_iinc (pc := 44) C (x2 + 1) d_MM_step2_44 3 rfl rfl (Nat.le_of_ble_eq_true rfl) ([(3, .int (x2 + 1)), (0, .ref z), (1, .int x0), (2, .int x1), (4, .int x3)]) rfl ?_
    refine ax_ls ([(0, .ref z), (1, .int x0), (2, .int x1), (3, .int (x2 + 1)), (4, .int x3)]) [1, 2, 3, 0, 4] rfl ?_
    have hm : s_248 l D kA z v σ [x0, x1, (x2 + 1), x3] (σf, rf, _) := ih 248 _ _ _ h
    exact hm _ _ _ _ rfl p e s m args below meth c F Lo σ0 hF hLo C
set_option maxHeartbeats 4000000 in
set_option maxRecDepth 100000 in
theorem o_248 (l : Launch) (D : va_G) (kA : Nat → ClassId) (z : Nat) (v : Nat → Nat) (rec : mF) (ih : ∀ t σ xs res, rec t σ xs = some res → mSem l D kA z v t σ xs res) (σ : mS) (xs : List Int32) (res : mR) (h : k_248 rec σ xs = some res) : s_248 l D kA z v σ xs res := by
  intro x0 x1 x2 x3 hxs
  subst hxs
  obtain ⟨σf, rf, dd⟩ := res
  have h : (if bin x2 2001 = true then (if (σ.2.1 123 (Int32.toNatClampNeg x2)) = 0 then (rec 248 σ [x0, x1, (x2 + 1), x3]) else (rec 247 σ [x0, x1, x2, (x3 + (-1))])) else none) = some (σf, rf, dd) := h
  intro p e s m args below meth c F Lo σ0 hF hLo C
  dsimp only at hF hLo ⊢
  refine ax_aload_n (pc := 47) C d_MM_step2_47 rfl 0 rfl ?_
  refine mg_388 (pc := 48) C d_MM_step2_48 ?_
  refine ax_iload_n (pc := 51) C d_MM_step2_51 rfl 3 rfl ?_
  obtain ⟨hb, h⟩ := it_g h
  refine ml_123 (pc := 52) C d_MM_step2_52 (bin_in hb) ?_
  refine ax_if_ne (pc := 53) C 62 d_MM_step2_53 (by decide) (fun hc => ?_) (fun hc => ?_)
  · have h := it_f hc h
    refine ax_iinc (pc := 62) C (x3 + (-1)) d_MM_step2_62 4 rfl rfl (Nat.le_of_ble_eq_true rfl) ([(4, .int (x3 + (-1))), (0, .ref z), (1, .int x0), (2, .int x1), (3, .int x2)]) rfl ?_
    refine ax_goto (pc := 65) C 39 d_MM_step2_65 (by decide) ?_
    refine ax_ls ([(0, .ref z), (1, .int x0), (2, .int x1), (3, .int x2), (4, .int (x3 + (-1)))]) [1, 2, 3, 4, 0] rfl ?_
    have hm : s_247 l D kA z v σ [x0, x1, x2, (x3 + (-1))] (σf, rf, _) := ih 247 _ _ _ h
    exact hm _ _ _ _ rfl p e s m args below meth c F Lo σ0 hF hLo C
  · have h := it_t hc h
    refine ax_iinc (pc := 56) C (x2 + 1) d_MM_step2_56 3 rfl rfl (Nat.le_of_ble_eq_true rfl) ([(3, .int (x2 + 1)), (0, .ref z), (1, .int x0), (2, .int x1), (4, .int x3)]) rfl ?_
    refine ax_goto (pc := 59) C 47 d_MM_step2_59 (by decide) ?_
    refine ax_ls ([(0, .ref z), (1, .int x0), (2, .int x1), (3, .int (x2 + 1)), (4, .int x3)]) [1, 2, 3, 0, 4] rfl ?_
    have hm : s_248 l D kA z v σ [x0, x1, (x2 + 1), x3] (σf, rf, _) := ih 248 _ _ _ h
    exact hm _ _ _ _ rfl p e s m args below meth c F Lo σ0 hF hLo C
set_option maxHeartbeats 4000000 in
set_option maxRecDepth 100000 in
theorem o_249 (l : Launch) (D : va_G) (kA : Nat → ClassId) (z : Nat) (v : Nat → Nat) (rec : mF) (ih : ∀ t σ xs res, rec t σ xs = some res → mSem l D kA z v t σ xs res) (σ : mS) (xs : List Int32) (res : mR) (h : k_249 rec σ xs = some res) : s_249 l D kA z v σ xs res := by
  intro x0 x1 hxs
  subst hxs
  obtain ⟨σf, rf, dd⟩ := res
  have h : (lt_ (mI σ 4 0) (fun σ1 => if x1 < 1 then (rec 250 σ1 [x0, x1, 1]) else (if x1 ≤ 3 then (rec 251 σ1 [x0, x1, 0, 1]) else (rec 250 σ1 [x0, x1, 1])))) = some (σf, rf, dd) := h
  refine ax_Mi.of (by decide +kernel) (Nat.le_of_ble_eq_true rfl) ?_
  intro p e s m args below meth c C hnm
  have C : ax_C p s m args meth c b_MM_look "ClauseProverModel" 5 (some .int) D kA (va_A (mmW kA z v σ) s.heap.size) := C
  obtain ⟨F, hFe⟩ : ∃ F, F = dd + 1 := ⟨_, rfl⟩
  obtain ⟨Lo, hLoe⟩ : ∃ Lo, Lo = 64 * dd + 64 := ⟨_, rfl⟩
  obtain ⟨σ0, hσ0⟩ : ∃ s0, s0 = σ := ⟨_, rfl⟩
  suffices K : AW p l e { frames := F, cells := 0, slots := 0, locals := Lo } s m args below meth c D kA (va_A (mmW kA z v σ0) s.heap.size) 5 (ax_Qi below args s D kA (mmW kA z v σ0) 0 0 (fun r w1 => r = rf ∧ w1 = mmW kA z v σf)) 0 [(0, .ref z), (1, .int x0), (2, .int x1)] [] (mmW kA z v σ) 0 0 by rw [hFe, hLoe, hσ0] at K; exact ax_ls ([(0, .ref z), (1, .int x0), (2, .int x1)]) [0, 1, 2] rfl K
  have C : ax_C p s m args meth c b_MM_look "ClauseProverModel" 5 (some .int) D kA (va_A (mmW kA z v σ0) s.heap.size) := by rw [hσ0]; exact C
  have hF : dd + 1 ≤ F := by omega
  have hLo : 64 * dd + 64 ≤ Lo := by omega
  clear hFe hLoe hσ0
  refine ax_aload_n (pc := 0) C d_MM_look_0 rfl 0 rfl ?_
  refine ax_iconst (pc := 1) C 0 d_MM_look_1 (by decide +kernel) ?_
  refine mp_24 (pc := 2) C d_MM_look_2 ?_
  have h := it_l h
  generalize mI σ 4 0 = σ1 at h ⊢
  refine ax_aload_n (pc := 5) C d_MM_look_5 rfl 0 rfl ?_
  refine ax_iconst (pc := 6) C 1 d_MM_look_6 (by decide +kernel) ?_
  refine ax_iload_n (pc := 7) C d_MM_look_7 rfl 2 rfl ?_
  refine ax_iconst (pc := 8) C 1 d_MM_look_8 (by decide +kernel) ?_
  refine ax_icmp_lt (pc := 9) C 17 d_MM_look_9 (by decide) (fun hc => ?_) (fun hc => ?_)
  · have h := it_t hc h
    refine ax_ls ([(0, .ref z), (1, .int x0), (2, .int x1)]) [0, 1, 2] rfl ?_
    have hm : s_250 l D kA z v σ1 [x0, x1, 1] (σf, rf, _) := ih 250 _ _ _ h
    exact hm _ _ _ rfl p e s m args below meth c F Lo σ0 hF hLo C
  · have h := it_f hc h
    refine ax_iload_n (pc := 12) C d_MM_look_12 rfl 2 rfl ?_
    refine ax_iconst (pc := 13) C 3 d_MM_look_13 (by decide +kernel) ?_
    refine ax_icmp_le (pc := 14) C 21 d_MM_look_14 (by decide) (fun hc => ?_) (fun hc => ?_)
    · have h := it_t hc h
      refine ax_iconst (pc := 21) C 0 d_MM_look_21 (by decide +kernel) ?_
      refine ax_ls ([(0, .ref z), (1, .int x0), (2, .int x1)]) [0, 1, 2] rfl ?_
      have hm : s_251 l D kA z v σ1 [x0, x1, 0, 1] (σf, rf, _) := ih 251 _ _ _ h
      exact hm _ _ _ _ rfl p e s m args below meth c F Lo σ0 hF hLo C
    · have h := it_f hc h
      refine ax_ls ([(0, .ref z), (1, .int x0), (2, .int x1)]) [0, 1, 2] rfl ?_
      have hm : s_250 l D kA z v σ1 [x0, x1, 1] (σf, rf, _) := ih 250 _ _ _ h
      exact hm _ _ _ rfl p e s m args below meth c F Lo σ0 hF hLo C
set_option maxHeartbeats 4000000 in
set_option maxRecDepth 100000 in
theorem o_250 (l : Launch) (D : va_G) (kA : Nat → ClassId) (z : Nat) (v : Nat → Nat) (rec : mF) (ih : ∀ t σ xs res, rec t σ xs = some res → mSem l D kA z v t σ xs res) (σ : mS) (xs : List Int32) (res : mR) (h : k_250 rec σ xs = some res) : s_250 l D kA z v σ xs res := by
  intro x0 x1 x2 hxs
  subst hxs
  obtain ⟨σf, rf, dd⟩ := res
  have h : (rec 251 σ [x0, x1, 1, x2]) = some (σf, rf, dd) := h
  intro p e s m args below meth c F Lo σ0 hF hLo C
  dsimp only at hF hLo ⊢
  refine ax_iconst (pc := 17) C 1 d_MM_look_17 (by decide +kernel) ?_
  refine ax_goto (pc := 18) C 22 d_MM_look_18 (by decide) ?_
  refine ax_ls ([(0, .ref z), (1, .int x0), (2, .int x1)]) [0, 1, 2] rfl ?_
  have hm : s_251 l D kA z v σ [x0, x1, 1, x2] (σf, rf, _) := ih 251 _ _ _ h
  exact hm _ _ _ _ rfl p e s m args below meth c F Lo σ0 hF hLo C
set_option maxHeartbeats 4000000 in
set_option maxRecDepth 100000 in
theorem o_251 (l : Launch) (D : va_G) (kA : Nat → ClassId) (z : Nat) (v : Nat → Nat) (rec : mF) (ih : ∀ t σ xs res, rec t σ xs = some res → mSem l D kA z v t σ xs res) (σ : mS) (xs : List Int32) (res : mR) (h : k_251 rec σ xs = some res) : s_251 l D kA z v σ xs res := by
  intro x0 x1 x2 x3 hxs
  subst hxs
  obtain ⟨σf, rf, dd⟩ := res
  have h : (bnd (rec 5 σ [x3, x2]) (fun σ1 r1 => if r1 = 0 then (lt_ (mI σ1 124 x0) (fun σ2 => lt_ (mI σ2 125 x1) (fun σ3 => bnd (rec 254 σ3 []) (fun σ4 r4 => if r4 = 0 then (some (σ4, (-1), 0)) else (rec 252 σ4 [x0, x1, 0, 0]))))) else (some (σ1, 0, 0)))) = some (σf, rf, dd) := h
  intro p e s m args below meth c F Lo σ0 hF hLo C
  dsimp only at hF hLo ⊢
  obtain ⟨σ1, r1, d1_1, d2_1, h1, h, hd2, hd1⟩ := it_b h
  have hm : s_5 l D kA z v σ [x3, x2] (σ1, r1, d1_1) := ih 5 _ _ _ h1
  refine mc_Vi (pc := 22) C (As := [.int x3, .int x2]) (rest := []) (hm _ _ rfl) ml_MM_401 d_MM_look_22 rfl rfl (by dsimp only; omega) (by dsimp only; omega) (Nat.le_of_ble_eq_true rfl) (Nat.le_of_ble_eq_true rfl) (Nat.le_of_ble_eq_true rfl) ?_
  have hF : d2_1 + 1 ≤ F := by omega
  have hLo : 64 * d2_1 + 64 ≤ Lo := by omega
  refine ax_if_eq (pc := 25) C 30 d_MM_look_25 (by decide) (fun hc => ?_) (fun hc => ?_)
  · have h := it_t hc h
    refine ax_aload_n (pc := 30) C d_MM_look_30 rfl 0 rfl ?_
    refine ax_iload_n (pc := 31) C d_MM_look_31 rfl 1 rfl ?_
    refine mp_391 (pc := 32) C d_MM_look_32 ?_
    have h := it_l h
    generalize mI σ1 124 x0 = σ2 at h ⊢
    refine ax_aload_n (pc := 35) C d_MM_look_35 rfl 0 rfl ?_
    refine ax_iload_n (pc := 36) C d_MM_look_36 rfl 2 rfl ?_
    refine mp_394 (pc := 37) C d_MM_look_37 ?_
    have h := it_l h
    generalize mI σ2 125 x1 = σ3 at h ⊢
    refine ax_aload_n (pc := 40) C d_MM_look_40 rfl 0 rfl ?_
    obtain ⟨σ4, r4, d1_4, d2_4, h1, h, hd2, hd1⟩ := it_b h
    have hm : s_254 l D kA z v σ3 [] (σ4, r4, d1_4) := ih 254 _ _ _ h1
    refine mc_Vi (pc := 41) C (As := []) (rest := []) (hm rfl) ml_MM_791 d_MM_look_41 rfl rfl (by dsimp only; omega) (by dsimp only; omega) (Nat.le_of_ble_eq_true rfl) (Nat.le_of_ble_eq_true rfl) (Nat.le_of_ble_eq_true rfl) ?_
    have hF : d2_4 + 1 ≤ F := by omega
    have hLo : 64 * d2_4 + 64 ≤ Lo := by omega
    refine ax_if_ne (pc := 44) C 49 d_MM_look_44 (by decide) (fun hc => ?_) (fun hc => ?_)
    · have h := it_f hc h
      refine ax_iconst (pc := 49) C 0 d_MM_look_49 (by decide +kernel) ?_
      refine ax_istore_n (pc := 50) C d_MM_look_50 rfl (Nat.le_of_ble_eq_true rfl) ([(3, .int 0), (0, .ref z), (1, .int x0), (2, .int x1)]) rfl ?_
      refine ax_iconst (pc := 51) C 0 d_MM_look_51 (by decide +kernel) ?_
      refine ax_istore (pc := 52) C d_MM_look_52 (Nat.le_of_ble_eq_true rfl) ([(4, .int 0), (3, .int 0), (0, .ref z), (1, .int x0), (2, .int x1)]) rfl ?_
      refine ax_ls ([(0, .ref z), (1, .int x0), (2, .int x1), (3, .int 0), (4, .int 0)]) [2, 3, 4, 1, 0] rfl ?_
      have hm : s_252 l D kA z v σ4 [x0, x1, 0, 0] (σf, rf, _) := ih 252 _ _ _ h
      exact hm _ _ _ _ rfl p e s m args below meth c F Lo σ0 hF hLo C
    · have h := it_t hc h
      refine ax_iconst (pc := 47) C (-1) d_MM_look_47 (by decide +kernel) ?_
      cases h
      exact ax_iret (pc := 48) C d_MM_look_48 ⟨rfl, rfl⟩ (Nat.le_refl _) (Nat.le_refl _)
  · have h := it_f hc h
    refine ax_iconst (pc := 28) C 0 d_MM_look_28 (by decide +kernel) ?_
    cases h
    exact ax_iret (pc := 29) C d_MM_look_29 ⟨rfl, rfl⟩ (Nat.le_refl _) (Nat.le_refl _)
set_option maxHeartbeats 4000000 in
set_option maxRecDepth 100000 in
theorem o_252 (l : Launch) (D : va_G) (kA : Nat → ClassId) (z : Nat) (v : Nat → Nat) (rec : mF) (ih : ∀ t σ xs res, rec t σ xs = some res → mSem l D kA z v t σ xs res) (σ : mS) (xs : List Int32) (res : mR) (h : k_252 rec σ xs = some res) : s_252 l D kA z v σ xs res := by
  intro x0 x1 x2 x3 hxs
  subst hxs
  obtain ⟨σf, rf, dd⟩ := res
  have h : (if (σ.1 84) ≤ x3 then (some (σ, x2, 0)) else (bnd (rec 256 σ [x3]) (fun σ1 r1 => if r1 = 0 then (rec 253 σ1 [x0, x1, (x2 + 1), x3]) else (rec 253 σ1 [x0, x1, x2, x3])))) = some (σf, rf, dd) := h
  intro p e s m args below meth c F Lo σ0 hF hLo C
  dsimp only at hF hLo ⊢
  refine ax_iload (pc := 54) C d_MM_look_54 4 rfl ?_
  refine ax_aload_n (pc := 56) C d_MM_look_56 rfl 0 rfl ?_
  refine mg_269 (pc := 57) C d_MM_look_57 ?_
  refine ax_icmp_ge (pc := 60) C 81 d_MM_look_60 (by decide) (fun hc => ?_) (fun hc => ?_)
  · have h := it_t hc h
    refine ax_iload_n (pc := 81) C d_MM_look_81 rfl 3 rfl ?_
    cases h
    exact ax_iret (pc := 82) C d_MM_look_82 ⟨rfl, rfl⟩ (Nat.le_refl _) (Nat.le_refl _)
  · have h := it_f hc h
    refine ax_aload_n (pc := 63) C d_MM_look_63 rfl 0 rfl ?_
    refine ax_iload (pc := 64) C d_MM_look_64 4 rfl ?_
    obtain ⟨σ1, r1, d1_1, d2_1, h1, h, hd2, hd1⟩ := it_b h
    have hm : s_256 l D kA z v σ [x3] (σ1, r1, d1_1) := ih 256 _ _ _ h1
    refine mc_Vi (pc := 66) C (As := [.int x3]) (rest := []) (hm _ rfl) ml_MM_788 d_MM_look_66 rfl rfl (by dsimp only; omega) (by dsimp only; omega) (Nat.le_of_ble_eq_true rfl) (Nat.le_of_ble_eq_true rfl) (Nat.le_of_ble_eq_true rfl) ?_
    have hF : d2_1 + 1 ≤ F := by omega
    have hLo : 64 * d2_1 + 64 ≤ Lo := by omega
    refine ax_if_ne (pc := 69) C 75 d_MM_look_69 (by decide) (fun hc => ?_) (fun hc => ?_)
    · have h := it_f hc h
      refine ax_ls ([(0, .ref z), (1, .int x0), (2, .int x1), (3, .int x2), (4, .int x3)]) [0, 1, 2, 3, 4] rfl ?_
      have hm : s_253 l D kA z v σ1 [x0, x1, x2, x3] (σf, rf, _) := ih 253 _ _ _ h
      exact hm _ _ _ _ rfl p e s m args below meth c F Lo σ0 hF hLo C
    · have h := it_t hc h
      refine ax_iinc (pc := 72) C (x2 + 1) d_MM_look_72 3 rfl rfl (Nat.le_of_ble_eq_true rfl) ([(3, .int (x2 + 1)), (0, .ref z), (1, .int x0), (2, .int x1), (4, .int x3)]) rfl ?_
      refine ax_ls ([(0, .ref z), (1, .int x0), (2, .int x1), (3, .int (x2 + 1)), (4, .int x3)]) [1, 2, 3, 0, 4] rfl ?_
      have hm : s_253 l D kA z v σ1 [x0, x1, (x2 + 1), x3] (σf, rf, _) := ih 253 _ _ _ h
      exact hm _ _ _ _ rfl p e s m args below meth c F Lo σ0 hF hLo C
set_option maxHeartbeats 4000000 in
set_option maxRecDepth 100000 in
theorem o_253 (l : Launch) (D : va_G) (kA : Nat → ClassId) (z : Nat) (v : Nat → Nat) (rec : mF) (ih : ∀ t σ xs res, rec t σ xs = some res → mSem l D kA z v t σ xs res) (σ : mS) (xs : List Int32) (res : mR) (h : k_253 rec σ xs = some res) : s_253 l D kA z v σ xs res := by
  intro x0 x1 x2 x3 hxs
  subst hxs
  obtain ⟨σf, rf, dd⟩ := res
  have h : (rec 252 σ [x0, x1, x2, (x3 + 1)]) = some (σf, rf, dd) := h
  intro p e s m args below meth c F Lo σ0 hF hLo C
  dsimp only at hF hLo ⊢
  refine ax_iinc (pc := 75) C (x3 + 1) d_MM_look_75 4 rfl rfl (Nat.le_of_ble_eq_true rfl) ([(4, .int (x3 + 1)), (0, .ref z), (1, .int x0), (2, .int x1), (3, .int x2)]) rfl ?_
  refine ax_goto (pc := 78) C 54 d_MM_look_78 (by decide) ?_
  refine ax_ls ([(0, .ref z), (1, .int x0), (2, .int x1), (3, .int x2), (4, .int (x3 + 1))]) [1, 2, 3, 4, 0] rfl ?_
  have hm : s_252 l D kA z v σ [x0, x1, x2, (x3 + 1)] (σf, rf, _) := ih 252 _ _ _ h
  exact hm _ _ _ _ rfl p e s m args below meth c F Lo σ0 hF hLo C
set_option maxHeartbeats 4000000 in
set_option maxRecDepth 100000 in
theorem o_254 (l : Launch) (D : va_G) (kA : Nat → ClassId) (z : Nat) (v : Nat → Nat) (rec : mF) (ih : ∀ t σ xs res, rec t σ xs = some res → mSem l D kA z v t σ xs res) (σ : mS) (xs : List Int32) (res : mR) (h : k_254 rec σ xs = some res) : s_254 l D kA z v σ xs res := by
  intro hxs
  subst hxs
  obtain ⟨σf, rf, dd⟩ := res
  have h : (rec 255 σ [0]) = some (σf, rf, dd) := h
  refine ax_Mi.of (by decide +kernel) (Nat.le_of_ble_eq_true rfl) ?_
  intro p e s m args below meth c C hnm
  have C : ax_C p s m args meth c b_MM_textIsTrue "ClauseProverModel" 2 (some .boolean) D kA (va_A (mmW kA z v σ) s.heap.size) := C
  obtain ⟨F, hFe⟩ : ∃ F, F = dd + 1 := ⟨_, rfl⟩
  obtain ⟨Lo, hLoe⟩ : ∃ Lo, Lo = 64 * dd + 64 := ⟨_, rfl⟩
  obtain ⟨σ0, hσ0⟩ : ∃ s0, s0 = σ := ⟨_, rfl⟩
  suffices K : AW p l e { frames := F, cells := 0, slots := 0, locals := Lo } s m args below meth c D kA (va_A (mmW kA z v σ0) s.heap.size) 2 (ax_Qi below args s D kA (mmW kA z v σ0) 0 0 (fun r w1 => r = rf ∧ w1 = mmW kA z v σf)) 0 [(0, .ref z)] [] (mmW kA z v σ) 0 0 by rw [hFe, hLoe, hσ0] at K; exact ax_ls ([(0, .ref z)]) [0] rfl K
  have C : ax_C p s m args meth c b_MM_textIsTrue "ClauseProverModel" 2 (some .boolean) D kA (va_A (mmW kA z v σ0) s.heap.size) := by rw [hσ0]; exact C
  have hF : dd + 1 ≤ F := by omega
  have hLo : 64 * dd + 64 ≤ Lo := by omega
  clear hFe hLoe hσ0
  refine ax_iconst (pc := 0) C 0 d_MM_textIsTrue_0 (by decide +kernel) ?_
  refine ax_istore_n (pc := 1) C d_MM_textIsTrue_1 rfl (Nat.le_of_ble_eq_true rfl) ([(1, .int 0), (0, .ref z)]) rfl ?_
  refine ax_ls ([(0, .ref z), (1, .int 0)]) [1, 0] rfl ?_
  have hm : s_255 l D kA z v σ [0] (σf, rf, _) := ih 255 _ _ _ h
  exact hm _ rfl p e s m args below meth c F Lo σ0 hF hLo C
set_option maxHeartbeats 4000000 in
set_option maxRecDepth 100000 in
theorem o_255 (l : Launch) (D : va_G) (kA : Nat → ClassId) (z : Nat) (v : Nat → Nat) (rec : mF) (ih : ∀ t σ xs res, rec t σ xs = some res → mSem l D kA z v t σ xs res) (σ : mS) (xs : List Int32) (res : mR) (h : k_255 rec σ xs = some res) : s_255 l D kA z v σ xs res := by
  intro x0 hxs
  subst hxs
  obtain ⟨σf, rf, dd⟩ := res
  have h : (if (σ.1 85) ≤ x0 then (some (σ, 1, 0)) else (bnd (rec 256 σ [x0]) (fun σ1 r1 => if r1 = 0 then (some (σ1, 0, 0)) else (rec 255 σ1 [(x0 + 1)])))) = some (σf, rf, dd) := h
  intro p e s m args below meth c F Lo σ0 hF hLo C
  dsimp only at hF hLo ⊢
  refine ax_iload_n (pc := 2) C d_MM_textIsTrue_2 rfl 1 rfl ?_
  refine ax_aload_n (pc := 3) C d_MM_textIsTrue_3 rfl 0 rfl ?_
  refine mg_272 (pc := 4) C d_MM_textIsTrue_4 ?_
  refine ax_icmp_ge (pc := 7) C 26 d_MM_textIsTrue_7 (by decide) (fun hc => ?_) (fun hc => ?_)
  · have h := it_t hc h
    refine ax_iconst (pc := 26) C 1 d_MM_textIsTrue_26 (by decide +kernel) ?_
    cases h
    exact ax_zret (pc := 27) C d_MM_textIsTrue_27 rfl ⟨rfl, rfl⟩ (Nat.le_refl _) (Nat.le_refl _)
  · have h := it_f hc h
    refine ax_aload_n (pc := 10) C d_MM_textIsTrue_10 rfl 0 rfl ?_
    refine ax_iload_n (pc := 11) C d_MM_textIsTrue_11 rfl 1 rfl ?_
    obtain ⟨σ1, r1, d1_1, d2_1, h1, h, hd2, hd1⟩ := it_b h
    have hm : s_256 l D kA z v σ [x0] (σ1, r1, d1_1) := ih 256 _ _ _ h1
    refine mc_Vi (pc := 12) C (As := [.int x0]) (rest := []) (hm _ rfl) ml_MM_788 d_MM_textIsTrue_12 rfl rfl (by dsimp only; omega) (by dsimp only; omega) (Nat.le_of_ble_eq_true rfl) (Nat.le_of_ble_eq_true rfl) (Nat.le_of_ble_eq_true rfl) ?_
    have hF : d2_1 + 1 ≤ F := by omega
    have hLo : 64 * d2_1 + 64 ≤ Lo := by omega
    refine ax_if_ne (pc := 15) C 20 d_MM_textIsTrue_15 (by decide) (fun hc => ?_) (fun hc => ?_)
    · have h := it_f hc h
      refine ax_iinc (pc := 20) C (x0 + 1) d_MM_textIsTrue_20 1 rfl rfl (Nat.le_of_ble_eq_true rfl) ([(1, .int (x0 + 1)), (0, .ref z)]) rfl ?_
      refine ax_goto (pc := 23) C 2 d_MM_textIsTrue_23 (by decide) ?_
      refine ax_ls ([(0, .ref z), (1, .int (x0 + 1))]) [1, 0] rfl ?_
      have hm : s_255 l D kA z v σ1 [(x0 + 1)] (σf, rf, _) := ih 255 _ _ _ h
      exact hm _ rfl p e s m args below meth c F Lo σ0 hF hLo C
    · have h := it_t hc h
      refine ax_iconst (pc := 18) C 0 d_MM_textIsTrue_18 (by decide +kernel) ?_
      cases h
      exact ax_zret (pc := 19) C d_MM_textIsTrue_19 rfl ⟨rfl, rfl⟩ (Nat.le_refl _) (Nat.le_refl _)
set_option maxHeartbeats 4000000 in
set_option maxRecDepth 100000 in
theorem o_256 (l : Launch) (D : va_G) (kA : Nat → ClassId) (z : Nat) (v : Nat → Nat) (rec : mF) (ih : ∀ t σ xs res, rec t σ xs = some res → mSem l D kA z v t σ xs res) (σ : mS) (xs : List Int32) (res : mR) (h : k_256 rec σ xs = some res) : s_256 l D kA z v σ xs res := by
  intro x0 hxs
  subst hxs
  obtain ⟨σf, rf, dd⟩ := res
  have h : (rec 257 σ [x0, 1, 0]) = some (σf, rf, dd) := h
  refine ax_Mi.of (by decide +kernel) (Nat.le_of_ble_eq_true rfl) ?_
  intro p e s m args below meth c C hnm
  have C : ax_C p s m args meth c b_MM_isTrue "ClauseProverModel" 7 (some .boolean) D kA (va_A (mmW kA z v σ) s.heap.size) := C
  obtain ⟨F, hFe⟩ : ∃ F, F = dd + 1 := ⟨_, rfl⟩
  obtain ⟨Lo, hLoe⟩ : ∃ Lo, Lo = 64 * dd + 64 := ⟨_, rfl⟩
  obtain ⟨σ0, hσ0⟩ : ∃ s0, s0 = σ := ⟨_, rfl⟩
  suffices K : AW p l e { frames := F, cells := 0, slots := 0, locals := Lo } s m args below meth c D kA (va_A (mmW kA z v σ0) s.heap.size) 7 (ax_Qi below args s D kA (mmW kA z v σ0) 0 0 (fun r w1 => r = rf ∧ w1 = mmW kA z v σf)) 0 [(0, .ref z), (1, .int x0)] [] (mmW kA z v σ) 0 0 by rw [hFe, hLoe, hσ0] at K; exact ax_ls ([(0, .ref z), (1, .int x0)]) [0, 1] rfl K
  have C : ax_C p s m args meth c b_MM_isTrue "ClauseProverModel" 7 (some .boolean) D kA (va_A (mmW kA z v σ0) s.heap.size) := by rw [hσ0]; exact C
  have hF : dd + 1 ≤ F := by omega
  have hLo : 64 * dd + 64 ≤ Lo := by omega
  clear hFe hLoe hσ0
  refine ax_iconst (pc := 0) C 1 d_MM_isTrue_0 (by decide +kernel) ?_
  refine ax_istore_n (pc := 1) C d_MM_isTrue_1 rfl (Nat.le_of_ble_eq_true rfl) ([(2, .int 1), (0, .ref z), (1, .int x0)]) rfl ?_
  refine ax_iconst (pc := 2) C 0 d_MM_isTrue_2 (by decide +kernel) ?_
  refine ax_istore_n (pc := 3) C d_MM_isTrue_3 rfl (Nat.le_of_ble_eq_true rfl) ([(3, .int 0), (2, .int 1), (0, .ref z), (1, .int x0)]) rfl ?_
  refine ax_ls ([(0, .ref z), (1, .int x0), (2, .int 1), (3, .int 0)]) [2, 3, 1, 0] rfl ?_
  have hm : s_257 l D kA z v σ [x0, 1, 0] (σf, rf, _) := ih 257 _ _ _ h
  exact hm _ _ _ rfl p e s m args below meth c F Lo σ0 hF hLo C
set_option maxHeartbeats 4000000 in
set_option maxRecDepth 100000 in
theorem o_257 (l : Launch) (D : va_G) (kA : Nat → ClassId) (z : Nat) (v : Nat → Nat) (rec : mF) (ih : ∀ t σ xs res, rec t σ xs = some res → mSem l D kA z v t σ xs res) (σ : mS) (xs : List Int32) (res : mR) (h : k_257 rec σ xs = some res) : s_257 l D kA z v σ xs res := by
  intro x0 x1 x2 hxs
  subst hxs
  obtain ⟨σf, rf, dd⟩ := res
  have h : (if bin x0 2001 = true then (if (σ.2.1 76 (Int32.toNatClampNeg x0)) ≤ x2 then (rec 258 σ [x0, x1, 0]) else (rec 257 σ [x0, ((x1 : Int32) * (σ.1 125)), (x2 + 1)])) else none) = some (σf, rf, dd) := h
  intro p e s m args below meth c F Lo σ0 hF hLo C
  dsimp only at hF hLo ⊢
  refine ax_iload_n (pc := 4) C d_MM_isTrue_4 rfl 3 rfl ?_
  refine ax_aload_n (pc := 5) C d_MM_isTrue_5 rfl 0 rfl ?_
  refine mg_244 (pc := 6) C d_MM_isTrue_6 ?_
  refine ax_iload_n (pc := 9) C d_MM_isTrue_9 rfl 1 rfl ?_
  obtain ⟨hb, h⟩ := it_g h
  refine ml_76 (pc := 10) C d_MM_isTrue_10 (bin_in hb) ?_
  refine ax_icmp_ge (pc := 11) C 27 d_MM_isTrue_11 (by decide) (fun hc => ?_) (fun hc => ?_)
  · have h := it_t hc h
    refine ax_iconst (pc := 27) C 0 d_MM_isTrue_27 (by decide +kernel) ?_
    refine ax_istore_n (pc := 28) C d_MM_isTrue_28 rfl (Nat.le_of_ble_eq_true rfl) ([(3, .int 0), (0, .ref z), (1, .int x0), (2, .int x1)]) rfl ?_
    refine ax_ls ([(0, .ref z), (1, .int x0), (2, .int x1), (3, .int 0)]) [1, 2, 3, 0] rfl ?_
    have hm : s_258 l D kA z v σ [x0, x1, 0] (σf, rf, _) := ih 258 _ _ _ h
    exact hm _ _ _ rfl p e s m args below meth c F Lo σ0 hF hLo C
  · have h := it_f hc h
    refine ax_iload_n (pc := 14) C d_MM_isTrue_14 rfl 2 rfl ?_
    refine ax_aload_n (pc := 15) C d_MM_isTrue_15 rfl 0 rfl ?_
    refine mg_394 (pc := 16) C d_MM_isTrue_16 ?_
    refine ax_imul (pc := 19) C d_MM_isTrue_19 ?_
    refine ax_istore_n (pc := 20) C d_MM_isTrue_20 rfl (Nat.le_of_ble_eq_true rfl) ([(2, .int ((x1 : Int32) * (σ.1 125))), (0, .ref z), (1, .int x0), (3, .int x2)]) rfl ?_
    refine ax_iinc (pc := 21) C (x2 + 1) d_MM_isTrue_21 3 rfl rfl (Nat.le_of_ble_eq_true rfl) ([(3, .int (x2 + 1)), (2, .int ((x1 : Int32) * (σ.1 125))), (0, .ref z), (1, .int x0)]) rfl ?_
    refine ax_goto (pc := 24) C 4 d_MM_isTrue_24 (by decide) ?_
    refine ax_ls ([(0, .ref z), (1, .int x0), (2, .int ((x1 : Int32) * (σ.1 125))), (3, .int (x2 + 1))]) [2, 3, 1, 0] rfl ?_
    have hm : s_257 l D kA z v σ [x0, ((x1 : Int32) * (σ.1 125)), (x2 + 1)] (σf, rf, _) := ih 257 _ _ _ h
    exact hm _ _ _ rfl p e s m args below meth c F Lo σ0 hF hLo C
set_option maxHeartbeats 4000000 in
set_option maxRecDepth 100000 in
theorem o_258 (l : Launch) (D : va_G) (kA : Nat → ClassId) (z : Nat) (v : Nat → Nat) (rec : mF) (ih : ∀ t σ xs res, rec t σ xs = some res → mSem l D kA z v t σ xs res) (σ : mS) (xs : List Int32) (res : mR) (h : k_258 rec σ xs = some res) : s_258 l D kA z v σ xs res := by
  intro x0 x1 x2 hxs
  subst hxs
  obtain ⟨σf, rf, dd⟩ := res
  have h : (if x1 ≤ x2 then (some (σ, 1, 0)) else (rec 259 σ [x0, x1, x2, x2, 0])) = some (σf, rf, dd) := h
  intro p e s m args below meth c F Lo σ0 hF hLo C
  dsimp only at hF hLo ⊢
  refine ax_iload_n (pc := 29) C d_MM_isTrue_29 rfl 3 rfl ?_
  refine ax_iload_n (pc := 30) C d_MM_isTrue_30 rfl 2 rfl ?_
  refine ax_icmp_ge (pc := 31) C 180 d_MM_isTrue_31 (by decide) (fun hc => ?_) (fun hc => ?_)
  · have h := it_t hc h
    refine ax_iconst (pc := 180) C 1 d_MM_isTrue_180 (by decide +kernel) ?_
    cases h
    exact ax_zret (pc := 181) C d_MM_isTrue_181 rfl ⟨rfl, rfl⟩ (Nat.le_refl _) (Nat.le_refl _)
  · have h := it_f hc h
    refine ax_iload_n (pc := 34) C d_MM_isTrue_34 rfl 3 rfl ?_
    refine ax_istore (pc := 35) C d_MM_isTrue_35 (Nat.le_of_ble_eq_true rfl) ([(4, .int x2), (0, .ref z), (1, .int x0), (2, .int x1), (3, .int x2)]) rfl ?_
    refine ax_iconst (pc := 37) C 0 d_MM_isTrue_37 (by decide +kernel) ?_
    refine ax_istore (pc := 38) C d_MM_isTrue_38 (Nat.le_of_ble_eq_true rfl) ([(5, .int 0), (4, .int x2), (0, .ref z), (1, .int x0), (2, .int x1), (3, .int x2)]) rfl ?_
    refine ax_ls ([(0, .ref z), (1, .int x0), (2, .int x1), (3, .int x2), (4, .int x2), (5, .int 0)]) [2, 3, 4, 5, 1, 0] rfl ?_
    have hm : s_259 l D kA z v σ [x0, x1, x2, x2, 0] (σf, rf, _) := ih 259 _ _ _ h
    exact hm _ _ _ _ _ rfl p e s m args below meth c F Lo σ0 hF hLo C
set_option maxHeartbeats 4000000 in
set_option maxRecDepth 100000 in
theorem o_259 (l : Launch) (D : va_G) (kA : Nat → ClassId) (z : Nat) (v : Nat → Nat) (rec : mF) (ih : ∀ t σ xs res, rec t σ xs = some res → mSem l D kA z v t σ xs res) (σ : mS) (xs : List Int32) (res : mR) (h : k_259 rec σ xs = some res) : s_259 l D kA z v σ xs res := by
  intro x0 x1 x2 x3 x4 hxs
  subst hxs
  obtain ⟨σf, rf, dd⟩ := res
  have h : (if bin x0 2001 = true then (if (σ.2.1 76 (Int32.toNatClampNeg x0)) ≤ x4 then (if bin x0 2001 = true then (rec 260 σ [x0, x1, x2, x3, 0, (σ.2.1 73 (Int32.toNatClampNeg x0))]) else none) else (if (σ.1 125) = 0 then none else (if bin x4 6 = true then (lt_ (mA σ 126 (Int32.toNatClampNeg x4) (x3 - x3 / (σ.1 125) * (σ.1 125))) (fun σ1 => if (σ1.1 125) = 0 then none else (rec 259 σ1 [x0, x1, x2, (x3 / (σ1.1 125)), (x4 + 1)]))) else none))) else none) = some (σf, rf, dd) := h
  intro p e s m args below meth c F Lo σ0 hF hLo C
  dsimp only at hF hLo ⊢
  refine ax_iload (pc := 40) C d_MM_isTrue_40 5 rfl ?_
  refine ax_aload_n (pc := 42) C d_MM_isTrue_42 rfl 0 rfl ?_
  refine mg_244 (pc := 43) C d_MM_isTrue_43 ?_
  refine ax_iload_n (pc := 46) C d_MM_isTrue_46 rfl 1 rfl ?_
  obtain ⟨hb, h⟩ := it_g h
  refine ml_76 (pc := 47) C d_MM_isTrue_47 (bin_in hb) ?_
  refine ax_icmp_ge (pc := 48) C 80 d_MM_isTrue_48 (by decide) (fun hc => ?_) (fun hc => ?_)
  · have h := it_t hc h
    refine ax_iconst (pc := 80) C 0 d_MM_isTrue_80 (by decide +kernel) ?_
    refine ax_istore (pc := 81) C d_MM_isTrue_81 (Nat.le_of_ble_eq_true rfl) ([(5, .int 0), (0, .ref z), (1, .int x0), (2, .int x1), (3, .int x2), (4, .int x3)]) rfl ?_
    refine ax_aload_n (pc := 83) C d_MM_isTrue_83 rfl 1 rfl ?_
    refine mg_235 (pc := 84) C d_MM_isTrue_84 ?_
    refine ax_iload_n (pc := 87) C d_MM_isTrue_87 rfl 2 rfl ?_
    obtain ⟨hb, h⟩ := it_g h
    refine ml_73 (pc := 88) C d_MM_isTrue_88 (bin_in hb) ?_
    refine ax_istore (pc := 89) C d_MM_isTrue_89 (Nat.le_of_ble_eq_true rfl) ([(6, .int (σ.2.1 73 (Int32.toNatClampNeg x0))), (5, .int 0), (0, .ref z), (1, .int x0), (2, .int x1), (3, .int x2), (4, .int x3)]) rfl ?_
    refine ax_ls ([(0, .ref z), (1, .int x0), (2, .int x1), (3, .int x2), (4, .int x3), (5, .int 0), (6, .int (σ.2.1 73 (Int32.toNatClampNeg x0)))]) [2, 3, 4, 5, 6, 1, 0] rfl ?_
    have hm : s_260 l D kA z v σ [x0, x1, x2, x3, 0, (σ.2.1 73 (Int32.toNatClampNeg x0))] (σf, rf, _) := ih 260 _ _ _ h
    exact hm _ _ _ _ _ _ rfl p e s m args below meth c F Lo σ0 hF hLo C
  · have h := it_f hc h
    refine ax_aload_n (pc := 51) C d_MM_isTrue_51 rfl 0 rfl ?_
    refine mg_397 (pc := 52) C d_MM_isTrue_52 ?_
    refine ax_iload (pc := 55) C d_MM_isTrue_55 5 rfl ?_
    refine ax_iload (pc := 57) C d_MM_isTrue_57 4 rfl ?_
    refine ax_aload_n (pc := 59) C d_MM_isTrue_59 rfl 0 rfl ?_
    refine mg_394 (pc := 60) C d_MM_isTrue_60 ?_
    obtain ⟨hz, h⟩ := it_n h
    refine ax_irem (pc := 63) C d_MM_isTrue_63 hz ?_
    obtain ⟨hb, h⟩ := it_g h
    refine ms_126 (pc := 64) C d_MM_isTrue_64 (bin_in hb) ?_
    have h := it_l h
    generalize mA σ 126 (Int32.toNatClampNeg x4) (x3 - x3 / (σ.1 125) * (σ.1 125)) = σ1 at h ⊢
    refine ax_iload (pc := 65) C d_MM_isTrue_65 4 rfl ?_
    refine ax_aload_n (pc := 67) C d_MM_isTrue_67 rfl 0 rfl ?_
    refine mg_394 (pc := 68) C d_MM_isTrue_68 ?_
    obtain ⟨hz, h⟩ := it_n h
    refine ax_idiv (pc := 71) C d_MM_isTrue_71 hz ?_
    refine ax_istore (pc := 72) C d_MM_isTrue_72 (Nat.le_of_ble_eq_true rfl) ([(4, .int (x3 / (σ1.1 125))), (0, .ref z), (1, .int x0), (2, .int x1), (3, .int x2), (5, .int x4)]) rfl ?_
    refine ax_iinc (pc := 74) C (x4 + 1) d_MM_isTrue_74 5 rfl rfl (Nat.le_of_ble_eq_true rfl) ([(5, .int (x4 + 1)), (4, .int (x3 / (σ1.1 125))), (0, .ref z), (1, .int x0), (2, .int x1), (3, .int x2)]) rfl ?_
    refine ax_goto (pc := 77) C 40 d_MM_isTrue_77 (by decide) ?_
    refine ax_ls ([(0, .ref z), (1, .int x0), (2, .int x1), (3, .int x2), (4, .int (x3 / (σ1.1 125))), (5, .int (x4 + 1))]) [2, 3, 4, 5, 1, 0] rfl ?_
    have hm : s_259 l D kA z v σ1 [x0, x1, x2, (x3 / (σ1.1 125)), (x4 + 1)] (σf, rf, _) := ih 259 _ _ _ h
    exact hm _ _ _ _ _ rfl p e s m args below meth c F Lo σ0 hF hLo C
set_option maxHeartbeats 4000000 in
set_option maxRecDepth 100000 in
theorem o_260 (l : Launch) (D : va_G) (kA : Nat → ClassId) (z : Nat) (v : Nat → Nat) (rec : mF) (ih : ∀ t σ xs res, rec t σ xs = some res → mSem l D kA z v t σ xs res) (σ : mS) (xs : List Int32) (res : mR) (h : k_260 rec σ xs = some res) : s_260 l D kA z v σ xs res := by
  intro x0 x1 x2 x3 x4 x5 hxs
  subst hxs
  obtain ⟨σf, rf, dd⟩ := res
  have h : (if bin x0 2001 = true then (if bin x0 2001 = true then (if (((σ.2.1 73 (Int32.toNatClampNeg x0)) : Int32) + (σ.2.1 74 (Int32.toNatClampNeg x0))) ≤ x5 then (rec 263 σ [x0, x1, x2, x3, x4, x5]) else (if x4 = 0 then (if bin x5 16100 = true then (bnd (rec 264 σ [(σ.2.1 66 (Int32.toNatClampNeg x5))]) (fun σ1 r1 => if bin x5 16100 = true then (bnd (rec 264 σ1 [(σ1.2.1 67 (Int32.toNatClampNeg x5))]) (fun σ2 r2 => if r1 = r2 then (rec 261 σ2 [x0, x1, x2, x3, x4, x5, 1]) else (rec 261 σ2 [x0, x1, x2, x3, x4, x5, 0]))) else none)) else none) else (rec 263 σ [x0, x1, x2, x3, x4, x5]))) else none) else none) = some (σf, rf, dd) := h
  intro p e s m args below meth c F Lo σ0 hF hLo C
  dsimp only at hF hLo ⊢
  refine ax_iload (pc := 91) C d_MM_isTrue_91 6 rfl ?_
  refine ax_aload_n (pc := 93) C d_MM_isTrue_93 rfl 0 rfl ?_
  refine mg_235 (pc := 94) C d_MM_isTrue_94 ?_
  refine ax_iload_n (pc := 97) C d_MM_isTrue_97 rfl 1 rfl ?_
  obtain ⟨hb, h⟩ := it_g h
  refine ml_73 (pc := 98) C d_MM_isTrue_98 (bin_in hb) ?_
  refine ax_aload_n (pc := 99) C d_MM_isTrue_99 rfl 0 rfl ?_
  refine mg_238 (pc := 100) C d_MM_isTrue_100 ?_
  refine ax_iload_n (pc := 103) C d_MM_isTrue_103 rfl 1 rfl ?_
  obtain ⟨hb, h⟩ := it_g h
  refine ml_74 (pc := 104) C d_MM_isTrue_104 (bin_in hb) ?_
  refine ax_iadd (pc := 105) C d_MM_isTrue_105 ?_
  refine ax_icmp_ge (pc := 106) C 167 d_MM_isTrue_106 (by decide) (fun hc => ?_) (fun hc => ?_)
  · have h := it_t hc h
    refine ax_ls ([(0, .ref z), (1, .int x0), (2, .int x1), (3, .int x2), (4, .int x3), (5, .int x4), (6, .int x5)]) [0, 1, 2, 3, 4, 5, 6] rfl ?_
    have hm : s_263 l D kA z v σ [x0, x1, x2, x3, x4, x5] (σf, rf, _) := ih 263 _ _ _ h
    exact hm _ _ _ _ _ _ rfl p e s m args below meth c F Lo σ0 hF hLo C
  · have h := it_f hc h
    refine ax_iload (pc := 109) C d_MM_isTrue_109 5 rfl ?_
    refine ax_if_ne (pc := 111) C 167 d_MM_isTrue_111 (by decide) (fun hc => ?_) (fun hc => ?_)
    · have h := it_f hc h
      refine ax_ls ([(0, .ref z), (1, .int x0), (2, .int x1), (3, .int x2), (4, .int x3), (5, .int x4), (6, .int x5)]) [0, 1, 2, 3, 4, 5, 6] rfl ?_
      have hm : s_263 l D kA z v σ [x0, x1, x2, x3, x4, x5] (σf, rf, _) := ih 263 _ _ _ h
      exact hm _ _ _ _ _ _ rfl p e s m args below meth c F Lo σ0 hF hLo C
    · have h := it_t hc h
      refine ax_aload_n (pc := 114) C d_MM_isTrue_114 rfl 0 rfl ?_
      refine ax_aload_n (pc := 115) C d_MM_isTrue_115 rfl 0 rfl ?_
      refine mg_214 (pc := 116) C d_MM_isTrue_116 ?_
      refine ax_iload (pc := 119) C d_MM_isTrue_119 6 rfl ?_
      obtain ⟨hb, h⟩ := it_g h
      refine ml_66 (pc := 121) C d_MM_isTrue_121 (bin_in hb) ?_
      obtain ⟨σ1, r1, d1_1, d2_1, h1, h, hd2, hd1⟩ := it_b h
      have hm : s_264 l D kA z v σ [(σ.2.1 66 (Int32.toNatClampNeg x5))] (σ1, r1, d1_1) := ih 264 _ _ _ h1
      refine mc_Vi (pc := 122) C (As := [.int (σ.2.1 66 (Int32.toNatClampNeg x5))]) (rest := []) (hm _ rfl) ml_MM_783 d_MM_isTrue_122 rfl rfl (by dsimp only; omega) (by dsimp only; omega) (Nat.le_of_ble_eq_true rfl) (Nat.le_of_ble_eq_true rfl) (Nat.le_of_ble_eq_true rfl) ?_
      have hF : d2_1 + 1 ≤ F := by omega
      have hLo : 64 * d2_1 + 64 ≤ Lo := by omega
      refine ax_aload_n (pc := 125) C d_MM_isTrue_125 rfl 0 rfl ?_
      refine ax_aload_n (pc := 126) C d_MM_isTrue_126 rfl 0 rfl ?_
      refine mg_217 (pc := 127) C d_MM_isTrue_127 ?_
      refine ax_iload (pc := 130) C d_MM_isTrue_130 6 rfl ?_
      obtain ⟨hb, h⟩ := it_g h
      refine ml_67 (pc := 132) C d_MM_isTrue_132 (bin_in hb) ?_
      obtain ⟨σ2, r2, d1_2, d2_2, h1, h, hd2, hd1⟩ := it_b h
      have hm : s_264 l D kA z v σ1 [(σ1.2.1 67 (Int32.toNatClampNeg x5))] (σ2, r2, d1_2) := ih 264 _ _ _ h1
      refine mc_Vi (pc := 133) C (As := [.int (σ1.2.1 67 (Int32.toNatClampNeg x5))]) (rest := [.int r1]) (hm _ rfl) ml_MM_783 d_MM_isTrue_133 rfl rfl (by dsimp only; omega) (by dsimp only; omega) (Nat.le_of_ble_eq_true rfl) (Nat.le_of_ble_eq_true rfl) (Nat.le_of_ble_eq_true rfl) ?_
      have hF : d2_2 + 1 ≤ F := by omega
      have hLo : 64 * d2_2 + 64 ≤ Lo := by omega
      refine ax_icmp_ne (pc := 136) C 143 d_MM_isTrue_136 (by decide) (fun hc => ?_) (fun hc => ?_)
      · have h := it_f hc h
        refine ax_iconst (pc := 143) C 0 d_MM_isTrue_143 (by decide +kernel) ?_
        refine ax_ls ([(0, .ref z), (1, .int x0), (2, .int x1), (3, .int x2), (4, .int x3), (5, .int x4), (6, .int x5)]) [0, 1, 2, 3, 4, 5, 6] rfl ?_
        have hm : s_261 l D kA z v σ2 [x0, x1, x2, x3, x4, x5, 0] (σf, rf, _) := ih 261 _ _ _ h
        exact hm _ _ _ _ _ _ _ rfl p e s m args below meth c F Lo σ0 hF hLo C
      · have h := it_t hc h
        refine ax_iconst (pc := 139) C 1 d_MM_isTrue_139 (by decide +kernel) ?_
        refine ax_goto (pc := 140) C 144 d_MM_isTrue_140 (by decide) ?_
        refine ax_ls ([(0, .ref z), (1, .int x0), (2, .int x1), (3, .int x2), (4, .int x3), (5, .int x4), (6, .int x5)]) [0, 1, 2, 3, 4, 5, 6] rfl ?_
        have hm : s_261 l D kA z v σ2 [x0, x1, x2, x3, x4, x5, 1] (σf, rf, _) := ih 261 _ _ _ h
        exact hm _ _ _ _ _ _ _ rfl p e s m args below meth c F Lo σ0 hF hLo C
set_option maxHeartbeats 4000000 in
set_option maxRecDepth 100000 in
theorem o_261 (l : Launch) (D : va_G) (kA : Nat → ClassId) (z : Nat) (v : Nat → Nat) (rec : mF) (ih : ∀ t σ xs res, rec t σ xs = some res → mSem l D kA z v t σ xs res) (σ : mS) (xs : List Int32) (res : mR) (h : k_261 rec σ xs = some res) : s_261 l D kA z v σ xs res := by
  intro x0 x1 x2 x3 x4 x5 x6 hxs
  subst hxs
  obtain ⟨σf, rf, dd⟩ := res
  have h : (if bin x5 16100 = true then (if x6 = (σ.2.1 68 (Int32.toNatClampNeg x5)) then (rec 262 σ [x0, x1, x2, x3, x4, x5, 1]) else (rec 262 σ [x0, x1, x2, x3, x4, x5, 0])) else none) = some (σf, rf, dd) := h
  intro p e s m args below meth c F Lo σ0 hF hLo C
  dsimp only at hF hLo ⊢
  refine ax_aload_n (pc := 144) C d_MM_isTrue_144 rfl 0 rfl ?_
  refine mg_220 (pc := 145) C d_MM_isTrue_145 ?_
  refine ax_iload (pc := 148) C d_MM_isTrue_148 6 rfl ?_
  obtain ⟨hb, h⟩ := it_g h
  refine ml_68 (pc := 150) C d_MM_isTrue_150 (bin_in hb) ?_
  refine ax_icmp_ne (pc := 151) C 158 d_MM_isTrue_151 (by decide) (fun hc => ?_) (fun hc => ?_)
  · have h := it_f hc h
    refine ax_iconst (pc := 158) C 0 d_MM_isTrue_158 (by decide +kernel) ?_
    refine ax_ls ([(0, .ref z), (1, .int x0), (2, .int x1), (3, .int x2), (4, .int x3), (5, .int x4), (6, .int x5)]) [0, 1, 2, 3, 4, 5, 6] rfl ?_
    have hm : s_262 l D kA z v σ [x0, x1, x2, x3, x4, x5, 0] (σf, rf, _) := ih 262 _ _ _ h
    exact hm _ _ _ _ _ _ _ rfl p e s m args below meth c F Lo σ0 hF hLo C
  · have h := it_t hc h
    refine ax_iconst (pc := 154) C 1 d_MM_isTrue_154 (by decide +kernel) ?_
    refine ax_goto (pc := 155) C 159 d_MM_isTrue_155 (by decide) ?_
    refine ax_ls ([(0, .ref z), (1, .int x0), (2, .int x1), (3, .int x2), (4, .int x3), (5, .int x4), (6, .int x5)]) [0, 1, 2, 3, 4, 5, 6] rfl ?_
    have hm : s_262 l D kA z v σ [x0, x1, x2, x3, x4, x5, 1] (σf, rf, _) := ih 262 _ _ _ h
    exact hm _ _ _ _ _ _ _ rfl p e s m args below meth c F Lo σ0 hF hLo C
set_option maxHeartbeats 4000000 in
set_option maxRecDepth 100000 in
theorem o_262 (l : Launch) (D : va_G) (kA : Nat → ClassId) (z : Nat) (v : Nat → Nat) (rec : mF) (ih : ∀ t σ xs res, rec t σ xs = some res → mSem l D kA z v t σ xs res) (σ : mS) (xs : List Int32) (res : mR) (h : k_262 rec σ xs = some res) : s_262 l D kA z v σ xs res := by
  intro x0 x1 x2 x3 x4 x5 x6 hxs
  subst hxs
  obtain ⟨σf, rf, dd⟩ := res
  have h : (rec 260 σ [x0, x1, x2, x3, x6, (x5 + 1)]) = some (σf, rf, dd) := h
  intro p e s m args below meth c F Lo σ0 hF hLo C
  dsimp only at hF hLo ⊢
  refine ax_istore (pc := 159) C d_MM_isTrue_159 (Nat.le_of_ble_eq_true rfl) ([(5, .int x6), (0, .ref z), (1, .int x0), (2, .int x1), (3, .int x2), (4, .int x3), (6, .int x5)]) rfl ?_
  refine ax_iinc (pc := 161) C (x5 + 1) d_MM_isTrue_161 6 rfl rfl (Nat.le_of_ble_eq_true rfl) ([(6, .int (x5 + 1)), (5, .int x6), (0, .ref z), (1, .int x0), (2, .int x1), (3, .int x2), (4, .int x3)]) rfl ?_
  refine ax_goto (pc := 164) C 91 d_MM_isTrue_164 (by decide) ?_
  refine ax_ls ([(0, .ref z), (1, .int x0), (2, .int x1), (3, .int x2), (4, .int x3), (5, .int x6), (6, .int (x5 + 1))]) [2, 3, 4, 5, 6, 1, 0] rfl ?_
  have hm : s_260 l D kA z v σ [x0, x1, x2, x3, x6, (x5 + 1)] (σf, rf, _) := ih 260 _ _ _ h
  exact hm _ _ _ _ _ _ rfl p e s m args below meth c F Lo σ0 hF hLo C
set_option maxHeartbeats 4000000 in
set_option maxRecDepth 100000 in
theorem o_263 (l : Launch) (D : va_G) (kA : Nat → ClassId) (z : Nat) (v : Nat → Nat) (rec : mF) (ih : ∀ t σ xs res, rec t σ xs = some res → mSem l D kA z v t σ xs res) (σ : mS) (xs : List Int32) (res : mR) (h : k_263 rec σ xs = some res) : s_263 l D kA z v σ xs res := by
  intro x0 x1 x2 x3 x4 x5 hxs
  subst hxs
  obtain ⟨σf, rf, dd⟩ := res
  have h : (if x4 = 0 then (some (σ, 0, 0)) else (rec 258 σ [x0, x1, (x2 + 1)])) = some (σf, rf, dd) := h
  intro p e s m args below meth c F Lo σ0 hF hLo C
  dsimp only at hF hLo ⊢
  refine ax_iload (pc := 167) C d_MM_isTrue_167 5 rfl ?_
  refine ax_if_ne (pc := 169) C 174 d_MM_isTrue_169 (by decide) (fun hc => ?_) (fun hc => ?_)
  · have h := it_f hc h
    refine ax_iinc (pc := 174) C (x2 + 1) d_MM_isTrue_174 3 rfl rfl (Nat.le_of_ble_eq_true rfl) ([(3, .int (x2 + 1)), (0, .ref z), (1, .int x0), (2, .int x1), (4, .int x3), (5, .int x4), (6, .int x5)]) rfl ?_
    refine ax_goto (pc := 177) C 29 d_MM_isTrue_177 (by decide) ?_
    refine ax_ls ([(0, .ref z), (1, .int x0), (2, .int x1), (3, .int (x2 + 1))]) [1, 2, 3, 0] rfl ?_
    have hm : s_258 l D kA z v σ [x0, x1, (x2 + 1)] (σf, rf, _) := ih 258 _ _ _ h
    exact hm _ _ _ rfl p e s m args below meth c F Lo σ0 hF hLo C
  · have h := it_t hc h
    refine ax_iconst (pc := 172) C 0 d_MM_isTrue_172 (by decide +kernel) ?_
    cases h
    exact ax_zret (pc := 173) C d_MM_isTrue_173 rfl ⟨rfl, rfl⟩ (Nat.le_refl _) (Nat.le_refl _)
set_option maxHeartbeats 4000000 in
set_option maxRecDepth 100000 in
theorem o_264 (l : Launch) (D : va_G) (kA : Nat → ClassId) (z : Nat) (v : Nat → Nat) (rec : mF) (ih : ∀ t σ xs res, rec t σ xs = some res → mSem l D kA z v t σ xs res) (σ : mS) (xs : List Int32) (res : mR) (h : k_264 rec σ xs = some res) : s_264 l D kA z v σ xs res := by
  intro x0 hxs
  subst hxs
  obtain ⟨σf, rf, dd⟩ := res
  have h : (if bin x0 420000 = true then (if 0 ≤ (σ.2.1 43 (Int32.toNatClampNeg x0)) then (if bin x0 420000 = true then (if (σ.2.1 43 (Int32.toNatClampNeg x0)) = 0 then (some (σ, 1, 0)) else (if bin x0 420000 = true then (bnd (rec 267 σ [(σ.1 124), (σ.2.1 43 (Int32.toNatClampNeg x0))]) (fun σ1 r1 => if bin x0 420000 = true then (rec 265 σ1 [x0, r1, (σ1.2.1 44 (Int32.toNatClampNeg x0))]) else none)) else none)) else none) else (if bin x0 420000 = true then (if bin (((-1) : Int32) - (σ.2.1 43 (Int32.toNatClampNeg x0))) 6 = true then (some (σ, (σ.2.1 126 (Int32.toNatClampNeg (((-1) : Int32) - (σ.2.1 43 (Int32.toNatClampNeg x0))))), 0)) else none) else none)) else none) = some (σf, rf, dd) := h
  refine ax_Mi.of (by decide +kernel) (Nat.le_of_ble_eq_true rfl) ?_
  intro p e s m args below meth c C hnm
  have C : ax_C p s m args meth c b_MM_meaning "ClauseProverModel" 4 (some .int) D kA (va_A (mmW kA z v σ) s.heap.size) := C
  obtain ⟨F, hFe⟩ : ∃ F, F = dd + 1 := ⟨_, rfl⟩
  obtain ⟨Lo, hLoe⟩ : ∃ Lo, Lo = 64 * dd + 64 := ⟨_, rfl⟩
  obtain ⟨σ0, hσ0⟩ : ∃ s0, s0 = σ := ⟨_, rfl⟩
  suffices K : AW p l e { frames := F, cells := 0, slots := 0, locals := Lo } s m args below meth c D kA (va_A (mmW kA z v σ0) s.heap.size) 4 (ax_Qi below args s D kA (mmW kA z v σ0) 0 0 (fun r w1 => r = rf ∧ w1 = mmW kA z v σf)) 0 [(0, .ref z), (1, .int x0)] [] (mmW kA z v σ) 0 0 by rw [hFe, hLoe, hσ0] at K; exact ax_ls ([(0, .ref z), (1, .int x0)]) [0, 1] rfl K
  have C : ax_C p s m args meth c b_MM_meaning "ClauseProverModel" 4 (some .int) D kA (va_A (mmW kA z v σ0) s.heap.size) := by rw [hσ0]; exact C
  have hF : dd + 1 ≤ F := by omega
  have hLo : 64 * dd + 64 ≤ Lo := by omega
  clear hFe hLoe hσ0
  refine ax_aload_n (pc := 0) C d_MM_meaning_0 rfl 0 rfl ?_
  refine mg_145 (pc := 1) C d_MM_meaning_1 ?_
  refine ax_iload_n (pc := 4) C d_MM_meaning_4 rfl 1 rfl ?_
  obtain ⟨hb, h⟩ := it_g h
  refine ml_43 (pc := 5) C d_MM_meaning_5 (bin_in hb) ?_
  refine ax_if_ge (pc := 6) C 23 d_MM_meaning_6 (by decide) (fun hc => ?_) (fun hc => ?_)
  · have h := it_t hc h
    refine ax_aload_n (pc := 23) C d_MM_meaning_23 rfl 0 rfl ?_
    refine mg_145 (pc := 24) C d_MM_meaning_24 ?_
    refine ax_iload_n (pc := 27) C d_MM_meaning_27 rfl 1 rfl ?_
    obtain ⟨hb, h⟩ := it_g h
    refine ml_43 (pc := 28) C d_MM_meaning_28 (bin_in hb) ?_
    refine ax_if_ne (pc := 29) C 34 d_MM_meaning_29 (by decide) (fun hc => ?_) (fun hc => ?_)
    · have h := it_f hc h
      refine ax_aload_n (pc := 34) C d_MM_meaning_34 rfl 0 rfl ?_
      refine ax_aload_n (pc := 35) C d_MM_meaning_35 rfl 0 rfl ?_
      refine mg_391 (pc := 36) C d_MM_meaning_36 ?_
      refine ax_aload_n (pc := 39) C d_MM_meaning_39 rfl 0 rfl ?_
      refine mg_145 (pc := 40) C d_MM_meaning_40 ?_
      refine ax_iload_n (pc := 43) C d_MM_meaning_43 rfl 1 rfl ?_
      obtain ⟨hb, h⟩ := it_g h
      refine ml_43 (pc := 44) C d_MM_meaning_44 (bin_in hb) ?_
      obtain ⟨σ1, r1, d1_1, d2_1, h1, h, hd2, hd1⟩ := it_b h
      have hm : s_267 l D kA z v σ [(σ.1 124), (σ.2.1 43 (Int32.toNatClampNeg x0))] (σ1, r1, d1_1) := ih 267 _ _ _ h1
      refine mc_Vi (pc := 45) C (As := [.int (σ.1 124), .int (σ.2.1 43 (Int32.toNatClampNeg x0))]) (rest := []) (hm _ _ rfl) ml_MM_780 d_MM_meaning_45 rfl rfl (by dsimp only; omega) (by dsimp only; omega) (Nat.le_of_ble_eq_true rfl) (Nat.le_of_ble_eq_true rfl) (Nat.le_of_ble_eq_true rfl) ?_
      have hF : d2_1 + 1 ≤ F := by omega
      have hLo : 64 * d2_1 + 64 ≤ Lo := by omega
      refine ax_istore_n (pc := 48) C d_MM_meaning_48 rfl (Nat.le_of_ble_eq_true rfl) ([(2, .int r1), (0, .ref z), (1, .int x0)]) rfl ?_
      refine ax_aload_n (pc := 49) C d_MM_meaning_49 rfl 1 rfl ?_
      refine mg_148 (pc := 50) C d_MM_meaning_50 ?_
      refine ax_iload_n (pc := 53) C d_MM_meaning_53 rfl 2 rfl ?_
      obtain ⟨hb, h⟩ := it_g h
      refine ml_44 (pc := 54) C d_MM_meaning_54 (bin_in hb) ?_
      refine ax_istore_n (pc := 55) C d_MM_meaning_55 rfl (Nat.le_of_ble_eq_true rfl) ([(3, .int (σ1.2.1 44 (Int32.toNatClampNeg x0))), (2, .int r1), (0, .ref z), (1, .int x0)]) rfl ?_
      refine ax_ls ([(0, .ref z), (1, .int x0), (2, .int r1), (3, .int (σ1.2.1 44 (Int32.toNatClampNeg x0)))]) [2, 3, 1, 0] rfl ?_
      have hm : s_265 l D kA z v σ1 [x0, r1, (σ1.2.1 44 (Int32.toNatClampNeg x0))] (σf, rf, _) := ih 265 _ _ _ h
      exact hm _ _ _ rfl p e s m args below meth c F Lo σ0 hF hLo C
    · have h := it_t hc h
      refine ax_iconst (pc := 32) C 1 d_MM_meaning_32 (by decide +kernel) ?_
      cases h
      exact ax_iret (pc := 33) C d_MM_meaning_33 ⟨rfl, rfl⟩ (Nat.le_refl _) (Nat.le_refl _)
  · have h := it_f hc h
    refine ax_aload_n (pc := 9) C d_MM_meaning_9 rfl 0 rfl ?_
    refine mg_397 (pc := 10) C d_MM_meaning_10 ?_
    refine ax_iconst (pc := 13) C (-1) d_MM_meaning_13 (by decide +kernel) ?_
    refine ax_aload_n (pc := 14) C d_MM_meaning_14 rfl 0 rfl ?_
    refine mg_145 (pc := 15) C d_MM_meaning_15 ?_
    refine ax_iload_n (pc := 18) C d_MM_meaning_18 rfl 1 rfl ?_
    obtain ⟨hb, h⟩ := it_g h
    refine ml_43 (pc := 19) C d_MM_meaning_19 (bin_in hb) ?_
    refine ax_isub (pc := 20) C d_MM_meaning_20 ?_
    obtain ⟨hb, h⟩ := it_g h
    refine ml_126 (pc := 21) C d_MM_meaning_21 (bin_in hb) ?_
    cases h
    exact ax_iret (pc := 22) C d_MM_meaning_22 ⟨rfl, rfl⟩ (Nat.le_refl _) (Nat.le_refl _)
set_option maxHeartbeats 4000000 in
set_option maxRecDepth 100000 in
theorem o_265 (l : Launch) (D : va_G) (kA : Nat → ClassId) (z : Nat) (v : Nat → Nat) (rec : mF) (ih : ∀ t σ xs res, rec t σ xs = some res → mSem l D kA z v t σ xs res) (σ : mS) (xs : List Int32) (res : mR) (h : k_265 rec σ xs = some res) : s_265 l D kA z v σ xs res := by
  intro x0 x1 x2 hxs
  subst hxs
  obtain ⟨σf, rf, dd⟩ := res
  have h : (if x2 < 0 then (if bin x0 420000 = true then (if bin (σ.2.1 43 (Int32.toNatClampNeg x0)) 900 = true then (if (σ.2.1 49 (Int32.toNatClampNeg (σ.2.1 43 (Int32.toNatClampNeg x0)))) = 0 then (if (σ.1 125) = 0 then none else (rec 266 σ [x0, ((((((x1 : Int32) ^^^ (((x1 : Int32).toUInt32 >>> ((15 : Int32).toUInt32 &&& Int32.toUInt32 31)).toInt32)) : Int32) * 739982445) : Int32) ^^^ (((((((x1 : Int32) ^^^ (((x1 : Int32).toUInt32 >>> ((15 : Int32).toUInt32 &&& Int32.toUInt32 31)).toInt32)) : Int32) * 739982445) : Int32).toUInt32 >>> ((12 : Int32).toUInt32 &&& Int32.toUInt32 31)).toInt32)), x2, (((((((((x1 : Int32) ^^^ (((x1 : Int32).toUInt32 >>> ((15 : Int32).toUInt32 &&& Int32.toUInt32 31)).toInt32)) : Int32) * 739982445) : Int32) ^^^ (((((((x1 : Int32) ^^^ (((x1 : Int32).toUInt32 >>> ((15 : Int32).toUInt32 &&& Int32.toUInt32 31)).toInt32)) : Int32) * 739982445) : Int32).toUInt32 >>> ((12 : Int32).toUInt32 &&& Int32.toUInt32 31)).toInt32)) : Int32) &&& 2147483647) - ((((((((x1 : Int32) ^^^ (((x1 : Int32).toUInt32 >>> ((15 : Int32).toUInt32 &&& Int32.toUInt32 31)).toInt32)) : Int32) * 739982445) : Int32) ^^^ (((((((x1 : Int32) ^^^ (((x1 : Int32).toUInt32 >>> ((15 : Int32).toUInt32 &&& Int32.toUInt32 31)).toInt32)) : Int32) * 739982445) : Int32).toUInt32 >>> ((12 : Int32).toUInt32 &&& Int32.toUInt32 31)).toInt32)) : Int32) &&& 2147483647) / (σ.1 125) * (σ.1 125))])) else (rec 266 σ [x0, ((((((x1 : Int32) ^^^ (((x1 : Int32).toUInt32 >>> ((15 : Int32).toUInt32 &&& Int32.toUInt32 31)).toInt32)) : Int32) * 739982445) : Int32) ^^^ (((((((x1 : Int32) ^^^ (((x1 : Int32).toUInt32 >>> ((15 : Int32).toUInt32 &&& Int32.toUInt32 31)).toInt32)) : Int32) * 739982445) : Int32).toUInt32 >>> ((12 : Int32).toUInt32 &&& Int32.toUInt32 31)).toInt32)), x2, ((((((((x1 : Int32) ^^^ (((x1 : Int32).toUInt32 >>> ((15 : Int32).toUInt32 &&& Int32.toUInt32 31)).toInt32)) : Int32) * 739982445) : Int32) ^^^ (((((((x1 : Int32) ^^^ (((x1 : Int32).toUInt32 >>> ((15 : Int32).toUInt32 &&& Int32.toUInt32 31)).toInt32)) : Int32) * 739982445) : Int32).toUInt32 >>> ((12 : Int32).toUInt32 &&& Int32.toUInt32 31)).toInt32)) : Int32) &&& 1)])) else none) else none) else (bnd (rec 264 σ [x2]) (fun σ1 r1 => bnd (rec 267 σ1 [x1, r1]) (fun σ2 r2 => if bin x2 420000 = true then (rec 265 σ2 [x0, r2, (σ2.2.1 45 (Int32.toNatClampNeg x2))]) else none)))) = some (σf, rf, dd) := h
  intro p e s m args below meth c F Lo σ0 hF hLo C
  dsimp only at hF hLo ⊢
  refine ax_iload_n (pc := 56) C d_MM_meaning_56 rfl 3 rfl ?_
  refine ax_if_lt (pc := 57) C 81 d_MM_meaning_57 (by decide) (fun hc => ?_) (fun hc => ?_)
  · have h := it_t hc h
    refine ax_iload_n (pc := 81) C d_MM_meaning_81 rfl 2 rfl ?_
    refine ax_iload_n (pc := 82) C d_MM_meaning_82 rfl 2 rfl ?_
    refine ax_bipush (pc := 83) C 15 d_MM_meaning_83 (by decide +kernel) ?_
    refine ax_iushr (pc := 85) C (((x1 : Int32).toUInt32 >>> ((15 : Int32).toUInt32 &&& Int32.toUInt32 31)).toInt32) d_MM_meaning_85 rfl ?_
    refine ax_ixor (pc := 86) C d_MM_meaning_86 ?_
    refine ax_ldcw (pc := 87) C tb_constant_2470 d_MM_meaning_87 ?_
    refine ax_imul (pc := 90) C d_MM_meaning_90 ?_
    refine ax_istore_n (pc := 91) C d_MM_meaning_91 rfl (Nat.le_of_ble_eq_true rfl) ([(2, .int ((((x1 : Int32) ^^^ (((x1 : Int32).toUInt32 >>> ((15 : Int32).toUInt32 &&& Int32.toUInt32 31)).toInt32)) : Int32) * 739982445)), (0, .ref z), (1, .int x0), (3, .int x2)]) rfl ?_
    refine ax_iload_n (pc := 92) C d_MM_meaning_92 rfl 0 rfl ?_
    refine ax_iload_n (pc := 93) C d_MM_meaning_93 rfl 0 rfl ?_
    refine ax_bipush (pc := 94) C 12 d_MM_meaning_94 (by decide +kernel) ?_
    refine ax_iushr (pc := 96) C (((((((x1 : Int32) ^^^ (((x1 : Int32).toUInt32 >>> ((15 : Int32).toUInt32 &&& Int32.toUInt32 31)).toInt32)) : Int32) * 739982445) : Int32).toUInt32 >>> ((12 : Int32).toUInt32 &&& Int32.toUInt32 31)).toInt32) d_MM_meaning_96 rfl ?_
    refine ax_ixor (pc := 97) C d_MM_meaning_97 ?_
    refine ax_istore_n (pc := 98) C d_MM_meaning_98 rfl (Nat.le_of_ble_eq_true rfl) ([(2, .int ((((((x1 : Int32) ^^^ (((x1 : Int32).toUInt32 >>> ((15 : Int32).toUInt32 &&& Int32.toUInt32 31)).toInt32)) : Int32) * 739982445) : Int32) ^^^ (((((((x1 : Int32) ^^^ (((x1 : Int32).toUInt32 >>> ((15 : Int32).toUInt32 &&& Int32.toUInt32 31)).toInt32)) : Int32) * 739982445) : Int32).toUInt32 >>> ((12 : Int32).toUInt32 &&& Int32.toUInt32 31)).toInt32))), (0, .ref z), (1, .int x0), (3, .int x2)]) rfl ?_
    refine ax_aload_n (pc := 99) C d_MM_meaning_99 rfl 1 rfl ?_
    refine mg_163 (pc := 100) C d_MM_meaning_100 ?_
    refine ax_aload_n (pc := 103) C d_MM_meaning_103 rfl 1 rfl ?_
    refine mg_145 (pc := 104) C d_MM_meaning_104 ?_
    refine ax_iload_n (pc := 107) C d_MM_meaning_107 rfl 2 rfl ?_
    obtain ⟨hb, h⟩ := it_g h
    refine ml_43 (pc := 108) C d_MM_meaning_108 (bin_in hb) ?_
    obtain ⟨hb, h⟩ := it_g h
    refine ml_49 (pc := 109) C d_MM_meaning_109 (bin_in hb) ?_
    refine ax_if_eq (pc := 110) C 119 d_MM_meaning_110 (by decide) (fun hc => ?_) (fun hc => ?_)
    · have h := it_t hc h
      refine ax_iload_n (pc := 119) C d_MM_meaning_119 rfl 0 rfl ?_
      refine ax_ldcw (pc := 120) C tb_constant_2471 d_MM_meaning_120 ?_
      refine ax_iand (pc := 123) C d_MM_meaning_123 ?_
      refine ax_aload_n (pc := 124) C d_MM_meaning_124 rfl 1 rfl ?_
      refine mg_394 (pc := 125) C d_MM_meaning_125 ?_
      obtain ⟨hz, h⟩ := it_n h
      refine ax_irem (pc := 128) C d_MM_meaning_128 hz ?_
      refine ax_ls ([(0, .ref z), (1, .int x0), (2, .int ((((((x1 : Int32) ^^^ (((x1 : Int32).toUInt32 >>> ((15 : Int32).toUInt32 &&& Int32.toUInt32 31)).toInt32)) : Int32) * 739982445) : Int32) ^^^ (((((((x1 : Int32) ^^^ (((x1 : Int32).toUInt32 >>> ((15 : Int32).toUInt32 &&& Int32.toUInt32 31)).toInt32)) : Int32) * 739982445) : Int32).toUInt32 >>> ((12 : Int32).toUInt32 &&& Int32.toUInt32 31)).toInt32))), (3, .int x2)]) [1, 2, 0, 3] rfl ?_
      have hm : s_266 l D kA z v σ [x0, ((((((x1 : Int32) ^^^ (((x1 : Int32).toUInt32 >>> ((15 : Int32).toUInt32 &&& Int32.toUInt32 31)).toInt32)) : Int32) * 739982445) : Int32) ^^^ (((((((x1 : Int32) ^^^ (((x1 : Int32).toUInt32 >>> ((15 : Int32).toUInt32 &&& Int32.toUInt32 31)).toInt32)) : Int32) * 739982445) : Int32).toUInt32 >>> ((12 : Int32).toUInt32 &&& Int32.toUInt32 31)).toInt32)), x2, (((((((((x1 : Int32) ^^^ (((x1 : Int32).toUInt32 >>> ((15 : Int32).toUInt32 &&& Int32.toUInt32 31)).toInt32)) : Int32) * 739982445) : Int32) ^^^ (((((((x1 : Int32) ^^^ (((x1 : Int32).toUInt32 >>> ((15 : Int32).toUInt32 &&& Int32.toUInt32 31)).toInt32)) : Int32) * 739982445) : Int32).toUInt32 >>> ((12 : Int32).toUInt32 &&& Int32.toUInt32 31)).toInt32)) : Int32) &&& 2147483647) - ((((((((x1 : Int32) ^^^ (((x1 : Int32).toUInt32 >>> ((15 : Int32).toUInt32 &&& Int32.toUInt32 31)).toInt32)) : Int32) * 739982445) : Int32) ^^^ (((((((x1 : Int32) ^^^ (((x1 : Int32).toUInt32 >>> ((15 : Int32).toUInt32 &&& Int32.toUInt32 31)).toInt32)) : Int32) * 739982445) : Int32).toUInt32 >>> ((12 : Int32).toUInt32 &&& Int32.toUInt32 31)).toInt32)) : Int32) &&& 2147483647) / (σ.1 125) * (σ.1 125))] (σf, rf, _) := ih 266 _ _ _ h
      exact hm _ _ _ _ rfl p e s m args below meth c F Lo σ0 hF hLo C
    · have h := it_f hc h
      refine ax_iload_n (pc := 113) C d_MM_meaning_113 rfl 0 rfl ?_
      refine ax_iconst (pc := 114) C 1 d_MM_meaning_114 (by decide +kernel) ?_
      refine ax_iand (pc := 115) C d_MM_meaning_115 ?_
      refine ax_goto (pc := 116) C 129 d_MM_meaning_116 (by decide) ?_
      refine ax_ls ([(0, .ref z), (1, .int x0), (2, .int ((((((x1 : Int32) ^^^ (((x1 : Int32).toUInt32 >>> ((15 : Int32).toUInt32 &&& Int32.toUInt32 31)).toInt32)) : Int32) * 739982445) : Int32) ^^^ (((((((x1 : Int32) ^^^ (((x1 : Int32).toUInt32 >>> ((15 : Int32).toUInt32 &&& Int32.toUInt32 31)).toInt32)) : Int32) * 739982445) : Int32).toUInt32 >>> ((12 : Int32).toUInt32 &&& Int32.toUInt32 31)).toInt32))), (3, .int x2)]) [1, 2, 0, 3] rfl ?_
      have hm : s_266 l D kA z v σ [x0, ((((((x1 : Int32) ^^^ (((x1 : Int32).toUInt32 >>> ((15 : Int32).toUInt32 &&& Int32.toUInt32 31)).toInt32)) : Int32) * 739982445) : Int32) ^^^ (((((((x1 : Int32) ^^^ (((x1 : Int32).toUInt32 >>> ((15 : Int32).toUInt32 &&& Int32.toUInt32 31)).toInt32)) : Int32) * 739982445) : Int32).toUInt32 >>> ((12 : Int32).toUInt32 &&& Int32.toUInt32 31)).toInt32)), x2, ((((((((x1 : Int32) ^^^ (((x1 : Int32).toUInt32 >>> ((15 : Int32).toUInt32 &&& Int32.toUInt32 31)).toInt32)) : Int32) * 739982445) : Int32) ^^^ (((((((x1 : Int32) ^^^ (((x1 : Int32).toUInt32 >>> ((15 : Int32).toUInt32 &&& Int32.toUInt32 31)).toInt32)) : Int32) * 739982445) : Int32).toUInt32 >>> ((12 : Int32).toUInt32 &&& Int32.toUInt32 31)).toInt32)) : Int32) &&& 1)] (σf, rf, _) := ih 266 _ _ _ h
      exact hm _ _ _ _ rfl p e s m args below meth c F Lo σ0 hF hLo C
  · have h := it_f hc h
    refine ax_aload_n (pc := 60) C d_MM_meaning_60 rfl 0 rfl ?_
    refine ax_iload_n (pc := 61) C d_MM_meaning_61 rfl 2 rfl ?_
    refine ax_aload_n (pc := 62) C d_MM_meaning_62 rfl 0 rfl ?_
    refine ax_iload_n (pc := 63) C d_MM_meaning_63 rfl 3 rfl ?_
    obtain ⟨σ1, r1, d1_1, d2_1, h1, h, hd2, hd1⟩ := it_b h
    have hm : s_264 l D kA z v σ [x2] (σ1, r1, d1_1) := ih 264 _ _ _ h1
    refine mc_Vi (pc := 64) C (As := [.int x2]) (rest := [.int x1, .ref z]) (hm _ rfl) ml_MM_783 d_MM_meaning_64 rfl rfl (by dsimp only; omega) (by dsimp only; omega) (Nat.le_of_ble_eq_true rfl) (Nat.le_of_ble_eq_true rfl) (Nat.le_of_ble_eq_true rfl) ?_
    have hF : d2_1 + 1 ≤ F := by omega
    have hLo : 64 * d2_1 + 64 ≤ Lo := by omega
    obtain ⟨σ2, r2, d1_2, d2_2, h1, h, hd2, hd1⟩ := it_b h
    have hm : s_267 l D kA z v σ1 [x1, r1] (σ2, r2, d1_2) := ih 267 _ _ _ h1
    refine mc_Vi (pc := 67) C (As := [.int x1, .int r1]) (rest := []) (hm _ _ rfl) ml_MM_780 d_MM_meaning_67 rfl rfl (by dsimp only; omega) (by dsimp only; omega) (Nat.le_of_ble_eq_true rfl) (Nat.le_of_ble_eq_true rfl) (Nat.le_of_ble_eq_true rfl) ?_
    have hF : d2_2 + 1 ≤ F := by omega
    have hLo : 64 * d2_2 + 64 ≤ Lo := by omega
    refine ax_istore_n (pc := 70) C d_MM_meaning_70 rfl (Nat.le_of_ble_eq_true rfl) ([(2, .int r2), (0, .ref z), (1, .int x0), (3, .int x2)]) rfl ?_
    refine ax_aload_n (pc := 71) C d_MM_meaning_71 rfl 1 rfl ?_
    refine mg_151 (pc := 72) C d_MM_meaning_72 ?_
    refine ax_iload_n (pc := 75) C d_MM_meaning_75 rfl 3 rfl ?_
    obtain ⟨hb, h⟩ := it_g h
    refine ml_45 (pc := 76) C d_MM_meaning_76 (bin_in hb) ?_
    refine ax_istore_n (pc := 77) C d_MM_meaning_77 rfl (Nat.le_of_ble_eq_true rfl) ([(3, .int (σ2.2.1 45 (Int32.toNatClampNeg x2))), (2, .int r2), (0, .ref z), (1, .int x0)]) rfl ?_
    refine ax_goto (pc := 78) C 56 d_MM_meaning_78 (by decide) ?_
    refine ax_ls ([(0, .ref z), (1, .int x0), (2, .int r2), (3, .int (σ2.2.1 45 (Int32.toNatClampNeg x2)))]) [2, 3, 1, 0] rfl ?_
    have hm : s_265 l D kA z v σ2 [x0, r2, (σ2.2.1 45 (Int32.toNatClampNeg x2))] (σf, rf, _) := ih 265 _ _ _ h
    exact hm _ _ _ rfl p e s m args below meth c F Lo σ0 hF hLo C
set_option maxHeartbeats 4000000 in
set_option maxRecDepth 100000 in
theorem o_266 (l : Launch) (D : va_G) (kA : Nat → ClassId) (z : Nat) (v : Nat → Nat) (rec : mF) (ih : ∀ t σ xs res, rec t σ xs = some res → mSem l D kA z v t σ xs res) (σ : mS) (xs : List Int32) (res : mR) (h : k_266 rec σ xs = some res) : s_266 l D kA z v σ xs res := by
  intro x0 x1 x2 x3 hxs
  subst hxs
  obtain ⟨σf, rf, dd⟩ := res
  have h : (some (σ, x3, 0)) = some (σf, rf, dd) := h
  intro p e s m args below meth c F Lo σ0 hF hLo C
  dsimp only at hF hLo ⊢
  cases h
  exact ax_iret (pc := 129) C d_MM_meaning_129 ⟨rfl, rfl⟩ (Nat.le_refl _) (Nat.le_refl _)
set_option maxHeartbeats 4000000 in
set_option maxRecDepth 100000 in
theorem o_267 (l : Launch) (D : va_G) (kA : Nat → ClassId) (z : Nat) (v : Nat → Nat) (rec : mF) (ih : ∀ t σ xs res, rec t σ xs = some res → mSem l D kA z v t σ xs res) (σ : mS) (xs : List Int32) (res : mR) (h : k_267 rec σ xs = some res) : s_267 l D kA z v σ xs res := by
  intro x0 x1 hxs
  subst hxs
  obtain ⟨σf, rf, dd⟩ := res
  have h : (some (σ, ((((((31 : Int32) * ((x0 : Int32) ^^^ (((x0 : Int32).toUInt32 >>> ((7 : Int32).toUInt32 &&& Int32.toUInt32 31)).toInt32))) : Int32) + x1) : Int32) + 1), 0)) = some (σf, rf, dd) := h
  refine ax_Mi.of (by decide +kernel) (Nat.le_of_ble_eq_true rfl) ?_
  intro p e s m args below meth c C hnm
  have C : ax_C p s m args meth c b_MM_mixed "ClauseProverModel" 3 (some .int) D kA (va_A (mmW kA z v σ) s.heap.size) := C
  obtain ⟨F, hFe⟩ : ∃ F, F = dd + 1 := ⟨_, rfl⟩
  obtain ⟨Lo, hLoe⟩ : ∃ Lo, Lo = 64 * dd + 64 := ⟨_, rfl⟩
  obtain ⟨σ0, hσ0⟩ : ∃ s0, s0 = σ := ⟨_, rfl⟩
  suffices K : AW p l e { frames := F, cells := 0, slots := 0, locals := Lo } s m args below meth c D kA (va_A (mmW kA z v σ0) s.heap.size) 3 (ax_Qi below args s D kA (mmW kA z v σ0) 0 0 (fun r w1 => r = rf ∧ w1 = mmW kA z v σf)) 0 [(0, .ref z), (1, .int x0), (2, .int x1)] [] (mmW kA z v σ) 0 0 by rw [hFe, hLoe, hσ0] at K; exact ax_ls ([(0, .ref z), (1, .int x0), (2, .int x1)]) [0, 1, 2] rfl K
  have C : ax_C p s m args meth c b_MM_mixed "ClauseProverModel" 3 (some .int) D kA (va_A (mmW kA z v σ0) s.heap.size) := by rw [hσ0]; exact C
  have hF : dd + 1 ≤ F := by omega
  have hLo : 64 * dd + 64 ≤ Lo := by omega
  clear hFe hLoe hσ0
  refine ax_bipush (pc := 0) C 31 d_MM_mixed_0 (by decide +kernel) ?_
  refine ax_iload_n (pc := 2) C d_MM_mixed_2 rfl 1 rfl ?_
  refine ax_iload_n (pc := 3) C d_MM_mixed_3 rfl 1 rfl ?_
  refine ax_bipush (pc := 4) C 7 d_MM_mixed_4 (by decide +kernel) ?_
  refine ax_iushr (pc := 6) C (((x0 : Int32).toUInt32 >>> ((7 : Int32).toUInt32 &&& Int32.toUInt32 31)).toInt32) d_MM_mixed_6 rfl ?_
  refine ax_ixor (pc := 7) C d_MM_mixed_7 ?_
  refine ax_imul (pc := 8) C d_MM_mixed_8 ?_
  refine ax_iload_n (pc := 9) C d_MM_mixed_9 rfl 2 rfl ?_
  refine ax_iadd (pc := 10) C d_MM_mixed_10 ?_
  refine ax_iconst (pc := 11) C 1 d_MM_mixed_11 (by decide +kernel) ?_
  refine ax_iadd (pc := 12) C d_MM_mixed_12 ?_
  cases h
  exact ax_iret (pc := 13) C d_MM_mixed_13 ⟨rfl, rfl⟩ (Nat.le_refl _) (Nat.le_refl _)
set_option maxHeartbeats 4000000 in
set_option maxRecDepth 100000 in
theorem o_268 (l : Launch) (D : va_G) (kA : Nat → ClassId) (z : Nat) (v : Nat → Nat) (rec : mF) (ih : ∀ t σ xs res, rec t σ xs = some res → mSem l D kA z v t σ xs res) (σ : mS) (xs : List Int32) (res : mR) (h : k_268 rec σ xs = some res) : s_268 l D kA z v σ xs res := by
  intro x0 x1 x2 hxs
  subst hxs
  obtain ⟨σf, rf, dd⟩ := res
  have h : (lt_ (mI σ 4 0) (fun σ1 => if x1 < 1 then (rec 269 σ1 [x0, x1, x2, 1]) else (if 3 < x1 then (rec 269 σ1 [x0, x1, x2, 1]) else (if x2 < 1 then (rec 269 σ1 [x0, x1, x2, 1]) else (if x2 ≤ 50 then (rec 270 σ1 [x0, x1, x2, 0, 1]) else (rec 269 σ1 [x0, x1, x2, 1])))))) = some (σf, rf, dd) := h
  refine ax_Mi.of (by decide +kernel) (Nat.le_of_ble_eq_true rfl) ?_
  intro p e s m args below meth c C hnm
  have C : ax_C p s m args meth c b_MM_search "ClauseProverModel" 5 (some .int) D kA (va_A (mmW kA z v σ) s.heap.size) := C
  obtain ⟨F, hFe⟩ : ∃ F, F = dd + 1 := ⟨_, rfl⟩
  obtain ⟨Lo, hLoe⟩ : ∃ Lo, Lo = 64 * dd + 64 := ⟨_, rfl⟩
  obtain ⟨σ0, hσ0⟩ : ∃ s0, s0 = σ := ⟨_, rfl⟩
  suffices K : AW p l e { frames := F, cells := 0, slots := 0, locals := Lo } s m args below meth c D kA (va_A (mmW kA z v σ0) s.heap.size) 5 (ax_Qi below args s D kA (mmW kA z v σ0) 0 0 (fun r w1 => r = rf ∧ w1 = mmW kA z v σf)) 0 [(0, .ref z), (1, .int x0), (2, .int x1), (3, .int x2)] [] (mmW kA z v σ) 0 0 by rw [hFe, hLoe, hσ0] at K; exact ax_ls ([(0, .ref z), (1, .int x0), (2, .int x1), (3, .int x2)]) [0, 1, 2, 3] rfl K
  have C : ax_C p s m args meth c b_MM_search "ClauseProverModel" 5 (some .int) D kA (va_A (mmW kA z v σ0) s.heap.size) := by rw [hσ0]; exact C
  have hF : dd + 1 ≤ F := by omega
  have hLo : 64 * dd + 64 ≤ Lo := by omega
  clear hFe hLoe hσ0
  refine ax_aload_n (pc := 0) C d_MM_search_0 rfl 0 rfl ?_
  refine ax_iconst (pc := 1) C 0 d_MM_search_1 (by decide +kernel) ?_
  refine mp_24 (pc := 2) C d_MM_search_2 ?_
  have h := it_l h
  generalize mI σ 4 0 = σ1 at h ⊢
  refine ax_aload_n (pc := 5) C d_MM_search_5 rfl 0 rfl ?_
  refine ax_iconst (pc := 6) C 1 d_MM_search_6 (by decide +kernel) ?_
  refine ax_iload_n (pc := 7) C d_MM_search_7 rfl 2 rfl ?_
  refine ax_iconst (pc := 8) C 1 d_MM_search_8 (by decide +kernel) ?_
  refine ax_icmp_lt (pc := 9) C 28 d_MM_search_9 (by decide) (fun hc => ?_) (fun hc => ?_)
  · have h := it_t hc h
    refine ax_ls ([(0, .ref z), (1, .int x0), (2, .int x1), (3, .int x2)]) [0, 1, 2, 3] rfl ?_
    have hm : s_269 l D kA z v σ1 [x0, x1, x2, 1] (σf, rf, _) := ih 269 _ _ _ h
    exact hm _ _ _ _ rfl p e s m args below meth c F Lo σ0 hF hLo C
  · have h := it_f hc h
    refine ax_iload_n (pc := 12) C d_MM_search_12 rfl 2 rfl ?_
    refine ax_iconst (pc := 13) C 3 d_MM_search_13 (by decide +kernel) ?_
    refine ax_icmp_gt (pc := 14) C 28 d_MM_search_14 (by decide) (fun hc => ?_) (fun hc => ?_)
    · have h := it_t hc h
      refine ax_ls ([(0, .ref z), (1, .int x0), (2, .int x1), (3, .int x2)]) [0, 1, 2, 3] rfl ?_
      have hm : s_269 l D kA z v σ1 [x0, x1, x2, 1] (σf, rf, _) := ih 269 _ _ _ h
      exact hm _ _ _ _ rfl p e s m args below meth c F Lo σ0 hF hLo C
    · have h := it_f hc h
      refine ax_iload_n (pc := 17) C d_MM_search_17 rfl 3 rfl ?_
      refine ax_iconst (pc := 18) C 1 d_MM_search_18 (by decide +kernel) ?_
      refine ax_icmp_lt (pc := 19) C 28 d_MM_search_19 (by decide) (fun hc => ?_) (fun hc => ?_)
      · have h := it_t hc h
        refine ax_ls ([(0, .ref z), (1, .int x0), (2, .int x1), (3, .int x2)]) [0, 1, 2, 3] rfl ?_
        have hm : s_269 l D kA z v σ1 [x0, x1, x2, 1] (σf, rf, _) := ih 269 _ _ _ h
        exact hm _ _ _ _ rfl p e s m args below meth c F Lo σ0 hF hLo C
      · have h := it_f hc h
        refine ax_iload_n (pc := 22) C d_MM_search_22 rfl 3 rfl ?_
        refine ax_bipush (pc := 23) C 50 d_MM_search_23 (by decide +kernel) ?_
        refine ax_icmp_le (pc := 25) C 32 d_MM_search_25 (by decide) (fun hc => ?_) (fun hc => ?_)
        · have h := it_t hc h
          refine ax_iconst (pc := 32) C 0 d_MM_search_32 (by decide +kernel) ?_
          refine ax_ls ([(0, .ref z), (1, .int x0), (2, .int x1), (3, .int x2)]) [0, 1, 2, 3] rfl ?_
          have hm : s_270 l D kA z v σ1 [x0, x1, x2, 0, 1] (σf, rf, _) := ih 270 _ _ _ h
          exact hm _ _ _ _ _ rfl p e s m args below meth c F Lo σ0 hF hLo C
        · have h := it_f hc h
          refine ax_ls ([(0, .ref z), (1, .int x0), (2, .int x1), (3, .int x2)]) [0, 1, 2, 3] rfl ?_
          have hm : s_269 l D kA z v σ1 [x0, x1, x2, 1] (σf, rf, _) := ih 269 _ _ _ h
          exact hm _ _ _ _ rfl p e s m args below meth c F Lo σ0 hF hLo C
set_option maxHeartbeats 4000000 in
set_option maxRecDepth 100000 in
theorem o_269 (l : Launch) (D : va_G) (kA : Nat → ClassId) (z : Nat) (v : Nat → Nat) (rec : mF) (ih : ∀ t σ xs res, rec t σ xs = some res → mSem l D kA z v t σ xs res) (σ : mS) (xs : List Int32) (res : mR) (h : k_269 rec σ xs = some res) : s_269 l D kA z v σ xs res := by
  intro x0 x1 x2 x3 hxs
  subst hxs
  obtain ⟨σf, rf, dd⟩ := res
  have h : (rec 270 σ [x0, x1, x2, 1, x3]) = some (σf, rf, dd) := h
  intro p e s m args below meth c F Lo σ0 hF hLo C
  dsimp only at hF hLo ⊢
  refine ax_iconst (pc := 28) C 1 d_MM_search_28 (by decide +kernel) ?_
  refine ax_goto (pc := 29) C 33 d_MM_search_29 (by decide) ?_
  refine ax_ls ([(0, .ref z), (1, .int x0), (2, .int x1), (3, .int x2)]) [0, 1, 2, 3] rfl ?_
  have hm : s_270 l D kA z v σ [x0, x1, x2, 1, x3] (σf, rf, _) := ih 270 _ _ _ h
  exact hm _ _ _ _ _ rfl p e s m args below meth c F Lo σ0 hF hLo C
set_option maxHeartbeats 4000000 in
set_option maxRecDepth 100000 in
theorem o_270 (l : Launch) (D : va_G) (kA : Nat → ClassId) (z : Nat) (v : Nat → Nat) (rec : mF) (ih : ∀ t σ xs res, rec t σ xs = some res → mSem l D kA z v t σ xs res) (σ : mS) (xs : List Int32) (res : mR) (h : k_270 rec σ xs = some res) : s_270 l D kA z v σ xs res := by
  intro x0 x1 x2 x3 x4 hxs
  subst hxs
  obtain ⟨σf, rf, dd⟩ := res
  have h : (bnd (rec 5 σ [x4, x3]) (fun σ1 r1 => if r1 = 0 then (lt_ (mI σ1 125 x1) (fun σ2 => rec 271 σ2 [x0, x1, x2, 0])) else (some (σ1, 0, 0)))) = some (σf, rf, dd) := h
  intro p e s m args below meth c F Lo σ0 hF hLo C
  dsimp only at hF hLo ⊢
  obtain ⟨σ1, r1, d1_1, d2_1, h1, h, hd2, hd1⟩ := it_b h
  have hm : s_5 l D kA z v σ [x4, x3] (σ1, r1, d1_1) := ih 5 _ _ _ h1
  refine mc_Vi (pc := 33) C (As := [.int x4, .int x3]) (rest := []) (hm _ _ rfl) ml_MM_401 d_MM_search_33 rfl rfl (by dsimp only; omega) (by dsimp only; omega) (Nat.le_of_ble_eq_true rfl) (Nat.le_of_ble_eq_true rfl) (Nat.le_of_ble_eq_true rfl) ?_
  have hF : d2_1 + 1 ≤ F := by omega
  have hLo : 64 * d2_1 + 64 ≤ Lo := by omega
  refine ax_if_eq (pc := 36) C 41 d_MM_search_36 (by decide) (fun hc => ?_) (fun hc => ?_)
  · have h := it_t hc h
    refine ax_aload_n (pc := 41) C d_MM_search_41 rfl 0 rfl ?_
    refine ax_iload_n (pc := 42) C d_MM_search_42 rfl 2 rfl ?_
    refine mp_394 (pc := 43) C d_MM_search_43 ?_
    have h := it_l h
    generalize mI σ1 125 x1 = σ2 at h ⊢
    refine ax_iconst (pc := 46) C 0 d_MM_search_46 (by decide +kernel) ?_
    refine ax_istore (pc := 47) C d_MM_search_47 (Nat.le_of_ble_eq_true rfl) ([(4, .int 0), (0, .ref z), (1, .int x0), (2, .int x1), (3, .int x2)]) rfl ?_
    refine ax_ls ([(0, .ref z), (1, .int x0), (2, .int x1), (3, .int x2), (4, .int 0)]) [1, 2, 3, 4, 0] rfl ?_
    have hm : s_271 l D kA z v σ2 [x0, x1, x2, 0] (σf, rf, _) := ih 271 _ _ _ h
    exact hm _ _ _ _ rfl p e s m args below meth c F Lo σ0 hF hLo C
  · have h := it_f hc h
    refine ax_iconst (pc := 39) C 0 d_MM_search_39 (by decide +kernel) ?_
    cases h
    exact ax_iret (pc := 40) C d_MM_search_40 ⟨rfl, rfl⟩ (Nat.le_refl _) (Nat.le_refl _)
set_option maxHeartbeats 4000000 in
set_option maxRecDepth 100000 in
theorem o_271 (l : Launch) (D : va_G) (kA : Nat → ClassId) (z : Nat) (v : Nat → Nat) (rec : mF) (ih : ∀ t σ xs res, rec t σ xs = some res → mSem l D kA z v t σ xs res) (σ : mS) (xs : List Int32) (res : mR) (h : k_271 rec σ xs = some res) : s_271 l D kA z v σ xs res := by
  intro x0 x1 x2 x3 hxs
  subst hxs
  obtain ⟨σf, rf, dd⟩ := res
  have h : (if x2 ≤ x3 then (some (σ, (-1), 0)) else (lt_ (mI σ 124 ((x0 : Int32) + x3)) (fun σ1 => bnd (rec 254 σ1 []) (fun σ2 r2 => if r2 = 0 then (rec 271 σ2 [x0, x1, x2, (x3 + 1)]) else (some (σ2, x3, 0)))))) = some (σf, rf, dd) := h
  intro p e s m args below meth c F Lo σ0 hF hLo C
  dsimp only at hF hLo ⊢
  refine ax_iload (pc := 49) C d_MM_search_49 4 rfl ?_
  refine ax_iload_n (pc := 51) C d_MM_search_51 rfl 3 rfl ?_
  refine ax_icmp_ge (pc := 52) C 79 d_MM_search_52 (by decide) (fun hc => ?_) (fun hc => ?_)
  · have h := it_t hc h
    refine ax_iconst (pc := 79) C (-1) d_MM_search_79 (by decide +kernel) ?_
    cases h
    exact ax_iret (pc := 80) C d_MM_search_80 ⟨rfl, rfl⟩ (Nat.le_refl _) (Nat.le_refl _)
  · have h := it_f hc h
    refine ax_aload_n (pc := 55) C d_MM_search_55 rfl 0 rfl ?_
    refine ax_iload_n (pc := 56) C d_MM_search_56 rfl 1 rfl ?_
    refine ax_iload (pc := 57) C d_MM_search_57 4 rfl ?_
    refine ax_iadd (pc := 59) C d_MM_search_59 ?_
    refine mp_391 (pc := 60) C d_MM_search_60 ?_
    have h := it_l h
    generalize mI σ 124 ((x0 : Int32) + x3) = σ1 at h ⊢
    refine ax_aload_n (pc := 63) C d_MM_search_63 rfl 0 rfl ?_
    obtain ⟨σ2, r2, d1_2, d2_2, h1, h, hd2, hd1⟩ := it_b h
    have hm : s_254 l D kA z v σ1 [] (σ2, r2, d1_2) := ih 254 _ _ _ h1
    refine mc_Vi (pc := 64) C (As := []) (rest := []) (hm rfl) ml_MM_791 d_MM_search_64 rfl rfl (by dsimp only; omega) (by dsimp only; omega) (Nat.le_of_ble_eq_true rfl) (Nat.le_of_ble_eq_true rfl) (Nat.le_of_ble_eq_true rfl) ?_
    have hF : d2_2 + 1 ≤ F := by omega
    have hLo : 64 * d2_2 + 64 ≤ Lo := by omega
    refine ax_if_eq (pc := 67) C 73 d_MM_search_67 (by decide) (fun hc => ?_) (fun hc => ?_)
    · have h := it_t hc h
      refine ax_iinc (pc := 73) C (x3 + 1) d_MM_search_73 4 rfl rfl (Nat.le_of_ble_eq_true rfl) ([(4, .int (x3 + 1)), (0, .ref z), (1, .int x0), (2, .int x1), (3, .int x2)]) rfl ?_
      refine ax_goto (pc := 76) C 49 d_MM_search_76 (by decide) ?_
      refine ax_ls ([(0, .ref z), (1, .int x0), (2, .int x1), (3, .int x2), (4, .int (x3 + 1))]) [1, 2, 3, 4, 0] rfl ?_
      have hm : s_271 l D kA z v σ2 [x0, x1, x2, (x3 + 1)] (σf, rf, _) := ih 271 _ _ _ h
      exact hm _ _ _ _ rfl p e s m args below meth c F Lo σ0 hF hLo C
    · have h := it_f hc h
      refine ax_iload (pc := 70) C d_MM_search_70 4 rfl ?_
      cases h
      exact ax_iret (pc := 72) C d_MM_search_72 ⟨rfl, rfl⟩ (Nat.le_refl _) (Nat.le_refl _)
set_option maxHeartbeats 4000000 in
set_option maxRecDepth 100000 in
theorem o_272 (l : Launch) (D : va_G) (kA : Nat → ClassId) (z : Nat) (v : Nat → Nat) (rec : mF) (ih : ∀ t σ xs res, rec t σ xs = some res → mSem l D kA z v t σ xs res) (σ : mS) (xs : List Int32) (res : mR) (h : k_272 rec σ xs = some res) : s_272 l D kA z v σ xs res := by
  intro x0 hxs
  subst hxs
  obtain ⟨σf, rf, dd⟩ := res
  have h : (lt_ (mI σ 4 0) (fun σ1 => if (x0 : Int32).toInt < 0 ∨ 13 < (x0 : Int32).toInt then (some (σ1, (-1), 0)) else (if (x0 : Int32) = 0 then (some (σ1, (σ1.1 84), 0)) else (if (x0 : Int32) = 1 then (some (σ1, (σ1.1 85), 0)) else (if (x0 : Int32) = 2 then (bnd (rec 273 σ1 [0]) (fun σ2 r2 => some (σ2, r2, 0))) else (if (x0 : Int32) = 3 then (bnd (rec 273 σ1 [1]) (fun σ3 r3 => some (σ3, r3, 0))) else (if (x0 : Int32) = 4 then (some (σ1, (σ1.1 89), 0)) else (if (x0 : Int32) = 5 then (some (σ1, (σ1.1 90), 0)) else (if (x0 : Int32) = 6 then (some (σ1, (σ1.1 91), 0)) else (if (x0 : Int32) = 7 then (some (σ1, (σ1.1 92), 0)) else (if (x0 : Int32) = 8 then (some (σ1, (σ1.1 93), 0)) else (if (x0 : Int32) = 9 then (some (σ1, (σ1.1 94), 0)) else (if (x0 : Int32) = 10 then (some (σ1, (σ1.1 87), 0)) else (if (x0 : Int32) = 11 then (some (σ1, (σ1.1 19), 0)) else (if (x0 : Int32) = 12 then (some (σ1, (σ1.1 2), 0)) else (some (σ1, (σ1.1 3), 0))))))))))))))))) = some (σf, rf, dd) := h
  refine ax_Mi.of (by decide +kernel) (Nat.le_of_ble_eq_true rfl) ?_
  intro p e s m args below meth c C hnm
  have C : ax_C p s m args meth c b_MM_count1 "ClauseProverModel" 2 (some .int) D kA (va_A (mmW kA z v σ) s.heap.size) := C
  obtain ⟨F, hFe⟩ : ∃ F, F = dd + 1 := ⟨_, rfl⟩
  obtain ⟨Lo, hLoe⟩ : ∃ Lo, Lo = 64 * dd + 64 := ⟨_, rfl⟩
  obtain ⟨σ0, hσ0⟩ : ∃ s0, s0 = σ := ⟨_, rfl⟩
  suffices K : AW p l e { frames := F, cells := 0, slots := 0, locals := Lo } s m args below meth c D kA (va_A (mmW kA z v σ0) s.heap.size) 2 (ax_Qi below args s D kA (mmW kA z v σ0) 0 0 (fun r w1 => r = rf ∧ w1 = mmW kA z v σf)) 0 [(0, .ref z), (1, .int x0)] [] (mmW kA z v σ) 0 0 by rw [hFe, hLoe, hσ0] at K; exact ax_ls ([(0, .ref z), (1, .int x0)]) [0, 1] rfl K
  have C : ax_C p s m args meth c b_MM_count1 "ClauseProverModel" 2 (some .int) D kA (va_A (mmW kA z v σ0) s.heap.size) := by rw [hσ0]; exact C
  have hF : dd + 1 ≤ F := by omega
  have hLo : 64 * dd + 64 ≤ Lo := by omega
  clear hFe hLoe hσ0
  refine ax_aload_n (pc := 0) C d_MM_count1_0 rfl 0 rfl ?_
  refine ax_iconst (pc := 1) C 0 d_MM_count1_1 (by decide +kernel) ?_
  refine mp_24 (pc := 2) C d_MM_count1_2 ?_
  have h := it_l h
  generalize mI σ 4 0 = σ1 at h ⊢
  refine ax_iload_n (pc := 5) C d_MM_count1_5 rfl 1 rfl ?_
  by_cases hr : (x0 : Int32).toInt < 0 ∨ 13 < (x0 : Int32).toInt
  · have h := it_t hr h
    refine ax_tableOut (pc := 6) C 148 d_MM_count1_6 hr (by decide) ?_
    refine ax_iconst (pc := 148) C (-1) d_MM_count1_148 (by decide +kernel) ?_
    cases h
    exact ax_iret (pc := 149) C d_MM_count1_149 ⟨rfl, rfl⟩ (Nat.le_refl _) (Nat.le_refl _)
  · have h := it_f hr h
    by_cases hv : (x0 : Int32) = 0
    · have h := it_t hv h
      refine ax_tableIn (pc := 6) C 76 d_MM_count1_6 (by omega) (by omega) (by rw [hv]; rfl) (by decide) ?_
      refine ax_aload_n (pc := 76) C d_MM_count1_76 rfl 0 rfl ?_
      refine mg_269 (pc := 77) C d_MM_count1_77 ?_
      cases h
      exact ax_iret (pc := 80) C d_MM_count1_80 ⟨rfl, rfl⟩ (Nat.le_refl _) (Nat.le_refl _)
    · have h := it_f hv h
      have hn0 : ¬ (x0 : Int32).toInt = 0 := fun q => hv (i32q (by rw [q]; rfl))
      by_cases hv : (x0 : Int32) = 1
      · have h := it_t hv h
        refine ax_tableIn (pc := 6) C 81 d_MM_count1_6 (by omega) (by omega) (by rw [hv]; rfl) (by decide) ?_
        refine ax_aload_n (pc := 81) C d_MM_count1_81 rfl 0 rfl ?_
        refine mg_272 (pc := 82) C d_MM_count1_82 ?_
        cases h
        exact ax_iret (pc := 85) C d_MM_count1_85 ⟨rfl, rfl⟩ (Nat.le_refl _) (Nat.le_refl _)
      · have h := it_f hv h
        have hn1 : ¬ (x0 : Int32).toInt = 1 := fun q => hv (i32q (by rw [q]; rfl))
        by_cases hv : (x0 : Int32) = 2
        · have h := it_t hv h
          refine ax_tableIn (pc := 6) C 86 d_MM_count1_6 (by omega) (by omega) (by rw [hv]; rfl) (by decide) ?_
          refine ax_aload_n (pc := 86) C d_MM_count1_86 rfl 0 rfl ?_
          refine ax_iconst (pc := 87) C 0 d_MM_count1_87 (by decide +kernel) ?_
          obtain ⟨σ2, r2, d1_2, d2_2, h1, h, hd2, hd1⟩ := it_b h
          have hm : s_273 l D kA z v σ1 [0] (σ2, r2, d1_2) := ih 273 _ _ _ h1
          refine mc_Vi (pc := 88) C (As := [.int 0]) (rest := []) (hm _ rfl) ml_MM_794 d_MM_count1_88 rfl rfl (by dsimp only; omega) (by dsimp only; omega) (Nat.le_of_ble_eq_true rfl) (Nat.le_of_ble_eq_true rfl) (Nat.le_of_ble_eq_true rfl) ?_
          have hF : d2_2 + 1 ≤ F := by omega
          have hLo : 64 * d2_2 + 64 ≤ Lo := by omega
          cases h
          exact ax_iret (pc := 91) C d_MM_count1_91 ⟨rfl, rfl⟩ (Nat.le_refl _) (Nat.le_refl _)
        · have h := it_f hv h
          have hn2 : ¬ (x0 : Int32).toInt = 2 := fun q => hv (i32q (by rw [q]; rfl))
          by_cases hv : (x0 : Int32) = 3
          · have h := it_t hv h
            refine ax_tableIn (pc := 6) C 92 d_MM_count1_6 (by omega) (by omega) (by rw [hv]; rfl) (by decide) ?_
            refine ax_aload_n (pc := 92) C d_MM_count1_92 rfl 0 rfl ?_
            refine ax_iconst (pc := 93) C 1 d_MM_count1_93 (by decide +kernel) ?_
            obtain ⟨σ3, r3, d1_3, d2_3, h1, h, hd2, hd1⟩ := it_b h
            have hm : s_273 l D kA z v σ1 [1] (σ3, r3, d1_3) := ih 273 _ _ _ h1
            refine mc_Vi (pc := 94) C (As := [.int 1]) (rest := []) (hm _ rfl) ml_MM_794 d_MM_count1_94 rfl rfl (by dsimp only; omega) (by dsimp only; omega) (Nat.le_of_ble_eq_true rfl) (Nat.le_of_ble_eq_true rfl) (Nat.le_of_ble_eq_true rfl) ?_
            have hF : d2_3 + 1 ≤ F := by omega
            have hLo : 64 * d2_3 + 64 ≤ Lo := by omega
            cases h
            exact ax_iret (pc := 97) C d_MM_count1_97 ⟨rfl, rfl⟩ (Nat.le_refl _) (Nat.le_refl _)
          · have h := it_f hv h
            have hn3 : ¬ (x0 : Int32).toInt = 3 := fun q => hv (i32q (by rw [q]; rfl))
            by_cases hv : (x0 : Int32) = 4
            · have h := it_t hv h
              refine ax_tableIn (pc := 6) C 98 d_MM_count1_6 (by omega) (by omega) (by rw [hv]; rfl) (by decide) ?_
              refine ax_aload_n (pc := 98) C d_MM_count1_98 rfl 0 rfl ?_
              refine mg_284 (pc := 99) C d_MM_count1_99 ?_
              cases h
              exact ax_iret (pc := 102) C d_MM_count1_102 ⟨rfl, rfl⟩ (Nat.le_refl _) (Nat.le_refl _)
            · have h := it_f hv h
              have hn4 : ¬ (x0 : Int32).toInt = 4 := fun q => hv (i32q (by rw [q]; rfl))
              by_cases hv : (x0 : Int32) = 5
              · have h := it_t hv h
                refine ax_tableIn (pc := 6) C 103 d_MM_count1_6 (by omega) (by omega) (by rw [hv]; rfl) (by decide) ?_
                refine ax_aload_n (pc := 103) C d_MM_count1_103 rfl 0 rfl ?_
                refine mg_287 (pc := 104) C d_MM_count1_104 ?_
                cases h
                exact ax_iret (pc := 107) C d_MM_count1_107 ⟨rfl, rfl⟩ (Nat.le_refl _) (Nat.le_refl _)
              · have h := it_f hv h
                have hn5 : ¬ (x0 : Int32).toInt = 5 := fun q => hv (i32q (by rw [q]; rfl))
                by_cases hv : (x0 : Int32) = 6
                · have h := it_t hv h
                  refine ax_tableIn (pc := 6) C 108 d_MM_count1_6 (by omega) (by omega) (by rw [hv]; rfl) (by decide) ?_
                  refine ax_aload_n (pc := 108) C d_MM_count1_108 rfl 0 rfl ?_
                  refine mg_290 (pc := 109) C d_MM_count1_109 ?_
                  cases h
                  exact ax_iret (pc := 112) C d_MM_count1_112 ⟨rfl, rfl⟩ (Nat.le_refl _) (Nat.le_refl _)
                · have h := it_f hv h
                  have hn6 : ¬ (x0 : Int32).toInt = 6 := fun q => hv (i32q (by rw [q]; rfl))
                  by_cases hv : (x0 : Int32) = 7
                  · have h := it_t hv h
                    refine ax_tableIn (pc := 6) C 113 d_MM_count1_6 (by omega) (by omega) (by rw [hv]; rfl) (by decide) ?_
                    refine ax_aload_n (pc := 113) C d_MM_count1_113 rfl 0 rfl ?_
                    refine mg_293 (pc := 114) C d_MM_count1_114 ?_
                    cases h
                    exact ax_iret (pc := 117) C d_MM_count1_117 ⟨rfl, rfl⟩ (Nat.le_refl _) (Nat.le_refl _)
                  · have h := it_f hv h
                    have hn7 : ¬ (x0 : Int32).toInt = 7 := fun q => hv (i32q (by rw [q]; rfl))
                    by_cases hv : (x0 : Int32) = 8
                    · have h := it_t hv h
                      refine ax_tableIn (pc := 6) C 118 d_MM_count1_6 (by omega) (by omega) (by rw [hv]; rfl) (by decide) ?_
                      refine ax_aload_n (pc := 118) C d_MM_count1_118 rfl 0 rfl ?_
                      refine mg_296 (pc := 119) C d_MM_count1_119 ?_
                      cases h
                      exact ax_iret (pc := 122) C d_MM_count1_122 ⟨rfl, rfl⟩ (Nat.le_refl _) (Nat.le_refl _)
                    · have h := it_f hv h
                      have hn8 : ¬ (x0 : Int32).toInt = 8 := fun q => hv (i32q (by rw [q]; rfl))
                      by_cases hv : (x0 : Int32) = 9
                      · have h := it_t hv h
                        refine ax_tableIn (pc := 6) C 123 d_MM_count1_6 (by omega) (by omega) (by rw [hv]; rfl) (by decide) ?_
                        refine ax_aload_n (pc := 123) C d_MM_count1_123 rfl 0 rfl ?_
                        refine mg_299 (pc := 124) C d_MM_count1_124 ?_
                        cases h
                        exact ax_iret (pc := 127) C d_MM_count1_127 ⟨rfl, rfl⟩ (Nat.le_refl _) (Nat.le_refl _)
                      · have h := it_f hv h
                        have hn9 : ¬ (x0 : Int32).toInt = 9 := fun q => hv (i32q (by rw [q]; rfl))
                        by_cases hv : (x0 : Int32) = 10
                        · have h := it_t hv h
                          refine ax_tableIn (pc := 6) C 128 d_MM_count1_6 (by omega) (by omega) (by rw [hv]; rfl) (by decide) ?_
                          refine ax_aload_n (pc := 128) C d_MM_count1_128 rfl 0 rfl ?_
                          refine mg_278 (pc := 129) C d_MM_count1_129 ?_
                          cases h
                          exact ax_iret (pc := 132) C d_MM_count1_132 ⟨rfl, rfl⟩ (Nat.le_refl _) (Nat.le_refl _)
                        · have h := it_f hv h
                          have hn10 : ¬ (x0 : Int32).toInt = 10 := fun q => hv (i32q (by rw [q]; rfl))
                          by_cases hv : (x0 : Int32) = 11
                          · have h := it_t hv h
                            refine ax_tableIn (pc := 6) C 133 d_MM_count1_6 (by omega) (by omega) (by rw [hv]; rfl) (by decide) ?_
                            refine ax_aload_n (pc := 133) C d_MM_count1_133 rfl 0 rfl ?_
                            refine mg_71 (pc := 134) C d_MM_count1_134 ?_
                            cases h
                            exact ax_iret (pc := 137) C d_MM_count1_137 ⟨rfl, rfl⟩ (Nat.le_refl _) (Nat.le_refl _)
                          · have h := it_f hv h
                            have hn11 : ¬ (x0 : Int32).toInt = 11 := fun q => hv (i32q (by rw [q]; rfl))
                            by_cases hv : (x0 : Int32) = 12
                            · have h := it_t hv h
                              refine ax_tableIn (pc := 6) C 138 d_MM_count1_6 (by omega) (by omega) (by rw [hv]; rfl) (by decide) ?_
                              refine ax_aload_n (pc := 138) C d_MM_count1_138 rfl 0 rfl ?_
                              refine mg_17 (pc := 139) C d_MM_count1_139 ?_
                              cases h
                              exact ax_iret (pc := 142) C d_MM_count1_142 ⟨rfl, rfl⟩ (Nat.le_refl _) (Nat.le_refl _)
                            · have h := it_f hv h
                              have hn12 : ¬ (x0 : Int32).toInt = 12 := fun q => hv (i32q (by rw [q]; rfl))
                              have hv : (x0 : Int32) = 13 := i32q (by have e9 : (13 : Int32).toInt = 13 := rfl; omega)
                              refine ax_tableIn (pc := 6) C 143 d_MM_count1_6 (by omega) (by omega) (by rw [hv]; rfl) (by decide) ?_
                              refine ax_aload_n (pc := 143) C d_MM_count1_143 rfl 0 rfl ?_
                              refine mg_21 (pc := 144) C d_MM_count1_144 ?_
                              cases h
                              exact ax_iret (pc := 147) C d_MM_count1_147 ⟨rfl, rfl⟩ (Nat.le_refl _) (Nat.le_refl _)
set_option maxHeartbeats 4000000 in
set_option maxRecDepth 100000 in
theorem o_273 (l : Launch) (D : va_G) (kA : Nat → ClassId) (z : Nat) (v : Nat → Nat) (rec : mF) (ih : ∀ t σ xs res, rec t σ xs = some res → mSem l D kA z v t σ xs res) (σ : mS) (xs : List Int32) (res : mR) (h : k_273 rec σ xs = some res) : s_273 l D kA z v σ xs res := by
  intro x0 hxs
  subst hxs
  obtain ⟨σf, rf, dd⟩ := res
  have h : (rec 274 σ [x0, 0, 0]) = some (σf, rf, dd) := h
  refine ax_Mi.of (by decide +kernel) (Nat.le_of_ble_eq_true rfl) ?_
  intro p e s m args below meth c C hnm
  have C : ax_C p s m args meth c b_MM_inState "ClauseProverModel" 4 (some .int) D kA (va_A (mmW kA z v σ) s.heap.size) := C
  obtain ⟨F, hFe⟩ : ∃ F, F = dd + 1 := ⟨_, rfl⟩
  obtain ⟨Lo, hLoe⟩ : ∃ Lo, Lo = 64 * dd + 64 := ⟨_, rfl⟩
  obtain ⟨σ0, hσ0⟩ : ∃ s0, s0 = σ := ⟨_, rfl⟩
  suffices K : AW p l e { frames := F, cells := 0, slots := 0, locals := Lo } s m args below meth c D kA (va_A (mmW kA z v σ0) s.heap.size) 4 (ax_Qi below args s D kA (mmW kA z v σ0) 0 0 (fun r w1 => r = rf ∧ w1 = mmW kA z v σf)) 0 [(0, .ref z), (1, .int x0)] [] (mmW kA z v σ) 0 0 by rw [hFe, hLoe, hσ0] at K; exact ax_ls ([(0, .ref z), (1, .int x0)]) [0, 1] rfl K
  have C : ax_C p s m args meth c b_MM_inState "ClauseProverModel" 4 (some .int) D kA (va_A (mmW kA z v σ0) s.heap.size) := by rw [hσ0]; exact C
  have hF : dd + 1 ≤ F := by omega
  have hLo : 64 * dd + 64 ≤ Lo := by omega
  clear hFe hLoe hσ0
  refine ax_iconst (pc := 0) C 0 d_MM_inState_0 (by decide +kernel) ?_
  refine ax_istore_n (pc := 1) C d_MM_inState_1 rfl (Nat.le_of_ble_eq_true rfl) ([(2, .int 0), (0, .ref z), (1, .int x0)]) rfl ?_
  refine ax_iconst (pc := 2) C 0 d_MM_inState_2 (by decide +kernel) ?_
  refine ax_istore_n (pc := 3) C d_MM_inState_3 rfl (Nat.le_of_ble_eq_true rfl) ([(3, .int 0), (2, .int 0), (0, .ref z), (1, .int x0)]) rfl ?_
  refine ax_ls ([(0, .ref z), (1, .int x0), (2, .int 0), (3, .int 0)]) [2, 3, 1, 0] rfl ?_
  have hm : s_274 l D kA z v σ [x0, 0, 0] (σf, rf, _) := ih 274 _ _ _ h
  exact hm _ _ _ rfl p e s m args below meth c F Lo σ0 hF hLo C
set_option maxHeartbeats 4000000 in
set_option maxRecDepth 100000 in
theorem o_274 (l : Launch) (D : va_G) (kA : Nat → ClassId) (z : Nat) (v : Nat → Nat) (rec : mF) (ih : ∀ t σ xs res, rec t σ xs = some res → mSem l D kA z v t σ xs res) (σ : mS) (xs : List Int32) (res : mR) (h : k_274 rec σ xs = some res) : s_274 l D kA z v σ xs res := by
  intro x0 x1 x2 hxs
  subst hxs
  obtain ⟨σf, rf, dd⟩ := res
  have h : (if (σ.1 84) ≤ x2 then (some (σ, x1, 0)) else (if bin x2 2001 = true then (if (σ.2.1 80 (Int32.toNatClampNeg x2)) = x0 then (rec 275 σ [x0, (x1 + 1), x2]) else (rec 275 σ [x0, x1, x2])) else none)) = some (σf, rf, dd) := h
  intro p e s m args below meth c F Lo σ0 hF hLo C
  dsimp only at hF hLo ⊢
  refine ax_iload_n (pc := 4) C d_MM_inState_4 rfl 3 rfl ?_
  refine ax_aload_n (pc := 5) C d_MM_inState_5 rfl 0 rfl ?_
  refine mg_269 (pc := 6) C d_MM_inState_6 ?_
  refine ax_icmp_ge (pc := 9) C 31 d_MM_inState_9 (by decide) (fun hc => ?_) (fun hc => ?_)
  · have h := it_t hc h
    refine ax_iload_n (pc := 31) C d_MM_inState_31 rfl 2 rfl ?_
    cases h
    exact ax_iret (pc := 32) C d_MM_inState_32 ⟨rfl, rfl⟩ (Nat.le_refl _) (Nat.le_refl _)
  · have h := it_f hc h
    refine ax_aload_n (pc := 12) C d_MM_inState_12 rfl 0 rfl ?_
    refine mg_256 (pc := 13) C d_MM_inState_13 ?_
    refine ax_iload_n (pc := 16) C d_MM_inState_16 rfl 3 rfl ?_
    obtain ⟨hb, h⟩ := it_g h
    refine ml_80 (pc := 17) C d_MM_inState_17 (bin_in hb) ?_
    refine ax_iload_n (pc := 18) C d_MM_inState_18 rfl 1 rfl ?_
    refine ax_icmp_ne (pc := 19) C 25 d_MM_inState_19 (by decide) (fun hc => ?_) (fun hc => ?_)
    · have h := it_f hc h
      refine ax_ls ([(0, .ref z), (1, .int x0), (2, .int x1), (3, .int x2)]) [0, 1, 2, 3] rfl ?_
      have hm : s_275 l D kA z v σ [x0, x1, x2] (σf, rf, _) := ih 275 _ _ _ h
      exact hm _ _ _ rfl p e s m args below meth c F Lo σ0 hF hLo C
    · have h := it_t hc h
      refine ax_iinc (pc := 22) C (x1 + 1) d_MM_inState_22 2 rfl rfl (Nat.le_of_ble_eq_true rfl) ([(2, .int (x1 + 1)), (0, .ref z), (1, .int x0), (3, .int x2)]) rfl ?_
      refine ax_ls ([(0, .ref z), (1, .int x0), (2, .int (x1 + 1)), (3, .int x2)]) [1, 2, 0, 3] rfl ?_
      have hm : s_275 l D kA z v σ [x0, (x1 + 1), x2] (σf, rf, _) := ih 275 _ _ _ h
      exact hm _ _ _ rfl p e s m args below meth c F Lo σ0 hF hLo C
set_option maxHeartbeats 4000000 in
set_option maxRecDepth 100000 in
theorem o_275 (l : Launch) (D : va_G) (kA : Nat → ClassId) (z : Nat) (v : Nat → Nat) (rec : mF) (ih : ∀ t σ xs res, rec t σ xs = some res → mSem l D kA z v t σ xs res) (σ : mS) (xs : List Int32) (res : mR) (h : k_275 rec σ xs = some res) : s_275 l D kA z v σ xs res := by
  intro x0 x1 x2 hxs
  subst hxs
  obtain ⟨σf, rf, dd⟩ := res
  have h : (rec 274 σ [x0, x1, (x2 + 1)]) = some (σf, rf, dd) := h
  intro p e s m args below meth c F Lo σ0 hF hLo C
  dsimp only at hF hLo ⊢
  refine ax_iinc (pc := 25) C (x2 + 1) d_MM_inState_25 3 rfl rfl (Nat.le_of_ble_eq_true rfl) ([(3, .int (x2 + 1)), (0, .ref z), (1, .int x0), (2, .int x1)]) rfl ?_
  refine ax_goto (pc := 28) C 4 d_MM_inState_28 (by decide) ?_
  refine ax_ls ([(0, .ref z), (1, .int x0), (2, .int x1), (3, .int (x2 + 1))]) [1, 2, 3, 0] rfl ?_
  have hm : s_274 l D kA z v σ [x0, x1, (x2 + 1)] (σf, rf, _) := ih 274 _ _ _ h
  exact hm _ _ _ rfl p e s m args below meth c F Lo σ0 hF hLo C
