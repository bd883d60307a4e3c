set_option maxHeartbeats 4000000 in
set_option maxRecDepth 100000 in
theorem o_0 (l : Launch) (D : va_G) (kA : Nat → ClassId) (z : Nat) (v : Nat → Nat) (rec : mF) (ih : ∀ t σ xs res, rec t σ xs = some res → mSem l D kA z v t σ xs res) (σ : mS) (xs : List Int32) (res : mR) (h : k_0 rec σ xs = some res) : s_0 l D kA z v σ xs res := by
  intro hxs
  subst hxs
  obtain ⟨σf, rf, dd⟩ := res
  have h : (some (σ, (σ.1 4), 0)) = some (σf, rf, dd) := h
  refine ax_Mi.of (by decide +kernel) (Nat.le_of_ble_eq_true rfl) ?_
  intro p e s m args below meth c C hnm
  have C : ax_C p s m args meth c b_MM_thrown "ClauseProverModel" 1 (some .int) D kA (va_A (mmW kA z v σ) s.heap.size) := C
  obtain ⟨F, hFe⟩ : ∃ F, F = dd + 1 := ⟨_, rfl⟩
  obtain ⟨Lo, hLoe⟩ : ∃ Lo, Lo = 64 * dd + 64 := ⟨_, rfl⟩
  obtain ⟨σ0, hσ0⟩ : ∃ s0, s0 = σ := ⟨_, rfl⟩
  suffices K : AW p l e { frames := F, cells := 0, slots := 0, locals := Lo } s m args below meth c D kA (va_A (mmW kA z v σ0) s.heap.size) 1 (ax_Qi below args s D kA (mmW kA z v σ0) 0 0 (fun r w1 => r = rf ∧ w1 = mmW kA z v σf)) 0 [(0, .ref z)] [] (mmW kA z v σ) 0 0 by rw [hFe, hLoe, hσ0] at K; exact ax_ls ([(0, .ref z)]) [0] rfl K
  have C : ax_C p s m args meth c b_MM_thrown "ClauseProverModel" 1 (some .int) D kA (va_A (mmW kA z v σ0) s.heap.size) := by rw [hσ0]; exact C
  have hF : dd + 1 ≤ F := by omega
  have hLo : 64 * dd + 64 ≤ Lo := by omega
  clear hFe hLoe hσ0
  refine ax_aload_n (pc := 0) C d_MM_thrown_0 rfl 0 rfl ?_
  refine mg_24 (pc := 1) C d_MM_thrown_1 ?_
  cases h
  exact ax_iret (pc := 4) C d_MM_thrown_4 ⟨rfl, rfl⟩ (Nat.le_refl _) (Nat.le_refl _)
set_option maxHeartbeats 4000000 in
set_option maxRecDepth 100000 in
theorem o_1 (l : Launch) (D : va_G) (kA : Nat → ClassId) (z : Nat) (v : Nat → Nat) (rec : mF) (ih : ∀ t σ xs res, rec t σ xs = some res → mSem l D kA z v t σ xs res) (σ : mS) (xs : List Int32) (res : mR) (h : k_1 rec σ xs = some res) : s_1 l D kA z v σ xs res := by
  intro x0 x1 x2 x3 x4 hxs
  subst hxs
  obtain ⟨σf, rf, dd⟩ := res
  have h : (lt_ (mI σ 4 0) (fun σ1 => if (σ1.1 2) ≤ 65516 then (rec 2 σ1 [x0, x1, x2, x3, x4, 0, 1]) else (rec 2 σ1 [x0, x1, x2, x3, x4, 1, 1]))) = some (σf, rf, dd) := h
  refine ax_Mi.of (by decide +kernel) (Nat.le_of_ble_eq_true rfl) ?_
  intro p e s m args below meth c C hnm
  have C : ax_C p s m args meth c b_MM_feed "ClauseProverModel" 8 (some .int) D kA (va_A (mmW kA z v σ) s.heap.size) := C
  obtain ⟨F, hFe⟩ : ∃ F, F = dd + 1 := ⟨_, rfl⟩
  obtain ⟨Lo, hLoe⟩ : ∃ Lo, Lo = 64 * dd + 64 := ⟨_, rfl⟩
  obtain ⟨σ0, hσ0⟩ : ∃ s0, s0 = σ := ⟨_, rfl⟩
  suffices K : AW p l e { frames := F, cells := 0, slots := 0, locals := Lo } s m args below meth c D kA (va_A (mmW kA z v σ0) s.heap.size) 8 (ax_Qi below args s D kA (mmW kA z v σ0) 0 0 (fun r w1 => r = rf ∧ w1 = mmW kA z v σf)) 0 [(0, .ref z), (1, .int x0), (2, .int x1), (3, .int x2), (4, .int x3), (5, .int x4)] [] (mmW kA z v σ) 0 0 by rw [hFe, hLoe, hσ0] at K; exact ax_ls ([(0, .ref z), (1, .int x0), (2, .int x1), (3, .int x2), (4, .int x3), (5, .int x4)]) [0, 1, 2, 3, 4, 5] rfl K
  have C : ax_C p s m args meth c b_MM_feed "ClauseProverModel" 8 (some .int) D kA (va_A (mmW kA z v σ0) s.heap.size) := by rw [hσ0]; exact C
  have hF : dd + 1 ≤ F := by omega
  have hLo : 64 * dd + 64 ≤ Lo := by omega
  clear hFe hLoe hσ0
  refine ax_aload_n (pc := 0) C d_MM_feed_0 rfl 0 rfl ?_
  refine ax_iconst (pc := 1) C 0 d_MM_feed_1 (by decide +kernel) ?_
  refine mp_24 (pc := 2) C d_MM_feed_2 ?_
  have h := it_l h
  generalize mI σ 4 0 = σ1 at h ⊢
  refine ax_aload_n (pc := 5) C d_MM_feed_5 rfl 0 rfl ?_
  refine ax_iconst (pc := 6) C 1 d_MM_feed_6 (by decide +kernel) ?_
  refine ax_aload_n (pc := 7) C d_MM_feed_7 rfl 0 rfl ?_
  refine mg_17 (pc := 8) C d_MM_feed_8 ?_
  refine ax_ldcw (pc := 11) C tb_constant_1908 d_MM_feed_11 ?_
  refine ax_icmp_le (pc := 14) C 21 d_MM_feed_14 (by decide) (fun hc => ?_) (fun hc => ?_)
  · have h := it_t hc h
    refine ax_iconst (pc := 21) C 0 d_MM_feed_21 (by decide +kernel) ?_
    refine ax_ls ([(0, .ref z), (1, .int x0), (2, .int x1), (3, .int x2), (4, .int x3), (5, .int x4)]) [0, 1, 2, 3, 4, 5] rfl ?_
    have hm : s_2 l D kA z v σ1 [x0, x1, x2, x3, x4, 0, 1] (σf, rf, _) := ih 2 _ _ _ h
    exact hm _ _ _ _ _ _ _ rfl p e s m args below meth c F Lo σ0 hF hLo C
  · have h := it_f hc h
    refine ax_iconst (pc := 17) C 1 d_MM_feed_17 (by decide +kernel) ?_
    refine ax_goto (pc := 18) C 22 d_MM_feed_18 (by decide) ?_
    refine ax_ls ([(0, .ref z), (1, .int x0), (2, .int x1), (3, .int x2), (4, .int x3), (5, .int x4)]) [0, 1, 2, 3, 4, 5] rfl ?_
    have hm : s_2 l D kA z v σ1 [x0, x1, x2, x3, x4, 1, 1] (σf, rf, _) := ih 2 _ _ _ h
    exact hm _ _ _ _ _ _ _ rfl p e s m args below meth c F Lo σ0 hF hLo C
set_option maxHeartbeats 4000000 in
set_option maxRecDepth 100000 in
theorem o_2 (l : Launch) (D : va_G) (kA : Nat → ClassId) (z : Nat) (v : Nat → Nat) (rec : mF) (ih : ∀ t σ xs res, rec t σ xs = some res → mSem l D kA z v t σ xs res) (σ : mS) (xs : List Int32) (res : mR) (h : k_2 rec σ xs = some res) : s_2 l D kA z v σ xs res := by
  intro x0 x1 x2 x3 x4 x5 x6 hxs
  subst hxs
  obtain ⟨σf, rf, dd⟩ := res
  have h : (bnd (rec 5 σ [x6, x5]) (fun σ1 r1 => if r1 = 0 then (rec 3 σ1 [x0, x1, x2, x3, x4, 0]) else (some (σ1, 0, 0)))) = some (σf, rf, dd) := h
  intro p e s m args below meth c F Lo σ0 hF hLo C
  dsimp only at hF hLo ⊢
  obtain ⟨σ1, r1, d1_1, d2_1, h1, h, hd2, hd1⟩ := it_b h
  have hm : s_5 l D kA z v σ [x6, x5] (σ1, r1, d1_1) := ih 5 _ _ _ h1
  refine mc_Vi (pc := 22) C (As := [.int x6, .int x5]) (rest := []) (hm _ _ rfl) ml_MM_401 d_MM_feed_22 rfl rfl (by dsimp only; omega) (by dsimp only; omega) (Nat.le_of_ble_eq_true rfl) (Nat.le_of_ble_eq_true rfl) (Nat.le_of_ble_eq_true rfl) ?_
  have hF : d2_1 + 1 ≤ F := by omega
  have hLo : 64 * d2_1 + 64 ≤ Lo := by omega
  refine ax_if_eq (pc := 25) C 30 d_MM_feed_25 (by decide) (fun hc => ?_) (fun hc => ?_)
  · have h := it_t hc h
    refine ax_iconst (pc := 30) C 0 d_MM_feed_30 (by decide +kernel) ?_
    refine ax_istore (pc := 31) C d_MM_feed_31 (Nat.le_of_ble_eq_true rfl) ([(6, .int 0), (0, .ref z), (1, .int x0), (2, .int x1), (3, .int x2), (4, .int x3), (5, .int x4)]) rfl ?_
    refine ax_ls ([(0, .ref z), (1, .int x0), (2, .int x1), (3, .int x2), (4, .int x3), (5, .int x4), (6, .int 0)]) [1, 2, 3, 4, 5, 6, 0] rfl ?_
    have hm : s_3 l D kA z v σ1 [x0, x1, x2, x3, x4, 0] (σf, rf, _) := ih 3 _ _ _ h
    exact hm _ _ _ _ _ _ rfl p e s m args below meth c F Lo σ0 hF hLo C
  · have h := it_f hc h
    refine ax_iconst (pc := 28) C 0 d_MM_feed_28 (by decide +kernel) ?_
    cases h
    exact ax_iret (pc := 29) C d_MM_feed_29 ⟨rfl, rfl⟩ (Nat.le_refl _) (Nat.le_refl _)
set_option maxHeartbeats 4000000 in
set_option maxRecDepth 100000 in
theorem o_3 (l : Launch) (D : va_G) (kA : Nat → ClassId) (z : Nat) (v : Nat → Nat) (rec : mF) (ih : ∀ t σ xs res, rec t σ xs = some res → mSem l D kA z v t σ xs res) (σ : mS) (xs : List Int32) (res : mR) (h : k_3 rec σ xs = some res) : s_3 l D kA z v σ xs res := by
  intro x0 x1 x2 x3 x4 x5 hxs
  subst hxs
  obtain ⟨σf, rf, dd⟩ := res
  have h : (if 20 ≤ x5 then (some (σ, (σ.1 2), 0)) else (if 4 ≤ x5 then (if 8 ≤ x5 then (if 12 ≤ x5 then (if 16 ≤ x5 then (rec 4 σ [x0, x1, x2, x3, x4, x5, x4]) else (rec 4 σ [x0, x1, x2, x3, x4, x5, x3])) else (rec 4 σ [x0, x1, x2, x3, x4, x5, x2])) else (rec 4 σ [x0, x1, x2, x3, x4, x5, x1])) else (rec 4 σ [x0, x1, x2, x3, x4, x5, x0]))) = some (σf, rf, dd) := h
  intro p e s m args below meth c F Lo σ0 hF hLo C
  dsimp only at hF hLo ⊢
  refine ax_iload (pc := 33) C d_MM_feed_33 6 rfl ?_
  refine ax_bipush (pc := 35) C 20 d_MM_feed_35 (by decide +kernel) ?_
  refine ax_icmp_ge (pc := 37) C 124 d_MM_feed_37 (by decide) (fun hc => ?_) (fun hc => ?_)
  · have h := it_t hc h
    refine ax_aload_n (pc := 124) C d_MM_feed_124 rfl 0 rfl ?_
    refine mg_17 (pc := 125) C d_MM_feed_125 ?_
    cases h
    exact ax_iret (pc := 128) C d_MM_feed_128 ⟨rfl, rfl⟩ (Nat.le_refl _) (Nat.le_refl _)
  · have h := it_f hc h
    refine ax_iload (pc := 40) C d_MM_feed_40 6 rfl ?_
    refine ax_iconst (pc := 42) C 4 d_MM_feed_42 (by decide +kernel) ?_
    refine ax_icmp_ge (pc := 43) C 50 d_MM_feed_43 (by decide) (fun hc => ?_) (fun hc => ?_)
    · have h := it_t hc h
      refine ax_iload (pc := 50) C d_MM_feed_50 6 rfl ?_
      refine ax_bipush (pc := 52) C 8 d_MM_feed_52 (by decide +kernel) ?_
      refine ax_icmp_ge (pc := 54) C 61 d_MM_feed_54 (by decide) (fun hc => ?_) (fun hc => ?_)
      · have h := it_t hc h
        refine ax_iload (pc := 61) C d_MM_feed_61 6 rfl ?_
        refine ax_bipush (pc := 63) C 12 d_MM_feed_63 (by decide +kernel) ?_
        refine ax_icmp_ge (pc := 65) C 72 d_MM_feed_65 (by decide) (fun hc => ?_) (fun hc => ?_)
        · have h := it_t hc h
          refine ax_iload (pc := 72) C d_MM_feed_72 6 rfl ?_
          refine ax_bipush (pc := 74) C 16 d_MM_feed_74 (by decide +kernel) ?_
          refine ax_icmp_ge (pc := 76) C 84 d_MM_feed_76 (by decide) (fun hc => ?_) (fun hc => ?_)
          · have h := it_t hc h
            refine ax_iload (pc := 84) C d_MM_feed_84 5 rfl ?_
            refine ax_ls ([(0, .ref z), (1, .int x0), (2, .int x1), (3, .int x2), (4, .int x3), (5, .int x4), (6, .int x5)]) [0, 1, 2, 3, 4, 5, 6] rfl ?_
            have hm : s_4 l D kA z v σ [x0, x1, x2, x3, x4, x5, x4] (σf, rf, _) := ih 4 _ _ _ h
            exact hm _ _ _ _ _ _ _ rfl p e s m args below meth c F Lo σ0 hF hLo C
          · have h := it_f hc h
            refine ax_iload (pc := 79) C d_MM_feed_79 4 rfl ?_
            refine ax_goto (pc := 81) C 86 d_MM_feed_81 (by decide) ?_
            refine ax_ls ([(0, .ref z), (1, .int x0), (2, .int x1), (3, .int x2), (4, .int x3), (5, .int x4), (6, .int x5)]) [0, 1, 2, 3, 4, 5, 6] rfl ?_
            have hm : s_4 l D kA z v σ [x0, x1, x2, x3, x4, x5, x3] (σf, rf, _) := ih 4 _ _ _ h
            exact hm _ _ _ _ _ _ _ rfl p e s m args below meth c F Lo σ0 hF hLo C
        · have h := it_f hc h
          refine ax_iload_n (pc := 68) C d_MM_feed_68 rfl 3 rfl ?_
          refine ax_goto (pc := 69) C 86 d_MM_feed_69 (by decide) ?_
          refine ax_ls ([(0, .ref z), (1, .int x0), (2, .int x1), (3, .int x2), (4, .int x3), (5, .int x4), (6, .int x5)]) [0, 1, 2, 3, 4, 5, 6] rfl ?_
          have hm : s_4 l D kA z v σ [x0, x1, x2, x3, x4, x5, x2] (σf, rf, _) := ih 4 _ _ _ h
          exact hm _ _ _ _ _ _ _ rfl p e s m args below meth c F Lo σ0 hF hLo C
      · have h := it_f hc h
        refine ax_iload_n (pc := 57) C d_MM_feed_57 rfl 2 rfl ?_
        refine ax_goto (pc := 58) C 86 d_MM_feed_58 (by decide) ?_
        refine ax_ls ([(0, .ref z), (1, .int x0), (2, .int x1), (3, .int x2), (4, .int x3), (5, .int x4), (6, .int x5)]) [0, 1, 2, 3, 4, 5, 6] rfl ?_
        have hm : s_4 l D kA z v σ [x0, x1, x2, x3, x4, x5, x1] (σf, rf, _) := ih 4 _ _ _ h
        exact hm _ _ _ _ _ _ _ rfl p e s m args below meth c F Lo σ0 hF hLo C
    · have h := it_f hc h
      refine ax_iload_n (pc := 46) C d_MM_feed_46 rfl 1 rfl ?_
      refine ax_goto (pc := 47) C 86 d_MM_feed_47 (by decide) ?_
      refine ax_ls ([(0, .ref z), (1, .int x0), (2, .int x1), (3, .int x2), (4, .int x3), (5, .int x4), (6, .int x5)]) [0, 1, 2, 3, 4, 5, 6] rfl ?_
      have hm : s_4 l D kA z v σ [x0, x1, x2, x3, x4, x5, x0] (σf, rf, _) := ih 4 _ _ _ h
      exact hm _ _ _ _ _ _ _ rfl p e s m args below meth c F Lo σ0 hF hLo C
set_option maxHeartbeats 4000000 in
set_option maxRecDepth 100000 in
theorem o_4 (l : Launch) (D : va_G) (kA : Nat → ClassId) (z : Nat) (v : Nat → Nat) (rec : mF) (ih : ∀ t σ xs res, rec t σ xs = some res → mSem l D kA z v t σ xs res) (σ : mS) (xs : List Int32) (res : mR) (h : k_4 rec σ xs = some res) : s_4 l D kA z v σ xs res := by
  intro x0 x1 x2 x3 x4 x5 x6 hxs
  subst hxs
  obtain ⟨σf, rf, dd⟩ := res
  have h : (lt_ (mI σ 2 (((σ.1 2) : Int32) + 1)) (fun σ1 => if (4 : Int32) = 0 then none else (if bin (σ.1 2) 65536 = true then (lt_ (mA σ1 0 (Int32.toNatClampNeg (σ.1 2)) (vp_nar .byte (((((x6 : Int32).toUInt32 >>> ((((24 : Int32) - ((8 : Int32) * (x5 - x5 / 4 * 4))) : Int32).toUInt32 &&& Int32.toUInt32 31)).toInt32) : Int32).toInt8.toInt32))) (fun σ2 => rec 3 σ2 [x0, x1, x2, x3, x4, (x5 + 1)])) else none))) = some (σf, rf, dd) := h
  intro p e s m args below meth c F Lo σ0 hF hLo C
  dsimp only at hF hLo ⊢
  refine ax_istore (pc := 86) C d_MM_feed_86 (Nat.le_of_ble_eq_true rfl) ([(7, .int x6), (0, .ref z), (1, .int x0), (2, .int x1), (3, .int x2), (4, .int x3), (5, .int x4), (6, .int x5)]) rfl ?_
  refine ax_aload_n (pc := 88) C d_MM_feed_88 rfl 1 rfl ?_
  refine mg_8 (pc := 89) C d_MM_feed_89 ?_
  refine ax_aload_n (pc := 92) C d_MM_feed_92 rfl 1 rfl ?_
  refine ax_dup (pc := 93) C d_MM_feed_93 rfl ?_
  refine mg_17 (pc := 94) C d_MM_feed_94 ?_
  refine ax_dup_x1 (pc := 97) C d_MM_feed_97 rfl rfl ?_
  refine ax_iconst (pc := 98) C 1 d_MM_feed_98 (by decide +kernel) ?_
  refine ax_iadd (pc := 99) C d_MM_feed_99 ?_
  refine mp_17 (pc := 100) C d_MM_feed_100 ?_
  have h := it_l h
  generalize mI σ 2 (((σ.1 2) : Int32) + 1) = σ1 at h ⊢
  refine ax_iload (pc := 103) C d_MM_feed_103 0 rfl ?_
  refine ax_bipush (pc := 105) C 24 d_MM_feed_105 (by decide +kernel) ?_
  refine ax_bipush (pc := 107) C 8 d_MM_feed_107 (by decide +kernel) ?_
  refine ax_iload (pc := 109) C d_MM_feed_109 7 rfl ?_
  refine ax_iconst (pc := 111) C 4 d_MM_feed_111 (by decide +kernel) ?_
  obtain ⟨hz, h⟩ := it_n h
  refine ax_irem (pc := 112) C d_MM_feed_112 hz ?_
  refine ax_imul (pc := 113) C d_MM_feed_113 ?_
  refine ax_isub (pc := 114) C d_MM_feed_114 ?_
  refine ax_iushr (pc := 115) C (((x6 : Int32).toUInt32 >>> ((((24 : Int32) - ((8 : Int32) * (x5 - x5 / 4 * 4))) : Int32).toUInt32 &&& Int32.toUInt32 31)).toInt32) d_MM_feed_115 rfl ?_
  refine ax_i2b (pc := 116) C (((((x6 : Int32).toUInt32 >>> ((((24 : Int32) - ((8 : Int32) * (x5 - x5 / 4 * 4))) : Int32).toUInt32 &&& Int32.toUInt32 31)).toInt32) : Int32).toInt8.toInt32) d_MM_feed_116 rfl ?_
  obtain ⟨hb, h⟩ := it_g h
  refine ms_0 (pc := 117) C d_MM_feed_117 (bin_in hb) ?_
  have h := it_l h
  generalize mA σ1 0 (Int32.toNatClampNeg (σ.1 2)) (vp_nar .byte (((((x6 : Int32).toUInt32 >>> ((((24 : Int32) - ((8 : Int32) * (x5 - x5 / 4 * 4))) : Int32).toUInt32 &&& Int32.toUInt32 31)).toInt32) : Int32).toInt8.toInt32)) = σ2 at h ⊢
  refine ax_iinc (pc := 118) C (x5 + 1) d_MM_feed_118 7 rfl rfl (Nat.le_of_ble_eq_true rfl) ([(6, .int (x5 + 1)), (7, .int x6), (0, .ref z), (1, .int x0), (2, .int x1), (3, .int x2), (4, .int x3), (5, .int x4)]) rfl ?_
  refine ax_goto (pc := 121) C 33 d_MM_feed_121 (by decide) ?_
  refine ax_ls ([(0, .ref z), (1, .int x0), (2, .int x1), (3, .int x2), (4, .int x3), (5, .int x4), (6, .int (x5 + 1))]) [2, 3, 4, 5, 6, 7, 0] rfl ?_
  have hm : s_3 l D kA z v σ2 [x0, x1, x2, x3, x4, (x5 + 1)] (σf, rf, _) := ih 3 _ _ _ h
  exact hm _ _ _ _ _ _ rfl p e s m args below meth c F Lo σ0 hF hLo C
set_option maxHeartbeats 4000000 in
set_option maxRecDepth 100000 in
theorem o_5 (l : Launch) (D : va_G) (kA : Nat → ClassId) (z : Nat) (v : Nat → Nat) (rec : mF) (ih : ∀ t σ xs res, rec t σ xs = some res → mSem l D kA z v t σ xs res) (σ : mS) (xs : List Int32) (res : mR) (h : k_5 rec σ xs = some res) : s_5 l D kA z v σ xs res := by
  intro x0 x1 hxs
  subst hxs
  obtain ⟨σf, rf, dd⟩ := res
  have h : (if x1 = 0 then (rec 6 σ [x0, x1]) else (lt_ (mI σ 4 x0) (fun σ1 => rec 6 σ1 [x0, x1]))) = some (σf, rf, dd) := h
  refine ax_Mi.of (by decide +kernel) (Nat.le_of_ble_eq_true rfl) ?_
  intro p e s m args below meth c C hnm
  have C : ax_C p s m args meth c b_MM_refuse "ClauseProverModel" 3 (some .boolean) D kA (va_A (mmW kA z v σ) s.heap.size) := C
  obtain ⟨F, hFe⟩ : ∃ F, F = dd + 1 := ⟨_, rfl⟩
  obtain ⟨Lo, hLoe⟩ : ∃ Lo, Lo = 64 * dd + 64 := ⟨_, rfl⟩
  obtain ⟨σ0, hσ0⟩ : ∃ s0, s0 = σ := ⟨_, rfl⟩
  suffices K : AW p l e { frames := F, cells := 0, slots := 0, locals := Lo } s m args below meth c D kA (va_A (mmW kA z v σ0) s.heap.size) 3 (ax_Qi below args s D kA (mmW kA z v σ0) 0 0 (fun r w1 => r = rf ∧ w1 = mmW kA z v σf)) 0 [(0, .ref z), (1, .int x0), (2, .int x1)] [] (mmW kA z v σ) 0 0 by rw [hFe, hLoe, hσ0] at K; exact ax_ls ([(0, .ref z), (1, .int x0), (2, .int x1)]) [0, 1, 2] rfl K
  have C : ax_C p s m args meth c b_MM_refuse "ClauseProverModel" 3 (some .boolean) D kA (va_A (mmW kA z v σ0) s.heap.size) := by rw [hσ0]; exact C
  have hF : dd + 1 ≤ F := by omega
  have hLo : 64 * dd + 64 ≤ Lo := by omega
  clear hFe hLoe hσ0
  refine ax_iload_n (pc := 0) C d_MM_refuse_0 rfl 2 rfl ?_
  refine ax_if_eq (pc := 1) C 9 d_MM_refuse_1 (by decide) (fun hc => ?_) (fun hc => ?_)
  · have h := it_t hc h
    refine ax_ls ([(0, .ref z), (1, .int x0), (2, .int x1)]) [0, 1, 2] rfl ?_
    have hm : s_6 l D kA z v σ [x0, x1] (σf, rf, _) := ih 6 _ _ _ h
    exact hm _ _ rfl p e s m args below meth c F Lo σ0 hF hLo C
  · have h := it_f hc h
    refine ax_aload_n (pc := 4) C d_MM_refuse_4 rfl 0 rfl ?_
    refine ax_iload_n (pc := 5) C d_MM_refuse_5 rfl 1 rfl ?_
    refine mp_24 (pc := 6) C d_MM_refuse_6 ?_
    have h := it_l h
    generalize mI σ 4 x0 = σ1 at h ⊢
    refine ax_ls ([(0, .ref z), (1, .int x0), (2, .int x1)]) [0, 1, 2] rfl ?_
    have hm : s_6 l D kA z v σ1 [x0, x1] (σf, rf, _) := ih 6 _ _ _ h
    exact hm _ _ rfl p e s m args below meth c F Lo σ0 hF hLo C
set_option maxHeartbeats 4000000 in
set_option maxRecDepth 100000 in
theorem o_6 (l : Launch) (D : va_G) (kA : Nat → ClassId) (z : Nat) (v : Nat → Nat) (rec : mF) (ih : ∀ t σ xs res, rec t σ xs = some res → mSem l D kA z v t σ xs res) (σ : mS) (xs : List Int32) (res : mR) (h : k_6 rec σ xs = some res) : s_6 l D kA z v σ xs res := by
  intro x0 x1 hxs
  subst hxs
  obtain ⟨σf, rf, dd⟩ := res
  have h : (if x1 = 0 ∨ x1 = 1 then some (σ, x1, 0) else none) = some (σf, rf, dd) := h
  intro p e s m args below meth c F Lo σ0 hF hLo C
  dsimp only at hF hLo ⊢
  refine ax_iload_n (pc := 9) C d_MM_refuse_9 rfl 2 rfl ?_
  obtain ⟨hb, h⟩ := it_g h
  cases h
  exact ax_zret (pc := 10) C d_MM_refuse_10 (nb01 hb) ⟨rfl, rfl⟩ (Nat.le_refl _) (Nat.le_refl _)
set_option maxHeartbeats 4000000 in
set_option maxRecDepth 100000 in
theorem o_7 (l : Launch) (D : va_G) (kA : Nat → ClassId) (z : Nat) (v : Nat → Nat) (rec : mF) (ih : ∀ t σ xs res, rec t σ xs = some res → mSem l D kA z v t σ xs res) (σ : mS) (xs : List Int32) (res : mR) (h : k_7 rec σ xs = some res) : s_7 l D kA z v σ xs res := by
  intro x0 hxs
  subst hxs
  obtain ⟨σf, rf, dd⟩ := res
  have h : (lt_ (mI σ 4 0) (fun σ1 => if x0 < 0 then (rec 8 σ1 [x0, 1]) else (if x0 ≤ (σ1.1 2) then (rec 9 σ1 [x0, 0, 1]) else (rec 8 σ1 [x0, 1])))) = some (σf, rf, dd) := h
  refine ax_Mi.of (by decide +kernel) (Nat.le_of_ble_eq_true rfl) ?_
  intro p e s m args below meth c C hnm
  have C : ax_C p s m args meth c b_MM_end "ClauseProverModel" 2 (some .int) D kA (va_A (mmW kA z v σ) s.heap.size) := C
  obtain ⟨F, hFe⟩ : ∃ F, F = dd + 1 := ⟨_, rfl⟩
  obtain ⟨Lo, hLoe⟩ : ∃ Lo, Lo = 64 * dd + 64 := ⟨_, rfl⟩
  obtain ⟨σ0, hσ0⟩ : ∃ s0, s0 = σ := ⟨_, rfl⟩
  suffices K : AW p l e { frames := F, cells := 0, slots := 0, locals := Lo } s m args below meth c D kA (va_A (mmW kA z v σ0) s.heap.size) 2 (ax_Qi below args s D kA (mmW kA z v σ0) 0 0 (fun r w1 => r = rf ∧ w1 = mmW kA z v σf)) 0 [(0, .ref z), (1, .int x0)] [] (mmW kA z v σ) 0 0 by rw [hFe, hLoe, hσ0] at K; exact ax_ls ([(0, .ref z), (1, .int x0)]) [0, 1] rfl K
  have C : ax_C p s m args meth c b_MM_end "ClauseProverModel" 2 (some .int) D kA (va_A (mmW kA z v σ0) s.heap.size) := by rw [hσ0]; exact C
  have hF : dd + 1 ≤ F := by omega
  have hLo : 64 * dd + 64 ≤ Lo := by omega
  clear hFe hLoe hσ0
  refine ax_aload_n (pc := 0) C d_MM_end_0 rfl 0 rfl ?_
  refine ax_iconst (pc := 1) C 0 d_MM_end_1 (by decide +kernel) ?_
  refine mp_24 (pc := 2) C d_MM_end_2 ?_
  have h := it_l h
  generalize mI σ 4 0 = σ1 at h ⊢
  refine ax_aload_n (pc := 5) C d_MM_end_5 rfl 0 rfl ?_
  refine ax_iconst (pc := 6) C 1 d_MM_end_6 (by decide +kernel) ?_
  refine ax_iload_n (pc := 7) C d_MM_end_7 rfl 1 rfl ?_
  refine ax_if_lt (pc := 8) C 19 d_MM_end_8 (by decide) (fun hc => ?_) (fun hc => ?_)
  · have h := it_t hc h
    refine ax_ls ([(0, .ref z), (1, .int x0)]) [0, 1] rfl ?_
    have hm : s_8 l D kA z v σ1 [x0, 1] (σf, rf, _) := ih 8 _ _ _ h
    exact hm _ _ rfl p e s m args below meth c F Lo σ0 hF hLo C
  · have h := it_f hc h
    refine ax_iload_n (pc := 11) C d_MM_end_11 rfl 1 rfl ?_
    refine ax_aload_n (pc := 12) C d_MM_end_12 rfl 0 rfl ?_
    refine mg_17 (pc := 13) C d_MM_end_13 ?_
    refine ax_icmp_le (pc := 16) C 23 d_MM_end_16 (by decide) (fun hc => ?_) (fun hc => ?_)
    · have h := it_t hc h
      refine ax_iconst (pc := 23) C 0 d_MM_end_23 (by decide +kernel) ?_
      refine ax_ls ([(0, .ref z), (1, .int x0)]) [0, 1] rfl ?_
      have hm : s_9 l D kA z v σ1 [x0, 0, 1] (σf, rf, _) := ih 9 _ _ _ h
      exact hm _ _ _ rfl p e s m args below meth c F Lo σ0 hF hLo C
    · have h := it_f hc h
      refine ax_ls ([(0, .ref z), (1, .int x0)]) [0, 1] rfl ?_
      have hm : s_8 l D kA z v σ1 [x0, 1] (σf, rf, _) := ih 8 _ _ _ h
      exact hm _ _ rfl p e s m args below meth c F Lo σ0 hF hLo C
set_option maxHeartbeats 4000000 in
set_option maxRecDepth 100000 in
theorem o_8 (l : Launch) (D : va_G) (kA : Nat → ClassId) (z : Nat) (v : Nat → Nat) (rec : mF) (ih : ∀ t σ xs res, rec t σ xs = some res → mSem l D kA z v t σ xs res) (σ : mS) (xs : List Int32) (res : mR) (h : k_8 rec σ xs = some res) : s_8 l D kA z v σ xs res := by
  intro x0 x1 hxs
  subst hxs
  obtain ⟨σf, rf, dd⟩ := res
  have h : (rec 9 σ [x0, 1, x1]) = some (σf, rf, dd) := h
  intro p e s m args below meth c F Lo σ0 hF hLo C
  dsimp only at hF hLo ⊢
  refine ax_iconst (pc := 19) C 1 d_MM_end_19 (by decide +kernel) ?_
  refine ax_goto (pc := 20) C 24 d_MM_end_20 (by decide) ?_
  refine ax_ls ([(0, .ref z), (1, .int x0)]) [0, 1] rfl ?_
  have hm : s_9 l D kA z v σ [x0, 1, x1] (σf, rf, _) := ih 9 _ _ _ h
  exact hm _ _ _ rfl p e s m args below meth c F Lo σ0 hF hLo C
set_option maxHeartbeats 4000000 in
set_option maxRecDepth 100000 in
theorem o_9 (l : Launch) (D : va_G) (kA : Nat → ClassId) (z : Nat) (v : Nat → Nat) (rec : mF) (ih : ∀ t σ xs res, rec t σ xs = some res → mSem l D kA z v t σ xs res) (σ : mS) (xs : List Int32) (res : mR) (h : k_9 rec σ xs = some res) : s_9 l D kA z v σ xs res := by
  intro x0 x1 x2 hxs
  subst hxs
  obtain ⟨σf, rf, dd⟩ := res
  have h : (bnd (rec 5 σ [x2, x1]) (fun σ1 r1 => if r1 = 0 then (lt_ (mI σ1 2 x0) (fun σ2 => some (σ2, x0, 0))) else (some (σ1, 0, 0)))) = some (σf, rf, dd) := h
  intro p e s m args below meth c F Lo σ0 hF hLo C
  dsimp only at hF hLo ⊢
  obtain ⟨σ1, r1, d1_1, d2_1, h1, h, hd2, hd1⟩ := it_b h
  have hm : s_5 l D kA z v σ [x2, x1] (σ1, r1, d1_1) := ih 5 _ _ _ h1
  refine mc_Vi (pc := 24) C (As := [.int x2, .int x1]) (rest := []) (hm _ _ rfl) ml_MM_401 d_MM_end_24 rfl rfl (by dsimp only; omega) (by dsimp only; omega) (Nat.le_of_ble_eq_true rfl) (Nat.le_of_ble_eq_true rfl) (Nat.le_of_ble_eq_true rfl) ?_
  have hF : d2_1 + 1 ≤ F := by omega
  have hLo : 64 * d2_1 + 64 ≤ Lo := by omega
  refine ax_if_eq (pc := 27) C 32 d_MM_end_27 (by decide) (fun hc => ?_) (fun hc => ?_)
  · have h := it_t hc h
    refine ax_aload_n (pc := 32) C d_MM_end_32 rfl 0 rfl ?_
    refine ax_iload_n (pc := 33) C d_MM_end_33 rfl 1 rfl ?_
    refine mp_17 (pc := 34) C d_MM_end_34 ?_
    have h := it_l h
    generalize mI σ1 2 x0 = σ2 at h ⊢
    refine ax_iload_n (pc := 37) C d_MM_end_37 rfl 1 rfl ?_
    cases h
    exact ax_iret (pc := 38) C d_MM_end_38 ⟨rfl, rfl⟩ (Nat.le_refl _) (Nat.le_refl _)
  · have h := it_f hc h
    refine ax_iconst (pc := 30) C 0 d_MM_end_30 (by decide +kernel) ?_
    cases h
    exact ax_iret (pc := 31) C d_MM_end_31 ⟨rfl, rfl⟩ (Nat.le_refl _) (Nat.le_refl _)
set_option maxHeartbeats 4000000 in
set_option maxRecDepth 100000 in
theorem o_10 (l : Launch) (D : va_G) (kA : Nat → ClassId) (z : Nat) (v : Nat → Nat) (rec : mF) (ih : ∀ t σ xs res, rec t σ xs = some res → mSem l D kA z v t σ xs res) (σ : mS) (xs : List Int32) (res : mR) (h : k_10 rec σ xs = some res) : s_10 l D kA z v σ xs res := by
  intro hxs
  subst hxs
  obtain ⟨σf, rf, dd⟩ := res
  have h : (rec 11 σ [1]) = some (σf, rf, dd) := h
  refine ax_Mv.of (by decide +kernel) (Nat.le_of_ble_eq_true rfl) ?_
  intro p e s m args below meth c C hnm
  have C : ax_C p s m args meth c b_MM_parts "ClauseProverModel" 2 none D kA (va_A (mmW kA z v σ) s.heap.size) := C
  obtain ⟨F, hFe⟩ : ∃ F, F = dd + 1 := ⟨_, rfl⟩
  obtain ⟨Lo, hLoe⟩ : ∃ Lo, Lo = 64 * dd + 64 := ⟨_, rfl⟩
  obtain ⟨σ0, hσ0⟩ : ∃ s0, s0 = σ := ⟨_, rfl⟩
  suffices K : AW p l e { frames := F, cells := 0, slots := 0, locals := Lo } s m args below meth c D kA (va_A (mmW kA z v σ0) s.heap.size) 2 (ax_Qv below args s D kA (mmW kA z v σ0) 0 0 (fun w1 => w1 = mmW kA z v σf)) 0 [(0, .ref z)] [] (mmW kA z v σ) 0 0 by rw [hFe, hLoe, hσ0] at K; exact ax_ls ([(0, .ref z)]) [0] rfl K
  have C : ax_C p s m args meth c b_MM_parts "ClauseProverModel" 2 none D kA (va_A (mmW kA z v σ0) s.heap.size) := by rw [hσ0]; exact C
  have hF : dd + 1 ≤ F := by omega
  have hLo : 64 * dd + 64 ≤ Lo := by omega
  clear hFe hLoe hσ0
  refine ax_iconst (pc := 0) C 1 d_MM_parts_0 (by decide +kernel) ?_
  refine ax_istore_n (pc := 1) C d_MM_parts_1 rfl (Nat.le_of_ble_eq_true rfl) ([(1, .int 1), (0, .ref z)]) rfl ?_
  refine ax_ls ([(0, .ref z), (1, .int 1)]) [1, 0] rfl ?_
  have hm : s_11 l D kA z v σ [1] (σf, rf, _) := ih 11 _ _ _ h
  exact hm _ rfl p e s m args below meth c F Lo σ0 hF hLo C
set_option maxHeartbeats 4000000 in
set_option maxRecDepth 100000 in
theorem o_11 (l : Launch) (D : va_G) (kA : Nat → ClassId) (z : Nat) (v : Nat → Nat) (rec : mF) (ih : ∀ t σ xs res, rec t σ xs = some res → mSem l D kA z v t σ xs res) (σ : mS) (xs : List Int32) (res : mR) (h : k_11 rec σ xs = some res) : s_11 l D kA z v σ xs res := by
  intro x0 hxs
  subst hxs
  obtain ⟨σf, rf, dd⟩ := res
  have h : (if x0 = 0 then (some (σ, 0, 0)) else (rec 12 σ [0])) = some (σf, rf, dd) := h
  intro p e s m args below meth c F Lo σ0 hF hLo C
  dsimp only at hF hLo ⊢
  refine ax_iload_n (pc := 2) C d_MM_parts_2 rfl 1 rfl ?_
  refine ax_if_eq (pc := 3) C 156 d_MM_parts_3 (by decide) (fun hc => ?_) (fun hc => ?_)
  · have h := it_t hc h
    cases h
    exact ax_vret (pc := 156) C d_MM_parts_156 rfl (Nat.le_refl _) (Nat.le_refl _)
  · have h := it_f hc h
    refine ax_iconst (pc := 6) C 0 d_MM_parts_6 (by decide +kernel) ?_
    refine ax_istore_n (pc := 7) C d_MM_parts_7 rfl (Nat.le_of_ble_eq_true rfl) ([(1, .int 0), (0, .ref z)]) rfl ?_
    refine ax_ls ([(0, .ref z), (1, .int 0)]) [1, 0] rfl ?_
    have hm : s_12 l D kA z v σ [0] (σf, rf, _) := ih 12 _ _ _ h
    exact hm _ rfl p e s m args below meth c F Lo σ0 hF hLo C
set_option maxHeartbeats 4000000 in
set_option maxRecDepth 100000 in
theorem o_12 (l : Launch) (D : va_G) (kA : Nat → ClassId) (z : Nat) (v : Nat → Nat) (rec : mF) (ih : ∀ t σ xs res, rec t σ xs = some res → mSem l D kA z v t σ xs res) (σ : mS) (xs : List Int32) (res : mR) (h : k_12 rec σ xs = some res) : s_12 l D kA z v σ xs res := by
  intro x0 hxs
  subst hxs
  obtain ⟨σf, rf, dd⟩ := res
  have h : (if (σ.1 2) ≤ (σ.1 7) then (rec 14 σ [x0]) else (if bin (σ.1 7) 65536 = true then (if (σ.2.1 0 (Int32.toNatClampNeg (σ.1 7))) = 32 then (rec 13 σ [x0]) else (if bin (σ.1 7) 65536 = true then (if (σ.2.1 0 (Int32.toNatClampNeg (σ.1 7))) = 9 then (rec 13 σ [x0]) else (if bin (σ.1 7) 65536 = true then (if (σ.2.1 0 (Int32.toNatClampNeg (σ.1 7))) = 10 then (rec 13 σ [x0]) else (if bin (σ.1 7) 65536 = true then (if (σ.2.1 0 (Int32.toNatClampNeg (σ.1 7))) = 13 then (rec 13 σ [x0]) else (rec 14 σ [x0])) else none)) else none)) else none)) else none)) = some (σf, rf, dd) := h
  intro p e s m args below meth c F Lo σ0 hF hLo C
  dsimp only at hF hLo ⊢
  refine ax_aload_n (pc := 8) C d_MM_parts_8 rfl 0 rfl ?_
  refine mg_33 (pc := 9) C d_MM_parts_9 ?_
  refine ax_aload_n (pc := 12) C d_MM_parts_12 rfl 0 rfl ?_
  refine mg_17 (pc := 13) C d_MM_parts_13 ?_
  refine ax_icmp_ge (pc := 16) C 88 d_MM_parts_16 (by decide) (fun hc => ?_) (fun hc => ?_)
  · have h := it_t hc h
    refine ax_ls ([(0, .ref z), (1, .int x0)]) [0, 1] rfl ?_
    have hm : s_14 l D kA z v σ [x0] (σf, rf, _) := ih 14 _ _ _ h
    exact hm _ rfl p e s m args below meth c F Lo σ0 hF hLo C
  · have h := it_f hc h
    refine ax_aload_n (pc := 19) C d_MM_parts_19 rfl 0 rfl ?_
    refine mg_8 (pc := 20) C d_MM_parts_20 ?_
    refine ax_aload_n (pc := 23) C d_MM_parts_23 rfl 0 rfl ?_
    refine mg_33 (pc := 24) C d_MM_parts_24 ?_
    obtain ⟨hb, h⟩ := it_g h
    refine ml_0 (pc := 27) C d_MM_parts_27 (bin_in hb) ?_
    refine ax_bipush (pc := 28) C 32 d_MM_parts_28 (by decide +kernel) ?_
    refine ax_icmp_eq (pc := 30) C 75 d_MM_parts_30 (by decide) (fun hc => ?_) (fun hc => ?_)
    · have h := it_t hc h
      refine ax_ls ([(0, .ref z), (1, .int x0)]) [0, 1] rfl ?_
      have hm : s_13 l D kA z v σ [x0] (σf, rf, _) := ih 13 _ _ _ h
      exact hm _ rfl p e s m args below meth c F Lo σ0 hF hLo C
    · have h := it_f hc h
      refine ax_aload_n (pc := 33) C d_MM_parts_33 rfl 0 rfl ?_
      refine mg_8 (pc := 34) C d_MM_parts_34 ?_
      refine ax_aload_n (pc := 37) C d_MM_parts_37 rfl 0 rfl ?_
      refine mg_33 (pc := 38) C d_MM_parts_38 ?_
      obtain ⟨hb, h⟩ := it_g h
      refine ml_0 (pc := 41) C d_MM_parts_41 (bin_in hb) ?_
      refine ax_bipush (pc := 42) C 9 d_MM_parts_42 (by decide +kernel) ?_
      refine ax_icmp_eq (pc := 44) C 75 d_MM_parts_44 (by decide) (fun hc => ?_) (fun hc => ?_)
      · have h := it_t hc h
        refine ax_ls ([(0, .ref z), (1, .int x0)]) [0, 1] rfl ?_
        have hm : s_13 l D kA z v σ [x0] (σf, rf, _) := ih 13 _ _ _ h
        exact hm _ rfl p e s m args below meth c F Lo σ0 hF hLo C
      · have h := it_f hc h
        refine ax_aload_n (pc := 47) C d_MM_parts_47 rfl 0 rfl ?_
        refine mg_8 (pc := 48) C d_MM_parts_48 ?_
        refine ax_aload_n (pc := 51) C d_MM_parts_51 rfl 0 rfl ?_
        refine mg_33 (pc := 52) C d_MM_parts_52 ?_
        obtain ⟨hb, h⟩ := it_g h
        refine ml_0 (pc := 55) C d_MM_parts_55 (bin_in hb) ?_
        refine ax_bipush (pc := 56) C 10 d_MM_parts_56 (by decide +kernel) ?_
        refine ax_icmp_eq (pc := 58) C 75 d_MM_parts_58 (by decide) (fun hc => ?_) (fun hc => ?_)
        · have h := it_t hc h
          refine ax_ls ([(0, .ref z), (1, .int x0)]) [0, 1] rfl ?_
          have hm : s_13 l D kA z v σ [x0] (σf, rf, _) := ih 13 _ _ _ h
          exact hm _ rfl p e s m args below meth c F Lo σ0 hF hLo C
        · have h := it_f hc h
          refine ax_aload_n (pc := 61) C d_MM_parts_61 rfl 0 rfl ?_
          refine mg_8 (pc := 62) C d_MM_parts_62 ?_
          refine ax_aload_n (pc := 65) C d_MM_parts_65 rfl 0 rfl ?_
          refine mg_33 (pc := 66) C d_MM_parts_66 ?_
          obtain ⟨hb, h⟩ := it_g h
          refine ml_0 (pc := 69) C d_MM_parts_69 (bin_in hb) ?_
          refine ax_bipush (pc := 70) C 13 d_MM_parts_70 (by decide +kernel) ?_
          refine ax_icmp_ne (pc := 72) C 88 d_MM_parts_72 (by decide) (fun hc => ?_) (fun hc => ?_)
          · have h := it_f hc h
            refine ax_ls ([(0, .ref z), (1, .int x0)]) [0, 1] rfl ?_
            have hm : s_14 l D kA z v σ [x0] (σf, rf, _) := ih 14 _ _ _ h
            exact hm _ rfl p e s m args below meth c F Lo σ0 hF hLo C
          · have h := it_t hc h
            refine ax_ls ([(0, .ref z), (1, .int x0)]) [0, 1] rfl ?_
            have hm : s_13 l D kA z v σ [x0] (σf, rf, _) := ih 13 _ _ _ h
            exact hm _ rfl p e s m args below meth c F Lo σ0 hF hLo C
set_option maxHeartbeats 4000000 in
set_option maxRecDepth 100000 in
theorem o_13 (l : Launch) (D : va_G) (kA : Nat → ClassId) (z : Nat) (v : Nat → Nat) (rec : mF) (ih : ∀ t σ xs res, rec t σ xs = some res → mSem l D kA z v t σ xs res) (σ : mS) (xs : List Int32) (res : mR) (h : k_13 rec σ xs = some res) : s_13 l D kA z v σ xs res := by
  intro x0 hxs
  subst hxs
  obtain ⟨σf, rf, dd⟩ := res
  have h : (lt_ (mI σ 7 (((σ.1 7) : Int32) + 1)) (fun σ1 => rec 12 σ1 [x0])) = some (σf, rf, dd) := h
  intro p e s m args below meth c F Lo σ0 hF hLo C
  dsimp only at hF hLo ⊢
  refine ax_aload_n (pc := 75) C d_MM_parts_75 rfl 0 rfl ?_
  refine ax_dup (pc := 76) C d_MM_parts_76 rfl ?_
  refine mg_33 (pc := 77) C d_MM_parts_77 ?_
  refine ax_iconst (pc := 80) C 1 d_MM_parts_80 (by decide +kernel) ?_
  refine ax_iadd (pc := 81) C d_MM_parts_81 ?_
  refine mp_33 (pc := 82) C d_MM_parts_82 ?_
  have h := it_l h
  generalize mI σ 7 (((σ.1 7) : Int32) + 1) = σ1 at h ⊢
  refine ax_goto (pc := 85) C 8 d_MM_parts_85 (by decide) ?_
  refine ax_ls ([(0, .ref z), (1, .int x0)]) [0, 1] rfl ?_
  have hm : s_12 l D kA z v σ1 [x0] (σf, rf, _) := ih 12 _ _ _ h
  exact hm _ rfl p e s m args below meth c F Lo σ0 hF hLo C
set_option maxHeartbeats 4000000 in
set_option maxRecDepth 100000 in
theorem o_14 (l : Launch) (D : va_G) (kA : Nat → ClassId) (z : Nat) (v : Nat → Nat) (rec : mF) (ih : ∀ t σ xs res, rec t σ xs = some res → mSem l D kA z v t σ xs res) (σ : mS) (xs : List Int32) (res : mR) (h : k_14 rec σ xs = some res) : s_14 l D kA z v σ xs res := by
  intro x0 hxs
  subst hxs
  obtain ⟨σf, rf, dd⟩ := res
  have h : (if (σ.1 2) ≤ (σ.1 7) then (rec 11 σ [x0]) else (if bin (σ.1 7) 65536 = true then (if (σ.2.1 0 (Int32.toNatClampNeg (σ.1 7))) = 37 then (rec 15 σ [x0]) else (rec 11 σ [x0])) else none)) = some (σf, rf, dd) := h
  intro p e s m args below meth c F Lo σ0 hF hLo C
  dsimp only at hF hLo ⊢
  refine ax_aload_n (pc := 88) C d_MM_parts_88 rfl 0 rfl ?_
  refine mg_33 (pc := 89) C d_MM_parts_89 ?_
  refine ax_aload_n (pc := 92) C d_MM_parts_92 rfl 0 rfl ?_
  refine mg_17 (pc := 93) C d_MM_parts_93 ?_
  refine ax_icmp_ge (pc := 96) C 2 d_MM_parts_96 (by decide) (fun hc => ?_) (fun hc => ?_)
  · have h := it_t hc h
    refine ax_ls ([(0, .ref z), (1, .int x0)]) [0, 1] rfl ?_
    have hm : s_11 l D kA z v σ [x0] (σf, rf, _) := ih 11 _ _ _ h
    exact hm _ rfl p e s m args below meth c F Lo σ0 hF hLo C
  · have h := it_f hc h
    refine ax_aload_n (pc := 99) C d_MM_parts_99 rfl 0 rfl ?_
    refine mg_8 (pc := 100) C d_MM_parts_100 ?_
    refine ax_aload_n (pc := 103) C d_MM_parts_103 rfl 0 rfl ?_
    refine mg_33 (pc := 104) C d_MM_parts_104 ?_
    obtain ⟨hb, h⟩ := it_g h
    refine ml_0 (pc := 107) C d_MM_parts_107 (bin_in hb) ?_
    refine ax_bipush (pc := 108) C 37 d_MM_parts_108 (by decide +kernel) ?_
    refine ax_icmp_ne (pc := 110) C 2 d_MM_parts_110 (by decide) (fun hc => ?_) (fun hc => ?_)
    · have h := it_f hc h
      refine ax_ls ([(0, .ref z), (1, .int x0)]) [0, 1] rfl ?_
      have hm : s_11 l D kA z v σ [x0] (σf, rf, _) := ih 11 _ _ _ h
      exact hm _ rfl p e s m args below meth c F Lo σ0 hF hLo C
    · have h := it_t hc h
      refine ax_ls ([(0, .ref z), (1, .int x0)]) [0, 1] rfl ?_
      have hm : s_15 l D kA z v σ [x0] (σf, rf, _) := ih 15 _ _ _ h
      exact hm _ rfl p e s m args below meth c F Lo σ0 hF hLo C
set_option maxHeartbeats 4000000 in
set_option maxRecDepth 100000 in
theorem o_15 (l : Launch) (D : va_G) (kA : Nat → ClassId) (z : Nat) (v : Nat → Nat) (rec : mF) (ih : ∀ t σ xs res, rec t σ xs = some res → mSem l D kA z v t σ xs res) (σ : mS) (xs : List Int32) (res : mR) (h : k_15 rec σ xs = some res) : s_15 l D kA z v σ xs res := by
  intro x0 hxs
  subst hxs
  obtain ⟨σf, rf, dd⟩ := res
  have h : (if (σ.1 2) ≤ (σ.1 7) then (rec 16 σ [x0]) else (if bin (σ.1 7) 65536 = true then (if (σ.2.1 0 (Int32.toNatClampNeg (σ.1 7))) = 10 then (rec 16 σ [x0]) else (lt_ (mI σ 7 (((σ.1 7) : Int32) + 1)) (fun σ1 => rec 15 σ1 [x0]))) else none)) = some (σf, rf, dd) := h
  intro p e s m args below meth c F Lo σ0 hF hLo C
  dsimp only at hF hLo ⊢
  refine ax_aload_n (pc := 113) C d_MM_parts_113 rfl 0 rfl ?_
  refine mg_33 (pc := 114) C d_MM_parts_114 ?_
  refine ax_aload_n (pc := 117) C d_MM_parts_117 rfl 0 rfl ?_
  refine mg_17 (pc := 118) C d_MM_parts_118 ?_
  refine ax_icmp_ge (pc := 121) C 151 d_MM_parts_121 (by decide) (fun hc => ?_) (fun hc => ?_)
  · have h := it_t hc h
    refine ax_ls ([(0, .ref z), (1, .int x0)]) [0, 1] rfl ?_
    have hm : s_16 l D kA z v σ [x0] (σf, rf, _) := ih 16 _ _ _ h
    exact hm _ rfl p e s m args below meth c F Lo σ0 hF hLo C
  · have h := it_f hc h
    refine ax_aload_n (pc := 124) C d_MM_parts_124 rfl 0 rfl ?_
    refine mg_8 (pc := 125) C d_MM_parts_125 ?_
    refine ax_aload_n (pc := 128) C d_MM_parts_128 rfl 0 rfl ?_
    refine mg_33 (pc := 129) C d_MM_parts_129 ?_
    obtain ⟨hb, h⟩ := it_g h
    refine ml_0 (pc := 132) C d_MM_parts_132 (bin_in hb) ?_
    refine ax_bipush (pc := 133) C 10 d_MM_parts_133 (by decide +kernel) ?_
    refine ax_icmp_eq (pc := 135) C 151 d_MM_parts_135 (by decide) (fun hc => ?_) (fun hc => ?_)
    · have h := it_t hc h
      refine ax_ls ([(0, .ref z), (1, .int x0)]) [0, 1] rfl ?_
      have hm : s_16 l D kA z v σ [x0] (σf, rf, _) := ih 16 _ _ _ h
      exact hm _ rfl p e s m args below meth c F Lo σ0 hF hLo C
    · have h := it_f hc h
      refine ax_aload_n (pc := 138) C d_MM_parts_138 rfl 0 rfl ?_
      refine ax_dup (pc := 139) C d_MM_parts_139 rfl ?_
      refine mg_33 (pc := 140) C d_MM_parts_140 ?_
      refine ax_iconst (pc := 143) C 1 d_MM_parts_143 (by decide +kernel) ?_
      refine ax_iadd (pc := 144) C d_MM_parts_144 ?_
      refine mp_33 (pc := 145) C d_MM_parts_145 ?_
      have h := it_l h
      generalize mI σ 7 (((σ.1 7) : Int32) + 1) = σ1 at h ⊢
      refine ax_goto (pc := 148) C 113 d_MM_parts_148 (by decide) ?_
      refine ax_ls ([(0, .ref z), (1, .int x0)]) [0, 1] rfl ?_
      have hm : s_15 l D kA z v σ1 [x0] (σf, rf, _) := ih 15 _ _ _ h
      exact hm _ rfl p e s m args below meth c F Lo σ0 hF hLo C
set_option maxHeartbeats 4000000 in
set_option maxRecDepth 100000 in
theorem o_16 (l : Launch) (D : va_G) (kA : Nat → ClassId) (z : Nat) (v : Nat → Nat) (rec : mF) (ih : ∀ t σ xs res, rec t σ xs = some res → mSem l D kA z v t σ xs res) (σ : mS) (xs : List Int32) (res : mR) (h : k_16 rec σ xs = some res) : s_16 l D kA z v σ xs res := by
  intro x0 hxs
  subst hxs
  obtain ⟨σf, rf, dd⟩ := res
  have h : (rec 11 σ [1]) = some (σf, rf, dd) := h
  intro p e s m args below meth c F Lo σ0 hF hLo C
  dsimp only at hF hLo ⊢
  refine ax_iconst (pc := 151) C 1 d_MM_parts_151 (by decide +kernel) ?_
  refine ax_istore_n (pc := 152) C d_MM_parts_152 rfl (Nat.le_of_ble_eq_true rfl) ([(1, .int 1), (0, .ref z)]) rfl ?_
  refine ax_goto (pc := 153) C 2 d_MM_parts_153 (by decide) ?_
  refine ax_ls ([(0, .ref z), (1, .int 1)]) [1, 0] rfl ?_
  have hm : s_11 l D kA z v σ [1] (σf, rf, _) := ih 11 _ _ _ h
  exact hm _ rfl p e s m args below meth c F Lo σ0 hF hLo C
set_option maxHeartbeats 4000000 in
set_option maxRecDepth 100000 in
theorem o_17 (l : Launch) (D : va_G) (kA : Nat → ClassId) (z : Nat) (v : Nat → Nat) (rec : mF) (ih : ∀ t σ xs res, rec t σ xs = some res → mSem l D kA z v t σ xs res) (σ : mS) (xs : List Int32) (res : mR) (h : k_17 rec σ xs = some res) : s_17 l D kA z v σ xs res := by
  intro x0 hxs
  subst hxs
  obtain ⟨σf, rf, dd⟩ := res
  have h : (if x0 < 97 then (rec 18 σ [x0]) else (if x0 ≤ 122 then (rec 19 σ [x0]) else (rec 18 σ [x0]))) = some (σf, rf, dd) := h
  refine ax_Mi.of (by decide +kernel) (Nat.le_of_ble_eq_true rfl) ?_
  intro p e s m args below meth c C hnm
  have C : ax_C p s m args meth c b_MM_letter "ClauseProverModel" 2 (some .boolean) D kA (va_A (mmW kA z v σ) s.heap.size) := C
  obtain ⟨F, hFe⟩ : ∃ F, F = dd + 1 := ⟨_, rfl⟩
  obtain ⟨Lo, hLoe⟩ : ∃ Lo, Lo = 64 * dd + 64 := ⟨_, rfl⟩
  obtain ⟨σ0, hσ0⟩ : ∃ s0, s0 = σ := ⟨_, rfl⟩
  suffices K : AW p l e { frames := F, cells := 0, slots := 0, locals := Lo } s m args below meth c D kA (va_A (mmW kA z v σ0) s.heap.size) 2 (ax_Qi below args s D kA (mmW kA z v σ0) 0 0 (fun r w1 => r = rf ∧ w1 = mmW kA z v σf)) 0 [(0, .ref z), (1, .int x0)] [] (mmW kA z v σ) 0 0 by rw [hFe, hLoe, hσ0] at K; exact ax_ls ([(0, .ref z), (1, .int x0)]) [0, 1] rfl K
  have C : ax_C p s m args meth c b_MM_letter "ClauseProverModel" 2 (some .boolean) D kA (va_A (mmW kA z v σ0) s.heap.size) := by rw [hσ0]; exact C
  have hF : dd + 1 ≤ F := by omega
  have hLo : 64 * dd + 64 ≤ Lo := by omega
  clear hFe hLoe hσ0
  refine ax_iload_n (pc := 0) C d_MM_letter_0 rfl 1 rfl ?_
  refine ax_bipush (pc := 1) C 97 d_MM_letter_1 (by decide +kernel) ?_
  refine ax_icmp_lt (pc := 3) C 12 d_MM_letter_3 (by decide) (fun hc => ?_) (fun hc => ?_)
  · have h := it_t hc h
    refine ax_ls ([(0, .ref z), (1, .int x0)]) [0, 1] rfl ?_
    have hm : s_18 l D kA z v σ [x0] (σf, rf, _) := ih 18 _ _ _ h
    exact hm _ rfl p e s m args below meth c F Lo σ0 hF hLo C
  · have h := it_f hc h
    refine ax_iload_n (pc := 6) C d_MM_letter_6 rfl 1 rfl ?_
    refine ax_bipush (pc := 7) C 122 d_MM_letter_7 (by decide +kernel) ?_
    refine ax_icmp_le (pc := 9) C 24 d_MM_letter_9 (by decide) (fun hc => ?_) (fun hc => ?_)
    · have h := it_t hc h
      refine ax_ls ([(0, .ref z), (1, .int x0)]) [0, 1] rfl ?_
      have hm : s_19 l D kA z v σ [x0] (σf, rf, _) := ih 19 _ _ _ h
      exact hm _ rfl p e s m args below meth c F Lo σ0 hF hLo C
    · have h := it_f hc h
      refine ax_ls ([(0, .ref z), (1, .int x0)]) [0, 1] rfl ?_
      have hm : s_18 l D kA z v σ [x0] (σf, rf, _) := ih 18 _ _ _ h
      exact hm _ rfl p e s m args below meth c F Lo σ0 hF hLo C
set_option maxHeartbeats 4000000 in
set_option maxRecDepth 100000 in
theorem o_18 (l : Launch) (D : va_G) (kA : Nat → ClassId) (z : Nat) (v : Nat → Nat) (rec : mF) (ih : ∀ t σ xs res, rec t σ xs = some res → mSem l D kA z v t σ xs res) (σ : mS) (xs : List Int32) (res : mR) (h : k_18 rec σ xs = some res) : s_18 l D kA z v σ xs res := by
  intro x0 hxs
  subst hxs
  obtain ⟨σf, rf, dd⟩ := res
  have h : (if x0 < 65 then (rec 20 σ [x0]) else (if 90 < x0 then (rec 20 σ [x0]) else (rec 19 σ [x0]))) = some (σf, rf, dd) := h
  intro p e s m args below meth c F Lo σ0 hF hLo C
  dsimp only at hF hLo ⊢
  refine ax_iload_n (pc := 12) C d_MM_letter_12 rfl 1 rfl ?_
  refine ax_bipush (pc := 13) C 65 d_MM_letter_13 (by decide +kernel) ?_
  refine ax_icmp_lt (pc := 15) C 28 d_MM_letter_15 (by decide) (fun hc => ?_) (fun hc => ?_)
  · have h := it_t hc h
    refine ax_ls ([(0, .ref z), (1, .int x0)]) [0, 1] rfl ?_
    have hm : s_20 l D kA z v σ [x0] (σf, rf, _) := ih 20 _ _ _ h
    exact hm _ rfl p e s m args below meth c F Lo σ0 hF hLo C
  · have h := it_f hc h
    refine ax_iload_n (pc := 18) C d_MM_letter_18 rfl 1 rfl ?_
    refine ax_bipush (pc := 19) C 90 d_MM_letter_19 (by decide +kernel) ?_
    refine ax_icmp_gt (pc := 21) C 28 d_MM_letter_21 (by decide) (fun hc => ?_) (fun hc => ?_)
    · have h := it_t hc h
      refine ax_ls ([(0, .ref z), (1, .int x0)]) [0, 1] rfl ?_
      have hm : s_20 l D kA z v σ [x0] (σf, rf, _) := ih 20 _ _ _ h
      exact hm _ rfl p e s m args below meth c F Lo σ0 hF hLo C
    · have h := it_f hc h
      refine ax_ls ([(0, .ref z), (1, .int x0)]) [0, 1] rfl ?_
      have hm : s_19 l D kA z v σ [x0] (σf, rf, _) := ih 19 _ _ _ h
      exact hm _ rfl p e s m args below meth c F Lo σ0 hF hLo C
set_option maxHeartbeats 4000000 in
set_option maxRecDepth 100000 in
theorem o_19 (l : Launch) (D : va_G) (kA : Nat → ClassId) (z : Nat) (v : Nat → Nat) (rec : mF) (ih : ∀ t σ xs res, rec t σ xs = some res → mSem l D kA z v t σ xs res) (σ : mS) (xs : List Int32) (res : mR) (h : k_19 rec σ xs = some res) : s_19 l D kA z v σ xs res := by
  intro x0 hxs
  subst hxs
  obtain ⟨σf, rf, dd⟩ := res
  have h : (rec 21 σ [x0, 1]) = some (σf, rf, dd) := h
  intro p e s m args below meth c F Lo σ0 hF hLo C
  dsimp only at hF hLo ⊢
  refine ax_iconst (pc := 24) C 1 d_MM_letter_24 (by decide +kernel) ?_
  refine ax_goto (pc := 25) C 29 d_MM_letter_25 (by decide) ?_
  refine ax_ls ([(0, .ref z), (1, .int x0)]) [0, 1] rfl ?_
  have hm : s_21 l D kA z v σ [x0, 1] (σf, rf, _) := ih 21 _ _ _ h
  exact hm _ _ rfl p e s m args below meth c F Lo σ0 hF hLo C
set_option maxHeartbeats 4000000 in
set_option maxRecDepth 100000 in
theorem o_20 (l : Launch) (D : va_G) (kA : Nat → ClassId) (z : Nat) (v : Nat → Nat) (rec : mF) (ih : ∀ t σ xs res, rec t σ xs = some res → mSem l D kA z v t σ xs res) (σ : mS) (xs : List Int32) (res : mR) (h : k_20 rec σ xs = some res) : s_20 l D kA z v σ xs res := by
  intro x0 hxs
  subst hxs
  obtain ⟨σf, rf, dd⟩ := res
  have h : (rec 21 σ [x0, 0]) = some (σf, rf, dd) := h
  intro p e s m args below meth c F Lo σ0 hF hLo C
  dsimp only at hF hLo ⊢
  refine ax_iconst (pc := 28) C 0 d_MM_letter_28 (by decide +kernel) ?_
  refine ax_ls ([(0, .ref z), (1, .int x0)]) [0, 1] rfl ?_
  have hm : s_21 l D kA z v σ [x0, 0] (σf, rf, _) := ih 21 _ _ _ h
  exact hm _ _ rfl p e s m args below meth c F Lo σ0 hF hLo C
set_option maxHeartbeats 4000000 in
set_option maxRecDepth 100000 in
theorem o_21 (l : Launch) (D : va_G) (kA : Nat → ClassId) (z : Nat) (v : Nat → Nat) (rec : mF) (ih : ∀ t σ xs res, rec t σ xs = some res → mSem l D kA z v t σ xs res) (σ : mS) (xs : List Int32) (res : mR) (h : k_21 rec σ xs = some res) : s_21 l D kA z v σ xs res := by
  intro x0 x1 hxs
  subst hxs
  obtain ⟨σf, rf, dd⟩ := res
  have h : (if x1 = 0 ∨ x1 = 1 then some (σ, x1, 0) else none) = some (σf, rf, dd) := h
  intro p e s m args below meth c F Lo σ0 hF hLo C
  dsimp only at hF hLo ⊢
  obtain ⟨hb, h⟩ := it_g h
  cases h
  exact ax_zret (pc := 29) C d_MM_letter_29 (nb01 hb) ⟨rfl, rfl⟩ (Nat.le_refl _) (Nat.le_refl _)
set_option maxHeartbeats 4000000 in
set_option maxRecDepth 100000 in
theorem o_22 (l : Launch) (D : va_G) (kA : Nat → ClassId) (z : Nat) (v : Nat → Nat) (rec : mF) (ih : ∀ t σ xs res, rec t σ xs = some res → mSem l D kA z v t σ xs res) (σ : mS) (xs : List Int32) (res : mR) (h : k_22 rec σ xs = some res) : s_22 l D kA z v σ xs res := by
  intro x0 hxs
  subst hxs
  obtain ⟨σf, rf, dd⟩ := res
  have h : (bnd (rec 17 σ [x0]) (fun σ1 r1 => if r1 = 0 then (if x0 < 48 then (rec 23 σ1 [x0]) else (if x0 ≤ 57 then (rec 24 σ1 [x0]) else (rec 23 σ1 [x0]))) else (rec 24 σ1 [x0]))) = some (σf, rf, dd) := h
  refine ax_Mi.of (by decide +kernel) (Nat.le_of_ble_eq_true rfl) ?_
  intro p e s m args below meth c C hnm
  have C : ax_C p s m args meth c b_MM_inWord "ClauseProverModel" 2 (some .boolean) D kA (va_A (mmW kA z v σ) s.heap.size) := C
  obtain ⟨F, hFe⟩ : ∃ F, F = dd + 1 := ⟨_, rfl⟩
  obtain ⟨Lo, hLoe⟩ : ∃ Lo, Lo = 64 * dd + 64 := ⟨_, rfl⟩
  obtain ⟨σ0, hσ0⟩ : ∃ s0, s0 = σ := ⟨_, rfl⟩
  suffices K : AW p l e { frames := F, cells := 0, slots := 0, locals := Lo } s m args below meth c D kA (va_A (mmW kA z v σ0) s.heap.size) 2 (ax_Qi below args s D kA (mmW kA z v σ0) 0 0 (fun r w1 => r = rf ∧ w1 = mmW kA z v σf)) 0 [(0, .ref z), (1, .int x0)] [] (mmW kA z v σ) 0 0 by rw [hFe, hLoe, hσ0] at K; exact ax_ls ([(0, .ref z), (1, .int x0)]) [0, 1] rfl K
  have C : ax_C p s m args meth c b_MM_inWord "ClauseProverModel" 2 (some .boolean) D kA (va_A (mmW kA z v σ0) s.heap.size) := by rw [hσ0]; exact C
  have hF : dd + 1 ≤ F := by omega
  have hLo : 64 * dd + 64 ≤ Lo := by omega
  clear hFe hLoe hσ0
  refine ax_aload_n (pc := 0) C d_MM_inWord_0 rfl 0 rfl ?_
  refine ax_iload_n (pc := 1) C d_MM_inWord_1 rfl 1 rfl ?_
  obtain ⟨σ1, r1, d1_1, d2_1, h1, h, hd2, hd1⟩ := it_b h
  have hm : s_17 l D kA z v σ [x0] (σ1, r1, d1_1) := ih 17 _ _ _ h1
  refine mc_Vi (pc := 2) C (As := [.int x0]) (rest := []) (hm _ rfl) ml_MM_405 d_MM_inWord_2 rfl rfl (by dsimp only; omega) (by dsimp only; omega) (Nat.le_of_ble_eq_true rfl) (Nat.le_of_ble_eq_true rfl) (Nat.le_of_ble_eq_true rfl) ?_
  have hF : d2_1 + 1 ≤ F := by omega
  have hLo : 64 * d2_1 + 64 ≤ Lo := by omega
  refine ax_if_ne (pc := 5) C 26 d_MM_inWord_5 (by decide) (fun hc => ?_) (fun hc => ?_)
  · have h := it_f hc h
    refine ax_ls ([(0, .ref z), (1, .int x0)]) [0, 1] rfl ?_
    have hm : s_24 l D kA z v σ1 [x0] (σf, rf, _) := ih 24 _ _ _ h
    exact hm _ rfl p e s m args below meth c F Lo σ0 hF hLo C
  · have h := it_t hc h
    refine ax_iload_n (pc := 8) C d_MM_inWord_8 rfl 1 rfl ?_
    refine ax_bipush (pc := 9) C 48 d_MM_inWord_9 (by decide +kernel) ?_
    refine ax_icmp_lt (pc := 11) C 20 d_MM_inWord_11 (by decide) (fun hc => ?_) (fun hc => ?_)
    · have h := it_t hc h
      refine ax_ls ([(0, .ref z), (1, .int x0)]) [0, 1] rfl ?_
      have hm : s_23 l D kA z v σ1 [x0] (σf, rf, _) := ih 23 _ _ _ h
      exact hm _ rfl p e s m args below meth c F Lo σ0 hF hLo C
    · have h := it_f hc h
      refine ax_iload_n (pc := 14) C d_MM_inWord_14 rfl 1 rfl ?_
      refine ax_bipush (pc := 15) C 57 d_MM_inWord_15 (by decide +kernel) ?_
      refine ax_icmp_le (pc := 17) C 26 d_MM_inWord_17 (by decide) (fun hc => ?_) (fun hc => ?_)
      · have h := it_t hc h
        refine ax_ls ([(0, .ref z), (1, .int x0)]) [0, 1] rfl ?_
        have hm : s_24 l D kA z v σ1 [x0] (σf, rf, _) := ih 24 _ _ _ h
        exact hm _ rfl p e s m args below meth c F Lo σ0 hF hLo C
      · have h := it_f hc h
        refine ax_ls ([(0, .ref z), (1, .int x0)]) [0, 1] rfl ?_
        have hm : s_23 l D kA z v σ1 [x0] (σf, rf, _) := ih 23 _ _ _ h
        exact hm _ rfl p e s m args below meth c F Lo σ0 hF hLo C
set_option maxHeartbeats 4000000 in
set_option maxRecDepth 100000 in
theorem o_23 (l : Launch) (D : va_G) (kA : Nat → ClassId) (z : Nat) (v : Nat → Nat) (rec : mF) (ih : ∀ t σ xs res, rec t σ xs = some res → mSem l D kA z v t σ xs res) (σ : mS) (xs : List Int32) (res : mR) (h : k_23 rec σ xs = some res) : s_23 l D kA z v σ xs res := by
  intro x0 hxs
  subst hxs
  obtain ⟨σf, rf, dd⟩ := res
  have h : (if x0 = 95 then (rec 24 σ [x0]) else (rec 25 σ [x0, 0])) = some (σf, rf, dd) := h
  intro p e s m args below meth c F Lo σ0 hF hLo C
  dsimp only at hF hLo ⊢
  refine ax_iload_n (pc := 20) C d_MM_inWord_20 rfl 1 rfl ?_
  refine ax_bipush (pc := 21) C 95 d_MM_inWord_21 (by decide +kernel) ?_
  refine ax_icmp_ne (pc := 23) C 30 d_MM_inWord_23 (by decide) (fun hc => ?_) (fun hc => ?_)
  · have h := it_f hc h
    refine ax_iconst (pc := 30) C 0 d_MM_inWord_30 (by decide +kernel) ?_
    refine ax_ls ([(0, .ref z), (1, .int x0)]) [0, 1] rfl ?_
    have hm : s_25 l D kA z v σ [x0, 0] (σf, rf, _) := ih 25 _ _ _ h
    exact hm _ _ rfl p e s m args below meth c F Lo σ0 hF hLo C
  · have h := it_t hc h
    refine ax_ls ([(0, .ref z), (1, .int x0)]) [0, 1] rfl ?_
    have hm : s_24 l D kA z v σ [x0] (σf, rf, _) := ih 24 _ _ _ h
    exact hm _ rfl p e s m args below meth c F Lo σ0 hF hLo C
set_option maxHeartbeats 4000000 in
set_option maxRecDepth 100000 in
theorem o_24 (l : Launch) (D : va_G) (kA : Nat → ClassId) (z : Nat) (v : Nat → Nat) (rec : mF) (ih : ∀ t σ xs res, rec t σ xs = some res → mSem l D kA z v t σ xs res) (σ : mS) (xs : List Int32) (res : mR) (h : k_24 rec σ xs = some res) : s_24 l D kA z v σ xs res := by
  intro x0 hxs
  subst hxs
  obtain ⟨σf, rf, dd⟩ := res
  have h : (rec 25 σ [x0, 1]) = some (σf, rf, dd) := h
  intro p e s m args below meth c F Lo σ0 hF hLo C
  dsimp only at hF hLo ⊢
  refine ax_iconst (pc := 26) C 1 d_MM_inWord_26 (by decide +kernel) ?_
  refine ax_goto (pc := 27) C 31 d_MM_inWord_27 (by decide) ?_
  refine ax_ls ([(0, .ref z), (1, .int x0)]) [0, 1] rfl ?_
  have hm : s_25 l D kA z v σ [x0, 1] (σf, rf, _) := ih 25 _ _ _ h
  exact hm _ _ rfl p e s m args below meth c F Lo σ0 hF hLo C
set_option maxHeartbeats 4000000 in
set_option maxRecDepth 100000 in
theorem o_25 (l : Launch) (D : va_G) (kA : Nat → ClassId) (z : Nat) (v : Nat → Nat) (rec : mF) (ih : ∀ t σ xs res, rec t σ xs = some res → mSem l D kA z v t σ xs res) (σ : mS) (xs : List Int32) (res : mR) (h : k_25 rec σ xs = some res) : s_25 l D kA z v σ xs res := by
  intro x0 x1 hxs
  subst hxs
  obtain ⟨σf, rf, dd⟩ := res
  have h : (if x1 = 0 ∨ x1 = 1 then some (σ, x1, 0) else none) = some (σf, rf, dd) := h
  intro p e s m args below meth c F Lo σ0 hF hLo C
  dsimp only at hF hLo ⊢
  obtain ⟨hb, h⟩ := it_g h
  cases h
  exact ax_zret (pc := 31) C d_MM_inWord_31 (nb01 hb) ⟨rfl, rfl⟩ (Nat.le_refl _) (Nat.le_refl _)
set_option maxHeartbeats 4000000 in
set_option maxRecDepth 100000 in
theorem o_26 (l : Launch) (D : va_G) (kA : Nat → ClassId) (z : Nat) (v : Nat → Nat) (rec : mF) (ih : ∀ t σ xs res, rec t σ xs = some res → mSem l D kA z v t σ xs res) (σ : mS) (xs : List Int32) (res : mR) (h : k_26 rec σ xs = some res) : s_26 l D kA z v σ xs res := by
  intro x0 x1 hxs
  subst hxs
  obtain ⟨σf, rf, dd⟩ := res
  have h : (if (σ.1 2) ≤ x0 then (rec 27 σ [x0, x1]) else (if bin x0 65536 = true then (if (σ.2.1 0 (Int32.toNatClampNeg x0)) = x1 then (rec 28 σ [x0, x1, 1]) else (rec 27 σ [x0, x1])) else none)) = some (σf, rf, dd) := h
  refine ax_Mi.of (by decide +kernel) (Nat.le_of_ble_eq_true rfl) ?_
  intro p e s m args below meth c C hnm
  have C : ax_C p s m args meth c b_MM_at "ClauseProverModel" 3 (some .boolean) D kA (va_A (mmW kA z v σ) s.heap.size) := C
  obtain ⟨F, hFe⟩ : ∃ F, F = dd + 1 := ⟨_, rfl⟩
  obtain ⟨Lo, hLoe⟩ : ∃ Lo, Lo = 64 * dd + 64 := ⟨_, rfl⟩
  obtain ⟨σ0, hσ0⟩ : ∃ s0, s0 = σ := ⟨_, rfl⟩
  suffices K : AW p l e { frames := F, cells := 0, slots := 0, locals := Lo } s m args below meth c D kA (va_A (mmW kA z v σ0) s.heap.size) 3 (ax_Qi below args s D kA (mmW kA z v σ0) 0 0 (fun r w1 => r = rf ∧ w1 = mmW kA z v σf)) 0 [(0, .ref z), (1, .int x0), (2, .int x1)] [] (mmW kA z v σ) 0 0 by rw [hFe, hLoe, hσ0] at K; exact ax_ls ([(0, .ref z), (1, .int x0), (2, .int x1)]) [0, 1, 2] rfl K
  have C : ax_C p s m args meth c b_MM_at "ClauseProverModel" 3 (some .boolean) D kA (va_A (mmW kA z v σ0) s.heap.size) := by rw [hσ0]; exact C
  have hF : dd + 1 ≤ F := by omega
  have hLo : 64 * dd + 64 ≤ Lo := by omega
  clear hFe hLoe hσ0
  refine ax_iload_n (pc := 0) C d_MM_at_0 rfl 1 rfl ?_
  refine ax_aload_n (pc := 1) C d_MM_at_1 rfl 0 rfl ?_
  refine mg_17 (pc := 2) C d_MM_at_2 ?_
  refine ax_icmp_ge (pc := 5) C 22 d_MM_at_5 (by decide) (fun hc => ?_) (fun hc => ?_)
  · have h := it_t hc h
    refine ax_ls ([(0, .ref z), (1, .int x0), (2, .int x1)]) [0, 1, 2] rfl ?_
    have hm : s_27 l D kA z v σ [x0, x1] (σf, rf, _) := ih 27 _ _ _ h
    exact hm _ _ rfl p e s m args below meth c F Lo σ0 hF hLo C
  · have h := it_f hc h
    refine ax_aload_n (pc := 8) C d_MM_at_8 rfl 0 rfl ?_
    refine mg_8 (pc := 9) C d_MM_at_9 ?_
    refine ax_iload_n (pc := 12) C d_MM_at_12 rfl 1 rfl ?_
    obtain ⟨hb, h⟩ := it_g h
    refine ml_0 (pc := 13) C d_MM_at_13 (bin_in hb) ?_
    refine ax_iload_n (pc := 14) C d_MM_at_14 rfl 2 rfl ?_
    refine ax_icmp_ne (pc := 15) C 22 d_MM_at_15 (by decide) (fun hc => ?_) (fun hc => ?_)
    · have h := it_f hc h
      refine ax_ls ([(0, .ref z), (1, .int x0), (2, .int x1)]) [0, 1, 2] rfl ?_
      have hm : s_27 l D kA z v σ [x0, x1] (σf, rf, _) := ih 27 _ _ _ h
      exact hm _ _ rfl p e s m args below meth c F Lo σ0 hF hLo C
    · have h := it_t hc h
      refine ax_iconst (pc := 18) C 1 d_MM_at_18 (by decide +kernel) ?_
      refine ax_goto (pc := 19) C 23 d_MM_at_19 (by decide) ?_
      refine ax_ls ([(0, .ref z), (1, .int x0), (2, .int x1)]) [0, 1, 2] rfl ?_
      have hm : s_28 l D kA z v σ [x0, x1, 1] (σf, rf, _) := ih 28 _ _ _ h
      exact hm _ _ _ rfl p e s m args below meth c F Lo σ0 hF hLo C
set_option maxHeartbeats 4000000 in
set_option maxRecDepth 100000 in
theorem o_27 (l : Launch) (D : va_G) (kA : Nat → ClassId) (z : Nat) (v : Nat → Nat) (rec : mF) (ih : ∀ t σ xs res, rec t σ xs = some res → mSem l D kA z v t σ xs res) (σ : mS) (xs : List Int32) (res : mR) (h : k_27 rec σ xs = some res) : s_27 l D kA z v σ xs res := by
  intro x0 x1 hxs
  subst hxs
  obtain ⟨σf, rf, dd⟩ := res
  have h : (rec 28 σ [x0, x1, 0]) = some (σf, rf, dd) := h
  intro p e s m args below meth c F Lo σ0 hF hLo C
  dsimp only at hF hLo ⊢
  refine ax_iconst (pc := 22) C 0 d_MM_at_22 (by decide +kernel) ?_
  refine ax_ls ([(0, .ref z), (1, .int x0), (2, .int x1)]) [0, 1, 2] rfl ?_
  have hm : s_28 l D kA z v σ [x0, x1, 0] (σf, rf, _) := ih 28 _ _ _ h
  exact hm _ _ _ rfl p e s m args below meth c F Lo σ0 hF hLo C
set_option maxHeartbeats 4000000 in
set_option maxRecDepth 100000 in
theorem o_28 (l : Launch) (D : va_G) (kA : Nat → ClassId) (z : Nat) (v : Nat → Nat) (rec : mF) (ih : ∀ t σ xs res, rec t σ xs = some res → mSem l D kA z v t σ xs res) (σ : mS) (xs : List Int32) (res : mR) (h : k_28 rec σ xs = some res) : s_28 l D kA z v σ xs res := by
  intro x0 x1 x2 hxs
  subst hxs
  obtain ⟨σf, rf, dd⟩ := res
  have h : (if x2 = 0 ∨ x2 = 1 then some (σ, x2, 0) else none) = some (σf, rf, dd) := h
  intro p e s m args below meth c F Lo σ0 hF hLo C
  dsimp only at hF hLo ⊢
  obtain ⟨hb, h⟩ := it_g h
  cases h
  exact ax_zret (pc := 23) C d_MM_at_23 (nb01 hb) ⟨rfl, rfl⟩ (Nat.le_refl _) (Nat.le_refl _)
set_option maxHeartbeats 4000000 in
set_option maxRecDepth 100000 in
theorem o_29 (l : Launch) (D : va_G) (kA : Nat → ClassId) (z : Nat) (v : Nat → Nat) (rec : mF) (ih : ∀ t σ xs res, rec t σ xs = some res → mSem l D kA z v t σ xs res) (σ : mS) (xs : List Int32) (res : mR) (h : k_29 rec σ xs = some res) : s_29 l D kA z v σ xs res := by
  intro x0 x1 hxs
  subst hxs
  obtain ⟨σf, rf, dd⟩ := res
  have h : (if bin x0 20100 = true then (if ((σ.2.1 30 (Int32.toNatClampNeg x0)) : Int32).toInt < 0 ∨ 5 < ((σ.2.1 30 (Int32.toNatClampNeg x0)) : Int32).toInt then (if bin x0 20100 = true then (bnd (rec 29 σ [(σ.2.1 31 (Int32.toNatClampNeg x0)), x1]) (fun σ1 r1 => some (σ1, r1, 0))) else none) else (if ((σ.2.1 30 (Int32.toNatClampNeg x0)) : Int32) = 0 then (some (σ, 1, 0)) else (if ((σ.2.1 30 (Int32.toNatClampNeg x0)) : Int32) = 1 then (if bin x0 20100 = true then (if x1 = 0 then (rec 30 σ [x0, x1, 1, (σ.2.1 31 (Int32.toNatClampNeg x0))]) else (rec 30 σ [x0, x1, 0, (σ.2.1 31 (Int32.toNatClampNeg x0))])) else none) else (if ((σ.2.1 30 (Int32.toNatClampNeg x0)) : Int32) = 2 then (if bin x0 20100 = true then (if (σ.2.1 30 (Int32.toNatClampNeg x0)) = 2 then (rec 31 σ [x0, x1, 1]) else (rec 31 σ [x0, x1, 0])) else none) else (if ((σ.2.1 30 (Int32.toNatClampNeg x0)) : Int32) = 3 then (if bin x0 20100 = true then (if (σ.2.1 30 (Int32.toNatClampNeg x0)) = 2 then (rec 31 σ [x0, x1, 1]) else (rec 31 σ [x0, x1, 0])) else none) else (if ((σ.2.1 30 (Int32.toNatClampNeg x0)) : Int32) = 4 then (if x1 = 0 then (if bin x0 20100 = true then (bnd (rec 29 σ [(σ.2.1 31 (Int32.toNatClampNeg x0)), 1]) (fun σ2 r2 => if bin x0 20100 = true then (bnd (rec 29 σ2 [(σ2.2.1 32 (Int32.toNatClampNeg x0)), 0]) (fun σ3 r3 => bnd (rec 45 σ3 [((r2 : Int32) + r3)]) (fun σ4 r4 => rec 33 σ4 [x0, x1, r4]))) else none)) else none) else (if bin x0 20100 = true then (bnd (rec 29 σ [(σ.2.1 31 (Int32.toNatClampNeg x0)), 0]) (fun σ5 r5 => if bin x0 20100 = true then (bnd (rec 29 σ5 [(σ5.2.1 32 (Int32.toNatClampNeg x0)), 1]) (fun σ6 r6 => bnd (rec 45 σ6 [((r5 : Int32) * r6)]) (fun σ7 r7 => rec 33 σ7 [x0, x1, r7]))) else none)) else none)) else (if bin x0 20100 = true then (bnd (rec 29 σ [(σ.2.1 31 (Int32.toNatClampNeg x0)), 1]) (fun σ8 r8 => if bin x0 20100 = true then (bnd (rec 29 σ8 [(σ8.2.1 32 (Int32.toNatClampNeg x0)), 1]) (fun σ9 r9 => if 200 < r8 then (rec 34 σ9 [x0, x1, r8, r9]) else (if r9 ≤ 200 then (if bin x0 20100 = true then (bnd (rec 29 σ9 [(σ9.2.1 31 (Int32.toNatClampNeg x0)), 0]) (fun σ10 r10 => if bin x0 20100 = true then (bnd (rec 29 σ10 [(σ10.2.1 32 (Int32.toNatClampNeg x0)), 0]) (fun σ11 r11 => if x1 = 0 then (bnd (rec 45 σ11 [((((r8 : Int32) * r9) : Int32) + ((r10 : Int32) * r11))]) (fun σ12 r12 => rec 35 σ12 [x0, x1, r8, r9, r10, r11, r12])) else (bnd (rec 45 σ11 [((((r10 : Int32) * r9) : Int32) + ((r11 : Int32) * r8))]) (fun σ13 r13 => rec 35 σ13 [x0, x1, r8, r9, r10, r11, r13])))) else none)) else none) else (rec 34 σ9 [x0, x1, r8, r9])))) else none)) else none))))))) else none) = some (σf, rf, dd) := h
  refine ax_Mi.of (by decide +kernel) (Nat.le_of_ble_eq_true rfl) ?_
  intro p e s m args below meth c C hnm
  have C : ax_C p s m args meth c b_MM_count2 "ClauseProverModel" 7 (some .int) D kA (va_A (mmW kA z v σ) s.heap.size) := C
  obtain ⟨F, hFe⟩ : ∃ F, F = dd + 1 := ⟨_, rfl⟩
  obtain ⟨Lo, hLoe⟩ : ∃ Lo, Lo = 64 * dd + 64 := ⟨_, rfl⟩
  obtain ⟨σ0, hσ0⟩ : ∃ s0, s0 = σ := ⟨_, rfl⟩
  suffices K : AW p l e { frames := F, cells := 0, slots := 0, locals := Lo } s m args below meth c D kA (va_A (mmW kA z v σ0) s.heap.size) 7 (ax_Qi below args s D kA (mmW kA z v σ0) 0 0 (fun r w1 => r = rf ∧ w1 = mmW kA z v σf)) 0 [(0, .ref z), (1, .int x0), (2, .int x1)] [] (mmW kA z v σ) 0 0 by rw [hFe, hLoe, hσ0] at K; exact ax_ls ([(0, .ref z), (1, .int x0), (2, .int x1)]) [0, 1, 2] rfl K
  have C : ax_C p s m args meth c b_MM_count2 "ClauseProverModel" 7 (some .int) D kA (va_A (mmW kA z v σ0) s.heap.size) := by rw [hσ0]; exact C
  have hF : dd + 1 ≤ F := by omega
  have hLo : 64 * dd + 64 ≤ Lo := by omega
  clear hFe hLoe hσ0
  refine ax_aload_n (pc := 0) C d_MM_count2_0 rfl 0 rfl ?_
  refine mg_105 (pc := 1) C d_MM_count2_1 ?_
  refine ax_iload_n (pc := 4) C d_MM_count2_4 rfl 1 rfl ?_
  obtain ⟨hb, h⟩ := it_g h
  refine ml_30 (pc := 5) C d_MM_count2_5 (bin_in hb) ?_
  by_cases hr : ((σ.2.1 30 (Int32.toNatClampNeg x0)) : Int32).toInt < 0 ∨ 5 < ((σ.2.1 30 (Int32.toNatClampNeg x0)) : Int32).toInt
  · have h := it_t hr h
    refine ax_tableOut (pc := 6) C 305 d_MM_count2_6 hr (by decide) ?_
    refine ax_aload_n (pc := 305) C d_MM_count2_305 rfl 0 rfl ?_
    refine ax_aload_n (pc := 306) C d_MM_count2_306 rfl 0 rfl ?_
    refine mg_108 (pc := 307) C d_MM_count2_307 ?_
    refine ax_iload_n (pc := 310) C d_MM_count2_310 rfl 1 rfl ?_
    obtain ⟨hb, h⟩ := it_g h
    refine ml_31 (pc := 311) C d_MM_count2_311 (bin_in hb) ?_
    refine ax_iload_n (pc := 312) C d_MM_count2_312 rfl 2 rfl ?_
    obtain ⟨σ1, r1, d1_1, d2_1, h1, h, hd2, hd1⟩ := it_b h
    have hm : s_29 l D kA z v σ [(σ.2.1 31 (Int32.toNatClampNeg x0)), x1] (σ1, r1, d1_1) := ih 29 _ _ _ h1
    refine mc_Vi (pc := 313) C (As := [.int (σ.2.1 31 (Int32.toNatClampNeg x0)), .int x1]) (rest := []) (hm _ _ rfl) ml_MM_532 d_MM_count2_313 rfl rfl (by dsimp only; omega) (by dsimp only; omega) (Nat.le_of_ble_eq_true rfl) (Nat.le_of_ble_eq_true rfl) (Nat.le_of_ble_eq_true rfl) ?_
    have hF : d2_1 + 1 ≤ F := by omega
    have hLo : 64 * d2_1 + 64 ≤ Lo := by omega
    cases h
    exact ax_iret (pc := 316) C d_MM_count2_316 ⟨rfl, rfl⟩ (Nat.le_refl _) (Nat.le_refl _)
  · have h := it_f hr h
    by_cases hv : ((σ.2.1 30 (Int32.toNatClampNeg x0)) : Int32) = 0
    · have h := it_t hv h
      refine ax_tableIn (pc := 6) C 44 d_MM_count2_6 (by omega) (by omega) (by rw [hv]; rfl) (by decide) ?_
      refine ax_iconst (pc := 44) C 1 d_MM_count2_44 (by decide +kernel) ?_
      cases h
      exact ax_iret (pc := 45) C d_MM_count2_45 ⟨rfl, rfl⟩ (Nat.le_refl _) (Nat.le_refl _)
    · have h := it_f hv h
      have hn0 : ¬ ((σ.2.1 30 (Int32.toNatClampNeg x0)) : Int32).toInt = 0 := fun q => hv (i32q (by rw [q]; rfl))
      by_cases hv : ((σ.2.1 30 (Int32.toNatClampNeg x0)) : Int32) = 1
      · have h := it_t hv h
        refine ax_tableIn (pc := 6) C 46 d_MM_count2_6 (by omega) (by omega) (by rw [hv]; rfl) (by decide) ?_
        refine ax_aload_n (pc := 46) C d_MM_count2_46 rfl 0 rfl ?_
        refine ax_aload_n (pc := 47) C d_MM_count2_47 rfl 0 rfl ?_
        refine mg_108 (pc := 48) C d_MM_count2_48 ?_
        refine ax_iload_n (pc := 51) C d_MM_count2_51 rfl 1 rfl ?_
        obtain ⟨hb, h⟩ := it_g h
        refine ml_31 (pc := 52) C d_MM_count2_52 (bin_in hb) ?_
        refine ax_iload_n (pc := 53) C d_MM_count2_53 rfl 2 rfl ?_
        refine ax_if_ne (pc := 54) C 61 d_MM_count2_54 (by decide) (fun hc => ?_) (fun hc => ?_)
        · have h := it_f hc h
          refine ax_iconst (pc := 61) C 0 d_MM_count2_61 (by decide +kernel) ?_
          refine ax_ls ([(0, .ref z), (1, .int x0), (2, .int x1)]) [0, 1, 2] rfl ?_
          have hm : s_30 l D kA z v σ [x0, x1, 0, (σ.2.1 31 (Int32.toNatClampNeg x0))] (σf, rf, _) := ih 30 _ _ _ h
          exact hm _ _ _ _ rfl p e s m args below meth c F Lo σ0 hF hLo C
        · have h := it_t hc h
          refine ax_iconst (pc := 57) C 1 d_MM_count2_57 (by decide +kernel) ?_
          refine ax_goto (pc := 58) C 62 d_MM_count2_58 (by decide) ?_
          refine ax_ls ([(0, .ref z), (1, .int x0), (2, .int x1)]) [0, 1, 2] rfl ?_
          have hm : s_30 l D kA z v σ [x0, x1, 1, (σ.2.1 31 (Int32.toNatClampNeg x0))] (σf, rf, _) := ih 30 _ _ _ h
          exact hm _ _ _ _ rfl p e s m args below meth c F Lo σ0 hF hLo C
      · have h := it_f hv h
        have hn1 : ¬ ((σ.2.1 30 (Int32.toNatClampNeg x0)) : Int32).toInt = 1 := fun q => hv (i32q (by rw [q]; rfl))
        by_cases hv : ((σ.2.1 30 (Int32.toNatClampNeg x0)) : Int32) = 2
        · have h := it_t hv h
          refine ax_tableIn (pc := 6) C 66 d_MM_count2_6 (by omega) (by omega) (by rw [hv]; rfl) (by decide) ?_
          refine ax_aload_n (pc := 66) C d_MM_count2_66 rfl 0 rfl ?_
          refine mg_105 (pc := 67) C d_MM_count2_67 ?_
          refine ax_iload_n (pc := 70) C d_MM_count2_70 rfl 1 rfl ?_
          obtain ⟨hb, h⟩ := it_g h
          refine ml_30 (pc := 71) C d_MM_count2_71 (bin_in hb) ?_
          refine ax_iconst (pc := 72) C 2 d_MM_count2_72 (by decide +kernel) ?_
          refine ax_icmp_ne (pc := 73) C 80 d_MM_count2_73 (by decide) (fun hc => ?_) (fun hc => ?_)
          · have h := it_f hc h
            refine ax_iconst (pc := 80) C 0 d_MM_count2_80 (by decide +kernel) ?_
            refine ax_ls ([(0, .ref z), (1, .int x0), (2, .int x1)]) [0, 1, 2] rfl ?_
            have hm : s_31 l D kA z v σ [x0, x1, 0] (σf, rf, _) := ih 31 _ _ _ h
            exact hm _ _ _ rfl p e s m args below meth c F Lo σ0 hF hLo C
          · have h := it_t hc h
            refine ax_iconst (pc := 76) C 1 d_MM_count2_76 (by decide +kernel) ?_
            refine ax_goto (pc := 77) C 81 d_MM_count2_77 (by decide) ?_
            refine ax_ls ([(0, .ref z), (1, .int x0), (2, .int x1)]) [0, 1, 2] rfl ?_
            have hm : s_31 l D kA z v σ [x0, x1, 1] (σf, rf, _) := ih 31 _ _ _ h
            exact hm _ _ _ rfl p e s m args below meth c F Lo σ0 hF hLo C
        · have h := it_f hv h
          have hn2 : ¬ ((σ.2.1 30 (Int32.toNatClampNeg x0)) : Int32).toInt = 2 := fun q => hv (i32q (by rw [q]; rfl))
          by_cases hv : ((σ.2.1 30 (Int32.toNatClampNeg x0)) : Int32) = 3
          · have h := it_t hv h
            refine ax_tableIn (pc := 6) C 66 d_MM_count2_6 (by omega) (by omega) (by rw [hv]; rfl) (by decide) ?_
            refine ax_aload_n (pc := 66) C d_MM_count2_66 rfl 0 rfl ?_
            refine mg_105 (pc := 67) C d_MM_count2_67 ?_
            refine ax_iload_n (pc := 70) C d_MM_count2_70 rfl 1 rfl ?_
            obtain ⟨hb, h⟩ := it_g h
            refine ml_30 (pc := 71) C d_MM_count2_71 (bin_in hb) ?_
            refine ax_iconst (pc := 72) C 2 d_MM_count2_72 (by decide +kernel) ?_
            refine ax_icmp_ne (pc := 73) C 80 d_MM_count2_73 (by decide) (fun hc => ?_) (fun hc => ?_)
            · have h := it_f hc h
              refine ax_iconst (pc := 80) C 0 d_MM_count2_80 (by decide +kernel) ?_
              refine ax_ls ([(0, .ref z), (1, .int x0), (2, .int x1)]) [0, 1, 2] rfl ?_
              have hm : s_31 l D kA z v σ [x0, x1, 0] (σf, rf, _) := ih 31 _ _ _ h
              exact hm _ _ _ rfl p e s m args below meth c F Lo σ0 hF hLo C
            · have h := it_t hc h
              refine ax_iconst (pc := 76) C 1 d_MM_count2_76 (by decide +kernel) ?_
              refine ax_goto (pc := 77) C 81 d_MM_count2_77 (by decide) ?_
              refine ax_ls ([(0, .ref z), (1, .int x0), (2, .int x1)]) [0, 1, 2] rfl ?_
              have hm : s_31 l D kA z v σ [x0, x1, 1] (σf, rf, _) := ih 31 _ _ _ h
              exact hm _ _ _ rfl p e s m args below meth c F Lo σ0 hF hLo C
          · have h := it_f hv h
            have hn3 : ¬ ((σ.2.1 30 (Int32.toNatClampNeg x0)) : Int32).toInt = 3 := fun q => hv (i32q (by rw [q]; rfl))
            by_cases hv : ((σ.2.1 30 (Int32.toNatClampNeg x0)) : Int32) = 4
            · have h := it_t hv h
              refine ax_tableIn (pc := 6) C 141 d_MM_count2_6 (by omega) (by omega) (by rw [hv]; rfl) (by decide) ?_
              refine ax_iload_n (pc := 141) C d_MM_count2_141 rfl 2 rfl ?_
              refine ax_if_eq (pc := 142) C 174 d_MM_count2_142 (by decide) (fun hc => ?_) (fun hc => ?_)
              · have h := it_t hc h
                refine ax_aload_n (pc := 174) C d_MM_count2_174 rfl 0 rfl ?_
                refine ax_aload_n (pc := 175) C d_MM_count2_175 rfl 0 rfl ?_
                refine mg_108 (pc := 176) C d_MM_count2_176 ?_
                refine ax_iload_n (pc := 179) C d_MM_count2_179 rfl 1 rfl ?_
                obtain ⟨hb, h⟩ := it_g h
                refine ml_31 (pc := 180) C d_MM_count2_180 (bin_in hb) ?_
                refine ax_iconst (pc := 181) C 1 d_MM_count2_181 (by decide +kernel) ?_
                obtain ⟨σ2, r2, d1_2, d2_2, h1, h, hd2, hd1⟩ := it_b h
                have hm : s_29 l D kA z v σ [(σ.2.1 31 (Int32.toNatClampNeg x0)), 1] (σ2, r2, d1_2) := ih 29 _ _ _ h1
                refine mc_Vi (pc := 182) C (As := [.int (σ.2.1 31 (Int32.toNatClampNeg x0)), .int 1]) (rest := []) (hm _ _ rfl) ml_MM_532 d_MM_count2_182 rfl rfl (by dsimp only; omega) (by dsimp only; omega) (Nat.le_of_ble_eq_true rfl) (Nat.le_of_ble_eq_true rfl) (Nat.le_of_ble_eq_true rfl) ?_
                have hF : d2_2 + 1 ≤ F := by omega
                have hLo : 64 * d2_2 + 64 ≤ Lo := by omega
                refine ax_aload_n (pc := 185) C d_MM_count2_185 rfl 0 rfl ?_
                refine ax_aload_n (pc := 186) C d_MM_count2_186 rfl 0 rfl ?_
                refine mg_111 (pc := 187) C d_MM_count2_187 ?_
                refine ax_iload_n (pc := 190) C d_MM_count2_190 rfl 1 rfl ?_
                obtain ⟨hb, h⟩ := it_g h
                refine ml_32 (pc := 191) C d_MM_count2_191 (bin_in hb) ?_
                refine ax_iconst (pc := 192) C 0 d_MM_count2_192 (by decide +kernel) ?_
                obtain ⟨σ3, r3, d1_3, d2_3, h1, h, hd2, hd1⟩ := it_b h
                have hm : s_29 l D kA z v σ2 [(σ2.2.1 32 (Int32.toNatClampNeg x0)), 0] (σ3, r3, d1_3) := ih 29 _ _ _ h1
                refine mc_Vi (pc := 193) C (As := [.int (σ2.2.1 32 (Int32.toNatClampNeg x0)), .int 0]) (rest := [.int r2]) (hm _ _ rfl) ml_MM_532 d_MM_count2_193 rfl rfl (by dsimp only; omega) (by dsimp only; omega) (Nat.le_of_ble_eq_true rfl) (Nat.le_of_ble_eq_true rfl) (Nat.le_of_ble_eq_true rfl) ?_
                have hF : d2_3 + 1 ≤ F := by omega
                have hLo : 64 * d2_3 + 64 ≤ Lo := by omega
                refine ax_iadd (pc := 196) C d_MM_count2_196 ?_
                obtain ⟨σ4, r4, d1_4, d2_4, h1, h, hd2, hd1⟩ := it_b h
                have hm : s_45 l D kA z v σ3 [((r2 : Int32) + r3)] (σ4, r4, d1_4) := ih 45 _ _ _ h1
                refine mc_Si (pc := 197) C (As := [.int ((r2 : Int32) + r3)]) (rest := []) (hm _ rfl) ml_MM_535 d_MM_count2_197 rfl rfl (by dsimp only; omega) (by dsimp only; omega) (Nat.le_of_ble_eq_true rfl) (Nat.le_of_ble_eq_true rfl) (Nat.le_of_ble_eq_true rfl) ?_
                have hF : d2_4 + 1 ≤ F := by omega
                have hLo : 64 * d2_4 + 64 ≤ Lo := by omega
                refine ax_ls ([(0, .ref z), (1, .int x0), (2, .int x1)]) [0, 1, 2] rfl ?_
                have hm : s_33 l D kA z v σ4 [x0, x1, r4] (σf, rf, _) := ih 33 _ _ _ h
                exact hm _ _ _ rfl p e s m args below meth c F Lo σ0 hF hLo C
              · have h := it_f hc h
                refine ax_aload_n (pc := 145) C d_MM_count2_145 rfl 0 rfl ?_
                refine ax_aload_n (pc := 146) C d_MM_count2_146 rfl 0 rfl ?_
                refine mg_108 (pc := 147) C d_MM_count2_147 ?_
                refine ax_iload_n (pc := 150) C d_MM_count2_150 rfl 1 rfl ?_
                obtain ⟨hb, h⟩ := it_g h
                refine ml_31 (pc := 151) C d_MM_count2_151 (bin_in hb) ?_
                refine ax_iconst (pc := 152) C 0 d_MM_count2_152 (by decide +kernel) ?_
                obtain ⟨σ5, r5, d1_5, d2_5, h1, h, hd2, hd1⟩ := it_b h
                have hm : s_29 l D kA z v σ [(σ.2.1 31 (Int32.toNatClampNeg x0)), 0] (σ5, r5, d1_5) := ih 29 _ _ _ h1
                refine mc_Vi (pc := 153) C (As := [.int (σ.2.1 31 (Int32.toNatClampNeg x0)), .int 0]) (rest := []) (hm _ _ rfl) ml_MM_532 d_MM_count2_153 rfl rfl (by dsimp only; omega) (by dsimp only; omega) (Nat.le_of_ble_eq_true rfl) (Nat.le_of_ble_eq_true rfl) (Nat.le_of_ble_eq_true rfl) ?_
                have hF : d2_5 + 1 ≤ F := by omega
                have hLo : 64 * d2_5 + 64 ≤ Lo := by omega
                refine ax_aload_n (pc := 156) C d_MM_count2_156 rfl 0 rfl ?_
                refine ax_aload_n (pc := 157) C d_MM_count2_157 rfl 0 rfl ?_
                refine mg_111 (pc := 158) C d_MM_count2_158 ?_
                refine ax_iload_n (pc := 161) C d_MM_count2_161 rfl 1 rfl ?_
                obtain ⟨hb, h⟩ := it_g h
                refine ml_32 (pc := 162) C d_MM_count2_162 (bin_in hb) ?_
                refine ax_iconst (pc := 163) C 1 d_MM_count2_163 (by decide +kernel) ?_
                obtain ⟨σ6, r6, d1_6, d2_6, h1, h, hd2, hd1⟩ := it_b h
                have hm : s_29 l D kA z v σ5 [(σ5.2.1 32 (Int32.toNatClampNeg x0)), 1] (σ6, r6, d1_6) := ih 29 _ _ _ h1
                refine mc_Vi (pc := 164) C (As := [.int (σ5.2.1 32 (Int32.toNatClampNeg x0)), .int 1]) (rest := [.int r5]) (hm _ _ rfl) ml_MM_532 d_MM_count2_164 rfl rfl (by dsimp only; omega) (by dsimp only; omega) (Nat.le_of_ble_eq_true rfl) (Nat.le_of_ble_eq_true rfl) (Nat.le_of_ble_eq_true rfl) ?_
                have hF : d2_6 + 1 ≤ F := by omega
                have hLo : 64 * d2_6 + 64 ≤ Lo := by omega
                refine ax_imul (pc := 167) C d_MM_count2_167 ?_
                obtain ⟨σ7, r7, d1_7, d2_7, h1, h, hd2, hd1⟩ := it_b h
                have hm : s_45 l D kA z v σ6 [((r5 : Int32) * r6)] (σ7, r7, d1_7) := ih 45 _ _ _ h1
                refine mc_Si (pc := 168) C (As := [.int ((r5 : Int32) * r6)]) (rest := []) (hm _ rfl) ml_MM_535 d_MM_count2_168 rfl rfl (by dsimp only; omega) (by dsimp only; omega) (Nat.le_of_ble_eq_true rfl) (Nat.le_of_ble_eq_true rfl) (Nat.le_of_ble_eq_true rfl) ?_
                have hF : d2_7 + 1 ≤ F := by omega
                have hLo : 64 * d2_7 + 64 ≤ Lo := by omega
                refine ax_goto (pc := 171) C 200 d_MM_count2_171 (by decide) ?_
                refine ax_ls ([(0, .ref z), (1, .int x0), (2, .int x1)]) [0, 1, 2] rfl ?_
                have hm : s_33 l D kA z v σ7 [x0, x1, r7] (σf, rf, _) := ih 33 _ _ _ h
                exact hm _ _ _ rfl p e s m args below meth c F Lo σ0 hF hLo C
            · have h := it_f hv h
              have hn4 : ¬ ((σ.2.1 30 (Int32.toNatClampNeg x0)) : Int32).toInt = 4 := fun q => hv (i32q (by rw [q]; rfl))
              have hv : ((σ.2.1 30 (Int32.toNatClampNeg x0)) : Int32) = 5 := i32q (by have e9 : (5 : Int32).toInt = 5 := rfl; omega)
              refine ax_tableIn (pc := 6) C 201 d_MM_count2_6 (by omega) (by omega) (by rw [hv]; rfl) (by decide) ?_
              refine ax_aload_n (pc := 201) C d_MM_count2_201 rfl 0 rfl ?_
              refine ax_aload_n (pc := 202) C d_MM_count2_202 rfl 0 rfl ?_
              refine mg_108 (pc := 203) C d_MM_count2_203 ?_
              refine ax_iload_n (pc := 206) C d_MM_count2_206 rfl 1 rfl ?_
              obtain ⟨hb, h⟩ := it_g h
              refine ml_31 (pc := 207) C d_MM_count2_207 (bin_in hb) ?_
              refine ax_iconst (pc := 208) C 1 d_MM_count2_208 (by decide +kernel) ?_
              obtain ⟨σ8, r8, d1_8, d2_8, h1, h, hd2, hd1⟩ := it_b h
              have hm : s_29 l D kA z v σ [(σ.2.1 31 (Int32.toNatClampNeg x0)), 1] (σ8, r8, d1_8) := ih 29 _ _ _ h1
              refine mc_Vi (pc := 209) C (As := [.int (σ.2.1 31 (Int32.toNatClampNeg x0)), .int 1]) (rest := []) (hm _ _ rfl) ml_MM_532 d_MM_count2_209 rfl rfl (by dsimp only; omega) (by dsimp only; omega) (Nat.le_of_ble_eq_true rfl) (Nat.le_of_ble_eq_true rfl) (Nat.le_of_ble_eq_true rfl) ?_
              have hF : d2_8 + 1 ≤ F := by omega
              have hLo : 64 * d2_8 + 64 ≤ Lo := by omega
              refine ax_istore_n (pc := 212) C d_MM_count2_212 rfl (Nat.le_of_ble_eq_true rfl) ([(3, .int r8), (0, .ref z), (1, .int x0), (2, .int x1)]) rfl ?_
              refine ax_aload_n (pc := 213) C d_MM_count2_213 rfl 1 rfl ?_
              refine ax_aload_n (pc := 214) C d_MM_count2_214 rfl 1 rfl ?_
              refine mg_111 (pc := 215) C d_MM_count2_215 ?_
              refine ax_iload_n (pc := 218) C d_MM_count2_218 rfl 2 rfl ?_
              obtain ⟨hb, h⟩ := it_g h
              refine ml_32 (pc := 219) C d_MM_count2_219 (bin_in hb) ?_
              refine ax_iconst (pc := 220) C 1 d_MM_count2_220 (by decide +kernel) ?_
              obtain ⟨σ9, r9, d1_9, d2_9, h1, h, hd2, hd1⟩ := it_b h
              have hm : s_29 l D kA z v σ8 [(σ8.2.1 32 (Int32.toNatClampNeg x0)), 1] (σ9, r9, d1_9) := ih 29 _ _ _ h1
              refine mc_Vi (pc := 221) C (As := [.int (σ8.2.1 32 (Int32.toNatClampNeg x0)), .int 1]) (rest := []) (hm _ _ rfl) ml_MM_532 d_MM_count2_221 rfl rfl (by dsimp only; omega) (by dsimp only; omega) (Nat.le_of_ble_eq_true rfl) (Nat.le_of_ble_eq_true rfl) (Nat.le_of_ble_eq_true rfl) ?_
              have hF : d2_9 + 1 ≤ F := by omega
              have hLo : 64 * d2_9 + 64 ≤ Lo := by omega
              refine ax_istore (pc := 224) C d_MM_count2_224 (Nat.le_of_ble_eq_true rfl) ([(4, .int r9), (3, .int r8), (0, .ref z), (1, .int x0), (2, .int x1)]) rfl ?_
              refine ax_iload_n (pc := 226) C d_MM_count2_226 rfl 1 rfl ?_
              refine ax_sipush (pc := 227) C 200 d_MM_count2_227 (by decide +kernel) ?_
              refine ax_icmp_gt (pc := 230) C 241 d_MM_count2_230 (by decide) (fun hc => ?_) (fun hc => ?_)
              · have h := it_t hc h
                refine ax_ls ([(0, .ref z), (1, .int x0), (2, .int x1), (3, .int r8), (4, .int r9)]) [2, 3, 4, 1, 0] rfl ?_
                have hm : s_34 l D kA z v σ9 [x0, x1, r8, r9] (σf, rf, _) := ih 34 _ _ _ h
                exact hm _ _ _ _ rfl p e s m args below meth c F Lo σ0 hF hLo C
              · have h := it_f hc h
                refine ax_iload (pc := 233) C d_MM_count2_233 0 rfl ?_
                refine ax_sipush (pc := 235) C 200 d_MM_count2_235 (by decide +kernel) ?_
                refine ax_icmp_le (pc := 238) C 245 d_MM_count2_238 (by decide) (fun hc => ?_) (fun hc => ?_)
                · have h := it_t hc h
                  refine ax_aload_n (pc := 245) C d_MM_count2_245 rfl 2 rfl ?_
                  refine ax_aload_n (pc := 246) C d_MM_count2_246 rfl 2 rfl ?_
                  refine mg_108 (pc := 247) C d_MM_count2_247 ?_
                  refine ax_iload_n (pc := 250) C d_MM_count2_250 rfl 3 rfl ?_
                  obtain ⟨hb, h⟩ := it_g h
                  refine ml_31 (pc := 251) C d_MM_count2_251 (bin_in hb) ?_
                  refine ax_iconst (pc := 252) C 0 d_MM_count2_252 (by decide +kernel) ?_
                  obtain ⟨σ10, r10, d1_10, d2_10, h1, h, hd2, hd1⟩ := it_b h
                  have hm : s_29 l D kA z v σ9 [(σ9.2.1 31 (Int32.toNatClampNeg x0)), 0] (σ10, r10, d1_10) := ih 29 _ _ _ h1
                  refine mc_Vi (pc := 253) C (As := [.int (σ9.2.1 31 (Int32.toNatClampNeg x0)), .int 0]) (rest := []) (hm _ _ rfl) ml_MM_532 d_MM_count2_253 rfl rfl (by dsimp only; omega) (by dsimp only; omega) (Nat.le_of_ble_eq_true rfl) (Nat.le_of_ble_eq_true rfl) (Nat.le_of_ble_eq_true rfl) ?_
                  have hF : d2_10 + 1 ≤ F := by omega
                  have hLo : 64 * d2_10 + 64 ≤ Lo := by omega
                  refine ax_istore (pc := 256) C d_MM_count2_256 (Nat.le_of_ble_eq_true rfl) ([(5, .int r10), (4, .int r9), (3, .int r8), (0, .ref z), (1, .int x0), (2, .int x1)]) rfl ?_
                  refine ax_aload_n (pc := 258) C d_MM_count2_258 rfl 3 rfl ?_
                  refine ax_aload_n (pc := 259) C d_MM_count2_259 rfl 3 rfl ?_
                  refine mg_111 (pc := 260) C d_MM_count2_260 ?_
                  refine ax_iload_n (pc := 263) C d_MM_count2_263 rfl 4 rfl ?_
                  obtain ⟨hb, h⟩ := it_g h
                  refine ml_32 (pc := 264) C d_MM_count2_264 (bin_in hb) ?_
                  refine ax_iconst (pc := 265) C 0 d_MM_count2_265 (by decide +kernel) ?_
                  obtain ⟨σ11, r11, d1_11, d2_11, h1, h, hd2, hd1⟩ := it_b h
                  have hm : s_29 l D kA z v σ10 [(σ10.2.1 32 (Int32.toNatClampNeg x0)), 0] (σ11, r11, d1_11) := ih 29 _ _ _ h1
                  refine mc_Vi (pc := 266) C (As := [.int (σ10.2.1 32 (Int32.toNatClampNeg x0)), .int 0]) (rest := []) (hm _ _ rfl) ml_MM_532 d_MM_count2_266 rfl rfl (by dsimp only; omega) (by dsimp only; omega) (Nat.le_of_ble_eq_true rfl) (Nat.le_of_ble_eq_true rfl) (Nat.le_of_ble_eq_true rfl) ?_
                  have hF : d2_11 + 1 ≤ F := by omega
                  have hLo : 64 * d2_11 + 64 ≤ Lo := by omega
                  refine ax_istore (pc := 269) C d_MM_count2_269 (Nat.le_of_ble_eq_true rfl) ([(6, .int r11), (5, .int r10), (4, .int r9), (3, .int r8), (0, .ref z), (1, .int x0), (2, .int x1)]) rfl ?_
                  refine ax_iload_n (pc := 271) C d_MM_count2_271 rfl 6 rfl ?_
                  refine ax_if_eq (pc := 272) C 291 d_MM_count2_272 (by decide) (fun hc => ?_) (fun hc => ?_)
                  · have h := it_t hc h
                    refine ax_iload_n (pc := 291) C d_MM_count2_291 rfl 3 rfl ?_
                    refine ax_iload (pc := 292) C d_MM_count2_292 2 rfl ?_
                    refine ax_imul (pc := 294) C d_MM_count2_294 ?_
                    refine ax_iload (pc := 295) C d_MM_count2_295 1 rfl ?_
                    refine ax_iload (pc := 297) C d_MM_count2_297 0 rfl ?_
                    refine ax_imul (pc := 299) C d_MM_count2_299 ?_
                    refine ax_iadd (pc := 300) C d_MM_count2_300 ?_
                    obtain ⟨σ12, r12, d1_12, d2_12, h1, h, hd2, hd1⟩ := it_b h
                    have hm : s_45 l D kA z v σ11 [((((r8 : Int32) * r9) : Int32) + ((r10 : Int32) * r11))] (σ12, r12, d1_12) := ih 45 _ _ _ h1
                    refine mc_Si (pc := 301) C (As := [.int ((((r8 : Int32) * r9) : Int32) + ((r10 : Int32) * r11))]) (rest := []) (hm _ rfl) ml_MM_535 d_MM_count2_301 rfl rfl (by dsimp only; omega) (by dsimp only; omega) (Nat.le_of_ble_eq_true rfl) (Nat.le_of_ble_eq_true rfl) (Nat.le_of_ble_eq_true rfl) ?_
                    have hF : d2_12 + 1 ≤ F := by omega
                    have hLo : 64 * d2_12 + 64 ≤ Lo := by omega
                    refine ax_ls ([(0, .ref z), (1, .int x0), (2, .int x1), (3, .int r8), (4, .int r9), (5, .int r10), (6, .int r11)]) [4, 5, 6, 3, 2, 1, 0] rfl ?_
                    have hm : s_35 l D kA z v σ12 [x0, x1, r8, r9, r10, r11, r12] (σf, rf, _) := ih 35 _ _ _ h
                    exact hm _ _ _ _ _ _ _ rfl p e s m args below meth c F Lo σ0 hF hLo C
                  · have h := it_f hc h
                    refine ax_iload (pc := 275) C d_MM_count2_275 1 rfl ?_
                    refine ax_iload (pc := 277) C d_MM_count2_277 2 rfl ?_
                    refine ax_imul (pc := 279) C d_MM_count2_279 ?_
                    refine ax_iload (pc := 280) C d_MM_count2_280 0 rfl ?_
                    refine ax_iload_n (pc := 282) C d_MM_count2_282 rfl 3 rfl ?_
                    refine ax_imul (pc := 283) C d_MM_count2_283 ?_
                    refine ax_iadd (pc := 284) C d_MM_count2_284 ?_
                    obtain ⟨σ13, r13, d1_13, d2_13, h1, h, hd2, hd1⟩ := it_b h
                    have hm : s_45 l D kA z v σ11 [((((r10 : Int32) * r9) : Int32) + ((r11 : Int32) * r8))] (σ13, r13, d1_13) := ih 45 _ _ _ h1
                    refine mc_Si (pc := 285) C (As := [.int ((((r10 : Int32) * r9) : Int32) + ((r11 : Int32) * r8))]) (rest := []) (hm _ rfl) ml_MM_535 d_MM_count2_285 rfl rfl (by dsimp only; omega) (by dsimp only; omega) (Nat.le_of_ble_eq_true rfl) (Nat.le_of_ble_eq_true rfl) (Nat.le_of_ble_eq_true rfl) ?_
                    have hF : d2_13 + 1 ≤ F := by omega
                    have hLo : 64 * d2_13 + 64 ≤ Lo := by omega
                    refine ax_goto (pc := 288) C 304 d_MM_count2_288 (by decide) ?_
                    refine ax_ls ([(0, .ref z), (1, .int x0), (2, .int x1), (3, .int r8), (4, .int r9), (5, .int r10), (6, .int r11)]) [4, 5, 6, 3, 2, 1, 0] rfl ?_
                    have hm : s_35 l D kA z v σ13 [x0, x1, r8, r9, r10, r11, r13] (σf, rf, _) := ih 35 _ _ _ h
                    exact hm _ _ _ _ _ _ _ rfl p e s m args below meth c F Lo σ0 hF hLo C
                · have h := it_f hc h
                  refine ax_ls ([(0, .ref z), (1, .int x0), (2, .int x1), (3, .int r8), (4, .int r9)]) [2, 3, 4, 1, 0] rfl ?_
                  have hm : s_34 l D kA z v σ9 [x0, x1, r8, r9] (σf, rf, _) := ih 34 _ _ _ h
                  exact hm _ _ _ _ rfl p e s m args below meth c F Lo σ0 hF hLo C
set_option maxHeartbeats 4000000 in
set_option maxRecDepth 100000 in
theorem o_30 (l : Launch) (D : va_G) (kA : Nat → ClassId) (z : Nat) (v : Nat → Nat) (rec : mF) (ih : ∀ t σ xs res, rec t σ xs = some res → mSem l D kA z v t σ xs res) (σ : mS) (xs : List Int32) (res : mR) (h : k_30 rec σ xs = some res) : s_30 l D kA z v σ xs res := by
  intro x0 x1 x2 x3 hxs
  subst hxs
  obtain ⟨σf, rf, dd⟩ := res
  have h : (bnd (rec 29 σ [x3, x2]) (fun σ1 r1 => some (σ1, r1, 0))) = some (σf, rf, dd) := h
  intro p e s m args below meth c F Lo σ0 hF hLo C
  dsimp only at hF hLo ⊢
  obtain ⟨σ1, r1, d1_1, d2_1, h1, h, hd2, hd1⟩ := it_b h
  have hm : s_29 l D kA z v σ [x3, x2] (σ1, r1, d1_1) := ih 29 _ _ _ h1
  refine mc_Vi (pc := 62) C (As := [.int x3, .int x2]) (rest := []) (hm _ _ rfl) ml_MM_532 d_MM_count2_62 rfl rfl (by dsimp only; omega) (by dsimp only; omega) (Nat.le_of_ble_eq_true rfl) (Nat.le_of_ble_eq_true rfl) (Nat.le_of_ble_eq_true rfl) ?_
  have hF : d2_1 + 1 ≤ F := by omega
  have hLo : 64 * d2_1 + 64 ≤ Lo := by omega
  cases h
  exact ax_iret (pc := 65) C d_MM_count2_65 ⟨rfl, rfl⟩ (Nat.le_refl _) (Nat.le_refl _)
set_option maxHeartbeats 4000000 in
set_option maxRecDepth 100000 in
theorem o_31 (l : Launch) (D : va_G) (kA : Nat → ClassId) (z : Nat) (v : Nat → Nat) (rec : mF) (ih : ∀ t σ xs res, rec t σ xs = some res → mSem l D kA z v t σ xs res) (σ : mS) (xs : List Int32) (res : mR) (h : k_31 rec σ xs = some res) : s_31 l D kA z v σ xs res := by
  intro x0 x1 x2 hxs
  subst hxs
  obtain ⟨σf, rf, dd⟩ := res
  have h : (if x2 = x1 then (if bin x0 20100 = true then (bnd (rec 29 σ [(σ.2.1 31 (Int32.toNatClampNeg x0)), x1]) (fun σ4 r4 => if bin x0 20100 = true then (bnd (rec 29 σ4 [(σ4.2.1 32 (Int32.toNatClampNeg x0)), x1]) (fun σ5 r5 => bnd (rec 45 σ5 [((r4 : Int32) + r5)]) (fun σ6 r6 => rec 32 σ6 [x0, x1, r6]))) else none)) else none) else (if bin x0 20100 = true then (bnd (rec 29 σ [(σ.2.1 31 (Int32.toNatClampNeg x0)), x1]) (fun σ1 r1 => if bin x0 20100 = true then (bnd (rec 29 σ1 [(σ1.2.1 32 (Int32.toNatClampNeg x0)), x1]) (fun σ2 r2 => bnd (rec 45 σ2 [((r1 : Int32) * r2)]) (fun σ3 r3 => rec 32 σ3 [x0, x1, r3]))) else none)) else none)) = some (σf, rf, dd) := h
  intro p e s m args below meth c F Lo σ0 hF hLo C
  dsimp only at hF hLo ⊢
  refine ax_iload_n (pc := 81) C d_MM_count2_81 rfl 2 rfl ?_
  refine ax_icmp_ne (pc := 82) C 114 d_MM_count2_82 (by decide) (fun hc => ?_) (fun hc => ?_)
  · have h := it_f hc h
    refine ax_aload_n (pc := 114) C d_MM_count2_114 rfl 0 rfl ?_
    refine ax_aload_n (pc := 115) C d_MM_count2_115 rfl 0 rfl ?_
    refine mg_108 (pc := 116) C d_MM_count2_116 ?_
    refine ax_iload_n (pc := 119) C d_MM_count2_119 rfl 1 rfl ?_
    obtain ⟨hb, h⟩ := it_g h
    refine ml_31 (pc := 120) C d_MM_count2_120 (bin_in hb) ?_
    refine ax_iload_n (pc := 121) C d_MM_count2_121 rfl 2 rfl ?_
    obtain ⟨σ1, r1, d1_1, d2_1, h1, h, hd2, hd1⟩ := it_b h
    have hm : s_29 l D kA z v σ [(σ.2.1 31 (Int32.toNatClampNeg x0)), x1] (σ1, r1, d1_1) := ih 29 _ _ _ h1
    refine mc_Vi (pc := 122) C (As := [.int (σ.2.1 31 (Int32.toNatClampNeg x0)), .int x1]) (rest := []) (hm _ _ rfl) ml_MM_532 d_MM_count2_122 rfl rfl (by dsimp only; omega) (by dsimp only; omega) (Nat.le_of_ble_eq_true rfl) (Nat.le_of_ble_eq_true rfl) (Nat.le_of_ble_eq_true rfl) ?_
    have hF : d2_1 + 1 ≤ F := by omega
    have hLo : 64 * d2_1 + 64 ≤ Lo := by omega
    refine ax_aload_n (pc := 125) C d_MM_count2_125 rfl 0 rfl ?_
    refine ax_aload_n (pc := 126) C d_MM_count2_126 rfl 0 rfl ?_
    refine mg_111 (pc := 127) C d_MM_count2_127 ?_
    refine ax_iload_n (pc := 130) C d_MM_count2_130 rfl 1 rfl ?_
    obtain ⟨hb, h⟩ := it_g h
    refine ml_32 (pc := 131) C d_MM_count2_131 (bin_in hb) ?_
    refine ax_iload_n (pc := 132) C d_MM_count2_132 rfl 2 rfl ?_
    obtain ⟨σ2, r2, d1_2, d2_2, h1, h, hd2, hd1⟩ := it_b h
    have hm : s_29 l D kA z v σ1 [(σ1.2.1 32 (Int32.toNatClampNeg x0)), x1] (σ2, r2, d1_2) := ih 29 _ _ _ h1
    refine mc_Vi (pc := 133) C (As := [.int (σ1.2.1 32 (Int32.toNatClampNeg x0)), .int x1]) (rest := [.int r1]) (hm _ _ rfl) ml_MM_532 d_MM_count2_133 rfl rfl (by dsimp only; omega) (by dsimp only; omega) (Nat.le_of_ble_eq_true rfl) (Nat.le_of_ble_eq_true rfl) (Nat.le_of_ble_eq_true rfl) ?_
    have hF : d2_2 + 1 ≤ F := by omega
    have hLo : 64 * d2_2 + 64 ≤ Lo := by omega
    refine ax_imul (pc := 136) C d_MM_count2_136 ?_
    obtain ⟨σ3, r3, d1_3, d2_3, h1, h, hd2, hd1⟩ := it_b h
    have hm : s_45 l D kA z v σ2 [((r1 : Int32) * r2)] (σ3, r3, d1_3) := ih 45 _ _ _ h1
    refine mc_Si (pc := 137) C (As := [.int ((r1 : Int32) * r2)]) (rest := []) (hm _ rfl) ml_MM_535 d_MM_count2_137 rfl rfl (by dsimp only; omega) (by dsimp only; omega) (Nat.le_of_ble_eq_true rfl) (Nat.le_of_ble_eq_true rfl) (Nat.le_of_ble_eq_true rfl) ?_
    have hF : d2_3 + 1 ≤ F := by omega
    have hLo : 64 * d2_3 + 64 ≤ Lo := by omega
    refine ax_ls ([(0, .ref z), (1, .int x0), (2, .int x1)]) [0, 1, 2] rfl ?_
    have hm : s_32 l D kA z v σ3 [x0, x1, r3] (σf, rf, _) := ih 32 _ _ _ h
    exact hm _ _ _ rfl p e s m args below meth c F Lo σ0 hF hLo C
  · have h := it_t hc h
    refine ax_aload_n (pc := 85) C d_MM_count2_85 rfl 0 rfl ?_
    refine ax_aload_n (pc := 86) C d_MM_count2_86 rfl 0 rfl ?_
    refine mg_108 (pc := 87) C d_MM_count2_87 ?_
    refine ax_iload_n (pc := 90) C d_MM_count2_90 rfl 1 rfl ?_
    obtain ⟨hb, h⟩ := it_g h
    refine ml_31 (pc := 91) C d_MM_count2_91 (bin_in hb) ?_
    refine ax_iload_n (pc := 92) C d_MM_count2_92 rfl 2 rfl ?_
    obtain ⟨σ4, r4, d1_4, d2_4, h1, h, hd2, hd1⟩ := it_b h
    have hm : s_29 l D kA z v σ [(σ.2.1 31 (Int32.toNatClampNeg x0)), x1] (σ4, r4, d1_4) := ih 29 _ _ _ h1
    refine mc_Vi (pc := 93) C (As := [.int (σ.2.1 31 (Int32.toNatClampNeg x0)), .int x1]) (rest := []) (hm _ _ rfl) ml_MM_532 d_MM_count2_93 rfl rfl (by dsimp only; omega) (by dsimp only; omega) (Nat.le_of_ble_eq_true rfl) (Nat.le_of_ble_eq_true rfl) (Nat.le_of_ble_eq_true rfl) ?_
    have hF : d2_4 + 1 ≤ F := by omega
    have hLo : 64 * d2_4 + 64 ≤ Lo := by omega
    refine ax_aload_n (pc := 96) C d_MM_count2_96 rfl 0 rfl ?_
    refine ax_aload_n (pc := 97) C d_MM_count2_97 rfl 0 rfl ?_
    refine mg_111 (pc := 98) C d_MM_count2_98 ?_
    refine ax_iload_n (pc := 101) C d_MM_count2_101 rfl 1 rfl ?_
    obtain ⟨hb, h⟩ := it_g h
    refine ml_32 (pc := 102) C d_MM_count2_102 (bin_in hb) ?_
    refine ax_iload_n (pc := 103) C d_MM_count2_103 rfl 2 rfl ?_
    obtain ⟨σ5, r5, d1_5, d2_5, h1, h, hd2, hd1⟩ := it_b h
    have hm : s_29 l D kA z v σ4 [(σ4.2.1 32 (Int32.toNatClampNeg x0)), x1] (σ5, r5, d1_5) := ih 29 _ _ _ h1
    refine mc_Vi (pc := 104) C (As := [.int (σ4.2.1 32 (Int32.toNatClampNeg x0)), .int x1]) (rest := [.int r4]) (hm _ _ rfl) ml_MM_532 d_MM_count2_104 rfl rfl (by dsimp only; omega) (by dsimp only; omega) (Nat.le_of_ble_eq_true rfl) (Nat.le_of_ble_eq_true rfl) (Nat.le_of_ble_eq_true rfl) ?_
    have hF : d2_5 + 1 ≤ F := by omega
    have hLo : 64 * d2_5 + 64 ≤ Lo := by omega
    refine ax_iadd (pc := 107) C d_MM_count2_107 ?_
    obtain ⟨σ6, r6, d1_6, d2_6, h1, h, hd2, hd1⟩ := it_b h
    have hm : s_45 l D kA z v σ5 [((r4 : Int32) + r5)] (σ6, r6, d1_6) := ih 45 _ _ _ h1
    refine mc_Si (pc := 108) C (As := [.int ((r4 : Int32) + r5)]) (rest := []) (hm _ rfl) ml_MM_535 d_MM_count2_108 rfl rfl (by dsimp only; omega) (by dsimp only; omega) (Nat.le_of_ble_eq_true rfl) (Nat.le_of_ble_eq_true rfl) (Nat.le_of_ble_eq_true rfl) ?_
    have hF : d2_6 + 1 ≤ F := by omega
    have hLo : 64 * d2_6 + 64 ≤ Lo := by omega
    refine ax_goto (pc := 111) C 140 d_MM_count2_111 (by decide) ?_
    refine ax_ls ([(0, .ref z), (1, .int x0), (2, .int x1)]) [0, 1, 2] rfl ?_
    have hm : s_32 l D kA z v σ6 [x0, x1, r6] (σf, rf, _) := ih 32 _ _ _ h
    exact hm _ _ _ rfl p e s m args below meth c F Lo σ0 hF hLo C
set_option maxHeartbeats 4000000 in
set_option maxRecDepth 100000 in
theorem o_32 (l : Launch) (D : va_G) (kA : Nat → ClassId) (z : Nat) (v : Nat → Nat) (rec : mF) (ih : ∀ t σ xs res, rec t σ xs = some res → mSem l D kA z v t σ xs res) (σ : mS) (xs : List Int32) (res : mR) (h : k_32 rec σ xs = some res) : s_32 l D kA z v σ xs res := by
  intro x0 x1 x2 hxs
  subst hxs
  obtain ⟨σf, rf, dd⟩ := res
  have h : (some (σ, x2, 0)) = some (σf, rf, dd) := h
  intro p e s m args below meth c F Lo σ0 hF hLo C
  dsimp only at hF hLo ⊢
  cases h
  exact ax_iret (pc := 140) C d_MM_count2_140 ⟨rfl, rfl⟩ (Nat.le_refl _) (Nat.le_refl _)
set_option maxHeartbeats 4000000 in
set_option maxRecDepth 100000 in
theorem o_33 (l : Launch) (D : va_G) (kA : Nat → ClassId) (z : Nat) (v : Nat → Nat) (rec : mF) (ih : ∀ t σ xs res, rec t σ xs = some res → mSem l D kA z v t σ xs res) (σ : mS) (xs : List Int32) (res : mR) (h : k_33 rec σ xs = some res) : s_33 l D kA z v σ xs res := by
  intro x0 x1 x2 hxs
  subst hxs
  obtain ⟨σf, rf, dd⟩ := res
  have h : (some (σ, x2, 0)) = some (σf, rf, dd) := h
  intro p e s m args below meth c F Lo σ0 hF hLo C
  dsimp only at hF hLo ⊢
  cases h
  exact ax_iret (pc := 200) C d_MM_count2_200 ⟨rfl, rfl⟩ (Nat.le_refl _) (Nat.le_refl _)
set_option maxHeartbeats 4000000 in
set_option maxRecDepth 100000 in
theorem o_34 (l : Launch) (D : va_G) (kA : Nat → ClassId) (z : Nat) (v : Nat → Nat) (rec : mF) (ih : ∀ t σ xs res, rec t σ xs = some res → mSem l D kA z v t σ xs res) (σ : mS) (xs : List Int32) (res : mR) (h : k_34 rec σ xs = some res) : s_34 l D kA z v σ xs res := by
  intro x0 x1 x2 x3 hxs
  subst hxs
  obtain ⟨σf, rf, dd⟩ := res
  have h : (some (σ, 201, 0)) = some (σf, rf, dd) := h
  intro p e s m args below meth c F Lo σ0 hF hLo C
  dsimp only at hF hLo ⊢
  refine ax_sipush (pc := 241) C 201 d_MM_count2_241 (by decide +kernel) ?_
  cases h
  exact ax_iret (pc := 244) C d_MM_count2_244 ⟨rfl, rfl⟩ (Nat.le_refl _) (Nat.le_refl _)
set_option maxHeartbeats 4000000 in
set_option maxRecDepth 100000 in
theorem o_35 (l : Launch) (D : va_G) (kA : Nat → ClassId) (z : Nat) (v : Nat → Nat) (rec : mF) (ih : ∀ t σ xs res, rec t σ xs = some res → mSem l D kA z v t σ xs res) (σ : mS) (xs : List Int32) (res : mR) (h : k_35 rec σ xs = some res) : s_35 l D kA z v σ xs res := by
  intro x0 x1 x2 x3 x4 x5 x6 hxs
  subst hxs
  obtain ⟨σf, rf, dd⟩ := res
  have h : (some (σ, x6, 0)) = some (σf, rf, dd) := h
  intro p e s m args below meth c F Lo σ0 hF hLo C
  dsimp only at hF hLo ⊢
  cases h
  exact ax_iret (pc := 304) C d_MM_count2_304 ⟨rfl, rfl⟩ (Nat.le_refl _) (Nat.le_refl _)
set_option maxHeartbeats 4000000 in
set_option maxRecDepth 100000 in
theorem o_36 (l : Launch) (D : va_G) (kA : Nat → ClassId) (z : Nat) (v : Nat → Nat) (rec : mF) (ih : ∀ t σ xs res, rec t σ xs = some res → mSem l D kA z v t σ xs res) (σ : mS) (xs : List Int32) (res : mR) (h : k_36 rec σ xs = some res) : s_36 l D kA z v σ xs res := by
  intro x0 hxs
  subst hxs
  obtain ⟨σf, rf, dd⟩ := res
  have h : (if bin x0 420000 = true then (bnd (rec 46 σ [(σ.2.1 43 (Int32.toNatClampNeg x0))]) (fun σ1 r1 => if bin x0 420000 = true then (rec 37 σ1 [x0, r1, (-1), (σ1.2.1 44 (Int32.toNatClampNeg x0))]) else none)) else none) = some (σf, rf, dd) := h
  refine ax_Mi.of (by decide +kernel) (Nat.le_of_ble_eq_true rfl) ?_
  intro p e s m args below meth c C hnm
  have C : ax_C p s m args meth c b_MM_copy "ClauseProverModel" 6 (some .int) D kA (va_A (mmW kA z v σ) s.heap.size) := C
  obtain ⟨F, hFe⟩ : ∃ F, F = dd + 1 := ⟨_, rfl⟩
  obtain ⟨Lo, hLoe⟩ : ∃ Lo, Lo = 64 * dd + 64 := ⟨_, rfl⟩
  obtain ⟨σ0, hσ0⟩ : ∃ s0, s0 = σ := ⟨_, rfl⟩
  suffices K : AW p l e { frames := F, cells := 0, slots := 0, locals := Lo } s m args below meth c D kA (va_A (mmW kA z v σ0) s.heap.size) 6 (ax_Qi below args s D kA (mmW kA z v σ0) 0 0 (fun r w1 => r = rf ∧ w1 = mmW kA z v σf)) 0 [(0, .ref z), (1, .int x0)] [] (mmW kA z v σ) 0 0 by rw [hFe, hLoe, hσ0] at K; exact ax_ls ([(0, .ref z), (1, .int x0)]) [0, 1] rfl K
  have C : ax_C p s m args meth c b_MM_copy "ClauseProverModel" 6 (some .int) D kA (va_A (mmW kA z v σ0) s.heap.size) := by rw [hσ0]; exact C
  have hF : dd + 1 ≤ F := by omega
  have hLo : 64 * dd + 64 ≤ Lo := by omega
  clear hFe hLoe hσ0
  refine ax_aload_n (pc := 0) C d_MM_copy_0 rfl 0 rfl ?_
  refine ax_aload_n (pc := 1) C d_MM_copy_1 rfl 0 rfl ?_
  refine mg_145 (pc := 2) C d_MM_copy_2 ?_
  refine ax_iload_n (pc := 5) C d_MM_copy_5 rfl 1 rfl ?_
  obtain ⟨hb, h⟩ := it_g h
  refine ml_43 (pc := 6) C d_MM_copy_6 (bin_in hb) ?_
  obtain ⟨σ1, r1, d1_1, d2_1, h1, h, hd2, hd1⟩ := it_b h
  have hm : s_46 l D kA z v σ [(σ.2.1 43 (Int32.toNatClampNeg x0))] (σ1, r1, d1_1) := ih 46 _ _ _ h1
  refine mc_Vi (pc := 7) C (As := [.int (σ.2.1 43 (Int32.toNatClampNeg x0))]) (rest := []) (hm _ rfl) ml_MM_516 d_MM_copy_7 rfl rfl (by dsimp only; omega) (by dsimp only; omega) (Nat.le_of_ble_eq_true rfl) (Nat.le_of_ble_eq_true rfl) (Nat.le_of_ble_eq_true rfl) ?_
  have hF : d2_1 + 1 ≤ F := by omega
  have hLo : 64 * d2_1 + 64 ≤ Lo := by omega
  refine ax_istore_n (pc := 10) C d_MM_copy_10 rfl (Nat.le_of_ble_eq_true rfl) ([(2, .int r1), (0, .ref z), (1, .int x0)]) rfl ?_
  refine ax_iconst (pc := 11) C (-1) d_MM_copy_11 (by decide +kernel) ?_
  refine ax_istore_n (pc := 12) C d_MM_copy_12 rfl (Nat.le_of_ble_eq_true rfl) ([(3, .int (-1)), (2, .int r1), (0, .ref z), (1, .int x0)]) rfl ?_
  refine ax_aload_n (pc := 13) C d_MM_copy_13 rfl 2 rfl ?_
  refine mg_148 (pc := 14) C d_MM_copy_14 ?_
  refine ax_iload_n (pc := 17) C d_MM_copy_17 rfl 3 rfl ?_
  obtain ⟨hb, h⟩ := it_g h
  refine ml_44 (pc := 18) C d_MM_copy_18 (bin_in hb) ?_
  refine ax_istore (pc := 19) C d_MM_copy_19 (Nat.le_of_ble_eq_true rfl) ([(4, .int (σ1.2.1 44 (Int32.toNatClampNeg x0))), (3, .int (-1)), (2, .int r1), (0, .ref z), (1, .int x0)]) rfl ?_
  refine ax_ls ([(0, .ref z), (1, .int x0), (2, .int r1), (3, .int (-1)), (4, .int (σ1.2.1 44 (Int32.toNatClampNeg x0)))]) [3, 4, 2, 1, 0] rfl ?_
  have hm : s_37 l D kA z v σ1 [x0, r1, (-1), (σ1.2.1 44 (Int32.toNatClampNeg x0))] (σf, rf, _) := ih 37 _ _ _ h
  exact hm _ _ _ _ rfl p e s m args below meth c F Lo σ0 hF hLo C
set_option maxHeartbeats 4000000 in
set_option maxRecDepth 100000 in
theorem o_37 (l : Launch) (D : va_G) (kA : Nat → ClassId) (z : Nat) (v : Nat → Nat) (rec : mF) (ih : ∀ t σ xs res, rec t σ xs = some res → mSem l D kA z v t σ xs res) (σ : mS) (xs : List Int32) (res : mR) (h : k_37 rec σ xs = some res) : s_37 l D kA z v σ xs res := by
  intro x0 x1 x2 x3 hxs
  subst hxs
  obtain ⟨σf, rf, dd⟩ := res
  have h : (if x3 < 0 then (some (σ, x1, 0)) else (bnd (rec 36 σ [x3]) (fun σ1 r1 => if 0 ≤ x2 then (if bin x2 420000 = true then (lt_ (mA σ1 45 (Int32.toNatClampNeg x2) r1) (fun σ2 => rec 38 σ2 [x0, x1, x2, x3, r1])) else none) else (if bin x1 420000 = true then (lt_ (mA σ1 44 (Int32.toNatClampNeg x1) r1) (fun σ3 => rec 38 σ3 [x0, x1, x2, x3, r1])) else none)))) = some (σf, rf, dd) := h
  intro p e s m args below meth c F Lo σ0 hF hLo C
  dsimp only at hF hLo ⊢
  refine ax_iload (pc := 21) C d_MM_copy_21 4 rfl ?_
  refine ax_if_lt (pc := 23) C 88 d_MM_copy_23 (by decide) (fun hc => ?_) (fun hc => ?_)
  · have h := it_t hc h
    refine ax_iload_n (pc := 88) C d_MM_copy_88 rfl 2 rfl ?_
    cases h
    exact ax_iret (pc := 89) C d_MM_copy_89 ⟨rfl, rfl⟩ (Nat.le_refl _) (Nat.le_refl _)
  · have h := it_f hc h
    refine ax_aload_n (pc := 26) C d_MM_copy_26 rfl 0 rfl ?_
    refine ax_iload (pc := 27) C d_MM_copy_27 4 rfl ?_
    obtain ⟨σ1, r1, d1_1, d2_1, h1, h, hd2, hd1⟩ := it_b h
    have hm : s_36 l D kA z v σ [x3] (σ1, r1, d1_1) := ih 36 _ _ _ h1
    refine mc_Vi (pc := 29) C (As := [.int x3]) (rest := []) (hm _ rfl) ml_MM_519 d_MM_copy_29 rfl rfl (by dsimp only; omega) (by dsimp only; omega) (Nat.le_of_ble_eq_true rfl) (Nat.le_of_ble_eq_true rfl) (Nat.le_of_ble_eq_true rfl) ?_
    have hF : d2_1 + 1 ≤ F := by omega
    have hLo : 64 * d2_1 + 64 ≤ Lo := by omega
    refine ax_istore (pc := 32) C d_MM_copy_32 (Nat.le_of_ble_eq_true rfl) ([(5, .int r1), (0, .ref z), (1, .int x0), (2, .int x1), (3, .int x2), (4, .int x3)]) rfl ?_
    refine ax_iload_n (pc := 34) C d_MM_copy_34 rfl 4 rfl ?_
    refine ax_if_ge (pc := 35) C 49 d_MM_copy_35 (by decide) (fun hc => ?_) (fun hc => ?_)
    · have h := it_t hc h
      refine ax_aload_n (pc := 49) C d_MM_copy_49 rfl 1 rfl ?_
      refine mg_151 (pc := 50) C d_MM_copy_50 ?_
      refine ax_iload_n (pc := 53) C d_MM_copy_53 rfl 4 rfl ?_
      refine ax_iload (pc := 54) C d_MM_copy_54 0 rfl ?_
      obtain ⟨hb, h⟩ := it_g h
      refine ms_45 (pc := 56) C d_MM_copy_56 (bin_in hb) ?_
      have h := it_l h
      generalize mA σ1 45 (Int32.toNatClampNeg x2) r1 = σ2 at h ⊢
      refine ax_ls ([(0, .ref z), (1, .int x0), (2, .int x1), (3, .int x2), (4, .int x3), (5, .int r1)]) [1, 2, 3, 4, 5, 0] rfl ?_
      have hm : s_38 l D kA z v σ2 [x0, x1, x2, x3, r1] (σf, rf, _) := ih 38 _ _ _ h
      exact hm _ _ _ _ _ rfl p e s m args below meth c F Lo σ0 hF hLo C
    · have h := it_f hc h
      refine ax_aload_n (pc := 38) C d_MM_copy_38 rfl 1 rfl ?_
      refine mg_148 (pc := 39) C d_MM_copy_39 ?_
      refine ax_iload_n (pc := 42) C d_MM_copy_42 rfl 3 rfl ?_
      refine ax_iload (pc := 43) C d_MM_copy_43 0 rfl ?_
      obtain ⟨hb, h⟩ := it_g h
      refine ms_44 (pc := 45) C d_MM_copy_45 (bin_in hb) ?_
      have h := it_l h
      generalize mA σ1 44 (Int32.toNatClampNeg x1) r1 = σ3 at h ⊢
      refine ax_goto (pc := 46) C 57 d_MM_copy_46 (by decide) ?_
      refine ax_ls ([(0, .ref z), (1, .int x0), (2, .int x1), (3, .int x2), (4, .int x3), (5, .int r1)]) [1, 2, 3, 4, 5, 0] rfl ?_
      have hm : s_38 l D kA z v σ3 [x0, x1, x2, x3, r1] (σf, rf, _) := ih 38 _ _ _ h
      exact hm _ _ _ _ _ rfl p e s m args below meth c F Lo σ0 hF hLo C
set_option maxHeartbeats 4000000 in
set_option maxRecDepth 100000 in
theorem o_38 (l : Launch) (D : va_G) (kA : Nat → ClassId) (z : Nat) (v : Nat → Nat) (rec : mF) (ih : ∀ t σ xs res, rec t σ xs = some res → mSem l D kA z v t σ xs res) (σ : mS) (xs : List Int32) (res : mR) (h : k_38 rec σ xs = some res) : s_38 l D kA z v σ xs res := by
  intro x0 x1 x2 x3 x4 hxs
  subst hxs
  obtain ⟨σf, rf, dd⟩ := res
  have h : (if bin x1 420000 = true then (if bin x4 420000 = true then (if bin x1 420000 = true then (lt_ (mA σ 46 (Int32.toNatClampNeg x1) (((σ.2.1 46 (Int32.toNatClampNeg x1)) : Int32) + (σ.2.1 46 (Int32.toNatClampNeg x4)))) (fun σ1 => if bin x3 420000 = true then (rec 37 σ1 [x0, x1, x4, (σ1.2.1 45 (Int32.toNatClampNeg x3))]) else none)) else none) else none) else none) = some (σf, rf, dd) := h
  intro p e s m args below meth c F Lo σ0 hF hLo C
  dsimp only at hF hLo ⊢
  refine ax_iload (pc := 57) C d_MM_copy_57 5 rfl ?_
  refine ax_istore_n (pc := 59) C d_MM_copy_59 rfl (Nat.le_of_ble_eq_true rfl) ([(3, .int x4), (0, .ref z), (1, .int x0), (2, .int x1), (4, .int x3), (5, .int x4)]) rfl ?_
  refine ax_aload_n (pc := 60) C d_MM_copy_60 rfl 1 rfl ?_
  refine mg_154 (pc := 61) C d_MM_copy_61 ?_
  refine ax_iload_n (pc := 64) C d_MM_copy_64 rfl 3 rfl ?_
  refine ax_dup2 (pc := 65) C d_MM_copy_65 rfl rfl ?_
  obtain ⟨hb, h⟩ := it_g h
  refine ml_46 (pc := 66) C d_MM_copy_66 (bin_in hb) ?_
  refine ax_aload_n (pc := 67) C d_MM_copy_67 rfl 1 rfl ?_
  refine mg_154 (pc := 68) C d_MM_copy_68 ?_
  refine ax_iload (pc := 71) C d_MM_copy_71 5 rfl ?_
  obtain ⟨hb, h⟩ := it_g h
  refine ml_46 (pc := 73) C d_MM_copy_73 (bin_in hb) ?_
  refine ax_iadd (pc := 74) C d_MM_copy_74 ?_
  obtain ⟨hb, h⟩ := it_g h
  refine ms_46 (pc := 75) C d_MM_copy_75 (bin_in hb) ?_
  have h := it_l h
  generalize mA σ 46 (Int32.toNatClampNeg x1) (((σ.2.1 46 (Int32.toNatClampNeg x1)) : Int32) + (σ.2.1 46 (Int32.toNatClampNeg x4))) = σ1 at h ⊢
  refine ax_aload_n (pc := 76) C d_MM_copy_76 rfl 1 rfl ?_
  refine mg_151 (pc := 77) C d_MM_copy_77 ?_
  refine ax_iload (pc := 80) C d_MM_copy_80 4 rfl ?_
  obtain ⟨hb, h⟩ := it_g h
  refine ml_45 (pc := 82) C d_MM_copy_82 (bin_in hb) ?_
  refine ax_istore (pc := 83) C d_MM_copy_83 (Nat.le_of_ble_eq_true rfl) ([(4, .int (σ1.2.1 45 (Int32.toNatClampNeg x3))), (3, .int x4), (0, .ref z), (1, .int x0), (2, .int x1), (5, .int x4)]) rfl ?_
  refine ax_goto (pc := 85) C 21 d_MM_copy_85 (by decide) ?_
  refine ax_ls ([(0, .ref z), (1, .int x0), (2, .int x1), (3, .int x4), (4, .int (σ1.2.1 45 (Int32.toNatClampNeg x3)))]) [2, 3, 4, 1, 0] rfl ?_
  have hm : s_37 l D kA z v σ1 [x0, x1, x4, (σ1.2.1 45 (Int32.toNatClampNeg x3))] (σf, rf, _) := ih 37 _ _ _ h
  exact hm _ _ _ _ rfl p e s m args below meth c F Lo σ0 hF hLo C
set_option maxHeartbeats 4000000 in
set_option maxRecDepth 100000 in
theorem o_39 (l : Launch) (D : va_G) (kA : Nat → ClassId) (z : Nat) (v : Nat → Nat) (rec : mF) (ih : ∀ t σ xs res, rec t σ xs = some res → mSem l D kA z v t σ xs res) (σ : mS) (xs : List Int32) (res : mR) (h : k_39 rec σ xs = some res) : s_39 l D kA z v σ xs res := by
  intro x0 x1 hxs
  subst hxs
  obtain ⟨σf, rf, dd⟩ := res
  have h : (if bin x0 420000 = true then (if bin x1 420000 = true then (if (σ.2.1 43 (Int32.toNatClampNeg x0)) = (σ.2.1 43 (Int32.toNatClampNeg x1)) then (if bin x0 420000 = true then (if bin x1 420000 = true then (if (σ.2.1 46 (Int32.toNatClampNeg x0)) = (σ.2.1 46 (Int32.toNatClampNeg x1)) then (if bin x1 420000 = true then (if bin x0 420000 = true then (rec 41 σ [x0, x1, (σ.2.1 44 (Int32.toNatClampNeg x1)), (σ.2.1 44 (Int32.toNatClampNeg x0))]) else none) else none) else (rec 40 σ [x0, x1])) else none) else none) else (rec 40 σ [x0, x1])) else none) else none) = some (σf, rf, dd) := h
  refine ax_Mi.of (by decide +kernel) (Nat.le_of_ble_eq_true rfl) ?_
  intro p e s m args below meth c C hnm
  have C : ax_C p s m args meth c b_MM_same "ClauseProverModel" 5 (some .boolean) D kA (va_A (mmW kA z v σ) s.heap.size) := C
  obtain ⟨F, hFe⟩ : ∃ F, F = dd + 1 := ⟨_, rfl⟩
  obtain ⟨Lo, hLoe⟩ : ∃ Lo, Lo = 64 * dd + 64 := ⟨_, rfl⟩
  obtain ⟨σ0, hσ0⟩ : ∃ s0, s0 = σ := ⟨_, rfl⟩
  suffices K : AW p l e { frames := F, cells := 0, slots := 0, locals := Lo } s m args below meth c D kA (va_A (mmW kA z v σ0) s.heap.size) 5 (ax_Qi below args s D kA (mmW kA z v σ0) 0 0 (fun r w1 => r = rf ∧ w1 = mmW kA z v σf)) 0 [(0, .ref z), (1, .int x0), (2, .int x1)] [] (mmW kA z v σ) 0 0 by rw [hFe, hLoe, hσ0] at K; exact ax_ls ([(0, .ref z), (1, .int x0), (2, .int x1)]) [0, 1, 2] rfl K
  have C : ax_C p s m args meth c b_MM_same "ClauseProverModel" 5 (some .boolean) D kA (va_A (mmW kA z v σ0) s.heap.size) := by rw [hσ0]; exact C
  have hF : dd + 1 ≤ F := by omega
  have hLo : 64 * dd + 64 ≤ Lo := by omega
  clear hFe hLoe hσ0
  refine ax_aload_n (pc := 0) C d_MM_same_0 rfl 0 rfl ?_
  refine mg_145 (pc := 1) C d_MM_same_1 ?_
  refine ax_iload_n (pc := 4) C d_MM_same_4 rfl 1 rfl ?_
  obtain ⟨hb, h⟩ := it_g h
  refine ml_43 (pc := 5) C d_MM_same_5 (bin_in hb) ?_
  refine ax_aload_n (pc := 6) C d_MM_same_6 rfl 0 rfl ?_
  refine mg_145 (pc := 7) C d_MM_same_7 ?_
  refine ax_iload_n (pc := 10) C d_MM_same_10 rfl 2 rfl ?_
  obtain ⟨hb, h⟩ := it_g h
  refine ml_43 (pc := 11) C d_MM_same_11 (bin_in hb) ?_
  refine ax_icmp_ne (pc := 12) C 30 d_MM_same_12 (by decide) (fun hc => ?_) (fun hc => ?_)
  · have h := it_f hc h
    refine ax_ls ([(0, .ref z), (1, .int x0), (2, .int x1)]) [0, 1, 2] rfl ?_
    have hm : s_40 l D kA z v σ [x0, x1] (σf, rf, _) := ih 40 _ _ _ h
    exact hm _ _ rfl p e s m args below meth c F Lo σ0 hF hLo C
  · have h := it_t hc h
    refine ax_aload_n (pc := 15) C d_MM_same_15 rfl 0 rfl ?_
    refine mg_154 (pc := 16) C d_MM_same_16 ?_
    refine ax_iload_n (pc := 19) C d_MM_same_19 rfl 1 rfl ?_
    obtain ⟨hb, h⟩ := it_g h
    refine ml_46 (pc := 20) C d_MM_same_20 (bin_in hb) ?_
    refine ax_aload_n (pc := 21) C d_MM_same_21 rfl 0 rfl ?_
    refine mg_154 (pc := 22) C d_MM_same_22 ?_
    refine ax_iload_n (pc := 25) C d_MM_same_25 rfl 2 rfl ?_
    obtain ⟨hb, h⟩ := it_g h
    refine ml_46 (pc := 26) C d_MM_same_26 (bin_in hb) ?_
    refine ax_icmp_eq (pc := 27) C 32 d_MM_same_27 (by decide) (fun hc => ?_) (fun hc => ?_)
    · have h := it_t hc h
      refine ax_aload_n (pc := 32) C d_MM_same_32 rfl 0 rfl ?_
      refine mg_148 (pc := 33) C d_MM_same_33 ?_
      refine ax_iload_n (pc := 36) C d_MM_same_36 rfl 2 rfl ?_
      obtain ⟨hb, h⟩ := it_g h
      refine ml_44 (pc := 37) C d_MM_same_37 (bin_in hb) ?_
      refine ax_istore_n (pc := 38) C d_MM_same_38 rfl (Nat.le_of_ble_eq_true rfl) ([(3, .int (σ.2.1 44 (Int32.toNatClampNeg x1))), (0, .ref z), (1, .int x0), (2, .int x1)]) rfl ?_
      refine ax_aload_n (pc := 39) C d_MM_same_39 rfl 1 rfl ?_
      refine mg_148 (pc := 40) C d_MM_same_40 ?_
      refine ax_iload_n (pc := 43) C d_MM_same_43 rfl 2 rfl ?_
      obtain ⟨hb, h⟩ := it_g h
      refine ml_44 (pc := 44) C d_MM_same_44 (bin_in hb) ?_
      refine ax_istore (pc := 45) C d_MM_same_45 (Nat.le_of_ble_eq_true rfl) ([(4, .int (σ.2.1 44 (Int32.toNatClampNeg x0))), (3, .int (σ.2.1 44 (Int32.toNatClampNeg x1))), (0, .ref z), (1, .int x0), (2, .int x1)]) rfl ?_
      refine ax_ls ([(0, .ref z), (1, .int x0), (2, .int x1), (3, .int (σ.2.1 44 (Int32.toNatClampNeg x1))), (4, .int (σ.2.1 44 (Int32.toNatClampNeg x0)))]) [2, 3, 4, 1, 0] rfl ?_
      have hm : s_41 l D kA z v σ [x0, x1, (σ.2.1 44 (Int32.toNatClampNeg x1)), (σ.2.1 44 (Int32.toNatClampNeg x0))] (σf, rf, _) := ih 41 _ _ _ h
      exact hm _ _ _ _ rfl p e s m args below meth c F Lo σ0 hF hLo C
    · have h := it_f hc h
      refine ax_ls ([(0, .ref z), (1, .int x0), (2, .int x1)]) [0, 1, 2] rfl ?_
      have hm : s_40 l D kA z v σ [x0, x1] (σf, rf, _) := ih 40 _ _ _ h
      exact hm _ _ rfl p e s m args below meth c F Lo σ0 hF hLo C
set_option maxHeartbeats 4000000 in
set_option maxRecDepth 100000 in
theorem o_40 (l : Launch) (D : va_G) (kA : Nat → ClassId) (z : Nat) (v : Nat → Nat) (rec : mF) (ih : ∀ t σ xs res, rec t σ xs = some res → mSem l D kA z v t σ xs res) (σ : mS) (xs : List Int32) (res : mR) (h : k_40 rec σ xs = some res) : s_40 l D kA z v σ xs res := by
  intro x0 x1 hxs
  subst hxs
  obtain ⟨σf, rf, dd⟩ := res
  have h : (some (σ, 0, 0)) = some (σf, rf, dd) := h
  intro p e s m args below meth c F Lo σ0 hF hLo C
  dsimp only at hF hLo ⊢
  refine ax_iconst (pc := 30) C 0 d_MM_same_30 (by decide +kernel) ?_
  cases h
  exact ax_zret (pc := 31) C d_MM_same_31 rfl ⟨rfl, rfl⟩ (Nat.le_refl _) (Nat.le_refl _)
set_option maxHeartbeats 4000000 in
set_option maxRecDepth 100000 in
theorem o_41 (l : Launch) (D : va_G) (kA : Nat → ClassId) (z : Nat) (v : Nat → Nat) (rec : mF) (ih : ∀ t σ xs res, rec t σ xs = some res → mSem l D kA z v t σ xs res) (σ : mS) (xs : List Int32) (res : mR) (h : k_41 rec σ xs = some res) : s_41 l D kA z v σ xs res := by
  intro x0 x1 x2 x3 hxs
  subst hxs
  obtain ⟨σf, rf, dd⟩ := res
  have h : (if x3 < 0 then (some (σ, 1, 0)) else (bnd (rec 39 σ [x3, x2]) (fun σ1 r1 => if r1 = 0 then (some (σ1, 0, 0)) else (if bin x2 420000 = true then (if bin x3 420000 = true then (rec 41 σ1 [x0, x1, (σ1.2.1 45 (Int32.toNatClampNeg x2)), (σ1.2.1 45 (Int32.toNatClampNeg x3))]) else none) else none)))) = some (σf, rf, dd) := h
  intro p e s m args below meth c F Lo σ0 hF hLo C
  dsimp only at hF hLo ⊢
  refine ax_iload (pc := 47) C d_MM_same_47 4 rfl ?_
  refine ax_if_lt (pc := 49) C 83 d_MM_same_49 (by decide) (fun hc => ?_) (fun hc => ?_)
  · have h := it_t hc h
    refine ax_iconst (pc := 83) C 1 d_MM_same_83 (by decide +kernel) ?_
    cases h
    exact ax_zret (pc := 84) C d_MM_same_84 rfl ⟨rfl, rfl⟩ (Nat.le_refl _) (Nat.le_refl _)
  · have h := it_f hc h
    refine ax_aload_n (pc := 52) C d_MM_same_52 rfl 0 rfl ?_
    refine ax_iload (pc := 53) C d_MM_same_53 4 rfl ?_
    refine ax_iload_n (pc := 55) C d_MM_same_55 rfl 3 rfl ?_
    obtain ⟨σ1, r1, d1_1, d2_1, h1, h, hd2, hd1⟩ := it_b h
    have hm : s_39 l D kA z v σ [x3, x2] (σ1, r1, d1_1) := ih 39 _ _ _ h1
    refine mc_Vi (pc := 56) C (As := [.int x3, .int x2]) (rest := []) (hm _ _ rfl) ml_MM_513 d_MM_same_56 rfl rfl (by dsimp only; omega) (by dsimp only; omega) (Nat.le_of_ble_eq_true rfl) (Nat.le_of_ble_eq_true rfl) (Nat.le_of_ble_eq_true rfl) ?_
    have hF : d2_1 + 1 ≤ F := by omega
    have hLo : 64 * d2_1 + 64 ≤ Lo := by omega
    refine ax_if_ne (pc := 59) C 64 d_MM_same_59 (by decide) (fun hc => ?_) (fun hc => ?_)
    · have h := it_f hc h
      refine ax_aload_n (pc := 64) C d_MM_same_64 rfl 0 rfl ?_
      refine mg_151 (pc := 65) C d_MM_same_65 ?_
      refine ax_iload_n (pc := 68) C d_MM_same_68 rfl 3 rfl ?_
      obtain ⟨hb, h⟩ := it_g h
      refine ml_45 (pc := 69) C d_MM_same_69 (bin_in hb) ?_
      refine ax_istore_n (pc := 70) C d_MM_same_70 rfl (Nat.le_of_ble_eq_true rfl) ([(3, .int (σ1.2.1 45 (Int32.toNatClampNeg x2))), (0, .ref z), (1, .int x0), (2, .int x1), (4, .int x3)]) rfl ?_
      refine ax_aload_n (pc := 71) C d_MM_same_71 rfl 1 rfl ?_
      refine mg_151 (pc := 72) C d_MM_same_72 ?_
      refine ax_iload (pc := 75) C d_MM_same_75 4 rfl ?_
      obtain ⟨hb, h⟩ := it_g h
      refine ml_45 (pc := 77) C d_MM_same_77 (bin_in hb) ?_
      refine ax_istore (pc := 78) C d_MM_same_78 (Nat.le_of_ble_eq_true rfl) ([(4, .int (σ1.2.1 45 (Int32.toNatClampNeg x3))), (3, .int (σ1.2.1 45 (Int32.toNatClampNeg x2))), (0, .ref z), (1, .int x0), (2, .int x1)]) rfl ?_
      refine ax_goto (pc := 80) C 47 d_MM_same_80 (by decide) ?_
      refine ax_ls ([(0, .ref z), (1, .int x0), (2, .int x1), (3, .int (σ1.2.1 45 (Int32.toNatClampNeg x2))), (4, .int (σ1.2.1 45 (Int32.toNatClampNeg x3)))]) [2, 3, 4, 1, 0] rfl ?_
      have hm : s_41 l D kA z v σ1 [x0, x1, (σ1.2.1 45 (Int32.toNatClampNeg x2)), (σ1.2.1 45 (Int32.toNatClampNeg x3))] (σf, rf, _) := ih 41 _ _ _ h
      exact hm _ _ _ _ rfl p e s m args below meth c F Lo σ0 hF hLo C
    · have h := it_t hc h
      refine ax_iconst (pc := 62) C 0 d_MM_same_62 (by decide +kernel) ?_
      cases h
      exact ax_zret (pc := 63) C d_MM_same_63 rfl ⟨rfl, rfl⟩ (Nat.le_refl _) (Nat.le_refl _)
set_option maxHeartbeats 4000000 in
set_option maxRecDepth 100000 in
theorem o_42 (l : Launch) (D : va_G) (kA : Nat → ClassId) (z : Nat) (v : Nat → Nat) (rec : mF) (ih : ∀ t σ xs res, rec t σ xs = some res → mSem l D kA z v t σ xs res) (σ : mS) (xs : List Int32) (res : mR) (h : k_42 rec σ xs = some res) : s_42 l D kA z v σ xs res := by
  intro x0 x1 hxs
  subst hxs
  obtain ⟨σf, rf, dd⟩ := res
  have h : (if bin x0 420000 = true then (if 0 ≤ (σ.2.1 43 (Int32.toNatClampNeg x0)) then (lt_ (mFl σ 102 0 8) (fun σ1 => bnd (rec 51 σ1 [x0, 1]) (fun σ2 r2 => bnd (rec 51 σ2 [x1, (-1)]) (fun σ3 r3 => rec 43 σ3 [x0, x1, 0])))) else (some (σ, 0, 0))) else none) = some (σf, rf, dd) := h
  refine ax_Mi.of (by decide +kernel) (Nat.le_of_ble_eq_true rfl) ?_
  intro p e s m args below meth c C hnm
  have C : ax_C p s m args meth c b_MM_greater "ClauseProverModel" 4 (some .boolean) D kA (va_A (mmW kA z v σ) s.heap.size) := C
  obtain ⟨F, hFe⟩ : ∃ F, F = dd + 1 := ⟨_, rfl⟩
  obtain ⟨Lo, hLoe⟩ : ∃ Lo, Lo = 64 * dd + 64 := ⟨_, rfl⟩
  obtain ⟨σ0, hσ0⟩ : ∃ s0, s0 = σ := ⟨_, rfl⟩
  suffices K : AW p l e { frames := F, cells := 0, slots := 0, locals := Lo } s m args below meth c D kA (va_A (mmW kA z v σ0) s.heap.size) 4 (ax_Qi below args s D kA (mmW kA z v σ0) 0 0 (fun r w1 => r = rf ∧ w1 = mmW kA z v σf)) 0 [(0, .ref z), (1, .int x0), (2, .int x1)] [] (mmW kA z v σ) 0 0 by rw [hFe, hLoe, hσ0] at K; exact ax_ls ([(0, .ref z), (1, .int x0), (2, .int x1)]) [0, 1, 2] rfl K
  have C : ax_C p s m args meth c b_MM_greater "ClauseProverModel" 4 (some .boolean) D kA (va_A (mmW kA z v σ0) s.heap.size) := by rw [hσ0]; exact C
  have hF : dd + 1 ≤ F := by omega
  have hLo : 64 * dd + 64 ≤ Lo := by omega
  clear hFe hLoe hσ0
  refine ax_aload_n (pc := 0) C d_MM_greater_0 rfl 0 rfl ?_
  refine mg_145 (pc := 1) C d_MM_greater_1 ?_
  refine ax_iload_n (pc := 4) C d_MM_greater_4 rfl 1 rfl ?_
  obtain ⟨hb, h⟩ := it_g h
  refine ml_43 (pc := 5) C d_MM_greater_5 (bin_in hb) ?_
  refine ax_if_ge (pc := 6) C 11 d_MM_greater_6 (by decide) (fun hc => ?_) (fun hc => ?_)
  · have h := it_t hc h
    refine ax_aload_n (pc := 11) C d_MM_greater_11 rfl 0 rfl ?_
    refine mg_323 (pc := 12) C d_MM_greater_12 ?_
    refine ax_iconst (pc := 15) C 0 d_MM_greater_15 (by decide +kernel) ?_
    refine mf_102 (pc := 16) C (rest := []) ml_MM_588 d_MM_greater_16 rfl hF hLo (Nat.le_of_ble_eq_true rfl) ?_
    have h := it_l h
    generalize mFl σ 102 0 8 = σ1 at h ⊢
    refine ax_aload_n (pc := 19) C d_MM_greater_19 rfl 0 rfl ?_
    refine ax_iload_n (pc := 20) C d_MM_greater_20 rfl 1 rfl ?_
    refine ax_iconst (pc := 21) C 1 d_MM_greater_21 (by decide +kernel) ?_
    obtain ⟨σ2, r2, d1_2, d2_2, h1, h, hd2, hd1⟩ := it_b h
    have hm : s_51 l D kA z v σ1 [x0, 1] (σ2, r2, d1_2) := ih 51 _ _ _ h1
    refine mc_Vv (pc := 22) C (As := [.int x0, .int 1]) (rest := []) (hm _ _ rfl) ml_MM_586 d_MM_greater_22 rfl rfl (by dsimp only; omega) (by dsimp only; omega) (Nat.le_of_ble_eq_true rfl) (Nat.le_of_ble_eq_true rfl) (Nat.le_of_ble_eq_true rfl) ?_
    have hF : d2_2 + 1 ≤ F := by omega
    have hLo : 64 * d2_2 + 64 ≤ Lo := by omega
    refine ax_aload_n (pc := 25) C d_MM_greater_25 rfl 0 rfl ?_
    refine ax_iload_n (pc := 26) C d_MM_greater_26 rfl 2 rfl ?_
    refine ax_iconst (pc := 27) C (-1) d_MM_greater_27 (by decide +kernel) ?_
    obtain ⟨σ3, r3, d1_3, d2_3, h1, h, hd2, hd1⟩ := it_b h
    have hm : s_51 l D kA z v σ2 [x1, (-1)] (σ3, r3, d1_3) := ih 51 _ _ _ h1
    refine mc_Vv (pc := 28) C (As := [.int x1, .int (-1)]) (rest := []) (hm _ _ rfl) ml_MM_586 d_MM_greater_28 rfl rfl (by dsimp only; omega) (by dsimp only; omega) (Nat.le_of_ble_eq_true rfl) (Nat.le_of_ble_eq_true rfl) (Nat.le_of_ble_eq_true rfl) ?_
    have hF : d2_3 + 1 ≤ F := by omega
    have hLo : 64 * d2_3 + 64 ≤ Lo := by omega
    refine ax_iconst (pc := 31) C 0 d_MM_greater_31 (by decide +kernel) ?_
    refine ax_istore_n (pc := 32) C d_MM_greater_32 rfl (Nat.le_of_ble_eq_true rfl) ([(3, .int 0), (0, .ref z), (1, .int x0), (2, .int x1)]) rfl ?_
    refine ax_ls ([(0, .ref z), (1, .int x0), (2, .int x1), (3, .int 0)]) [1, 2, 3, 0] rfl ?_
    have hm : s_43 l D kA z v σ3 [x0, x1, 0] (σf, rf, _) := ih 43 _ _ _ h
    exact hm _ _ _ rfl p e s m args below meth c F Lo σ0 hF hLo C
  · have h := it_f hc h
    refine ax_iconst (pc := 9) C 0 d_MM_greater_9 (by decide +kernel) ?_
    cases h
    exact ax_zret (pc := 10) C d_MM_greater_10 rfl ⟨rfl, rfl⟩ (Nat.le_refl _) (Nat.le_refl _)
set_option maxHeartbeats 4000000 in
set_option maxRecDepth 100000 in
theorem o_43 (l : Launch) (D : va_G) (kA : Nat → ClassId) (z : Nat) (v : Nat → Nat) (rec : mF) (ih : ∀ t σ xs res, rec t σ xs = some res → mSem l D kA z v t σ xs res) (σ : mS) (xs : List Int32) (res : mR) (h : k_43 rec σ xs = some res) : s_43 l D kA z v σ xs res := by
  intro x0 x1 x2 hxs
  subst hxs
  obtain ⟨σf, rf, dd⟩ := res
  have h : (if 8 ≤ x2 then (bnd (rec 47 σ [x0, x1]) (fun σ1 r1 => if r1 = 0 ∨ r1 = 1 then some (σ1, r1, 0) else none)) else (if bin x2 8 = true then (if 0 ≤ (σ.2.1 102 (Int32.toNatClampNeg x2)) then (rec 43 σ [x0, x1, (x2 + 1)]) else (some (σ, 0, 0))) else none)) = some (σf, rf, dd) := h
  intro p e s m args below meth c F Lo σ0 hF hLo C
  dsimp only at hF hLo ⊢
  refine ax_iload_n (pc := 33) C d_MM_greater_33 rfl 3 rfl ?_
  refine ax_bipush (pc := 34) C 8 d_MM_greater_34 (by decide +kernel) ?_
  refine ax_icmp_ge (pc := 36) C 56 d_MM_greater_36 (by decide) (fun hc => ?_) (fun hc => ?_)
  · have h := it_t hc h
    refine ax_aload_n (pc := 56) C d_MM_greater_56 rfl 0 rfl ?_
    refine ax_iload_n (pc := 57) C d_MM_greater_57 rfl 1 rfl ?_
    refine ax_iload_n (pc := 58) C d_MM_greater_58 rfl 2 rfl ?_
    obtain ⟨σ1, r1, d1_1, d2_1, h1, h, hd2, hd1⟩ := it_b h
    have hm : s_47 l D kA z v σ [x0, x1] (σ1, r1, d1_1) := ih 47 _ _ _ h1
    refine mc_Vi (pc := 59) C (As := [.int x0, .int x1]) (rest := []) (hm _ _ rfl) ml_MM_594 d_MM_greater_59 rfl rfl (by dsimp only; omega) (by dsimp only; omega) (Nat.le_of_ble_eq_true rfl) (Nat.le_of_ble_eq_true rfl) (Nat.le_of_ble_eq_true rfl) ?_
    have hF : d2_1 + 1 ≤ F := by omega
    have hLo : 64 * d2_1 + 64 ≤ Lo := by omega
    obtain ⟨hb, h⟩ := it_g h
    cases h
    exact ax_zret (pc := 62) C d_MM_greater_62 (nb01 hb) ⟨rfl, rfl⟩ (Nat.le_refl _) (Nat.le_refl _)
  · have h := it_f hc h
    refine ax_aload_n (pc := 39) C d_MM_greater_39 rfl 0 rfl ?_
    refine mg_323 (pc := 40) C d_MM_greater_40 ?_
    refine ax_iload_n (pc := 43) C d_MM_greater_43 rfl 3 rfl ?_
    obtain ⟨hb, h⟩ := it_g h
    refine ml_102 (pc := 44) C d_MM_greater_44 (bin_in hb) ?_
    refine ax_if_ge (pc := 45) C 50 d_MM_greater_45 (by decide) (fun hc => ?_) (fun hc => ?_)
    · have h := it_t hc h
      refine ax_iinc (pc := 50) C (x2 + 1) d_MM_greater_50 3 rfl rfl (Nat.le_of_ble_eq_true rfl) ([(3, .int (x2 + 1)), (0, .ref z), (1, .int x0), (2, .int x1)]) rfl ?_
      refine ax_goto (pc := 53) C 33 d_MM_greater_53 (by decide) ?_
      refine ax_ls ([(0, .ref z), (1, .int x0), (2, .int x1), (3, .int (x2 + 1))]) [1, 2, 3, 0] rfl ?_
      have hm : s_43 l D kA z v σ [x0, x1, (x2 + 1)] (σf, rf, _) := ih 43 _ _ _ h
      exact hm _ _ _ rfl p e s m args below meth c F Lo σ0 hF hLo C
    · have h := it_f hc h
      refine ax_iconst (pc := 48) C 0 d_MM_greater_48 (by decide +kernel) ?_
      cases h
      exact ax_zret (pc := 49) C d_MM_greater_49 rfl ⟨rfl, rfl⟩ (Nat.le_refl _) (Nat.le_refl _)
set_option maxHeartbeats 4000000 in
set_option maxRecDepth 100000 in
theorem o_44 (l : Launch) (D : va_G) (kA : Nat → ClassId) (z : Nat) (v : Nat → Nat) (rec : mF) (ih : ∀ t σ xs res, rec t σ xs = some res → mSem l D kA z v t σ xs res) (σ : mS) (xs : List Int32) (res : mR) (h : k_44 rec σ xs = some res) : s_44 l D kA z v σ xs res := by
  intro x0 hxs
  subst hxs
  obtain ⟨σf, rf, dd⟩ := res
  have h : (lt_ (mI σ 4 0) (fun σ1 => if (x0 : Int32).toInt < 0 ∨ 13 < (x0 : Int32).toInt then (some (σ1, (-1), 0)) else (if (x0 : Int32) = 0 then (some (σ1, (σ1.1 84), 0)) else (if (x0 : Int32) = 1 then (some (σ1, (σ1.1 85), 0)) else (if (x0 : Int32) = 2 then (bnd (rec 53 σ1 [0]) (fun σ2 r2 => some (σ2, r2, 0))) else (if (x0 : Int32) = 3 then (bnd (rec 53 σ1 [1]) (fun σ3 r3 => some (σ3, r3, 0))) else (if (x0 : Int32) = 4 then (some (σ1, (σ1.1 89), 0)) else (if (x0 : Int32) = 5 then (some (σ1, (σ1.1 90), 0)) else (if (x0 : Int32) = 6 then (some (σ1, (σ1.1 91), 0)) else (if (x0 : Int32) = 7 then (some (σ1, (σ1.1 92), 0)) else (if (x0 : Int32) = 8 then (some (σ1, (σ1.1 93), 0)) else (if (x0 : Int32) = 9 then (some (σ1, (σ1.1 94), 0)) else (if (x0 : Int32) = 10 then (some (σ1, (σ1.1 87), 0)) else (if (x0 : Int32) = 11 then (some (σ1, (σ1.1 19), 0)) else (if (x0 : Int32) = 12 then (some (σ1, (σ1.1 2), 0)) else (some (σ1, (σ1.1 3), 0))))))))))))))))) = some (σf, rf, dd) := h
  refine ax_Mi.of (by decide +kernel) (Nat.le_of_ble_eq_true rfl) ?_
  intro p e s m args below meth c C hnm
  have C : ax_C p s m args meth c b_MM_count1 "ClauseProverModel" 2 (some .int) D kA (va_A (mmW kA z v σ) s.heap.size) := C
  obtain ⟨F, hFe⟩ : ∃ F, F = dd + 1 := ⟨_, rfl⟩
  obtain ⟨Lo, hLoe⟩ : ∃ Lo, Lo = 64 * dd + 64 := ⟨_, rfl⟩
  obtain ⟨σ0, hσ0⟩ : ∃ s0, s0 = σ := ⟨_, rfl⟩
  suffices K : AW p l e { frames := F, cells := 0, slots := 0, locals := Lo } s m args below meth c D kA (va_A (mmW kA z v σ0) s.heap.size) 2 (ax_Qi below args s D kA (mmW kA z v σ0) 0 0 (fun r w1 => r = rf ∧ w1 = mmW kA z v σf)) 0 [(0, .ref z), (1, .int x0)] [] (mmW kA z v σ) 0 0 by rw [hFe, hLoe, hσ0] at K; exact ax_ls ([(0, .ref z), (1, .int x0)]) [0, 1] rfl K
  have C : ax_C p s m args meth c b_MM_count1 "ClauseProverModel" 2 (some .int) D kA (va_A (mmW kA z v σ0) s.heap.size) := by rw [hσ0]; exact C
  have hF : dd + 1 ≤ F := by omega
  have hLo : 64 * dd + 64 ≤ Lo := by omega
  clear hFe hLoe hσ0
  refine ax_aload_n (pc := 0) C d_MM_count1_0 rfl 0 rfl ?_
  refine ax_iconst (pc := 1) C 0 d_MM_count1_1 (by decide +kernel) ?_
  refine mp_24 (pc := 2) C d_MM_count1_2 ?_
  have h := it_l h
  generalize mI σ 4 0 = σ1 at h ⊢
  refine ax_iload_n (pc := 5) C d_MM_count1_5 rfl 1 rfl ?_
  by_cases hr : (x0 : Int32).toInt < 0 ∨ 13 < (x0 : Int32).toInt
  · have h := it_t hr h
    refine ax_tableOut (pc := 6) C 148 d_MM_count1_6 hr (by decide) ?_
    refine ax_iconst (pc := 148) C (-1) d_MM_count1_148 (by decide +kernel) ?_
    cases h
    exact ax_iret (pc := 149) C d_MM_count1_149 ⟨rfl, rfl⟩ (Nat.le_refl _) (Nat.le_refl _)
  · have h := it_f hr h
    by_cases hv : (x0 : Int32) = 0
    · have h := it_t hv h
      refine ax_tableIn (pc := 6) C 76 d_MM_count1_6 (by omega) (by omega) (by rw [hv]; rfl) (by decide) ?_
      refine ax_aload_n (pc := 76) C d_MM_count1_76 rfl 0 rfl ?_
      refine mg_269 (pc := 77) C d_MM_count1_77 ?_
      cases h
      exact ax_iret (pc := 80) C d_MM_count1_80 ⟨rfl, rfl⟩ (Nat.le_refl _) (Nat.le_refl _)
    · have h := it_f hv h
      have hn0 : ¬ (x0 : Int32).toInt = 0 := fun q => hv (i32q (by rw [q]; rfl))
      by_cases hv : (x0 : Int32) = 1
      · have h := it_t hv h
        refine ax_tableIn (pc := 6) C 81 d_MM_count1_6 (by omega) (by omega) (by rw [hv]; rfl) (by decide) ?_
        refine ax_aload_n (pc := 81) C d_MM_count1_81 rfl 0 rfl ?_
        refine mg_272 (pc := 82) C d_MM_count1_82 ?_
        cases h
        exact ax_iret (pc := 85) C d_MM_count1_85 ⟨rfl, rfl⟩ (Nat.le_refl _) (Nat.le_refl _)
      · have h := it_f hv h
        have hn1 : ¬ (x0 : Int32).toInt = 1 := fun q => hv (i32q (by rw [q]; rfl))
        by_cases hv : (x0 : Int32) = 2
        · have h := it_t hv h
          refine ax_tableIn (pc := 6) C 86 d_MM_count1_6 (by omega) (by omega) (by rw [hv]; rfl) (by decide) ?_
          refine ax_aload_n (pc := 86) C d_MM_count1_86 rfl 0 rfl ?_
          refine ax_iconst (pc := 87) C 0 d_MM_count1_87 (by decide +kernel) ?_
          obtain ⟨σ2, r2, d1_2, d2_2, h1, h, hd2, hd1⟩ := it_b h
          have hm : s_53 l D kA z v σ1 [0] (σ2, r2, d1_2) := ih 53 _ _ _ h1
          refine mc_Vi (pc := 88) C (As := [.int 0]) (rest := []) (hm _ rfl) ml_MM_794 d_MM_count1_88 rfl rfl (by dsimp only; omega) (by dsimp only; omega) (Nat.le_of_ble_eq_true rfl) (Nat.le_of_ble_eq_true rfl) (Nat.le_of_ble_eq_true rfl) ?_
          have hF : d2_2 + 1 ≤ F := by omega
          have hLo : 64 * d2_2 + 64 ≤ Lo := by omega
          cases h
          exact ax_iret (pc := 91) C d_MM_count1_91 ⟨rfl, rfl⟩ (Nat.le_refl _) (Nat.le_refl _)
        · have h := it_f hv h
          have hn2 : ¬ (x0 : Int32).toInt = 2 := fun q => hv (i32q (by rw [q]; rfl))
          by_cases hv : (x0 : Int32) = 3
          · have h := it_t hv h
            refine ax_tableIn (pc := 6) C 92 d_MM_count1_6 (by omega) (by omega) (by rw [hv]; rfl) (by decide) ?_
            refine ax_aload_n (pc := 92) C d_MM_count1_92 rfl 0 rfl ?_
            refine ax_iconst (pc := 93) C 1 d_MM_count1_93 (by decide +kernel) ?_
            obtain ⟨σ3, r3, d1_3, d2_3, h1, h, hd2, hd1⟩ := it_b h
            have hm : s_53 l D kA z v σ1 [1] (σ3, r3, d1_3) := ih 53 _ _ _ h1
            refine mc_Vi (pc := 94) C (As := [.int 1]) (rest := []) (hm _ rfl) ml_MM_794 d_MM_count1_94 rfl rfl (by dsimp only; omega) (by dsimp only; omega) (Nat.le_of_ble_eq_true rfl) (Nat.le_of_ble_eq_true rfl) (Nat.le_of_ble_eq_true rfl) ?_
            have hF : d2_3 + 1 ≤ F := by omega
            have hLo : 64 * d2_3 + 64 ≤ Lo := by omega
            cases h
            exact ax_iret (pc := 97) C d_MM_count1_97 ⟨rfl, rfl⟩ (Nat.le_refl _) (Nat.le_refl _)
          · have h := it_f hv h
            have hn3 : ¬ (x0 : Int32).toInt = 3 := fun q => hv (i32q (by rw [q]; rfl))
            by_cases hv : (x0 : Int32) = 4
            · have h := it_t hv h
              refine ax_tableIn (pc := 6) C 98 d_MM_count1_6 (by omega) (by omega) (by rw [hv]; rfl) (by decide) ?_
              refine ax_aload_n (pc := 98) C d_MM_count1_98 rfl 0 rfl ?_
              refine mg_284 (pc := 99) C d_MM_count1_99 ?_
              cases h
              exact ax_iret (pc := 102) C d_MM_count1_102 ⟨rfl, rfl⟩ (Nat.le_refl _) (Nat.le_refl _)
            · have h := it_f hv h
              have hn4 : ¬ (x0 : Int32).toInt = 4 := fun q => hv (i32q (by rw [q]; rfl))
              by_cases hv : (x0 : Int32) = 5
              · have h := it_t hv h
                refine ax_tableIn (pc := 6) C 103 d_MM_count1_6 (by omega) (by omega) (by rw [hv]; rfl) (by decide) ?_
                refine ax_aload_n (pc := 103) C d_MM_count1_103 rfl 0 rfl ?_
                refine mg_287 (pc := 104) C d_MM_count1_104 ?_
                cases h
                exact ax_iret (pc := 107) C d_MM_count1_107 ⟨rfl, rfl⟩ (Nat.le_refl _) (Nat.le_refl _)
              · have h := it_f hv h
                have hn5 : ¬ (x0 : Int32).toInt = 5 := fun q => hv (i32q (by rw [q]; rfl))
                by_cases hv : (x0 : Int32) = 6
                · have h := it_t hv h
                  refine ax_tableIn (pc := 6) C 108 d_MM_count1_6 (by omega) (by omega) (by rw [hv]; rfl) (by decide) ?_
                  refine ax_aload_n (pc := 108) C d_MM_count1_108 rfl 0 rfl ?_
                  refine mg_290 (pc := 109) C d_MM_count1_109 ?_
                  cases h
                  exact ax_iret (pc := 112) C d_MM_count1_112 ⟨rfl, rfl⟩ (Nat.le_refl _) (Nat.le_refl _)
                · have h := it_f hv h
                  have hn6 : ¬ (x0 : Int32).toInt = 6 := fun q => hv (i32q (by rw [q]; rfl))
                  by_cases hv : (x0 : Int32) = 7
                  · have h := it_t hv h
                    refine ax_tableIn (pc := 6) C 113 d_MM_count1_6 (by omega) (by omega) (by rw [hv]; rfl) (by decide) ?_
                    refine ax_aload_n (pc := 113) C d_MM_count1_113 rfl 0 rfl ?_
                    refine mg_293 (pc := 114) C d_MM_count1_114 ?_
                    cases h
                    exact ax_iret (pc := 117) C d_MM_count1_117 ⟨rfl, rfl⟩ (Nat.le_refl _) (Nat.le_refl _)
                  · have h := it_f hv h
                    have hn7 : ¬ (x0 : Int32).toInt = 7 := fun q => hv (i32q (by rw [q]; rfl))
                    by_cases hv : (x0 : Int32) = 8
                    · have h := it_t hv h
                      refine ax_tableIn (pc := 6) C 118 d_MM_count1_6 (by omega) (by omega) (by rw [hv]; rfl) (by decide) ?_
                      refine ax_aload_n (pc := 118) C d_MM_count1_118 rfl 0 rfl ?_
                      refine mg_296 (pc := 119) C d_MM_count1_119 ?_
                      cases h
                      exact ax_iret (pc := 122) C d_MM_count1_122 ⟨rfl, rfl⟩ (Nat.le_refl _) (Nat.le_refl _)
                    · have h := it_f hv h
                      have hn8 : ¬ (x0 : Int32).toInt = 8 := fun q => hv (i32q (by rw [q]; rfl))
                      by_cases hv : (x0 : Int32) = 9
                      · have h := it_t hv h
                        refine ax_tableIn (pc := 6) C 123 d_MM_count1_6 (by omega) (by omega) (by rw [hv]; rfl) (by decide) ?_
                        refine ax_aload_n (pc := 123) C d_MM_count1_123 rfl 0 rfl ?_
                        refine mg_299 (pc := 124) C d_MM_count1_124 ?_
                        cases h
                        exact ax_iret (pc := 127) C d_MM_count1_127 ⟨rfl, rfl⟩ (Nat.le_refl _) (Nat.le_refl _)
                      · have h := it_f hv h
                        have hn9 : ¬ (x0 : Int32).toInt = 9 := fun q => hv (i32q (by rw [q]; rfl))
                        by_cases hv : (x0 : Int32) = 10
                        · have h := it_t hv h
                          refine ax_tableIn (pc := 6) C 128 d_MM_count1_6 (by omega) (by omega) (by rw [hv]; rfl) (by decide) ?_
                          refine ax_aload_n (pc := 128) C d_MM_count1_128 rfl 0 rfl ?_
                          refine mg_278 (pc := 129) C d_MM_count1_129 ?_
                          cases h
                          exact ax_iret (pc := 132) C d_MM_count1_132 ⟨rfl, rfl⟩ (Nat.le_refl _) (Nat.le_refl _)
                        · have h := it_f hv h
                          have hn10 : ¬ (x0 : Int32).toInt = 10 := fun q => hv (i32q (by rw [q]; rfl))
                          by_cases hv : (x0 : Int32) = 11
                          · have h := it_t hv h
                            refine ax_tableIn (pc := 6) C 133 d_MM_count1_6 (by omega) (by omega) (by rw [hv]; rfl) (by decide) ?_
                            refine ax_aload_n (pc := 133) C d_MM_count1_133 rfl 0 rfl ?_
                            refine mg_71 (pc := 134) C d_MM_count1_134 ?_
                            cases h
                            exact ax_iret (pc := 137) C d_MM_count1_137 ⟨rfl, rfl⟩ (Nat.le_refl _) (Nat.le_refl _)
                          · have h := it_f hv h
                            have hn11 : ¬ (x0 : Int32).toInt = 11 := fun q => hv (i32q (by rw [q]; rfl))
                            by_cases hv : (x0 : Int32) = 12
                            · have h := it_t hv h
                              refine ax_tableIn (pc := 6) C 138 d_MM_count1_6 (by omega) (by omega) (by rw [hv]; rfl) (by decide) ?_
                              refine ax_aload_n (pc := 138) C d_MM_count1_138 rfl 0 rfl ?_
                              refine mg_17 (pc := 139) C d_MM_count1_139 ?_
                              cases h
                              exact ax_iret (pc := 142) C d_MM_count1_142 ⟨rfl, rfl⟩ (Nat.le_refl _) (Nat.le_refl _)
                            · have h := it_f hv h
                              have hn12 : ¬ (x0 : Int32).toInt = 12 := fun q => hv (i32q (by rw [q]; rfl))
                              have hv : (x0 : Int32) = 13 := i32q (by have e9 : (13 : Int32).toInt = 13 := rfl; omega)
                              refine ax_tableIn (pc := 6) C 143 d_MM_count1_6 (by omega) (by omega) (by rw [hv]; rfl) (by decide) ?_
                              refine ax_aload_n (pc := 143) C d_MM_count1_143 rfl 0 rfl ?_
                              refine mg_21 (pc := 144) C d_MM_count1_144 ?_
                              cases h
                              exact ax_iret (pc := 147) C d_MM_count1_147 ⟨rfl, rfl⟩ (Nat.le_refl _) (Nat.le_refl _)
set_option maxHeartbeats 4000000 in
set_option maxRecDepth 100000 in
theorem o_45 (l : Launch) (D : va_G) (kA : Nat → ClassId) (z : Nat) (v : Nat → Nat) (rec : mF) (ih : ∀ t σ xs res, rec t σ xs = some res → mSem l D kA z v t σ xs res) (σ : mS) (xs : List Int32) (res : mR) (h : k_45 rec σ xs = some res) : s_45 l D kA z v σ xs res := by
  intro x0 hxs
  subst hxs
  obtain ⟨σf, rf, dd⟩ := res
  have h : (some (σ, (if x0 < 201 then x0 else 201), 0)) = some (σf, rf, dd) := h
  refine ax_Mi.of (by decide +kernel) (Nat.le_of_ble_eq_true rfl) ?_
  intro p e s m args below meth c C hnm
  have C : ax_C p s m args meth c b_MM_capped "ClauseProverModel" 1 (some .int) D kA (va_A (mmW kA z v σ) s.heap.size) := C
  obtain ⟨F, hFe⟩ : ∃ F, F = dd + 1 := ⟨_, rfl⟩
  obtain ⟨Lo, hLoe⟩ : ∃ Lo, Lo = 64 * dd + 64 := ⟨_, rfl⟩
  obtain ⟨σ0, hσ0⟩ : ∃ s0, s0 = σ := ⟨_, rfl⟩
  suffices K : AW p l e { frames := F, cells := 0, slots := 0, locals := Lo } s m args below meth c D kA (va_A (mmW kA z v σ0) s.heap.size) 1 (ax_Qi below args s D kA (mmW kA z v σ0) 0 0 (fun r w1 => r = rf ∧ w1 = mmW kA z v σf)) 0 [(0, .int x0)] [] (mmW kA z v σ) 0 0 by rw [hFe, hLoe, hσ0] at K; exact ax_ls ([(0, .int x0)]) [0] rfl K
  have C : ax_C p s m args meth c b_MM_capped "ClauseProverModel" 1 (some .int) D kA (va_A (mmW kA z v σ0) s.heap.size) := by rw [hσ0]; exact C
  have hF : dd + 1 ≤ F := by omega
  have hLo : 64 * dd + 64 ≤ Lo := by omega
  clear hFe hLoe hσ0
  refine ax_sipush (pc := 0) C 201 d_MM_capped_0 (by decide +kernel) ?_
  refine ax_iload_n (pc := 3) C d_MM_capped_3 rfl 0 rfl ?_
  refine mx_min (pc := 4) C tb_methodLink_2100 tb_static_610 tb_initialized_19 tcm_min d_MM_capped_4 hF (Nat.le_of_ble_eq_true rfl) ?_
  cases h
  exact ax_iret (pc := 7) C d_MM_capped_7 ⟨rfl, rfl⟩ (Nat.le_refl _) (Nat.le_refl _)
set_option maxHeartbeats 4000000 in
set_option maxRecDepth 100000 in
theorem o_46 (l : Launch) (D : va_G) (kA : Nat → ClassId) (z : Nat) (v : Nat → Nat) (rec : mF) (ih : ∀ t σ xs res, rec t σ xs = some res → mSem l D kA z v t σ xs res) (σ : mS) (xs : List Int32) (res : mR) (h : k_46 rec σ xs = some res) : s_46 l D kA z v σ xs res := by
  intro x0 hxs
  subst hxs
  obtain ⟨σf, rf, dd⟩ := res
  have h : (if bin (σ.1 47) 420000 = true then (lt_ (mA σ 43 (Int32.toNatClampNeg (σ.1 47)) x0) (fun σ1 => if bin (σ1.1 47) 420000 = true then (lt_ (mA σ1 44 (Int32.toNatClampNeg (σ1.1 47)) (-1)) (fun σ2 => if bin (σ2.1 47) 420000 = true then (lt_ (mA σ2 45 (Int32.toNatClampNeg (σ2.1 47)) (-1)) (fun σ3 => if bin (σ3.1 47) 420000 = true then (lt_ (mA σ3 46 (Int32.toNatClampNeg (σ3.1 47)) 1) (fun σ4 => lt_ (mI σ4 47 (((σ4.1 47) : Int32) + 1)) (fun σ5 => some (σ5, (σ4.1 47), 0)))) else none)) else none)) else none)) else none) = some (σf, rf, dd) := h
  refine ax_Mi.of (by decide +kernel) (Nat.le_of_ble_eq_true rfl) ?_
  intro p e s m args below meth c C hnm
  have C : ax_C p s m args meth c b_MM_fresh "ClauseProverModel" 2 (some .int) D kA (va_A (mmW kA z v σ) s.heap.size) := C
  obtain ⟨F, hFe⟩ : ∃ F, F = dd + 1 := ⟨_, rfl⟩
  obtain ⟨Lo, hLoe⟩ : ∃ Lo, Lo = 64 * dd + 64 := ⟨_, rfl⟩
  obtain ⟨σ0, hσ0⟩ : ∃ s0, s0 = σ := ⟨_, rfl⟩
  suffices K : AW p l e { frames := F, cells := 0, slots := 0, locals := Lo } s m args below meth c D kA (va_A (mmW kA z v σ0) s.heap.size) 2 (ax_Qi below args s D kA (mmW kA z v σ0) 0 0 (fun r w1 => r = rf ∧ w1 = mmW kA z v σf)) 0 [(0, .ref z), (1, .int x0)] [] (mmW kA z v σ) 0 0 by rw [hFe, hLoe, hσ0] at K; exact ax_ls ([(0, .ref z), (1, .int x0)]) [0, 1] rfl K
  have C : ax_C p s m args meth c b_MM_fresh "ClauseProverModel" 2 (some .int) D kA (va_A (mmW kA z v σ0) s.heap.size) := by rw [hσ0]; exact C
  have hF : dd + 1 ≤ F := by omega
  have hLo : 64 * dd + 64 ≤ Lo := by omega
  clear hFe hLoe hσ0
  refine ax_aload_n (pc := 0) C d_MM_fresh_0 rfl 0 rfl ?_
  refine mg_145 (pc := 1) C d_MM_fresh_1 ?_
  refine ax_aload_n (pc := 4) C d_MM_fresh_4 rfl 0 rfl ?_
  refine mg_157 (pc := 5) C d_MM_fresh_5 ?_
  refine ax_iload_n (pc := 8) C d_MM_fresh_8 rfl 1 rfl ?_
  obtain ⟨hb, h⟩ := it_g h
  refine ms_43 (pc := 9) C d_MM_fresh_9 (bin_in hb) ?_
  have h := it_l h
  generalize mA σ 43 (Int32.toNatClampNeg (σ.1 47)) x0 = σ1 at h ⊢
  refine ax_aload_n (pc := 10) C d_MM_fresh_10 rfl 0 rfl ?_
  refine mg_148 (pc := 11) C d_MM_fresh_11 ?_
  refine ax_aload_n (pc := 14) C d_MM_fresh_14 rfl 0 rfl ?_
  refine mg_157 (pc := 15) C d_MM_fresh_15 ?_
  refine ax_iconst (pc := 18) C (-1) d_MM_fresh_18 (by decide +kernel) ?_
  obtain ⟨hb, h⟩ := it_g h
  refine ms_44 (pc := 19) C d_MM_fresh_19 (bin_in hb) ?_
  have h := it_l h
  generalize mA σ1 44 (Int32.toNatClampNeg (σ1.1 47)) (-1) = σ2 at h ⊢
  refine ax_aload_n (pc := 20) C d_MM_fresh_20 rfl 0 rfl ?_
  refine mg_151 (pc := 21) C d_MM_fresh_21 ?_
  refine ax_aload_n (pc := 24) C d_MM_fresh_24 rfl 0 rfl ?_
  refine mg_157 (pc := 25) C d_MM_fresh_25 ?_
  refine ax_iconst (pc := 28) C (-1) d_MM_fresh_28 (by decide +kernel) ?_
  obtain ⟨hb, h⟩ := it_g h
  refine ms_45 (pc := 29) C d_MM_fresh_29 (bin_in hb) ?_
  have h := it_l h
  generalize mA σ2 45 (Int32.toNatClampNeg (σ2.1 47)) (-1) = σ3 at h ⊢
  refine ax_aload_n (pc := 30) C d_MM_fresh_30 rfl 0 rfl ?_
  refine mg_154 (pc := 31) C d_MM_fresh_31 ?_
  refine ax_aload_n (pc := 34) C d_MM_fresh_34 rfl 0 rfl ?_
  refine mg_157 (pc := 35) C d_MM_fresh_35 ?_
  refine ax_iconst (pc := 38) C 1 d_MM_fresh_38 (by decide +kernel) ?_
  obtain ⟨hb, h⟩ := it_g h
  refine ms_46 (pc := 39) C d_MM_fresh_39 (bin_in hb) ?_
  have h := it_l h
  generalize mA σ3 46 (Int32.toNatClampNeg (σ3.1 47)) 1 = σ4 at h ⊢
  refine ax_aload_n (pc := 40) C d_MM_fresh_40 rfl 0 rfl ?_
  refine ax_dup (pc := 41) C d_MM_fresh_41 rfl ?_
  refine mg_157 (pc := 42) C d_MM_fresh_42 ?_
  refine ax_dup_x1 (pc := 45) C d_MM_fresh_45 rfl rfl ?_
  refine ax_iconst (pc := 46) C 1 d_MM_fresh_46 (by decide +kernel) ?_
  refine ax_iadd (pc := 47) C d_MM_fresh_47 ?_
  refine mp_157 (pc := 48) C d_MM_fresh_48 ?_
  have h := it_l h
  generalize mI σ4 47 (((σ4.1 47) : Int32) + 1) = σ5 at h ⊢
  cases h
  exact ax_iret (pc := 51) C d_MM_fresh_51 ⟨rfl, rfl⟩ (Nat.le_refl _) (Nat.le_refl _)
set_option maxHeartbeats 4000000 in
set_option maxRecDepth 100000 in
theorem o_47 (l : Launch) (D : va_G) (kA : Nat → ClassId) (z : Nat) (v : Nat → Nat) (rec : mF) (ih : ∀ t σ xs res, rec t σ xs = some res → mSem l D kA z v t σ xs res) (σ : mS) (xs : List Int32) (res : mR) (h : k_47 rec σ xs = some res) : s_47 l D kA z v σ xs res := by
  intro x0 x1 hxs
  subst hxs
  obtain ⟨σf, rf, dd⟩ := res
  have h : (if bin x0 420000 = true then (if bin x1 420000 = true then (if (σ.2.1 46 (Int32.toNatClampNeg x0)) = (σ.2.1 46 (Int32.toNatClampNeg x1)) then (if bin x1 420000 = true then (if 0 ≤ (σ.2.1 43 (Int32.toNatClampNeg x1)) then (if bin x0 420000 = true then (if bin x1 420000 = true then (if (σ.2.1 43 (Int32.toNatClampNeg x0)) = (σ.2.1 43 (Int32.toNatClampNeg x1)) then (if bin x1 420000 = true then (if bin x0 420000 = true then (rec 50 σ [x0, x1, (σ.2.1 44 (Int32.toNatClampNeg x1)), (σ.2.1 44 (Int32.toNatClampNeg x0))]) else none) else none) else (if bin x0 420000 = true then (if bin x1 420000 = true then (if (σ.2.1 43 (Int32.toNatClampNeg x0)) ≤ (σ.2.1 43 (Int32.toNatClampNeg x1)) then (rec 49 σ [x0, x1, 0]) else (rec 49 σ [x0, x1, 1])) else none) else none)) else none) else none) else (some (σ, 0, 0))) else none) else (if bin x0 420000 = true then (if bin x1 420000 = true then (if (σ.2.1 46 (Int32.toNatClampNeg x0)) ≤ (σ.2.1 46 (Int32.toNatClampNeg x1)) then (rec 48 σ [x0, x1, 0]) else (rec 48 σ [x0, x1, 1])) else none) else none)) else none) else none) = some (σf, rf, dd) := h
  refine ax_Mi.of (by decide +kernel) (Nat.le_of_ble_eq_true rfl) ?_
  intro p e s m args below meth c C hnm
  have C : ax_C p s m args meth c b_MM_above "ClauseProverModel" 5 (some .boolean) D kA (va_A (mmW kA z v σ) s.heap.size) := C
  obtain ⟨F, hFe⟩ : ∃ F, F = dd + 1 := ⟨_, rfl⟩
  obtain ⟨Lo, hLoe⟩ : ∃ Lo, Lo = 64 * dd + 64 := ⟨_, rfl⟩
  obtain ⟨σ0, hσ0⟩ : ∃ s0, s0 = σ := ⟨_, rfl⟩
  suffices K : AW p l e { frames := F, cells := 0, slots := 0, locals := Lo } s m args below meth c D kA (va_A (mmW kA z v σ0) s.heap.size) 5 (ax_Qi below args s D kA (mmW kA z v σ0) 0 0 (fun r w1 => r = rf ∧ w1 = mmW kA z v σf)) 0 [(0, .ref z), (1, .int x0), (2, .int x1)] [] (mmW kA z v σ) 0 0 by rw [hFe, hLoe, hσ0] at K; exact ax_ls ([(0, .ref z), (1, .int x0), (2, .int x1)]) [0, 1, 2] rfl K
  have C : ax_C p s m args meth c b_MM_above "ClauseProverModel" 5 (some .boolean) D kA (va_A (mmW kA z v σ0) s.heap.size) := by rw [hσ0]; exact C
  have hF : dd + 1 ≤ F := by omega
  have hLo : 64 * dd + 64 ≤ Lo := by omega
  clear hFe hLoe hσ0
  refine ax_aload_n (pc := 0) C d_MM_above_0 rfl 0 rfl ?_
  refine mg_154 (pc := 1) C d_MM_above_1 ?_
  refine ax_iload_n (pc := 4) C d_MM_above_4 rfl 1 rfl ?_
  obtain ⟨hb, h⟩ := it_g h
  refine ml_46 (pc := 5) C d_MM_above_5 (bin_in hb) ?_
  refine ax_aload_n (pc := 6) C d_MM_above_6 rfl 0 rfl ?_
  refine mg_154 (pc := 7) C d_MM_above_7 ?_
  refine ax_iload_n (pc := 10) C d_MM_above_10 rfl 2 rfl ?_
  obtain ⟨hb, h⟩ := it_g h
  refine ml_46 (pc := 11) C d_MM_above_11 (bin_in hb) ?_
  refine ax_icmp_eq (pc := 12) C 36 d_MM_above_12 (by decide) (fun hc => ?_) (fun hc => ?_)
  · have h := it_t hc h
    refine ax_aload_n (pc := 36) C d_MM_above_36 rfl 0 rfl ?_
    refine mg_145 (pc := 37) C d_MM_above_37 ?_
    refine ax_iload_n (pc := 40) C d_MM_above_40 rfl 2 rfl ?_
    obtain ⟨hb, h⟩ := it_g h
    refine ml_43 (pc := 41) C d_MM_above_41 (bin_in hb) ?_
    refine ax_if_ge (pc := 42) C 47 d_MM_above_42 (by decide) (fun hc => ?_) (fun hc => ?_)
    · have h := it_t hc h
      refine ax_aload_n (pc := 47) C d_MM_above_47 rfl 0 rfl ?_
      refine mg_145 (pc := 48) C d_MM_above_48 ?_
      refine ax_iload_n (pc := 51) C d_MM_above_51 rfl 1 rfl ?_
      obtain ⟨hb, h⟩ := it_g h
      refine ml_43 (pc := 52) C d_MM_above_52 (bin_in hb) ?_
      refine ax_aload_n (pc := 53) C d_MM_above_53 rfl 0 rfl ?_
      refine mg_145 (pc := 54) C d_MM_above_54 ?_
      refine ax_iload_n (pc := 57) C d_MM_above_57 rfl 2 rfl ?_
      obtain ⟨hb, h⟩ := it_g h
      refine ml_43 (pc := 58) C d_MM_above_58 (bin_in hb) ?_
      refine ax_icmp_eq (pc := 59) C 83 d_MM_above_59 (by decide) (fun hc => ?_) (fun hc => ?_)
      · have h := it_t hc h
        refine ax_aload_n (pc := 83) C d_MM_above_83 rfl 0 rfl ?_
        refine mg_148 (pc := 84) C d_MM_above_84 ?_
        refine ax_iload_n (pc := 87) C d_MM_above_87 rfl 2 rfl ?_
        obtain ⟨hb, h⟩ := it_g h
        refine ml_44 (pc := 88) C d_MM_above_88 (bin_in hb) ?_
        refine ax_istore_n (pc := 89) C d_MM_above_89 rfl (Nat.le_of_ble_eq_true rfl) ([(3, .int (σ.2.1 44 (Int32.toNatClampNeg x1))), (0, .ref z), (1, .int x0), (2, .int x1)]) rfl ?_
        refine ax_aload_n (pc := 90) C d_MM_above_90 rfl 1 rfl ?_
        refine mg_148 (pc := 91) C d_MM_above_91 ?_
        refine ax_iload_n (pc := 94) C d_MM_above_94 rfl 2 rfl ?_
        obtain ⟨hb, h⟩ := it_g h
        refine ml_44 (pc := 95) C d_MM_above_95 (bin_in hb) ?_
        refine ax_istore (pc := 96) C d_MM_above_96 (Nat.le_of_ble_eq_true rfl) ([(4, .int (σ.2.1 44 (Int32.toNatClampNeg x0))), (3, .int (σ.2.1 44 (Int32.toNatClampNeg x1))), (0, .ref z), (1, .int x0), (2, .int x1)]) rfl ?_
        refine ax_ls ([(0, .ref z), (1, .int x0), (2, .int x1), (3, .int (σ.2.1 44 (Int32.toNatClampNeg x1))), (4, .int (σ.2.1 44 (Int32.toNatClampNeg x0)))]) [2, 3, 4, 1, 0] rfl ?_
        have hm : s_50 l D kA z v σ [x0, x1, (σ.2.1 44 (Int32.toNatClampNeg x1)), (σ.2.1 44 (Int32.toNatClampNeg x0))] (σf, rf, _) := ih 50 _ _ _ h
        exact hm _ _ _ _ rfl p e s m args below meth c F Lo σ0 hF hLo C
      · have h := it_f hc h
        refine ax_aload_n (pc := 62) C d_MM_above_62 rfl 0 rfl ?_
        refine mg_145 (pc := 63) C d_MM_above_63 ?_
        refine ax_iload_n (pc := 66) C d_MM_above_66 rfl 1 rfl ?_
        obtain ⟨hb, h⟩ := it_g h
        refine ml_43 (pc := 67) C d_MM_above_67 (bin_in hb) ?_
        refine ax_aload_n (pc := 68) C d_MM_above_68 rfl 0 rfl ?_
        refine mg_145 (pc := 69) C d_MM_above_69 ?_
        refine ax_iload_n (pc := 72) C d_MM_above_72 rfl 2 rfl ?_
        obtain ⟨hb, h⟩ := it_g h
        refine ml_43 (pc := 73) C d_MM_above_73 (bin_in hb) ?_
        refine ax_icmp_le (pc := 74) C 81 d_MM_above_74 (by decide) (fun hc => ?_) (fun hc => ?_)
        · have h := it_t hc h
          refine ax_iconst (pc := 81) C 0 d_MM_above_81 (by decide +kernel) ?_
          refine ax_ls ([(0, .ref z), (1, .int x0), (2, .int x1)]) [0, 1, 2] rfl ?_
          have hm : s_49 l D kA z v σ [x0, x1, 0] (σf, rf, _) := ih 49 _ _ _ h
          exact hm _ _ _ rfl p e s m args below meth c F Lo σ0 hF hLo C
        · have h := it_f hc h
          refine ax_iconst (pc := 77) C 1 d_MM_above_77 (by decide +kernel) ?_
          refine ax_goto (pc := 78) C 82 d_MM_above_78 (by decide) ?_
          refine ax_ls ([(0, .ref z), (1, .int x0), (2, .int x1)]) [0, 1, 2] rfl ?_
          have hm : s_49 l D kA z v σ [x0, x1, 1] (σf, rf, _) := ih 49 _ _ _ h
          exact hm _ _ _ rfl p e s m args below meth c F Lo σ0 hF hLo C
    · have h := it_f hc h
      refine ax_iconst (pc := 45) C 0 d_MM_above_45 (by decide +kernel) ?_
      cases h
      exact ax_zret (pc := 46) C d_MM_above_46 rfl ⟨rfl, rfl⟩ (Nat.le_refl _) (Nat.le_refl _)
  · have h := it_f hc h
    refine ax_aload_n (pc := 15) C d_MM_above_15 rfl 0 rfl ?_
    refine mg_154 (pc := 16) C d_MM_above_16 ?_
    refine ax_iload_n (pc := 19) C d_MM_above_19 rfl 1 rfl ?_
    obtain ⟨hb, h⟩ := it_g h
    refine ml_46 (pc := 20) C d_MM_above_20 (bin_in hb) ?_
    refine ax_aload_n (pc := 21) C d_MM_above_21 rfl 0 rfl ?_
    refine mg_154 (pc := 22) C d_MM_above_22 ?_
    refine ax_iload_n (pc := 25) C d_MM_above_25 rfl 2 rfl ?_
    obtain ⟨hb, h⟩ := it_g h
    refine ml_46 (pc := 26) C d_MM_above_26 (bin_in hb) ?_
    refine ax_icmp_le (pc := 27) C 34 d_MM_above_27 (by decide) (fun hc => ?_) (fun hc => ?_)
    · have h := it_t hc h
      refine ax_iconst (pc := 34) C 0 d_MM_above_34 (by decide +kernel) ?_
      refine ax_ls ([(0, .ref z), (1, .int x0), (2, .int x1)]) [0, 1, 2] rfl ?_
      have hm : s_48 l D kA z v σ [x0, x1, 0] (σf, rf, _) := ih 48 _ _ _ h
      exact hm _ _ _ rfl p e s m args below meth c F Lo σ0 hF hLo C
    · have h := it_f hc h
      refine ax_iconst (pc := 30) C 1 d_MM_above_30 (by decide +kernel) ?_
      refine ax_goto (pc := 31) C 35 d_MM_above_31 (by decide) ?_
      refine ax_ls ([(0, .ref z), (1, .int x0), (2, .int x1)]) [0, 1, 2] rfl ?_
      have hm : s_48 l D kA z v σ [x0, x1, 1] (σf, rf, _) := ih 48 _ _ _ h
      exact hm _ _ _ rfl p e s m args below meth c F Lo σ0 hF hLo C
set_option maxHeartbeats 4000000 in
set_option maxRecDepth 100000 in
theorem o_48 (l : Launch) (D : va_G) (kA : Nat → ClassId) (z : Nat) (v : Nat → Nat) (rec : mF) (ih : ∀ t σ xs res, rec t σ xs = some res → mSem l D kA z v t σ xs res) (σ : mS) (xs : List Int32) (res : mR) (h : k_48 rec σ xs = some res) : s_48 l D kA z v σ xs res := by
  intro x0 x1 x2 hxs
  subst hxs
  obtain ⟨σf, rf, dd⟩ := res
  have h : (if x2 = 0 ∨ x2 = 1 then some (σ, x2, 0) else none) = some (σf, rf, dd) := h
  intro p e s m args below meth c F Lo σ0 hF hLo C
  dsimp only at hF hLo ⊢
  obtain ⟨hb, h⟩ := it_g h
  cases h
  exact ax_zret (pc := 35) C d_MM_above_35 (nb01 hb) ⟨rfl, rfl⟩ (Nat.le_refl _) (Nat.le_refl _)
set_option maxHeartbeats 4000000 in
set_option maxRecDepth 100000 in
theorem o_49 (l : Launch) (D : va_G) (kA : Nat → ClassId) (z : Nat) (v : Nat → Nat) (rec : mF) (ih : ∀ t σ xs res, rec t σ xs = some res → mSem l D kA z v t σ xs res) (σ : mS) (xs : List Int32) (res : mR) (h : k_49 rec σ xs = some res) : s_49 l D kA z v σ xs res := by
  intro x0 x1 x2 hxs
  subst hxs
  obtain ⟨σf, rf, dd⟩ := res
  have h : (if x2 = 0 ∨ x2 = 1 then some (σ, x2, 0) else none) = some (σf, rf, dd) := h
  intro p e s m args below meth c F Lo σ0 hF hLo C
  dsimp only at hF hLo ⊢
  obtain ⟨hb, h⟩ := it_g h
  cases h
  exact ax_zret (pc := 82) C d_MM_above_82 (nb01 hb) ⟨rfl, rfl⟩ (Nat.le_refl _) (Nat.le_refl _)
set_option maxHeartbeats 4000000 in
set_option maxRecDepth 100000 in
theorem o_50 (l : Launch) (D : va_G) (kA : Nat → ClassId) (z : Nat) (v : Nat → Nat) (rec : mF) (ih : ∀ t σ xs res, rec t σ xs = some res → mSem l D kA z v t σ xs res) (σ : mS) (xs : List Int32) (res : mR) (h : k_50 rec σ xs = some res) : s_50 l D kA z v σ xs res := by
  intro x0 x1 x2 x3 hxs
  subst hxs
  obtain ⟨σf, rf, dd⟩ := res
  have h : (if x3 < 0 then (some (σ, 0, 0)) else (bnd (rec 39 σ [x3, x2]) (fun σ1 r1 => if r1 = 0 then (bnd (rec 42 σ1 [x3, x2]) (fun σ2 r2 => if r2 = 0 ∨ r2 = 1 then some (σ2, r2, 0) else none)) else (if bin x2 420000 = true then (if bin x3 420000 = true then (rec 50 σ1 [x0, x1, (σ1.2.1 45 (Int32.toNatClampNeg x2)), (σ1.2.1 45 (Int32.toNatClampNeg x3))]) else none) else none)))) = some (σf, rf, dd) := h
  intro p e s m args below meth c F Lo σ0 hF hLo C
  dsimp only at hF hLo ⊢
  refine ax_iload (pc := 98) C d_MM_above_98 4 rfl ?_
  refine ax_if_lt (pc := 100) C 140 d_MM_above_100 (by decide) (fun hc => ?_) (fun hc => ?_)
  · have h := it_t hc h
    refine ax_iconst (pc := 140) C 0 d_MM_above_140 (by decide +kernel) ?_
    cases h
    exact ax_zret (pc := 141) C d_MM_above_141 rfl ⟨rfl, rfl⟩ (Nat.le_refl _) (Nat.le_refl _)
  · have h := it_f hc h
    refine ax_aload_n (pc := 103) C d_MM_above_103 rfl 0 rfl ?_
    refine ax_iload (pc := 104) C d_MM_above_104 4 rfl ?_
    refine ax_iload_n (pc := 106) C d_MM_above_106 rfl 3 rfl ?_
    obtain ⟨σ1, r1, d1_1, d2_1, h1, h, hd2, hd1⟩ := it_b h
    have hm : s_39 l D kA z v σ [x3, x2] (σ1, r1, d1_1) := ih 39 _ _ _ h1
    refine mc_Vi (pc := 107) C (As := [.int x3, .int x2]) (rest := []) (hm _ _ rfl) ml_MM_513 d_MM_above_107 rfl rfl (by dsimp only; omega) (by dsimp only; omega) (Nat.le_of_ble_eq_true rfl) (Nat.le_of_ble_eq_true rfl) (Nat.le_of_ble_eq_true rfl) ?_
    have hF : d2_1 + 1 ≤ F := by omega
    have hLo : 64 * d2_1 + 64 ≤ Lo := by omega
    refine ax_if_ne (pc := 110) C 121 d_MM_above_110 (by decide) (fun hc => ?_) (fun hc => ?_)
    · have h := it_f hc h
      refine ax_aload_n (pc := 121) C d_MM_above_121 rfl 0 rfl ?_
      refine mg_151 (pc := 122) C d_MM_above_122 ?_
      refine ax_iload_n (pc := 125) C d_MM_above_125 rfl 3 rfl ?_
      obtain ⟨hb, h⟩ := it_g h
      refine ml_45 (pc := 126) C d_MM_above_126 (bin_in hb) ?_
      refine ax_istore_n (pc := 127) C d_MM_above_127 rfl (Nat.le_of_ble_eq_true rfl) ([(3, .int (σ1.2.1 45 (Int32.toNatClampNeg x2))), (0, .ref z), (1, .int x0), (2, .int x1), (4, .int x3)]) rfl ?_
      refine ax_aload_n (pc := 128) C d_MM_above_128 rfl 1 rfl ?_
      refine mg_151 (pc := 129) C d_MM_above_129 ?_
      refine ax_iload (pc := 132) C d_MM_above_132 4 rfl ?_
      obtain ⟨hb, h⟩ := it_g h
      refine ml_45 (pc := 134) C d_MM_above_134 (bin_in hb) ?_
      refine ax_istore (pc := 135) C d_MM_above_135 (Nat.le_of_ble_eq_true rfl) ([(4, .int (σ1.2.1 45 (Int32.toNatClampNeg x3))), (3, .int (σ1.2.1 45 (Int32.toNatClampNeg x2))), (0, .ref z), (1, .int x0), (2, .int x1)]) rfl ?_
      refine ax_goto (pc := 137) C 98 d_MM_above_137 (by decide) ?_
      refine ax_ls ([(0, .ref z), (1, .int x0), (2, .int x1), (3, .int (σ1.2.1 45 (Int32.toNatClampNeg x2))), (4, .int (σ1.2.1 45 (Int32.toNatClampNeg x3)))]) [2, 3, 4, 1, 0] rfl ?_
      have hm : s_50 l D kA z v σ1 [x0, x1, (σ1.2.1 45 (Int32.toNatClampNeg x2)), (σ1.2.1 45 (Int32.toNatClampNeg x3))] (σf, rf, _) := ih 50 _ _ _ h
      exact hm _ _ _ _ rfl p e s m args below meth c F Lo σ0 hF hLo C
    · have h := it_t hc h
      refine ax_aload_n (pc := 113) C d_MM_above_113 rfl 0 rfl ?_
      refine ax_iload (pc := 114) C d_MM_above_114 4 rfl ?_
      refine ax_iload_n (pc := 116) C d_MM_above_116 rfl 3 rfl ?_
      obtain ⟨σ2, r2, d1_2, d2_2, h1, h, hd2, hd1⟩ := it_b h
      have hm : s_42 l D kA z v σ1 [x3, x2] (σ2, r2, d1_2) := ih 42 _ _ _ h1
      refine mc_Vi (pc := 117) C (As := [.int x3, .int x2]) (rest := []) (hm _ _ rfl) ml_MM_597 d_MM_above_117 rfl rfl (by dsimp only; omega) (by dsimp only; omega) (Nat.le_of_ble_eq_true rfl) (Nat.le_of_ble_eq_true rfl) (Nat.le_of_ble_eq_true rfl) ?_
      have hF : d2_2 + 1 ≤ F := by omega
      have hLo : 64 * d2_2 + 64 ≤ Lo := by omega
      obtain ⟨hb, h⟩ := it_g h
      cases h
      exact ax_zret (pc := 120) C d_MM_above_120 (nb01 hb) ⟨rfl, rfl⟩ (Nat.le_refl _) (Nat.le_refl _)
set_option maxHeartbeats 4000000 in
set_option maxRecDepth 100000 in
theorem o_51 (l : Launch) (D : va_G) (kA : Nat → ClassId) (z : Nat) (v : Nat → Nat) (rec : mF) (ih : ∀ t σ xs res, rec t σ xs = some res → mSem l D kA z v t σ xs res) (σ : mS) (xs : List Int32) (res : mR) (h : k_51 rec σ xs = some res) : s_51 l D kA z v σ xs res := by
  intro x0 x1 hxs
  subst hxs
  obtain ⟨σf, rf, dd⟩ := res
  have h : (if bin x0 420000 = true then (if 0 ≤ (σ.2.1 43 (Int32.toNatClampNeg x0)) then (if bin x0 420000 = true then (rec 52 σ [x0, x1, (σ.2.1 44 (Int32.toNatClampNeg x0))]) else none) else (if bin x0 420000 = true then (if bin (((-1) : Int32) - (σ.2.1 43 (Int32.toNatClampNeg x0))) 8 = true then (if bin (((-1) : Int32) - (σ.2.1 43 (Int32.toNatClampNeg x0))) 8 = true then (lt_ (mA σ 102 (Int32.toNatClampNeg (((-1) : Int32) - (σ.2.1 43 (Int32.toNatClampNeg x0)))) (((σ.2.1 102 (Int32.toNatClampNeg (((-1) : Int32) - (σ.2.1 43 (Int32.toNatClampNeg x0))))) : Int32) + x1)) (fun σ1 => some (σ1, 0, 0))) else none) else none) else none)) else none) = some (σf, rf, dd) := h
  refine ax_Mv.of (by decide +kernel) (Nat.le_of_ble_eq_true rfl) ?_
  intro p e s m args below meth c C hnm
  have C : ax_C p s m args meth c b_MM_times "ClauseProverModel" 4 none D kA (va_A (mmW kA z v σ) s.heap.size) := C
  obtain ⟨F, hFe⟩ : ∃ F, F = dd + 1 := ⟨_, rfl⟩
  obtain ⟨Lo, hLoe⟩ : ∃ Lo, Lo = 64 * dd + 64 := ⟨_, rfl⟩
  obtain ⟨σ0, hσ0⟩ : ∃ s0, s0 = σ := ⟨_, rfl⟩
  suffices K : AW p l e { frames := F, cells := 0, slots := 0, locals := Lo } s m args below meth c D kA (va_A (mmW kA z v σ0) s.heap.size) 4 (ax_Qv below args s D kA (mmW kA z v σ0) 0 0 (fun w1 => w1 = mmW kA z v σf)) 0 [(0, .ref z), (1, .int x0), (2, .int x1)] [] (mmW kA z v σ) 0 0 by rw [hFe, hLoe, hσ0] at K; exact ax_ls ([(0, .ref z), (1, .int x0), (2, .int x1)]) [0, 1, 2] rfl K
  have C : ax_C p s m args meth c b_MM_times "ClauseProverModel" 4 none D kA (va_A (mmW kA z v σ0) s.heap.size) := by rw [hσ0]; exact C
  have hF : dd + 1 ≤ F := by omega
  have hLo : 64 * dd + 64 ≤ Lo := by omega
  clear hFe hLoe hσ0
  refine ax_aload_n (pc := 0) C d_MM_times_0 rfl 0 rfl ?_
  refine mg_145 (pc := 1) C d_MM_times_1 ?_
  refine ax_iload_n (pc := 4) C d_MM_times_4 rfl 1 rfl ?_
  obtain ⟨hb, h⟩ := it_g h
  refine ml_43 (pc := 5) C d_MM_times_5 (bin_in hb) ?_
  refine ax_if_ge (pc := 6) C 27 d_MM_times_6 (by decide) (fun hc => ?_) (fun hc => ?_)
  · have h := it_t hc h
    refine ax_aload_n (pc := 27) C d_MM_times_27 rfl 0 rfl ?_
    refine mg_148 (pc := 28) C d_MM_times_28 ?_
    refine ax_iload_n (pc := 31) C d_MM_times_31 rfl 1 rfl ?_
    obtain ⟨hb, h⟩ := it_g h
    refine ml_44 (pc := 32) C d_MM_times_32 (bin_in hb) ?_
    refine ax_istore_n (pc := 33) C d_MM_times_33 rfl (Nat.le_of_ble_eq_true rfl) ([(3, .int (σ.2.1 44 (Int32.toNatClampNeg x0))), (0, .ref z), (1, .int x0), (2, .int x1)]) rfl ?_
    refine ax_ls ([(0, .ref z), (1, .int x0), (2, .int x1), (3, .int (σ.2.1 44 (Int32.toNatClampNeg x0)))]) [1, 2, 3, 0] rfl ?_
    have hm : s_52 l D kA z v σ [x0, x1, (σ.2.1 44 (Int32.toNatClampNeg x0))] (σf, rf, _) := ih 52 _ _ _ h
    exact hm _ _ _ rfl p e s m args below meth c F Lo σ0 hF hLo C
  · have h := it_f hc h
    refine ax_aload_n (pc := 9) C d_MM_times_9 rfl 0 rfl ?_
    refine mg_323 (pc := 10) C d_MM_times_10 ?_
    refine ax_iconst (pc := 13) C (-1) d_MM_times_13 (by decide +kernel) ?_
    refine ax_aload_n (pc := 14) C d_MM_times_14 rfl 0 rfl ?_
    refine mg_145 (pc := 15) C d_MM_times_15 ?_
    refine ax_iload_n (pc := 18) C d_MM_times_18 rfl 1 rfl ?_
    obtain ⟨hb, h⟩ := it_g h
    refine ml_43 (pc := 19) C d_MM_times_19 (bin_in hb) ?_
    refine ax_isub (pc := 20) C d_MM_times_20 ?_
    refine ax_dup2 (pc := 21) C d_MM_times_21 rfl rfl ?_
    obtain ⟨hb, h⟩ := it_g h
    refine ml_102 (pc := 22) C d_MM_times_22 (bin_in hb) ?_
    refine ax_iload_n (pc := 23) C d_MM_times_23 rfl 2 rfl ?_
    refine ax_iadd (pc := 24) C d_MM_times_24 ?_
    obtain ⟨hb, h⟩ := it_g h
    refine ms_102 (pc := 25) C d_MM_times_25 (bin_in hb) ?_
    have h := it_l h
    generalize mA σ 102 (Int32.toNatClampNeg (((-1) : Int32) - (σ.2.1 43 (Int32.toNatClampNeg x0)))) (((σ.2.1 102 (Int32.toNatClampNeg (((-1) : Int32) - (σ.2.1 43 (Int32.toNatClampNeg x0))))) : Int32) + x1) = σ1 at h ⊢
    cases h
    exact ax_vret (pc := 26) C d_MM_times_26 rfl (Nat.le_refl _) (Nat.le_refl _)
set_option maxHeartbeats 4000000 in
set_option maxRecDepth 100000 in
theorem o_52 (l : Launch) (D : va_G) (kA : Nat → ClassId) (z : Nat) (v : Nat → Nat) (rec : mF) (ih : ∀ t σ xs res, rec t σ xs = some res → mSem l D kA z v t σ xs res) (σ : mS) (xs : List Int32) (res : mR) (h : k_52 rec σ xs = some res) : s_52 l D kA z v σ xs res := by
  intro x0 x1 x2 hxs
  subst hxs
  obtain ⟨σf, rf, dd⟩ := res
  have h : (if x2 < 0 then (some (σ, 0, 0)) else (bnd (rec 51 σ [x2, x1]) (fun σ1 r1 => if bin x2 420000 = true then (rec 52 σ1 [x0, x1, (σ1.2.1 45 (Int32.toNatClampNeg x2))]) else none))) = some (σf, rf, dd) := h
  intro p e s m args below meth c F Lo σ0 hF hLo C
  dsimp only at hF hLo ⊢
  refine ax_iload_n (pc := 34) C d_MM_times_34 rfl 3 rfl ?_
  refine ax_if_lt (pc := 35) C 54 d_MM_times_35 (by decide) (fun hc => ?_) (fun hc => ?_)
  · have h := it_t hc h
    cases h
    exact ax_vret (pc := 54) C d_MM_times_54 rfl (Nat.le_refl _) (Nat.le_refl _)
  · have h := it_f hc h
    refine ax_aload_n (pc := 38) C d_MM_times_38 rfl 0 rfl ?_
    refine ax_iload_n (pc := 39) C d_MM_times_39 rfl 3 rfl ?_
    refine ax_iload_n (pc := 40) C d_MM_times_40 rfl 2 rfl ?_
    obtain ⟨σ1, r1, d1_1, d2_1, h1, h, hd2, hd1⟩ := it_b h
    have hm : s_51 l D kA z v σ [x2, x1] (σ1, r1, d1_1) := ih 51 _ _ _ h1
    refine mc_Vv (pc := 41) C (As := [.int x2, .int x1]) (rest := []) (hm _ _ rfl) ml_MM_586 d_MM_times_41 rfl rfl (by dsimp only; omega) (by dsimp only; omega) (Nat.le_of_ble_eq_true rfl) (Nat.le_of_ble_eq_true rfl) (Nat.le_of_ble_eq_true rfl) ?_
    have hF : d2_1 + 1 ≤ F := by omega
    have hLo : 64 * d2_1 + 64 ≤ Lo := by omega
    refine ax_aload_n (pc := 44) C d_MM_times_44 rfl 0 rfl ?_
    refine mg_151 (pc := 45) C d_MM_times_45 ?_
    refine ax_iload_n (pc := 48) C d_MM_times_48 rfl 3 rfl ?_
    obtain ⟨hb, h⟩ := it_g h
    refine ml_45 (pc := 49) C d_MM_times_49 (bin_in hb) ?_
    refine ax_istore_n (pc := 50) C d_MM_times_50 rfl (Nat.le_of_ble_eq_true rfl) ([(3, .int (σ1.2.1 45 (Int32.toNatClampNeg x2))), (0, .ref z), (1, .int x0), (2, .int x1)]) rfl ?_
    refine ax_goto (pc := 51) C 34 d_MM_times_51 (by decide) ?_
    refine ax_ls ([(0, .ref z), (1, .int x0), (2, .int x1), (3, .int (σ1.2.1 45 (Int32.toNatClampNeg x2)))]) [1, 2, 3, 0] rfl ?_
    have hm : s_52 l D kA z v σ1 [x0, x1, (σ1.2.1 45 (Int32.toNatClampNeg x2))] (σf, rf, _) := ih 52 _ _ _ h
    exact hm _ _ _ rfl p e s m args below meth c F Lo σ0 hF hLo C
set_option maxHeartbeats 4000000 in
set_option maxRecDepth 100000 in
theorem o_53 (l : Launch) (D : va_G) (kA : Nat → ClassId) (z : Nat) (v : Nat → Nat) (rec : mF) (ih : ∀ t σ xs res, rec t σ xs = some res → mSem l D kA z v t σ xs res) (σ : mS) (xs : List Int32) (res : mR) (h : k_53 rec σ xs = some res) : s_53 l D kA z v σ xs res := by
  intro x0 hxs
  subst hxs
  obtain ⟨σf, rf, dd⟩ := res
  have h : (rec 54 σ [x0, 0, 0]) = some (σf, rf, dd) := h
  refine ax_Mi.of (by decide +kernel) (Nat.le_of_ble_eq_true rfl) ?_
  intro p e s m args below meth c C hnm
  have C : ax_C p s m args meth c b_MM_inState "ClauseProverModel" 4 (some .int) D kA (va_A (mmW kA z v σ) s.heap.size) := C
  obtain ⟨F, hFe⟩ : ∃ F, F = dd + 1 := ⟨_, rfl⟩
  obtain ⟨Lo, hLoe⟩ : ∃ Lo, Lo = 64 * dd + 64 := ⟨_, rfl⟩
  obtain ⟨σ0, hσ0⟩ : ∃ s0, s0 = σ := ⟨_, rfl⟩
  suffices K : AW p l e { frames := F, cells := 0, slots := 0, locals := Lo } s m args below meth c D kA (va_A (mmW kA z v σ0) s.heap.size) 4 (ax_Qi below args s D kA (mmW kA z v σ0) 0 0 (fun r w1 => r = rf ∧ w1 = mmW kA z v σf)) 0 [(0, .ref z), (1, .int x0)] [] (mmW kA z v σ) 0 0 by rw [hFe, hLoe, hσ0] at K; exact ax_ls ([(0, .ref z), (1, .int x0)]) [0, 1] rfl K
  have C : ax_C p s m args meth c b_MM_inState "ClauseProverModel" 4 (some .int) D kA (va_A (mmW kA z v σ0) s.heap.size) := by rw [hσ0]; exact C
  have hF : dd + 1 ≤ F := by omega
  have hLo : 64 * dd + 64 ≤ Lo := by omega
  clear hFe hLoe hσ0
  refine ax_iconst (pc := 0) C 0 d_MM_inState_0 (by decide +kernel) ?_
  refine ax_istore_n (pc := 1) C d_MM_inState_1 rfl (Nat.le_of_ble_eq_true rfl) ([(2, .int 0), (0, .ref z), (1, .int x0)]) rfl ?_
  refine ax_iconst (pc := 2) C 0 d_MM_inState_2 (by decide +kernel) ?_
  refine ax_istore_n (pc := 3) C d_MM_inState_3 rfl (Nat.le_of_ble_eq_true rfl) ([(3, .int 0), (2, .int 0), (0, .ref z), (1, .int x0)]) rfl ?_
  refine ax_ls ([(0, .ref z), (1, .int x0), (2, .int 0), (3, .int 0)]) [2, 3, 1, 0] rfl ?_
  have hm : s_54 l D kA z v σ [x0, 0, 0] (σf, rf, _) := ih 54 _ _ _ h
  exact hm _ _ _ rfl p e s m args below meth c F Lo σ0 hF hLo C
set_option maxHeartbeats 4000000 in
set_option maxRecDepth 100000 in
theorem o_54 (l : Launch) (D : va_G) (kA : Nat → ClassId) (z : Nat) (v : Nat → Nat) (rec : mF) (ih : ∀ t σ xs res, rec t σ xs = some res → mSem l D kA z v t σ xs res) (σ : mS) (xs : List Int32) (res : mR) (h : k_54 rec σ xs = some res) : s_54 l D kA z v σ xs res := by
  intro x0 x1 x2 hxs
  subst hxs
  obtain ⟨σf, rf, dd⟩ := res
  have h : (if (σ.1 84) ≤ x2 then (some (σ, x1, 0)) else (if bin x2 2001 = true then (if (σ.2.1 80 (Int32.toNatClampNeg x2)) = x0 then (rec 55 σ [x0, (x1 + 1), x2]) else (rec 55 σ [x0, x1, x2])) else none)) = some (σf, rf, dd) := h
  intro p e s m args below meth c F Lo σ0 hF hLo C
  dsimp only at hF hLo ⊢
  refine ax_iload_n (pc := 4) C d_MM_inState_4 rfl 3 rfl ?_
  refine ax_aload_n (pc := 5) C d_MM_inState_5 rfl 0 rfl ?_
  refine mg_269 (pc := 6) C d_MM_inState_6 ?_
  refine ax_icmp_ge (pc := 9) C 31 d_MM_inState_9 (by decide) (fun hc => ?_) (fun hc => ?_)
  · have h := it_t hc h
    refine ax_iload_n (pc := 31) C d_MM_inState_31 rfl 2 rfl ?_
    cases h
    exact ax_iret (pc := 32) C d_MM_inState_32 ⟨rfl, rfl⟩ (Nat.le_refl _) (Nat.le_refl _)
  · have h := it_f hc h
    refine ax_aload_n (pc := 12) C d_MM_inState_12 rfl 0 rfl ?_
    refine mg_256 (pc := 13) C d_MM_inState_13 ?_
    refine ax_iload_n (pc := 16) C d_MM_inState_16 rfl 3 rfl ?_
    obtain ⟨hb, h⟩ := it_g h
    refine ml_80 (pc := 17) C d_MM_inState_17 (bin_in hb) ?_
    refine ax_iload_n (pc := 18) C d_MM_inState_18 rfl 1 rfl ?_
    refine ax_icmp_ne (pc := 19) C 25 d_MM_inState_19 (by decide) (fun hc => ?_) (fun hc => ?_)
    · have h := it_f hc h
      refine ax_ls ([(0, .ref z), (1, .int x0), (2, .int x1), (3, .int x2)]) [0, 1, 2, 3] rfl ?_
      have hm : s_55 l D kA z v σ [x0, x1, x2] (σf, rf, _) := ih 55 _ _ _ h
      exact hm _ _ _ rfl p e s m args below meth c F Lo σ0 hF hLo C
    · have h := it_t hc h
      refine ax_iinc (pc := 22) C (x1 + 1) d_MM_inState_22 2 rfl rfl (Nat.le_of_ble_eq_true rfl) ([(2, .int (x1 + 1)), (0, .ref z), (1, .int x0), (3, .int x2)]) rfl ?_
      refine ax_ls ([(0, .ref z), (1, .int x0), (2, .int (x1 + 1)), (3, .int x2)]) [1, 2, 0, 3] rfl ?_
      have hm : s_55 l D kA z v σ [x0, (x1 + 1), x2] (σf, rf, _) := ih 55 _ _ _ h
      exact hm _ _ _ rfl p e s m args below meth c F Lo σ0 hF hLo C
set_option maxHeartbeats 4000000 in
set_option maxRecDepth 100000 in
theorem o_55 (l : Launch) (D : va_G) (kA : Nat → ClassId) (z : Nat) (v : Nat → Nat) (rec : mF) (ih : ∀ t σ xs res, rec t σ xs = some res → mSem l D kA z v t σ xs res) (σ : mS) (xs : List Int32) (res : mR) (h : k_55 rec σ xs = some res) : s_55 l D kA z v σ xs res := by
  intro x0 x1 x2 hxs
  subst hxs
  obtain ⟨σf, rf, dd⟩ := res
  have h : (rec 54 σ [x0, x1, (x2 + 1)]) = some (σf, rf, dd) := h
  intro p e s m args below meth c F Lo σ0 hF hLo C
  dsimp only at hF hLo ⊢
  refine ax_iinc (pc := 25) C (x2 + 1) d_MM_inState_25 3 rfl rfl (Nat.le_of_ble_eq_true rfl) ([(3, .int (x2 + 1)), (0, .ref z), (1, .int x0), (2, .int x1)]) rfl ?_
  refine ax_goto (pc := 28) C 4 d_MM_inState_28 (by decide) ?_
  refine ax_ls ([(0, .ref z), (1, .int x0), (2, .int x1), (3, .int (x2 + 1))]) [1, 2, 3, 0] rfl ?_
  have hm : s_54 l D kA z v σ [x0, x1, (x2 + 1)] (σf, rf, _) := ih 54 _ _ _ h
  exact hm _ _ _ rfl p e s m args below meth c F Lo σ0 hF hLo C
