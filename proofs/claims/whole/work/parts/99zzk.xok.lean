set_option maxHeartbeats 4000000 in
set_option maxRecDepth 100000 in
theorem oX_parse (l : Launch) (D : va_G) (kA : Nat → ClassId) (z : Nat) (v : Nat → Nat) (rec rex : mF) (ih : ∀ t σ xs res, rec t σ xs = some res → mSem l D kA z v t σ xs res) (ihx : ∀ t σ xs res, rex t σ xs = some res → xSem l D kA z v t σ xs res) (σ : mS) (xs : List Int32) (res : mR) (h : u_0 (kX_parse rec rex σ) xs = some res) : sX_parse l D kA z v σ xs res := by
  intro hxs
  subst hxs
  obtain ⟨σf, rf, dd⟩ := res
  have h : (lt_ (mI σ 7 0) (fun σ1 => lt_ (mI σ1 12 0) (fun σ2 => lt_ (mI σ2 11 0) (fun σ3 => rex tX_parse_15 σ3 [])))) = some (σf, rf, dd) := h
  obtain ⟨o, ho⟩ : ∃ o, o = xo (σf, rf) := ⟨_, rfl⟩
  show xMv l D kA y_MM_parse b_MM_parse 3 (dd + 8) (48 * dd + 400) [.ref z] (mmW kA z v σ) z v σf (xo (σf, rf))
  rw [← ho]
  refine xMv.of (by decide +kernel) (Nat.le_of_ble_eq_true rfl) ?_
  intro p e s m args below meth c C hT
  have C : ax_C p s m args meth c b_MM_parse "ClauseProverModel" 3 none D kA (va_A (mmW kA z v σ) s.heap.size) := C
  obtain ⟨F, hFe⟩ : ∃ F, F = dd + 8 := ⟨_, rfl⟩
  obtain ⟨Lo, hLoe⟩ : ∃ Lo, Lo = 48 * dd + 400 := ⟨_, rfl⟩
  obtain ⟨σ0, hσ0⟩ : ∃ s0, s0 = σ := ⟨_, rfl⟩
  suffices K : AW p l e { frames := F, cells := xmc o, slots := xms o, locals := Lo } s m args below meth c D kA (va_A (mmW kA z v σ0) s.heap.size) 3 (xQv below args s D kA (mmW kA z v σ0) z v σf o) 0 [(0, .ref z)] [] (mmW kA z v σ) 0 0 by rw [hFe, hLoe, hσ0] at K; exact ax_ls ([(0, .ref z)]) [0] rfl K
  have C : ax_C p s m args meth c b_MM_parse "ClauseProverModel" 3 none D kA (va_A (mmW kA z v σ0) s.heap.size) := by rw [hσ0]; exact C
  have hT : XT o l e s m meth c (va_A (mmW kA z v σ0) s.heap.size) := by rw [hσ0]; exact hT
  have hF : dd + 8 ≤ F := by omega
  have hLo : 48 * dd + 400 ≤ Lo := by omega
  clear hFe hLoe hσ0
  refine ax_aload_n (pc := 0) C d_MM_parse_0 rfl 0 rfl ?_
  refine ax_iconst (pc := 1) C 0 d_MM_parse_1 (by decide +kernel) ?_
  refine mp_33 (pc := 2) C d_MM_parse_2 ?_
  have h := it_l h
  generalize mI σ 7 0 = σ1 at h ⊢
  refine ax_aload_n (pc := 5) C d_MM_parse_5 rfl 0 rfl ?_
  refine ax_iconst (pc := 6) C 0 d_MM_parse_6 (by decide +kernel) ?_
  refine mp_49 (pc := 7) C d_MM_parse_7 ?_
  have h := it_l h
  generalize mI σ1 12 0 = σ2 at h ⊢
  refine ax_aload_n (pc := 10) C d_MM_parse_10 rfl 0 rfl ?_
  refine ax_iconst (pc := 11) C 0 d_MM_parse_11 (by decide +kernel) ?_
  refine mp_45 (pc := 12) C (by decide) d_MM_parse_12 ?_
  have h := it_l h
  generalize mI σ2 11 0 = σ3 at h ⊢
  refine ax_ls ([(0, .ref z)]) [0] rfl ?_
  have hm : sX_parse_15 l D kA z v σ3 [] (σf, rf, _) := ihx tX_parse_15 _ _ _ h
  subst ho
  exact hm rfl p e s m args below meth c F Lo σ0 hF hLo C hT
set_option maxHeartbeats 4000000 in
set_option maxRecDepth 100000 in
theorem oX_parse_15 (l : Launch) (D : va_G) (kA : Nat → ClassId) (z : Nat) (v : Nat → Nat) (rec rex : mF) (ih : ∀ t σ xs res, rec t σ xs = some res → mSem l D kA z v t σ xs res) (ihx : ∀ t σ xs res, rex t σ xs = some res → xSem l D kA z v t σ xs res) (σ : mS) (xs : List Int32) (res : mR) (h : u_0 (kX_parse_15 rec rex σ) xs = some res) : sX_parse_15 l D kA z v σ xs res := by
  intro hxs
  subst hxs
  obtain ⟨σf, rf, dd⟩ := res
  have h : (bnd (rec tM_peek σ []) (fun σ1 r1 => if r1 = 0 then (lt_ (mI σ1 3000 0) (fun u => some (u, 0, 0))) else (if bin (σ1.1 55) 20100 = true then (lt_ (mA σ1 50 (Int32.toNatClampNeg (σ1.1 55)) (σ1.1 9)) (fun σ2 => lt_ (mI σ2 28 0) (fun σ3 => lt_ (mI σ3 29 0) (fun σ4 => if (σ4.1 8) = 2 then (if (((σ4.1 10) : Int32) - (σ4.1 9)) = 5 then (bnd (rec tM_at σ4 [(σ4.1 9), 112]) (fun σ5 r5 => if r5 = 0 then (rex tX_parse_143 σ5 []) else (bnd (rec tM_at σ5 [(((σ5.1 9) : Int32) + 1), 114]) (fun σ6 r6 => if r6 = 0 then (rex tX_parse_143 σ6 []) else (bnd (rec tM_at σ6 [(((σ6.1 9) : Int32) + 2), 111]) (fun σ7 r7 => if r7 = 0 then (rex tX_parse_143 σ7 []) else (bnd (rec tM_at σ7 [(((σ7.1 9) : Int32) + 3), 118]) (fun σ8 r8 => if r8 = 0 then (rex tX_parse_143 σ8 []) else (bnd (rec tM_at σ8 [(((σ8.1 9) : Int32) + 4), 101]) (fun σ9 r9 => if r9 = 0 then (rex tX_parse_143 σ9 []) else (rex tX_parse_144 σ9 [1]))))))))))) else (rex tX_parse_143 σ4 [])) else (rex tX_parse_143 σ4 []))))) else none))) = some (σf, rf, dd) := h
  intro p e s m args below meth c F Lo σ0 hF hLo C hT
  dsimp only at hF hLo hT ⊢
  obtain ⟨o, ho⟩ : ∃ o, o = xo (σf, rf) := ⟨_, rfl⟩
  rw [← ho] at hT ⊢
  refine ax_aload_n (pc := 15) C d_MM_parse_15 rfl 0 rfl ?_
  obtain ⟨σ1, r1, d1_1, d2_1, h1, h, hd2, hd1⟩ := it_b h
  have hm : sM_peek l D kA z v σ [] (σ1, r1, d1_1) := ih tM_peek _ _ _ h1
  refine mc_Vi (pc := 16) C (As := []) (rest := []) (hm rfl) ml_MM_422 d_MM_parse_16 rfl rfl (by dsimp only; omega) (by dsimp only; omega) (Nat.zero_le _) (Nat.zero_le _) (Nat.le_of_ble_eq_true rfl) ?_
  have hF : d2_1 + 8 ≤ F := by omega
  have hLo : 48 * d2_1 + 400 ≤ Lo := by omega
  refine ax_if_eq (pc := 19) C 260 d_MM_parse_19 (by decide) (fun hc => ?_) (fun hc => ?_)
  · have h := it_t hc h
    have h := it_l h
    cases h
    exact xr_vret (pc := 260) C ho d_MM_parse_260
  · have h := it_f hc h
    refine ax_aload_n (pc := 22) C d_MM_parse_22 rfl 0 rfl ?_
    refine mg_166 (pc := 23) C d_MM_parse_23 ?_
    refine ax_aload_n (pc := 26) C d_MM_parse_26 rfl 0 rfl ?_
    refine mg_181 (pc := 27) C d_MM_parse_27 ?_
    refine ax_aload_n (pc := 30) C d_MM_parse_30 rfl 0 rfl ?_
    refine mg_39 (pc := 31) C d_MM_parse_31 ?_
    obtain ⟨hb, h⟩ := it_g h
    refine ms_50 (pc := 34) C d_MM_parse_34 (bin_in hb) ?_
    have h := it_l h
    generalize mA σ1 50 (Int32.toNatClampNeg (σ1.1 55)) (σ1.1 9) = σ2 at h ⊢
    refine ax_aload_n (pc := 35) C d_MM_parse_35 rfl 0 rfl ?_
    refine ax_iconst (pc := 36) C 0 d_MM_parse_36 (by decide +kernel) ?_
    refine mp_99 (pc := 37) C d_MM_parse_37 ?_
    have h := it_l h
    generalize mI σ2 28 0 = σ3 at h ⊢
    refine ax_aload_n (pc := 40) C d_MM_parse_40 rfl 0 rfl ?_
    refine ax_iconst (pc := 41) C 0 d_MM_parse_41 (by decide +kernel) ?_
    refine mp_102 (pc := 42) C d_MM_parse_42 ?_
    have h := it_l h
    generalize mI σ3 29 0 = σ4 at h ⊢
    refine ax_aload_n (pc := 45) C d_MM_parse_45 rfl 0 rfl ?_
    refine mg_36 (pc := 46) C d_MM_parse_46 ?_
    refine ax_iconst (pc := 49) C 2 d_MM_parse_49 (by decide +kernel) ?_
    refine ax_icmp_ne (pc := 50) C 143 d_MM_parse_50 (by decide) (fun hc => ?_) (fun hc => ?_)
    · have h := it_f hc h
      refine ax_ls ([(0, .ref z)]) [0] rfl ?_
      have hm : sX_parse_143 l D kA z v σ4 [] (σf, rf, _) := ihx tX_parse_143 _ _ _ h
      subst ho
      exact hm rfl p e s m args below meth c F Lo σ0 hF hLo C hT
    · have h := it_t hc h
      refine ax_aload_n (pc := 53) C d_MM_parse_53 rfl 0 rfl ?_
      refine mg_42 (pc := 54) C d_MM_parse_54 ?_
      refine ax_aload_n (pc := 57) C d_MM_parse_57 rfl 0 rfl ?_
      refine mg_39 (pc := 58) C d_MM_parse_58 ?_
      refine ax_isub (pc := 61) C d_MM_parse_61 ?_
      refine ax_iconst (pc := 62) C 5 d_MM_parse_62 (by decide +kernel) ?_
      refine ax_icmp_ne (pc := 63) C 143 d_MM_parse_63 (by decide) (fun hc => ?_) (fun hc => ?_)
      · have h := it_f hc h
        refine ax_ls ([(0, .ref z)]) [0] rfl ?_
        have hm : sX_parse_143 l D kA z v σ4 [] (σf, rf, _) := ihx tX_parse_143 _ _ _ h
        subst ho
        exact hm rfl p e s m args below meth c F Lo σ0 hF hLo C hT
      · have h := it_t hc h
        refine ax_aload_n (pc := 66) C d_MM_parse_66 rfl 0 rfl ?_
        refine ax_aload_n (pc := 67) C d_MM_parse_67 rfl 0 rfl ?_
        refine mg_39 (pc := 68) C d_MM_parse_68 ?_
        refine ax_bipush (pc := 71) C 112 d_MM_parse_71 (by decide +kernel) ?_
        obtain ⟨σ5, r5, d1_5, d2_5, h1, h, hd2, hd1⟩ := it_b h
        have hm : sM_at l D kA z v σ4 [(σ4.1 9), 112] (σ5, r5, d1_5) := ih tM_at _ _ _ h1
        refine mc_Vi (pc := 73) C (As := [.int (σ4.1 9), .int 112]) (rest := []) (hm _ _ rfl) ml_MM_419 d_MM_parse_73 rfl rfl (by dsimp only; omega) (by dsimp only; omega) (Nat.zero_le _) (Nat.zero_le _) (Nat.le_of_ble_eq_true rfl) ?_
        have hF : d2_5 + 8 ≤ F := by omega
        have hLo : 48 * d2_5 + 400 ≤ Lo := by omega
        refine ax_if_eq (pc := 76) C 143 d_MM_parse_76 (by decide) (fun hc => ?_) (fun hc => ?_)
        · have h := it_t hc h
          refine ax_ls ([(0, .ref z)]) [0] rfl ?_
          have hm : sX_parse_143 l D kA z v σ5 [] (σf, rf, _) := ihx tX_parse_143 _ _ _ h
          subst ho
          exact hm rfl p e s m args below meth c F Lo σ0 hF hLo C hT
        · have h := it_f hc h
          refine ax_aload_n (pc := 79) C d_MM_parse_79 rfl 0 rfl ?_
          refine ax_aload_n (pc := 80) C d_MM_parse_80 rfl 0 rfl ?_
          refine mg_39 (pc := 81) C d_MM_parse_81 ?_
          refine ax_iconst (pc := 84) C 1 d_MM_parse_84 (by decide +kernel) ?_
          refine ax_iadd (pc := 85) C d_MM_parse_85 ?_
          refine ax_bipush (pc := 86) C 114 d_MM_parse_86 (by decide +kernel) ?_
          obtain ⟨σ6, r6, d1_6, d2_6, h1, h, hd2, hd1⟩ := it_b h
          have hm : sM_at l D kA z v σ5 [(((σ5.1 9) : Int32) + 1), 114] (σ6, r6, d1_6) := ih tM_at _ _ _ h1
          refine mc_Vi (pc := 88) C (As := [.int (((σ5.1 9) : Int32) + 1), .int 114]) (rest := []) (hm _ _ rfl) ml_MM_419 d_MM_parse_88 rfl rfl (by dsimp only; omega) (by dsimp only; omega) (Nat.zero_le _) (Nat.zero_le _) (Nat.le_of_ble_eq_true rfl) ?_
          have hF : d2_6 + 8 ≤ F := by omega
          have hLo : 48 * d2_6 + 400 ≤ Lo := by omega
          refine ax_if_eq (pc := 91) C 143 d_MM_parse_91 (by decide) (fun hc => ?_) (fun hc => ?_)
          · have h := it_t hc h
            refine ax_ls ([(0, .ref z)]) [0] rfl ?_
            have hm : sX_parse_143 l D kA z v σ6 [] (σf, rf, _) := ihx tX_parse_143 _ _ _ h
            subst ho
            exact hm rfl p e s m args below meth c F Lo σ0 hF hLo C hT
          · have h := it_f hc h
            refine ax_aload_n (pc := 94) C d_MM_parse_94 rfl 0 rfl ?_
            refine ax_aload_n (pc := 95) C d_MM_parse_95 rfl 0 rfl ?_
            refine mg_39 (pc := 96) C d_MM_parse_96 ?_
            refine ax_iconst (pc := 99) C 2 d_MM_parse_99 (by decide +kernel) ?_
            refine ax_iadd (pc := 100) C d_MM_parse_100 ?_
            refine ax_bipush (pc := 101) C 111 d_MM_parse_101 (by decide +kernel) ?_
            obtain ⟨σ7, r7, d1_7, d2_7, h1, h, hd2, hd1⟩ := it_b h
            have hm : sM_at l D kA z v σ6 [(((σ6.1 9) : Int32) + 2), 111] (σ7, r7, d1_7) := ih tM_at _ _ _ h1
            refine mc_Vi (pc := 103) C (As := [.int (((σ6.1 9) : Int32) + 2), .int 111]) (rest := []) (hm _ _ rfl) ml_MM_419 d_MM_parse_103 rfl rfl (by dsimp only; omega) (by dsimp only; omega) (Nat.zero_le _) (Nat.zero_le _) (Nat.le_of_ble_eq_true rfl) ?_
            have hF : d2_7 + 8 ≤ F := by omega
            have hLo : 48 * d2_7 + 400 ≤ Lo := by omega
            refine ax_if_eq (pc := 106) C 143 d_MM_parse_106 (by decide) (fun hc => ?_) (fun hc => ?_)
            · have h := it_t hc h
              refine ax_ls ([(0, .ref z)]) [0] rfl ?_
              have hm : sX_parse_143 l D kA z v σ7 [] (σf, rf, _) := ihx tX_parse_143 _ _ _ h
              subst ho
              exact hm rfl p e s m args below meth c F Lo σ0 hF hLo C hT
            · have h := it_f hc h
              refine ax_aload_n (pc := 109) C d_MM_parse_109 rfl 0 rfl ?_
              refine ax_aload_n (pc := 110) C d_MM_parse_110 rfl 0 rfl ?_
              refine mg_39 (pc := 111) C d_MM_parse_111 ?_
              refine ax_iconst (pc := 114) C 3 d_MM_parse_114 (by decide +kernel) ?_
              refine ax_iadd (pc := 115) C d_MM_parse_115 ?_
              refine ax_bipush (pc := 116) C 118 d_MM_parse_116 (by decide +kernel) ?_
              obtain ⟨σ8, r8, d1_8, d2_8, h1, h, hd2, hd1⟩ := it_b h
              have hm : sM_at l D kA z v σ7 [(((σ7.1 9) : Int32) + 3), 118] (σ8, r8, d1_8) := ih tM_at _ _ _ h1
              refine mc_Vi (pc := 118) C (As := [.int (((σ7.1 9) : Int32) + 3), .int 118]) (rest := []) (hm _ _ rfl) ml_MM_419 d_MM_parse_118 rfl rfl (by dsimp only; omega) (by dsimp only; omega) (Nat.zero_le _) (Nat.zero_le _) (Nat.le_of_ble_eq_true rfl) ?_
              have hF : d2_8 + 8 ≤ F := by omega
              have hLo : 48 * d2_8 + 400 ≤ Lo := by omega
              refine ax_if_eq (pc := 121) C 143 d_MM_parse_121 (by decide) (fun hc => ?_) (fun hc => ?_)
              · have h := it_t hc h
                refine ax_ls ([(0, .ref z)]) [0] rfl ?_
                have hm : sX_parse_143 l D kA z v σ8 [] (σf, rf, _) := ihx tX_parse_143 _ _ _ h
                subst ho
                exact hm rfl p e s m args below meth c F Lo σ0 hF hLo C hT
              · have h := it_f hc h
                refine ax_aload_n (pc := 124) C d_MM_parse_124 rfl 0 rfl ?_
                refine ax_aload_n (pc := 125) C d_MM_parse_125 rfl 0 rfl ?_
                refine mg_39 (pc := 126) C d_MM_parse_126 ?_
                refine ax_iconst (pc := 129) C 4 d_MM_parse_129 (by decide +kernel) ?_
                refine ax_iadd (pc := 130) C d_MM_parse_130 ?_
                refine ax_bipush (pc := 131) C 101 d_MM_parse_131 (by decide +kernel) ?_
                obtain ⟨σ9, r9, d1_9, d2_9, h1, h, hd2, hd1⟩ := it_b h
                have hm : sM_at l D kA z v σ8 [(((σ8.1 9) : Int32) + 4), 101] (σ9, r9, d1_9) := ih tM_at _ _ _ h1
                refine mc_Vi (pc := 133) C (As := [.int (((σ8.1 9) : Int32) + 4), .int 101]) (rest := []) (hm _ _ rfl) ml_MM_419 d_MM_parse_133 rfl rfl (by dsimp only; omega) (by dsimp only; omega) (Nat.zero_le _) (Nat.zero_le _) (Nat.le_of_ble_eq_true rfl) ?_
                have hF : d2_9 + 8 ≤ F := by omega
                have hLo : 48 * d2_9 + 400 ≤ Lo := by omega
                refine ax_if_eq (pc := 136) C 143 d_MM_parse_136 (by decide) (fun hc => ?_) (fun hc => ?_)
                · have h := it_t hc h
                  refine ax_ls ([(0, .ref z)]) [0] rfl ?_
                  have hm : sX_parse_143 l D kA z v σ9 [] (σf, rf, _) := ihx tX_parse_143 _ _ _ h
                  subst ho
                  exact hm rfl p e s m args below meth c F Lo σ0 hF hLo C hT
                · have h := it_f hc h
                  refine ax_iconst (pc := 139) C 1 d_MM_parse_139 (by decide +kernel) ?_
                  refine ax_goto (pc := 140) C 144 d_MM_parse_140 (by decide) ?_
                  refine ax_ls ([(0, .ref z)]) [0] rfl ?_
                  have hm : sX_parse_144 l D kA z v σ9 [1] (σf, rf, _) := ihx tX_parse_144 _ _ _ h
                  subst ho
                  exact hm _ rfl p e s m args below meth c F Lo σ0 hF hLo C hT
set_option maxHeartbeats 4000000 in
set_option maxRecDepth 100000 in
theorem oX_parse_143 (l : Launch) (D : va_G) (kA : Nat → ClassId) (z : Nat) (v : Nat → Nat) (rec rex : mF) (ih : ∀ t σ xs res, rec t σ xs = some res → mSem l D kA z v t σ xs res) (ihx : ∀ t σ xs res, rex t σ xs = some res → xSem l D kA z v t σ xs res) (σ : mS) (xs : List Int32) (res : mR) (h : u_0 (kX_parse_143 rec rex σ) xs = some res) : sX_parse_143 l D kA z v σ xs res := by
  intro hxs
  subst hxs
  obtain ⟨σf, rf, dd⟩ := res
  have h : (rex tX_parse_144 σ [0]) = some (σf, rf, dd) := h
  intro p e s m args below meth c F Lo σ0 hF hLo C hT
  dsimp only at hF hLo hT ⊢
  obtain ⟨o, ho⟩ : ∃ o, o = xo (σf, rf) := ⟨_, rfl⟩
  rw [← ho] at hT ⊢
  refine ax_iconst (pc := 143) C 0 d_MM_parse_143 (by decide +kernel) ?_
  refine ax_ls ([(0, .ref z)]) [0] rfl ?_
  have hm : sX_parse_144 l D kA z v σ [0] (σf, rf, _) := ihx tX_parse_144 _ _ _ h
  subst ho
  exact hm _ rfl p e s m args below meth c F Lo σ0 hF hLo C hT
set_option maxHeartbeats 4000000 in
set_option maxRecDepth 100000 in
theorem oX_parse_144 (l : Launch) (D : va_G) (kA : Nat → ClassId) (z : Nat) (v : Nat → Nat) (rec rex : mF) (ih : ∀ t σ xs res, rec t σ xs = some res → mSem l D kA z v t σ xs res) (ihx : ∀ t σ xs res, rex t σ xs = some res → xSem l D kA z v t σ xs res) (σ : mS) (xs : List Int32) (res : mR) (h : u_1 (kX_parse_144 rec rex σ) xs = some res) : sX_parse_144 l D kA z v σ xs res := by
  intro x0 hxs
  subst hxs
  obtain ⟨σf, rf, dd⟩ := res
  have h : (if x0 = 0 then (rex tX_parse_153 σ [x0]) else (bnd (rec tM_take σ []) (fun σ1 r1 => rex tX_parse_153 σ1 [x0]))) = some (σf, rf, dd) := h
  intro p e s m args below meth c F Lo σ0 hF hLo C hT
  dsimp only at hF hLo hT ⊢
  obtain ⟨o, ho⟩ : ∃ o, o = xo (σf, rf) := ⟨_, rfl⟩
  rw [← ho] at hT ⊢
  refine ax_istore_n (pc := 144) C d_MM_parse_144 rfl (Nat.le_of_ble_eq_true rfl) ([(1, .int x0), (0, .ref z)]) rfl ?_
  refine ax_iload_n (pc := 145) C d_MM_parse_145 rfl 0 rfl ?_
  refine ax_if_eq (pc := 146) C 153 d_MM_parse_146 (by decide) (fun hc => ?_) (fun hc => ?_)
  · have h := it_t hc h
    refine ax_ls ([(0, .ref z), (1, .int x0)]) [1, 0] rfl ?_
    have hm : sX_parse_153 l D kA z v σ [x0] (σf, rf, _) := ihx tX_parse_153 _ _ _ h
    subst ho
    exact hm _ rfl p e s m args below meth c F Lo σ0 hF hLo C hT
  · have h := it_f hc h
    refine ax_aload_n (pc := 149) C d_MM_parse_149 rfl 1 rfl ?_
    obtain ⟨σ1, r1, d1_1, d2_1, h1, h, hd2, hd1⟩ := it_b h
    have hm : sM_take l D kA z v σ [] (σ1, r1, d1_1) := ih tM_take _ _ _ h1
    refine mc_Vv (pc := 150) C (As := []) (rest := []) (hm rfl) ml_MM_435 d_MM_parse_150 rfl rfl (by dsimp only; omega) (by dsimp only; omega) (Nat.zero_le _) (Nat.zero_le _) (Nat.le_of_ble_eq_true rfl) ?_
    have hF : d2_1 + 8 ≤ F := by omega
    have hLo : 48 * d2_1 + 400 ≤ Lo := by omega
    refine ax_ls ([(0, .ref z), (1, .int x0)]) [1, 0] rfl ?_
    have hm : sX_parse_153 l D kA z v σ1 [x0] (σf, rf, _) := ihx tX_parse_153 _ _ _ h
    subst ho
    exact hm _ rfl p e s m args below meth c F Lo σ0 hF hLo C hT
set_option maxHeartbeats 4000000 in
set_option maxRecDepth 100000 in
theorem oX_parse_153 (l : Launch) (D : va_G) (kA : Nat → ClassId) (z : Nat) (v : Nat → Nat) (rec rex : mF) (ih : ∀ t σ xs res, rec t σ xs = some res → mSem l D kA z v t σ xs res) (ihx : ∀ t σ xs res, rex t σ xs = some res → xSem l D kA z v t σ xs res) (σ : mS) (xs : List Int32) (res : mR) (h : u_1 (kX_parse_153 rec rex σ) xs = some res) : sX_parse_153 l D kA z v σ xs res := by
  intro x0 hxs
  subst hxs
  obtain ⟨σf, rf, dd⟩ := res
  have h : (if bin (σ.1 55) 20100 = true then (lt_ (mA σ 57 (Int32.toNatClampNeg (σ.1 55)) (vp_nar .boolean x0)) (fun σ1 => bnd (rex tX_formula σ1 [0]) (fun σ2 r2 => if σ2.1 3000 = 0 then (if bin (σ1.1 55) 20100 = true then (lt_ (mA σ2 51 (Int32.toNatClampNeg (σ1.1 55)) r2) (fun σ3 => bnd (rex tX_must σ3 [46]) (fun σ4 r4 => if σ4.1 3000 = 0 then (if bin (σ4.1 55) 20100 = true then (lt_ (mA σ4 52 (Int32.toNatClampNeg (σ4.1 55)) (σ4.1 56)) (fun σ5 => if bin (σ5.1 55) 20100 = true then (lt_ (mA σ5 53 (Int32.toNatClampNeg (σ5.1 55)) (σ5.1 29)) (fun σ6 => rex tX_parse_211 σ6 [x0, 0])) else none)) else none) else (some (σ4, 0, 0))))) else none) else (some (σ2, 0, 0))))) else none) = some (σf, rf, dd) := h
  intro p e s m args below meth c F Lo σ0 hF hLo C hT
  dsimp only at hF hLo hT ⊢
  obtain ⟨o, ho⟩ : ∃ o, o = xo (σf, rf) := ⟨_, rfl⟩
  rw [← ho] at hT ⊢
  refine ax_aload_n (pc := 153) C d_MM_parse_153 rfl 0 rfl ?_
  refine mg_187 (pc := 154) C d_MM_parse_154 ?_
  refine ax_aload_n (pc := 157) C d_MM_parse_157 rfl 0 rfl ?_
  refine mg_181 (pc := 158) C d_MM_parse_158 ?_
  refine ax_iload_n (pc := 161) C d_MM_parse_161 rfl 1 rfl ?_
  obtain ⟨hb, h⟩ := it_g h
  refine ms_57 (pc := 162) C d_MM_parse_162 (bin_in hb) ?_
  have h := it_l h
  generalize mA σ 57 (Int32.toNatClampNeg (σ.1 55)) (vp_nar .boolean x0) = σ1 at h ⊢
  refine ax_aload_n (pc := 163) C d_MM_parse_163 rfl 0 rfl ?_
  refine mg_169 (pc := 164) C d_MM_parse_164 ?_
  refine ax_aload_n (pc := 167) C d_MM_parse_167 rfl 0 rfl ?_
  refine mg_181 (pc := 168) C d_MM_parse_168 ?_
  refine ax_aload_n (pc := 171) C d_MM_parse_171 rfl 0 rfl ?_
  refine ax_iconst (pc := 172) C 0 d_MM_parse_172 (by decide +kernel) ?_
  obtain ⟨σ2, r2, d1_2, d2_2, h1, h, hd2, hd1⟩ := it_b h
  have hm : sX_formula l D kA z v σ1 [0] (σ2, r2, d1_2) := ihx tX_formula _ _ _ h1
  by_cases hq : σ2.1 3000 = 0
  · have h := it_t hq h
    refine mcx_Vi (pc := 173) C (As := [.int 0]) (rest := [.int (σ1.1 55), .ref (v 29)]) (hm _ rfl) hq ml_MM_476 d_MM_parse_173 rfl rfl (by dsimp only; omega) (by dsimp only; omega) (Nat.zero_le _) (Nat.zero_le _) (Nat.le_of_ble_eq_true rfl) ?_
    have hF : d2_2 + 8 ≤ F := by omega
    have hLo : 48 * d2_2 + 400 ≤ Lo := by omega
    obtain ⟨hb, h⟩ := it_g h
    refine ms_51 (pc := 176) C d_MM_parse_176 (bin_in hb) ?_
    have h := it_l h
    generalize mA σ2 51 (Int32.toNatClampNeg (σ1.1 55)) r2 = σ3 at h ⊢
    refine ax_aload_n (pc := 177) C d_MM_parse_177 rfl 0 rfl ?_
    refine ax_bipush (pc := 178) C 46 d_MM_parse_178 (by decide +kernel) ?_
    obtain ⟨σ4, r4, d1_4, d2_4, h1, h, hd2, hd1⟩ := it_b h
    have hm : sX_must l D kA z v σ3 [46] (σ4, r4, d1_4) := ihx tX_must _ _ _ h1
    by_cases hq : σ4.1 3000 = 0
    · have h := it_t hq h
      refine mcx_Vv (pc := 180) C (As := [.int 46]) (rest := []) (hm _ rfl) hq ml_MM_479 d_MM_parse_180 rfl rfl (by dsimp only; omega) (by dsimp only; omega) (Nat.zero_le _) (Nat.zero_le _) (Nat.le_of_ble_eq_true rfl) ?_
      have hF : d2_4 + 8 ≤ F := by omega
      have hLo : 48 * d2_4 + 400 ≤ Lo := by omega
      refine ax_aload_n (pc := 183) C d_MM_parse_183 rfl 0 rfl ?_
      refine mg_172 (pc := 184) C d_MM_parse_184 ?_
      refine ax_aload_n (pc := 187) C d_MM_parse_187 rfl 0 rfl ?_
      refine mg_181 (pc := 188) C d_MM_parse_188 ?_
      refine ax_aload_n (pc := 191) C d_MM_parse_191 rfl 0 rfl ?_
      refine mg_184 (pc := 192) C d_MM_parse_192 ?_
      obtain ⟨hb, h⟩ := it_g h
      refine ms_52 (pc := 195) C d_MM_parse_195 (bin_in hb) ?_
      have h := it_l h
      generalize mA σ4 52 (Int32.toNatClampNeg (σ4.1 55)) (σ4.1 56) = σ5 at h ⊢
      refine ax_aload_n (pc := 196) C d_MM_parse_196 rfl 0 rfl ?_
      refine mg_175 (pc := 197) C d_MM_parse_197 ?_
      refine ax_aload_n (pc := 200) C d_MM_parse_200 rfl 0 rfl ?_
      refine mg_181 (pc := 201) C d_MM_parse_201 ?_
      refine ax_aload_n (pc := 204) C d_MM_parse_204 rfl 0 rfl ?_
      refine mg_102 (pc := 205) C d_MM_parse_205 ?_
      obtain ⟨hb, h⟩ := it_g h
      refine ms_53 (pc := 208) C d_MM_parse_208 (bin_in hb) ?_
      have h := it_l h
      generalize mA σ5 53 (Int32.toNatClampNeg (σ5.1 55)) (σ5.1 29) = σ6 at h ⊢
      refine ax_iconst (pc := 209) C 0 d_MM_parse_209 (by decide +kernel) ?_
      refine ax_istore_n (pc := 210) C d_MM_parse_210 rfl (Nat.le_of_ble_eq_true rfl) ([(2, .int 0), (0, .ref z), (1, .int x0)]) rfl ?_
      refine ax_ls ([(0, .ref z), (1, .int x0), (2, .int 0)]) [1, 2, 0] rfl ?_
      have hm : sX_parse_211 l D kA z v σ6 [x0, 0] (σf, rf, _) := ihx tX_parse_211 _ _ _ h
      subst ho
      exact hm _ _ rfl p e s m args below meth c F Lo σ0 hF hLo C hT
    · have h := it_f hq h
      cases h
      obtain ⟨hT1, hX⟩ := hT (by rw [ho]; exact xo_thr hq)
      rw [xQv_thr (by rw [ho]; exact xo_thr hq)]
      exact mcx_P (pc := 180) C (As := [.int 46]) (rest := []) hX (xt_none hT1 _) ho hq (xMv_thr hq (hm _ rfl)) ml_MM_479 d_MM_parse_180 rfl rfl (by dsimp only; omega) (by dsimp only; omega) (Nat.le_of_ble_eq_true rfl)
  · have h := it_f hq h
    cases h
    obtain ⟨hT1, hX⟩ := hT (by rw [ho]; exact xo_thr hq)
    rw [xQv_thr (by rw [ho]; exact xo_thr hq)]
    exact mcx_P (pc := 173) C (As := [.int 0]) (rest := [.int (σ1.1 55), .ref (v 29)]) hX (xt_none hT1 _) ho hq (xMi_thr hq (hm _ rfl)) ml_MM_476 d_MM_parse_173 rfl rfl (by dsimp only; omega) (by dsimp only; omega) (Nat.le_of_ble_eq_true rfl)
set_option maxHeartbeats 4000000 in
set_option maxRecDepth 100000 in
theorem oX_parse_211 (l : Launch) (D : va_G) (kA : Nat → ClassId) (z : Nat) (v : Nat → Nat) (rec rex : mF) (ih : ∀ t σ xs res, rec t σ xs = some res → mSem l D kA z v t σ xs res) (ihx : ∀ t σ xs res, rex t σ xs = some res → xSem l D kA z v t σ xs res) (σ : mS) (xs : List Int32) (res : mR) (h : u_2 (kX_parse_211 rec rex σ) xs = some res) : sX_parse_211 l D kA z v σ xs res := by
  intro x0 x1 hxs
  subst hxs
  obtain ⟨σf, rf, dd⟩ := res
  have h : (if (σ.1 29) ≤ x1 then (lt_ (mI σ 55 (((σ.1 55) : Int32) + 1)) (fun σ1 => rex tX_parse_15 σ1 [])) else (lt_ (mI σ 56 (((σ.1 56) : Int32) + 1)) (fun σ2 => if bin x1 300 = true then (if bin (σ.1 56) 300 = true then (lt_ (mA σ2 54 (Int32.toNatClampNeg (σ.1 56)) (σ2.2.1 27 (Int32.toNatClampNeg x1))) (fun σ3 => rex tX_parse_211 σ3 [x0, (x1 + 1)])) else none) else none))) = some (σf, rf, dd) := h
  intro p e s m args below meth c F Lo σ0 hF hLo C hT
  dsimp only at hF hLo hT ⊢
  obtain ⟨o, ho⟩ : ∃ o, o = xo (σf, rf) := ⟨_, rfl⟩
  rw [← ho] at hT ⊢
  refine ax_iload_n (pc := 211) C d_MM_parse_211 rfl 2 rfl ?_
  refine ax_aload_n (pc := 212) C d_MM_parse_212 rfl 0 rfl ?_
  refine mg_102 (pc := 213) C d_MM_parse_213 ?_
  refine ax_icmp_ge (pc := 216) C 247 d_MM_parse_216 (by decide) (fun hc => ?_) (fun hc => ?_)
  · have h := it_t hc h
    refine ax_aload_n (pc := 247) C d_MM_parse_247 rfl 0 rfl ?_
    refine ax_dup (pc := 248) C d_MM_parse_248 rfl ?_
    refine mg_181 (pc := 249) C d_MM_parse_249 ?_
    refine ax_iconst (pc := 252) C 1 d_MM_parse_252 (by decide +kernel) ?_
    refine ax_iadd (pc := 253) C d_MM_parse_253 ?_
    refine mp_181 (pc := 254) C d_MM_parse_254 ?_
    have h := it_l h
    generalize mI σ 55 (((σ.1 55) : Int32) + 1) = σ1 at h ⊢
    refine ax_goto (pc := 257) C 15 d_MM_parse_257 (by decide) ?_
    refine ax_ls ([(0, .ref z)]) [0] rfl ?_
    have hm : sX_parse_15 l D kA z v σ1 [] (σf, rf, _) := ihx tX_parse_15 _ _ _ h
    subst ho
    exact hm rfl p e s m args below meth c F Lo σ0 hF hLo C hT
  · have h := it_f hc h
    refine ax_aload_n (pc := 219) C d_MM_parse_219 rfl 0 rfl ?_
    refine mg_178 (pc := 220) C d_MM_parse_220 ?_
    refine ax_aload_n (pc := 223) C d_MM_parse_223 rfl 0 rfl ?_
    refine ax_dup (pc := 224) C d_MM_parse_224 rfl ?_
    refine mg_184 (pc := 225) C d_MM_parse_225 ?_
    refine ax_dup_x1 (pc := 228) C d_MM_parse_228 rfl rfl ?_
    refine ax_iconst (pc := 229) C 1 d_MM_parse_229 (by decide +kernel) ?_
    refine ax_iadd (pc := 230) C d_MM_parse_230 ?_
    refine mp_184 (pc := 231) C d_MM_parse_231 ?_
    have h := it_l h
    generalize mI σ 56 (((σ.1 56) : Int32) + 1) = σ2 at h ⊢
    refine ax_aload_n (pc := 234) C d_MM_parse_234 rfl 0 rfl ?_
    refine mg_96 (pc := 235) C d_MM_parse_235 ?_
    refine ax_iload_n (pc := 238) C d_MM_parse_238 rfl 2 rfl ?_
    obtain ⟨hb, h⟩ := it_g h
    refine ml_27 (pc := 239) C d_MM_parse_239 (bin_in hb) ?_
    obtain ⟨hb, h⟩ := it_g h
    refine ms_54 (pc := 240) C d_MM_parse_240 (bin_in hb) ?_
    have h := it_l h
    generalize mA σ2 54 (Int32.toNatClampNeg (σ.1 56)) (σ2.2.1 27 (Int32.toNatClampNeg x1)) = σ3 at h ⊢
    refine ax_iinc (pc := 241) C (x1 + 1) d_MM_parse_241 2 rfl rfl (Nat.le_of_ble_eq_true rfl) ([(2, .int (x1 + 1)), (0, .ref z), (1, .int x0)]) rfl ?_
    refine ax_goto (pc := 244) C 211 d_MM_parse_244 (by decide) ?_
    refine ax_ls ([(0, .ref z), (1, .int x0), (2, .int (x1 + 1))]) [1, 2, 0] rfl ?_
    have hm : sX_parse_211 l D kA z v σ3 [x0, (x1 + 1)] (σf, rf, _) := ihx tX_parse_211 _ _ _ h
    subst ho
    exact hm _ _ rfl p e s m args below meth c F Lo σ0 hF hLo C hT
set_option maxHeartbeats 4000000 in
set_option maxRecDepth 100000 in
theorem oX_formula (l : Launch) (D : va_G) (kA : Nat → ClassId) (z : Nat) (v : Nat → Nat) (rec rex : mF) (ih : ∀ t σ xs res, rec t σ xs = some res → mSem l D kA z v t σ xs res) (ihx : ∀ t σ xs res, rex t σ xs = some res → xSem l D kA z v t σ xs res) (σ : mS) (xs : List Int32) (res : mR) (h : u_1 (kX_formula rec rex σ) xs = some res) : sX_formula l D kA z v σ xs res := by
  intro x0 hxs
  subst hxs
  obtain ⟨σf, rf, dd⟩ := res
  have h : (bnd (rex tX_implication σ [x0]) (fun σ1 r1 => if σ1.1 3000 = 0 then (bnd (rec tM_peek σ1 []) (fun σ2 r2 => if r2 = 302 then (bnd (rec tM_take σ2 []) (fun σ3 r3 => bnd (rex tX_implication σ3 [x0]) (fun σ4 r4 => if σ4.1 3000 = 0 then (bnd (rec tM_joined1 σ4 [5, r1, r4]) (fun σ5 r5 => lt_ (mI σ5 3000 0) (fun u => some (u, r5, 0)))) else (some (σ4, 0, 0))))) else (lt_ (mI σ2 3000 0) (fun u => some (u, r1, 0))))) else (some (σ1, 0, 0)))) = some (σf, rf, dd) := h
  obtain ⟨o, ho⟩ : ∃ o, o = xo (σf, rf) := ⟨_, rfl⟩
  show xMi l D kA y_MM_formula b_MM_formula 4 .int (dd + 8) (48 * dd + 400) [.ref z, .int x0] (mmW kA z v σ) z v σf (xo (σf, rf))
  rw [← ho]
  refine xMi.of (by decide +kernel) (Nat.le_of_ble_eq_true rfl) ?_
  intro p e s m args below meth c C hT
  have C : ax_C p s m args meth c b_MM_formula "ClauseProverModel" 4 (some .int) D kA (va_A (mmW kA z v σ) s.heap.size) := C
  obtain ⟨F, hFe⟩ : ∃ F, F = dd + 8 := ⟨_, rfl⟩
  obtain ⟨Lo, hLoe⟩ : ∃ Lo, Lo = 48 * dd + 400 := ⟨_, rfl⟩
  obtain ⟨σ0, hσ0⟩ : ∃ s0, s0 = σ := ⟨_, rfl⟩
  suffices K : AW p l e { frames := F, cells := xmc o, slots := xms o, locals := Lo } s m args below meth c D kA (va_A (mmW kA z v σ0) s.heap.size) 4 (xQi below args s D kA (mmW kA z v σ0) z v σf o) 0 [(0, .ref z), (1, .int x0)] [] (mmW kA z v σ) 0 0 by rw [hFe, hLoe, hσ0] at K; exact ax_ls ([(0, .ref z), (1, .int x0)]) [0, 1] rfl K
  have C : ax_C p s m args meth c b_MM_formula "ClauseProverModel" 4 (some .int) D kA (va_A (mmW kA z v σ0) s.heap.size) := by rw [hσ0]; exact C
  have hT : XT o l e s m meth c (va_A (mmW kA z v σ0) s.heap.size) := by rw [hσ0]; exact hT
  have hF : dd + 8 ≤ F := by omega
  have hLo : 48 * dd + 400 ≤ Lo := by omega
  clear hFe hLoe hσ0
  refine ax_aload_n (pc := 0) C d_MM_formula_0 rfl 0 rfl ?_
  refine ax_iload_n (pc := 1) C d_MM_formula_1 rfl 1 rfl ?_
  obtain ⟨σ1, r1, d1_1, d2_1, h1, h, hd2, hd1⟩ := it_b h
  have hm : sX_implication l D kA z v σ [x0] (σ1, r1, d1_1) := ihx tX_implication _ _ _ h1
  by_cases hq : σ1.1 3000 = 0
  · have h := it_t hq h
    refine mcx_Vi (pc := 2) C (As := [.int x0]) (rest := []) (hm _ rfl) hq ml_MM_454 d_MM_formula_2 rfl rfl (by dsimp only; omega) (by dsimp only; omega) (Nat.zero_le _) (Nat.zero_le _) (Nat.le_of_ble_eq_true rfl) ?_
    have hF : d2_1 + 8 ≤ F := by omega
    have hLo : 48 * d2_1 + 400 ≤ Lo := by omega
    refine ax_istore_n (pc := 5) C d_MM_formula_5 rfl (Nat.le_of_ble_eq_true rfl) ([(2, .int r1), (0, .ref z), (1, .int x0)]) rfl ?_
    refine ax_aload_n (pc := 6) C d_MM_formula_6 rfl 1 rfl ?_
    obtain ⟨σ2, r2, d1_2, d2_2, h1, h, hd2, hd1⟩ := it_b h
    have hm : sM_peek l D kA z v σ1 [] (σ2, r2, d1_2) := ih tM_peek _ _ _ h1
    refine mc_Vi (pc := 7) C (As := []) (rest := []) (hm rfl) ml_MM_422 d_MM_formula_7 rfl rfl (by dsimp only; omega) (by dsimp only; omega) (Nat.zero_le _) (Nat.zero_le _) (Nat.le_of_ble_eq_true rfl) ?_
    have hF : d2_2 + 8 ≤ F := by omega
    have hLo : 48 * d2_2 + 400 ≤ Lo := by omega
    refine ax_sipush (pc := 10) C 302 d_MM_formula_10 (by decide +kernel) ?_
    refine ax_icmp_eq (pc := 13) C 18 d_MM_formula_13 (by decide) (fun hc => ?_) (fun hc => ?_)
    · have h := it_t hc h
      refine ax_aload_n (pc := 18) C d_MM_formula_18 rfl 1 rfl ?_
      obtain ⟨σ3, r3, d1_3, d2_3, h1, h, hd2, hd1⟩ := it_b h
      have hm : sM_take l D kA z v σ2 [] (σ3, r3, d1_3) := ih tM_take _ _ _ h1
      refine mc_Vv (pc := 19) C (As := []) (rest := []) (hm rfl) ml_MM_435 d_MM_formula_19 rfl rfl (by dsimp only; omega) (by dsimp only; omega) (Nat.zero_le _) (Nat.zero_le _) (Nat.le_of_ble_eq_true rfl) ?_
      have hF : d2_3 + 8 ≤ F := by omega
      have hLo : 48 * d2_3 + 400 ≤ Lo := by omega
      refine ax_aload_n (pc := 22) C d_MM_formula_22 rfl 1 rfl ?_
      refine ax_iload_n (pc := 23) C d_MM_formula_23 rfl 2 rfl ?_
      obtain ⟨σ4, r4, d1_4, d2_4, h1, h, hd2, hd1⟩ := it_b h
      have hm : sX_implication l D kA z v σ3 [x0] (σ4, r4, d1_4) := ihx tX_implication _ _ _ h1
      by_cases hq : σ4.1 3000 = 0
      · have h := it_t hq h
        refine mcx_Vi (pc := 24) C (As := [.int x0]) (rest := []) (hm _ rfl) hq ml_MM_454 d_MM_formula_24 rfl rfl (by dsimp only; omega) (by dsimp only; omega) (Nat.zero_le _) (Nat.zero_le _) (Nat.le_of_ble_eq_true rfl) ?_
        have hF : d2_4 + 8 ≤ F := by omega
        have hLo : 48 * d2_4 + 400 ≤ Lo := by omega
        refine ax_istore_n (pc := 27) C d_MM_formula_27 rfl (Nat.le_of_ble_eq_true rfl) ([(3, .int r4), (2, .int r1), (0, .ref z), (1, .int x0)]) rfl ?_
        refine ax_aload_n (pc := 28) C d_MM_formula_28 rfl 2 rfl ?_
        refine ax_iconst (pc := 29) C 5 d_MM_formula_29 (by decide +kernel) ?_
        refine ax_iload_n (pc := 30) C d_MM_formula_30 rfl 1 rfl ?_
        refine ax_iload_n (pc := 31) C d_MM_formula_31 rfl 0 rfl ?_
        obtain ⟨σ5, r5, d1_5, d2_5, h1, h, hd2, hd1⟩ := it_b h
        have hm : sM_joined1 l D kA z v σ4 [5, r1, r4] (σ5, r5, d1_5) := ih tM_joined1 _ _ _ h1
        refine mc_Vi (pc := 32) C (As := [.int 5, .int r1, .int r4]) (rest := []) (hm _ _ _ rfl) ml_MM_457 d_MM_formula_32 rfl rfl (by dsimp only; omega) (by dsimp only; omega) (Nat.zero_le _) (Nat.zero_le _) (Nat.le_of_ble_eq_true rfl) ?_
        have hF : d2_5 + 8 ≤ F := by omega
        have hLo : 48 * d2_5 + 400 ≤ Lo := by omega
        have h := it_l h
        cases h
        exact xr_iret (pc := 35) C ho d_MM_formula_35
      · have h := it_f hq h
        cases h
        obtain ⟨hT1, hX⟩ := hT (by rw [ho]; exact xo_thr hq)
        rw [xQi_thr (by rw [ho]; exact xo_thr hq)]
        exact mcx_P (pc := 24) C (As := [.int x0]) (rest := []) hX (xt_none hT1 _) ho hq (xMi_thr hq (hm _ rfl)) ml_MM_454 d_MM_formula_24 rfl rfl (by dsimp only; omega) (by dsimp only; omega) (Nat.le_of_ble_eq_true rfl)
    · have h := it_f hc h
      refine ax_iload_n (pc := 16) C d_MM_formula_16 rfl 0 rfl ?_
      have h := it_l h
      cases h
      exact xr_iret (pc := 17) C ho d_MM_formula_17
  · have h := it_f hq h
    cases h
    obtain ⟨hT1, hX⟩ := hT (by rw [ho]; exact xo_thr hq)
    rw [xQi_thr (by rw [ho]; exact xo_thr hq)]
    exact mcx_P (pc := 2) C (As := [.int x0]) (rest := []) hX (xt_none hT1 _) ho hq (xMi_thr hq (hm _ rfl)) ml_MM_454 d_MM_formula_2 rfl rfl (by dsimp only; omega) (by dsimp only; omega) (Nat.le_of_ble_eq_true rfl)
set_option maxHeartbeats 4000000 in
set_option maxRecDepth 100000 in
theorem oX_implication (l : Launch) (D : va_G) (kA : Nat → ClassId) (z : Nat) (v : Nat → Nat) (rec rex : mF) (ih : ∀ t σ xs res, rec t σ xs = some res → mSem l D kA z v t σ xs res) (ihx : ∀ t σ xs res, rex t σ xs = some res → xSem l D kA z v t σ xs res) (σ : mS) (xs : List Int32) (res : mR) (h : u_1 (kX_implication rec rex σ) xs = some res) : sX_implication l D kA z v σ xs res := by
  intro x0 hxs
  subst hxs
  obtain ⟨σf, rf, dd⟩ := res
  have h : (bnd (rex tX_choice σ [x0]) (fun σ1 r1 => if σ1.1 3000 = 0 then (bnd (rec tM_peek σ1 []) (fun σ2 r2 => if r2 = 301 then (bnd (rec tM_take σ2 []) (fun σ3 r3 => bnd (rex tX_nest σ3 [x0]) (fun σ4 r4 => if σ4.1 3000 = 0 then (bnd (rex tX_implication σ4 [r4]) (fun σ5 r5 => if σ5.1 3000 = 0 then (bnd (rec tM_joined1 σ5 [4, r1, r5]) (fun σ6 r6 => lt_ (mI σ6 3000 0) (fun u => some (u, r6, 0)))) else (some (σ5, 0, 0)))) else (some (σ4, 0, 0))))) else (lt_ (mI σ2 3000 0) (fun u => some (u, r1, 0))))) else (some (σ1, 0, 0)))) = some (σf, rf, dd) := h
  obtain ⟨o, ho⟩ : ∃ o, o = xo (σf, rf) := ⟨_, rfl⟩
  show xMi l D kA y_MM_implication b_MM_implication 4 .int (dd + 8) (48 * dd + 400) [.ref z, .int x0] (mmW kA z v σ) z v σf (xo (σf, rf))
  rw [← ho]
  refine xMi.of (by decide +kernel) (Nat.le_of_ble_eq_true rfl) ?_
  intro p e s m args below meth c C hT
  have C : ax_C p s m args meth c b_MM_implication "ClauseProverModel" 4 (some .int) D kA (va_A (mmW kA z v σ) s.heap.size) := C
  obtain ⟨F, hFe⟩ : ∃ F, F = dd + 8 := ⟨_, rfl⟩
  obtain ⟨Lo, hLoe⟩ : ∃ Lo, Lo = 48 * dd + 400 := ⟨_, rfl⟩
  obtain ⟨σ0, hσ0⟩ : ∃ s0, s0 = σ := ⟨_, rfl⟩
  suffices K : AW p l e { frames := F, cells := xmc o, slots := xms o, locals := Lo } s m args below meth c D kA (va_A (mmW kA z v σ0) s.heap.size) 4 (xQi below args s D kA (mmW kA z v σ0) z v σf o) 0 [(0, .ref z), (1, .int x0)] [] (mmW kA z v σ) 0 0 by rw [hFe, hLoe, hσ0] at K; exact ax_ls ([(0, .ref z), (1, .int x0)]) [0, 1] rfl K
  have C : ax_C p s m args meth c b_MM_implication "ClauseProverModel" 4 (some .int) D kA (va_A (mmW kA z v σ0) s.heap.size) := by rw [hσ0]; exact C
  have hT : XT o l e s m meth c (va_A (mmW kA z v σ0) s.heap.size) := by rw [hσ0]; exact hT
  have hF : dd + 8 ≤ F := by omega
  have hLo : 48 * dd + 400 ≤ Lo := by omega
  clear hFe hLoe hσ0
  refine ax_aload_n (pc := 0) C d_MM_implication_0 rfl 0 rfl ?_
  refine ax_iload_n (pc := 1) C d_MM_implication_1 rfl 1 rfl ?_
  obtain ⟨σ1, r1, d1_1, d2_1, h1, h, hd2, hd1⟩ := it_b h
  have hm : sX_choice l D kA z v σ [x0] (σ1, r1, d1_1) := ihx tX_choice _ _ _ h1
  by_cases hq : σ1.1 3000 = 0
  · have h := it_t hq h
    refine mcx_Vi (pc := 2) C (As := [.int x0]) (rest := []) (hm _ rfl) hq ml_MM_461 d_MM_implication_2 rfl rfl (by dsimp only; omega) (by dsimp only; omega) (Nat.zero_le _) (Nat.zero_le _) (Nat.le_of_ble_eq_true rfl) ?_
    have hF : d2_1 + 8 ≤ F := by omega
    have hLo : 48 * d2_1 + 400 ≤ Lo := by omega
    refine ax_istore_n (pc := 5) C d_MM_implication_5 rfl (Nat.le_of_ble_eq_true rfl) ([(2, .int r1), (0, .ref z), (1, .int x0)]) rfl ?_
    refine ax_aload_n (pc := 6) C d_MM_implication_6 rfl 1 rfl ?_
    obtain ⟨σ2, r2, d1_2, d2_2, h1, h, hd2, hd1⟩ := it_b h
    have hm : sM_peek l D kA z v σ1 [] (σ2, r2, d1_2) := ih tM_peek _ _ _ h1
    refine mc_Vi (pc := 7) C (As := []) (rest := []) (hm rfl) ml_MM_422 d_MM_implication_7 rfl rfl (by dsimp only; omega) (by dsimp only; omega) (Nat.zero_le _) (Nat.zero_le _) (Nat.le_of_ble_eq_true rfl) ?_
    have hF : d2_2 + 8 ≤ F := by omega
    have hLo : 48 * d2_2 + 400 ≤ Lo := by omega
    refine ax_sipush (pc := 10) C 301 d_MM_implication_10 (by decide +kernel) ?_
    refine ax_icmp_eq (pc := 13) C 18 d_MM_implication_13 (by decide) (fun hc => ?_) (fun hc => ?_)
    · have h := it_t hc h
      refine ax_aload_n (pc := 18) C d_MM_implication_18 rfl 1 rfl ?_
      obtain ⟨σ3, r3, d1_3, d2_3, h1, h, hd2, hd1⟩ := it_b h
      have hm : sM_take l D kA z v σ2 [] (σ3, r3, d1_3) := ih tM_take _ _ _ h1
      refine mc_Vv (pc := 19) C (As := []) (rest := []) (hm rfl) ml_MM_435 d_MM_implication_19 rfl rfl (by dsimp only; omega) (by dsimp only; omega) (Nat.zero_le _) (Nat.zero_le _) (Nat.le_of_ble_eq_true rfl) ?_
      have hF : d2_3 + 8 ≤ F := by omega
      have hLo : 48 * d2_3 + 400 ≤ Lo := by omega
      refine ax_aload_n (pc := 22) C d_MM_implication_22 rfl 1 rfl ?_
      refine ax_aload_n (pc := 23) C d_MM_implication_23 rfl 1 rfl ?_
      refine ax_iload_n (pc := 24) C d_MM_implication_24 rfl 2 rfl ?_
      obtain ⟨σ4, r4, d1_4, d2_4, h1, h, hd2, hd1⟩ := it_b h
      have hm : sX_nest l D kA z v σ3 [x0] (σ4, r4, d1_4) := ihx tX_nest _ _ _ h1
      by_cases hq : σ4.1 3000 = 0
      · have h := it_t hq h
        refine mcx_Vi (pc := 25) C (As := [.int x0]) (rest := [.ref z]) (hm _ rfl) hq ml_MM_464 d_MM_implication_25 rfl rfl (by dsimp only; omega) (by dsimp only; omega) (Nat.zero_le _) (Nat.zero_le _) (Nat.le_of_ble_eq_true rfl) ?_
        have hF : d2_4 + 8 ≤ F := by omega
        have hLo : 48 * d2_4 + 400 ≤ Lo := by omega
        obtain ⟨σ5, r5, d1_5, d2_5, h1, h, hd2, hd1⟩ := it_b h
        have hm : sX_implication l D kA z v σ4 [r4] (σ5, r5, d1_5) := ihx tX_implication _ _ _ h1
        by_cases hq : σ5.1 3000 = 0
        · have h := it_t hq h
          refine mcx_Vi (pc := 28) C (As := [.int r4]) (rest := []) (hm _ rfl) hq ml_MM_454 d_MM_implication_28 rfl rfl (by dsimp only; omega) (by dsimp only; omega) (Nat.zero_le _) (Nat.zero_le _) (Nat.le_of_ble_eq_true rfl) ?_
          have hF : d2_5 + 8 ≤ F := by omega
          have hLo : 48 * d2_5 + 400 ≤ Lo := by omega
          refine ax_istore_n (pc := 31) C d_MM_implication_31 rfl (Nat.le_of_ble_eq_true rfl) ([(3, .int r5), (2, .int r1), (0, .ref z), (1, .int x0)]) rfl ?_
          refine ax_aload_n (pc := 32) C d_MM_implication_32 rfl 2 rfl ?_
          refine ax_iconst (pc := 33) C 4 d_MM_implication_33 (by decide +kernel) ?_
          refine ax_iload_n (pc := 34) C d_MM_implication_34 rfl 1 rfl ?_
          refine ax_iload_n (pc := 35) C d_MM_implication_35 rfl 0 rfl ?_
          obtain ⟨σ6, r6, d1_6, d2_6, h1, h, hd2, hd1⟩ := it_b h
          have hm : sM_joined1 l D kA z v σ5 [4, r1, r5] (σ6, r6, d1_6) := ih tM_joined1 _ _ _ h1
          refine mc_Vi (pc := 36) C (As := [.int 4, .int r1, .int r5]) (rest := []) (hm _ _ _ rfl) ml_MM_457 d_MM_implication_36 rfl rfl (by dsimp only; omega) (by dsimp only; omega) (Nat.zero_le _) (Nat.zero_le _) (Nat.le_of_ble_eq_true rfl) ?_
          have hF : d2_6 + 8 ≤ F := by omega
          have hLo : 48 * d2_6 + 400 ≤ Lo := by omega
          have h := it_l h
          cases h
          exact xr_iret (pc := 39) C ho d_MM_implication_39
        · have h := it_f hq h
          cases h
          obtain ⟨hT1, hX⟩ := hT (by rw [ho]; exact xo_thr hq)
          rw [xQi_thr (by rw [ho]; exact xo_thr hq)]
          exact mcx_P (pc := 28) C (As := [.int r4]) (rest := []) hX (xt_none hT1 _) ho hq (xMi_thr hq (hm _ rfl)) ml_MM_454 d_MM_implication_28 rfl rfl (by dsimp only; omega) (by dsimp only; omega) (Nat.le_of_ble_eq_true rfl)
      · have h := it_f hq h
        cases h
        obtain ⟨hT1, hX⟩ := hT (by rw [ho]; exact xo_thr hq)
        rw [xQi_thr (by rw [ho]; exact xo_thr hq)]
        exact mcx_P (pc := 25) C (As := [.int x0]) (rest := [.ref z]) hX (xt_none hT1 _) ho hq (xMi_thr hq (hm _ rfl)) ml_MM_464 d_MM_implication_25 rfl rfl (by dsimp only; omega) (by dsimp only; omega) (Nat.le_of_ble_eq_true rfl)
    · have h := it_f hc h
      refine ax_iload_n (pc := 16) C d_MM_implication_16 rfl 0 rfl ?_
      have h := it_l h
      cases h
      exact xr_iret (pc := 17) C ho d_MM_implication_17
  · have h := it_f hq h
    cases h
    obtain ⟨hT1, hX⟩ := hT (by rw [ho]; exact xo_thr hq)
    rw [xQi_thr (by rw [ho]; exact xo_thr hq)]
    exact mcx_P (pc := 2) C (As := [.int x0]) (rest := []) hX (xt_none hT1 _) ho hq (xMi_thr hq (hm _ rfl)) ml_MM_461 d_MM_implication_2 rfl rfl (by dsimp only; omega) (by dsimp only; omega) (Nat.le_of_ble_eq_true rfl)
set_option maxHeartbeats 4000000 in
set_option maxRecDepth 100000 in
theorem oX_choice (l : Launch) (D : va_G) (kA : Nat → ClassId) (z : Nat) (v : Nat → Nat) (rec rex : mF) (ih : ∀ t σ xs res, rec t σ xs = some res → mSem l D kA z v t σ xs res) (ihx : ∀ t σ xs res, rex t σ xs = some res → xSem l D kA z v t σ xs res) (σ : mS) (xs : List Int32) (res : mR) (h : u_1 (kX_choice rec rex σ) xs = some res) : sX_choice l D kA z v σ xs res := by
  intro x0 hxs
  subst hxs
  obtain ⟨σf, rf, dd⟩ := res
  have h : (bnd (rex tX_joint σ [x0]) (fun σ1 r1 => if σ1.1 3000 = 0 then (rex tX_choice_6 σ1 [x0, r1]) else (some (σ1, 0, 0)))) = some (σf, rf, dd) := h
  obtain ⟨o, ho⟩ : ∃ o, o = xo (σf, rf) := ⟨_, rfl⟩
  show xMi l D kA y_MM_choice b_MM_choice 4 .int (dd + 8) (48 * dd + 400) [.ref z, .int x0] (mmW kA z v σ) z v σf (xo (σf, rf))
  rw [← ho]
  refine xMi.of (by decide +kernel) (Nat.le_of_ble_eq_true rfl) ?_
  intro p e s m args below meth c C hT
  have C : ax_C p s m args meth c b_MM_choice "ClauseProverModel" 4 (some .int) D kA (va_A (mmW kA z v σ) s.heap.size) := C
  obtain ⟨F, hFe⟩ : ∃ F, F = dd + 8 := ⟨_, rfl⟩
  obtain ⟨Lo, hLoe⟩ : ∃ Lo, Lo = 48 * dd + 400 := ⟨_, rfl⟩
  obtain ⟨σ0, hσ0⟩ : ∃ s0, s0 = σ := ⟨_, rfl⟩
  suffices K : AW p l e { frames := F, cells := xmc o, slots := xms o, locals := Lo } s m args below meth c D kA (va_A (mmW kA z v σ0) s.heap.size) 4 (xQi below args s D kA (mmW kA z v σ0) z v σf o) 0 [(0, .ref z), (1, .int x0)] [] (mmW kA z v σ) 0 0 by rw [hFe, hLoe, hσ0] at K; exact ax_ls ([(0, .ref z), (1, .int x0)]) [0, 1] rfl K
  have C : ax_C p s m args meth c b_MM_choice "ClauseProverModel" 4 (some .int) D kA (va_A (mmW kA z v σ0) s.heap.size) := by rw [hσ0]; exact C
  have hT : XT o l e s m meth c (va_A (mmW kA z v σ0) s.heap.size) := by rw [hσ0]; exact hT
  have hF : dd + 8 ≤ F := by omega
  have hLo : 48 * dd + 400 ≤ Lo := by omega
  clear hFe hLoe hσ0
  refine ax_aload_n (pc := 0) C d_MM_choice_0 rfl 0 rfl ?_
  refine ax_iload_n (pc := 1) C d_MM_choice_1 rfl 1 rfl ?_
  obtain ⟨σ1, r1, d1_1, d2_1, h1, h, hd2, hd1⟩ := it_b h
  have hm : sX_joint l D kA z v σ [x0] (σ1, r1, d1_1) := ihx tX_joint _ _ _ h1
  by_cases hq : σ1.1 3000 = 0
  · have h := it_t hq h
    refine mcx_Vi (pc := 2) C (As := [.int x0]) (rest := []) (hm _ rfl) hq ml_MM_467 d_MM_choice_2 rfl rfl (by dsimp only; omega) (by dsimp only; omega) (Nat.zero_le _) (Nat.zero_le _) (Nat.le_of_ble_eq_true rfl) ?_
    have hF : d2_1 + 8 ≤ F := by omega
    have hLo : 48 * d2_1 + 400 ≤ Lo := by omega
    refine ax_istore_n (pc := 5) C d_MM_choice_5 rfl (Nat.le_of_ble_eq_true rfl) ([(2, .int r1), (0, .ref z), (1, .int x0)]) rfl ?_
    refine ax_ls ([(0, .ref z), (1, .int x0), (2, .int r1)]) [1, 2, 0] rfl ?_
    have hm : sX_choice_6 l D kA z v σ1 [x0, r1] (σf, rf, _) := ihx tX_choice_6 _ _ _ h
    subst ho
    exact hm _ _ rfl p e s m args below meth c F Lo σ0 hF hLo C hT
  · have h := it_f hq h
    cases h
    obtain ⟨hT1, hX⟩ := hT (by rw [ho]; exact xo_thr hq)
    rw [xQi_thr (by rw [ho]; exact xo_thr hq)]
    exact mcx_P (pc := 2) C (As := [.int x0]) (rest := []) hX (xt_none hT1 _) ho hq (xMi_thr hq (hm _ rfl)) ml_MM_467 d_MM_choice_2 rfl rfl (by dsimp only; omega) (by dsimp only; omega) (Nat.le_of_ble_eq_true rfl)
set_option maxHeartbeats 4000000 in
set_option maxRecDepth 100000 in
theorem oX_choice_6 (l : Launch) (D : va_G) (kA : Nat → ClassId) (z : Nat) (v : Nat → Nat) (rec rex : mF) (ih : ∀ t σ xs res, rec t σ xs = some res → mSem l D kA z v t σ xs res) (ihx : ∀ t σ xs res, rex t σ xs = some res → xSem l D kA z v t σ xs res) (σ : mS) (xs : List Int32) (res : mR) (h : u_2 (kX_choice_6 rec rex σ) xs = some res) : sX_choice_6 l D kA z v σ xs res := by
  intro x0 x1 hxs
  subst hxs
  obtain ⟨σf, rf, dd⟩ := res
  have h : (bnd (rec tM_peek σ []) (fun σ1 r1 => if r1 = 124 then (bnd (rec tM_take σ1 []) (fun σ2 r2 => bnd (rex tX_joint σ2 [x0]) (fun σ3 r3 => if σ3.1 3000 = 0 then (bnd (rec tM_joined1 σ3 [3, x1, r3]) (fun σ4 r4 => rex tX_choice_6 σ4 [x0, r4])) else (some (σ3, 0, 0))))) else (lt_ (mI σ1 3000 0) (fun u => some (u, x1, 0))))) = some (σf, rf, dd) := h
  intro p e s m args below meth c F Lo σ0 hF hLo C hT
  dsimp only at hF hLo hT ⊢
  obtain ⟨o, ho⟩ : ∃ o, o = xo (σf, rf) := ⟨_, rfl⟩
  rw [← ho] at hT ⊢
  refine ax_aload_n (pc := 6) C d_MM_choice_6 rfl 0 rfl ?_
  obtain ⟨σ1, r1, d1_1, d2_1, h1, h, hd2, hd1⟩ := it_b h
  have hm : sM_peek l D kA z v σ [] (σ1, r1, d1_1) := ih tM_peek _ _ _ h1
  refine mc_Vi (pc := 7) C (As := []) (rest := []) (hm rfl) ml_MM_422 d_MM_choice_7 rfl rfl (by dsimp only; omega) (by dsimp only; omega) (Nat.zero_le _) (Nat.zero_le _) (Nat.le_of_ble_eq_true rfl) ?_
  have hF : d2_1 + 8 ≤ F := by omega
  have hLo : 48 * d2_1 + 400 ≤ Lo := by omega
  refine ax_bipush (pc := 10) C 124 d_MM_choice_10 (by decide +kernel) ?_
  refine ax_icmp_ne (pc := 12) C 36 d_MM_choice_12 (by decide) (fun hc => ?_) (fun hc => ?_)
  · have h := it_f hc h
    refine ax_iload_n (pc := 36) C d_MM_choice_36 rfl 2 rfl ?_
    have h := it_l h
    cases h
    exact xr_iret (pc := 37) C ho d_MM_choice_37
  · have h := it_t hc h
    refine ax_aload_n (pc := 15) C d_MM_choice_15 rfl 0 rfl ?_
    obtain ⟨σ2, r2, d1_2, d2_2, h1, h, hd2, hd1⟩ := it_b h
    have hm : sM_take l D kA z v σ1 [] (σ2, r2, d1_2) := ih tM_take _ _ _ h1
    refine mc_Vv (pc := 16) C (As := []) (rest := []) (hm rfl) ml_MM_435 d_MM_choice_16 rfl rfl (by dsimp only; omega) (by dsimp only; omega) (Nat.zero_le _) (Nat.zero_le _) (Nat.le_of_ble_eq_true rfl) ?_
    have hF : d2_2 + 8 ≤ F := by omega
    have hLo : 48 * d2_2 + 400 ≤ Lo := by omega
    refine ax_aload_n (pc := 19) C d_MM_choice_19 rfl 0 rfl ?_
    refine ax_iload_n (pc := 20) C d_MM_choice_20 rfl 1 rfl ?_
    obtain ⟨σ3, r3, d1_3, d2_3, h1, h, hd2, hd1⟩ := it_b h
    have hm : sX_joint l D kA z v σ2 [x0] (σ3, r3, d1_3) := ihx tX_joint _ _ _ h1
    by_cases hq : σ3.1 3000 = 0
    · have h := it_t hq h
      refine mcx_Vi (pc := 21) C (As := [.int x0]) (rest := []) (hm _ rfl) hq ml_MM_467 d_MM_choice_21 rfl rfl (by dsimp only; omega) (by dsimp only; omega) (Nat.zero_le _) (Nat.zero_le _) (Nat.le_of_ble_eq_true rfl) ?_
      have hF : d2_3 + 8 ≤ F := by omega
      have hLo : 48 * d2_3 + 400 ≤ Lo := by omega
      refine ax_istore_n (pc := 24) C d_MM_choice_24 rfl (Nat.le_of_ble_eq_true rfl) ([(3, .int r3), (0, .ref z), (1, .int x0), (2, .int x1)]) rfl ?_
      refine ax_aload_n (pc := 25) C d_MM_choice_25 rfl 1 rfl ?_
      refine ax_iconst (pc := 26) C 3 d_MM_choice_26 (by decide +kernel) ?_
      refine ax_iload_n (pc := 27) C d_MM_choice_27 rfl 3 rfl ?_
      refine ax_iload_n (pc := 28) C d_MM_choice_28 rfl 0 rfl ?_
      obtain ⟨σ4, r4, d1_4, d2_4, h1, h, hd2, hd1⟩ := it_b h
      have hm : sM_joined1 l D kA z v σ3 [3, x1, r3] (σ4, r4, d1_4) := ih tM_joined1 _ _ _ h1
      refine mc_Vi (pc := 29) C (As := [.int 3, .int x1, .int r3]) (rest := []) (hm _ _ _ rfl) ml_MM_457 d_MM_choice_29 rfl rfl (by dsimp only; omega) (by dsimp only; omega) (Nat.zero_le _) (Nat.zero_le _) (Nat.le_of_ble_eq_true rfl) ?_
      have hF : d2_4 + 8 ≤ F := by omega
      have hLo : 48 * d2_4 + 400 ≤ Lo := by omega
      refine ax_istore_n (pc := 32) C d_MM_choice_32 rfl (Nat.le_of_ble_eq_true rfl) ([(2, .int r4), (3, .int r3), (0, .ref z), (1, .int x0)]) rfl ?_
      refine ax_goto (pc := 33) C 6 d_MM_choice_33 (by decide) ?_
      refine ax_ls ([(0, .ref z), (1, .int x0), (2, .int r4)]) [2, 3, 0] rfl ?_
      have hm : sX_choice_6 l D kA z v σ4 [x0, r4] (σf, rf, _) := ihx tX_choice_6 _ _ _ h
      subst ho
      exact hm _ _ rfl p e s m args below meth c F Lo σ0 hF hLo C hT
    · have h := it_f hq h
      cases h
      obtain ⟨hT1, hX⟩ := hT (by rw [ho]; exact xo_thr hq)
      rw [xQi_thr (by rw [ho]; exact xo_thr hq)]
      exact mcx_P (pc := 21) C (As := [.int x0]) (rest := []) hX (xt_none hT1 _) ho hq (xMi_thr hq (hm _ rfl)) ml_MM_467 d_MM_choice_21 rfl rfl (by dsimp only; omega) (by dsimp only; omega) (Nat.le_of_ble_eq_true rfl)
set_option maxHeartbeats 4000000 in
set_option maxRecDepth 100000 in
theorem oX_joint (l : Launch) (D : va_G) (kA : Nat → ClassId) (z : Nat) (v : Nat → Nat) (rec rex : mF) (ih : ∀ t σ xs res, rec t σ xs = some res → mSem l D kA z v t σ xs res) (ihx : ∀ t σ xs res, rex t σ xs = some res → xSem l D kA z v t σ xs res) (σ : mS) (xs : List Int32) (res : mR) (h : u_1 (kX_joint rec rex σ) xs = some res) : sX_joint l D kA z v σ xs res := by
  intro x0 hxs
  subst hxs
  obtain ⟨σf, rf, dd⟩ := res
  have h : (bnd (rex tX_unit σ [x0]) (fun σ1 r1 => if σ1.1 3000 = 0 then (rex tX_joint_6 σ1 [x0, r1]) else (some (σ1, 0, 0)))) = some (σf, rf, dd) := h
  obtain ⟨o, ho⟩ : ∃ o, o = xo (σf, rf) := ⟨_, rfl⟩
  show xMi l D kA y_MM_joint b_MM_joint 4 .int (dd + 8) (48 * dd + 400) [.ref z, .int x0] (mmW kA z v σ) z v σf (xo (σf, rf))
  rw [← ho]
  refine xMi.of (by decide +kernel) (Nat.le_of_ble_eq_true rfl) ?_
  intro p e s m args below meth c C hT
  have C : ax_C p s m args meth c b_MM_joint "ClauseProverModel" 4 (some .int) D kA (va_A (mmW kA z v σ) s.heap.size) := C
  obtain ⟨F, hFe⟩ : ∃ F, F = dd + 8 := ⟨_, rfl⟩
  obtain ⟨Lo, hLoe⟩ : ∃ Lo, Lo = 48 * dd + 400 := ⟨_, rfl⟩
  obtain ⟨σ0, hσ0⟩ : ∃ s0, s0 = σ := ⟨_, rfl⟩
  suffices K : AW p l e { frames := F, cells := xmc o, slots := xms o, locals := Lo } s m args below meth c D kA (va_A (mmW kA z v σ0) s.heap.size) 4 (xQi below args s D kA (mmW kA z v σ0) z v σf o) 0 [(0, .ref z), (1, .int x0)] [] (mmW kA z v σ) 0 0 by rw [hFe, hLoe, hσ0] at K; exact ax_ls ([(0, .ref z), (1, .int x0)]) [0, 1] rfl K
  have C : ax_C p s m args meth c b_MM_joint "ClauseProverModel" 4 (some .int) D kA (va_A (mmW kA z v σ0) s.heap.size) := by rw [hσ0]; exact C
  have hT : XT o l e s m meth c (va_A (mmW kA z v σ0) s.heap.size) := by rw [hσ0]; exact hT
  have hF : dd + 8 ≤ F := by omega
  have hLo : 48 * dd + 400 ≤ Lo := by omega
  clear hFe hLoe hσ0
  refine ax_aload_n (pc := 0) C d_MM_joint_0 rfl 0 rfl ?_
  refine ax_iload_n (pc := 1) C d_MM_joint_1 rfl 1 rfl ?_
  obtain ⟨σ1, r1, d1_1, d2_1, h1, h, hd2, hd1⟩ := it_b h
  have hm : sX_unit l D kA z v σ [x0] (σ1, r1, d1_1) := ihx tX_unit _ _ _ h1
  by_cases hq : σ1.1 3000 = 0
  · have h := it_t hq h
    refine mcx_Vi (pc := 2) C (As := [.int x0]) (rest := []) (hm _ rfl) hq ml_MM_470 d_MM_joint_2 rfl rfl (by dsimp only; omega) (by dsimp only; omega) (Nat.zero_le _) (Nat.zero_le _) (Nat.le_of_ble_eq_true rfl) ?_
    have hF : d2_1 + 8 ≤ F := by omega
    have hLo : 48 * d2_1 + 400 ≤ Lo := by omega
    refine ax_istore_n (pc := 5) C d_MM_joint_5 rfl (Nat.le_of_ble_eq_true rfl) ([(2, .int r1), (0, .ref z), (1, .int x0)]) rfl ?_
    refine ax_ls ([(0, .ref z), (1, .int x0), (2, .int r1)]) [1, 2, 0] rfl ?_
    have hm : sX_joint_6 l D kA z v σ1 [x0, r1] (σf, rf, _) := ihx tX_joint_6 _ _ _ h
    subst ho
    exact hm _ _ rfl p e s m args below meth c F Lo σ0 hF hLo C hT
  · have h := it_f hq h
    cases h
    obtain ⟨hT1, hX⟩ := hT (by rw [ho]; exact xo_thr hq)
    rw [xQi_thr (by rw [ho]; exact xo_thr hq)]
    exact mcx_P (pc := 2) C (As := [.int x0]) (rest := []) hX (xt_none hT1 _) ho hq (xMi_thr hq (hm _ rfl)) ml_MM_470 d_MM_joint_2 rfl rfl (by dsimp only; omega) (by dsimp only; omega) (Nat.le_of_ble_eq_true rfl)
set_option maxHeartbeats 4000000 in
set_option maxRecDepth 100000 in
theorem oX_joint_6 (l : Launch) (D : va_G) (kA : Nat → ClassId) (z : Nat) (v : Nat → Nat) (rec rex : mF) (ih : ∀ t σ xs res, rec t σ xs = some res → mSem l D kA z v t σ xs res) (ihx : ∀ t σ xs res, rex t σ xs = some res → xSem l D kA z v t σ xs res) (σ : mS) (xs : List Int32) (res : mR) (h : u_2 (kX_joint_6 rec rex σ) xs = some res) : sX_joint_6 l D kA z v σ xs res := by
  intro x0 x1 hxs
  subst hxs
  obtain ⟨σf, rf, dd⟩ := res
  have h : (bnd (rec tM_peek σ []) (fun σ1 r1 => if r1 = 38 then (bnd (rec tM_take σ1 []) (fun σ2 r2 => bnd (rex tX_unit σ2 [x0]) (fun σ3 r3 => if σ3.1 3000 = 0 then (bnd (rec tM_joined1 σ3 [2, x1, r3]) (fun σ4 r4 => rex tX_joint_6 σ4 [x0, r4])) else (some (σ3, 0, 0))))) else (lt_ (mI σ1 3000 0) (fun u => some (u, x1, 0))))) = some (σf, rf, dd) := h
  intro p e s m args below meth c F Lo σ0 hF hLo C hT
  dsimp only at hF hLo hT ⊢
  obtain ⟨o, ho⟩ : ∃ o, o = xo (σf, rf) := ⟨_, rfl⟩
  rw [← ho] at hT ⊢
  refine ax_aload_n (pc := 6) C d_MM_joint_6 rfl 0 rfl ?_
  obtain ⟨σ1, r1, d1_1, d2_1, h1, h, hd2, hd1⟩ := it_b h
  have hm : sM_peek l D kA z v σ [] (σ1, r1, d1_1) := ih tM_peek _ _ _ h1
  refine mc_Vi (pc := 7) C (As := []) (rest := []) (hm rfl) ml_MM_422 d_MM_joint_7 rfl rfl (by dsimp only; omega) (by dsimp only; omega) (Nat.zero_le _) (Nat.zero_le _) (Nat.le_of_ble_eq_true rfl) ?_
  have hF : d2_1 + 8 ≤ F := by omega
  have hLo : 48 * d2_1 + 400 ≤ Lo := by omega
  refine ax_bipush (pc := 10) C 38 d_MM_joint_10 (by decide +kernel) ?_
  refine ax_icmp_ne (pc := 12) C 36 d_MM_joint_12 (by decide) (fun hc => ?_) (fun hc => ?_)
  · have h := it_f hc h
    refine ax_iload_n (pc := 36) C d_MM_joint_36 rfl 2 rfl ?_
    have h := it_l h
    cases h
    exact xr_iret (pc := 37) C ho d_MM_joint_37
  · have h := it_t hc h
    refine ax_aload_n (pc := 15) C d_MM_joint_15 rfl 0 rfl ?_
    obtain ⟨σ2, r2, d1_2, d2_2, h1, h, hd2, hd1⟩ := it_b h
    have hm : sM_take l D kA z v σ1 [] (σ2, r2, d1_2) := ih tM_take _ _ _ h1
    refine mc_Vv (pc := 16) C (As := []) (rest := []) (hm rfl) ml_MM_435 d_MM_joint_16 rfl rfl (by dsimp only; omega) (by dsimp only; omega) (Nat.zero_le _) (Nat.zero_le _) (Nat.le_of_ble_eq_true rfl) ?_
    have hF : d2_2 + 8 ≤ F := by omega
    have hLo : 48 * d2_2 + 400 ≤ Lo := by omega
    refine ax_aload_n (pc := 19) C d_MM_joint_19 rfl 0 rfl ?_
    refine ax_iload_n (pc := 20) C d_MM_joint_20 rfl 1 rfl ?_
    obtain ⟨σ3, r3, d1_3, d2_3, h1, h, hd2, hd1⟩ := it_b h
    have hm : sX_unit l D kA z v σ2 [x0] (σ3, r3, d1_3) := ihx tX_unit _ _ _ h1
    by_cases hq : σ3.1 3000 = 0
    · have h := it_t hq h
      refine mcx_Vi (pc := 21) C (As := [.int x0]) (rest := []) (hm _ rfl) hq ml_MM_470 d_MM_joint_21 rfl rfl (by dsimp only; omega) (by dsimp only; omega) (Nat.zero_le _) (Nat.zero_le _) (Nat.le_of_ble_eq_true rfl) ?_
      have hF : d2_3 + 8 ≤ F := by omega
      have hLo : 48 * d2_3 + 400 ≤ Lo := by omega
      refine ax_istore_n (pc := 24) C d_MM_joint_24 rfl (Nat.le_of_ble_eq_true rfl) ([(3, .int r3), (0, .ref z), (1, .int x0), (2, .int x1)]) rfl ?_
      refine ax_aload_n (pc := 25) C d_MM_joint_25 rfl 1 rfl ?_
      refine ax_iconst (pc := 26) C 2 d_MM_joint_26 (by decide +kernel) ?_
      refine ax_iload_n (pc := 27) C d_MM_joint_27 rfl 3 rfl ?_
      refine ax_iload_n (pc := 28) C d_MM_joint_28 rfl 0 rfl ?_
      obtain ⟨σ4, r4, d1_4, d2_4, h1, h, hd2, hd1⟩ := it_b h
      have hm : sM_joined1 l D kA z v σ3 [2, x1, r3] (σ4, r4, d1_4) := ih tM_joined1 _ _ _ h1
      refine mc_Vi (pc := 29) C (As := [.int 2, .int x1, .int r3]) (rest := []) (hm _ _ _ rfl) ml_MM_457 d_MM_joint_29 rfl rfl (by dsimp only; omega) (by dsimp only; omega) (Nat.zero_le _) (Nat.zero_le _) (Nat.le_of_ble_eq_true rfl) ?_
      have hF : d2_4 + 8 ≤ F := by omega
      have hLo : 48 * d2_4 + 400 ≤ Lo := by omega
      refine ax_istore_n (pc := 32) C d_MM_joint_32 rfl (Nat.le_of_ble_eq_true rfl) ([(2, .int r4), (3, .int r3), (0, .ref z), (1, .int x0)]) rfl ?_
      refine ax_goto (pc := 33) C 6 d_MM_joint_33 (by decide) ?_
      refine ax_ls ([(0, .ref z), (1, .int x0), (2, .int r4)]) [2, 3, 0] rfl ?_
      have hm : sX_joint_6 l D kA z v σ4 [x0, r4] (σf, rf, _) := ihx tX_joint_6 _ _ _ h
      subst ho
      exact hm _ _ rfl p e s m args below meth c F Lo σ0 hF hLo C hT
    · have h := it_f hq h
      cases h
      obtain ⟨hT1, hX⟩ := hT (by rw [ho]; exact xo_thr hq)
      rw [xQi_thr (by rw [ho]; exact xo_thr hq)]
      exact mcx_P (pc := 21) C (As := [.int x0]) (rest := []) hX (xt_none hT1 _) ho hq (xMi_thr hq (hm _ rfl)) ml_MM_470 d_MM_joint_21 rfl rfl (by dsimp only; omega) (by dsimp only; omega) (Nat.le_of_ble_eq_true rfl)
set_option maxHeartbeats 4000000 in
set_option maxRecDepth 100000 in
theorem oX_unit (l : Launch) (D : va_G) (kA : Nat → ClassId) (z : Nat) (v : Nat → Nat) (rec rex : mF) (ih : ∀ t σ xs res, rec t σ xs = some res → mSem l D kA z v t σ xs res) (ihx : ∀ t σ xs res, rex t σ xs = some res → xSem l D kA z v t σ xs res) (σ : mS) (xs : List Int32) (res : mR) (h : u_1 (kX_unit rec rex σ) xs = some res) : sX_unit l D kA z v σ xs res := by
  intro x0 hxs
  subst hxs
  obtain ⟨σf, rf, dd⟩ := res
  have h : (bnd (rec tM_peek σ []) (fun σ1 r1 => if r1 = 126 then (bnd (rec tM_take σ1 []) (fun σ6 r6 => bnd (rex tX_nest σ6 [x0]) (fun σ7 r7 => if σ7.1 3000 = 0 then (bnd (rex tX_unit σ7 [r7]) (fun σ8 r8 => if σ8.1 3000 = 0 then (if bin r8 20100 = true then (bnd (rec tM_node σ8 [1, r8, 0, ((1 : Int32) + (σ8.2.1 33 (Int32.toNatClampNeg r8)))]) (fun σ9 r9 => lt_ (mI σ9 3000 0) (fun u => some (u, r9, 0)))) else none) else (some (σ8, 0, 0)))) else (some (σ7, 0, 0))))) else (if r1 = 33 then (rex tX_unit_53 σ1 [x0, r1]) else (if r1 = 63 then (rex tX_unit_53 σ1 [x0, r1]) else (if r1 = 40 then (bnd (rec tM_take σ1 []) (fun σ2 r2 => bnd (rex tX_nest σ2 [x0]) (fun σ3 r3 => if σ3.1 3000 = 0 then (bnd (rex tX_formula σ3 [r3]) (fun σ4 r4 => if σ4.1 3000 = 0 then (bnd (rex tX_must σ4 [41]) (fun σ5 r5 => if σ5.1 3000 = 0 then (lt_ (mI σ5 3000 0) (fun u => some (u, r4, 0))) else (some (σ5, 0, 0)))) else (some (σ4, 0, 0)))) else (some (σ3, 0, 0))))) else (if r1 = 1 then (rex tX_unit_115 σ1 [x0, r1]) else (if r1 = 2 then (rex tX_unit_115 σ1 [x0, r1]) else (if σ1.1 8 = 304 then (lt_ (mI σ1 3003 3) (fun u1 => lt_ (mI u1 3004 (σ1.1 9)) (fun u2 => lt_ (mI u2 3000 1) (fun u3 => some (u3, 0, 0))))) else (lt_ (mI σ1 3003 1) (fun u1 => lt_ (mI u1 3004 (σ1.1 9)) (fun u2 => lt_ (mI u2 3000 1) (fun u3 => some (u3, 0, 0))))))))))))) = some (σf, rf, dd) := h
  obtain ⟨o, ho⟩ : ∃ o, o = xo (σf, rf) := ⟨_, rfl⟩
  show xMi l D kA y_MM_unit b_MM_unit 4 .int (dd + 8) (48 * dd + 400) [.ref z, .int x0] (mmW kA z v σ) z v σf (xo (σf, rf))
  rw [← ho]
  refine xMi.of (by decide +kernel) (Nat.le_of_ble_eq_true rfl) ?_
  intro p e s m args below meth c C hT
  have C : ax_C p s m args meth c b_MM_unit "ClauseProverModel" 4 (some .int) D kA (va_A (mmW kA z v σ) s.heap.size) := C
  obtain ⟨F, hFe⟩ : ∃ F, F = dd + 8 := ⟨_, rfl⟩
  obtain ⟨Lo, hLoe⟩ : ∃ Lo, Lo = 48 * dd + 400 := ⟨_, rfl⟩
  obtain ⟨σ0, hσ0⟩ : ∃ s0, s0 = σ := ⟨_, rfl⟩
  suffices K : AW p l e { frames := F, cells := xmc o, slots := xms o, locals := Lo } s m args below meth c D kA (va_A (mmW kA z v σ0) s.heap.size) 4 (xQi below args s D kA (mmW kA z v σ0) z v σf o) 0 [(0, .ref z), (1, .int x0)] [] (mmW kA z v σ) 0 0 by rw [hFe, hLoe, hσ0] at K; exact ax_ls ([(0, .ref z), (1, .int x0)]) [0, 1] rfl K
  have C : ax_C p s m args meth c b_MM_unit "ClauseProverModel" 4 (some .int) D kA (va_A (mmW kA z v σ0) s.heap.size) := by rw [hσ0]; exact C
  have hT : XT o l e s m meth c (va_A (mmW kA z v σ0) s.heap.size) := by rw [hσ0]; exact hT
  have hF : dd + 8 ≤ F := by omega
  have hLo : 48 * dd + 400 ≤ Lo := by omega
  clear hFe hLoe hσ0
  refine ax_aload_n (pc := 0) C d_MM_unit_0 rfl 0 rfl ?_
  obtain ⟨σ1, r1, d1_1, d2_1, h1, h, hd2, hd1⟩ := it_b h
  have hm : sM_peek l D kA z v σ [] (σ1, r1, d1_1) := ih tM_peek _ _ _ h1
  refine mc_Vi (pc := 1) C (As := []) (rest := []) (hm rfl) ml_MM_422 d_MM_unit_1 rfl rfl (by dsimp only; omega) (by dsimp only; omega) (Nat.zero_le _) (Nat.zero_le _) (Nat.le_of_ble_eq_true rfl) ?_
  have hF : d2_1 + 8 ≤ F := by omega
  have hLo : 48 * d2_1 + 400 ≤ Lo := by omega
  refine ax_istore_n (pc := 4) C d_MM_unit_4 rfl (Nat.le_of_ble_eq_true rfl) ([(2, .int r1), (0, .ref z), (1, .int x0)]) rfl ?_
  refine ax_iload_n (pc := 5) C d_MM_unit_5 rfl 0 rfl ?_
  refine ax_bipush (pc := 6) C 126 d_MM_unit_6 (by decide +kernel) ?_
  refine ax_icmp_ne (pc := 8) C 41 d_MM_unit_8 (by decide) (fun hc => ?_) (fun hc => ?_)
  · have h := it_f hc h
    refine ax_iload_n (pc := 41) C d_MM_unit_41 rfl 0 rfl ?_
    refine ax_bipush (pc := 42) C 33 d_MM_unit_42 (by decide +kernel) ?_
    refine ax_icmp_eq (pc := 44) C 53 d_MM_unit_44 (by decide) (fun hc => ?_) (fun hc => ?_)
    · have h := it_t hc h
      refine ax_ls ([(0, .ref z), (1, .int x0), (2, .int r1)]) [1, 2, 0] rfl ?_
      have hm : sX_unit_53 l D kA z v σ1 [x0, r1] (σf, rf, _) := ihx tX_unit_53 _ _ _ h
      subst ho
      exact hm _ _ rfl p e s m args below meth c F Lo σ0 hF hLo C hT
    · have h := it_f hc h
      refine ax_iload_n (pc := 47) C d_MM_unit_47 rfl 0 rfl ?_
      refine ax_bipush (pc := 48) C 63 d_MM_unit_48 (by decide +kernel) ?_
      refine ax_icmp_ne (pc := 50) C 72 d_MM_unit_50 (by decide) (fun hc => ?_) (fun hc => ?_)
      · have h := it_f hc h
        refine ax_iload_n (pc := 72) C d_MM_unit_72 rfl 0 rfl ?_
        refine ax_bipush (pc := 73) C 40 d_MM_unit_73 (by decide +kernel) ?_
        refine ax_icmp_ne (pc := 75) C 100 d_MM_unit_75 (by decide) (fun hc => ?_) (fun hc => ?_)
        · have h := it_f hc h
          refine ax_iload_n (pc := 100) C d_MM_unit_100 rfl 0 rfl ?_
          refine ax_iconst (pc := 101) C 1 d_MM_unit_101 (by decide +kernel) ?_
          refine ax_icmp_eq (pc := 102) C 115 d_MM_unit_102 (by decide) (fun hc => ?_) (fun hc => ?_)
          · have h := it_t hc h
            refine ax_ls ([(0, .ref z), (1, .int x0), (2, .int r1)]) [1, 2, 0] rfl ?_
            have hm : sX_unit_115 l D kA z v σ1 [x0, r1] (σf, rf, _) := ihx tX_unit_115 _ _ _ h
            subst ho
            exact hm _ _ rfl p e s m args below meth c F Lo σ0 hF hLo C hT
          · have h := it_f hc h
            refine ax_iload_n (pc := 105) C d_MM_unit_105 rfl 0 rfl ?_
            refine ax_iconst (pc := 106) C 2 d_MM_unit_106 (by decide +kernel) ?_
            refine ax_icmp_eq (pc := 107) C 115 d_MM_unit_107 (by decide) (fun hc => ?_) (fun hc => ?_)
            · have h := it_t hc h
              refine ax_ls ([(0, .ref z), (1, .int x0), (2, .int r1)]) [1, 2, 0] rfl ?_
              have hm : sX_unit_115 l D kA z v σ1 [x0, r1] (σf, rf, _) := ihx tX_unit_115 _ _ _ h
              subst ho
              exact hm _ _ rfl p e s m args below meth c F Lo σ0 hF hLo C hT
            · have h := it_f hc h
              refine ax_aload_n (pc := 110) C d_MM_unit_110 rfl 1 rfl ?_
              by_cases hq : σ1.1 8 = 304
              · have h := it_t hq h
                have h := it_l (it_l (it_l h))
                cases h
                obtain rfl : o = xWr 3 (σ1.1 9) := ho.trans (xo_wrong _ _ _)
                obtain ⟨hT1, hX⟩ := hT rfl
                refine mx_cant3 (pc := 111) C (rest := []) hX hq ml_MM_431 d_MM_unit_111 (Nat.le_of_ble_eq_true rfl) (by dsimp only; omega) (by dsimp only; omega) (Nat.le_of_ble_eq_true rfl) (Nat.le_of_ble_eq_true rfl) (fun q => ?_)
                exact xr_Wi (pc := 114) C (xt_none hT1 _) d_MM_unit_114 (Nat.le_of_ble_eq_true rfl) (Nat.le_of_ble_eq_true rfl)
              · have h := it_f hq h
                have h := it_l (it_l (it_l h))
                cases h
                obtain rfl : o = xWr 1 (σ1.1 9) := ho.trans (xo_wrong _ _ _)
                obtain ⟨hT1, hX⟩ := hT rfl
                refine mx_cant1 (pc := 111) C (rest := []) hX hq ml_MM_431 d_MM_unit_111 (Nat.le_of_ble_eq_true rfl) (by dsimp only; omega) (by dsimp only; omega) (Nat.le_of_ble_eq_true rfl) (Nat.le_of_ble_eq_true rfl) (fun q => ?_)
                exact xr_Wi (pc := 114) C (xt_none hT1 _) d_MM_unit_114 (Nat.le_of_ble_eq_true rfl) (Nat.le_of_ble_eq_true rfl)
        · have h := it_t hc h
          refine ax_aload_n (pc := 78) C d_MM_unit_78 rfl 1 rfl ?_
          obtain ⟨σ2, r2, d1_2, d2_2, h1, h, hd2, hd1⟩ := it_b h
          have hm : sM_take l D kA z v σ1 [] (σ2, r2, d1_2) := ih tM_take _ _ _ h1
          refine mc_Vv (pc := 79) C (As := []) (rest := []) (hm rfl) ml_MM_435 d_MM_unit_79 rfl rfl (by dsimp only; omega) (by dsimp only; omega) (Nat.zero_le _) (Nat.zero_le _) (Nat.le_of_ble_eq_true rfl) ?_
          have hF : d2_2 + 8 ≤ F := by omega
          have hLo : 48 * d2_2 + 400 ≤ Lo := by omega
          refine ax_aload_n (pc := 82) C d_MM_unit_82 rfl 1 rfl ?_
          refine ax_aload_n (pc := 83) C d_MM_unit_83 rfl 1 rfl ?_
          refine ax_iload_n (pc := 84) C d_MM_unit_84 rfl 2 rfl ?_
          obtain ⟨σ3, r3, d1_3, d2_3, h1, h, hd2, hd1⟩ := it_b h
          have hm : sX_nest l D kA z v σ2 [x0] (σ3, r3, d1_3) := ihx tX_nest _ _ _ h1
          by_cases hq : σ3.1 3000 = 0
          · have h := it_t hq h
            refine mcx_Vi (pc := 85) C (As := [.int x0]) (rest := [.ref z]) (hm _ rfl) hq ml_MM_464 d_MM_unit_85 rfl rfl (by dsimp only; omega) (by dsimp only; omega) (Nat.zero_le _) (Nat.zero_le _) (Nat.le_of_ble_eq_true rfl) ?_
            have hF : d2_3 + 8 ≤ F := by omega
            have hLo : 48 * d2_3 + 400 ≤ Lo := by omega
            obtain ⟨σ4, r4, d1_4, d2_4, h1, h, hd2, hd1⟩ := it_b h
            have hm : sX_formula l D kA z v σ3 [r3] (σ4, r4, d1_4) := ihx tX_formula _ _ _ h1
            by_cases hq : σ4.1 3000 = 0
            · have h := it_t hq h
              refine mcx_Vi (pc := 88) C (As := [.int r3]) (rest := []) (hm _ rfl) hq ml_MM_476 d_MM_unit_88 rfl rfl (by dsimp only; omega) (by dsimp only; omega) (Nat.zero_le _) (Nat.zero_le _) (Nat.le_of_ble_eq_true rfl) ?_
              have hF : d2_4 + 8 ≤ F := by omega
              have hLo : 48 * d2_4 + 400 ≤ Lo := by omega
              refine ax_istore_n (pc := 91) C d_MM_unit_91 rfl (Nat.le_of_ble_eq_true rfl) ([(3, .int r4), (2, .int r1), (0, .ref z), (1, .int x0)]) rfl ?_
              refine ax_aload_n (pc := 92) C d_MM_unit_92 rfl 2 rfl ?_
              refine ax_bipush (pc := 93) C 41 d_MM_unit_93 (by decide +kernel) ?_
              obtain ⟨σ5, r5, d1_5, d2_5, h1, h, hd2, hd1⟩ := it_b h
              have hm : sX_must l D kA z v σ4 [41] (σ5, r5, d1_5) := ihx tX_must _ _ _ h1
              by_cases hq : σ5.1 3000 = 0
              · have h := it_t hq h
                refine mcx_Vv (pc := 95) C (As := [.int 41]) (rest := []) (hm _ rfl) hq ml_MM_479 d_MM_unit_95 rfl rfl (by dsimp only; omega) (by dsimp only; omega) (Nat.zero_le _) (Nat.zero_le _) (Nat.le_of_ble_eq_true rfl) ?_
                have hF : d2_5 + 8 ≤ F := by omega
                have hLo : 48 * d2_5 + 400 ≤ Lo := by omega
                refine ax_iload_n (pc := 98) C d_MM_unit_98 rfl 0 rfl ?_
                have h := it_l h
                cases h
                exact xr_iret (pc := 99) C ho d_MM_unit_99
              · have h := it_f hq h
                cases h
                obtain ⟨hT1, hX⟩ := hT (by rw [ho]; exact xo_thr hq)
                rw [xQi_thr (by rw [ho]; exact xo_thr hq)]
                exact mcx_P (pc := 95) C (As := [.int 41]) (rest := []) hX (xt_none hT1 _) ho hq (xMv_thr hq (hm _ rfl)) ml_MM_479 d_MM_unit_95 rfl rfl (by dsimp only; omega) (by dsimp only; omega) (Nat.le_of_ble_eq_true rfl)
            · have h := it_f hq h
              cases h
              obtain ⟨hT1, hX⟩ := hT (by rw [ho]; exact xo_thr hq)
              rw [xQi_thr (by rw [ho]; exact xo_thr hq)]
              exact mcx_P (pc := 88) C (As := [.int r3]) (rest := []) hX (xt_none hT1 _) ho hq (xMi_thr hq (hm _ rfl)) ml_MM_476 d_MM_unit_88 rfl rfl (by dsimp only; omega) (by dsimp only; omega) (Nat.le_of_ble_eq_true rfl)
          · have h := it_f hq h
            cases h
            obtain ⟨hT1, hX⟩ := hT (by rw [ho]; exact xo_thr hq)
            rw [xQi_thr (by rw [ho]; exact xo_thr hq)]
            exact mcx_P (pc := 85) C (As := [.int x0]) (rest := [.ref z]) hX (xt_none hT1 _) ho hq (xMi_thr hq (hm _ rfl)) ml_MM_464 d_MM_unit_85 rfl rfl (by dsimp only; omega) (by dsimp only; omega) (Nat.le_of_ble_eq_true rfl)
      · have h := it_t hc h
        refine ax_ls ([(0, .ref z), (1, .int x0), (2, .int r1)]) [1, 2, 0] rfl ?_
        have hm : sX_unit_53 l D kA z v σ1 [x0, r1] (σf, rf, _) := ihx tX_unit_53 _ _ _ h
        subst ho
        exact hm _ _ rfl p e s m args below meth c F Lo σ0 hF hLo C hT
  · have h := it_t hc h
    refine ax_aload_n (pc := 11) C d_MM_unit_11 rfl 1 rfl ?_
    obtain ⟨σ6, r6, d1_6, d2_6, h1, h, hd2, hd1⟩ := it_b h
    have hm : sM_take l D kA z v σ1 [] (σ6, r6, d1_6) := ih tM_take _ _ _ h1
    refine mc_Vv (pc := 12) C (As := []) (rest := []) (hm rfl) ml_MM_435 d_MM_unit_12 rfl rfl (by dsimp only; omega) (by dsimp only; omega) (Nat.zero_le _) (Nat.zero_le _) (Nat.le_of_ble_eq_true rfl) ?_
    have hF : d2_6 + 8 ≤ F := by omega
    have hLo : 48 * d2_6 + 400 ≤ Lo := by omega
    refine ax_aload_n (pc := 15) C d_MM_unit_15 rfl 1 rfl ?_
    refine ax_aload_n (pc := 16) C d_MM_unit_16 rfl 1 rfl ?_
    refine ax_iload_n (pc := 17) C d_MM_unit_17 rfl 2 rfl ?_
    obtain ⟨σ7, r7, d1_7, d2_7, h1, h, hd2, hd1⟩ := it_b h
    have hm : sX_nest l D kA z v σ6 [x0] (σ7, r7, d1_7) := ihx tX_nest _ _ _ h1
    by_cases hq : σ7.1 3000 = 0
    · have h := it_t hq h
      refine mcx_Vi (pc := 18) C (As := [.int x0]) (rest := [.ref z]) (hm _ rfl) hq ml_MM_464 d_MM_unit_18 rfl rfl (by dsimp only; omega) (by dsimp only; omega) (Nat.zero_le _) (Nat.zero_le _) (Nat.le_of_ble_eq_true rfl) ?_
      have hF : d2_7 + 8 ≤ F := by omega
      have hLo : 48 * d2_7 + 400 ≤ Lo := by omega
      obtain ⟨σ8, r8, d1_8, d2_8, h1, h, hd2, hd1⟩ := it_b h
      have hm : sX_unit l D kA z v σ7 [r7] (σ8, r8, d1_8) := ihx tX_unit _ _ _ h1
      by_cases hq : σ8.1 3000 = 0
      · have h := it_t hq h
        refine mcx_Vi (pc := 21) C (As := [.int r7]) (rest := []) (hm _ rfl) hq ml_MM_470 d_MM_unit_21 rfl rfl (by dsimp only; omega) (by dsimp only; omega) (Nat.zero_le _) (Nat.zero_le _) (Nat.le_of_ble_eq_true rfl) ?_
        have hF : d2_8 + 8 ≤ F := by omega
        have hLo : 48 * d2_8 + 400 ≤ Lo := by omega
        refine ax_istore_n (pc := 24) C d_MM_unit_24 rfl (Nat.le_of_ble_eq_true rfl) ([(3, .int r8), (2, .int r1), (0, .ref z), (1, .int x0)]) rfl ?_
        refine ax_aload_n (pc := 25) C d_MM_unit_25 rfl 2 rfl ?_
        refine ax_iconst (pc := 26) C 1 d_MM_unit_26 (by decide +kernel) ?_
        refine ax_iload_n (pc := 27) C d_MM_unit_27 rfl 0 rfl ?_
        refine ax_iconst (pc := 28) C 0 d_MM_unit_28 (by decide +kernel) ?_
        refine ax_iconst (pc := 29) C 1 d_MM_unit_29 (by decide +kernel) ?_
        refine ax_aload_n (pc := 30) C d_MM_unit_30 rfl 2 rfl ?_
        refine mg_114 (pc := 31) C d_MM_unit_31 ?_
        refine ax_iload_n (pc := 34) C d_MM_unit_34 rfl 0 rfl ?_
        obtain ⟨hb, h⟩ := it_g h
        refine ml_33 (pc := 35) C d_MM_unit_35 (bin_in hb) ?_
        refine ax_iadd (pc := 36) C d_MM_unit_36 ?_
        obtain ⟨σ9, r9, d1_9, d2_9, h1, h, hd2, hd1⟩ := it_b h
        have hm : sM_node l D kA z v σ8 [1, r8, 0, ((1 : Int32) + (σ8.2.1 33 (Int32.toNatClampNeg r8)))] (σ9, r9, d1_9) := ih tM_node _ _ _ h1
        refine mc_Vi (pc := 37) C (As := [.int 1, .int r8, .int 0, .int ((1 : Int32) + (σ8.2.1 33 (Int32.toNatClampNeg r8)))]) (rest := []) (hm _ _ _ _ rfl) ml_MM_450 d_MM_unit_37 rfl rfl (by dsimp only; omega) (by dsimp only; omega) (Nat.zero_le _) (Nat.zero_le _) (Nat.le_of_ble_eq_true rfl) ?_
        have hF : d2_9 + 8 ≤ F := by omega
        have hLo : 48 * d2_9 + 400 ≤ Lo := by omega
        have h := it_l h
        cases h
        exact xr_iret (pc := 40) C ho d_MM_unit_40
      · have h := it_f hq h
        cases h
        obtain ⟨hT1, hX⟩ := hT (by rw [ho]; exact xo_thr hq)
        rw [xQi_thr (by rw [ho]; exact xo_thr hq)]
        exact mcx_P (pc := 21) C (As := [.int r7]) (rest := []) hX (xt_none hT1 _) ho hq (xMi_thr hq (hm _ rfl)) ml_MM_470 d_MM_unit_21 rfl rfl (by dsimp only; omega) (by dsimp only; omega) (Nat.le_of_ble_eq_true rfl)
    · have h := it_f hq h
      cases h
      obtain ⟨hT1, hX⟩ := hT (by rw [ho]; exact xo_thr hq)
      rw [xQi_thr (by rw [ho]; exact xo_thr hq)]
      exact mcx_P (pc := 18) C (As := [.int x0]) (rest := [.ref z]) hX (xt_none hT1 _) ho hq (xMi_thr hq (hm _ rfl)) ml_MM_464 d_MM_unit_18 rfl rfl (by dsimp only; omega) (by dsimp only; omega) (Nat.le_of_ble_eq_true rfl)
set_option maxHeartbeats 4000000 in
set_option maxRecDepth 100000 in
theorem oX_unit_53 (l : Launch) (D : va_G) (kA : Nat → ClassId) (z : Nat) (v : Nat → Nat) (rec rex : mF) (ih : ∀ t σ xs res, rec t σ xs = some res → mSem l D kA z v t σ xs res) (ihx : ∀ t σ xs res, rex t σ xs = some res → xSem l D kA z v t σ xs res) (σ : mS) (xs : List Int32) (res : mR) (h : u_2 (kX_unit_53 rec rex σ) xs = some res) : sX_unit_53 l D kA z v σ xs res := by
  intro x0 x1 hxs
  subst hxs
  obtain ⟨σf, rf, dd⟩ := res
  have h : (if x1 = 33 then (rex tX_unit_68 σ [x0, x1, 6, x0]) else (rex tX_unit_68 σ [x0, x1, 7, x0])) = some (σf, rf, dd) := h
  intro p e s m args below meth c F Lo σ0 hF hLo C hT
  dsimp only at hF hLo hT ⊢
  obtain ⟨o, ho⟩ : ∃ o, o = xo (σf, rf) := ⟨_, rfl⟩
  rw [← ho] at hT ⊢
  refine ax_aload_n (pc := 53) C d_MM_unit_53 rfl 0 rfl ?_
  refine ax_iload_n (pc := 54) C d_MM_unit_54 rfl 1 rfl ?_
  refine ax_iload_n (pc := 55) C d_MM_unit_55 rfl 2 rfl ?_
  refine ax_bipush (pc := 56) C 33 d_MM_unit_56 (by decide +kernel) ?_
  refine ax_icmp_ne (pc := 58) C 66 d_MM_unit_58 (by decide) (fun hc => ?_) (fun hc => ?_)
  · have h := it_f hc h
    refine ax_bipush (pc := 66) C 7 d_MM_unit_66 (by decide +kernel) ?_
    refine ax_ls ([(0, .ref z), (1, .int x0), (2, .int x1)]) [0, 1, 2] rfl ?_
    have hm : sX_unit_68 l D kA z v σ [x0, x1, 7, x0] (σf, rf, _) := ihx tX_unit_68 _ _ _ h
    subst ho
    exact hm _ _ _ _ rfl p e s m args below meth c F Lo σ0 hF hLo C hT
  · have h := it_t hc h
    refine ax_bipush (pc := 61) C 6 d_MM_unit_61 (by decide +kernel) ?_
    refine ax_goto (pc := 63) C 68 d_MM_unit_63 (by decide) ?_
    refine ax_ls ([(0, .ref z), (1, .int x0), (2, .int x1)]) [0, 1, 2] rfl ?_
    have hm : sX_unit_68 l D kA z v σ [x0, x1, 6, x0] (σf, rf, _) := ihx tX_unit_68 _ _ _ h
    subst ho
    exact hm _ _ _ _ rfl p e s m args below meth c F Lo σ0 hF hLo C hT
set_option maxHeartbeats 4000000 in
set_option maxRecDepth 100000 in
theorem oX_unit_68 (l : Launch) (D : va_G) (kA : Nat → ClassId) (z : Nat) (v : Nat → Nat) (rec rex : mF) (ih : ∀ t σ xs res, rec t σ xs = some res → mSem l D kA z v t σ xs res) (ihx : ∀ t σ xs res, rex t σ xs = some res → xSem l D kA z v t σ xs res) (σ : mS) (xs : List Int32) (res : mR) (h : u_4 (kX_unit_68 rec rex σ) xs = some res) : sX_unit_68 l D kA z v σ xs res := by
  intro x0 x1 x2 x3 hxs
  subst hxs
  obtain ⟨σf, rf, dd⟩ := res
  have h : (bnd (rex tX_bound2 σ [x3, x2]) (fun σ1 r1 => if σ1.1 3000 = 0 then (lt_ (mI σ1 3000 0) (fun u => some (u, r1, 0))) else (some (σ1, 0, 0)))) = some (σf, rf, dd) := h
  intro p e s m args below meth c F Lo σ0 hF hLo C hT
  dsimp only at hF hLo hT ⊢
  obtain ⟨o, ho⟩ : ∃ o, o = xo (σf, rf) := ⟨_, rfl⟩
  rw [← ho] at hT ⊢
  obtain ⟨σ1, r1, d1_1, d2_1, h1, h, hd2, hd1⟩ := it_b h
  have hm : sX_bound2 l D kA z v σ [x3, x2] (σ1, r1, d1_1) := ihx tX_bound2 _ _ _ h1
  by_cases hq : σ1.1 3000 = 0
  · have h := it_t hq h
    refine mcx_Vi (pc := 68) C (As := [.int x3, .int x2]) (rest := []) (hm _ _ rfl) hq ml_MM_473 d_MM_unit_68 rfl rfl (by dsimp only; omega) (by dsimp only; omega) (Nat.zero_le _) (Nat.zero_le _) (Nat.le_of_ble_eq_true rfl) ?_
    have hF : d2_1 + 8 ≤ F := by omega
    have hLo : 48 * d2_1 + 400 ≤ Lo := by omega
    have h := it_l h
    cases h
    exact xr_iret (pc := 71) C ho d_MM_unit_71
  · have h := it_f hq h
    cases h
    obtain ⟨hT1, hX⟩ := hT (by rw [ho]; exact xo_thr hq)
    rw [xQi_thr (by rw [ho]; exact xo_thr hq)]
    exact mcx_P (pc := 68) C (As := [.int x3, .int x2]) (rest := []) hX (xt_none hT1 _) ho hq (xMi_thr hq (hm _ _ rfl)) ml_MM_473 d_MM_unit_68 rfl rfl (by dsimp only; omega) (by dsimp only; omega) (Nat.le_of_ble_eq_true rfl)
set_option maxHeartbeats 4000000 in
set_option maxRecDepth 100000 in
theorem oX_unit_115 (l : Launch) (D : va_G) (kA : Nat → ClassId) (z : Nat) (v : Nat → Nat) (rec rex : mF) (ih : ∀ t σ xs res, rec t σ xs = some res → mSem l D kA z v t σ xs res) (ihx : ∀ t σ xs res, rex t σ xs = some res → xSem l D kA z v t σ xs res) (σ : mS) (xs : List Int32) (res : mR) (h : u_2 (kX_unit_115 rec rex σ) xs = some res) : sX_unit_115 l D kA z v σ xs res := by
  intro x0 x1 hxs
  subst hxs
  obtain ⟨σf, rf, dd⟩ := res
  have h : (bnd (rex tX_atom1 σ [x0]) (fun σ1 r1 => if σ1.1 3000 = 0 then (lt_ (mI σ1 3000 0) (fun u => some (u, r1, 0))) else (some (σ1, 0, 0)))) = some (σf, rf, dd) := h
  intro p e s m args below meth c F Lo σ0 hF hLo C hT
  dsimp only at hF hLo hT ⊢
  obtain ⟨o, ho⟩ : ∃ o, o = xo (σf, rf) := ⟨_, rfl⟩
  rw [← ho] at hT ⊢
  refine ax_aload_n (pc := 115) C d_MM_unit_115 rfl 0 rfl ?_
  refine ax_iload_n (pc := 116) C d_MM_unit_116 rfl 1 rfl ?_
  obtain ⟨σ1, r1, d1_1, d2_1, h1, h, hd2, hd1⟩ := it_b h
  have hm : sX_atom1 l D kA z v σ [x0] (σ1, r1, d1_1) := ihx tX_atom1 _ _ _ h1
  by_cases hq : σ1.1 3000 = 0
  · have h := it_t hq h
    refine mcx_Vi (pc := 117) C (As := [.int x0]) (rest := []) (hm _ rfl) hq ml_MM_483 d_MM_unit_117 rfl rfl (by dsimp only; omega) (by dsimp only; omega) (Nat.zero_le _) (Nat.zero_le _) (Nat.le_of_ble_eq_true rfl) ?_
    have hF : d2_1 + 8 ≤ F := by omega
    have hLo : 48 * d2_1 + 400 ≤ Lo := by omega
    have h := it_l h
    cases h
    exact xr_iret (pc := 120) C ho d_MM_unit_120
  · have h := it_f hq h
    cases h
    obtain ⟨hT1, hX⟩ := hT (by rw [ho]; exact xo_thr hq)
    rw [xQi_thr (by rw [ho]; exact xo_thr hq)]
    exact mcx_P (pc := 117) C (As := [.int x0]) (rest := []) hX (xt_none hT1 _) ho hq (xMi_thr hq (hm _ rfl)) ml_MM_483 d_MM_unit_117 rfl rfl (by dsimp only; omega) (by dsimp only; omega) (Nat.le_of_ble_eq_true rfl)
set_option maxHeartbeats 4000000 in
set_option maxRecDepth 100000 in
theorem oX_nest (l : Launch) (D : va_G) (kA : Nat → ClassId) (z : Nat) (v : Nat → Nat) (rec rex : mF) (ih : ∀ t σ xs res, rec t σ xs = some res → mSem l D kA z v t σ xs res) (ihx : ∀ t σ xs res, rex t σ xs = some res → xSem l D kA z v t σ xs res) (σ : mS) (xs : List Int32) (res : mR) (h : u_1 (kX_nest rec rex σ) xs = some res) : sX_nest l D kA z v σ xs res := by
  intro x0 hxs
  subst hxs
  obtain ⟨σf, rf, dd⟩ := res
  have h : (if x0 = 60 then (bnd (rec tM_peek σ []) (fun σ1 r1 => lt_ (mI σ1 3003 3) (fun u1 => lt_ (mI u1 3004 (σ1.1 9)) (fun u2 => lt_ (mI u2 3000 1) (fun u3 => some (u3, 0, 0)))))) else (lt_ (mI σ 3000 0) (fun u => some (u, ((x0 : Int32) + 1), 0)))) = some (σf, rf, dd) := h
  obtain ⟨o, ho⟩ : ∃ o, o = xo (σf, rf) := ⟨_, rfl⟩
  show xMi l D kA y_MM_nest b_MM_nest 2 .int (dd + 8) (48 * dd + 400) [.ref z, .int x0] (mmW kA z v σ) z v σf (xo (σf, rf))
  rw [← ho]
  refine xMi.of (by decide +kernel) (Nat.le_of_ble_eq_true rfl) ?_
  intro p e s m args below meth c C hT
  have C : ax_C p s m args meth c b_MM_nest "ClauseProverModel" 2 (some .int) D kA (va_A (mmW kA z v σ) s.heap.size) := C
  obtain ⟨F, hFe⟩ : ∃ F, F = dd + 8 := ⟨_, rfl⟩
  obtain ⟨Lo, hLoe⟩ : ∃ Lo, Lo = 48 * dd + 400 := ⟨_, rfl⟩
  obtain ⟨σ0, hσ0⟩ : ∃ s0, s0 = σ := ⟨_, rfl⟩
  suffices K : AW p l e { frames := F, cells := xmc o, slots := xms o, locals := Lo } s m args below meth c D kA (va_A (mmW kA z v σ0) s.heap.size) 2 (xQi below args s D kA (mmW kA z v σ0) z v σf o) 0 [(0, .ref z), (1, .int x0)] [] (mmW kA z v σ) 0 0 by rw [hFe, hLoe, hσ0] at K; exact ax_ls ([(0, .ref z), (1, .int x0)]) [0, 1] rfl K
  have C : ax_C p s m args meth c b_MM_nest "ClauseProverModel" 2 (some .int) D kA (va_A (mmW kA z v σ0) s.heap.size) := by rw [hσ0]; exact C
  have hT : XT o l e s m meth c (va_A (mmW kA z v σ0) s.heap.size) := by rw [hσ0]; exact hT
  have hF : dd + 8 ≤ F := by omega
  have hLo : 48 * dd + 400 ≤ Lo := by omega
  clear hFe hLoe hσ0
  refine ax_iload_n (pc := 0) C d_MM_nest_0 rfl 1 rfl ?_
  refine ax_bipush (pc := 1) C 60 d_MM_nest_1 (by decide +kernel) ?_
  refine ax_icmp_ne (pc := 3) C 24 d_MM_nest_3 (by decide) (fun hc => ?_) (fun hc => ?_)
  · have h := it_f hc h
    refine ax_iload_n (pc := 24) C d_MM_nest_24 rfl 1 rfl ?_
    refine ax_iconst (pc := 25) C 1 d_MM_nest_25 (by decide +kernel) ?_
    refine ax_iadd (pc := 26) C d_MM_nest_26 ?_
    have h := it_l h
    cases h
    exact xr_iret (pc := 27) C ho d_MM_nest_27
  · have h := it_t hc h
    refine ax_aload_n (pc := 6) C d_MM_nest_6 rfl 0 rfl ?_
    obtain ⟨σ1, r1, d1_1, d2_1, h1, h, hd2, hd1⟩ := it_b h
    have hm : sM_peek l D kA z v σ [] (σ1, r1, d1_1) := ih tM_peek _ _ _ h1
    refine mc_Vi (pc := 7) C (As := []) (rest := []) (hm rfl) ml_MM_422 d_MM_nest_7 rfl rfl (by dsimp only; omega) (by dsimp only; omega) (Nat.zero_le _) (Nat.zero_le _) (Nat.le_of_ble_eq_true rfl) ?_
    have hF : d2_1 + 8 ≤ F := by omega
    have hLo : 48 * d2_1 + 400 ≤ Lo := by omega
    refine ax_pop (pc := 10) C d_MM_nest_10 rfl ?_
    have h := it_l (it_l (it_l h))
    cases h
    obtain rfl : o = xWr 3 (σ1.1 9) := ho.trans (xo_wrong _ _ _)
    obtain ⟨hT1, hX⟩ := hT rfl
    refine mx_new8 (pc := 11) C (Nat.le_of_ble_eq_true rfl) (Nat.le_of_ble_eq_true rfl) d_MM_nest_11 (fun q => ?_)
    refine ax_dup (pc := 14) C d_MM_nest_14 rfl ?_
    refine ax_iconst (pc := 15) C 3 d_MM_nest_15 (by decide +kernel) ?_
    refine ax_aload_n (pc := 16) C d_MM_nest_16 rfl 0 rfl ?_
    refine mgx_39 (pc := 17) C d_MM_nest_17 ?_
    refine mx_initW (pc := 20) C hX d_MM_nest_20 (Nat.le_of_ble_eq_true rfl) (by dsimp only; omega) (by dsimp only; omega) (Nat.le_of_ble_eq_true rfl) (Nat.le_of_ble_eq_true rfl) ?_
    exact xr_Wi (pc := 23) C (xt_none hT1 _) d_MM_nest_23 (Nat.le_of_ble_eq_true rfl) (Nat.le_of_ble_eq_true rfl)
set_option maxHeartbeats 4000000 in
set_option maxRecDepth 100000 in
theorem oX_bound2 (l : Launch) (D : va_G) (kA : Nat → ClassId) (z : Nat) (v : Nat → Nat) (rec rex : mF) (ih : ∀ t σ xs res, rec t σ xs = some res → mSem l D kA z v t σ xs res) (ihx : ∀ t σ xs res, rex t σ xs = some res → xSem l D kA z v t σ xs res) (σ : mS) (xs : List Int32) (res : mR) (h : u_2 (kX_bound2 rec rex σ) xs = some res) : sX_bound2 l D kA z v σ xs res := by
  intro x0 x1 hxs
  subst hxs
  obtain ⟨σf, rf, dd⟩ := res
  have h : (bnd (rec tM_take σ []) (fun σ1 r1 => bnd (rec tM_peek σ1 []) (fun σ2 r2 => if r2 = 1 then (rex tX_bound2_28 σ2 [x0, x1, (σ1.1 25), (σ1.1 28)]) else (if σ2.1 8 = 304 then (lt_ (mI σ2 3003 3) (fun u1 => lt_ (mI u1 3004 (σ2.1 9)) (fun u2 => lt_ (mI u2 3000 1) (fun u3 => some (u3, 0, 0))))) else (lt_ (mI σ2 3003 1) (fun u1 => lt_ (mI u1 3004 (σ2.1 9)) (fun u2 => lt_ (mI u2 3000 1) (fun u3 => some (u3, 0, 0))))))))) = some (σf, rf, dd) := h
  obtain ⟨o, ho⟩ : ∃ o, o = xo (σf, rf) := ⟨_, rfl⟩
  show xMi l D kA y_MM_bound2 b_MM_bound2 7 .int (dd + 8) (48 * dd + 400) [.ref z, .int x0, .int x1] (mmW kA z v σ) z v σf (xo (σf, rf))
  rw [← ho]
  refine xMi.of (by decide +kernel) (Nat.le_of_ble_eq_true rfl) ?_
  intro p e s m args below meth c C hT
  have C : ax_C p s m args meth c b_MM_bound2 "ClauseProverModel" 7 (some .int) D kA (va_A (mmW kA z v σ) s.heap.size) := C
  obtain ⟨F, hFe⟩ : ∃ F, F = dd + 8 := ⟨_, rfl⟩
  obtain ⟨Lo, hLoe⟩ : ∃ Lo, Lo = 48 * dd + 400 := ⟨_, rfl⟩
  obtain ⟨σ0, hσ0⟩ : ∃ s0, s0 = σ := ⟨_, rfl⟩
  suffices K : AW p l e { frames := F, cells := xmc o, slots := xms o, locals := Lo } s m args below meth c D kA (va_A (mmW kA z v σ0) s.heap.size) 7 (xQi below args s D kA (mmW kA z v σ0) z v σf o) 0 [(0, .ref z), (1, .int x0), (2, .int x1)] [] (mmW kA z v σ) 0 0 by rw [hFe, hLoe, hσ0] at K; exact ax_ls ([(0, .ref z), (1, .int x0), (2, .int x1)]) [0, 1, 2] rfl K
  have C : ax_C p s m args meth c b_MM_bound2 "ClauseProverModel" 7 (some .int) D kA (va_A (mmW kA z v σ0) s.heap.size) := by rw [hσ0]; exact C
  have hT : XT o l e s m meth c (va_A (mmW kA z v σ0) s.heap.size) := by rw [hσ0]; exact hT
  have hF : dd + 8 ≤ F := by omega
  have hLo : 48 * dd + 400 ≤ Lo := by omega
  clear hFe hLoe hσ0
  refine ax_aload_n (pc := 0) C d_MM_bound2_0 rfl 0 rfl ?_
  obtain ⟨σ1, r1, d1_1, d2_1, h1, h, hd2, hd1⟩ := it_b h
  have hm : sM_take l D kA z v σ [] (σ1, r1, d1_1) := ih tM_take _ _ _ h1
  refine mc_Vv (pc := 1) C (As := []) (rest := []) (hm rfl) ml_MM_435 d_MM_bound2_1 rfl rfl (by dsimp only; omega) (by dsimp only; omega) (Nat.zero_le _) (Nat.zero_le _) (Nat.le_of_ble_eq_true rfl) ?_
  have hF : d2_1 + 8 ≤ F := by omega
  have hLo : 48 * d2_1 + 400 ≤ Lo := by omega
  refine ax_aload_n (pc := 4) C d_MM_bound2_4 rfl 0 rfl ?_
  refine mg_90 (pc := 5) C d_MM_bound2_5 ?_
  refine ax_istore_n (pc := 8) C d_MM_bound2_8 rfl (Nat.le_of_ble_eq_true rfl) ([(3, .int (σ1.1 25)), (0, .ref z), (1, .int x0), (2, .int x1)]) rfl ?_
  refine ax_aload_n (pc := 9) C d_MM_bound2_9 rfl 1 rfl ?_
  refine mg_99 (pc := 10) C d_MM_bound2_10 ?_
  refine ax_istore (pc := 13) C d_MM_bound2_13 (Nat.le_of_ble_eq_true rfl) ([(4, .int (σ1.1 28)), (3, .int (σ1.1 25)), (0, .ref z), (1, .int x0), (2, .int x1)]) rfl ?_
  refine ax_aload_n (pc := 15) C d_MM_bound2_15 rfl 2 rfl ?_
  obtain ⟨σ2, r2, d1_2, d2_2, h1, h, hd2, hd1⟩ := it_b h
  have hm : sM_peek l D kA z v σ1 [] (σ2, r2, d1_2) := ih tM_peek _ _ _ h1
  refine mc_Vi (pc := 16) C (As := []) (rest := []) (hm rfl) ml_MM_422 d_MM_bound2_16 rfl rfl (by dsimp only; omega) (by dsimp only; omega) (Nat.zero_le _) (Nat.zero_le _) (Nat.le_of_ble_eq_true rfl) ?_
  have hF : d2_2 + 8 ≤ F := by omega
  have hLo : 48 * d2_2 + 400 ≤ Lo := by omega
  refine ax_iconst (pc := 19) C 1 d_MM_bound2_19 (by decide +kernel) ?_
  refine ax_icmp_eq (pc := 20) C 28 d_MM_bound2_20 (by decide) (fun hc => ?_) (fun hc => ?_)
  · have h := it_t hc h
    refine ax_ls ([(0, .ref z), (1, .int x0), (2, .int x1), (3, .int (σ1.1 25)), (4, .int (σ1.1 28))]) [2, 3, 4, 1, 0] rfl ?_
    have hm : sX_bound2_28 l D kA z v σ2 [x0, x1, (σ1.1 25), (σ1.1 28)] (σf, rf, _) := ihx tX_bound2_28 _ _ _ h
    subst ho
    exact hm _ _ _ _ rfl p e s m args below meth c F Lo σ0 hF hLo C hT
  · have h := it_f hc h
    refine ax_aload_n (pc := 23) C d_MM_bound2_23 rfl 2 rfl ?_
    by_cases hq : σ2.1 8 = 304
    · have h := it_t hq h
      have h := it_l (it_l (it_l h))
      cases h
      obtain rfl : o = xWr 3 (σ2.1 9) := ho.trans (xo_wrong _ _ _)
      obtain ⟨hT1, hX⟩ := hT rfl
      refine mx_cant3 (pc := 24) C (rest := []) hX hq ml_MM_431 d_MM_bound2_24 (Nat.le_of_ble_eq_true rfl) (by dsimp only; omega) (by dsimp only; omega) (Nat.le_of_ble_eq_true rfl) (Nat.le_of_ble_eq_true rfl) (fun q => ?_)
      exact xr_Wi (pc := 27) C (xt_none hT1 _) d_MM_bound2_27 (Nat.le_of_ble_eq_true rfl) (Nat.le_of_ble_eq_true rfl)
    · have h := it_f hq h
      have h := it_l (it_l (it_l h))
      cases h
      obtain rfl : o = xWr 1 (σ2.1 9) := ho.trans (xo_wrong _ _ _)
      obtain ⟨hT1, hX⟩ := hT rfl
      refine mx_cant1 (pc := 24) C (rest := []) hX hq ml_MM_431 d_MM_bound2_24 (Nat.le_of_ble_eq_true rfl) (by dsimp only; omega) (by dsimp only; omega) (Nat.le_of_ble_eq_true rfl) (Nat.le_of_ble_eq_true rfl) (fun q => ?_)
      exact xr_Wi (pc := 27) C (xt_none hT1 _) d_MM_bound2_27 (Nat.le_of_ble_eq_true rfl) (Nat.le_of_ble_eq_true rfl)
set_option maxHeartbeats 4000000 in
set_option maxRecDepth 100000 in
theorem oX_bound2_28 (l : Launch) (D : va_G) (kA : Nat → ClassId) (z : Nat) (v : Nat → Nat) (rec rex : mF) (ih : ∀ t σ xs res, rec t σ xs = some res → mSem l D kA z v t σ xs res) (ihx : ∀ t σ xs res, rex t σ xs = some res → xSem l D kA z v t σ xs res) (σ : mS) (xs : List Int32) (res : mR) (h : u_4 (kX_bound2_28 rec rex σ) xs = some res) : sX_bound2_28 l D kA z v σ xs res := by
  intro x0 x1 x2 x3 hxs
  subst hxs
  obtain ⟨σf, rf, dd⟩ := res
  have h : (bnd (rec tM_peek σ []) (fun σ1 r1 => if r1 = 1 then (lt_ (mI σ1 28 (((σ1.1 28) : Int32) + 1)) (fun σ7 => bnd (rex tX_binder σ7 []) (fun σ8 r8 => if σ8.1 3000 = 0 then (if bin (σ1.1 28) 300 = true then (lt_ (mA σ8 26 (Int32.toNatClampNeg (σ1.1 28)) r8) (fun σ9 => bnd (rec tM_take σ9 []) (fun σ10 r10 => rex tX_bound2_28 σ10 [x0, x1, x2, x3]))) else none) else (some (σ8, 0, 0))))) else (bnd (rex tX_must σ1 [58]) (fun σ2 r2 => if σ2.1 3000 = 0 then (bnd (rex tX_nest σ2 [x0]) (fun σ3 r3 => if σ3.1 3000 = 0 then (bnd (rex tX_formula σ3 [r3]) (fun σ4 r4 => if σ4.1 3000 = 0 then (lt_ (mI σ4 28 x3) (fun σ5 => if bin r4 20100 = true then (bnd (rec tM_node σ5 [x1, r4, ((((x2 : Int32) * 1000) : Int32) + (((σ1.1 25) : Int32) - x2)), (((((σ1.1 25) : Int32) - x2) : Int32) + (σ5.2.1 33 (Int32.toNatClampNeg r4)))]) (fun σ6 r6 => lt_ (mI σ6 3000 0) (fun u => some (u, r6, 0)))) else none)) else (some (σ4, 0, 0)))) else (some (σ3, 0, 0)))) else (some (σ2, 0, 0)))))) = some (σf, rf, dd) := h
  intro p e s m args below meth c F Lo σ0 hF hLo C hT
  dsimp only at hF hLo hT ⊢
  obtain ⟨o, ho⟩ : ∃ o, o = xo (σf, rf) := ⟨_, rfl⟩
  rw [← ho] at hT ⊢
  refine ax_aload_n (pc := 28) C d_MM_bound2_28 rfl 0 rfl ?_
  obtain ⟨σ1, r1, d1_1, d2_1, h1, h, hd2, hd1⟩ := it_b h
  have hm : sM_peek l D kA z v σ [] (σ1, r1, d1_1) := ih tM_peek _ _ _ h1
  refine mc_Vi (pc := 29) C (As := []) (rest := []) (hm rfl) ml_MM_422 d_MM_bound2_29 rfl rfl (by dsimp only; omega) (by dsimp only; omega) (Nat.zero_le _) (Nat.zero_le _) (Nat.le_of_ble_eq_true rfl) ?_
  have hF : d2_1 + 8 ≤ F := by omega
  have hLo : 48 * d2_1 + 400 ≤ Lo := by omega
  refine ax_iconst (pc := 32) C 1 d_MM_bound2_32 (by decide +kernel) ?_
  refine ax_icmp_ne (pc := 33) C 63 d_MM_bound2_33 (by decide) (fun hc => ?_) (fun hc => ?_)
  · have h := it_f hc h
    refine ax_aload_n (pc := 63) C d_MM_bound2_63 rfl 0 rfl ?_
    refine mg_90 (pc := 64) C d_MM_bound2_64 ?_
    refine ax_iload_n (pc := 67) C d_MM_bound2_67 rfl 3 rfl ?_
    refine ax_isub (pc := 68) C d_MM_bound2_68 ?_
    refine ax_istore (pc := 69) C d_MM_bound2_69 (Nat.le_of_ble_eq_true rfl) ([(5, .int (((σ1.1 25) : Int32) - x2)), (0, .ref z), (1, .int x0), (2, .int x1), (3, .int x2), (4, .int x3)]) rfl ?_
    refine ax_aload_n (pc := 71) C d_MM_bound2_71 rfl 1 rfl ?_
    refine ax_bipush (pc := 72) C 58 d_MM_bound2_72 (by decide +kernel) ?_
    obtain ⟨σ2, r2, d1_2, d2_2, h1, h, hd2, hd1⟩ := it_b h
    have hm : sX_must l D kA z v σ1 [58] (σ2, r2, d1_2) := ihx tX_must _ _ _ h1
    by_cases hq : σ2.1 3000 = 0
    · have h := it_t hq h
      refine mcx_Vv (pc := 74) C (As := [.int 58]) (rest := []) (hm _ rfl) hq ml_MM_479 d_MM_bound2_74 rfl rfl (by dsimp only; omega) (by dsimp only; omega) (Nat.zero_le _) (Nat.zero_le _) (Nat.le_of_ble_eq_true rfl) ?_
      have hF : d2_2 + 8 ≤ F := by omega
      have hLo : 48 * d2_2 + 400 ≤ Lo := by omega
      refine ax_aload_n (pc := 77) C d_MM_bound2_77 rfl 1 rfl ?_
      refine ax_aload_n (pc := 78) C d_MM_bound2_78 rfl 1 rfl ?_
      refine ax_iload_n (pc := 79) C d_MM_bound2_79 rfl 2 rfl ?_
      obtain ⟨σ3, r3, d1_3, d2_3, h1, h, hd2, hd1⟩ := it_b h
      have hm : sX_nest l D kA z v σ2 [x0] (σ3, r3, d1_3) := ihx tX_nest _ _ _ h1
      by_cases hq : σ3.1 3000 = 0
      · have h := it_t hq h
        refine mcx_Vi (pc := 80) C (As := [.int x0]) (rest := [.ref z]) (hm _ rfl) hq ml_MM_464 d_MM_bound2_80 rfl rfl (by dsimp only; omega) (by dsimp only; omega) (Nat.zero_le _) (Nat.zero_le _) (Nat.le_of_ble_eq_true rfl) ?_
        have hF : d2_3 + 8 ≤ F := by omega
        have hLo : 48 * d2_3 + 400 ≤ Lo := by omega
        obtain ⟨σ4, r4, d1_4, d2_4, h1, h, hd2, hd1⟩ := it_b h
        have hm : sX_formula l D kA z v σ3 [r3] (σ4, r4, d1_4) := ihx tX_formula _ _ _ h1
        by_cases hq : σ4.1 3000 = 0
        · have h := it_t hq h
          refine mcx_Vi (pc := 83) C (As := [.int r3]) (rest := []) (hm _ rfl) hq ml_MM_476 d_MM_bound2_83 rfl rfl (by dsimp only; omega) (by dsimp only; omega) (Nat.zero_le _) (Nat.zero_le _) (Nat.le_of_ble_eq_true rfl) ?_
          have hF : d2_4 + 8 ≤ F := by omega
          have hLo : 48 * d2_4 + 400 ≤ Lo := by omega
          refine ax_istore (pc := 86) C d_MM_bound2_86 (Nat.le_of_ble_eq_true rfl) ([(6, .int r4), (5, .int (((σ1.1 25) : Int32) - x2)), (0, .ref z), (1, .int x0), (2, .int x1), (3, .int x2), (4, .int x3)]) rfl ?_
          refine ax_aload_n (pc := 88) C d_MM_bound2_88 rfl 2 rfl ?_
          refine ax_iload (pc := 89) C d_MM_bound2_89 6 rfl ?_
          refine mp_99 (pc := 91) C d_MM_bound2_91 ?_
          have h := it_l h
          generalize mI σ4 28 x3 = σ5 at h ⊢
          refine ax_aload_n (pc := 94) C d_MM_bound2_94 rfl 2 rfl ?_
          refine ax_iload_n (pc := 95) C d_MM_bound2_95 rfl 4 rfl ?_
          refine ax_iload (pc := 96) C d_MM_bound2_96 0 rfl ?_
          refine ax_iload_n (pc := 98) C d_MM_bound2_98 rfl 5 rfl ?_
          refine ax_sipush (pc := 99) C 1000 d_MM_bound2_99 (by decide +kernel) ?_
          refine ax_imul (pc := 102) C d_MM_bound2_102 ?_
          refine ax_iload (pc := 103) C d_MM_bound2_103 1 rfl ?_
          refine ax_iadd (pc := 105) C d_MM_bound2_105 ?_
          refine ax_iload (pc := 106) C d_MM_bound2_106 1 rfl ?_
          refine ax_aload_n (pc := 108) C d_MM_bound2_108 rfl 2 rfl ?_
          refine mg_114 (pc := 109) C d_MM_bound2_109 ?_
          refine ax_iload (pc := 112) C d_MM_bound2_112 0 rfl ?_
          obtain ⟨hb, h⟩ := it_g h
          refine ml_33 (pc := 114) C d_MM_bound2_114 (bin_in hb) ?_
          refine ax_iadd (pc := 115) C d_MM_bound2_115 ?_
          obtain ⟨σ6, r6, d1_6, d2_6, h1, h, hd2, hd1⟩ := it_b h
          have hm : sM_node l D kA z v σ5 [x1, r4, ((((x2 : Int32) * 1000) : Int32) + (((σ1.1 25) : Int32) - x2)), (((((σ1.1 25) : Int32) - x2) : Int32) + (σ5.2.1 33 (Int32.toNatClampNeg r4)))] (σ6, r6, d1_6) := ih tM_node _ _ _ h1
          refine mc_Vi (pc := 116) C (As := [.int x1, .int r4, .int ((((x2 : Int32) * 1000) : Int32) + (((σ1.1 25) : Int32) - x2)), .int (((((σ1.1 25) : Int32) - x2) : Int32) + (σ5.2.1 33 (Int32.toNatClampNeg r4)))]) (rest := []) (hm _ _ _ _ rfl) ml_MM_450 d_MM_bound2_116 rfl rfl (by dsimp only; omega) (by dsimp only; omega) (Nat.zero_le _) (Nat.zero_le _) (Nat.le_of_ble_eq_true rfl) ?_
          have hF : d2_6 + 8 ≤ F := by omega
          have hLo : 48 * d2_6 + 400 ≤ Lo := by omega
          have h := it_l h
          cases h
          exact xr_iret (pc := 119) C ho d_MM_bound2_119
        · have h := it_f hq h
          cases h
          obtain ⟨hT1, hX⟩ := hT (by rw [ho]; exact xo_thr hq)
          rw [xQi_thr (by rw [ho]; exact xo_thr hq)]
          exact mcx_P (pc := 83) C (As := [.int r3]) (rest := []) hX (xt_none hT1 _) ho hq (xMi_thr hq (hm _ rfl)) ml_MM_476 d_MM_bound2_83 rfl rfl (by dsimp only; omega) (by dsimp only; omega) (Nat.le_of_ble_eq_true rfl)
      · have h := it_f hq h
        cases h
        obtain ⟨hT1, hX⟩ := hT (by rw [ho]; exact xo_thr hq)
        rw [xQi_thr (by rw [ho]; exact xo_thr hq)]
        exact mcx_P (pc := 80) C (As := [.int x0]) (rest := [.ref z]) hX (xt_none hT1 _) ho hq (xMi_thr hq (hm _ rfl)) ml_MM_464 d_MM_bound2_80 rfl rfl (by dsimp only; omega) (by dsimp only; omega) (Nat.le_of_ble_eq_true rfl)
    · have h := it_f hq h
      cases h
      obtain ⟨hT1, hX⟩ := hT (by rw [ho]; exact xo_thr hq)
      rw [xQi_thr (by rw [ho]; exact xo_thr hq)]
      exact mcx_P (pc := 74) C (As := [.int 58]) (rest := []) hX (xt_none hT1 _) ho hq (xMv_thr hq (hm _ rfl)) ml_MM_479 d_MM_bound2_74 rfl rfl (by dsimp only; omega) (by dsimp only; omega) (Nat.le_of_ble_eq_true rfl)
  · have h := it_t hc h
    refine ax_aload_n (pc := 36) C d_MM_bound2_36 rfl 0 rfl ?_
    refine mg_93 (pc := 37) C d_MM_bound2_37 ?_
    refine ax_aload_n (pc := 40) C d_MM_bound2_40 rfl 0 rfl ?_
    refine ax_dup (pc := 41) C d_MM_bound2_41 rfl ?_
    refine mg_99 (pc := 42) C d_MM_bound2_42 ?_
    refine ax_dup_x1 (pc := 45) C d_MM_bound2_45 rfl rfl ?_
    refine ax_iconst (pc := 46) C 1 d_MM_bound2_46 (by decide +kernel) ?_
    refine ax_iadd (pc := 47) C d_MM_bound2_47 ?_
    refine mp_99 (pc := 48) C d_MM_bound2_48 ?_
    have h := it_l h
    generalize mI σ1 28 (((σ1.1 28) : Int32) + 1) = σ7 at h ⊢
    refine ax_aload_n (pc := 51) C d_MM_bound2_51 rfl 0 rfl ?_
    obtain ⟨σ8, r8, d1_8, d2_8, h1, h, hd2, hd1⟩ := it_b h
    have hm : sX_binder l D kA z v σ7 [] (σ8, r8, d1_8) := ihx tX_binder _ _ _ h1
    by_cases hq : σ8.1 3000 = 0
    · have h := it_t hq h
      refine mcx_Vi (pc := 52) C (As := []) (rest := [.int (σ1.1 28), .ref (v 11)]) (hm rfl) hq ml_MM_441 d_MM_bound2_52 rfl rfl (by dsimp only; omega) (by dsimp only; omega) (Nat.zero_le _) (Nat.zero_le _) (Nat.le_of_ble_eq_true rfl) ?_
      have hF : d2_8 + 8 ≤ F := by omega
      have hLo : 48 * d2_8 + 400 ≤ Lo := by omega
      obtain ⟨hb, h⟩ := it_g h
      refine ms_26 (pc := 55) C d_MM_bound2_55 (bin_in hb) ?_
      have h := it_l h
      generalize mA σ8 26 (Int32.toNatClampNeg (σ1.1 28)) r8 = σ9 at h ⊢
      refine ax_aload_n (pc := 56) C d_MM_bound2_56 rfl 0 rfl ?_
      obtain ⟨σ10, r10, d1_10, d2_10, h1, h, hd2, hd1⟩ := it_b h
      have hm : sM_take l D kA z v σ9 [] (σ10, r10, d1_10) := ih tM_take _ _ _ h1
      refine mc_Vv (pc := 57) C (As := []) (rest := []) (hm rfl) ml_MM_435 d_MM_bound2_57 rfl rfl (by dsimp only; omega) (by dsimp only; omega) (Nat.zero_le _) (Nat.zero_le _) (Nat.le_of_ble_eq_true rfl) ?_
      have hF : d2_10 + 8 ≤ F := by omega
      have hLo : 48 * d2_10 + 400 ≤ Lo := by omega
      refine ax_goto (pc := 60) C 28 d_MM_bound2_60 (by decide) ?_
      refine ax_ls ([(0, .ref z), (1, .int x0), (2, .int x1), (3, .int x2), (4, .int x3)]) [0, 1, 2, 3, 4] rfl ?_
      have hm : sX_bound2_28 l D kA z v σ10 [x0, x1, x2, x3] (σf, rf, _) := ihx tX_bound2_28 _ _ _ h
      subst ho
      exact hm _ _ _ _ rfl p e s m args below meth c F Lo σ0 hF hLo C hT
    · have h := it_f hq h
      cases h
      obtain ⟨hT1, hX⟩ := hT (by rw [ho]; exact xo_thr hq)
      rw [xQi_thr (by rw [ho]; exact xo_thr hq)]
      exact mcx_P (pc := 52) C (As := []) (rest := [.int (σ1.1 28), .ref (v 11)]) hX (xt_none hT1 _) ho hq (xMi_thr hq (hm rfl)) ml_MM_441 d_MM_bound2_52 rfl rfl (by dsimp only; omega) (by dsimp only; omega) (Nat.le_of_ble_eq_true rfl)
set_option maxHeartbeats 4000000 in
set_option maxRecDepth 100000 in
theorem oX_binder (l : Launch) (D : va_G) (kA : Nat → ClassId) (z : Nat) (v : Nat → Nat) (rec rex : mF) (ih : ∀ t σ xs res, rec t σ xs = some res → mSem l D kA z v t σ xs res) (ihx : ∀ t σ xs res, rex t σ xs = some res → xSem l D kA z v t σ xs res) (σ : mS) (xs : List Int32) (res : mR) (h : u_0 (kX_binder rec rex σ) xs = some res) : sX_binder l D kA z v σ xs res := by
  intro hxs
  subst hxs
  obtain ⟨σf, rf, dd⟩ := res
  have h : (if (σ.1 25) = 300 then (lt_ (mI σ 3003 3) (fun u1 => lt_ (mI u1 3004 (σ.1 9)) (fun u2 => lt_ (mI u2 3000 1) (fun u3 => some (u3, 0, 0))))) else (if bin (σ.1 25) 300 = true then (lt_ (mA σ 21 (Int32.toNatClampNeg (σ.1 25)) (σ.1 9)) (fun σ1 => if bin (σ1.1 25) 300 = true then (lt_ (mA σ1 22 (Int32.toNatClampNeg (σ1.1 25)) (((σ1.1 10) : Int32) - (σ1.1 9))) (fun σ2 => if bin (σ2.1 25) 300 = true then (lt_ (mA σ2 24 (Int32.toNatClampNeg (σ2.1 25)) (vp_nar .boolean 0)) (fun σ3 => lt_ (mI σ3 25 (((σ3.1 25) : Int32) + 1)) (fun σ4 => lt_ (mI σ4 3000 0) (fun u => some (u, (σ3.1 25), 0))))) else none)) else none)) else none)) = some (σf, rf, dd) := h
  obtain ⟨o, ho⟩ : ∃ o, o = xo (σf, rf) := ⟨_, rfl⟩
  show xMi l D kA y_MM_binder b_MM_binder 1 .int (dd + 8) (48 * dd + 400) [.ref z] (mmW kA z v σ) z v σf (xo (σf, rf))
  rw [← ho]
  refine xMi.of (by decide +kernel) (Nat.le_of_ble_eq_true rfl) ?_
  intro p e s m args below meth c C hT
  have C : ax_C p s m args meth c b_MM_binder "ClauseProverModel" 1 (some .int) D kA (va_A (mmW kA z v σ) s.heap.size) := C
  obtain ⟨F, hFe⟩ : ∃ F, F = dd + 8 := ⟨_, rfl⟩
  obtain ⟨Lo, hLoe⟩ : ∃ Lo, Lo = 48 * dd + 400 := ⟨_, rfl⟩
  obtain ⟨σ0, hσ0⟩ : ∃ s0, s0 = σ := ⟨_, rfl⟩
  suffices K : AW p l e { frames := F, cells := xmc o, slots := xms o, locals := Lo } s m args below meth c D kA (va_A (mmW kA z v σ0) s.heap.size) 1 (xQi below args s D kA (mmW kA z v σ0) z v σf o) 0 [(0, .ref z)] [] (mmW kA z v σ) 0 0 by rw [hFe, hLoe, hσ0] at K; exact ax_ls ([(0, .ref z)]) [0] rfl K
  have C : ax_C p s m args meth c b_MM_binder "ClauseProverModel" 1 (some .int) D kA (va_A (mmW kA z v σ0) s.heap.size) := by rw [hσ0]; exact C
  have hT : XT o l e s m meth c (va_A (mmW kA z v σ0) s.heap.size) := by rw [hσ0]; exact hT
  have hF : dd + 8 ≤ F := by omega
  have hLo : 48 * dd + 400 ≤ Lo := by omega
  clear hFe hLoe hσ0
  refine ax_aload_n (pc := 0) C d_MM_binder_0 rfl 0 rfl ?_
  refine mg_90 (pc := 1) C d_MM_binder_1 ?_
  refine ax_sipush (pc := 4) C 300 d_MM_binder_4 (by decide +kernel) ?_
  refine ax_icmp_ne (pc := 7) C 23 d_MM_binder_7 (by decide) (fun hc => ?_) (fun hc => ?_)
  · have h := it_f hc h
    refine ax_aload_n (pc := 23) C d_MM_binder_23 rfl 0 rfl ?_
    refine mg_77 (pc := 24) C d_MM_binder_24 ?_
    refine ax_aload_n (pc := 27) C d_MM_binder_27 rfl 0 rfl ?_
    refine mg_90 (pc := 28) C d_MM_binder_28 ?_
    refine ax_aload_n (pc := 31) C d_MM_binder_31 rfl 0 rfl ?_
    refine mg_39 (pc := 32) C d_MM_binder_32 ?_
    obtain ⟨hb, h⟩ := it_g h
    refine ms_21 (pc := 35) C d_MM_binder_35 (bin_in hb) ?_
    have h := it_l h
    generalize mA σ 21 (Int32.toNatClampNeg (σ.1 25)) (σ.1 9) = σ1 at h ⊢
    refine ax_aload_n (pc := 36) C d_MM_binder_36 rfl 0 rfl ?_
    refine mg_80 (pc := 37) C d_MM_binder_37 ?_
    refine ax_aload_n (pc := 40) C d_MM_binder_40 rfl 0 rfl ?_
    refine mg_90 (pc := 41) C d_MM_binder_41 ?_
    refine ax_aload_n (pc := 44) C d_MM_binder_44 rfl 0 rfl ?_
    refine mg_42 (pc := 45) C d_MM_binder_45 ?_
    refine ax_aload_n (pc := 48) C d_MM_binder_48 rfl 0 rfl ?_
    refine mg_39 (pc := 49) C d_MM_binder_49 ?_
    refine ax_isub (pc := 52) C d_MM_binder_52 ?_
    obtain ⟨hb, h⟩ := it_g h
    refine ms_22 (pc := 53) C d_MM_binder_53 (bin_in hb) ?_
    have h := it_l h
    generalize mA σ1 22 (Int32.toNatClampNeg (σ1.1 25)) (((σ1.1 10) : Int32) - (σ1.1 9)) = σ2 at h ⊢
    refine ax_aload_n (pc := 54) C d_MM_binder_54 rfl 0 rfl ?_
    refine mg_86 (pc := 55) C d_MM_binder_55 ?_
    refine ax_aload_n (pc := 58) C d_MM_binder_58 rfl 0 rfl ?_
    refine mg_90 (pc := 59) C d_MM_binder_59 ?_
    refine ax_iconst (pc := 62) C 0 d_MM_binder_62 (by decide +kernel) ?_
    obtain ⟨hb, h⟩ := it_g h
    refine ms_24 (pc := 63) C d_MM_binder_63 (bin_in hb) ?_
    have h := it_l h
    generalize mA σ2 24 (Int32.toNatClampNeg (σ2.1 25)) (vp_nar .boolean 0) = σ3 at h ⊢
    refine ax_aload_n (pc := 64) C d_MM_binder_64 rfl 0 rfl ?_
    refine ax_dup (pc := 65) C d_MM_binder_65 rfl ?_
    refine mg_90 (pc := 66) C d_MM_binder_66 ?_
    refine ax_dup_x1 (pc := 69) C d_MM_binder_69 rfl rfl ?_
    refine ax_iconst (pc := 70) C 1 d_MM_binder_70 (by decide +kernel) ?_
    refine ax_iadd (pc := 71) C d_MM_binder_71 ?_
    refine mp_90 (pc := 72) C d_MM_binder_72 ?_
    have h := it_l h
    generalize mI σ3 25 (((σ3.1 25) : Int32) + 1) = σ4 at h ⊢
    have h := it_l h
    cases h
    exact xr_iret (pc := 75) C ho d_MM_binder_75
  · have h := it_t hc h
    have h := it_l (it_l (it_l h))
    cases h
    obtain rfl : o = xWr 3 (σ.1 9) := ho.trans (xo_wrong _ _ _)
    obtain ⟨hT1, hX⟩ := hT rfl
    refine mx_new8 (pc := 10) C (Nat.le_of_ble_eq_true rfl) (Nat.le_of_ble_eq_true rfl) d_MM_binder_10 (fun q => ?_)
    refine ax_dup (pc := 13) C d_MM_binder_13 rfl ?_
    refine ax_iconst (pc := 14) C 3 d_MM_binder_14 (by decide +kernel) ?_
    refine ax_aload_n (pc := 15) C d_MM_binder_15 rfl 0 rfl ?_
    refine mgx_39 (pc := 16) C d_MM_binder_16 ?_
    refine mx_initW (pc := 19) C hX d_MM_binder_19 (Nat.le_of_ble_eq_true rfl) (by dsimp only; omega) (by dsimp only; omega) (Nat.le_of_ble_eq_true rfl) (Nat.le_of_ble_eq_true rfl) ?_
    exact xr_Wi (pc := 22) C (xt_none hT1 _) d_MM_binder_22 (Nat.le_of_ble_eq_true rfl) (Nat.le_of_ble_eq_true rfl)
set_option maxHeartbeats 4000000 in
set_option maxRecDepth 100000 in
theorem oX_must (l : Launch) (D : va_G) (kA : Nat → ClassId) (z : Nat) (v : Nat → Nat) (rec rex : mF) (ih : ∀ t σ xs res, rec t σ xs = some res → mSem l D kA z v t σ xs res) (ihx : ∀ t σ xs res, rex t σ xs = some res → xSem l D kA z v t σ xs res) (σ : mS) (xs : List Int32) (res : mR) (h : u_1 (kX_must rec rex σ) xs = some res) : sX_must l D kA z v σ xs res := by
  intro x0 hxs
  subst hxs
  obtain ⟨σf, rf, dd⟩ := res
  have h : (bnd (rec tM_peek σ []) (fun σ1 r1 => if r1 = x0 then (bnd (rec tM_take σ1 []) (fun σ2 r2 => lt_ (mI σ2 3000 0) (fun u => some (u, 0, 0)))) else (if σ1.1 8 = 304 then (lt_ (mI σ1 3003 3) (fun u1 => lt_ (mI u1 3004 (σ1.1 9)) (fun u2 => lt_ (mI u2 3000 1) (fun u3 => some (u3, 0, 0))))) else (lt_ (mI σ1 3003 1) (fun u1 => lt_ (mI u1 3004 (σ1.1 9)) (fun u2 => lt_ (mI u2 3000 1) (fun u3 => some (u3, 0, 0)))))))) = some (σf, rf, dd) := h
  obtain ⟨o, ho⟩ : ∃ o, o = xo (σf, rf) := ⟨_, rfl⟩
  show xMv l D kA y_MM_must b_MM_must 2 (dd + 8) (48 * dd + 400) [.ref z, .int x0] (mmW kA z v σ) z v σf (xo (σf, rf))
  rw [← ho]
  refine xMv.of (by decide +kernel) (Nat.le_of_ble_eq_true rfl) ?_
  intro p e s m args below meth c C hT
  have C : ax_C p s m args meth c b_MM_must "ClauseProverModel" 2 none D kA (va_A (mmW kA z v σ) s.heap.size) := C
  obtain ⟨F, hFe⟩ : ∃ F, F = dd + 8 := ⟨_, rfl⟩
  obtain ⟨Lo, hLoe⟩ : ∃ Lo, Lo = 48 * dd + 400 := ⟨_, rfl⟩
  obtain ⟨σ0, hσ0⟩ : ∃ s0, s0 = σ := ⟨_, rfl⟩
  suffices K : AW p l e { frames := F, cells := xmc o, slots := xms o, locals := Lo } s m args below meth c D kA (va_A (mmW kA z v σ0) s.heap.size) 2 (xQv below args s D kA (mmW kA z v σ0) z v σf o) 0 [(0, .ref z), (1, .int x0)] [] (mmW kA z v σ) 0 0 by rw [hFe, hLoe, hσ0] at K; exact ax_ls ([(0, .ref z), (1, .int x0)]) [0, 1] rfl K
  have C : ax_C p s m args meth c b_MM_must "ClauseProverModel" 2 none D kA (va_A (mmW kA z v σ0) s.heap.size) := by rw [hσ0]; exact C
  have hT : XT o l e s m meth c (va_A (mmW kA z v σ0) s.heap.size) := by rw [hσ0]; exact hT
  have hF : dd + 8 ≤ F := by omega
  have hLo : 48 * dd + 400 ≤ Lo := by omega
  clear hFe hLoe hσ0
  refine ax_aload_n (pc := 0) C d_MM_must_0 rfl 0 rfl ?_
  obtain ⟨σ1, r1, d1_1, d2_1, h1, h, hd2, hd1⟩ := it_b h
  have hm : sM_peek l D kA z v σ [] (σ1, r1, d1_1) := ih tM_peek _ _ _ h1
  refine mc_Vi (pc := 1) C (As := []) (rest := []) (hm rfl) ml_MM_422 d_MM_must_1 rfl rfl (by dsimp only; omega) (by dsimp only; omega) (Nat.zero_le _) (Nat.zero_le _) (Nat.le_of_ble_eq_true rfl) ?_
  have hF : d2_1 + 8 ≤ F := by omega
  have hLo : 48 * d2_1 + 400 ≤ Lo := by omega
  refine ax_iload_n (pc := 4) C d_MM_must_4 rfl 1 rfl ?_
  refine ax_icmp_eq (pc := 5) C 13 d_MM_must_5 (by decide) (fun hc => ?_) (fun hc => ?_)
  · have h := it_t hc h
    refine ax_aload_n (pc := 13) C d_MM_must_13 rfl 0 rfl ?_
    obtain ⟨σ2, r2, d1_2, d2_2, h1, h, hd2, hd1⟩ := it_b h
    have hm : sM_take l D kA z v σ1 [] (σ2, r2, d1_2) := ih tM_take _ _ _ h1
    refine mc_Vv (pc := 14) C (As := []) (rest := []) (hm rfl) ml_MM_435 d_MM_must_14 rfl rfl (by dsimp only; omega) (by dsimp only; omega) (Nat.zero_le _) (Nat.zero_le _) (Nat.le_of_ble_eq_true rfl) ?_
    have hF : d2_2 + 8 ≤ F := by omega
    have hLo : 48 * d2_2 + 400 ≤ Lo := by omega
    have h := it_l h
    cases h
    exact xr_vret (pc := 17) C ho d_MM_must_17
  · have h := it_f hc h
    refine ax_aload_n (pc := 8) C d_MM_must_8 rfl 0 rfl ?_
    by_cases hq : σ1.1 8 = 304
    · have h := it_t hq h
      have h := it_l (it_l (it_l h))
      cases h
      obtain rfl : o = xWr 3 (σ1.1 9) := ho.trans (xo_wrong _ _ _)
      obtain ⟨hT1, hX⟩ := hT rfl
      refine mx_cant3 (pc := 9) C (rest := []) hX hq ml_MM_431 d_MM_must_9 (Nat.le_of_ble_eq_true rfl) (by dsimp only; omega) (by dsimp only; omega) (Nat.le_of_ble_eq_true rfl) (Nat.le_of_ble_eq_true rfl) (fun q => ?_)
      exact xr_Wv (pc := 12) C (xt_none hT1 _) d_MM_must_12 (Nat.le_of_ble_eq_true rfl) (Nat.le_of_ble_eq_true rfl)
    · have h := it_f hq h
      have h := it_l (it_l (it_l h))
      cases h
      obtain rfl : o = xWr 1 (σ1.1 9) := ho.trans (xo_wrong _ _ _)
      obtain ⟨hT1, hX⟩ := hT rfl
      refine mx_cant1 (pc := 9) C (rest := []) hX hq ml_MM_431 d_MM_must_9 (Nat.le_of_ble_eq_true rfl) (by dsimp only; omega) (by dsimp only; omega) (Nat.le_of_ble_eq_true rfl) (Nat.le_of_ble_eq_true rfl) (fun q => ?_)
      exact xr_Wv (pc := 12) C (xt_none hT1 _) d_MM_must_12 (Nat.le_of_ble_eq_true rfl) (Nat.le_of_ble_eq_true rfl)
set_option maxHeartbeats 4000000 in
set_option maxRecDepth 100000 in
theorem oX_atom1 (l : Launch) (D : va_G) (kA : Nat → ClassId) (z : Nat) (v : Nat → Nat) (rec rex : mF) (ih : ∀ t σ xs res, rec t σ xs = some res → mSem l D kA z v t σ xs res) (ihx : ∀ t σ xs res, rex t σ xs = some res → xSem l D kA z v t σ xs res) (σ : mS) (xs : List Int32) (res : mR) (h : u_1 (kX_atom1 rec rex σ) xs = some res) : sX_atom1 l D kA z v σ xs res := by
  intro x0 hxs
  subst hxs
  obtain ⟨σf, rf, dd⟩ := res
  have h : (bnd (rec tM_peek σ []) (fun σ1 r1 => if r1 = 1 then (bnd (rex tX_variable σ1 []) (fun σ6 r6 => if σ6.1 3000 = 0 then (bnd (rec tM_take σ6 []) (fun σ7 r7 => bnd (rec tM_term σ7 [(((-1) : Int32) - r6), (-1)]) (fun σ8 r8 => bnd (rec tM_peek σ8 []) (fun σ9 r9 => if r9 = 61 then (rex tX_atom1_50 σ9 [x0, r6, r8]) else (bnd (rec tM_peek σ9 []) (fun σ10 r10 => if r10 = 300 then (rex tX_atom1_50 σ10 [x0, r6, r8]) else (if σ10.1 8 = 304 then (lt_ (mI σ10 3003 3) (fun u1 => lt_ (mI u1 3004 (σ10.1 9)) (fun u2 => lt_ (mI u2 3000 1) (fun u3 => some (u3, 0, 0))))) else (lt_ (mI σ10 3003 1) (fun u1 => lt_ (mI u1 3004 (σ10.1 9)) (fun u2 => lt_ (mI u2 3000 1) (fun u3 => some (u3, 0, 0)))))))))))) else (some (σ6, 0, 0)))) else (bnd (rex tX_symbol1 σ1 []) (fun σ2 r2 => if σ2.1 3000 = 0 then (bnd (rec tM_take σ2 []) (fun σ3 r3 => bnd (rec tM_peek σ3 []) (fun σ4 r4 => if r4 = 40 then (bnd (rex tX_arguments σ4 [x0]) (fun σ5 r5 => if σ5.1 3000 = 0 then (rex tX_atom1_89 σ5 [x0, (σ1.1 9), r2, r5]) else (some (σ5, 0, 0)))) else (rex tX_atom1_89 σ4 [x0, (σ1.1 9), r2, (-1)])))) else (some (σ2, 0, 0)))))) = some (σf, rf, dd) := h
  obtain ⟨o, ho⟩ : ∃ o, o = xo (σf, rf) := ⟨_, rfl⟩
  show xMi l D kA y_MM_atom1 b_MM_atom1 7 .int (dd + 8) (48 * dd + 400) [.ref z, .int x0] (mmW kA z v σ) z v σf (xo (σf, rf))
  rw [← ho]
  refine xMi.of (by decide +kernel) (Nat.le_of_ble_eq_true rfl) ?_
  intro p e s m args below meth c C hT
  have C : ax_C p s m args meth c b_MM_atom1 "ClauseProverModel" 7 (some .int) D kA (va_A (mmW kA z v σ) s.heap.size) := C
  obtain ⟨F, hFe⟩ : ∃ F, F = dd + 8 := ⟨_, rfl⟩
  obtain ⟨Lo, hLoe⟩ : ∃ Lo, Lo = 48 * dd + 400 := ⟨_, rfl⟩
  obtain ⟨σ0, hσ0⟩ : ∃ s0, s0 = σ := ⟨_, rfl⟩
  suffices K : AW p l e { frames := F, cells := xmc o, slots := xms o, locals := Lo } s m args below meth c D kA (va_A (mmW kA z v σ0) s.heap.size) 7 (xQi below args s D kA (mmW kA z v σ0) z v σf o) 0 [(0, .ref z), (1, .int x0)] [] (mmW kA z v σ) 0 0 by rw [hFe, hLoe, hσ0] at K; exact ax_ls ([(0, .ref z), (1, .int x0)]) [0, 1] rfl K
  have C : ax_C p s m args meth c b_MM_atom1 "ClauseProverModel" 7 (some .int) D kA (va_A (mmW kA z v σ0) s.heap.size) := by rw [hσ0]; exact C
  have hT : XT o l e s m meth c (va_A (mmW kA z v σ0) s.heap.size) := by rw [hσ0]; exact hT
  have hF : dd + 8 ≤ F := by omega
  have hLo : 48 * dd + 400 ≤ Lo := by omega
  clear hFe hLoe hσ0
  refine ax_aload_n (pc := 0) C d_MM_atom1_0 rfl 0 rfl ?_
  obtain ⟨σ1, r1, d1_1, d2_1, h1, h, hd2, hd1⟩ := it_b h
  have hm : sM_peek l D kA z v σ [] (σ1, r1, d1_1) := ih tM_peek _ _ _ h1
  refine mc_Vi (pc := 1) C (As := []) (rest := []) (hm rfl) ml_MM_422 d_MM_atom1_1 rfl rfl (by dsimp only; omega) (by dsimp only; omega) (Nat.zero_le _) (Nat.zero_le _) (Nat.le_of_ble_eq_true rfl) ?_
  have hF : d2_1 + 8 ≤ F := by omega
  have hLo : 48 * d2_1 + 400 ≤ Lo := by omega
  refine ax_iconst (pc := 4) C 1 d_MM_atom1_4 (by decide +kernel) ?_
  refine ax_icmp_ne (pc := 5) C 57 d_MM_atom1_5 (by decide) (fun hc => ?_) (fun hc => ?_)
  · have h := it_f hc h
    refine ax_aload_n (pc := 57) C d_MM_atom1_57 rfl 0 rfl ?_
    refine mg_39 (pc := 58) C d_MM_atom1_58 ?_
    refine ax_istore_n (pc := 61) C d_MM_atom1_61 rfl (Nat.le_of_ble_eq_true rfl) ([(2, .int (σ1.1 9)), (0, .ref z), (1, .int x0)]) rfl ?_
    refine ax_aload_n (pc := 62) C d_MM_atom1_62 rfl 1 rfl ?_
    obtain ⟨σ2, r2, d1_2, d2_2, h1, h, hd2, hd1⟩ := it_b h
    have hm : sX_symbol1 l D kA z v σ1 [] (σ2, r2, d1_2) := ihx tX_symbol1 _ _ _ h1
    by_cases hq : σ2.1 3000 = 0
    · have h := it_t hq h
      refine mcx_Vi (pc := 63) C (As := []) (rest := []) (hm rfl) hq ml_MM_495 d_MM_atom1_63 rfl rfl (by dsimp only; omega) (by dsimp only; omega) (Nat.zero_le _) (Nat.zero_le _) (Nat.le_of_ble_eq_true rfl) ?_
      have hF : d2_2 + 8 ≤ F := by omega
      have hLo : 48 * d2_2 + 400 ≤ Lo := by omega
      refine ax_istore_n (pc := 66) C d_MM_atom1_66 rfl (Nat.le_of_ble_eq_true rfl) ([(3, .int r2), (2, .int (σ1.1 9)), (0, .ref z), (1, .int x0)]) rfl ?_
      refine ax_aload_n (pc := 67) C d_MM_atom1_67 rfl 2 rfl ?_
      obtain ⟨σ3, r3, d1_3, d2_3, h1, h, hd2, hd1⟩ := it_b h
      have hm : sM_take l D kA z v σ2 [] (σ3, r3, d1_3) := ih tM_take _ _ _ h1
      refine mc_Vv (pc := 68) C (As := []) (rest := []) (hm rfl) ml_MM_435 d_MM_atom1_68 rfl rfl (by dsimp only; omega) (by dsimp only; omega) (Nat.zero_le _) (Nat.zero_le _) (Nat.le_of_ble_eq_true rfl) ?_
      have hF : d2_3 + 8 ≤ F := by omega
      have hLo : 48 * d2_3 + 400 ≤ Lo := by omega
      refine ax_aload_n (pc := 71) C d_MM_atom1_71 rfl 2 rfl ?_
      obtain ⟨σ4, r4, d1_4, d2_4, h1, h, hd2, hd1⟩ := it_b h
      have hm : sM_peek l D kA z v σ3 [] (σ4, r4, d1_4) := ih tM_peek _ _ _ h1
      refine mc_Vi (pc := 72) C (As := []) (rest := []) (hm rfl) ml_MM_422 d_MM_atom1_72 rfl rfl (by dsimp only; omega) (by dsimp only; omega) (Nat.zero_le _) (Nat.zero_le _) (Nat.le_of_ble_eq_true rfl) ?_
      have hF : d2_4 + 8 ≤ F := by omega
      have hLo : 48 * d2_4 + 400 ≤ Lo := by omega
      refine ax_bipush (pc := 75) C 40 d_MM_atom1_75 (by decide +kernel) ?_
      refine ax_icmp_ne (pc := 77) C 88 d_MM_atom1_77 (by decide) (fun hc => ?_) (fun hc => ?_)
      · have h := it_f hc h
        refine ax_iconst (pc := 88) C (-1) d_MM_atom1_88 (by decide +kernel) ?_
        refine ax_ls ([(0, .ref z), (1, .int x0), (2, .int (σ1.1 9)), (3, .int r2)]) [2, 3, 1, 0] rfl ?_
        have hm : sX_atom1_89 l D kA z v σ4 [x0, (σ1.1 9), r2, (-1)] (σf, rf, _) := ihx tX_atom1_89 _ _ _ h
        subst ho
        exact hm _ _ _ _ rfl p e s m args below meth c F Lo σ0 hF hLo C hT
      · have h := it_t hc h
        refine ax_aload_n (pc := 80) C d_MM_atom1_80 rfl 2 rfl ?_
        refine ax_iload_n (pc := 81) C d_MM_atom1_81 rfl 3 rfl ?_
        obtain ⟨σ5, r5, d1_5, d2_5, h1, h, hd2, hd1⟩ := it_b h
        have hm : sX_arguments l D kA z v σ4 [x0] (σ5, r5, d1_5) := ihx tX_arguments _ _ _ h1
        by_cases hq : σ5.1 3000 = 0
        · have h := it_t hq h
          refine mcx_Vi (pc := 82) C (As := [.int x0]) (rest := []) (hm _ rfl) hq ml_MM_498 d_MM_atom1_82 rfl rfl (by dsimp only; omega) (by dsimp only; omega) (Nat.zero_le _) (Nat.zero_le _) (Nat.le_of_ble_eq_true rfl) ?_
          have hF : d2_5 + 8 ≤ F := by omega
          have hLo : 48 * d2_5 + 400 ≤ Lo := by omega
          refine ax_goto (pc := 85) C 89 d_MM_atom1_85 (by decide) ?_
          refine ax_ls ([(0, .ref z), (1, .int x0), (2, .int (σ1.1 9)), (3, .int r2)]) [2, 3, 1, 0] rfl ?_
          have hm : sX_atom1_89 l D kA z v σ5 [x0, (σ1.1 9), r2, r5] (σf, rf, _) := ihx tX_atom1_89 _ _ _ h
          subst ho
          exact hm _ _ _ _ rfl p e s m args below meth c F Lo σ0 hF hLo C hT
        · have h := it_f hq h
          cases h
          obtain ⟨hT1, hX⟩ := hT (by rw [ho]; exact xo_thr hq)
          rw [xQi_thr (by rw [ho]; exact xo_thr hq)]
          exact mcx_P (pc := 82) C (As := [.int x0]) (rest := []) hX (xt_none hT1 _) ho hq (xMi_thr hq (hm _ rfl)) ml_MM_498 d_MM_atom1_82 rfl rfl (by dsimp only; omega) (by dsimp only; omega) (Nat.le_of_ble_eq_true rfl)
    · have h := it_f hq h
      cases h
      obtain ⟨hT1, hX⟩ := hT (by rw [ho]; exact xo_thr hq)
      rw [xQi_thr (by rw [ho]; exact xo_thr hq)]
      exact mcx_P (pc := 63) C (As := []) (rest := []) hX (xt_none hT1 _) ho hq (xMi_thr hq (hm rfl)) ml_MM_495 d_MM_atom1_63 rfl rfl (by dsimp only; omega) (by dsimp only; omega) (Nat.le_of_ble_eq_true rfl)
  · have h := it_t hc h
    refine ax_aload_n (pc := 8) C d_MM_atom1_8 rfl 0 rfl ?_
    obtain ⟨σ6, r6, d1_6, d2_6, h1, h, hd2, hd1⟩ := it_b h
    have hm : sX_variable l D kA z v σ1 [] (σ6, r6, d1_6) := ihx tX_variable _ _ _ h1
    by_cases hq : σ6.1 3000 = 0
    · have h := it_t hq h
      refine mcx_Vi (pc := 9) C (As := []) (rest := []) (hm rfl) hq ml_MM_486 d_MM_atom1_9 rfl rfl (by dsimp only; omega) (by dsimp only; omega) (Nat.zero_le _) (Nat.zero_le _) (Nat.le_of_ble_eq_true rfl) ?_
      have hF : d2_6 + 8 ≤ F := by omega
      have hLo : 48 * d2_6 + 400 ≤ Lo := by omega
      refine ax_istore_n (pc := 12) C d_MM_atom1_12 rfl (Nat.le_of_ble_eq_true rfl) ([(2, .int r6), (0, .ref z), (1, .int x0)]) rfl ?_
      refine ax_aload_n (pc := 13) C d_MM_atom1_13 rfl 1 rfl ?_
      obtain ⟨σ7, r7, d1_7, d2_7, h1, h, hd2, hd1⟩ := it_b h
      have hm : sM_take l D kA z v σ6 [] (σ7, r7, d1_7) := ih tM_take _ _ _ h1
      refine mc_Vv (pc := 14) C (As := []) (rest := []) (hm rfl) ml_MM_435 d_MM_atom1_14 rfl rfl (by dsimp only; omega) (by dsimp only; omega) (Nat.zero_le _) (Nat.zero_le _) (Nat.le_of_ble_eq_true rfl) ?_
      have hF : d2_7 + 8 ≤ F := by omega
      have hLo : 48 * d2_7 + 400 ≤ Lo := by omega
      refine ax_aload_n (pc := 17) C d_MM_atom1_17 rfl 1 rfl ?_
      refine ax_iconst (pc := 18) C (-1) d_MM_atom1_18 (by decide +kernel) ?_
      refine ax_iload_n (pc := 19) C d_MM_atom1_19 rfl 0 rfl ?_
      refine ax_isub (pc := 20) C d_MM_atom1_20 ?_
      refine ax_iconst (pc := 21) C (-1) d_MM_atom1_21 (by decide +kernel) ?_
      obtain ⟨σ8, r8, d1_8, d2_8, h1, h, hd2, hd1⟩ := it_b h
      have hm : sM_term l D kA z v σ7 [(((-1) : Int32) - r6), (-1)] (σ8, r8, d1_8) := ih tM_term _ _ _ h1
      refine mc_Vi (pc := 22) C (As := [.int (((-1) : Int32) - r6), .int (-1)]) (rest := []) (hm _ _ rfl) ml_MM_489 d_MM_atom1_22 rfl rfl (by dsimp only; omega) (by dsimp only; omega) (Nat.zero_le _) (Nat.zero_le _) (Nat.le_of_ble_eq_true rfl) ?_
      have hF : d2_8 + 8 ≤ F := by omega
      have hLo : 48 * d2_8 + 400 ≤ Lo := by omega
      refine ax_istore_n (pc := 25) C d_MM_atom1_25 rfl (Nat.le_of_ble_eq_true rfl) ([(3, .int r8), (2, .int r6), (0, .ref z), (1, .int x0)]) rfl ?_
      refine ax_aload_n (pc := 26) C d_MM_atom1_26 rfl 2 rfl ?_
      obtain ⟨σ9, r9, d1_9, d2_9, h1, h, hd2, hd1⟩ := it_b h
      have hm : sM_peek l D kA z v σ8 [] (σ9, r9, d1_9) := ih tM_peek _ _ _ h1
      refine mc_Vi (pc := 27) C (As := []) (rest := []) (hm rfl) ml_MM_422 d_MM_atom1_27 rfl rfl (by dsimp only; omega) (by dsimp only; omega) (Nat.zero_le _) (Nat.zero_le _) (Nat.le_of_ble_eq_true rfl) ?_
      have hF : d2_9 + 8 ≤ F := by omega
      have hLo : 48 * d2_9 + 400 ≤ Lo := by omega
      refine ax_bipush (pc := 30) C 61 d_MM_atom1_30 (by decide +kernel) ?_
      refine ax_icmp_eq (pc := 32) C 50 d_MM_atom1_32 (by decide) (fun hc => ?_) (fun hc => ?_)
      · have h := it_t hc h
        refine ax_ls ([(0, .ref z), (1, .int x0), (2, .int r6), (3, .int r8)]) [2, 3, 1, 0] rfl ?_
        have hm : sX_atom1_50 l D kA z v σ9 [x0, r6, r8] (σf, rf, _) := ihx tX_atom1_50 _ _ _ h
        subst ho
        exact hm _ _ _ rfl p e s m args below meth c F Lo σ0 hF hLo C hT
      · have h := it_f hc h
        refine ax_aload_n (pc := 35) C d_MM_atom1_35 rfl 2 rfl ?_
        obtain ⟨σ10, r10, d1_10, d2_10, h1, h, hd2, hd1⟩ := it_b h
        have hm : sM_peek l D kA z v σ9 [] (σ10, r10, d1_10) := ih tM_peek _ _ _ h1
        refine mc_Vi (pc := 36) C (As := []) (rest := []) (hm rfl) ml_MM_422 d_MM_atom1_36 rfl rfl (by dsimp only; omega) (by dsimp only; omega) (Nat.zero_le _) (Nat.zero_le _) (Nat.le_of_ble_eq_true rfl) ?_
        have hF : d2_10 + 8 ≤ F := by omega
        have hLo : 48 * d2_10 + 400 ≤ Lo := by omega
        refine ax_sipush (pc := 39) C 300 d_MM_atom1_39 (by decide +kernel) ?_
        refine ax_icmp_eq (pc := 42) C 50 d_MM_atom1_42 (by decide) (fun hc => ?_) (fun hc => ?_)
        · have h := it_t hc h
          refine ax_ls ([(0, .ref z), (1, .int x0), (2, .int r6), (3, .int r8)]) [2, 3, 1, 0] rfl ?_
          have hm : sX_atom1_50 l D kA z v σ10 [x0, r6, r8] (σf, rf, _) := ihx tX_atom1_50 _ _ _ h
          subst ho
          exact hm _ _ _ rfl p e s m args below meth c F Lo σ0 hF hLo C hT
        · have h := it_f hc h
          refine ax_aload_n (pc := 45) C d_MM_atom1_45 rfl 2 rfl ?_
          by_cases hq : σ10.1 8 = 304
          · have h := it_t hq h
            have h := it_l (it_l (it_l h))
            cases h
            obtain rfl : o = xWr 3 (σ10.1 9) := ho.trans (xo_wrong _ _ _)
            obtain ⟨hT1, hX⟩ := hT rfl
            refine mx_cant3 (pc := 46) C (rest := []) hX hq ml_MM_431 d_MM_atom1_46 (Nat.le_of_ble_eq_true rfl) (by dsimp only; omega) (by dsimp only; omega) (Nat.le_of_ble_eq_true rfl) (Nat.le_of_ble_eq_true rfl) (fun q => ?_)
            exact xr_Wi (pc := 49) C (xt_none hT1 _) d_MM_atom1_49 (Nat.le_of_ble_eq_true rfl) (Nat.le_of_ble_eq_true rfl)
          · have h := it_f hq h
            have h := it_l (it_l (it_l h))
            cases h
            obtain rfl : o = xWr 1 (σ10.1 9) := ho.trans (xo_wrong _ _ _)
            obtain ⟨hT1, hX⟩ := hT rfl
            refine mx_cant1 (pc := 46) C (rest := []) hX hq ml_MM_431 d_MM_atom1_46 (Nat.le_of_ble_eq_true rfl) (by dsimp only; omega) (by dsimp only; omega) (Nat.le_of_ble_eq_true rfl) (Nat.le_of_ble_eq_true rfl) (fun q => ?_)
            exact xr_Wi (pc := 49) C (xt_none hT1 _) d_MM_atom1_49 (Nat.le_of_ble_eq_true rfl) (Nat.le_of_ble_eq_true rfl)
    · have h := it_f hq h
      cases h
      obtain ⟨hT1, hX⟩ := hT (by rw [ho]; exact xo_thr hq)
      rw [xQi_thr (by rw [ho]; exact xo_thr hq)]
      exact mcx_P (pc := 9) C (As := []) (rest := []) hX (xt_none hT1 _) ho hq (xMi_thr hq (hm rfl)) ml_MM_486 d_MM_atom1_9 rfl rfl (by dsimp only; omega) (by dsimp only; omega) (Nat.le_of_ble_eq_true rfl)
set_option maxHeartbeats 4000000 in
set_option maxRecDepth 100000 in
theorem oX_atom1_50 (l : Launch) (D : va_G) (kA : Nat → ClassId) (z : Nat) (v : Nat → Nat) (rec rex : mF) (ih : ∀ t σ xs res, rec t σ xs = some res → mSem l D kA z v t σ xs res) (ihx : ∀ t σ xs res, rex t σ xs = some res → xSem l D kA z v t σ xs res) (σ : mS) (xs : List Int32) (res : mR) (h : u_3 (kX_atom1_50 rec rex σ) xs = some res) : sX_atom1_50 l D kA z v σ xs res := by
  intro x0 x1 x2 hxs
  subst hxs
  obtain ⟨σf, rf, dd⟩ := res
  have h : (bnd (rex tX_equation σ [x2, x0]) (fun σ1 r1 => if σ1.1 3000 = 0 then (lt_ (mI σ1 3000 0) (fun u => some (u, r1, 0))) else (some (σ1, 0, 0)))) = some (σf, rf, dd) := h
  intro p e s m args below meth c F Lo σ0 hF hLo C hT
  dsimp only at hF hLo hT ⊢
  obtain ⟨o, ho⟩ : ∃ o, o = xo (σf, rf) := ⟨_, rfl⟩
  rw [← ho] at hT ⊢
  refine ax_aload_n (pc := 50) C d_MM_atom1_50 rfl 0 rfl ?_
  refine ax_iload_n (pc := 51) C d_MM_atom1_51 rfl 3 rfl ?_
  refine ax_iload_n (pc := 52) C d_MM_atom1_52 rfl 1 rfl ?_
  obtain ⟨σ1, r1, d1_1, d2_1, h1, h, hd2, hd1⟩ := it_b h
  have hm : sX_equation l D kA z v σ [x2, x0] (σ1, r1, d1_1) := ihx tX_equation _ _ _ h1
  by_cases hq : σ1.1 3000 = 0
  · have h := it_t hq h
    refine mcx_Vi (pc := 53) C (As := [.int x2, .int x0]) (rest := []) (hm _ _ rfl) hq ml_MM_492 d_MM_atom1_53 rfl rfl (by dsimp only; omega) (by dsimp only; omega) (Nat.zero_le _) (Nat.zero_le _) (Nat.le_of_ble_eq_true rfl) ?_
    have hF : d2_1 + 8 ≤ F := by omega
    have hLo : 48 * d2_1 + 400 ≤ Lo := by omega
    have h := it_l h
    cases h
    exact xr_iret (pc := 56) C ho d_MM_atom1_56
  · have h := it_f hq h
    cases h
    obtain ⟨hT1, hX⟩ := hT (by rw [ho]; exact xo_thr hq)
    rw [xQi_thr (by rw [ho]; exact xo_thr hq)]
    exact mcx_P (pc := 53) C (As := [.int x2, .int x0]) (rest := []) hX (xt_none hT1 _) ho hq (xMi_thr hq (hm _ _ rfl)) ml_MM_492 d_MM_atom1_53 rfl rfl (by dsimp only; omega) (by dsimp only; omega) (Nat.le_of_ble_eq_true rfl)
set_option maxHeartbeats 4000000 in
set_option maxRecDepth 100000 in
theorem oX_atom1_89 (l : Launch) (D : va_G) (kA : Nat → ClassId) (z : Nat) (v : Nat → Nat) (rec rex : mF) (ih : ∀ t σ xs res, rec t σ xs = some res → mSem l D kA z v t σ xs res) (ihx : ∀ t σ xs res, rex t σ xs = some res → xSem l D kA z v t σ xs res) (σ : mS) (xs : List Int32) (res : mR) (h : u_4 (kX_atom1_89 rec rex σ) xs = some res) : sX_atom1_89 l D kA z v σ xs res := by
  intro x0 x1 x2 x3 hxs
  subst hxs
  obtain ⟨σf, rf, dd⟩ := res
  have h : (bnd (rec tM_length σ [x3]) (fun σ1 r1 => bnd (rec tM_peek σ1 []) (fun σ2 r2 => if r2 = 61 then (rex tX_atom1_122 σ2 [x0, x1, x2, x3, r1, r2, x2]) else (if r2 = 300 then (rex tX_atom1_122 σ2 [x0, x1, x2, x3, r1, r2, x2]) else (rex tX_atom1_127 σ2 [x0, x1, x2, x3, r1, r2, 1, x2]))))) = some (σf, rf, dd) := h
  intro p e s m args below meth c F Lo σ0 hF hLo C hT
  dsimp only at hF hLo hT ⊢
  obtain ⟨o, ho⟩ : ∃ o, o = xo (σf, rf) := ⟨_, rfl⟩
  rw [← ho] at hT ⊢
  refine ax_istore (pc := 89) C d_MM_atom1_89 (Nat.le_of_ble_eq_true rfl) ([(4, .int x3), (0, .ref z), (1, .int x0), (2, .int x1), (3, .int x2)]) rfl ?_
  refine ax_aload_n (pc := 91) C d_MM_atom1_91 rfl 1 rfl ?_
  refine ax_iload (pc := 92) C d_MM_atom1_92 0 rfl ?_
  obtain ⟨σ1, r1, d1_1, d2_1, h1, h, hd2, hd1⟩ := it_b h
  have hm : sM_length l D kA z v σ [x3] (σ1, r1, d1_1) := ih tM_length _ _ _ h1
  refine mc_Vi (pc := 94) C (As := [.int x3]) (rest := []) (hm _ rfl) ml_MM_501 d_MM_atom1_94 rfl rfl (by dsimp only; omega) (by dsimp only; omega) (Nat.zero_le _) (Nat.zero_le _) (Nat.le_of_ble_eq_true rfl) ?_
  have hF : d2_1 + 8 ≤ F := by omega
  have hLo : 48 * d2_1 + 400 ≤ Lo := by omega
  refine ax_istore (pc := 97) C d_MM_atom1_97 (Nat.le_of_ble_eq_true rfl) ([(5, .int r1), (4, .int x3), (0, .ref z), (1, .int x0), (2, .int x1), (3, .int x2)]) rfl ?_
  refine ax_aload_n (pc := 99) C d_MM_atom1_99 rfl 2 rfl ?_
  obtain ⟨σ2, r2, d1_2, d2_2, h1, h, hd2, hd1⟩ := it_b h
  have hm : sM_peek l D kA z v σ1 [] (σ2, r2, d1_2) := ih tM_peek _ _ _ h1
  refine mc_Vi (pc := 100) C (As := []) (rest := []) (hm rfl) ml_MM_422 d_MM_atom1_100 rfl rfl (by dsimp only; omega) (by dsimp only; omega) (Nat.zero_le _) (Nat.zero_le _) (Nat.le_of_ble_eq_true rfl) ?_
  have hF : d2_2 + 8 ≤ F := by omega
  have hLo : 48 * d2_2 + 400 ≤ Lo := by omega
  refine ax_istore (pc := 103) C d_MM_atom1_103 (Nat.le_of_ble_eq_true rfl) ([(6, .int r2), (5, .int r1), (4, .int x3), (0, .ref z), (1, .int x0), (2, .int x1), (3, .int x2)]) rfl ?_
  refine ax_aload_n (pc := 105) C d_MM_atom1_105 rfl 3 rfl ?_
  refine ax_iload_n (pc := 106) C d_MM_atom1_106 rfl 6 rfl ?_
  refine ax_iload (pc := 107) C d_MM_atom1_107 0 rfl ?_
  refine ax_bipush (pc := 109) C 61 d_MM_atom1_109 (by decide +kernel) ?_
  refine ax_icmp_eq (pc := 111) C 122 d_MM_atom1_111 (by decide) (fun hc => ?_) (fun hc => ?_)
  · have h := it_t hc h
    refine ax_ls ([(0, .ref z), (1, .int x0), (2, .int x1), (3, .int x2), (4, .int x3), (5, .int r1), (6, .int r2)]) [3, 4, 5, 6, 2, 1, 0] rfl ?_
    have hm : sX_atom1_122 l D kA z v σ2 [x0, x1, x2, x3, r1, r2, x2] (σf, rf, _) := ihx tX_atom1_122 _ _ _ h
    subst ho
    exact hm _ _ _ _ _ _ _ rfl p e s m args below meth c F Lo σ0 hF hLo C hT
  · have h := it_f hc h
    refine ax_iload (pc := 114) C d_MM_atom1_114 0 rfl ?_
    refine ax_sipush (pc := 116) C 300 d_MM_atom1_116 (by decide +kernel) ?_
    refine ax_icmp_ne (pc := 119) C 126 d_MM_atom1_119 (by decide) (fun hc => ?_) (fun hc => ?_)
    · have h := it_f hc h
      refine ax_iconst (pc := 126) C 1 d_MM_atom1_126 (by decide +kernel) ?_
      refine ax_ls ([(0, .ref z), (1, .int x0), (2, .int x1), (3, .int x2), (4, .int x3), (5, .int r1), (6, .int r2)]) [3, 4, 5, 6, 2, 1, 0] rfl ?_
      have hm : sX_atom1_127 l D kA z v σ2 [x0, x1, x2, x3, r1, r2, 1, x2] (σf, rf, _) := ihx tX_atom1_127 _ _ _ h
      subst ho
      exact hm _ _ _ _ _ _ _ _ rfl p e s m args below meth c F Lo σ0 hF hLo C hT
    · have h := it_t hc h
      refine ax_ls ([(0, .ref z), (1, .int x0), (2, .int x1), (3, .int x2), (4, .int x3), (5, .int r1), (6, .int r2)]) [3, 4, 5, 6, 2, 1, 0] rfl ?_
      have hm : sX_atom1_122 l D kA z v σ2 [x0, x1, x2, x3, r1, r2, x2] (σf, rf, _) := ihx tX_atom1_122 _ _ _ h
      subst ho
      exact hm _ _ _ _ _ _ _ rfl p e s m args below meth c F Lo σ0 hF hLo C hT
set_option maxHeartbeats 4000000 in
set_option maxRecDepth 100000 in
theorem oX_atom1_122 (l : Launch) (D : va_G) (kA : Nat → ClassId) (z : Nat) (v : Nat → Nat) (rec rex : mF) (ih : ∀ t σ xs res, rec t σ xs = some res → mSem l D kA z v t σ xs res) (ihx : ∀ t σ xs res, rex t σ xs = some res → xSem l D kA z v t σ xs res) (σ : mS) (xs : List Int32) (res : mR) (h : u_7 (kX_atom1_122 rec rex σ) xs = some res) : sX_atom1_122 l D kA z v σ xs res := by
  intro x0 x1 x2 x3 x4 x5 x6 hxs
  subst hxs
  obtain ⟨σf, rf, dd⟩ := res
  have h : (rex tX_atom1_127 σ [x0, x1, x2, x3, x4, x5, 2, x6]) = some (σf, rf, dd) := h
  intro p e s m args below meth c F Lo σ0 hF hLo C hT
  dsimp only at hF hLo hT ⊢
  obtain ⟨o, ho⟩ : ∃ o, o = xo (σf, rf) := ⟨_, rfl⟩
  rw [← ho] at hT ⊢
  refine ax_iconst (pc := 122) C 2 d_MM_atom1_122 (by decide +kernel) ?_
  refine ax_goto (pc := 123) C 127 d_MM_atom1_123 (by decide) ?_
  refine ax_ls ([(0, .ref z), (1, .int x0), (2, .int x1), (3, .int x2), (4, .int x3), (5, .int x4), (6, .int x5)]) [0, 1, 2, 3, 4, 5, 6] rfl ?_
  have hm : sX_atom1_127 l D kA z v σ [x0, x1, x2, x3, x4, x5, 2, x6] (σf, rf, _) := ihx tX_atom1_127 _ _ _ h
  subst ho
  exact hm _ _ _ _ _ _ _ _ rfl p e s m args below meth c F Lo σ0 hF hLo C hT
set_option maxHeartbeats 4000000 in
set_option maxRecDepth 100000 in
theorem oX_atom1_127 (l : Launch) (D : va_G) (kA : Nat → ClassId) (z : Nat) (v : Nat → Nat) (rec rex : mF) (ih : ∀ t σ xs res, rec t σ xs = some res → mSem l D kA z v t σ xs res) (ihx : ∀ t σ xs res, rex t σ xs = some res → xSem l D kA z v t σ xs res) (σ : mS) (xs : List Int32) (res : mR) (h : u_8 (kX_atom1_127 rec rex σ) xs = some res) : sX_atom1_127 l D kA z v σ xs res := by
  intro x0 x1 x2 x3 x4 x5 x6 x7 hxs
  subst hxs
  obtain ⟨σf, rf, dd⟩ := res
  have h : (bnd (rex tX_check σ [x7, x6, x4, x1]) (fun σ1 r1 => if σ1.1 3000 = 0 then (if x5 = 61 then (rex tX_atom1_148 σ1 [x0, x1, x2, x3, x4, x5]) else (if x5 = 300 then (rex tX_atom1_148 σ1 [x0, x1, x2, x3, x4, x5]) else (bnd (rec tM_termOf σ1 [x2, x3]) (fun σ2 r2 => bnd (rec tM_node σ2 [0, (σ2.1 39), (-1), 1]) (fun σ3 r3 => lt_ (mI σ3 3000 0) (fun u => some (u, r3, 0))))))) else (some (σ1, 0, 0)))) = some (σf, rf, dd) := h
  intro p e s m args below meth c F Lo σ0 hF hLo C hT
  dsimp only at hF hLo hT ⊢
  obtain ⟨o, ho⟩ : ∃ o, o = xo (σf, rf) := ⟨_, rfl⟩
  rw [← ho] at hT ⊢
  refine ax_iload (pc := 127) C d_MM_atom1_127 5 rfl ?_
  refine ax_iload_n (pc := 129) C d_MM_atom1_129 rfl 2 rfl ?_
  obtain ⟨σ1, r1, d1_1, d2_1, h1, h, hd2, hd1⟩ := it_b h
  have hm : sX_check l D kA z v σ [x7, x6, x4, x1] (σ1, r1, d1_1) := ihx tX_check _ _ _ h1
  by_cases hq : σ1.1 3000 = 0
  · have h := it_t hq h
    refine mcx_Vv (pc := 130) C (As := [.int x7, .int x6, .int x4, .int x1]) (rest := []) (hm _ _ _ _ rfl) hq ml_MM_504 d_MM_atom1_130 rfl rfl (by dsimp only; omega) (by dsimp only; omega) (Nat.zero_le _) (Nat.zero_le _) (Nat.le_of_ble_eq_true rfl) ?_
    have hF : d2_1 + 8 ≤ F := by omega
    have hLo : 48 * d2_1 + 400 ≤ Lo := by omega
    refine ax_iload (pc := 133) C d_MM_atom1_133 6 rfl ?_
    refine ax_bipush (pc := 135) C 61 d_MM_atom1_135 (by decide +kernel) ?_
    refine ax_icmp_eq (pc := 137) C 148 d_MM_atom1_137 (by decide) (fun hc => ?_) (fun hc => ?_)
    · have h := it_t hc h
      refine ax_ls ([(0, .ref z), (1, .int x0), (2, .int x1), (3, .int x2), (4, .int x3), (5, .int x4), (6, .int x5)]) [0, 1, 2, 3, 4, 5, 6] rfl ?_
      have hm : sX_atom1_148 l D kA z v σ1 [x0, x1, x2, x3, x4, x5] (σf, rf, _) := ihx tX_atom1_148 _ _ _ h
      subst ho
      exact hm _ _ _ _ _ _ rfl p e s m args below meth c F Lo σ0 hF hLo C hT
    · have h := it_f hc h
      refine ax_iload (pc := 140) C d_MM_atom1_140 6 rfl ?_
      refine ax_sipush (pc := 142) C 300 d_MM_atom1_142 (by decide +kernel) ?_
      refine ax_icmp_ne (pc := 145) C 161 d_MM_atom1_145 (by decide) (fun hc => ?_) (fun hc => ?_)
      · have h := it_f hc h
        refine ax_aload_n (pc := 161) C d_MM_atom1_161 rfl 0 rfl ?_
        refine ax_iload_n (pc := 162) C d_MM_atom1_162 rfl 3 rfl ?_
        refine ax_iload (pc := 163) C d_MM_atom1_163 4 rfl ?_
        obtain ⟨σ2, r2, d1_2, d2_2, h1, h, hd2, hd1⟩ := it_b h
        have hm : sM_termOf l D kA z v σ1 [x2, x3] (σ2, r2, d1_2) := ih tM_termOf _ _ _ h1
        refine mc_Vv (pc := 165) C (As := [.int x2, .int x3]) (rest := []) (hm _ _ rfl) ml_MM_508 d_MM_atom1_165 rfl rfl (by dsimp only; omega) (by dsimp only; omega) (Nat.zero_le _) (Nat.zero_le _) (Nat.le_of_ble_eq_true rfl) ?_
        have hF : d2_2 + 8 ≤ F := by omega
        have hLo : 48 * d2_2 + 400 ≤ Lo := by omega
        refine ax_aload_n (pc := 168) C d_MM_atom1_168 rfl 0 rfl ?_
        refine ax_iconst (pc := 169) C 0 d_MM_atom1_169 (by decide +kernel) ?_
        refine ax_aload_n (pc := 170) C d_MM_atom1_170 rfl 0 rfl ?_
        refine mg_132 (pc := 171) C d_MM_atom1_171 ?_
        refine ax_iconst (pc := 174) C (-1) d_MM_atom1_174 (by decide +kernel) ?_
        refine ax_iconst (pc := 175) C 1 d_MM_atom1_175 (by decide +kernel) ?_
        obtain ⟨σ3, r3, d1_3, d2_3, h1, h, hd2, hd1⟩ := it_b h
        have hm : sM_node l D kA z v σ2 [0, (σ2.1 39), (-1), 1] (σ3, r3, d1_3) := ih tM_node _ _ _ h1
        refine mc_Vi (pc := 176) C (As := [.int 0, .int (σ2.1 39), .int (-1), .int 1]) (rest := []) (hm _ _ _ _ rfl) ml_MM_450 d_MM_atom1_176 rfl rfl (by dsimp only; omega) (by dsimp only; omega) (Nat.zero_le _) (Nat.zero_le _) (Nat.le_of_ble_eq_true rfl) ?_
        have hF : d2_3 + 8 ≤ F := by omega
        have hLo : 48 * d2_3 + 400 ≤ Lo := by omega
        have h := it_l h
        cases h
        exact xr_iret (pc := 179) C ho d_MM_atom1_179
      · have h := it_t hc h
        refine ax_ls ([(0, .ref z), (1, .int x0), (2, .int x1), (3, .int x2), (4, .int x3), (5, .int x4), (6, .int x5)]) [0, 1, 2, 3, 4, 5, 6] rfl ?_
        have hm : sX_atom1_148 l D kA z v σ1 [x0, x1, x2, x3, x4, x5] (σf, rf, _) := ihx tX_atom1_148 _ _ _ h
        subst ho
        exact hm _ _ _ _ _ _ rfl p e s m args below meth c F Lo σ0 hF hLo C hT
  · have h := it_f hq h
    cases h
    obtain ⟨hT1, hX⟩ := hT (by rw [ho]; exact xo_thr hq)
    rw [xQi_thr (by rw [ho]; exact xo_thr hq)]
    exact mcx_P (pc := 130) C (As := [.int x7, .int x6, .int x4, .int x1]) (rest := []) hX (xt_none hT1 _) ho hq (xMv_thr hq (hm _ _ _ _ rfl)) ml_MM_504 d_MM_atom1_130 rfl rfl (by dsimp only; omega) (by dsimp only; omega) (Nat.le_of_ble_eq_true rfl)
set_option maxHeartbeats 4000000 in
set_option maxRecDepth 100000 in
theorem oX_atom1_148 (l : Launch) (D : va_G) (kA : Nat → ClassId) (z : Nat) (v : Nat → Nat) (rec rex : mF) (ih : ∀ t σ xs res, rec t σ xs = some res → mSem l D kA z v t σ xs res) (ihx : ∀ t σ xs res, rex t σ xs = some res → xSem l D kA z v t σ xs res) (σ : mS) (xs : List Int32) (res : mR) (h : u_6 (kX_atom1_148 rec rex σ) xs = some res) : sX_atom1_148 l D kA z v σ xs res := by
  intro x0 x1 x2 x3 x4 x5 hxs
  subst hxs
  obtain ⟨σf, rf, dd⟩ := res
  have h : (bnd (rec tM_term σ [x2, x3]) (fun σ1 r1 => bnd (rex tX_equation σ1 [r1, x0]) (fun σ2 r2 => if σ2.1 3000 = 0 then (lt_ (mI σ2 3000 0) (fun u => some (u, r2, 0))) else (some (σ2, 0, 0))))) = some (σf, rf, dd) := h
  intro p e s m args below meth c F Lo σ0 hF hLo C hT
  dsimp only at hF hLo hT ⊢
  obtain ⟨o, ho⟩ : ∃ o, o = xo (σf, rf) := ⟨_, rfl⟩
  rw [← ho] at hT ⊢
  refine ax_aload_n (pc := 148) C d_MM_atom1_148 rfl 0 rfl ?_
  refine ax_aload_n (pc := 149) C d_MM_atom1_149 rfl 0 rfl ?_
  refine ax_iload_n (pc := 150) C d_MM_atom1_150 rfl 3 rfl ?_
  refine ax_iload (pc := 151) C d_MM_atom1_151 4 rfl ?_
  obtain ⟨σ1, r1, d1_1, d2_1, h1, h, hd2, hd1⟩ := it_b h
  have hm : sM_term l D kA z v σ [x2, x3] (σ1, r1, d1_1) := ih tM_term _ _ _ h1
  refine mc_Vi (pc := 153) C (As := [.int x2, .int x3]) (rest := [.ref z]) (hm _ _ rfl) ml_MM_489 d_MM_atom1_153 rfl rfl (by dsimp only; omega) (by dsimp only; omega) (Nat.zero_le _) (Nat.zero_le _) (Nat.le_of_ble_eq_true rfl) ?_
  have hF : d2_1 + 8 ≤ F := by omega
  have hLo : 48 * d2_1 + 400 ≤ Lo := by omega
  refine ax_iload_n (pc := 156) C d_MM_atom1_156 rfl 1 rfl ?_
  obtain ⟨σ2, r2, d1_2, d2_2, h1, h, hd2, hd1⟩ := it_b h
  have hm : sX_equation l D kA z v σ1 [r1, x0] (σ2, r2, d1_2) := ihx tX_equation _ _ _ h1
  by_cases hq : σ2.1 3000 = 0
  · have h := it_t hq h
    refine mcx_Vi (pc := 157) C (As := [.int r1, .int x0]) (rest := []) (hm _ _ rfl) hq ml_MM_492 d_MM_atom1_157 rfl rfl (by dsimp only; omega) (by dsimp only; omega) (Nat.zero_le _) (Nat.zero_le _) (Nat.le_of_ble_eq_true rfl) ?_
    have hF : d2_2 + 8 ≤ F := by omega
    have hLo : 48 * d2_2 + 400 ≤ Lo := by omega
    have h := it_l h
    cases h
    exact xr_iret (pc := 160) C ho d_MM_atom1_160
  · have h := it_f hq h
    cases h
    obtain ⟨hT1, hX⟩ := hT (by rw [ho]; exact xo_thr hq)
    rw [xQi_thr (by rw [ho]; exact xo_thr hq)]
    exact mcx_P (pc := 157) C (As := [.int r1, .int x0]) (rest := []) hX (xt_none hT1 _) ho hq (xMi_thr hq (hm _ _ rfl)) ml_MM_492 d_MM_atom1_157 rfl rfl (by dsimp only; omega) (by dsimp only; omega) (Nat.le_of_ble_eq_true rfl)
set_option maxHeartbeats 4000000 in
set_option maxRecDepth 100000 in
theorem oX_variable (l : Launch) (D : va_G) (kA : Nat → ClassId) (z : Nat) (v : Nat → Nat) (rec rex : mF) (ih : ∀ t σ xs res, rec t σ xs = some res → mSem l D kA z v t σ xs res) (ihx : ∀ t σ xs res, rex t σ xs = some res → xSem l D kA z v t σ xs res) (σ : mS) (xs : List Int32) (res : mR) (h : u_0 (kX_variable rec rex σ) xs = some res) : sX_variable l D kA z v σ xs res := by
  intro hxs
  subst hxs
  obtain ⟨σf, rf, dd⟩ := res
  have h : (rex tX_variable_7 σ [(((σ.1 28) : Int32) - 1)]) = some (σf, rf, dd) := h
  obtain ⟨o, ho⟩ : ∃ o, o = xo (σf, rf) := ⟨_, rfl⟩
  show xMi l D kA y_MM_variable b_MM_variable 2 .int (dd + 8) (48 * dd + 400) [.ref z] (mmW kA z v σ) z v σf (xo (σf, rf))
  rw [← ho]
  refine xMi.of (by decide +kernel) (Nat.le_of_ble_eq_true rfl) ?_
  intro p e s m args below meth c C hT
  have C : ax_C p s m args meth c b_MM_variable "ClauseProverModel" 2 (some .int) D kA (va_A (mmW kA z v σ) s.heap.size) := C
  obtain ⟨F, hFe⟩ : ∃ F, F = dd + 8 := ⟨_, rfl⟩
  obtain ⟨Lo, hLoe⟩ : ∃ Lo, Lo = 48 * dd + 400 := ⟨_, rfl⟩
  obtain ⟨σ0, hσ0⟩ : ∃ s0, s0 = σ := ⟨_, rfl⟩
  suffices K : AW p l e { frames := F, cells := xmc o, slots := xms o, locals := Lo } s m args below meth c D kA (va_A (mmW kA z v σ0) s.heap.size) 2 (xQi below args s D kA (mmW kA z v σ0) z v σf o) 0 [(0, .ref z)] [] (mmW kA z v σ) 0 0 by rw [hFe, hLoe, hσ0] at K; exact ax_ls ([(0, .ref z)]) [0] rfl K
  have C : ax_C p s m args meth c b_MM_variable "ClauseProverModel" 2 (some .int) D kA (va_A (mmW kA z v σ0) s.heap.size) := by rw [hσ0]; exact C
  have hT : XT o l e s m meth c (va_A (mmW kA z v σ0) s.heap.size) := by rw [hσ0]; exact hT
  have hF : dd + 8 ≤ F := by omega
  have hLo : 48 * dd + 400 ≤ Lo := by omega
  clear hFe hLoe hσ0
  refine ax_aload_n (pc := 0) C d_MM_variable_0 rfl 0 rfl ?_
  refine mg_99 (pc := 1) C d_MM_variable_1 ?_
  refine ax_iconst (pc := 4) C 1 d_MM_variable_4 (by decide +kernel) ?_
  refine ax_isub (pc := 5) C d_MM_variable_5 ?_
  refine ax_istore_n (pc := 6) C d_MM_variable_6 rfl (Nat.le_of_ble_eq_true rfl) ([(1, .int (((σ.1 28) : Int32) - 1)), (0, .ref z)]) rfl ?_
  refine ax_ls ([(0, .ref z), (1, .int (((σ.1 28) : Int32) - 1))]) [1, 0] rfl ?_
  have hm : sX_variable_7 l D kA z v σ [(((σ.1 28) : Int32) - 1)] (σf, rf, _) := ihx tX_variable_7 _ _ _ h
  subst ho
  exact hm _ rfl p e s m args below meth c F Lo σ0 hF hLo C hT
set_option maxHeartbeats 4000000 in
set_option maxRecDepth 100000 in
theorem oX_variable_7 (l : Launch) (D : va_G) (kA : Nat → ClassId) (z : Nat) (v : Nat → Nat) (rec rex : mF) (ih : ∀ t σ xs res, rec t σ xs = some res → mSem l D kA z v t σ xs res) (ihx : ∀ t σ xs res, rex t σ xs = some res → xSem l D kA z v t σ xs res) (σ : mS) (xs : List Int32) (res : mR) (h : u_1 (kX_variable_7 rec rex σ) xs = some res) : sX_variable_7 l D kA z v σ xs res := by
  intro x0 hxs
  subst hxs
  obtain ⟨σf, rf, dd⟩ := res
  have h : (if x0 < 0 then (rex tX_variable_39 σ [0]) else (if bin x0 300 = true then (bnd (rec tM_isBinder σ [(σ.2.1 26 (Int32.toNatClampNeg x0))]) (fun σ1 r1 => if r1 = 0 then (rex tX_variable_7 σ1 [(x0 + (-1))]) else (if bin x0 300 = true then (lt_ (mI σ1 3000 0) (fun u => some (u, (σ1.2.1 26 (Int32.toNatClampNeg x0)), 0))) else none))) else none)) = some (σf, rf, dd) := h
  intro p e s m args below meth c F Lo σ0 hF hLo C hT
  dsimp only at hF hLo hT ⊢
  obtain ⟨o, ho⟩ : ∃ o, o = xo (σf, rf) := ⟨_, rfl⟩
  rw [← ho] at hT ⊢
  refine ax_iload_n (pc := 7) C d_MM_variable_7 rfl 1 rfl ?_
  refine ax_if_lt (pc := 8) C 37 d_MM_variable_8 (by decide) (fun hc => ?_) (fun hc => ?_)
  · have h := it_t hc h
    refine ax_iconst (pc := 37) C 0 d_MM_variable_37 (by decide +kernel) ?_
    refine ax_istore_n (pc := 38) C d_MM_variable_38 rfl (Nat.le_of_ble_eq_true rfl) ([(1, .int 0), (0, .ref z)]) rfl ?_
    refine ax_ls ([(0, .ref z), (1, .int 0)]) [1, 0] rfl ?_
    have hm : sX_variable_39 l D kA z v σ [0] (σf, rf, _) := ihx tX_variable_39 _ _ _ h
    subst ho
    exact hm _ rfl p e s m args below meth c F Lo σ0 hF hLo C hT
  · have h := it_f hc h
    refine ax_aload_n (pc := 11) C d_MM_variable_11 rfl 0 rfl ?_
    refine ax_aload_n (pc := 12) C d_MM_variable_12 rfl 0 rfl ?_
    refine mg_93 (pc := 13) C d_MM_variable_13 ?_
    refine ax_iload_n (pc := 16) C d_MM_variable_16 rfl 1 rfl ?_
    obtain ⟨hb, h⟩ := it_g h
    refine ml_26 (pc := 17) C d_MM_variable_17 (bin_in hb) ?_
    obtain ⟨σ1, r1, d1_1, d2_1, h1, h, hd2, hd1⟩ := it_b h
    have hm : sM_isBinder l D kA z v σ [(σ.2.1 26 (Int32.toNatClampNeg x0))] (σ1, r1, d1_1) := ih tM_isBinder _ _ _ h1
    refine mc_Vi (pc := 18) C (As := [.int (σ.2.1 26 (Int32.toNatClampNeg x0))]) (rest := []) (hm _ rfl) ml_MM_438 d_MM_variable_18 rfl rfl (by dsimp only; omega) (by dsimp only; omega) (Nat.zero_le _) (Nat.zero_le _) (Nat.le_of_ble_eq_true rfl) ?_
    have hF : d2_1 + 8 ≤ F := by omega
    have hLo : 48 * d2_1 + 400 ≤ Lo := by omega
    refine ax_if_eq (pc := 21) C 31 d_MM_variable_21 (by decide) (fun hc => ?_) (fun hc => ?_)
    · have h := it_t hc h
      refine ax_iinc (pc := 31) C (x0 + (-1)) d_MM_variable_31 1 rfl rfl (Nat.le_of_ble_eq_true rfl) ([(1, .int (x0 + (-1))), (0, .ref z)]) rfl ?_
      refine ax_goto (pc := 34) C 7 d_MM_variable_34 (by decide) ?_
      refine ax_ls ([(0, .ref z), (1, .int (x0 + (-1)))]) [1, 0] rfl ?_
      have hm : sX_variable_7 l D kA z v σ1 [(x0 + (-1))] (σf, rf, _) := ihx tX_variable_7 _ _ _ h
      subst ho
      exact hm _ rfl p e s m args below meth c F Lo σ0 hF hLo C hT
    · have h := it_f hc h
      refine ax_aload_n (pc := 24) C d_MM_variable_24 rfl 0 rfl ?_
      refine mg_93 (pc := 25) C d_MM_variable_25 ?_
      refine ax_iload_n (pc := 28) C d_MM_variable_28 rfl 1 rfl ?_
      obtain ⟨hb, h⟩ := it_g h
      refine ml_26 (pc := 29) C d_MM_variable_29 (bin_in hb) ?_
      have h := it_l h
      cases h
      exact xr_iret (pc := 30) C ho d_MM_variable_30
set_option maxHeartbeats 4000000 in
set_option maxRecDepth 100000 in
theorem oX_variable_39 (l : Launch) (D : va_G) (kA : Nat → ClassId) (z : Nat) (v : Nat → Nat) (rec rex : mF) (ih : ∀ t σ xs res, rec t σ xs = some res → mSem l D kA z v t σ xs res) (ihx : ∀ t σ xs res, rex t σ xs = some res → xSem l D kA z v t σ xs res) (σ : mS) (xs : List Int32) (res : mR) (h : u_1 (kX_variable_39 rec rex σ) xs = some res) : sX_variable_39 l D kA z v σ xs res := by
  intro x0 hxs
  subst hxs
  obtain ⟨σf, rf, dd⟩ := res
  have h : (if (σ.1 29) ≤ x0 then (bnd (rex tX_binder σ []) (fun σ1 r1 => if σ1.1 3000 = 0 then (lt_ (mI σ1 29 (((σ1.1 29) : Int32) + 1)) (fun σ2 => if bin (σ1.1 29) 300 = true then (lt_ (mA σ2 27 (Int32.toNatClampNeg (σ1.1 29)) r1) (fun σ3 => lt_ (mI σ3 3000 0) (fun u => some (u, r1, 0)))) else none)) else (some (σ1, 0, 0)))) else (if bin x0 300 = true then (bnd (rec tM_isBinder σ [(σ.2.1 27 (Int32.toNatClampNeg x0))]) (fun σ4 r4 => if r4 = 0 then (rex tX_variable_39 σ4 [(x0 + 1)]) else (if bin x0 300 = true then (lt_ (mI σ4 3000 0) (fun u => some (u, (σ4.2.1 27 (Int32.toNatClampNeg x0)), 0))) else none))) else none)) = some (σf, rf, dd) := h
  intro p e s m args below meth c F Lo σ0 hF hLo C hT
  dsimp only at hF hLo hT ⊢
  obtain ⟨o, ho⟩ : ∃ o, o = xo (σf, rf) := ⟨_, rfl⟩
  rw [← ho] at hT ⊢
  refine ax_iload_n (pc := 39) C d_MM_variable_39 rfl 1 rfl ?_
  refine ax_aload_n (pc := 40) C d_MM_variable_40 rfl 0 rfl ?_
  refine mg_102 (pc := 41) C d_MM_variable_41 ?_
  refine ax_icmp_ge (pc := 44) C 73 d_MM_variable_44 (by decide) (fun hc => ?_) (fun hc => ?_)
  · have h := it_t hc h
    refine ax_aload_n (pc := 73) C d_MM_variable_73 rfl 0 rfl ?_
    obtain ⟨σ1, r1, d1_1, d2_1, h1, h, hd2, hd1⟩ := it_b h
    have hm : sX_binder l D kA z v σ [] (σ1, r1, d1_1) := ihx tX_binder _ _ _ h1
    by_cases hq : σ1.1 3000 = 0
    · have h := it_t hq h
      refine mcx_Vi (pc := 74) C (As := []) (rest := []) (hm rfl) hq ml_MM_441 d_MM_variable_74 rfl rfl (by dsimp only; omega) (by dsimp only; omega) (Nat.zero_le _) (Nat.zero_le _) (Nat.le_of_ble_eq_true rfl) ?_
      have hF : d2_1 + 8 ≤ F := by omega
      have hLo : 48 * d2_1 + 400 ≤ Lo := by omega
      refine ax_istore_n (pc := 77) C d_MM_variable_77 rfl (Nat.le_of_ble_eq_true rfl) ([(1, .int r1), (0, .ref z)]) rfl ?_
      refine ax_aload_n (pc := 78) C d_MM_variable_78 rfl 1 rfl ?_
      refine mg_96 (pc := 79) C d_MM_variable_79 ?_
      refine ax_aload_n (pc := 82) C d_MM_variable_82 rfl 1 rfl ?_
      refine ax_dup (pc := 83) C d_MM_variable_83 rfl ?_
      refine mg_102 (pc := 84) C d_MM_variable_84 ?_
      refine ax_dup_x1 (pc := 87) C d_MM_variable_87 rfl rfl ?_
      refine ax_iconst (pc := 88) C 1 d_MM_variable_88 (by decide +kernel) ?_
      refine ax_iadd (pc := 89) C d_MM_variable_89 ?_
      refine mp_102 (pc := 90) C d_MM_variable_90 ?_
      have h := it_l h
      generalize mI σ1 29 (((σ1.1 29) : Int32) + 1) = σ2 at h ⊢
      refine ax_iload_n (pc := 93) C d_MM_variable_93 rfl 0 rfl ?_
      obtain ⟨hb, h⟩ := it_g h
      refine ms_27 (pc := 94) C d_MM_variable_94 (bin_in hb) ?_
      have h := it_l h
      generalize mA σ2 27 (Int32.toNatClampNeg (σ1.1 29)) r1 = σ3 at h ⊢
      refine ax_iload_n (pc := 95) C d_MM_variable_95 rfl 0 rfl ?_
      have h := it_l h
      cases h
      exact xr_iret (pc := 96) C ho d_MM_variable_96
    · have h := it_f hq h
      cases h
      obtain ⟨hT1, hX⟩ := hT (by rw [ho]; exact xo_thr hq)
      rw [xQi_thr (by rw [ho]; exact xo_thr hq)]
      exact mcx_P (pc := 74) C (As := []) (rest := []) hX (xt_none hT1 _) ho hq (xMi_thr hq (hm rfl)) ml_MM_441 d_MM_variable_74 rfl rfl (by dsimp only; omega) (by dsimp only; omega) (Nat.le_of_ble_eq_true rfl)
  · have h := it_f hc h
    refine ax_aload_n (pc := 47) C d_MM_variable_47 rfl 0 rfl ?_
    refine ax_aload_n (pc := 48) C d_MM_variable_48 rfl 0 rfl ?_
    refine mg_96 (pc := 49) C d_MM_variable_49 ?_
    refine ax_iload_n (pc := 52) C d_MM_variable_52 rfl 1 rfl ?_
    obtain ⟨hb, h⟩ := it_g h
    refine ml_27 (pc := 53) C d_MM_variable_53 (bin_in hb) ?_
    obtain ⟨σ4, r4, d1_4, d2_4, h1, h, hd2, hd1⟩ := it_b h
    have hm : sM_isBinder l D kA z v σ [(σ.2.1 27 (Int32.toNatClampNeg x0))] (σ4, r4, d1_4) := ih tM_isBinder _ _ _ h1
    refine mc_Vi (pc := 54) C (As := [.int (σ.2.1 27 (Int32.toNatClampNeg x0))]) (rest := []) (hm _ rfl) ml_MM_438 d_MM_variable_54 rfl rfl (by dsimp only; omega) (by dsimp only; omega) (Nat.zero_le _) (Nat.zero_le _) (Nat.le_of_ble_eq_true rfl) ?_
    have hF : d2_4 + 8 ≤ F := by omega
    have hLo : 48 * d2_4 + 400 ≤ Lo := by omega
    refine ax_if_eq (pc := 57) C 67 d_MM_variable_57 (by decide) (fun hc => ?_) (fun hc => ?_)
    · have h := it_t hc h
      refine ax_iinc (pc := 67) C (x0 + 1) d_MM_variable_67 1 rfl rfl (Nat.le_of_ble_eq_true rfl) ([(1, .int (x0 + 1)), (0, .ref z)]) rfl ?_
      refine ax_goto (pc := 70) C 39 d_MM_variable_70 (by decide) ?_
      refine ax_ls ([(0, .ref z), (1, .int (x0 + 1))]) [1, 0] rfl ?_
      have hm : sX_variable_39 l D kA z v σ4 [(x0 + 1)] (σf, rf, _) := ihx tX_variable_39 _ _ _ h
      subst ho
      exact hm _ rfl p e s m args below meth c F Lo σ0 hF hLo C hT
    · have h := it_f hc h
      refine ax_aload_n (pc := 60) C d_MM_variable_60 rfl 0 rfl ?_
      refine mg_96 (pc := 61) C d_MM_variable_61 ?_
      refine ax_iload_n (pc := 64) C d_MM_variable_64 rfl 1 rfl ?_
      obtain ⟨hb, h⟩ := it_g h
      refine ml_27 (pc := 65) C d_MM_variable_65 (bin_in hb) ?_
      have h := it_l h
      cases h
      exact xr_iret (pc := 66) C ho d_MM_variable_66
set_option maxHeartbeats 4000000 in
set_option maxRecDepth 100000 in
theorem oX_equation (l : Launch) (D : va_G) (kA : Nat → ClassId) (z : Nat) (v : Nat → Nat) (rec rex : mF) (ih : ∀ t σ xs res, rec t σ xs = some res → mSem l D kA z v t σ xs res) (ihx : ∀ t σ xs res, rex t σ xs = some res → xSem l D kA z v t σ xs res) (σ : mS) (xs : List Int32) (res : mR) (h : u_2 (kX_equation rec rex σ) xs = some res) : sX_equation l D kA z v σ xs res := by
  intro x0 x1 hxs
  subst hxs
  obtain ⟨σf, rf, dd⟩ := res
  have h : (bnd (rec tM_peek σ []) (fun σ1 r1 => if r1 = 300 then (rex tX_equation_15 σ1 [x0, x1, 1]) else (rex tX_equation_15 σ1 [x0, x1, 0]))) = some (σf, rf, dd) := h
  obtain ⟨o, ho⟩ : ∃ o, o = xo (σf, rf) := ⟨_, rfl⟩
  show xMi l D kA y_MM_equation b_MM_equation 6 .int (dd + 8) (48 * dd + 400) [.ref z, .int x0, .int x1] (mmW kA z v σ) z v σf (xo (σf, rf))
  rw [← ho]
  refine xMi.of (by decide +kernel) (Nat.le_of_ble_eq_true rfl) ?_
  intro p e s m args below meth c C hT
  have C : ax_C p s m args meth c b_MM_equation "ClauseProverModel" 6 (some .int) D kA (va_A (mmW kA z v σ) s.heap.size) := C
  obtain ⟨F, hFe⟩ : ∃ F, F = dd + 8 := ⟨_, rfl⟩
  obtain ⟨Lo, hLoe⟩ : ∃ Lo, Lo = 48 * dd + 400 := ⟨_, rfl⟩
  obtain ⟨σ0, hσ0⟩ : ∃ s0, s0 = σ := ⟨_, rfl⟩
  suffices K : AW p l e { frames := F, cells := xmc o, slots := xms o, locals := Lo } s m args below meth c D kA (va_A (mmW kA z v σ0) s.heap.size) 6 (xQi below args s D kA (mmW kA z v σ0) z v σf o) 0 [(0, .ref z), (1, .int x0), (2, .int x1)] [] (mmW kA z v σ) 0 0 by rw [hFe, hLoe, hσ0] at K; exact ax_ls ([(0, .ref z), (1, .int x0), (2, .int x1)]) [0, 1, 2] rfl K
  have C : ax_C p s m args meth c b_MM_equation "ClauseProverModel" 6 (some .int) D kA (va_A (mmW kA z v σ0) s.heap.size) := by rw [hσ0]; exact C
  have hT : XT o l e s m meth c (va_A (mmW kA z v σ0) s.heap.size) := by rw [hσ0]; exact hT
  have hF : dd + 8 ≤ F := by omega
  have hLo : 48 * dd + 400 ≤ Lo := by omega
  clear hFe hLoe hσ0
  refine ax_aload_n (pc := 0) C d_MM_equation_0 rfl 0 rfl ?_
  obtain ⟨σ1, r1, d1_1, d2_1, h1, h, hd2, hd1⟩ := it_b h
  have hm : sM_peek l D kA z v σ [] (σ1, r1, d1_1) := ih tM_peek _ _ _ h1
  refine mc_Vi (pc := 1) C (As := []) (rest := []) (hm rfl) ml_MM_422 d_MM_equation_1 rfl rfl (by dsimp only; omega) (by dsimp only; omega) (Nat.zero_le _) (Nat.zero_le _) (Nat.le_of_ble_eq_true rfl) ?_
  have hF : d2_1 + 8 ≤ F := by omega
  have hLo : 48 * d2_1 + 400 ≤ Lo := by omega
  refine ax_sipush (pc := 4) C 300 d_MM_equation_4 (by decide +kernel) ?_
  refine ax_icmp_ne (pc := 7) C 14 d_MM_equation_7 (by decide) (fun hc => ?_) (fun hc => ?_)
  · have h := it_f hc h
    refine ax_iconst (pc := 14) C 0 d_MM_equation_14 (by decide +kernel) ?_
    refine ax_ls ([(0, .ref z), (1, .int x0), (2, .int x1)]) [0, 1, 2] rfl ?_
    have hm : sX_equation_15 l D kA z v σ1 [x0, x1, 0] (σf, rf, _) := ihx tX_equation_15 _ _ _ h
    subst ho
    exact hm _ _ _ rfl p e s m args below meth c F Lo σ0 hF hLo C hT
  · have h := it_t hc h
    refine ax_iconst (pc := 10) C 1 d_MM_equation_10 (by decide +kernel) ?_
    refine ax_goto (pc := 11) C 15 d_MM_equation_11 (by decide) ?_
    refine ax_ls ([(0, .ref z), (1, .int x0), (2, .int x1)]) [0, 1, 2] rfl ?_
    have hm : sX_equation_15 l D kA z v σ1 [x0, x1, 1] (σf, rf, _) := ihx tX_equation_15 _ _ _ h
    subst ho
    exact hm _ _ _ rfl p e s m args below meth c F Lo σ0 hF hLo C hT
set_option maxHeartbeats 4000000 in
set_option maxRecDepth 100000 in
theorem oX_equation_15 (l : Launch) (D : va_G) (kA : Nat → ClassId) (z : Nat) (v : Nat → Nat) (rec rex : mF) (ih : ∀ t σ xs res, rec t σ xs = some res → mSem l D kA z v t σ xs res) (ihx : ∀ t σ xs res, rex t σ xs = some res → xSem l D kA z v t σ xs res) (σ : mS) (xs : List Int32) (res : mR) (h : u_3 (kX_equation_15 rec rex σ) xs = some res) : sX_equation_15 l D kA z v σ xs res := by
  intro x0 x1 x2 hxs
  subst hxs
  obtain ⟨σf, rf, dd⟩ := res
  have h : (bnd (rec tM_take σ []) (fun σ1 r1 => bnd (rex tX_side1 σ1 [x1]) (fun σ2 r2 => if σ2.1 3000 = 0 then (bnd (rec tM_node σ2 [0, x0, r2, 1]) (fun σ3 r3 => if x2 = 0 then (rex tX_equation_56 σ3 [x0, x1, x2, r2, r3, r3]) else (bnd (rec tM_node σ3 [1, r3, 0, 1]) (fun σ4 r4 => rex tX_equation_56 σ4 [x0, x1, x2, r2, r3, r4])))) else (some (σ2, 0, 0))))) = some (σf, rf, dd) := h
  intro p e s m args below meth c F Lo σ0 hF hLo C hT
  dsimp only at hF hLo hT ⊢
  obtain ⟨o, ho⟩ : ∃ o, o = xo (σf, rf) := ⟨_, rfl⟩
  rw [← ho] at hT ⊢
  refine ax_istore_n (pc := 15) C d_MM_equation_15 rfl (Nat.le_of_ble_eq_true rfl) ([(3, .int x2), (0, .ref z), (1, .int x0), (2, .int x1)]) rfl ?_
  refine ax_aload_n (pc := 16) C d_MM_equation_16 rfl 1 rfl ?_
  obtain ⟨σ1, r1, d1_1, d2_1, h1, h, hd2, hd1⟩ := it_b h
  have hm : sM_take l D kA z v σ [] (σ1, r1, d1_1) := ih tM_take _ _ _ h1
  refine mc_Vv (pc := 17) C (As := []) (rest := []) (hm rfl) ml_MM_435 d_MM_equation_17 rfl rfl (by dsimp only; omega) (by dsimp only; omega) (Nat.zero_le _) (Nat.zero_le _) (Nat.le_of_ble_eq_true rfl) ?_
  have hF : d2_1 + 8 ≤ F := by omega
  have hLo : 48 * d2_1 + 400 ≤ Lo := by omega
  refine ax_aload_n (pc := 20) C d_MM_equation_20 rfl 1 rfl ?_
  refine ax_iload_n (pc := 21) C d_MM_equation_21 rfl 3 rfl ?_
  obtain ⟨σ2, r2, d1_2, d2_2, h1, h, hd2, hd1⟩ := it_b h
  have hm : sX_side1 l D kA z v σ1 [x1] (σ2, r2, d1_2) := ihx tX_side1 _ _ _ h1
  by_cases hq : σ2.1 3000 = 0
  · have h := it_t hq h
    refine mcx_Vi (pc := 22) C (As := [.int x1]) (rest := []) (hm _ rfl) hq ml_MM_510 d_MM_equation_22 rfl rfl (by dsimp only; omega) (by dsimp only; omega) (Nat.zero_le _) (Nat.zero_le _) (Nat.le_of_ble_eq_true rfl) ?_
    have hF : d2_2 + 8 ≤ F := by omega
    have hLo : 48 * d2_2 + 400 ≤ Lo := by omega
    refine ax_istore (pc := 25) C d_MM_equation_25 (Nat.le_of_ble_eq_true rfl) ([(4, .int r2), (3, .int x2), (0, .ref z), (1, .int x0), (2, .int x1)]) rfl ?_
    refine ax_aload_n (pc := 27) C d_MM_equation_27 rfl 2 rfl ?_
    refine ax_iconst (pc := 28) C 0 d_MM_equation_28 (by decide +kernel) ?_
    refine ax_iload_n (pc := 29) C d_MM_equation_29 rfl 3 rfl ?_
    refine ax_iload (pc := 30) C d_MM_equation_30 0 rfl ?_
    refine ax_iconst (pc := 32) C 1 d_MM_equation_32 (by decide +kernel) ?_
    obtain ⟨σ3, r3, d1_3, d2_3, h1, h, hd2, hd1⟩ := it_b h
    have hm : sM_node l D kA z v σ2 [0, x0, r2, 1] (σ3, r3, d1_3) := ih tM_node _ _ _ h1
    refine mc_Vi (pc := 33) C (As := [.int 0, .int x0, .int r2, .int 1]) (rest := []) (hm _ _ _ _ rfl) ml_MM_450 d_MM_equation_33 rfl rfl (by dsimp only; omega) (by dsimp only; omega) (Nat.zero_le _) (Nat.zero_le _) (Nat.le_of_ble_eq_true rfl) ?_
    have hF : d2_3 + 8 ≤ F := by omega
    have hLo : 48 * d2_3 + 400 ≤ Lo := by omega
    refine ax_istore (pc := 36) C d_MM_equation_36 (Nat.le_of_ble_eq_true rfl) ([(5, .int r3), (4, .int r2), (3, .int x2), (0, .ref z), (1, .int x0), (2, .int x1)]) rfl ?_
    refine ax_iload_n (pc := 38) C d_MM_equation_38 rfl 2 rfl ?_
    refine ax_if_eq (pc := 39) C 54 d_MM_equation_39 (by decide) (fun hc => ?_) (fun hc => ?_)
    · have h := it_t hc h
      refine ax_iload (pc := 54) C d_MM_equation_54 0 rfl ?_
      refine ax_ls ([(0, .ref z), (1, .int x0), (2, .int x1), (3, .int x2), (4, .int r2), (5, .int r3)]) [3, 4, 5, 2, 1, 0] rfl ?_
      have hm : sX_equation_56 l D kA z v σ3 [x0, x1, x2, r2, r3, r3] (σf, rf, _) := ihx tX_equation_56 _ _ _ h
      subst ho
      exact hm _ _ _ _ _ _ rfl p e s m args below meth c F Lo σ0 hF hLo C hT
    · have h := it_f hc h
      refine ax_aload_n (pc := 42) C d_MM_equation_42 rfl 3 rfl ?_
      refine ax_iconst (pc := 43) C 1 d_MM_equation_43 (by decide +kernel) ?_
      refine ax_iload (pc := 44) C d_MM_equation_44 0 rfl ?_
      refine ax_iconst (pc := 46) C 0 d_MM_equation_46 (by decide +kernel) ?_
      refine ax_iconst (pc := 47) C 1 d_MM_equation_47 (by decide +kernel) ?_
      obtain ⟨σ4, r4, d1_4, d2_4, h1, h, hd2, hd1⟩ := it_b h
      have hm : sM_node l D kA z v σ3 [1, r3, 0, 1] (σ4, r4, d1_4) := ih tM_node _ _ _ h1
      refine mc_Vi (pc := 48) C (As := [.int 1, .int r3, .int 0, .int 1]) (rest := []) (hm _ _ _ _ rfl) ml_MM_450 d_MM_equation_48 rfl rfl (by dsimp only; omega) (by dsimp only; omega) (Nat.zero_le _) (Nat.zero_le _) (Nat.le_of_ble_eq_true rfl) ?_
      have hF : d2_4 + 8 ≤ F := by omega
      have hLo : 48 * d2_4 + 400 ≤ Lo := by omega
      refine ax_goto (pc := 51) C 56 d_MM_equation_51 (by decide) ?_
      refine ax_ls ([(0, .ref z), (1, .int x0), (2, .int x1), (3, .int x2), (4, .int r2), (5, .int r3)]) [3, 4, 5, 2, 1, 0] rfl ?_
      have hm : sX_equation_56 l D kA z v σ4 [x0, x1, x2, r2, r3, r4] (σf, rf, _) := ihx tX_equation_56 _ _ _ h
      subst ho
      exact hm _ _ _ _ _ _ rfl p e s m args below meth c F Lo σ0 hF hLo C hT
  · have h := it_f hq h
    cases h
    obtain ⟨hT1, hX⟩ := hT (by rw [ho]; exact xo_thr hq)
    rw [xQi_thr (by rw [ho]; exact xo_thr hq)]
    exact mcx_P (pc := 22) C (As := [.int x1]) (rest := []) hX (xt_none hT1 _) ho hq (xMi_thr hq (hm _ rfl)) ml_MM_510 d_MM_equation_22 rfl rfl (by dsimp only; omega) (by dsimp only; omega) (Nat.le_of_ble_eq_true rfl)
set_option maxHeartbeats 4000000 in
set_option maxRecDepth 100000 in
theorem oX_equation_56 (l : Launch) (D : va_G) (kA : Nat → ClassId) (z : Nat) (v : Nat → Nat) (rec rex : mF) (ih : ∀ t σ xs res, rec t σ xs = some res → mSem l D kA z v t σ xs res) (ihx : ∀ t σ xs res, rex t σ xs = some res → xSem l D kA z v t σ xs res) (σ : mS) (xs : List Int32) (res : mR) (h : u_6 (kX_equation_56 rec rex σ) xs = some res) : sX_equation_56 l D kA z v σ xs res := by
  intro x0 x1 x2 x3 x4 x5 hxs
  subst hxs
  obtain ⟨σf, rf, dd⟩ := res
  have h : (lt_ (mI σ 3000 0) (fun u => some (u, x5, 0))) = some (σf, rf, dd) := h
  intro p e s m args below meth c F Lo σ0 hF hLo C hT
  dsimp only at hF hLo hT ⊢
  obtain ⟨o, ho⟩ : ∃ o, o = xo (σf, rf) := ⟨_, rfl⟩
  rw [← ho] at hT ⊢
  have h := it_l h
  cases h
  exact xr_iret (pc := 56) C ho d_MM_equation_56
set_option maxHeartbeats 4000000 in
set_option maxRecDepth 100000 in
theorem oX_side1 (l : Launch) (D : va_G) (kA : Nat → ClassId) (z : Nat) (v : Nat → Nat) (rec rex : mF) (ih : ∀ t σ xs res, rec t σ xs = some res → mSem l D kA z v t σ xs res) (ihx : ∀ t σ xs res, rex t σ xs = some res → xSem l D kA z v t σ xs res) (σ : mS) (xs : List Int32) (res : mR) (h : u_1 (kX_side1 rec rex σ) xs = some res) : sX_side1 l D kA z v σ xs res := by
  intro x0 hxs
  subst hxs
  obtain ⟨σf, rf, dd⟩ := res
  have h : (bnd (rec tM_peek σ []) (fun σ1 r1 => if r1 = 1 then (bnd (rex tX_variable σ1 []) (fun σ6 r6 => if σ6.1 3000 = 0 then (bnd (rec tM_take σ6 []) (fun σ7 r7 => bnd (rec tM_term σ7 [(((-1) : Int32) - r6), (-1)]) (fun σ8 r8 => lt_ (mI σ8 3000 0) (fun u => some (u, r8, 0))))) else (some (σ6, 0, 0)))) else (if r1 = 2 then (bnd (rex tX_symbol1 σ1 []) (fun σ2 r2 => if σ2.1 3000 = 0 then (bnd (rec tM_take σ2 []) (fun σ3 r3 => bnd (rec tM_peek σ3 []) (fun σ4 r4 => if r4 = 40 then (bnd (rex tX_arguments σ4 [x0]) (fun σ5 r5 => if σ5.1 3000 = 0 then (rex tX_side1_71 σ5 [x0, r1, (σ1.1 9), r2, r5]) else (some (σ5, 0, 0)))) else (rex tX_side1_71 σ4 [x0, r1, (σ1.1 9), r2, (-1)])))) else (some (σ2, 0, 0)))) else (if σ1.1 8 = 304 then (lt_ (mI σ1 3003 3) (fun u1 => lt_ (mI u1 3004 (σ1.1 9)) (fun u2 => lt_ (mI u2 3000 1) (fun u3 => some (u3, 0, 0))))) else (lt_ (mI σ1 3003 1) (fun u1 => lt_ (mI u1 3004 (σ1.1 9)) (fun u2 => lt_ (mI u2 3000 1) (fun u3 => some (u3, 0, 0))))))))) = some (σf, rf, dd) := h
  obtain ⟨o, ho⟩ : ∃ o, o = xo (σf, rf) := ⟨_, rfl⟩
  show xMi l D kA y_MM_side1 b_MM_side1 6 .int (dd + 8) (48 * dd + 400) [.ref z, .int x0] (mmW kA z v σ) z v σf (xo (σf, rf))
  rw [← ho]
  refine xMi.of (by decide +kernel) (Nat.le_of_ble_eq_true rfl) ?_
  intro p e s m args below meth c C hT
  have C : ax_C p s m args meth c b_MM_side1 "ClauseProverModel" 6 (some .int) D kA (va_A (mmW kA z v σ) s.heap.size) := C
  obtain ⟨F, hFe⟩ : ∃ F, F = dd + 8 := ⟨_, rfl⟩
  obtain ⟨Lo, hLoe⟩ : ∃ Lo, Lo = 48 * dd + 400 := ⟨_, rfl⟩
  obtain ⟨σ0, hσ0⟩ : ∃ s0, s0 = σ := ⟨_, rfl⟩
  suffices K : AW p l e { frames := F, cells := xmc o, slots := xms o, locals := Lo } s m args below meth c D kA (va_A (mmW kA z v σ0) s.heap.size) 6 (xQi below args s D kA (mmW kA z v σ0) z v σf o) 0 [(0, .ref z), (1, .int x0)] [] (mmW kA z v σ) 0 0 by rw [hFe, hLoe, hσ0] at K; exact ax_ls ([(0, .ref z), (1, .int x0)]) [0, 1] rfl K
  have C : ax_C p s m args meth c b_MM_side1 "ClauseProverModel" 6 (some .int) D kA (va_A (mmW kA z v σ0) s.heap.size) := by rw [hσ0]; exact C
  have hT : XT o l e s m meth c (va_A (mmW kA z v σ0) s.heap.size) := by rw [hσ0]; exact hT
  have hF : dd + 8 ≤ F := by omega
  have hLo : 48 * dd + 400 ≤ Lo := by omega
  clear hFe hLoe hσ0
  refine ax_aload_n (pc := 0) C d_MM_side1_0 rfl 0 rfl ?_
  obtain ⟨σ1, r1, d1_1, d2_1, h1, h, hd2, hd1⟩ := it_b h
  have hm : sM_peek l D kA z v σ [] (σ1, r1, d1_1) := ih tM_peek _ _ _ h1
  refine mc_Vi (pc := 1) C (As := []) (rest := []) (hm rfl) ml_MM_422 d_MM_side1_1 rfl rfl (by dsimp only; omega) (by dsimp only; omega) (Nat.zero_le _) (Nat.zero_le _) (Nat.le_of_ble_eq_true rfl) ?_
  have hF : d2_1 + 8 ≤ F := by omega
  have hLo : 48 * d2_1 + 400 ≤ Lo := by omega
  refine ax_istore_n (pc := 4) C d_MM_side1_4 rfl (Nat.le_of_ble_eq_true rfl) ([(2, .int r1), (0, .ref z), (1, .int x0)]) rfl ?_
  refine ax_iload_n (pc := 5) C d_MM_side1_5 rfl 0 rfl ?_
  refine ax_iconst (pc := 6) C 1 d_MM_side1_6 (by decide +kernel) ?_
  refine ax_icmp_ne (pc := 7) C 28 d_MM_side1_7 (by decide) (fun hc => ?_) (fun hc => ?_)
  · have h := it_f hc h
    refine ax_iload_n (pc := 28) C d_MM_side1_28 rfl 0 rfl ?_
    refine ax_iconst (pc := 29) C 2 d_MM_side1_29 (by decide +kernel) ?_
    refine ax_icmp_eq (pc := 30) C 38 d_MM_side1_30 (by decide) (fun hc => ?_) (fun hc => ?_)
    · have h := it_t hc h
      refine ax_aload_n (pc := 38) C d_MM_side1_38 rfl 1 rfl ?_
      refine mg_39 (pc := 39) C d_MM_side1_39 ?_
      refine ax_istore_n (pc := 42) C d_MM_side1_42 rfl (Nat.le_of_ble_eq_true rfl) ([(3, .int (σ1.1 9)), (2, .int r1), (0, .ref z), (1, .int x0)]) rfl ?_
      refine ax_aload_n (pc := 43) C d_MM_side1_43 rfl 2 rfl ?_
      obtain ⟨σ2, r2, d1_2, d2_2, h1, h, hd2, hd1⟩ := it_b h
      have hm : sX_symbol1 l D kA z v σ1 [] (σ2, r2, d1_2) := ihx tX_symbol1 _ _ _ h1
      by_cases hq : σ2.1 3000 = 0
      · have h := it_t hq h
        refine mcx_Vi (pc := 44) C (As := []) (rest := []) (hm rfl) hq ml_MM_495 d_MM_side1_44 rfl rfl (by dsimp only; omega) (by dsimp only; omega) (Nat.zero_le _) (Nat.zero_le _) (Nat.le_of_ble_eq_true rfl) ?_
        have hF : d2_2 + 8 ≤ F := by omega
        have hLo : 48 * d2_2 + 400 ≤ Lo := by omega
        refine ax_istore (pc := 47) C d_MM_side1_47 (Nat.le_of_ble_eq_true rfl) ([(4, .int r2), (3, .int (σ1.1 9)), (2, .int r1), (0, .ref z), (1, .int x0)]) rfl ?_
        refine ax_aload_n (pc := 49) C d_MM_side1_49 rfl 3 rfl ?_
        obtain ⟨σ3, r3, d1_3, d2_3, h1, h, hd2, hd1⟩ := it_b h
        have hm : sM_take l D kA z v σ2 [] (σ3, r3, d1_3) := ih tM_take _ _ _ h1
        refine mc_Vv (pc := 50) C (As := []) (rest := []) (hm rfl) ml_MM_435 d_MM_side1_50 rfl rfl (by dsimp only; omega) (by dsimp only; omega) (Nat.zero_le _) (Nat.zero_le _) (Nat.le_of_ble_eq_true rfl) ?_
        have hF : d2_3 + 8 ≤ F := by omega
        have hLo : 48 * d2_3 + 400 ≤ Lo := by omega
        refine ax_aload_n (pc := 53) C d_MM_side1_53 rfl 3 rfl ?_
        obtain ⟨σ4, r4, d1_4, d2_4, h1, h, hd2, hd1⟩ := it_b h
        have hm : sM_peek l D kA z v σ3 [] (σ4, r4, d1_4) := ih tM_peek _ _ _ h1
        refine mc_Vi (pc := 54) C (As := []) (rest := []) (hm rfl) ml_MM_422 d_MM_side1_54 rfl rfl (by dsimp only; omega) (by dsimp only; omega) (Nat.zero_le _) (Nat.zero_le _) (Nat.le_of_ble_eq_true rfl) ?_
        have hF : d2_4 + 8 ≤ F := by omega
        have hLo : 48 * d2_4 + 400 ≤ Lo := by omega
        refine ax_bipush (pc := 57) C 40 d_MM_side1_57 (by decide +kernel) ?_
        refine ax_icmp_ne (pc := 59) C 70 d_MM_side1_59 (by decide) (fun hc => ?_) (fun hc => ?_)
        · have h := it_f hc h
          refine ax_iconst (pc := 70) C (-1) d_MM_side1_70 (by decide +kernel) ?_
          refine ax_ls ([(0, .ref z), (1, .int x0), (2, .int r1), (3, .int (σ1.1 9)), (4, .int r2)]) [3, 4, 2, 1, 0] rfl ?_
          have hm : sX_side1_71 l D kA z v σ4 [x0, r1, (σ1.1 9), r2, (-1)] (σf, rf, _) := ihx tX_side1_71 _ _ _ h
          subst ho
          exact hm _ _ _ _ _ rfl p e s m args below meth c F Lo σ0 hF hLo C hT
        · have h := it_t hc h
          refine ax_aload_n (pc := 62) C d_MM_side1_62 rfl 3 rfl ?_
          refine ax_iload_n (pc := 63) C d_MM_side1_63 rfl 4 rfl ?_
          obtain ⟨σ5, r5, d1_5, d2_5, h1, h, hd2, hd1⟩ := it_b h
          have hm : sX_arguments l D kA z v σ4 [x0] (σ5, r5, d1_5) := ihx tX_arguments _ _ _ h1
          by_cases hq : σ5.1 3000 = 0
          · have h := it_t hq h
            refine mcx_Vi (pc := 64) C (As := [.int x0]) (rest := []) (hm _ rfl) hq ml_MM_498 d_MM_side1_64 rfl rfl (by dsimp only; omega) (by dsimp only; omega) (Nat.zero_le _) (Nat.zero_le _) (Nat.le_of_ble_eq_true rfl) ?_
            have hF : d2_5 + 8 ≤ F := by omega
            have hLo : 48 * d2_5 + 400 ≤ Lo := by omega
            refine ax_goto (pc := 67) C 71 d_MM_side1_67 (by decide) ?_
            refine ax_ls ([(0, .ref z), (1, .int x0), (2, .int r1), (3, .int (σ1.1 9)), (4, .int r2)]) [3, 4, 2, 1, 0] rfl ?_
            have hm : sX_side1_71 l D kA z v σ5 [x0, r1, (σ1.1 9), r2, r5] (σf, rf, _) := ihx tX_side1_71 _ _ _ h
            subst ho
            exact hm _ _ _ _ _ rfl p e s m args below meth c F Lo σ0 hF hLo C hT
          · have h := it_f hq h
            cases h
            obtain ⟨hT1, hX⟩ := hT (by rw [ho]; exact xo_thr hq)
            rw [xQi_thr (by rw [ho]; exact xo_thr hq)]
            exact mcx_P (pc := 64) C (As := [.int x0]) (rest := []) hX (xt_none hT1 _) ho hq (xMi_thr hq (hm _ rfl)) ml_MM_498 d_MM_side1_64 rfl rfl (by dsimp only; omega) (by dsimp only; omega) (Nat.le_of_ble_eq_true rfl)
      · have h := it_f hq h
        cases h
        obtain ⟨hT1, hX⟩ := hT (by rw [ho]; exact xo_thr hq)
        rw [xQi_thr (by rw [ho]; exact xo_thr hq)]
        exact mcx_P (pc := 44) C (As := []) (rest := []) hX (xt_none hT1 _) ho hq (xMi_thr hq (hm rfl)) ml_MM_495 d_MM_side1_44 rfl rfl (by dsimp only; omega) (by dsimp only; omega) (Nat.le_of_ble_eq_true rfl)
    · have h := it_f hc h
      refine ax_aload_n (pc := 33) C d_MM_side1_33 rfl 1 rfl ?_
      by_cases hq : σ1.1 8 = 304
      · have h := it_t hq h
        have h := it_l (it_l (it_l h))
        cases h
        obtain rfl : o = xWr 3 (σ1.1 9) := ho.trans (xo_wrong _ _ _)
        obtain ⟨hT1, hX⟩ := hT rfl
        refine mx_cant3 (pc := 34) C (rest := []) hX hq ml_MM_431 d_MM_side1_34 (Nat.le_of_ble_eq_true rfl) (by dsimp only; omega) (by dsimp only; omega) (Nat.le_of_ble_eq_true rfl) (Nat.le_of_ble_eq_true rfl) (fun q => ?_)
        exact xr_Wi (pc := 37) C (xt_none hT1 _) d_MM_side1_37 (Nat.le_of_ble_eq_true rfl) (Nat.le_of_ble_eq_true rfl)
      · have h := it_f hq h
        have h := it_l (it_l (it_l h))
        cases h
        obtain rfl : o = xWr 1 (σ1.1 9) := ho.trans (xo_wrong _ _ _)
        obtain ⟨hT1, hX⟩ := hT rfl
        refine mx_cant1 (pc := 34) C (rest := []) hX hq ml_MM_431 d_MM_side1_34 (Nat.le_of_ble_eq_true rfl) (by dsimp only; omega) (by dsimp only; omega) (Nat.le_of_ble_eq_true rfl) (Nat.le_of_ble_eq_true rfl) (fun q => ?_)
        exact xr_Wi (pc := 37) C (xt_none hT1 _) d_MM_side1_37 (Nat.le_of_ble_eq_true rfl) (Nat.le_of_ble_eq_true rfl)
  · have h := it_t hc h
    refine ax_aload_n (pc := 10) C d_MM_side1_10 rfl 1 rfl ?_
    obtain ⟨σ6, r6, d1_6, d2_6, h1, h, hd2, hd1⟩ := it_b h
    have hm : sX_variable l D kA z v σ1 [] (σ6, r6, d1_6) := ihx tX_variable _ _ _ h1
    by_cases hq : σ6.1 3000 = 0
    · have h := it_t hq h
      refine mcx_Vi (pc := 11) C (As := []) (rest := []) (hm rfl) hq ml_MM_486 d_MM_side1_11 rfl rfl (by dsimp only; omega) (by dsimp only; omega) (Nat.zero_le _) (Nat.zero_le _) (Nat.le_of_ble_eq_true rfl) ?_
      have hF : d2_6 + 8 ≤ F := by omega
      have hLo : 48 * d2_6 + 400 ≤ Lo := by omega
      refine ax_istore_n (pc := 14) C d_MM_side1_14 rfl (Nat.le_of_ble_eq_true rfl) ([(3, .int r6), (2, .int r1), (0, .ref z), (1, .int x0)]) rfl ?_
      refine ax_aload_n (pc := 15) C d_MM_side1_15 rfl 2 rfl ?_
      obtain ⟨σ7, r7, d1_7, d2_7, h1, h, hd2, hd1⟩ := it_b h
      have hm : sM_take l D kA z v σ6 [] (σ7, r7, d1_7) := ih tM_take _ _ _ h1
      refine mc_Vv (pc := 16) C (As := []) (rest := []) (hm rfl) ml_MM_435 d_MM_side1_16 rfl rfl (by dsimp only; omega) (by dsimp only; omega) (Nat.zero_le _) (Nat.zero_le _) (Nat.le_of_ble_eq_true rfl) ?_
      have hF : d2_7 + 8 ≤ F := by omega
      have hLo : 48 * d2_7 + 400 ≤ Lo := by omega
      refine ax_aload_n (pc := 19) C d_MM_side1_19 rfl 2 rfl ?_
      refine ax_iconst (pc := 20) C (-1) d_MM_side1_20 (by decide +kernel) ?_
      refine ax_iload_n (pc := 21) C d_MM_side1_21 rfl 0 rfl ?_
      refine ax_isub (pc := 22) C d_MM_side1_22 ?_
      refine ax_iconst (pc := 23) C (-1) d_MM_side1_23 (by decide +kernel) ?_
      obtain ⟨σ8, r8, d1_8, d2_8, h1, h, hd2, hd1⟩ := it_b h
      have hm : sM_term l D kA z v σ7 [(((-1) : Int32) - r6), (-1)] (σ8, r8, d1_8) := ih tM_term _ _ _ h1
      refine mc_Vi (pc := 24) C (As := [.int (((-1) : Int32) - r6), .int (-1)]) (rest := []) (hm _ _ rfl) ml_MM_489 d_MM_side1_24 rfl rfl (by dsimp only; omega) (by dsimp only; omega) (Nat.zero_le _) (Nat.zero_le _) (Nat.le_of_ble_eq_true rfl) ?_
      have hF : d2_8 + 8 ≤ F := by omega
      have hLo : 48 * d2_8 + 400 ≤ Lo := by omega
      have h := it_l h
      cases h
      exact xr_iret (pc := 27) C ho d_MM_side1_27
    · have h := it_f hq h
      cases h
      obtain ⟨hT1, hX⟩ := hT (by rw [ho]; exact xo_thr hq)
      rw [xQi_thr (by rw [ho]; exact xo_thr hq)]
      exact mcx_P (pc := 11) C (As := []) (rest := []) hX (xt_none hT1 _) ho hq (xMi_thr hq (hm rfl)) ml_MM_486 d_MM_side1_11 rfl rfl (by dsimp only; omega) (by dsimp only; omega) (Nat.le_of_ble_eq_true rfl)
set_option maxHeartbeats 4000000 in
set_option maxRecDepth 100000 in
theorem oX_side1_71 (l : Launch) (D : va_G) (kA : Nat → ClassId) (z : Nat) (v : Nat → Nat) (rec rex : mF) (ih : ∀ t σ xs res, rec t σ xs = some res → mSem l D kA z v t σ xs res) (ihx : ∀ t σ xs res, rex t σ xs = some res → xSem l D kA z v t σ xs res) (σ : mS) (xs : List Int32) (res : mR) (h : u_5 (kX_side1_71 rec rex σ) xs = some res) : sX_side1_71 l D kA z v σ xs res := by
  intro x0 x1 x2 x3 x4 hxs
  subst hxs
  obtain ⟨σf, rf, dd⟩ := res
  have h : (bnd (rec tM_length σ [x4]) (fun σ1 r1 => bnd (rex tX_check σ1 [x3, 2, r1, x2]) (fun σ2 r2 => if σ2.1 3000 = 0 then (bnd (rec tM_term σ2 [x3, x4]) (fun σ3 r3 => lt_ (mI σ3 3000 0) (fun u => some (u, r3, 0)))) else (some (σ2, 0, 0))))) = some (σf, rf, dd) := h
  intro p e s m args below meth c F Lo σ0 hF hLo C hT
  dsimp only at hF hLo hT ⊢
  obtain ⟨o, ho⟩ : ∃ o, o = xo (σf, rf) := ⟨_, rfl⟩
  rw [← ho] at hT ⊢
  refine ax_istore (pc := 71) C d_MM_side1_71 (Nat.le_of_ble_eq_true rfl) ([(5, .int x4), (0, .ref z), (1, .int x0), (2, .int x1), (3, .int x2), (4, .int x3)]) rfl ?_
  refine ax_aload_n (pc := 73) C d_MM_side1_73 rfl 1 rfl ?_
  refine ax_iload (pc := 74) C d_MM_side1_74 5 rfl ?_
  refine ax_iconst (pc := 76) C 2 d_MM_side1_76 (by decide +kernel) ?_
  refine ax_aload_n (pc := 77) C d_MM_side1_77 rfl 1 rfl ?_
  refine ax_iload (pc := 78) C d_MM_side1_78 0 rfl ?_
  obtain ⟨σ1, r1, d1_1, d2_1, h1, h, hd2, hd1⟩ := it_b h
  have hm : sM_length l D kA z v σ [x4] (σ1, r1, d1_1) := ih tM_length _ _ _ h1
  refine mc_Vi (pc := 80) C (As := [.int x4]) (rest := [.int 2, .int x3, .ref z]) (hm _ rfl) ml_MM_501 d_MM_side1_80 rfl rfl (by dsimp only; omega) (by dsimp only; omega) (Nat.zero_le _) (Nat.zero_le _) (Nat.le_of_ble_eq_true rfl) ?_
  have hF : d2_1 + 8 ≤ F := by omega
  have hLo : 48 * d2_1 + 400 ≤ Lo := by omega
  refine ax_iload_n (pc := 83) C d_MM_side1_83 rfl 4 rfl ?_
  obtain ⟨σ2, r2, d1_2, d2_2, h1, h, hd2, hd1⟩ := it_b h
  have hm : sX_check l D kA z v σ1 [x3, 2, r1, x2] (σ2, r2, d1_2) := ihx tX_check _ _ _ h1
  by_cases hq : σ2.1 3000 = 0
  · have h := it_t hq h
    refine mcx_Vv (pc := 84) C (As := [.int x3, .int 2, .int r1, .int x2]) (rest := []) (hm _ _ _ _ rfl) hq ml_MM_504 d_MM_side1_84 rfl rfl (by dsimp only; omega) (by dsimp only; omega) (Nat.zero_le _) (Nat.zero_le _) (Nat.le_of_ble_eq_true rfl) ?_
    have hF : d2_2 + 8 ≤ F := by omega
    have hLo : 48 * d2_2 + 400 ≤ Lo := by omega
    refine ax_aload_n (pc := 87) C d_MM_side1_87 rfl 1 rfl ?_
    refine ax_iload (pc := 88) C d_MM_side1_88 5 rfl ?_
    refine ax_iload (pc := 90) C d_MM_side1_90 0 rfl ?_
    obtain ⟨σ3, r3, d1_3, d2_3, h1, h, hd2, hd1⟩ := it_b h
    have hm : sM_term l D kA z v σ2 [x3, x4] (σ3, r3, d1_3) := ih tM_term _ _ _ h1
    refine mc_Vi (pc := 92) C (As := [.int x3, .int x4]) (rest := []) (hm _ _ rfl) ml_MM_489 d_MM_side1_92 rfl rfl (by dsimp only; omega) (by dsimp only; omega) (Nat.zero_le _) (Nat.zero_le _) (Nat.le_of_ble_eq_true rfl) ?_
    have hF : d2_3 + 8 ≤ F := by omega
    have hLo : 48 * d2_3 + 400 ≤ Lo := by omega
    have h := it_l h
    cases h
    exact xr_iret (pc := 95) C ho d_MM_side1_95
  · have h := it_f hq h
    cases h
    obtain ⟨hT1, hX⟩ := hT (by rw [ho]; exact xo_thr hq)
    rw [xQi_thr (by rw [ho]; exact xo_thr hq)]
    exact mcx_P (pc := 84) C (As := [.int x3, .int 2, .int r1, .int x2]) (rest := []) hX (xt_none hT1 _) ho hq (xMv_thr hq (hm _ _ _ _ rfl)) ml_MM_504 d_MM_side1_84 rfl rfl (by dsimp only; omega) (by dsimp only; omega) (Nat.le_of_ble_eq_true rfl)
set_option maxHeartbeats 4000000 in
set_option maxRecDepth 100000 in
theorem oX_symbol1 (l : Launch) (D : va_G) (kA : Nat → ClassId) (z : Nat) (v : Nat → Nat) (rec rex : mF) (ih : ∀ t σ xs res, rec t σ xs = some res → mSem l D kA z v t σ xs res) (ihx : ∀ t σ xs res, rex t σ xs = some res → xSem l D kA z v t σ xs res) (σ : mS) (xs : List Int32) (res : mR) (h : u_0 (kX_symbol1 rec rex σ) xs = some res) : sX_symbol1 l D kA z v σ xs res := by
  intro hxs
  subst hxs
  obtain ⟨σf, rf, dd⟩ := res
  have h : (rex tX_symbol1_12 σ [(((σ.1 10) : Int32) - (σ.1 9)), 1]) = some (σf, rf, dd) := h
  obtain ⟨o, ho⟩ : ∃ o, o = xo (σf, rf) := ⟨_, rfl⟩
  show xMi l D kA y_MM_symbol1 b_MM_symbol1 5 .int (dd + 8) (48 * dd + 400) [.ref z] (mmW kA z v σ) z v σf (xo (σf, rf))
  rw [← ho]
  refine xMi.of (by decide +kernel) (Nat.le_of_ble_eq_true rfl) ?_
  intro p e s m args below meth c C hT
  have C : ax_C p s m args meth c b_MM_symbol1 "ClauseProverModel" 5 (some .int) D kA (va_A (mmW kA z v σ) s.heap.size) := C
  obtain ⟨F, hFe⟩ : ∃ F, F = dd + 8 := ⟨_, rfl⟩
  obtain ⟨Lo, hLoe⟩ : ∃ Lo, Lo = 48 * dd + 400 := ⟨_, rfl⟩
  obtain ⟨σ0, hσ0⟩ : ∃ s0, s0 = σ := ⟨_, rfl⟩
  suffices K : AW p l e { frames := F, cells := xmc o, slots := xms o, locals := Lo } s m args below meth c D kA (va_A (mmW kA z v σ0) s.heap.size) 5 (xQi below args s D kA (mmW kA z v σ0) z v σf o) 0 [(0, .ref z)] [] (mmW kA z v σ) 0 0 by rw [hFe, hLoe, hσ0] at K; exact ax_ls ([(0, .ref z)]) [0] rfl K
  have C : ax_C p s m args meth c b_MM_symbol1 "ClauseProverModel" 5 (some .int) D kA (va_A (mmW kA z v σ0) s.heap.size) := by rw [hσ0]; exact C
  have hT : XT o l e s m meth c (va_A (mmW kA z v σ0) s.heap.size) := by rw [hσ0]; exact hT
  have hF : dd + 8 ≤ F := by omega
  have hLo : 48 * dd + 400 ≤ Lo := by omega
  clear hFe hLoe hσ0
  refine ax_aload_n (pc := 0) C d_MM_symbol1_0 rfl 0 rfl ?_
  refine mg_42 (pc := 1) C d_MM_symbol1_1 ?_
  refine ax_aload_n (pc := 4) C d_MM_symbol1_4 rfl 0 rfl ?_
  refine mg_39 (pc := 5) C d_MM_symbol1_5 ?_
  refine ax_isub (pc := 8) C d_MM_symbol1_8 ?_
  refine ax_istore_n (pc := 9) C d_MM_symbol1_9 rfl (Nat.le_of_ble_eq_true rfl) ([(1, .int (((σ.1 10) : Int32) - (σ.1 9))), (0, .ref z)]) rfl ?_
  refine ax_iconst (pc := 10) C 1 d_MM_symbol1_10 (by decide +kernel) ?_
  refine ax_istore_n (pc := 11) C d_MM_symbol1_11 rfl (Nat.le_of_ble_eq_true rfl) ([(2, .int 1), (1, .int (((σ.1 10) : Int32) - (σ.1 9))), (0, .ref z)]) rfl ?_
  refine ax_ls ([(0, .ref z), (1, .int (((σ.1 10) : Int32) - (σ.1 9))), (2, .int 1)]) [2, 1, 0] rfl ?_
  have hm : sX_symbol1_12 l D kA z v σ [(((σ.1 10) : Int32) - (σ.1 9)), 1] (σf, rf, _) := ihx tX_symbol1_12 _ _ _ h
  subst ho
  exact hm _ _ rfl p e s m args below meth c F Lo σ0 hF hLo C hT
set_option maxHeartbeats 4000000 in
set_option maxRecDepth 100000 in
theorem oX_symbol1_12 (l : Launch) (D : va_G) (kA : Nat → ClassId) (z : Nat) (v : Nat → Nat) (rec rex : mF) (ih : ∀ t σ xs res, rec t σ xs = some res → mSem l D kA z v t σ xs res) (ihx : ∀ t σ xs res, rex t σ xs = some res → xSem l D kA z v t σ xs res) (σ : mS) (xs : List Int32) (res : mR) (h : u_2 (kX_symbol1_12 rec rex σ) xs = some res) : sX_symbol1_12 l D kA z v σ xs res := by
  intro x0 x1 hxs
  subst hxs
  obtain ⟨σf, rf, dd⟩ := res
  have h : (if (σ.1 20) < x1 then (if (σ.1 20) = 250 then (lt_ (mI σ 3003 3) (fun u1 => lt_ (mI u1 3004 (σ.1 9)) (fun u2 => lt_ (mI u2 3000 1) (fun u3 => some (u3, 0, 0))))) else (lt_ (mI σ 20 (((σ.1 20) : Int32) + 1)) (fun σ1 => if bin (σ1.1 20) 900 = true then (lt_ (mA σ1 13 (Int32.toNatClampNeg (σ1.1 20)) (σ1.1 18)) (fun σ2 => if bin (σ2.1 20) 900 = true then (lt_ (mA σ2 14 (Int32.toNatClampNeg (σ2.1 20)) x0) (fun σ3 => if bin (σ3.1 20) 900 = true then (lt_ (mA σ3 16 (Int32.toNatClampNeg (σ3.1 20)) 0) (fun σ4 => rex tX_symbol1_170 σ4 [x0, 0])) else none)) else none)) else none))) else (if bin x1 900 = true then (if (σ.2.1 14 (Int32.toNatClampNeg x1)) = x0 then (rex tX_symbol1_35 σ [x0, x1, 1]) else (rex tX_symbol1_35 σ [x0, x1, 0])) else none)) = some (σf, rf, dd) := h
  intro p e s m args below meth c F Lo σ0 hF hLo C hT
  dsimp only at hF hLo hT ⊢
  obtain ⟨o, ho⟩ : ∃ o, o = xo (σf, rf) := ⟨_, rfl⟩
  rw [← ho] at hT ⊢
  refine ax_iload_n (pc := 12) C d_MM_symbol1_12 rfl 2 rfl ?_
  refine ax_aload_n (pc := 13) C d_MM_symbol1_13 rfl 0 rfl ?_
  refine mg_74 (pc := 14) C d_MM_symbol1_14 ?_
  refine ax_icmp_gt (pc := 17) C 102 d_MM_symbol1_17 (by decide) (fun hc => ?_) (fun hc => ?_)
  · have h := it_t hc h
    refine ax_aload_n (pc := 102) C d_MM_symbol1_102 rfl 0 rfl ?_
    refine mg_74 (pc := 103) C d_MM_symbol1_103 ?_
    refine ax_sipush (pc := 106) C 250 d_MM_symbol1_106 (by decide +kernel) ?_
    refine ax_icmp_ne (pc := 109) C 125 d_MM_symbol1_109 (by decide) (fun hc => ?_) (fun hc => ?_)
    · have h := it_f hc h
      refine ax_aload_n (pc := 125) C d_MM_symbol1_125 rfl 0 rfl ?_
      refine ax_dup (pc := 126) C d_MM_symbol1_126 rfl ?_
      refine mg_74 (pc := 127) C d_MM_symbol1_127 ?_
      refine ax_iconst (pc := 130) C 1 d_MM_symbol1_130 (by decide +kernel) ?_
      refine ax_iadd (pc := 131) C d_MM_symbol1_131 ?_
      refine mp_74 (pc := 132) C d_MM_symbol1_132 ?_
      have h := it_l h
      generalize mI σ 20 (((σ.1 20) : Int32) + 1) = σ1 at h ⊢
      refine ax_aload_n (pc := 135) C d_MM_symbol1_135 rfl 0 rfl ?_
      refine mg_52 (pc := 136) C d_MM_symbol1_136 ?_
      refine ax_aload_n (pc := 139) C d_MM_symbol1_139 rfl 0 rfl ?_
      refine mg_74 (pc := 140) C d_MM_symbol1_140 ?_
      refine ax_aload_n (pc := 143) C d_MM_symbol1_143 rfl 0 rfl ?_
      refine mg_68 (pc := 144) C d_MM_symbol1_144 ?_
      obtain ⟨hb, h⟩ := it_g h
      refine ms_13 (pc := 147) C d_MM_symbol1_147 (bin_in hb) ?_
      have h := it_l h
      generalize mA σ1 13 (Int32.toNatClampNeg (σ1.1 20)) (σ1.1 18) = σ2 at h ⊢
      refine ax_aload_n (pc := 148) C d_MM_symbol1_148 rfl 0 rfl ?_
      refine mg_56 (pc := 149) C d_MM_symbol1_149 ?_
      refine ax_aload_n (pc := 152) C d_MM_symbol1_152 rfl 0 rfl ?_
      refine mg_74 (pc := 153) C d_MM_symbol1_153 ?_
      refine ax_iload_n (pc := 156) C d_MM_symbol1_156 rfl 1 rfl ?_
      obtain ⟨hb, h⟩ := it_g h
      refine ms_14 (pc := 157) C d_MM_symbol1_157 (bin_in hb) ?_
      have h := it_l h
      generalize mA σ2 14 (Int32.toNatClampNeg (σ2.1 20)) x0 = σ3 at h ⊢
      refine ax_aload_n (pc := 158) C d_MM_symbol1_158 rfl 0 rfl ?_
      refine mg_62 (pc := 159) C d_MM_symbol1_159 ?_
      refine ax_aload_n (pc := 162) C d_MM_symbol1_162 rfl 0 rfl ?_
      refine mg_74 (pc := 163) C d_MM_symbol1_163 ?_
      refine ax_iconst (pc := 166) C 0 d_MM_symbol1_166 (by decide +kernel) ?_
      obtain ⟨hb, h⟩ := it_g h
      refine ms_16 (pc := 167) C d_MM_symbol1_167 (bin_in hb) ?_
      have h := it_l h
      generalize mA σ3 16 (Int32.toNatClampNeg (σ3.1 20)) 0 = σ4 at h ⊢
      refine ax_iconst (pc := 168) C 0 d_MM_symbol1_168 (by decide +kernel) ?_
      refine ax_istore_n (pc := 169) C d_MM_symbol1_169 rfl (Nat.le_of_ble_eq_true rfl) ([(2, .int 0), (0, .ref z), (1, .int x0)]) rfl ?_
      refine ax_ls ([(0, .ref z), (1, .int x0), (2, .int 0)]) [1, 2, 0] rfl ?_
      have hm : sX_symbol1_170 l D kA z v σ4 [x0, 0] (σf, rf, _) := ihx tX_symbol1_170 _ _ _ h
      subst ho
      exact hm _ _ rfl p e s m args below meth c F Lo σ0 hF hLo C hT
    · have h := it_t hc h
      have h := it_l (it_l (it_l h))
      cases h
      obtain rfl : o = xWr 3 (σ.1 9) := ho.trans (xo_wrong _ _ _)
      obtain ⟨hT1, hX⟩ := hT rfl
      refine mx_new8 (pc := 112) C (Nat.le_of_ble_eq_true rfl) (Nat.le_of_ble_eq_true rfl) d_MM_symbol1_112 (fun q => ?_)
      refine ax_dup (pc := 115) C d_MM_symbol1_115 rfl ?_
      refine ax_iconst (pc := 116) C 3 d_MM_symbol1_116 (by decide +kernel) ?_
      refine ax_aload_n (pc := 117) C d_MM_symbol1_117 rfl 0 rfl ?_
      refine mgx_39 (pc := 118) C d_MM_symbol1_118 ?_
      refine mx_initW (pc := 121) C hX d_MM_symbol1_121 (Nat.le_of_ble_eq_true rfl) (by dsimp only; omega) (by dsimp only; omega) (Nat.le_of_ble_eq_true rfl) (Nat.le_of_ble_eq_true rfl) ?_
      exact xr_Wi (pc := 124) C (xt_none hT1 _) d_MM_symbol1_124 (Nat.le_of_ble_eq_true rfl) (Nat.le_of_ble_eq_true rfl)
  · have h := it_f hc h
    refine ax_aload_n (pc := 20) C d_MM_symbol1_20 rfl 0 rfl ?_
    refine mg_56 (pc := 21) C d_MM_symbol1_21 ?_
    refine ax_iload_n (pc := 24) C d_MM_symbol1_24 rfl 2 rfl ?_
    obtain ⟨hb, h⟩ := it_g h
    refine ml_14 (pc := 25) C d_MM_symbol1_25 (bin_in hb) ?_
    refine ax_iload_n (pc := 26) C d_MM_symbol1_26 rfl 1 rfl ?_
    refine ax_icmp_ne (pc := 27) C 34 d_MM_symbol1_27 (by decide) (fun hc => ?_) (fun hc => ?_)
    · have h := it_f hc h
      refine ax_iconst (pc := 34) C 0 d_MM_symbol1_34 (by decide +kernel) ?_
      refine ax_ls ([(0, .ref z), (1, .int x0), (2, .int x1)]) [0, 1, 2] rfl ?_
      have hm : sX_symbol1_35 l D kA z v σ [x0, x1, 0] (σf, rf, _) := ihx tX_symbol1_35 _ _ _ h
      subst ho
      exact hm _ _ _ rfl p e s m args below meth c F Lo σ0 hF hLo C hT
    · have h := it_t hc h
      refine ax_iconst (pc := 30) C 1 d_MM_symbol1_30 (by decide +kernel) ?_
      refine ax_goto (pc := 31) C 35 d_MM_symbol1_31 (by decide) ?_
      refine ax_ls ([(0, .ref z), (1, .int x0), (2, .int x1)]) [0, 1, 2] rfl ?_
      have hm : sX_symbol1_35 l D kA z v σ [x0, x1, 1] (σf, rf, _) := ihx tX_symbol1_35 _ _ _ h
      subst ho
      exact hm _ _ _ rfl p e s m args below meth c F Lo σ0 hF hLo C hT
set_option maxHeartbeats 4000000 in
set_option maxRecDepth 100000 in
theorem oX_symbol1_35 (l : Launch) (D : va_G) (kA : Nat → ClassId) (z : Nat) (v : Nat → Nat) (rec rex : mF) (ih : ∀ t σ xs res, rec t σ xs = some res → mSem l D kA z v t σ xs res) (ihx : ∀ t σ xs res, rex t σ xs = some res → xSem l D kA z v t σ xs res) (σ : mS) (xs : List Int32) (res : mR) (h : u_3 (kX_symbol1_35 rec rex σ) xs = some res) : sX_symbol1_35 l D kA z v σ xs res := by
  intro x0 x1 x2 hxs
  subst hxs
  obtain ⟨σf, rf, dd⟩ := res
  have h : (rex tX_symbol1_39 σ [x0, x1, x2, 0]) = some (σf, rf, dd) := h
  intro p e s m args below meth c F Lo σ0 hF hLo C hT
  dsimp only at hF hLo hT ⊢
  obtain ⟨o, ho⟩ : ∃ o, o = xo (σf, rf) := ⟨_, rfl⟩
  rw [← ho] at hT ⊢
  refine ax_istore_n (pc := 35) C d_MM_symbol1_35 rfl (Nat.le_of_ble_eq_true rfl) ([(3, .int x2), (0, .ref z), (1, .int x0), (2, .int x1)]) rfl ?_
  refine ax_iconst (pc := 36) C 0 d_MM_symbol1_36 (by decide +kernel) ?_
  refine ax_istore (pc := 37) C d_MM_symbol1_37 (Nat.le_of_ble_eq_true rfl) ([(4, .int 0), (3, .int x2), (0, .ref z), (1, .int x0), (2, .int x1)]) rfl ?_
  refine ax_ls ([(0, .ref z), (1, .int x0), (2, .int x1), (3, .int x2), (4, .int 0)]) [2, 3, 4, 1, 0] rfl ?_
  have hm : sX_symbol1_39 l D kA z v σ [x0, x1, x2, 0] (σf, rf, _) := ihx tX_symbol1_39 _ _ _ h
  subst ho
  exact hm _ _ _ _ rfl p e s m args below meth c F Lo σ0 hF hLo C hT
set_option maxHeartbeats 4000000 in
set_option maxRecDepth 100000 in
theorem oX_symbol1_39 (l : Launch) (D : va_G) (kA : Nat → ClassId) (z : Nat) (v : Nat → Nat) (rec rex : mF) (ih : ∀ t σ xs res, rec t σ xs = some res → mSem l D kA z v t σ xs res) (ihx : ∀ t σ xs res, rex t σ xs = some res → xSem l D kA z v t σ xs res) (σ : mS) (xs : List Int32) (res : mR) (h : u_4 (kX_symbol1_39 rec rex σ) xs = some res) : sX_symbol1_39 l D kA z v σ xs res := by
  intro x0 x1 x2 x3 hxs
  subst hxs
  obtain ⟨σf, rf, dd⟩ := res
  have h : (if x2 = 0 then (rex tX_symbol1_90 σ [x0, x1, x2, x3]) else (if x0 ≤ x3 then (rex tX_symbol1_90 σ [x0, x1, x2, x3]) else (if bin x1 900 = true then (if bin (((σ.2.1 13 (Int32.toNatClampNeg x1)) : Int32) + x3) 9000 = true then (if bin (((σ.1 9) : Int32) + x3) 65536 = true then (if (σ.2.1 17 (Int32.toNatClampNeg (((σ.2.1 13 (Int32.toNatClampNeg x1)) : Int32) + x3))) = (σ.2.1 0 (Int32.toNatClampNeg (((σ.1 9) : Int32) + x3))) then (rex tX_symbol1_83 σ [x0, x1, x2, x3, 1]) else (rex tX_symbol1_83 σ [x0, x1, x2, x3, 0])) else none) else none) else none))) = some (σf, rf, dd) := h
  intro p e s m args below meth c F Lo σ0 hF hLo C hT
  dsimp only at hF hLo hT ⊢
  obtain ⟨o, ho⟩ : ∃ o, o = xo (σf, rf) := ⟨_, rfl⟩
  rw [← ho] at hT ⊢
  refine ax_iload_n (pc := 39) C d_MM_symbol1_39 rfl 3 rfl ?_
  refine ax_if_eq (pc := 40) C 90 d_MM_symbol1_40 (by decide) (fun hc => ?_) (fun hc => ?_)
  · have h := it_t hc h
    refine ax_ls ([(0, .ref z), (1, .int x0), (2, .int x1), (3, .int x2), (4, .int x3)]) [0, 1, 2, 3, 4] rfl ?_
    have hm : sX_symbol1_90 l D kA z v σ [x0, x1, x2, x3] (σf, rf, _) := ihx tX_symbol1_90 _ _ _ h
    subst ho
    exact hm _ _ _ _ rfl p e s m args below meth c F Lo σ0 hF hLo C hT
  · have h := it_f hc h
    refine ax_iload (pc := 43) C d_MM_symbol1_43 4 rfl ?_
    refine ax_iload_n (pc := 45) C d_MM_symbol1_45 rfl 1 rfl ?_
    refine ax_icmp_ge (pc := 46) C 90 d_MM_symbol1_46 (by decide) (fun hc => ?_) (fun hc => ?_)
    · have h := it_t hc h
      refine ax_ls ([(0, .ref z), (1, .int x0), (2, .int x1), (3, .int x2), (4, .int x3)]) [0, 1, 2, 3, 4] rfl ?_
      have hm : sX_symbol1_90 l D kA z v σ [x0, x1, x2, x3] (σf, rf, _) := ihx tX_symbol1_90 _ _ _ h
      subst ho
      exact hm _ _ _ _ rfl p e s m args below meth c F Lo σ0 hF hLo C hT
    · have h := it_f hc h
      refine ax_aload_n (pc := 49) C d_MM_symbol1_49 rfl 0 rfl ?_
      refine mg_65 (pc := 50) C d_MM_symbol1_50 ?_
      refine ax_aload_n (pc := 53) C d_MM_symbol1_53 rfl 0 rfl ?_
      refine mg_52 (pc := 54) C d_MM_symbol1_54 ?_
      refine ax_iload_n (pc := 57) C d_MM_symbol1_57 rfl 2 rfl ?_
      obtain ⟨hb, h⟩ := it_g h
      refine ml_13 (pc := 58) C d_MM_symbol1_58 (bin_in hb) ?_
      refine ax_iload (pc := 59) C d_MM_symbol1_59 4 rfl ?_
      refine ax_iadd (pc := 61) C d_MM_symbol1_61 ?_
      obtain ⟨hb, h⟩ := it_g h
      refine ml_17 (pc := 62) C d_MM_symbol1_62 (bin_in hb) ?_
      refine ax_aload_n (pc := 63) C d_MM_symbol1_63 rfl 0 rfl ?_
      refine mg_8 (pc := 64) C d_MM_symbol1_64 ?_
      refine ax_aload_n (pc := 67) C d_MM_symbol1_67 rfl 0 rfl ?_
      refine mg_39 (pc := 68) C d_MM_symbol1_68 ?_
      refine ax_iload (pc := 71) C d_MM_symbol1_71 4 rfl ?_
      refine ax_iadd (pc := 73) C d_MM_symbol1_73 ?_
      obtain ⟨hb, h⟩ := it_g h
      refine ml_0 (pc := 74) C d_MM_symbol1_74 (bin_in hb) ?_
      refine ax_icmp_ne (pc := 75) C 82 d_MM_symbol1_75 (by decide) (fun hc => ?_) (fun hc => ?_)
      · have h := it_f hc h
        refine ax_iconst (pc := 82) C 0 d_MM_symbol1_82 (by decide +kernel) ?_
        refine ax_ls ([(0, .ref z), (1, .int x0), (2, .int x1), (3, .int x2), (4, .int x3)]) [0, 1, 2, 3, 4] rfl ?_
        have hm : sX_symbol1_83 l D kA z v σ [x0, x1, x2, x3, 0] (σf, rf, _) := ihx tX_symbol1_83 _ _ _ h
        subst ho
        exact hm _ _ _ _ _ rfl p e s m args below meth c F Lo σ0 hF hLo C hT
      · have h := it_t hc h
        refine ax_iconst (pc := 78) C 1 d_MM_symbol1_78 (by decide +kernel) ?_
        refine ax_goto (pc := 79) C 83 d_MM_symbol1_79 (by decide) ?_
        refine ax_ls ([(0, .ref z), (1, .int x0), (2, .int x1), (3, .int x2), (4, .int x3)]) [0, 1, 2, 3, 4] rfl ?_
        have hm : sX_symbol1_83 l D kA z v σ [x0, x1, x2, x3, 1] (σf, rf, _) := ihx tX_symbol1_83 _ _ _ h
        subst ho
        exact hm _ _ _ _ _ rfl p e s m args below meth c F Lo σ0 hF hLo C hT
set_option maxHeartbeats 4000000 in
set_option maxRecDepth 100000 in
theorem oX_symbol1_83 (l : Launch) (D : va_G) (kA : Nat → ClassId) (z : Nat) (v : Nat → Nat) (rec rex : mF) (ih : ∀ t σ xs res, rec t σ xs = some res → mSem l D kA z v t σ xs res) (ihx : ∀ t σ xs res, rex t σ xs = some res → xSem l D kA z v t σ xs res) (σ : mS) (xs : List Int32) (res : mR) (h : u_5 (kX_symbol1_83 rec rex σ) xs = some res) : sX_symbol1_83 l D kA z v σ xs res := by
  intro x0 x1 x2 x3 x4 hxs
  subst hxs
  obtain ⟨σf, rf, dd⟩ := res
  have h : (rex tX_symbol1_39 σ [x0, x1, x4, (x3 + 1)]) = some (σf, rf, dd) := h
  intro p e s m args below meth c F Lo σ0 hF hLo C hT
  dsimp only at hF hLo hT ⊢
  obtain ⟨o, ho⟩ : ∃ o, o = xo (σf, rf) := ⟨_, rfl⟩
  rw [← ho] at hT ⊢
  refine ax_istore_n (pc := 83) C d_MM_symbol1_83 rfl (Nat.le_of_ble_eq_true rfl) ([(3, .int x4), (0, .ref z), (1, .int x0), (2, .int x1), (4, .int x3)]) rfl ?_
  refine ax_iinc (pc := 84) C (x3 + 1) d_MM_symbol1_84 4 rfl rfl (Nat.le_of_ble_eq_true rfl) ([(4, .int (x3 + 1)), (3, .int x4), (0, .ref z), (1, .int x0), (2, .int x1)]) rfl ?_
  refine ax_goto (pc := 87) C 39 d_MM_symbol1_87 (by decide) ?_
  refine ax_ls ([(0, .ref z), (1, .int x0), (2, .int x1), (3, .int x4), (4, .int (x3 + 1))]) [2, 3, 4, 1, 0] rfl ?_
  have hm : sX_symbol1_39 l D kA z v σ [x0, x1, x4, (x3 + 1)] (σf, rf, _) := ihx tX_symbol1_39 _ _ _ h
  subst ho
  exact hm _ _ _ _ rfl p e s m args below meth c F Lo σ0 hF hLo C hT
set_option maxHeartbeats 4000000 in
set_option maxRecDepth 100000 in
theorem oX_symbol1_90 (l : Launch) (D : va_G) (kA : Nat → ClassId) (z : Nat) (v : Nat → Nat) (rec rex : mF) (ih : ∀ t σ xs res, rec t σ xs = some res → mSem l D kA z v t σ xs res) (ihx : ∀ t σ xs res, rex t σ xs = some res → xSem l D kA z v t σ xs res) (σ : mS) (xs : List Int32) (res : mR) (h : u_4 (kX_symbol1_90 rec rex σ) xs = some res) : sX_symbol1_90 l D kA z v σ xs res := by
  intro x0 x1 x2 x3 hxs
  subst hxs
  obtain ⟨σf, rf, dd⟩ := res
  have h : (if x2 = 0 then (rex tX_symbol1_12 σ [x0, (x1 + 1)]) else (lt_ (mI σ 3000 0) (fun u => some (u, x1, 0)))) = some (σf, rf, dd) := h
  intro p e s m args below meth c F Lo σ0 hF hLo C hT
  dsimp only at hF hLo hT ⊢
  obtain ⟨o, ho⟩ : ∃ o, o = xo (σf, rf) := ⟨_, rfl⟩
  rw [← ho] at hT ⊢
  refine ax_iload_n (pc := 90) C d_MM_symbol1_90 rfl 3 rfl ?_
  refine ax_if_eq (pc := 91) C 96 d_MM_symbol1_91 (by decide) (fun hc => ?_) (fun hc => ?_)
  · have h := it_t hc h
    refine ax_iinc (pc := 96) C (x1 + 1) d_MM_symbol1_96 2 rfl rfl (Nat.le_of_ble_eq_true rfl) ([(2, .int (x1 + 1)), (0, .ref z), (1, .int x0), (3, .int x2), (4, .int x3)]) rfl ?_
    refine ax_goto (pc := 99) C 12 d_MM_symbol1_99 (by decide) ?_
    refine ax_ls ([(0, .ref z), (1, .int x0), (2, .int (x1 + 1))]) [1, 2, 0] rfl ?_
    have hm : sX_symbol1_12 l D kA z v σ [x0, (x1 + 1)] (σf, rf, _) := ihx tX_symbol1_12 _ _ _ h
    subst ho
    exact hm _ _ rfl p e s m args below meth c F Lo σ0 hF hLo C hT
  · have h := it_f hc h
    refine ax_iload_n (pc := 94) C d_MM_symbol1_94 rfl 2 rfl ?_
    have h := it_l h
    cases h
    exact xr_iret (pc := 95) C ho d_MM_symbol1_95
set_option maxHeartbeats 4000000 in
set_option maxRecDepth 100000 in
theorem oX_symbol1_170 (l : Launch) (D : va_G) (kA : Nat → ClassId) (z : Nat) (v : Nat → Nat) (rec rex : mF) (ih : ∀ t σ xs res, rec t σ xs = some res → mSem l D kA z v t σ xs res) (ihx : ∀ t σ xs res, rex t σ xs = some res → xSem l D kA z v t σ xs res) (σ : mS) (xs : List Int32) (res : mR) (h : u_2 (kX_symbol1_170 rec rex σ) xs = some res) : sX_symbol1_170 l D kA z v σ xs res := by
  intro x0 x1 hxs
  subst hxs
  obtain ⟨σf, rf, dd⟩ := res
  have h : (if x0 ≤ x1 then (lt_ (mI σ 3000 0) (fun u => some (u, (σ.1 20), 0))) else (lt_ (mI σ 18 (((σ.1 18) : Int32) + 1)) (fun σ1 => if bin (((σ1.1 9) : Int32) + x1) 65536 = true then (if bin (σ.1 18) 9000 = true then (lt_ (mA σ1 17 (Int32.toNatClampNeg (σ.1 18)) (vp_nar .byte (σ1.2.1 0 (Int32.toNatClampNeg (((σ1.1 9) : Int32) + x1))))) (fun σ2 => rex tX_symbol1_170 σ2 [x0, (x1 + 1)])) else none) else none))) = some (σf, rf, dd) := h
  intro p e s m args below meth c F Lo σ0 hF hLo C hT
  dsimp only at hF hLo hT ⊢
  obtain ⟨o, ho⟩ : ∃ o, o = xo (σf, rf) := ⟨_, rfl⟩
  rw [← ho] at hT ⊢
  refine ax_iload_n (pc := 170) C d_MM_symbol1_170 rfl 2 rfl ?_
  refine ax_iload_n (pc := 171) C d_MM_symbol1_171 rfl 1 rfl ?_
  refine ax_icmp_ge (pc := 172) C 208 d_MM_symbol1_172 (by decide) (fun hc => ?_) (fun hc => ?_)
  · have h := it_t hc h
    refine ax_aload_n (pc := 208) C d_MM_symbol1_208 rfl 0 rfl ?_
    refine mg_74 (pc := 209) C d_MM_symbol1_209 ?_
    have h := it_l h
    cases h
    exact xr_iret (pc := 212) C ho d_MM_symbol1_212
  · have h := it_f hc h
    refine ax_aload_n (pc := 175) C d_MM_symbol1_175 rfl 0 rfl ?_
    refine mg_65 (pc := 176) C d_MM_symbol1_176 ?_
    refine ax_aload_n (pc := 179) C d_MM_symbol1_179 rfl 0 rfl ?_
    refine ax_dup (pc := 180) C d_MM_symbol1_180 rfl ?_
    refine mg_68 (pc := 181) C d_MM_symbol1_181 ?_
    refine ax_dup_x1 (pc := 184) C d_MM_symbol1_184 rfl rfl ?_
    refine ax_iconst (pc := 185) C 1 d_MM_symbol1_185 (by decide +kernel) ?_
    refine ax_iadd (pc := 186) C d_MM_symbol1_186 ?_
    refine mp_68 (pc := 187) C d_MM_symbol1_187 ?_
    have h := it_l h
    generalize mI σ 18 (((σ.1 18) : Int32) + 1) = σ1 at h ⊢
    refine ax_aload_n (pc := 190) C d_MM_symbol1_190 rfl 0 rfl ?_
    refine mg_8 (pc := 191) C d_MM_symbol1_191 ?_
    refine ax_aload_n (pc := 194) C d_MM_symbol1_194 rfl 0 rfl ?_
    refine mg_39 (pc := 195) C d_MM_symbol1_195 ?_
    refine ax_iload_n (pc := 198) C d_MM_symbol1_198 rfl 2 rfl ?_
    refine ax_iadd (pc := 199) C d_MM_symbol1_199 ?_
    obtain ⟨hb, h⟩ := it_g h
    refine ml_0 (pc := 200) C d_MM_symbol1_200 (bin_in hb) ?_
    obtain ⟨hb, h⟩ := it_g h
    refine ms_17 (pc := 201) C d_MM_symbol1_201 (bin_in hb) ?_
    have h := it_l h
    generalize mA σ1 17 (Int32.toNatClampNeg (σ.1 18)) (vp_nar .byte (σ1.2.1 0 (Int32.toNatClampNeg (((σ1.1 9) : Int32) + x1)))) = σ2 at h ⊢
    refine ax_iinc (pc := 202) C (x1 + 1) d_MM_symbol1_202 2 rfl rfl (Nat.le_of_ble_eq_true rfl) ([(2, .int (x1 + 1)), (0, .ref z), (1, .int x0)]) rfl ?_
    refine ax_goto (pc := 205) C 170 d_MM_symbol1_205 (by decide) ?_
    refine ax_ls ([(0, .ref z), (1, .int x0), (2, .int (x1 + 1))]) [1, 2, 0] rfl ?_
    have hm : sX_symbol1_170 l D kA z v σ2 [x0, (x1 + 1)] (σf, rf, _) := ihx tX_symbol1_170 _ _ _ h
    subst ho
    exact hm _ _ rfl p e s m args below meth c F Lo σ0 hF hLo C hT
set_option maxHeartbeats 4000000 in
set_option maxRecDepth 100000 in
theorem oX_arguments (l : Launch) (D : va_G) (kA : Nat → ClassId) (z : Nat) (v : Nat → Nat) (rec rex : mF) (ih : ∀ t σ xs res, rec t σ xs = some res → mSem l D kA z v t σ xs res) (ihx : ∀ t σ xs res, rex t σ xs = some res → xSem l D kA z v t σ xs res) (σ : mS) (xs : List Int32) (res : mR) (h : u_1 (kX_arguments rec rex σ) xs = some res) : sX_arguments l D kA z v σ xs res := by
  intro x0 hxs
  subst hxs
  obtain ⟨σf, rf, dd⟩ := res
  have h : (bnd (rec tM_take σ []) (fun σ1 r1 => bnd (rex tX_nest σ1 [x0]) (fun σ2 r2 => if σ2.1 3000 = 0 then (bnd (rex tX_side1 σ2 [r2]) (fun σ3 r3 => if σ3.1 3000 = 0 then (rex tX_arguments_19 σ3 [x0, r2, r3, r3]) else (some (σ3, 0, 0)))) else (some (σ2, 0, 0))))) = some (σf, rf, dd) := h
  obtain ⟨o, ho⟩ : ∃ o, o = xo (σf, rf) := ⟨_, rfl⟩
  show xMi l D kA y_MM_arguments b_MM_arguments 5 .int (dd + 8) (48 * dd + 400) [.ref z, .int x0] (mmW kA z v σ) z v σf (xo (σf, rf))
  rw [← ho]
  refine xMi.of (by decide +kernel) (Nat.le_of_ble_eq_true rfl) ?_
  intro p e s m args below meth c C hT
  have C : ax_C p s m args meth c b_MM_arguments "ClauseProverModel" 5 (some .int) D kA (va_A (mmW kA z v σ) s.heap.size) := C
  obtain ⟨F, hFe⟩ : ∃ F, F = dd + 8 := ⟨_, rfl⟩
  obtain ⟨Lo, hLoe⟩ : ∃ Lo, Lo = 48 * dd + 400 := ⟨_, rfl⟩
  obtain ⟨σ0, hσ0⟩ : ∃ s0, s0 = σ := ⟨_, rfl⟩
  suffices K : AW p l e { frames := F, cells := xmc o, slots := xms o, locals := Lo } s m args below meth c D kA (va_A (mmW kA z v σ0) s.heap.size) 5 (xQi below args s D kA (mmW kA z v σ0) z v σf o) 0 [(0, .ref z), (1, .int x0)] [] (mmW kA z v σ) 0 0 by rw [hFe, hLoe, hσ0] at K; exact ax_ls ([(0, .ref z), (1, .int x0)]) [0, 1] rfl K
  have C : ax_C p s m args meth c b_MM_arguments "ClauseProverModel" 5 (some .int) D kA (va_A (mmW kA z v σ0) s.heap.size) := by rw [hσ0]; exact C
  have hT : XT o l e s m meth c (va_A (mmW kA z v σ0) s.heap.size) := by rw [hσ0]; exact hT
  have hF : dd + 8 ≤ F := by omega
  have hLo : 48 * dd + 400 ≤ Lo := by omega
  clear hFe hLoe hσ0
  refine ax_aload_n (pc := 0) C d_MM_arguments_0 rfl 0 rfl ?_
  obtain ⟨σ1, r1, d1_1, d2_1, h1, h, hd2, hd1⟩ := it_b h
  have hm : sM_take l D kA z v σ [] (σ1, r1, d1_1) := ih tM_take _ _ _ h1
  refine mc_Vv (pc := 1) C (As := []) (rest := []) (hm rfl) ml_MM_435 d_MM_arguments_1 rfl rfl (by dsimp only; omega) (by dsimp only; omega) (Nat.zero_le _) (Nat.zero_le _) (Nat.le_of_ble_eq_true rfl) ?_
  have hF : d2_1 + 8 ≤ F := by omega
  have hLo : 48 * d2_1 + 400 ≤ Lo := by omega
  refine ax_aload_n (pc := 4) C d_MM_arguments_4 rfl 0 rfl ?_
  refine ax_iload_n (pc := 5) C d_MM_arguments_5 rfl 1 rfl ?_
  obtain ⟨σ2, r2, d1_2, d2_2, h1, h, hd2, hd1⟩ := it_b h
  have hm : sX_nest l D kA z v σ1 [x0] (σ2, r2, d1_2) := ihx tX_nest _ _ _ h1
  by_cases hq : σ2.1 3000 = 0
  · have h := it_t hq h
    refine mcx_Vi (pc := 6) C (As := [.int x0]) (rest := []) (hm _ rfl) hq ml_MM_464 d_MM_arguments_6 rfl rfl (by dsimp only; omega) (by dsimp only; omega) (Nat.zero_le _) (Nat.zero_le _) (Nat.le_of_ble_eq_true rfl) ?_
    have hF : d2_2 + 8 ≤ F := by omega
    have hLo : 48 * d2_2 + 400 ≤ Lo := by omega
    refine ax_istore_n (pc := 9) C d_MM_arguments_9 rfl (Nat.le_of_ble_eq_true rfl) ([(2, .int r2), (0, .ref z), (1, .int x0)]) rfl ?_
    refine ax_aload_n (pc := 10) C d_MM_arguments_10 rfl 1 rfl ?_
    refine ax_iload_n (pc := 11) C d_MM_arguments_11 rfl 0 rfl ?_
    obtain ⟨σ3, r3, d1_3, d2_3, h1, h, hd2, hd1⟩ := it_b h
    have hm : sX_side1 l D kA z v σ2 [r2] (σ3, r3, d1_3) := ihx tX_side1 _ _ _ h1
    by_cases hq : σ3.1 3000 = 0
    · have h := it_t hq h
      refine mcx_Vi (pc := 12) C (As := [.int r2]) (rest := []) (hm _ rfl) hq ml_MM_510 d_MM_arguments_12 rfl rfl (by dsimp only; omega) (by dsimp only; omega) (Nat.zero_le _) (Nat.zero_le _) (Nat.le_of_ble_eq_true rfl) ?_
      have hF : d2_3 + 8 ≤ F := by omega
      have hLo : 48 * d2_3 + 400 ≤ Lo := by omega
      refine ax_istore_n (pc := 15) C d_MM_arguments_15 rfl (Nat.le_of_ble_eq_true rfl) ([(3, .int r3), (2, .int r2), (0, .ref z), (1, .int x0)]) rfl ?_
      refine ax_iload_n (pc := 16) C d_MM_arguments_16 rfl 0 rfl ?_
      refine ax_istore (pc := 17) C d_MM_arguments_17 (Nat.le_of_ble_eq_true rfl) ([(4, .int r3), (3, .int r3), (2, .int r2), (0, .ref z), (1, .int x0)]) rfl ?_
      refine ax_ls ([(0, .ref z), (1, .int x0), (2, .int r2), (3, .int r3), (4, .int r3)]) [3, 4, 2, 1, 0] rfl ?_
      have hm : sX_arguments_19 l D kA z v σ3 [x0, r2, r3, r3] (σf, rf, _) := ihx tX_arguments_19 _ _ _ h
      subst ho
      exact hm _ _ _ _ rfl p e s m args below meth c F Lo σ0 hF hLo C hT
    · have h := it_f hq h
      cases h
      obtain ⟨hT1, hX⟩ := hT (by rw [ho]; exact xo_thr hq)
      rw [xQi_thr (by rw [ho]; exact xo_thr hq)]
      exact mcx_P (pc := 12) C (As := [.int r2]) (rest := []) hX (xt_none hT1 _) ho hq (xMi_thr hq (hm _ rfl)) ml_MM_510 d_MM_arguments_12 rfl rfl (by dsimp only; omega) (by dsimp only; omega) (Nat.le_of_ble_eq_true rfl)
  · have h := it_f hq h
    cases h
    obtain ⟨hT1, hX⟩ := hT (by rw [ho]; exact xo_thr hq)
    rw [xQi_thr (by rw [ho]; exact xo_thr hq)]
    exact mcx_P (pc := 6) C (As := [.int x0]) (rest := []) hX (xt_none hT1 _) ho hq (xMi_thr hq (hm _ rfl)) ml_MM_464 d_MM_arguments_6 rfl rfl (by dsimp only; omega) (by dsimp only; omega) (Nat.le_of_ble_eq_true rfl)
set_option maxHeartbeats 4000000 in
set_option maxRecDepth 100000 in
theorem oX_arguments_19 (l : Launch) (D : va_G) (kA : Nat → ClassId) (z : Nat) (v : Nat → Nat) (rec rex : mF) (ih : ∀ t σ xs res, rec t σ xs = some res → mSem l D kA z v t σ xs res) (ihx : ∀ t σ xs res, rex t σ xs = some res → xSem l D kA z v t σ xs res) (σ : mS) (xs : List Int32) (res : mR) (h : u_4 (kX_arguments_19 rec rex σ) xs = some res) : sX_arguments_19 l D kA z v σ xs res := by
  intro x0 x1 x2 x3 hxs
  subst hxs
  obtain ⟨σf, rf, dd⟩ := res
  have h : (bnd (rec tM_peek σ []) (fun σ1 r1 => if r1 = 44 then (bnd (rec tM_take σ1 []) (fun σ3 r3 => bnd (rex tX_side1 σ3 [x1]) (fun σ4 r4 => if σ4.1 3000 = 0 then (if bin x3 20100 = true then (lt_ (mA σ4 36 (Int32.toNatClampNeg x3) r4) (fun σ5 => if bin x3 20100 = true then (rex tX_arguments_19 σ5 [x0, x1, x2, (σ5.2.1 36 (Int32.toNatClampNeg x3))]) else none)) else none) else (some (σ4, 0, 0))))) else (bnd (rex tX_must σ1 [41]) (fun σ2 r2 => if σ2.1 3000 = 0 then (lt_ (mI σ2 3000 0) (fun u => some (u, x2, 0))) else (some (σ2, 0, 0)))))) = some (σf, rf, dd) := h
  intro p e s m args below meth c F Lo σ0 hF hLo C hT
  dsimp only at hF hLo hT ⊢
  obtain ⟨o, ho⟩ : ∃ o, o = xo (σf, rf) := ⟨_, rfl⟩
  rw [← ho] at hT ⊢
  refine ax_aload_n (pc := 19) C d_MM_arguments_19 rfl 0 rfl ?_
  obtain ⟨σ1, r1, d1_1, d2_1, h1, h, hd2, hd1⟩ := it_b h
  have hm : sM_peek l D kA z v σ [] (σ1, r1, d1_1) := ih tM_peek _ _ _ h1
  refine mc_Vi (pc := 20) C (As := []) (rest := []) (hm rfl) ml_MM_422 d_MM_arguments_20 rfl rfl (by dsimp only; omega) (by dsimp only; omega) (Nat.zero_le _) (Nat.zero_le _) (Nat.le_of_ble_eq_true rfl) ?_
  have hF : d2_1 + 8 ≤ F := by omega
  have hLo : 48 * d2_1 + 400 ≤ Lo := by omega
  refine ax_bipush (pc := 23) C 44 d_MM_arguments_23 (by decide +kernel) ?_
  refine ax_icmp_ne (pc := 25) C 56 d_MM_arguments_25 (by decide) (fun hc => ?_) (fun hc => ?_)
  · have h := it_f hc h
    refine ax_aload_n (pc := 56) C d_MM_arguments_56 rfl 0 rfl ?_
    refine ax_bipush (pc := 57) C 41 d_MM_arguments_57 (by decide +kernel) ?_
    obtain ⟨σ2, r2, d1_2, d2_2, h1, h, hd2, hd1⟩ := it_b h
    have hm : sX_must l D kA z v σ1 [41] (σ2, r2, d1_2) := ihx tX_must _ _ _ h1
    by_cases hq : σ2.1 3000 = 0
    · have h := it_t hq h
      refine mcx_Vv (pc := 59) C (As := [.int 41]) (rest := []) (hm _ rfl) hq ml_MM_479 d_MM_arguments_59 rfl rfl (by dsimp only; omega) (by dsimp only; omega) (Nat.zero_le _) (Nat.zero_le _) (Nat.le_of_ble_eq_true rfl) ?_
      have hF : d2_2 + 8 ≤ F := by omega
      have hLo : 48 * d2_2 + 400 ≤ Lo := by omega
      refine ax_iload_n (pc := 62) C d_MM_arguments_62 rfl 3 rfl ?_
      have h := it_l h
      cases h
      exact xr_iret (pc := 63) C ho d_MM_arguments_63
    · have h := it_f hq h
      cases h
      obtain ⟨hT1, hX⟩ := hT (by rw [ho]; exact xo_thr hq)
      rw [xQi_thr (by rw [ho]; exact xo_thr hq)]
      exact mcx_P (pc := 59) C (As := [.int 41]) (rest := []) hX (xt_none hT1 _) ho hq (xMv_thr hq (hm _ rfl)) ml_MM_479 d_MM_arguments_59 rfl rfl (by dsimp only; omega) (by dsimp only; omega) (Nat.le_of_ble_eq_true rfl)
  · have h := it_t hc h
    refine ax_aload_n (pc := 28) C d_MM_arguments_28 rfl 0 rfl ?_
    obtain ⟨σ3, r3, d1_3, d2_3, h1, h, hd2, hd1⟩ := it_b h
    have hm : sM_take l D kA z v σ1 [] (σ3, r3, d1_3) := ih tM_take _ _ _ h1
    refine mc_Vv (pc := 29) C (As := []) (rest := []) (hm rfl) ml_MM_435 d_MM_arguments_29 rfl rfl (by dsimp only; omega) (by dsimp only; omega) (Nat.zero_le _) (Nat.zero_le _) (Nat.le_of_ble_eq_true rfl) ?_
    have hF : d2_3 + 8 ≤ F := by omega
    have hLo : 48 * d2_3 + 400 ≤ Lo := by omega
    refine ax_aload_n (pc := 32) C d_MM_arguments_32 rfl 0 rfl ?_
    refine mg_123 (pc := 33) C d_MM_arguments_33 ?_
    refine ax_iload (pc := 36) C d_MM_arguments_36 4 rfl ?_
    refine ax_aload_n (pc := 38) C d_MM_arguments_38 rfl 0 rfl ?_
    refine ax_iload_n (pc := 39) C d_MM_arguments_39 rfl 2 rfl ?_
    obtain ⟨σ4, r4, d1_4, d2_4, h1, h, hd2, hd1⟩ := it_b h
    have hm : sX_side1 l D kA z v σ3 [x1] (σ4, r4, d1_4) := ihx tX_side1 _ _ _ h1
    by_cases hq : σ4.1 3000 = 0
    · have h := it_t hq h
      refine mcx_Vi (pc := 40) C (As := [.int x1]) (rest := [.int x3, .ref (v 19)]) (hm _ rfl) hq ml_MM_510 d_MM_arguments_40 rfl rfl (by dsimp only; omega) (by dsimp only; omega) (Nat.zero_le _) (Nat.zero_le _) (Nat.le_of_ble_eq_true rfl) ?_
      have hF : d2_4 + 8 ≤ F := by omega
      have hLo : 48 * d2_4 + 400 ≤ Lo := by omega
      obtain ⟨hb, h⟩ := it_g h
      refine ms_36 (pc := 43) C d_MM_arguments_43 (bin_in hb) ?_
      have h := it_l h
      generalize mA σ4 36 (Int32.toNatClampNeg x3) r4 = σ5 at h ⊢
      refine ax_aload_n (pc := 44) C d_MM_arguments_44 rfl 0 rfl ?_
      refine mg_123 (pc := 45) C d_MM_arguments_45 ?_
      refine ax_iload (pc := 48) C d_MM_arguments_48 4 rfl ?_
      obtain ⟨hb, h⟩ := it_g h
      refine ml_36 (pc := 50) C d_MM_arguments_50 (bin_in hb) ?_
      refine ax_istore (pc := 51) C d_MM_arguments_51 (Nat.le_of_ble_eq_true rfl) ([(4, .int (σ5.2.1 36 (Int32.toNatClampNeg x3))), (0, .ref z), (1, .int x0), (2, .int x1), (3, .int x2)]) rfl ?_
      refine ax_goto (pc := 53) C 19 d_MM_arguments_53 (by decide) ?_
      refine ax_ls ([(0, .ref z), (1, .int x0), (2, .int x1), (3, .int x2), (4, .int (σ5.2.1 36 (Int32.toNatClampNeg x3)))]) [1, 2, 3, 4, 0] rfl ?_
      have hm : sX_arguments_19 l D kA z v σ5 [x0, x1, x2, (σ5.2.1 36 (Int32.toNatClampNeg x3))] (σf, rf, _) := ihx tX_arguments_19 _ _ _ h
      subst ho
      exact hm _ _ _ _ rfl p e s m args below meth c F Lo σ0 hF hLo C hT
    · have h := it_f hq h
      cases h
      obtain ⟨hT1, hX⟩ := hT (by rw [ho]; exact xo_thr hq)
      rw [xQi_thr (by rw [ho]; exact xo_thr hq)]
      exact mcx_P (pc := 40) C (As := [.int x1]) (rest := [.int x3, .ref (v 19)]) hX (xt_none hT1 _) ho hq (xMi_thr hq (hm _ rfl)) ml_MM_510 d_MM_arguments_40 rfl rfl (by dsimp only; omega) (by dsimp only; omega) (Nat.le_of_ble_eq_true rfl)
set_option maxHeartbeats 4000000 in
set_option maxRecDepth 100000 in
theorem oX_check (l : Launch) (D : va_G) (kA : Nat → ClassId) (z : Nat) (v : Nat → Nat) (rec rex : mF) (ih : ∀ t σ xs res, rec t σ xs = some res → mSem l D kA z v t σ xs res) (ihx : ∀ t σ xs res, rex t σ xs = some res → xSem l D kA z v t σ xs res) (σ : mS) (xs : List Int32) (res : mR) (h : u_4 (kX_check rec rex σ) xs = some res) : sX_check l D kA z v σ xs res := by
  intro x0 x1 x2 x3 hxs
  subst hxs
  obtain ⟨σf, rf, dd⟩ := res
  have h : (if bin x0 900 = true then (if (σ.2.1 16 (Int32.toNatClampNeg x0)) = 0 then (if bin x0 900 = true then (lt_ (mA σ 16 (Int32.toNatClampNeg x0) x1) (fun σ1 => if bin x0 900 = true then (lt_ (mA σ1 15 (Int32.toNatClampNeg x0) x2) (fun σ2 => rex tX_check_57 σ2 [x0, x1, x2, x3])) else none)) else none) else (if bin x0 900 = true then (if (σ.2.1 16 (Int32.toNatClampNeg x0)) = x1 then (if bin x0 900 = true then (if (σ.2.1 15 (Int32.toNatClampNeg x0)) = x2 then (rex tX_check_57 σ [x0, x1, x2, x3]) else (rex tX_check_46 σ [x0, x1, x2, x3])) else none) else (rex tX_check_46 σ [x0, x1, x2, x3])) else none)) else none) = some (σf, rf, dd) := h
  obtain ⟨o, ho⟩ : ∃ o, o = xo (σf, rf) := ⟨_, rfl⟩
  show xMv l D kA y_MM_check b_MM_check 5 (dd + 8) (48 * dd + 400) [.ref z, .int x0, .int x1, .int x2, .int x3] (mmW kA z v σ) z v σf (xo (σf, rf))
  rw [← ho]
  refine xMv.of (by decide +kernel) (Nat.le_of_ble_eq_true rfl) ?_
  intro p e s m args below meth c C hT
  have C : ax_C p s m args meth c b_MM_check "ClauseProverModel" 5 none D kA (va_A (mmW kA z v σ) s.heap.size) := C
  obtain ⟨F, hFe⟩ : ∃ F, F = dd + 8 := ⟨_, rfl⟩
  obtain ⟨Lo, hLoe⟩ : ∃ Lo, Lo = 48 * dd + 400 := ⟨_, rfl⟩
  obtain ⟨σ0, hσ0⟩ : ∃ s0, s0 = σ := ⟨_, rfl⟩
  suffices K : AW p l e { frames := F, cells := xmc o, slots := xms o, locals := Lo } s m args below meth c D kA (va_A (mmW kA z v σ0) s.heap.size) 5 (xQv below args s D kA (mmW kA z v σ0) z v σf o) 0 [(0, .ref z), (1, .int x0), (2, .int x1), (3, .int x2), (4, .int x3)] [] (mmW kA z v σ) 0 0 by rw [hFe, hLoe, hσ0] at K; exact ax_ls ([(0, .ref z), (1, .int x0), (2, .int x1), (3, .int x2), (4, .int x3)]) [0, 1, 2, 3, 4] rfl K
  have C : ax_C p s m args meth c b_MM_check "ClauseProverModel" 5 none D kA (va_A (mmW kA z v σ0) s.heap.size) := by rw [hσ0]; exact C
  have hT : XT o l e s m meth c (va_A (mmW kA z v σ0) s.heap.size) := by rw [hσ0]; exact hT
  have hF : dd + 8 ≤ F := by omega
  have hLo : 48 * dd + 400 ≤ Lo := by omega
  clear hFe hLoe hσ0
  refine ax_aload_n (pc := 0) C d_MM_check_0 rfl 0 rfl ?_
  refine mg_62 (pc := 1) C d_MM_check_1 ?_
  refine ax_iload_n (pc := 4) C d_MM_check_4 rfl 1 rfl ?_
  obtain ⟨hb, h⟩ := it_g h
  refine ml_16 (pc := 5) C d_MM_check_5 (bin_in hb) ?_
  refine ax_if_ne (pc := 6) C 26 d_MM_check_6 (by decide) (fun hc => ?_) (fun hc => ?_)
  · have h := it_f hc h
    refine ax_aload_n (pc := 26) C d_MM_check_26 rfl 0 rfl ?_
    refine mg_62 (pc := 27) C d_MM_check_27 ?_
    refine ax_iload_n (pc := 30) C d_MM_check_30 rfl 1 rfl ?_
    obtain ⟨hb, h⟩ := it_g h
    refine ml_16 (pc := 31) C d_MM_check_31 (bin_in hb) ?_
    refine ax_iload_n (pc := 32) C d_MM_check_32 rfl 2 rfl ?_
    refine ax_icmp_ne (pc := 33) C 46 d_MM_check_33 (by decide) (fun hc => ?_) (fun hc => ?_)
    · have h := it_f hc h
      refine ax_ls ([(0, .ref z), (1, .int x0), (2, .int x1), (3, .int x2), (4, .int x3)]) [0, 1, 2, 3, 4] rfl ?_
      have hm : sX_check_46 l D kA z v σ [x0, x1, x2, x3] (σf, rf, _) := ihx tX_check_46 _ _ _ h
      subst ho
      exact hm _ _ _ _ rfl p e s m args below meth c F Lo σ0 hF hLo C hT
    · have h := it_t hc h
      refine ax_aload_n (pc := 36) C d_MM_check_36 rfl 0 rfl ?_
      refine mg_59 (pc := 37) C d_MM_check_37 ?_
      refine ax_iload_n (pc := 40) C d_MM_check_40 rfl 1 rfl ?_
      obtain ⟨hb, h⟩ := it_g h
      refine ml_15 (pc := 41) C d_MM_check_41 (bin_in hb) ?_
      refine ax_iload_n (pc := 42) C d_MM_check_42 rfl 3 rfl ?_
      refine ax_icmp_eq (pc := 43) C 57 d_MM_check_43 (by decide) (fun hc => ?_) (fun hc => ?_)
      · have h := it_t hc h
        refine ax_ls ([(0, .ref z), (1, .int x0), (2, .int x1), (3, .int x2), (4, .int x3)]) [0, 1, 2, 3, 4] rfl ?_
        have hm : sX_check_57 l D kA z v σ [x0, x1, x2, x3] (σf, rf, _) := ihx tX_check_57 _ _ _ h
        subst ho
        exact hm _ _ _ _ rfl p e s m args below meth c F Lo σ0 hF hLo C hT
      · have h := it_f hc h
        refine ax_ls ([(0, .ref z), (1, .int x0), (2, .int x1), (3, .int x2), (4, .int x3)]) [0, 1, 2, 3, 4] rfl ?_
        have hm : sX_check_46 l D kA z v σ [x0, x1, x2, x3] (σf, rf, _) := ihx tX_check_46 _ _ _ h
        subst ho
        exact hm _ _ _ _ rfl p e s m args below meth c F Lo σ0 hF hLo C hT
  · have h := it_t hc h
    refine ax_aload_n (pc := 9) C d_MM_check_9 rfl 0 rfl ?_
    refine mg_62 (pc := 10) C d_MM_check_10 ?_
    refine ax_iload_n (pc := 13) C d_MM_check_13 rfl 1 rfl ?_
    refine ax_iload_n (pc := 14) C d_MM_check_14 rfl 2 rfl ?_
    obtain ⟨hb, h⟩ := it_g h
    refine ms_16 (pc := 15) C d_MM_check_15 (bin_in hb) ?_
    have h := it_l h
    generalize mA σ 16 (Int32.toNatClampNeg x0) x1 = σ1 at h ⊢
    refine ax_aload_n (pc := 16) C d_MM_check_16 rfl 0 rfl ?_
    refine mg_59 (pc := 17) C d_MM_check_17 ?_
    refine ax_iload_n (pc := 20) C d_MM_check_20 rfl 1 rfl ?_
    refine ax_iload_n (pc := 21) C d_MM_check_21 rfl 3 rfl ?_
    obtain ⟨hb, h⟩ := it_g h
    refine ms_15 (pc := 22) C d_MM_check_22 (bin_in hb) ?_
    have h := it_l h
    generalize mA σ1 15 (Int32.toNatClampNeg x0) x2 = σ2 at h ⊢
    refine ax_goto (pc := 23) C 57 d_MM_check_23 (by decide) ?_
    refine ax_ls ([(0, .ref z), (1, .int x0), (2, .int x1), (3, .int x2), (4, .int x3)]) [0, 1, 2, 3, 4] rfl ?_
    have hm : sX_check_57 l D kA z v σ2 [x0, x1, x2, x3] (σf, rf, _) := ihx tX_check_57 _ _ _ h
    subst ho
    exact hm _ _ _ _ rfl p e s m args below meth c F Lo σ0 hF hLo C hT
set_option maxHeartbeats 4000000 in
set_option maxRecDepth 100000 in
theorem oX_check_46 (l : Launch) (D : va_G) (kA : Nat → ClassId) (z : Nat) (v : Nat → Nat) (rec rex : mF) (ih : ∀ t σ xs res, rec t σ xs = some res → mSem l D kA z v t σ xs res) (ihx : ∀ t σ xs res, rex t σ xs = some res → xSem l D kA z v t σ xs res) (σ : mS) (xs : List Int32) (res : mR) (h : u_4 (kX_check_46 rec rex σ) xs = some res) : sX_check_46 l D kA z v σ xs res := by
  intro x0 x1 x2 x3 hxs
  subst hxs
  obtain ⟨σf, rf, dd⟩ := res
  have h : (lt_ (mI σ 3003 2) (fun u1 => lt_ (mI u1 3004 x3) (fun u2 => lt_ (mI u2 3000 1) (fun u3 => some (u3, 0, 0))))) = some (σf, rf, dd) := h
  intro p e s m args below meth c F Lo σ0 hF hLo C hT
  dsimp only at hF hLo hT ⊢
  obtain ⟨o, ho⟩ : ∃ o, o = xo (σf, rf) := ⟨_, rfl⟩
  rw [← ho] at hT ⊢
  have h := it_l (it_l (it_l h))
  cases h
  obtain rfl : o = xWr 2 x3 := ho.trans (xo_wrong _ _ _)
  obtain ⟨hT1, hX⟩ := hT rfl
  refine mx_new8 (pc := 46) C (Nat.le_of_ble_eq_true rfl) (Nat.le_of_ble_eq_true rfl) d_MM_check_46 (fun q => ?_)
  refine ax_dup (pc := 49) C d_MM_check_49 rfl ?_
  refine ax_iconst (pc := 50) C 2 d_MM_check_50 (by decide +kernel) ?_
  refine ax_iload (pc := 51) C d_MM_check_51 4 rfl ?_
  refine mx_initW (pc := 53) C hX d_MM_check_53 (Nat.le_of_ble_eq_true rfl) (by dsimp only; omega) (by dsimp only; omega) (Nat.le_of_ble_eq_true rfl) (Nat.le_of_ble_eq_true rfl) ?_
  exact xr_Wv (pc := 56) C (xt_none hT1 _) d_MM_check_56 (Nat.le_of_ble_eq_true rfl) (Nat.le_of_ble_eq_true rfl)
set_option maxHeartbeats 4000000 in
set_option maxRecDepth 100000 in
theorem oX_check_57 (l : Launch) (D : va_G) (kA : Nat → ClassId) (z : Nat) (v : Nat → Nat) (rec rex : mF) (ih : ∀ t σ xs res, rec t σ xs = some res → mSem l D kA z v t σ xs res) (ihx : ∀ t σ xs res, rex t σ xs = some res → xSem l D kA z v t σ xs res) (σ : mS) (xs : List Int32) (res : mR) (h : u_4 (kX_check_57 rec rex σ) xs = some res) : sX_check_57 l D kA z v σ xs res := by
  intro x0 x1 x2 x3 hxs
  subst hxs
  obtain ⟨σf, rf, dd⟩ := res
  have h : (lt_ (mI σ 3000 0) (fun u => some (u, 0, 0))) = some (σf, rf, dd) := h
  intro p e s m args below meth c F Lo σ0 hF hLo C hT
  dsimp only at hF hLo hT ⊢
  obtain ⟨o, ho⟩ : ∃ o, o = xo (σf, rf) := ⟨_, rfl⟩
  rw [← ho] at hT ⊢
  have h := it_l h
  cases h
  exact xr_vret (pc := 57) C ho d_MM_check_57
set_option maxHeartbeats 4000000 in
set_option maxRecDepth 100000 in
theorem oX_clausify (l : Launch) (D : va_G) (kA : Nat → ClassId) (z : Nat) (v : Nat → Nat) (rec rex : mF) (ih : ∀ t σ xs res, rec t σ xs = some res → mSem l D kA z v t σ xs res) (ihx : ∀ t σ xs res, rex t σ xs = some res → xSem l D kA z v t σ xs res) (σ : mS) (xs : List Int32) (res : mR) (h : u_0 (kX_clausify rec rex σ) xs = some res) : sX_clausify l D kA z v σ xs res := by
  intro hxs
  subst hxs
  obtain ⟨σf, rf, dd⟩ := res
  have h : (rex tX_clausify_2 σ [0]) = some (σf, rf, dd) := h
  obtain ⟨o, ho⟩ : ∃ o, o = xo (σf, rf) := ⟨_, rfl⟩
  show xMv l D kA y_MM_clausify b_MM_clausify 5 (dd + 8) (48 * dd + 400) [.ref z] (mmW kA z v σ) z v σf (xo (σf, rf))
  rw [← ho]
  refine xMv.of (by decide +kernel) (Nat.le_of_ble_eq_true rfl) ?_
  intro p e s m args below meth c C hT
  have C : ax_C p s m args meth c b_MM_clausify "ClauseProverModel" 5 none D kA (va_A (mmW kA z v σ) s.heap.size) := C
  obtain ⟨F, hFe⟩ : ∃ F, F = dd + 8 := ⟨_, rfl⟩
  obtain ⟨Lo, hLoe⟩ : ∃ Lo, Lo = 48 * dd + 400 := ⟨_, rfl⟩
  obtain ⟨σ0, hσ0⟩ : ∃ s0, s0 = σ := ⟨_, rfl⟩
  suffices K : AW p l e { frames := F, cells := xmc o, slots := xms o, locals := Lo } s m args below meth c D kA (va_A (mmW kA z v σ0) s.heap.size) 5 (xQv below args s D kA (mmW kA z v σ0) z v σf o) 0 [(0, .ref z)] [] (mmW kA z v σ) 0 0 by rw [hFe, hLoe, hσ0] at K; exact ax_ls ([(0, .ref z)]) [0] rfl K
  have C : ax_C p s m args meth c b_MM_clausify "ClauseProverModel" 5 none D kA (va_A (mmW kA z v σ0) s.heap.size) := by rw [hσ0]; exact C
  have hT : XT o l e s m meth c (va_A (mmW kA z v σ0) s.heap.size) := by rw [hσ0]; exact hT
  have hF : dd + 8 ≤ F := by omega
  have hLo : 48 * dd + 400 ≤ Lo := by omega
  clear hFe hLoe hσ0
  refine ax_iconst (pc := 0) C 0 d_MM_clausify_0 (by decide +kernel) ?_
  refine ax_istore_n (pc := 1) C d_MM_clausify_1 rfl (Nat.le_of_ble_eq_true rfl) ([(1, .int 0), (0, .ref z)]) rfl ?_
  refine ax_ls ([(0, .ref z), (1, .int 0)]) [1, 0] rfl ?_
  have hm : sX_clausify_2 l D kA z v σ [0] (σf, rf, _) := ihx tX_clausify_2 _ _ _ h
  subst ho
  exact hm _ rfl p e s m args below meth c F Lo σ0 hF hLo C hT
set_option maxHeartbeats 4000000 in
set_option maxRecDepth 100000 in
theorem oX_clausify_2 (l : Launch) (D : va_G) (kA : Nat → ClassId) (z : Nat) (v : Nat → Nat) (rec rex : mF) (ih : ∀ t σ xs res, rec t σ xs = some res → mSem l D kA z v t σ xs res) (ihx : ∀ t σ xs res, rex t σ xs = some res → xSem l D kA z v t σ xs res) (σ : mS) (xs : List Int32) (res : mR) (h : u_1 (kX_clausify_2 rec rex σ) xs = some res) : sX_clausify_2 l D kA z v σ xs res := by
  intro x0 hxs
  subst hxs
  obtain ⟨σf, rf, dd⟩ := res
  have h : (if (σ.1 55) ≤ x0 then (rex tX_clausify_33 σ [x0]) else (if bin x0 20100 = true then (if bin (σ.2.1 51 (Int32.toNatClampNeg x0)) 20100 = true then (if 200 < (σ.2.1 33 (Int32.toNatClampNeg (σ.2.1 51 (Int32.toNatClampNeg x0)))) then (rex tX_clausify_33 σ [x0]) else (rex tX_clausify_2 σ [(x0 + 1)])) else none) else none)) = some (σf, rf, dd) := h
  intro p e s m args below meth c F Lo σ0 hF hLo C hT
  dsimp only at hF hLo hT ⊢
  obtain ⟨o, ho⟩ : ∃ o, o = xo (σf, rf) := ⟨_, rfl⟩
  rw [← ho] at hT ⊢
  refine ax_iload_n (pc := 2) C d_MM_clausify_2 rfl 1 rfl ?_
  refine ax_aload_n (pc := 3) C d_MM_clausify_3 rfl 0 rfl ?_
  refine mg_181 (pc := 4) C d_MM_clausify_4 ?_
  refine ax_icmp_ge (pc := 7) C 33 d_MM_clausify_7 (by decide) (fun hc => ?_) (fun hc => ?_)
  · have h := it_t hc h
    refine ax_ls ([(0, .ref z), (1, .int x0)]) [0, 1] rfl ?_
    have hm : sX_clausify_33 l D kA z v σ [x0] (σf, rf, _) := ihx tX_clausify_33 _ _ _ h
    subst ho
    exact hm _ rfl p e s m args below meth c F Lo σ0 hF hLo C hT
  · have h := it_f hc h
    refine ax_aload_n (pc := 10) C d_MM_clausify_10 rfl 0 rfl ?_
    refine mg_114 (pc := 11) C d_MM_clausify_11 ?_
    refine ax_aload_n (pc := 14) C d_MM_clausify_14 rfl 0 rfl ?_
    refine mg_169 (pc := 15) C d_MM_clausify_15 ?_
    refine ax_iload_n (pc := 18) C d_MM_clausify_18 rfl 1 rfl ?_
    obtain ⟨hb, h⟩ := it_g h
    refine ml_51 (pc := 19) C d_MM_clausify_19 (bin_in hb) ?_
    obtain ⟨hb, h⟩ := it_g h
    refine ml_33 (pc := 20) C d_MM_clausify_20 (bin_in hb) ?_
    refine ax_sipush (pc := 21) C 200 d_MM_clausify_21 (by decide +kernel) ?_
    refine ax_icmp_gt (pc := 24) C 33 d_MM_clausify_24 (by decide) (fun hc => ?_) (fun hc => ?_)
    · have h := it_t hc h
      refine ax_ls ([(0, .ref z), (1, .int x0)]) [0, 1] rfl ?_
      have hm : sX_clausify_33 l D kA z v σ [x0] (σf, rf, _) := ihx tX_clausify_33 _ _ _ h
      subst ho
      exact hm _ rfl p e s m args below meth c F Lo σ0 hF hLo C hT
    · have h := it_f hc h
      refine ax_iinc (pc := 27) C (x0 + 1) d_MM_clausify_27 1 rfl rfl (Nat.le_of_ble_eq_true rfl) ([(1, .int (x0 + 1)), (0, .ref z)]) rfl ?_
      refine ax_goto (pc := 30) C 2 d_MM_clausify_30 (by decide) ?_
      refine ax_ls ([(0, .ref z), (1, .int (x0 + 1))]) [1, 0] rfl ?_
      have hm : sX_clausify_2 l D kA z v σ [(x0 + 1)] (σf, rf, _) := ihx tX_clausify_2 _ _ _ h
      subst ho
      exact hm _ rfl p e s m args below meth c F Lo σ0 hF hLo C hT
set_option maxHeartbeats 4000000 in
set_option maxRecDepth 100000 in
theorem oX_clausify_33 (l : Launch) (D : va_G) (kA : Nat → ClassId) (z : Nat) (v : Nat → Nat) (rec rex : mF) (ih : ∀ t σ xs res, rec t σ xs = some res → mSem l D kA z v t σ xs res) (ihx : ∀ t σ xs res, rex t σ xs = some res → xSem l D kA z v t σ xs res) (σ : mS) (xs : List Int32) (res : mR) (h : u_1 (kX_clausify_33 rec rex σ) xs = some res) : sX_clausify_33 l D kA z v σ xs res := by
  intro x0 hxs
  subst hxs
  obtain ⟨σf, rf, dd⟩ := res
  have h : (rex tX_clausify_35 σ [x0, 0]) = some (σf, rf, dd) := h
  intro p e s m args below meth c F Lo σ0 hF hLo C hT
  dsimp only at hF hLo hT ⊢
  obtain ⟨o, ho⟩ : ∃ o, o = xo (σf, rf) := ⟨_, rfl⟩
  rw [← ho] at hT ⊢
  refine ax_iconst (pc := 33) C 0 d_MM_clausify_33 (by decide +kernel) ?_
  refine ax_istore_n (pc := 34) C d_MM_clausify_34 rfl (Nat.le_of_ble_eq_true rfl) ([(2, .int 0), (0, .ref z), (1, .int x0)]) rfl ?_
  refine ax_ls ([(0, .ref z), (1, .int x0), (2, .int 0)]) [1, 2, 0] rfl ?_
  have hm : sX_clausify_35 l D kA z v σ [x0, 0] (σf, rf, _) := ihx tX_clausify_35 _ _ _ h
  subst ho
  exact hm _ _ rfl p e s m args below meth c F Lo σ0 hF hLo C hT
set_option maxHeartbeats 4000000 in
set_option maxRecDepth 100000 in
theorem oX_clausify_35 (l : Launch) (D : va_G) (kA : Nat → ClassId) (z : Nat) (v : Nat → Nat) (rec rex : mF) (ih : ∀ t σ xs res, rec t σ xs = some res → mSem l D kA z v t σ xs res) (ihx : ∀ t σ xs res, rex t σ xs = some res → xSem l D kA z v t σ xs res) (σ : mS) (xs : List Int32) (res : mR) (h : u_2 (kX_clausify_35 rec rex σ) xs = some res) : sX_clausify_35 l D kA z v σ xs res := by
  intro x0 x1 hxs
  subst hxs
  obtain ⟨σf, rf, dd⟩ := res
  have h : (if x0 ≤ x1 then (lt_ (mI σ 19 ((1 : Int32) + (σ.1 20))) (fun σ1 => rex tX_clausify_146 σ1 [x0, 1])) else (rex tX_clausify_42 σ [x0, x1, 0])) = some (σf, rf, dd) := h
  intro p e s m args below meth c F Lo σ0 hF hLo C hT
  dsimp only at hF hLo hT ⊢
  obtain ⟨o, ho⟩ : ∃ o, o = xo (σf, rf) := ⟨_, rfl⟩
  rw [← ho] at hT ⊢
  refine ax_iload_n (pc := 35) C d_MM_clausify_35 rfl 2 rfl ?_
  refine ax_iload_n (pc := 36) C d_MM_clausify_36 rfl 1 rfl ?_
  refine ax_icmp_ge (pc := 37) C 134 d_MM_clausify_37 (by decide) (fun hc => ?_) (fun hc => ?_)
  · have h := it_t hc h
    refine ax_aload_n (pc := 134) C d_MM_clausify_134 rfl 0 rfl ?_
    refine ax_iconst (pc := 135) C 1 d_MM_clausify_135 (by decide +kernel) ?_
    refine ax_aload_n (pc := 136) C d_MM_clausify_136 rfl 0 rfl ?_
    refine mg_74 (pc := 137) C d_MM_clausify_137 ?_
    refine ax_iadd (pc := 140) C d_MM_clausify_140 ?_
    refine mp_71 (pc := 141) C d_MM_clausify_141 ?_
    have h := it_l h
    generalize mI σ 19 ((1 : Int32) + (σ.1 20)) = σ1 at h ⊢
    refine ax_iconst (pc := 144) C 1 d_MM_clausify_144 (by decide +kernel) ?_
    refine ax_istore_n (pc := 145) C d_MM_clausify_145 rfl (Nat.le_of_ble_eq_true rfl) ([(2, .int 1), (0, .ref z), (1, .int x0)]) rfl ?_
    refine ax_ls ([(0, .ref z), (1, .int x0), (2, .int 1)]) [1, 2, 0] rfl ?_
    have hm : sX_clausify_146 l D kA z v σ1 [x0, 1] (σf, rf, _) := ihx tX_clausify_146 _ _ _ h
    subst ho
    exact hm _ _ rfl p e s m args below meth c F Lo σ0 hF hLo C hT
  · have h := it_f hc h
    refine ax_iconst (pc := 40) C 0 d_MM_clausify_40 (by decide +kernel) ?_
    refine ax_istore_n (pc := 41) C d_MM_clausify_41 rfl (Nat.le_of_ble_eq_true rfl) ([(3, .int 0), (0, .ref z), (1, .int x0), (2, .int x1)]) rfl ?_
    refine ax_ls ([(0, .ref z), (1, .int x0), (2, .int x1), (3, .int 0)]) [1, 2, 3, 0] rfl ?_
    have hm : sX_clausify_42 l D kA z v σ [x0, x1, 0] (σf, rf, _) := ihx tX_clausify_42 _ _ _ h
    subst ho
    exact hm _ _ _ rfl p e s m args below meth c F Lo σ0 hF hLo C hT
set_option maxHeartbeats 4000000 in
set_option maxRecDepth 100000 in
theorem oX_clausify_42 (l : Launch) (D : va_G) (kA : Nat → ClassId) (z : Nat) (v : Nat → Nat) (rec rex : mF) (ih : ∀ t σ xs res, rec t σ xs = some res → mSem l D kA z v t σ xs res) (ihx : ∀ t σ xs res, rex t σ xs = some res → xSem l D kA z v t σ xs res) (σ : mS) (xs : List Int32) (res : mR) (h : u_3 (kX_clausify_42 rec rex σ) xs = some res) : sX_clausify_42 l D kA z v σ xs res := by
  intro x0 x1 x2 hxs
  subst hxs
  obtain ⟨σf, rf, dd⟩ := res
  have h : (if bin x1 20100 = true then (if (σ.2.1 53 (Int32.toNatClampNeg x1)) ≤ x2 then (if bin x1 20100 = true then (if bin x1 20100 = true then (if (σ.2.1 57 (Int32.toNatClampNeg x1)) = 0 then (rex tX_clausify_119 σ [x0, x1, x2, 1, (σ.2.1 51 (Int32.toNatClampNeg x1))]) else (rex tX_clausify_119 σ [x0, x1, x2, 0, (σ.2.1 51 (Int32.toNatClampNeg x1))])) else none) else none) else (if bin x1 20100 = true then (if bin (((σ.2.1 52 (Int32.toNatClampNeg x1)) : Int32) + x2) 300 = true then (if bin (σ.2.1 54 (Int32.toNatClampNeg (((σ.2.1 52 (Int32.toNatClampNeg x1)) : Int32) + x2))) 300 = true then (lt_ (mA σ 58 (Int32.toNatClampNeg (σ.2.1 54 (Int32.toNatClampNeg (((σ.2.1 52 (Int32.toNatClampNeg x1)) : Int32) + x2)))) x2) (fun σ1 => if bin x1 20100 = true then (if (σ1.2.1 57 (Int32.toNatClampNeg x1)) = 0 then (rex tX_clausify_92 σ1 [x0, x1, x2, (σ.2.1 54 (Int32.toNatClampNeg (((σ.2.1 52 (Int32.toNatClampNeg x1)) : Int32) + x2)))]) else (if bin (σ.2.1 54 (Int32.toNatClampNeg (((σ.2.1 52 (Int32.toNatClampNeg x1)) : Int32) + x2))) 300 = true then (lt_ (mA σ1 24 (Int32.toNatClampNeg (σ.2.1 54 (Int32.toNatClampNeg (((σ.2.1 52 (Int32.toNatClampNeg x1)) : Int32) + x2)))) (vp_nar .boolean 1)) (fun σ2 => rex tX_clausify_92 σ2 [x0, x1, x2, (σ.2.1 54 (Int32.toNatClampNeg (((σ.2.1 52 (Int32.toNatClampNeg x1)) : Int32) + x2)))])) else none)) else none)) else none) else none) else none)) else none) = some (σf, rf, dd) := h
  intro p e s m args below meth c F Lo σ0 hF hLo C hT
  dsimp only at hF hLo hT ⊢
  obtain ⟨o, ho⟩ : ∃ o, o = xo (σf, rf) := ⟨_, rfl⟩
  rw [← ho] at hT ⊢
  refine ax_iload_n (pc := 42) C d_MM_clausify_42 rfl 3 rfl ?_
  refine ax_aload_n (pc := 43) C d_MM_clausify_43 rfl 0 rfl ?_
  refine mg_175 (pc := 44) C d_MM_clausify_44 ?_
  refine ax_iload_n (pc := 47) C d_MM_clausify_47 rfl 2 rfl ?_
  obtain ⟨hb, h⟩ := it_g h
  refine ml_53 (pc := 48) C d_MM_clausify_48 (bin_in hb) ?_
  refine ax_icmp_ge (pc := 49) C 98 d_MM_clausify_49 (by decide) (fun hc => ?_) (fun hc => ?_)
  · have h := it_t hc h
    refine ax_aload_n (pc := 98) C d_MM_clausify_98 rfl 0 rfl ?_
    refine ax_aload_n (pc := 99) C d_MM_clausify_99 rfl 0 rfl ?_
    refine mg_169 (pc := 100) C d_MM_clausify_100 ?_
    refine ax_iload_n (pc := 103) C d_MM_clausify_103 rfl 2 rfl ?_
    obtain ⟨hb, h⟩ := it_g h
    refine ml_51 (pc := 104) C d_MM_clausify_104 (bin_in hb) ?_
    refine ax_aload_n (pc := 105) C d_MM_clausify_105 rfl 0 rfl ?_
    refine mg_187 (pc := 106) C d_MM_clausify_106 ?_
    refine ax_iload_n (pc := 109) C d_MM_clausify_109 rfl 2 rfl ?_
    obtain ⟨hb, h⟩ := it_g h
    refine ml_57 (pc := 110) C d_MM_clausify_110 (bin_in hb) ?_
    refine ax_if_ne (pc := 111) C 118 d_MM_clausify_111 (by decide) (fun hc => ?_) (fun hc => ?_)
    · have h := it_f hc h
      refine ax_iconst (pc := 118) C 0 d_MM_clausify_118 (by decide +kernel) ?_
      refine ax_ls ([(0, .ref z), (1, .int x0), (2, .int x1), (3, .int x2)]) [0, 1, 2, 3] rfl ?_
      have hm : sX_clausify_119 l D kA z v σ [x0, x1, x2, 0, (σ.2.1 51 (Int32.toNatClampNeg x1))] (σf, rf, _) := ihx tX_clausify_119 _ _ _ h
      subst ho
      exact hm _ _ _ _ _ rfl p e s m args below meth c F Lo σ0 hF hLo C hT
    · have h := it_t hc h
      refine ax_iconst (pc := 114) C 1 d_MM_clausify_114 (by decide +kernel) ?_
      refine ax_goto (pc := 115) C 119 d_MM_clausify_115 (by decide) ?_
      refine ax_ls ([(0, .ref z), (1, .int x0), (2, .int x1), (3, .int x2)]) [0, 1, 2, 3] rfl ?_
      have hm : sX_clausify_119 l D kA z v σ [x0, x1, x2, 1, (σ.2.1 51 (Int32.toNatClampNeg x1))] (σf, rf, _) := ihx tX_clausify_119 _ _ _ h
      subst ho
      exact hm _ _ _ _ _ rfl p e s m args below meth c F Lo σ0 hF hLo C hT
  · have h := it_f hc h
    refine ax_aload_n (pc := 52) C d_MM_clausify_52 rfl 0 rfl ?_
    refine mg_178 (pc := 53) C d_MM_clausify_53 ?_
    refine ax_aload_n (pc := 56) C d_MM_clausify_56 rfl 0 rfl ?_
    refine mg_172 (pc := 57) C d_MM_clausify_57 ?_
    refine ax_iload_n (pc := 60) C d_MM_clausify_60 rfl 2 rfl ?_
    obtain ⟨hb, h⟩ := it_g h
    refine ml_52 (pc := 61) C d_MM_clausify_61 (bin_in hb) ?_
    refine ax_iload_n (pc := 62) C d_MM_clausify_62 rfl 3 rfl ?_
    refine ax_iadd (pc := 63) C d_MM_clausify_63 ?_
    obtain ⟨hb, h⟩ := it_g h
    refine ml_54 (pc := 64) C d_MM_clausify_64 (bin_in hb) ?_
    refine ax_istore (pc := 65) C d_MM_clausify_65 (Nat.le_of_ble_eq_true rfl) ([(4, .int (σ.2.1 54 (Int32.toNatClampNeg (((σ.2.1 52 (Int32.toNatClampNeg x1)) : Int32) + x2)))), (0, .ref z), (1, .int x0), (2, .int x1), (3, .int x2)]) rfl ?_
    refine ax_aload_n (pc := 67) C d_MM_clausify_67 rfl 1 rfl ?_
    refine mg_190 (pc := 68) C d_MM_clausify_68 ?_
    refine ax_iload (pc := 71) C d_MM_clausify_71 0 rfl ?_
    refine ax_iload_n (pc := 73) C d_MM_clausify_73 rfl 4 rfl ?_
    obtain ⟨hb, h⟩ := it_g h
    refine ms_58 (pc := 74) C d_MM_clausify_74 (bin_in hb) ?_
    have h := it_l h
    generalize mA σ 58 (Int32.toNatClampNeg (σ.2.1 54 (Int32.toNatClampNeg (((σ.2.1 52 (Int32.toNatClampNeg x1)) : Int32) + x2)))) x2 = σ1 at h ⊢
    refine ax_aload_n (pc := 75) C d_MM_clausify_75 rfl 1 rfl ?_
    refine mg_187 (pc := 76) C d_MM_clausify_76 ?_
    refine ax_iload_n (pc := 79) C d_MM_clausify_79 rfl 3 rfl ?_
    obtain ⟨hb, h⟩ := it_g h
    refine ml_57 (pc := 80) C d_MM_clausify_80 (bin_in hb) ?_
    refine ax_if_eq (pc := 81) C 92 d_MM_clausify_81 (by decide) (fun hc => ?_) (fun hc => ?_)
    · have h := it_t hc h
      refine ax_ls ([(0, .ref z), (1, .int x0), (2, .int x1), (3, .int x2), (4, .int (σ.2.1 54 (Int32.toNatClampNeg (((σ.2.1 52 (Int32.toNatClampNeg x1)) : Int32) + x2))))]) [1, 2, 3, 4, 0] rfl ?_
      have hm : sX_clausify_92 l D kA z v σ1 [x0, x1, x2, (σ.2.1 54 (Int32.toNatClampNeg (((σ.2.1 52 (Int32.toNatClampNeg x1)) : Int32) + x2)))] (σf, rf, _) := ihx tX_clausify_92 _ _ _ h
      subst ho
      exact hm _ _ _ _ rfl p e s m args below meth c F Lo σ0 hF hLo C hT
    · have h := it_f hc h
      refine ax_aload_n (pc := 84) C d_MM_clausify_84 rfl 1 rfl ?_
      refine mg_86 (pc := 85) C d_MM_clausify_85 ?_
      refine ax_iload (pc := 88) C d_MM_clausify_88 0 rfl ?_
      refine ax_iconst (pc := 90) C 1 d_MM_clausify_90 (by decide +kernel) ?_
      obtain ⟨hb, h⟩ := it_g h
      refine ms_24 (pc := 91) C d_MM_clausify_91 (bin_in hb) ?_
      have h := it_l h
      generalize mA σ1 24 (Int32.toNatClampNeg (σ.2.1 54 (Int32.toNatClampNeg (((σ.2.1 52 (Int32.toNatClampNeg x1)) : Int32) + x2)))) (vp_nar .boolean 1) = σ2 at h ⊢
      refine ax_ls ([(0, .ref z), (1, .int x0), (2, .int x1), (3, .int x2), (4, .int (σ.2.1 54 (Int32.toNatClampNeg (((σ.2.1 52 (Int32.toNatClampNeg x1)) : Int32) + x2))))]) [1, 2, 3, 4, 0] rfl ?_
      have hm : sX_clausify_92 l D kA z v σ2 [x0, x1, x2, (σ.2.1 54 (Int32.toNatClampNeg (((σ.2.1 52 (Int32.toNatClampNeg x1)) : Int32) + x2)))] (σf, rf, _) := ihx tX_clausify_92 _ _ _ h
      subst ho
      exact hm _ _ _ _ rfl p e s m args below meth c F Lo σ0 hF hLo C hT
set_option maxHeartbeats 4000000 in
set_option maxRecDepth 100000 in
theorem oX_clausify_92 (l : Launch) (D : va_G) (kA : Nat → ClassId) (z : Nat) (v : Nat → Nat) (rec rex : mF) (ih : ∀ t σ xs res, rec t σ xs = some res → mSem l D kA z v t σ xs res) (ihx : ∀ t σ xs res, rex t σ xs = some res → xSem l D kA z v t σ xs res) (σ : mS) (xs : List Int32) (res : mR) (h : u_4 (kX_clausify_92 rec rex σ) xs = some res) : sX_clausify_92 l D kA z v σ xs res := by
  intro x0 x1 x2 x3 hxs
  subst hxs
  obtain ⟨σf, rf, dd⟩ := res
  have h : (rex tX_clausify_42 σ [x0, x1, (x2 + 1)]) = some (σf, rf, dd) := h
  intro p e s m args below meth c F Lo σ0 hF hLo C hT
  dsimp only at hF hLo hT ⊢
  obtain ⟨o, ho⟩ : ∃ o, o = xo (σf, rf) := ⟨_, rfl⟩
  rw [← ho] at hT ⊢
  refine ax_iinc (pc := 92) C (x2 + 1) d_MM_clausify_92 3 rfl rfl (Nat.le_of_ble_eq_true rfl) ([(3, .int (x2 + 1)), (0, .ref z), (1, .int x0), (2, .int x1), (4, .int x3)]) rfl ?_
  refine ax_goto (pc := 95) C 42 d_MM_clausify_95 (by decide) ?_
  refine ax_ls ([(0, .ref z), (1, .int x0), (2, .int x1), (3, .int (x2 + 1))]) [1, 2, 3, 0] rfl ?_
  have hm : sX_clausify_42 l D kA z v σ [x0, x1, (x2 + 1)] (σf, rf, _) := ihx tX_clausify_42 _ _ _ h
  subst ho
  exact hm _ _ _ rfl p e s m args below meth c F Lo σ0 hF hLo C hT
set_option maxHeartbeats 4000000 in
set_option maxRecDepth 100000 in
theorem oX_clausify_119 (l : Launch) (D : va_G) (kA : Nat → ClassId) (z : Nat) (v : Nat → Nat) (rec rex : mF) (ih : ∀ t σ xs res, rec t σ xs = some res → mSem l D kA z v t σ xs res) (ihx : ∀ t σ xs res, rex t σ xs = some res → xSem l D kA z v t σ xs res) (σ : mS) (xs : List Int32) (res : mR) (h : u_5 (kX_clausify_119 rec rex σ) xs = some res) : sX_clausify_119 l D kA z v σ xs res := by
  intro x0 x1 x2 x3 x4 hxs
  subst hxs
  obtain ⟨σf, rf, dd⟩ := res
  have h : (if bin x1 20100 = true then (bnd (rec tM_mark σ [x4, x3, (σ.2.1 53 (Int32.toNatClampNeg x1))]) (fun σ1 r1 => rex tX_clausify_35 σ1 [x0, (x1 + 1)])) else none) = some (σf, rf, dd) := h
  intro p e s m args below meth c F Lo σ0 hF hLo C hT
  dsimp only at hF hLo hT ⊢
  obtain ⟨o, ho⟩ : ∃ o, o = xo (σf, rf) := ⟨_, rfl⟩
  rw [← ho] at hT ⊢
  refine ax_aload_n (pc := 119) C d_MM_clausify_119 rfl 0 rfl ?_
  refine mg_175 (pc := 120) C d_MM_clausify_120 ?_
  refine ax_iload_n (pc := 123) C d_MM_clausify_123 rfl 2 rfl ?_
  obtain ⟨hb, h⟩ := it_g h
  refine ml_53 (pc := 124) C d_MM_clausify_124 (bin_in hb) ?_
  obtain ⟨σ1, r1, d1_1, d2_1, h1, h, hd2, hd1⟩ := it_b h
  have hm : sM_mark l D kA z v σ [x4, x3, (σ.2.1 53 (Int32.toNatClampNeg x1))] (σ1, r1, d1_1) := ih tM_mark _ _ _ h1
  refine mc_Vv (pc := 125) C (As := [.int x4, .int x3, .int (σ.2.1 53 (Int32.toNatClampNeg x1))]) (rest := []) (hm _ _ _ rfl) ml_MM_522 d_MM_clausify_125 rfl rfl (by dsimp only; omega) (by dsimp only; omega) (Nat.zero_le _) (Nat.zero_le _) (Nat.le_of_ble_eq_true rfl) ?_
  have hF : d2_1 + 8 ≤ F := by omega
  have hLo : 48 * d2_1 + 400 ≤ Lo := by omega
  refine ax_iinc (pc := 128) C (x1 + 1) d_MM_clausify_128 2 rfl rfl (Nat.le_of_ble_eq_true rfl) ([(2, .int (x1 + 1)), (0, .ref z), (1, .int x0), (3, .int x2)]) rfl ?_
  refine ax_goto (pc := 131) C 35 d_MM_clausify_131 (by decide) ?_
  refine ax_ls ([(0, .ref z), (1, .int x0), (2, .int (x1 + 1))]) [1, 2, 0] rfl ?_
  have hm : sX_clausify_35 l D kA z v σ1 [x0, (x1 + 1)] (σf, rf, _) := ihx tX_clausify_35 _ _ _ h
  subst ho
  exact hm _ _ rfl p e s m args below meth c F Lo σ0 hF hLo C hT
set_option maxHeartbeats 4000000 in
set_option maxRecDepth 100000 in
theorem oX_clausify_146 (l : Launch) (D : va_G) (kA : Nat → ClassId) (z : Nat) (v : Nat → Nat) (rec rex : mF) (ih : ∀ t σ xs res, rec t σ xs = some res → mSem l D kA z v t σ xs res) (ihx : ∀ t σ xs res, rex t σ xs = some res → xSem l D kA z v t σ xs res) (σ : mS) (xs : List Int32) (res : mR) (h : u_2 (kX_clausify_146 rec rex σ) xs = some res) : sX_clausify_146 l D kA z v σ xs res := by
  intro x0 x1 hxs
  subst hxs
  obtain ⟨σf, rf, dd⟩ := res
  have h : (if (σ.1 20) < x1 then (rex tX_clausify_195 σ [x0, 0]) else (if bin x1 900 = true then (if bin x1 900 = true then (lt_ (mA σ 48 (Int32.toNatClampNeg x1) (σ.2.1 15 (Int32.toNatClampNeg x1))) (fun σ1 => if bin x1 900 = true then (if (σ1.2.1 16 (Int32.toNatClampNeg x1)) = 1 then (rex tX_clausify_186 σ1 [x0, x1, 1, x1]) else (rex tX_clausify_186 σ1 [x0, x1, 0, x1])) else none)) else none) else none)) = some (σf, rf, dd) := h
  intro p e s m args below meth c F Lo σ0 hF hLo C hT
  dsimp only at hF hLo hT ⊢
  obtain ⟨o, ho⟩ : ∃ o, o = xo (σf, rf) := ⟨_, rfl⟩
  rw [← ho] at hT ⊢
  refine ax_iload_n (pc := 146) C d_MM_clausify_146 rfl 2 rfl ?_
  refine ax_aload_n (pc := 147) C d_MM_clausify_147 rfl 0 rfl ?_
  refine mg_74 (pc := 148) C d_MM_clausify_148 ?_
  refine ax_icmp_gt (pc := 151) C 193 d_MM_clausify_151 (by decide) (fun hc => ?_) (fun hc => ?_)
  · have h := it_t hc h
    refine ax_iconst (pc := 193) C 0 d_MM_clausify_193 (by decide +kernel) ?_
    refine ax_istore_n (pc := 194) C d_MM_clausify_194 rfl (Nat.le_of_ble_eq_true rfl) ([(2, .int 0), (0, .ref z), (1, .int x0)]) rfl ?_
    refine ax_ls ([(0, .ref z), (1, .int x0), (2, .int 0)]) [1, 2, 0] rfl ?_
    have hm : sX_clausify_195 l D kA z v σ [x0, 0] (σf, rf, _) := ihx tX_clausify_195 _ _ _ h
    subst ho
    exact hm _ _ rfl p e s m args below meth c F Lo σ0 hF hLo C hT
  · have h := it_f hc h
    refine ax_aload_n (pc := 154) C d_MM_clausify_154 rfl 0 rfl ?_
    refine mg_160 (pc := 155) C d_MM_clausify_155 ?_
    refine ax_iload_n (pc := 158) C d_MM_clausify_158 rfl 2 rfl ?_
    refine ax_aload_n (pc := 159) C d_MM_clausify_159 rfl 0 rfl ?_
    refine mg_59 (pc := 160) C d_MM_clausify_160 ?_
    refine ax_iload_n (pc := 163) C d_MM_clausify_163 rfl 2 rfl ?_
    obtain ⟨hb, h⟩ := it_g h
    refine ml_15 (pc := 164) C d_MM_clausify_164 (bin_in hb) ?_
    obtain ⟨hb, h⟩ := it_g h
    refine ms_48 (pc := 165) C d_MM_clausify_165 (bin_in hb) ?_
    have h := it_l h
    generalize mA σ 48 (Int32.toNatClampNeg x1) (σ.2.1 15 (Int32.toNatClampNeg x1)) = σ1 at h ⊢
    refine ax_aload_n (pc := 166) C d_MM_clausify_166 rfl 0 rfl ?_
    refine mg_163 (pc := 167) C d_MM_clausify_167 ?_
    refine ax_iload_n (pc := 170) C d_MM_clausify_170 rfl 2 rfl ?_
    refine ax_aload_n (pc := 171) C d_MM_clausify_171 rfl 0 rfl ?_
    refine mg_62 (pc := 172) C d_MM_clausify_172 ?_
    refine ax_iload_n (pc := 175) C d_MM_clausify_175 rfl 2 rfl ?_
    obtain ⟨hb, h⟩ := it_g h
    refine ml_16 (pc := 176) C d_MM_clausify_176 (bin_in hb) ?_
    refine ax_iconst (pc := 177) C 1 d_MM_clausify_177 (by decide +kernel) ?_
    refine ax_icmp_ne (pc := 178) C 185 d_MM_clausify_178 (by decide) (fun hc => ?_) (fun hc => ?_)
    · have h := it_f hc h
      refine ax_iconst (pc := 185) C 0 d_MM_clausify_185 (by decide +kernel) ?_
      refine ax_ls ([(0, .ref z), (1, .int x0), (2, .int x1)]) [0, 1, 2] rfl ?_
      have hm : sX_clausify_186 l D kA z v σ1 [x0, x1, 0, x1] (σf, rf, _) := ihx tX_clausify_186 _ _ _ h
      subst ho
      exact hm _ _ _ _ rfl p e s m args below meth c F Lo σ0 hF hLo C hT
    · have h := it_t hc h
      refine ax_iconst (pc := 181) C 1 d_MM_clausify_181 (by decide +kernel) ?_
      refine ax_goto (pc := 182) C 186 d_MM_clausify_182 (by decide) ?_
      refine ax_ls ([(0, .ref z), (1, .int x0), (2, .int x1)]) [0, 1, 2] rfl ?_
      have hm : sX_clausify_186 l D kA z v σ1 [x0, x1, 1, x1] (σf, rf, _) := ihx tX_clausify_186 _ _ _ h
      subst ho
      exact hm _ _ _ _ rfl p e s m args below meth c F Lo σ0 hF hLo C hT
set_option maxHeartbeats 4000000 in
set_option maxRecDepth 100000 in
theorem oX_clausify_186 (l : Launch) (D : va_G) (kA : Nat → ClassId) (z : Nat) (v : Nat → Nat) (rec rex : mF) (ih : ∀ t σ xs res, rec t σ xs = some res → mSem l D kA z v t σ xs res) (ihx : ∀ t σ xs res, rex t σ xs = some res → xSem l D kA z v t σ xs res) (σ : mS) (xs : List Int32) (res : mR) (h : u_4 (kX_clausify_186 rec rex σ) xs = some res) : sX_clausify_186 l D kA z v σ xs res := by
  intro x0 x1 x2 x3 hxs
  subst hxs
  obtain ⟨σf, rf, dd⟩ := res
  have h : (if bin x3 900 = true then (lt_ (mA σ 49 (Int32.toNatClampNeg x3) (vp_nar .boolean x2)) (fun σ1 => rex tX_clausify_146 σ1 [x0, (x1 + 1)])) else none) = some (σf, rf, dd) := h
  intro p e s m args below meth c F Lo σ0 hF hLo C hT
  dsimp only at hF hLo hT ⊢
  obtain ⟨o, ho⟩ : ∃ o, o = xo (σf, rf) := ⟨_, rfl⟩
  rw [← ho] at hT ⊢
  obtain ⟨hb, h⟩ := it_g h
  refine ms_49 (pc := 186) C d_MM_clausify_186 (bin_in hb) ?_
  have h := it_l h
  generalize mA σ 49 (Int32.toNatClampNeg x3) (vp_nar .boolean x2) = σ1 at h ⊢
  refine ax_iinc (pc := 187) C (x1 + 1) d_MM_clausify_187 2 rfl rfl (Nat.le_of_ble_eq_true rfl) ([(2, .int (x1 + 1)), (0, .ref z), (1, .int x0)]) rfl ?_
  refine ax_goto (pc := 190) C 146 d_MM_clausify_190 (by decide) ?_
  refine ax_ls ([(0, .ref z), (1, .int x0), (2, .int (x1 + 1))]) [1, 2, 0] rfl ?_
  have hm : sX_clausify_146 l D kA z v σ1 [x0, (x1 + 1)] (σf, rf, _) := ihx tX_clausify_146 _ _ _ h
  subst ho
  exact hm _ _ rfl p e s m args below meth c F Lo σ0 hF hLo C hT
set_option maxHeartbeats 4000000 in
set_option maxRecDepth 100000 in
theorem oX_clausify_195 (l : Launch) (D : va_G) (kA : Nat → ClassId) (z : Nat) (v : Nat → Nat) (rec rex : mF) (ih : ∀ t σ xs res, rec t σ xs = some res → mSem l D kA z v t σ xs res) (ihx : ∀ t σ xs res, rex t σ xs = some res → xSem l D kA z v t σ xs res) (σ : mS) (xs : List Int32) (res : mR) (h : u_2 (kX_clausify_195 rec rex σ) xs = some res) : sX_clausify_195 l D kA z v σ xs res := by
  intro x0 x1 hxs
  subst hxs
  obtain ⟨σf, rf, dd⟩ := res
  have h : (if (σ.1 25) ≤ x1 then (rex tX_clausify_267 σ [x0, 0, 0]) else (if bin x1 300 = true then (if (σ.2.1 24 (Int32.toNatClampNeg x1)) = 0 then (rex tX_clausify_257 σ [x0, x1]) else (if bin x1 300 = true then (if bin (σ.1 19) 900 = true then (lt_ (mA σ 48 (Int32.toNatClampNeg (σ.1 19)) (σ.2.1 58 (Int32.toNatClampNeg x1))) (fun σ1 => if bin (σ1.1 19) 900 = true then (lt_ (mA σ1 49 (Int32.toNatClampNeg (σ1.1 19)) (vp_nar .boolean 0)) (fun σ2 => lt_ (mI σ2 19 (((σ2.1 19) : Int32) + 1)) (fun σ3 => if bin x1 300 = true then (lt_ (mA σ3 23 (Int32.toNatClampNeg x1) (σ2.1 19)) (fun σ4 => rex tX_clausify_257 σ4 [x0, x1])) else none))) else none)) else none) else none)) else none)) = some (σf, rf, dd) := h
  intro p e s m args below meth c F Lo σ0 hF hLo C hT
  dsimp only at hF hLo hT ⊢
  obtain ⟨o, ho⟩ : ∃ o, o = xo (σf, rf) := ⟨_, rfl⟩
  rw [← ho] at hT ⊢
  refine ax_iload_n (pc := 195) C d_MM_clausify_195 rfl 2 rfl ?_
  refine ax_aload_n (pc := 196) C d_MM_clausify_196 rfl 0 rfl ?_
  refine mg_90 (pc := 197) C d_MM_clausify_197 ?_
  refine ax_icmp_ge (pc := 200) C 263 d_MM_clausify_200 (by decide) (fun hc => ?_) (fun hc => ?_)
  · have h := it_t hc h
    refine ax_iconst (pc := 263) C 0 d_MM_clausify_263 (by decide +kernel) ?_
    refine ax_istore_n (pc := 264) C d_MM_clausify_264 rfl (Nat.le_of_ble_eq_true rfl) ([(2, .int 0), (0, .ref z), (1, .int x0)]) rfl ?_
    refine ax_iconst (pc := 265) C 0 d_MM_clausify_265 (by decide +kernel) ?_
    refine ax_istore_n (pc := 266) C d_MM_clausify_266 rfl (Nat.le_of_ble_eq_true rfl) ([(3, .int 0), (2, .int 0), (0, .ref z), (1, .int x0)]) rfl ?_
    refine ax_ls ([(0, .ref z), (1, .int x0), (2, .int 0), (3, .int 0)]) [2, 3, 1, 0] rfl ?_
    have hm : sX_clausify_267 l D kA z v σ [x0, 0, 0] (σf, rf, _) := ihx tX_clausify_267 _ _ _ h
    subst ho
    exact hm _ _ _ rfl p e s m args below meth c F Lo σ0 hF hLo C hT
  · have h := it_f hc h
    refine ax_aload_n (pc := 203) C d_MM_clausify_203 rfl 0 rfl ?_
    refine mg_86 (pc := 204) C d_MM_clausify_204 ?_
    refine ax_iload_n (pc := 207) C d_MM_clausify_207 rfl 2 rfl ?_
    obtain ⟨hb, h⟩ := it_g h
    refine ml_24 (pc := 208) C d_MM_clausify_208 (bin_in hb) ?_
    refine ax_if_ne (pc := 209) C 215 d_MM_clausify_209 (by decide) (fun hc => ?_) (fun hc => ?_)
    · have h := it_f hc h
      refine ax_aload_n (pc := 215) C d_MM_clausify_215 rfl 0 rfl ?_
      refine mg_160 (pc := 216) C d_MM_clausify_216 ?_
      refine ax_aload_n (pc := 219) C d_MM_clausify_219 rfl 0 rfl ?_
      refine mg_71 (pc := 220) C d_MM_clausify_220 ?_
      refine ax_aload_n (pc := 223) C d_MM_clausify_223 rfl 0 rfl ?_
      refine mg_190 (pc := 224) C d_MM_clausify_224 ?_
      refine ax_iload_n (pc := 227) C d_MM_clausify_227 rfl 2 rfl ?_
      obtain ⟨hb, h⟩ := it_g h
      refine ml_58 (pc := 228) C d_MM_clausify_228 (bin_in hb) ?_
      obtain ⟨hb, h⟩ := it_g h
      refine ms_48 (pc := 229) C d_MM_clausify_229 (bin_in hb) ?_
      have h := it_l h
      generalize mA σ 48 (Int32.toNatClampNeg (σ.1 19)) (σ.2.1 58 (Int32.toNatClampNeg x1)) = σ1 at h ⊢
      refine ax_aload_n (pc := 230) C d_MM_clausify_230 rfl 0 rfl ?_
      refine mg_163 (pc := 231) C d_MM_clausify_231 ?_
      refine ax_aload_n (pc := 234) C d_MM_clausify_234 rfl 0 rfl ?_
      refine mg_71 (pc := 235) C d_MM_clausify_235 ?_
      refine ax_iconst (pc := 238) C 0 d_MM_clausify_238 (by decide +kernel) ?_
      obtain ⟨hb, h⟩ := it_g h
      refine ms_49 (pc := 239) C d_MM_clausify_239 (bin_in hb) ?_
      have h := it_l h
      generalize mA σ1 49 (Int32.toNatClampNeg (σ1.1 19)) (vp_nar .boolean 0) = σ2 at h ⊢
      refine ax_aload_n (pc := 240) C d_MM_clausify_240 rfl 0 rfl ?_
      refine mg_83 (pc := 241) C d_MM_clausify_241 ?_
      refine ax_iload_n (pc := 244) C d_MM_clausify_244 rfl 2 rfl ?_
      refine ax_aload_n (pc := 245) C d_MM_clausify_245 rfl 0 rfl ?_
      refine ax_dup (pc := 246) C d_MM_clausify_246 rfl ?_
      refine mg_71 (pc := 247) C d_MM_clausify_247 ?_
      refine ax_dup_x1 (pc := 250) C d_MM_clausify_250 rfl rfl ?_
      refine ax_iconst (pc := 251) C 1 d_MM_clausify_251 (by decide +kernel) ?_
      refine ax_iadd (pc := 252) C d_MM_clausify_252 ?_
      refine mp_71 (pc := 253) C d_MM_clausify_253 ?_
      have h := it_l h
      generalize mI σ2 19 (((σ2.1 19) : Int32) + 1) = σ3 at h ⊢
      obtain ⟨hb, h⟩ := it_g h
      refine ms_23 (pc := 256) C d_MM_clausify_256 (bin_in hb) ?_
      have h := it_l h
      generalize mA σ3 23 (Int32.toNatClampNeg x1) (σ2.1 19) = σ4 at h ⊢
      refine ax_ls ([(0, .ref z), (1, .int x0), (2, .int x1)]) [0, 1, 2] rfl ?_
      have hm : sX_clausify_257 l D kA z v σ4 [x0, x1] (σf, rf, _) := ihx tX_clausify_257 _ _ _ h
      subst ho
      exact hm _ _ rfl p e s m args below meth c F Lo σ0 hF hLo C hT
    · have h := it_t hc h
      refine ax_goto (pc := 212) C 257 d_MM_clausify_212 (by decide) ?_
      refine ax_ls ([(0, .ref z), (1, .int x0), (2, .int x1)]) [0, 1, 2] rfl ?_
      have hm : sX_clausify_257 l D kA z v σ [x0, x1] (σf, rf, _) := ihx tX_clausify_257 _ _ _ h
      subst ho
      exact hm _ _ rfl p e s m args below meth c F Lo σ0 hF hLo C hT
set_option maxHeartbeats 4000000 in
set_option maxRecDepth 100000 in
theorem oX_clausify_257 (l : Launch) (D : va_G) (kA : Nat → ClassId) (z : Nat) (v : Nat → Nat) (rec rex : mF) (ih : ∀ t σ xs res, rec t σ xs = some res → mSem l D kA z v t σ xs res) (ihx : ∀ t σ xs res, rex t σ xs = some res → xSem l D kA z v t σ xs res) (σ : mS) (xs : List Int32) (res : mR) (h : u_2 (kX_clausify_257 rec rex σ) xs = some res) : sX_clausify_257 l D kA z v σ xs res := by
  intro x0 x1 hxs
  subst hxs
  obtain ⟨σf, rf, dd⟩ := res
  have h : (rex tX_clausify_195 σ [x0, (x1 + 1)]) = some (σf, rf, dd) := h
  intro p e s m args below meth c F Lo σ0 hF hLo C hT
  dsimp only at hF hLo hT ⊢
  obtain ⟨o, ho⟩ : ∃ o, o = xo (σf, rf) := ⟨_, rfl⟩
  rw [← ho] at hT ⊢
  refine ax_iinc (pc := 257) C (x1 + 1) d_MM_clausify_257 2 rfl rfl (Nat.le_of_ble_eq_true rfl) ([(2, .int (x1 + 1)), (0, .ref z), (1, .int x0)]) rfl ?_
  refine ax_goto (pc := 260) C 195 d_MM_clausify_260 (by decide) ?_
  refine ax_ls ([(0, .ref z), (1, .int x0), (2, .int (x1 + 1))]) [1, 2, 0] rfl ?_
  have hm : sX_clausify_195 l D kA z v σ [x0, (x1 + 1)] (σf, rf, _) := ihx tX_clausify_195 _ _ _ h
  subst ho
  exact hm _ _ rfl p e s m args below meth c F Lo σ0 hF hLo C hT
set_option maxHeartbeats 4000000 in
set_option maxRecDepth 100000 in
theorem oX_clausify_267 (l : Launch) (D : va_G) (kA : Nat → ClassId) (z : Nat) (v : Nat → Nat) (rec rex : mF) (ih : ∀ t σ xs res, rec t σ xs = some res → mSem l D kA z v t σ xs res) (ihx : ∀ t σ xs res, rex t σ xs = some res → xSem l D kA z v t σ xs res) (σ : mS) (xs : List Int32) (res : mR) (h : u_3 (kX_clausify_267 rec rex σ) xs = some res) : sX_clausify_267 l D kA z v σ xs res := by
  intro x0 x1 x2 hxs
  subst hxs
  obtain ⟨σf, rf, dd⟩ := res
  have h : (if (σ.1 55) ≤ x2 then (lt_ (mI σ 3000 0) (fun u => some (u, 0, 0))) else (if x2 = x0 then (if bin x2 20100 = true then (lt_ (mI σ 3003 3) (fun u1 => lt_ (mI u1 3004 (σ.2.1 50 (Int32.toNatClampNeg x2))) (fun u2 => lt_ (mI u2 3000 1) (fun u3 => some (u3, 0, 0))))) else none) else (if bin x2 20100 = true then (if bin x2 20100 = true then (if (σ.2.1 57 (Int32.toNatClampNeg x2)) = 0 then (rex tX_clausify_317 σ [x0, x1, x2, 1, (σ.2.1 51 (Int32.toNatClampNeg x2)), x1]) else (rex tX_clausify_317 σ [x0, x1, x2, 0, (σ.2.1 51 (Int32.toNatClampNeg x2)), x1])) else none) else none))) = some (σf, rf, dd) := h
  intro p e s m args below meth c F Lo σ0 hF hLo C hT
  dsimp only at hF hLo hT ⊢
  obtain ⟨o, ho⟩ : ∃ o, o = xo (σf, rf) := ⟨_, rfl⟩
  rw [← ho] at hT ⊢
  refine ax_iload_n (pc := 267) C d_MM_clausify_267 rfl 3 rfl ?_
  refine ax_aload_n (pc := 268) C d_MM_clausify_268 rfl 0 rfl ?_
  refine mg_181 (pc := 269) C d_MM_clausify_269 ?_
  refine ax_icmp_ge (pc := 272) C 355 d_MM_clausify_272 (by decide) (fun hc => ?_) (fun hc => ?_)
  · have h := it_t hc h
    have h := it_l h
    cases h
    exact xr_vret (pc := 355) C ho d_MM_clausify_355
  · have h := it_f hc h
    refine ax_iload_n (pc := 275) C d_MM_clausify_275 rfl 3 rfl ?_
    refine ax_iload_n (pc := 276) C d_MM_clausify_276 rfl 1 rfl ?_
    refine ax_icmp_ne (pc := 277) C 295 d_MM_clausify_277 (by decide) (fun hc => ?_) (fun hc => ?_)
    · have h := it_f hc h
      refine ax_iload_n (pc := 295) C d_MM_clausify_295 rfl 2 rfl ?_
      refine ax_aload_n (pc := 296) C d_MM_clausify_296 rfl 0 rfl ?_
      refine ax_aload_n (pc := 297) C d_MM_clausify_297 rfl 0 rfl ?_
      refine mg_169 (pc := 298) C d_MM_clausify_298 ?_
      refine ax_iload_n (pc := 301) C d_MM_clausify_301 rfl 3 rfl ?_
      obtain ⟨hb, h⟩ := it_g h
      refine ml_51 (pc := 302) C d_MM_clausify_302 (bin_in hb) ?_
      refine ax_aload_n (pc := 303) C d_MM_clausify_303 rfl 0 rfl ?_
      refine mg_187 (pc := 304) C d_MM_clausify_304 ?_
      refine ax_iload_n (pc := 307) C d_MM_clausify_307 rfl 3 rfl ?_
      obtain ⟨hb, h⟩ := it_g h
      refine ml_57 (pc := 308) C d_MM_clausify_308 (bin_in hb) ?_
      refine ax_if_ne (pc := 309) C 316 d_MM_clausify_309 (by decide) (fun hc => ?_) (fun hc => ?_)
      · have h := it_f hc h
        refine ax_iconst (pc := 316) C 0 d_MM_clausify_316 (by decide +kernel) ?_
        refine ax_ls ([(0, .ref z), (1, .int x0), (2, .int x1), (3, .int x2)]) [0, 1, 2, 3] rfl ?_
        have hm : sX_clausify_317 l D kA z v σ [x0, x1, x2, 0, (σ.2.1 51 (Int32.toNatClampNeg x2)), x1] (σf, rf, _) := ihx tX_clausify_317 _ _ _ h
        subst ho
        exact hm _ _ _ _ _ _ rfl p e s m args below meth c F Lo σ0 hF hLo C hT
      · have h := it_t hc h
        refine ax_iconst (pc := 312) C 1 d_MM_clausify_312 (by decide +kernel) ?_
        refine ax_goto (pc := 313) C 317 d_MM_clausify_313 (by decide) ?_
        refine ax_ls ([(0, .ref z), (1, .int x0), (2, .int x1), (3, .int x2)]) [0, 1, 2, 3] rfl ?_
        have hm : sX_clausify_317 l D kA z v σ [x0, x1, x2, 1, (σ.2.1 51 (Int32.toNatClampNeg x2)), x1] (σf, rf, _) := ihx tX_clausify_317 _ _ _ h
        subst ho
        exact hm _ _ _ _ _ _ rfl p e s m args below meth c F Lo σ0 hF hLo C hT
    · have h := it_t hc h
      obtain ⟨hb, h⟩ := it_g h
      have h := it_l (it_l (it_l h))
      cases h
      obtain rfl : o = xWr 3 (σ.2.1 50 (Int32.toNatClampNeg x2)) := ho.trans (xo_wrong _ _ _)
      obtain ⟨hT1, hX⟩ := hT rfl
      refine mx_new8 (pc := 280) C (Nat.le_of_ble_eq_true rfl) (Nat.le_of_ble_eq_true rfl) d_MM_clausify_280 (fun q => ?_)
      refine ax_dup (pc := 283) C d_MM_clausify_283 rfl ?_
      refine ax_iconst (pc := 284) C 3 d_MM_clausify_284 (by decide +kernel) ?_
      refine ax_aload_n (pc := 285) C d_MM_clausify_285 rfl 0 rfl ?_
      refine mgx_166 (pc := 286) C d_MM_clausify_286 ?_
      refine ax_iload_n (pc := 289) C d_MM_clausify_289 rfl 3 rfl ?_
      refine mlx_50 (pc := 290) C d_MM_clausify_290 (bin_in hb) ?_
      refine mx_initW (pc := 291) C hX d_MM_clausify_291 (Nat.le_of_ble_eq_true rfl) (by dsimp only; omega) (by dsimp only; omega) (Nat.le_of_ble_eq_true rfl) (Nat.le_of_ble_eq_true rfl) ?_
      exact xr_Wv (pc := 294) C (xt_none hT1 _) d_MM_clausify_294 (Nat.le_of_ble_eq_true rfl) (Nat.le_of_ble_eq_true rfl)
set_option maxHeartbeats 4000000 in
set_option maxRecDepth 100000 in
theorem oX_clausify_317 (l : Launch) (D : va_G) (kA : Nat → ClassId) (z : Nat) (v : Nat → Nat) (rec rex : mF) (ih : ∀ t σ xs res, rec t σ xs = some res → mSem l D kA z v t σ xs res) (ihx : ∀ t σ xs res, rex t σ xs = some res → xSem l D kA z v t σ xs res) (σ : mS) (xs : List Int32) (res : mR) (h : u_6 (kX_clausify_317 rec rex σ) xs = some res) : sX_clausify_317 l D kA z v σ xs res := by
  intro x0 x1 x2 x3 x4 x5 hxs
  subst hxs
  obtain ⟨σf, rf, dd⟩ := res
  have h : (bnd (rec tM_count2 σ [x4, x3]) (fun σ1 r1 => if ((x5 : Int32) + r1) ≤ 200 then (bnd (rex tX_sentenceClauses σ1 [x2]) (fun σ2 r2 => if σ2.1 3000 = 0 then (rex tX_clausify_267 σ2 [x0, ((x5 : Int32) + r1), (x2 + 1)]) else (some (σ2, 0, 0)))) else (if bin x2 20100 = true then (lt_ (mI σ1 3003 3) (fun u1 => lt_ (mI u1 3004 (σ1.2.1 50 (Int32.toNatClampNeg x2))) (fun u2 => lt_ (mI u2 3000 1) (fun u3 => some (u3, 0, 0))))) else none))) = some (σf, rf, dd) := h
  intro p e s m args below meth c F Lo σ0 hF hLo C hT
  dsimp only at hF hLo hT ⊢
  obtain ⟨o, ho⟩ : ∃ o, o = xo (σf, rf) := ⟨_, rfl⟩
  rw [← ho] at hT ⊢
  obtain ⟨σ1, r1, d1_1, d2_1, h1, h, hd2, hd1⟩ := it_b h
  have hm : sM_count2 l D kA z v σ [x4, x3] (σ1, r1, d1_1) := ih tM_count2 _ _ _ h1
  refine mc_Vi (pc := 317) C (As := [.int x4, .int x3]) (rest := [.int x5]) (hm _ _ rfl) ml_MM_532 d_MM_clausify_317 rfl rfl (by dsimp only; omega) (by dsimp only; omega) (Nat.zero_le _) (Nat.zero_le _) (Nat.le_of_ble_eq_true rfl) ?_
  have hF : d2_1 + 8 ≤ F := by omega
  have hLo : 48 * d2_1 + 400 ≤ Lo := by omega
  refine ax_iadd (pc := 320) C d_MM_clausify_320 ?_
  refine ax_istore_n (pc := 321) C d_MM_clausify_321 rfl (Nat.le_of_ble_eq_true rfl) ([(2, .int ((x5 : Int32) + r1)), (0, .ref z), (1, .int x0), (3, .int x2)]) rfl ?_
  refine ax_iload_n (pc := 322) C d_MM_clausify_322 rfl 0 rfl ?_
  refine ax_sipush (pc := 323) C 200 d_MM_clausify_323 (by decide +kernel) ?_
  refine ax_icmp_le (pc := 326) C 344 d_MM_clausify_326 (by decide) (fun hc => ?_) (fun hc => ?_)
  · have h := it_t hc h
    refine ax_aload_n (pc := 344) C d_MM_clausify_344 rfl 1 rfl ?_
    refine ax_iload_n (pc := 345) C d_MM_clausify_345 rfl 3 rfl ?_
    obtain ⟨σ2, r2, d1_2, d2_2, h1, h, hd2, hd1⟩ := it_b h
    have hm : sX_sentenceClauses l D kA z v σ1 [x2] (σ2, r2, d1_2) := ihx tX_sentenceClauses _ _ _ h1
    by_cases hq : σ2.1 3000 = 0
    · have h := it_t hq h
      refine mcx_Vvw (pc := 346) C (As := [.int x2]) (rest := []) (hm _ rfl) hq mlw_750 d_MM_clausify_346 rfl rfl (by dsimp only; omega) (by dsimp only; omega) (Nat.zero_le _) (Nat.zero_le _) (Nat.le_of_ble_eq_true rfl) ?_
      have hF : d2_2 + 8 ≤ F := by omega
      have hLo : 48 * d2_2 + 400 ≤ Lo := by omega
      refine ax_iinc (pc := 349) C (x2 + 1) d_MM_clausify_349 3 rfl rfl (Nat.le_of_ble_eq_true rfl) ([(3, .int (x2 + 1)), (2, .int ((x5 : Int32) + r1)), (0, .ref z), (1, .int x0)]) rfl ?_
      refine ax_goto (pc := 352) C 267 d_MM_clausify_352 (by decide) ?_
      refine ax_ls ([(0, .ref z), (1, .int x0), (2, .int ((x5 : Int32) + r1)), (3, .int (x2 + 1))]) [2, 3, 1, 0] rfl ?_
      have hm : sX_clausify_267 l D kA z v σ2 [x0, ((x5 : Int32) + r1), (x2 + 1)] (σf, rf, _) := ihx tX_clausify_267 _ _ _ h
      subst ho
      exact hm _ _ _ rfl p e s m args below meth c F Lo σ0 hF hLo C hT
    · have h := it_f hq h
      cases h
      obtain ⟨hT1, hX⟩ := hT (by rw [ho]; exact xo_thr hq)
      rw [xQv_thr (by rw [ho]; exact xo_thr hq)]
      exact mcx_Pw (pc := 346) C (As := [.int x2]) (rest := []) hX (xt_none hT1 _) ho hq (xMvw_thr hq (hm _ rfl)) mlw_750 d_MM_clausify_346 rfl rfl (by dsimp only; omega) (by dsimp only; omega) (Nat.le_of_ble_eq_true rfl)
  · have h := it_f hc h
    obtain ⟨hb, h⟩ := it_g h
    have h := it_l (it_l (it_l h))
    cases h
    obtain rfl : o = xWr 3 (σ1.2.1 50 (Int32.toNatClampNeg x2)) := ho.trans (xo_wrong _ _ _)
    obtain ⟨hT1, hX⟩ := hT rfl
    refine mx_new8 (pc := 329) C (Nat.le_of_ble_eq_true rfl) (Nat.le_of_ble_eq_true rfl) d_MM_clausify_329 (fun q => ?_)
    refine ax_dup (pc := 332) C d_MM_clausify_332 rfl ?_
    refine ax_iconst (pc := 333) C 3 d_MM_clausify_333 (by decide +kernel) ?_
    refine ax_aload_n (pc := 334) C d_MM_clausify_334 rfl 1 rfl ?_
    refine mgx_166 (pc := 335) C d_MM_clausify_335 ?_
    refine ax_iload_n (pc := 338) C d_MM_clausify_338 rfl 3 rfl ?_
    refine mlx_50 (pc := 339) C d_MM_clausify_339 (bin_in hb) ?_
    refine mx_initW (pc := 340) C hX d_MM_clausify_340 (Nat.le_of_ble_eq_true rfl) (by dsimp only; omega) (by dsimp only; omega) (Nat.le_of_ble_eq_true rfl) (Nat.le_of_ble_eq_true rfl) ?_
    exact xr_Wv (pc := 343) C (xt_none hT1 _) d_MM_clausify_343 (Nat.le_of_ble_eq_true rfl) (Nat.le_of_ble_eq_true rfl)
set_option maxHeartbeats 4000000 in
set_option maxRecDepth 100000 in
theorem oX_sentenceClauses (l : Launch) (D : va_G) (kA : Nat → ClassId) (z : Nat) (v : Nat → Nat) (rec rex : mF) (ih : ∀ t σ xs res, rec t σ xs = some res → mSem l D kA z v t σ xs res) (ihx : ∀ t σ xs res, rex t σ xs = some res → xSem l D kA z v t σ xs res) (σ : mS) (xs : List Int32) (res : mR) (h : u_1 (kX_sentenceClauses rec rex σ) xs = some res) : sX_sentenceClauses l D kA z v σ xs res := by
  intro x0 hxs
  subst hxs
  obtain ⟨σf, rf, dd⟩ := res
  have h : (lt_ (mI σ 47 205000) (fun σ1 => lt_ (mI σ1 62 0) (fun σ2 => rex tX_sentenceClauses_14 σ2 [x0, 0]))) = some (σf, rf, dd) := h
  obtain ⟨o, ho⟩ : ∃ o, o = xo (σf, rf) := ⟨_, rfl⟩
  show xMvw l D kA y_MM_sentenceClauses b_MM_sentenceClauses 5 [(66, 90, 93, 551)] (dd + 8) (48 * dd + 400) [.ref z, .int x0] (mmW kA z v σ) z v σf (xo (σf, rf))
  rw [← ho]
  refine xMvw.of (by decide +kernel) (Nat.le_of_ble_eq_true rfl) ?_
  intro p e s m args below meth c C hT
  have C : ax_C p s m args meth c b_MM_sentenceClauses "ClauseProverModel" 5 none D kA (va_A (mmW kA z v σ) s.heap.size) := C
  obtain ⟨F, hFe⟩ : ∃ F, F = dd + 8 := ⟨_, rfl⟩
  obtain ⟨Lo, hLoe⟩ : ∃ Lo, Lo = 48 * dd + 400 := ⟨_, rfl⟩
  obtain ⟨σ0, hσ0⟩ : ∃ s0, s0 = σ := ⟨_, rfl⟩
  suffices K : AW p l e { frames := F, cells := xmc o, slots := xms o, locals := Lo } s m args below meth c D kA (va_A (mmW kA z v σ0) s.heap.size) 5 (xQv below args s D kA (mmW kA z v σ0) z v σf o) 0 [(0, .ref z), (1, .int x0)] [] (mmW kA z v σ) 0 0 by rw [hFe, hLoe, hσ0] at K; exact ax_ls ([(0, .ref z), (1, .int x0)]) [0, 1] rfl K
  have C : ax_C p s m args meth c b_MM_sentenceClauses "ClauseProverModel" 5 none D kA (va_A (mmW kA z v σ0) s.heap.size) := by rw [hσ0]; exact C
  have hT : XTh [(66, 90, 93, 551)] o l e s m meth c (va_A (mmW kA z v σ0) s.heap.size) := by rw [hσ0]; exact hT
  have hF : dd + 8 ≤ F := by omega
  have hLo : 48 * dd + 400 ≤ Lo := by omega
  clear hFe hLoe hσ0
  refine ax_aload_n (pc := 0) C d_MM_sentenceClauses_0 rfl 0 rfl ?_
  refine ax_ldcw (pc := 1) C tb_constant_2109 d_MM_sentenceClauses_1 ?_
  refine mp_157 (pc := 4) C d_MM_sentenceClauses_4 ?_
  have h := it_l h
  generalize mI σ 47 205000 = σ1 at h ⊢
  refine ax_aload_n (pc := 7) C d_MM_sentenceClauses_7 rfl 0 rfl ?_
  refine ax_iconst (pc := 8) C 0 d_MM_sentenceClauses_8 (by decide +kernel) ?_
  refine mp_202 (pc := 9) C d_MM_sentenceClauses_9 ?_
  have h := it_l h
  generalize mI σ1 62 0 = σ2 at h ⊢
  refine ax_iconst (pc := 12) C 0 d_MM_sentenceClauses_12 (by decide +kernel) ?_
  refine ax_istore_n (pc := 13) C d_MM_sentenceClauses_13 rfl (Nat.le_of_ble_eq_true rfl) ([(2, .int 0), (0, .ref z), (1, .int x0)]) rfl ?_
  refine ax_ls ([(0, .ref z), (1, .int x0), (2, .int 0)]) [1, 2, 0] rfl ?_
  have hm : sX_sentenceClauses_14 l D kA z v σ2 [x0, 0] (σf, rf, _) := ihx tX_sentenceClauses_14 _ _ _ h
  subst ho
  exact hm _ _ rfl p e s m args below meth c F Lo σ0 hF hLo C hT
set_option maxHeartbeats 4000000 in
set_option maxRecDepth 100000 in
theorem oX_sentenceClauses_14 (l : Launch) (D : va_G) (kA : Nat → ClassId) (z : Nat) (v : Nat → Nat) (rec rex : mF) (ih : ∀ t σ xs res, rec t σ xs = some res → mSem l D kA z v t σ xs res) (ihx : ∀ t σ xs res, rex t σ xs = some res → xSem l D kA z v t σ xs res) (σ : mS) (xs : List Int32) (res : mR) (h : u_2 (kX_sentenceClauses_14 rec rex σ) xs = some res) : sX_sentenceClauses_14 l D kA z v σ xs res := by
  intro x0 x1 hxs
  subst hxs
  obtain ⟨σf, rf, dd⟩ := res
  have h : (if bin x0 20100 = true then (if (σ.2.1 53 (Int32.toNatClampNeg x0)) ≤ x1 then (lt_ (mI σ 65 0) (fun σ1 => if bin x0 20100 = true then (if bin x0 20100 = true then (if (σ1.2.1 57 (Int32.toNatClampNeg x0)) = 0 then (rex tX_sentenceClauses_87 σ1 [x0, x1, 1, (σ1.2.1 51 (Int32.toNatClampNeg x0))]) else (rex tX_sentenceClauses_87 σ1 [x0, x1, 0, (σ1.2.1 51 (Int32.toNatClampNeg x0))])) else none) else none)) else (if bin x0 20100 = true then (if bin (((σ.2.1 52 (Int32.toNatClampNeg x0)) : Int32) + x1) 300 = true then (if bin x0 20100 = true then (if (σ.2.1 57 (Int32.toNatClampNeg x0)) = 0 then (rex tX_sentenceClauses_52 σ [x0, x1, 1, (σ.2.1 54 (Int32.toNatClampNeg (((σ.2.1 52 (Int32.toNatClampNeg x0)) : Int32) + x1)))]) else (rex tX_sentenceClauses_52 σ [x0, x1, 0, (σ.2.1 54 (Int32.toNatClampNeg (((σ.2.1 52 (Int32.toNatClampNeg x0)) : Int32) + x1)))])) else none) else none) else none)) else none) = some (σf, rf, dd) := h
  intro p e s m args below meth c F Lo σ0 hF hLo C hT
  dsimp only at hF hLo hT ⊢
  obtain ⟨o, ho⟩ : ∃ o, o = xo (σf, rf) := ⟨_, rfl⟩
  rw [← ho] at hT ⊢
  refine ax_iload_n (pc := 14) C d_MM_sentenceClauses_14 rfl 2 rfl ?_
  refine ax_aload_n (pc := 15) C d_MM_sentenceClauses_15 rfl 0 rfl ?_
  refine mg_175 (pc := 16) C d_MM_sentenceClauses_16 ?_
  refine ax_iload_n (pc := 19) C d_MM_sentenceClauses_19 rfl 1 rfl ?_
  obtain ⟨hb, h⟩ := it_g h
  refine ml_53 (pc := 20) C d_MM_sentenceClauses_20 (bin_in hb) ?_
  refine ax_icmp_ge (pc := 21) C 61 d_MM_sentenceClauses_21 (by decide) (fun hc => ?_) (fun hc => ?_)
  · have h := it_t hc h
    refine ax_aload_n (pc := 61) C d_MM_sentenceClauses_61 rfl 0 rfl ?_
    refine ax_iconst (pc := 62) C 0 d_MM_sentenceClauses_62 (by decide +kernel) ?_
    refine mp_211 (pc := 63) C d_MM_sentenceClauses_63 ?_
    have h := it_l h
    generalize mI σ 65 0 = σ1 at h ⊢
    refine ax_aload_n (pc := 66) C d_MM_sentenceClauses_66 rfl 0 rfl ?_
    refine ax_aload_n (pc := 67) C d_MM_sentenceClauses_67 rfl 0 rfl ?_
    refine mg_169 (pc := 68) C d_MM_sentenceClauses_68 ?_
    refine ax_iload_n (pc := 71) C d_MM_sentenceClauses_71 rfl 1 rfl ?_
    obtain ⟨hb, h⟩ := it_g h
    refine ml_51 (pc := 72) C d_MM_sentenceClauses_72 (bin_in hb) ?_
    refine ax_aload_n (pc := 73) C d_MM_sentenceClauses_73 rfl 0 rfl ?_
    refine mg_187 (pc := 74) C d_MM_sentenceClauses_74 ?_
    refine ax_iload_n (pc := 77) C d_MM_sentenceClauses_77 rfl 1 rfl ?_
    obtain ⟨hb, h⟩ := it_g h
    refine ml_57 (pc := 78) C d_MM_sentenceClauses_78 (bin_in hb) ?_
    refine ax_if_ne (pc := 79) C 86 d_MM_sentenceClauses_79 (by decide) (fun hc => ?_) (fun hc => ?_)
    · have h := it_f hc h
      refine ax_iconst (pc := 86) C 0 d_MM_sentenceClauses_86 (by decide +kernel) ?_
      refine ax_ls ([(0, .ref z), (1, .int x0), (2, .int x1)]) [0, 1, 2] rfl ?_
      have hm : sX_sentenceClauses_87 l D kA z v σ1 [x0, x1, 0, (σ1.2.1 51 (Int32.toNatClampNeg x0))] (σf, rf, _) := ihx tX_sentenceClauses_87 _ _ _ h
      subst ho
      exact hm _ _ _ _ rfl p e s m args below meth c F Lo σ0 hF hLo C hT
    · have h := it_t hc h
      refine ax_iconst (pc := 82) C 1 d_MM_sentenceClauses_82 (by decide +kernel) ?_
      refine ax_goto (pc := 83) C 87 d_MM_sentenceClauses_83 (by decide) ?_
      refine ax_ls ([(0, .ref z), (1, .int x0), (2, .int x1)]) [0, 1, 2] rfl ?_
      have hm : sX_sentenceClauses_87 l D kA z v σ1 [x0, x1, 1, (σ1.2.1 51 (Int32.toNatClampNeg x0))] (σf, rf, _) := ihx tX_sentenceClauses_87 _ _ _ h
      subst ho
      exact hm _ _ _ _ rfl p e s m args below meth c F Lo σ0 hF hLo C hT
  · have h := it_f hc h
    refine ax_aload_n (pc := 24) C d_MM_sentenceClauses_24 rfl 0 rfl ?_
    refine ax_aload_n (pc := 25) C d_MM_sentenceClauses_25 rfl 0 rfl ?_
    refine mg_178 (pc := 26) C d_MM_sentenceClauses_26 ?_
    refine ax_aload_n (pc := 29) C d_MM_sentenceClauses_29 rfl 0 rfl ?_
    refine mg_172 (pc := 30) C d_MM_sentenceClauses_30 ?_
    refine ax_iload_n (pc := 33) C d_MM_sentenceClauses_33 rfl 1 rfl ?_
    obtain ⟨hb, h⟩ := it_g h
    refine ml_52 (pc := 34) C d_MM_sentenceClauses_34 (bin_in hb) ?_
    refine ax_iload_n (pc := 35) C d_MM_sentenceClauses_35 rfl 2 rfl ?_
    refine ax_iadd (pc := 36) C d_MM_sentenceClauses_36 ?_
    obtain ⟨hb, h⟩ := it_g h
    refine ml_54 (pc := 37) C d_MM_sentenceClauses_37 (bin_in hb) ?_
    refine ax_aload_n (pc := 38) C d_MM_sentenceClauses_38 rfl 0 rfl ?_
    refine mg_187 (pc := 39) C d_MM_sentenceClauses_39 ?_
    refine ax_iload_n (pc := 42) C d_MM_sentenceClauses_42 rfl 1 rfl ?_
    obtain ⟨hb, h⟩ := it_g h
    refine ml_57 (pc := 43) C d_MM_sentenceClauses_43 (bin_in hb) ?_
    refine ax_if_ne (pc := 44) C 51 d_MM_sentenceClauses_44 (by decide) (fun hc => ?_) (fun hc => ?_)
    · have h := it_f hc h
      refine ax_iconst (pc := 51) C 0 d_MM_sentenceClauses_51 (by decide +kernel) ?_
      refine ax_ls ([(0, .ref z), (1, .int x0), (2, .int x1)]) [0, 1, 2] rfl ?_
      have hm : sX_sentenceClauses_52 l D kA z v σ [x0, x1, 0, (σ.2.1 54 (Int32.toNatClampNeg (((σ.2.1 52 (Int32.toNatClampNeg x0)) : Int32) + x1)))] (σf, rf, _) := ihx tX_sentenceClauses_52 _ _ _ h
      subst ho
      exact hm _ _ _ _ rfl p e s m args below meth c F Lo σ0 hF hLo C hT
    · have h := it_t hc h
      refine ax_iconst (pc := 47) C 1 d_MM_sentenceClauses_47 (by decide +kernel) ?_
      refine ax_goto (pc := 48) C 52 d_MM_sentenceClauses_48 (by decide) ?_
      refine ax_ls ([(0, .ref z), (1, .int x0), (2, .int x1)]) [0, 1, 2] rfl ?_
      have hm : sX_sentenceClauses_52 l D kA z v σ [x0, x1, 1, (σ.2.1 54 (Int32.toNatClampNeg (((σ.2.1 52 (Int32.toNatClampNeg x0)) : Int32) + x1)))] (σf, rf, _) := ihx tX_sentenceClauses_52 _ _ _ h
      subst ho
      exact hm _ _ _ _ rfl p e s m args below meth c F Lo σ0 hF hLo C hT
set_option maxHeartbeats 4000000 in
set_option maxRecDepth 100000 in
theorem oX_sentenceClauses_52 (l : Launch) (D : va_G) (kA : Nat → ClassId) (z : Nat) (v : Nat → Nat) (rec rex : mF) (ih : ∀ t σ xs res, rec t σ xs = some res → mSem l D kA z v t σ xs res) (ihx : ∀ t σ xs res, rex t σ xs = some res → xSem l D kA z v t σ xs res) (σ : mS) (xs : List Int32) (res : mR) (h : u_4 (kX_sentenceClauses_52 rec rex σ) xs = some res) : sX_sentenceClauses_52 l D kA z v σ xs res := by
  intro x0 x1 x2 x3 hxs
  subst hxs
  obtain ⟨σf, rf, dd⟩ := res
  have h : (bnd (rec tM_bind2 σ [x3, x2]) (fun σ1 r1 => rex tX_sentenceClauses_14 σ1 [x0, (x1 + 1)])) = some (σf, rf, dd) := h
  intro p e s m args below meth c F Lo σ0 hF hLo C hT
  dsimp only at hF hLo hT ⊢
  obtain ⟨o, ho⟩ : ∃ o, o = xo (σf, rf) := ⟨_, rfl⟩
  rw [← ho] at hT ⊢
  obtain ⟨σ1, r1, d1_1, d2_1, h1, h, hd2, hd1⟩ := it_b h
  have hm : sM_bind2 l D kA z v σ [x3, x2] (σ1, r1, d1_1) := ih tM_bind2 _ _ _ h1
  refine mc_Vv (pc := 52) C (As := [.int x3, .int x2]) (rest := []) (hm _ _ rfl) ml_MM_571 d_MM_sentenceClauses_52 rfl rfl (by dsimp only; omega) (by dsimp only; omega) (Nat.zero_le _) (Nat.zero_le _) (Nat.le_of_ble_eq_true rfl) ?_
  have hF : d2_1 + 8 ≤ F := by omega
  have hLo : 48 * d2_1 + 400 ≤ Lo := by omega
  refine ax_iinc (pc := 55) C (x1 + 1) d_MM_sentenceClauses_55 2 rfl rfl (Nat.le_of_ble_eq_true rfl) ([(2, .int (x1 + 1)), (0, .ref z), (1, .int x0)]) rfl ?_
  refine ax_goto (pc := 58) C 14 d_MM_sentenceClauses_58 (by decide) ?_
  refine ax_ls ([(0, .ref z), (1, .int x0), (2, .int (x1 + 1))]) [1, 2, 0] rfl ?_
  have hm : sX_sentenceClauses_14 l D kA z v σ1 [x0, (x1 + 1)] (σf, rf, _) := ihx tX_sentenceClauses_14 _ _ _ h
  subst ho
  exact hm _ _ rfl p e s m args below meth c F Lo σ0 hF hLo C hT
set_option maxHeartbeats 4000000 in
set_option maxRecDepth 100000 in
theorem oX_sentenceClauses_87 (l : Launch) (D : va_G) (kA : Nat → ClassId) (z : Nat) (v : Nat → Nat) (rec rex : mF) (ih : ∀ t σ xs res, rec t σ xs = some res → mSem l D kA z v t σ xs res) (ihx : ∀ t σ xs res, rex t σ xs = some res → xSem l D kA z v t σ xs res) (σ : mS) (xs : List Int32) (res : mR) (h : u_4 (kX_sentenceClauses_87 rec rex σ) xs = some res) : sX_sentenceClauses_87 l D kA z v σ xs res := by
  intro x0 x1 x2 x3 hxs
  subst hxs
  obtain ⟨σf, rf, dd⟩ := res
  have h : (bnd (rex tX_clauses σ [x3, x2]) (fun σ1 r1 => if σ1.1 3000 = 0 then (rex tX_sentenceClauses_111 σ1 [x0, 0]) else (if σ1.1 3000 = 2 then (if bin x0 20100 = true then (lt_ (mI σ1 3003 3) (fun u1 => lt_ (mI u1 3004 (σ1.2.1 50 (Int32.toNatClampNeg x0))) (fun u2 => lt_ (mI u2 3000 1) (fun u3 => some (u3, 0, 0))))) else none) else none))) = some (σf, rf, dd) := h
  intro p e s m args below meth c F Lo σ0 hF hLo C hT
  dsimp only at hF hLo hT ⊢
  obtain ⟨o, ho⟩ : ∃ o, o = xo (σf, rf) := ⟨_, rfl⟩
  rw [← ho] at hT ⊢
  obtain ⟨σ1, r1, d1_1, d2_1, h1, h, hd2, hd1⟩ := it_b h
  have hm : sX_clauses l D kA z v σ [x3, x2] (σ1, r1, d1_1) := ihx tX_clauses _ _ _ h1
  by_cases hq : σ1.1 3000 = 0
  · have h := it_t hq h
    refine mcx_Vv (pc := 87) C (As := [.int x3, .int x2]) (rest := []) (hm _ _ rfl) hq ml_MM_560 d_MM_sentenceClauses_87 rfl rfl (by dsimp only; omega) (by dsimp only; omega) (Nat.zero_le _) (Nat.zero_le _) (Nat.le_of_ble_eq_true rfl) ?_
    have hF : d2_1 + 8 ≤ F := by omega
    have hLo : 48 * d2_1 + 400 ≤ Lo := by omega
    refine ax_goto (pc := 90) C 109 d_MM_sentenceClauses_90 (by decide) ?_
    refine ax_iconst (pc := 109) C 0 d_MM_sentenceClauses_109 (by decide +kernel) ?_
    refine ax_istore_n (pc := 110) C d_MM_sentenceClauses_110 rfl (Nat.le_of_ble_eq_true rfl) ([(2, .int 0), (0, .ref z), (1, .int x0)]) rfl ?_
    refine ax_ls ([(0, .ref z), (1, .int x0), (2, .int 0)]) [1, 2, 0] rfl ?_
    have hm : sX_sentenceClauses_111 l D kA z v σ1 [x0, 0] (σf, rf, _) := ihx tX_sentenceClauses_111 _ _ _ h
    subst ho
    exact hm _ _ rfl p e s m args below meth c F Lo σ0 hF hLo C hT
  · have h := it_f hq h
    obtain ⟨hq2, h⟩ := it_g h
    obtain ⟨hb, h⟩ := it_g h
    have h := it_l (it_l (it_l h))
    cases h
    obtain rfl : o = xWr 3 (σ1.2.1 50 (Int32.toNatClampNeg x0)) := ho.trans (xo_wrong _ _ _)
    obtain ⟨hT1, hX⟩ := hT rfl
    refine mcx_By (pc := 87) C (As := [.int x3, .int x2]) (rest := []) hX (xMv_two hq2 (hm _ _ rfl)) ml_MM_560 d_MM_sentenceClauses_87 rfl rfl (by dsimp only; omega) (by dsimp only; omega) (Nat.le_of_ble_eq_true rfl) (Nat.le_of_ble_eq_true rfl) (Nat.le_of_ble_eq_true rfl) (cx_F1 hT1.1 hT1.2.1 hT1.2.2.1 C.2.2.2.1 (hT1.2.2.2.trans rfl) (by decide) (by decide) (C.2.2.2.2.1 _ tb_classLink_2108)) (fun x => ?_)
    refine ax_astore_n (pc := 93) C d_MM_sentenceClauses_93 rfl (Nat.le_of_ble_eq_true rfl) ([(2, .ref x), (0, .ref z), (1, .int x0)]) rfl ?_
    refine mx_new8 (pc := 94) C (Nat.le_of_ble_eq_true rfl) (Nat.le_of_ble_eq_true rfl) d_MM_sentenceClauses_94 (fun q => ?_)
    refine ax_dup (pc := 97) C d_MM_sentenceClauses_97 rfl ?_
    refine ax_iconst (pc := 98) C 3 d_MM_sentenceClauses_98 (by decide +kernel) ?_
    refine ax_aload_n (pc := 99) C d_MM_sentenceClauses_99 rfl 1 rfl ?_
    refine mgx_166 (pc := 100) C d_MM_sentenceClauses_100 ?_
    refine ax_iload_n (pc := 103) C d_MM_sentenceClauses_103 rfl 2 rfl ?_
    refine mlx_50 (pc := 104) C d_MM_sentenceClauses_104 (bin_in hb) ?_
    refine mx_initW (pc := 105) C hX d_MM_sentenceClauses_105 (Nat.le_of_ble_eq_true rfl) (by dsimp only; omega) (by dsimp only; omega) (Nat.le_of_ble_eq_true rfl) (Nat.le_of_ble_eq_true rfl) ?_
    exact xr_Wv (pc := 108) C (xth_out hT1.2.2.2 (by decide)) d_MM_sentenceClauses_108 (Nat.le_of_ble_eq_true rfl) (Nat.le_of_ble_eq_true rfl)
set_option maxHeartbeats 4000000 in
set_option maxRecDepth 100000 in
theorem oX_sentenceClauses_111 (l : Launch) (D : va_G) (kA : Nat → ClassId) (z : Nat) (v : Nat → Nat) (rec rex : mF) (ih : ∀ t σ xs res, rec t σ xs = some res → mSem l D kA z v t σ xs res) (ihx : ∀ t σ xs res, rex t σ xs = some res → xSem l D kA z v t σ xs res) (σ : mS) (xs : List Int32) (res : mR) (h : u_2 (kX_sentenceClauses_111 rec rex σ) xs = some res) : sX_sentenceClauses_111 l D kA z v σ xs res := by
  intro x0 x1 hxs
  subst hxs
  obtain ⟨σf, rf, dd⟩ := res
  have h : (if (σ.1 65) ≤ x1 then (lt_ (mI σ 122 (σ.1 47)) (fun σ1 => rex tX_sentenceClauses_167 σ1 [x0, 0])) else (if bin x1 1200 = true then (bnd (rec tM_fits σ [((24 : Int32) * x1), (σ.2.1 64 (Int32.toNatClampNeg x1))]) (fun σ2 r2 => if r2 = 0 then (if bin x0 20100 = true then (lt_ (mI σ2 3003 3) (fun u1 => lt_ (mI u1 3004 (σ2.2.1 50 (Int32.toNatClampNeg x0))) (fun u2 => lt_ (mI u2 3000 1) (fun u3 => some (u3, 0, 0))))) else none) else (rex tX_sentenceClauses_111 σ2 [x0, (x1 + 1)]))) else none)) = some (σf, rf, dd) := h
  intro p e s m args below meth c F Lo σ0 hF hLo C hT
  dsimp only at hF hLo hT ⊢
  obtain ⟨o, ho⟩ : ∃ o, o = xo (σf, rf) := ⟨_, rfl⟩
  rw [← ho] at hT ⊢
  refine ax_iload_n (pc := 111) C d_MM_sentenceClauses_111 rfl 2 rfl ?_
  refine ax_aload_n (pc := 112) C d_MM_sentenceClauses_112 rfl 0 rfl ?_
  refine mg_211 (pc := 113) C d_MM_sentenceClauses_113 ?_
  refine ax_icmp_ge (pc := 116) C 157 d_MM_sentenceClauses_116 (by decide) (fun hc => ?_) (fun hc => ?_)
  · have h := it_t hc h
    refine ax_aload_n (pc := 157) C d_MM_sentenceClauses_157 rfl 0 rfl ?_
    refine ax_aload_n (pc := 158) C d_MM_sentenceClauses_158 rfl 0 rfl ?_
    refine mg_157 (pc := 159) C d_MM_sentenceClauses_159 ?_
    refine mp_385 (pc := 162) C d_MM_sentenceClauses_162 ?_
    have h := it_l h
    generalize mI σ 122 (σ.1 47) = σ1 at h ⊢
    refine ax_iconst (pc := 165) C 0 d_MM_sentenceClauses_165 (by decide +kernel) ?_
    refine ax_istore_n (pc := 166) C d_MM_sentenceClauses_166 rfl (Nat.le_of_ble_eq_true rfl) ([(2, .int 0), (0, .ref z), (1, .int x0)]) rfl ?_
    refine ax_ls ([(0, .ref z), (1, .int x0), (2, .int 0)]) [1, 2, 0] rfl ?_
    have hm : sX_sentenceClauses_167 l D kA z v σ1 [x0, 0] (σf, rf, _) := ihx tX_sentenceClauses_167 _ _ _ h
    subst ho
    exact hm _ _ rfl p e s m args below meth c F Lo σ0 hF hLo C hT
  · have h := it_f hc h
    refine ax_aload_n (pc := 119) C d_MM_sentenceClauses_119 rfl 0 rfl ?_
    refine ax_bipush (pc := 120) C 24 d_MM_sentenceClauses_120 (by decide +kernel) ?_
    refine ax_iload_n (pc := 122) C d_MM_sentenceClauses_122 rfl 2 rfl ?_
    refine ax_imul (pc := 123) C d_MM_sentenceClauses_123 ?_
    refine ax_aload_n (pc := 124) C d_MM_sentenceClauses_124 rfl 0 rfl ?_
    refine mg_208 (pc := 125) C d_MM_sentenceClauses_125 ?_
    refine ax_iload_n (pc := 128) C d_MM_sentenceClauses_128 rfl 2 rfl ?_
    obtain ⟨hb, h⟩ := it_g h
    refine ml_64 (pc := 129) C d_MM_sentenceClauses_129 (bin_in hb) ?_
    obtain ⟨σ2, r2, d1_2, d2_2, h1, h, hd2, hd1⟩ := it_b h
    have hm : sM_fits l D kA z v σ [((24 : Int32) * x1), (σ.2.1 64 (Int32.toNatClampNeg x1))] (σ2, r2, d1_2) := ih tM_fits _ _ _ h1
    refine mc_Vi (pc := 130) C (As := [.int ((24 : Int32) * x1), .int (σ.2.1 64 (Int32.toNatClampNeg x1))]) (rest := []) (hm _ _ rfl) ml_MM_753 d_MM_sentenceClauses_130 rfl rfl (by dsimp only; omega) (by dsimp only; omega) (Nat.zero_le _) (Nat.zero_le _) (Nat.le_of_ble_eq_true rfl) ?_
    have hF : d2_2 + 8 ≤ F := by omega
    have hLo : 48 * d2_2 + 400 ≤ Lo := by omega
    refine ax_if_ne (pc := 133) C 151 d_MM_sentenceClauses_133 (by decide) (fun hc => ?_) (fun hc => ?_)
    · have h := it_f hc h
      refine ax_iinc (pc := 151) C (x1 + 1) d_MM_sentenceClauses_151 2 rfl rfl (Nat.le_of_ble_eq_true rfl) ([(2, .int (x1 + 1)), (0, .ref z), (1, .int x0)]) rfl ?_
      refine ax_goto (pc := 154) C 111 d_MM_sentenceClauses_154 (by decide) ?_
      refine ax_ls ([(0, .ref z), (1, .int x0), (2, .int (x1 + 1))]) [1, 2, 0] rfl ?_
      have hm : sX_sentenceClauses_111 l D kA z v σ2 [x0, (x1 + 1)] (σf, rf, _) := ihx tX_sentenceClauses_111 _ _ _ h
      subst ho
      exact hm _ _ rfl p e s m args below meth c F Lo σ0 hF hLo C hT
    · have h := it_t hc h
      obtain ⟨hb, h⟩ := it_g h
      have h := it_l (it_l (it_l h))
      cases h
      obtain rfl : o = xWr 3 (σ2.2.1 50 (Int32.toNatClampNeg x0)) := ho.trans (xo_wrong _ _ _)
      obtain ⟨hT1, hX⟩ := hT rfl
      refine mx_new8 (pc := 136) C (Nat.le_of_ble_eq_true rfl) (Nat.le_of_ble_eq_true rfl) d_MM_sentenceClauses_136 (fun q => ?_)
      refine ax_dup (pc := 139) C d_MM_sentenceClauses_139 rfl ?_
      refine ax_iconst (pc := 140) C 3 d_MM_sentenceClauses_140 (by decide +kernel) ?_
      refine ax_aload_n (pc := 141) C d_MM_sentenceClauses_141 rfl 0 rfl ?_
      refine mgx_166 (pc := 142) C d_MM_sentenceClauses_142 ?_
      refine ax_iload_n (pc := 145) C d_MM_sentenceClauses_145 rfl 1 rfl ?_
      refine mlx_50 (pc := 146) C d_MM_sentenceClauses_146 (bin_in hb) ?_
      refine mx_initW (pc := 147) C hX d_MM_sentenceClauses_147 (Nat.le_of_ble_eq_true rfl) (by dsimp only; omega) (by dsimp only; omega) (Nat.le_of_ble_eq_true rfl) (Nat.le_of_ble_eq_true rfl) ?_
      exact xr_Wv (pc := 150) C (xth_out hT1.2.2.2 (by decide)) d_MM_sentenceClauses_150 (Nat.le_of_ble_eq_true rfl) (Nat.le_of_ble_eq_true rfl)
set_option maxHeartbeats 4000000 in
set_option maxRecDepth 100000 in
theorem oX_sentenceClauses_167 (l : Launch) (D : va_G) (kA : Nat → ClassId) (z : Nat) (v : Nat → Nat) (rec rex : mF) (ih : ∀ t σ xs res, rec t σ xs = some res → mSem l D kA z v t σ xs res) (ihx : ∀ t σ xs res, rex t σ xs = some res → xSem l D kA z v t σ xs res) (σ : mS) (xs : List Int32) (res : mR) (h : u_2 (kX_sentenceClauses_167 rec rex σ) xs = some res) : sX_sentenceClauses_167 l D kA z v σ xs res := by
  intro x0 x1 hxs
  subst hxs
  obtain ⟨σf, rf, dd⟩ := res
  have h : (if (σ.1 65) ≤ x1 then (lt_ (mI σ 3000 0) (fun u => some (u, 0, 0))) else (lt_ (mI σ 47 (σ.1 122)) (fun σ1 => lt_ (mI σ1 98 0) (fun σ2 => rex tX_sentenceClauses_196 σ2 [x0, x1, ((24 : Int32) * x1), ((24 : Int32) * x1)])))) = some (σf, rf, dd) := h
  intro p e s m args below meth c F Lo σ0 hF hLo C hT
  dsimp only at hF hLo hT ⊢
  obtain ⟨o, ho⟩ : ∃ o, o = xo (σf, rf) := ⟨_, rfl⟩
  rw [← ho] at hT ⊢
  refine ax_iload_n (pc := 167) C d_MM_sentenceClauses_167 rfl 2 rfl ?_
  refine ax_aload_n (pc := 168) C d_MM_sentenceClauses_168 rfl 0 rfl ?_
  refine mg_211 (pc := 169) C d_MM_sentenceClauses_169 ?_
  refine ax_icmp_ge (pc := 172) C 286 d_MM_sentenceClauses_172 (by decide) (fun hc => ?_) (fun hc => ?_)
  · have h := it_t hc h
    have h := it_l h
    cases h
    exact xr_vret (pc := 286) C ho d_MM_sentenceClauses_286
  · have h := it_f hc h
    refine ax_bipush (pc := 175) C 24 d_MM_sentenceClauses_175 (by decide +kernel) ?_
    refine ax_iload_n (pc := 177) C d_MM_sentenceClauses_177 rfl 2 rfl ?_
    refine ax_imul (pc := 178) C d_MM_sentenceClauses_178 ?_
    refine ax_istore_n (pc := 179) C d_MM_sentenceClauses_179 rfl (Nat.le_of_ble_eq_true rfl) ([(3, .int ((24 : Int32) * x1)), (0, .ref z), (1, .int x0), (2, .int x1)]) rfl ?_
    refine ax_aload_n (pc := 180) C d_MM_sentenceClauses_180 rfl 1 rfl ?_
    refine ax_aload_n (pc := 181) C d_MM_sentenceClauses_181 rfl 1 rfl ?_
    refine mg_385 (pc := 182) C d_MM_sentenceClauses_182 ?_
    refine mp_157 (pc := 185) C d_MM_sentenceClauses_185 ?_
    have h := it_l h
    generalize mI σ 47 (σ.1 122) = σ1 at h ⊢
    refine ax_aload_n (pc := 188) C d_MM_sentenceClauses_188 rfl 1 rfl ?_
    refine ax_iconst (pc := 189) C 0 d_MM_sentenceClauses_189 (by decide +kernel) ?_
    refine mp_311 (pc := 190) C d_MM_sentenceClauses_190 ?_
    have h := it_l h
    generalize mI σ1 98 0 = σ2 at h ⊢
    refine ax_iload_n (pc := 193) C d_MM_sentenceClauses_193 rfl 0 rfl ?_
    refine ax_istore (pc := 194) C d_MM_sentenceClauses_194 (Nat.le_of_ble_eq_true rfl) ([(4, .int ((24 : Int32) * x1)), (3, .int ((24 : Int32) * x1)), (0, .ref z), (1, .int x0), (2, .int x1)]) rfl ?_
    refine ax_ls ([(0, .ref z), (1, .int x0), (2, .int x1), (3, .int ((24 : Int32) * x1)), (4, .int ((24 : Int32) * x1))]) [2, 3, 4, 1, 0] rfl ?_
    have hm : sX_sentenceClauses_196 l D kA z v σ2 [x0, x1, ((24 : Int32) * x1), ((24 : Int32) * x1)] (σf, rf, _) := ihx tX_sentenceClauses_196 _ _ _ h
    subst ho
    exact hm _ _ _ _ rfl p e s m args below meth c F Lo σ0 hF hLo C hT
set_option maxHeartbeats 4000000 in
set_option maxRecDepth 100000 in
theorem oX_sentenceClauses_196 (l : Launch) (D : va_G) (kA : Nat → ClassId) (z : Nat) (v : Nat → Nat) (rec rex : mF) (ih : ∀ t σ xs res, rec t σ xs = some res → mSem l D kA z v t σ xs res) (ihx : ∀ t σ xs res, rex t σ xs = some res → xSem l D kA z v t σ xs res) (σ : mS) (xs : List Int32) (res : mR) (h : u_4 (kX_sentenceClauses_196 rec rex σ) xs = some res) : sX_sentenceClauses_196 l D kA z v σ xs res := by
  intro x0 x1 x2 x3 hxs
  subst hxs
  obtain ⟨σf, rf, dd⟩ := res
  have h : (if bin x1 1200 = true then (if ((x2 : Int32) + (σ.2.1 64 (Int32.toNatClampNeg x1))) ≤ x3 then (bnd (rec tM_reduce σ []) (fun σ1 r1 => bnd (rec tM_tautology σ1 []) (fun σ2 r2 => if r2 = 0 then (bnd (rec tM_keep σ2 [0, (-1), (-1)]) (fun σ3 r3 => rex tX_sentenceClauses_280 σ3 [x0, x1, x2, x3])) else (rex tX_sentenceClauses_280 σ2 [x0, x1, x2, x3])))) else (if bin x3 28800 = true then (bnd (rec tM_copy σ [(σ.2.1 63 (Int32.toNatClampNeg x3))]) (fun σ4 r4 => if bin ((x3 : Int32) + 1) 28800 = true then (bnd (rec tM_copy σ4 [(σ4.2.1 63 (Int32.toNatClampNeg ((x3 : Int32) + 1)))]) (fun σ5 r5 => if bin ((x3 : Int32) + 2) 28800 = true then (if (σ5.2.1 63 (Int32.toNatClampNeg ((x3 : Int32) + 2))) = 1 then (rex tX_sentenceClauses_252 σ5 [x0, x1, x2, x3, 1, r5, r4]) else (rex tX_sentenceClauses_252 σ5 [x0, x1, x2, x3, 0, r5, r4])) else none)) else none)) else none)) else none) = some (σf, rf, dd) := h
  intro p e s m args below meth c F Lo σ0 hF hLo C hT
  dsimp only at hF hLo hT ⊢
  obtain ⟨o, ho⟩ : ∃ o, o = xo (σf, rf) := ⟨_, rfl⟩
  rw [← ho] at hT ⊢
  refine ax_iload (pc := 196) C d_MM_sentenceClauses_196 4 rfl ?_
  refine ax_iload_n (pc := 198) C d_MM_sentenceClauses_198 rfl 3 rfl ?_
  refine ax_aload_n (pc := 199) C d_MM_sentenceClauses_199 rfl 0 rfl ?_
  refine mg_208 (pc := 200) C d_MM_sentenceClauses_200 ?_
  refine ax_iload_n (pc := 203) C d_MM_sentenceClauses_203 rfl 2 rfl ?_
  obtain ⟨hb, h⟩ := it_g h
  refine ml_64 (pc := 204) C d_MM_sentenceClauses_204 (bin_in hb) ?_
  refine ax_iadd (pc := 205) C d_MM_sentenceClauses_205 ?_
  refine ax_icmp_ge (pc := 206) C 261 d_MM_sentenceClauses_206 (by decide) (fun hc => ?_) (fun hc => ?_)
  · have h := it_t hc h
    refine ax_aload_n (pc := 261) C d_MM_sentenceClauses_261 rfl 0 rfl ?_
    obtain ⟨σ1, r1, d1_1, d2_1, h1, h, hd2, hd1⟩ := it_b h
    have hm : sM_reduce l D kA z v σ [] (σ1, r1, d1_1) := ih tM_reduce _ _ _ h1
    refine mc_Vv (pc := 262) C (As := []) (rest := []) (hm rfl) ml_MM_641 d_MM_sentenceClauses_262 rfl rfl (by dsimp only; omega) (by dsimp only; omega) (Nat.zero_le _) (Nat.zero_le _) (Nat.le_of_ble_eq_true rfl) ?_
    have hF : d2_1 + 8 ≤ F := by omega
    have hLo : 48 * d2_1 + 400 ≤ Lo := by omega
    refine ax_aload_n (pc := 265) C d_MM_sentenceClauses_265 rfl 0 rfl ?_
    obtain ⟨σ2, r2, d1_2, d2_2, h1, h, hd2, hd1⟩ := it_b h
    have hm : sM_tautology l D kA z v σ1 [] (σ2, r2, d1_2) := ih tM_tautology _ _ _ h1
    refine mc_Vi (pc := 266) C (As := []) (rest := []) (hm rfl) ml_MM_644 d_MM_sentenceClauses_266 rfl rfl (by dsimp only; omega) (by dsimp only; omega) (Nat.zero_le _) (Nat.zero_le _) (Nat.le_of_ble_eq_true rfl) ?_
    have hF : d2_2 + 8 ≤ F := by omega
    have hLo : 48 * d2_2 + 400 ≤ Lo := by omega
    refine ax_if_ne (pc := 269) C 280 d_MM_sentenceClauses_269 (by decide) (fun hc => ?_) (fun hc => ?_)
    · have h := it_f hc h
      refine ax_ls ([(0, .ref z), (1, .int x0), (2, .int x1), (3, .int x2), (4, .int x3)]) [0, 1, 2, 3, 4] rfl ?_
      have hm : sX_sentenceClauses_280 l D kA z v σ2 [x0, x1, x2, x3] (σf, rf, _) := ihx tX_sentenceClauses_280 _ _ _ h
      subst ho
      exact hm _ _ _ _ rfl p e s m args below meth c F Lo σ0 hF hLo C hT
    · have h := it_t hc h
      refine ax_aload_n (pc := 272) C d_MM_sentenceClauses_272 rfl 0 rfl ?_
      refine ax_iconst (pc := 273) C 0 d_MM_sentenceClauses_273 (by decide +kernel) ?_
      refine ax_iconst (pc := 274) C (-1) d_MM_sentenceClauses_274 (by decide +kernel) ?_
      refine ax_iconst (pc := 275) C (-1) d_MM_sentenceClauses_275 (by decide +kernel) ?_
      obtain ⟨σ3, r3, d1_3, d2_3, h1, h, hd2, hd1⟩ := it_b h
      have hm : sM_keep l D kA z v σ2 [0, (-1), (-1)] (σ3, r3, d1_3) := ih tM_keep _ _ _ h1
      refine mc_Vi (pc := 276) C (As := [.int 0, .int (-1), .int (-1)]) (rest := []) (hm _ _ _ rfl) ml_MM_648 d_MM_sentenceClauses_276 rfl rfl (by dsimp only; omega) (by dsimp only; omega) (Nat.zero_le _) (Nat.zero_le _) (Nat.le_of_ble_eq_true rfl) ?_
      have hF : d2_3 + 8 ≤ F := by omega
      have hLo : 48 * d2_3 + 400 ≤ Lo := by omega
      refine ax_pop (pc := 279) C d_MM_sentenceClauses_279 rfl ?_
      refine ax_ls ([(0, .ref z), (1, .int x0), (2, .int x1), (3, .int x2), (4, .int x3)]) [0, 1, 2, 3, 4] rfl ?_
      have hm : sX_sentenceClauses_280 l D kA z v σ3 [x0, x1, x2, x3] (σf, rf, _) := ihx tX_sentenceClauses_280 _ _ _ h
      subst ho
      exact hm _ _ _ _ rfl p e s m args below meth c F Lo σ0 hF hLo C hT
  · have h := it_f hc h
    refine ax_aload_n (pc := 209) C d_MM_sentenceClauses_209 rfl 0 rfl ?_
    refine ax_aload_n (pc := 210) C d_MM_sentenceClauses_210 rfl 0 rfl ?_
    refine ax_aload_n (pc := 211) C d_MM_sentenceClauses_211 rfl 0 rfl ?_
    refine mg_205 (pc := 212) C d_MM_sentenceClauses_212 ?_
    refine ax_iload (pc := 215) C d_MM_sentenceClauses_215 4 rfl ?_
    obtain ⟨hb, h⟩ := it_g h
    refine ml_63 (pc := 217) C d_MM_sentenceClauses_217 (bin_in hb) ?_
    obtain ⟨σ4, r4, d1_4, d2_4, h1, h, hd2, hd1⟩ := it_b h
    have hm : sM_copy l D kA z v σ [(σ.2.1 63 (Int32.toNatClampNeg x3))] (σ4, r4, d1_4) := ih tM_copy _ _ _ h1
    refine mc_Vi (pc := 218) C (As := [.int (σ.2.1 63 (Int32.toNatClampNeg x3))]) (rest := [.ref z]) (hm _ rfl) ml_MM_519 d_MM_sentenceClauses_218 rfl rfl (by dsimp only; omega) (by dsimp only; omega) (Nat.zero_le _) (Nat.zero_le _) (Nat.le_of_ble_eq_true rfl) ?_
    have hF : d2_4 + 8 ≤ F := by omega
    have hLo : 48 * d2_4 + 400 ≤ Lo := by omega
    refine ax_aload_n (pc := 221) C d_MM_sentenceClauses_221 rfl 0 rfl ?_
    refine ax_aload_n (pc := 222) C d_MM_sentenceClauses_222 rfl 0 rfl ?_
    refine mg_205 (pc := 223) C d_MM_sentenceClauses_223 ?_
    refine ax_iload (pc := 226) C d_MM_sentenceClauses_226 4 rfl ?_
    refine ax_iconst (pc := 228) C 1 d_MM_sentenceClauses_228 (by decide +kernel) ?_
    refine ax_iadd (pc := 229) C d_MM_sentenceClauses_229 ?_
    obtain ⟨hb, h⟩ := it_g h
    refine ml_63 (pc := 230) C d_MM_sentenceClauses_230 (bin_in hb) ?_
    obtain ⟨σ5, r5, d1_5, d2_5, h1, h, hd2, hd1⟩ := it_b h
    have hm : sM_copy l D kA z v σ4 [(σ4.2.1 63 (Int32.toNatClampNeg ((x3 : Int32) + 1)))] (σ5, r5, d1_5) := ih tM_copy _ _ _ h1
    refine mc_Vi (pc := 231) C (As := [.int (σ4.2.1 63 (Int32.toNatClampNeg ((x3 : Int32) + 1)))]) (rest := [.int r4, .ref z]) (hm _ rfl) ml_MM_519 d_MM_sentenceClauses_231 rfl rfl (by dsimp only; omega) (by dsimp only; omega) (Nat.zero_le _) (Nat.zero_le _) (Nat.le_of_ble_eq_true rfl) ?_
    have hF : d2_5 + 8 ≤ F := by omega
    have hLo : 48 * d2_5 + 400 ≤ Lo := by omega
    refine ax_aload_n (pc := 234) C d_MM_sentenceClauses_234 rfl 0 rfl ?_
    refine mg_205 (pc := 235) C d_MM_sentenceClauses_235 ?_
    refine ax_iload (pc := 238) C d_MM_sentenceClauses_238 4 rfl ?_
    refine ax_iconst (pc := 240) C 2 d_MM_sentenceClauses_240 (by decide +kernel) ?_
    refine ax_iadd (pc := 241) C d_MM_sentenceClauses_241 ?_
    obtain ⟨hb, h⟩ := it_g h
    refine ml_63 (pc := 242) C d_MM_sentenceClauses_242 (bin_in hb) ?_
    refine ax_iconst (pc := 243) C 1 d_MM_sentenceClauses_243 (by decide +kernel) ?_
    refine ax_icmp_ne (pc := 244) C 251 d_MM_sentenceClauses_244 (by decide) (fun hc => ?_) (fun hc => ?_)
    · have h := it_f hc h
      refine ax_iconst (pc := 251) C 0 d_MM_sentenceClauses_251 (by decide +kernel) ?_
      refine ax_ls ([(0, .ref z), (1, .int x0), (2, .int x1), (3, .int x2), (4, .int x3)]) [0, 1, 2, 3, 4] rfl ?_
      have hm : sX_sentenceClauses_252 l D kA z v σ5 [x0, x1, x2, x3, 0, r5, r4] (σf, rf, _) := ihx tX_sentenceClauses_252 _ _ _ h
      subst ho
      exact hm _ _ _ _ _ _ _ rfl p e s m args below meth c F Lo σ0 hF hLo C hT
    · have h := it_t hc h
      refine ax_iconst (pc := 247) C 1 d_MM_sentenceClauses_247 (by decide +kernel) ?_
      refine ax_goto (pc := 248) C 252 d_MM_sentenceClauses_248 (by decide) ?_
      refine ax_ls ([(0, .ref z), (1, .int x0), (2, .int x1), (3, .int x2), (4, .int x3)]) [0, 1, 2, 3, 4] rfl ?_
      have hm : sX_sentenceClauses_252 l D kA z v σ5 [x0, x1, x2, x3, 1, r5, r4] (σf, rf, _) := ihx tX_sentenceClauses_252 _ _ _ h
      subst ho
      exact hm _ _ _ _ _ _ _ rfl p e s m args below meth c F Lo σ0 hF hLo C hT
set_option maxHeartbeats 4000000 in
set_option maxRecDepth 100000 in
theorem oX_sentenceClauses_252 (l : Launch) (D : va_G) (kA : Nat → ClassId) (z : Nat) (v : Nat → Nat) (rec rex : mF) (ih : ∀ t σ xs res, rec t σ xs = some res → mSem l D kA z v t σ xs res) (ihx : ∀ t σ xs res, rex t σ xs = some res → xSem l D kA z v t σ xs res) (σ : mS) (xs : List Int32) (res : mR) (h : u_7 (kX_sentenceClauses_252 rec rex σ) xs = some res) : sX_sentenceClauses_252 l D kA z v σ xs res := by
  intro x0 x1 x2 x3 x4 x5 x6 hxs
  subst hxs
  obtain ⟨σf, rf, dd⟩ := res
  have h : (bnd (rec tM_add σ [x6, x5, x4]) (fun σ1 r1 => rex tX_sentenceClauses_196 σ1 [x0, x1, x2, (x3 + 3)])) = some (σf, rf, dd) := h
  intro p e s m args below meth c F Lo σ0 hF hLo C hT
  dsimp only at hF hLo hT ⊢
  obtain ⟨o, ho⟩ : ∃ o, o = xo (σf, rf) := ⟨_, rfl⟩
  rw [← ho] at hT ⊢
  obtain ⟨σ1, r1, d1_1, d2_1, h1, h, hd2, hd1⟩ := it_b h
  have hm : sM_add l D kA z v σ [x6, x5, x4] (σ1, r1, d1_1) := ih tM_add _ _ _ h1
  refine mc_Vv (pc := 252) C (As := [.int x6, .int x5, .int x4]) (rest := []) (hm _ _ _ rfl) ml_MM_634 d_MM_sentenceClauses_252 rfl rfl (by dsimp only; omega) (by dsimp only; omega) (Nat.zero_le _) (Nat.zero_le _) (Nat.le_of_ble_eq_true rfl) ?_
  have hF : d2_1 + 8 ≤ F := by omega
  have hLo : 48 * d2_1 + 400 ≤ Lo := by omega
  refine ax_iinc (pc := 255) C (x3 + 3) d_MM_sentenceClauses_255 4 rfl rfl (Nat.le_of_ble_eq_true rfl) ([(4, .int (x3 + 3)), (0, .ref z), (1, .int x0), (2, .int x1), (3, .int x2)]) rfl ?_
  refine ax_goto (pc := 258) C 196 d_MM_sentenceClauses_258 (by decide) ?_
  refine ax_ls ([(0, .ref z), (1, .int x0), (2, .int x1), (3, .int x2), (4, .int (x3 + 3))]) [1, 2, 3, 4, 0] rfl ?_
  have hm : sX_sentenceClauses_196 l D kA z v σ1 [x0, x1, x2, (x3 + 3)] (σf, rf, _) := ihx tX_sentenceClauses_196 _ _ _ h
  subst ho
  exact hm _ _ _ _ rfl p e s m args below meth c F Lo σ0 hF hLo C hT
set_option maxHeartbeats 4000000 in
set_option maxRecDepth 100000 in
theorem oX_sentenceClauses_280 (l : Launch) (D : va_G) (kA : Nat → ClassId) (z : Nat) (v : Nat → Nat) (rec rex : mF) (ih : ∀ t σ xs res, rec t σ xs = some res → mSem l D kA z v t σ xs res) (ihx : ∀ t σ xs res, rex t σ xs = some res → xSem l D kA z v t σ xs res) (σ : mS) (xs : List Int32) (res : mR) (h : u_4 (kX_sentenceClauses_280 rec rex σ) xs = some res) : sX_sentenceClauses_280 l D kA z v σ xs res := by
  intro x0 x1 x2 x3 hxs
  subst hxs
  obtain ⟨σf, rf, dd⟩ := res
  have h : (rex tX_sentenceClauses_167 σ [x0, (x1 + 1)]) = some (σf, rf, dd) := h
  intro p e s m args below meth c F Lo σ0 hF hLo C hT
  dsimp only at hF hLo hT ⊢
  obtain ⟨o, ho⟩ : ∃ o, o = xo (σf, rf) := ⟨_, rfl⟩
  rw [← ho] at hT ⊢
  refine ax_iinc (pc := 280) C (x1 + 1) d_MM_sentenceClauses_280 2 rfl rfl (Nat.le_of_ble_eq_true rfl) ([(2, .int (x1 + 1)), (0, .ref z), (1, .int x0), (3, .int x2), (4, .int x3)]) rfl ?_
  refine ax_goto (pc := 283) C 167 d_MM_sentenceClauses_283 (by decide) ?_
  refine ax_ls ([(0, .ref z), (1, .int x0), (2, .int (x1 + 1))]) [1, 2, 0] rfl ?_
  have hm : sX_sentenceClauses_167 l D kA z v σ [x0, (x1 + 1)] (σf, rf, _) := ihx tX_sentenceClauses_167 _ _ _ h
  subst ho
  exact hm _ _ rfl p e s m args below meth c F Lo σ0 hF hLo C hT
set_option maxHeartbeats 4000000 in
set_option maxRecDepth 100000 in
theorem oX_clauses (l : Launch) (D : va_G) (kA : Nat → ClassId) (z : Nat) (v : Nat → Nat) (rec rex : mF) (ih : ∀ t σ xs res, rec t σ xs = some res → mSem l D kA z v t σ xs res) (ihx : ∀ t σ xs res, rex t σ xs = some res → xSem l D kA z v t σ xs res) (σ : mS) (xs : List Int32) (res : mR) (h : u_2 (kX_clauses rec rex σ) xs = some res) : sX_clauses l D kA z v σ xs res := by
  intro x0 x1 hxs
  subst hxs
  obtain ⟨σf, rf, dd⟩ := res
  have h : (if bin x0 20100 = true then (if ((σ.2.1 30 (Int32.toNatClampNeg x0)) : Int32).toInt < 0 ∨ 5 < ((σ.2.1 30 (Int32.toNatClampNeg x0)) : Int32).toInt then (rex tX_clauses_241 σ [x0, x1, (σ.1 62), 0]) else (if ((σ.2.1 30 (Int32.toNatClampNeg x0)) : Int32) = 0 then (bnd (rex tX_atom2 σ [x0, x1]) (fun σ1 r1 => if σ1.1 3000 = 0 then (rex tX_clauses_320 σ1 [x0, x1]) else (some (σ1, 0, 0)))) else (if ((σ.2.1 30 (Int32.toNatClampNeg x0)) : Int32) = 1 then (if bin x0 20100 = true then (if x1 = 0 then (rex tX_clauses_69 σ [x0, x1, 1, (σ.2.1 31 (Int32.toNatClampNeg x0))]) else (rex tX_clauses_69 σ [x0, x1, 0, (σ.2.1 31 (Int32.toNatClampNeg x0))])) else none) else (if ((σ.2.1 30 (Int32.toNatClampNeg x0)) : Int32) = 2 then (if bin x0 20100 = true then (if bin x0 20100 = true then (if bin x0 20100 = true then (if (σ.2.1 30 (Int32.toNatClampNeg x0)) = 2 then (rex tX_clauses_105 σ [x0, x1, 1, x1, x1, (σ.2.1 32 (Int32.toNatClampNeg x0)), (σ.2.1 31 (Int32.toNatClampNeg x0))]) else (rex tX_clauses_105 σ [x0, x1, 0, x1, x1, (σ.2.1 32 (Int32.toNatClampNeg x0)), (σ.2.1 31 (Int32.toNatClampNeg x0))])) else none) else none) else none) else (if ((σ.2.1 30 (Int32.toNatClampNeg x0)) : Int32) = 3 then (if bin x0 20100 = true then (if bin x0 20100 = true then (if bin x0 20100 = true then (if (σ.2.1 30 (Int32.toNatClampNeg x0)) = 2 then (rex tX_clauses_105 σ [x0, x1, 1, x1, x1, (σ.2.1 32 (Int32.toNatClampNeg x0)), (σ.2.1 31 (Int32.toNatClampNeg x0))]) else (rex tX_clauses_105 σ [x0, x1, 0, x1, x1, (σ.2.1 32 (Int32.toNatClampNeg x0)), (σ.2.1 31 (Int32.toNatClampNeg x0))])) else none) else none) else none) else (if ((σ.2.1 30 (Int32.toNatClampNeg x0)) : Int32) = 4 then (if bin x0 20100 = true then (if bin x0 20100 = true then (if x1 = 0 then (rex tX_clauses_142 σ [x0, x1, 1, (σ.2.1 32 (Int32.toNatClampNeg x0)), (σ.2.1 31 (Int32.toNatClampNeg x0))]) else (rex tX_clauses_142 σ [x0, x1, 0, (σ.2.1 32 (Int32.toNatClampNeg x0)), (σ.2.1 31 (Int32.toNatClampNeg x0))])) else none) else none) else (if bin x0 20100 = true then (if bin x0 20100 = true then (if x1 = 0 then (rex tX_clauses_180 σ [x0, x1, 1, (σ.2.1 32 (Int32.toNatClampNeg x0)), (σ.2.1 31 (Int32.toNatClampNeg x0))]) else (rex tX_clauses_180 σ [x0, x1, 0, (σ.2.1 32 (Int32.toNatClampNeg x0)), (σ.2.1 31 (Int32.toNatClampNeg x0))])) else none) else none))))))) else none) = some (σf, rf, dd) := h
  obtain ⟨o, ho⟩ : ∃ o, o = xo (σf, rf) := ⟨_, rfl⟩
  show xMv l D kA y_MM_clauses b_MM_clauses 5 (dd + 8) (48 * dd + 400) [.ref z, .int x0, .int x1] (mmW kA z v σ) z v σf (xo (σf, rf))
  rw [← ho]
  refine xMv.of (by decide +kernel) (Nat.le_of_ble_eq_true rfl) ?_
  intro p e s m args below meth c C hT
  have C : ax_C p s m args meth c b_MM_clauses "ClauseProverModel" 5 none D kA (va_A (mmW kA z v σ) s.heap.size) := C
  obtain ⟨F, hFe⟩ : ∃ F, F = dd + 8 := ⟨_, rfl⟩
  obtain ⟨Lo, hLoe⟩ : ∃ Lo, Lo = 48 * dd + 400 := ⟨_, rfl⟩
  obtain ⟨σ0, hσ0⟩ : ∃ s0, s0 = σ := ⟨_, rfl⟩
  suffices K : AW p l e { frames := F, cells := xmc o, slots := xms o, locals := Lo } s m args below meth c D kA (va_A (mmW kA z v σ0) s.heap.size) 5 (xQv below args s D kA (mmW kA z v σ0) z v σf o) 0 [(0, .ref z), (1, .int x0), (2, .int x1)] [] (mmW kA z v σ) 0 0 by rw [hFe, hLoe, hσ0] at K; exact ax_ls ([(0, .ref z), (1, .int x0), (2, .int x1)]) [0, 1, 2] rfl K
  have C : ax_C p s m args meth c b_MM_clauses "ClauseProverModel" 5 none D kA (va_A (mmW kA z v σ0) s.heap.size) := by rw [hσ0]; exact C
  have hT : XT o l e s m meth c (va_A (mmW kA z v σ0) s.heap.size) := by rw [hσ0]; exact hT
  have hF : dd + 8 ≤ F := by omega
  have hLo : 48 * dd + 400 ≤ Lo := by omega
  clear hFe hLoe hσ0
  refine ax_aload_n (pc := 0) C d_MM_clauses_0 rfl 0 rfl ?_
  refine mg_105 (pc := 1) C d_MM_clauses_1 ?_
  refine ax_iload_n (pc := 4) C d_MM_clauses_4 rfl 1 rfl ?_
  obtain ⟨hb, h⟩ := it_g h
  refine ml_30 (pc := 5) C d_MM_clauses_5 (bin_in hb) ?_
  by_cases hr : ((σ.2.1 30 (Int32.toNatClampNeg x0)) : Int32).toInt < 0 ∨ 5 < ((σ.2.1 30 (Int32.toNatClampNeg x0)) : Int32).toInt
  · have h := it_t hr h
    refine ax_tableOut (pc := 6) C 233 d_MM_clauses_6 hr (by decide) ?_
    refine ax_aload_n (pc := 233) C d_MM_clauses_233 rfl 0 rfl ?_
    refine mg_202 (pc := 234) C d_MM_clauses_234 ?_
    refine ax_istore_n (pc := 237) C d_MM_clauses_237 rfl (Nat.le_of_ble_eq_true rfl) ([(3, .int (σ.1 62)), (0, .ref z), (1, .int x0), (2, .int x1)]) rfl ?_
    refine ax_iconst (pc := 238) C 0 d_MM_clauses_238 (by decide +kernel) ?_
    refine ax_istore (pc := 239) C d_MM_clauses_239 (Nat.le_of_ble_eq_true rfl) ([(4, .int 0), (3, .int (σ.1 62)), (0, .ref z), (1, .int x0), (2, .int x1)]) rfl ?_
    refine ax_ls ([(0, .ref z), (1, .int x0), (2, .int x1), (3, .int (σ.1 62)), (4, .int 0)]) [2, 3, 4, 1, 0] rfl ?_
    have hm : sX_clauses_241 l D kA z v σ [x0, x1, (σ.1 62), 0] (σf, rf, _) := ihx tX_clauses_241 _ _ _ h
    subst ho
    exact hm _ _ _ _ rfl p e s m args below meth c F Lo σ0 hF hLo C hT
  · have h := it_f hr h
    by_cases hv : ((σ.2.1 30 (Int32.toNatClampNeg x0)) : Int32) = 0
    · have h := it_t hv h
      refine ax_tableIn (pc := 6) C 44 d_MM_clauses_6 (by omega) (by omega) (by rw [hv]; rfl) (by decide) ?_
      refine ax_aload_n (pc := 44) C d_MM_clauses_44 rfl 0 rfl ?_
      refine ax_iload_n (pc := 45) C d_MM_clauses_45 rfl 1 rfl ?_
      refine ax_iload_n (pc := 46) C d_MM_clauses_46 rfl 2 rfl ?_
      obtain ⟨σ1, r1, d1_1, d2_1, h1, h, hd2, hd1⟩ := it_b h
      have hm : sX_atom2 l D kA z v σ [x0, x1] (σ1, r1, d1_1) := ihx tX_atom2 _ _ _ h1
      by_cases hq : σ1.1 3000 = 0
      · have h := it_t hq h
        refine mcx_Vv (pc := 47) C (As := [.int x0, .int x1]) (rest := []) (hm _ _ rfl) hq ml_MM_566 d_MM_clauses_47 rfl rfl (by dsimp only; omega) (by dsimp only; omega) (Nat.zero_le _) (Nat.zero_le _) (Nat.le_of_ble_eq_true rfl) ?_
        have hF : d2_1 + 8 ≤ F := by omega
        have hLo : 48 * d2_1 + 400 ≤ Lo := by omega
        refine ax_goto (pc := 50) C 320 d_MM_clauses_50 (by decide) ?_
        refine ax_ls ([(0, .ref z), (1, .int x0), (2, .int x1)]) [0, 1, 2] rfl ?_
        have hm : sX_clauses_320 l D kA z v σ1 [x0, x1] (σf, rf, _) := ihx tX_clauses_320 _ _ _ h
        subst ho
        exact hm _ _ rfl p e s m args below meth c F Lo σ0 hF hLo C hT
      · have h := it_f hq h
        cases h
        obtain ⟨hT1, hX⟩ := hT (by rw [ho]; exact xo_thr hq)
        rw [xQv_thr (by rw [ho]; exact xo_thr hq)]
        exact mcx_P (pc := 47) C (As := [.int x0, .int x1]) (rest := []) hX (xt_none hT1 _) ho hq (xMv_thr hq (hm _ _ rfl)) ml_MM_566 d_MM_clauses_47 rfl rfl (by dsimp only; omega) (by dsimp only; omega) (Nat.le_of_ble_eq_true rfl)
    · have h := it_f hv h
      have hn0 : ¬ ((σ.2.1 30 (Int32.toNatClampNeg x0)) : Int32).toInt = 0 := fun q => hv (i32q (by rw [q]; rfl))
      by_cases hv : ((σ.2.1 30 (Int32.toNatClampNeg x0)) : Int32) = 1
      · have h := it_t hv h
        refine ax_tableIn (pc := 6) C 53 d_MM_clauses_6 (by omega) (by omega) (by rw [hv]; rfl) (by decide) ?_
        refine ax_aload_n (pc := 53) C d_MM_clauses_53 rfl 0 rfl ?_
        refine ax_aload_n (pc := 54) C d_MM_clauses_54 rfl 0 rfl ?_
        refine mg_108 (pc := 55) C d_MM_clauses_55 ?_
        refine ax_iload_n (pc := 58) C d_MM_clauses_58 rfl 1 rfl ?_
        obtain ⟨hb, h⟩ := it_g h
        refine ml_31 (pc := 59) C d_MM_clauses_59 (bin_in hb) ?_
        refine ax_iload_n (pc := 60) C d_MM_clauses_60 rfl 2 rfl ?_
        refine ax_if_ne (pc := 61) C 68 d_MM_clauses_61 (by decide) (fun hc => ?_) (fun hc => ?_)
        · have h := it_f hc h
          refine ax_iconst (pc := 68) C 0 d_MM_clauses_68 (by decide +kernel) ?_
          refine ax_ls ([(0, .ref z), (1, .int x0), (2, .int x1)]) [0, 1, 2] rfl ?_
          have hm : sX_clauses_69 l D kA z v σ [x0, x1, 0, (σ.2.1 31 (Int32.toNatClampNeg x0))] (σf, rf, _) := ihx tX_clauses_69 _ _ _ h
          subst ho
          exact hm _ _ _ _ rfl p e s m args below meth c F Lo σ0 hF hLo C hT
        · have h := it_t hc h
          refine ax_iconst (pc := 64) C 1 d_MM_clauses_64 (by decide +kernel) ?_
          refine ax_goto (pc := 65) C 69 d_MM_clauses_65 (by decide) ?_
          refine ax_ls ([(0, .ref z), (1, .int x0), (2, .int x1)]) [0, 1, 2] rfl ?_
          have hm : sX_clauses_69 l D kA z v σ [x0, x1, 1, (σ.2.1 31 (Int32.toNatClampNeg x0))] (σf, rf, _) := ihx tX_clauses_69 _ _ _ h
          subst ho
          exact hm _ _ _ _ rfl p e s m args below meth c F Lo σ0 hF hLo C hT
      · have h := it_f hv h
        have hn1 : ¬ ((σ.2.1 30 (Int32.toNatClampNeg x0)) : Int32).toInt = 1 := fun q => hv (i32q (by rw [q]; rfl))
        by_cases hv : ((σ.2.1 30 (Int32.toNatClampNeg x0)) : Int32) = 2
        · have h := it_t hv h
          refine ax_tableIn (pc := 6) C 75 d_MM_clauses_6 (by omega) (by omega) (by rw [hv]; rfl) (by decide) ?_
          refine ax_aload_n (pc := 75) C d_MM_clauses_75 rfl 0 rfl ?_
          refine ax_aload_n (pc := 76) C d_MM_clauses_76 rfl 0 rfl ?_
          refine mg_108 (pc := 77) C d_MM_clauses_77 ?_
          refine ax_iload_n (pc := 80) C d_MM_clauses_80 rfl 1 rfl ?_
          obtain ⟨hb, h⟩ := it_g h
          refine ml_31 (pc := 81) C d_MM_clauses_81 (bin_in hb) ?_
          refine ax_aload_n (pc := 82) C d_MM_clauses_82 rfl 0 rfl ?_
          refine mg_111 (pc := 83) C d_MM_clauses_83 ?_
          refine ax_iload_n (pc := 86) C d_MM_clauses_86 rfl 1 rfl ?_
          obtain ⟨hb, h⟩ := it_g h
          refine ml_32 (pc := 87) C d_MM_clauses_87 (bin_in hb) ?_
          refine ax_iload_n (pc := 88) C d_MM_clauses_88 rfl 2 rfl ?_
          refine ax_iload_n (pc := 89) C d_MM_clauses_89 rfl 2 rfl ?_
          refine ax_aload_n (pc := 90) C d_MM_clauses_90 rfl 0 rfl ?_
          refine mg_105 (pc := 91) C d_MM_clauses_91 ?_
          refine ax_iload_n (pc := 94) C d_MM_clauses_94 rfl 1 rfl ?_
          obtain ⟨hb, h⟩ := it_g h
          refine ml_30 (pc := 95) C d_MM_clauses_95 (bin_in hb) ?_
          refine ax_iconst (pc := 96) C 2 d_MM_clauses_96 (by decide +kernel) ?_
          refine ax_icmp_ne (pc := 97) C 104 d_MM_clauses_97 (by decide) (fun hc => ?_) (fun hc => ?_)
          · have h := it_f hc h
            refine ax_iconst (pc := 104) C 0 d_MM_clauses_104 (by decide +kernel) ?_
            refine ax_ls ([(0, .ref z), (1, .int x0), (2, .int x1)]) [0, 1, 2] rfl ?_
            have hm : sX_clauses_105 l D kA z v σ [x0, x1, 0, x1, x1, (σ.2.1 32 (Int32.toNatClampNeg x0)), (σ.2.1 31 (Int32.toNatClampNeg x0))] (σf, rf, _) := ihx tX_clauses_105 _ _ _ h
            subst ho
            exact hm _ _ _ _ _ _ _ rfl p e s m args below meth c F Lo σ0 hF hLo C hT
          · have h := it_t hc h
            refine ax_iconst (pc := 100) C 1 d_MM_clauses_100 (by decide +kernel) ?_
            refine ax_goto (pc := 101) C 105 d_MM_clauses_101 (by decide) ?_
            refine ax_ls ([(0, .ref z), (1, .int x0), (2, .int x1)]) [0, 1, 2] rfl ?_
            have hm : sX_clauses_105 l D kA z v σ [x0, x1, 1, x1, x1, (σ.2.1 32 (Int32.toNatClampNeg x0)), (σ.2.1 31 (Int32.toNatClampNeg x0))] (σf, rf, _) := ihx tX_clauses_105 _ _ _ h
            subst ho
            exact hm _ _ _ _ _ _ _ rfl p e s m args below meth c F Lo σ0 hF hLo C hT
        · have h := it_f hv h
          have hn2 : ¬ ((σ.2.1 30 (Int32.toNatClampNeg x0)) : Int32).toInt = 2 := fun q => hv (i32q (by rw [q]; rfl))
          by_cases hv : ((σ.2.1 30 (Int32.toNatClampNeg x0)) : Int32) = 3
          · have h := it_t hv h
            refine ax_tableIn (pc := 6) C 75 d_MM_clauses_6 (by omega) (by omega) (by rw [hv]; rfl) (by decide) ?_
            refine ax_aload_n (pc := 75) C d_MM_clauses_75 rfl 0 rfl ?_
            refine ax_aload_n (pc := 76) C d_MM_clauses_76 rfl 0 rfl ?_
            refine mg_108 (pc := 77) C d_MM_clauses_77 ?_
            refine ax_iload_n (pc := 80) C d_MM_clauses_80 rfl 1 rfl ?_
            obtain ⟨hb, h⟩ := it_g h
            refine ml_31 (pc := 81) C d_MM_clauses_81 (bin_in hb) ?_
            refine ax_aload_n (pc := 82) C d_MM_clauses_82 rfl 0 rfl ?_
            refine mg_111 (pc := 83) C d_MM_clauses_83 ?_
            refine ax_iload_n (pc := 86) C d_MM_clauses_86 rfl 1 rfl ?_
            obtain ⟨hb, h⟩ := it_g h
            refine ml_32 (pc := 87) C d_MM_clauses_87 (bin_in hb) ?_
            refine ax_iload_n (pc := 88) C d_MM_clauses_88 rfl 2 rfl ?_
            refine ax_iload_n (pc := 89) C d_MM_clauses_89 rfl 2 rfl ?_
            refine ax_aload_n (pc := 90) C d_MM_clauses_90 rfl 0 rfl ?_
            refine mg_105 (pc := 91) C d_MM_clauses_91 ?_
            refine ax_iload_n (pc := 94) C d_MM_clauses_94 rfl 1 rfl ?_
            obtain ⟨hb, h⟩ := it_g h
            refine ml_30 (pc := 95) C d_MM_clauses_95 (bin_in hb) ?_
            refine ax_iconst (pc := 96) C 2 d_MM_clauses_96 (by decide +kernel) ?_
            refine ax_icmp_ne (pc := 97) C 104 d_MM_clauses_97 (by decide) (fun hc => ?_) (fun hc => ?_)
            · have h := it_f hc h
              refine ax_iconst (pc := 104) C 0 d_MM_clauses_104 (by decide +kernel) ?_
              refine ax_ls ([(0, .ref z), (1, .int x0), (2, .int x1)]) [0, 1, 2] rfl ?_
              have hm : sX_clauses_105 l D kA z v σ [x0, x1, 0, x1, x1, (σ.2.1 32 (Int32.toNatClampNeg x0)), (σ.2.1 31 (Int32.toNatClampNeg x0))] (σf, rf, _) := ihx tX_clauses_105 _ _ _ h
              subst ho
              exact hm _ _ _ _ _ _ _ rfl p e s m args below meth c F Lo σ0 hF hLo C hT
            · have h := it_t hc h
              refine ax_iconst (pc := 100) C 1 d_MM_clauses_100 (by decide +kernel) ?_
              refine ax_goto (pc := 101) C 105 d_MM_clauses_101 (by decide) ?_
              refine ax_ls ([(0, .ref z), (1, .int x0), (2, .int x1)]) [0, 1, 2] rfl ?_
              have hm : sX_clauses_105 l D kA z v σ [x0, x1, 1, x1, x1, (σ.2.1 32 (Int32.toNatClampNeg x0)), (σ.2.1 31 (Int32.toNatClampNeg x0))] (σf, rf, _) := ihx tX_clauses_105 _ _ _ h
              subst ho
              exact hm _ _ _ _ _ _ _ rfl p e s m args below meth c F Lo σ0 hF hLo C hT
          · have h := it_f hv h
            have hn3 : ¬ ((σ.2.1 30 (Int32.toNatClampNeg x0)) : Int32).toInt = 3 := fun q => hv (i32q (by rw [q]; rfl))
            by_cases hv : ((σ.2.1 30 (Int32.toNatClampNeg x0)) : Int32) = 4
            · have h := it_t hv h
              refine ax_tableIn (pc := 6) C 120 d_MM_clauses_6 (by omega) (by omega) (by rw [hv]; rfl) (by decide) ?_
              refine ax_aload_n (pc := 120) C d_MM_clauses_120 rfl 0 rfl ?_
              refine ax_aload_n (pc := 121) C d_MM_clauses_121 rfl 0 rfl ?_
              refine mg_108 (pc := 122) C d_MM_clauses_122 ?_
              refine ax_iload_n (pc := 125) C d_MM_clauses_125 rfl 1 rfl ?_
              obtain ⟨hb, h⟩ := it_g h
              refine ml_31 (pc := 126) C d_MM_clauses_126 (bin_in hb) ?_
              refine ax_aload_n (pc := 127) C d_MM_clauses_127 rfl 0 rfl ?_
              refine mg_111 (pc := 128) C d_MM_clauses_128 ?_
              refine ax_iload_n (pc := 131) C d_MM_clauses_131 rfl 1 rfl ?_
              obtain ⟨hb, h⟩ := it_g h
              refine ml_32 (pc := 132) C d_MM_clauses_132 (bin_in hb) ?_
              refine ax_iload_n (pc := 133) C d_MM_clauses_133 rfl 2 rfl ?_
              refine ax_if_ne (pc := 134) C 141 d_MM_clauses_134 (by decide) (fun hc => ?_) (fun hc => ?_)
              · have h := it_f hc h
                refine ax_iconst (pc := 141) C 0 d_MM_clauses_141 (by decide +kernel) ?_
                refine ax_ls ([(0, .ref z), (1, .int x0), (2, .int x1)]) [0, 1, 2] rfl ?_
                have hm : sX_clauses_142 l D kA z v σ [x0, x1, 0, (σ.2.1 32 (Int32.toNatClampNeg x0)), (σ.2.1 31 (Int32.toNatClampNeg x0))] (σf, rf, _) := ihx tX_clauses_142 _ _ _ h
                subst ho
                exact hm _ _ _ _ _ rfl p e s m args below meth c F Lo σ0 hF hLo C hT
              · have h := it_t hc h
                refine ax_iconst (pc := 137) C 1 d_MM_clauses_137 (by decide +kernel) ?_
                refine ax_goto (pc := 138) C 142 d_MM_clauses_138 (by decide) ?_
                refine ax_ls ([(0, .ref z), (1, .int x0), (2, .int x1)]) [0, 1, 2] rfl ?_
                have hm : sX_clauses_142 l D kA z v σ [x0, x1, 1, (σ.2.1 32 (Int32.toNatClampNeg x0)), (σ.2.1 31 (Int32.toNatClampNeg x0))] (σf, rf, _) := ihx tX_clauses_142 _ _ _ h
                subst ho
                exact hm _ _ _ _ _ rfl p e s m args below meth c F Lo σ0 hF hLo C hT
            · have h := it_f hv h
              have hn4 : ¬ ((σ.2.1 30 (Int32.toNatClampNeg x0)) : Int32).toInt = 4 := fun q => hv (i32q (by rw [q]; rfl))
              have hv : ((σ.2.1 30 (Int32.toNatClampNeg x0)) : Int32) = 5 := i32q (by have e9 : (5 : Int32).toInt = 5 := rfl; omega)
              refine ax_tableIn (pc := 6) C 158 d_MM_clauses_6 (by omega) (by omega) (by rw [hv]; rfl) (by decide) ?_
              refine ax_aload_n (pc := 158) C d_MM_clauses_158 rfl 0 rfl ?_
              refine ax_aload_n (pc := 159) C d_MM_clauses_159 rfl 0 rfl ?_
              refine mg_108 (pc := 160) C d_MM_clauses_160 ?_
              refine ax_iload_n (pc := 163) C d_MM_clauses_163 rfl 1 rfl ?_
              obtain ⟨hb, h⟩ := it_g h
              refine ml_31 (pc := 164) C d_MM_clauses_164 (bin_in hb) ?_
              refine ax_aload_n (pc := 165) C d_MM_clauses_165 rfl 0 rfl ?_
              refine mg_111 (pc := 166) C d_MM_clauses_166 ?_
              refine ax_iload_n (pc := 169) C d_MM_clauses_169 rfl 1 rfl ?_
              obtain ⟨hb, h⟩ := it_g h
              refine ml_32 (pc := 170) C d_MM_clauses_170 (bin_in hb) ?_
              refine ax_iload_n (pc := 171) C d_MM_clauses_171 rfl 2 rfl ?_
              refine ax_if_ne (pc := 172) C 179 d_MM_clauses_172 (by decide) (fun hc => ?_) (fun hc => ?_)
              · have h := it_f hc h
                refine ax_iconst (pc := 179) C 0 d_MM_clauses_179 (by decide +kernel) ?_
                refine ax_ls ([(0, .ref z), (1, .int x0), (2, .int x1)]) [0, 1, 2] rfl ?_
                have hm : sX_clauses_180 l D kA z v σ [x0, x1, 0, (σ.2.1 32 (Int32.toNatClampNeg x0)), (σ.2.1 31 (Int32.toNatClampNeg x0))] (σf, rf, _) := ihx tX_clauses_180 _ _ _ h
                subst ho
                exact hm _ _ _ _ _ rfl p e s m args below meth c F Lo σ0 hF hLo C hT
              · have h := it_t hc h
                refine ax_iconst (pc := 175) C 1 d_MM_clauses_175 (by decide +kernel) ?_
                refine ax_goto (pc := 176) C 180 d_MM_clauses_176 (by decide) ?_
                refine ax_ls ([(0, .ref z), (1, .int x0), (2, .int x1)]) [0, 1, 2] rfl ?_
                have hm : sX_clauses_180 l D kA z v σ [x0, x1, 1, (σ.2.1 32 (Int32.toNatClampNeg x0)), (σ.2.1 31 (Int32.toNatClampNeg x0))] (σf, rf, _) := ihx tX_clauses_180 _ _ _ h
                subst ho
                exact hm _ _ _ _ _ rfl p e s m args below meth c F Lo σ0 hF hLo C hT
set_option maxHeartbeats 4000000 in
set_option maxRecDepth 100000 in
theorem oX_clauses_69 (l : Launch) (D : va_G) (kA : Nat → ClassId) (z : Nat) (v : Nat → Nat) (rec rex : mF) (ih : ∀ t σ xs res, rec t σ xs = some res → mSem l D kA z v t σ xs res) (ihx : ∀ t σ xs res, rex t σ xs = some res → xSem l D kA z v t σ xs res) (σ : mS) (xs : List Int32) (res : mR) (h : u_4 (kX_clauses_69 rec rex σ) xs = some res) : sX_clauses_69 l D kA z v σ xs res := by
  intro x0 x1 x2 x3 hxs
  subst hxs
  obtain ⟨σf, rf, dd⟩ := res
  have h : (bnd (rex tX_clauses σ [x3, x2]) (fun σ1 r1 => if σ1.1 3000 = 0 then (rex tX_clauses_320 σ1 [x0, x1]) else (some (σ1, 0, 0)))) = some (σf, rf, dd) := h
  intro p e s m args below meth c F Lo σ0 hF hLo C hT
  dsimp only at hF hLo hT ⊢
  obtain ⟨o, ho⟩ : ∃ o, o = xo (σf, rf) := ⟨_, rfl⟩
  rw [← ho] at hT ⊢
  obtain ⟨σ1, r1, d1_1, d2_1, h1, h, hd2, hd1⟩ := it_b h
  have hm : sX_clauses l D kA z v σ [x3, x2] (σ1, r1, d1_1) := ihx tX_clauses _ _ _ h1
  by_cases hq : σ1.1 3000 = 0
  · have h := it_t hq h
    refine mcx_Vv (pc := 69) C (As := [.int x3, .int x2]) (rest := []) (hm _ _ rfl) hq ml_MM_560 d_MM_clauses_69 rfl rfl (by dsimp only; omega) (by dsimp only; omega) (Nat.zero_le _) (Nat.zero_le _) (Nat.le_of_ble_eq_true rfl) ?_
    have hF : d2_1 + 8 ≤ F := by omega
    have hLo : 48 * d2_1 + 400 ≤ Lo := by omega
    refine ax_goto (pc := 72) C 320 d_MM_clauses_72 (by decide) ?_
    refine ax_ls ([(0, .ref z), (1, .int x0), (2, .int x1)]) [0, 1, 2] rfl ?_
    have hm : sX_clauses_320 l D kA z v σ1 [x0, x1] (σf, rf, _) := ihx tX_clauses_320 _ _ _ h
    subst ho
    exact hm _ _ rfl p e s m args below meth c F Lo σ0 hF hLo C hT
  · have h := it_f hq h
    cases h
    obtain ⟨hT1, hX⟩ := hT (by rw [ho]; exact xo_thr hq)
    rw [xQv_thr (by rw [ho]; exact xo_thr hq)]
    exact mcx_P (pc := 69) C (As := [.int x3, .int x2]) (rest := []) hX (xt_none hT1 _) ho hq (xMv_thr hq (hm _ _ rfl)) ml_MM_560 d_MM_clauses_69 rfl rfl (by dsimp only; omega) (by dsimp only; omega) (Nat.le_of_ble_eq_true rfl)
set_option maxHeartbeats 4000000 in
set_option maxRecDepth 100000 in
theorem oX_clauses_105 (l : Launch) (D : va_G) (kA : Nat → ClassId) (z : Nat) (v : Nat → Nat) (rec rex : mF) (ih : ∀ t σ xs res, rec t σ xs = some res → mSem l D kA z v t σ xs res) (ihx : ∀ t σ xs res, rex t σ xs = some res → xSem l D kA z v t σ xs res) (σ : mS) (xs : List Int32) (res : mR) (h : u_7 (kX_clauses_105 rec rex σ) xs = some res) : sX_clauses_105 l D kA z v σ xs res := by
  intro x0 x1 x2 x3 x4 x5 x6 hxs
  subst hxs
  obtain ⟨σf, rf, dd⟩ := res
  have h : (if x2 = x1 then (rex tX_clauses_114 σ [x0, x1, 1, x3, x4, x5, x6]) else (rex tX_clauses_114 σ [x0, x1, 0, x3, x4, x5, x6])) = some (σf, rf, dd) := h
  intro p e s m args below meth c F Lo σ0 hF hLo C hT
  dsimp only at hF hLo hT ⊢
  obtain ⟨o, ho⟩ : ∃ o, o = xo (σf, rf) := ⟨_, rfl⟩
  rw [← ho] at hT ⊢
  refine ax_iload_n (pc := 105) C d_MM_clauses_105 rfl 2 rfl ?_
  refine ax_icmp_ne (pc := 106) C 113 d_MM_clauses_106 (by decide) (fun hc => ?_) (fun hc => ?_)
  · have h := it_f hc h
    refine ax_iconst (pc := 113) C 0 d_MM_clauses_113 (by decide +kernel) ?_
    refine ax_ls ([(0, .ref z), (1, .int x0), (2, .int x1)]) [0, 1, 2] rfl ?_
    have hm : sX_clauses_114 l D kA z v σ [x0, x1, 0, x3, x4, x5, x6] (σf, rf, _) := ihx tX_clauses_114 _ _ _ h
    subst ho
    exact hm _ _ _ _ _ _ _ rfl p e s m args below meth c F Lo σ0 hF hLo C hT
  · have h := it_t hc h
    refine ax_iconst (pc := 109) C 1 d_MM_clauses_109 (by decide +kernel) ?_
    refine ax_goto (pc := 110) C 114 d_MM_clauses_110 (by decide) ?_
    refine ax_ls ([(0, .ref z), (1, .int x0), (2, .int x1)]) [0, 1, 2] rfl ?_
    have hm : sX_clauses_114 l D kA z v σ [x0, x1, 1, x3, x4, x5, x6] (σf, rf, _) := ihx tX_clauses_114 _ _ _ h
    subst ho
    exact hm _ _ _ _ _ _ _ rfl p e s m args below meth c F Lo σ0 hF hLo C hT
set_option maxHeartbeats 4000000 in
set_option maxRecDepth 100000 in
theorem oX_clauses_114 (l : Launch) (D : va_G) (kA : Nat → ClassId) (z : Nat) (v : Nat → Nat) (rec rex : mF) (ih : ∀ t σ xs res, rec t σ xs = some res → mSem l D kA z v t σ xs res) (ihx : ∀ t σ xs res, rex t σ xs = some res → xSem l D kA z v t σ xs res) (σ : mS) (xs : List Int32) (res : mR) (h : u_7 (kX_clauses_114 rec rex σ) xs = some res) : sX_clauses_114 l D kA z v σ xs res := by
  intro x0 x1 x2 x3 x4 x5 x6 hxs
  subst hxs
  obtain ⟨σf, rf, dd⟩ := res
  have h : (bnd (rex tX_joined2 σ [x6, x5, x4, x3, x2]) (fun σ1 r1 => if σ1.1 3000 = 0 then (rex tX_clauses_320 σ1 [x0, x1]) else (some (σ1, 0, 0)))) = some (σf, rf, dd) := h
  intro p e s m args below meth c F Lo σ0 hF hLo C hT
  dsimp only at hF hLo hT ⊢
  obtain ⟨o, ho⟩ : ∃ o, o = xo (σf, rf) := ⟨_, rfl⟩
  rw [← ho] at hT ⊢
  obtain ⟨σ1, r1, d1_1, d2_1, h1, h, hd2, hd1⟩ := it_b h
  have hm : sX_joined2 l D kA z v σ [x6, x5, x4, x3, x2] (σ1, r1, d1_1) := ihx tX_joined2 _ _ _ h1
  by_cases hq : σ1.1 3000 = 0
  · have h := it_t hq h
    refine mcx_Vv (pc := 114) C (As := [.int x6, .int x5, .int x4, .int x3, .int x2]) (rest := []) (hm _ _ _ _ _ rfl) hq ml_MM_568 d_MM_clauses_114 rfl rfl (by dsimp only; omega) (by dsimp only; omega) (Nat.zero_le _) (Nat.zero_le _) (Nat.le_of_ble_eq_true rfl) ?_
    have hF : d2_1 + 8 ≤ F := by omega
    have hLo : 48 * d2_1 + 400 ≤ Lo := by omega
    refine ax_goto (pc := 117) C 320 d_MM_clauses_117 (by decide) ?_
    refine ax_ls ([(0, .ref z), (1, .int x0), (2, .int x1)]) [0, 1, 2] rfl ?_
    have hm : sX_clauses_320 l D kA z v σ1 [x0, x1] (σf, rf, _) := ihx tX_clauses_320 _ _ _ h
    subst ho
    exact hm _ _ rfl p e s m args below meth c F Lo σ0 hF hLo C hT
  · have h := it_f hq h
    cases h
    obtain ⟨hT1, hX⟩ := hT (by rw [ho]; exact xo_thr hq)
    rw [xQv_thr (by rw [ho]; exact xo_thr hq)]
    exact mcx_P (pc := 114) C (As := [.int x6, .int x5, .int x4, .int x3, .int x2]) (rest := []) hX (xt_none hT1 _) ho hq (xMv_thr hq (hm _ _ _ _ _ rfl)) ml_MM_568 d_MM_clauses_114 rfl rfl (by dsimp only; omega) (by dsimp only; omega) (Nat.le_of_ble_eq_true rfl)
set_option maxHeartbeats 4000000 in
set_option maxRecDepth 100000 in
theorem oX_clauses_142 (l : Launch) (D : va_G) (kA : Nat → ClassId) (z : Nat) (v : Nat → Nat) (rec rex : mF) (ih : ∀ t σ xs res, rec t σ xs = some res → mSem l D kA z v t σ xs res) (ihx : ∀ t σ xs res, rex t σ xs = some res → xSem l D kA z v t σ xs res) (σ : mS) (xs : List Int32) (res : mR) (h : u_5 (kX_clauses_142 rec rex σ) xs = some res) : sX_clauses_142 l D kA z v σ xs res := by
  intro x0 x1 x2 x3 x4 hxs
  subst hxs
  obtain ⟨σf, rf, dd⟩ := res
  have h : (if x1 = 0 then (rex tX_clauses_152 σ [x0, x1, 1, x1, x2, x3, x4]) else (rex tX_clauses_152 σ [x0, x1, 0, x1, x2, x3, x4])) = some (σf, rf, dd) := h
  intro p e s m args below meth c F Lo σ0 hF hLo C hT
  dsimp only at hF hLo hT ⊢
  obtain ⟨o, ho⟩ : ∃ o, o = xo (σf, rf) := ⟨_, rfl⟩
  rw [← ho] at hT ⊢
  refine ax_iload_n (pc := 142) C d_MM_clauses_142 rfl 2 rfl ?_
  refine ax_iload_n (pc := 143) C d_MM_clauses_143 rfl 2 rfl ?_
  refine ax_if_ne (pc := 144) C 151 d_MM_clauses_144 (by decide) (fun hc => ?_) (fun hc => ?_)
  · have h := it_f hc h
    refine ax_iconst (pc := 151) C 0 d_MM_clauses_151 (by decide +kernel) ?_
    refine ax_ls ([(0, .ref z), (1, .int x0), (2, .int x1)]) [0, 1, 2] rfl ?_
    have hm : sX_clauses_152 l D kA z v σ [x0, x1, 0, x1, x2, x3, x4] (σf, rf, _) := ihx tX_clauses_152 _ _ _ h
    subst ho
    exact hm _ _ _ _ _ _ _ rfl p e s m args below meth c F Lo σ0 hF hLo C hT
  · have h := it_t hc h
    refine ax_iconst (pc := 147) C 1 d_MM_clauses_147 (by decide +kernel) ?_
    refine ax_goto (pc := 148) C 152 d_MM_clauses_148 (by decide) ?_
    refine ax_ls ([(0, .ref z), (1, .int x0), (2, .int x1)]) [0, 1, 2] rfl ?_
    have hm : sX_clauses_152 l D kA z v σ [x0, x1, 1, x1, x2, x3, x4] (σf, rf, _) := ihx tX_clauses_152 _ _ _ h
    subst ho
    exact hm _ _ _ _ _ _ _ rfl p e s m args below meth c F Lo σ0 hF hLo C hT
set_option maxHeartbeats 4000000 in
set_option maxRecDepth 100000 in
theorem oX_clauses_152 (l : Launch) (D : va_G) (kA : Nat → ClassId) (z : Nat) (v : Nat → Nat) (rec rex : mF) (ih : ∀ t σ xs res, rec t σ xs = some res → mSem l D kA z v t σ xs res) (ihx : ∀ t σ xs res, rex t σ xs = some res → xSem l D kA z v t σ xs res) (σ : mS) (xs : List Int32) (res : mR) (h : u_7 (kX_clauses_152 rec rex σ) xs = some res) : sX_clauses_152 l D kA z v σ xs res := by
  intro x0 x1 x2 x3 x4 x5 x6 hxs
  subst hxs
  obtain ⟨σf, rf, dd⟩ := res
  have h : (bnd (rex tX_joined2 σ [x6, x5, x4, x3, x2]) (fun σ1 r1 => if σ1.1 3000 = 0 then (rex tX_clauses_320 σ1 [x0, x1]) else (some (σ1, 0, 0)))) = some (σf, rf, dd) := h
  intro p e s m args below meth c F Lo σ0 hF hLo C hT
  dsimp only at hF hLo hT ⊢
  obtain ⟨o, ho⟩ : ∃ o, o = xo (σf, rf) := ⟨_, rfl⟩
  rw [← ho] at hT ⊢
  obtain ⟨σ1, r1, d1_1, d2_1, h1, h, hd2, hd1⟩ := it_b h
  have hm : sX_joined2 l D kA z v σ [x6, x5, x4, x3, x2] (σ1, r1, d1_1) := ihx tX_joined2 _ _ _ h1
  by_cases hq : σ1.1 3000 = 0
  · have h := it_t hq h
    refine mcx_Vv (pc := 152) C (As := [.int x6, .int x5, .int x4, .int x3, .int x2]) (rest := []) (hm _ _ _ _ _ rfl) hq ml_MM_568 d_MM_clauses_152 rfl rfl (by dsimp only; omega) (by dsimp only; omega) (Nat.zero_le _) (Nat.zero_le _) (Nat.le_of_ble_eq_true rfl) ?_
    have hF : d2_1 + 8 ≤ F := by omega
    have hLo : 48 * d2_1 + 400 ≤ Lo := by omega
    refine ax_goto (pc := 155) C 320 d_MM_clauses_155 (by decide) ?_
    refine ax_ls ([(0, .ref z), (1, .int x0), (2, .int x1)]) [0, 1, 2] rfl ?_
    have hm : sX_clauses_320 l D kA z v σ1 [x0, x1] (σf, rf, _) := ihx tX_clauses_320 _ _ _ h
    subst ho
    exact hm _ _ rfl p e s m args below meth c F Lo σ0 hF hLo C hT
  · have h := it_f hq h
    cases h
    obtain ⟨hT1, hX⟩ := hT (by rw [ho]; exact xo_thr hq)
    rw [xQv_thr (by rw [ho]; exact xo_thr hq)]
    exact mcx_P (pc := 152) C (As := [.int x6, .int x5, .int x4, .int x3, .int x2]) (rest := []) hX (xt_none hT1 _) ho hq (xMv_thr hq (hm _ _ _ _ _ rfl)) ml_MM_568 d_MM_clauses_152 rfl rfl (by dsimp only; omega) (by dsimp only; omega) (Nat.le_of_ble_eq_true rfl)
set_option maxHeartbeats 4000000 in
set_option maxRecDepth 100000 in
theorem oX_clauses_180 (l : Launch) (D : va_G) (kA : Nat → ClassId) (z : Nat) (v : Nat → Nat) (rec rex : mF) (ih : ∀ t σ xs res, rec t σ xs = some res → mSem l D kA z v t σ xs res) (ihx : ∀ t σ xs res, rex t σ xs = some res → xSem l D kA z v t σ xs res) (σ : mS) (xs : List Int32) (res : mR) (h : u_5 (kX_clauses_180 rec rex σ) xs = some res) : sX_clauses_180 l D kA z v σ xs res := by
  intro x0 x1 x2 x3 x4 hxs
  subst hxs
  obtain ⟨σf, rf, dd⟩ := res
  have h : (bnd (rex tX_joined2 σ [x4, x3, x2, 1, 0]) (fun σ1 r1 => if σ1.1 3000 = 0 then (if x1 = 0 then (if bin x0 20100 = true then (if bin x0 20100 = true then (bnd (rex tX_joined2 σ1 [(σ1.2.1 31 (Int32.toNatClampNeg x0)), (σ1.2.1 32 (Int32.toNatClampNeg x0)), 0, 0, 0]) (fun σ2 r2 => if σ2.1 3000 = 0 then (rex tX_clauses_320 σ2 [x0, x1]) else (some (σ2, 0, 0)))) else none) else none) else (if bin x0 20100 = true then (if bin x0 20100 = true then (bnd (rex tX_joined2 σ1 [(σ1.2.1 32 (Int32.toNatClampNeg x0)), (σ1.2.1 31 (Int32.toNatClampNeg x0)), 0, 1, 0]) (fun σ3 r3 => if σ3.1 3000 = 0 then (rex tX_clauses_320 σ3 [x0, x1]) else (some (σ3, 0, 0)))) else none) else none)) else (some (σ1, 0, 0)))) = some (σf, rf, dd) := h
  intro p e s m args below meth c F Lo σ0 hF hLo C hT
  dsimp only at hF hLo hT ⊢
  obtain ⟨o, ho⟩ : ∃ o, o = xo (σf, rf) := ⟨_, rfl⟩
  rw [← ho] at hT ⊢
  refine ax_iconst (pc := 180) C 1 d_MM_clauses_180 (by decide +kernel) ?_
  refine ax_iconst (pc := 181) C 0 d_MM_clauses_181 (by decide +kernel) ?_
  obtain ⟨σ1, r1, d1_1, d2_1, h1, h, hd2, hd1⟩ := it_b h
  have hm : sX_joined2 l D kA z v σ [x4, x3, x2, 1, 0] (σ1, r1, d1_1) := ihx tX_joined2 _ _ _ h1
  by_cases hq : σ1.1 3000 = 0
  · have h := it_t hq h
    refine mcx_Vv (pc := 182) C (As := [.int x4, .int x3, .int x2, .int 1, .int 0]) (rest := []) (hm _ _ _ _ _ rfl) hq ml_MM_568 d_MM_clauses_182 rfl rfl (by dsimp only; omega) (by dsimp only; omega) (Nat.zero_le _) (Nat.zero_le _) (Nat.le_of_ble_eq_true rfl) ?_
    have hF : d2_1 + 8 ≤ F := by omega
    have hLo : 48 * d2_1 + 400 ≤ Lo := by omega
    refine ax_iload_n (pc := 185) C d_MM_clauses_185 rfl 2 rfl ?_
    refine ax_if_eq (pc := 186) C 211 d_MM_clauses_186 (by decide) (fun hc => ?_) (fun hc => ?_)
    · have h := it_t hc h
      refine ax_aload_n (pc := 211) C d_MM_clauses_211 rfl 0 rfl ?_
      refine ax_aload_n (pc := 212) C d_MM_clauses_212 rfl 0 rfl ?_
      refine mg_108 (pc := 213) C d_MM_clauses_213 ?_
      refine ax_iload_n (pc := 216) C d_MM_clauses_216 rfl 1 rfl ?_
      obtain ⟨hb, h⟩ := it_g h
      refine ml_31 (pc := 217) C d_MM_clauses_217 (bin_in hb) ?_
      refine ax_aload_n (pc := 218) C d_MM_clauses_218 rfl 0 rfl ?_
      refine mg_111 (pc := 219) C d_MM_clauses_219 ?_
      refine ax_iload_n (pc := 222) C d_MM_clauses_222 rfl 1 rfl ?_
      obtain ⟨hb, h⟩ := it_g h
      refine ml_32 (pc := 223) C d_MM_clauses_223 (bin_in hb) ?_
      refine ax_iconst (pc := 224) C 0 d_MM_clauses_224 (by decide +kernel) ?_
      refine ax_iconst (pc := 225) C 0 d_MM_clauses_225 (by decide +kernel) ?_
      refine ax_iconst (pc := 226) C 0 d_MM_clauses_226 (by decide +kernel) ?_
      obtain ⟨σ2, r2, d1_2, d2_2, h1, h, hd2, hd1⟩ := it_b h
      have hm : sX_joined2 l D kA z v σ1 [(σ1.2.1 31 (Int32.toNatClampNeg x0)), (σ1.2.1 32 (Int32.toNatClampNeg x0)), 0, 0, 0] (σ2, r2, d1_2) := ihx tX_joined2 _ _ _ h1
      by_cases hq : σ2.1 3000 = 0
      · have h := it_t hq h
        refine mcx_Vv (pc := 227) C (As := [.int (σ1.2.1 31 (Int32.toNatClampNeg x0)), .int (σ1.2.1 32 (Int32.toNatClampNeg x0)), .int 0, .int 0, .int 0]) (rest := []) (hm _ _ _ _ _ rfl) hq ml_MM_568 d_MM_clauses_227 rfl rfl (by dsimp only; omega) (by dsimp only; omega) (Nat.zero_le _) (Nat.zero_le _) (Nat.le_of_ble_eq_true rfl) ?_
        have hF : d2_2 + 8 ≤ F := by omega
        have hLo : 48 * d2_2 + 400 ≤ Lo := by omega
        refine ax_goto (pc := 230) C 320 d_MM_clauses_230 (by decide) ?_
        refine ax_ls ([(0, .ref z), (1, .int x0), (2, .int x1)]) [0, 1, 2] rfl ?_
        have hm : sX_clauses_320 l D kA z v σ2 [x0, x1] (σf, rf, _) := ihx tX_clauses_320 _ _ _ h
        subst ho
        exact hm _ _ rfl p e s m args below meth c F Lo σ0 hF hLo C hT
      · have h := it_f hq h
        cases h
        obtain ⟨hT1, hX⟩ := hT (by rw [ho]; exact xo_thr hq)
        rw [xQv_thr (by rw [ho]; exact xo_thr hq)]
        exact mcx_P (pc := 227) C (As := [.int (σ1.2.1 31 (Int32.toNatClampNeg x0)), .int (σ1.2.1 32 (Int32.toNatClampNeg x0)), .int 0, .int 0, .int 0]) (rest := []) hX (xt_none hT1 _) ho hq (xMv_thr hq (hm _ _ _ _ _ rfl)) ml_MM_568 d_MM_clauses_227 rfl rfl (by dsimp only; omega) (by dsimp only; omega) (Nat.le_of_ble_eq_true rfl)
    · have h := it_f hc h
      refine ax_aload_n (pc := 189) C d_MM_clauses_189 rfl 0 rfl ?_
      refine ax_aload_n (pc := 190) C d_MM_clauses_190 rfl 0 rfl ?_
      refine mg_111 (pc := 191) C d_MM_clauses_191 ?_
      refine ax_iload_n (pc := 194) C d_MM_clauses_194 rfl 1 rfl ?_
      obtain ⟨hb, h⟩ := it_g h
      refine ml_32 (pc := 195) C d_MM_clauses_195 (bin_in hb) ?_
      refine ax_aload_n (pc := 196) C d_MM_clauses_196 rfl 0 rfl ?_
      refine mg_108 (pc := 197) C d_MM_clauses_197 ?_
      refine ax_iload_n (pc := 200) C d_MM_clauses_200 rfl 1 rfl ?_
      obtain ⟨hb, h⟩ := it_g h
      refine ml_31 (pc := 201) C d_MM_clauses_201 (bin_in hb) ?_
      refine ax_iconst (pc := 202) C 0 d_MM_clauses_202 (by decide +kernel) ?_
      refine ax_iconst (pc := 203) C 1 d_MM_clauses_203 (by decide +kernel) ?_
      refine ax_iconst (pc := 204) C 0 d_MM_clauses_204 (by decide +kernel) ?_
      obtain ⟨σ3, r3, d1_3, d2_3, h1, h, hd2, hd1⟩ := it_b h
      have hm : sX_joined2 l D kA z v σ1 [(σ1.2.1 32 (Int32.toNatClampNeg x0)), (σ1.2.1 31 (Int32.toNatClampNeg x0)), 0, 1, 0] (σ3, r3, d1_3) := ihx tX_joined2 _ _ _ h1
      by_cases hq : σ3.1 3000 = 0
      · have h := it_t hq h
        refine mcx_Vv (pc := 205) C (As := [.int (σ1.2.1 32 (Int32.toNatClampNeg x0)), .int (σ1.2.1 31 (Int32.toNatClampNeg x0)), .int 0, .int 1, .int 0]) (rest := []) (hm _ _ _ _ _ rfl) hq ml_MM_568 d_MM_clauses_205 rfl rfl (by dsimp only; omega) (by dsimp only; omega) (Nat.zero_le _) (Nat.zero_le _) (Nat.le_of_ble_eq_true rfl) ?_
        have hF : d2_3 + 8 ≤ F := by omega
        have hLo : 48 * d2_3 + 400 ≤ Lo := by omega
        refine ax_goto (pc := 208) C 320 d_MM_clauses_208 (by decide) ?_
        refine ax_ls ([(0, .ref z), (1, .int x0), (2, .int x1)]) [0, 1, 2] rfl ?_
        have hm : sX_clauses_320 l D kA z v σ3 [x0, x1] (σf, rf, _) := ihx tX_clauses_320 _ _ _ h
        subst ho
        exact hm _ _ rfl p e s m args below meth c F Lo σ0 hF hLo C hT
      · have h := it_f hq h
        cases h
        obtain ⟨hT1, hX⟩ := hT (by rw [ho]; exact xo_thr hq)
        rw [xQv_thr (by rw [ho]; exact xo_thr hq)]
        exact mcx_P (pc := 205) C (As := [.int (σ1.2.1 32 (Int32.toNatClampNeg x0)), .int (σ1.2.1 31 (Int32.toNatClampNeg x0)), .int 0, .int 1, .int 0]) (rest := []) hX (xt_none hT1 _) ho hq (xMv_thr hq (hm _ _ _ _ _ rfl)) ml_MM_568 d_MM_clauses_205 rfl rfl (by dsimp only; omega) (by dsimp only; omega) (Nat.le_of_ble_eq_true rfl)
  · have h := it_f hq h
    cases h
    obtain ⟨hT1, hX⟩ := hT (by rw [ho]; exact xo_thr hq)
    rw [xQv_thr (by rw [ho]; exact xo_thr hq)]
    exact mcx_P (pc := 182) C (As := [.int x4, .int x3, .int x2, .int 1, .int 0]) (rest := []) hX (xt_none hT1 _) ho hq (xMv_thr hq (hm _ _ _ _ _ rfl)) ml_MM_568 d_MM_clauses_182 rfl rfl (by dsimp only; omega) (by dsimp only; omega) (Nat.le_of_ble_eq_true rfl)
set_option maxHeartbeats 4000000 in
set_option maxRecDepth 100000 in
theorem oX_clauses_241 (l : Launch) (D : va_G) (kA : Nat → ClassId) (z : Nat) (v : Nat → Nat) (rec rex : mF) (ih : ∀ t σ xs res, rec t σ xs = some res → mSem l D kA z v t σ xs res) (ihx : ∀ t σ xs res, rex t σ xs = some res → xSem l D kA z v t σ xs res) (σ : mS) (xs : List Int32) (res : mR) (h : u_4 (kX_clauses_241 rec rex σ) xs = some res) : sX_clauses_241 l D kA z v σ xs res := by
  intro x0 x1 x2 x3 hxs
  subst hxs
  obtain ⟨σf, rf, dd⟩ := res
  have h : (if bin x0 20100 = true then (if (1000 : Int32) = 0 then none else (if ((σ.2.1 32 (Int32.toNatClampNeg x0)) - (σ.2.1 32 (Int32.toNatClampNeg x0)) / 1000 * 1000) ≤ x3 then (if bin x0 20100 = true then (bnd (rex tX_clauses σ [(σ.2.1 31 (Int32.toNatClampNeg x0)), x1]) (fun σ1 r1 => if σ1.1 3000 = 0 then (lt_ (mI σ1 62 x2) (fun σ2 => rex tX_clauses_320 σ2 [x0, x1])) else (some (σ1, 0, 0)))) else none) else (if bin x0 20100 = true then (if (1000 : Int32) = 0 then none else (if bin x0 20100 = true then (if (σ.2.1 30 (Int32.toNatClampNeg x0)) = 6 then (rex tX_clauses_286 σ [x0, x1, x2, x3, 1, ((((σ.2.1 32 (Int32.toNatClampNeg x0)) / 1000) : Int32) + x3)]) else (rex tX_clauses_286 σ [x0, x1, x2, x3, 0, ((((σ.2.1 32 (Int32.toNatClampNeg x0)) / 1000) : Int32) + x3)])) else none)) else none))) else none) = some (σf, rf, dd) := h
  intro p e s m args below meth c F Lo σ0 hF hLo C hT
  dsimp only at hF hLo hT ⊢
  obtain ⟨o, ho⟩ : ∃ o, o = xo (σf, rf) := ⟨_, rfl⟩
  rw [← ho] at hT ⊢
  refine ax_iload (pc := 241) C d_MM_clauses_241 4 rfl ?_
  refine ax_aload_n (pc := 243) C d_MM_clauses_243 rfl 0 rfl ?_
  refine mg_111 (pc := 244) C d_MM_clauses_244 ?_
  refine ax_iload_n (pc := 247) C d_MM_clauses_247 rfl 1 rfl ?_
  obtain ⟨hb, h⟩ := it_g h
  refine ml_32 (pc := 248) C d_MM_clauses_248 (bin_in hb) ?_
  refine ax_sipush (pc := 249) C 1000 d_MM_clauses_249 (by decide +kernel) ?_
  obtain ⟨hz, h⟩ := it_n h
  refine ax_irem (pc := 252) C d_MM_clauses_252 hz ?_
  refine ax_icmp_ge (pc := 253) C 304 d_MM_clauses_253 (by decide) (fun hc => ?_) (fun hc => ?_)
  · have h := it_t hc h
    refine ax_aload_n (pc := 304) C d_MM_clauses_304 rfl 0 rfl ?_
    refine ax_aload_n (pc := 305) C d_MM_clauses_305 rfl 0 rfl ?_
    refine mg_108 (pc := 306) C d_MM_clauses_306 ?_
    refine ax_iload_n (pc := 309) C d_MM_clauses_309 rfl 1 rfl ?_
    obtain ⟨hb, h⟩ := it_g h
    refine ml_31 (pc := 310) C d_MM_clauses_310 (bin_in hb) ?_
    refine ax_iload_n (pc := 311) C d_MM_clauses_311 rfl 2 rfl ?_
    obtain ⟨σ1, r1, d1_1, d2_1, h1, h, hd2, hd1⟩ := it_b h
    have hm : sX_clauses l D kA z v σ [(σ.2.1 31 (Int32.toNatClampNeg x0)), x1] (σ1, r1, d1_1) := ihx tX_clauses _ _ _ h1
    by_cases hq : σ1.1 3000 = 0
    · have h := it_t hq h
      refine mcx_Vv (pc := 312) C (As := [.int (σ.2.1 31 (Int32.toNatClampNeg x0)), .int x1]) (rest := []) (hm _ _ rfl) hq ml_MM_560 d_MM_clauses_312 rfl rfl (by dsimp only; omega) (by dsimp only; omega) (Nat.zero_le _) (Nat.zero_le _) (Nat.le_of_ble_eq_true rfl) ?_
      have hF : d2_1 + 8 ≤ F := by omega
      have hLo : 48 * d2_1 + 400 ≤ Lo := by omega
      refine ax_aload_n (pc := 315) C d_MM_clauses_315 rfl 0 rfl ?_
      refine ax_iload_n (pc := 316) C d_MM_clauses_316 rfl 3 rfl ?_
      refine mp_202 (pc := 317) C d_MM_clauses_317 ?_
      have h := it_l h
      generalize mI σ1 62 x2 = σ2 at h ⊢
      refine ax_ls ([(0, .ref z), (1, .int x0), (2, .int x1)]) [0, 1, 2] rfl ?_
      have hm : sX_clauses_320 l D kA z v σ2 [x0, x1] (σf, rf, _) := ihx tX_clauses_320 _ _ _ h
      subst ho
      exact hm _ _ rfl p e s m args below meth c F Lo σ0 hF hLo C hT
    · have h := it_f hq h
      cases h
      obtain ⟨hT1, hX⟩ := hT (by rw [ho]; exact xo_thr hq)
      rw [xQv_thr (by rw [ho]; exact xo_thr hq)]
      exact mcx_P (pc := 312) C (As := [.int (σ.2.1 31 (Int32.toNatClampNeg x0)), .int x1]) (rest := []) hX (xt_none hT1 _) ho hq (xMv_thr hq (hm _ _ rfl)) ml_MM_560 d_MM_clauses_312 rfl rfl (by dsimp only; omega) (by dsimp only; omega) (Nat.le_of_ble_eq_true rfl)
  · have h := it_f hc h
    refine ax_aload_n (pc := 256) C d_MM_clauses_256 rfl 0 rfl ?_
    refine ax_aload_n (pc := 257) C d_MM_clauses_257 rfl 0 rfl ?_
    refine mg_111 (pc := 258) C d_MM_clauses_258 ?_
    refine ax_iload_n (pc := 261) C d_MM_clauses_261 rfl 1 rfl ?_
    obtain ⟨hb, h⟩ := it_g h
    refine ml_32 (pc := 262) C d_MM_clauses_262 (bin_in hb) ?_
    refine ax_sipush (pc := 263) C 1000 d_MM_clauses_263 (by decide +kernel) ?_
    obtain ⟨hz, h⟩ := it_n h
    refine ax_idiv (pc := 266) C d_MM_clauses_266 hz ?_
    refine ax_iload (pc := 267) C d_MM_clauses_267 4 rfl ?_
    refine ax_iadd (pc := 269) C d_MM_clauses_269 ?_
    refine ax_aload_n (pc := 270) C d_MM_clauses_270 rfl 0 rfl ?_
    refine mg_105 (pc := 271) C d_MM_clauses_271 ?_
    refine ax_iload_n (pc := 274) C d_MM_clauses_274 rfl 1 rfl ?_
    obtain ⟨hb, h⟩ := it_g h
    refine ml_30 (pc := 275) C d_MM_clauses_275 (bin_in hb) ?_
    refine ax_bipush (pc := 276) C 6 d_MM_clauses_276 (by decide +kernel) ?_
    refine ax_icmp_ne (pc := 278) C 285 d_MM_clauses_278 (by decide) (fun hc => ?_) (fun hc => ?_)
    · have h := it_f hc h
      refine ax_iconst (pc := 285) C 0 d_MM_clauses_285 (by decide +kernel) ?_
      refine ax_ls ([(0, .ref z), (1, .int x0), (2, .int x1), (3, .int x2), (4, .int x3)]) [0, 1, 2, 3, 4] rfl ?_
      have hm : sX_clauses_286 l D kA z v σ [x0, x1, x2, x3, 0, ((((σ.2.1 32 (Int32.toNatClampNeg x0)) / 1000) : Int32) + x3)] (σf, rf, _) := ihx tX_clauses_286 _ _ _ h
      subst ho
      exact hm _ _ _ _ _ _ rfl p e s m args below meth c F Lo σ0 hF hLo C hT
    · have h := it_t hc h
      refine ax_iconst (pc := 281) C 1 d_MM_clauses_281 (by decide +kernel) ?_
      refine ax_goto (pc := 282) C 286 d_MM_clauses_282 (by decide) ?_
      refine ax_ls ([(0, .ref z), (1, .int x0), (2, .int x1), (3, .int x2), (4, .int x3)]) [0, 1, 2, 3, 4] rfl ?_
      have hm : sX_clauses_286 l D kA z v σ [x0, x1, x2, x3, 1, ((((σ.2.1 32 (Int32.toNatClampNeg x0)) / 1000) : Int32) + x3)] (σf, rf, _) := ihx tX_clauses_286 _ _ _ h
      subst ho
      exact hm _ _ _ _ _ _ rfl p e s m args below meth c F Lo σ0 hF hLo C hT
set_option maxHeartbeats 4000000 in
set_option maxRecDepth 100000 in
theorem oX_clauses_286 (l : Launch) (D : va_G) (kA : Nat → ClassId) (z : Nat) (v : Nat → Nat) (rec rex : mF) (ih : ∀ t σ xs res, rec t σ xs = some res → mSem l D kA z v t σ xs res) (ihx : ∀ t σ xs res, rex t σ xs = some res → xSem l D kA z v t σ xs res) (σ : mS) (xs : List Int32) (res : mR) (h : u_6 (kX_clauses_286 rec rex σ) xs = some res) : sX_clauses_286 l D kA z v σ xs res := by
  intro x0 x1 x2 x3 x4 x5 hxs
  subst hxs
  obtain ⟨σf, rf, dd⟩ := res
  have h : (if x4 = x1 then (rex tX_clauses_295 σ [x0, x1, x2, x3, 1, x5]) else (rex tX_clauses_295 σ [x0, x1, x2, x3, 0, x5])) = some (σf, rf, dd) := h
  intro p e s m args below meth c F Lo σ0 hF hLo C hT
  dsimp only at hF hLo hT ⊢
  obtain ⟨o, ho⟩ : ∃ o, o = xo (σf, rf) := ⟨_, rfl⟩
  rw [← ho] at hT ⊢
  refine ax_iload_n (pc := 286) C d_MM_clauses_286 rfl 2 rfl ?_
  refine ax_icmp_ne (pc := 287) C 294 d_MM_clauses_287 (by decide) (fun hc => ?_) (fun hc => ?_)
  · have h := it_f hc h
    refine ax_iconst (pc := 294) C 0 d_MM_clauses_294 (by decide +kernel) ?_
    refine ax_ls ([(0, .ref z), (1, .int x0), (2, .int x1), (3, .int x2), (4, .int x3)]) [0, 1, 2, 3, 4] rfl ?_
    have hm : sX_clauses_295 l D kA z v σ [x0, x1, x2, x3, 0, x5] (σf, rf, _) := ihx tX_clauses_295 _ _ _ h
    subst ho
    exact hm _ _ _ _ _ _ rfl p e s m args below meth c F Lo σ0 hF hLo C hT
  · have h := it_t hc h
    refine ax_iconst (pc := 290) C 1 d_MM_clauses_290 (by decide +kernel) ?_
    refine ax_goto (pc := 291) C 295 d_MM_clauses_291 (by decide) ?_
    refine ax_ls ([(0, .ref z), (1, .int x0), (2, .int x1), (3, .int x2), (4, .int x3)]) [0, 1, 2, 3, 4] rfl ?_
    have hm : sX_clauses_295 l D kA z v σ [x0, x1, x2, x3, 1, x5] (σf, rf, _) := ihx tX_clauses_295 _ _ _ h
    subst ho
    exact hm _ _ _ _ _ _ rfl p e s m args below meth c F Lo σ0 hF hLo C hT
set_option maxHeartbeats 4000000 in
set_option maxRecDepth 100000 in
theorem oX_clauses_295 (l : Launch) (D : va_G) (kA : Nat → ClassId) (z : Nat) (v : Nat → Nat) (rec rex : mF) (ih : ∀ t σ xs res, rec t σ xs = some res → mSem l D kA z v t σ xs res) (ihx : ∀ t σ xs res, rex t σ xs = some res → xSem l D kA z v t σ xs res) (σ : mS) (xs : List Int32) (res : mR) (h : u_6 (kX_clauses_295 rec rex σ) xs = some res) : sX_clauses_295 l D kA z v σ xs res := by
  intro x0 x1 x2 x3 x4 x5 hxs
  subst hxs
  obtain ⟨σf, rf, dd⟩ := res
  have h : (bnd (rec tM_bind2 σ [x5, x4]) (fun σ1 r1 => rex tX_clauses_241 σ1 [x0, x1, x2, (x3 + 1)])) = some (σf, rf, dd) := h
  intro p e s m args below meth c F Lo σ0 hF hLo C hT
  dsimp only at hF hLo hT ⊢
  obtain ⟨o, ho⟩ : ∃ o, o = xo (σf, rf) := ⟨_, rfl⟩
  rw [← ho] at hT ⊢
  obtain ⟨σ1, r1, d1_1, d2_1, h1, h, hd2, hd1⟩ := it_b h
  have hm : sM_bind2 l D kA z v σ [x5, x4] (σ1, r1, d1_1) := ih tM_bind2 _ _ _ h1
  refine mc_Vv (pc := 295) C (As := [.int x5, .int x4]) (rest := []) (hm _ _ rfl) ml_MM_571 d_MM_clauses_295 rfl rfl (by dsimp only; omega) (by dsimp only; omega) (Nat.zero_le _) (Nat.zero_le _) (Nat.le_of_ble_eq_true rfl) ?_
  have hF : d2_1 + 8 ≤ F := by omega
  have hLo : 48 * d2_1 + 400 ≤ Lo := by omega
  refine ax_iinc (pc := 298) C (x3 + 1) d_MM_clauses_298 4 rfl rfl (Nat.le_of_ble_eq_true rfl) ([(4, .int (x3 + 1)), (0, .ref z), (1, .int x0), (2, .int x1), (3, .int x2)]) rfl ?_
  refine ax_goto (pc := 301) C 241 d_MM_clauses_301 (by decide) ?_
  refine ax_ls ([(0, .ref z), (1, .int x0), (2, .int x1), (3, .int x2), (4, .int (x3 + 1))]) [1, 2, 3, 4, 0] rfl ?_
  have hm : sX_clauses_241 l D kA z v σ1 [x0, x1, x2, (x3 + 1)] (σf, rf, _) := ihx tX_clauses_241 _ _ _ h
  subst ho
  exact hm _ _ _ _ rfl p e s m args below meth c F Lo σ0 hF hLo C hT
set_option maxHeartbeats 4000000 in
set_option maxRecDepth 100000 in
theorem oX_clauses_320 (l : Launch) (D : va_G) (kA : Nat → ClassId) (z : Nat) (v : Nat → Nat) (rec rex : mF) (ih : ∀ t σ xs res, rec t σ xs = some res → mSem l D kA z v t σ xs res) (ihx : ∀ t σ xs res, rex t σ xs = some res → xSem l D kA z v t σ xs res) (σ : mS) (xs : List Int32) (res : mR) (h : u_2 (kX_clauses_320 rec rex σ) xs = some res) : sX_clauses_320 l D kA z v σ xs res := by
  intro x0 x1 hxs
  subst hxs
  obtain ⟨σf, rf, dd⟩ := res
  have h : (lt_ (mI σ 3000 0) (fun u => some (u, 0, 0))) = some (σf, rf, dd) := h
  intro p e s m args below meth c F Lo σ0 hF hLo C hT
  dsimp only at hF hLo hT ⊢
  obtain ⟨o, ho⟩ : ∃ o, o = xo (σf, rf) := ⟨_, rfl⟩
  rw [← ho] at hT ⊢
  have h := it_l h
  cases h
  exact xr_vret (pc := 320) C ho d_MM_clauses_320
set_option maxHeartbeats 4000000 in
set_option maxRecDepth 100000 in
theorem oX_atom2 (l : Launch) (D : va_G) (kA : Nat → ClassId) (z : Nat) (v : Nat → Nat) (rec rex : mF) (ih : ∀ t σ xs res, rec t σ xs = some res → mSem l D kA z v t σ xs res) (ihx : ∀ t σ xs res, rex t σ xs = some res → xSem l D kA z v t σ xs res) (σ : mS) (xs : List Int32) (res : mR) (h : u_2 (kX_atom2 rec rex σ) xs = some res) : sX_atom2 l D kA z v σ xs res := by
  intro x0 x1 hxs
  subst hxs
  obtain ⟨σf, rf, dd⟩ := res
  have h : (if bin x0 20100 = true then (if (σ.2.1 32 (Int32.toNatClampNeg x0)) < 0 then (if bin x0 20100 = true then (if bin (σ.2.1 31 (Int32.toNatClampNeg x0)) 20100 = true then (rex tX_atom2_49 σ [x0, x1, 1, (σ.2.1 42 (Int32.toNatClampNeg (σ.2.1 31 (Int32.toNatClampNeg x0))))]) else none) else none) else (if bin x0 20100 = true then (bnd (rec tM_weightOf σ [(σ.2.1 31 (Int32.toNatClampNeg x0))]) (fun σ1 r1 => if bin x0 20100 = true then (bnd (rec tM_weightOf σ1 [(σ1.2.1 32 (Int32.toNatClampNeg x0))]) (fun σ2 r2 => rex tX_atom2_84 σ2 [x0, x1, ((r1 : Int32) + r2)])) else none)) else none)) else none) = some (σf, rf, dd) := h
  obtain ⟨o, ho⟩ : ∃ o, o = xo (σf, rf) := ⟨_, rfl⟩
  show xMv l D kA y_MM_atom2 b_MM_atom2 5 (dd + 8) (48 * dd + 400) [.ref z, .int x0, .int x1] (mmW kA z v σ) z v σf (xo (σf, rf))
  rw [← ho]
  refine xMv.of (by decide +kernel) (Nat.le_of_ble_eq_true rfl) ?_
  intro p e s m args below meth c C hT
  have C : ax_C p s m args meth c b_MM_atom2 "ClauseProverModel" 5 none D kA (va_A (mmW kA z v σ) s.heap.size) := C
  obtain ⟨F, hFe⟩ : ∃ F, F = dd + 8 := ⟨_, rfl⟩
  obtain ⟨Lo, hLoe⟩ : ∃ Lo, Lo = 48 * dd + 400 := ⟨_, rfl⟩
  obtain ⟨σ0, hσ0⟩ : ∃ s0, s0 = σ := ⟨_, rfl⟩
  suffices K : AW p l e { frames := F, cells := xmc o, slots := xms o, locals := Lo } s m args below meth c D kA (va_A (mmW kA z v σ0) s.heap.size) 5 (xQv below args s D kA (mmW kA z v σ0) z v σf o) 0 [(0, .ref z), (1, .int x0), (2, .int x1)] [] (mmW kA z v σ) 0 0 by rw [hFe, hLoe, hσ0] at K; exact ax_ls ([(0, .ref z), (1, .int x0), (2, .int x1)]) [0, 1, 2] rfl K
  have C : ax_C p s m args meth c b_MM_atom2 "ClauseProverModel" 5 none D kA (va_A (mmW kA z v σ0) s.heap.size) := by rw [hσ0]; exact C
  have hT : XT o l e s m meth c (va_A (mmW kA z v σ0) s.heap.size) := by rw [hσ0]; exact hT
  have hF : dd + 8 ≤ F := by omega
  have hLo : 48 * dd + 400 ≤ Lo := by omega
  clear hFe hLoe hσ0
  refine ax_iconst (pc := 0) C 1 d_MM_atom2_0 (by decide +kernel) ?_
  refine ax_istore_n (pc := 1) C d_MM_atom2_1 rfl (Nat.le_of_ble_eq_true rfl) ([(3, .int 1), (0, .ref z), (1, .int x0), (2, .int x1)]) rfl ?_
  refine ax_aload_n (pc := 2) C d_MM_atom2_2 rfl 1 rfl ?_
  refine mg_111 (pc := 3) C d_MM_atom2_3 ?_
  refine ax_iload_n (pc := 6) C d_MM_atom2_6 rfl 2 rfl ?_
  obtain ⟨hb, h⟩ := it_g h
  refine ml_32 (pc := 7) C d_MM_atom2_7 (bin_in hb) ?_
  refine ax_if_lt (pc := 8) C 36 d_MM_atom2_8 (by decide) (fun hc => ?_) (fun hc => ?_)
  · have h := it_t hc h
    refine ax_aload_n (pc := 36) C d_MM_atom2_36 rfl 1 rfl ?_
    refine mg_141 (pc := 37) C d_MM_atom2_37 ?_
    refine ax_aload_n (pc := 40) C d_MM_atom2_40 rfl 1 rfl ?_
    refine mg_108 (pc := 41) C d_MM_atom2_41 ?_
    refine ax_iload_n (pc := 44) C d_MM_atom2_44 rfl 2 rfl ?_
    obtain ⟨hb, h⟩ := it_g h
    refine ml_31 (pc := 45) C d_MM_atom2_45 (bin_in hb) ?_
    obtain ⟨hb, h⟩ := it_g h
    refine ml_42 (pc := 46) C d_MM_atom2_46 (bin_in hb) ?_
    refine ax_istore (pc := 47) C d_MM_atom2_47 (Nat.le_of_ble_eq_true rfl) ([(4, .int (σ.2.1 42 (Int32.toNatClampNeg (σ.2.1 31 (Int32.toNatClampNeg x0))))), (3, .int 1), (0, .ref z), (1, .int x0), (2, .int x1)]) rfl ?_
    refine ax_ls ([(0, .ref z), (1, .int x0), (2, .int x1), (3, .int 1), (4, .int (σ.2.1 42 (Int32.toNatClampNeg (σ.2.1 31 (Int32.toNatClampNeg x0)))))]) [2, 3, 4, 1, 0] rfl ?_
    have hm : sX_atom2_49 l D kA z v σ [x0, x1, 1, (σ.2.1 42 (Int32.toNatClampNeg (σ.2.1 31 (Int32.toNatClampNeg x0))))] (σf, rf, _) := ihx tX_atom2_49 _ _ _ h
    subst ho
    exact hm _ _ _ _ rfl p e s m args below meth c F Lo σ0 hF hLo C hT
  · have h := it_f hc h
    refine ax_aload_n (pc := 11) C d_MM_atom2_11 rfl 1 rfl ?_
    refine ax_aload_n (pc := 12) C d_MM_atom2_12 rfl 1 rfl ?_
    refine mg_108 (pc := 13) C d_MM_atom2_13 ?_
    refine ax_iload_n (pc := 16) C d_MM_atom2_16 rfl 2 rfl ?_
    obtain ⟨hb, h⟩ := it_g h
    refine ml_31 (pc := 17) C d_MM_atom2_17 (bin_in hb) ?_
    obtain ⟨σ1, r1, d1_1, d2_1, h1, h, hd2, hd1⟩ := it_b h
    have hm : sM_weightOf l D kA z v σ [(σ.2.1 31 (Int32.toNatClampNeg x0))] (σ1, r1, d1_1) := ih tM_weightOf _ _ _ h1
    refine mc_Vi (pc := 18) C (As := [.int (σ.2.1 31 (Int32.toNatClampNeg x0))]) (rest := []) (hm _ rfl) ml_MM_541 d_MM_atom2_18 rfl rfl (by dsimp only; omega) (by dsimp only; omega) (Nat.zero_le _) (Nat.zero_le _) (Nat.le_of_ble_eq_true rfl) ?_
    have hF : d2_1 + 8 ≤ F := by omega
    have hLo : 48 * d2_1 + 400 ≤ Lo := by omega
    refine ax_aload_n (pc := 21) C d_MM_atom2_21 rfl 1 rfl ?_
    refine ax_aload_n (pc := 22) C d_MM_atom2_22 rfl 1 rfl ?_
    refine mg_111 (pc := 23) C d_MM_atom2_23 ?_
    refine ax_iload_n (pc := 26) C d_MM_atom2_26 rfl 2 rfl ?_
    obtain ⟨hb, h⟩ := it_g h
    refine ml_32 (pc := 27) C d_MM_atom2_27 (bin_in hb) ?_
    obtain ⟨σ2, r2, d1_2, d2_2, h1, h, hd2, hd1⟩ := it_b h
    have hm : sM_weightOf l D kA z v σ1 [(σ1.2.1 32 (Int32.toNatClampNeg x0))] (σ2, r2, d1_2) := ih tM_weightOf _ _ _ h1
    refine mc_Vi (pc := 28) C (As := [.int (σ1.2.1 32 (Int32.toNatClampNeg x0))]) (rest := [.int r1]) (hm _ rfl) ml_MM_541 d_MM_atom2_28 rfl rfl (by dsimp only; omega) (by dsimp only; omega) (Nat.zero_le _) (Nat.zero_le _) (Nat.le_of_ble_eq_true rfl) ?_
    have hF : d2_2 + 8 ≤ F := by omega
    have hLo : 48 * d2_2 + 400 ≤ Lo := by omega
    refine ax_iadd (pc := 31) C d_MM_atom2_31 ?_
    refine ax_istore_n (pc := 32) C d_MM_atom2_32 rfl (Nat.le_of_ble_eq_true rfl) ([(3, .int ((r1 : Int32) + r2)), (0, .ref z), (1, .int x0), (2, .int x1)]) rfl ?_
    refine ax_goto (pc := 33) C 84 d_MM_atom2_33 (by decide) ?_
    refine ax_ls ([(0, .ref z), (1, .int x0), (2, .int x1), (3, .int ((r1 : Int32) + r2))]) [1, 2, 3, 0] rfl ?_
    have hm : sX_atom2_84 l D kA z v σ2 [x0, x1, ((r1 : Int32) + r2)] (σf, rf, _) := ihx tX_atom2_84 _ _ _ h
    subst ho
    exact hm _ _ _ rfl p e s m args below meth c F Lo σ0 hF hLo C hT
set_option maxHeartbeats 4000000 in
set_option maxRecDepth 100000 in
theorem oX_atom2_49 (l : Launch) (D : va_G) (kA : Nat → ClassId) (z : Nat) (v : Nat → Nat) (rec rex : mF) (ih : ∀ t σ xs res, rec t σ xs = some res → mSem l D kA z v t σ xs res) (ihx : ∀ t σ xs res, rex t σ xs = some res → xSem l D kA z v t σ xs res) (σ : mS) (xs : List Int32) (res : mR) (h : u_4 (kX_atom2_49 rec rex σ) xs = some res) : sX_atom2_49 l D kA z v σ xs res := by
  intro x0 x1 x2 x3 hxs
  subst hxs
  obtain ⟨σf, rf, dd⟩ := res
  have h : (if x3 < 0 then (rex tX_atom2_84 σ [x0, x1, (x2 + 1)]) else (bnd (rec tM_weightOf σ [x3]) (fun σ1 r1 => if bin x3 20100 = true then (rex tX_atom2_49 σ1 [x0, x1, (if ((x2 : Int32) + r1) < 1000 then ((x2 : Int32) + r1) else 1000), (σ1.2.1 36 (Int32.toNatClampNeg x3))]) else none))) = some (σf, rf, dd) := h
  intro p e s m args below meth c F Lo σ0 hF hLo C hT
  dsimp only at hF hLo hT ⊢
  obtain ⟨o, ho⟩ : ∃ o, o = xo (σf, rf) := ⟨_, rfl⟩
  rw [← ho] at hT ⊢
  refine ax_iload (pc := 49) C d_MM_atom2_49 4 rfl ?_
  refine ax_if_lt (pc := 51) C 81 d_MM_atom2_51 (by decide) (fun hc => ?_) (fun hc => ?_)
  · have h := it_t hc h
    refine ax_iinc (pc := 81) C (x2 + 1) d_MM_atom2_81 3 rfl rfl (Nat.le_of_ble_eq_true rfl) ([(3, .int (x2 + 1)), (0, .ref z), (1, .int x0), (2, .int x1), (4, .int x3)]) rfl ?_
    refine ax_ls ([(0, .ref z), (1, .int x0), (2, .int x1), (3, .int (x2 + 1))]) [1, 2, 3, 0] rfl ?_
    have hm : sX_atom2_84 l D kA z v σ [x0, x1, (x2 + 1)] (σf, rf, _) := ihx tX_atom2_84 _ _ _ h
    subst ho
    exact hm _ _ _ rfl p e s m args below meth c F Lo σ0 hF hLo C hT
  · have h := it_f hc h
    refine ax_sipush (pc := 54) C 1000 d_MM_atom2_54 (by decide +kernel) ?_
    refine ax_iload_n (pc := 57) C d_MM_atom2_57 rfl 3 rfl ?_
    refine ax_aload_n (pc := 58) C d_MM_atom2_58 rfl 0 rfl ?_
    refine ax_iload (pc := 59) C d_MM_atom2_59 4 rfl ?_
    obtain ⟨σ1, r1, d1_1, d2_1, h1, h, hd2, hd1⟩ := it_b h
    have hm : sM_weightOf l D kA z v σ [x3] (σ1, r1, d1_1) := ih tM_weightOf _ _ _ h1
    refine mc_Vi (pc := 61) C (As := [.int x3]) (rest := [.int x2, .int 1000]) (hm _ rfl) ml_MM_541 d_MM_atom2_61 rfl rfl (by dsimp only; omega) (by dsimp only; omega) (Nat.zero_le _) (Nat.zero_le _) (Nat.le_of_ble_eq_true rfl) ?_
    have hF : d2_1 + 8 ≤ F := by omega
    have hLo : 48 * d2_1 + 400 ≤ Lo := by omega
    refine ax_iadd (pc := 64) C d_MM_atom2_64 ?_
    refine mxx_min (pc := 65) C tb_methodLink_2103 tb_static_612 tb_initialized_19 tcm_min d_MM_atom2_65 (by omega) (by omega) (Nat.le_of_ble_eq_true rfl) ?_
    refine ax_istore_n (pc := 68) C d_MM_atom2_68 rfl (Nat.le_of_ble_eq_true rfl) ([(3, .int (if ((x2 : Int32) + r1) < 1000 then ((x2 : Int32) + r1) else 1000)), (0, .ref z), (1, .int x0), (2, .int x1), (4, .int x3)]) rfl ?_
    refine ax_aload_n (pc := 69) C d_MM_atom2_69 rfl 1 rfl ?_
    refine mg_123 (pc := 70) C d_MM_atom2_70 ?_
    refine ax_iload (pc := 73) C d_MM_atom2_73 4 rfl ?_
    obtain ⟨hb, h⟩ := it_g h
    refine ml_36 (pc := 75) C d_MM_atom2_75 (bin_in hb) ?_
    refine ax_istore (pc := 76) C d_MM_atom2_76 (Nat.le_of_ble_eq_true rfl) ([(4, .int (σ1.2.1 36 (Int32.toNatClampNeg x3))), (3, .int (if ((x2 : Int32) + r1) < 1000 then ((x2 : Int32) + r1) else 1000)), (0, .ref z), (1, .int x0), (2, .int x1)]) rfl ?_
    refine ax_goto (pc := 78) C 49 d_MM_atom2_78 (by decide) ?_
    refine ax_ls ([(0, .ref z), (1, .int x0), (2, .int x1), (3, .int (if ((x2 : Int32) + r1) < 1000 then ((x2 : Int32) + r1) else 1000)), (4, .int (σ1.2.1 36 (Int32.toNatClampNeg x3)))]) [2, 3, 4, 1, 0] rfl ?_
    have hm : sX_atom2_49 l D kA z v σ1 [x0, x1, (if ((x2 : Int32) + r1) < 1000 then ((x2 : Int32) + r1) else 1000), (σ1.2.1 36 (Int32.toNatClampNeg x3))] (σf, rf, _) := ihx tX_atom2_49 _ _ _ h
    subst ho
    exact hm _ _ _ _ rfl p e s m args below meth c F Lo σ0 hF hLo C hT
set_option maxHeartbeats 4000000 in
set_option maxRecDepth 100000 in
theorem oX_atom2_84 (l : Launch) (D : va_G) (kA : Nat → ClassId) (z : Nat) (v : Nat → Nat) (rec rex : mF) (ih : ∀ t σ xs res, rec t σ xs = some res → mSem l D kA z v t σ xs res) (ihx : ∀ t σ xs res, rex t σ xs = some res → xSem l D kA z v t σ xs res) (σ : mS) (xs : List Int32) (res : mR) (h : u_3 (kX_atom2_84 rec rex σ) xs = some res) : sX_atom2_84 l D kA z v σ xs res := by
  intro x0 x1 x2 hxs
  subst hxs
  obtain ⟨σf, rf, dd⟩ := res
  have h : (if x2 ≤ 100 then (if bin x0 20100 = true then (if (σ.2.1 32 (Int32.toNatClampNeg x0)) < 0 then (if bin x0 20100 = true then (if bin (σ.2.1 31 (Int32.toNatClampNeg x0)) 20100 = true then (if bin x0 20100 = true then (if bin (σ.2.1 31 (Int32.toNatClampNeg x0)) 20100 = true then (bnd (rec tM_built2 σ [(σ.2.1 41 (Int32.toNatClampNeg (σ.2.1 31 (Int32.toNatClampNeg x0)))), (σ.2.1 42 (Int32.toNatClampNeg (σ.2.1 31 (Int32.toNatClampNeg x0))))]) (fun σ1 r1 => rex tX_atom2_161 σ1 [x0, x1, x2, ((24 : Int32) * (σ.1 65)), r1, ((24 : Int32) * (σ.1 65))])) else none) else none) else none) else none) else (if bin x0 20100 = true then (bnd (rec tM_built1 σ [(σ.2.1 31 (Int32.toNatClampNeg x0))]) (fun σ2 r2 => rex tX_atom2_161 σ2 [x0, x1, x2, ((24 : Int32) * (σ.1 65)), r2, ((24 : Int32) * (σ.1 65))])) else none)) else none) else (lt_ (mI σ 3000 2) (fun u => some (u, 0, 0)))) = some (σf, rf, dd) := h
  intro p e s m args below meth c F Lo σ0 hF hLo C hT
  dsimp only at hF hLo hT ⊢
  obtain ⟨o, ho⟩ : ∃ o, o = xo (σf, rf) := ⟨_, rfl⟩
  rw [← ho] at hT ⊢
  refine ax_iload_n (pc := 84) C d_MM_atom2_84 rfl 3 rfl ?_
  refine ax_bipush (pc := 85) C 100 d_MM_atom2_85 (by decide +kernel) ?_
  refine ax_icmp_le (pc := 87) C 98 d_MM_atom2_87 (by decide) (fun hc => ?_) (fun hc => ?_)
  · have h := it_t hc h
    refine ax_bipush (pc := 98) C 24 d_MM_atom2_98 (by decide +kernel) ?_
    refine ax_aload_n (pc := 100) C d_MM_atom2_100 rfl 0 rfl ?_
    refine mg_211 (pc := 101) C d_MM_atom2_101 ?_
    refine ax_imul (pc := 104) C d_MM_atom2_104 ?_
    refine ax_istore (pc := 105) C d_MM_atom2_105 (Nat.le_of_ble_eq_true rfl) ([(4, .int ((24 : Int32) * (σ.1 65))), (0, .ref z), (1, .int x0), (2, .int x1), (3, .int x2)]) rfl ?_
    refine ax_aload_n (pc := 107) C d_MM_atom2_107 rfl 1 rfl ?_
    refine mg_205 (pc := 108) C d_MM_atom2_108 ?_
    refine ax_iload (pc := 111) C d_MM_atom2_111 0 rfl ?_
    refine ax_aload_n (pc := 113) C d_MM_atom2_113 rfl 1 rfl ?_
    refine mg_111 (pc := 114) C d_MM_atom2_114 ?_
    refine ax_iload_n (pc := 117) C d_MM_atom2_117 rfl 2 rfl ?_
    obtain ⟨hb, h⟩ := it_g h
    refine ml_32 (pc := 118) C d_MM_atom2_118 (bin_in hb) ?_
    refine ax_if_lt (pc := 119) C 135 d_MM_atom2_119 (by decide) (fun hc => ?_) (fun hc => ?_)
    · have h := it_t hc h
      refine ax_aload_n (pc := 135) C d_MM_atom2_135 rfl 1 rfl ?_
      refine ax_aload_n (pc := 136) C d_MM_atom2_136 rfl 1 rfl ?_
      refine mg_138 (pc := 137) C d_MM_atom2_137 ?_
      refine ax_aload_n (pc := 140) C d_MM_atom2_140 rfl 1 rfl ?_
      refine mg_108 (pc := 141) C d_MM_atom2_141 ?_
      refine ax_iload_n (pc := 144) C d_MM_atom2_144 rfl 2 rfl ?_
      obtain ⟨hb, h⟩ := it_g h
      refine ml_31 (pc := 145) C d_MM_atom2_145 (bin_in hb) ?_
      obtain ⟨hb, h⟩ := it_g h
      refine ml_41 (pc := 146) C d_MM_atom2_146 (bin_in hb) ?_
      refine ax_aload_n (pc := 147) C d_MM_atom2_147 rfl 1 rfl ?_
      refine mg_141 (pc := 148) C d_MM_atom2_148 ?_
      refine ax_aload_n (pc := 151) C d_MM_atom2_151 rfl 1 rfl ?_
      refine mg_108 (pc := 152) C d_MM_atom2_152 ?_
      refine ax_iload_n (pc := 155) C d_MM_atom2_155 rfl 2 rfl ?_
      obtain ⟨hb, h⟩ := it_g h
      refine ml_31 (pc := 156) C d_MM_atom2_156 (bin_in hb) ?_
      obtain ⟨hb, h⟩ := it_g h
      refine ml_42 (pc := 157) C d_MM_atom2_157 (bin_in hb) ?_
      obtain ⟨σ1, r1, d1_1, d2_1, h1, h, hd2, hd1⟩ := it_b h
      have hm : sM_built2 l D kA z v σ [(σ.2.1 41 (Int32.toNatClampNeg (σ.2.1 31 (Int32.toNatClampNeg x0)))), (σ.2.1 42 (Int32.toNatClampNeg (σ.2.1 31 (Int32.toNatClampNeg x0))))] (σ1, r1, d1_1) := ih tM_built2 _ _ _ h1
      refine mc_Vi (pc := 158) C (As := [.int (σ.2.1 41 (Int32.toNatClampNeg (σ.2.1 31 (Int32.toNatClampNeg x0)))), .int (σ.2.1 42 (Int32.toNatClampNeg (σ.2.1 31 (Int32.toNatClampNeg x0))))]) (rest := [.int ((24 : Int32) * (σ.1 65)), .ref (v 38)]) (hm _ _ rfl) ml_MM_546 d_MM_atom2_158 rfl rfl (by dsimp only; omega) (by dsimp only; omega) (Nat.zero_le _) (Nat.zero_le _) (Nat.le_of_ble_eq_true rfl) ?_
      have hF : d2_1 + 8 ≤ F := by omega
      have hLo : 48 * d2_1 + 400 ≤ Lo := by omega
      refine ax_ls ([(0, .ref z), (1, .int x0), (2, .int x1), (3, .int x2), (4, .int ((24 : Int32) * (σ.1 65)))]) [1, 2, 3, 4, 0] rfl ?_
      have hm : sX_atom2_161 l D kA z v σ1 [x0, x1, x2, ((24 : Int32) * (σ.1 65)), r1, ((24 : Int32) * (σ.1 65))] (σf, rf, _) := ihx tX_atom2_161 _ _ _ h
      subst ho
      exact hm _ _ _ _ _ _ rfl p e s m args below meth c F Lo σ0 hF hLo C hT
    · have h := it_f hc h
      refine ax_aload_n (pc := 122) C d_MM_atom2_122 rfl 1 rfl ?_
      refine ax_aload_n (pc := 123) C d_MM_atom2_123 rfl 1 rfl ?_
      refine mg_108 (pc := 124) C d_MM_atom2_124 ?_
      refine ax_iload_n (pc := 127) C d_MM_atom2_127 rfl 2 rfl ?_
      obtain ⟨hb, h⟩ := it_g h
      refine ml_31 (pc := 128) C d_MM_atom2_128 (bin_in hb) ?_
      obtain ⟨σ2, r2, d1_2, d2_2, h1, h, hd2, hd1⟩ := it_b h
      have hm : sM_built1 l D kA z v σ [(σ.2.1 31 (Int32.toNatClampNeg x0))] (σ2, r2, d1_2) := ih tM_built1 _ _ _ h1
      refine mc_Vi (pc := 129) C (As := [.int (σ.2.1 31 (Int32.toNatClampNeg x0))]) (rest := [.int ((24 : Int32) * (σ.1 65)), .ref (v 38)]) (hm _ rfl) ml_MM_549 d_MM_atom2_129 rfl rfl (by dsimp only; omega) (by dsimp only; omega) (Nat.zero_le _) (Nat.zero_le _) (Nat.le_of_ble_eq_true rfl) ?_
      have hF : d2_2 + 8 ≤ F := by omega
      have hLo : 48 * d2_2 + 400 ≤ Lo := by omega
      refine ax_goto (pc := 132) C 161 d_MM_atom2_132 (by decide) ?_
      refine ax_ls ([(0, .ref z), (1, .int x0), (2, .int x1), (3, .int x2), (4, .int ((24 : Int32) * (σ.1 65)))]) [1, 2, 3, 4, 0] rfl ?_
      have hm : sX_atom2_161 l D kA z v σ2 [x0, x1, x2, ((24 : Int32) * (σ.1 65)), r2, ((24 : Int32) * (σ.1 65))] (σf, rf, _) := ihx tX_atom2_161 _ _ _ h
      subst ho
      exact hm _ _ _ _ _ _ rfl p e s m args below meth c F Lo σ0 hF hLo C hT
  · have h := it_f hc h
    have h := it_l h
    cases h
    obtain rfl : o = xBe := ho.trans (xo_beyond _)
    obtain ⟨hT1, hX⟩ := hT rfl
    refine mx_new6 (pc := 90) C (Nat.le_of_ble_eq_true rfl) (Nat.le_of_ble_eq_true rfl) d_MM_atom2_90 (fun q => ?_)
    refine ax_dup (pc := 93) C d_MM_atom2_93 rfl ?_
    refine mx_initB (pc := 94) C hX d_MM_atom2_94 (Nat.le_of_ble_eq_true rfl) (by dsimp only; omega) (by dsimp only; omega) (Nat.le_of_ble_eq_true rfl) (Nat.le_of_ble_eq_true rfl) ?_
    exact xr_Bv (pc := 97) C (xt_none hT1 _) d_MM_atom2_97 (Nat.le_of_ble_eq_true rfl) (Nat.le_of_ble_eq_true rfl)
set_option maxHeartbeats 4000000 in
set_option maxRecDepth 100000 in
theorem oX_atom2_161 (l : Launch) (D : va_G) (kA : Nat → ClassId) (z : Nat) (v : Nat → Nat) (rec rex : mF) (ih : ∀ t σ xs res, rec t σ xs = some res → mSem l D kA z v t σ xs res) (ihx : ∀ t σ xs res, rex t σ xs = some res → xSem l D kA z v t σ xs res) (σ : mS) (xs : List Int32) (res : mR) (h : u_6 (kX_atom2_161 rec rex σ) xs = some res) : sX_atom2_161 l D kA z v σ xs res := by
  intro x0 x1 x2 x3 x4 x5 hxs
  subst hxs
  obtain ⟨σf, rf, dd⟩ := res
  have h : (if bin x5 28800 = true then (lt_ (mA σ 63 (Int32.toNatClampNeg x5) x4) (fun σ1 => if bin x0 20100 = true then (if (σ1.2.1 32 (Int32.toNatClampNeg x0)) < 0 then (bnd (rec tM_fresh σ1 [0]) (fun σ2 r2 => rex tX_atom2_197 σ2 [x0, x1, x2, x3, r2, ((x3 : Int32) + 1)])) else (if bin x0 20100 = true then (bnd (rec tM_built1 σ1 [(σ1.2.1 32 (Int32.toNatClampNeg x0))]) (fun σ3 r3 => rex tX_atom2_197 σ3 [x0, x1, x2, x3, r3, ((x3 : Int32) + 1)])) else none)) else none)) else none) = some (σf, rf, dd) := h
  intro p e s m args below meth c F Lo σ0 hF hLo C hT
  dsimp only at hF hLo hT ⊢
  obtain ⟨o, ho⟩ : ∃ o, o = xo (σf, rf) := ⟨_, rfl⟩
  rw [← ho] at hT ⊢
  obtain ⟨hb, h⟩ := it_g h
  refine ms_63 (pc := 161) C d_MM_atom2_161 (bin_in hb) ?_
  have h := it_l h
  generalize mA σ 63 (Int32.toNatClampNeg x5) x4 = σ1 at h ⊢
  refine ax_aload_n (pc := 162) C d_MM_atom2_162 rfl 0 rfl ?_
  refine mg_205 (pc := 163) C d_MM_atom2_163 ?_
  refine ax_iload (pc := 166) C d_MM_atom2_166 4 rfl ?_
  refine ax_iconst (pc := 168) C 1 d_MM_atom2_168 (by decide +kernel) ?_
  refine ax_iadd (pc := 169) C d_MM_atom2_169 ?_
  refine ax_aload_n (pc := 170) C d_MM_atom2_170 rfl 0 rfl ?_
  refine mg_111 (pc := 171) C d_MM_atom2_171 ?_
  refine ax_iload_n (pc := 174) C d_MM_atom2_174 rfl 1 rfl ?_
  obtain ⟨hb, h⟩ := it_g h
  refine ml_32 (pc := 175) C d_MM_atom2_175 (bin_in hb) ?_
  refine ax_if_lt (pc := 176) C 192 d_MM_atom2_176 (by decide) (fun hc => ?_) (fun hc => ?_)
  · have h := it_t hc h
    refine ax_aload_n (pc := 192) C d_MM_atom2_192 rfl 0 rfl ?_
    refine ax_iconst (pc := 193) C 0 d_MM_atom2_193 (by decide +kernel) ?_
    obtain ⟨σ2, r2, d1_2, d2_2, h1, h, hd2, hd1⟩ := it_b h
    have hm : sM_fresh l D kA z v σ1 [0] (σ2, r2, d1_2) := ih tM_fresh _ _ _ h1
    refine mc_Vi (pc := 194) C (As := [.int 0]) (rest := [.int ((x3 : Int32) + 1), .ref (v 38)]) (hm _ rfl) ml_MM_516 d_MM_atom2_194 rfl rfl (by dsimp only; omega) (by dsimp only; omega) (Nat.zero_le _) (Nat.zero_le _) (Nat.le_of_ble_eq_true rfl) ?_
    have hF : d2_2 + 8 ≤ F := by omega
    have hLo : 48 * d2_2 + 400 ≤ Lo := by omega
    refine ax_ls ([(0, .ref z), (1, .int x0), (2, .int x1), (3, .int x2), (4, .int x3)]) [0, 1, 2, 3, 4] rfl ?_
    have hm : sX_atom2_197 l D kA z v σ2 [x0, x1, x2, x3, r2, ((x3 : Int32) + 1)] (σf, rf, _) := ihx tX_atom2_197 _ _ _ h
    subst ho
    exact hm _ _ _ _ _ _ rfl p e s m args below meth c F Lo σ0 hF hLo C hT
  · have h := it_f hc h
    refine ax_aload_n (pc := 179) C d_MM_atom2_179 rfl 0 rfl ?_
    refine ax_aload_n (pc := 180) C d_MM_atom2_180 rfl 0 rfl ?_
    refine mg_111 (pc := 181) C d_MM_atom2_181 ?_
    refine ax_iload_n (pc := 184) C d_MM_atom2_184 rfl 1 rfl ?_
    obtain ⟨hb, h⟩ := it_g h
    refine ml_32 (pc := 185) C d_MM_atom2_185 (bin_in hb) ?_
    obtain ⟨σ3, r3, d1_3, d2_3, h1, h, hd2, hd1⟩ := it_b h
    have hm : sM_built1 l D kA z v σ1 [(σ1.2.1 32 (Int32.toNatClampNeg x0))] (σ3, r3, d1_3) := ih tM_built1 _ _ _ h1
    refine mc_Vi (pc := 186) C (As := [.int (σ1.2.1 32 (Int32.toNatClampNeg x0))]) (rest := [.int ((x3 : Int32) + 1), .ref (v 38)]) (hm _ rfl) ml_MM_549 d_MM_atom2_186 rfl rfl (by dsimp only; omega) (by dsimp only; omega) (Nat.zero_le _) (Nat.zero_le _) (Nat.le_of_ble_eq_true rfl) ?_
    have hF : d2_3 + 8 ≤ F := by omega
    have hLo : 48 * d2_3 + 400 ≤ Lo := by omega
    refine ax_goto (pc := 189) C 197 d_MM_atom2_189 (by decide) ?_
    refine ax_ls ([(0, .ref z), (1, .int x0), (2, .int x1), (3, .int x2), (4, .int x3)]) [0, 1, 2, 3, 4] rfl ?_
    have hm : sX_atom2_197 l D kA z v σ3 [x0, x1, x2, x3, r3, ((x3 : Int32) + 1)] (σf, rf, _) := ihx tX_atom2_197 _ _ _ h
    subst ho
    exact hm _ _ _ _ _ _ rfl p e s m args below meth c F Lo σ0 hF hLo C hT
set_option maxHeartbeats 4000000 in
set_option maxRecDepth 100000 in
theorem oX_atom2_197 (l : Launch) (D : va_G) (kA : Nat → ClassId) (z : Nat) (v : Nat → Nat) (rec rex : mF) (ih : ∀ t σ xs res, rec t σ xs = some res → mSem l D kA z v t σ xs res) (ihx : ∀ t σ xs res, rex t σ xs = some res → xSem l D kA z v t σ xs res) (σ : mS) (xs : List Int32) (res : mR) (h : u_6 (kX_atom2_197 rec rex σ) xs = some res) : sX_atom2_197 l D kA z v σ xs res := by
  intro x0 x1 x2 x3 x4 x5 hxs
  subst hxs
  obtain ⟨σf, rf, dd⟩ := res
  have h : (if bin x5 28800 = true then (lt_ (mA σ 63 (Int32.toNatClampNeg x5) x4) (fun σ1 => if x1 = 0 then (rex tX_atom2_215 σ1 [x0, x1, x2, x3, 0, ((x3 : Int32) + 2)]) else (rex tX_atom2_215 σ1 [x0, x1, x2, x3, 1, ((x3 : Int32) + 2)]))) else none) = some (σf, rf, dd) := h
  intro p e s m args below meth c F Lo σ0 hF hLo C hT
  dsimp only at hF hLo hT ⊢
  obtain ⟨o, ho⟩ : ∃ o, o = xo (σf, rf) := ⟨_, rfl⟩
  rw [← ho] at hT ⊢
  obtain ⟨hb, h⟩ := it_g h
  refine ms_63 (pc := 197) C d_MM_atom2_197 (bin_in hb) ?_
  have h := it_l h
  generalize mA σ 63 (Int32.toNatClampNeg x5) x4 = σ1 at h ⊢
  refine ax_aload_n (pc := 198) C d_MM_atom2_198 rfl 0 rfl ?_
  refine mg_205 (pc := 199) C d_MM_atom2_199 ?_
  refine ax_iload (pc := 202) C d_MM_atom2_202 4 rfl ?_
  refine ax_iconst (pc := 204) C 2 d_MM_atom2_204 (by decide +kernel) ?_
  refine ax_iadd (pc := 205) C d_MM_atom2_205 ?_
  refine ax_iload_n (pc := 206) C d_MM_atom2_206 rfl 2 rfl ?_
  refine ax_if_eq (pc := 207) C 214 d_MM_atom2_207 (by decide) (fun hc => ?_) (fun hc => ?_)
  · have h := it_t hc h
    refine ax_iconst (pc := 214) C 0 d_MM_atom2_214 (by decide +kernel) ?_
    refine ax_ls ([(0, .ref z), (1, .int x0), (2, .int x1), (3, .int x2), (4, .int x3)]) [0, 1, 2, 3, 4] rfl ?_
    have hm : sX_atom2_215 l D kA z v σ1 [x0, x1, x2, x3, 0, ((x3 : Int32) + 2)] (σf, rf, _) := ihx tX_atom2_215 _ _ _ h
    subst ho
    exact hm _ _ _ _ _ _ rfl p e s m args below meth c F Lo σ0 hF hLo C hT
  · have h := it_f hc h
    refine ax_iconst (pc := 210) C 1 d_MM_atom2_210 (by decide +kernel) ?_
    refine ax_goto (pc := 211) C 215 d_MM_atom2_211 (by decide) ?_
    refine ax_ls ([(0, .ref z), (1, .int x0), (2, .int x1), (3, .int x2), (4, .int x3)]) [0, 1, 2, 3, 4] rfl ?_
    have hm : sX_atom2_215 l D kA z v σ1 [x0, x1, x2, x3, 1, ((x3 : Int32) + 2)] (σf, rf, _) := ihx tX_atom2_215 _ _ _ h
    subst ho
    exact hm _ _ _ _ _ _ rfl p e s m args below meth c F Lo σ0 hF hLo C hT
set_option maxHeartbeats 4000000 in
set_option maxRecDepth 100000 in
theorem oX_atom2_215 (l : Launch) (D : va_G) (kA : Nat → ClassId) (z : Nat) (v : Nat → Nat) (rec rex : mF) (ih : ∀ t σ xs res, rec t σ xs = some res → mSem l D kA z v t σ xs res) (ihx : ∀ t σ xs res, rex t σ xs = some res → xSem l D kA z v t σ xs res) (σ : mS) (xs : List Int32) (res : mR) (h : u_6 (kX_atom2_215 rec rex σ) xs = some res) : sX_atom2_215 l D kA z v σ xs res := by
  intro x0 x1 x2 x3 x4 x5 hxs
  subst hxs
  obtain ⟨σf, rf, dd⟩ := res
  have h : (if bin x5 28800 = true then (lt_ (mA σ 63 (Int32.toNatClampNeg x5) x4) (fun σ1 => lt_ (mI σ1 65 (((σ1.1 65) : Int32) + 1)) (fun σ2 => if bin (σ1.1 65) 1200 = true then (lt_ (mA σ2 64 (Int32.toNatClampNeg (σ1.1 65)) 3) (fun σ3 => lt_ (mI σ3 3000 0) (fun u => some (u, 0, 0)))) else none))) else none) = some (σf, rf, dd) := h
  intro p e s m args below meth c F Lo σ0 hF hLo C hT
  dsimp only at hF hLo hT ⊢
  obtain ⟨o, ho⟩ : ∃ o, o = xo (σf, rf) := ⟨_, rfl⟩
  rw [← ho] at hT ⊢
  obtain ⟨hb, h⟩ := it_g h
  refine ms_63 (pc := 215) C d_MM_atom2_215 (bin_in hb) ?_
  have h := it_l h
  generalize mA σ 63 (Int32.toNatClampNeg x5) x4 = σ1 at h ⊢
  refine ax_aload_n (pc := 216) C d_MM_atom2_216 rfl 0 rfl ?_
  refine mg_208 (pc := 217) C d_MM_atom2_217 ?_
  refine ax_aload_n (pc := 220) C d_MM_atom2_220 rfl 0 rfl ?_
  refine ax_dup (pc := 221) C d_MM_atom2_221 rfl ?_
  refine mg_211 (pc := 222) C d_MM_atom2_222 ?_
  refine ax_dup_x1 (pc := 225) C d_MM_atom2_225 rfl rfl ?_
  refine ax_iconst (pc := 226) C 1 d_MM_atom2_226 (by decide +kernel) ?_
  refine ax_iadd (pc := 227) C d_MM_atom2_227 ?_
  refine mp_211 (pc := 228) C d_MM_atom2_228 ?_
  have h := it_l h
  generalize mI σ1 65 (((σ1.1 65) : Int32) + 1) = σ2 at h ⊢
  refine ax_iconst (pc := 231) C 3 d_MM_atom2_231 (by decide +kernel) ?_
  obtain ⟨hb, h⟩ := it_g h
  refine ms_64 (pc := 232) C d_MM_atom2_232 (bin_in hb) ?_
  have h := it_l h
  generalize mA σ2 64 (Int32.toNatClampNeg (σ1.1 65)) 3 = σ3 at h ⊢
  have h := it_l h
  cases h
  exact xr_vret (pc := 233) C ho d_MM_atom2_233
set_option maxHeartbeats 4000000 in
set_option maxRecDepth 100000 in
theorem oX_joined2 (l : Launch) (D : va_G) (kA : Nat → ClassId) (z : Nat) (v : Nat → Nat) (rec rex : mF) (ih : ∀ t σ xs res, rec t σ xs = some res → mSem l D kA z v t σ xs res) (ihx : ∀ t σ xs res, rex t σ xs = some res → xSem l D kA z v t σ xs res) (σ : mS) (xs : List Int32) (res : mR) (h : u_5 (kX_joined2 rec rex σ) xs = some res) : sX_joined2 l D kA z v σ xs res := by
  intro x0 x1 x2 x3 x4 hxs
  subst hxs
  obtain ⟨σf, rf, dd⟩ := res
  have h : (bnd (rex tX_clauses σ [x0, x2]) (fun σ1 r1 => if σ1.1 3000 = 0 then (bnd (rex tX_clauses σ1 [x1, x3]) (fun σ2 r2 => if σ2.1 3000 = 0 then (if x4 = 0 then (bnd (rex tX_either σ2 [(σ.1 65), (σ1.1 65)]) (fun σ3 r3 => if σ3.1 3000 = 0 then (rex tX_joined2_38 σ3 [x0, x1, x2, x3, x4, (σ.1 65), (σ1.1 65)]) else (some (σ3, 0, 0)))) else (rex tX_joined2_38 σ2 [x0, x1, x2, x3, x4, (σ.1 65), (σ1.1 65)])) else (some (σ2, 0, 0)))) else (some (σ1, 0, 0)))) = some (σf, rf, dd) := h
  obtain ⟨o, ho⟩ : ∃ o, o = xo (σf, rf) := ⟨_, rfl⟩
  show xMv l D kA y_MM_joined2 b_MM_joined2 8 (dd + 8) (48 * dd + 400) [.ref z, .int x0, .int x1, .int x2, .int x3, .int x4] (mmW kA z v σ) z v σf (xo (σf, rf))
  rw [← ho]
  refine xMv.of (by decide +kernel) (Nat.le_of_ble_eq_true rfl) ?_
  intro p e s m args below meth c C hT
  have C : ax_C p s m args meth c b_MM_joined2 "ClauseProverModel" 8 none D kA (va_A (mmW kA z v σ) s.heap.size) := C
  obtain ⟨F, hFe⟩ : ∃ F, F = dd + 8 := ⟨_, rfl⟩
  obtain ⟨Lo, hLoe⟩ : ∃ Lo, Lo = 48 * dd + 400 := ⟨_, rfl⟩
  obtain ⟨σ0, hσ0⟩ : ∃ s0, s0 = σ := ⟨_, rfl⟩
  suffices K : AW p l e { frames := F, cells := xmc o, slots := xms o, locals := Lo } s m args below meth c D kA (va_A (mmW kA z v σ0) s.heap.size) 8 (xQv below args s D kA (mmW kA z v σ0) z v σf o) 0 [(0, .ref z), (1, .int x0), (2, .int x1), (3, .int x2), (4, .int x3), (5, .int x4)] [] (mmW kA z v σ) 0 0 by rw [hFe, hLoe, hσ0] at K; exact ax_ls ([(0, .ref z), (1, .int x0), (2, .int x1), (3, .int x2), (4, .int x3), (5, .int x4)]) [0, 1, 2, 3, 4, 5] rfl K
  have C : ax_C p s m args meth c b_MM_joined2 "ClauseProverModel" 8 none D kA (va_A (mmW kA z v σ0) s.heap.size) := by rw [hσ0]; exact C
  have hT : XT o l e s m meth c (va_A (mmW kA z v σ0) s.heap.size) := by rw [hσ0]; exact hT
  have hF : dd + 8 ≤ F := by omega
  have hLo : 48 * dd + 400 ≤ Lo := by omega
  clear hFe hLoe hσ0
  refine ax_aload_n (pc := 0) C d_MM_joined2_0 rfl 0 rfl ?_
  refine mg_211 (pc := 1) C d_MM_joined2_1 ?_
  refine ax_istore (pc := 4) C d_MM_joined2_4 (Nat.le_of_ble_eq_true rfl) ([(6, .int (σ.1 65)), (0, .ref z), (1, .int x0), (2, .int x1), (3, .int x2), (4, .int x3), (5, .int x4)]) rfl ?_
  refine ax_aload_n (pc := 6) C d_MM_joined2_6 rfl 1 rfl ?_
  refine ax_iload_n (pc := 7) C d_MM_joined2_7 rfl 2 rfl ?_
  refine ax_iload_n (pc := 8) C d_MM_joined2_8 rfl 4 rfl ?_
  obtain ⟨σ1, r1, d1_1, d2_1, h1, h, hd2, hd1⟩ := it_b h
  have hm : sX_clauses l D kA z v σ [x0, x2] (σ1, r1, d1_1) := ihx tX_clauses _ _ _ h1
  by_cases hq : σ1.1 3000 = 0
  · have h := it_t hq h
    refine mcx_Vv (pc := 9) C (As := [.int x0, .int x2]) (rest := []) (hm _ _ rfl) hq ml_MM_560 d_MM_joined2_9 rfl rfl (by dsimp only; omega) (by dsimp only; omega) (Nat.zero_le _) (Nat.zero_le _) (Nat.le_of_ble_eq_true rfl) ?_
    have hF : d2_1 + 8 ≤ F := by omega
    have hLo : 48 * d2_1 + 400 ≤ Lo := by omega
    refine ax_aload_n (pc := 12) C d_MM_joined2_12 rfl 1 rfl ?_
    refine mg_211 (pc := 13) C d_MM_joined2_13 ?_
    refine ax_istore (pc := 16) C d_MM_joined2_16 (Nat.le_of_ble_eq_true rfl) ([(7, .int (σ1.1 65)), (6, .int (σ.1 65)), (0, .ref z), (1, .int x0), (2, .int x1), (3, .int x2), (4, .int x3), (5, .int x4)]) rfl ?_
    refine ax_aload_n (pc := 18) C d_MM_joined2_18 rfl 2 rfl ?_
    refine ax_iload_n (pc := 19) C d_MM_joined2_19 rfl 4 rfl ?_
    refine ax_iload (pc := 20) C d_MM_joined2_20 6 rfl ?_
    obtain ⟨σ2, r2, d1_2, d2_2, h1, h, hd2, hd1⟩ := it_b h
    have hm : sX_clauses l D kA z v σ1 [x1, x3] (σ2, r2, d1_2) := ihx tX_clauses _ _ _ h1
    by_cases hq : σ2.1 3000 = 0
    · have h := it_t hq h
      refine mcx_Vv (pc := 22) C (As := [.int x1, .int x3]) (rest := []) (hm _ _ rfl) hq ml_MM_560 d_MM_joined2_22 rfl rfl (by dsimp only; omega) (by dsimp only; omega) (Nat.zero_le _) (Nat.zero_le _) (Nat.le_of_ble_eq_true rfl) ?_
      have hF : d2_2 + 8 ≤ F := by omega
      have hLo : 48 * d2_2 + 400 ≤ Lo := by omega
      refine ax_iload (pc := 25) C d_MM_joined2_25 7 rfl ?_
      refine ax_if_ne (pc := 27) C 38 d_MM_joined2_27 (by decide) (fun hc => ?_) (fun hc => ?_)
      · have h := it_f hc h
        refine ax_ls ([(0, .ref z), (1, .int x0), (2, .int x1), (3, .int x2), (4, .int x3), (5, .int x4), (6, .int (σ.1 65)), (7, .int (σ1.1 65))]) [2, 3, 4, 5, 6, 7, 1, 0] rfl ?_
        have hm : sX_joined2_38 l D kA z v σ2 [x0, x1, x2, x3, x4, (σ.1 65), (σ1.1 65)] (σf, rf, _) := ihx tX_joined2_38 _ _ _ h
        subst ho
        exact hm _ _ _ _ _ _ _ rfl p e s m args below meth c F Lo σ0 hF hLo C hT
      · have h := it_t hc h
        refine ax_aload_n (pc := 30) C d_MM_joined2_30 rfl 2 rfl ?_
        refine ax_iload (pc := 31) C d_MM_joined2_31 1 rfl ?_
        refine ax_iload (pc := 33) C d_MM_joined2_33 0 rfl ?_
        obtain ⟨σ3, r3, d1_3, d2_3, h1, h, hd2, hd1⟩ := it_b h
        have hm : sX_either l D kA z v σ2 [(σ.1 65), (σ1.1 65)] (σ3, r3, d1_3) := ihx tX_either _ _ _ h1
        by_cases hq : σ3.1 3000 = 0
        · have h := it_t hq h
          refine mcx_Vv (pc := 35) C (As := [.int (σ.1 65), .int (σ1.1 65)]) (rest := []) (hm _ _ rfl) hq ml_MM_563 d_MM_joined2_35 rfl rfl (by dsimp only; omega) (by dsimp only; omega) (Nat.zero_le _) (Nat.zero_le _) (Nat.le_of_ble_eq_true rfl) ?_
          have hF : d2_3 + 8 ≤ F := by omega
          have hLo : 48 * d2_3 + 400 ≤ Lo := by omega
          refine ax_ls ([(0, .ref z), (1, .int x0), (2, .int x1), (3, .int x2), (4, .int x3), (5, .int x4), (6, .int (σ.1 65)), (7, .int (σ1.1 65))]) [2, 3, 4, 5, 6, 7, 1, 0] rfl ?_
          have hm : sX_joined2_38 l D kA z v σ3 [x0, x1, x2, x3, x4, (σ.1 65), (σ1.1 65)] (σf, rf, _) := ihx tX_joined2_38 _ _ _ h
          subst ho
          exact hm _ _ _ _ _ _ _ rfl p e s m args below meth c F Lo σ0 hF hLo C hT
        · have h := it_f hq h
          cases h
          obtain ⟨hT1, hX⟩ := hT (by rw [ho]; exact xo_thr hq)
          rw [xQv_thr (by rw [ho]; exact xo_thr hq)]
          exact mcx_P (pc := 35) C (As := [.int (σ.1 65), .int (σ1.1 65)]) (rest := []) hX (xt_none hT1 _) ho hq (xMv_thr hq (hm _ _ rfl)) ml_MM_563 d_MM_joined2_35 rfl rfl (by dsimp only; omega) (by dsimp only; omega) (Nat.le_of_ble_eq_true rfl)
    · have h := it_f hq h
      cases h
      obtain ⟨hT1, hX⟩ := hT (by rw [ho]; exact xo_thr hq)
      rw [xQv_thr (by rw [ho]; exact xo_thr hq)]
      exact mcx_P (pc := 22) C (As := [.int x1, .int x3]) (rest := []) hX (xt_none hT1 _) ho hq (xMv_thr hq (hm _ _ rfl)) ml_MM_560 d_MM_joined2_22 rfl rfl (by dsimp only; omega) (by dsimp only; omega) (Nat.le_of_ble_eq_true rfl)
  · have h := it_f hq h
    cases h
    obtain ⟨hT1, hX⟩ := hT (by rw [ho]; exact xo_thr hq)
    rw [xQv_thr (by rw [ho]; exact xo_thr hq)]
    exact mcx_P (pc := 9) C (As := [.int x0, .int x2]) (rest := []) hX (xt_none hT1 _) ho hq (xMv_thr hq (hm _ _ rfl)) ml_MM_560 d_MM_joined2_9 rfl rfl (by dsimp only; omega) (by dsimp only; omega) (Nat.le_of_ble_eq_true rfl)
set_option maxHeartbeats 4000000 in
set_option maxRecDepth 100000 in
theorem oX_joined2_38 (l : Launch) (D : va_G) (kA : Nat → ClassId) (z : Nat) (v : Nat → Nat) (rec rex : mF) (ih : ∀ t σ xs res, rec t σ xs = some res → mSem l D kA z v t σ xs res) (ihx : ∀ t σ xs res, rex t σ xs = some res → xSem l D kA z v t σ xs res) (σ : mS) (xs : List Int32) (res : mR) (h : u_7 (kX_joined2_38 rec rex σ) xs = some res) : sX_joined2_38 l D kA z v σ xs res := by
  intro x0 x1 x2 x3 x4 x5 x6 hxs
  subst hxs
  obtain ⟨σf, rf, dd⟩ := res
  have h : (lt_ (mI σ 3000 0) (fun u => some (u, 0, 0))) = some (σf, rf, dd) := h
  intro p e s m args below meth c F Lo σ0 hF hLo C hT
  dsimp only at hF hLo hT ⊢
  obtain ⟨o, ho⟩ : ∃ o, o = xo (σf, rf) := ⟨_, rfl⟩
  rw [← ho] at hT ⊢
  have h := it_l h
  cases h
  exact xr_vret (pc := 38) C ho d_MM_joined2_38
set_option maxHeartbeats 4000000 in
set_option maxRecDepth 100000 in
theorem oX_either (l : Launch) (D : va_G) (kA : Nat → ClassId) (z : Nat) (v : Nat → Nat) (rec rex : mF) (ih : ∀ t σ xs res, rec t σ xs = some res → mSem l D kA z v t σ xs res) (ihx : ∀ t σ xs res, rex t σ xs = some res → xSem l D kA z v t σ xs res) (σ : mS) (xs : List Int32) (res : mR) (h : u_2 (kX_either rec rex σ) xs = some res) : sX_either l D kA z v σ xs res := by
  intro x0 x1 hxs
  subst hxs
  obtain ⟨σf, rf, dd⟩ := res
  have h : (rex tX_either_8 σ [x0, x1, (σ.1 65), x0]) = some (σf, rf, dd) := h
  obtain ⟨o, ho⟩ : ∃ o, o = xo (σf, rf) := ⟨_, rfl⟩
  show xMv l D kA y_MM_either b_MM_either 6 (dd + 8) (48 * dd + 400) [.ref z, .int x0, .int x1] (mmW kA z v σ) z v σf (xo (σf, rf))
  rw [← ho]
  refine xMv.of (by decide +kernel) (Nat.le_of_ble_eq_true rfl) ?_
  intro p e s m args below meth c C hT
  have C : ax_C p s m args meth c b_MM_either "ClauseProverModel" 6 none D kA (va_A (mmW kA z v σ) s.heap.size) := C
  obtain ⟨F, hFe⟩ : ∃ F, F = dd + 8 := ⟨_, rfl⟩
  obtain ⟨Lo, hLoe⟩ : ∃ Lo, Lo = 48 * dd + 400 := ⟨_, rfl⟩
  obtain ⟨σ0, hσ0⟩ : ∃ s0, s0 = σ := ⟨_, rfl⟩
  suffices K : AW p l e { frames := F, cells := xmc o, slots := xms o, locals := Lo } s m args below meth c D kA (va_A (mmW kA z v σ0) s.heap.size) 6 (xQv below args s D kA (mmW kA z v σ0) z v σf o) 0 [(0, .ref z), (1, .int x0), (2, .int x1)] [] (mmW kA z v σ) 0 0 by rw [hFe, hLoe, hσ0] at K; exact ax_ls ([(0, .ref z), (1, .int x0), (2, .int x1)]) [0, 1, 2] rfl K
  have C : ax_C p s m args meth c b_MM_either "ClauseProverModel" 6 none D kA (va_A (mmW kA z v σ0) s.heap.size) := by rw [hσ0]; exact C
  have hT : XT o l e s m meth c (va_A (mmW kA z v σ0) s.heap.size) := by rw [hσ0]; exact hT
  have hF : dd + 8 ≤ F := by omega
  have hLo : 48 * dd + 400 ≤ Lo := by omega
  clear hFe hLoe hσ0
  refine ax_aload_n (pc := 0) C d_MM_either_0 rfl 0 rfl ?_
  refine mg_211 (pc := 1) C d_MM_either_1 ?_
  refine ax_istore_n (pc := 4) C d_MM_either_4 rfl (Nat.le_of_ble_eq_true rfl) ([(3, .int (σ.1 65)), (0, .ref z), (1, .int x0), (2, .int x1)]) rfl ?_
  refine ax_iload_n (pc := 5) C d_MM_either_5 rfl 2 rfl ?_
  refine ax_istore (pc := 6) C d_MM_either_6 (Nat.le_of_ble_eq_true rfl) ([(4, .int x0), (3, .int (σ.1 65)), (0, .ref z), (1, .int x0), (2, .int x1)]) rfl ?_
  refine ax_ls ([(0, .ref z), (1, .int x0), (2, .int x1), (3, .int (σ.1 65)), (4, .int x0)]) [2, 3, 4, 1, 0] rfl ?_
  have hm : sX_either_8 l D kA z v σ [x0, x1, (σ.1 65), x0] (σf, rf, _) := ihx tX_either_8 _ _ _ h
  subst ho
  exact hm _ _ _ _ rfl p e s m args below meth c F Lo σ0 hF hLo C hT
set_option maxHeartbeats 4000000 in
set_option maxRecDepth 100000 in
theorem oX_either_8 (l : Launch) (D : va_G) (kA : Nat → ClassId) (z : Nat) (v : Nat → Nat) (rec rex : mF) (ih : ∀ t σ xs res, rec t σ xs = some res → mSem l D kA z v t σ xs res) (ihx : ∀ t σ xs res, rex t σ xs = some res → xSem l D kA z v t σ xs res) (σ : mS) (xs : List Int32) (res : mR) (h : u_4 (kX_either_8 rec rex σ) xs = some res) : sX_either_8 l D kA z v σ xs res := by
  intro x0 x1 x2 x3 hxs
  subst hxs
  obtain ⟨σf, rf, dd⟩ := res
  have h : (if x1 ≤ x3 then (rex tX_either_176 σ [x0, x1, x2, (((σ.1 65) : Int32) - x2), 0]) else (rex tX_either_17 σ [x0, x1, x2, x3, x1])) = some (σf, rf, dd) := h
  intro p e s m args below meth c F Lo σ0 hF hLo C hT
  dsimp only at hF hLo hT ⊢
  obtain ⟨o, ho⟩ : ∃ o, o = xo (σf, rf) := ⟨_, rfl⟩
  rw [← ho] at hT ⊢
  refine ax_iload (pc := 8) C d_MM_either_8 4 rfl ?_
  refine ax_iload_n (pc := 10) C d_MM_either_10 rfl 2 rfl ?_
  refine ax_icmp_ge (pc := 11) C 165 d_MM_either_11 (by decide) (fun hc => ?_) (fun hc => ?_)
  · have h := it_t hc h
    refine ax_aload_n (pc := 165) C d_MM_either_165 rfl 0 rfl ?_
    refine mg_211 (pc := 166) C d_MM_either_166 ?_
    refine ax_iload_n (pc := 169) C d_MM_either_169 rfl 3 rfl ?_
    refine ax_isub (pc := 170) C d_MM_either_170 ?_
    refine ax_istore (pc := 171) C d_MM_either_171 (Nat.le_of_ble_eq_true rfl) ([(4, .int (((σ.1 65) : Int32) - x2)), (0, .ref z), (1, .int x0), (2, .int x1), (3, .int x2)]) rfl ?_
    refine ax_iconst (pc := 173) C 0 d_MM_either_173 (by decide +kernel) ?_
    refine ax_istore (pc := 174) C d_MM_either_174 (Nat.le_of_ble_eq_true rfl) ([(5, .int 0), (4, .int (((σ.1 65) : Int32) - x2)), (0, .ref z), (1, .int x0), (2, .int x1), (3, .int x2)]) rfl ?_
    refine ax_ls ([(0, .ref z), (1, .int x0), (2, .int x1), (3, .int x2), (4, .int (((σ.1 65) : Int32) - x2)), (5, .int 0)]) [2, 3, 4, 5, 1, 0] rfl ?_
    have hm : sX_either_176 l D kA z v σ [x0, x1, x2, (((σ.1 65) : Int32) - x2), 0] (σf, rf, _) := ihx tX_either_176 _ _ _ h
    subst ho
    exact hm _ _ _ _ _ rfl p e s m args below meth c F Lo σ0 hF hLo C hT
  · have h := it_f hc h
    refine ax_iload_n (pc := 14) C d_MM_either_14 rfl 2 rfl ?_
    refine ax_istore (pc := 15) C d_MM_either_15 (Nat.le_of_ble_eq_true rfl) ([(5, .int x1), (0, .ref z), (1, .int x0), (2, .int x1), (3, .int x2), (4, .int x3)]) rfl ?_
    refine ax_ls ([(0, .ref z), (1, .int x0), (2, .int x1), (3, .int x2), (4, .int x3), (5, .int x1)]) [1, 2, 3, 4, 5, 0] rfl ?_
    have hm : sX_either_17 l D kA z v σ [x0, x1, x2, x3, x1] (σf, rf, _) := ihx tX_either_17 _ _ _ h
    subst ho
    exact hm _ _ _ _ _ rfl p e s m args below meth c F Lo σ0 hF hLo C hT
set_option maxHeartbeats 4000000 in
set_option maxRecDepth 100000 in
theorem oX_either_17 (l : Launch) (D : va_G) (kA : Nat → ClassId) (z : Nat) (v : Nat → Nat) (rec rex : mF) (ih : ∀ t σ xs res, rec t σ xs = some res → mSem l D kA z v t σ xs res) (ihx : ∀ t σ xs res, rex t σ xs = some res → xSem l D kA z v t σ xs res) (σ : mS) (xs : List Int32) (res : mR) (h : u_5 (kX_either_17 rec rex σ) xs = some res) : sX_either_17 l D kA z v σ xs res := by
  intro x0 x1 x2 x3 x4 hxs
  subst hxs
  obtain ⟨σf, rf, dd⟩ := res
  have h : (if x2 ≤ x4 then (rex tX_either_8 σ [x0, x1, x2, (x3 + 1)]) else (if bin x3 1200 = true then (if bin x4 1200 = true then (if (((σ.2.1 64 (Int32.toNatClampNeg x3)) : Int32) + (σ.2.1 64 (Int32.toNatClampNeg x4))) ≤ 24 then (if bin x3 1200 = true then (if bcp ((24 : Int32) * x3) ((24 : Int32) * (σ.1 65)) (σ.2.1 64 (Int32.toNatClampNeg x3)) 28800 28800 = true then (lt_ (mCp σ 63 63 (Int32.toNatClampNeg ((24 : Int32) * x3)) (Int32.toNatClampNeg ((24 : Int32) * (σ.1 65))) (Int32.toNatClampNeg (σ.2.1 64 (Int32.toNatClampNeg x3)))) (fun σ1 => if bin x3 1200 = true then (if bin x4 1200 = true then (if bcp ((24 : Int32) * x4) ((((24 : Int32) * (σ1.1 65)) : Int32) + (σ1.2.1 64 (Int32.toNatClampNeg x3))) (σ1.2.1 64 (Int32.toNatClampNeg x4)) 28800 28800 = true then (lt_ (mCp σ1 63 63 (Int32.toNatClampNeg ((24 : Int32) * x4)) (Int32.toNatClampNeg ((((24 : Int32) * (σ1.1 65)) : Int32) + (σ1.2.1 64 (Int32.toNatClampNeg x3)))) (Int32.toNatClampNeg (σ1.2.1 64 (Int32.toNatClampNeg x4)))) (fun σ2 => if bin x3 1200 = true then (if bin x4 1200 = true then (if bin (σ2.1 65) 1200 = true then (lt_ (mA σ2 64 (Int32.toNatClampNeg (σ2.1 65)) (((σ2.2.1 64 (Int32.toNatClampNeg x3)) : Int32) + (σ2.2.1 64 (Int32.toNatClampNeg x4)))) (fun σ3 => lt_ (mI σ3 65 (((σ3.1 65) : Int32) + 1)) (fun σ4 => rex tX_either_17 σ4 [x0, x1, x2, x3, (x4 + 1)]))) else none) else none) else none)) else none) else none) else none)) else none) else none) else (lt_ (mI σ 3000 2) (fun u => some (u, 0, 0)))) else none) else none)) = some (σf, rf, dd) := h
  intro p e s m args below meth c F Lo σ0 hF hLo C hT
  dsimp only at hF hLo hT ⊢
  obtain ⟨o, ho⟩ : ∃ o, o = xo (σf, rf) := ⟨_, rfl⟩
  rw [← ho] at hT ⊢
  refine ax_iload (pc := 17) C d_MM_either_17 5 rfl ?_
  refine ax_iload_n (pc := 19) C d_MM_either_19 rfl 3 rfl ?_
  refine ax_icmp_ge (pc := 20) C 159 d_MM_either_20 (by decide) (fun hc => ?_) (fun hc => ?_)
  · have h := it_t hc h
    refine ax_iinc (pc := 159) C (x3 + 1) d_MM_either_159 4 rfl rfl (Nat.le_of_ble_eq_true rfl) ([(4, .int (x3 + 1)), (0, .ref z), (1, .int x0), (2, .int x1), (3, .int x2), (5, .int x4)]) rfl ?_
    refine ax_goto (pc := 162) C 8 d_MM_either_162 (by decide) ?_
    refine ax_ls ([(0, .ref z), (1, .int x0), (2, .int x1), (3, .int x2), (4, .int (x3 + 1))]) [1, 2, 3, 4, 0] rfl ?_
    have hm : sX_either_8 l D kA z v σ [x0, x1, x2, (x3 + 1)] (σf, rf, _) := ihx tX_either_8 _ _ _ h
    subst ho
    exact hm _ _ _ _ rfl p e s m args below meth c F Lo σ0 hF hLo C hT
  · have h := it_f hc h
    refine ax_aload_n (pc := 23) C d_MM_either_23 rfl 0 rfl ?_
    refine mg_208 (pc := 24) C d_MM_either_24 ?_
    refine ax_iload (pc := 27) C d_MM_either_27 4 rfl ?_
    obtain ⟨hb, h⟩ := it_g h
    refine ml_64 (pc := 29) C d_MM_either_29 (bin_in hb) ?_
    refine ax_aload_n (pc := 30) C d_MM_either_30 rfl 0 rfl ?_
    refine mg_208 (pc := 31) C d_MM_either_31 ?_
    refine ax_iload (pc := 34) C d_MM_either_34 5 rfl ?_
    obtain ⟨hb, h⟩ := it_g h
    refine ml_64 (pc := 36) C d_MM_either_36 (bin_in hb) ?_
    refine ax_iadd (pc := 37) C d_MM_either_37 ?_
    refine ax_bipush (pc := 38) C 24 d_MM_either_38 (by decide +kernel) ?_
    refine ax_icmp_le (pc := 40) C 51 d_MM_either_40 (by decide) (fun hc => ?_) (fun hc => ?_)
    · have h := it_t hc h
      refine ax_aload_n (pc := 51) C d_MM_either_51 rfl 0 rfl ?_
      refine mg_205 (pc := 52) C d_MM_either_52 ?_
      refine ax_bipush (pc := 55) C 24 d_MM_either_55 (by decide +kernel) ?_
      refine ax_iload (pc := 57) C d_MM_either_57 4 rfl ?_
      refine ax_imul (pc := 59) C d_MM_either_59 ?_
      refine ax_aload_n (pc := 60) C d_MM_either_60 rfl 0 rfl ?_
      refine mg_205 (pc := 61) C d_MM_either_61 ?_
      refine ax_bipush (pc := 64) C 24 d_MM_either_64 (by decide +kernel) ?_
      refine ax_aload_n (pc := 66) C d_MM_either_66 rfl 0 rfl ?_
      refine mg_211 (pc := 67) C d_MM_either_67 ?_
      refine ax_imul (pc := 70) C d_MM_either_70 ?_
      refine ax_aload_n (pc := 71) C d_MM_either_71 rfl 0 rfl ?_
      refine mg_208 (pc := 72) C d_MM_either_72 ?_
      refine ax_iload (pc := 75) C d_MM_either_75 4 rfl ?_
      obtain ⟨hb, h⟩ := it_g h
      refine ml_64 (pc := 77) C d_MM_either_77 (bin_in hb) ?_
      obtain ⟨hb, h⟩ := it_g h
      refine mcpx_63 (pc := 78) C (rest := []) tb_methodLink_2164 tb_native_616 tb_static_615 tb_initialized_20 d_MM_either_78 hb (by omega) (by omega) (Nat.le_of_ble_eq_true rfl) ?_
      have h := it_l h
      generalize mCp σ 63 63 (Int32.toNatClampNeg ((24 : Int32) * x3)) (Int32.toNatClampNeg ((24 : Int32) * (σ.1 65))) (Int32.toNatClampNeg (σ.2.1 64 (Int32.toNatClampNeg x3))) = σ1 at h ⊢
      refine ax_aload_n (pc := 81) C d_MM_either_81 rfl 0 rfl ?_
      refine mg_205 (pc := 82) C d_MM_either_82 ?_
      refine ax_bipush (pc := 85) C 24 d_MM_either_85 (by decide +kernel) ?_
      refine ax_iload (pc := 87) C d_MM_either_87 5 rfl ?_
      refine ax_imul (pc := 89) C d_MM_either_89 ?_
      refine ax_aload_n (pc := 90) C d_MM_either_90 rfl 0 rfl ?_
      refine mg_205 (pc := 91) C d_MM_either_91 ?_
      refine ax_bipush (pc := 94) C 24 d_MM_either_94 (by decide +kernel) ?_
      refine ax_aload_n (pc := 96) C d_MM_either_96 rfl 0 rfl ?_
      refine mg_211 (pc := 97) C d_MM_either_97 ?_
      refine ax_imul (pc := 100) C d_MM_either_100 ?_
      refine ax_aload_n (pc := 101) C d_MM_either_101 rfl 0 rfl ?_
      refine mg_208 (pc := 102) C d_MM_either_102 ?_
      refine ax_iload (pc := 105) C d_MM_either_105 4 rfl ?_
      obtain ⟨hb, h⟩ := it_g h
      refine ml_64 (pc := 107) C d_MM_either_107 (bin_in hb) ?_
      refine ax_iadd (pc := 108) C d_MM_either_108 ?_
      refine ax_aload_n (pc := 109) C d_MM_either_109 rfl 0 rfl ?_
      refine mg_208 (pc := 110) C d_MM_either_110 ?_
      refine ax_iload (pc := 113) C d_MM_either_113 5 rfl ?_
      obtain ⟨hb, h⟩ := it_g h
      refine ml_64 (pc := 115) C d_MM_either_115 (bin_in hb) ?_
      obtain ⟨hb, h⟩ := it_g h
      refine mcpx_63 (pc := 116) C (rest := []) tb_methodLink_2164 tb_native_616 tb_static_615 tb_initialized_20 d_MM_either_116 hb (by omega) (by omega) (Nat.le_of_ble_eq_true rfl) ?_
      have h := it_l h
      generalize mCp σ1 63 63 (Int32.toNatClampNeg ((24 : Int32) * x4)) (Int32.toNatClampNeg ((((24 : Int32) * (σ1.1 65)) : Int32) + (σ1.2.1 64 (Int32.toNatClampNeg x3)))) (Int32.toNatClampNeg (σ1.2.1 64 (Int32.toNatClampNeg x4))) = σ2 at h ⊢
      refine ax_aload_n (pc := 119) C d_MM_either_119 rfl 0 rfl ?_
      refine mg_208 (pc := 120) C d_MM_either_120 ?_
      refine ax_aload_n (pc := 123) C d_MM_either_123 rfl 0 rfl ?_
      refine mg_211 (pc := 124) C d_MM_either_124 ?_
      refine ax_aload_n (pc := 127) C d_MM_either_127 rfl 0 rfl ?_
      refine mg_208 (pc := 128) C d_MM_either_128 ?_
      refine ax_iload (pc := 131) C d_MM_either_131 4 rfl ?_
      obtain ⟨hb, h⟩ := it_g h
      refine ml_64 (pc := 133) C d_MM_either_133 (bin_in hb) ?_
      refine ax_aload_n (pc := 134) C d_MM_either_134 rfl 0 rfl ?_
      refine mg_208 (pc := 135) C d_MM_either_135 ?_
      refine ax_iload (pc := 138) C d_MM_either_138 5 rfl ?_
      obtain ⟨hb, h⟩ := it_g h
      refine ml_64 (pc := 140) C d_MM_either_140 (bin_in hb) ?_
      refine ax_iadd (pc := 141) C d_MM_either_141 ?_
      obtain ⟨hb, h⟩ := it_g h
      refine ms_64 (pc := 142) C d_MM_either_142 (bin_in hb) ?_
      have h := it_l h
      generalize mA σ2 64 (Int32.toNatClampNeg (σ2.1 65)) (((σ2.2.1 64 (Int32.toNatClampNeg x3)) : Int32) + (σ2.2.1 64 (Int32.toNatClampNeg x4))) = σ3 at h ⊢
      refine ax_aload_n (pc := 143) C d_MM_either_143 rfl 0 rfl ?_
      refine ax_dup (pc := 144) C d_MM_either_144 rfl ?_
      refine mg_211 (pc := 145) C d_MM_either_145 ?_
      refine ax_iconst (pc := 148) C 1 d_MM_either_148 (by decide +kernel) ?_
      refine ax_iadd (pc := 149) C d_MM_either_149 ?_
      refine mp_211 (pc := 150) C d_MM_either_150 ?_
      have h := it_l h
      generalize mI σ3 65 (((σ3.1 65) : Int32) + 1) = σ4 at h ⊢
      refine ax_iinc (pc := 153) C (x4 + 1) d_MM_either_153 5 rfl rfl (Nat.le_of_ble_eq_true rfl) ([(5, .int (x4 + 1)), (0, .ref z), (1, .int x0), (2, .int x1), (3, .int x2), (4, .int x3)]) rfl ?_
      refine ax_goto (pc := 156) C 17 d_MM_either_156 (by decide) ?_
      refine ax_ls ([(0, .ref z), (1, .int x0), (2, .int x1), (3, .int x2), (4, .int x3), (5, .int (x4 + 1))]) [1, 2, 3, 4, 5, 0] rfl ?_
      have hm : sX_either_17 l D kA z v σ4 [x0, x1, x2, x3, (x4 + 1)] (σf, rf, _) := ihx tX_either_17 _ _ _ h
      subst ho
      exact hm _ _ _ _ _ rfl p e s m args below meth c F Lo σ0 hF hLo C hT
    · have h := it_f hc h
      have h := it_l h
      cases h
      obtain rfl : o = xBe := ho.trans (xo_beyond _)
      obtain ⟨hT1, hX⟩ := hT rfl
      refine mx_new6 (pc := 43) C (Nat.le_of_ble_eq_true rfl) (Nat.le_of_ble_eq_true rfl) d_MM_either_43 (fun q => ?_)
      refine ax_dup (pc := 46) C d_MM_either_46 rfl ?_
      refine mx_initB (pc := 47) C hX d_MM_either_47 (Nat.le_of_ble_eq_true rfl) (by dsimp only; omega) (by dsimp only; omega) (Nat.le_of_ble_eq_true rfl) (Nat.le_of_ble_eq_true rfl) ?_
      exact xr_Bv (pc := 50) C (xt_none hT1 _) d_MM_either_50 (Nat.le_of_ble_eq_true rfl) (Nat.le_of_ble_eq_true rfl)
set_option maxHeartbeats 4000000 in
set_option maxRecDepth 100000 in
theorem oX_either_176 (l : Launch) (D : va_G) (kA : Nat → ClassId) (z : Nat) (v : Nat → Nat) (rec rex : mF) (ih : ∀ t σ xs res, rec t σ xs = some res → mSem l D kA z v t σ xs res) (ihx : ∀ t σ xs res, rex t σ xs = some res → xSem l D kA z v t σ xs res) (σ : mS) (xs : List Int32) (res : mR) (h : u_5 (kX_either_176 rec rex σ) xs = some res) : sX_either_176 l D kA z v σ xs res := by
  intro x0 x1 x2 x3 x4 hxs
  subst hxs
  obtain ⟨σf, rf, dd⟩ := res
  have h : (if x3 ≤ x4 then (lt_ (mI σ 65 ((x0 : Int32) + x3)) (fun σ1 => lt_ (mI σ1 3000 0) (fun u => some (u, 0, 0)))) else (if bin ((x2 : Int32) + x4) 1200 = true then (if bcp ((24 : Int32) * ((x2 : Int32) + x4)) ((24 : Int32) * ((x0 : Int32) + x4)) (σ.2.1 64 (Int32.toNatClampNeg ((x2 : Int32) + x4))) 28800 28800 = true then (lt_ (mCp σ 63 63 (Int32.toNatClampNeg ((24 : Int32) * ((x2 : Int32) + x4))) (Int32.toNatClampNeg ((24 : Int32) * ((x0 : Int32) + x4))) (Int32.toNatClampNeg (σ.2.1 64 (Int32.toNatClampNeg ((x2 : Int32) + x4))))) (fun σ2 => if bin ((x2 : Int32) + x4) 1200 = true then (if bin ((x0 : Int32) + x4) 1200 = true then (lt_ (mA σ2 64 (Int32.toNatClampNeg ((x0 : Int32) + x4)) (σ2.2.1 64 (Int32.toNatClampNeg ((x2 : Int32) + x4)))) (fun σ3 => rex tX_either_176 σ3 [x0, x1, x2, x3, (x4 + 1)])) else none) else none)) else none) else none)) = some (σf, rf, dd) := h
  intro p e s m args below meth c F Lo σ0 hF hLo C hT
  dsimp only at hF hLo hT ⊢
  obtain ⟨o, ho⟩ : ∃ o, o = xo (σf, rf) := ⟨_, rfl⟩
  rw [← ho] at hT ⊢
  refine ax_iload (pc := 176) C d_MM_either_176 5 rfl ?_
  refine ax_iload (pc := 178) C d_MM_either_178 4 rfl ?_
  refine ax_icmp_ge (pc := 180) C 241 d_MM_either_180 (by decide) (fun hc => ?_) (fun hc => ?_)
  · have h := it_t hc h
    refine ax_aload_n (pc := 241) C d_MM_either_241 rfl 0 rfl ?_
    refine ax_iload_n (pc := 242) C d_MM_either_242 rfl 1 rfl ?_
    refine ax_iload (pc := 243) C d_MM_either_243 4 rfl ?_
    refine ax_iadd (pc := 245) C d_MM_either_245 ?_
    refine mp_211 (pc := 246) C d_MM_either_246 ?_
    have h := it_l h
    generalize mI σ 65 ((x0 : Int32) + x3) = σ1 at h ⊢
    have h := it_l h
    cases h
    exact xr_vret (pc := 249) C ho d_MM_either_249
  · have h := it_f hc h
    refine ax_aload_n (pc := 183) C d_MM_either_183 rfl 0 rfl ?_
    refine mg_205 (pc := 184) C d_MM_either_184 ?_
    refine ax_bipush (pc := 187) C 24 d_MM_either_187 (by decide +kernel) ?_
    refine ax_iload_n (pc := 189) C d_MM_either_189 rfl 3 rfl ?_
    refine ax_iload (pc := 190) C d_MM_either_190 5 rfl ?_
    refine ax_iadd (pc := 192) C d_MM_either_192 ?_
    refine ax_imul (pc := 193) C d_MM_either_193 ?_
    refine ax_aload_n (pc := 194) C d_MM_either_194 rfl 0 rfl ?_
    refine mg_205 (pc := 195) C d_MM_either_195 ?_
    refine ax_bipush (pc := 198) C 24 d_MM_either_198 (by decide +kernel) ?_
    refine ax_iload_n (pc := 200) C d_MM_either_200 rfl 1 rfl ?_
    refine ax_iload (pc := 201) C d_MM_either_201 5 rfl ?_
    refine ax_iadd (pc := 203) C d_MM_either_203 ?_
    refine ax_imul (pc := 204) C d_MM_either_204 ?_
    refine ax_aload_n (pc := 205) C d_MM_either_205 rfl 0 rfl ?_
    refine mg_208 (pc := 206) C d_MM_either_206 ?_
    refine ax_iload_n (pc := 209) C d_MM_either_209 rfl 3 rfl ?_
    refine ax_iload (pc := 210) C d_MM_either_210 5 rfl ?_
    refine ax_iadd (pc := 212) C d_MM_either_212 ?_
    obtain ⟨hb, h⟩ := it_g h
    refine ml_64 (pc := 213) C d_MM_either_213 (bin_in hb) ?_
    obtain ⟨hb, h⟩ := it_g h
    refine mcpx_63 (pc := 214) C (rest := []) tb_methodLink_2164 tb_native_616 tb_static_615 tb_initialized_20 d_MM_either_214 hb (by omega) (by omega) (Nat.le_of_ble_eq_true rfl) ?_
    have h := it_l h
    generalize mCp σ 63 63 (Int32.toNatClampNeg ((24 : Int32) * ((x2 : Int32) + x4))) (Int32.toNatClampNeg ((24 : Int32) * ((x0 : Int32) + x4))) (Int32.toNatClampNeg (σ.2.1 64 (Int32.toNatClampNeg ((x2 : Int32) + x4)))) = σ2 at h ⊢
    refine ax_aload_n (pc := 217) C d_MM_either_217 rfl 0 rfl ?_
    refine mg_208 (pc := 218) C d_MM_either_218 ?_
    refine ax_iload_n (pc := 221) C d_MM_either_221 rfl 1 rfl ?_
    refine ax_iload (pc := 222) C d_MM_either_222 5 rfl ?_
    refine ax_iadd (pc := 224) C d_MM_either_224 ?_
    refine ax_aload_n (pc := 225) C d_MM_either_225 rfl 0 rfl ?_
    refine mg_208 (pc := 226) C d_MM_either_226 ?_
    refine ax_iload_n (pc := 229) C d_MM_either_229 rfl 3 rfl ?_
    refine ax_iload (pc := 230) C d_MM_either_230 5 rfl ?_
    refine ax_iadd (pc := 232) C d_MM_either_232 ?_
    obtain ⟨hb, h⟩ := it_g h
    refine ml_64 (pc := 233) C d_MM_either_233 (bin_in hb) ?_
    obtain ⟨hb, h⟩ := it_g h
    refine ms_64 (pc := 234) C d_MM_either_234 (bin_in hb) ?_
    have h := it_l h
    generalize mA σ2 64 (Int32.toNatClampNeg ((x0 : Int32) + x4)) (σ2.2.1 64 (Int32.toNatClampNeg ((x2 : Int32) + x4))) = σ3 at h ⊢
    refine ax_iinc (pc := 235) C (x4 + 1) d_MM_either_235 5 rfl rfl (Nat.le_of_ble_eq_true rfl) ([(5, .int (x4 + 1)), (0, .ref z), (1, .int x0), (2, .int x1), (3, .int x2), (4, .int x3)]) rfl ?_
    refine ax_goto (pc := 238) C 176 d_MM_either_238 (by decide) ?_
    refine ax_ls ([(0, .ref z), (1, .int x0), (2, .int x1), (3, .int x2), (4, .int x3), (5, .int (x4 + 1))]) [1, 2, 3, 4, 5, 0] rfl ?_
    have hm : sX_either_176 l D kA z v σ3 [x0, x1, x2, x3, (x4 + 1)] (σf, rf, _) := ihx tX_either_176 _ _ _ h
    subst ho
    exact hm _ _ _ _ _ rfl p e s m args below meth c F Lo σ0 hF hLo C hT
set_option maxHeartbeats 4000000 in
set_option maxRecDepth 100000 in
theorem oX_read (l : Launch) (D : va_G) (kA : Nat → ClassId) (z : Nat) (v : Nat → Nat) (rec rex : mF) (ih : ∀ t σ xs res, rec t σ xs = some res → mSem l D kA z v t σ xs res) (ihx : ∀ t σ xs res, rex t σ xs = some res → xSem l D kA z v t σ xs res) (σ : mS) (xs : List Int32) (res : mR) (h : u_0 (kX_read rec rex σ) xs = some res) : sX_read l D kA z v σ xs res := by
  intro hxs
  subst hxs
  obtain ⟨σf, rf, dd⟩ := res
  have h : (lt_ (mI σ 4 0) (fun σ1 => lt_ (mI σ1 18 0) (fun σ2 => lt_ (mI σ2 20 0) (fun σ3 => lt_ (mI σ3 19 1) (fun σ4 => lt_ (mI σ4 25 0) (fun σ5 => lt_ (mI σ5 37 0) (fun σ6 => lt_ (mI σ6 38 0) (fun σ7 => lt_ (mI σ7 40 0) (fun σ8 => lt_ (mI σ8 55 0) (fun σ9 => lt_ (mI σ9 56 0) (fun σ10 => lt_ (mI σ10 84 0) (fun σ11 => lt_ (mI σ11 72 0) (fun σ12 => lt_ (mI σ12 85 0) (fun σ13 => rex tX_read_65 σ13 [])))))))))))))) = some (σf, rf, dd) := h
  refine ax_Mw.of (by decide +kernel) (Nat.le_of_ble_eq_true rfl) ?_
  intro p e s m args below meth c C hadm hmeth hcode htb hX
  have C : ax_C p s m args meth c b_MM_read "ClauseProverModel" 2 (some .int) D kA (va_A (mmW kA z v σ) s.heap.size) := C
  obtain ⟨F, hFe⟩ : ∃ F, F = dd + 8 := ⟨_, rfl⟩
  obtain ⟨Lo, hLoe⟩ : ∃ Lo, Lo = 48 * dd + 400 := ⟨_, rfl⟩
  obtain ⟨σ0, hσ0⟩ : ∃ s0, s0 = σ := ⟨_, rfl⟩
  suffices K : AW p l e { frames := F, cells := 2, slots := 14, locals := Lo } s m args below meth c D kA (va_A (mmW kA z v σ0) s.heap.size) 2 (ax_Qi below args s D kA (mmW kA z v σ0) 2 14 (fun r w1 => r = rf ∧ w1 = mmW kA z v σf)) 0 [(0, .ref z)] [] (mmW kA z v σ) 0 0 by rw [hFe, hLoe, hσ0] at K; exact ax_ls ([(0, .ref z)]) [0] rfl K
  have C : ax_C p s m args meth c b_MM_read "ClauseProverModel" 2 (some .int) D kA (va_A (mmW kA z v σ0) s.heap.size) := by rw [hσ0]; exact C
  have hX : ax_X (va_A (mmW kA z v σ0) s.heap.size) s s.heap := by rw [hσ0]; exact hX
  have hF : dd + 8 ≤ F := by omega
  have hLo : 48 * dd + 400 ≤ Lo := by omega
  clear hFe hLoe hσ0
  refine ax_aload_n (pc := 0) C d_MM_read_0 rfl 0 rfl ?_
  refine ax_iconst (pc := 1) C 0 d_MM_read_1 (by decide +kernel) ?_
  refine mp_24 (pc := 2) C d_MM_read_2 ?_
  have h := it_l h
  generalize mI σ 4 0 = σ1 at h ⊢
  refine ax_aload_n (pc := 5) C d_MM_read_5 rfl 0 rfl ?_
  refine ax_iconst (pc := 6) C 0 d_MM_read_6 (by decide +kernel) ?_
  refine mp_68 (pc := 7) C d_MM_read_7 ?_
  have h := it_l h
  generalize mI σ1 18 0 = σ2 at h ⊢
  refine ax_aload_n (pc := 10) C d_MM_read_10 rfl 0 rfl ?_
  refine ax_iconst (pc := 11) C 0 d_MM_read_11 (by decide +kernel) ?_
  refine mp_74 (pc := 12) C d_MM_read_12 ?_
  have h := it_l h
  generalize mI σ2 20 0 = σ3 at h ⊢
  refine ax_aload_n (pc := 15) C d_MM_read_15 rfl 0 rfl ?_
  refine ax_iconst (pc := 16) C 1 d_MM_read_16 (by decide +kernel) ?_
  refine mp_71 (pc := 17) C d_MM_read_17 ?_
  have h := it_l h
  generalize mI σ3 19 1 = σ4 at h ⊢
  refine ax_aload_n (pc := 20) C d_MM_read_20 rfl 0 rfl ?_
  refine ax_iconst (pc := 21) C 0 d_MM_read_21 (by decide +kernel) ?_
  refine mp_90 (pc := 22) C d_MM_read_22 ?_
  have h := it_l h
  generalize mI σ4 25 0 = σ5 at h ⊢
  refine ax_aload_n (pc := 25) C d_MM_read_25 rfl 0 rfl ?_
  refine ax_iconst (pc := 26) C 0 d_MM_read_26 (by decide +kernel) ?_
  refine mp_126 (pc := 27) C d_MM_read_27 ?_
  have h := it_l h
  generalize mI σ5 37 0 = σ6 at h ⊢
  refine ax_aload_n (pc := 30) C d_MM_read_30 rfl 0 rfl ?_
  refine ax_iconst (pc := 31) C 0 d_MM_read_31 (by decide +kernel) ?_
  refine mp_129 (pc := 32) C d_MM_read_32 ?_
  have h := it_l h
  generalize mI σ6 38 0 = σ7 at h ⊢
  refine ax_aload_n (pc := 35) C d_MM_read_35 rfl 0 rfl ?_
  refine ax_iconst (pc := 36) C 0 d_MM_read_36 (by decide +kernel) ?_
  refine mp_135 (pc := 37) C d_MM_read_37 ?_
  have h := it_l h
  generalize mI σ7 40 0 = σ8 at h ⊢
  refine ax_aload_n (pc := 40) C d_MM_read_40 rfl 0 rfl ?_
  refine ax_iconst (pc := 41) C 0 d_MM_read_41 (by decide +kernel) ?_
  refine mp_181 (pc := 42) C d_MM_read_42 ?_
  have h := it_l h
  generalize mI σ8 55 0 = σ9 at h ⊢
  refine ax_aload_n (pc := 45) C d_MM_read_45 rfl 0 rfl ?_
  refine ax_iconst (pc := 46) C 0 d_MM_read_46 (by decide +kernel) ?_
  refine mp_184 (pc := 47) C d_MM_read_47 ?_
  have h := it_l h
  generalize mI σ9 56 0 = σ10 at h ⊢
  refine ax_aload_n (pc := 50) C d_MM_read_50 rfl 0 rfl ?_
  refine ax_iconst (pc := 51) C 0 d_MM_read_51 (by decide +kernel) ?_
  refine mp_269 (pc := 52) C d_MM_read_52 ?_
  have h := it_l h
  generalize mI σ10 84 0 = σ11 at h ⊢
  refine ax_aload_n (pc := 55) C d_MM_read_55 rfl 0 rfl ?_
  refine ax_iconst (pc := 56) C 0 d_MM_read_56 (by decide +kernel) ?_
  refine mp_232 (pc := 57) C d_MM_read_57 ?_
  have h := it_l h
  generalize mI σ11 72 0 = σ12 at h ⊢
  refine ax_aload_n (pc := 60) C d_MM_read_60 rfl 0 rfl ?_
  refine ax_iconst (pc := 61) C 0 d_MM_read_61 (by decide +kernel) ?_
  refine mp_272 (pc := 62) C d_MM_read_62 ?_
  have h := it_l h
  generalize mI σ12 85 0 = σ13 at h ⊢
  refine ax_ls ([(0, .ref z)]) [0] rfl ?_
  have hm : sX_read_65 l D kA z v σ13 [] (σf, rf, _) := ihx tX_read_65 _ _ _ h
  exact hm rfl p e s m args below meth c F Lo σ0 hF hLo C hadm hmeth hcode htb hX
set_option maxHeartbeats 4000000 in
set_option maxRecDepth 100000 in
theorem oX_read_65 (l : Launch) (D : va_G) (kA : Nat → ClassId) (z : Nat) (v : Nat → Nat) (rec rex : mF) (ih : ∀ t σ xs res, rec t σ xs = some res → mSem l D kA z v t σ xs res) (ihx : ∀ t σ xs res, rex t σ xs = some res → xSem l D kA z v t σ xs res) (σ : mS) (xs : List Int32) (res : mR) (h : u_0 (kX_read_65 rec rex σ) xs = some res) : sX_read_65 l D kA z v σ xs res := by
  intro hxs
  subst hxs
  obtain ⟨σf, rf, dd⟩ := res
  have h : (lt_ (mI σ 86 0) (fun σ1 => lt_ (mI σ1 87 0) (fun σ2 => lt_ (mI σ2 88 (-1)) (fun σ3 => lt_ (mI σ3 89 0) (fun σ4 => lt_ (mI σ4 90 0) (fun σ5 => lt_ (mI σ5 91 0) (fun σ6 => lt_ (mI σ6 92 0) (fun σ7 => lt_ (mI σ7 93 0) (fun σ8 => lt_ (mI σ8 94 0) (fun σ9 => lt_ (mI σ9 105 0) (fun σ10 => lt_ (mI σ10 5 0) (fun σ11 => lt_ (mI σ11 6 0) (fun σ12 => if bin 0 900 = true then (lt_ (mA σ12 49 (Int32.toNatClampNeg 0) (vp_nar .boolean 1)) (fun σ13 => if bin 0 900 = true then (lt_ (mA σ13 48 (Int32.toNatClampNeg 0) 0) (fun σ14 => rex tX_read_139 σ14 [])) else none)) else none))))))))))))) = some (σf, rf, dd) := h
  intro p e s m args below meth c F Lo σ0 hF hLo C hadm hmeth hcode htb hX
  dsimp only at hF hLo ⊢
  refine ax_aload_n (pc := 65) C d_MM_read_65 rfl 0 rfl ?_
  refine ax_iconst (pc := 66) C 0 d_MM_read_66 (by decide +kernel) ?_
  refine mp_275 (pc := 67) C d_MM_read_67 ?_
  have h := it_l h
  generalize mI σ 86 0 = σ1 at h ⊢
  refine ax_aload_n (pc := 70) C d_MM_read_70 rfl 0 rfl ?_
  refine ax_iconst (pc := 71) C 0 d_MM_read_71 (by decide +kernel) ?_
  refine mp_278 (pc := 72) C d_MM_read_72 ?_
  have h := it_l h
  generalize mI σ1 87 0 = σ2 at h ⊢
  refine ax_aload_n (pc := 75) C d_MM_read_75 rfl 0 rfl ?_
  refine ax_iconst (pc := 76) C (-1) d_MM_read_76 (by decide +kernel) ?_
  refine mp_281 (pc := 77) C d_MM_read_77 ?_
  have h := it_l h
  generalize mI σ2 88 (-1) = σ3 at h ⊢
  refine ax_aload_n (pc := 80) C d_MM_read_80 rfl 0 rfl ?_
  refine ax_iconst (pc := 81) C 0 d_MM_read_81 (by decide +kernel) ?_
  refine mp_284 (pc := 82) C d_MM_read_82 ?_
  have h := it_l h
  generalize mI σ3 89 0 = σ4 at h ⊢
  refine ax_aload_n (pc := 85) C d_MM_read_85 rfl 0 rfl ?_
  refine ax_iconst (pc := 86) C 0 d_MM_read_86 (by decide +kernel) ?_
  refine mp_287 (pc := 87) C d_MM_read_87 ?_
  have h := it_l h
  generalize mI σ4 90 0 = σ5 at h ⊢
  refine ax_aload_n (pc := 90) C d_MM_read_90 rfl 0 rfl ?_
  refine ax_iconst (pc := 91) C 0 d_MM_read_91 (by decide +kernel) ?_
  refine mp_290 (pc := 92) C d_MM_read_92 ?_
  have h := it_l h
  generalize mI σ5 91 0 = σ6 at h ⊢
  refine ax_aload_n (pc := 95) C d_MM_read_95 rfl 0 rfl ?_
  refine ax_iconst (pc := 96) C 0 d_MM_read_96 (by decide +kernel) ?_
  refine mp_293 (pc := 97) C d_MM_read_97 ?_
  have h := it_l h
  generalize mI σ6 92 0 = σ7 at h ⊢
  refine ax_aload_n (pc := 100) C d_MM_read_100 rfl 0 rfl ?_
  refine ax_iconst (pc := 101) C 0 d_MM_read_101 (by decide +kernel) ?_
  refine mp_296 (pc := 102) C d_MM_read_102 ?_
  have h := it_l h
  generalize mI σ7 93 0 = σ8 at h ⊢
  refine ax_aload_n (pc := 105) C d_MM_read_105 rfl 0 rfl ?_
  refine ax_iconst (pc := 106) C 0 d_MM_read_106 (by decide +kernel) ?_
  refine mp_299 (pc := 107) C d_MM_read_107 ?_
  have h := it_l h
  generalize mI σ8 94 0 = σ9 at h ⊢
  refine ax_aload_n (pc := 110) C d_MM_read_110 rfl 0 rfl ?_
  refine ax_iconst (pc := 111) C 0 d_MM_read_111 (by decide +kernel) ?_
  refine mp_332 (pc := 112) C d_MM_read_112 ?_
  have h := it_l h
  generalize mI σ9 105 0 = σ10 at h ⊢
  refine ax_aload_n (pc := 115) C d_MM_read_115 rfl 0 rfl ?_
  refine ax_iconst (pc := 116) C 0 d_MM_read_116 (by decide +kernel) ?_
  refine mp_27 (pc := 117) C d_MM_read_117 ?_
  have h := it_l h
  generalize mI σ10 5 0 = σ11 at h ⊢
  refine ax_aload_n (pc := 120) C d_MM_read_120 rfl 0 rfl ?_
  refine ax_iconst (pc := 121) C 0 d_MM_read_121 (by decide +kernel) ?_
  refine mp_30 (pc := 122) C d_MM_read_122 ?_
  have h := it_l h
  generalize mI σ11 6 0 = σ12 at h ⊢
  refine ax_aload_n (pc := 125) C d_MM_read_125 rfl 0 rfl ?_
  refine mg_163 (pc := 126) C d_MM_read_126 ?_
  refine ax_iconst (pc := 129) C 0 d_MM_read_129 (by decide +kernel) ?_
  refine ax_iconst (pc := 130) C 1 d_MM_read_130 (by decide +kernel) ?_
  obtain ⟨hb, h⟩ := it_g h
  refine ms_49 (pc := 131) C d_MM_read_131 (bin_in hb) ?_
  have h := it_l h
  generalize mA σ12 49 (Int32.toNatClampNeg 0) (vp_nar .boolean 1) = σ13 at h ⊢
  refine ax_aload_n (pc := 132) C d_MM_read_132 rfl 0 rfl ?_
  refine mg_160 (pc := 133) C d_MM_read_133 ?_
  refine ax_iconst (pc := 136) C 0 d_MM_read_136 (by decide +kernel) ?_
  refine ax_iconst (pc := 137) C 0 d_MM_read_137 (by decide +kernel) ?_
  obtain ⟨hb, h⟩ := it_g h
  refine ms_48 (pc := 138) C d_MM_read_138 (bin_in hb) ?_
  have h := it_l h
  generalize mA σ13 48 (Int32.toNatClampNeg 0) 0 = σ14 at h ⊢
  refine ax_ls ([(0, .ref z)]) [0] rfl ?_
  have hm : sX_read_139 l D kA z v σ14 [] (σf, rf, _) := ihx tX_read_139 _ _ _ h
  exact hm rfl p e s m args below meth c F Lo σ0 hF hLo C hadm hmeth hcode htb hX
set_option maxHeartbeats 4000000 in
set_option maxRecDepth 100000 in
theorem oX_read_139 (l : Launch) (D : va_G) (kA : Nat → ClassId) (z : Nat) (v : Nat → Nat) (rec rex : mF) (ih : ∀ t σ xs res, rec t σ xs = some res → mSem l D kA z v t σ xs res) (ihx : ∀ t σ xs res, rex t σ xs = some res → xSem l D kA z v t σ xs res) (σ : mS) (xs : List Int32) (res : mR) (h : u_0 (kX_read_139 rec rex σ) xs = some res) : sX_read_139 l D kA z v σ xs res := by
  intro hxs
  subst hxs
  obtain ⟨σf, rf, dd⟩ := res
  have h : (bnd (rex tX_parse σ []) (fun σ1 r1 => if σ1.1 3000 = 0 then (bnd (rex tX_clausify σ1 []) (fun σ2 r2 => if σ2.1 3000 = 0 then (rex tX_read_187 σ2 []) else (if σ2.1 3000 = 1 then (lt_ (mI σ2 5 (σ2.1 3003)) (fun σ3 => lt_ (mI σ3 6 (σ2.1 3004)) (fun σ4 => lt_ (mI σ4 84 0) (fun σ5 => lt_ (mI σ5 72 0) (fun σ6 => lt_ (mI σ6 19 1) (fun σ7 => lt_ (mI σ7 20 0) (fun σ8 => rex tX_read_187 σ8 []))))))) else none))) else (if σ1.1 3000 = 1 then (lt_ (mI σ1 5 (σ1.1 3003)) (fun σ9 => lt_ (mI σ9 6 (σ1.1 3004)) (fun σ10 => lt_ (mI σ10 84 0) (fun σ11 => lt_ (mI σ11 72 0) (fun σ12 => lt_ (mI σ12 19 1) (fun σ13 => lt_ (mI σ13 20 0) (fun σ14 => rex tX_read_187 σ14 []))))))) else none))) = some (σf, rf, dd) := h
  intro p e s m args below meth c F Lo σ0 hF hLo C hadm hmeth hcode htb hX
  dsimp only at hF hLo ⊢
  refine ax_aload_n (pc := 139) C d_MM_read_139 rfl 0 rfl ?_
  obtain ⟨σ1, r1, d1_1, d2_1, h1, h, hd2, hd1⟩ := it_b h
  have hm : sX_parse l D kA z v σ [] (σ1, r1, d1_1) := ihx tX_parse _ _ _ h1
  by_cases hq : σ1.1 3000 = 0
  · have h := it_t hq h
    refine mcx_Vv (pc := 140) C (As := []) (rest := []) (hm rfl) hq ml_MM_741 d_MM_read_140 rfl rfl (by dsimp only; omega) (by dsimp only; omega) (Nat.le_of_ble_eq_true rfl) (Nat.le_of_ble_eq_true rfl) (Nat.le_of_ble_eq_true rfl) ?_
    have hF : d2_1 + 8 ≤ F := by omega
    have hLo : 48 * d2_1 + 400 ≤ Lo := by omega
    refine ax_aload_n (pc := 143) C d_MM_read_143 rfl 0 rfl ?_
    obtain ⟨σ2, r2, d1_2, d2_2, h1, h, hd2, hd1⟩ := it_b h
    have hm : sX_clausify l D kA z v σ1 [] (σ2, r2, d1_2) := ihx tX_clausify _ _ _ h1
    by_cases hq : σ2.1 3000 = 0
    · have h := it_t hq h
      refine mcx_Vv (pc := 144) C (As := []) (rest := []) (hm rfl) hq ml_MM_744 d_MM_read_144 rfl rfl (by dsimp only; omega) (by dsimp only; omega) (Nat.le_of_ble_eq_true rfl) (Nat.le_of_ble_eq_true rfl) (Nat.le_of_ble_eq_true rfl) ?_
      have hF : d2_2 + 8 ≤ F := by omega
      have hLo : 48 * d2_2 + 400 ≤ Lo := by omega
      refine ax_goto (pc := 147) C 187 d_MM_read_147 (by decide) ?_
      refine ax_ls ([(0, .ref z)]) [0] rfl ?_
      have hm : sX_read_187 l D kA z v σ2 [] (σf, rf, _) := ihx tX_read_187 _ _ _ h
      refine ax_widen (k := 2) (n := 14) (Nat.le_of_ble_eq_true rfl) (Nat.le_of_ble_eq_true rfl) ?_
      exact hm rfl p e s m args below meth c F Lo σ0 hF hLo C hadm hmeth hcode htb hX
    · have h := it_f hq h
      obtain ⟨hq2, h⟩ := it_g h
      refine mcx_Wy (pc := 144) C (As := []) (rest := []) hX (xMv_one hq2 (hm rfl)) ml_MM_744 d_MM_read_144 rfl rfl (by dsimp only; omega) (by dsimp only; omega) (Nat.le_of_ble_eq_true rfl) (Nat.le_of_ble_eq_true rfl) (Nat.le_of_ble_eq_true rfl) (cx_F1 hadm hmeth hcode C.2.2.2.1 (htb.trans rfl) (by decide) (by decide) (C.2.2.2.2.1 _ tb_classLink_1924)) (fun x => ?_)
      have hF : d2_2 + 8 ≤ F := by omega
      have hLo : 48 * d2_2 + 400 ≤ Lo := by omega
      refine ax_astore_n (pc := 150) C d_MM_read_150 rfl (Nat.le_of_ble_eq_true rfl) ([(1, .ref x), (0, .ref z)]) rfl ?_
      refine ax_aload_n (pc := 151) C d_MM_read_151 rfl 1 rfl ?_
      refine ax_aload_n (pc := 152) C d_MM_read_152 rfl 0 rfl ?_
      refine mgW_747 (pc := 153) C d_MM_read_153 ?_
      refine mpx_27 (pc := 156) C d_MM_read_156 ?_
      have h := it_l h
      generalize mI σ2 5 (σ2.1 3003) = σ3 at h ⊢
      refine ax_aload_n (pc := 159) C d_MM_read_159 rfl 1 rfl ?_
      refine ax_aload_n (pc := 160) C d_MM_read_160 rfl 0 rfl ?_
      refine mgW_749 (pc := 161) C d_MM_read_161 ?_
      refine mpx_30 (pc := 164) C d_MM_read_164 ?_
      have h := it_l h
      generalize mI σ3 6 (σ2.1 3004) = σ4 at h ⊢
      refine ax_sub (List.range 86) (mmW kA z v σ4) (by decide +kernel) (mm_app _) ?_
      refine ax_aload_n (pc := 167) C d_MM_read_167 rfl 1 rfl ?_
      refine ax_iconst (pc := 168) C 0 d_MM_read_168 (by decide +kernel) ?_
      refine mp_269 (pc := 169) C d_MM_read_169 ?_
      have h := it_l h
      generalize mI σ4 84 0 = σ5 at h ⊢
      refine ax_aload_n (pc := 172) C d_MM_read_172 rfl 1 rfl ?_
      refine ax_iconst (pc := 173) C 0 d_MM_read_173 (by decide +kernel) ?_
      refine mp_232 (pc := 174) C d_MM_read_174 ?_
      have h := it_l h
      generalize mI σ5 72 0 = σ6 at h ⊢
      refine ax_aload_n (pc := 177) C d_MM_read_177 rfl 1 rfl ?_
      refine ax_iconst (pc := 178) C 1 d_MM_read_178 (by decide +kernel) ?_
      refine mp_71 (pc := 179) C d_MM_read_179 ?_
      have h := it_l h
      generalize mI σ6 19 1 = σ7 at h ⊢
      refine ax_aload_n (pc := 182) C d_MM_read_182 rfl 1 rfl ?_
      refine ax_iconst (pc := 183) C 0 d_MM_read_183 (by decide +kernel) ?_
      refine mp_74 (pc := 184) C d_MM_read_184 ?_
      have h := it_l h
      generalize mI σ7 20 0 = σ8 at h ⊢
      refine ax_ls ([(0, .ref z)]) [1] rfl ?_
      have hm : sX_read_187 l D kA z v σ8 [] (σf, rf, _) := ihx tX_read_187 _ _ _ h
      refine ax_widen (k := 2) (n := 14) (Nat.le_of_ble_eq_true rfl) (Nat.le_of_ble_eq_true rfl) ?_
      exact hm rfl p e s m args below meth c F Lo σ0 hF hLo C hadm hmeth hcode htb hX
  · have h := it_f hq h
    obtain ⟨hq2, h⟩ := it_g h
    refine mcx_Wy (pc := 140) C (As := []) (rest := []) hX (xMv_one hq2 (hm rfl)) ml_MM_741 d_MM_read_140 rfl rfl (by dsimp only; omega) (by dsimp only; omega) (Nat.le_of_ble_eq_true rfl) (Nat.le_of_ble_eq_true rfl) (Nat.le_of_ble_eq_true rfl) (cx_F1 hadm hmeth hcode C.2.2.2.1 (htb.trans rfl) (by decide) (by decide) (C.2.2.2.2.1 _ tb_classLink_1924)) (fun x => ?_)
    have hF : d2_1 + 8 ≤ F := by omega
    have hLo : 48 * d2_1 + 400 ≤ Lo := by omega
    refine ax_astore_n (pc := 150) C d_MM_read_150 rfl (Nat.le_of_ble_eq_true rfl) ([(1, .ref x), (0, .ref z)]) rfl ?_
    refine ax_aload_n (pc := 151) C d_MM_read_151 rfl 1 rfl ?_
    refine ax_aload_n (pc := 152) C d_MM_read_152 rfl 0 rfl ?_
    refine mgW_747 (pc := 153) C d_MM_read_153 ?_
    refine mpx_27 (pc := 156) C d_MM_read_156 ?_
    have h := it_l h
    generalize mI σ1 5 (σ1.1 3003) = σ9 at h ⊢
    refine ax_aload_n (pc := 159) C d_MM_read_159 rfl 1 rfl ?_
    refine ax_aload_n (pc := 160) C d_MM_read_160 rfl 0 rfl ?_
    refine mgW_749 (pc := 161) C d_MM_read_161 ?_
    refine mpx_30 (pc := 164) C d_MM_read_164 ?_
    have h := it_l h
    generalize mI σ9 6 (σ1.1 3004) = σ10 at h ⊢
    refine ax_sub (List.range 86) (mmW kA z v σ10) (by decide +kernel) (mm_app _) ?_
    refine ax_aload_n (pc := 167) C d_MM_read_167 rfl 1 rfl ?_
    refine ax_iconst (pc := 168) C 0 d_MM_read_168 (by decide +kernel) ?_
    refine mp_269 (pc := 169) C d_MM_read_169 ?_
    have h := it_l h
    generalize mI σ10 84 0 = σ11 at h ⊢
    refine ax_aload_n (pc := 172) C d_MM_read_172 rfl 1 rfl ?_
    refine ax_iconst (pc := 173) C 0 d_MM_read_173 (by decide +kernel) ?_
    refine mp_232 (pc := 174) C d_MM_read_174 ?_
    have h := it_l h
    generalize mI σ11 72 0 = σ12 at h ⊢
    refine ax_aload_n (pc := 177) C d_MM_read_177 rfl 1 rfl ?_
    refine ax_iconst (pc := 178) C 1 d_MM_read_178 (by decide +kernel) ?_
    refine mp_71 (pc := 179) C d_MM_read_179 ?_
    have h := it_l h
    generalize mI σ12 19 1 = σ13 at h ⊢
    refine ax_aload_n (pc := 182) C d_MM_read_182 rfl 1 rfl ?_
    refine ax_iconst (pc := 183) C 0 d_MM_read_183 (by decide +kernel) ?_
    refine mp_74 (pc := 184) C d_MM_read_184 ?_
    have h := it_l h
    generalize mI σ13 20 0 = σ14 at h ⊢
    refine ax_ls ([(0, .ref z)]) [1] rfl ?_
    have hm : sX_read_187 l D kA z v σ14 [] (σf, rf, _) := ihx tX_read_187 _ _ _ h
    refine ax_widen (k := 2) (n := 14) (Nat.le_of_ble_eq_true rfl) (Nat.le_of_ble_eq_true rfl) ?_
    exact hm rfl p e s m args below meth c F Lo σ0 hF hLo C hadm hmeth hcode htb hX
set_option maxHeartbeats 4000000 in
set_option maxRecDepth 100000 in
theorem oX_read_187 (l : Launch) (D : va_G) (kA : Nat → ClassId) (z : Nat) (v : Nat → Nat) (rec rex : mF) (ih : ∀ t σ xs res, rec t σ xs = some res → mSem l D kA z v t σ xs res) (ihx : ∀ t σ xs res, rex t σ xs = some res → xSem l D kA z v t σ xs res) (σ : mS) (xs : List Int32) (res : mR) (h : u_0 (kX_read_187 rec rex σ) xs = some res) : sX_read_187 l D kA z v σ xs res := by
  intro hxs
  subst hxs
  obtain ⟨σf, rf, dd⟩ := res
  have h : (lt_ (mI σ 2 0) (fun σ1 => lt_ (mI σ1 85 (σ1.1 84)) (fun σ2 => if (σ2.1 5) ≤ 0 then (lt_ (mI σ2 3000 0) (fun u => some (u, (σ2.1 84), 0))) else (lt_ (mI σ2 3000 0) (fun u => some (u, (-1), 0)))))) = some (σf, rf, dd) := h
  intro p e s m args below meth c F Lo σ0 hF hLo C hadm hmeth hcode htb hX
  dsimp only at hF hLo ⊢
  refine ax_aload_n (pc := 187) C d_MM_read_187 rfl 0 rfl ?_
  refine ax_iconst (pc := 188) C 0 d_MM_read_188 (by decide +kernel) ?_
  refine mp_17 (pc := 189) C d_MM_read_189 ?_
  have h := it_l h
  generalize mI σ 2 0 = σ1 at h ⊢
  refine ax_aload_n (pc := 192) C d_MM_read_192 rfl 0 rfl ?_
  refine ax_aload_n (pc := 193) C d_MM_read_193 rfl 0 rfl ?_
  refine mg_269 (pc := 194) C d_MM_read_194 ?_
  refine mp_272 (pc := 197) C d_MM_read_197 ?_
  have h := it_l h
  generalize mI σ1 85 (σ1.1 84) = σ2 at h ⊢
  refine ax_aload_n (pc := 200) C d_MM_read_200 rfl 0 rfl ?_
  refine mg_27 (pc := 201) C d_MM_read_201 ?_
  refine ax_if_le (pc := 204) C 211 d_MM_read_204 (by decide) (fun hc => ?_) (fun hc => ?_)
  · have h := it_t hc h
    refine ax_aload_n (pc := 211) C d_MM_read_211 rfl 0 rfl ?_
    refine mg_269 (pc := 212) C d_MM_read_212 ?_
    have h := it_l h
    cases h
    exact ax_iret (pc := 215) C d_MM_read_215 ⟨rfl, rfl⟩ (Nat.le_of_ble_eq_true rfl) (Nat.le_of_ble_eq_true rfl)
  · have h := it_f hc h
    refine ax_iconst (pc := 207) C (-1) d_MM_read_207 (by decide +kernel) ?_
    refine ax_goto (pc := 208) C 215 d_MM_read_208 (by decide) ?_
    have h := it_l h
    cases h
    exact ax_iret (pc := 215) C d_MM_read_215 ⟨rfl, rfl⟩ (Nat.le_of_ble_eq_true rfl) (Nat.le_of_ble_eq_true rfl)
