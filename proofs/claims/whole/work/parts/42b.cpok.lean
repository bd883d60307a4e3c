set_option maxHeartbeats 4000000 in
set_option maxRecDepth 100000 in
theorem oC_Mat_matches_40_p99 (l : Launch) (D : va_G) (kA : Nat → ClassId) (u w : Nat → Nat) (tx : Value) (rec : mF) (ih : ∀ t σ xs res, rec t σ xs = some res → cSem l D kA u w tx t σ xs res) (σ : mS) (xs : List Int32) (res : mR) (h : u_6 (kC_Mat_matches_40_p99 rec σ) xs = some res) : sC_Mat_matches_40_p99 l D kA u w tx σ xs res := by
  intro x0 x1 x2 x3 x4 x5 hxs
  subst hxs
  obtain ⟨σf, rf, dd⟩ := res
  have h : (if bin x5 6 = true then (lt_ (mA σ 67 (Int32.toNatClampNeg x5) x3) (fun σ1 => lt_ (mI σ1 6603 (((σ1.1 6603) : Int32) ||| ((1 : Int32) <<< (x5 &&& 31)))) (fun σ2 => rec tC_Mat_matches_40_p147 σ2 [x0, x1, x2, x3, x4, x5]))) else none) = some (σf, rf, dd) := h
  intro p e s m args below meth c F Lo σ0 hF hLo C
  dsimp only at hF hLo ⊢
  refine ax_aload_n (pc := 99) C d_Mat_matches_99 rfl 0 rfl ?_
  refine cg_66_2_Mat_9 (pc := 100) C d_Mat_matches_100 ?_
  refine ax_iload (pc := 103) C d_Mat_matches_103 8 rfl ?_
  refine ax_iload (pc := 105) C d_Mat_matches_105 6 rfl ?_
  obtain ⟨hb, h⟩ := it_g h
  refine cs_67 (pc := 107) C d_Mat_matches_107 (bin_in hb) ?_
  have h := it_l h
  generalize mA σ 67 (Int32.toNatClampNeg x5) x3 = σ1 at h ⊢
  refine ax_aload_n (pc := 108) C d_Mat_matches_108 rfl 0 rfl ?_
  refine ax_dup (pc := 109) C d_Mat_matches_109 rfl ?_
  refine cg_66_3_Mat_37 (pc := 110) C d_Mat_matches_110 ?_
  refine ax_iconst (pc := 113) C 1 d_Mat_matches_113 (by decide +kernel) ?_
  refine ax_iload (pc := 114) C d_Mat_matches_114 8 rfl ?_
  refine ax_ishl (pc := 116) C d_Mat_matches_116 ?_
  refine ax_ior (pc := 117) C d_Mat_matches_117 ?_
  refine cq_66_3_Mat_37 (pc := 118) C d_Mat_matches_118 ?_
  have h := it_l h
  generalize mI σ1 6603 (((σ1.1 6603) : Int32) ||| ((1 : Int32) <<< (x5 &&& 31))) = σ2 at h ⊢
  refine ax_goto (pc := 121) C 147 d_Mat_matches_121 (by decide) ?_
  refine ax_ls ([(0, .ref (u 66)), (1, .int x0), (2, .int x1), (3, .ref (u 40)), (4, .int x2), (5, .ref (w 48)), (6, .int x3), (7, .int x4), (8, .int x5)]) [0, 1, 2, 3, 4, 5, 6, 7, 8] rfl ?_
  have hm : sC_Mat_matches_40_p147 l D kA u w tx σ2 [x0, x1, x2, x3, x4, x5] (σf, rf, _) := ih tC_Mat_matches_40_p147 _ _ _ h
  exact hm _ _ _ _ _ _ rfl p e s m args below meth c F Lo σ0 hF hLo C
set_option maxHeartbeats 4000000 in
set_option maxRecDepth 100000 in
theorem oC_Mat_matches_40_p147 (l : Launch) (D : va_G) (kA : Nat → ClassId) (u w : Nat → Nat) (tx : Value) (rec : mF) (ih : ∀ t σ xs res, rec t σ xs = some res → cSem l D kA u w tx t σ xs res) (σ : mS) (xs : List Int32) (res : mR) (h : u_6 (kC_Mat_matches_40_p147 rec σ) xs = some res) : sC_Mat_matches_40_p147 l D kA u w tx σ xs res := by
  intro x0 x1 x2 x3 x4 x5 hxs
  subst hxs
  obtain ⟨σf, rf, dd⟩ := res
  have h : (bnd (rec tC_Sym_after_40 σ [x3]) (fun σ1 r1 => rec tC_Mat_matches_40_p159 σ1 [x0, x1, x2, r1, x4])) = some (σf, rf, dd) := h
  intro p e s m args below meth c F Lo σ0 hF hLo C
  dsimp only at hF hLo ⊢
  refine ax_aload_n (pc := 147) C d_Mat_matches_147 rfl 0 rfl ?_
  refine cg_66_0_Mat_18 (pc := 148) C d_Mat_matches_148 ?_
  refine ax_aload_n (pc := 151) C d_Mat_matches_151 rfl 3 rfl ?_
  refine ax_iload (pc := 152) C d_Mat_matches_152 6 rfl ?_
  obtain ⟨σ1, r1, d1_1, d2_1, h1, h, hd2, hd1⟩ := it_b h
  have hm : sC_Sym_after_40 l D kA u w tx σ [x3] (σ1, r1, d1_1) := ih tC_Sym_after_40 _ _ _ h1
  refine cc_Vi (pc := 154) C (r0 := r1) (σ2 := σ1) (As := [.ref (u 40), .int x3]) (rest := []) (hm _ rfl) ml_Mat_51 6 rfl rfl rfl d_Mat_matches_154 rfl rfl (by dsimp only; omega) (by dsimp only; omega) (Nat.le_of_ble_eq_true rfl) (Nat.le_of_ble_eq_true rfl) (Nat.le_of_ble_eq_true rfl) ?_
  have hF : d2_1 + 1 ≤ F := by omega
  have hLo : 48 * d2_1 + 48 ≤ Lo := by omega
  refine ax_istore (pc := 157) C d_Mat_matches_157 (Nat.le_of_ble_eq_true rfl) ([(6, .int r1), (0, .ref (u 66)), (1, .int x0), (2, .int x1), (3, .ref (u 40)), (4, .int x2), (5, .ref (w 48)), (7, .int x4), (8, .int x5)]) rfl ?_
  refine ax_ls ([(0, .ref (u 66)), (1, .int x0), (2, .int x1), (3, .ref (u 40)), (4, .int x2), (5, .ref (w 48)), (6, .int r1), (7, .int x4)]) [1, 2, 3, 4, 5, 6, 0, 7] rfl ?_
  have hm : sC_Mat_matches_40_p159 l D kA u w tx σ1 [x0, x1, x2, r1, x4] (σf, rf, _) := ih tC_Mat_matches_40_p159 _ _ _ h
  exact hm _ _ _ _ _ rfl p e s m args below meth c F Lo σ0 hF hLo C
set_option maxHeartbeats 4000000 in
set_option maxRecDepth 100000 in
theorem oC_Mat_matches_40_p159 (l : Launch) (D : va_G) (kA : Nat → ClassId) (u w : Nat → Nat) (tx : Value) (rec : mF) (ih : ∀ t σ xs res, rec t σ xs = some res → cSem l D kA u w tx t σ xs res) (σ : mS) (xs : List Int32) (res : mR) (h : u_5 (kC_Mat_matches_40_p159 rec σ) xs = some res) : sC_Mat_matches_40_p159 l D kA u w tx σ xs res := by
  intro x0 x1 x2 x3 x4 hxs
  subst hxs
  obtain ⟨σf, rf, dd⟩ := res
  have h : (rec tC_Mat_matches_40_p19 σ [x0, x1, x2, x3, (x4 + 1)]) = some (σf, rf, dd) := h
  intro p e s m args below meth c F Lo σ0 hF hLo C
  dsimp only at hF hLo ⊢
  refine ax_iinc (pc := 159) C (x4 + 1) d_Mat_matches_159 7 rfl rfl (Nat.le_of_ble_eq_true rfl) ([(7, .int (x4 + 1)), (0, .ref (u 66)), (1, .int x0), (2, .int x1), (3, .ref (u 40)), (4, .int x2), (5, .ref (w 48)), (6, .int x3)]) rfl ?_
  refine ax_goto (pc := 162) C 19 d_Mat_matches_162 (by decide) ?_
  refine ax_ls ([(0, .ref (u 66)), (1, .int x0), (2, .int x1), (3, .ref (u 40)), (4, .int x2), (5, .ref (w 48)), (6, .int x3), (7, .int (x4 + 1))]) [1, 2, 3, 4, 5, 6, 7, 0] rfl ?_
  have hm : sC_Mat_matches_40_p19 l D kA u w tx σ [x0, x1, x2, x3, (x4 + 1)] (σf, rf, _) := ih tC_Mat_matches_40_p19 _ _ _ h
  exact hm _ _ _ _ _ rfl p e s m args below meth c F Lo σ0 hF hLo C
set_option maxHeartbeats 4000000 in
set_option maxRecDepth 100000 in
theorem oC_Mat_matches_48 (l : Launch) (D : va_G) (kA : Nat → ClassId) (u w : Nat → Nat) (tx : Value) (rec : mF) (ih : ∀ t σ xs res, rec t σ xs = some res → cSem l D kA u w tx t σ xs res) (σ : mS) (xs : List Int32) (res : mR) (h : u_3 (kC_Mat_matches_48 rec σ) xs = some res) : sC_Mat_matches_48 l D kA u w tx σ xs res := by
  intro x0 x1 x2 hxs
  subst hxs
  obtain ⟨σf, rf, dd⟩ := res
  have h : (rec tC_Mat_matches_48_p19 σ [x0, x1, x2, x2, x0]) = some (σf, rf, dd) := h
  refine ax_Mi.of (by decide +kernel) (Nat.le_of_ble_eq_true rfl) ?_
  intro p e s m args below meth c C hnm
  have C : ax_C p s m args meth c b_Mat_matches "ClauseProver$Matcher" 9 (some .boolean) D kA (va_A (cpW kA u w tx σ) s.heap.size) := C
  obtain ⟨F, hFe⟩ : ∃ F, F = dd + 1 := ⟨_, rfl⟩
  obtain ⟨Lo, hLoe⟩ : ∃ Lo, Lo = 48 * dd + 48 := ⟨_, rfl⟩
  obtain ⟨σ0, hσ0⟩ : ∃ s0, s0 = σ := ⟨_, rfl⟩
  suffices K : AW p l e { frames := F, cells := 0, slots := 0, locals := Lo } s m args below meth c D kA (va_A (cpW kA u w tx σ0) s.heap.size) 9 (ax_Qi below args s D kA (cpW kA u w tx σ0) 0 0 (fun r w1 => r = rf ∧ w1 = cpW kA u w tx σf)) 0 [(0, .ref (u 66)), (1, .int x0), (2, .int x1), (3, .ref (w 48)), (4, .int x2)] [] (cpW kA u w tx σ) 0 0 by rw [hFe, hLoe, hσ0] at K; exact ax_ls ([(0, .ref (u 66)), (1, .int x0), (2, .int x1), (3, .ref (w 48)), (4, .int x2)]) [0, 1, 2, 3, 4] rfl K
  have C : ax_C p s m args meth c b_Mat_matches "ClauseProver$Matcher" 9 (some .boolean) D kA (va_A (cpW kA u w tx σ0) s.heap.size) := by rw [hσ0]; exact C
  have hF : dd + 1 ≤ F := by omega
  have hLo : 48 * dd + 48 ≤ Lo := by omega
  clear hFe hLoe hσ0
  refine ax_aload_n (pc := 0) C d_Mat_matches_0 rfl 0 rfl ?_
  refine cg_66_1_Mat_22 (pc := 1) C d_Mat_matches_1 ?_
  refine cg_54_0_Mat_26 (pc := 4) C d_Mat_matches_4 ?_
  refine cg_47_0_Mat_32 (pc := 7) C d_Mat_matches_7 ?_
  refine ax_astore (pc := 10) C d_Mat_matches_10 (Nat.le_of_ble_eq_true rfl) ([(5, .ref (w 48)), (0, .ref (u 66)), (1, .int x0), (2, .int x1), (3, .ref (w 48)), (4, .int x2)]) rfl ?_
  refine ax_iload (pc := 12) C d_Mat_matches_12 5 rfl ?_
  refine ax_istore (pc := 14) C d_Mat_matches_14 (Nat.le_of_ble_eq_true rfl) ([(6, .int x2), (5, .ref (w 48)), (0, .ref (u 66)), (1, .int x0), (2, .int x1), (3, .ref (w 48)), (4, .int x2)]) rfl ?_
  refine ax_iload_n (pc := 16) C d_Mat_matches_16 rfl 3 rfl ?_
  refine ax_istore (pc := 17) C d_Mat_matches_17 (Nat.le_of_ble_eq_true rfl) ([(7, .int x0), (6, .int x2), (5, .ref (w 48)), (0, .ref (u 66)), (1, .int x0), (2, .int x1), (3, .ref (w 48)), (4, .int x2)]) rfl ?_
  refine ax_ls ([(0, .ref (u 66)), (1, .int x0), (2, .int x1), (3, .ref (w 48)), (4, .int x2), (5, .ref (w 48)), (6, .int x2), (7, .int x0)]) [3, 4, 5, 6, 7, 2, 1, 0] rfl ?_
  have hm : sC_Mat_matches_48_p19 l D kA u w tx σ [x0, x1, x2, x2, x0] (σf, rf, _) := ih tC_Mat_matches_48_p19 _ _ _ h
  exact hm _ _ _ _ _ rfl p e s m args below meth c F Lo σ0 hF hLo C
set_option maxHeartbeats 4000000 in
set_option maxRecDepth 100000 in
theorem oC_Mat_matches_48_p19 (l : Launch) (D : va_G) (kA : Nat → ClassId) (u w : Nat → Nat) (tx : Value) (rec : mF) (ih : ∀ t σ xs res, rec t σ xs = some res → cSem l D kA u w tx t σ xs res) (σ : mS) (xs : List Int32) (res : mR) (h : u_5 (kC_Mat_matches_48_p19 rec σ) xs = some res) : sC_Mat_matches_48_p19 l D kA u w tx σ xs res := by
  intro x0 x1 x2 x3 x4 hxs
  subst hxs
  obtain ⟨σf, rf, dd⟩ := res
  have h : (if ((x0 : Int32) + x1) ≤ x4 then (some (σ, 1, 0)) else (if bin x4 (σ.2.2 48) = true then (if (σ.2.1 48 (Int32.toNatClampNeg x4)) < 0 then (if bin x4 (σ.2.2 48) = true then (if (((((σ.1 6603) : Int32) >>> ((((σ.2.1 48 (Int32.toNatClampNeg x4)) : Int32) ^^^ (-1)) &&& 31)) : Int32) &&& 1) = 0 then (if bin x3 (σ.2.2 48) = true then (if (σ.2.1 48 (Int32.toNatClampNeg x3)) < 0 then (rec tC_Mat_matches_48_p99 σ [x0, x1, x2, x3, x4, (((σ.2.1 48 (Int32.toNatClampNeg x4)) : Int32) ^^^ (-1))]) else (if bin x3 (σ.2.2 48) = true then (bnd (rec tC_Sym_isPredicate σ [(σ.2.1 48 (Int32.toNatClampNeg x3))]) (fun σ2 r2 => if r2 = 0 then (rec tC_Mat_matches_48_p99 σ2 [x0, x1, x2, x3, x4, (((σ.2.1 48 (Int32.toNatClampNeg x4)) : Int32) ^^^ (-1))]) else (some (σ2, 0, 0)))) else none)) else none) else (if bin (((σ.2.1 48 (Int32.toNatClampNeg x4)) : Int32) ^^^ (-1)) 6 = true then (bnd (rec tC_Sym_same_48_48 σ [(σ.2.1 67 (Int32.toNatClampNeg (((σ.2.1 48 (Int32.toNatClampNeg x4)) : Int32) ^^^ (-1)))), x3]) (fun σ1 r1 => if r1 = 0 then (some (σ1, 0, 0)) else (rec tC_Mat_matches_48_p147 σ1 [x0, x1, x2, x3, x4, (((σ.2.1 48 (Int32.toNatClampNeg x4)) : Int32) ^^^ (-1))]))) else none)) else none) else (if bin x4 (σ.2.2 48) = true then (if bin x3 (σ.2.2 48) = true then (if (σ.2.1 48 (Int32.toNatClampNeg x4)) = (σ.2.1 48 (Int32.toNatClampNeg x3)) then (rec tC_Mat_matches_48_p159 σ [x0, x1, x2, (x3 + 1), x4]) else (some (σ, 0, 0))) else none) else none)) else none)) = some (σf, rf, dd) := h
  intro p e s m args below meth c F Lo σ0 hF hLo C
  dsimp only at hF hLo ⊢
  refine ax_iload (pc := 19) C d_Mat_matches_19 7 rfl ?_
  refine ax_iload_n (pc := 21) C d_Mat_matches_21 rfl 1 rfl ?_
  refine ax_iload_n (pc := 22) C d_Mat_matches_22 rfl 2 rfl ?_
  refine ax_iadd (pc := 23) C d_Mat_matches_23 ?_
  refine ax_icmp_ge (pc := 24) C 165 d_Mat_matches_24 (by decide) (fun hc => ?_) (fun hc => ?_)
  · have h := it_t hc h
    refine ax_iconst (pc := 165) C 1 d_Mat_matches_165 (by decide +kernel) ?_
    cases h
    exact ax_zret (pc := 166) C d_Mat_matches_166 rfl ⟨rfl, rfl⟩ (Nat.le_refl _) (Nat.le_refl _)
  · have h := it_f hc h
    refine ax_aload (pc := 27) C d_Mat_matches_27 5 rfl ?_
    refine ax_iload (pc := 29) C d_Mat_matches_29 7 rfl ?_
    obtain ⟨hb, h⟩ := it_g h
    refine cl_48 (pc := 31) C d_Mat_matches_31 (bin_in hb) ?_
    refine ax_if_lt (pc := 32) C 55 d_Mat_matches_32 (by decide) (fun hc => ?_) (fun hc => ?_)
    · have h := it_t hc h
      refine ax_aload (pc := 55) C d_Mat_matches_55 5 rfl ?_
      refine ax_iload (pc := 57) C d_Mat_matches_57 7 rfl ?_
      obtain ⟨hb, h⟩ := it_g h
      refine cl_48 (pc := 59) C d_Mat_matches_59 (bin_in hb) ?_
      refine ax_iconst (pc := 60) C (-1) d_Mat_matches_60 (by decide +kernel) ?_
      refine ax_ixor (pc := 61) C d_Mat_matches_61 ?_
      refine ax_istore (pc := 62) C d_Mat_matches_62 (Nat.le_of_ble_eq_true rfl) ([(8, .int (((σ.2.1 48 (Int32.toNatClampNeg x4)) : Int32) ^^^ (-1))), (0, .ref (u 66)), (1, .int x0), (2, .int x1), (3, .ref (w 48)), (4, .int x2), (5, .ref (w 48)), (6, .int x3), (7, .int x4)]) rfl ?_
      refine ax_aload_n (pc := 64) C d_Mat_matches_64 rfl 1 rfl ?_
      refine cg_66_3_Mat_37 (pc := 65) C d_Mat_matches_65 ?_
      refine ax_iload (pc := 68) C d_Mat_matches_68 0 rfl ?_
      refine ax_ishr (pc := 70) C d_Mat_matches_70 ?_
      refine ax_iconst (pc := 71) C 1 d_Mat_matches_71 (by decide +kernel) ?_
      refine ax_iand (pc := 72) C d_Mat_matches_72 ?_
      refine ax_if_ne (pc := 73) C 124 d_Mat_matches_73 (by decide) (fun hc => ?_) (fun hc => ?_)
      · have h := it_f hc h
        refine ax_aload_n (pc := 124) C d_Mat_matches_124 rfl 1 rfl ?_
        refine cg_66_0_Mat_18 (pc := 125) C d_Mat_matches_125 ?_
        refine ax_aload_n (pc := 128) C d_Mat_matches_128 rfl 4 rfl ?_
        refine ax_aload_n (pc := 129) C d_Mat_matches_129 rfl 1 rfl ?_
        refine cg_66_2_Mat_9 (pc := 130) C d_Mat_matches_130 ?_
        refine ax_iload (pc := 133) C d_Mat_matches_133 0 rfl ?_
        obtain ⟨hb, h⟩ := it_g h
        refine cl_67 (pc := 135) C d_Mat_matches_135 (bin_in hb) ?_
        refine ax_aload_n (pc := 136) C d_Mat_matches_136 rfl 4 rfl ?_
        refine ax_iload (pc := 137) C d_Mat_matches_137 7 rfl ?_
        obtain ⟨σ1, r1, d1_1, d2_1, h1, h, hd2, hd1⟩ := it_b h
        have hm : sC_Sym_same_48_48 l D kA u w tx σ [(σ.2.1 67 (Int32.toNatClampNeg (((σ.2.1 48 (Int32.toNatClampNeg x4)) : Int32) ^^^ (-1)))), x3] (σ1, r1, d1_1) := ih tC_Sym_same_48_48 _ _ _ h1
        refine cc_Vi (pc := 139) C (r0 := r1) (σ2 := σ1) (As := [.ref (w 48), .int (σ.2.1 67 (Int32.toNatClampNeg (((σ.2.1 48 (Int32.toNatClampNeg x4)) : Int32) ^^^ (-1)))), .ref (w 48), .int x3]) (rest := []) (hm _ _ rfl) ml_Mat_47 6 rfl rfl rfl d_Mat_matches_139 rfl rfl (by dsimp only; omega) (by dsimp only; omega) (Nat.le_of_ble_eq_true rfl) (Nat.le_of_ble_eq_true rfl) (Nat.le_of_ble_eq_true rfl) ?_
        have hF : d2_1 + 1 ≤ F := by omega
        have hLo : 48 * d2_1 + 48 ≤ Lo := by omega
        refine ax_if_ne (pc := 142) C 147 d_Mat_matches_142 (by decide) (fun hc => ?_) (fun hc => ?_)
        · have h := it_f hc h
          refine ax_ls ([(0, .ref (u 66)), (1, .int x0), (2, .int x1), (3, .ref (w 48)), (4, .int x2), (5, .ref (w 48)), (6, .int x3), (7, .int x4), (8, .int (((σ.2.1 48 (Int32.toNatClampNeg x4)) : Int32) ^^^ (-1)))]) [1, 2, 3, 4, 5, 6, 7, 8, 0] rfl ?_
          have hm : sC_Mat_matches_48_p147 l D kA u w tx σ1 [x0, x1, x2, x3, x4, (((σ.2.1 48 (Int32.toNatClampNeg x4)) : Int32) ^^^ (-1))] (σf, rf, _) := ih tC_Mat_matches_48_p147 _ _ _ h
          exact hm _ _ _ _ _ _ rfl p e s m args below meth c F Lo σ0 hF hLo C
        · have h := it_t hc h
          refine ax_iconst (pc := 145) C 0 d_Mat_matches_145 (by decide +kernel) ?_
          cases h
          exact ax_zret (pc := 146) C d_Mat_matches_146 rfl ⟨rfl, rfl⟩ (Nat.le_refl _) (Nat.le_refl _)
      · have h := it_t hc h
        refine ax_aload_n (pc := 76) C d_Mat_matches_76 rfl 4 rfl ?_
        refine ax_iload (pc := 77) C d_Mat_matches_77 7 rfl ?_
        obtain ⟨hb, h⟩ := it_g h
        refine cl_48 (pc := 79) C d_Mat_matches_79 (bin_in hb) ?_
        refine ax_if_lt (pc := 80) C 99 d_Mat_matches_80 (by decide) (fun hc => ?_) (fun hc => ?_)
        · have h := it_t hc h
          refine ax_ls ([(0, .ref (u 66)), (1, .int x0), (2, .int x1), (3, .ref (w 48)), (4, .int x2), (5, .ref (w 48)), (6, .int x3), (7, .int x4), (8, .int (((σ.2.1 48 (Int32.toNatClampNeg x4)) : Int32) ^^^ (-1)))]) [1, 2, 3, 4, 5, 6, 7, 8, 0] rfl ?_
          have hm : sC_Mat_matches_48_p99 l D kA u w tx σ [x0, x1, x2, x3, x4, (((σ.2.1 48 (Int32.toNatClampNeg x4)) : Int32) ^^^ (-1))] (σf, rf, _) := ih tC_Mat_matches_48_p99 _ _ _ h
          exact hm _ _ _ _ _ _ rfl p e s m args below meth c F Lo σ0 hF hLo C
        · have h := it_f hc h
          refine ax_aload_n (pc := 83) C d_Mat_matches_83 rfl 1 rfl ?_
          refine cg_66_0_Mat_18 (pc := 84) C d_Mat_matches_84 ?_
          refine ax_aload_n (pc := 87) C d_Mat_matches_87 rfl 4 rfl ?_
          refine ax_iload (pc := 88) C d_Mat_matches_88 7 rfl ?_
          obtain ⟨hb, h⟩ := it_g h
          refine cl_48 (pc := 90) C d_Mat_matches_90 (bin_in hb) ?_
          obtain ⟨σ2, r2, d1_2, d2_2, h1, h, hd2, hd1⟩ := it_b h
          have hm : sC_Sym_isPredicate l D kA u w tx σ [(σ.2.1 48 (Int32.toNatClampNeg x3))] (σ2, r2, d1_2) := ih tC_Sym_isPredicate _ _ _ h1
          refine cc_Vi (pc := 91) C (r0 := r2) (σ2 := σ2) (As := [.int (σ.2.1 48 (Int32.toNatClampNeg x3))]) (rest := []) (hm _ rfl) ml_Mat_41 6 rfl rfl rfl d_Mat_matches_91 rfl rfl (by dsimp only; omega) (by dsimp only; omega) (Nat.le_of_ble_eq_true rfl) (Nat.le_of_ble_eq_true rfl) (Nat.le_of_ble_eq_true rfl) ?_
          have hF : d2_2 + 1 ≤ F := by omega
          have hLo : 48 * d2_2 + 48 ≤ Lo := by omega
          refine ax_if_eq (pc := 94) C 99 d_Mat_matches_94 (by decide) (fun hc => ?_) (fun hc => ?_)
          · have h := it_t hc h
            refine ax_ls ([(0, .ref (u 66)), (1, .int x0), (2, .int x1), (3, .ref (w 48)), (4, .int x2), (5, .ref (w 48)), (6, .int x3), (7, .int x4), (8, .int (((σ.2.1 48 (Int32.toNatClampNeg x4)) : Int32) ^^^ (-1)))]) [1, 2, 3, 4, 5, 6, 7, 8, 0] rfl ?_
            have hm : sC_Mat_matches_48_p99 l D kA u w tx σ2 [x0, x1, x2, x3, x4, (((σ.2.1 48 (Int32.toNatClampNeg x4)) : Int32) ^^^ (-1))] (σf, rf, _) := ih tC_Mat_matches_48_p99 _ _ _ h
            exact hm _ _ _ _ _ _ rfl p e s m args below meth c F Lo σ0 hF hLo C
          · have h := it_f hc h
            refine ax_iconst (pc := 97) C 0 d_Mat_matches_97 (by decide +kernel) ?_
            cases h
            exact ax_zret (pc := 98) C d_Mat_matches_98 rfl ⟨rfl, rfl⟩ (Nat.le_refl _) (Nat.le_refl _)
    · have h := it_f hc h
      refine ax_aload (pc := 35) C d_Mat_matches_35 5 rfl ?_
      refine ax_iload (pc := 37) C d_Mat_matches_37 7 rfl ?_
      obtain ⟨hb, h⟩ := it_g h
      refine cl_48 (pc := 39) C d_Mat_matches_39 (bin_in hb) ?_
      refine ax_aload_n (pc := 40) C d_Mat_matches_40 rfl 3 rfl ?_
      refine ax_iload (pc := 41) C d_Mat_matches_41 6 rfl ?_
      obtain ⟨hb, h⟩ := it_g h
      refine cl_48 (pc := 43) C d_Mat_matches_43 (bin_in hb) ?_
      refine ax_icmp_eq (pc := 44) C 49 d_Mat_matches_44 (by decide) (fun hc => ?_) (fun hc => ?_)
      · have h := it_t hc h
        refine ax_iinc (pc := 49) C (x3 + 1) d_Mat_matches_49 6 rfl rfl (Nat.le_of_ble_eq_true rfl) ([(6, .int (x3 + 1)), (0, .ref (u 66)), (1, .int x0), (2, .int x1), (3, .ref (w 48)), (4, .int x2), (5, .ref (w 48)), (7, .int x4)]) rfl ?_
        refine ax_goto (pc := 52) C 159 d_Mat_matches_52 (by decide) ?_
        refine ax_ls ([(0, .ref (u 66)), (1, .int x0), (2, .int x1), (3, .ref (w 48)), (4, .int x2), (5, .ref (w 48)), (6, .int (x3 + 1)), (7, .int x4)]) [1, 2, 3, 4, 5, 6, 0, 7] rfl ?_
        have hm : sC_Mat_matches_48_p159 l D kA u w tx σ [x0, x1, x2, (x3 + 1), x4] (σf, rf, _) := ih tC_Mat_matches_48_p159 _ _ _ h
        exact hm _ _ _ _ _ rfl p e s m args below meth c F Lo σ0 hF hLo C
      · have h := it_f hc h
        refine ax_iconst (pc := 47) C 0 d_Mat_matches_47 (by decide +kernel) ?_
        cases h
        exact ax_zret (pc := 48) C d_Mat_matches_48 rfl ⟨rfl, rfl⟩ (Nat.le_refl _) (Nat.le_refl _)
set_option maxHeartbeats 4000000 in
set_option maxRecDepth 100000 in
theorem oC_Mat_matches_48_p99 (l : Launch) (D : va_G) (kA : Nat → ClassId) (u w : Nat → Nat) (tx : Value) (rec : mF) (ih : ∀ t σ xs res, rec t σ xs = some res → cSem l D kA u w tx t σ xs res) (σ : mS) (xs : List Int32) (res : mR) (h : u_6 (kC_Mat_matches_48_p99 rec σ) xs = some res) : sC_Mat_matches_48_p99 l D kA u w tx σ xs res := by
  intro x0 x1 x2 x3 x4 x5 hxs
  subst hxs
  obtain ⟨σf, rf, dd⟩ := res
  have h : (if bin x5 6 = true then (lt_ (mA σ 67 (Int32.toNatClampNeg x5) x3) (fun σ1 => lt_ (mI σ1 6603 (((σ1.1 6603) : Int32) ||| ((1 : Int32) <<< (x5 &&& 31)))) (fun σ2 => rec tC_Mat_matches_48_p147 σ2 [x0, x1, x2, x3, x4, x5]))) else none) = some (σf, rf, dd) := h
  intro p e s m args below meth c F Lo σ0 hF hLo C
  dsimp only at hF hLo ⊢
  refine ax_aload_n (pc := 99) C d_Mat_matches_99 rfl 0 rfl ?_
  refine cg_66_2_Mat_9 (pc := 100) C d_Mat_matches_100 ?_
  refine ax_iload (pc := 103) C d_Mat_matches_103 8 rfl ?_
  refine ax_iload (pc := 105) C d_Mat_matches_105 6 rfl ?_
  obtain ⟨hb, h⟩ := it_g h
  refine cs_67 (pc := 107) C d_Mat_matches_107 (bin_in hb) ?_
  have h := it_l h
  generalize mA σ 67 (Int32.toNatClampNeg x5) x3 = σ1 at h ⊢
  refine ax_aload_n (pc := 108) C d_Mat_matches_108 rfl 0 rfl ?_
  refine ax_dup (pc := 109) C d_Mat_matches_109 rfl ?_
  refine cg_66_3_Mat_37 (pc := 110) C d_Mat_matches_110 ?_
  refine ax_iconst (pc := 113) C 1 d_Mat_matches_113 (by decide +kernel) ?_
  refine ax_iload (pc := 114) C d_Mat_matches_114 8 rfl ?_
  refine ax_ishl (pc := 116) C d_Mat_matches_116 ?_
  refine ax_ior (pc := 117) C d_Mat_matches_117 ?_
  refine cq_66_3_Mat_37 (pc := 118) C d_Mat_matches_118 ?_
  have h := it_l h
  generalize mI σ1 6603 (((σ1.1 6603) : Int32) ||| ((1 : Int32) <<< (x5 &&& 31))) = σ2 at h ⊢
  refine ax_goto (pc := 121) C 147 d_Mat_matches_121 (by decide) ?_
  refine ax_ls ([(0, .ref (u 66)), (1, .int x0), (2, .int x1), (3, .ref (w 48)), (4, .int x2), (5, .ref (w 48)), (6, .int x3), (7, .int x4), (8, .int x5)]) [0, 1, 2, 3, 4, 5, 6, 7, 8] rfl ?_
  have hm : sC_Mat_matches_48_p147 l D kA u w tx σ2 [x0, x1, x2, x3, x4, x5] (σf, rf, _) := ih tC_Mat_matches_48_p147 _ _ _ h
  exact hm _ _ _ _ _ _ rfl p e s m args below meth c F Lo σ0 hF hLo C
set_option maxHeartbeats 4000000 in
set_option maxRecDepth 100000 in
theorem oC_Mat_matches_48_p147 (l : Launch) (D : va_G) (kA : Nat → ClassId) (u w : Nat → Nat) (tx : Value) (rec : mF) (ih : ∀ t σ xs res, rec t σ xs = some res → cSem l D kA u w tx t σ xs res) (σ : mS) (xs : List Int32) (res : mR) (h : u_6 (kC_Mat_matches_48_p147 rec σ) xs = some res) : sC_Mat_matches_48_p147 l D kA u w tx σ xs res := by
  intro x0 x1 x2 x3 x4 x5 hxs
  subst hxs
  obtain ⟨σf, rf, dd⟩ := res
  have h : (bnd (rec tC_Sym_after_48 σ [x3]) (fun σ1 r1 => rec tC_Mat_matches_48_p159 σ1 [x0, x1, x2, r1, x4])) = some (σf, rf, dd) := h
  intro p e s m args below meth c F Lo σ0 hF hLo C
  dsimp only at hF hLo ⊢
  refine ax_aload_n (pc := 147) C d_Mat_matches_147 rfl 0 rfl ?_
  refine cg_66_0_Mat_18 (pc := 148) C d_Mat_matches_148 ?_
  refine ax_aload_n (pc := 151) C d_Mat_matches_151 rfl 3 rfl ?_
  refine ax_iload (pc := 152) C d_Mat_matches_152 6 rfl ?_
  obtain ⟨σ1, r1, d1_1, d2_1, h1, h, hd2, hd1⟩ := it_b h
  have hm : sC_Sym_after_48 l D kA u w tx σ [x3] (σ1, r1, d1_1) := ih tC_Sym_after_48 _ _ _ h1
  refine cc_Vi (pc := 154) C (r0 := r1) (σ2 := σ1) (As := [.ref (w 48), .int x3]) (rest := []) (hm _ rfl) ml_Mat_51 6 rfl rfl rfl d_Mat_matches_154 rfl rfl (by dsimp only; omega) (by dsimp only; omega) (Nat.le_of_ble_eq_true rfl) (Nat.le_of_ble_eq_true rfl) (Nat.le_of_ble_eq_true rfl) ?_
  have hF : d2_1 + 1 ≤ F := by omega
  have hLo : 48 * d2_1 + 48 ≤ Lo := by omega
  refine ax_istore (pc := 157) C d_Mat_matches_157 (Nat.le_of_ble_eq_true rfl) ([(6, .int r1), (0, .ref (u 66)), (1, .int x0), (2, .int x1), (3, .ref (w 48)), (4, .int x2), (5, .ref (w 48)), (7, .int x4), (8, .int x5)]) rfl ?_
  refine ax_ls ([(0, .ref (u 66)), (1, .int x0), (2, .int x1), (3, .ref (w 48)), (4, .int x2), (5, .ref (w 48)), (6, .int r1), (7, .int x4)]) [1, 2, 3, 4, 5, 6, 0, 7] rfl ?_
  have hm : sC_Mat_matches_48_p159 l D kA u w tx σ1 [x0, x1, x2, r1, x4] (σf, rf, _) := ih tC_Mat_matches_48_p159 _ _ _ h
  exact hm _ _ _ _ _ rfl p e s m args below meth c F Lo σ0 hF hLo C
set_option maxHeartbeats 4000000 in
set_option maxRecDepth 100000 in
theorem oC_Mat_matches_48_p159 (l : Launch) (D : va_G) (kA : Nat → ClassId) (u w : Nat → Nat) (tx : Value) (rec : mF) (ih : ∀ t σ xs res, rec t σ xs = some res → cSem l D kA u w tx t σ xs res) (σ : mS) (xs : List Int32) (res : mR) (h : u_5 (kC_Mat_matches_48_p159 rec σ) xs = some res) : sC_Mat_matches_48_p159 l D kA u w tx σ xs res := by
  intro x0 x1 x2 x3 x4 hxs
  subst hxs
  obtain ⟨σf, rf, dd⟩ := res
  have h : (rec tC_Mat_matches_48_p19 σ [x0, x1, x2, x3, (x4 + 1)]) = some (σf, rf, dd) := h
  intro p e s m args below meth c F Lo σ0 hF hLo C
  dsimp only at hF hLo ⊢
  refine ax_iinc (pc := 159) C (x4 + 1) d_Mat_matches_159 7 rfl rfl (Nat.le_of_ble_eq_true rfl) ([(7, .int (x4 + 1)), (0, .ref (u 66)), (1, .int x0), (2, .int x1), (3, .ref (w 48)), (4, .int x2), (5, .ref (w 48)), (6, .int x3)]) rfl ?_
  refine ax_goto (pc := 162) C 19 d_Mat_matches_162 (by decide) ?_
  refine ax_ls ([(0, .ref (u 66)), (1, .int x0), (2, .int x1), (3, .ref (w 48)), (4, .int x2), (5, .ref (w 48)), (6, .int x3), (7, .int (x4 + 1))]) [1, 2, 3, 4, 5, 6, 7, 0] rfl ?_
  have hm : sC_Mat_matches_48_p19 l D kA u w tx σ [x0, x1, x2, x3, (x4 + 1)] (σf, rf, _) := ih tC_Mat_matches_48_p19 _ _ _ h
  exact hm _ _ _ _ _ rfl p e s m args below meth c F Lo σ0 hF hLo C
set_option maxHeartbeats 4000000 in
set_option maxRecDepth 100000 in
theorem oC_Mat_rewriteFirst_r57 (l : Launch) (D : va_G) (kA : Nat → ClassId) (u w : Nat → Nat) (tx : Value) (rec : mF) (ih : ∀ t σ xs res, rec t σ xs = some res → cSem l D kA u w tx t σ xs res) (σ : mS) (xs : List Int32) (res : mR) (h : u_0 (kC_Mat_rewriteFirst_r57 rec σ) xs = some res) : sC_Mat_rewriteFirst_r57 l D kA u w tx σ xs res := by
  intro hxs
  subst hxs
  obtain ⟨σf, rf, dd⟩ := res
  have h : (rec tC_Mat_rewriteFirst_r57_p2 σ [0]) = some (σf, rf, dd) := h
  refine ax_Mi.of (by decide +kernel) (Nat.le_of_ble_eq_true rfl) ?_
  intro p e s m args below meth c C hnm
  have C : ax_C p s m args meth c b_Mat_rewriteFirst "ClauseProver$Matcher" 6 (some .int) D kA (va_A (cpW kA u w tx σ) s.heap.size) := C
  obtain ⟨F, hFe⟩ : ∃ F, F = dd + 1 := ⟨_, rfl⟩
  obtain ⟨Lo, hLoe⟩ : ∃ Lo, Lo = 48 * dd + 48 := ⟨_, rfl⟩
  obtain ⟨σ0, hσ0⟩ : ∃ s0, s0 = σ := ⟨_, rfl⟩
  suffices K : AW p l e { frames := F, cells := 0, slots := 0, locals := Lo } s m args below meth c D kA (va_A (cpW kA u w tx σ0) s.heap.size) 6 (ax_Qi below args s D kA (cpW kA u w tx σ0) 0 0 (fun r w1 => r = rf ∧ w1 = cpW kA u w tx σf)) 0 [(0, .ref (u 66)), (1, .ref (u 39)), (2, .ref (u 57))] [] (cpW kA u w tx σ) 0 0 by rw [hFe, hLoe, hσ0] at K; exact ax_ls ([(0, .ref (u 66)), (1, .ref (u 39)), (2, .ref (u 57))]) [0, 1, 2] rfl K
  have C : ax_C p s m args meth c b_Mat_rewriteFirst "ClauseProver$Matcher" 6 (some .int) D kA (va_A (cpW kA u w tx σ0) s.heap.size) := by rw [hσ0]; exact C
  have hF : dd + 1 ≤ F := by omega
  have hLo : 48 * dd + 48 ≤ Lo := by omega
  clear hFe hLoe hσ0
  refine ax_iconst (pc := 0) C 0 d_Mat_rewriteFirst_0 (by decide +kernel) ?_
  refine ax_istore_n (pc := 1) C d_Mat_rewriteFirst_1 rfl (Nat.le_of_ble_eq_true rfl) ([(3, .int 0), (0, .ref (u 66)), (1, .ref (u 39)), (2, .ref (u 57))]) rfl ?_
  refine ax_ls ([(0, .ref (u 66)), (1, .ref (u 39)), (2, .ref (u 57)), (3, .int 0)]) [1, 2, 3, 0] rfl ?_
  have hm : sC_Mat_rewriteFirst_r57_p2 l D kA u w tx σ [0] (σf, rf, _) := ih tC_Mat_rewriteFirst_r57_p2 _ _ _ h
  exact hm _ rfl p e s m args below meth c F Lo σ0 hF hLo C
set_option maxHeartbeats 4000000 in
set_option maxRecDepth 100000 in
theorem oC_Mat_rewriteFirst_r57_p2 (l : Launch) (D : va_G) (kA : Nat → ClassId) (u w : Nat → Nat) (tx : Value) (rec : mF) (ih : ∀ t σ xs res, rec t σ xs = some res → cSem l D kA u w tx t σ xs res) (σ : mS) (xs : List Int32) (res : mR) (h : u_1 (kC_Mat_rewriteFirst_r57_p2 rec σ) xs = some res) : sC_Mat_rewriteFirst_r57_p2 l D kA u w tx σ xs res := by
  intro x0 hxs
  subst hxs
  obtain ⟨σf, rf, dd⟩ := res
  have h : (if (σ.1 3904) ≤ x0 then (some (σ, (-1), 0)) else (rec tC_Mat_rewriteFirst_r57_p13 σ [x0, 0])) = some (σf, rf, dd) := h
  intro p e s m args below meth c F Lo σ0 hF hLo C
  dsimp only at hF hLo ⊢
  refine ax_iload_n (pc := 2) C d_Mat_rewriteFirst_2 rfl 3 rfl ?_
  refine ax_aload_n (pc := 3) C d_Mat_rewriteFirst_3 rfl 1 rfl ?_
  refine cg_39_4_Mat_84 (pc := 4) C d_Mat_rewriteFirst_4 ?_
  refine ax_icmp_ge (pc := 7) C 98 d_Mat_rewriteFirst_7 (by decide) (fun hc => ?_) (fun hc => ?_)
  · have h := it_t hc h
    refine ax_iconst (pc := 98) C (-1) d_Mat_rewriteFirst_98 (by decide +kernel) ?_
    cases h
    exact ax_iret (pc := 99) C d_Mat_rewriteFirst_99 ⟨rfl, rfl⟩ (Nat.le_refl _) (Nat.le_refl _)
  · have h := it_f hc h
    refine ax_iconst (pc := 10) C 0 d_Mat_rewriteFirst_10 (by decide +kernel) ?_
    refine ax_istore (pc := 11) C d_Mat_rewriteFirst_11 (Nat.le_of_ble_eq_true rfl) ([(4, .int 0), (0, .ref (u 66)), (1, .ref (u 39)), (2, .ref (u 57)), (3, .int x0)]) rfl ?_
    refine ax_ls ([(0, .ref (u 66)), (1, .ref (u 39)), (2, .ref (u 57)), (3, .int x0), (4, .int 0)]) [1, 2, 3, 4, 0] rfl ?_
    have hm : sC_Mat_rewriteFirst_r57_p13 l D kA u w tx σ [x0, 0] (σf, rf, _) := ih tC_Mat_rewriteFirst_r57_p13 _ _ _ h
    exact hm _ _ rfl p e s m args below meth c F Lo σ0 hF hLo C
set_option maxHeartbeats 4000000 in
set_option maxRecDepth 100000 in
theorem oC_Mat_rewriteFirst_r57_p13 (l : Launch) (D : va_G) (kA : Nat → ClassId) (u w : Nat → Nat) (tx : Value) (rec : mF) (ih : ∀ t σ xs res, rec t σ xs = some res → cSem l D kA u w tx t σ xs res) (σ : mS) (xs : List Int32) (res : mR) (h : u_2 (kC_Mat_rewriteFirst_r57_p13 rec σ) xs = some res) : sC_Mat_rewriteFirst_r57_p13 l D kA u w tx σ xs res := by
  intro x0 x1 hxs
  subst hxs
  obtain ⟨σf, rf, dd⟩ := res
  have h : (if bin x0 100 = true then (if (σ.2.1 40 (Int32.toNatClampNeg x0)) < 0 then (rec tC_Mat_rewriteFirst_r57_p92 σ [x0, x1]) else (if (σ.1 5701) ≤ x1 then (rec tC_Mat_rewriteFirst_r57_p92 σ [x0, x1]) else (if bin x1 (σ.2.2 58) = true then (bnd (rec tC_Mat_rewrites_40 σ [(σ.2.1 58 (Int32.toNatClampNeg x1)), 0, x0]) (fun σ1 r1 => if r1 = 0 then (bnd (rec tC_Mat_rewrites_40 σ1 [(σ.2.1 58 (Int32.toNatClampNeg x1)), 1, x0]) (fun σ2 r2 => if r2 = 0 then (rec tC_Mat_rewriteFirst_r57_p13 σ2 [x0, (x1 + 1)]) else (rec tC_Mat_rewriteFirst_r57_p70 σ2 [x0, x1, (σ.2.1 58 (Int32.toNatClampNeg x1))]))) else (rec tC_Mat_rewriteFirst_r57_p70 σ1 [x0, x1, (σ.2.1 58 (Int32.toNatClampNeg x1))]))) else none))) else none) = some (σf, rf, dd) := h
  intro p e s m args below meth c F Lo σ0 hF hLo C
  dsimp only at hF hLo ⊢
  refine ax_aload_n (pc := 13) C d_Mat_rewriteFirst_13 rfl 1 rfl ?_
  refine cg_39_0_Mat_89 (pc := 14) C d_Mat_rewriteFirst_14 ?_
  refine ax_iload_n (pc := 17) C d_Mat_rewriteFirst_17 rfl 3 rfl ?_
  obtain ⟨hb, h⟩ := it_g h
  refine cl_40 (pc := 18) C d_Mat_rewriteFirst_18 (bin_in hb) ?_
  refine ax_if_lt (pc := 19) C 92 d_Mat_rewriteFirst_19 (by decide) (fun hc => ?_) (fun hc => ?_)
  · have h := it_t hc h
    refine ax_ls ([(0, .ref (u 66)), (1, .ref (u 39)), (2, .ref (u 57)), (3, .int x0), (4, .int x1)]) [0, 1, 2, 3, 4] rfl ?_
    have hm : sC_Mat_rewriteFirst_r57_p92 l D kA u w tx σ [x0, x1] (σf, rf, _) := ih tC_Mat_rewriteFirst_r57_p92 _ _ _ h
    exact hm _ _ rfl p e s m args below meth c F Lo σ0 hF hLo C
  · have h := it_f hc h
    refine ax_iload (pc := 22) C d_Mat_rewriteFirst_22 4 rfl ?_
    refine ax_aload_n (pc := 24) C d_Mat_rewriteFirst_24 rfl 2 rfl ?_
    refine cg_57_1_Mat_92 (pc := 25) C d_Mat_rewriteFirst_25 ?_
    refine ax_icmp_ge (pc := 28) C 92 d_Mat_rewriteFirst_28 (by decide) (fun hc => ?_) (fun hc => ?_)
    · have h := it_t hc h
      refine ax_ls ([(0, .ref (u 66)), (1, .ref (u 39)), (2, .ref (u 57)), (3, .int x0), (4, .int x1)]) [0, 1, 2, 3, 4] rfl ?_
      have hm : sC_Mat_rewriteFirst_r57_p92 l D kA u w tx σ [x0, x1] (σf, rf, _) := ih tC_Mat_rewriteFirst_r57_p92 _ _ _ h
      exact hm _ _ rfl p e s m args below meth c F Lo σ0 hF hLo C
    · have h := it_f hc h
      refine ax_aload_n (pc := 31) C d_Mat_rewriteFirst_31 rfl 2 rfl ?_
      refine cg_57_0_Mat_32 (pc := 32) C d_Mat_rewriteFirst_32 ?_
      refine ax_iload (pc := 35) C d_Mat_rewriteFirst_35 4 rfl ?_
      obtain ⟨hb, h⟩ := it_g h
      refine cl_58 (pc := 37) C d_Mat_rewriteFirst_37 (bin_in hb) ?_
      refine ax_istore (pc := 38) C d_Mat_rewriteFirst_38 (Nat.le_of_ble_eq_true rfl) ([(5, .int (σ.2.1 58 (Int32.toNatClampNeg x1))), (0, .ref (u 66)), (1, .ref (u 39)), (2, .ref (u 57)), (3, .int x0), (4, .int x1)]) rfl ?_
      refine ax_aload_n (pc := 40) C d_Mat_rewriteFirst_40 rfl 1 rfl ?_
      refine ax_iload (pc := 41) C d_Mat_rewriteFirst_41 0 rfl ?_
      refine ax_iconst (pc := 43) C 0 d_Mat_rewriteFirst_43 (by decide +kernel) ?_
      refine ax_aload_n (pc := 44) C d_Mat_rewriteFirst_44 rfl 2 rfl ?_
      refine cg_39_0_Mat_89 (pc := 45) C d_Mat_rewriteFirst_45 ?_
      refine ax_iload_n (pc := 48) C d_Mat_rewriteFirst_48 rfl 4 rfl ?_
      obtain ⟨σ1, r1, d1_1, d2_1, h1, h, hd2, hd1⟩ := it_b h
      have hm : sC_Mat_rewrites_40 l D kA u w tx σ [(σ.2.1 58 (Int32.toNatClampNeg x1)), 0, x0] (σ1, r1, d1_1) := ih tC_Mat_rewrites_40 _ _ _ h1
      refine cc_Vi (pc := 49) C (r0 := r1) (σ2 := σ1) (As := [.int (σ.2.1 58 (Int32.toNatClampNeg x1)), .int 0, .ref (u 40), .int x0]) (rest := []) (hm _ _ _ rfl) ml_Mat_95 66 rfl rfl rfl d_Mat_rewriteFirst_49 rfl rfl (by dsimp only; omega) (by dsimp only; omega) (Nat.le_of_ble_eq_true rfl) (Nat.le_of_ble_eq_true rfl) (Nat.le_of_ble_eq_true rfl) ?_
      have hF : d2_1 + 1 ≤ F := by omega
      have hLo : 48 * d2_1 + 48 ≤ Lo := by omega
      refine ax_if_ne (pc := 52) C 70 d_Mat_rewriteFirst_52 (by decide) (fun hc => ?_) (fun hc => ?_)
      · have h := it_f hc h
        refine ax_ls ([(0, .ref (u 66)), (1, .ref (u 39)), (2, .ref (u 57)), (3, .int x0), (4, .int x1), (5, .int (σ.2.1 58 (Int32.toNatClampNeg x1)))]) [1, 2, 3, 4, 5, 0] rfl ?_
        have hm : sC_Mat_rewriteFirst_r57_p70 l D kA u w tx σ1 [x0, x1, (σ.2.1 58 (Int32.toNatClampNeg x1))] (σf, rf, _) := ih tC_Mat_rewriteFirst_r57_p70 _ _ _ h
        exact hm _ _ _ rfl p e s m args below meth c F Lo σ0 hF hLo C
      · have h := it_t hc h
        refine ax_aload_n (pc := 55) C d_Mat_rewriteFirst_55 rfl 1 rfl ?_
        refine ax_iload (pc := 56) C d_Mat_rewriteFirst_56 0 rfl ?_
        refine ax_iconst (pc := 58) C 1 d_Mat_rewriteFirst_58 (by decide +kernel) ?_
        refine ax_aload_n (pc := 59) C d_Mat_rewriteFirst_59 rfl 2 rfl ?_
        refine cg_39_0_Mat_89 (pc := 60) C d_Mat_rewriteFirst_60 ?_
        refine ax_iload_n (pc := 63) C d_Mat_rewriteFirst_63 rfl 4 rfl ?_
        obtain ⟨σ2, r2, d1_2, d2_2, h1, h, hd2, hd1⟩ := it_b h
        have hm : sC_Mat_rewrites_40 l D kA u w tx σ1 [(σ.2.1 58 (Int32.toNatClampNeg x1)), 1, x0] (σ2, r2, d1_2) := ih tC_Mat_rewrites_40 _ _ _ h1
        refine cc_Vi (pc := 64) C (r0 := r2) (σ2 := σ2) (As := [.int (σ.2.1 58 (Int32.toNatClampNeg x1)), .int 1, .ref (u 40), .int x0]) (rest := []) (hm _ _ _ rfl) ml_Mat_95 66 rfl rfl rfl d_Mat_rewriteFirst_64 rfl rfl (by dsimp only; omega) (by dsimp only; omega) (Nat.le_of_ble_eq_true rfl) (Nat.le_of_ble_eq_true rfl) (Nat.le_of_ble_eq_true rfl) ?_
        have hF : d2_2 + 1 ≤ F := by omega
        have hLo : 48 * d2_2 + 48 ≤ Lo := by omega
        refine ax_if_eq (pc := 67) C 86 d_Mat_rewriteFirst_67 (by decide) (fun hc => ?_) (fun hc => ?_)
        · have h := it_t hc h
          refine ax_iinc (pc := 86) C (x1 + 1) d_Mat_rewriteFirst_86 5 rfl rfl (Nat.le_of_ble_eq_true rfl) ([(4, .int (x1 + 1)), (5, .int (σ.2.1 58 (Int32.toNatClampNeg x1))), (0, .ref (u 66)), (1, .ref (u 39)), (2, .ref (u 57)), (3, .int x0)]) rfl ?_
          refine ax_goto (pc := 89) C 13 d_Mat_rewriteFirst_89 (by decide) ?_
          refine ax_ls ([(0, .ref (u 66)), (1, .ref (u 39)), (2, .ref (u 57)), (3, .int x0), (4, .int (x1 + 1))]) [2, 3, 4, 5, 0] rfl ?_
          have hm : sC_Mat_rewriteFirst_r57_p13 l D kA u w tx σ2 [x0, (x1 + 1)] (σf, rf, _) := ih tC_Mat_rewriteFirst_r57_p13 _ _ _ h
          exact hm _ _ rfl p e s m args below meth c F Lo σ0 hF hLo C
        · have h := it_f hc h
          refine ax_ls ([(0, .ref (u 66)), (1, .ref (u 39)), (2, .ref (u 57)), (3, .int x0), (4, .int x1), (5, .int (σ.2.1 58 (Int32.toNatClampNeg x1)))]) [1, 2, 3, 4, 5, 0] rfl ?_
          have hm : sC_Mat_rewriteFirst_r57_p70 l D kA u w tx σ2 [x0, x1, (σ.2.1 58 (Int32.toNatClampNeg x1))] (σf, rf, _) := ih tC_Mat_rewriteFirst_r57_p70 _ _ _ h
          exact hm _ _ _ rfl p e s m args below meth c F Lo σ0 hF hLo C
set_option maxHeartbeats 4000000 in
set_option maxRecDepth 100000 in
theorem oC_Mat_rewriteFirst_r57_p70 (l : Launch) (D : va_G) (kA : Nat → ClassId) (u w : Nat → Nat) (tx : Value) (rec : mF) (ih : ∀ t σ xs res, rec t σ xs = some res → cSem l D kA u w tx t σ xs res) (σ : mS) (xs : List Int32) (res : mR) (h : u_3 (kC_Mat_rewriteFirst_r57_p70 rec σ) xs = some res) : sC_Mat_rewriteFirst_r57_p70 l D kA u w tx σ xs res := by
  intro x0 x1 x2 hxs
  subst hxs
  obtain ⟨σf, rf, dd⟩ := res
  have h : (bnd (rec tC_Dra_replace_68 σ [x0, (σ.1 6605)]) (fun σ1 r1 => some (σ1, x2, 0))) = some (σf, rf, dd) := h
  intro p e s m args below meth c F Lo σ0 hF hLo C
  dsimp only at hF hLo ⊢
  refine ax_aload_n (pc := 70) C d_Mat_rewriteFirst_70 rfl 1 rfl ?_
  refine ax_iload_n (pc := 71) C d_Mat_rewriteFirst_71 rfl 3 rfl ?_
  refine ax_aload_n (pc := 72) C d_Mat_rewriteFirst_72 rfl 0 rfl ?_
  refine cg_66_4_Mat_15 (pc := 73) C d_Mat_rewriteFirst_73 ?_
  refine ax_aload_n (pc := 76) C d_Mat_rewriteFirst_76 rfl 0 rfl ?_
  refine cg_66_5_Mat_75 (pc := 77) C d_Mat_rewriteFirst_77 ?_
  obtain ⟨σ1, r1, d1_1, d2_1, h1, h, hd2, hd1⟩ := it_b h
  have hm : sC_Dra_replace_68 l D kA u w tx σ [x0, (σ.1 6605)] (σ1, r1, d1_1) := ih tC_Dra_replace_68 _ _ _ h1
  refine cc_Vv (pc := 80) C (σ2 := σ1) (As := [.int x0, .ref (u 68), .int (σ.1 6605)]) (rest := []) (hm _ _ rfl) ml_Mat_98 39 rfl rfl rfl d_Mat_rewriteFirst_80 rfl rfl (by dsimp only; omega) (by dsimp only; omega) (Nat.le_of_ble_eq_true rfl) (Nat.le_of_ble_eq_true rfl) (Nat.le_of_ble_eq_true rfl) ?_
  have hF : d2_1 + 1 ≤ F := by omega
  have hLo : 48 * d2_1 + 48 ≤ Lo := by omega
  refine ax_iload (pc := 83) C d_Mat_rewriteFirst_83 5 rfl ?_
  cases h
  exact ax_iret (pc := 85) C d_Mat_rewriteFirst_85 ⟨rfl, rfl⟩ (Nat.le_refl _) (Nat.le_refl _)
set_option maxHeartbeats 4000000 in
set_option maxRecDepth 100000 in
theorem oC_Mat_rewriteFirst_r57_p92 (l : Launch) (D : va_G) (kA : Nat → ClassId) (u w : Nat → Nat) (tx : Value) (rec : mF) (ih : ∀ t σ xs res, rec t σ xs = some res → cSem l D kA u w tx t σ xs res) (σ : mS) (xs : List Int32) (res : mR) (h : u_2 (kC_Mat_rewriteFirst_r57_p92 rec σ) xs = some res) : sC_Mat_rewriteFirst_r57_p92 l D kA u w tx σ xs res := by
  intro x0 x1 hxs
  subst hxs
  obtain ⟨σf, rf, dd⟩ := res
  have h : (rec tC_Mat_rewriteFirst_r57_p2 σ [(x0 + 1)]) = some (σf, rf, dd) := h
  intro p e s m args below meth c F Lo σ0 hF hLo C
  dsimp only at hF hLo ⊢
  refine ax_iinc (pc := 92) C (x0 + 1) d_Mat_rewriteFirst_92 3 rfl rfl (Nat.le_of_ble_eq_true rfl) ([(3, .int (x0 + 1)), (0, .ref (u 66)), (1, .ref (u 39)), (2, .ref (u 57)), (4, .int x1)]) rfl ?_
  refine ax_goto (pc := 95) C 2 d_Mat_rewriteFirst_95 (by decide) ?_
  refine ax_ls ([(0, .ref (u 66)), (1, .ref (u 39)), (2, .ref (u 57)), (3, .int (x0 + 1))]) [1, 2, 3, 0] rfl ?_
  have hm : sC_Mat_rewriteFirst_r57_p2 l D kA u w tx σ [(x0 + 1)] (σf, rf, _) := ih tC_Mat_rewriteFirst_r57_p2 _ _ _ h
  exact hm _ rfl p e s m args below meth c F Lo σ0 hF hLo C
set_option maxHeartbeats 4000000 in
set_option maxRecDepth 100000 in
theorem oC_Mat_rewrites_40 (l : Launch) (D : va_G) (kA : Nat → ClassId) (u w : Nat → Nat) (tx : Value) (rec : mF) (ih : ∀ t σ xs res, rec t σ xs = some res → cSem l D kA u w tx t σ xs res) (σ : mS) (xs : List Int32) (res : mR) (h : u_3 (kC_Mat_rewrites_40 rec σ) xs = some res) : sC_Mat_rewrites_40 l D kA u w tx σ xs res := by
  intro x0 x1 x2 hxs
  subst hxs
  obtain ⟨σf, rf, dd⟩ := res
  have h : (bnd (rec tC_Sto_fact σ [x0, 8]) (fun σ1 r1 => bnd (rec tC_Sto_sideAt σ1 [r1, x1]) (fun σ2 r2 => if bin r2 (σ2.2.2 48) = true then (if (σ2.2.1 48 (Int32.toNatClampNeg r2)) < 0 then (rec tC_Mat_rewrites_40_p55 σ2 [x0, x1, x2, r1, r2, (σ2.2.1 48 (Int32.toNatClampNeg r2))]) else (if bin x2 100 = true then (if (σ2.2.1 48 (Int32.toNatClampNeg r2)) = (σ2.2.1 40 (Int32.toNatClampNeg x2)) then (rec tC_Mat_rewrites_40_p55 σ2 [x0, x1, x2, r1, r2, (σ2.2.1 48 (Int32.toNatClampNeg r2))]) else (some (σ2, 0, 0))) else none)) else none))) = some (σf, rf, dd) := h
  refine ax_Mi.of (by decide +kernel) (Nat.le_of_ble_eq_true rfl) ?_
  intro p e s m args below meth c C hnm
  have C : ax_C p s m args meth c b_Mat_rewrites "ClauseProver$Matcher" 10 (some .boolean) D kA (va_A (cpW kA u w tx σ) s.heap.size) := C
  obtain ⟨F, hFe⟩ : ∃ F, F = dd + 1 := ⟨_, rfl⟩
  obtain ⟨Lo, hLoe⟩ : ∃ Lo, Lo = 48 * dd + 48 := ⟨_, rfl⟩
  obtain ⟨σ0, hσ0⟩ : ∃ s0, s0 = σ := ⟨_, rfl⟩
  suffices K : AW p l e { frames := F, cells := 0, slots := 0, locals := Lo } s m args below meth c D kA (va_A (cpW kA u w tx σ0) s.heap.size) 10 (ax_Qi below args s D kA (cpW kA u w tx σ0) 0 0 (fun r w1 => r = rf ∧ w1 = cpW kA u w tx σf)) 0 [(0, .ref (u 66)), (1, .int x0), (2, .int x1), (3, .ref (u 40)), (4, .int x2)] [] (cpW kA u w tx σ) 0 0 by rw [hFe, hLoe, hσ0] at K; exact ax_ls ([(0, .ref (u 66)), (1, .int x0), (2, .int x1), (3, .ref (u 40)), (4, .int x2)]) [0, 1, 2, 3, 4] rfl K
  have C : ax_C p s m args meth c b_Mat_rewrites "ClauseProver$Matcher" 10 (some .boolean) D kA (va_A (cpW kA u w tx σ0) s.heap.size) := by rw [hσ0]; exact C
  have hF : dd + 1 ≤ F := by omega
  have hLo : 48 * dd + 48 ≤ Lo := by omega
  clear hFe hLoe hσ0
  refine ax_aload_n (pc := 0) C d_Mat_rewrites_0 rfl 0 rfl ?_
  refine cg_66_1_Mat_22 (pc := 1) C d_Mat_rewrites_1 ?_
  refine ax_iload_n (pc := 4) C d_Mat_rewrites_4 rfl 1 rfl ?_
  refine ax_bipush (pc := 5) C 8 d_Mat_rewrites_5 (by decide +kernel) ?_
  obtain ⟨σ1, r1, d1_1, d2_1, h1, h, hd2, hd1⟩ := it_b h
  have hm : sC_Sto_fact l D kA u w tx σ [x0, 8] (σ1, r1, d1_1) := ih tC_Sto_fact _ _ _ h1
  refine cc_Vi (pc := 7) C (r0 := r1) (σ2 := σ1) (As := [.int x0, .int 8]) (rest := []) (hm _ _ rfl) ml_Mat_55 54 rfl rfl rfl d_Mat_rewrites_7 rfl rfl (by dsimp only; omega) (by dsimp only; omega) (Nat.le_of_ble_eq_true rfl) (Nat.le_of_ble_eq_true rfl) (Nat.le_of_ble_eq_true rfl) ?_
  have hF : d2_1 + 1 ≤ F := by omega
  have hLo : 48 * d2_1 + 48 ≤ Lo := by omega
  refine ax_istore (pc := 10) C d_Mat_rewrites_10 (Nat.le_of_ble_eq_true rfl) ([(5, .int r1), (0, .ref (u 66)), (1, .int x0), (2, .int x1), (3, .ref (u 40)), (4, .int x2)]) rfl ?_
  refine ax_aload_n (pc := 12) C d_Mat_rewrites_12 rfl 1 rfl ?_
  refine cg_66_1_Mat_22 (pc := 13) C d_Mat_rewrites_13 ?_
  refine ax_iload (pc := 16) C d_Mat_rewrites_16 0 rfl ?_
  refine ax_iload_n (pc := 18) C d_Mat_rewrites_18 rfl 3 rfl ?_
  obtain ⟨σ2, r2, d1_2, d2_2, h1, h, hd2, hd1⟩ := it_b h
  have hm : sC_Sto_sideAt l D kA u w tx σ1 [r1, x1] (σ2, r2, d1_2) := ih tC_Sto_sideAt _ _ _ h1
  refine cc_Vi (pc := 19) C (r0 := r2) (σ2 := σ2) (As := [.int r1, .int x1]) (rest := []) (hm _ _ rfl) ml_Mat_59 54 rfl rfl rfl d_Mat_rewrites_19 rfl rfl (by dsimp only; omega) (by dsimp only; omega) (Nat.le_of_ble_eq_true rfl) (Nat.le_of_ble_eq_true rfl) (Nat.le_of_ble_eq_true rfl) ?_
  have hF : d2_2 + 1 ≤ F := by omega
  have hLo : 48 * d2_2 + 48 ≤ Lo := by omega
  refine ax_istore (pc := 22) C d_Mat_rewrites_22 (Nat.le_of_ble_eq_true rfl) ([(6, .int r2), (5, .int r1), (0, .ref (u 66)), (1, .int x0), (2, .int x1), (3, .ref (u 40)), (4, .int x2)]) rfl ?_
  refine ax_aload_n (pc := 24) C d_Mat_rewrites_24 rfl 2 rfl ?_
  refine cg_66_1_Mat_22 (pc := 25) C d_Mat_rewrites_25 ?_
  refine cg_54_0_Mat_26 (pc := 28) C d_Mat_rewrites_28 ?_
  refine cg_47_0_Mat_32 (pc := 31) C d_Mat_rewrites_31 ?_
  refine ax_iload (pc := 34) C d_Mat_rewrites_34 0 rfl ?_
  obtain ⟨hb, h⟩ := it_g h
  refine cl_48 (pc := 36) C d_Mat_rewrites_36 (bin_in hb) ?_
  refine ax_istore (pc := 37) C d_Mat_rewrites_37 (Nat.le_of_ble_eq_true rfl) ([(7, .int (σ2.2.1 48 (Int32.toNatClampNeg r2))), (6, .int r2), (5, .int r1), (0, .ref (u 66)), (1, .int x0), (2, .int x1), (3, .ref (u 40)), (4, .int x2)]) rfl ?_
  refine ax_iload (pc := 39) C d_Mat_rewrites_39 0 rfl ?_
  refine ax_if_lt (pc := 41) C 55 d_Mat_rewrites_41 (by decide) (fun hc => ?_) (fun hc => ?_)
  · have h := it_t hc h
    refine ax_ls ([(0, .ref (u 66)), (1, .int x0), (2, .int x1), (3, .ref (u 40)), (4, .int x2), (5, .int r1), (6, .int r2), (7, .int (σ2.2.1 48 (Int32.toNatClampNeg r2)))]) [3, 4, 5, 6, 7, 2, 1, 0] rfl ?_
    have hm : sC_Mat_rewrites_40_p55 l D kA u w tx σ2 [x0, x1, x2, r1, r2, (σ2.2.1 48 (Int32.toNatClampNeg r2))] (σf, rf, _) := ih tC_Mat_rewrites_40_p55 _ _ _ h
    exact hm _ _ _ _ _ _ rfl p e s m args below meth c F Lo σ0 hF hLo C
  · have h := it_f hc h
    refine ax_iload (pc := 44) C d_Mat_rewrites_44 0 rfl ?_
    refine ax_aload_n (pc := 46) C d_Mat_rewrites_46 rfl 6 rfl ?_
    refine ax_iload (pc := 47) C d_Mat_rewrites_47 7 rfl ?_
    obtain ⟨hb, h⟩ := it_g h
    refine cl_40 (pc := 49) C d_Mat_rewrites_49 (bin_in hb) ?_
    refine ax_icmp_eq (pc := 50) C 55 d_Mat_rewrites_50 (by decide) (fun hc => ?_) (fun hc => ?_)
    · have h := it_t hc h
      refine ax_ls ([(0, .ref (u 66)), (1, .int x0), (2, .int x1), (3, .ref (u 40)), (4, .int x2), (5, .int r1), (6, .int r2), (7, .int (σ2.2.1 48 (Int32.toNatClampNeg r2)))]) [3, 4, 5, 6, 7, 2, 1, 0] rfl ?_
      have hm : sC_Mat_rewrites_40_p55 l D kA u w tx σ2 [x0, x1, x2, r1, r2, (σ2.2.1 48 (Int32.toNatClampNeg r2))] (σf, rf, _) := ih tC_Mat_rewrites_40_p55 _ _ _ h
      exact hm _ _ _ _ _ _ rfl p e s m args below meth c F Lo σ0 hF hLo C
    · have h := it_f hc h
      refine ax_iconst (pc := 53) C 0 d_Mat_rewrites_53 (by decide +kernel) ?_
      cases h
      exact ax_zret (pc := 54) C d_Mat_rewrites_54 rfl ⟨rfl, rfl⟩ (Nat.le_refl _) (Nat.le_refl _)
set_option maxHeartbeats 4000000 in
set_option maxRecDepth 100000 in
theorem oC_Mat_rewrites_40_p55 (l : Launch) (D : va_G) (kA : Nat → ClassId) (u w : Nat → Nat) (tx : Value) (rec : mF) (ih : ∀ t σ xs res, rec t σ xs = some res → cSem l D kA u w tx t σ xs res) (σ : mS) (xs : List Int32) (res : mR) (h : u_6 (kC_Mat_rewrites_40_p55 rec σ) xs = some res) : sC_Mat_rewrites_40_p55 l D kA u w tx σ xs res := by
  intro x0 x1 x2 x3 x4 x5 hxs
  subst hxs
  obtain ⟨σf, rf, dd⟩ := res
  have h : (lt_ (mI σ 6603 0) (fun σ1 => bnd (rec tC_Sto_sideSize σ1 [x3, x1]) (fun σ2 r2 => bnd (rec tC_Mat_matches_40 σ2 [x4, r2, x2]) (fun σ3 r3 => if r3 = 0 then (some (σ3, 0, 0)) else (bnd (rec tC_Sto_sideAt σ3 [x3, ((1 : Int32) - x1)]) (fun σ4 r4 => bnd (rec tC_Sym_after_40 σ4 [x2]) (fun σ5 r5 => bnd (rec tC_Sto_sideSize σ5 [x3, ((1 : Int32) - x1)]) (fun σ6 r6 => bnd (rec tC_Mat_makeImage_40 σ6 [r4, r6, ((r5 : Int32) - x2)]) (fun σ7 r7 => if r7 = 0 then (rec tC_Mat_rewrites_40_p159 σ7 [x0, x1, x2, x3, x4, x5, r4, ((r5 : Int32) - x2)]) else (bnd (rec tC_Sym_greater_40_68 σ7 [x2, 0]) (fun σ8 r8 => if r8 = 0 then (rec tC_Mat_rewrites_40_p159 σ8 [x0, x1, x2, x3, x4, x5, r4, ((r5 : Int32) - x2)]) else (rec tC_Mat_rewrites_40_p160 σ8 [x0, x1, x2, x3, x4, x5, r4, ((r5 : Int32) - x2), 1])))))))))))) = some (σf, rf, dd) := h
  intro p e s m args below meth c F Lo σ0 hF hLo C
  dsimp only at hF hLo ⊢
  refine ax_aload_n (pc := 55) C d_Mat_rewrites_55 rfl 0 rfl ?_
  refine ax_iconst (pc := 56) C 0 d_Mat_rewrites_56 (by decide +kernel) ?_
  refine cq_66_3_Mat_37 (pc := 57) C d_Mat_rewrites_57 ?_
  have h := it_l h
  generalize mI σ 6603 0 = σ1 at h ⊢
  refine ax_aload_n (pc := 60) C d_Mat_rewrites_60 rfl 0 rfl ?_
  refine ax_iload (pc := 61) C d_Mat_rewrites_61 6 rfl ?_
  refine ax_aload_n (pc := 63) C d_Mat_rewrites_63 rfl 0 rfl ?_
  refine cg_66_1_Mat_22 (pc := 64) C d_Mat_rewrites_64 ?_
  refine ax_iload (pc := 67) C d_Mat_rewrites_67 5 rfl ?_
  refine ax_iload_n (pc := 69) C d_Mat_rewrites_69 rfl 2 rfl ?_
  obtain ⟨σ2, r2, d1_2, d2_2, h1, h, hd2, hd1⟩ := it_b h
  have hm : sC_Sto_sideSize l D kA u w tx σ1 [x3, x1] (σ2, r2, d1_2) := ih tC_Sto_sideSize _ _ _ h1
  refine cc_Vi (pc := 70) C (r0 := r2) (σ2 := σ2) (As := [.int x3, .int x1]) (rest := [.int x4, .ref (u 66)]) (hm _ _ rfl) ml_Mat_62 54 rfl rfl rfl d_Mat_rewrites_70 rfl rfl (by dsimp only; omega) (by dsimp only; omega) (Nat.le_of_ble_eq_true rfl) (Nat.le_of_ble_eq_true rfl) (Nat.le_of_ble_eq_true rfl) ?_
  have hF : d2_2 + 1 ≤ F := by omega
  have hLo : 48 * d2_2 + 48 ≤ Lo := by omega
  refine ax_aload_n (pc := 73) C d_Mat_rewrites_73 rfl 3 rfl ?_
  refine ax_iload (pc := 74) C d_Mat_rewrites_74 4 rfl ?_
  obtain ⟨σ3, r3, d1_3, d2_3, h1, h, hd2, hd1⟩ := it_b h
  have hm : sC_Mat_matches_40 l D kA u w tx σ2 [x4, r2, x2] (σ3, r3, d1_3) := ih tC_Mat_matches_40 _ _ _ h1
  refine cc_Vi (pc := 76) C (r0 := r3) (σ2 := σ3) (As := [.int x4, .int r2, .ref (u 40), .int x2]) (rest := []) (hm _ _ _ rfl) ml_Mat_65 66 rfl rfl rfl d_Mat_rewrites_76 rfl rfl (by dsimp only; omega) (by dsimp only; omega) (Nat.le_of_ble_eq_true rfl) (Nat.le_of_ble_eq_true rfl) (Nat.le_of_ble_eq_true rfl) ?_
  have hF : d2_3 + 1 ≤ F := by omega
  have hLo : 48 * d2_3 + 48 ≤ Lo := by omega
  refine ax_if_ne (pc := 79) C 84 d_Mat_rewrites_79 (by decide) (fun hc => ?_) (fun hc => ?_)
  · have h := it_f hc h
    refine ax_aload_n (pc := 84) C d_Mat_rewrites_84 rfl 0 rfl ?_
    refine cg_66_1_Mat_22 (pc := 85) C d_Mat_rewrites_85 ?_
    refine ax_iload (pc := 88) C d_Mat_rewrites_88 5 rfl ?_
    refine ax_iconst (pc := 90) C 1 d_Mat_rewrites_90 (by decide +kernel) ?_
    refine ax_iload_n (pc := 91) C d_Mat_rewrites_91 rfl 2 rfl ?_
    refine ax_isub (pc := 92) C d_Mat_rewrites_92 ?_
    obtain ⟨σ4, r4, d1_4, d2_4, h1, h, hd2, hd1⟩ := it_b h
    have hm : sC_Sto_sideAt l D kA u w tx σ3 [x3, ((1 : Int32) - x1)] (σ4, r4, d1_4) := ih tC_Sto_sideAt _ _ _ h1
    refine cc_Vi (pc := 93) C (r0 := r4) (σ2 := σ4) (As := [.int x3, .int ((1 : Int32) - x1)]) (rest := []) (hm _ _ rfl) ml_Mat_59 54 rfl rfl rfl d_Mat_rewrites_93 rfl rfl (by dsimp only; omega) (by dsimp only; omega) (Nat.le_of_ble_eq_true rfl) (Nat.le_of_ble_eq_true rfl) (Nat.le_of_ble_eq_true rfl) ?_
    have hF : d2_4 + 1 ≤ F := by omega
    have hLo : 48 * d2_4 + 48 ≤ Lo := by omega
    refine ax_istore (pc := 96) C d_Mat_rewrites_96 (Nat.le_of_ble_eq_true rfl) ([(8, .int r4), (0, .ref (u 66)), (1, .int x0), (2, .int x1), (3, .ref (u 40)), (4, .int x2), (5, .int x3), (6, .int x4), (7, .int x5)]) rfl ?_
    refine ax_aload_n (pc := 98) C d_Mat_rewrites_98 rfl 1 rfl ?_
    refine cg_66_0_Mat_18 (pc := 99) C d_Mat_rewrites_99 ?_
    refine ax_aload_n (pc := 102) C d_Mat_rewrites_102 rfl 4 rfl ?_
    refine ax_iload (pc := 103) C d_Mat_rewrites_103 5 rfl ?_
    obtain ⟨σ5, r5, d1_5, d2_5, h1, h, hd2, hd1⟩ := it_b h
    have hm : sC_Sym_after_40 l D kA u w tx σ4 [x2] (σ5, r5, d1_5) := ih tC_Sym_after_40 _ _ _ h1
    refine cc_Vi (pc := 105) C (r0 := r5) (σ2 := σ5) (As := [.ref (u 40), .int x2]) (rest := []) (hm _ rfl) ml_Mat_51 6 rfl rfl rfl d_Mat_rewrites_105 rfl rfl (by dsimp only; omega) (by dsimp only; omega) (Nat.le_of_ble_eq_true rfl) (Nat.le_of_ble_eq_true rfl) (Nat.le_of_ble_eq_true rfl) ?_
    have hF : d2_5 + 1 ≤ F := by omega
    have hLo : 48 * d2_5 + 48 ≤ Lo := by omega
    refine ax_iload (pc := 108) C d_Mat_rewrites_108 5 rfl ?_
    refine ax_isub (pc := 110) C d_Mat_rewrites_110 ?_
    refine ax_istore (pc := 111) C d_Mat_rewrites_111 (Nat.le_of_ble_eq_true rfl) ([(9, .int ((r5 : Int32) - x2)), (8, .int r4), (0, .ref (u 66)), (1, .int x0), (2, .int x1), (3, .ref (u 40)), (4, .int x2), (5, .int x3), (6, .int x4), (7, .int x5)]) rfl ?_
    refine ax_aload_n (pc := 113) C d_Mat_rewrites_113 rfl 2 rfl ?_
    refine ax_iload (pc := 114) C d_Mat_rewrites_114 1 rfl ?_
    refine ax_aload_n (pc := 116) C d_Mat_rewrites_116 rfl 2 rfl ?_
    refine cg_66_1_Mat_22 (pc := 117) C d_Mat_rewrites_117 ?_
    refine ax_iload (pc := 120) C d_Mat_rewrites_120 7 rfl ?_
    refine ax_iconst (pc := 122) C 1 d_Mat_rewrites_122 (by decide +kernel) ?_
    refine ax_iload_n (pc := 123) C d_Mat_rewrites_123 rfl 4 rfl ?_
    refine ax_isub (pc := 124) C d_Mat_rewrites_124 ?_
    obtain ⟨σ6, r6, d1_6, d2_6, h1, h, hd2, hd1⟩ := it_b h
    have hm : sC_Sto_sideSize l D kA u w tx σ5 [x3, ((1 : Int32) - x1)] (σ6, r6, d1_6) := ih tC_Sto_sideSize _ _ _ h1
    refine cc_Vi (pc := 125) C (r0 := r6) (σ2 := σ6) (As := [.int x3, .int ((1 : Int32) - x1)]) (rest := [.int r4, .ref (u 66)]) (hm _ _ rfl) ml_Mat_62 54 rfl rfl rfl d_Mat_rewrites_125 rfl rfl (by dsimp only; omega) (by dsimp only; omega) (Nat.le_of_ble_eq_true rfl) (Nat.le_of_ble_eq_true rfl) (Nat.le_of_ble_eq_true rfl) ?_
    have hF : d2_6 + 1 ≤ F := by omega
    have hLo : 48 * d2_6 + 48 ≤ Lo := by omega
    refine ax_aload_n (pc := 128) C d_Mat_rewrites_128 rfl 5 rfl ?_
    refine ax_iload (pc := 129) C d_Mat_rewrites_129 0 rfl ?_
    obtain ⟨σ7, r7, d1_7, d2_7, h1, h, hd2, hd1⟩ := it_b h
    have hm : sC_Mat_makeImage_40 l D kA u w tx σ6 [r4, r6, ((r5 : Int32) - x2)] (σ7, r7, d1_7) := ih tC_Mat_makeImage_40 _ _ _ h1
    refine cc_Vi (pc := 131) C (r0 := r7) (σ2 := σ7) (As := [.int r4, .int r6, .ref (u 40), .int ((r5 : Int32) - x2)]) (rest := []) (hm _ _ _ rfl) ml_Mat_69 66 rfl rfl rfl d_Mat_rewrites_131 rfl rfl (by dsimp only; omega) (by dsimp only; omega) (Nat.le_of_ble_eq_true rfl) (Nat.le_of_ble_eq_true rfl) (Nat.le_of_ble_eq_true rfl) ?_
    have hF : d2_7 + 1 ≤ F := by omega
    have hLo : 48 * d2_7 + 48 ≤ Lo := by omega
    refine ax_if_eq (pc := 134) C 159 d_Mat_rewrites_134 (by decide) (fun hc => ?_) (fun hc => ?_)
    · have h := it_t hc h
      refine ax_ls ([(0, .ref (u 66)), (1, .int x0), (2, .int x1), (3, .ref (u 40)), (4, .int x2), (5, .int x3), (6, .int x4), (7, .int x5), (8, .int r4), (9, .int ((r5 : Int32) - x2))]) [2, 3, 4, 5, 6, 7, 8, 9, 1, 0] rfl ?_
      have hm : sC_Mat_rewrites_40_p159 l D kA u w tx σ7 [x0, x1, x2, x3, x4, x5, r4, ((r5 : Int32) - x2)] (σf, rf, _) := ih tC_Mat_rewrites_40_p159 _ _ _ h
      exact hm _ _ _ _ _ _ _ _ rfl p e s m args below meth c F Lo σ0 hF hLo C
    · have h := it_f hc h
      refine ax_aload_n (pc := 137) C d_Mat_rewrites_137 rfl 2 rfl ?_
      refine cg_66_0_Mat_18 (pc := 138) C d_Mat_rewrites_138 ?_
      refine ax_aload_n (pc := 141) C d_Mat_rewrites_141 rfl 5 rfl ?_
      refine ax_iload (pc := 142) C d_Mat_rewrites_142 6 rfl ?_
      refine ax_aload_n (pc := 144) C d_Mat_rewrites_144 rfl 2 rfl ?_
      refine cg_66_4_Mat_15 (pc := 145) C d_Mat_rewrites_145 ?_
      refine ax_iconst (pc := 148) C 0 d_Mat_rewrites_148 (by decide +kernel) ?_
      obtain ⟨σ8, r8, d1_8, d2_8, h1, h, hd2, hd1⟩ := it_b h
      have hm : sC_Sym_greater_40_68 l D kA u w tx σ7 [x2, 0] (σ8, r8, d1_8) := ih tC_Sym_greater_40_68 _ _ _ h1
      refine cc_Vi (pc := 149) C (r0 := r8) (σ2 := σ8) (As := [.ref (u 40), .int x2, .ref (u 68), .int 0]) (rest := []) (hm _ _ rfl) ml_Mat_72 6 rfl rfl rfl d_Mat_rewrites_149 rfl rfl (by dsimp only; omega) (by dsimp only; omega) (Nat.le_of_ble_eq_true rfl) (Nat.le_of_ble_eq_true rfl) (Nat.le_of_ble_eq_true rfl) ?_
      have hF : d2_8 + 1 ≤ F := by omega
      have hLo : 48 * d2_8 + 48 ≤ Lo := by omega
      refine ax_if_eq (pc := 152) C 159 d_Mat_rewrites_152 (by decide) (fun hc => ?_) (fun hc => ?_)
      · have h := it_t hc h
        refine ax_ls ([(0, .ref (u 66)), (1, .int x0), (2, .int x1), (3, .ref (u 40)), (4, .int x2), (5, .int x3), (6, .int x4), (7, .int x5), (8, .int r4), (9, .int ((r5 : Int32) - x2))]) [2, 3, 4, 5, 6, 7, 8, 9, 1, 0] rfl ?_
        have hm : sC_Mat_rewrites_40_p159 l D kA u w tx σ8 [x0, x1, x2, x3, x4, x5, r4, ((r5 : Int32) - x2)] (σf, rf, _) := ih tC_Mat_rewrites_40_p159 _ _ _ h
        exact hm _ _ _ _ _ _ _ _ rfl p e s m args below meth c F Lo σ0 hF hLo C
      · have h := it_f hc h
        refine ax_iconst (pc := 155) C 1 d_Mat_rewrites_155 (by decide +kernel) ?_
        refine ax_goto (pc := 156) C 160 d_Mat_rewrites_156 (by decide) ?_
        refine ax_ls ([(0, .ref (u 66)), (1, .int x0), (2, .int x1), (3, .ref (u 40)), (4, .int x2), (5, .int x3), (6, .int x4), (7, .int x5), (8, .int r4), (9, .int ((r5 : Int32) - x2))]) [2, 3, 4, 5, 6, 7, 8, 9, 1, 0] rfl ?_
        have hm : sC_Mat_rewrites_40_p160 l D kA u w tx σ8 [x0, x1, x2, x3, x4, x5, r4, ((r5 : Int32) - x2), 1] (σf, rf, _) := ih tC_Mat_rewrites_40_p160 _ _ _ h
        exact hm _ _ _ _ _ _ _ _ _ rfl p e s m args below meth c F Lo σ0 hF hLo C
  · have h := it_t hc h
    refine ax_iconst (pc := 82) C 0 d_Mat_rewrites_82 (by decide +kernel) ?_
    cases h
    exact ax_zret (pc := 83) C d_Mat_rewrites_83 rfl ⟨rfl, rfl⟩ (Nat.le_refl _) (Nat.le_refl _)
set_option maxHeartbeats 4000000 in
set_option maxRecDepth 100000 in
theorem oC_Mat_rewrites_40_p159 (l : Launch) (D : va_G) (kA : Nat → ClassId) (u w : Nat → Nat) (tx : Value) (rec : mF) (ih : ∀ t σ xs res, rec t σ xs = some res → cSem l D kA u w tx t σ xs res) (σ : mS) (xs : List Int32) (res : mR) (h : u_8 (kC_Mat_rewrites_40_p159 rec σ) xs = some res) : sC_Mat_rewrites_40_p159 l D kA u w tx σ xs res := by
  intro x0 x1 x2 x3 x4 x5 x6 x7 hxs
  subst hxs
  obtain ⟨σf, rf, dd⟩ := res
  have h : (rec tC_Mat_rewrites_40_p160 σ [x0, x1, x2, x3, x4, x5, x6, x7, 0]) = some (σf, rf, dd) := h
  intro p e s m args below meth c F Lo σ0 hF hLo C
  dsimp only at hF hLo ⊢
  refine ax_iconst (pc := 159) C 0 d_Mat_rewrites_159 (by decide +kernel) ?_
  refine ax_ls ([(0, .ref (u 66)), (1, .int x0), (2, .int x1), (3, .ref (u 40)), (4, .int x2), (5, .int x3), (6, .int x4), (7, .int x5), (8, .int x6), (9, .int x7)]) [0, 1, 2, 3, 4, 5, 6, 7, 8, 9] rfl ?_
  have hm : sC_Mat_rewrites_40_p160 l D kA u w tx σ [x0, x1, x2, x3, x4, x5, x6, x7, 0] (σf, rf, _) := ih tC_Mat_rewrites_40_p160 _ _ _ h
  exact hm _ _ _ _ _ _ _ _ _ rfl p e s m args below meth c F Lo σ0 hF hLo C
set_option maxHeartbeats 4000000 in
set_option maxRecDepth 100000 in
theorem oC_Mat_rewrites_40_p160 (l : Launch) (D : va_G) (kA : Nat → ClassId) (u w : Nat → Nat) (tx : Value) (rec : mF) (ih : ∀ t σ xs res, rec t σ xs = some res → cSem l D kA u w tx t σ xs res) (σ : mS) (xs : List Int32) (res : mR) (h : u_9 (kC_Mat_rewrites_40_p160 rec σ) xs = some res) : sC_Mat_rewrites_40_p160 l D kA u w tx σ xs res := by
  intro x0 x1 x2 x3 x4 x5 x6 x7 x8 hxs
  subst hxs
  obtain ⟨σf, rf, dd⟩ := res
  have h : (if x8 = 0 ∨ x8 = 1 then some (σ, x8, 0) else none) = some (σf, rf, dd) := h
  intro p e s m args below meth c F Lo σ0 hF hLo C
  dsimp only at hF hLo ⊢
  obtain ⟨hb, h⟩ := it_g h
  cases h
  exact ax_zret (pc := 160) C d_Mat_rewrites_160 (nb01 hb) ⟨rfl, rfl⟩ (Nat.le_refl _) (Nat.le_refl _)
set_option maxHeartbeats 4000000 in
set_option maxRecDepth 100000 in
theorem oC_Mat_rewrites_48 (l : Launch) (D : va_G) (kA : Nat → ClassId) (u w : Nat → Nat) (tx : Value) (rec : mF) (ih : ∀ t σ xs res, rec t σ xs = some res → cSem l D kA u w tx t σ xs res) (σ : mS) (xs : List Int32) (res : mR) (h : u_3 (kC_Mat_rewrites_48 rec σ) xs = some res) : sC_Mat_rewrites_48 l D kA u w tx σ xs res := by
  intro x0 x1 x2 hxs
  subst hxs
  obtain ⟨σf, rf, dd⟩ := res
  have h : (bnd (rec tC_Sto_fact σ [x0, 8]) (fun σ1 r1 => bnd (rec tC_Sto_sideAt σ1 [r1, x1]) (fun σ2 r2 => if bin r2 (σ2.2.2 48) = true then (if (σ2.2.1 48 (Int32.toNatClampNeg r2)) < 0 then (rec tC_Mat_rewrites_48_p55 σ2 [x0, x1, x2, r1, r2, (σ2.2.1 48 (Int32.toNatClampNeg r2))]) else (if bin x2 (σ2.2.2 48) = true then (if (σ2.2.1 48 (Int32.toNatClampNeg r2)) = (σ2.2.1 48 (Int32.toNatClampNeg x2)) then (rec tC_Mat_rewrites_48_p55 σ2 [x0, x1, x2, r1, r2, (σ2.2.1 48 (Int32.toNatClampNeg r2))]) else (some (σ2, 0, 0))) else none)) else none))) = some (σf, rf, dd) := h
  refine ax_Mi.of (by decide +kernel) (Nat.le_of_ble_eq_true rfl) ?_
  intro p e s m args below meth c C hnm
  have C : ax_C p s m args meth c b_Mat_rewrites "ClauseProver$Matcher" 10 (some .boolean) D kA (va_A (cpW kA u w tx σ) s.heap.size) := C
  obtain ⟨F, hFe⟩ : ∃ F, F = dd + 1 := ⟨_, rfl⟩
  obtain ⟨Lo, hLoe⟩ : ∃ Lo, Lo = 48 * dd + 48 := ⟨_, rfl⟩
  obtain ⟨σ0, hσ0⟩ : ∃ s0, s0 = σ := ⟨_, rfl⟩
  suffices K : AW p l e { frames := F, cells := 0, slots := 0, locals := Lo } s m args below meth c D kA (va_A (cpW kA u w tx σ0) s.heap.size) 10 (ax_Qi below args s D kA (cpW kA u w tx σ0) 0 0 (fun r w1 => r = rf ∧ w1 = cpW kA u w tx σf)) 0 [(0, .ref (u 66)), (1, .int x0), (2, .int x1), (3, .ref (w 48)), (4, .int x2)] [] (cpW kA u w tx σ) 0 0 by rw [hFe, hLoe, hσ0] at K; exact ax_ls ([(0, .ref (u 66)), (1, .int x0), (2, .int x1), (3, .ref (w 48)), (4, .int x2)]) [0, 1, 2, 3, 4] rfl K
  have C : ax_C p s m args meth c b_Mat_rewrites "ClauseProver$Matcher" 10 (some .boolean) D kA (va_A (cpW kA u w tx σ0) s.heap.size) := by rw [hσ0]; exact C
  have hF : dd + 1 ≤ F := by omega
  have hLo : 48 * dd + 48 ≤ Lo := by omega
  clear hFe hLoe hσ0
  refine ax_aload_n (pc := 0) C d_Mat_rewrites_0 rfl 0 rfl ?_
  refine cg_66_1_Mat_22 (pc := 1) C d_Mat_rewrites_1 ?_
  refine ax_iload_n (pc := 4) C d_Mat_rewrites_4 rfl 1 rfl ?_
  refine ax_bipush (pc := 5) C 8 d_Mat_rewrites_5 (by decide +kernel) ?_
  obtain ⟨σ1, r1, d1_1, d2_1, h1, h, hd2, hd1⟩ := it_b h
  have hm : sC_Sto_fact l D kA u w tx σ [x0, 8] (σ1, r1, d1_1) := ih tC_Sto_fact _ _ _ h1
  refine cc_Vi (pc := 7) C (r0 := r1) (σ2 := σ1) (As := [.int x0, .int 8]) (rest := []) (hm _ _ rfl) ml_Mat_55 54 rfl rfl rfl d_Mat_rewrites_7 rfl rfl (by dsimp only; omega) (by dsimp only; omega) (Nat.le_of_ble_eq_true rfl) (Nat.le_of_ble_eq_true rfl) (Nat.le_of_ble_eq_true rfl) ?_
  have hF : d2_1 + 1 ≤ F := by omega
  have hLo : 48 * d2_1 + 48 ≤ Lo := by omega
  refine ax_istore (pc := 10) C d_Mat_rewrites_10 (Nat.le_of_ble_eq_true rfl) ([(5, .int r1), (0, .ref (u 66)), (1, .int x0), (2, .int x1), (3, .ref (w 48)), (4, .int x2)]) rfl ?_
  refine ax_aload_n (pc := 12) C d_Mat_rewrites_12 rfl 1 rfl ?_
  refine cg_66_1_Mat_22 (pc := 13) C d_Mat_rewrites_13 ?_
  refine ax_iload (pc := 16) C d_Mat_rewrites_16 0 rfl ?_
  refine ax_iload_n (pc := 18) C d_Mat_rewrites_18 rfl 3 rfl ?_
  obtain ⟨σ2, r2, d1_2, d2_2, h1, h, hd2, hd1⟩ := it_b h
  have hm : sC_Sto_sideAt l D kA u w tx σ1 [r1, x1] (σ2, r2, d1_2) := ih tC_Sto_sideAt _ _ _ h1
  refine cc_Vi (pc := 19) C (r0 := r2) (σ2 := σ2) (As := [.int r1, .int x1]) (rest := []) (hm _ _ rfl) ml_Mat_59 54 rfl rfl rfl d_Mat_rewrites_19 rfl rfl (by dsimp only; omega) (by dsimp only; omega) (Nat.le_of_ble_eq_true rfl) (Nat.le_of_ble_eq_true rfl) (Nat.le_of_ble_eq_true rfl) ?_
  have hF : d2_2 + 1 ≤ F := by omega
  have hLo : 48 * d2_2 + 48 ≤ Lo := by omega
  refine ax_istore (pc := 22) C d_Mat_rewrites_22 (Nat.le_of_ble_eq_true rfl) ([(6, .int r2), (5, .int r1), (0, .ref (u 66)), (1, .int x0), (2, .int x1), (3, .ref (w 48)), (4, .int x2)]) rfl ?_
  refine ax_aload_n (pc := 24) C d_Mat_rewrites_24 rfl 2 rfl ?_
  refine cg_66_1_Mat_22 (pc := 25) C d_Mat_rewrites_25 ?_
  refine cg_54_0_Mat_26 (pc := 28) C d_Mat_rewrites_28 ?_
  refine cg_47_0_Mat_32 (pc := 31) C d_Mat_rewrites_31 ?_
  refine ax_iload (pc := 34) C d_Mat_rewrites_34 0 rfl ?_
  obtain ⟨hb, h⟩ := it_g h
  refine cl_48 (pc := 36) C d_Mat_rewrites_36 (bin_in hb) ?_
  refine ax_istore (pc := 37) C d_Mat_rewrites_37 (Nat.le_of_ble_eq_true rfl) ([(7, .int (σ2.2.1 48 (Int32.toNatClampNeg r2))), (6, .int r2), (5, .int r1), (0, .ref (u 66)), (1, .int x0), (2, .int x1), (3, .ref (w 48)), (4, .int x2)]) rfl ?_
  refine ax_iload (pc := 39) C d_Mat_rewrites_39 0 rfl ?_
  refine ax_if_lt (pc := 41) C 55 d_Mat_rewrites_41 (by decide) (fun hc => ?_) (fun hc => ?_)
  · have h := it_t hc h
    refine ax_ls ([(0, .ref (u 66)), (1, .int x0), (2, .int x1), (3, .ref (w 48)), (4, .int x2), (5, .int r1), (6, .int r2), (7, .int (σ2.2.1 48 (Int32.toNatClampNeg r2)))]) [3, 4, 5, 6, 7, 2, 1, 0] rfl ?_
    have hm : sC_Mat_rewrites_48_p55 l D kA u w tx σ2 [x0, x1, x2, r1, r2, (σ2.2.1 48 (Int32.toNatClampNeg r2))] (σf, rf, _) := ih tC_Mat_rewrites_48_p55 _ _ _ h
    exact hm _ _ _ _ _ _ rfl p e s m args below meth c F Lo σ0 hF hLo C
  · have h := it_f hc h
    refine ax_iload (pc := 44) C d_Mat_rewrites_44 0 rfl ?_
    refine ax_aload_n (pc := 46) C d_Mat_rewrites_46 rfl 6 rfl ?_
    refine ax_iload (pc := 47) C d_Mat_rewrites_47 7 rfl ?_
    obtain ⟨hb, h⟩ := it_g h
    refine cl_48 (pc := 49) C d_Mat_rewrites_49 (bin_in hb) ?_
    refine ax_icmp_eq (pc := 50) C 55 d_Mat_rewrites_50 (by decide) (fun hc => ?_) (fun hc => ?_)
    · have h := it_t hc h
      refine ax_ls ([(0, .ref (u 66)), (1, .int x0), (2, .int x1), (3, .ref (w 48)), (4, .int x2), (5, .int r1), (6, .int r2), (7, .int (σ2.2.1 48 (Int32.toNatClampNeg r2)))]) [3, 4, 5, 6, 7, 2, 1, 0] rfl ?_
      have hm : sC_Mat_rewrites_48_p55 l D kA u w tx σ2 [x0, x1, x2, r1, r2, (σ2.2.1 48 (Int32.toNatClampNeg r2))] (σf, rf, _) := ih tC_Mat_rewrites_48_p55 _ _ _ h
      exact hm _ _ _ _ _ _ rfl p e s m args below meth c F Lo σ0 hF hLo C
    · have h := it_f hc h
      refine ax_iconst (pc := 53) C 0 d_Mat_rewrites_53 (by decide +kernel) ?_
      cases h
      exact ax_zret (pc := 54) C d_Mat_rewrites_54 rfl ⟨rfl, rfl⟩ (Nat.le_refl _) (Nat.le_refl _)
set_option maxHeartbeats 4000000 in
set_option maxRecDepth 100000 in
theorem oC_Mat_rewrites_48_p55 (l : Launch) (D : va_G) (kA : Nat → ClassId) (u w : Nat → Nat) (tx : Value) (rec : mF) (ih : ∀ t σ xs res, rec t σ xs = some res → cSem l D kA u w tx t σ xs res) (σ : mS) (xs : List Int32) (res : mR) (h : u_6 (kC_Mat_rewrites_48_p55 rec σ) xs = some res) : sC_Mat_rewrites_48_p55 l D kA u w tx σ xs res := by
  intro x0 x1 x2 x3 x4 x5 hxs
  subst hxs
  obtain ⟨σf, rf, dd⟩ := res
  have h : (lt_ (mI σ 6603 0) (fun σ1 => bnd (rec tC_Sto_sideSize σ1 [x3, x1]) (fun σ2 r2 => bnd (rec tC_Mat_matches_48 σ2 [x4, r2, x2]) (fun σ3 r3 => if r3 = 0 then (some (σ3, 0, 0)) else (bnd (rec tC_Sto_sideAt σ3 [x3, ((1 : Int32) - x1)]) (fun σ4 r4 => bnd (rec tC_Sym_after_48 σ4 [x2]) (fun σ5 r5 => bnd (rec tC_Sto_sideSize σ5 [x3, ((1 : Int32) - x1)]) (fun σ6 r6 => bnd (rec tC_Mat_makeImage_48 σ6 [r4, r6, ((r5 : Int32) - x2)]) (fun σ7 r7 => if r7 = 0 then (rec tC_Mat_rewrites_48_p159 σ7 [x0, x1, x2, x3, x4, x5, r4, ((r5 : Int32) - x2)]) else (bnd (rec tC_Sym_greater_48_68 σ7 [x2, 0]) (fun σ8 r8 => if r8 = 0 then (rec tC_Mat_rewrites_48_p159 σ8 [x0, x1, x2, x3, x4, x5, r4, ((r5 : Int32) - x2)]) else (rec tC_Mat_rewrites_48_p160 σ8 [x0, x1, x2, x3, x4, x5, r4, ((r5 : Int32) - x2), 1])))))))))))) = some (σf, rf, dd) := h
  intro p e s m args below meth c F Lo σ0 hF hLo C
  dsimp only at hF hLo ⊢
  refine ax_aload_n (pc := 55) C d_Mat_rewrites_55 rfl 0 rfl ?_
  refine ax_iconst (pc := 56) C 0 d_Mat_rewrites_56 (by decide +kernel) ?_
  refine cq_66_3_Mat_37 (pc := 57) C d_Mat_rewrites_57 ?_
  have h := it_l h
  generalize mI σ 6603 0 = σ1 at h ⊢
  refine ax_aload_n (pc := 60) C d_Mat_rewrites_60 rfl 0 rfl ?_
  refine ax_iload (pc := 61) C d_Mat_rewrites_61 6 rfl ?_
  refine ax_aload_n (pc := 63) C d_Mat_rewrites_63 rfl 0 rfl ?_
  refine cg_66_1_Mat_22 (pc := 64) C d_Mat_rewrites_64 ?_
  refine ax_iload (pc := 67) C d_Mat_rewrites_67 5 rfl ?_
  refine ax_iload_n (pc := 69) C d_Mat_rewrites_69 rfl 2 rfl ?_
  obtain ⟨σ2, r2, d1_2, d2_2, h1, h, hd2, hd1⟩ := it_b h
  have hm : sC_Sto_sideSize l D kA u w tx σ1 [x3, x1] (σ2, r2, d1_2) := ih tC_Sto_sideSize _ _ _ h1
  refine cc_Vi (pc := 70) C (r0 := r2) (σ2 := σ2) (As := [.int x3, .int x1]) (rest := [.int x4, .ref (u 66)]) (hm _ _ rfl) ml_Mat_62 54 rfl rfl rfl d_Mat_rewrites_70 rfl rfl (by dsimp only; omega) (by dsimp only; omega) (Nat.le_of_ble_eq_true rfl) (Nat.le_of_ble_eq_true rfl) (Nat.le_of_ble_eq_true rfl) ?_
  have hF : d2_2 + 1 ≤ F := by omega
  have hLo : 48 * d2_2 + 48 ≤ Lo := by omega
  refine ax_aload_n (pc := 73) C d_Mat_rewrites_73 rfl 3 rfl ?_
  refine ax_iload (pc := 74) C d_Mat_rewrites_74 4 rfl ?_
  obtain ⟨σ3, r3, d1_3, d2_3, h1, h, hd2, hd1⟩ := it_b h
  have hm : sC_Mat_matches_48 l D kA u w tx σ2 [x4, r2, x2] (σ3, r3, d1_3) := ih tC_Mat_matches_48 _ _ _ h1
  refine cc_Vi (pc := 76) C (r0 := r3) (σ2 := σ3) (As := [.int x4, .int r2, .ref (w 48), .int x2]) (rest := []) (hm _ _ _ rfl) ml_Mat_65 66 rfl rfl rfl d_Mat_rewrites_76 rfl rfl (by dsimp only; omega) (by dsimp only; omega) (Nat.le_of_ble_eq_true rfl) (Nat.le_of_ble_eq_true rfl) (Nat.le_of_ble_eq_true rfl) ?_
  have hF : d2_3 + 1 ≤ F := by omega
  have hLo : 48 * d2_3 + 48 ≤ Lo := by omega
  refine ax_if_ne (pc := 79) C 84 d_Mat_rewrites_79 (by decide) (fun hc => ?_) (fun hc => ?_)
  · have h := it_f hc h
    refine ax_aload_n (pc := 84) C d_Mat_rewrites_84 rfl 0 rfl ?_
    refine cg_66_1_Mat_22 (pc := 85) C d_Mat_rewrites_85 ?_
    refine ax_iload (pc := 88) C d_Mat_rewrites_88 5 rfl ?_
    refine ax_iconst (pc := 90) C 1 d_Mat_rewrites_90 (by decide +kernel) ?_
    refine ax_iload_n (pc := 91) C d_Mat_rewrites_91 rfl 2 rfl ?_
    refine ax_isub (pc := 92) C d_Mat_rewrites_92 ?_
    obtain ⟨σ4, r4, d1_4, d2_4, h1, h, hd2, hd1⟩ := it_b h
    have hm : sC_Sto_sideAt l D kA u w tx σ3 [x3, ((1 : Int32) - x1)] (σ4, r4, d1_4) := ih tC_Sto_sideAt _ _ _ h1
    refine cc_Vi (pc := 93) C (r0 := r4) (σ2 := σ4) (As := [.int x3, .int ((1 : Int32) - x1)]) (rest := []) (hm _ _ rfl) ml_Mat_59 54 rfl rfl rfl d_Mat_rewrites_93 rfl rfl (by dsimp only; omega) (by dsimp only; omega) (Nat.le_of_ble_eq_true rfl) (Nat.le_of_ble_eq_true rfl) (Nat.le_of_ble_eq_true rfl) ?_
    have hF : d2_4 + 1 ≤ F := by omega
    have hLo : 48 * d2_4 + 48 ≤ Lo := by omega
    refine ax_istore (pc := 96) C d_Mat_rewrites_96 (Nat.le_of_ble_eq_true rfl) ([(8, .int r4), (0, .ref (u 66)), (1, .int x0), (2, .int x1), (3, .ref (w 48)), (4, .int x2), (5, .int x3), (6, .int x4), (7, .int x5)]) rfl ?_
    refine ax_aload_n (pc := 98) C d_Mat_rewrites_98 rfl 1 rfl ?_
    refine cg_66_0_Mat_18 (pc := 99) C d_Mat_rewrites_99 ?_
    refine ax_aload_n (pc := 102) C d_Mat_rewrites_102 rfl 4 rfl ?_
    refine ax_iload (pc := 103) C d_Mat_rewrites_103 5 rfl ?_
    obtain ⟨σ5, r5, d1_5, d2_5, h1, h, hd2, hd1⟩ := it_b h
    have hm : sC_Sym_after_48 l D kA u w tx σ4 [x2] (σ5, r5, d1_5) := ih tC_Sym_after_48 _ _ _ h1
    refine cc_Vi (pc := 105) C (r0 := r5) (σ2 := σ5) (As := [.ref (w 48), .int x2]) (rest := []) (hm _ rfl) ml_Mat_51 6 rfl rfl rfl d_Mat_rewrites_105 rfl rfl (by dsimp only; omega) (by dsimp only; omega) (Nat.le_of_ble_eq_true rfl) (Nat.le_of_ble_eq_true rfl) (Nat.le_of_ble_eq_true rfl) ?_
    have hF : d2_5 + 1 ≤ F := by omega
    have hLo : 48 * d2_5 + 48 ≤ Lo := by omega
    refine ax_iload (pc := 108) C d_Mat_rewrites_108 5 rfl ?_
    refine ax_isub (pc := 110) C d_Mat_rewrites_110 ?_
    refine ax_istore (pc := 111) C d_Mat_rewrites_111 (Nat.le_of_ble_eq_true rfl) ([(9, .int ((r5 : Int32) - x2)), (8, .int r4), (0, .ref (u 66)), (1, .int x0), (2, .int x1), (3, .ref (w 48)), (4, .int x2), (5, .int x3), (6, .int x4), (7, .int x5)]) rfl ?_
    refine ax_aload_n (pc := 113) C d_Mat_rewrites_113 rfl 2 rfl ?_
    refine ax_iload (pc := 114) C d_Mat_rewrites_114 1 rfl ?_
    refine ax_aload_n (pc := 116) C d_Mat_rewrites_116 rfl 2 rfl ?_
    refine cg_66_1_Mat_22 (pc := 117) C d_Mat_rewrites_117 ?_
    refine ax_iload (pc := 120) C d_Mat_rewrites_120 7 rfl ?_
    refine ax_iconst (pc := 122) C 1 d_Mat_rewrites_122 (by decide +kernel) ?_
    refine ax_iload_n (pc := 123) C d_Mat_rewrites_123 rfl 4 rfl ?_
    refine ax_isub (pc := 124) C d_Mat_rewrites_124 ?_
    obtain ⟨σ6, r6, d1_6, d2_6, h1, h, hd2, hd1⟩ := it_b h
    have hm : sC_Sto_sideSize l D kA u w tx σ5 [x3, ((1 : Int32) - x1)] (σ6, r6, d1_6) := ih tC_Sto_sideSize _ _ _ h1
    refine cc_Vi (pc := 125) C (r0 := r6) (σ2 := σ6) (As := [.int x3, .int ((1 : Int32) - x1)]) (rest := [.int r4, .ref (u 66)]) (hm _ _ rfl) ml_Mat_62 54 rfl rfl rfl d_Mat_rewrites_125 rfl rfl (by dsimp only; omega) (by dsimp only; omega) (Nat.le_of_ble_eq_true rfl) (Nat.le_of_ble_eq_true rfl) (Nat.le_of_ble_eq_true rfl) ?_
    have hF : d2_6 + 1 ≤ F := by omega
    have hLo : 48 * d2_6 + 48 ≤ Lo := by omega
    refine ax_aload_n (pc := 128) C d_Mat_rewrites_128 rfl 5 rfl ?_
    refine ax_iload (pc := 129) C d_Mat_rewrites_129 0 rfl ?_
    obtain ⟨σ7, r7, d1_7, d2_7, h1, h, hd2, hd1⟩ := it_b h
    have hm : sC_Mat_makeImage_48 l D kA u w tx σ6 [r4, r6, ((r5 : Int32) - x2)] (σ7, r7, d1_7) := ih tC_Mat_makeImage_48 _ _ _ h1
    refine cc_Vi (pc := 131) C (r0 := r7) (σ2 := σ7) (As := [.int r4, .int r6, .ref (w 48), .int ((r5 : Int32) - x2)]) (rest := []) (hm _ _ _ rfl) ml_Mat_69 66 rfl rfl rfl d_Mat_rewrites_131 rfl rfl (by dsimp only; omega) (by dsimp only; omega) (Nat.le_of_ble_eq_true rfl) (Nat.le_of_ble_eq_true rfl) (Nat.le_of_ble_eq_true rfl) ?_
    have hF : d2_7 + 1 ≤ F := by omega
    have hLo : 48 * d2_7 + 48 ≤ Lo := by omega
    refine ax_if_eq (pc := 134) C 159 d_Mat_rewrites_134 (by decide) (fun hc => ?_) (fun hc => ?_)
    · have h := it_t hc h
      refine ax_ls ([(0, .ref (u 66)), (1, .int x0), (2, .int x1), (3, .ref (w 48)), (4, .int x2), (5, .int x3), (6, .int x4), (7, .int x5), (8, .int r4), (9, .int ((r5 : Int32) - x2))]) [2, 3, 4, 5, 6, 7, 8, 9, 1, 0] rfl ?_
      have hm : sC_Mat_rewrites_48_p159 l D kA u w tx σ7 [x0, x1, x2, x3, x4, x5, r4, ((r5 : Int32) - x2)] (σf, rf, _) := ih tC_Mat_rewrites_48_p159 _ _ _ h
      exact hm _ _ _ _ _ _ _ _ rfl p e s m args below meth c F Lo σ0 hF hLo C
    · have h := it_f hc h
      refine ax_aload_n (pc := 137) C d_Mat_rewrites_137 rfl 2 rfl ?_
      refine cg_66_0_Mat_18 (pc := 138) C d_Mat_rewrites_138 ?_
      refine ax_aload_n (pc := 141) C d_Mat_rewrites_141 rfl 5 rfl ?_
      refine ax_iload (pc := 142) C d_Mat_rewrites_142 6 rfl ?_
      refine ax_aload_n (pc := 144) C d_Mat_rewrites_144 rfl 2 rfl ?_
      refine cg_66_4_Mat_15 (pc := 145) C d_Mat_rewrites_145 ?_
      refine ax_iconst (pc := 148) C 0 d_Mat_rewrites_148 (by decide +kernel) ?_
      obtain ⟨σ8, r8, d1_8, d2_8, h1, h, hd2, hd1⟩ := it_b h
      have hm : sC_Sym_greater_48_68 l D kA u w tx σ7 [x2, 0] (σ8, r8, d1_8) := ih tC_Sym_greater_48_68 _ _ _ h1
      refine cc_Vi (pc := 149) C (r0 := r8) (σ2 := σ8) (As := [.ref (w 48), .int x2, .ref (u 68), .int 0]) (rest := []) (hm _ _ rfl) ml_Mat_72 6 rfl rfl rfl d_Mat_rewrites_149 rfl rfl (by dsimp only; omega) (by dsimp only; omega) (Nat.le_of_ble_eq_true rfl) (Nat.le_of_ble_eq_true rfl) (Nat.le_of_ble_eq_true rfl) ?_
      have hF : d2_8 + 1 ≤ F := by omega
      have hLo : 48 * d2_8 + 48 ≤ Lo := by omega
      refine ax_if_eq (pc := 152) C 159 d_Mat_rewrites_152 (by decide) (fun hc => ?_) (fun hc => ?_)
      · have h := it_t hc h
        refine ax_ls ([(0, .ref (u 66)), (1, .int x0), (2, .int x1), (3, .ref (w 48)), (4, .int x2), (5, .int x3), (6, .int x4), (7, .int x5), (8, .int r4), (9, .int ((r5 : Int32) - x2))]) [2, 3, 4, 5, 6, 7, 8, 9, 1, 0] rfl ?_
        have hm : sC_Mat_rewrites_48_p159 l D kA u w tx σ8 [x0, x1, x2, x3, x4, x5, r4, ((r5 : Int32) - x2)] (σf, rf, _) := ih tC_Mat_rewrites_48_p159 _ _ _ h
        exact hm _ _ _ _ _ _ _ _ rfl p e s m args below meth c F Lo σ0 hF hLo C
      · have h := it_f hc h
        refine ax_iconst (pc := 155) C 1 d_Mat_rewrites_155 (by decide +kernel) ?_
        refine ax_goto (pc := 156) C 160 d_Mat_rewrites_156 (by decide) ?_
        refine ax_ls ([(0, .ref (u 66)), (1, .int x0), (2, .int x1), (3, .ref (w 48)), (4, .int x2), (5, .int x3), (6, .int x4), (7, .int x5), (8, .int r4), (9, .int ((r5 : Int32) - x2))]) [2, 3, 4, 5, 6, 7, 8, 9, 1, 0] rfl ?_
        have hm : sC_Mat_rewrites_48_p160 l D kA u w tx σ8 [x0, x1, x2, x3, x4, x5, r4, ((r5 : Int32) - x2), 1] (σf, rf, _) := ih tC_Mat_rewrites_48_p160 _ _ _ h
        exact hm _ _ _ _ _ _ _ _ _ rfl p e s m args below meth c F Lo σ0 hF hLo C
  · have h := it_t hc h
    refine ax_iconst (pc := 82) C 0 d_Mat_rewrites_82 (by decide +kernel) ?_
    cases h
    exact ax_zret (pc := 83) C d_Mat_rewrites_83 rfl ⟨rfl, rfl⟩ (Nat.le_refl _) (Nat.le_refl _)
set_option maxHeartbeats 4000000 in
set_option maxRecDepth 100000 in
theorem oC_Mat_rewrites_48_p159 (l : Launch) (D : va_G) (kA : Nat → ClassId) (u w : Nat → Nat) (tx : Value) (rec : mF) (ih : ∀ t σ xs res, rec t σ xs = some res → cSem l D kA u w tx t σ xs res) (σ : mS) (xs : List Int32) (res : mR) (h : u_8 (kC_Mat_rewrites_48_p159 rec σ) xs = some res) : sC_Mat_rewrites_48_p159 l D kA u w tx σ xs res := by
  intro x0 x1 x2 x3 x4 x5 x6 x7 hxs
  subst hxs
  obtain ⟨σf, rf, dd⟩ := res
  have h : (rec tC_Mat_rewrites_48_p160 σ [x0, x1, x2, x3, x4, x5, x6, x7, 0]) = some (σf, rf, dd) := h
  intro p e s m args below meth c F Lo σ0 hF hLo C
  dsimp only at hF hLo ⊢
  refine ax_iconst (pc := 159) C 0 d_Mat_rewrites_159 (by decide +kernel) ?_
  refine ax_ls ([(0, .ref (u 66)), (1, .int x0), (2, .int x1), (3, .ref (w 48)), (4, .int x2), (5, .int x3), (6, .int x4), (7, .int x5), (8, .int x6), (9, .int x7)]) [0, 1, 2, 3, 4, 5, 6, 7, 8, 9] rfl ?_
  have hm : sC_Mat_rewrites_48_p160 l D kA u w tx σ [x0, x1, x2, x3, x4, x5, x6, x7, 0] (σf, rf, _) := ih tC_Mat_rewrites_48_p160 _ _ _ h
  exact hm _ _ _ _ _ _ _ _ _ rfl p e s m args below meth c F Lo σ0 hF hLo C
set_option maxHeartbeats 4000000 in
set_option maxRecDepth 100000 in
theorem oC_Mat_rewrites_48_p160 (l : Launch) (D : va_G) (kA : Nat → ClassId) (u w : Nat → Nat) (tx : Value) (rec : mF) (ih : ∀ t σ xs res, rec t σ xs = some res → cSem l D kA u w tx t σ xs res) (σ : mS) (xs : List Int32) (res : mR) (h : u_9 (kC_Mat_rewrites_48_p160 rec σ) xs = some res) : sC_Mat_rewrites_48_p160 l D kA u w tx σ xs res := by
  intro x0 x1 x2 x3 x4 x5 x6 x7 x8 hxs
  subst hxs
  obtain ⟨σf, rf, dd⟩ := res
  have h : (if x8 = 0 ∨ x8 = 1 then some (σ, x8, 0) else none) = some (σf, rf, dd) := h
  intro p e s m args below meth c F Lo σ0 hF hLo C
  dsimp only at hF hLo ⊢
  obtain ⟨hb, h⟩ := it_g h
  cases h
  exact ax_zret (pc := 160) C d_Mat_rewrites_160 (nb01 hb) ⟨rfl, rfl⟩ (Nat.le_refl _) (Nat.le_refl _)
set_option maxHeartbeats 4000000 in
set_option maxRecDepth 100000 in
theorem oC_Mat_rewritesIn (l : Launch) (D : va_G) (kA : Nat → ClassId) (u w : Nat → Nat) (tx : Value) (rec : mF) (ih : ∀ t σ xs res, rec t σ xs = some res → cSem l D kA u w tx t σ xs res) (σ : mS) (xs : List Int32) (res : mR) (h : u_2 (kC_Mat_rewritesIn rec σ) xs = some res) : sC_Mat_rewritesIn l D kA u w tx σ xs res := by
  intro x0 x1 hxs
  subst hxs
  obtain ⟨σf, rf, dd⟩ := res
  have h : (bnd (rec tC_Sto_fact σ [x1, 8]) (fun σ1 r1 => rec tC_Mat_rewritesIn_p26 σ1 [x0, x1, r1, 0])) = some (σf, rf, dd) := h
  refine ax_Mi.of (by decide +kernel) (Nat.le_of_ble_eq_true rfl) ?_
  intro p e s m args below meth c C hnm
  have C : ax_C p s m args meth c b_Mat_rewritesIn "ClauseProver$Matcher" 8 (some .boolean) D kA (va_A (cpW kA u w tx σ) s.heap.size) := C
  obtain ⟨F, hFe⟩ : ∃ F, F = dd + 1 := ⟨_, rfl⟩
  obtain ⟨Lo, hLoe⟩ : ∃ Lo, Lo = 48 * dd + 48 := ⟨_, rfl⟩
  obtain ⟨σ0, hσ0⟩ : ∃ s0, s0 = σ := ⟨_, rfl⟩
  suffices K : AW p l e { frames := F, cells := 0, slots := 0, locals := Lo } s m args below meth c D kA (va_A (cpW kA u w tx σ0) s.heap.size) 8 (ax_Qi below args s D kA (cpW kA u w tx σ0) 0 0 (fun r w1 => r = rf ∧ w1 = cpW kA u w tx σf)) 0 [(0, .ref (u 66)), (1, .int x0), (2, .int x1)] [] (cpW kA u w tx σ) 0 0 by rw [hFe, hLoe, hσ0] at K; exact ax_ls ([(0, .ref (u 66)), (1, .int x0), (2, .int x1)]) [0, 1, 2] rfl K
  have C : ax_C p s m args meth c b_Mat_rewritesIn "ClauseProver$Matcher" 8 (some .boolean) D kA (va_A (cpW kA u w tx σ0) s.heap.size) := by rw [hσ0]; exact C
  have hF : dd + 1 ≤ F := by omega
  have hLo : 48 * dd + 48 ≤ Lo := by omega
  clear hFe hLoe hσ0
  refine ax_aload_n (pc := 0) C d_Mat_rewritesIn_0 rfl 0 rfl ?_
  refine cg_66_1_Mat_22 (pc := 1) C d_Mat_rewritesIn_1 ?_
  refine ax_iload_n (pc := 4) C d_Mat_rewritesIn_4 rfl 2 rfl ?_
  refine ax_bipush (pc := 5) C 8 d_Mat_rewritesIn_5 (by decide +kernel) ?_
  obtain ⟨σ1, r1, d1_1, d2_1, h1, h, hd2, hd1⟩ := it_b h
  have hm : sC_Sto_fact l D kA u w tx σ [x1, 8] (σ1, r1, d1_1) := ih tC_Sto_fact _ _ _ h1
  refine cc_Vi (pc := 7) C (r0 := r1) (σ2 := σ1) (As := [.int x1, .int 8]) (rest := []) (hm _ _ rfl) ml_Mat_55 54 rfl rfl rfl d_Mat_rewritesIn_7 rfl rfl (by dsimp only; omega) (by dsimp only; omega) (Nat.le_of_ble_eq_true rfl) (Nat.le_of_ble_eq_true rfl) (Nat.le_of_ble_eq_true rfl) ?_
  have hF : d2_1 + 1 ≤ F := by omega
  have hLo : 48 * d2_1 + 48 ≤ Lo := by omega
  refine ax_istore_n (pc := 10) C d_Mat_rewritesIn_10 rfl (Nat.le_of_ble_eq_true rfl) ([(3, .int r1), (0, .ref (u 66)), (1, .int x0), (2, .int x1)]) rfl ?_
  refine ax_aload_n (pc := 11) C d_Mat_rewritesIn_11 rfl 1 rfl ?_
  refine cg_66_1_Mat_22 (pc := 12) C d_Mat_rewritesIn_12 ?_
  refine cg_54_0_Mat_26 (pc := 15) C d_Mat_rewritesIn_15 ?_
  refine cg_47_0_Mat_32 (pc := 18) C d_Mat_rewritesIn_18 ?_
  refine ax_astore (pc := 21) C d_Mat_rewritesIn_21 (Nat.le_of_ble_eq_true rfl) ([(4, .ref (w 48)), (3, .int r1), (0, .ref (u 66)), (1, .int x0), (2, .int x1)]) rfl ?_
  refine ax_iconst (pc := 23) C 0 d_Mat_rewritesIn_23 (by decide +kernel) ?_
  refine ax_istore (pc := 24) C d_Mat_rewritesIn_24 (Nat.le_of_ble_eq_true rfl) ([(5, .int 0), (4, .ref (w 48)), (3, .int r1), (0, .ref (u 66)), (1, .int x0), (2, .int x1)]) rfl ?_
  refine ax_ls ([(0, .ref (u 66)), (1, .int x0), (2, .int x1), (3, .int r1), (4, .ref (w 48)), (5, .int 0)]) [3, 4, 5, 2, 1, 0] rfl ?_
  have hm : sC_Mat_rewritesIn_p26 l D kA u w tx σ1 [x0, x1, r1, 0] (σf, rf, _) := ih tC_Mat_rewritesIn_p26 _ _ _ h
  exact hm _ _ _ _ rfl p e s m args below meth c F Lo σ0 hF hLo C
set_option maxHeartbeats 4000000 in
set_option maxRecDepth 100000 in
theorem oC_Mat_rewritesIn_p26 (l : Launch) (D : va_G) (kA : Nat → ClassId) (u w : Nat → Nat) (tx : Value) (rec : mF) (ih : ∀ t σ xs res, rec t σ xs = some res → cSem l D kA u w tx t σ xs res) (σ : mS) (xs : List Int32) (res : mR) (h : u_4 (kC_Mat_rewritesIn_p26 rec σ) xs = some res) : sC_Mat_rewritesIn_p26 l D kA u w tx σ xs res := by
  intro x0 x1 x2 x3 hxs
  subst hxs
  obtain ⟨σf, rf, dd⟩ := res
  have h : (bnd (rec tC_Sto_fact σ [x1, 3]) (fun σ1 r1 => if r1 ≤ x3 then (some (σ1, 0, 0)) else (bnd (rec tC_Sto_behind σ1 [x2]) (fun σ2 r2 => bnd (rec tC_Sto_sideAt σ2 [x2, 0]) (fun σ3 r3 => rec tC_Mat_rewritesIn_p61 σ3 [x0, x1, x2, x3, r2, r3]))))) = some (σf, rf, dd) := h
  intro p e s m args below meth c F Lo σ0 hF hLo C
  dsimp only at hF hLo ⊢
  refine ax_iload (pc := 26) C d_Mat_rewritesIn_26 5 rfl ?_
  refine ax_aload_n (pc := 28) C d_Mat_rewritesIn_28 rfl 0 rfl ?_
  refine cg_66_1_Mat_22 (pc := 29) C d_Mat_rewritesIn_29 ?_
  refine ax_iload_n (pc := 32) C d_Mat_rewritesIn_32 rfl 2 rfl ?_
  refine ax_iconst (pc := 33) C 3 d_Mat_rewritesIn_33 (by decide +kernel) ?_
  obtain ⟨σ1, r1, d1_1, d2_1, h1, h, hd2, hd1⟩ := it_b h
  have hm : sC_Sto_fact l D kA u w tx σ [x1, 3] (σ1, r1, d1_1) := ih tC_Sto_fact _ _ _ h1
  refine cc_Vi (pc := 34) C (r0 := r1) (σ2 := σ1) (As := [.int x1, .int 3]) (rest := [.int x3]) (hm _ _ rfl) ml_Mat_55 54 rfl rfl rfl d_Mat_rewritesIn_34 rfl rfl (by dsimp only; omega) (by dsimp only; omega) (Nat.le_of_ble_eq_true rfl) (Nat.le_of_ble_eq_true rfl) (Nat.le_of_ble_eq_true rfl) ?_
  have hF : d2_1 + 1 ≤ F := by omega
  have hLo : 48 * d2_1 + 48 ≤ Lo := by omega
  refine ax_icmp_ge (pc := 37) C 119 d_Mat_rewritesIn_37 (by decide) (fun hc => ?_) (fun hc => ?_)
  · have h := it_t hc h
    refine ax_iconst (pc := 119) C 0 d_Mat_rewritesIn_119 (by decide +kernel) ?_
    cases h
    exact ax_zret (pc := 120) C d_Mat_rewritesIn_120 rfl ⟨rfl, rfl⟩ (Nat.le_refl _) (Nat.le_refl _)
  · have h := it_f hc h
    refine ax_aload_n (pc := 40) C d_Mat_rewritesIn_40 rfl 0 rfl ?_
    refine cg_66_1_Mat_22 (pc := 41) C d_Mat_rewritesIn_41 ?_
    refine ax_iload_n (pc := 44) C d_Mat_rewritesIn_44 rfl 3 rfl ?_
    obtain ⟨σ2, r2, d1_2, d2_2, h1, h, hd2, hd1⟩ := it_b h
    have hm : sC_Sto_behind l D kA u w tx σ1 [x2] (σ2, r2, d1_2) := ih tC_Sto_behind _ _ _ h1
    refine cc_Vi (pc := 45) C (r0 := r2) (σ2 := σ2) (As := [.int x2]) (rest := []) (hm _ rfl) ml_Mat_102 54 rfl rfl rfl d_Mat_rewritesIn_45 rfl rfl (by dsimp only; omega) (by dsimp only; omega) (Nat.le_of_ble_eq_true rfl) (Nat.le_of_ble_eq_true rfl) (Nat.le_of_ble_eq_true rfl) ?_
    have hF : d2_2 + 1 ≤ F := by omega
    have hLo : 48 * d2_2 + 48 ≤ Lo := by omega
    refine ax_istore (pc := 48) C d_Mat_rewritesIn_48 (Nat.le_of_ble_eq_true rfl) ([(6, .int r2), (0, .ref (u 66)), (1, .int x0), (2, .int x1), (3, .int x2), (4, .ref (w 48)), (5, .int x3)]) rfl ?_
    refine ax_aload_n (pc := 50) C d_Mat_rewritesIn_50 rfl 1 rfl ?_
    refine cg_66_1_Mat_22 (pc := 51) C d_Mat_rewritesIn_51 ?_
    refine ax_iload_n (pc := 54) C d_Mat_rewritesIn_54 rfl 4 rfl ?_
    refine ax_iconst (pc := 55) C 0 d_Mat_rewritesIn_55 (by decide +kernel) ?_
    obtain ⟨σ3, r3, d1_3, d2_3, h1, h, hd2, hd1⟩ := it_b h
    have hm : sC_Sto_sideAt l D kA u w tx σ2 [x2, 0] (σ3, r3, d1_3) := ih tC_Sto_sideAt _ _ _ h1
    refine cc_Vi (pc := 56) C (r0 := r3) (σ2 := σ3) (As := [.int x2, .int 0]) (rest := []) (hm _ _ rfl) ml_Mat_59 54 rfl rfl rfl d_Mat_rewritesIn_56 rfl rfl (by dsimp only; omega) (by dsimp only; omega) (Nat.le_of_ble_eq_true rfl) (Nat.le_of_ble_eq_true rfl) (Nat.le_of_ble_eq_true rfl) ?_
    have hF : d2_3 + 1 ≤ F := by omega
    have hLo : 48 * d2_3 + 48 ≤ Lo := by omega
    refine ax_istore (pc := 59) C d_Mat_rewritesIn_59 (Nat.le_of_ble_eq_true rfl) ([(7, .int r3), (6, .int r2), (0, .ref (u 66)), (1, .int x0), (2, .int x1), (3, .int x2), (4, .ref (w 48)), (5, .int x3)]) rfl ?_
    refine ax_ls ([(0, .ref (u 66)), (1, .int x0), (2, .int x1), (3, .int x2), (4, .ref (w 48)), (5, .int x3), (6, .int r2), (7, .int r3)]) [2, 3, 4, 5, 6, 7, 1, 0] rfl ?_
    have hm : sC_Mat_rewritesIn_p61 l D kA u w tx σ3 [x0, x1, x2, x3, r2, r3] (σf, rf, _) := ih tC_Mat_rewritesIn_p61 _ _ _ h
    exact hm _ _ _ _ _ _ rfl p e s m args below meth c F Lo σ0 hF hLo C
set_option maxHeartbeats 4000000 in
set_option maxRecDepth 100000 in
theorem oC_Mat_rewritesIn_p61 (l : Launch) (D : va_G) (kA : Nat → ClassId) (u w : Nat → Nat) (tx : Value) (rec : mF) (ih : ∀ t σ xs res, rec t σ xs = some res → cSem l D kA u w tx t σ xs res) (σ : mS) (xs : List Int32) (res : mR) (h : u_6 (kC_Mat_rewritesIn_p61 rec σ) xs = some res) : sC_Mat_rewritesIn_p61 l D kA u w tx σ xs res := by
  intro x0 x1 x2 x3 x4 x5 hxs
  subst hxs
  obtain ⟨σf, rf, dd⟩ := res
  have h : (if x4 ≤ x5 then (rec tC_Mat_rewritesIn_p26 σ [x0, x1, x4, (x3 + 1)]) else (if bin x5 (σ.2.2 48) = true then (if (σ.2.1 48 (Int32.toNatClampNeg x5)) < 0 then (rec tC_Mat_rewritesIn_p104 σ [x0, x1, x2, x3, x4, x5]) else (bnd (rec tC_Mat_rewrites_48 σ [x0, 0, x5]) (fun σ1 r1 => if r1 = 0 then (bnd (rec tC_Mat_rewrites_48 σ1 [x0, 1, x5]) (fun σ2 r2 => if r2 = 0 then (rec tC_Mat_rewritesIn_p104 σ2 [x0, x1, x2, x3, x4, x5]) else (rec tC_Mat_rewritesIn_p102 σ2 [x0, x1, x2, x3, x4, x5]))) else (rec tC_Mat_rewritesIn_p102 σ1 [x0, x1, x2, x3, x4, x5])))) else none)) = some (σf, rf, dd) := h
  intro p e s m args below meth c F Lo σ0 hF hLo C
  dsimp only at hF hLo ⊢
  refine ax_iload (pc := 61) C d_Mat_rewritesIn_61 7 rfl ?_
  refine ax_iload (pc := 63) C d_Mat_rewritesIn_63 6 rfl ?_
  refine ax_icmp_ge (pc := 65) C 110 d_Mat_rewritesIn_65 (by decide) (fun hc => ?_) (fun hc => ?_)
  · have h := it_t hc h
    refine ax_iload (pc := 110) C d_Mat_rewritesIn_110 6 rfl ?_
    refine ax_istore_n (pc := 112) C d_Mat_rewritesIn_112 rfl (Nat.le_of_ble_eq_true rfl) ([(3, .int x4), (0, .ref (u 66)), (1, .int x0), (2, .int x1), (4, .ref (w 48)), (5, .int x3), (6, .int x4), (7, .int x5)]) rfl ?_
    refine ax_iinc (pc := 113) C (x3 + 1) d_Mat_rewritesIn_113 5 rfl rfl (Nat.le_of_ble_eq_true rfl) ([(5, .int (x3 + 1)), (3, .int x4), (0, .ref (u 66)), (1, .int x0), (2, .int x1), (4, .ref (w 48)), (6, .int x4), (7, .int x5)]) rfl ?_
    refine ax_goto (pc := 116) C 26 d_Mat_rewritesIn_116 (by decide) ?_
    refine ax_ls ([(0, .ref (u 66)), (1, .int x0), (2, .int x1), (3, .int x4), (4, .ref (w 48)), (5, .int (x3 + 1))]) [2, 3, 4, 1, 5, 0] rfl ?_
    have hm : sC_Mat_rewritesIn_p26 l D kA u w tx σ [x0, x1, x4, (x3 + 1)] (σf, rf, _) := ih tC_Mat_rewritesIn_p26 _ _ _ h
    exact hm _ _ _ _ rfl p e s m args below meth c F Lo σ0 hF hLo C
  · have h := it_f hc h
    refine ax_aload (pc := 68) C d_Mat_rewritesIn_68 4 rfl ?_
    refine ax_iload (pc := 70) C d_Mat_rewritesIn_70 7 rfl ?_
    obtain ⟨hb, h⟩ := it_g h
    refine cl_48 (pc := 72) C d_Mat_rewritesIn_72 (bin_in hb) ?_
    refine ax_if_lt (pc := 73) C 104 d_Mat_rewritesIn_73 (by decide) (fun hc => ?_) (fun hc => ?_)
    · have h := it_t hc h
      refine ax_ls ([(0, .ref (u 66)), (1, .int x0), (2, .int x1), (3, .int x2), (4, .ref (w 48)), (5, .int x3), (6, .int x4), (7, .int x5)]) [0, 1, 2, 3, 4, 5, 6, 7] rfl ?_
      have hm : sC_Mat_rewritesIn_p104 l D kA u w tx σ [x0, x1, x2, x3, x4, x5] (σf, rf, _) := ih tC_Mat_rewritesIn_p104 _ _ _ h
      exact hm _ _ _ _ _ _ rfl p e s m args below meth c F Lo σ0 hF hLo C
    · have h := it_f hc h
      refine ax_aload_n (pc := 76) C d_Mat_rewritesIn_76 rfl 0 rfl ?_
      refine ax_iload_n (pc := 77) C d_Mat_rewritesIn_77 rfl 1 rfl ?_
      refine ax_iconst (pc := 78) C 0 d_Mat_rewritesIn_78 (by decide +kernel) ?_
      refine ax_aload (pc := 79) C d_Mat_rewritesIn_79 4 rfl ?_
      refine ax_iload (pc := 81) C d_Mat_rewritesIn_81 7 rfl ?_
      obtain ⟨σ1, r1, d1_1, d2_1, h1, h, hd2, hd1⟩ := it_b h
      have hm : sC_Mat_rewrites_48 l D kA u w tx σ [x0, 0, x5] (σ1, r1, d1_1) := ih tC_Mat_rewrites_48 _ _ _ h1
      refine cc_Vi (pc := 83) C (r0 := r1) (σ2 := σ1) (As := [.int x0, .int 0, .ref (w 48), .int x5]) (rest := []) (hm _ _ _ rfl) ml_Mat_95 66 rfl rfl rfl d_Mat_rewritesIn_83 rfl rfl (by dsimp only; omega) (by dsimp only; omega) (Nat.le_of_ble_eq_true rfl) (Nat.le_of_ble_eq_true rfl) (Nat.le_of_ble_eq_true rfl) ?_
      have hF : d2_1 + 1 ≤ F := by omega
      have hLo : 48 * d2_1 + 48 ≤ Lo := by omega
      refine ax_if_ne (pc := 86) C 102 d_Mat_rewritesIn_86 (by decide) (fun hc => ?_) (fun hc => ?_)
      · have h := it_f hc h
        refine ax_ls ([(0, .ref (u 66)), (1, .int x0), (2, .int x1), (3, .int x2), (4, .ref (w 48)), (5, .int x3), (6, .int x4), (7, .int x5)]) [0, 1, 2, 3, 4, 5, 6, 7] rfl ?_
        have hm : sC_Mat_rewritesIn_p102 l D kA u w tx σ1 [x0, x1, x2, x3, x4, x5] (σf, rf, _) := ih tC_Mat_rewritesIn_p102 _ _ _ h
        exact hm _ _ _ _ _ _ rfl p e s m args below meth c F Lo σ0 hF hLo C
      · have h := it_t hc h
        refine ax_aload_n (pc := 89) C d_Mat_rewritesIn_89 rfl 0 rfl ?_
        refine ax_iload_n (pc := 90) C d_Mat_rewritesIn_90 rfl 1 rfl ?_
        refine ax_iconst (pc := 91) C 1 d_Mat_rewritesIn_91 (by decide +kernel) ?_
        refine ax_aload (pc := 92) C d_Mat_rewritesIn_92 4 rfl ?_
        refine ax_iload (pc := 94) C d_Mat_rewritesIn_94 7 rfl ?_
        obtain ⟨σ2, r2, d1_2, d2_2, h1, h, hd2, hd1⟩ := it_b h
        have hm : sC_Mat_rewrites_48 l D kA u w tx σ1 [x0, 1, x5] (σ2, r2, d1_2) := ih tC_Mat_rewrites_48 _ _ _ h1
        refine cc_Vi (pc := 96) C (r0 := r2) (σ2 := σ2) (As := [.int x0, .int 1, .ref (w 48), .int x5]) (rest := []) (hm _ _ _ rfl) ml_Mat_95 66 rfl rfl rfl d_Mat_rewritesIn_96 rfl rfl (by dsimp only; omega) (by dsimp only; omega) (Nat.le_of_ble_eq_true rfl) (Nat.le_of_ble_eq_true rfl) (Nat.le_of_ble_eq_true rfl) ?_
        have hF : d2_2 + 1 ≤ F := by omega
        have hLo : 48 * d2_2 + 48 ≤ Lo := by omega
        refine ax_if_eq (pc := 99) C 104 d_Mat_rewritesIn_99 (by decide) (fun hc => ?_) (fun hc => ?_)
        · have h := it_t hc h
          refine ax_ls ([(0, .ref (u 66)), (1, .int x0), (2, .int x1), (3, .int x2), (4, .ref (w 48)), (5, .int x3), (6, .int x4), (7, .int x5)]) [0, 1, 2, 3, 4, 5, 6, 7] rfl ?_
          have hm : sC_Mat_rewritesIn_p104 l D kA u w tx σ2 [x0, x1, x2, x3, x4, x5] (σf, rf, _) := ih tC_Mat_rewritesIn_p104 _ _ _ h
          exact hm _ _ _ _ _ _ rfl p e s m args below meth c F Lo σ0 hF hLo C
        · have h := it_f hc h
          refine ax_ls ([(0, .ref (u 66)), (1, .int x0), (2, .int x1), (3, .int x2), (4, .ref (w 48)), (5, .int x3), (6, .int x4), (7, .int x5)]) [0, 1, 2, 3, 4, 5, 6, 7] rfl ?_
          have hm : sC_Mat_rewritesIn_p102 l D kA u w tx σ2 [x0, x1, x2, x3, x4, x5] (σf, rf, _) := ih tC_Mat_rewritesIn_p102 _ _ _ h
          exact hm _ _ _ _ _ _ rfl p e s m args below meth c F Lo σ0 hF hLo C
set_option maxHeartbeats 4000000 in
set_option maxRecDepth 100000 in
theorem oC_Mat_rewritesIn_p102 (l : Launch) (D : va_G) (kA : Nat → ClassId) (u w : Nat → Nat) (tx : Value) (rec : mF) (ih : ∀ t σ xs res, rec t σ xs = some res → cSem l D kA u w tx t σ xs res) (σ : mS) (xs : List Int32) (res : mR) (h : u_6 (kC_Mat_rewritesIn_p102 rec σ) xs = some res) : sC_Mat_rewritesIn_p102 l D kA u w tx σ xs res := by
  intro x0 x1 x2 x3 x4 x5 hxs
  subst hxs
  obtain ⟨σf, rf, dd⟩ := res
  have h : (some (σ, 1, 0)) = some (σf, rf, dd) := h
  intro p e s m args below meth c F Lo σ0 hF hLo C
  dsimp only at hF hLo ⊢
  refine ax_iconst (pc := 102) C 1 d_Mat_rewritesIn_102 (by decide +kernel) ?_
  cases h
  exact ax_zret (pc := 103) C d_Mat_rewritesIn_103 rfl ⟨rfl, rfl⟩ (Nat.le_refl _) (Nat.le_refl _)
set_option maxHeartbeats 4000000 in
set_option maxRecDepth 100000 in
theorem oC_Mat_rewritesIn_p104 (l : Launch) (D : va_G) (kA : Nat → ClassId) (u w : Nat → Nat) (tx : Value) (rec : mF) (ih : ∀ t σ xs res, rec t σ xs = some res → cSem l D kA u w tx t σ xs res) (σ : mS) (xs : List Int32) (res : mR) (h : u_6 (kC_Mat_rewritesIn_p104 rec σ) xs = some res) : sC_Mat_rewritesIn_p104 l D kA u w tx σ xs res := by
  intro x0 x1 x2 x3 x4 x5 hxs
  subst hxs
  obtain ⟨σf, rf, dd⟩ := res
  have h : (rec tC_Mat_rewritesIn_p61 σ [x0, x1, x2, x3, x4, (x5 + 1)]) = some (σf, rf, dd) := h
  intro p e s m args below meth c F Lo σ0 hF hLo C
  dsimp only at hF hLo ⊢
  refine ax_iinc (pc := 104) C (x5 + 1) d_Mat_rewritesIn_104 7 rfl rfl (Nat.le_of_ble_eq_true rfl) ([(7, .int (x5 + 1)), (0, .ref (u 66)), (1, .int x0), (2, .int x1), (3, .int x2), (4, .ref (w 48)), (5, .int x3), (6, .int x4)]) rfl ?_
  refine ax_goto (pc := 107) C 61 d_Mat_rewritesIn_107 (by decide) ?_
  refine ax_ls ([(0, .ref (u 66)), (1, .int x0), (2, .int x1), (3, .int x2), (4, .ref (w 48)), (5, .int x3), (6, .int x4), (7, .int (x5 + 1))]) [1, 2, 3, 4, 5, 6, 7, 0] rfl ?_
  have hm : sC_Mat_rewritesIn_p61 l D kA u w tx σ [x0, x1, x2, x3, x4, (x5 + 1)] (σf, rf, _) := ih tC_Mat_rewritesIn_p61 _ _ _ h
  exact hm _ _ _ _ _ _ rfl p e s m args below meth c F Lo σ0 hF hLo C
set_option maxHeartbeats 4000000 in
set_option maxRecDepth 100000 in
theorem oC_Mat_subsumes (l : Launch) (D : va_G) (kA : Nat → ClassId) (u w : Nat → Nat) (tx : Value) (rec : mF) (ih : ∀ t σ xs res, rec t σ xs = some res → cSem l D kA u w tx t σ xs res) (σ : mS) (xs : List Int32) (res : mR) (h : u_2 (kC_Mat_subsumes rec σ) xs = some res) : sC_Mat_subsumes l D kA u w tx σ xs res := by
  intro x0 x1 hxs
  subst hxs
  obtain ⟨σf, rf, dd⟩ := res
  have h : (bnd (rec tC_Sto_fact σ [x0, 3]) (fun σ1 r1 => bnd (rec tC_Sto_fact σ1 [x1, 3]) (fun σ2 r2 => if r2 < r1 then (rec tC_Mat_subsumes_p28 σ2 [x0, x1, r1, 0]) else (rec tC_Mat_subsumes_p28 σ2 [x0, x1, r1, 1])))) = some (σf, rf, dd) := h
  refine ax_Mi.of (by decide +kernel) (Nat.le_of_ble_eq_true rfl) ?_
  intro p e s m args below meth c C hnm
  have C : ax_C p s m args meth c b_Mat_subsumes "ClauseProver$Matcher" 7 (some .boolean) D kA (va_A (cpW kA u w tx σ) s.heap.size) := C
  obtain ⟨F, hFe⟩ : ∃ F, F = dd + 1 := ⟨_, rfl⟩
  obtain ⟨Lo, hLoe⟩ : ∃ Lo, Lo = 48 * dd + 48 := ⟨_, rfl⟩
  obtain ⟨σ0, hσ0⟩ : ∃ s0, s0 = σ := ⟨_, rfl⟩
  suffices K : AW p l e { frames := F, cells := 0, slots := 0, locals := Lo } s m args below meth c D kA (va_A (cpW kA u w tx σ0) s.heap.size) 7 (ax_Qi below args s D kA (cpW kA u w tx σ0) 0 0 (fun r w1 => r = rf ∧ w1 = cpW kA u w tx σf)) 0 [(0, .ref (u 66)), (1, .int x0), (2, .int x1)] [] (cpW kA u w tx σ) 0 0 by rw [hFe, hLoe, hσ0] at K; exact ax_ls ([(0, .ref (u 66)), (1, .int x0), (2, .int x1)]) [0, 1, 2] rfl K
  have C : ax_C p s m args meth c b_Mat_subsumes "ClauseProver$Matcher" 7 (some .boolean) D kA (va_A (cpW kA u w tx σ0) s.heap.size) := by rw [hσ0]; exact C
  have hF : dd + 1 ≤ F := by omega
  have hLo : 48 * dd + 48 ≤ Lo := by omega
  clear hFe hLoe hσ0
  refine ax_aload_n (pc := 0) C d_Mat_subsumes_0 rfl 0 rfl ?_
  refine cg_66_1_Mat_22 (pc := 1) C d_Mat_subsumes_1 ?_
  refine ax_iload_n (pc := 4) C d_Mat_subsumes_4 rfl 1 rfl ?_
  refine ax_iconst (pc := 5) C 3 d_Mat_subsumes_5 (by decide +kernel) ?_
  obtain ⟨σ1, r1, d1_1, d2_1, h1, h, hd2, hd1⟩ := it_b h
  have hm : sC_Sto_fact l D kA u w tx σ [x0, 3] (σ1, r1, d1_1) := ih tC_Sto_fact _ _ _ h1
  refine cc_Vi (pc := 6) C (r0 := r1) (σ2 := σ1) (As := [.int x0, .int 3]) (rest := []) (hm _ _ rfl) ml_Mat_55 54 rfl rfl rfl d_Mat_subsumes_6 rfl rfl (by dsimp only; omega) (by dsimp only; omega) (Nat.le_of_ble_eq_true rfl) (Nat.le_of_ble_eq_true rfl) (Nat.le_of_ble_eq_true rfl) ?_
  have hF : d2_1 + 1 ≤ F := by omega
  have hLo : 48 * d2_1 + 48 ≤ Lo := by omega
  refine ax_istore_n (pc := 9) C d_Mat_subsumes_9 rfl (Nat.le_of_ble_eq_true rfl) ([(3, .int r1), (0, .ref (u 66)), (1, .int x0), (2, .int x1)]) rfl ?_
  refine ax_iload_n (pc := 10) C d_Mat_subsumes_10 rfl 0 rfl ?_
  refine ax_aload_n (pc := 11) C d_Mat_subsumes_11 rfl 1 rfl ?_
  refine cg_66_1_Mat_22 (pc := 12) C d_Mat_subsumes_12 ?_
  refine ax_iload_n (pc := 15) C d_Mat_subsumes_15 rfl 3 rfl ?_
  refine ax_iconst (pc := 16) C 3 d_Mat_subsumes_16 (by decide +kernel) ?_
  obtain ⟨σ2, r2, d1_2, d2_2, h1, h, hd2, hd1⟩ := it_b h
  have hm : sC_Sto_fact l D kA u w tx σ1 [x1, 3] (σ2, r2, d1_2) := ih tC_Sto_fact _ _ _ h1
  refine cc_Vi (pc := 17) C (r0 := r2) (σ2 := σ2) (As := [.int x1, .int 3]) (rest := [.int r1]) (hm _ _ rfl) ml_Mat_55 54 rfl rfl rfl d_Mat_subsumes_17 rfl rfl (by dsimp only; omega) (by dsimp only; omega) (Nat.le_of_ble_eq_true rfl) (Nat.le_of_ble_eq_true rfl) (Nat.le_of_ble_eq_true rfl) ?_
  have hF : d2_2 + 1 ≤ F := by omega
  have hLo : 48 * d2_2 + 48 ≤ Lo := by omega
  refine ax_icmp_gt (pc := 20) C 27 d_Mat_subsumes_20 (by decide) (fun hc => ?_) (fun hc => ?_)
  · have h := it_t hc h
    refine ax_iconst (pc := 27) C 0 d_Mat_subsumes_27 (by decide +kernel) ?_
    refine ax_ls ([(0, .ref (u 66)), (1, .int x0), (2, .int x1), (3, .int r1)]) [1, 2, 3, 0] rfl ?_
    have hm : sC_Mat_subsumes_p28 l D kA u w tx σ2 [x0, x1, r1, 0] (σf, rf, _) := ih tC_Mat_subsumes_p28 _ _ _ h
    exact hm _ _ _ _ rfl p e s m args below meth c F Lo σ0 hF hLo C
  · have h := it_f hc h
    refine ax_iconst (pc := 23) C 1 d_Mat_subsumes_23 (by decide +kernel) ?_
    refine ax_goto (pc := 24) C 28 d_Mat_subsumes_24 (by decide) ?_
    refine ax_ls ([(0, .ref (u 66)), (1, .int x0), (2, .int x1), (3, .int r1)]) [1, 2, 3, 0] rfl ?_
    have hm : sC_Mat_subsumes_p28 l D kA u w tx σ2 [x0, x1, r1, 1] (σf, rf, _) := ih tC_Mat_subsumes_p28 _ _ _ h
    exact hm _ _ _ _ rfl p e s m args below meth c F Lo σ0 hF hLo C
set_option maxHeartbeats 4000000 in
set_option maxRecDepth 100000 in
theorem oC_Mat_subsumes_p28 (l : Launch) (D : va_G) (kA : Nat → ClassId) (u w : Nat → Nat) (tx : Value) (rec : mF) (ih : ∀ t σ xs res, rec t σ xs = some res → cSem l D kA u w tx t σ xs res) (σ : mS) (xs : List Int32) (res : mR) (h : u_4 (kC_Mat_subsumes_p28 rec σ) xs = some res) : sC_Mat_subsumes_p28 l D kA u w tx σ xs res := by
  intro x0 x1 x2 x3 hxs
  subst hxs
  obtain ⟨σf, rf, dd⟩ := res
  have h : (bnd (rec tC_Sto_fact σ [x0, 8]) (fun σ1 r1 => rec tC_Mat_subsumes_p45 σ1 [x0, x1, x2, x3, r1, 0])) = some (σf, rf, dd) := h
  intro p e s m args below meth c F Lo σ0 hF hLo C
  dsimp only at hF hLo ⊢
  refine ax_istore (pc := 28) C d_Mat_subsumes_28 (Nat.le_of_ble_eq_true rfl) ([(4, .int x3), (0, .ref (u 66)), (1, .int x0), (2, .int x1), (3, .int x2)]) rfl ?_
  refine ax_aload_n (pc := 30) C d_Mat_subsumes_30 rfl 1 rfl ?_
  refine cg_66_1_Mat_22 (pc := 31) C d_Mat_subsumes_31 ?_
  refine ax_iload_n (pc := 34) C d_Mat_subsumes_34 rfl 2 rfl ?_
  refine ax_bipush (pc := 35) C 8 d_Mat_subsumes_35 (by decide +kernel) ?_
  obtain ⟨σ1, r1, d1_1, d2_1, h1, h, hd2, hd1⟩ := it_b h
  have hm : sC_Sto_fact l D kA u w tx σ [x0, 8] (σ1, r1, d1_1) := ih tC_Sto_fact _ _ _ h1
  refine cc_Vi (pc := 37) C (r0 := r1) (σ2 := σ1) (As := [.int x0, .int 8]) (rest := []) (hm _ _ rfl) ml_Mat_55 54 rfl rfl rfl d_Mat_subsumes_37 rfl rfl (by dsimp only; omega) (by dsimp only; omega) (Nat.le_of_ble_eq_true rfl) (Nat.le_of_ble_eq_true rfl) (Nat.le_of_ble_eq_true rfl) ?_
  have hF : d2_1 + 1 ≤ F := by omega
  have hLo : 48 * d2_1 + 48 ≤ Lo := by omega
  refine ax_istore (pc := 40) C d_Mat_subsumes_40 (Nat.le_of_ble_eq_true rfl) ([(5, .int r1), (4, .int x3), (0, .ref (u 66)), (1, .int x0), (2, .int x1), (3, .int x2)]) rfl ?_
  refine ax_iconst (pc := 42) C 0 d_Mat_subsumes_42 (by decide +kernel) ?_
  refine ax_istore (pc := 43) C d_Mat_subsumes_43 (Nat.le_of_ble_eq_true rfl) ([(6, .int 0), (5, .int r1), (4, .int x3), (0, .ref (u 66)), (1, .int x0), (2, .int x1), (3, .int x2)]) rfl ?_
  refine ax_ls ([(0, .ref (u 66)), (1, .int x0), (2, .int x1), (3, .int x2), (4, .int x3), (5, .int r1), (6, .int 0)]) [3, 4, 5, 6, 2, 1, 0] rfl ?_
  have hm : sC_Mat_subsumes_p45 l D kA u w tx σ1 [x0, x1, x2, x3, r1, 0] (σf, rf, _) := ih tC_Mat_subsumes_p45 _ _ _ h
  exact hm _ _ _ _ _ _ rfl p e s m args below meth c F Lo σ0 hF hLo C
set_option maxHeartbeats 4000000 in
set_option maxRecDepth 100000 in
theorem oC_Mat_subsumes_p45 (l : Launch) (D : va_G) (kA : Nat → ClassId) (u w : Nat → Nat) (tx : Value) (rec : mF) (ih : ∀ t σ xs res, rec t σ xs = some res → cSem l D kA u w tx t σ xs res) (σ : mS) (xs : List Int32) (res : mR) (h : u_6 (kC_Mat_subsumes_p45 rec σ) xs = some res) : sC_Mat_subsumes_p45 l D kA u w tx σ xs res := by
  intro x0 x1 x2 x3 x4 x5 hxs
  subst hxs
  obtain ⟨σf, rf, dd⟩ := res
  have h : (if x2 ≤ x5 then (rec tC_Mat_subsumes_p88 σ [x0, x1, x2, x3, x4, x5]) else (if x3 = 0 then (rec tC_Mat_subsumes_p88 σ [x0, x1, x2, x3, x4, x5]) else (lt_ (mI σ 6603 0) (fun σ1 => bnd (rec tC_Mat_coversAll σ1 [x4, 1, x1]) (fun σ2 r2 => bnd (rec tC_Sto_behind σ2 [x4]) (fun σ3 r3 => rec tC_Mat_subsumes_p45 σ3 [x0, x1, x2, r2, r3, (x5 + 1)])))))) = some (σf, rf, dd) := h
  intro p e s m args below meth c F Lo σ0 hF hLo C
  dsimp only at hF hLo ⊢
  refine ax_iload (pc := 45) C d_Mat_subsumes_45 6 rfl ?_
  refine ax_iload_n (pc := 47) C d_Mat_subsumes_47 rfl 3 rfl ?_
  refine ax_icmp_ge (pc := 48) C 88 d_Mat_subsumes_48 (by decide) (fun hc => ?_) (fun hc => ?_)
  · have h := it_t hc h
    refine ax_ls ([(0, .ref (u 66)), (1, .int x0), (2, .int x1), (3, .int x2), (4, .int x3), (5, .int x4), (6, .int x5)]) [0, 1, 2, 3, 4, 5, 6] rfl ?_
    have hm : sC_Mat_subsumes_p88 l D kA u w tx σ [x0, x1, x2, x3, x4, x5] (σf, rf, _) := ih tC_Mat_subsumes_p88 _ _ _ h
    exact hm _ _ _ _ _ _ rfl p e s m args below meth c F Lo σ0 hF hLo C
  · have h := it_f hc h
    refine ax_iload (pc := 51) C d_Mat_subsumes_51 4 rfl ?_
    refine ax_if_eq (pc := 53) C 88 d_Mat_subsumes_53 (by decide) (fun hc => ?_) (fun hc => ?_)
    · have h := it_t hc h
      refine ax_ls ([(0, .ref (u 66)), (1, .int x0), (2, .int x1), (3, .int x2), (4, .int x3), (5, .int x4), (6, .int x5)]) [0, 1, 2, 3, 4, 5, 6] rfl ?_
      have hm : sC_Mat_subsumes_p88 l D kA u w tx σ [x0, x1, x2, x3, x4, x5] (σf, rf, _) := ih tC_Mat_subsumes_p88 _ _ _ h
      exact hm _ _ _ _ _ _ rfl p e s m args below meth c F Lo σ0 hF hLo C
    · have h := it_f hc h
      refine ax_aload_n (pc := 56) C d_Mat_subsumes_56 rfl 0 rfl ?_
      refine ax_iconst (pc := 57) C 0 d_Mat_subsumes_57 (by decide +kernel) ?_
      refine cq_66_3_Mat_37 (pc := 58) C d_Mat_subsumes_58 ?_
      have h := it_l h
      generalize mI σ 6603 0 = σ1 at h ⊢
      refine ax_aload_n (pc := 61) C d_Mat_subsumes_61 rfl 0 rfl ?_
      refine ax_iload (pc := 62) C d_Mat_subsumes_62 5 rfl ?_
      refine ax_iconst (pc := 64) C 1 d_Mat_subsumes_64 (by decide +kernel) ?_
      refine ax_iload_n (pc := 65) C d_Mat_subsumes_65 rfl 2 rfl ?_
      obtain ⟨σ2, r2, d1_2, d2_2, h1, h, hd2, hd1⟩ := it_b h
      have hm : sC_Mat_coversAll l D kA u w tx σ1 [x4, 1, x1] (σ2, r2, d1_2) := ih tC_Mat_coversAll _ _ _ h1
      refine cc_Vi (pc := 66) C (r0 := r2) (σ2 := σ2) (As := [.int x4, .int 1, .int x1]) (rest := []) (hm _ _ _ rfl) ml_Mat_106 66 rfl rfl rfl d_Mat_subsumes_66 rfl rfl (by dsimp only; omega) (by dsimp only; omega) (Nat.le_of_ble_eq_true rfl) (Nat.le_of_ble_eq_true rfl) (Nat.le_of_ble_eq_true rfl) ?_
      have hF : d2_2 + 1 ≤ F := by omega
      have hLo : 48 * d2_2 + 48 ≤ Lo := by omega
      refine ax_istore (pc := 69) C d_Mat_subsumes_69 (Nat.le_of_ble_eq_true rfl) ([(4, .int r2), (0, .ref (u 66)), (1, .int x0), (2, .int x1), (3, .int x2), (5, .int x4), (6, .int x5)]) rfl ?_
      refine ax_aload_n (pc := 71) C d_Mat_subsumes_71 rfl 1 rfl ?_
      refine cg_66_1_Mat_22 (pc := 72) C d_Mat_subsumes_72 ?_
      refine ax_iload (pc := 75) C d_Mat_subsumes_75 5 rfl ?_
      obtain ⟨σ3, r3, d1_3, d2_3, h1, h, hd2, hd1⟩ := it_b h
      have hm : sC_Sto_behind l D kA u w tx σ2 [x4] (σ3, r3, d1_3) := ih tC_Sto_behind _ _ _ h1
      refine cc_Vi (pc := 77) C (r0 := r3) (σ2 := σ3) (As := [.int x4]) (rest := []) (hm _ rfl) ml_Mat_102 54 rfl rfl rfl d_Mat_subsumes_77 rfl rfl (by dsimp only; omega) (by dsimp only; omega) (Nat.le_of_ble_eq_true rfl) (Nat.le_of_ble_eq_true rfl) (Nat.le_of_ble_eq_true rfl) ?_
      have hF : d2_3 + 1 ≤ F := by omega
      have hLo : 48 * d2_3 + 48 ≤ Lo := by omega
      refine ax_istore (pc := 80) C d_Mat_subsumes_80 (Nat.le_of_ble_eq_true rfl) ([(5, .int r3), (4, .int r2), (0, .ref (u 66)), (1, .int x0), (2, .int x1), (3, .int x2), (6, .int x5)]) rfl ?_
      refine ax_iinc (pc := 82) C (x5 + 1) d_Mat_subsumes_82 6 rfl rfl (Nat.le_of_ble_eq_true rfl) ([(6, .int (x5 + 1)), (5, .int r3), (4, .int r2), (0, .ref (u 66)), (1, .int x0), (2, .int x1), (3, .int x2)]) rfl ?_
      refine ax_goto (pc := 85) C 45 d_Mat_subsumes_85 (by decide) ?_
      refine ax_ls ([(0, .ref (u 66)), (1, .int x0), (2, .int x1), (3, .int x2), (4, .int r2), (5, .int r3), (6, .int (x5 + 1))]) [3, 4, 5, 6, 2, 1, 0] rfl ?_
      have hm : sC_Mat_subsumes_p45 l D kA u w tx σ3 [x0, x1, x2, r2, r3, (x5 + 1)] (σf, rf, _) := ih tC_Mat_subsumes_p45 _ _ _ h
      exact hm _ _ _ _ _ _ rfl p e s m args below meth c F Lo σ0 hF hLo C
set_option maxHeartbeats 4000000 in
set_option maxRecDepth 100000 in
theorem oC_Mat_subsumes_p88 (l : Launch) (D : va_G) (kA : Nat → ClassId) (u w : Nat → Nat) (tx : Value) (rec : mF) (ih : ∀ t σ xs res, rec t σ xs = some res → cSem l D kA u w tx t σ xs res) (σ : mS) (xs : List Int32) (res : mR) (h : u_6 (kC_Mat_subsumes_p88 rec σ) xs = some res) : sC_Mat_subsumes_p88 l D kA u w tx σ xs res := by
  intro x0 x1 x2 x3 x4 x5 hxs
  subst hxs
  obtain ⟨σf, rf, dd⟩ := res
  have h : (lt_ (mI σ 6603 0) (fun σ1 => if x3 = 0 then (rec tC_Mat_subsumes_p126 σ1 [x0, x1, x2, x3, x4, x5]) else (if x2 = 1 then (rec tC_Mat_subsumes_p122 σ1 [x0, x1, x2, x3, x4, x5]) else (bnd (rec tC_Sto_fact σ1 [x0, 8]) (fun σ2 r2 => bnd (rec tC_Mat_coversAll σ2 [r2, x2, x1]) (fun σ3 r3 => if r3 = 0 then (rec tC_Mat_subsumes_p126 σ3 [x0, x1, x2, x3, x4, x5]) else (rec tC_Mat_subsumes_p122 σ3 [x0, x1, x2, x3, x4, x5]))))))) = some (σf, rf, dd) := h
  intro p e s m args below meth c F Lo σ0 hF hLo C
  dsimp only at hF hLo ⊢
  refine ax_aload_n (pc := 88) C d_Mat_subsumes_88 rfl 0 rfl ?_
  refine ax_iconst (pc := 89) C 0 d_Mat_subsumes_89 (by decide +kernel) ?_
  refine cq_66_3_Mat_37 (pc := 90) C d_Mat_subsumes_90 ?_
  have h := it_l h
  generalize mI σ 6603 0 = σ1 at h ⊢
  refine ax_iload (pc := 93) C d_Mat_subsumes_93 4 rfl ?_
  refine ax_if_eq (pc := 95) C 126 d_Mat_subsumes_95 (by decide) (fun hc => ?_) (fun hc => ?_)
  · have h := it_t hc h
    refine ax_ls ([(0, .ref (u 66)), (1, .int x0), (2, .int x1), (3, .int x2), (4, .int x3), (5, .int x4), (6, .int x5)]) [0, 1, 2, 3, 4, 5, 6] rfl ?_
    have hm : sC_Mat_subsumes_p126 l D kA u w tx σ1 [x0, x1, x2, x3, x4, x5] (σf, rf, _) := ih tC_Mat_subsumes_p126 _ _ _ h
    exact hm _ _ _ _ _ _ rfl p e s m args below meth c F Lo σ0 hF hLo C
  · have h := it_f hc h
    refine ax_iload_n (pc := 98) C d_Mat_subsumes_98 rfl 3 rfl ?_
    refine ax_iconst (pc := 99) C 1 d_Mat_subsumes_99 (by decide +kernel) ?_
    refine ax_icmp_eq (pc := 100) C 122 d_Mat_subsumes_100 (by decide) (fun hc => ?_) (fun hc => ?_)
    · have h := it_t hc h
      refine ax_ls ([(0, .ref (u 66)), (1, .int x0), (2, .int x1), (3, .int x2), (4, .int x3), (5, .int x4), (6, .int x5)]) [0, 1, 2, 3, 4, 5, 6] rfl ?_
      have hm : sC_Mat_subsumes_p122 l D kA u w tx σ1 [x0, x1, x2, x3, x4, x5] (σf, rf, _) := ih tC_Mat_subsumes_p122 _ _ _ h
      exact hm _ _ _ _ _ _ rfl p e s m args below meth c F Lo σ0 hF hLo C
    · have h := it_f hc h
      refine ax_aload_n (pc := 103) C d_Mat_subsumes_103 rfl 0 rfl ?_
      refine ax_aload_n (pc := 104) C d_Mat_subsumes_104 rfl 0 rfl ?_
      refine cg_66_1_Mat_22 (pc := 105) C d_Mat_subsumes_105 ?_
      refine ax_iload_n (pc := 108) C d_Mat_subsumes_108 rfl 1 rfl ?_
      refine ax_bipush (pc := 109) C 8 d_Mat_subsumes_109 (by decide +kernel) ?_
      obtain ⟨σ2, r2, d1_2, d2_2, h1, h, hd2, hd1⟩ := it_b h
      have hm : sC_Sto_fact l D kA u w tx σ1 [x0, 8] (σ2, r2, d1_2) := ih tC_Sto_fact _ _ _ h1
      refine cc_Vi (pc := 111) C (r0 := r2) (σ2 := σ2) (As := [.int x0, .int 8]) (rest := [.ref (u 66)]) (hm _ _ rfl) ml_Mat_55 54 rfl rfl rfl d_Mat_subsumes_111 rfl rfl (by dsimp only; omega) (by dsimp only; omega) (Nat.le_of_ble_eq_true rfl) (Nat.le_of_ble_eq_true rfl) (Nat.le_of_ble_eq_true rfl) ?_
      have hF : d2_2 + 1 ≤ F := by omega
      have hLo : 48 * d2_2 + 48 ≤ Lo := by omega
      refine ax_iload_n (pc := 114) C d_Mat_subsumes_114 rfl 3 rfl ?_
      refine ax_iload_n (pc := 115) C d_Mat_subsumes_115 rfl 2 rfl ?_
      obtain ⟨σ3, r3, d1_3, d2_3, h1, h, hd2, hd1⟩ := it_b h
      have hm : sC_Mat_coversAll l D kA u w tx σ2 [r2, x2, x1] (σ3, r3, d1_3) := ih tC_Mat_coversAll _ _ _ h1
      refine cc_Vi (pc := 116) C (r0 := r3) (σ2 := σ3) (As := [.int r2, .int x2, .int x1]) (rest := []) (hm _ _ _ rfl) ml_Mat_106 66 rfl rfl rfl d_Mat_subsumes_116 rfl rfl (by dsimp only; omega) (by dsimp only; omega) (Nat.le_of_ble_eq_true rfl) (Nat.le_of_ble_eq_true rfl) (Nat.le_of_ble_eq_true rfl) ?_
      have hF : d2_3 + 1 ≤ F := by omega
      have hLo : 48 * d2_3 + 48 ≤ Lo := by omega
      refine ax_if_eq (pc := 119) C 126 d_Mat_subsumes_119 (by decide) (fun hc => ?_) (fun hc => ?_)
      · have h := it_t hc h
        refine ax_ls ([(0, .ref (u 66)), (1, .int x0), (2, .int x1), (3, .int x2), (4, .int x3), (5, .int x4), (6, .int x5)]) [0, 1, 2, 3, 4, 5, 6] rfl ?_
        have hm : sC_Mat_subsumes_p126 l D kA u w tx σ3 [x0, x1, x2, x3, x4, x5] (σf, rf, _) := ih tC_Mat_subsumes_p126 _ _ _ h
        exact hm _ _ _ _ _ _ rfl p e s m args below meth c F Lo σ0 hF hLo C
      · have h := it_f hc h
        refine ax_ls ([(0, .ref (u 66)), (1, .int x0), (2, .int x1), (3, .int x2), (4, .int x3), (5, .int x4), (6, .int x5)]) [0, 1, 2, 3, 4, 5, 6] rfl ?_
        have hm : sC_Mat_subsumes_p122 l D kA u w tx σ3 [x0, x1, x2, x3, x4, x5] (σf, rf, _) := ih tC_Mat_subsumes_p122 _ _ _ h
        exact hm _ _ _ _ _ _ rfl p e s m args below meth c F Lo σ0 hF hLo C
set_option maxHeartbeats 4000000 in
set_option maxRecDepth 100000 in
theorem oC_Mat_subsumes_p122 (l : Launch) (D : va_G) (kA : Nat → ClassId) (u w : Nat → Nat) (tx : Value) (rec : mF) (ih : ∀ t σ xs res, rec t σ xs = some res → cSem l D kA u w tx t σ xs res) (σ : mS) (xs : List Int32) (res : mR) (h : u_6 (kC_Mat_subsumes_p122 rec σ) xs = some res) : sC_Mat_subsumes_p122 l D kA u w tx σ xs res := by
  intro x0 x1 x2 x3 x4 x5 hxs
  subst hxs
  obtain ⟨σf, rf, dd⟩ := res
  have h : (rec tC_Mat_subsumes_p127 σ [x0, x1, x2, x3, x4, x5, 1]) = some (σf, rf, dd) := h
  intro p e s m args below meth c F Lo σ0 hF hLo C
  dsimp only at hF hLo ⊢
  refine ax_iconst (pc := 122) C 1 d_Mat_subsumes_122 (by decide +kernel) ?_
  refine ax_goto (pc := 123) C 127 d_Mat_subsumes_123 (by decide) ?_
  refine ax_ls ([(0, .ref (u 66)), (1, .int x0), (2, .int x1), (3, .int x2), (4, .int x3), (5, .int x4), (6, .int x5)]) [0, 1, 2, 3, 4, 5, 6] rfl ?_
  have hm : sC_Mat_subsumes_p127 l D kA u w tx σ [x0, x1, x2, x3, x4, x5, 1] (σf, rf, _) := ih tC_Mat_subsumes_p127 _ _ _ h
  exact hm _ _ _ _ _ _ _ rfl p e s m args below meth c F Lo σ0 hF hLo C
set_option maxHeartbeats 4000000 in
set_option maxRecDepth 100000 in
theorem oC_Mat_subsumes_p126 (l : Launch) (D : va_G) (kA : Nat → ClassId) (u w : Nat → Nat) (tx : Value) (rec : mF) (ih : ∀ t σ xs res, rec t σ xs = some res → cSem l D kA u w tx t σ xs res) (σ : mS) (xs : List Int32) (res : mR) (h : u_6 (kC_Mat_subsumes_p126 rec σ) xs = some res) : sC_Mat_subsumes_p126 l D kA u w tx σ xs res := by
  intro x0 x1 x2 x3 x4 x5 hxs
  subst hxs
  obtain ⟨σf, rf, dd⟩ := res
  have h : (rec tC_Mat_subsumes_p127 σ [x0, x1, x2, x3, x4, x5, 0]) = some (σf, rf, dd) := h
  intro p e s m args below meth c F Lo σ0 hF hLo C
  dsimp only at hF hLo ⊢
  refine ax_iconst (pc := 126) C 0 d_Mat_subsumes_126 (by decide +kernel) ?_
  refine ax_ls ([(0, .ref (u 66)), (1, .int x0), (2, .int x1), (3, .int x2), (4, .int x3), (5, .int x4), (6, .int x5)]) [0, 1, 2, 3, 4, 5, 6] rfl ?_
  have hm : sC_Mat_subsumes_p127 l D kA u w tx σ [x0, x1, x2, x3, x4, x5, 0] (σf, rf, _) := ih tC_Mat_subsumes_p127 _ _ _ h
  exact hm _ _ _ _ _ _ _ rfl p e s m args below meth c F Lo σ0 hF hLo C
set_option maxHeartbeats 4000000 in
set_option maxRecDepth 100000 in
theorem oC_Mat_subsumes_p127 (l : Launch) (D : va_G) (kA : Nat → ClassId) (u w : Nat → Nat) (tx : Value) (rec : mF) (ih : ∀ t σ xs res, rec t σ xs = some res → cSem l D kA u w tx t σ xs res) (σ : mS) (xs : List Int32) (res : mR) (h : u_7 (kC_Mat_subsumes_p127 rec σ) xs = some res) : sC_Mat_subsumes_p127 l D kA u w tx σ xs res := by
  intro x0 x1 x2 x3 x4 x5 x6 hxs
  subst hxs
  obtain ⟨σf, rf, dd⟩ := res
  have h : (if x6 = 0 ∨ x6 = 1 then some (σ, x6, 0) else none) = some (σf, rf, dd) := h
  intro p e s m args below meth c F Lo σ0 hF hLo C
  dsimp only at hF hLo ⊢
  obtain ⟨hb, h⟩ := it_g h
  cases h
  exact ax_zret (pc := 127) C d_Mat_subsumes_127 (nb01 hb) ⟨rfl, rfl⟩ (Nat.le_refl _) (Nat.le_refl _)
set_option maxHeartbeats 4000000 in
set_option maxRecDepth 100000 in
theorem oC_Mod_apply (l : Launch) (D : va_G) (kA : Nat → ClassId) (u w : Nat → Nat) (tx : Value) (rec : mF) (ih : ∀ t σ xs res, rec t σ xs = some res → cSem l D kA u w tx t σ xs res) (σ : mS) (xs : List Int32) (res : mR) (h : u_2 (kC_Mod_apply rec σ) xs = some res) : sC_Mod_apply l D kA u w tx σ xs res := by
  intro x0 x1 hxs
  subst hxs
  obtain ⟨σf, rf, dd⟩ := res
  have h : (bnd (rec tC_Mod_mix σ [(σ.1 6904), x0]) (fun σ1 r1 => if bin x0 551 = true then (rec tC_Mod_apply_p24 σ1 [x0, x1, r1, ((((x1 : Int32) + (σ1.2.1 7 (Int32.toNatClampNeg x0))) : Int32) - 1)]) else none)) = some (σf, rf, dd) := h
  refine ax_Mi.of (by decide +kernel) (Nat.le_of_ble_eq_true rfl) ?_
  intro p e s m args below meth c C hnm
  have C : ax_C p s m args meth c b_Mod_apply "ClauseProver$Model" 5 (some .int) D kA (va_A (cpW kA u w tx σ) s.heap.size) := C
  obtain ⟨F, hFe⟩ : ∃ F, F = dd + 1 := ⟨_, rfl⟩
  obtain ⟨Lo, hLoe⟩ : ∃ Lo, Lo = 48 * dd + 48 := ⟨_, rfl⟩
  obtain ⟨σ0, hσ0⟩ : ∃ s0, s0 = σ := ⟨_, rfl⟩
  suffices K : AW p l e { frames := F, cells := 0, slots := 0, locals := Lo } s m args below meth c D kA (va_A (cpW kA u w tx σ0) s.heap.size) 5 (ax_Qi below args s D kA (cpW kA u w tx σ0) 0 0 (fun r w1 => r = rf ∧ w1 = cpW kA u w tx σf)) 0 [(0, .ref (u 69)), (1, .int x0), (2, .int x1)] [] (cpW kA u w tx σ) 0 0 by rw [hFe, hLoe, hσ0] at K; exact ax_ls ([(0, .ref (u 69)), (1, .int x0), (2, .int x1)]) [0, 1, 2] rfl K
  have C : ax_C p s m args meth c b_Mod_apply "ClauseProver$Model" 5 (some .int) D kA (va_A (cpW kA u w tx σ0) s.heap.size) := by rw [hσ0]; exact C
  have hF : dd + 1 ≤ F := by omega
  have hLo : 48 * dd + 48 ≤ Lo := by omega
  clear hFe hLoe hσ0
  refine ax_aload_n (pc := 0) C d_Mod_apply_0 rfl 0 rfl ?_
  refine cg_69_4_Mod_30 (pc := 1) C d_Mod_apply_1 ?_
  refine ax_iload_n (pc := 4) C d_Mod_apply_4 rfl 1 rfl ?_
  obtain ⟨σ1, r1, d1_1, d2_1, h1, h, hd2, hd1⟩ := it_b h
  have hm : sC_Mod_mix l D kA u w tx σ [(σ.1 6904), x0] (σ1, r1, d1_1) := ih tC_Mod_mix _ _ _ h1
  refine cc_Si (pc := 5) C (r0 := r1) (σ2 := σ1) (As := [.int (σ.1 6904), .int x0]) (rest := []) (hm _ _ rfl) ml_Mod_83 d_Mod_apply_5 rfl rfl (by dsimp only; omega) (by dsimp only; omega) (Nat.le_of_ble_eq_true rfl) (Nat.le_of_ble_eq_true rfl) (Nat.le_of_ble_eq_true rfl) ?_
  have hF : d2_1 + 1 ≤ F := by omega
  have hLo : 48 * d2_1 + 48 ≤ Lo := by omega
  refine ax_istore_n (pc := 8) C d_Mod_apply_8 rfl (Nat.le_of_ble_eq_true rfl) ([(3, .int r1), (0, .ref (u 69)), (1, .int x0), (2, .int x1)]) rfl ?_
  refine ax_iload_n (pc := 9) C d_Mod_apply_9 rfl 3 rfl ?_
  refine ax_aload_n (pc := 10) C d_Mod_apply_10 rfl 1 rfl ?_
  refine cg_69_0_Mod_22 (pc := 11) C d_Mod_apply_11 ?_
  refine cg_6_0_Mod_75 (pc := 14) C d_Mod_apply_14 ?_
  refine ax_iload_n (pc := 17) C d_Mod_apply_17 rfl 2 rfl ?_
  obtain ⟨hb, h⟩ := it_g h
  refine cl_7 (pc := 18) C d_Mod_apply_18 (bin_in hb) ?_
  refine ax_iadd (pc := 19) C d_Mod_apply_19 ?_
  refine ax_iconst (pc := 20) C 1 d_Mod_apply_20 (by decide +kernel) ?_
  refine ax_isub (pc := 21) C d_Mod_apply_21 ?_
  refine ax_istore (pc := 22) C d_Mod_apply_22 (Nat.le_of_ble_eq_true rfl) ([(4, .int ((((x1 : Int32) + (σ1.2.1 7 (Int32.toNatClampNeg x0))) : Int32) - 1)), (3, .int r1), (0, .ref (u 69)), (1, .int x0), (2, .int x1)]) rfl ?_
  refine ax_ls ([(0, .ref (u 69)), (1, .int x0), (2, .int x1), (3, .int r1), (4, .int ((((x1 : Int32) + (σ1.2.1 7 (Int32.toNatClampNeg x0))) : Int32) - 1))]) [2, 3, 4, 1, 0] rfl ?_
  have hm : sC_Mod_apply_p24 l D kA u w tx σ1 [x0, x1, r1, ((((x1 : Int32) + (σ1.2.1 7 (Int32.toNatClampNeg x0))) : Int32) - 1)] (σf, rf, _) := ih tC_Mod_apply_p24 _ _ _ h
  exact hm _ _ _ _ rfl p e s m args below meth c F Lo σ0 hF hLo C
set_option maxHeartbeats 4000000 in
set_option maxRecDepth 100000 in
theorem oC_Mod_apply_p24 (l : Launch) (D : va_G) (kA : Nat → ClassId) (u w : Nat → Nat) (tx : Value) (rec : mF) (ih : ∀ t σ xs res, rec t σ xs = some res → cSem l D kA u w tx t σ xs res) (σ : mS) (xs : List Int32) (res : mR) (h : u_4 (kC_Mod_apply_p24 rec σ) xs = some res) : sC_Mod_apply_p24 l D kA u w tx σ xs res := by
  intro x0 x1 x2 x3 hxs
  subst hxs
  obtain ⟨σf, rf, dd⟩ := res
  have h : (if x3 < x1 then (bnd (rec tC_Sym_isPredicate σ [x0]) (fun σ1 r1 => if r1 = 0 then (if (σ1.1 6905) = 0 then none else (rec tC_Mod_apply_p91 σ1 [x0, x1, ((((((x2 : Int32) ^^^ (((x2 : Int32).toUInt32 >>> ((15 : Int32).toUInt32 &&& Int32.toUInt32 31)).toInt32)) : Int32) * 739982445) : Int32) ^^^ (((((((x2 : Int32) ^^^ (((x2 : Int32).toUInt32 >>> ((15 : Int32).toUInt32 &&& Int32.toUInt32 31)).toInt32)) : Int32) * 739982445) : Int32).toUInt32 >>> ((12 : Int32).toUInt32 &&& Int32.toUInt32 31)).toInt32)), x3, (((((((((x2 : Int32) ^^^ (((x2 : Int32).toUInt32 >>> ((15 : Int32).toUInt32 &&& Int32.toUInt32 31)).toInt32)) : Int32) * 739982445) : Int32) ^^^ (((((((x2 : Int32) ^^^ (((x2 : Int32).toUInt32 >>> ((15 : Int32).toUInt32 &&& Int32.toUInt32 31)).toInt32)) : Int32) * 739982445) : Int32).toUInt32 >>> ((12 : Int32).toUInt32 &&& Int32.toUInt32 31)).toInt32)) : Int32) &&& 2147483647) - ((((((((x2 : Int32) ^^^ (((x2 : Int32).toUInt32 >>> ((15 : Int32).toUInt32 &&& Int32.toUInt32 31)).toInt32)) : Int32) * 739982445) : Int32) ^^^ (((((((x2 : Int32) ^^^ (((x2 : Int32).toUInt32 >>> ((15 : Int32).toUInt32 &&& Int32.toUInt32 31)).toInt32)) : Int32) * 739982445) : Int32).toUInt32 >>> ((12 : Int32).toUInt32 &&& Int32.toUInt32 31)).toInt32)) : Int32) &&& 2147483647) / (σ1.1 6905) * (σ1.1 6905))])) else (rec tC_Mod_apply_p91 σ1 [x0, x1, ((((((x2 : Int32) ^^^ (((x2 : Int32).toUInt32 >>> ((15 : Int32).toUInt32 &&& Int32.toUInt32 31)).toInt32)) : Int32) * 739982445) : Int32) ^^^ (((((((x2 : Int32) ^^^ (((x2 : Int32).toUInt32 >>> ((15 : Int32).toUInt32 &&& Int32.toUInt32 31)).toInt32)) : Int32) * 739982445) : Int32).toUInt32 >>> ((12 : Int32).toUInt32 &&& Int32.toUInt32 31)).toInt32)), x3, ((((((((x2 : Int32) ^^^ (((x2 : Int32).toUInt32 >>> ((15 : Int32).toUInt32 &&& Int32.toUInt32 31)).toInt32)) : Int32) * 739982445) : Int32) ^^^ (((((((x2 : Int32) ^^^ (((x2 : Int32).toUInt32 >>> ((15 : Int32).toUInt32 &&& Int32.toUInt32 31)).toInt32)) : Int32) * 739982445) : Int32).toUInt32 >>> ((12 : Int32).toUInt32 &&& Int32.toUInt32 31)).toInt32)) : Int32) &&& 1)]))) else (if bin x3 101 = true then (bnd (rec tC_Mod_mix σ [x2, (σ.2.1 71 (Int32.toNatClampNeg x3))]) (fun σ2 r2 => rec tC_Mod_apply_p24 σ2 [x0, x1, r2, (x3 + (-1))])) else none)) = some (σf, rf, dd) := h
  intro p e s m args below meth c F Lo σ0 hF hLo C
  dsimp only at hF hLo ⊢
  refine ax_iload (pc := 24) C d_Mod_apply_24 4 rfl ?_
  refine ax_iload_n (pc := 26) C d_Mod_apply_26 rfl 2 rfl ?_
  refine ax_icmp_lt (pc := 27) C 48 d_Mod_apply_27 (by decide) (fun hc => ?_) (fun hc => ?_)
  · have h := it_t hc h
    refine ax_iload_n (pc := 48) C d_Mod_apply_48 rfl 3 rfl ?_
    refine ax_iload_n (pc := 49) C d_Mod_apply_49 rfl 3 rfl ?_
    refine ax_bipush (pc := 50) C 15 d_Mod_apply_50 (by decide +kernel) ?_
    refine ax_iushr (pc := 52) C (((x2 : Int32).toUInt32 >>> ((15 : Int32).toUInt32 &&& Int32.toUInt32 31)).toInt32) d_Mod_apply_52 rfl ?_
    refine ax_ixor (pc := 53) C d_Mod_apply_53 ?_
    refine ax_ldc (pc := 54) C tb_constant_1493 d_Mod_apply_54 ?_
    refine ax_imul (pc := 56) C d_Mod_apply_56 ?_
    refine ax_istore_n (pc := 57) C d_Mod_apply_57 rfl (Nat.le_of_ble_eq_true rfl) ([(3, .int ((((x2 : Int32) ^^^ (((x2 : Int32).toUInt32 >>> ((15 : Int32).toUInt32 &&& Int32.toUInt32 31)).toInt32)) : Int32) * 739982445)), (0, .ref (u 69)), (1, .int x0), (2, .int x1), (4, .int x3)]) rfl ?_
    refine ax_iload_n (pc := 58) C d_Mod_apply_58 rfl 0 rfl ?_
    refine ax_iload_n (pc := 59) C d_Mod_apply_59 rfl 0 rfl ?_
    refine ax_bipush (pc := 60) C 12 d_Mod_apply_60 (by decide +kernel) ?_
    refine ax_iushr (pc := 62) C (((((((x2 : Int32) ^^^ (((x2 : Int32).toUInt32 >>> ((15 : Int32).toUInt32 &&& Int32.toUInt32 31)).toInt32)) : Int32) * 739982445) : Int32).toUInt32 >>> ((12 : Int32).toUInt32 &&& Int32.toUInt32 31)).toInt32) d_Mod_apply_62 rfl ?_
    refine ax_ixor (pc := 63) C d_Mod_apply_63 ?_
    refine ax_istore_n (pc := 64) C d_Mod_apply_64 rfl (Nat.le_of_ble_eq_true rfl) ([(3, .int ((((((x2 : Int32) ^^^ (((x2 : Int32).toUInt32 >>> ((15 : Int32).toUInt32 &&& Int32.toUInt32 31)).toInt32)) : Int32) * 739982445) : Int32) ^^^ (((((((x2 : Int32) ^^^ (((x2 : Int32).toUInt32 >>> ((15 : Int32).toUInt32 &&& Int32.toUInt32 31)).toInt32)) : Int32) * 739982445) : Int32).toUInt32 >>> ((12 : Int32).toUInt32 &&& Int32.toUInt32 31)).toInt32))), (0, .ref (u 69)), (1, .int x0), (2, .int x1), (4, .int x3)]) rfl ?_
    refine ax_aload_n (pc := 65) C d_Mod_apply_65 rfl 1 rfl ?_
    refine cg_69_0_Mod_22 (pc := 66) C d_Mod_apply_66 ?_
    refine ax_iload_n (pc := 69) C d_Mod_apply_69 rfl 2 rfl ?_
    obtain ⟨σ1, r1, d1_1, d2_1, h1, h, hd2, hd1⟩ := it_b h
    have hm : sC_Sym_isPredicate l D kA u w tx σ [x0] (σ1, r1, d1_1) := ih tC_Sym_isPredicate _ _ _ h1
    refine cc_Vi (pc := 70) C (r0 := r1) (σ2 := σ1) (As := [.int x0]) (rest := []) (hm _ rfl) ml_Mod_87 6 rfl rfl rfl d_Mod_apply_70 rfl rfl (by dsimp only; omega) (by dsimp only; omega) (Nat.le_of_ble_eq_true rfl) (Nat.le_of_ble_eq_true rfl) (Nat.le_of_ble_eq_true rfl) ?_
    have hF : d2_1 + 1 ≤ F := by omega
    have hLo : 48 * d2_1 + 48 ≤ Lo := by omega
    refine ax_if_eq (pc := 73) C 82 d_Mod_apply_73 (by decide) (fun hc => ?_) (fun hc => ?_)
    · have h := it_t hc h
      refine ax_iload_n (pc := 82) C d_Mod_apply_82 rfl 0 rfl ?_
      refine ax_ldc (pc := 83) C tb_constant_1495 d_Mod_apply_83 ?_
      refine ax_iand (pc := 85) C d_Mod_apply_85 ?_
      refine ax_aload_n (pc := 86) C d_Mod_apply_86 rfl 1 rfl ?_
      refine cg_69_5_Mod_18 (pc := 87) C d_Mod_apply_87 ?_
      obtain ⟨hz, h⟩ := it_n h
      refine ax_irem (pc := 90) C d_Mod_apply_90 hz ?_
      refine ax_ls ([(0, .ref (u 69)), (1, .int x0), (2, .int x1), (3, .int ((((((x2 : Int32) ^^^ (((x2 : Int32).toUInt32 >>> ((15 : Int32).toUInt32 &&& Int32.toUInt32 31)).toInt32)) : Int32) * 739982445) : Int32) ^^^ (((((((x2 : Int32) ^^^ (((x2 : Int32).toUInt32 >>> ((15 : Int32).toUInt32 &&& Int32.toUInt32 31)).toInt32)) : Int32) * 739982445) : Int32).toUInt32 >>> ((12 : Int32).toUInt32 &&& Int32.toUInt32 31)).toInt32))), (4, .int x3)]) [1, 2, 3, 0, 4] rfl ?_
      have hm : sC_Mod_apply_p91 l D kA u w tx σ1 [x0, x1, ((((((x2 : Int32) ^^^ (((x2 : Int32).toUInt32 >>> ((15 : Int32).toUInt32 &&& Int32.toUInt32 31)).toInt32)) : Int32) * 739982445) : Int32) ^^^ (((((((x2 : Int32) ^^^ (((x2 : Int32).toUInt32 >>> ((15 : Int32).toUInt32 &&& Int32.toUInt32 31)).toInt32)) : Int32) * 739982445) : Int32).toUInt32 >>> ((12 : Int32).toUInt32 &&& Int32.toUInt32 31)).toInt32)), x3, (((((((((x2 : Int32) ^^^ (((x2 : Int32).toUInt32 >>> ((15 : Int32).toUInt32 &&& Int32.toUInt32 31)).toInt32)) : Int32) * 739982445) : Int32) ^^^ (((((((x2 : Int32) ^^^ (((x2 : Int32).toUInt32 >>> ((15 : Int32).toUInt32 &&& Int32.toUInt32 31)).toInt32)) : Int32) * 739982445) : Int32).toUInt32 >>> ((12 : Int32).toUInt32 &&& Int32.toUInt32 31)).toInt32)) : Int32) &&& 2147483647) - ((((((((x2 : Int32) ^^^ (((x2 : Int32).toUInt32 >>> ((15 : Int32).toUInt32 &&& Int32.toUInt32 31)).toInt32)) : Int32) * 739982445) : Int32) ^^^ (((((((x2 : Int32) ^^^ (((x2 : Int32).toUInt32 >>> ((15 : Int32).toUInt32 &&& Int32.toUInt32 31)).toInt32)) : Int32) * 739982445) : Int32).toUInt32 >>> ((12 : Int32).toUInt32 &&& Int32.toUInt32 31)).toInt32)) : Int32) &&& 2147483647) / (σ1.1 6905) * (σ1.1 6905))] (σf, rf, _) := ih tC_Mod_apply_p91 _ _ _ h
      exact hm _ _ _ _ _ rfl p e s m args below meth c F Lo σ0 hF hLo C
    · have h := it_f hc h
      refine ax_iload_n (pc := 76) C d_Mod_apply_76 rfl 0 rfl ?_
      refine ax_iconst (pc := 77) C 1 d_Mod_apply_77 (by decide +kernel) ?_
      refine ax_iand (pc := 78) C d_Mod_apply_78 ?_
      refine ax_goto (pc := 79) C 91 d_Mod_apply_79 (by decide) ?_
      refine ax_ls ([(0, .ref (u 69)), (1, .int x0), (2, .int x1), (3, .int ((((((x2 : Int32) ^^^ (((x2 : Int32).toUInt32 >>> ((15 : Int32).toUInt32 &&& Int32.toUInt32 31)).toInt32)) : Int32) * 739982445) : Int32) ^^^ (((((((x2 : Int32) ^^^ (((x2 : Int32).toUInt32 >>> ((15 : Int32).toUInt32 &&& Int32.toUInt32 31)).toInt32)) : Int32) * 739982445) : Int32).toUInt32 >>> ((12 : Int32).toUInt32 &&& Int32.toUInt32 31)).toInt32))), (4, .int x3)]) [1, 2, 3, 0, 4] rfl ?_
      have hm : sC_Mod_apply_p91 l D kA u w tx σ1 [x0, x1, ((((((x2 : Int32) ^^^ (((x2 : Int32).toUInt32 >>> ((15 : Int32).toUInt32 &&& Int32.toUInt32 31)).toInt32)) : Int32) * 739982445) : Int32) ^^^ (((((((x2 : Int32) ^^^ (((x2 : Int32).toUInt32 >>> ((15 : Int32).toUInt32 &&& Int32.toUInt32 31)).toInt32)) : Int32) * 739982445) : Int32).toUInt32 >>> ((12 : Int32).toUInt32 &&& Int32.toUInt32 31)).toInt32)), x3, ((((((((x2 : Int32) ^^^ (((x2 : Int32).toUInt32 >>> ((15 : Int32).toUInt32 &&& Int32.toUInt32 31)).toInt32)) : Int32) * 739982445) : Int32) ^^^ (((((((x2 : Int32) ^^^ (((x2 : Int32).toUInt32 >>> ((15 : Int32).toUInt32 &&& Int32.toUInt32 31)).toInt32)) : Int32) * 739982445) : Int32).toUInt32 >>> ((12 : Int32).toUInt32 &&& Int32.toUInt32 31)).toInt32)) : Int32) &&& 1)] (σf, rf, _) := ih tC_Mod_apply_p91 _ _ _ h
      exact hm _ _ _ _ _ rfl p e s m args below meth c F Lo σ0 hF hLo C
  · have h := it_f hc h
    refine ax_iload_n (pc := 30) C d_Mod_apply_30 rfl 3 rfl ?_
    refine ax_aload_n (pc := 31) C d_Mod_apply_31 rfl 0 rfl ?_
    refine cg_69_3_Mod_15 (pc := 32) C d_Mod_apply_32 ?_
    refine ax_iload (pc := 35) C d_Mod_apply_35 4 rfl ?_
    obtain ⟨hb, h⟩ := it_g h
    refine cl_71 (pc := 37) C d_Mod_apply_37 (bin_in hb) ?_
    obtain ⟨σ2, r2, d1_2, d2_2, h1, h, hd2, hd1⟩ := it_b h
    have hm : sC_Mod_mix l D kA u w tx σ [x2, (σ.2.1 71 (Int32.toNatClampNeg x3))] (σ2, r2, d1_2) := ih tC_Mod_mix _ _ _ h1
    refine cc_Si (pc := 38) C (r0 := r2) (σ2 := σ2) (As := [.int x2, .int (σ.2.1 71 (Int32.toNatClampNeg x3))]) (rest := []) (hm _ _ rfl) ml_Mod_83 d_Mod_apply_38 rfl rfl (by dsimp only; omega) (by dsimp only; omega) (Nat.le_of_ble_eq_true rfl) (Nat.le_of_ble_eq_true rfl) (Nat.le_of_ble_eq_true rfl) ?_
    have hF : d2_2 + 1 ≤ F := by omega
    have hLo : 48 * d2_2 + 48 ≤ Lo := by omega
    refine ax_istore_n (pc := 41) C d_Mod_apply_41 rfl (Nat.le_of_ble_eq_true rfl) ([(3, .int r2), (0, .ref (u 69)), (1, .int x0), (2, .int x1), (4, .int x3)]) rfl ?_
    refine ax_iinc (pc := 42) C (x3 + (-1)) d_Mod_apply_42 4 rfl rfl (Nat.le_of_ble_eq_true rfl) ([(4, .int (x3 + (-1))), (3, .int r2), (0, .ref (u 69)), (1, .int x0), (2, .int x1)]) rfl ?_
    refine ax_goto (pc := 45) C 24 d_Mod_apply_45 (by decide) ?_
    refine ax_ls ([(0, .ref (u 69)), (1, .int x0), (2, .int x1), (3, .int r2), (4, .int (x3 + (-1)))]) [2, 3, 4, 1, 0] rfl ?_
    have hm : sC_Mod_apply_p24 l D kA u w tx σ2 [x0, x1, r2, (x3 + (-1))] (σf, rf, _) := ih tC_Mod_apply_p24 _ _ _ h
    exact hm _ _ _ _ rfl p e s m args below meth c F Lo σ0 hF hLo C
set_option maxHeartbeats 4000000 in
set_option maxRecDepth 100000 in
theorem oC_Mod_apply_p91 (l : Launch) (D : va_G) (kA : Nat → ClassId) (u w : Nat → Nat) (tx : Value) (rec : mF) (ih : ∀ t σ xs res, rec t σ xs = some res → cSem l D kA u w tx t σ xs res) (σ : mS) (xs : List Int32) (res : mR) (h : u_5 (kC_Mod_apply_p91 rec σ) xs = some res) : sC_Mod_apply_p91 l D kA u w tx σ xs res := by
  intro x0 x1 x2 x3 x4 hxs
  subst hxs
  obtain ⟨σf, rf, dd⟩ := res
  have h : (some (σ, x4, 0)) = some (σf, rf, dd) := h
  intro p e s m args below meth c F Lo σ0 hF hLo C
  dsimp only at hF hLo ⊢
  cases h
  exact ax_iret (pc := 91) C d_Mod_apply_91 ⟨rfl, rfl⟩ (Nat.le_refl _) (Nat.le_refl _)
set_option maxHeartbeats 4000000 in
set_option maxRecDepth 100000 in
theorem oC_Mod_holds (l : Launch) (D : va_G) (kA : Nat → ClassId) (u w : Nat → Nat) (tx : Value) (rec : mF) (ih : ∀ t σ xs res, rec t σ xs = some res → cSem l D kA u w tx t σ xs res) (σ : mS) (xs : List Int32) (res : mR) (h : u_1 (kC_Mod_holds rec σ) xs = some res) : sC_Mod_holds l D kA u w tx σ xs res := by
  intro x0 hxs
  subst hxs
  obtain ⟨σf, rf, dd⟩ := res
  have h : (bnd (rec tC_Sto_fact σ [x0, 8]) (fun σ1 r1 => rec tC_Mod_holds_p13 σ1 [x0, r1, 0])) = some (σf, rf, dd) := h
  refine ax_Mi.of (by decide +kernel) (Nat.le_of_ble_eq_true rfl) ?_
  intro p e s m args below meth c C hnm
  have C : ax_C p s m args meth c b_Mod_holds "ClauseProver$Model" 8 (some .boolean) D kA (va_A (cpW kA u w tx σ) s.heap.size) := C
  obtain ⟨F, hFe⟩ : ∃ F, F = dd + 1 := ⟨_, rfl⟩
  obtain ⟨Lo, hLoe⟩ : ∃ Lo, Lo = 48 * dd + 48 := ⟨_, rfl⟩
  obtain ⟨σ0, hσ0⟩ : ∃ s0, s0 = σ := ⟨_, rfl⟩
  suffices K : AW p l e { frames := F, cells := 0, slots := 0, locals := Lo } s m args below meth c D kA (va_A (cpW kA u w tx σ0) s.heap.size) 8 (ax_Qi below args s D kA (cpW kA u w tx σ0) 0 0 (fun r w1 => r = rf ∧ w1 = cpW kA u w tx σf)) 0 [(0, .ref (u 69)), (1, .int x0)] [] (cpW kA u w tx σ) 0 0 by rw [hFe, hLoe, hσ0] at K; exact ax_ls ([(0, .ref (u 69)), (1, .int x0)]) [0, 1] rfl K
  have C : ax_C p s m args meth c b_Mod_holds "ClauseProver$Model" 8 (some .boolean) D kA (va_A (cpW kA u w tx σ0) s.heap.size) := by rw [hσ0]; exact C
  have hF : dd + 1 ≤ F := by omega
  have hLo : 48 * dd + 48 ≤ Lo := by omega
  clear hFe hLoe hσ0
  refine ax_aload_n (pc := 0) C d_Mod_holds_0 rfl 0 rfl ?_
  refine cg_69_1_Mod_26 (pc := 1) C d_Mod_holds_1 ?_
  refine ax_iload_n (pc := 4) C d_Mod_holds_4 rfl 1 rfl ?_
  refine ax_bipush (pc := 5) C 8 d_Mod_holds_5 (by decide +kernel) ?_
  obtain ⟨σ1, r1, d1_1, d2_1, h1, h, hd2, hd1⟩ := it_b h
  have hm : sC_Sto_fact l D kA u w tx σ [x0, 8] (σ1, r1, d1_1) := ih tC_Sto_fact _ _ _ h1
  refine cc_Vi (pc := 7) C (r0 := r1) (σ2 := σ1) (As := [.int x0, .int 8]) (rest := []) (hm _ _ rfl) ml_Mod_42 54 rfl rfl rfl d_Mod_holds_7 rfl rfl (by dsimp only; omega) (by dsimp only; omega) (Nat.le_of_ble_eq_true rfl) (Nat.le_of_ble_eq_true rfl) (Nat.le_of_ble_eq_true rfl) ?_
  have hF : d2_1 + 1 ≤ F := by omega
  have hLo : 48 * d2_1 + 48 ≤ Lo := by omega
  refine ax_istore_n (pc := 10) C d_Mod_holds_10 rfl (Nat.le_of_ble_eq_true rfl) ([(2, .int r1), (0, .ref (u 69)), (1, .int x0)]) rfl ?_
  refine ax_iconst (pc := 11) C 0 d_Mod_holds_11 (by decide +kernel) ?_
  refine ax_istore_n (pc := 12) C d_Mod_holds_12 rfl (Nat.le_of_ble_eq_true rfl) ([(3, .int 0), (2, .int r1), (0, .ref (u 69)), (1, .int x0)]) rfl ?_
  refine ax_ls ([(0, .ref (u 69)), (1, .int x0), (2, .int r1), (3, .int 0)]) [2, 3, 1, 0] rfl ?_
  have hm : sC_Mod_holds_p13 l D kA u w tx σ1 [x0, r1, 0] (σf, rf, _) := ih tC_Mod_holds_p13 _ _ _ h
  exact hm _ _ _ rfl p e s m args below meth c F Lo σ0 hF hLo C
set_option maxHeartbeats 4000000 in
set_option maxRecDepth 100000 in
theorem oC_Mod_holds_p13 (l : Launch) (D : va_G) (kA : Nat → ClassId) (u w : Nat → Nat) (tx : Value) (rec : mF) (ih : ∀ t σ xs res, rec t σ xs = some res → cSem l D kA u w tx t σ xs res) (σ : mS) (xs : List Int32) (res : mR) (h : u_3 (kC_Mod_holds_p13 rec σ) xs = some res) : sC_Mod_holds_p13 l D kA u w tx σ xs res := by
  intro x0 x1 x2 hxs
  subst hxs
  obtain ⟨σf, rf, dd⟩ := res
  have h : (bnd (rec tC_Sto_fact σ [x0, 3]) (fun σ1 r1 => if r1 ≤ x2 then (some (σ1, 0, 0)) else (bnd (rec tC_Sto_sideAt σ1 [x1, 0]) (fun σ2 r2 => bnd (rec tC_Sto_sideAt σ2 [x1, 1]) (fun σ3 r3 => bnd (rec tC_Sto_behind σ3 [x1]) (fun σ4 r4 => bnd (rec tC_Mod_valueOf σ4 [r2, r3]) (fun σ5 r5 => bnd (rec tC_Mod_valueOf σ5 [r3, r4]) (fun σ6 r6 => if r5 = r6 then (rec tC_Mod_holds_p82 σ6 [x0, x1, x2, r2, r3, r4, 1]) else (rec tC_Mod_holds_p82 σ6 [x0, x1, x2, r2, r3, r4, 0]))))))))) = some (σf, rf, dd) := h
  intro p e s m args below meth c F Lo σ0 hF hLo C
  dsimp only at hF hLo ⊢
  refine ax_iload_n (pc := 13) C d_Mod_holds_13 rfl 3 rfl ?_
  refine ax_aload_n (pc := 14) C d_Mod_holds_14 rfl 0 rfl ?_
  refine cg_69_1_Mod_26 (pc := 15) C d_Mod_holds_15 ?_
  refine ax_iload_n (pc := 18) C d_Mod_holds_18 rfl 1 rfl ?_
  refine ax_iconst (pc := 19) C 3 d_Mod_holds_19 (by decide +kernel) ?_
  obtain ⟨σ1, r1, d1_1, d2_1, h1, h, hd2, hd1⟩ := it_b h
  have hm : sC_Sto_fact l D kA u w tx σ [x0, 3] (σ1, r1, d1_1) := ih tC_Sto_fact _ _ _ h1
  refine cc_Vi (pc := 20) C (r0 := r1) (σ2 := σ1) (As := [.int x0, .int 3]) (rest := [.int x2]) (hm _ _ rfl) ml_Mod_42 54 rfl rfl rfl d_Mod_holds_20 rfl rfl (by dsimp only; omega) (by dsimp only; omega) (Nat.le_of_ble_eq_true rfl) (Nat.le_of_ble_eq_true rfl) (Nat.le_of_ble_eq_true rfl) ?_
  have hF : d2_1 + 1 ≤ F := by omega
  have hLo : 48 * d2_1 + 48 ≤ Lo := by omega
  refine ax_icmp_ge (pc := 23) C 108 d_Mod_holds_23 (by decide) (fun hc => ?_) (fun hc => ?_)
  · have h := it_t hc h
    refine ax_iconst (pc := 108) C 0 d_Mod_holds_108 (by decide +kernel) ?_
    cases h
    exact ax_zret (pc := 109) C d_Mod_holds_109 rfl ⟨rfl, rfl⟩ (Nat.le_refl _) (Nat.le_refl _)
  · have h := it_f hc h
    refine ax_aload_n (pc := 26) C d_Mod_holds_26 rfl 0 rfl ?_
    refine cg_69_1_Mod_26 (pc := 27) C d_Mod_holds_27 ?_
    refine ax_iload_n (pc := 30) C d_Mod_holds_30 rfl 2 rfl ?_
    refine ax_iconst (pc := 31) C 0 d_Mod_holds_31 (by decide +kernel) ?_
    obtain ⟨σ2, r2, d1_2, d2_2, h1, h, hd2, hd1⟩ := it_b h
    have hm : sC_Sto_sideAt l D kA u w tx σ1 [x1, 0] (σ2, r2, d1_2) := ih tC_Sto_sideAt _ _ _ h1
    refine cc_Vi (pc := 32) C (r0 := r2) (σ2 := σ2) (As := [.int x1, .int 0]) (rest := []) (hm _ _ rfl) ml_Mod_53 54 rfl rfl rfl d_Mod_holds_32 rfl rfl (by dsimp only; omega) (by dsimp only; omega) (Nat.le_of_ble_eq_true rfl) (Nat.le_of_ble_eq_true rfl) (Nat.le_of_ble_eq_true rfl) ?_
    have hF : d2_2 + 1 ≤ F := by omega
    have hLo : 48 * d2_2 + 48 ≤ Lo := by omega
    refine ax_istore (pc := 35) C d_Mod_holds_35 (Nat.le_of_ble_eq_true rfl) ([(4, .int r2), (0, .ref (u 69)), (1, .int x0), (2, .int x1), (3, .int x2)]) rfl ?_
    refine ax_aload_n (pc := 37) C d_Mod_holds_37 rfl 1 rfl ?_
    refine cg_69_1_Mod_26 (pc := 38) C d_Mod_holds_38 ?_
    refine ax_iload_n (pc := 41) C d_Mod_holds_41 rfl 3 rfl ?_
    refine ax_iconst (pc := 42) C 1 d_Mod_holds_42 (by decide +kernel) ?_
    obtain ⟨σ3, r3, d1_3, d2_3, h1, h, hd2, hd1⟩ := it_b h
    have hm : sC_Sto_sideAt l D kA u w tx σ2 [x1, 1] (σ3, r3, d1_3) := ih tC_Sto_sideAt _ _ _ h1
    refine cc_Vi (pc := 43) C (r0 := r3) (σ2 := σ3) (As := [.int x1, .int 1]) (rest := []) (hm _ _ rfl) ml_Mod_53 54 rfl rfl rfl d_Mod_holds_43 rfl rfl (by dsimp only; omega) (by dsimp only; omega) (Nat.le_of_ble_eq_true rfl) (Nat.le_of_ble_eq_true rfl) (Nat.le_of_ble_eq_true rfl) ?_
    have hF : d2_3 + 1 ≤ F := by omega
    have hLo : 48 * d2_3 + 48 ≤ Lo := by omega
    refine ax_istore (pc := 46) C d_Mod_holds_46 (Nat.le_of_ble_eq_true rfl) ([(5, .int r3), (4, .int r2), (0, .ref (u 69)), (1, .int x0), (2, .int x1), (3, .int x2)]) rfl ?_
    refine ax_aload_n (pc := 48) C d_Mod_holds_48 rfl 2 rfl ?_
    refine cg_69_1_Mod_26 (pc := 49) C d_Mod_holds_49 ?_
    refine ax_iload_n (pc := 52) C d_Mod_holds_52 rfl 4 rfl ?_
    obtain ⟨σ4, r4, d1_4, d2_4, h1, h, hd2, hd1⟩ := it_b h
    have hm : sC_Sto_behind l D kA u w tx σ3 [x1] (σ4, r4, d1_4) := ih tC_Sto_behind _ _ _ h1
    refine cc_Vi (pc := 53) C (r0 := r4) (σ2 := σ4) (As := [.int x1]) (rest := []) (hm _ rfl) ml_Mod_56 54 rfl rfl rfl d_Mod_holds_53 rfl rfl (by dsimp only; omega) (by dsimp only; omega) (Nat.le_of_ble_eq_true rfl) (Nat.le_of_ble_eq_true rfl) (Nat.le_of_ble_eq_true rfl) ?_
    have hF : d2_4 + 1 ≤ F := by omega
    have hLo : 48 * d2_4 + 48 ≤ Lo := by omega
    refine ax_istore (pc := 56) C d_Mod_holds_56 (Nat.le_of_ble_eq_true rfl) ([(6, .int r4), (5, .int r3), (4, .int r2), (0, .ref (u 69)), (1, .int x0), (2, .int x1), (3, .int x2)]) rfl ?_
    refine ax_aload_n (pc := 58) C d_Mod_holds_58 rfl 3 rfl ?_
    refine ax_iload (pc := 59) C d_Mod_holds_59 2 rfl ?_
    refine ax_iload (pc := 61) C d_Mod_holds_61 1 rfl ?_
    obtain ⟨σ5, r5, d1_5, d2_5, h1, h, hd2, hd1⟩ := it_b h
    have hm : sC_Mod_valueOf l D kA u w tx σ4 [r2, r3] (σ5, r5, d1_5) := ih tC_Mod_valueOf _ _ _ h1
    refine cc_Vi (pc := 63) C (r0 := r5) (σ2 := σ5) (As := [.int r2, .int r3]) (rest := []) (hm _ _ rfl) ml_Mod_60 69 rfl rfl rfl d_Mod_holds_63 rfl rfl (by dsimp only; omega) (by dsimp only; omega) (Nat.le_of_ble_eq_true rfl) (Nat.le_of_ble_eq_true rfl) (Nat.le_of_ble_eq_true rfl) ?_
    have hF : d2_5 + 1 ≤ F := by omega
    have hLo : 48 * d2_5 + 48 ≤ Lo := by omega
    refine ax_aload_n (pc := 66) C d_Mod_holds_66 rfl 3 rfl ?_
    refine ax_iload (pc := 67) C d_Mod_holds_67 1 rfl ?_
    refine ax_iload (pc := 69) C d_Mod_holds_69 0 rfl ?_
    obtain ⟨σ6, r6, d1_6, d2_6, h1, h, hd2, hd1⟩ := it_b h
    have hm : sC_Mod_valueOf l D kA u w tx σ5 [r3, r4] (σ6, r6, d1_6) := ih tC_Mod_valueOf _ _ _ h1
    refine cc_Vi (pc := 71) C (r0 := r6) (σ2 := σ6) (As := [.int r3, .int r4]) (rest := [.int r5]) (hm _ _ rfl) ml_Mod_60 69 rfl rfl rfl d_Mod_holds_71 rfl rfl (by dsimp only; omega) (by dsimp only; omega) (Nat.le_of_ble_eq_true rfl) (Nat.le_of_ble_eq_true rfl) (Nat.le_of_ble_eq_true rfl) ?_
    have hF : d2_6 + 1 ≤ F := by omega
    have hLo : 48 * d2_6 + 48 ≤ Lo := by omega
    refine ax_icmp_ne (pc := 74) C 81 d_Mod_holds_74 (by decide) (fun hc => ?_) (fun hc => ?_)
    · have h := it_f hc h
      refine ax_iconst (pc := 81) C 0 d_Mod_holds_81 (by decide +kernel) ?_
      refine ax_ls ([(0, .ref (u 69)), (1, .int x0), (2, .int x1), (3, .int x2), (4, .int r2), (5, .int r3), (6, .int r4)]) [3, 4, 5, 6, 2, 1, 0] rfl ?_
      have hm : sC_Mod_holds_p82 l D kA u w tx σ6 [x0, x1, x2, r2, r3, r4, 0] (σf, rf, _) := ih tC_Mod_holds_p82 _ _ _ h
      exact hm _ _ _ _ _ _ _ rfl p e s m args below meth c F Lo σ0 hF hLo C
    · have h := it_t hc h
      refine ax_iconst (pc := 77) C 1 d_Mod_holds_77 (by decide +kernel) ?_
      refine ax_goto (pc := 78) C 82 d_Mod_holds_78 (by decide) ?_
      refine ax_ls ([(0, .ref (u 69)), (1, .int x0), (2, .int x1), (3, .int x2), (4, .int r2), (5, .int r3), (6, .int r4)]) [3, 4, 5, 6, 2, 1, 0] rfl ?_
      have hm : sC_Mod_holds_p82 l D kA u w tx σ6 [x0, x1, x2, r2, r3, r4, 1] (σf, rf, _) := ih tC_Mod_holds_p82 _ _ _ h
      exact hm _ _ _ _ _ _ _ rfl p e s m args below meth c F Lo σ0 hF hLo C
set_option maxHeartbeats 4000000 in
set_option maxRecDepth 100000 in
theorem oC_Mod_holds_p82 (l : Launch) (D : va_G) (kA : Nat → ClassId) (u w : Nat → Nat) (tx : Value) (rec : mF) (ih : ∀ t σ xs res, rec t σ xs = some res → cSem l D kA u w tx t σ xs res) (σ : mS) (xs : List Int32) (res : mR) (h : u_7 (kC_Mod_holds_p82 rec σ) xs = some res) : sC_Mod_holds_p82 l D kA u w tx σ xs res := by
  intro x0 x1 x2 x3 x4 x5 x6 hxs
  subst hxs
  obtain ⟨σf, rf, dd⟩ := res
  have h : (bnd (rec tC_Sto_isPositive σ [x1]) (fun σ1 r1 => if x6 = r1 then (some (σ1, 1, 0)) else (rec tC_Mod_holds_p13 σ1 [x0, x5, (x2 + 1)]))) = some (σf, rf, dd) := h
  intro p e s m args below meth c F Lo σ0 hF hLo C
  dsimp only at hF hLo ⊢
  refine ax_istore (pc := 82) C d_Mod_holds_82 (Nat.le_of_ble_eq_true rfl) ([(7, .int x6), (0, .ref (u 69)), (1, .int x0), (2, .int x1), (3, .int x2), (4, .int x3), (5, .int x4), (6, .int x5)]) rfl ?_
  refine ax_iload (pc := 84) C d_Mod_holds_84 0 rfl ?_
  refine ax_aload_n (pc := 86) C d_Mod_holds_86 rfl 1 rfl ?_
  refine cg_69_1_Mod_26 (pc := 87) C d_Mod_holds_87 ?_
  refine ax_iload_n (pc := 90) C d_Mod_holds_90 rfl 3 rfl ?_
  obtain ⟨σ1, r1, d1_1, d2_1, h1, h, hd2, hd1⟩ := it_b h
  have hm : sC_Sto_isPositive l D kA u w tx σ [x1] (σ1, r1, d1_1) := ih tC_Sto_isPositive _ _ _ h1
  refine cc_Vi (pc := 91) C (r0 := r1) (σ2 := σ1) (As := [.int x1]) (rest := [.int x6]) (hm _ rfl) ml_Mod_63 54 rfl rfl rfl d_Mod_holds_91 rfl rfl (by dsimp only; omega) (by dsimp only; omega) (Nat.le_of_ble_eq_true rfl) (Nat.le_of_ble_eq_true rfl) (Nat.le_of_ble_eq_true rfl) ?_
  have hF : d2_1 + 1 ≤ F := by omega
  have hLo : 48 * d2_1 + 48 ≤ Lo := by omega
  refine ax_icmp_ne (pc := 94) C 99 d_Mod_holds_94 (by decide) (fun hc => ?_) (fun hc => ?_)
  · have h := it_f hc h
    refine ax_iload (pc := 99) C d_Mod_holds_99 7 rfl ?_
    refine ax_istore_n (pc := 101) C d_Mod_holds_101 rfl (Nat.le_of_ble_eq_true rfl) ([(2, .int x5), (7, .int x6), (0, .ref (u 69)), (1, .int x0), (3, .int x2), (4, .int x3), (5, .int x4), (6, .int x5)]) rfl ?_
    refine ax_iinc (pc := 102) C (x2 + 1) d_Mod_holds_102 4 rfl rfl (Nat.le_of_ble_eq_true rfl) ([(3, .int (x2 + 1)), (2, .int x5), (7, .int x6), (0, .ref (u 69)), (1, .int x0), (4, .int x3), (5, .int x4), (6, .int x5)]) rfl ?_
    refine ax_goto (pc := 105) C 13 d_Mod_holds_105 (by decide) ?_
    refine ax_ls ([(0, .ref (u 69)), (1, .int x0), (2, .int x5), (3, .int (x2 + 1))]) [3, 4, 1, 0] rfl ?_
    have hm : sC_Mod_holds_p13 l D kA u w tx σ1 [x0, x5, (x2 + 1)] (σf, rf, _) := ih tC_Mod_holds_p13 _ _ _ h
    exact hm _ _ _ rfl p e s m args below meth c F Lo σ0 hF hLo C
  · have h := it_t hc h
    refine ax_iconst (pc := 97) C 1 d_Mod_holds_97 (by decide +kernel) ?_
    cases h
    exact ax_zret (pc := 98) C d_Mod_holds_98 rfl ⟨rfl, rfl⟩ (Nat.le_refl _) (Nat.le_refl _)
set_option maxHeartbeats 4000000 in
set_option maxRecDepth 100000 in
theorem oC_Mod_makesTrue (l : Launch) (D : va_G) (kA : Nat → ClassId) (u w : Nat → Nat) (tx : Value) (rec : mF) (ih : ∀ t σ xs res, rec t σ xs = some res → cSem l D kA u w tx t σ xs res) (σ : mS) (xs : List Int32) (res : mR) (h : u_1 (kC_Mod_makesTrue rec σ) xs = some res) : sC_Mod_makesTrue l D kA u w tx σ xs res := by
  intro x0 hxs
  subst hxs
  obtain ⟨σf, rf, dd⟩ := res
  have h : (bnd (rec tC_Sto_fact σ [x0, 5]) (fun σ1 r1 => rec tC_Mod_makesTrue_p15 σ1 [x0, r1, 1, 0])) = some (σf, rf, dd) := h
  refine ax_Mi.of (by decide +kernel) (Nat.le_of_ble_eq_true rfl) ?_
  intro p e s m args below meth c C hnm
  have C : ax_C p s m args meth c b_Mod_makesTrue "ClauseProver$Model" 5 (some .boolean) D kA (va_A (cpW kA u w tx σ) s.heap.size) := C
  obtain ⟨F, hFe⟩ : ∃ F, F = dd + 1 := ⟨_, rfl⟩
  obtain ⟨Lo, hLoe⟩ : ∃ Lo, Lo = 48 * dd + 48 := ⟨_, rfl⟩
  obtain ⟨σ0, hσ0⟩ : ∃ s0, s0 = σ := ⟨_, rfl⟩
  suffices K : AW p l e { frames := F, cells := 0, slots := 0, locals := Lo } s m args below meth c D kA (va_A (cpW kA u w tx σ0) s.heap.size) 5 (ax_Qi below args s D kA (cpW kA u w tx σ0) 0 0 (fun r w1 => r = rf ∧ w1 = cpW kA u w tx σf)) 0 [(0, .ref (u 69)), (1, .int x0)] [] (cpW kA u w tx σ) 0 0 by rw [hFe, hLoe, hσ0] at K; exact ax_ls ([(0, .ref (u 69)), (1, .int x0)]) [0, 1] rfl K
  have C : ax_C p s m args meth c b_Mod_makesTrue "ClauseProver$Model" 5 (some .boolean) D kA (va_A (cpW kA u w tx σ0) s.heap.size) := by rw [hσ0]; exact C
  have hF : dd + 1 ≤ F := by omega
  have hLo : 48 * dd + 48 ≤ Lo := by omega
  clear hFe hLoe hσ0
  refine ax_aload_n (pc := 0) C d_Mod_makesTrue_0 rfl 0 rfl ?_
  refine cg_69_1_Mod_26 (pc := 1) C d_Mod_makesTrue_1 ?_
  refine ax_iload_n (pc := 4) C d_Mod_makesTrue_4 rfl 1 rfl ?_
  refine ax_iconst (pc := 5) C 5 d_Mod_makesTrue_5 (by decide +kernel) ?_
  obtain ⟨σ1, r1, d1_1, d2_1, h1, h, hd2, hd1⟩ := it_b h
  have hm : sC_Sto_fact l D kA u w tx σ [x0, 5] (σ1, r1, d1_1) := ih tC_Sto_fact _ _ _ h1
  refine cc_Vi (pc := 6) C (r0 := r1) (σ2 := σ1) (As := [.int x0, .int 5]) (rest := []) (hm _ _ rfl) ml_Mod_42 54 rfl rfl rfl d_Mod_makesTrue_6 rfl rfl (by dsimp only; omega) (by dsimp only; omega) (Nat.le_of_ble_eq_true rfl) (Nat.le_of_ble_eq_true rfl) (Nat.le_of_ble_eq_true rfl) ?_
  have hF : d2_1 + 1 ≤ F := by omega
  have hLo : 48 * d2_1 + 48 ≤ Lo := by omega
  refine ax_istore_n (pc := 9) C d_Mod_makesTrue_9 rfl (Nat.le_of_ble_eq_true rfl) ([(2, .int r1), (0, .ref (u 69)), (1, .int x0)]) rfl ?_
  refine ax_iconst (pc := 10) C 1 d_Mod_makesTrue_10 (by decide +kernel) ?_
  refine ax_istore_n (pc := 11) C d_Mod_makesTrue_11 rfl (Nat.le_of_ble_eq_true rfl) ([(3, .int 1), (2, .int r1), (0, .ref (u 69)), (1, .int x0)]) rfl ?_
  refine ax_iconst (pc := 12) C 0 d_Mod_makesTrue_12 (by decide +kernel) ?_
  refine ax_istore (pc := 13) C d_Mod_makesTrue_13 (Nat.le_of_ble_eq_true rfl) ([(4, .int 0), (3, .int 1), (2, .int r1), (0, .ref (u 69)), (1, .int x0)]) rfl ?_
  refine ax_ls ([(0, .ref (u 69)), (1, .int x0), (2, .int r1), (3, .int 1), (4, .int 0)]) [3, 4, 2, 1, 0] rfl ?_
  have hm : sC_Mod_makesTrue_p15 l D kA u w tx σ1 [x0, r1, 1, 0] (σf, rf, _) := ih tC_Mod_makesTrue_p15 _ _ _ h
  exact hm _ _ _ _ rfl p e s m args below meth c F Lo σ0 hF hLo C
set_option maxHeartbeats 4000000 in
set_option maxRecDepth 100000 in
theorem oC_Mod_makesTrue_p15 (l : Launch) (D : va_G) (kA : Nat → ClassId) (u w : Nat → Nat) (tx : Value) (rec : mF) (ih : ∀ t σ xs res, rec t σ xs = some res → cSem l D kA u w tx t σ xs res) (σ : mS) (xs : List Int32) (res : mR) (h : u_4 (kC_Mod_makesTrue_p15 rec σ) xs = some res) : sC_Mod_makesTrue_p15 l D kA u w tx σ xs res := by
  intro x0 x1 x2 x3 hxs
  subst hxs
  obtain ⟨σf, rf, dd⟩ := res
  have h : (if x1 ≤ x3 then (rec tC_Mod_makesTrue_p45 σ [x0, x1, x2, 0]) else (if bin x3 6 = true then (lt_ (mA σ 70 (Int32.toNatClampNeg x3) 0) (fun σ1 => rec tC_Mod_makesTrue_p15 σ1 [x0, x1, ((x2 : Int32) * (σ1.1 6905)), (x3 + 1)])) else none)) = some (σf, rf, dd) := h
  intro p e s m args below meth c F Lo σ0 hF hLo C
  dsimp only at hF hLo ⊢
  refine ax_iload (pc := 15) C d_Mod_makesTrue_15 4 rfl ?_
  refine ax_iload_n (pc := 17) C d_Mod_makesTrue_17 rfl 2 rfl ?_
  refine ax_icmp_ge (pc := 18) C 42 d_Mod_makesTrue_18 (by decide) (fun hc => ?_) (fun hc => ?_)
  · have h := it_t hc h
    refine ax_iconst (pc := 42) C 0 d_Mod_makesTrue_42 (by decide +kernel) ?_
    refine ax_istore (pc := 43) C d_Mod_makesTrue_43 (Nat.le_of_ble_eq_true rfl) ([(4, .int 0), (0, .ref (u 69)), (1, .int x0), (2, .int x1), (3, .int x2)]) rfl ?_
    refine ax_ls ([(0, .ref (u 69)), (1, .int x0), (2, .int x1), (3, .int x2), (4, .int 0)]) [1, 2, 3, 4, 0] rfl ?_
    have hm : sC_Mod_makesTrue_p45 l D kA u w tx σ [x0, x1, x2, 0] (σf, rf, _) := ih tC_Mod_makesTrue_p45 _ _ _ h
    exact hm _ _ _ _ rfl p e s m args below meth c F Lo σ0 hF hLo C
  · have h := it_f hc h
    refine ax_aload_n (pc := 21) C d_Mod_makesTrue_21 rfl 0 rfl ?_
    refine cg_69_2_Mod_9 (pc := 22) C d_Mod_makesTrue_22 ?_
    refine ax_iload (pc := 25) C d_Mod_makesTrue_25 4 rfl ?_
    refine ax_iconst (pc := 27) C 0 d_Mod_makesTrue_27 (by decide +kernel) ?_
    obtain ⟨hb, h⟩ := it_g h
    refine cs_70 (pc := 28) C d_Mod_makesTrue_28 (bin_in hb) ?_
    have h := it_l h
    generalize mA σ 70 (Int32.toNatClampNeg x3) 0 = σ1 at h ⊢
    refine ax_iload_n (pc := 29) C d_Mod_makesTrue_29 rfl 3 rfl ?_
    refine ax_aload_n (pc := 30) C d_Mod_makesTrue_30 rfl 0 rfl ?_
    refine cg_69_5_Mod_18 (pc := 31) C d_Mod_makesTrue_31 ?_
    refine ax_imul (pc := 34) C d_Mod_makesTrue_34 ?_
    refine ax_istore_n (pc := 35) C d_Mod_makesTrue_35 rfl (Nat.le_of_ble_eq_true rfl) ([(3, .int ((x2 : Int32) * (σ1.1 6905))), (0, .ref (u 69)), (1, .int x0), (2, .int x1), (4, .int x3)]) rfl ?_
    refine ax_iinc (pc := 36) C (x3 + 1) d_Mod_makesTrue_36 4 rfl rfl (Nat.le_of_ble_eq_true rfl) ([(4, .int (x3 + 1)), (3, .int ((x2 : Int32) * (σ1.1 6905))), (0, .ref (u 69)), (1, .int x0), (2, .int x1)]) rfl ?_
    refine ax_goto (pc := 39) C 15 d_Mod_makesTrue_39 (by decide) ?_
    refine ax_ls ([(0, .ref (u 69)), (1, .int x0), (2, .int x1), (3, .int ((x2 : Int32) * (σ1.1 6905))), (4, .int (x3 + 1))]) [2, 3, 4, 1, 0] rfl ?_
    have hm : sC_Mod_makesTrue_p15 l D kA u w tx σ1 [x0, x1, ((x2 : Int32) * (σ1.1 6905)), (x3 + 1)] (σf, rf, _) := ih tC_Mod_makesTrue_p15 _ _ _ h
    exact hm _ _ _ _ rfl p e s m args below meth c F Lo σ0 hF hLo C
set_option maxHeartbeats 4000000 in
set_option maxRecDepth 100000 in
theorem oC_Mod_makesTrue_p45 (l : Launch) (D : va_G) (kA : Nat → ClassId) (u w : Nat → Nat) (tx : Value) (rec : mF) (ih : ∀ t σ xs res, rec t σ xs = some res → cSem l D kA u w tx t σ xs res) (σ : mS) (xs : List Int32) (res : mR) (h : u_4 (kC_Mod_makesTrue_p45 rec σ) xs = some res) : sC_Mod_makesTrue_p45 l D kA u w tx σ xs res := by
  intro x0 x1 x2 x3 hxs
  subst hxs
  obtain ⟨σf, rf, dd⟩ := res
  have h : (if x2 ≤ x3 then (some (σ, 1, 0)) else (bnd (rec tC_Mod_holds σ [x0]) (fun σ1 r1 => if r1 = 0 then (some (σ1, 0, 0)) else (bnd (rec tC_Mod_nextElements σ1 [x1]) (fun σ2 r2 => rec tC_Mod_makesTrue_p45 σ2 [x0, x1, x2, (x3 + 1)]))))) = some (σf, rf, dd) := h
  intro p e s m args below meth c F Lo σ0 hF hLo C
  dsimp only at hF hLo ⊢
  refine ax_iload (pc := 45) C d_Mod_makesTrue_45 4 rfl ?_
  refine ax_iload_n (pc := 47) C d_Mod_makesTrue_47 rfl 3 rfl ?_
  refine ax_icmp_ge (pc := 48) C 72 d_Mod_makesTrue_48 (by decide) (fun hc => ?_) (fun hc => ?_)
  · have h := it_t hc h
    refine ax_iconst (pc := 72) C 1 d_Mod_makesTrue_72 (by decide +kernel) ?_
    cases h
    exact ax_zret (pc := 73) C d_Mod_makesTrue_73 rfl ⟨rfl, rfl⟩ (Nat.le_refl _) (Nat.le_refl _)
  · have h := it_f hc h
    refine ax_aload_n (pc := 51) C d_Mod_makesTrue_51 rfl 0 rfl ?_
    refine ax_iload_n (pc := 52) C d_Mod_makesTrue_52 rfl 1 rfl ?_
    obtain ⟨σ1, r1, d1_1, d2_1, h1, h, hd2, hd1⟩ := it_b h
    have hm : sC_Mod_holds l D kA u w tx σ [x0] (σ1, r1, d1_1) := ih tC_Mod_holds _ _ _ h1
    refine cc_Vi (pc := 53) C (r0 := r1) (σ2 := σ1) (As := [.int x0]) (rest := []) (hm _ rfl) ml_Mod_46 69 rfl rfl rfl d_Mod_makesTrue_53 rfl rfl (by dsimp only; omega) (by dsimp only; omega) (Nat.le_of_ble_eq_true rfl) (Nat.le_of_ble_eq_true rfl) (Nat.le_of_ble_eq_true rfl) ?_
    have hF : d2_1 + 1 ≤ F := by omega
    have hLo : 48 * d2_1 + 48 ≤ Lo := by omega
    refine ax_if_ne (pc := 56) C 61 d_Mod_makesTrue_56 (by decide) (fun hc => ?_) (fun hc => ?_)
    · have h := it_f hc h
      refine ax_aload_n (pc := 61) C d_Mod_makesTrue_61 rfl 0 rfl ?_
      refine ax_iload_n (pc := 62) C d_Mod_makesTrue_62 rfl 2 rfl ?_
      obtain ⟨σ2, r2, d1_2, d2_2, h1, h, hd2, hd1⟩ := it_b h
      have hm : sC_Mod_nextElements l D kA u w tx σ1 [x1] (σ2, r2, d1_2) := ih tC_Mod_nextElements _ _ _ h1
      refine cc_Vv (pc := 63) C (σ2 := σ2) (As := [.int x1]) (rest := []) (hm _ rfl) ml_Mod_49 69 rfl rfl rfl d_Mod_makesTrue_63 rfl rfl (by dsimp only; omega) (by dsimp only; omega) (Nat.le_of_ble_eq_true rfl) (Nat.le_of_ble_eq_true rfl) (Nat.le_of_ble_eq_true rfl) ?_
      have hF : d2_2 + 1 ≤ F := by omega
      have hLo : 48 * d2_2 + 48 ≤ Lo := by omega
      refine ax_iinc (pc := 66) C (x3 + 1) d_Mod_makesTrue_66 4 rfl rfl (Nat.le_of_ble_eq_true rfl) ([(4, .int (x3 + 1)), (0, .ref (u 69)), (1, .int x0), (2, .int x1), (3, .int x2)]) rfl ?_
      refine ax_goto (pc := 69) C 45 d_Mod_makesTrue_69 (by decide) ?_
      refine ax_ls ([(0, .ref (u 69)), (1, .int x0), (2, .int x1), (3, .int x2), (4, .int (x3 + 1))]) [1, 2, 3, 4, 0] rfl ?_
      have hm : sC_Mod_makesTrue_p45 l D kA u w tx σ2 [x0, x1, x2, (x3 + 1)] (σf, rf, _) := ih tC_Mod_makesTrue_p45 _ _ _ h
      exact hm _ _ _ _ rfl p e s m args below meth c F Lo σ0 hF hLo C
    · have h := it_t hc h
      refine ax_iconst (pc := 59) C 0 d_Mod_makesTrue_59 (by decide +kernel) ?_
      cases h
      exact ax_zret (pc := 60) C d_Mod_makesTrue_60 rfl ⟨rfl, rfl⟩ (Nat.le_refl _) (Nat.le_refl _)
set_option maxHeartbeats 4000000 in
set_option maxRecDepth 100000 in
theorem oC_Mod_mix (l : Launch) (D : va_G) (kA : Nat → ClassId) (u w : Nat → Nat) (tx : Value) (rec : mF) (ih : ∀ t σ xs res, rec t σ xs = some res → cSem l D kA u w tx t σ xs res) (σ : mS) (xs : List Int32) (res : mR) (h : u_2 (kC_Mod_mix rec σ) xs = some res) : sC_Mod_mix l D kA u w tx σ xs res := by
  intro x0 x1 hxs
  subst hxs
  obtain ⟨σf, rf, dd⟩ := res
  have h : (some (σ, ((((((31 : Int32) * ((x0 : Int32) ^^^ (((x0 : Int32).toUInt32 >>> ((7 : Int32).toUInt32 &&& Int32.toUInt32 31)).toInt32))) : Int32) + x1) : Int32) + 1), 0)) = some (σf, rf, dd) := h
  refine ax_Mi.of (by decide +kernel) (Nat.le_of_ble_eq_true rfl) ?_
  intro p e s m args below meth c C hnm
  have C : ax_C p s m args meth c b_Mod_mix "ClauseProver$Model" 2 (some .int) D kA (va_A (cpW kA u w tx σ) s.heap.size) := C
  obtain ⟨F, hFe⟩ : ∃ F, F = dd + 1 := ⟨_, rfl⟩
  obtain ⟨Lo, hLoe⟩ : ∃ Lo, Lo = 48 * dd + 48 := ⟨_, rfl⟩
  obtain ⟨σ0, hσ0⟩ : ∃ s0, s0 = σ := ⟨_, rfl⟩
  suffices K : AW p l e { frames := F, cells := 0, slots := 0, locals := Lo } s m args below meth c D kA (va_A (cpW kA u w tx σ0) s.heap.size) 2 (ax_Qi below args s D kA (cpW kA u w tx σ0) 0 0 (fun r w1 => r = rf ∧ w1 = cpW kA u w tx σf)) 0 [(0, .int x0), (1, .int x1)] [] (cpW kA u w tx σ) 0 0 by rw [hFe, hLoe, hσ0] at K; exact ax_ls ([(0, .int x0), (1, .int x1)]) [0, 1] rfl K
  have C : ax_C p s m args meth c b_Mod_mix "ClauseProver$Model" 2 (some .int) D kA (va_A (cpW kA u w tx σ0) s.heap.size) := by rw [hσ0]; exact C
  have hF : dd + 1 ≤ F := by omega
  have hLo : 48 * dd + 48 ≤ Lo := by omega
  clear hFe hLoe hσ0
  refine ax_bipush (pc := 0) C 31 d_Mod_mix_0 (by decide +kernel) ?_
  refine ax_iload_n (pc := 2) C d_Mod_mix_2 rfl 0 rfl ?_
  refine ax_iload_n (pc := 3) C d_Mod_mix_3 rfl 0 rfl ?_
  refine ax_bipush (pc := 4) C 7 d_Mod_mix_4 (by decide +kernel) ?_
  refine ax_iushr (pc := 6) C (((x0 : Int32).toUInt32 >>> ((7 : Int32).toUInt32 &&& Int32.toUInt32 31)).toInt32) d_Mod_mix_6 rfl ?_
  refine ax_ixor (pc := 7) C d_Mod_mix_7 ?_
  refine ax_imul (pc := 8) C d_Mod_mix_8 ?_
  refine ax_iload_n (pc := 9) C d_Mod_mix_9 rfl 1 rfl ?_
  refine ax_iadd (pc := 10) C d_Mod_mix_10 ?_
  refine ax_iconst (pc := 11) C 1 d_Mod_mix_11 (by decide +kernel) ?_
  refine ax_iadd (pc := 12) C d_Mod_mix_12 ?_
  cases h
  exact ax_iret (pc := 13) C d_Mod_mix_13 ⟨rfl, rfl⟩ (Nat.le_refl _) (Nat.le_refl _)
set_option maxHeartbeats 4000000 in
set_option maxRecDepth 100000 in
theorem oC_Mod_nextElements (l : Launch) (D : va_G) (kA : Nat → ClassId) (u w : Nat → Nat) (tx : Value) (rec : mF) (ih : ∀ t σ xs res, rec t σ xs = some res → cSem l D kA u w tx t σ xs res) (σ : mS) (xs : List Int32) (res : mR) (h : u_1 (kC_Mod_nextElements rec σ) xs = some res) : sC_Mod_nextElements l D kA u w tx σ xs res := by
  intro x0 hxs
  subst hxs
  obtain ⟨σf, rf, dd⟩ := res
  have h : (rec tC_Mod_nextElements_p2 σ [x0, 0]) = some (σf, rf, dd) := h
  refine ax_Mv.of (by decide +kernel) (Nat.le_of_ble_eq_true rfl) ?_
  intro p e s m args below meth c C hnm
  have C : ax_C p s m args meth c b_Mod_nextElements "ClauseProver$Model" 3 none D kA (va_A (cpW kA u w tx σ) s.heap.size) := C
  obtain ⟨F, hFe⟩ : ∃ F, F = dd + 1 := ⟨_, rfl⟩
  obtain ⟨Lo, hLoe⟩ : ∃ Lo, Lo = 48 * dd + 48 := ⟨_, rfl⟩
  obtain ⟨σ0, hσ0⟩ : ∃ s0, s0 = σ := ⟨_, rfl⟩
  suffices K : AW p l e { frames := F, cells := 0, slots := 0, locals := Lo } s m args below meth c D kA (va_A (cpW kA u w tx σ0) s.heap.size) 3 (ax_Qv below args s D kA (cpW kA u w tx σ0) 0 0 (fun w1 => w1 = cpW kA u w tx σf)) 0 [(0, .ref (u 69)), (1, .int x0)] [] (cpW kA u w tx σ) 0 0 by rw [hFe, hLoe, hσ0] at K; exact ax_ls ([(0, .ref (u 69)), (1, .int x0)]) [0, 1] rfl K
  have C : ax_C p s m args meth c b_Mod_nextElements "ClauseProver$Model" 3 none D kA (va_A (cpW kA u w tx σ0) s.heap.size) := by rw [hσ0]; exact C
  have hF : dd + 1 ≤ F := by omega
  have hLo : 48 * dd + 48 ≤ Lo := by omega
  clear hFe hLoe hσ0
  refine ax_iconst (pc := 0) C 0 d_Mod_nextElements_0 (by decide +kernel) ?_
  refine ax_istore_n (pc := 1) C d_Mod_nextElements_1 rfl (Nat.le_of_ble_eq_true rfl) ([(2, .int 0), (0, .ref (u 69)), (1, .int x0)]) rfl ?_
  refine ax_ls ([(0, .ref (u 69)), (1, .int x0), (2, .int 0)]) [1, 2, 0] rfl ?_
  have hm : sC_Mod_nextElements_p2 l D kA u w tx σ [x0, 0] (σf, rf, _) := ih tC_Mod_nextElements_p2 _ _ _ h
  exact hm _ _ rfl p e s m args below meth c F Lo σ0 hF hLo C
set_option maxHeartbeats 4000000 in
set_option maxRecDepth 100000 in
theorem oC_Mod_nextElements_p2 (l : Launch) (D : va_G) (kA : Nat → ClassId) (u w : Nat → Nat) (tx : Value) (rec : mF) (ih : ∀ t σ xs res, rec t σ xs = some res → cSem l D kA u w tx t σ xs res) (σ : mS) (xs : List Int32) (res : mR) (h : u_2 (kC_Mod_nextElements_p2 rec σ) xs = some res) : sC_Mod_nextElements_p2 l D kA u w tx σ xs res := by
  intro x0 x1 hxs
  subst hxs
  obtain ⟨σf, rf, dd⟩ := res
  have h : (if x0 ≤ x1 then (some (σ, 0, 0)) else (if bin x1 6 = true then (if bin x1 6 = true then (lt_ (mA σ 70 (Int32.toNatClampNeg x1) (((σ.2.1 70 (Int32.toNatClampNeg x1)) : Int32) + 1)) (fun σ1 => if bin x1 6 = true then (if (σ1.1 6905) ≤ (σ1.2.1 70 (Int32.toNatClampNeg x1)) then (if bin x1 6 = true then (lt_ (mA σ1 70 (Int32.toNatClampNeg x1) 0) (fun σ2 => rec tC_Mod_nextElements_p2 σ2 [x0, (x1 + 1)])) else none) else (some (σ1, 0, 0))) else none)) else none) else none)) = some (σf, rf, dd) := h
  intro p e s m args below meth c F Lo σ0 hF hLo C
  dsimp only at hF hLo ⊢
  refine ax_iload_n (pc := 2) C d_Mod_nextElements_2 rfl 2 rfl ?_
  refine ax_iload_n (pc := 3) C d_Mod_nextElements_3 rfl 1 rfl ?_
  refine ax_icmp_ge (pc := 4) C 44 d_Mod_nextElements_4 (by decide) (fun hc => ?_) (fun hc => ?_)
  · have h := it_t hc h
    cases h
    exact ax_vret (pc := 44) C d_Mod_nextElements_44 rfl (Nat.le_refl _) (Nat.le_refl _)
  · have h := it_f hc h
    refine ax_aload_n (pc := 7) C d_Mod_nextElements_7 rfl 0 rfl ?_
    refine cg_69_2_Mod_9 (pc := 8) C d_Mod_nextElements_8 ?_
    refine ax_iload_n (pc := 11) C d_Mod_nextElements_11 rfl 2 rfl ?_
    refine ax_dup2 (pc := 12) C d_Mod_nextElements_12 rfl rfl ?_
    obtain ⟨hb, h⟩ := it_g h
    refine cl_70 (pc := 13) C d_Mod_nextElements_13 (bin_in hb) ?_
    refine ax_iconst (pc := 14) C 1 d_Mod_nextElements_14 (by decide +kernel) ?_
    refine ax_iadd (pc := 15) C d_Mod_nextElements_15 ?_
    obtain ⟨hb, h⟩ := it_g h
    refine cs_70 (pc := 16) C d_Mod_nextElements_16 (bin_in hb) ?_
    have h := it_l h
    generalize mA σ 70 (Int32.toNatClampNeg x1) (((σ.2.1 70 (Int32.toNatClampNeg x1)) : Int32) + 1) = σ1 at h ⊢
    refine ax_aload_n (pc := 17) C d_Mod_nextElements_17 rfl 0 rfl ?_
    refine cg_69_2_Mod_9 (pc := 18) C d_Mod_nextElements_18 ?_
    refine ax_iload_n (pc := 21) C d_Mod_nextElements_21 rfl 2 rfl ?_
    obtain ⟨hb, h⟩ := it_g h
    refine cl_70 (pc := 22) C d_Mod_nextElements_22 (bin_in hb) ?_
    refine ax_aload_n (pc := 23) C d_Mod_nextElements_23 rfl 0 rfl ?_
    refine cg_69_5_Mod_18 (pc := 24) C d_Mod_nextElements_24 ?_
    refine ax_icmp_ge (pc := 27) C 31 d_Mod_nextElements_27 (by decide) (fun hc => ?_) (fun hc => ?_)
    · have h := it_t hc h
      refine ax_aload_n (pc := 31) C d_Mod_nextElements_31 rfl 0 rfl ?_
      refine cg_69_2_Mod_9 (pc := 32) C d_Mod_nextElements_32 ?_
      refine ax_iload_n (pc := 35) C d_Mod_nextElements_35 rfl 2 rfl ?_
      refine ax_iconst (pc := 36) C 0 d_Mod_nextElements_36 (by decide +kernel) ?_
      obtain ⟨hb, h⟩ := it_g h
      refine cs_70 (pc := 37) C d_Mod_nextElements_37 (bin_in hb) ?_
      have h := it_l h
      generalize mA σ1 70 (Int32.toNatClampNeg x1) 0 = σ2 at h ⊢
      refine ax_iinc (pc := 38) C (x1 + 1) d_Mod_nextElements_38 2 rfl rfl (Nat.le_of_ble_eq_true rfl) ([(2, .int (x1 + 1)), (0, .ref (u 69)), (1, .int x0)]) rfl ?_
      refine ax_goto (pc := 41) C 2 d_Mod_nextElements_41 (by decide) ?_
      refine ax_ls ([(0, .ref (u 69)), (1, .int x0), (2, .int (x1 + 1))]) [1, 2, 0] rfl ?_
      have hm : sC_Mod_nextElements_p2 l D kA u w tx σ2 [x0, (x1 + 1)] (σf, rf, _) := ih tC_Mod_nextElements_p2 _ _ _ h
      exact hm _ _ rfl p e s m args below meth c F Lo σ0 hF hLo C
    · have h := it_f hc h
      cases h
      exact ax_vret (pc := 30) C d_Mod_nextElements_30 rfl (Nat.le_refl _) (Nat.le_refl _)
set_option maxHeartbeats 4000000 in
set_option maxRecDepth 100000 in
theorem oC_Mod_suitsText (l : Launch) (D : va_G) (kA : Nat → ClassId) (u w : Nat → Nat) (tx : Value) (rec : mF) (ih : ∀ t σ xs res, rec t σ xs = some res → cSem l D kA u w tx t σ xs res) (σ : mS) (xs : List Int32) (res : mR) (h : u_2 (kC_Mod_suitsText rec σ) xs = some res) : sC_Mod_suitsText l D kA u w tx σ xs res := by
  intro x0 x1 hxs
  subst hxs
  obtain ⟨σf, rf, dd⟩ := res
  have h : (lt_ (mI σ 6904 x0) (fun σ1 => lt_ (mI σ1 6905 x1) (fun σ2 => rec tC_Mod_suitsText_p12 σ2 [x0, x1, 0]))) = some (σf, rf, dd) := h
  refine ax_Mi.of (by decide +kernel) (Nat.le_of_ble_eq_true rfl) ?_
  intro p e s m args below meth c C hnm
  have C : ax_C p s m args meth c b_Mod_suitsText "ClauseProver$Model" 4 (some .boolean) D kA (va_A (cpW kA u w tx σ) s.heap.size) := C
  obtain ⟨F, hFe⟩ : ∃ F, F = dd + 1 := ⟨_, rfl⟩
  obtain ⟨Lo, hLoe⟩ : ∃ Lo, Lo = 48 * dd + 48 := ⟨_, rfl⟩
  obtain ⟨σ0, hσ0⟩ : ∃ s0, s0 = σ := ⟨_, rfl⟩
  suffices K : AW p l e { frames := F, cells := 0, slots := 0, locals := Lo } s m args below meth c D kA (va_A (cpW kA u w tx σ0) s.heap.size) 4 (ax_Qi below args s D kA (cpW kA u w tx σ0) 0 0 (fun r w1 => r = rf ∧ w1 = cpW kA u w tx σf)) 0 [(0, .ref (u 69)), (1, .int x0), (2, .int x1)] [] (cpW kA u w tx σ) 0 0 by rw [hFe, hLoe, hσ0] at K; exact ax_ls ([(0, .ref (u 69)), (1, .int x0), (2, .int x1)]) [0, 1, 2] rfl K
  have C : ax_C p s m args meth c b_Mod_suitsText "ClauseProver$Model" 4 (some .boolean) D kA (va_A (cpW kA u w tx σ0) s.heap.size) := by rw [hσ0]; exact C
  have hF : dd + 1 ≤ F := by omega
  have hLo : 48 * dd + 48 ≤ Lo := by omega
  clear hFe hLoe hσ0
  refine ax_aload_n (pc := 0) C d_Mod_suitsText_0 rfl 0 rfl ?_
  refine ax_iload_n (pc := 1) C d_Mod_suitsText_1 rfl 1 rfl ?_
  refine cq_69_4_Mod_30 (pc := 2) C d_Mod_suitsText_2 ?_
  have h := it_l h
  generalize mI σ 6904 x0 = σ1 at h ⊢
  refine ax_aload_n (pc := 5) C d_Mod_suitsText_5 rfl 0 rfl ?_
  refine ax_iload_n (pc := 6) C d_Mod_suitsText_6 rfl 2 rfl ?_
  refine cq_69_5_Mod_18 (pc := 7) C d_Mod_suitsText_7 ?_
  have h := it_l h
  generalize mI σ1 6905 x1 = σ2 at h ⊢
  refine ax_iconst (pc := 10) C 0 d_Mod_suitsText_10 (by decide +kernel) ?_
  refine ax_istore_n (pc := 11) C d_Mod_suitsText_11 rfl (Nat.le_of_ble_eq_true rfl) ([(3, .int 0), (0, .ref (u 69)), (1, .int x0), (2, .int x1)]) rfl ?_
  refine ax_ls ([(0, .ref (u 69)), (1, .int x0), (2, .int x1), (3, .int 0)]) [1, 2, 3, 0] rfl ?_
  have hm : sC_Mod_suitsText_p12 l D kA u w tx σ2 [x0, x1, 0] (σf, rf, _) := ih tC_Mod_suitsText_p12 _ _ _ h
  exact hm _ _ _ rfl p e s m args below meth c F Lo σ0 hF hLo C
set_option maxHeartbeats 4000000 in
set_option maxRecDepth 100000 in
theorem oC_Mod_suitsText_p12 (l : Launch) (D : va_G) (kA : Nat → ClassId) (u w : Nat → Nat) (tx : Value) (rec : mF) (ih : ∀ t σ xs res, rec t σ xs = some res → cSem l D kA u w tx t σ xs res) (σ : mS) (xs : List Int32) (res : mR) (h : u_3 (kC_Mod_suitsText_p12 rec σ) xs = some res) : sC_Mod_suitsText_p12 l D kA u w tx σ xs res := by
  intro x0 x1 x2 hxs
  subst hxs
  obtain ⟨σf, rf, dd⟩ := res
  have h : (if (σ.1 5403) ≤ x2 then (some (σ, 1, 0)) else (bnd (rec tC_Mod_makesTrue σ [x2]) (fun σ1 r1 => if r1 = 0 then (some (σ1, 0, 0)) else (rec tC_Mod_suitsText_p12 σ1 [x0, x1, (x2 + 1)])))) = some (σf, rf, dd) := h
  intro p e s m args below meth c F Lo σ0 hF hLo C
  dsimp only at hF hLo ⊢
  refine ax_iload_n (pc := 12) C d_Mod_suitsText_12 rfl 3 rfl ?_
  refine ax_aload_n (pc := 13) C d_Mod_suitsText_13 rfl 0 rfl ?_
  refine cg_69_1_Mod_26 (pc := 14) C d_Mod_suitsText_14 ?_
  refine cg_54_3_Mod_33 (pc := 17) C d_Mod_suitsText_17 ?_
  refine ax_icmp_ge (pc := 20) C 39 d_Mod_suitsText_20 (by decide) (fun hc => ?_) (fun hc => ?_)
  · have h := it_t hc h
    refine ax_iconst (pc := 39) C 1 d_Mod_suitsText_39 (by decide +kernel) ?_
    cases h
    exact ax_zret (pc := 40) C d_Mod_suitsText_40 rfl ⟨rfl, rfl⟩ (Nat.le_refl _) (Nat.le_refl _)
  · have h := it_f hc h
    refine ax_aload_n (pc := 23) C d_Mod_suitsText_23 rfl 0 rfl ?_
    refine ax_iload_n (pc := 24) C d_Mod_suitsText_24 rfl 3 rfl ?_
    obtain ⟨σ1, r1, d1_1, d2_1, h1, h, hd2, hd1⟩ := it_b h
    have hm : sC_Mod_makesTrue l D kA u w tx σ [x2] (σ1, r1, d1_1) := ih tC_Mod_makesTrue _ _ _ h1
    refine cc_Vi (pc := 25) C (r0 := r1) (σ2 := σ1) (As := [.int x2]) (rest := []) (hm _ rfl) ml_Mod_38 69 rfl rfl rfl d_Mod_suitsText_25 rfl rfl (by dsimp only; omega) (by dsimp only; omega) (Nat.le_of_ble_eq_true rfl) (Nat.le_of_ble_eq_true rfl) (Nat.le_of_ble_eq_true rfl) ?_
    have hF : d2_1 + 1 ≤ F := by omega
    have hLo : 48 * d2_1 + 48 ≤ Lo := by omega
    refine ax_if_ne (pc := 28) C 33 d_Mod_suitsText_28 (by decide) (fun hc => ?_) (fun hc => ?_)
    · have h := it_f hc h
      refine ax_iinc (pc := 33) C (x2 + 1) d_Mod_suitsText_33 3 rfl rfl (Nat.le_of_ble_eq_true rfl) ([(3, .int (x2 + 1)), (0, .ref (u 69)), (1, .int x0), (2, .int x1)]) rfl ?_
      refine ax_goto (pc := 36) C 12 d_Mod_suitsText_36 (by decide) ?_
      refine ax_ls ([(0, .ref (u 69)), (1, .int x0), (2, .int x1), (3, .int (x2 + 1))]) [1, 2, 3, 0] rfl ?_
      have hm : sC_Mod_suitsText_p12 l D kA u w tx σ1 [x0, x1, (x2 + 1)] (σf, rf, _) := ih tC_Mod_suitsText_p12 _ _ _ h
      exact hm _ _ _ rfl p e s m args below meth c F Lo σ0 hF hLo C
    · have h := it_t hc h
      refine ax_iconst (pc := 31) C 0 d_Mod_suitsText_31 (by decide +kernel) ?_
      cases h
      exact ax_zret (pc := 32) C d_Mod_suitsText_32 rfl ⟨rfl, rfl⟩ (Nat.le_refl _) (Nat.le_refl _)
set_option maxHeartbeats 4000000 in
set_option maxRecDepth 100000 in
theorem oC_Mod_valueOf (l : Launch) (D : va_G) (kA : Nat → ClassId) (u w : Nat → Nat) (tx : Value) (rec : mF) (ih : ∀ t σ xs res, rec t σ xs = some res → cSem l D kA u w tx t σ xs res) (σ : mS) (xs : List Int32) (res : mR) (h : u_2 (kC_Mod_valueOf rec σ) xs = some res) : sC_Mod_valueOf l D kA u w tx σ xs res := by
  intro x0 x1 hxs
  subst hxs
  obtain ⟨σf, rf, dd⟩ := res
  have h : (rec tC_Mod_valueOf_p7 σ [x0, x1, 0, ((x1 : Int32) - 1)]) = some (σf, rf, dd) := h
  refine ax_Mi.of (by decide +kernel) (Nat.le_of_ble_eq_true rfl) ?_
  intro p e s m args below meth c C hnm
  have C : ax_C p s m args meth c b_Mod_valueOf "ClauseProver$Model" 6 (some .int) D kA (va_A (cpW kA u w tx σ) s.heap.size) := C
  obtain ⟨F, hFe⟩ : ∃ F, F = dd + 1 := ⟨_, rfl⟩
  obtain ⟨Lo, hLoe⟩ : ∃ Lo, Lo = 48 * dd + 48 := ⟨_, rfl⟩
  obtain ⟨σ0, hσ0⟩ : ∃ s0, s0 = σ := ⟨_, rfl⟩
  suffices K : AW p l e { frames := F, cells := 0, slots := 0, locals := Lo } s m args below meth c D kA (va_A (cpW kA u w tx σ0) s.heap.size) 6 (ax_Qi below args s D kA (cpW kA u w tx σ0) 0 0 (fun r w1 => r = rf ∧ w1 = cpW kA u w tx σf)) 0 [(0, .ref (u 69)), (1, .int x0), (2, .int x1)] [] (cpW kA u w tx σ) 0 0 by rw [hFe, hLoe, hσ0] at K; exact ax_ls ([(0, .ref (u 69)), (1, .int x0), (2, .int x1)]) [0, 1, 2] rfl K
  have C : ax_C p s m args meth c b_Mod_valueOf "ClauseProver$Model" 6 (some .int) D kA (va_A (cpW kA u w tx σ0) s.heap.size) := by rw [hσ0]; exact C
  have hF : dd + 1 ≤ F := by omega
  have hLo : 48 * dd + 48 ≤ Lo := by omega
  clear hFe hLoe hσ0
  refine ax_iconst (pc := 0) C 0 d_Mod_valueOf_0 (by decide +kernel) ?_
  refine ax_istore_n (pc := 1) C d_Mod_valueOf_1 rfl (Nat.le_of_ble_eq_true rfl) ([(3, .int 0), (0, .ref (u 69)), (1, .int x0), (2, .int x1)]) rfl ?_
  refine ax_iload_n (pc := 2) C d_Mod_valueOf_2 rfl 3 rfl ?_
  refine ax_iconst (pc := 3) C 1 d_Mod_valueOf_3 (by decide +kernel) ?_
  refine ax_isub (pc := 4) C d_Mod_valueOf_4 ?_
  refine ax_istore (pc := 5) C d_Mod_valueOf_5 (Nat.le_of_ble_eq_true rfl) ([(4, .int ((x1 : Int32) - 1)), (3, .int 0), (0, .ref (u 69)), (1, .int x0), (2, .int x1)]) rfl ?_
  refine ax_ls ([(0, .ref (u 69)), (1, .int x0), (2, .int x1), (3, .int 0), (4, .int ((x1 : Int32) - 1))]) [2, 3, 4, 1, 0] rfl ?_
  have hm : sC_Mod_valueOf_p7 l D kA u w tx σ [x0, x1, 0, ((x1 : Int32) - 1)] (σf, rf, _) := ih tC_Mod_valueOf_p7 _ _ _ h
  exact hm _ _ _ _ rfl p e s m args below meth c F Lo σ0 hF hLo C
set_option maxHeartbeats 4000000 in
set_option maxRecDepth 100000 in
theorem oC_Mod_valueOf_p7 (l : Launch) (D : va_G) (kA : Nat → ClassId) (u w : Nat → Nat) (tx : Value) (rec : mF) (ih : ∀ t σ xs res, rec t σ xs = some res → cSem l D kA u w tx t σ xs res) (σ : mS) (xs : List Int32) (res : mR) (h : u_4 (kC_Mod_valueOf_p7 rec σ) xs = some res) : sC_Mod_valueOf_p7 l D kA u w tx σ xs res := by
  intro x0 x1 x2 x3 hxs
  subst hxs
  obtain ⟨σf, rf, dd⟩ := res
  have h : (if x3 < x0 then (if bin 0 101 = true then (some (σ, (σ.2.1 71 (Int32.toNatClampNeg 0)), 0)) else none) else (if bin x3 (σ.2.2 48) = true then (if 0 ≤ (σ.2.1 48 (Int32.toNatClampNeg x3)) then (if (σ.2.1 48 (Int32.toNatClampNeg x3)) = 0 then (if bin x2 101 = true then (lt_ (mA σ 71 (Int32.toNatClampNeg x2) 1) (fun σ3 => rec tC_Mod_valueOf_p101 σ3 [x0, x1, (x2 + 1), x3, (σ.2.1 48 (Int32.toNatClampNeg x3))])) else none) else (if bin (σ.2.1 48 (Int32.toNatClampNeg x3)) 551 = true then (bnd (rec tC_Mod_apply σ [(σ.2.1 48 (Int32.toNatClampNeg x3)), ((x2 : Int32) - (σ.2.1 7 (Int32.toNatClampNeg (σ.2.1 48 (Int32.toNatClampNeg x3)))))]) (fun σ1 r1 => if bin ((x2 : Int32) - (σ.2.1 7 (Int32.toNatClampNeg (σ.2.1 48 (Int32.toNatClampNeg x3))))) 101 = true then (lt_ (mA σ1 71 (Int32.toNatClampNeg ((x2 : Int32) - (σ.2.1 7 (Int32.toNatClampNeg (σ.2.1 48 (Int32.toNatClampNeg x3)))))) r1) (fun σ2 => rec tC_Mod_valueOf_p101 σ2 [x0, x1, (((x2 : Int32) - (σ.2.1 7 (Int32.toNatClampNeg (σ.2.1 48 (Int32.toNatClampNeg x3))))) + 1), x3, (σ.2.1 48 (Int32.toNatClampNeg x3))])) else none)) else none)) else (if bin (((σ.2.1 48 (Int32.toNatClampNeg x3)) : Int32) ^^^ (-1)) 6 = true then (if bin x2 101 = true then (lt_ (mA σ 71 (Int32.toNatClampNeg x2) (σ.2.1 70 (Int32.toNatClampNeg (((σ.2.1 48 (Int32.toNatClampNeg x3)) : Int32) ^^^ (-1))))) (fun σ4 => rec tC_Mod_valueOf_p101 σ4 [x0, x1, (x2 + 1), x3, (σ.2.1 48 (Int32.toNatClampNeg x3))])) else none) else none)) else none)) = some (σf, rf, dd) := h
  intro p e s m args below meth c F Lo σ0 hF hLo C
  dsimp only at hF hLo ⊢
  refine ax_iload (pc := 7) C d_Mod_valueOf_7 4 rfl ?_
  refine ax_iload_n (pc := 9) C d_Mod_valueOf_9 rfl 1 rfl ?_
  refine ax_icmp_lt (pc := 10) C 107 d_Mod_valueOf_10 (by decide) (fun hc => ?_) (fun hc => ?_)
  · have h := it_t hc h
    refine ax_aload_n (pc := 107) C d_Mod_valueOf_107 rfl 0 rfl ?_
    refine cg_69_3_Mod_15 (pc := 108) C d_Mod_valueOf_108 ?_
    refine ax_iconst (pc := 111) C 0 d_Mod_valueOf_111 (by decide +kernel) ?_
    obtain ⟨hb, h⟩ := it_g h
    refine cl_71 (pc := 112) C d_Mod_valueOf_112 (bin_in hb) ?_
    cases h
    exact ax_iret (pc := 113) C d_Mod_valueOf_113 ⟨rfl, rfl⟩ (Nat.le_refl _) (Nat.le_refl _)
  · have h := it_f hc h
    refine ax_aload_n (pc := 13) C d_Mod_valueOf_13 rfl 0 rfl ?_
    refine cg_69_1_Mod_26 (pc := 14) C d_Mod_valueOf_14 ?_
    refine cg_54_0_Mod_66 (pc := 17) C d_Mod_valueOf_17 ?_
    refine cg_47_0_Mod_70 (pc := 20) C d_Mod_valueOf_20 ?_
    refine ax_iload (pc := 23) C d_Mod_valueOf_23 4 rfl ?_
    obtain ⟨hb, h⟩ := it_g h
    refine cl_48 (pc := 25) C d_Mod_valueOf_25 (bin_in hb) ?_
    refine ax_istore (pc := 26) C d_Mod_valueOf_26 (Nat.le_of_ble_eq_true rfl) ([(5, .int (σ.2.1 48 (Int32.toNatClampNeg x3))), (0, .ref (u 69)), (1, .int x0), (2, .int x1), (3, .int x2), (4, .int x3)]) rfl ?_
    refine ax_iload (pc := 28) C d_Mod_valueOf_28 0 rfl ?_
    refine ax_if_ge (pc := 30) C 54 d_Mod_valueOf_30 (by decide) (fun hc => ?_) (fun hc => ?_)
    · have h := it_t hc h
      refine ax_iload (pc := 54) C d_Mod_valueOf_54 0 rfl ?_
      refine ax_if_ne (pc := 56) C 72 d_Mod_valueOf_56 (by decide) (fun hc => ?_) (fun hc => ?_)
      · have h := it_f hc h
        refine ax_iload_n (pc := 72) C d_Mod_valueOf_72 rfl 4 rfl ?_
        refine ax_aload_n (pc := 73) C d_Mod_valueOf_73 rfl 1 rfl ?_
        refine cg_69_0_Mod_22 (pc := 74) C d_Mod_valueOf_74 ?_
        refine cg_6_0_Mod_75 (pc := 77) C d_Mod_valueOf_77 ?_
        refine ax_iload (pc := 80) C d_Mod_valueOf_80 0 rfl ?_
        obtain ⟨hb, h⟩ := it_g h
        refine cl_7 (pc := 82) C d_Mod_valueOf_82 (bin_in hb) ?_
        refine ax_isub (pc := 83) C d_Mod_valueOf_83 ?_
        refine ax_istore_n (pc := 84) C d_Mod_valueOf_84 rfl (Nat.le_of_ble_eq_true rfl) ([(3, .int ((x2 : Int32) - (σ.2.1 7 (Int32.toNatClampNeg (σ.2.1 48 (Int32.toNatClampNeg x3)))))), (5, .int (σ.2.1 48 (Int32.toNatClampNeg x3))), (0, .ref (u 69)), (1, .int x0), (2, .int x1), (4, .int x3)]) rfl ?_
        refine ax_aload_n (pc := 85) C d_Mod_valueOf_85 rfl 2 rfl ?_
        refine cg_69_3_Mod_15 (pc := 86) C d_Mod_valueOf_86 ?_
        refine ax_iload_n (pc := 89) C d_Mod_valueOf_89 rfl 0 rfl ?_
        refine ax_aload_n (pc := 90) C d_Mod_valueOf_90 rfl 2 rfl ?_
        refine ax_iload (pc := 91) C d_Mod_valueOf_91 1 rfl ?_
        refine ax_iload_n (pc := 93) C d_Mod_valueOf_93 rfl 0 rfl ?_
        obtain ⟨σ1, r1, d1_1, d2_1, h1, h, hd2, hd1⟩ := it_b h
        have hm : sC_Mod_apply l D kA u w tx σ [(σ.2.1 48 (Int32.toNatClampNeg x3)), ((x2 : Int32) - (σ.2.1 7 (Int32.toNatClampNeg (σ.2.1 48 (Int32.toNatClampNeg x3)))))] (σ1, r1, d1_1) := ih tC_Mod_apply _ _ _ h1
        refine cc_Vi (pc := 94) C (r0 := r1) (σ2 := σ1) (As := [.int (σ.2.1 48 (Int32.toNatClampNeg x3)), .int ((x2 : Int32) - (σ.2.1 7 (Int32.toNatClampNeg (σ.2.1 48 (Int32.toNatClampNeg x3)))))]) (rest := [.int ((x2 : Int32) - (σ.2.1 7 (Int32.toNatClampNeg (σ.2.1 48 (Int32.toNatClampNeg x3))))), .ref (u 71)]) (hm _ _ rfl) ml_Mod_80 69 rfl rfl rfl d_Mod_valueOf_94 rfl rfl (by dsimp only; omega) (by dsimp only; omega) (Nat.le_of_ble_eq_true rfl) (Nat.le_of_ble_eq_true rfl) (Nat.le_of_ble_eq_true rfl) ?_
        have hF : d2_1 + 1 ≤ F := by omega
        have hLo : 48 * d2_1 + 48 ≤ Lo := by omega
        obtain ⟨hb, h⟩ := it_g h
        refine cs_71 (pc := 97) C d_Mod_valueOf_97 (bin_in hb) ?_
        have h := it_l h
        generalize mA σ1 71 (Int32.toNatClampNeg ((x2 : Int32) - (σ.2.1 7 (Int32.toNatClampNeg (σ.2.1 48 (Int32.toNatClampNeg x3)))))) r1 = σ2 at h ⊢
        refine ax_iinc (pc := 98) C (((x2 : Int32) - (σ.2.1 7 (Int32.toNatClampNeg (σ.2.1 48 (Int32.toNatClampNeg x3))))) + 1) d_Mod_valueOf_98 0 rfl rfl (Nat.le_of_ble_eq_true rfl) ([(3, .int (((x2 : Int32) - (σ.2.1 7 (Int32.toNatClampNeg (σ.2.1 48 (Int32.toNatClampNeg x3))))) + 1)), (5, .int (σ.2.1 48 (Int32.toNatClampNeg x3))), (0, .ref (u 69)), (1, .int x0), (2, .int x1), (4, .int x3)]) rfl ?_
        refine ax_ls ([(0, .ref (u 69)), (1, .int x0), (2, .int x1), (3, .int (((x2 : Int32) - (σ.2.1 7 (Int32.toNatClampNeg (σ.2.1 48 (Int32.toNatClampNeg x3))))) + 1)), (4, .int x3), (5, .int (σ.2.1 48 (Int32.toNatClampNeg x3)))]) [2, 3, 4, 0, 5, 1] rfl ?_
        have hm : sC_Mod_valueOf_p101 l D kA u w tx σ2 [x0, x1, (((x2 : Int32) - (σ.2.1 7 (Int32.toNatClampNeg (σ.2.1 48 (Int32.toNatClampNeg x3))))) + 1), x3, (σ.2.1 48 (Int32.toNatClampNeg x3))] (σf, rf, _) := ih tC_Mod_valueOf_p101 _ _ _ h
        exact hm _ _ _ _ _ rfl p e s m args below meth c F Lo σ0 hF hLo C
      · have h := it_t hc h
        refine ax_aload_n (pc := 59) C d_Mod_valueOf_59 rfl 1 rfl ?_
        refine cg_69_3_Mod_15 (pc := 60) C d_Mod_valueOf_60 ?_
        refine ax_iload_n (pc := 63) C d_Mod_valueOf_63 rfl 4 rfl ?_
        refine ax_iinc (pc := 64) C (x2 + 1) d_Mod_valueOf_64 4 rfl rfl (Nat.le_of_ble_eq_true rfl) ([(3, .int (x2 + 1)), (5, .int (σ.2.1 48 (Int32.toNatClampNeg x3))), (0, .ref (u 69)), (1, .int x0), (2, .int x1), (4, .int x3)]) rfl ?_
        refine ax_iconst (pc := 67) C 1 d_Mod_valueOf_67 (by decide +kernel) ?_
        obtain ⟨hb, h⟩ := it_g h
        refine cs_71 (pc := 68) C d_Mod_valueOf_68 (bin_in hb) ?_
        have h := it_l h
        generalize mA σ 71 (Int32.toNatClampNeg x2) 1 = σ3 at h ⊢
        refine ax_goto (pc := 69) C 101 d_Mod_valueOf_69 (by decide) ?_
        refine ax_ls ([(0, .ref (u 69)), (1, .int x0), (2, .int x1), (3, .int (x2 + 1)), (4, .int x3), (5, .int (σ.2.1 48 (Int32.toNatClampNeg x3)))]) [2, 3, 4, 0, 5, 1] rfl ?_
        have hm : sC_Mod_valueOf_p101 l D kA u w tx σ3 [x0, x1, (x2 + 1), x3, (σ.2.1 48 (Int32.toNatClampNeg x3))] (σf, rf, _) := ih tC_Mod_valueOf_p101 _ _ _ h
        exact hm _ _ _ _ _ rfl p e s m args below meth c F Lo σ0 hF hLo C
    · have h := it_f hc h
      refine ax_aload_n (pc := 33) C d_Mod_valueOf_33 rfl 1 rfl ?_
      refine cg_69_3_Mod_15 (pc := 34) C d_Mod_valueOf_34 ?_
      refine ax_iload_n (pc := 37) C d_Mod_valueOf_37 rfl 4 rfl ?_
      refine ax_iinc (pc := 38) C (x2 + 1) d_Mod_valueOf_38 4 rfl rfl (Nat.le_of_ble_eq_true rfl) ([(3, .int (x2 + 1)), (5, .int (σ.2.1 48 (Int32.toNatClampNeg x3))), (0, .ref (u 69)), (1, .int x0), (2, .int x1), (4, .int x3)]) rfl ?_
      refine ax_aload_n (pc := 41) C d_Mod_valueOf_41 rfl 2 rfl ?_
      refine cg_69_2_Mod_9 (pc := 42) C d_Mod_valueOf_42 ?_
      refine ax_iload (pc := 45) C d_Mod_valueOf_45 1 rfl ?_
      refine ax_iconst (pc := 47) C (-1) d_Mod_valueOf_47 (by decide +kernel) ?_
      refine ax_ixor (pc := 48) C d_Mod_valueOf_48 ?_
      obtain ⟨hb, h⟩ := it_g h
      refine cl_70 (pc := 49) C d_Mod_valueOf_49 (bin_in hb) ?_
      obtain ⟨hb, h⟩ := it_g h
      refine cs_71 (pc := 50) C d_Mod_valueOf_50 (bin_in hb) ?_
      have h := it_l h
      generalize mA σ 71 (Int32.toNatClampNeg x2) (σ.2.1 70 (Int32.toNatClampNeg (((σ.2.1 48 (Int32.toNatClampNeg x3)) : Int32) ^^^ (-1)))) = σ4 at h ⊢
      refine ax_goto (pc := 51) C 101 d_Mod_valueOf_51 (by decide) ?_
      refine ax_ls ([(0, .ref (u 69)), (1, .int x0), (2, .int x1), (3, .int (x2 + 1)), (4, .int x3), (5, .int (σ.2.1 48 (Int32.toNatClampNeg x3)))]) [2, 3, 4, 0, 5, 1] rfl ?_
      have hm : sC_Mod_valueOf_p101 l D kA u w tx σ4 [x0, x1, (x2 + 1), x3, (σ.2.1 48 (Int32.toNatClampNeg x3))] (σf, rf, _) := ih tC_Mod_valueOf_p101 _ _ _ h
      exact hm _ _ _ _ _ rfl p e s m args below meth c F Lo σ0 hF hLo C
set_option maxHeartbeats 4000000 in
set_option maxRecDepth 100000 in
theorem oC_Mod_valueOf_p101 (l : Launch) (D : va_G) (kA : Nat → ClassId) (u w : Nat → Nat) (tx : Value) (rec : mF) (ih : ∀ t σ xs res, rec t σ xs = some res → cSem l D kA u w tx t σ xs res) (σ : mS) (xs : List Int32) (res : mR) (h : u_5 (kC_Mod_valueOf_p101 rec σ) xs = some res) : sC_Mod_valueOf_p101 l D kA u w tx σ xs res := by
  intro x0 x1 x2 x3 x4 hxs
  subst hxs
  obtain ⟨σf, rf, dd⟩ := res
  have h : (rec tC_Mod_valueOf_p7 σ [x0, x1, x2, (x3 + (-1))]) = some (σf, rf, dd) := h
  intro p e s m args below meth c F Lo σ0 hF hLo C
  dsimp only at hF hLo ⊢
  refine ax_iinc (pc := 101) C (x3 + (-1)) d_Mod_valueOf_101 4 rfl rfl (Nat.le_of_ble_eq_true rfl) ([(4, .int (x3 + (-1))), (0, .ref (u 69)), (1, .int x0), (2, .int x1), (3, .int x2), (5, .int x4)]) rfl ?_
  refine ax_goto (pc := 104) C 7 d_Mod_valueOf_104 (by decide) ?_
  refine ax_ls ([(0, .ref (u 69)), (1, .int x0), (2, .int x1), (3, .int x2), (4, .int (x3 + (-1)))]) [1, 2, 3, 4, 0] rfl ?_
  have hm : sC_Mod_valueOf_p7 l D kA u w tx σ [x0, x1, x2, (x3 + (-1))] (σf, rf, _) := ih tC_Mod_valueOf_p7 _ _ _ h
  exact hm _ _ _ _ rfl p e s m args below meth c F Lo σ0 hF hLo C
set_option maxHeartbeats 4000000 in
set_option maxRecDepth 100000 in
theorem oC_Par_fail (l : Launch) (D : va_G) (kA : Nat → ClassId) (u w : Nat → Nat) (tx : Value) (rec : mF) (ih : ∀ t σ xs res, rec t σ xs = some res → cSem l D kA u w tx t σ xs res) (σ : mS) (xs : List Int32) (res : mR) (h : u_2 (kC_Par_fail rec σ) xs = some res) : sC_Par_fail l D kA u w tx σ xs res := by
  intro x0 x1 hxs
  subst hxs
  obtain ⟨σf, rf, dd⟩ := res
  have h : (lt_ (mI σ 3100 x0) (fun σ1 => lt_ (mI σ1 3101 x1) (fun σ2 => some (σ2, 0, 0)))) = some (σf, rf, dd) := h
  refine ax_Mv.of (by decide +kernel) (Nat.le_of_ble_eq_true rfl) ?_
  intro p e s m args below meth c C hnm
  have C : ax_C p s m args meth c b_Par_fail "ClauseProver$Parser" 3 none D kA (va_A (cpW kA u w tx σ) s.heap.size) := C
  obtain ⟨F, hFe⟩ : ∃ F, F = dd + 1 := ⟨_, rfl⟩
  obtain ⟨Lo, hLoe⟩ : ∃ Lo, Lo = 48 * dd + 48 := ⟨_, rfl⟩
  obtain ⟨σ0, hσ0⟩ : ∃ s0, s0 = σ := ⟨_, rfl⟩
  suffices K : AW p l e { frames := F, cells := 0, slots := 0, locals := Lo } s m args below meth c D kA (va_A (cpW kA u w tx σ0) s.heap.size) 3 (ax_Qv below args s D kA (cpW kA u w tx σ0) 0 0 (fun w1 => w1 = cpW kA u w tx σf)) 0 [(0, .ref (u 31)), (1, .int x0), (2, .int x1)] [] (cpW kA u w tx σ) 0 0 by rw [hFe, hLoe, hσ0] at K; exact ax_ls ([(0, .ref (u 31)), (1, .int x0), (2, .int x1)]) [0, 1, 2] rfl K
  have C : ax_C p s m args meth c b_Par_fail "ClauseProver$Parser" 3 none D kA (va_A (cpW kA u w tx σ0) s.heap.size) := by rw [hσ0]; exact C
  have hF : dd + 1 ≤ F := by omega
  have hLo : 48 * dd + 48 ≤ Lo := by omega
  clear hFe hLoe hσ0
  refine ax_aload_n (pc := 0) C d_Par_fail_0 rfl 0 rfl ?_
  refine ax_iload_n (pc := 1) C d_Par_fail_1 rfl 1 rfl ?_
  refine cq_31_0_Par_41 (pc := 2) C d_Par_fail_2 ?_
  have h := it_l h
  generalize mI σ 3100 x0 = σ1 at h ⊢
  refine ax_aload_n (pc := 5) C d_Par_fail_5 rfl 0 rfl ?_
  refine ax_iload_n (pc := 6) C d_Par_fail_6 rfl 2 rfl ?_
  refine cq_31_1_Par_45 (pc := 7) C d_Par_fail_7 ?_
  have h := it_l h
  generalize mI σ1 3101 x1 = σ2 at h ⊢
  cases h
  exact ax_vret (pc := 10) C d_Par_fail_10 rfl (Nat.le_refl _) (Nat.le_refl _)
set_option maxHeartbeats 4000000 in
set_option maxRecDepth 100000 in
theorem oC_Par_isNest (l : Launch) (D : va_G) (kA : Nat → ClassId) (u w : Nat → Nat) (tx : Value) (rec : mF) (ih : ∀ t σ xs res, rec t σ xs = some res → cSem l D kA u w tx t σ xs res) (σ : mS) (xs : List Int32) (res : mR) (h : u_1 (kC_Par_isNest rec σ) xs = some res) : sC_Par_isNest l D kA u w tx σ xs res := by
  intro x0 hxs
  subst hxs
  obtain ⟨σf, rf, dd⟩ := res
  have h : (if x0 = 11 then (rec tC_Par_isNest_p29 σ [x0]) else (if x0 = 5 then (rec tC_Par_isNest_p29 σ [x0]) else (if x0 = 12 then (rec tC_Par_isNest_p29 σ [x0]) else (if x0 = 13 then (rec tC_Par_isNest_p29 σ [x0]) else (if x0 = 16 then (rec tC_Par_isNest_p29 σ [x0]) else (rec tC_Par_isNest_p34 σ [x0, 0])))))) = some (σf, rf, dd) := h
  refine ax_Mi.of (by decide +kernel) (Nat.le_of_ble_eq_true rfl) ?_
  intro p e s m args below meth c C hnm
  have C : ax_C p s m args meth c b_Par_isNest "ClauseProver$Parser" 1 (some .boolean) D kA (va_A (cpW kA u w tx σ) s.heap.size) := C
  obtain ⟨F, hFe⟩ : ∃ F, F = dd + 1 := ⟨_, rfl⟩
  obtain ⟨Lo, hLoe⟩ : ∃ Lo, Lo = 48 * dd + 48 := ⟨_, rfl⟩
  obtain ⟨σ0, hσ0⟩ : ∃ s0, s0 = σ := ⟨_, rfl⟩
  suffices K : AW p l e { frames := F, cells := 0, slots := 0, locals := Lo } s m args below meth c D kA (va_A (cpW kA u w tx σ0) s.heap.size) 1 (ax_Qi below args s D kA (cpW kA u w tx σ0) 0 0 (fun r w1 => r = rf ∧ w1 = cpW kA u w tx σf)) 0 [(0, .int x0)] [] (cpW kA u w tx σ) 0 0 by rw [hFe, hLoe, hσ0] at K; exact ax_ls ([(0, .int x0)]) [0] rfl K
  have C : ax_C p s m args meth c b_Par_isNest "ClauseProver$Parser" 1 (some .boolean) D kA (va_A (cpW kA u w tx σ0) s.heap.size) := by rw [hσ0]; exact C
  have hF : dd + 1 ≤ F := by omega
  have hLo : 48 * dd + 48 ≤ Lo := by omega
  clear hFe hLoe hσ0
  refine ax_iload_n (pc := 0) C d_Par_isNest_0 rfl 0 rfl ?_
  refine ax_bipush (pc := 1) C 11 d_Par_isNest_1 (by decide +kernel) ?_
  refine ax_icmp_eq (pc := 3) C 29 d_Par_isNest_3 (by decide) (fun hc => ?_) (fun hc => ?_)
  · have h := it_t hc h
    refine ax_ls ([(0, .int x0)]) [0] rfl ?_
    have hm : sC_Par_isNest_p29 l D kA u w tx σ [x0] (σf, rf, _) := ih tC_Par_isNest_p29 _ _ _ h
    exact hm _ rfl p e s m args below meth c F Lo σ0 hF hLo C
  · have h := it_f hc h
    refine ax_iload_n (pc := 6) C d_Par_isNest_6 rfl 0 rfl ?_
    refine ax_iconst (pc := 7) C 5 d_Par_isNest_7 (by decide +kernel) ?_
    refine ax_icmp_eq (pc := 8) C 29 d_Par_isNest_8 (by decide) (fun hc => ?_) (fun hc => ?_)
    · have h := it_t hc h
      refine ax_ls ([(0, .int x0)]) [0] rfl ?_
      have hm : sC_Par_isNest_p29 l D kA u w tx σ [x0] (σf, rf, _) := ih tC_Par_isNest_p29 _ _ _ h
      exact hm _ rfl p e s m args below meth c F Lo σ0 hF hLo C
    · have h := it_f hc h
      refine ax_iload_n (pc := 11) C d_Par_isNest_11 rfl 0 rfl ?_
      refine ax_bipush (pc := 12) C 12 d_Par_isNest_12 (by decide +kernel) ?_
      refine ax_icmp_eq (pc := 14) C 29 d_Par_isNest_14 (by decide) (fun hc => ?_) (fun hc => ?_)
      · have h := it_t hc h
        refine ax_ls ([(0, .int x0)]) [0] rfl ?_
        have hm : sC_Par_isNest_p29 l D kA u w tx σ [x0] (σf, rf, _) := ih tC_Par_isNest_p29 _ _ _ h
        exact hm _ rfl p e s m args below meth c F Lo σ0 hF hLo C
      · have h := it_f hc h
        refine ax_iload_n (pc := 17) C d_Par_isNest_17 rfl 0 rfl ?_
        refine ax_bipush (pc := 18) C 13 d_Par_isNest_18 (by decide +kernel) ?_
        refine ax_icmp_eq (pc := 20) C 29 d_Par_isNest_20 (by decide) (fun hc => ?_) (fun hc => ?_)
        · have h := it_t hc h
          refine ax_ls ([(0, .int x0)]) [0] rfl ?_
          have hm : sC_Par_isNest_p29 l D kA u w tx σ [x0] (σf, rf, _) := ih tC_Par_isNest_p29 _ _ _ h
          exact hm _ rfl p e s m args below meth c F Lo σ0 hF hLo C
        · have h := it_f hc h
          refine ax_iload_n (pc := 23) C d_Par_isNest_23 rfl 0 rfl ?_
          refine ax_bipush (pc := 24) C 16 d_Par_isNest_24 (by decide +kernel) ?_
          refine ax_icmp_ne (pc := 26) C 33 d_Par_isNest_26 (by decide) (fun hc => ?_) (fun hc => ?_)
          · have h := it_f hc h
            refine ax_iconst (pc := 33) C 0 d_Par_isNest_33 (by decide +kernel) ?_
            refine ax_ls ([(0, .int x0)]) [0] rfl ?_
            have hm : sC_Par_isNest_p34 l D kA u w tx σ [x0, 0] (σf, rf, _) := ih tC_Par_isNest_p34 _ _ _ h
            exact hm _ _ rfl p e s m args below meth c F Lo σ0 hF hLo C
          · have h := it_t hc h
            refine ax_ls ([(0, .int x0)]) [0] rfl ?_
            have hm : sC_Par_isNest_p29 l D kA u w tx σ [x0] (σf, rf, _) := ih tC_Par_isNest_p29 _ _ _ h
            exact hm _ rfl p e s m args below meth c F Lo σ0 hF hLo C
set_option maxHeartbeats 4000000 in
set_option maxRecDepth 100000 in
theorem oC_Par_isNest_p29 (l : Launch) (D : va_G) (kA : Nat → ClassId) (u w : Nat → Nat) (tx : Value) (rec : mF) (ih : ∀ t σ xs res, rec t σ xs = some res → cSem l D kA u w tx t σ xs res) (σ : mS) (xs : List Int32) (res : mR) (h : u_1 (kC_Par_isNest_p29 rec σ) xs = some res) : sC_Par_isNest_p29 l D kA u w tx σ xs res := by
  intro x0 hxs
  subst hxs
  obtain ⟨σf, rf, dd⟩ := res
  have h : (rec tC_Par_isNest_p34 σ [x0, 1]) = some (σf, rf, dd) := h
  intro p e s m args below meth c F Lo σ0 hF hLo C
  dsimp only at hF hLo ⊢
  refine ax_iconst (pc := 29) C 1 d_Par_isNest_29 (by decide +kernel) ?_
  refine ax_goto (pc := 30) C 34 d_Par_isNest_30 (by decide) ?_
  refine ax_ls ([(0, .int x0)]) [0] rfl ?_
  have hm : sC_Par_isNest_p34 l D kA u w tx σ [x0, 1] (σf, rf, _) := ih tC_Par_isNest_p34 _ _ _ h
  exact hm _ _ rfl p e s m args below meth c F Lo σ0 hF hLo C
set_option maxHeartbeats 4000000 in
set_option maxRecDepth 100000 in
theorem oC_Par_isNest_p34 (l : Launch) (D : va_G) (kA : Nat → ClassId) (u w : Nat → Nat) (tx : Value) (rec : mF) (ih : ∀ t σ xs res, rec t σ xs = some res → cSem l D kA u w tx t σ xs res) (σ : mS) (xs : List Int32) (res : mR) (h : u_2 (kC_Par_isNest_p34 rec σ) xs = some res) : sC_Par_isNest_p34 l D kA u w tx σ xs res := by
  intro x0 x1 hxs
  subst hxs
  obtain ⟨σf, rf, dd⟩ := res
  have h : (if x1 = 0 ∨ x1 = 1 then some (σ, x1, 0) else none) = some (σf, rf, dd) := h
  intro p e s m args below meth c F Lo σ0 hF hLo C
  dsimp only at hF hLo ⊢
  obtain ⟨hb, h⟩ := it_g h
  cases h
  exact ax_zret (pc := 34) C d_Par_isNest_34 (nb01 hb) ⟨rfl, rfl⟩ (Nat.le_refl _) (Nat.le_refl _)
set_option maxHeartbeats 4000000 in
set_option maxRecDepth 100000 in
theorem oC_Par_pop (l : Launch) (D : va_G) (kA : Nat → ClassId) (u w : Nat → Nat) (tx : Value) (rec : mF) (ih : ∀ t σ xs res, rec t σ xs = some res → cSem l D kA u w tx t σ xs res) (σ : mS) (xs : List Int32) (res : mR) (h : u_0 (kC_Par_pop rec σ) xs = some res) : sC_Par_pop l D kA u w tx σ xs res := by
  intro hxs
  subst hxs
  obtain ⟨σf, rf, dd⟩ := res
  have h : (bnd (rec tC_Par_top σ []) (fun σ1 r1 => bnd (rec tC_Par_isNest σ1 [r1]) (fun σ2 r2 => if r2 = 0 then (rec tC_Par_pop_p20 σ2 [0, (σ.1 3108)]) else (rec tC_Par_pop_p20 σ2 [1, (σ.1 3108)])))) = some (σf, rf, dd) := h
  refine ax_Mv.of (by decide +kernel) (Nat.le_of_ble_eq_true rfl) ?_
  intro p e s m args below meth c C hnm
  have C : ax_C p s m args meth c b_Par_pop "ClauseProver$Parser" 1 none D kA (va_A (cpW kA u w tx σ) s.heap.size) := C
  obtain ⟨F, hFe⟩ : ∃ F, F = dd + 1 := ⟨_, rfl⟩
  obtain ⟨Lo, hLoe⟩ : ∃ Lo, Lo = 48 * dd + 48 := ⟨_, rfl⟩
  obtain ⟨σ0, hσ0⟩ : ∃ s0, s0 = σ := ⟨_, rfl⟩
  suffices K : AW p l e { frames := F, cells := 0, slots := 0, locals := Lo } s m args below meth c D kA (va_A (cpW kA u w tx σ0) s.heap.size) 1 (ax_Qv below args s D kA (cpW kA u w tx σ0) 0 0 (fun w1 => w1 = cpW kA u w tx σf)) 0 [(0, .ref (u 31))] [] (cpW kA u w tx σ) 0 0 by rw [hFe, hLoe, hσ0] at K; exact ax_ls ([(0, .ref (u 31))]) [0] rfl K
  have C : ax_C p s m args meth c b_Par_pop "ClauseProver$Parser" 1 none D kA (va_A (cpW kA u w tx σ0) s.heap.size) := by rw [hσ0]; exact C
  have hF : dd + 1 ≤ F := by omega
  have hLo : 48 * dd + 48 ≤ Lo := by omega
  clear hFe hLoe hσ0
  refine ax_aload_n (pc := 0) C d_Par_pop_0 rfl 0 rfl ?_
  refine ax_dup (pc := 1) C d_Par_pop_1 rfl ?_
  refine cg_31_8_Par_86 (pc := 2) C d_Par_pop_2 ?_
  refine ax_aload_n (pc := 5) C d_Par_pop_5 rfl 0 rfl ?_
  obtain ⟨σ1, r1, d1_1, d2_1, h1, h, hd2, hd1⟩ := it_b h
  have hm : sC_Par_top l D kA u w tx σ [] (σ1, r1, d1_1) := ih tC_Par_top _ _ _ h1
  refine cc_Vi (pc := 6) C (r0 := r1) (σ2 := σ1) (As := []) (rest := [.int (σ.1 3108), .ref (u 31)]) (hm rfl) ml_Par_187 31 rfl rfl rfl d_Par_pop_6 rfl rfl (by dsimp only; omega) (by dsimp only; omega) (Nat.le_of_ble_eq_true rfl) (Nat.le_of_ble_eq_true rfl) (Nat.le_of_ble_eq_true rfl) ?_
  have hF : d2_1 + 1 ≤ F := by omega
  have hLo : 48 * d2_1 + 48 ≤ Lo := by omega
  obtain ⟨σ2, r2, d1_2, d2_2, h1, h, hd2, hd1⟩ := it_b h
  have hm : sC_Par_isNest l D kA u w tx σ1 [r1] (σ2, r2, d1_2) := ih tC_Par_isNest _ _ _ h1
  refine cc_Si (pc := 9) C (r0 := r2) (σ2 := σ2) (As := [.int r1]) (rest := [.int (σ.1 3108), .ref (u 31)]) (hm _ rfl) ml_Par_193 d_Par_pop_9 rfl rfl (by dsimp only; omega) (by dsimp only; omega) (Nat.le_of_ble_eq_true rfl) (Nat.le_of_ble_eq_true rfl) (Nat.le_of_ble_eq_true rfl) ?_
  have hF : d2_2 + 1 ≤ F := by omega
  have hLo : 48 * d2_2 + 48 ≤ Lo := by omega
  refine ax_if_eq (pc := 12) C 19 d_Par_pop_12 (by decide) (fun hc => ?_) (fun hc => ?_)
  · have h := it_t hc h
    refine ax_iconst (pc := 19) C 0 d_Par_pop_19 (by decide +kernel) ?_
    refine ax_ls ([(0, .ref (u 31))]) [0] rfl ?_
    have hm : sC_Par_pop_p20 l D kA u w tx σ2 [0, (σ.1 3108)] (σf, rf, _) := ih tC_Par_pop_p20 _ _ _ h
    exact hm _ _ rfl p e s m args below meth c F Lo σ0 hF hLo C
  · have h := it_f hc h
    refine ax_iconst (pc := 15) C 1 d_Par_pop_15 (by decide +kernel) ?_
    refine ax_goto (pc := 16) C 20 d_Par_pop_16 (by decide) ?_
    refine ax_ls ([(0, .ref (u 31))]) [0] rfl ?_
    have hm : sC_Par_pop_p20 l D kA u w tx σ2 [1, (σ.1 3108)] (σf, rf, _) := ih tC_Par_pop_p20 _ _ _ h
    exact hm _ _ rfl p e s m args below meth c F Lo σ0 hF hLo C
set_option maxHeartbeats 4000000 in
set_option maxRecDepth 100000 in
theorem oC_Par_pop_p20 (l : Launch) (D : va_G) (kA : Nat → ClassId) (u w : Nat → Nat) (tx : Value) (rec : mF) (ih : ∀ t σ xs res, rec t σ xs = some res → cSem l D kA u w tx t σ xs res) (σ : mS) (xs : List Int32) (res : mR) (h : u_2 (kC_Par_pop_p20 rec σ) xs = some res) : sC_Par_pop_p20 l D kA u w tx σ xs res := by
  intro x0 x1 hxs
  subst hxs
  obtain ⟨σf, rf, dd⟩ := res
  have h : (lt_ (mI σ 3108 ((x1 : Int32) - x0)) (fun σ1 => lt_ (mI σ1 3301 (((σ1.1 3301) : Int32) - 1)) (fun σ2 => lt_ (mI σ2 3501 (((σ2.1 3501) : Int32) - 1)) (fun σ3 => some (σ3, 0, 0))))) = some (σf, rf, dd) := h
  intro p e s m args below meth c F Lo σ0 hF hLo C
  dsimp only at hF hLo ⊢
  refine ax_isub (pc := 20) C d_Par_pop_20 ?_
  refine cq_31_8_Par_86 (pc := 21) C d_Par_pop_21 ?_
  have h := it_l h
  generalize mI σ 3108 ((x1 : Int32) - x0) = σ1 at h ⊢
  refine ax_aload_n (pc := 24) C d_Par_pop_24 rfl 0 rfl ?_
  refine cg_31_5_Par_23 (pc := 25) C d_Par_pop_25 ?_
  refine ax_dup (pc := 28) C d_Par_pop_28 rfl ?_
  refine cg_33_1_Par_83 (pc := 29) C d_Par_pop_29 ?_
  refine ax_iconst (pc := 32) C 1 d_Par_pop_32 (by decide +kernel) ?_
  refine ax_isub (pc := 33) C d_Par_pop_33 ?_
  refine cq_33_1_Par_83 (pc := 34) C d_Par_pop_34 ?_
  have h := it_l h
  generalize mI σ1 3301 (((σ1.1 3301) : Int32) - 1) = σ2 at h ⊢
  refine ax_aload_n (pc := 37) C d_Par_pop_37 rfl 0 rfl ?_
  refine cg_31_6_Par_27 (pc := 38) C d_Par_pop_38 ?_
  refine ax_dup (pc := 41) C d_Par_pop_41 rfl ?_
  refine cg_35_1_Par_83 (pc := 42) C d_Par_pop_42 ?_
  refine ax_iconst (pc := 45) C 1 d_Par_pop_45 (by decide +kernel) ?_
  refine ax_isub (pc := 46) C d_Par_pop_46 ?_
  refine cq_35_1_Par_83 (pc := 47) C d_Par_pop_47 ?_
  have h := it_l h
  generalize mI σ2 3501 (((σ2.1 3501) : Int32) - 1) = σ3 at h ⊢
  cases h
  exact ax_vret (pc := 50) C d_Par_pop_50 rfl (Nat.le_refl _) (Nat.le_refl _)
set_option maxHeartbeats 4000000 in
set_option maxRecDepth 100000 in
theorem oC_Par_refuse (l : Launch) (D : va_G) (kA : Nat → ClassId) (u w : Nat → Nat) (tx : Value) (rec : mF) (ih : ∀ t σ xs res, rec t σ xs = some res → cSem l D kA u w tx t σ xs res) (σ : mS) (xs : List Int32) (res : mR) (h : u_0 (kC_Par_refuse rec σ) xs = some res) : sC_Par_refuse l D kA u w tx σ xs res := by
  intro hxs
  subst hxs
  obtain ⟨σf, rf, dd⟩ := res
  have h : (if (σ.1 3205) = 0 then (rec tC_Par_refuse_p16 σ [1]) else (rec tC_Par_refuse_p16 σ [3])) = some (σf, rf, dd) := h
  refine ax_Mv.of (by decide +kernel) (Nat.le_of_ble_eq_true rfl) ?_
  intro p e s m args below meth c C hnm
  have C : ax_C p s m args meth c b_Par_refuse "ClauseProver$Parser" 1 none D kA (va_A (cpW kA u w tx σ) s.heap.size) := C
  obtain ⟨F, hFe⟩ : ∃ F, F = dd + 1 := ⟨_, rfl⟩
  obtain ⟨Lo, hLoe⟩ : ∃ Lo, Lo = 48 * dd + 48 := ⟨_, rfl⟩
  obtain ⟨σ0, hσ0⟩ : ∃ s0, s0 = σ := ⟨_, rfl⟩
  suffices K : AW p l e { frames := F, cells := 0, slots := 0, locals := Lo } s m args below meth c D kA (va_A (cpW kA u w tx σ0) s.heap.size) 1 (ax_Qv below args s D kA (cpW kA u w tx σ0) 0 0 (fun w1 => w1 = cpW kA u w tx σf)) 0 [(0, .ref (u 31))] [] (cpW kA u w tx σ) 0 0 by rw [hFe, hLoe, hσ0] at K; exact ax_ls ([(0, .ref (u 31))]) [0] rfl K
  have C : ax_C p s m args meth c b_Par_refuse "ClauseProver$Parser" 1 none D kA (va_A (cpW kA u w tx σ0) s.heap.size) := by rw [hσ0]; exact C
  have hF : dd + 1 ≤ F := by omega
  have hLo : 48 * dd + 48 ≤ Lo := by omega
  clear hFe hLoe hσ0
  refine ax_aload_n (pc := 0) C d_Par_refuse_0 rfl 0 rfl ?_
  refine ax_aload_n (pc := 1) C d_Par_refuse_1 rfl 0 rfl ?_
  refine cg_31_2_Par_12 (pc := 2) C d_Par_refuse_2 ?_
  refine cg_32_5_Par_92 (pc := 5) C d_Par_refuse_5 ?_
  refine ax_if_eq (pc := 8) C 15 d_Par_refuse_8 (by decide) (fun hc => ?_) (fun hc => ?_)
  · have h := it_t hc h
    refine ax_iconst (pc := 15) C 1 d_Par_refuse_15 (by decide +kernel) ?_
    refine ax_ls ([(0, .ref (u 31))]) [0] rfl ?_
    have hm : sC_Par_refuse_p16 l D kA u w tx σ [1] (σf, rf, _) := ih tC_Par_refuse_p16 _ _ _ h
    exact hm _ rfl p e s m args below meth c F Lo σ0 hF hLo C
  · have h := it_f hc h
    refine ax_iconst (pc := 11) C 3 d_Par_refuse_11 (by decide +kernel) ?_
    refine ax_goto (pc := 12) C 16 d_Par_refuse_12 (by decide) ?_
    refine ax_ls ([(0, .ref (u 31))]) [0] rfl ?_
    have hm : sC_Par_refuse_p16 l D kA u w tx σ [3] (σf, rf, _) := ih tC_Par_refuse_p16 _ _ _ h
    exact hm _ rfl p e s m args below meth c F Lo σ0 hF hLo C
set_option maxHeartbeats 4000000 in
set_option maxRecDepth 100000 in
theorem oC_Par_refuse_p16 (l : Launch) (D : va_G) (kA : Nat → ClassId) (u w : Nat → Nat) (tx : Value) (rec : mF) (ih : ∀ t σ xs res, rec t σ xs = some res → cSem l D kA u w tx t σ xs res) (σ : mS) (xs : List Int32) (res : mR) (h : u_1 (kC_Par_refuse_p16 rec σ) xs = some res) : sC_Par_refuse_p16 l D kA u w tx σ xs res := by
  intro x0 hxs
  subst hxs
  obtain ⟨σf, rf, dd⟩ := res
  have h : (bnd (rec tC_Par_fail σ [x0, (σ.1 3203)]) (fun σ1 r1 => some (σ1, 0, 0))) = some (σf, rf, dd) := h
  intro p e s m args below meth c F Lo σ0 hF hLo C
  dsimp only at hF hLo ⊢
  refine ax_aload_n (pc := 16) C d_Par_refuse_16 rfl 0 rfl ?_
  refine cg_31_2_Par_12 (pc := 17) C d_Par_refuse_17 ?_
  refine cg_32_3_Par_77 (pc := 20) C d_Par_refuse_20 ?_
  obtain ⟨σ1, r1, d1_1, d2_1, h1, h, hd2, hd1⟩ := it_b h
  have hm : sC_Par_fail l D kA u w tx σ [x0, (σ.1 3203)] (σ1, r1, d1_1) := ih tC_Par_fail _ _ _ h1
  refine cc_Vv (pc := 23) C (σ2 := σ1) (As := [.int x0, .int (σ.1 3203)]) (rest := []) (hm _ _ rfl) ml_Par_96 31 rfl rfl rfl d_Par_refuse_23 rfl rfl (by dsimp only; omega) (by dsimp only; omega) (Nat.le_of_ble_eq_true rfl) (Nat.le_of_ble_eq_true rfl) (Nat.le_of_ble_eq_true rfl) ?_
  have hF : d2_1 + 1 ≤ F := by omega
  have hLo : 48 * d2_1 + 48 ≤ Lo := by omega
  cases h
  exact ax_vret (pc := 26) C d_Par_refuse_26 rfl (Nat.le_refl _) (Nat.le_refl _)
set_option maxHeartbeats 4000000 in
set_option maxRecDepth 100000 in
theorem oC_Par_settle (l : Launch) (D : va_G) (kA : Nat → ClassId) (u w : Nat → Nat) (tx : Value) (rec : mF) (ih : ∀ t σ xs res, rec t σ xs = some res → cSem l D kA u w tx t σ xs res) (σ : mS) (xs : List Int32) (res : mR) (h : u_4 (kC_Par_settle rec σ) xs = some res) : sC_Par_settle l D kA u w tx σ xs res := by
  intro x0 x1 x2 x3 hxs
  subst hxs
  obtain ⟨σf, rf, dd⟩ := res
  have h : (if (σ.1 3100) = 0 then (bnd (rec tC_Sym_settles σ [x0, x1, x2]) (fun σ1 r1 => if r1 = 0 then (bnd (rec tC_Par_fail σ1 [2, x3]) (fun σ2 r2 => rec tC_Par_settle_p27 σ2 [x0, x1, x2, x3])) else (rec tC_Par_settle_p27 σ1 [x0, x1, x2, x3]))) else (rec tC_Par_settle_p27 σ [x0, x1, x2, x3])) = some (σf, rf, dd) := h
  refine ax_Mv.of (by decide +kernel) (Nat.le_of_ble_eq_true rfl) ?_
  intro p e s m args below meth c C hnm
  have C : ax_C p s m args meth c b_Par_settle "ClauseProver$Parser" 5 none D kA (va_A (cpW kA u w tx σ) s.heap.size) := C
  obtain ⟨F, hFe⟩ : ∃ F, F = dd + 1 := ⟨_, rfl⟩
  obtain ⟨Lo, hLoe⟩ : ∃ Lo, Lo = 48 * dd + 48 := ⟨_, rfl⟩
  obtain ⟨σ0, hσ0⟩ : ∃ s0, s0 = σ := ⟨_, rfl⟩
  suffices K : AW p l e { frames := F, cells := 0, slots := 0, locals := Lo } s m args below meth c D kA (va_A (cpW kA u w tx σ0) s.heap.size) 5 (ax_Qv below args s D kA (cpW kA u w tx σ0) 0 0 (fun w1 => w1 = cpW kA u w tx σf)) 0 [(0, .ref (u 31)), (1, .int x0), (2, .int x1), (3, .int x2), (4, .int x3)] [] (cpW kA u w tx σ) 0 0 by rw [hFe, hLoe, hσ0] at K; exact ax_ls ([(0, .ref (u 31)), (1, .int x0), (2, .int x1), (3, .int x2), (4, .int x3)]) [0, 1, 2, 3, 4] rfl K
  have C : ax_C p s m args meth c b_Par_settle "ClauseProver$Parser" 5 none D kA (va_A (cpW kA u w tx σ0) s.heap.size) := by rw [hσ0]; exact C
  have hF : dd + 1 ≤ F := by omega
  have hLo : 48 * dd + 48 ≤ Lo := by omega
  clear hFe hLoe hσ0
  refine ax_aload_n (pc := 0) C d_Par_settle_0 rfl 0 rfl ?_
  refine cg_31_0_Par_41 (pc := 1) C d_Par_settle_1 ?_
  refine ax_if_ne (pc := 4) C 27 d_Par_settle_4 (by decide) (fun hc => ?_) (fun hc => ?_)
  · have h := it_f hc h
    refine ax_ls ([(0, .ref (u 31)), (1, .int x0), (2, .int x1), (3, .int x2), (4, .int x3)]) [0, 1, 2, 3, 4] rfl ?_
    have hm : sC_Par_settle_p27 l D kA u w tx σ [x0, x1, x2, x3] (σf, rf, _) := ih tC_Par_settle_p27 _ _ _ h
    exact hm _ _ _ _ rfl p e s m args below meth c F Lo σ0 hF hLo C
  · have h := it_t hc h
    refine ax_aload_n (pc := 7) C d_Par_settle_7 rfl 0 rfl ?_
    refine cg_31_3_Par_33 (pc := 8) C d_Par_settle_8 ?_
    refine ax_iload_n (pc := 11) C d_Par_settle_11 rfl 1 rfl ?_
    refine ax_iload_n (pc := 12) C d_Par_settle_12 rfl 2 rfl ?_
    refine ax_iload_n (pc := 13) C d_Par_settle_13 rfl 3 rfl ?_
    obtain ⟨σ1, r1, d1_1, d2_1, h1, h, hd2, hd1⟩ := it_b h
    have hm : sC_Sym_settles l D kA u w tx σ [x0, x1, x2] (σ1, r1, d1_1) := ih tC_Sym_settles _ _ _ h1
    refine cc_Vi (pc := 14) C (r0 := r1) (σ2 := σ1) (As := [.int x0, .int x1, .int x2]) (rest := []) (hm _ _ _ rfl) ml_Par_159 6 rfl rfl rfl d_Par_settle_14 rfl rfl (by dsimp only; omega) (by dsimp only; omega) (Nat.le_of_ble_eq_true rfl) (Nat.le_of_ble_eq_true rfl) (Nat.le_of_ble_eq_true rfl) ?_
    have hF : d2_1 + 1 ≤ F := by omega
    have hLo : 48 * d2_1 + 48 ≤ Lo := by omega
    refine ax_if_ne (pc := 17) C 27 d_Par_settle_17 (by decide) (fun hc => ?_) (fun hc => ?_)
    · have h := it_f hc h
      refine ax_ls ([(0, .ref (u 31)), (1, .int x0), (2, .int x1), (3, .int x2), (4, .int x3)]) [0, 1, 2, 3, 4] rfl ?_
      have hm : sC_Par_settle_p27 l D kA u w tx σ1 [x0, x1, x2, x3] (σf, rf, _) := ih tC_Par_settle_p27 _ _ _ h
      exact hm _ _ _ _ rfl p e s m args below meth c F Lo σ0 hF hLo C
    · have h := it_t hc h
      refine ax_aload_n (pc := 20) C d_Par_settle_20 rfl 0 rfl ?_
      refine ax_iconst (pc := 21) C 2 d_Par_settle_21 (by decide +kernel) ?_
      refine ax_iload (pc := 22) C d_Par_settle_22 4 rfl ?_
      obtain ⟨σ2, r2, d1_2, d2_2, h1, h, hd2, hd1⟩ := it_b h
      have hm : sC_Par_fail l D kA u w tx σ1 [2, x3] (σ2, r2, d1_2) := ih tC_Par_fail _ _ _ h1
      refine cc_Vv (pc := 24) C (σ2 := σ2) (As := [.int 2, .int x3]) (rest := []) (hm _ _ rfl) ml_Par_96 31 rfl rfl rfl d_Par_settle_24 rfl rfl (by dsimp only; omega) (by dsimp only; omega) (Nat.le_of_ble_eq_true rfl) (Nat.le_of_ble_eq_true rfl) (Nat.le_of_ble_eq_true rfl) ?_
      have hF : d2_2 + 1 ≤ F := by omega
      have hLo : 48 * d2_2 + 48 ≤ Lo := by omega
      refine ax_ls ([(0, .ref (u 31)), (1, .int x0), (2, .int x1), (3, .int x2), (4, .int x3)]) [0, 1, 2, 3, 4] rfl ?_
      have hm : sC_Par_settle_p27 l D kA u w tx σ2 [x0, x1, x2, x3] (σf, rf, _) := ih tC_Par_settle_p27 _ _ _ h
      exact hm _ _ _ _ rfl p e s m args below meth c F Lo σ0 hF hLo C
set_option maxHeartbeats 4000000 in
set_option maxRecDepth 100000 in
theorem oC_Par_settle_p27 (l : Launch) (D : va_G) (kA : Nat → ClassId) (u w : Nat → Nat) (tx : Value) (rec : mF) (ih : ∀ t σ xs res, rec t σ xs = some res → cSem l D kA u w tx t σ xs res) (σ : mS) (xs : List Int32) (res : mR) (h : u_4 (kC_Par_settle_p27 rec σ) xs = some res) : sC_Par_settle_p27 l D kA u w tx σ xs res := by
  intro x0 x1 x2 x3 hxs
  subst hxs
  obtain ⟨σf, rf, dd⟩ := res
  have h : (some (σ, 0, 0)) = some (σf, rf, dd) := h
  intro p e s m args below meth c F Lo σ0 hF hLo C
  dsimp only at hF hLo ⊢
  cases h
  exact ax_vret (pc := 27) C d_Par_settle_27 rfl (Nat.le_refl _) (Nat.le_refl _)
set_option maxHeartbeats 4000000 in
set_option maxRecDepth 100000 in
theorem oC_Par_strength (l : Launch) (D : va_G) (kA : Nat → ClassId) (u w : Nat → Nat) (tx : Value) (rec : mF) (ih : ∀ t σ xs res, rec t σ xs = some res → cSem l D kA u w tx t σ xs res) (σ : mS) (xs : List Int32) (res : mR) (h : u_1 (kC_Par_strength rec σ) xs = some res) : sC_Par_strength l D kA u w tx σ xs res := by
  intro x0 hxs
  subst hxs
  obtain ⟨σf, rf, dd⟩ := res
  have h : (if (x0 : Int32).toInt < 11 ∨ 17 < (x0 : Int32).toInt then (some (σ, 0, 0)) else (if (x0 : Int32) = 11 then (some (σ, 6, 0)) else (if (x0 : Int32) = 12 then (some (σ, 1, 0)) else (if (x0 : Int32) = 13 then (some (σ, 1, 0)) else (if (x0 : Int32) = 14 then (some (σ, 5, 0)) else (if (x0 : Int32) = 15 then (some (σ, 4, 0)) else (if (x0 : Int32) = 16 then (some (σ, 3, 0)) else (some (σ, 2, 0))))))))) = some (σf, rf, dd) := h
  refine ax_Mi.of (by decide +kernel) (Nat.le_of_ble_eq_true rfl) ?_
  intro p e s m args below meth c C hnm
  have C : ax_C p s m args meth c b_Par_strength "ClauseProver$Parser" 1 (some .int) D kA (va_A (cpW kA u w tx σ) s.heap.size) := C
  obtain ⟨F, hFe⟩ : ∃ F, F = dd + 1 := ⟨_, rfl⟩
  obtain ⟨Lo, hLoe⟩ : ∃ Lo, Lo = 48 * dd + 48 := ⟨_, rfl⟩
  obtain ⟨σ0, hσ0⟩ : ∃ s0, s0 = σ := ⟨_, rfl⟩
  suffices K : AW p l e { frames := F, cells := 0, slots := 0, locals := Lo } s m args below meth c D kA (va_A (cpW kA u w tx σ0) s.heap.size) 1 (ax_Qi below args s D kA (cpW kA u w tx σ0) 0 0 (fun r w1 => r = rf ∧ w1 = cpW kA u w tx σf)) 0 [(0, .int x0)] [] (cpW kA u w tx σ) 0 0 by rw [hFe, hLoe, hσ0] at K; exact ax_ls ([(0, .int x0)]) [0] rfl K
  have C : ax_C p s m args meth c b_Par_strength "ClauseProver$Parser" 1 (some .int) D kA (va_A (cpW kA u w tx σ0) s.heap.size) := by rw [hσ0]; exact C
  have hF : dd + 1 ≤ F := by omega
  have hLo : 48 * dd + 48 ≤ Lo := by omega
  clear hFe hLoe hσ0
  refine ax_iload_n (pc := 0) C d_Par_strength_0 rfl 0 rfl ?_
  by_cases hr : (x0 : Int32).toInt < 11 ∨ 17 < (x0 : Int32).toInt
  · have h := it_t hr h
    refine ax_tableOut (pc := 1) C 57 d_Par_strength_1 hr (by decide) ?_
    refine ax_iconst (pc := 57) C 0 d_Par_strength_57 (by decide +kernel) ?_
    cases h
    exact ax_iret (pc := 58) C d_Par_strength_58 ⟨rfl, rfl⟩ (Nat.le_refl _) (Nat.le_refl _)
  · have h := it_f hr h
    by_cases hv : (x0 : Int32) = 11
    · have h := it_t hv h
      refine ax_tableIn (pc := 1) C 44 d_Par_strength_1 (by omega) (by omega) (by rw [hv]; rfl) (by decide) ?_
      refine ax_bipush (pc := 44) C 6 d_Par_strength_44 (by decide +kernel) ?_
      cases h
      exact ax_iret (pc := 46) C d_Par_strength_46 ⟨rfl, rfl⟩ (Nat.le_refl _) (Nat.le_refl _)
    · have h := it_f hv h
      have hn11 : ¬ (x0 : Int32).toInt = 11 := fun q => hv (i32q (by rw [q]; rfl))
      by_cases hv : (x0 : Int32) = 12
      · have h := it_t hv h
        refine ax_tableIn (pc := 1) C 55 d_Par_strength_1 (by omega) (by omega) (by rw [hv]; rfl) (by decide) ?_
        refine ax_iconst (pc := 55) C 1 d_Par_strength_55 (by decide +kernel) ?_
        cases h
        exact ax_iret (pc := 56) C d_Par_strength_56 ⟨rfl, rfl⟩ (Nat.le_refl _) (Nat.le_refl _)
      · have h := it_f hv h
        have hn12 : ¬ (x0 : Int32).toInt = 12 := fun q => hv (i32q (by rw [q]; rfl))
        by_cases hv : (x0 : Int32) = 13
        · have h := it_t hv h
          refine ax_tableIn (pc := 1) C 55 d_Par_strength_1 (by omega) (by omega) (by rw [hv]; rfl) (by decide) ?_
          refine ax_iconst (pc := 55) C 1 d_Par_strength_55 (by decide +kernel) ?_
          cases h
          exact ax_iret (pc := 56) C d_Par_strength_56 ⟨rfl, rfl⟩ (Nat.le_refl _) (Nat.le_refl _)
        · have h := it_f hv h
          have hn13 : ¬ (x0 : Int32).toInt = 13 := fun q => hv (i32q (by rw [q]; rfl))
          by_cases hv : (x0 : Int32) = 14
          · have h := it_t hv h
            refine ax_tableIn (pc := 1) C 47 d_Par_strength_1 (by omega) (by omega) (by rw [hv]; rfl) (by decide) ?_
            refine ax_iconst (pc := 47) C 5 d_Par_strength_47 (by decide +kernel) ?_
            cases h
            exact ax_iret (pc := 48) C d_Par_strength_48 ⟨rfl, rfl⟩ (Nat.le_refl _) (Nat.le_refl _)
          · have h := it_f hv h
            have hn14 : ¬ (x0 : Int32).toInt = 14 := fun q => hv (i32q (by rw [q]; rfl))
            by_cases hv : (x0 : Int32) = 15
            · have h := it_t hv h
              refine ax_tableIn (pc := 1) C 49 d_Par_strength_1 (by omega) (by omega) (by rw [hv]; rfl) (by decide) ?_
              refine ax_iconst (pc := 49) C 4 d_Par_strength_49 (by decide +kernel) ?_
              cases h
              exact ax_iret (pc := 50) C d_Par_strength_50 ⟨rfl, rfl⟩ (Nat.le_refl _) (Nat.le_refl _)
            · have h := it_f hv h
              have hn15 : ¬ (x0 : Int32).toInt = 15 := fun q => hv (i32q (by rw [q]; rfl))
              by_cases hv : (x0 : Int32) = 16
              · have h := it_t hv h
                refine ax_tableIn (pc := 1) C 51 d_Par_strength_1 (by omega) (by omega) (by rw [hv]; rfl) (by decide) ?_
                refine ax_iconst (pc := 51) C 3 d_Par_strength_51 (by decide +kernel) ?_
                cases h
                exact ax_iret (pc := 52) C d_Par_strength_52 ⟨rfl, rfl⟩ (Nat.le_refl _) (Nat.le_refl _)
              · have h := it_f hv h
                have hn16 : ¬ (x0 : Int32).toInt = 16 := fun q => hv (i32q (by rw [q]; rfl))
                have hv : (x0 : Int32) = 17 := i32q (by have e9 : (17 : Int32).toInt = 17 := rfl; omega)
                refine ax_tableIn (pc := 1) C 53 d_Par_strength_1 (by omega) (by omega) (by rw [hv]; rfl) (by decide) ?_
                refine ax_iconst (pc := 53) C 2 d_Par_strength_53 (by decide +kernel) ?_
                cases h
                exact ax_iret (pc := 54) C d_Par_strength_54 ⟨rfl, rfl⟩ (Nat.le_refl _) (Nat.le_refl _)
set_option maxHeartbeats 4000000 in
set_option maxRecDepth 100000 in
theorem oC_Par_top (l : Launch) (D : va_G) (kA : Nat → ClassId) (u w : Nat → Nat) (tx : Value) (rec : mF) (ih : ∀ t σ xs res, rec t σ xs = some res → cSem l D kA u w tx t σ xs res) (σ : mS) (xs : List Int32) (res : mR) (h : u_0 (kC_Par_top rec σ) xs = some res) : sC_Par_top l D kA u w tx σ xs res := by
  intro hxs
  subst hxs
  obtain ⟨σf, rf, dd⟩ := res
  have h : (if (σ.1 3301) = 0 then (rec tC_Par_top_p31 σ [0]) else (if bin (((σ.1 3301) : Int32) - 1) (σ.2.2 34) = true then (rec tC_Par_top_p31 σ [(σ.2.1 34 (Int32.toNatClampNeg (((σ.1 3301) : Int32) - 1)))]) else none)) = some (σf, rf, dd) := h
  refine ax_Mi.of (by decide +kernel) (Nat.le_of_ble_eq_true rfl) ?_
  intro p e s m args below meth c C hnm
  have C : ax_C p s m args meth c b_Par_top "ClauseProver$Parser" 1 (some .int) D kA (va_A (cpW kA u w tx σ) s.heap.size) := C
  obtain ⟨F, hFe⟩ : ∃ F, F = dd + 1 := ⟨_, rfl⟩
  obtain ⟨Lo, hLoe⟩ : ∃ Lo, Lo = 48 * dd + 48 := ⟨_, rfl⟩
  obtain ⟨σ0, hσ0⟩ : ∃ s0, s0 = σ := ⟨_, rfl⟩
  suffices K : AW p l e { frames := F, cells := 0, slots := 0, locals := Lo } s m args below meth c D kA (va_A (cpW kA u w tx σ0) s.heap.size) 1 (ax_Qi below args s D kA (cpW kA u w tx σ0) 0 0 (fun r w1 => r = rf ∧ w1 = cpW kA u w tx σf)) 0 [(0, .ref (u 31))] [] (cpW kA u w tx σ) 0 0 by rw [hFe, hLoe, hσ0] at K; exact ax_ls ([(0, .ref (u 31))]) [0] rfl K
  have C : ax_C p s m args meth c b_Par_top "ClauseProver$Parser" 1 (some .int) D kA (va_A (cpW kA u w tx σ0) s.heap.size) := by rw [hσ0]; exact C
  have hF : dd + 1 ≤ F := by omega
  have hLo : 48 * dd + 48 ≤ Lo := by omega
  clear hFe hLoe hσ0
  refine ax_aload_n (pc := 0) C d_Par_top_0 rfl 0 rfl ?_
  refine cg_31_5_Par_23 (pc := 1) C d_Par_top_1 ?_
  refine cg_33_1_Par_83 (pc := 4) C d_Par_top_4 ?_
  refine ax_if_ne (pc := 7) C 14 d_Par_top_7 (by decide) (fun hc => ?_) (fun hc => ?_)
  · have h := it_f hc h
    refine ax_aload_n (pc := 14) C d_Par_top_14 rfl 0 rfl ?_
    refine cg_31_5_Par_23 (pc := 15) C d_Par_top_15 ?_
    refine cg_33_0_Par_181 (pc := 18) C d_Par_top_18 ?_
    refine ax_aload_n (pc := 21) C d_Par_top_21 rfl 0 rfl ?_
    refine cg_31_5_Par_23 (pc := 22) C d_Par_top_22 ?_
    refine cg_33_1_Par_83 (pc := 25) C d_Par_top_25 ?_
    refine ax_iconst (pc := 28) C 1 d_Par_top_28 (by decide +kernel) ?_
    refine ax_isub (pc := 29) C d_Par_top_29 ?_
    obtain ⟨hb, h⟩ := it_g h
    refine cl_34 (pc := 30) C d_Par_top_30 (bin_in hb) ?_
    refine ax_ls ([(0, .ref (u 31))]) [0] rfl ?_
    have hm : sC_Par_top_p31 l D kA u w tx σ [(σ.2.1 34 (Int32.toNatClampNeg (((σ.1 3301) : Int32) - 1)))] (σf, rf, _) := ih tC_Par_top_p31 _ _ _ h
    exact hm _ rfl p e s m args below meth c F Lo σ0 hF hLo C
  · have h := it_t hc h
    refine ax_iconst (pc := 10) C 0 d_Par_top_10 (by decide +kernel) ?_
    refine ax_goto (pc := 11) C 31 d_Par_top_11 (by decide) ?_
    refine ax_ls ([(0, .ref (u 31))]) [0] rfl ?_
    have hm : sC_Par_top_p31 l D kA u w tx σ [0] (σf, rf, _) := ih tC_Par_top_p31 _ _ _ h
    exact hm _ rfl p e s m args below meth c F Lo σ0 hF hLo C
set_option maxHeartbeats 4000000 in
set_option maxRecDepth 100000 in
theorem oC_Par_top_p31 (l : Launch) (D : va_G) (kA : Nat → ClassId) (u w : Nat → Nat) (tx : Value) (rec : mF) (ih : ∀ t σ xs res, rec t σ xs = some res → cSem l D kA u w tx t σ xs res) (σ : mS) (xs : List Int32) (res : mR) (h : u_1 (kC_Par_top_p31 rec σ) xs = some res) : sC_Par_top_p31 l D kA u w tx σ xs res := by
  intro x0 hxs
  subst hxs
  obtain ⟨σf, rf, dd⟩ := res
  have h : (some (σ, x0, 0)) = some (σf, rf, dd) := h
  intro p e s m args below meth c F Lo σ0 hF hLo C
  dsimp only at hF hLo ⊢
  cases h
  exact ax_iret (pc := 31) C d_Par_top_31 ⟨rfl, rfl⟩ (Nat.le_refl _) (Nat.le_refl _)
set_option maxHeartbeats 4000000 in
set_option maxRecDepth 100000 in
theorem oC_Sat_choose (l : Launch) (D : va_G) (kA : Nat → ClassId) (u w : Nat → Nat) (tx : Value) (rec : mF) (ih : ∀ t σ xs res, rec t σ xs = some res → cSem l D kA u w tx t σ xs res) (σ : mS) (xs : List Int32) (res : mR) (h : u_0 (kC_Sat_choose rec σ) xs = some res) : sC_Sat_choose l D kA u w tx σ xs res := by
  intro hxs
  subst hxs
  obtain ⟨σf, rf, dd⟩ := res
  have h : (if (5 : Int32) = 0 then none else (if ((((σ.1 5301) : Int32) + 1) - (((σ.1 5301) : Int32) + 1) / 5 * 5) = 0 then (rec tC_Sat_choose_p16 σ [1]) else (rec tC_Sat_choose_p16 σ [0]))) = some (σf, rf, dd) := h
  refine ax_Mi.of (by decide +kernel) (Nat.le_of_ble_eq_true rfl) ?_
  intro p e s m args below meth c C hnm
  have C : ax_C p s m args meth c b_Sat_choose "ClauseProver$Saturation" 4 (some .int) D kA (va_A (cpW kA u w tx σ) s.heap.size) := C
  obtain ⟨F, hFe⟩ : ∃ F, F = dd + 1 := ⟨_, rfl⟩
  obtain ⟨Lo, hLoe⟩ : ∃ Lo, Lo = 48 * dd + 48 := ⟨_, rfl⟩
  obtain ⟨σ0, hσ0⟩ : ∃ s0, s0 = σ := ⟨_, rfl⟩
  suffices K : AW p l e { frames := F, cells := 0, slots := 0, locals := Lo } s m args below meth c D kA (va_A (cpW kA u w tx σ0) s.heap.size) 4 (ax_Qi below args s D kA (cpW kA u w tx σ0) 0 0 (fun r w1 => r = rf ∧ w1 = cpW kA u w tx σf)) 0 [(0, .ref (u 53))] [] (cpW kA u w tx σ) 0 0 by rw [hFe, hLoe, hσ0] at K; exact ax_ls ([(0, .ref (u 53))]) [0] rfl K
  have C : ax_C p s m args meth c b_Sat_choose "ClauseProver$Saturation" 4 (some .int) D kA (va_A (cpW kA u w tx σ0) s.heap.size) := by rw [hσ0]; exact C
  have hF : dd + 1 ≤ F := by omega
  have hLo : 48 * dd + 48 ≤ Lo := by omega
  clear hFe hLoe hσ0
  refine ax_aload_n (pc := 0) C d_Sat_choose_0 rfl 0 rfl ?_
  refine cg_53_1_Sat_62 (pc := 1) C d_Sat_choose_1 ?_
  refine ax_iconst (pc := 4) C 1 d_Sat_choose_4 (by decide +kernel) ?_
  refine ax_iadd (pc := 5) C d_Sat_choose_5 ?_
  refine ax_iconst (pc := 6) C 5 d_Sat_choose_6 (by decide +kernel) ?_
  obtain ⟨hz, h⟩ := it_n h
  refine ax_irem (pc := 7) C d_Sat_choose_7 hz ?_
  refine ax_if_ne (pc := 8) C 15 d_Sat_choose_8 (by decide) (fun hc => ?_) (fun hc => ?_)
  · have h := it_f hc h
    refine ax_iconst (pc := 15) C 0 d_Sat_choose_15 (by decide +kernel) ?_
    refine ax_ls ([(0, .ref (u 53))]) [0] rfl ?_
    have hm : sC_Sat_choose_p16 l D kA u w tx σ [0] (σf, rf, _) := ih tC_Sat_choose_p16 _ _ _ h
    exact hm _ rfl p e s m args below meth c F Lo σ0 hF hLo C
  · have h := it_t hc h
    refine ax_iconst (pc := 11) C 1 d_Sat_choose_11 (by decide +kernel) ?_
    refine ax_goto (pc := 12) C 16 d_Sat_choose_12 (by decide) ?_
    refine ax_ls ([(0, .ref (u 53))]) [0] rfl ?_
    have hm : sC_Sat_choose_p16 l D kA u w tx σ [1] (σf, rf, _) := ih tC_Sat_choose_p16 _ _ _ h
    exact hm _ rfl p e s m args below meth c F Lo σ0 hF hLo C
set_option maxHeartbeats 4000000 in
set_option maxRecDepth 100000 in
theorem oC_Sat_choose_p16 (l : Launch) (D : va_G) (kA : Nat → ClassId) (u w : Nat → Nat) (tx : Value) (rec : mF) (ih : ∀ t σ xs res, rec t σ xs = some res → cSem l D kA u w tx t σ xs res) (σ : mS) (xs : List Int32) (res : mR) (h : u_1 (kC_Sat_choose_p16 rec σ) xs = some res) : sC_Sat_choose_p16 l D kA u w tx σ xs res := by
  intro x0 hxs
  subst hxs
  obtain ⟨σf, rf, dd⟩ := res
  have h : (rec tC_Sat_choose_p21 σ [x0, (-1), 0]) = some (σf, rf, dd) := h
  intro p e s m args below meth c F Lo σ0 hF hLo C
  dsimp only at hF hLo ⊢
  refine ax_istore_n (pc := 16) C d_Sat_choose_16 rfl (Nat.le_of_ble_eq_true rfl) ([(1, .int x0), (0, .ref (u 53))]) rfl ?_
  refine ax_iconst (pc := 17) C (-1) d_Sat_choose_17 (by decide +kernel) ?_
  refine ax_istore_n (pc := 18) C d_Sat_choose_18 rfl (Nat.le_of_ble_eq_true rfl) ([(2, .int (-1)), (1, .int x0), (0, .ref (u 53))]) rfl ?_
  refine ax_iconst (pc := 19) C 0 d_Sat_choose_19 (by decide +kernel) ?_
  refine ax_istore_n (pc := 20) C d_Sat_choose_20 rfl (Nat.le_of_ble_eq_true rfl) ([(3, .int 0), (2, .int (-1)), (1, .int x0), (0, .ref (u 53))]) rfl ?_
  refine ax_ls ([(0, .ref (u 53)), (1, .int x0), (2, .int (-1)), (3, .int 0)]) [3, 2, 1, 0] rfl ?_
  have hm : sC_Sat_choose_p21 l D kA u w tx σ [x0, (-1), 0] (σf, rf, _) := ih tC_Sat_choose_p21 _ _ _ h
  exact hm _ _ _ rfl p e s m args below meth c F Lo σ0 hF hLo C
set_option maxHeartbeats 4000000 in
set_option maxRecDepth 100000 in
theorem oC_Sat_choose_p21 (l : Launch) (D : va_G) (kA : Nat → ClassId) (u w : Nat → Nat) (tx : Value) (rec : mF) (ih : ∀ t σ xs res, rec t σ xs = some res → cSem l D kA u w tx t σ xs res) (σ : mS) (xs : List Int32) (res : mR) (h : u_3 (kC_Sat_choose_p21 rec σ) xs = some res) : sC_Sat_choose_p21 l D kA u w tx σ xs res := by
  intro x0 x1 x2 hxs
  subst hxs
  obtain ⟨σf, rf, dd⟩ := res
  have h : (if (σ.1 5402) ≤ x2 then (some (σ, x1, 0)) else (bnd (rec tC_Sto_fact σ [x2, 6]) (fun σ1 r1 => if r1 = 0 then (if x0 = 0 then (if x1 = (-1) then (rec tC_Sat_choose_p77 σ1 [x0, x1, x2]) else (bnd (rec tC_Sto_fact σ1 [x2, 4]) (fun σ2 r2 => bnd (rec tC_Sto_fact σ2 [x1, 4]) (fun σ3 r3 => if r3 ≤ r2 then (rec tC_Sat_choose_p79 σ3 [x0, x1, x2]) else (rec tC_Sat_choose_p77 σ3 [x0, x1, x2]))))) else (some (σ1, x2, 0))) else (rec tC_Sat_choose_p79 σ1 [x0, x1, x2])))) = some (σf, rf, dd) := h
  intro p e s m args below meth c F Lo σ0 hF hLo C
  dsimp only at hF hLo ⊢
  refine ax_iload_n (pc := 21) C d_Sat_choose_21 rfl 3 rfl ?_
  refine ax_aload_n (pc := 22) C d_Sat_choose_22 rfl 0 rfl ?_
  refine cg_53_9_Sat_27 (pc := 23) C d_Sat_choose_23 ?_
  refine cg_54_2_Sat_112 (pc := 26) C d_Sat_choose_26 ?_
  refine ax_icmp_ge (pc := 29) C 85 d_Sat_choose_29 (by decide) (fun hc => ?_) (fun hc => ?_)
  · have h := it_t hc h
    refine ax_iload_n (pc := 85) C d_Sat_choose_85 rfl 2 rfl ?_
    cases h
    exact ax_iret (pc := 86) C d_Sat_choose_86 ⟨rfl, rfl⟩ (Nat.le_refl _) (Nat.le_refl _)
  · have h := it_f hc h
    refine ax_aload_n (pc := 32) C d_Sat_choose_32 rfl 0 rfl ?_
    refine cg_53_9_Sat_27 (pc := 33) C d_Sat_choose_33 ?_
    refine ax_iload_n (pc := 36) C d_Sat_choose_36 rfl 3 rfl ?_
    refine ax_bipush (pc := 37) C 6 d_Sat_choose_37 (by decide +kernel) ?_
    obtain ⟨σ1, r1, d1_1, d2_1, h1, h, hd2, hd1⟩ := it_b h
    have hm : sC_Sto_fact l D kA u w tx σ [x2, 6] (σ1, r1, d1_1) := ih tC_Sto_fact _ _ _ h1
    refine cc_Vi (pc := 39) C (r0 := r1) (σ2 := σ1) (As := [.int x2, .int 6]) (rest := []) (hm _ _ rfl) ml_Sat_91 54 rfl rfl rfl d_Sat_choose_39 rfl rfl (by dsimp only; omega) (by dsimp only; omega) (Nat.le_of_ble_eq_true rfl) (Nat.le_of_ble_eq_true rfl) (Nat.le_of_ble_eq_true rfl) ?_
    have hF : d2_1 + 1 ≤ F := by omega
    have hLo : 48 * d2_1 + 48 ≤ Lo := by omega
    refine ax_if_ne (pc := 42) C 79 d_Sat_choose_42 (by decide) (fun hc => ?_) (fun hc => ?_)
    · have h := it_f hc h
      refine ax_ls ([(0, .ref (u 53)), (1, .int x0), (2, .int x1), (3, .int x2)]) [0, 1, 2, 3] rfl ?_
      have hm : sC_Sat_choose_p79 l D kA u w tx σ1 [x0, x1, x2] (σf, rf, _) := ih tC_Sat_choose_p79 _ _ _ h
      exact hm _ _ _ rfl p e s m args below meth c F Lo σ0 hF hLo C
    · have h := it_t hc h
      refine ax_iload_n (pc := 45) C d_Sat_choose_45 rfl 1 rfl ?_
      refine ax_if_eq (pc := 46) C 51 d_Sat_choose_46 (by decide) (fun hc => ?_) (fun hc => ?_)
      · have h := it_t hc h
        refine ax_iload_n (pc := 51) C d_Sat_choose_51 rfl 2 rfl ?_
        refine ax_iconst (pc := 52) C (-1) d_Sat_choose_52 (by decide +kernel) ?_
        refine ax_icmp_eq (pc := 53) C 77 d_Sat_choose_53 (by decide) (fun hc => ?_) (fun hc => ?_)
        · have h := it_t hc h
          refine ax_ls ([(0, .ref (u 53)), (1, .int x0), (2, .int x1), (3, .int x2)]) [0, 1, 2, 3] rfl ?_
          have hm : sC_Sat_choose_p77 l D kA u w tx σ1 [x0, x1, x2] (σf, rf, _) := ih tC_Sat_choose_p77 _ _ _ h
          exact hm _ _ _ rfl p e s m args below meth c F Lo σ0 hF hLo C
        · have h := it_f hc h
          refine ax_aload_n (pc := 56) C d_Sat_choose_56 rfl 0 rfl ?_
          refine cg_53_9_Sat_27 (pc := 57) C d_Sat_choose_57 ?_
          refine ax_iload_n (pc := 60) C d_Sat_choose_60 rfl 3 rfl ?_
          refine ax_iconst (pc := 61) C 4 d_Sat_choose_61 (by decide +kernel) ?_
          obtain ⟨σ2, r2, d1_2, d2_2, h1, h, hd2, hd1⟩ := it_b h
          have hm : sC_Sto_fact l D kA u w tx σ1 [x2, 4] (σ2, r2, d1_2) := ih tC_Sto_fact _ _ _ h1
          refine cc_Vi (pc := 62) C (r0 := r2) (σ2 := σ2) (As := [.int x2, .int 4]) (rest := []) (hm _ _ rfl) ml_Sat_91 54 rfl rfl rfl d_Sat_choose_62 rfl rfl (by dsimp only; omega) (by dsimp only; omega) (Nat.le_of_ble_eq_true rfl) (Nat.le_of_ble_eq_true rfl) (Nat.le_of_ble_eq_true rfl) ?_
          have hF : d2_2 + 1 ≤ F := by omega
          have hLo : 48 * d2_2 + 48 ≤ Lo := by omega
          refine ax_aload_n (pc := 65) C d_Sat_choose_65 rfl 0 rfl ?_
          refine cg_53_9_Sat_27 (pc := 66) C d_Sat_choose_66 ?_
          refine ax_iload_n (pc := 69) C d_Sat_choose_69 rfl 2 rfl ?_
          refine ax_iconst (pc := 70) C 4 d_Sat_choose_70 (by decide +kernel) ?_
          obtain ⟨σ3, r3, d1_3, d2_3, h1, h, hd2, hd1⟩ := it_b h
          have hm : sC_Sto_fact l D kA u w tx σ2 [x1, 4] (σ3, r3, d1_3) := ih tC_Sto_fact _ _ _ h1
          refine cc_Vi (pc := 71) C (r0 := r3) (σ2 := σ3) (As := [.int x1, .int 4]) (rest := [.int r2]) (hm _ _ rfl) ml_Sat_91 54 rfl rfl rfl d_Sat_choose_71 rfl rfl (by dsimp only; omega) (by dsimp only; omega) (Nat.le_of_ble_eq_true rfl) (Nat.le_of_ble_eq_true rfl) (Nat.le_of_ble_eq_true rfl) ?_
          have hF : d2_3 + 1 ≤ F := by omega
          have hLo : 48 * d2_3 + 48 ≤ Lo := by omega
          refine ax_icmp_ge (pc := 74) C 79 d_Sat_choose_74 (by decide) (fun hc => ?_) (fun hc => ?_)
          · have h := it_t hc h
            refine ax_ls ([(0, .ref (u 53)), (1, .int x0), (2, .int x1), (3, .int x2)]) [0, 1, 2, 3] rfl ?_
            have hm : sC_Sat_choose_p79 l D kA u w tx σ3 [x0, x1, x2] (σf, rf, _) := ih tC_Sat_choose_p79 _ _ _ h
            exact hm _ _ _ rfl p e s m args below meth c F Lo σ0 hF hLo C
          · have h := it_f hc h
            refine ax_ls ([(0, .ref (u 53)), (1, .int x0), (2, .int x1), (3, .int x2)]) [0, 1, 2, 3] rfl ?_
            have hm : sC_Sat_choose_p77 l D kA u w tx σ3 [x0, x1, x2] (σf, rf, _) := ih tC_Sat_choose_p77 _ _ _ h
            exact hm _ _ _ rfl p e s m args below meth c F Lo σ0 hF hLo C
      · have h := it_f hc h
        refine ax_iload_n (pc := 49) C d_Sat_choose_49 rfl 3 rfl ?_
        cases h
        exact ax_iret (pc := 50) C d_Sat_choose_50 ⟨rfl, rfl⟩ (Nat.le_refl _) (Nat.le_refl _)
set_option maxHeartbeats 4000000 in
set_option maxRecDepth 100000 in
theorem oC_Sat_choose_p77 (l : Launch) (D : va_G) (kA : Nat → ClassId) (u w : Nat → Nat) (tx : Value) (rec : mF) (ih : ∀ t σ xs res, rec t σ xs = some res → cSem l D kA u w tx t σ xs res) (σ : mS) (xs : List Int32) (res : mR) (h : u_3 (kC_Sat_choose_p77 rec σ) xs = some res) : sC_Sat_choose_p77 l D kA u w tx σ xs res := by
  intro x0 x1 x2 hxs
  subst hxs
  obtain ⟨σf, rf, dd⟩ := res
  have h : (rec tC_Sat_choose_p79 σ [x0, x2, x2]) = some (σf, rf, dd) := h
  intro p e s m args below meth c F Lo σ0 hF hLo C
  dsimp only at hF hLo ⊢
  refine ax_iload_n (pc := 77) C d_Sat_choose_77 rfl 3 rfl ?_
  refine ax_istore_n (pc := 78) C d_Sat_choose_78 rfl (Nat.le_of_ble_eq_true rfl) ([(2, .int x2), (0, .ref (u 53)), (1, .int x0), (3, .int x2)]) rfl ?_
  refine ax_ls ([(0, .ref (u 53)), (1, .int x0), (2, .int x2), (3, .int x2)]) [1, 2, 0, 3] rfl ?_
  have hm : sC_Sat_choose_p79 l D kA u w tx σ [x0, x2, x2] (σf, rf, _) := ih tC_Sat_choose_p79 _ _ _ h
  exact hm _ _ _ rfl p e s m args below meth c F Lo σ0 hF hLo C
set_option maxHeartbeats 4000000 in
set_option maxRecDepth 100000 in
theorem oC_Sat_choose_p79 (l : Launch) (D : va_G) (kA : Nat → ClassId) (u w : Nat → Nat) (tx : Value) (rec : mF) (ih : ∀ t σ xs res, rec t σ xs = some res → cSem l D kA u w tx t σ xs res) (σ : mS) (xs : List Int32) (res : mR) (h : u_3 (kC_Sat_choose_p79 rec σ) xs = some res) : sC_Sat_choose_p79 l D kA u w tx σ xs res := by
  intro x0 x1 x2 hxs
  subst hxs
  obtain ⟨σf, rf, dd⟩ := res
  have h : (rec tC_Sat_choose_p21 σ [x0, x1, (x2 + 1)]) = some (σf, rf, dd) := h
  intro p e s m args below meth c F Lo σ0 hF hLo C
  dsimp only at hF hLo ⊢
  refine ax_iinc (pc := 79) C (x2 + 1) d_Sat_choose_79 3 rfl rfl (Nat.le_of_ble_eq_true rfl) ([(3, .int (x2 + 1)), (0, .ref (u 53)), (1, .int x0), (2, .int x1)]) rfl ?_
  refine ax_goto (pc := 82) C 21 d_Sat_choose_82 (by decide) ?_
  refine ax_ls ([(0, .ref (u 53)), (1, .int x0), (2, .int x1), (3, .int (x2 + 1))]) [1, 2, 3, 0] rfl ?_
  have hm : sC_Sat_choose_p21 l D kA u w tx σ [x0, x1, (x2 + 1)] (σf, rf, _) := ih tC_Sat_choose_p21 _ _ _ h
  exact hm _ _ _ rfl p e s m args below meth c F Lo σ0 hF hLo C
set_option maxHeartbeats 4000000 in
set_option maxRecDepth 100000 in
theorem oC_Sat_clear (l : Launch) (D : va_G) (kA : Nat → ClassId) (u w : Nat → Nat) (tx : Value) (rec : mF) (ih : ∀ t σ xs res, rec t σ xs = some res → cSem l D kA u w tx t σ xs res) (σ : mS) (xs : List Int32) (res : mR) (h : u_0 (kC_Sat_clear rec σ) xs = some res) : sC_Sat_clear l D kA u w tx σ xs res := by
  intro hxs
  subst hxs
  obtain ⟨σf, rf, dd⟩ := res
  have h : (lt_ (mI σ 5300 0) (fun σ1 => lt_ (mI σ1 5301 0) (fun σ2 => lt_ (mI σ2 5302 0) (fun σ3 => lt_ (mI σ3 5303 0) (fun σ4 => lt_ (mI σ4 5304 0) (fun σ5 => lt_ (mI σ5 5305 0) (fun σ6 => lt_ (mI σ6 5306 0) (fun σ7 => lt_ (mI σ7 5501 0) (fun σ8 => some (σ8, 0, 0)))))))))) = some (σf, rf, dd) := h
  refine ax_Mv.of (by decide +kernel) (Nat.le_of_ble_eq_true rfl) ?_
  intro p e s m args below meth c C hnm
  have C : ax_C p s m args meth c b_Sat_clear "ClauseProver$Saturation" 1 none D kA (va_A (cpW kA u w tx σ) s.heap.size) := C
  obtain ⟨F, hFe⟩ : ∃ F, F = dd + 1 := ⟨_, rfl⟩
  obtain ⟨Lo, hLoe⟩ : ∃ Lo, Lo = 48 * dd + 48 := ⟨_, rfl⟩
  obtain ⟨σ0, hσ0⟩ : ∃ s0, s0 = σ := ⟨_, rfl⟩
  suffices K : AW p l e { frames := F, cells := 0, slots := 0, locals := Lo } s m args below meth c D kA (va_A (cpW kA u w tx σ0) s.heap.size) 1 (ax_Qv below args s D kA (cpW kA u w tx σ0) 0 0 (fun w1 => w1 = cpW kA u w tx σf)) 0 [(0, .ref (u 53))] [] (cpW kA u w tx σ) 0 0 by rw [hFe, hLoe, hσ0] at K; exact ax_ls ([(0, .ref (u 53))]) [0] rfl K
  have C : ax_C p s m args meth c b_Sat_clear "ClauseProver$Saturation" 1 none D kA (va_A (cpW kA u w tx σ0) s.heap.size) := by rw [hσ0]; exact C
  have hF : dd + 1 ≤ F := by omega
  have hLo : 48 * dd + 48 ≤ Lo := by omega
  clear hFe hLoe hσ0
  refine ax_aload_n (pc := 0) C d_Sat_clear_0 rfl 0 rfl ?_
  refine ax_iconst (pc := 1) C 0 d_Sat_clear_1 (by decide +kernel) ?_
  refine cq_53_0_Sat_58 (pc := 2) C d_Sat_clear_2 ?_
  have h := it_l h
  generalize mI σ 5300 0 = σ1 at h ⊢
  refine ax_aload_n (pc := 5) C d_Sat_clear_5 rfl 0 rfl ?_
  refine ax_iconst (pc := 6) C 0 d_Sat_clear_6 (by decide +kernel) ?_
  refine cq_53_1_Sat_62 (pc := 7) C d_Sat_clear_7 ?_
  have h := it_l h
  generalize mI σ1 5301 0 = σ2 at h ⊢
  refine ax_aload_n (pc := 10) C d_Sat_clear_10 rfl 0 rfl ?_
  refine ax_iconst (pc := 11) C 0 d_Sat_clear_11 (by decide +kernel) ?_
  refine cq_53_2_Sat_65 (pc := 12) C d_Sat_clear_12 ?_
  have h := it_l h
  generalize mI σ2 5302 0 = σ3 at h ⊢
  refine ax_aload_n (pc := 15) C d_Sat_clear_15 rfl 0 rfl ?_
  refine ax_iconst (pc := 16) C 0 d_Sat_clear_16 (by decide +kernel) ?_
  refine cq_53_3_Sat_68 (pc := 17) C d_Sat_clear_17 ?_
  have h := it_l h
  generalize mI σ3 5303 0 = σ4 at h ⊢
  refine ax_aload_n (pc := 20) C d_Sat_clear_20 rfl 0 rfl ?_
  refine ax_iconst (pc := 21) C 0 d_Sat_clear_21 (by decide +kernel) ?_
  refine cq_53_4_Sat_71 (pc := 22) C d_Sat_clear_22 ?_
  have h := it_l h
  generalize mI σ4 5304 0 = σ5 at h ⊢
  refine ax_aload_n (pc := 25) C d_Sat_clear_25 rfl 0 rfl ?_
  refine ax_iconst (pc := 26) C 0 d_Sat_clear_26 (by decide +kernel) ?_
  refine cq_53_5_Sat_74 (pc := 27) C d_Sat_clear_27 ?_
  have h := it_l h
  generalize mI σ5 5305 0 = σ6 at h ⊢
  refine ax_aload_n (pc := 30) C d_Sat_clear_30 rfl 0 rfl ?_
  refine ax_iconst (pc := 31) C 0 d_Sat_clear_31 (by decide +kernel) ?_
  refine cq_53_6_Sat_77 (pc := 32) C d_Sat_clear_32 ?_
  have h := it_l h
  generalize mI σ6 5306 0 = σ7 at h ⊢
  refine ax_aload_n (pc := 35) C d_Sat_clear_35 rfl 0 rfl ?_
  refine cg_53_7_Sat_14 (pc := 36) C d_Sat_clear_36 ?_
  refine ax_iconst (pc := 39) C 0 d_Sat_clear_39 (by decide +kernel) ?_
  refine cq_55_1_Sat_80 (pc := 40) C d_Sat_clear_40 ?_
  have h := it_l h
  generalize mI σ7 5501 0 = σ8 at h ⊢
  cases h
  exact ax_vret (pc := 43) C d_Sat_clear_43 rfl (Nat.le_refl _) (Nat.le_refl _)
set_option maxHeartbeats 4000000 in
set_option maxRecDepth 100000 in
theorem oC_Sat_clearAway (l : Launch) (D : va_G) (kA : Nat → ClassId) (u w : Nat → Nat) (tx : Value) (rec : mF) (ih : ∀ t σ xs res, rec t σ xs = some res → cSem l D kA u w tx t σ xs res) (σ : mS) (xs : List Int32) (res : mR) (h : u_1 (kC_Sat_clearAway rec σ) xs = some res) : sC_Sat_clearAway l D kA u w tx σ xs res := by
  intro x0 hxs
  subst hxs
  obtain ⟨σf, rf, dd⟩ := res
  have h : (bnd (rec tC_Sat_isSingle σ [x0]) (fun σ1 r1 => rec tC_Sat_clearAway_p8 σ1 [x0, r1, 0])) = some (σf, rf, dd) := h
  refine ax_Mv.of (by decide +kernel) (Nat.le_of_ble_eq_true rfl) ?_
  intro p e s m args below meth c C hnm
  have C : ax_C p s m args meth c b_Sat_clearAway "ClauseProver$Saturation" 4 none D kA (va_A (cpW kA u w tx σ) s.heap.size) := C
  obtain ⟨F, hFe⟩ : ∃ F, F = dd + 1 := ⟨_, rfl⟩
  obtain ⟨Lo, hLoe⟩ : ∃ Lo, Lo = 48 * dd + 48 := ⟨_, rfl⟩
  obtain ⟨σ0, hσ0⟩ : ∃ s0, s0 = σ := ⟨_, rfl⟩
  suffices K : AW p l e { frames := F, cells := 0, slots := 0, locals := Lo } s m args below meth c D kA (va_A (cpW kA u w tx σ0) s.heap.size) 4 (ax_Qv below args s D kA (cpW kA u w tx σ0) 0 0 (fun w1 => w1 = cpW kA u w tx σf)) 0 [(0, .ref (u 53)), (1, .int x0)] [] (cpW kA u w tx σ) 0 0 by rw [hFe, hLoe, hσ0] at K; exact ax_ls ([(0, .ref (u 53)), (1, .int x0)]) [0, 1] rfl K
  have C : ax_C p s m args meth c b_Sat_clearAway "ClauseProver$Saturation" 4 none D kA (va_A (cpW kA u w tx σ0) s.heap.size) := by rw [hσ0]; exact C
  have hF : dd + 1 ≤ F := by omega
  have hLo : 48 * dd + 48 ≤ Lo := by omega
  clear hFe hLoe hσ0
  refine ax_aload_n (pc := 0) C d_Sat_clearAway_0 rfl 0 rfl ?_
  refine ax_iload_n (pc := 1) C d_Sat_clearAway_1 rfl 1 rfl ?_
  obtain ⟨σ1, r1, d1_1, d2_1, h1, h, hd2, hd1⟩ := it_b h
  have hm : sC_Sat_isSingle l D kA u w tx σ [x0] (σ1, r1, d1_1) := ih tC_Sat_isSingle _ _ _ h1
  refine cc_Vi (pc := 2) C (r0 := r1) (σ2 := σ1) (As := [.int x0]) (rest := []) (hm _ rfl) ml_Sat_145 53 rfl rfl rfl d_Sat_clearAway_2 rfl rfl (by dsimp only; omega) (by dsimp only; omega) (Nat.le_of_ble_eq_true rfl) (Nat.le_of_ble_eq_true rfl) (Nat.le_of_ble_eq_true rfl) ?_
  have hF : d2_1 + 1 ≤ F := by omega
  have hLo : 48 * d2_1 + 48 ≤ Lo := by omega
  refine ax_istore_n (pc := 5) C d_Sat_clearAway_5 rfl (Nat.le_of_ble_eq_true rfl) ([(2, .int r1), (0, .ref (u 53)), (1, .int x0)]) rfl ?_
  refine ax_iconst (pc := 6) C 0 d_Sat_clearAway_6 (by decide +kernel) ?_
  refine ax_istore_n (pc := 7) C d_Sat_clearAway_7 rfl (Nat.le_of_ble_eq_true rfl) ([(3, .int 0), (2, .int r1), (0, .ref (u 53)), (1, .int x0)]) rfl ?_
  refine ax_ls ([(0, .ref (u 53)), (1, .int x0), (2, .int r1), (3, .int 0)]) [2, 3, 1, 0] rfl ?_
  have hm : sC_Sat_clearAway_p8 l D kA u w tx σ1 [x0, r1, 0] (σf, rf, _) := ih tC_Sat_clearAway_p8 _ _ _ h
  exact hm _ _ _ rfl p e s m args below meth c F Lo σ0 hF hLo C
set_option maxHeartbeats 4000000 in
set_option maxRecDepth 100000 in
theorem oC_Sat_clearAway_p8 (l : Launch) (D : va_G) (kA : Nat → ClassId) (u w : Nat → Nat) (tx : Value) (rec : mF) (ih : ∀ t σ xs res, rec t σ xs = some res → cSem l D kA u w tx t σ xs res) (σ : mS) (xs : List Int32) (res : mR) (h : u_3 (kC_Sat_clearAway_p8 rec σ) xs = some res) : sC_Sat_clearAway_p8 l D kA u w tx σ xs res := by
  intro x0 x1 x2 hxs
  subst hxs
  obtain ⟨σf, rf, dd⟩ := res
  have h : (if (σ.1 5402) ≤ x2 then (some (σ, 0, 0)) else (bnd (rec tC_Sat_isProcessed σ [x2]) (fun σ1 r1 => if r1 = 0 then (rec tC_Sat_clearAway_p90 σ1 [x0, x1, x2]) else (bnd (rec tC_Mat_subsumes σ1 [x0, x2]) (fun σ2 r2 => if r2 = 0 then (if x1 = 0 then (rec tC_Sat_clearAway_p90 σ2 [x0, x1, x2]) else (bnd (rec tC_Mat_rewritesIn σ2 [x0, x2]) (fun σ3 r3 => if r3 = 0 then (rec tC_Sat_clearAway_p90 σ3 [x0, x1, x2]) else (bnd (rec tC_Sto_setFact σ3 [x2, 6, 0]) (fun σ4 r4 => rec tC_Sat_clearAway_p90 σ4 [x0, x1, x2]))))) else (bnd (rec tC_Sto_setFact σ2 [x2, 6, 2]) (fun σ5 r5 => lt_ (mI σ5 5304 (((σ5.1 5304) : Int32) + 1)) (fun σ6 => rec tC_Sat_clearAway_p90 σ6 [x0, x1, x2])))))))) = some (σf, rf, dd) := h
  intro p e s m args below meth c F Lo σ0 hF hLo C
  dsimp only at hF hLo ⊢
  refine ax_iload_n (pc := 8) C d_Sat_clearAway_8 rfl 3 rfl ?_
  refine ax_aload_n (pc := 9) C d_Sat_clearAway_9 rfl 0 rfl ?_
  refine cg_53_9_Sat_27 (pc := 10) C d_Sat_clearAway_10 ?_
  refine cg_54_2_Sat_112 (pc := 13) C d_Sat_clearAway_13 ?_
  refine ax_icmp_ge (pc := 16) C 96 d_Sat_clearAway_16 (by decide) (fun hc => ?_) (fun hc => ?_)
  · have h := it_t hc h
    cases h
    exact ax_vret (pc := 96) C d_Sat_clearAway_96 rfl (Nat.le_refl _) (Nat.le_refl _)
  · have h := it_f hc h
    refine ax_aload_n (pc := 19) C d_Sat_clearAway_19 rfl 0 rfl ?_
    refine ax_iload_n (pc := 20) C d_Sat_clearAway_20 rfl 3 rfl ?_
    obtain ⟨σ1, r1, d1_1, d2_1, h1, h, hd2, hd1⟩ := it_b h
    have hm : sC_Sat_isProcessed l D kA u w tx σ [x2] (σ1, r1, d1_1) := ih tC_Sat_isProcessed _ _ _ h1
    refine cc_Vi (pc := 21) C (r0 := r1) (σ2 := σ1) (As := [.int x2]) (rest := []) (hm _ rfl) ml_Sat_142 53 rfl rfl rfl d_Sat_clearAway_21 rfl rfl (by dsimp only; omega) (by dsimp only; omega) (Nat.le_of_ble_eq_true rfl) (Nat.le_of_ble_eq_true rfl) (Nat.le_of_ble_eq_true rfl) ?_
    have hF : d2_1 + 1 ≤ F := by omega
    have hLo : 48 * d2_1 + 48 ≤ Lo := by omega
    refine ax_if_eq (pc := 24) C 90 d_Sat_clearAway_24 (by decide) (fun hc => ?_) (fun hc => ?_)
    · have h := it_t hc h
      refine ax_ls ([(0, .ref (u 53)), (1, .int x0), (2, .int x1), (3, .int x2)]) [0, 1, 2, 3] rfl ?_
      have hm : sC_Sat_clearAway_p90 l D kA u w tx σ1 [x0, x1, x2] (σf, rf, _) := ih tC_Sat_clearAway_p90 _ _ _ h
      exact hm _ _ _ rfl p e s m args below meth c F Lo σ0 hF hLo C
    · have h := it_f hc h
      refine ax_aload_n (pc := 27) C d_Sat_clearAway_27 rfl 0 rfl ?_
      refine cg_53_12_Sat_54 (pc := 28) C d_Sat_clearAway_28 ?_
      refine ax_iload_n (pc := 31) C d_Sat_clearAway_31 rfl 1 rfl ?_
      refine ax_iload_n (pc := 32) C d_Sat_clearAway_32 rfl 3 rfl ?_
      obtain ⟨σ2, r2, d1_2, d2_2, h1, h, hd2, hd1⟩ := it_b h
      have hm : sC_Mat_subsumes l D kA u w tx σ1 [x0, x2] (σ2, r2, d1_2) := ih tC_Mat_subsumes _ _ _ h1
      refine cc_Vi (pc := 33) C (r0 := r2) (σ2 := σ2) (As := [.int x0, .int x2]) (rest := []) (hm _ _ rfl) ml_Sat_168 66 rfl rfl rfl d_Sat_clearAway_33 rfl rfl (by dsimp only; omega) (by dsimp only; omega) (Nat.le_of_ble_eq_true rfl) (Nat.le_of_ble_eq_true rfl) (Nat.le_of_ble_eq_true rfl) ?_
      have hF : d2_2 + 1 ≤ F := by omega
      have hLo : 48 * d2_2 + 48 ≤ Lo := by omega
      refine ax_if_eq (pc := 36) C 63 d_Sat_clearAway_36 (by decide) (fun hc => ?_) (fun hc => ?_)
      · have h := it_t hc h
        refine ax_iload_n (pc := 63) C d_Sat_clearAway_63 rfl 2 rfl ?_
        refine ax_if_eq (pc := 64) C 90 d_Sat_clearAway_64 (by decide) (fun hc => ?_) (fun hc => ?_)
        · have h := it_t hc h
          refine ax_ls ([(0, .ref (u 53)), (1, .int x0), (2, .int x1), (3, .int x2)]) [0, 1, 2, 3] rfl ?_
          have hm : sC_Sat_clearAway_p90 l D kA u w tx σ2 [x0, x1, x2] (σf, rf, _) := ih tC_Sat_clearAway_p90 _ _ _ h
          exact hm _ _ _ rfl p e s m args below meth c F Lo σ0 hF hLo C
        · have h := it_f hc h
          refine ax_aload_n (pc := 67) C d_Sat_clearAway_67 rfl 0 rfl ?_
          refine cg_53_12_Sat_54 (pc := 68) C d_Sat_clearAway_68 ?_
          refine ax_iload_n (pc := 71) C d_Sat_clearAway_71 rfl 1 rfl ?_
          refine ax_iload_n (pc := 72) C d_Sat_clearAway_72 rfl 3 rfl ?_
          obtain ⟨σ3, r3, d1_3, d2_3, h1, h, hd2, hd1⟩ := it_b h
          have hm : sC_Mat_rewritesIn l D kA u w tx σ2 [x0, x2] (σ3, r3, d1_3) := ih tC_Mat_rewritesIn _ _ _ h1
          refine cc_Vi (pc := 73) C (r0 := r3) (σ2 := σ3) (As := [.int x0, .int x2]) (rest := []) (hm _ _ rfl) ml_Sat_172 66 rfl rfl rfl d_Sat_clearAway_73 rfl rfl (by dsimp only; omega) (by dsimp only; omega) (Nat.le_of_ble_eq_true rfl) (Nat.le_of_ble_eq_true rfl) (Nat.le_of_ble_eq_true rfl) ?_
          have hF : d2_3 + 1 ≤ F := by omega
          have hLo : 48 * d2_3 + 48 ≤ Lo := by omega
          refine ax_if_eq (pc := 76) C 90 d_Sat_clearAway_76 (by decide) (fun hc => ?_) (fun hc => ?_)
          · have h := it_t hc h
            refine ax_ls ([(0, .ref (u 53)), (1, .int x0), (2, .int x1), (3, .int x2)]) [0, 1, 2, 3] rfl ?_
            have hm : sC_Sat_clearAway_p90 l D kA u w tx σ3 [x0, x1, x2] (σf, rf, _) := ih tC_Sat_clearAway_p90 _ _ _ h
            exact hm _ _ _ rfl p e s m args below meth c F Lo σ0 hF hLo C
          · have h := it_f hc h
            refine ax_aload_n (pc := 79) C d_Sat_clearAway_79 rfl 0 rfl ?_
            refine cg_53_9_Sat_27 (pc := 80) C d_Sat_clearAway_80 ?_
            refine ax_iload_n (pc := 83) C d_Sat_clearAway_83 rfl 3 rfl ?_
            refine ax_bipush (pc := 84) C 6 d_Sat_clearAway_84 (by decide +kernel) ?_
            refine ax_iconst (pc := 86) C 0 d_Sat_clearAway_86 (by decide +kernel) ?_
            obtain ⟨σ4, r4, d1_4, d2_4, h1, h, hd2, hd1⟩ := it_b h
            have hm : sC_Sto_setFact l D kA u w tx σ3 [x2, 6, 0] (σ4, r4, d1_4) := ih tC_Sto_setFact _ _ _ h1
            refine cc_Vv (pc := 87) C (σ2 := σ4) (As := [.int x2, .int 6, .int 0]) (rest := []) (hm _ _ _ rfl) ml_Sat_87 54 rfl rfl rfl d_Sat_clearAway_87 rfl rfl (by dsimp only; omega) (by dsimp only; omega) (Nat.le_of_ble_eq_true rfl) (Nat.le_of_ble_eq_true rfl) (Nat.le_of_ble_eq_true rfl) ?_
            have hF : d2_4 + 1 ≤ F := by omega
            have hLo : 48 * d2_4 + 48 ≤ Lo := by omega
            refine ax_ls ([(0, .ref (u 53)), (1, .int x0), (2, .int x1), (3, .int x2)]) [0, 1, 2, 3] rfl ?_
            have hm : sC_Sat_clearAway_p90 l D kA u w tx σ4 [x0, x1, x2] (σf, rf, _) := ih tC_Sat_clearAway_p90 _ _ _ h
            exact hm _ _ _ rfl p e s m args below meth c F Lo σ0 hF hLo C
      · have h := it_f hc h
        refine ax_aload_n (pc := 39) C d_Sat_clearAway_39 rfl 0 rfl ?_
        refine cg_53_9_Sat_27 (pc := 40) C d_Sat_clearAway_40 ?_
        refine ax_iload_n (pc := 43) C d_Sat_clearAway_43 rfl 3 rfl ?_
        refine ax_bipush (pc := 44) C 6 d_Sat_clearAway_44 (by decide +kernel) ?_
        refine ax_iconst (pc := 46) C 2 d_Sat_clearAway_46 (by decide +kernel) ?_
        obtain ⟨σ5, r5, d1_5, d2_5, h1, h, hd2, hd1⟩ := it_b h
        have hm : sC_Sto_setFact l D kA u w tx σ2 [x2, 6, 2] (σ5, r5, d1_5) := ih tC_Sto_setFact _ _ _ h1
        refine cc_Vv (pc := 47) C (σ2 := σ5) (As := [.int x2, .int 6, .int 2]) (rest := []) (hm _ _ _ rfl) ml_Sat_87 54 rfl rfl rfl d_Sat_clearAway_47 rfl rfl (by dsimp only; omega) (by dsimp only; omega) (Nat.le_of_ble_eq_true rfl) (Nat.le_of_ble_eq_true rfl) (Nat.le_of_ble_eq_true rfl) ?_
        have hF : d2_5 + 1 ≤ F := by omega
        have hLo : 48 * d2_5 + 48 ≤ Lo := by omega
        refine ax_aload_n (pc := 50) C d_Sat_clearAway_50 rfl 0 rfl ?_
        refine ax_dup (pc := 51) C d_Sat_clearAway_51 rfl ?_
        refine cg_53_4_Sat_71 (pc := 52) C d_Sat_clearAway_52 ?_
        refine ax_iconst (pc := 55) C 1 d_Sat_clearAway_55 (by decide +kernel) ?_
        refine ax_iadd (pc := 56) C d_Sat_clearAway_56 ?_
        refine cq_53_4_Sat_71 (pc := 57) C d_Sat_clearAway_57 ?_
        have h := it_l h
        generalize mI σ5 5304 (((σ5.1 5304) : Int32) + 1) = σ6 at h ⊢
        refine ax_goto (pc := 60) C 90 d_Sat_clearAway_60 (by decide) ?_
        refine ax_ls ([(0, .ref (u 53)), (1, .int x0), (2, .int x1), (3, .int x2)]) [0, 1, 2, 3] rfl ?_
        have hm : sC_Sat_clearAway_p90 l D kA u w tx σ6 [x0, x1, x2] (σf, rf, _) := ih tC_Sat_clearAway_p90 _ _ _ h
        exact hm _ _ _ rfl p e s m args below meth c F Lo σ0 hF hLo C
set_option maxHeartbeats 4000000 in
set_option maxRecDepth 100000 in
theorem oC_Sat_clearAway_p90 (l : Launch) (D : va_G) (kA : Nat → ClassId) (u w : Nat → Nat) (tx : Value) (rec : mF) (ih : ∀ t σ xs res, rec t σ xs = some res → cSem l D kA u w tx t σ xs res) (σ : mS) (xs : List Int32) (res : mR) (h : u_3 (kC_Sat_clearAway_p90 rec σ) xs = some res) : sC_Sat_clearAway_p90 l D kA u w tx σ xs res := by
  intro x0 x1 x2 hxs
  subst hxs
  obtain ⟨σf, rf, dd⟩ := res
  have h : (rec tC_Sat_clearAway_p8 σ [x0, x1, (x2 + 1)]) = some (σf, rf, dd) := h
  intro p e s m args below meth c F Lo σ0 hF hLo C
  dsimp only at hF hLo ⊢
  refine ax_iinc (pc := 90) C (x2 + 1) d_Sat_clearAway_90 3 rfl rfl (Nat.le_of_ble_eq_true rfl) ([(3, .int (x2 + 1)), (0, .ref (u 53)), (1, .int x0), (2, .int x1)]) rfl ?_
  refine ax_goto (pc := 93) C 8 d_Sat_clearAway_93 (by decide) ?_
  refine ax_ls ([(0, .ref (u 53)), (1, .int x0), (2, .int x1), (3, .int (x2 + 1))]) [1, 2, 3, 0] rfl ?_
  have hm : sC_Sat_clearAway_p8 l D kA u w tx σ [x0, x1, (x2 + 1)] (σf, rf, _) := ih tC_Sat_clearAway_p8 _ _ _ h
  exact hm _ _ _ rfl p e s m args below meth c F Lo σ0 hF hLo C
set_option maxHeartbeats 4000000 in
set_option maxRecDepth 100000 in
theorem oC_Sat_isProcessed (l : Launch) (D : va_G) (kA : Nat → ClassId) (u w : Nat → Nat) (tx : Value) (rec : mF) (ih : ∀ t σ xs res, rec t σ xs = some res → cSem l D kA u w tx t σ xs res) (σ : mS) (xs : List Int32) (res : mR) (h : u_1 (kC_Sat_isProcessed rec σ) xs = some res) : sC_Sat_isProcessed l D kA u w tx σ xs res := by
  intro x0 hxs
  subst hxs
  obtain ⟨σf, rf, dd⟩ := res
  have h : (bnd (rec tC_Sto_fact σ [x0, 6]) (fun σ1 r1 => if r1 = 1 then (rec tC_Sat_isProcessed_p19 σ1 [x0, 1]) else (rec tC_Sat_isProcessed_p19 σ1 [x0, 0]))) = some (σf, rf, dd) := h
  refine ax_Mi.of (by decide +kernel) (Nat.le_of_ble_eq_true rfl) ?_
  intro p e s m args below meth c C hnm
  have C : ax_C p s m args meth c b_Sat_isProcessed "ClauseProver$Saturation" 2 (some .boolean) D kA (va_A (cpW kA u w tx σ) s.heap.size) := C
  obtain ⟨F, hFe⟩ : ∃ F, F = dd + 1 := ⟨_, rfl⟩
  obtain ⟨Lo, hLoe⟩ : ∃ Lo, Lo = 48 * dd + 48 := ⟨_, rfl⟩
  obtain ⟨σ0, hσ0⟩ : ∃ s0, s0 = σ := ⟨_, rfl⟩
  suffices K : AW p l e { frames := F, cells := 0, slots := 0, locals := Lo } s m args below meth c D kA (va_A (cpW kA u w tx σ0) s.heap.size) 2 (ax_Qi below args s D kA (cpW kA u w tx σ0) 0 0 (fun r w1 => r = rf ∧ w1 = cpW kA u w tx σf)) 0 [(0, .ref (u 53)), (1, .int x0)] [] (cpW kA u w tx σ) 0 0 by rw [hFe, hLoe, hσ0] at K; exact ax_ls ([(0, .ref (u 53)), (1, .int x0)]) [0, 1] rfl K
  have C : ax_C p s m args meth c b_Sat_isProcessed "ClauseProver$Saturation" 2 (some .boolean) D kA (va_A (cpW kA u w tx σ0) s.heap.size) := by rw [hσ0]; exact C
  have hF : dd + 1 ≤ F := by omega
  have hLo : 48 * dd + 48 ≤ Lo := by omega
  clear hFe hLoe hσ0
  refine ax_aload_n (pc := 0) C d_Sat_isProcessed_0 rfl 0 rfl ?_
  refine cg_53_9_Sat_27 (pc := 1) C d_Sat_isProcessed_1 ?_
  refine ax_iload_n (pc := 4) C d_Sat_isProcessed_4 rfl 1 rfl ?_
  refine ax_bipush (pc := 5) C 6 d_Sat_isProcessed_5 (by decide +kernel) ?_
  obtain ⟨σ1, r1, d1_1, d2_1, h1, h, hd2, hd1⟩ := it_b h
  have hm : sC_Sto_fact l D kA u w tx σ [x0, 6] (σ1, r1, d1_1) := ih tC_Sto_fact _ _ _ h1
  refine cc_Vi (pc := 7) C (r0 := r1) (σ2 := σ1) (As := [.int x0, .int 6]) (rest := []) (hm _ _ rfl) ml_Sat_91 54 rfl rfl rfl d_Sat_isProcessed_7 rfl rfl (by dsimp only; omega) (by dsimp only; omega) (Nat.le_of_ble_eq_true rfl) (Nat.le_of_ble_eq_true rfl) (Nat.le_of_ble_eq_true rfl) ?_
  have hF : d2_1 + 1 ≤ F := by omega
  have hLo : 48 * d2_1 + 48 ≤ Lo := by omega
  refine ax_iconst (pc := 10) C 1 d_Sat_isProcessed_10 (by decide +kernel) ?_
  refine ax_icmp_ne (pc := 11) C 18 d_Sat_isProcessed_11 (by decide) (fun hc => ?_) (fun hc => ?_)
  · have h := it_f hc h
    refine ax_iconst (pc := 18) C 0 d_Sat_isProcessed_18 (by decide +kernel) ?_
    refine ax_ls ([(0, .ref (u 53)), (1, .int x0)]) [0, 1] rfl ?_
    have hm : sC_Sat_isProcessed_p19 l D kA u w tx σ1 [x0, 0] (σf, rf, _) := ih tC_Sat_isProcessed_p19 _ _ _ h
    exact hm _ _ rfl p e s m args below meth c F Lo σ0 hF hLo C
  · have h := it_t hc h
    refine ax_iconst (pc := 14) C 1 d_Sat_isProcessed_14 (by decide +kernel) ?_
    refine ax_goto (pc := 15) C 19 d_Sat_isProcessed_15 (by decide) ?_
    refine ax_ls ([(0, .ref (u 53)), (1, .int x0)]) [0, 1] rfl ?_
    have hm : sC_Sat_isProcessed_p19 l D kA u w tx σ1 [x0, 1] (σf, rf, _) := ih tC_Sat_isProcessed_p19 _ _ _ h
    exact hm _ _ rfl p e s m args below meth c F Lo σ0 hF hLo C
set_option maxHeartbeats 4000000 in
set_option maxRecDepth 100000 in
theorem oC_Sat_isProcessed_p19 (l : Launch) (D : va_G) (kA : Nat → ClassId) (u w : Nat → Nat) (tx : Value) (rec : mF) (ih : ∀ t σ xs res, rec t σ xs = some res → cSem l D kA u w tx t σ xs res) (σ : mS) (xs : List Int32) (res : mR) (h : u_2 (kC_Sat_isProcessed_p19 rec σ) xs = some res) : sC_Sat_isProcessed_p19 l D kA u w tx σ xs res := by
  intro x0 x1 hxs
  subst hxs
  obtain ⟨σf, rf, dd⟩ := res
  have h : (if x1 = 0 ∨ x1 = 1 then some (σ, x1, 0) else none) = some (σf, rf, dd) := h
  intro p e s m args below meth c F Lo σ0 hF hLo C
  dsimp only at hF hLo ⊢
  obtain ⟨hb, h⟩ := it_g h
  cases h
  exact ax_zret (pc := 19) C d_Sat_isProcessed_19 (nb01 hb) ⟨rfl, rfl⟩ (Nat.le_refl _) (Nat.le_refl _)
set_option maxHeartbeats 4000000 in
set_option maxRecDepth 100000 in
theorem oC_Sat_isSingle (l : Launch) (D : va_G) (kA : Nat → ClassId) (u w : Nat → Nat) (tx : Value) (rec : mF) (ih : ∀ t σ xs res, rec t σ xs = some res → cSem l D kA u w tx t σ xs res) (σ : mS) (xs : List Int32) (res : mR) (h : u_1 (kC_Sat_isSingle rec σ) xs = some res) : sC_Sat_isSingle l D kA u w tx σ xs res := by
  intro x0 hxs
  subst hxs
  obtain ⟨σf, rf, dd⟩ := res
  have h : (bnd (rec tC_Sto_fact σ [x0, 3]) (fun σ1 r1 => if r1 = 1 then (bnd (rec tC_Sto_fact σ1 [x0, 8]) (fun σ2 r2 => bnd (rec tC_Sto_isPositive σ2 [r2]) (fun σ3 r3 => if r3 = 0 then (rec tC_Sat_isSingle_p37 σ3 [x0]) else (rec tC_Sat_isSingle_p38 σ3 [x0, 1])))) else (rec tC_Sat_isSingle_p37 σ1 [x0]))) = some (σf, rf, dd) := h
  refine ax_Mi.of (by decide +kernel) (Nat.le_of_ble_eq_true rfl) ?_
  intro p e s m args below meth c C hnm
  have C : ax_C p s m args meth c b_Sat_isSingle "ClauseProver$Saturation" 2 (some .boolean) D kA (va_A (cpW kA u w tx σ) s.heap.size) := C
  obtain ⟨F, hFe⟩ : ∃ F, F = dd + 1 := ⟨_, rfl⟩
  obtain ⟨Lo, hLoe⟩ : ∃ Lo, Lo = 48 * dd + 48 := ⟨_, rfl⟩
  obtain ⟨σ0, hσ0⟩ : ∃ s0, s0 = σ := ⟨_, rfl⟩
  suffices K : AW p l e { frames := F, cells := 0, slots := 0, locals := Lo } s m args below meth c D kA (va_A (cpW kA u w tx σ0) s.heap.size) 2 (ax_Qi below args s D kA (cpW kA u w tx σ0) 0 0 (fun r w1 => r = rf ∧ w1 = cpW kA u w tx σf)) 0 [(0, .ref (u 53)), (1, .int x0)] [] (cpW kA u w tx σ) 0 0 by rw [hFe, hLoe, hσ0] at K; exact ax_ls ([(0, .ref (u 53)), (1, .int x0)]) [0, 1] rfl K
  have C : ax_C p s m args meth c b_Sat_isSingle "ClauseProver$Saturation" 2 (some .boolean) D kA (va_A (cpW kA u w tx σ0) s.heap.size) := by rw [hσ0]; exact C
  have hF : dd + 1 ≤ F := by omega
  have hLo : 48 * dd + 48 ≤ Lo := by omega
  clear hFe hLoe hσ0
  refine ax_aload_n (pc := 0) C d_Sat_isSingle_0 rfl 0 rfl ?_
  refine cg_53_9_Sat_27 (pc := 1) C d_Sat_isSingle_1 ?_
  refine ax_iload_n (pc := 4) C d_Sat_isSingle_4 rfl 1 rfl ?_
  refine ax_iconst (pc := 5) C 3 d_Sat_isSingle_5 (by decide +kernel) ?_
  obtain ⟨σ1, r1, d1_1, d2_1, h1, h, hd2, hd1⟩ := it_b h
  have hm : sC_Sto_fact l D kA u w tx σ [x0, 3] (σ1, r1, d1_1) := ih tC_Sto_fact _ _ _ h1
  refine cc_Vi (pc := 6) C (r0 := r1) (σ2 := σ1) (As := [.int x0, .int 3]) (rest := []) (hm _ _ rfl) ml_Sat_91 54 rfl rfl rfl d_Sat_isSingle_6 rfl rfl (by dsimp only; omega) (by dsimp only; omega) (Nat.le_of_ble_eq_true rfl) (Nat.le_of_ble_eq_true rfl) (Nat.le_of_ble_eq_true rfl) ?_
  have hF : d2_1 + 1 ≤ F := by omega
  have hLo : 48 * d2_1 + 48 ≤ Lo := by omega
  refine ax_iconst (pc := 9) C 1 d_Sat_isSingle_9 (by decide +kernel) ?_
  refine ax_icmp_ne (pc := 10) C 37 d_Sat_isSingle_10 (by decide) (fun hc => ?_) (fun hc => ?_)
  · have h := it_f hc h
    refine ax_ls ([(0, .ref (u 53)), (1, .int x0)]) [0, 1] rfl ?_
    have hm : sC_Sat_isSingle_p37 l D kA u w tx σ1 [x0] (σf, rf, _) := ih tC_Sat_isSingle_p37 _ _ _ h
    exact hm _ rfl p e s m args below meth c F Lo σ0 hF hLo C
  · have h := it_t hc h
    refine ax_aload_n (pc := 13) C d_Sat_isSingle_13 rfl 0 rfl ?_
    refine cg_53_9_Sat_27 (pc := 14) C d_Sat_isSingle_14 ?_
    refine ax_aload_n (pc := 17) C d_Sat_isSingle_17 rfl 0 rfl ?_
    refine cg_53_9_Sat_27 (pc := 18) C d_Sat_isSingle_18 ?_
    refine ax_iload_n (pc := 21) C d_Sat_isSingle_21 rfl 1 rfl ?_
    refine ax_bipush (pc := 22) C 8 d_Sat_isSingle_22 (by decide +kernel) ?_
    obtain ⟨σ2, r2, d1_2, d2_2, h1, h, hd2, hd1⟩ := it_b h
    have hm : sC_Sto_fact l D kA u w tx σ1 [x0, 8] (σ2, r2, d1_2) := ih tC_Sto_fact _ _ _ h1
    refine cc_Vi (pc := 24) C (r0 := r2) (σ2 := σ2) (As := [.int x0, .int 8]) (rest := [.ref (u 54)]) (hm _ _ rfl) ml_Sat_91 54 rfl rfl rfl d_Sat_isSingle_24 rfl rfl (by dsimp only; omega) (by dsimp only; omega) (Nat.le_of_ble_eq_true rfl) (Nat.le_of_ble_eq_true rfl) (Nat.le_of_ble_eq_true rfl) ?_
    have hF : d2_2 + 1 ≤ F := by omega
    have hLo : 48 * d2_2 + 48 ≤ Lo := by omega
    obtain ⟨σ3, r3, d1_3, d2_3, h1, h, hd2, hd1⟩ := it_b h
    have hm : sC_Sto_isPositive l D kA u w tx σ2 [r2] (σ3, r3, d1_3) := ih tC_Sto_isPositive _ _ _ h1
    refine cc_Vi (pc := 27) C (r0 := r3) (σ2 := σ3) (As := [.int r2]) (rest := []) (hm _ rfl) ml_Sat_113 54 rfl rfl rfl d_Sat_isSingle_27 rfl rfl (by dsimp only; omega) (by dsimp only; omega) (Nat.le_of_ble_eq_true rfl) (Nat.le_of_ble_eq_true rfl) (Nat.le_of_ble_eq_true rfl) ?_
    have hF : d2_3 + 1 ≤ F := by omega
    have hLo : 48 * d2_3 + 48 ≤ Lo := by omega
    refine ax_if_eq (pc := 30) C 37 d_Sat_isSingle_30 (by decide) (fun hc => ?_) (fun hc => ?_)
    · have h := it_t hc h
      refine ax_ls ([(0, .ref (u 53)), (1, .int x0)]) [0, 1] rfl ?_
      have hm : sC_Sat_isSingle_p37 l D kA u w tx σ3 [x0] (σf, rf, _) := ih tC_Sat_isSingle_p37 _ _ _ h
      exact hm _ rfl p e s m args below meth c F Lo σ0 hF hLo C
    · have h := it_f hc h
      refine ax_iconst (pc := 33) C 1 d_Sat_isSingle_33 (by decide +kernel) ?_
      refine ax_goto (pc := 34) C 38 d_Sat_isSingle_34 (by decide) ?_
      refine ax_ls ([(0, .ref (u 53)), (1, .int x0)]) [0, 1] rfl ?_
      have hm : sC_Sat_isSingle_p38 l D kA u w tx σ3 [x0, 1] (σf, rf, _) := ih tC_Sat_isSingle_p38 _ _ _ h
      exact hm _ _ rfl p e s m args below meth c F Lo σ0 hF hLo C
set_option maxHeartbeats 4000000 in
set_option maxRecDepth 100000 in
theorem oC_Sat_isSingle_p37 (l : Launch) (D : va_G) (kA : Nat → ClassId) (u w : Nat → Nat) (tx : Value) (rec : mF) (ih : ∀ t σ xs res, rec t σ xs = some res → cSem l D kA u w tx t σ xs res) (σ : mS) (xs : List Int32) (res : mR) (h : u_1 (kC_Sat_isSingle_p37 rec σ) xs = some res) : sC_Sat_isSingle_p37 l D kA u w tx σ xs res := by
  intro x0 hxs
  subst hxs
  obtain ⟨σf, rf, dd⟩ := res
  have h : (rec tC_Sat_isSingle_p38 σ [x0, 0]) = some (σf, rf, dd) := h
  intro p e s m args below meth c F Lo σ0 hF hLo C
  dsimp only at hF hLo ⊢
  refine ax_iconst (pc := 37) C 0 d_Sat_isSingle_37 (by decide +kernel) ?_
  refine ax_ls ([(0, .ref (u 53)), (1, .int x0)]) [0, 1] rfl ?_
  have hm : sC_Sat_isSingle_p38 l D kA u w tx σ [x0, 0] (σf, rf, _) := ih tC_Sat_isSingle_p38 _ _ _ h
  exact hm _ _ rfl p e s m args below meth c F Lo σ0 hF hLo C
set_option maxHeartbeats 4000000 in
set_option maxRecDepth 100000 in
theorem oC_Sat_isSingle_p38 (l : Launch) (D : va_G) (kA : Nat → ClassId) (u w : Nat → Nat) (tx : Value) (rec : mF) (ih : ∀ t σ xs res, rec t σ xs = some res → cSem l D kA u w tx t σ xs res) (σ : mS) (xs : List Int32) (res : mR) (h : u_2 (kC_Sat_isSingle_p38 rec σ) xs = some res) : sC_Sat_isSingle_p38 l D kA u w tx σ xs res := by
  intro x0 x1 hxs
  subst hxs
  obtain ⟨σf, rf, dd⟩ := res
  have h : (if x1 = 0 ∨ x1 = 1 then some (σ, x1, 0) else none) = some (σf, rf, dd) := h
  intro p e s m args below meth c F Lo σ0 hF hLo C
  dsimp only at hF hLo ⊢
  obtain ⟨hb, h⟩ := it_g h
  cases h
  exact ax_zret (pc := 38) C d_Sat_isSingle_38 (nb01 hb) ⟨rfl, rfl⟩ (Nat.le_refl _) (Nat.le_refl _)
set_option maxHeartbeats 4000000 in
set_option maxRecDepth 100000 in
theorem oC_Sat_isSubsumed (l : Launch) (D : va_G) (kA : Nat → ClassId) (u w : Nat → Nat) (tx : Value) (rec : mF) (ih : ∀ t σ xs res, rec t σ xs = some res → cSem l D kA u w tx t σ xs res) (σ : mS) (xs : List Int32) (res : mR) (h : u_1 (kC_Sat_isSubsumed rec σ) xs = some res) : sC_Sat_isSubsumed l D kA u w tx σ xs res := by
  intro x0 hxs
  subst hxs
  obtain ⟨σf, rf, dd⟩ := res
  have h : (rec tC_Sat_isSubsumed_p2 σ [x0, 0]) = some (σf, rf, dd) := h
  refine ax_Mi.of (by decide +kernel) (Nat.le_of_ble_eq_true rfl) ?_
  intro p e s m args below meth c C hnm
  have C : ax_C p s m args meth c b_Sat_isSubsumed "ClauseProver$Saturation" 3 (some .boolean) D kA (va_A (cpW kA u w tx σ) s.heap.size) := C
  obtain ⟨F, hFe⟩ : ∃ F, F = dd + 1 := ⟨_, rfl⟩
  obtain ⟨Lo, hLoe⟩ : ∃ Lo, Lo = 48 * dd + 48 := ⟨_, rfl⟩
  obtain ⟨σ0, hσ0⟩ : ∃ s0, s0 = σ := ⟨_, rfl⟩
  suffices K : AW p l e { frames := F, cells := 0, slots := 0, locals := Lo } s m args below meth c D kA (va_A (cpW kA u w tx σ0) s.heap.size) 3 (ax_Qi below args s D kA (cpW kA u w tx σ0) 0 0 (fun r w1 => r = rf ∧ w1 = cpW kA u w tx σf)) 0 [(0, .ref (u 53)), (1, .int x0)] [] (cpW kA u w tx σ) 0 0 by rw [hFe, hLoe, hσ0] at K; exact ax_ls ([(0, .ref (u 53)), (1, .int x0)]) [0, 1] rfl K
  have C : ax_C p s m args meth c b_Sat_isSubsumed "ClauseProver$Saturation" 3 (some .boolean) D kA (va_A (cpW kA u w tx σ0) s.heap.size) := by rw [hσ0]; exact C
  have hF : dd + 1 ≤ F := by omega
  have hLo : 48 * dd + 48 ≤ Lo := by omega
  clear hFe hLoe hσ0
  refine ax_iconst (pc := 0) C 0 d_Sat_isSubsumed_0 (by decide +kernel) ?_
  refine ax_istore_n (pc := 1) C d_Sat_isSubsumed_1 rfl (Nat.le_of_ble_eq_true rfl) ([(2, .int 0), (0, .ref (u 53)), (1, .int x0)]) rfl ?_
  refine ax_ls ([(0, .ref (u 53)), (1, .int x0), (2, .int 0)]) [1, 2, 0] rfl ?_
  have hm : sC_Sat_isSubsumed_p2 l D kA u w tx σ [x0, 0] (σf, rf, _) := ih tC_Sat_isSubsumed_p2 _ _ _ h
  exact hm _ _ rfl p e s m args below meth c F Lo σ0 hF hLo C
set_option maxHeartbeats 4000000 in
set_option maxRecDepth 100000 in
theorem oC_Sat_isSubsumed_p2 (l : Launch) (D : va_G) (kA : Nat → ClassId) (u w : Nat → Nat) (tx : Value) (rec : mF) (ih : ∀ t σ xs res, rec t σ xs = some res → cSem l D kA u w tx t σ xs res) (σ : mS) (xs : List Int32) (res : mR) (h : u_2 (kC_Sat_isSubsumed_p2 rec σ) xs = some res) : sC_Sat_isSubsumed_p2 l D kA u w tx σ xs res := by
  intro x0 x1 hxs
  subst hxs
  obtain ⟨σf, rf, dd⟩ := res
  have h : (if (σ.1 5402) ≤ x1 then (some (σ, 0, 0)) else (bnd (rec tC_Sat_isProcessed σ [x1]) (fun σ1 r1 => if r1 = 0 then (rec tC_Sat_isSubsumed_p35 σ1 [x0, x1]) else (bnd (rec tC_Mat_subsumes σ1 [x1, x0]) (fun σ2 r2 => if r2 = 0 then (rec tC_Sat_isSubsumed_p35 σ2 [x0, x1]) else (some (σ2, 1, 0))))))) = some (σf, rf, dd) := h
  intro p e s m args below meth c F Lo σ0 hF hLo C
  dsimp only at hF hLo ⊢
  refine ax_iload_n (pc := 2) C d_Sat_isSubsumed_2 rfl 2 rfl ?_
  refine ax_aload_n (pc := 3) C d_Sat_isSubsumed_3 rfl 0 rfl ?_
  refine cg_53_9_Sat_27 (pc := 4) C d_Sat_isSubsumed_4 ?_
  refine cg_54_2_Sat_112 (pc := 7) C d_Sat_isSubsumed_7 ?_
  refine ax_icmp_ge (pc := 10) C 41 d_Sat_isSubsumed_10 (by decide) (fun hc => ?_) (fun hc => ?_)
  · have h := it_t hc h
    refine ax_iconst (pc := 41) C 0 d_Sat_isSubsumed_41 (by decide +kernel) ?_
    cases h
    exact ax_zret (pc := 42) C d_Sat_isSubsumed_42 rfl ⟨rfl, rfl⟩ (Nat.le_refl _) (Nat.le_refl _)
  · have h := it_f hc h
    refine ax_aload_n (pc := 13) C d_Sat_isSubsumed_13 rfl 0 rfl ?_
    refine ax_iload_n (pc := 14) C d_Sat_isSubsumed_14 rfl 2 rfl ?_
    obtain ⟨σ1, r1, d1_1, d2_1, h1, h, hd2, hd1⟩ := it_b h
    have hm : sC_Sat_isProcessed l D kA u w tx σ [x1] (σ1, r1, d1_1) := ih tC_Sat_isProcessed _ _ _ h1
    refine cc_Vi (pc := 15) C (r0 := r1) (σ2 := σ1) (As := [.int x1]) (rest := []) (hm _ rfl) ml_Sat_142 53 rfl rfl rfl d_Sat_isSubsumed_15 rfl rfl (by dsimp only; omega) (by dsimp only; omega) (Nat.le_of_ble_eq_true rfl) (Nat.le_of_ble_eq_true rfl) (Nat.le_of_ble_eq_true rfl) ?_
    have hF : d2_1 + 1 ≤ F := by omega
    have hLo : 48 * d2_1 + 48 ≤ Lo := by omega
    refine ax_if_eq (pc := 18) C 35 d_Sat_isSubsumed_18 (by decide) (fun hc => ?_) (fun hc => ?_)
    · have h := it_t hc h
      refine ax_ls ([(0, .ref (u 53)), (1, .int x0), (2, .int x1)]) [0, 1, 2] rfl ?_
      have hm : sC_Sat_isSubsumed_p35 l D kA u w tx σ1 [x0, x1] (σf, rf, _) := ih tC_Sat_isSubsumed_p35 _ _ _ h
      exact hm _ _ rfl p e s m args below meth c F Lo σ0 hF hLo C
    · have h := it_f hc h
      refine ax_aload_n (pc := 21) C d_Sat_isSubsumed_21 rfl 0 rfl ?_
      refine cg_53_12_Sat_54 (pc := 22) C d_Sat_isSubsumed_22 ?_
      refine ax_iload_n (pc := 25) C d_Sat_isSubsumed_25 rfl 2 rfl ?_
      refine ax_iload_n (pc := 26) C d_Sat_isSubsumed_26 rfl 1 rfl ?_
      obtain ⟨σ2, r2, d1_2, d2_2, h1, h, hd2, hd1⟩ := it_b h
      have hm : sC_Mat_subsumes l D kA u w tx σ1 [x1, x0] (σ2, r2, d1_2) := ih tC_Mat_subsumes _ _ _ h1
      refine cc_Vi (pc := 27) C (r0 := r2) (σ2 := σ2) (As := [.int x1, .int x0]) (rest := []) (hm _ _ rfl) ml_Sat_168 66 rfl rfl rfl d_Sat_isSubsumed_27 rfl rfl (by dsimp only; omega) (by dsimp only; omega) (Nat.le_of_ble_eq_true rfl) (Nat.le_of_ble_eq_true rfl) (Nat.le_of_ble_eq_true rfl) ?_
      have hF : d2_2 + 1 ≤ F := by omega
      have hLo : 48 * d2_2 + 48 ≤ Lo := by omega
      refine ax_if_eq (pc := 30) C 35 d_Sat_isSubsumed_30 (by decide) (fun hc => ?_) (fun hc => ?_)
      · have h := it_t hc h
        refine ax_ls ([(0, .ref (u 53)), (1, .int x0), (2, .int x1)]) [0, 1, 2] rfl ?_
        have hm : sC_Sat_isSubsumed_p35 l D kA u w tx σ2 [x0, x1] (σf, rf, _) := ih tC_Sat_isSubsumed_p35 _ _ _ h
        exact hm _ _ rfl p e s m args below meth c F Lo σ0 hF hLo C
      · have h := it_f hc h
        refine ax_iconst (pc := 33) C 1 d_Sat_isSubsumed_33 (by decide +kernel) ?_
        cases h
        exact ax_zret (pc := 34) C d_Sat_isSubsumed_34 rfl ⟨rfl, rfl⟩ (Nat.le_refl _) (Nat.le_refl _)
set_option maxHeartbeats 4000000 in
set_option maxRecDepth 100000 in
theorem oC_Sat_isSubsumed_p35 (l : Launch) (D : va_G) (kA : Nat → ClassId) (u w : Nat → Nat) (tx : Value) (rec : mF) (ih : ∀ t σ xs res, rec t σ xs = some res → cSem l D kA u w tx t σ xs res) (σ : mS) (xs : List Int32) (res : mR) (h : u_2 (kC_Sat_isSubsumed_p35 rec σ) xs = some res) : sC_Sat_isSubsumed_p35 l D kA u w tx σ xs res := by
  intro x0 x1 hxs
  subst hxs
  obtain ⟨σf, rf, dd⟩ := res
  have h : (rec tC_Sat_isSubsumed_p2 σ [x0, (x1 + 1)]) = some (σf, rf, dd) := h
  intro p e s m args below meth c F Lo σ0 hF hLo C
  dsimp only at hF hLo ⊢
  refine ax_iinc (pc := 35) C (x1 + 1) d_Sat_isSubsumed_35 2 rfl rfl (Nat.le_of_ble_eq_true rfl) ([(2, .int (x1 + 1)), (0, .ref (u 53)), (1, .int x0)]) rfl ?_
  refine ax_goto (pc := 38) C 2 d_Sat_isSubsumed_38 (by decide) ?_
  refine ax_ls ([(0, .ref (u 53)), (1, .int x0), (2, .int (x1 + 1))]) [1, 2, 0] rfl ?_
  have hm : sC_Sat_isSubsumed_p2 l D kA u w tx σ [x0, (x1 + 1)] (σf, rf, _) := ih tC_Sat_isSubsumed_p2 _ _ _ h
  exact hm _ _ rfl p e s m args below meth c F Lo σ0 hF hLo C
set_option maxHeartbeats 4000000 in
set_option maxRecDepth 100000 in
theorem oC_Sat_markProof (l : Launch) (D : va_G) (kA : Nat → ClassId) (u w : Nat → Nat) (tx : Value) (rec : mF) (ih : ∀ t σ xs res, rec t σ xs = some res → cSem l D kA u w tx t σ xs res) (σ : mS) (xs : List Int32) (res : mR) (h : u_1 (kC_Sat_markProof rec σ) xs = some res) : sC_Sat_markProof l D kA u w tx σ xs res := by
  intro x0 hxs
  subst hxs
  obtain ⟨σf, rf, dd⟩ := res
  have h : (bnd (rec tC_Sto_has σ [x0]) (fun σ1 r1 => if r1 = 0 then (rec tC_Sat_markProof_p22 σ1 [x0]) else (bnd (rec tC_Sto_setFact σ1 [x0, 10, 1]) (fun σ2 r2 => rec tC_Sat_markProof_p22 σ2 [x0])))) = some (σf, rf, dd) := h
  refine ax_Mv.of (by decide +kernel) (Nat.le_of_ble_eq_true rfl) ?_
  intro p e s m args below meth c C hnm
  have C : ax_C p s m args meth c b_Sat_markProof "ClauseProver$Saturation" 2 none D kA (va_A (cpW kA u w tx σ) s.heap.size) := C
  obtain ⟨F, hFe⟩ : ∃ F, F = dd + 1 := ⟨_, rfl⟩
  obtain ⟨Lo, hLoe⟩ : ∃ Lo, Lo = 48 * dd + 48 := ⟨_, rfl⟩
  obtain ⟨σ0, hσ0⟩ : ∃ s0, s0 = σ := ⟨_, rfl⟩
  suffices K : AW p l e { frames := F, cells := 0, slots := 0, locals := Lo } s m args below meth c D kA (va_A (cpW kA u w tx σ0) s.heap.size) 2 (ax_Qv below args s D kA (cpW kA u w tx σ0) 0 0 (fun w1 => w1 = cpW kA u w tx σf)) 0 [(0, .ref (u 53)), (1, .int x0)] [] (cpW kA u w tx σ) 0 0 by rw [hFe, hLoe, hσ0] at K; exact ax_ls ([(0, .ref (u 53)), (1, .int x0)]) [0, 1] rfl K
  have C : ax_C p s m args meth c b_Sat_markProof "ClauseProver$Saturation" 2 none D kA (va_A (cpW kA u w tx σ0) s.heap.size) := by rw [hσ0]; exact C
  have hF : dd + 1 ≤ F := by omega
  have hLo : 48 * dd + 48 ≤ Lo := by omega
  clear hFe hLoe hσ0
  refine ax_aload_n (pc := 0) C d_Sat_markProof_0 rfl 0 rfl ?_
  refine cg_53_9_Sat_27 (pc := 1) C d_Sat_markProof_1 ?_
  refine ax_iload_n (pc := 4) C d_Sat_markProof_4 rfl 1 rfl ?_
  obtain ⟨σ1, r1, d1_1, d2_1, h1, h, hd2, hd1⟩ := it_b h
  have hm : sC_Sto_has l D kA u w tx σ [x0] (σ1, r1, d1_1) := ih tC_Sto_has _ _ _ h1
  refine cc_Vi (pc := 5) C (r0 := r1) (σ2 := σ1) (As := [.int x0]) (rest := []) (hm _ rfl) ml_Sat_165 54 rfl rfl rfl d_Sat_markProof_5 rfl rfl (by dsimp only; omega) (by dsimp only; omega) (Nat.le_of_ble_eq_true rfl) (Nat.le_of_ble_eq_true rfl) (Nat.le_of_ble_eq_true rfl) ?_
  have hF : d2_1 + 1 ≤ F := by omega
  have hLo : 48 * d2_1 + 48 ≤ Lo := by omega
  refine ax_if_eq (pc := 8) C 22 d_Sat_markProof_8 (by decide) (fun hc => ?_) (fun hc => ?_)
  · have h := it_t hc h
    refine ax_ls ([(0, .ref (u 53)), (1, .int x0)]) [0, 1] rfl ?_
    have hm : sC_Sat_markProof_p22 l D kA u w tx σ1 [x0] (σf, rf, _) := ih tC_Sat_markProof_p22 _ _ _ h
    exact hm _ rfl p e s m args below meth c F Lo σ0 hF hLo C
  · have h := it_f hc h
    refine ax_aload_n (pc := 11) C d_Sat_markProof_11 rfl 0 rfl ?_
    refine cg_53_9_Sat_27 (pc := 12) C d_Sat_markProof_12 ?_
    refine ax_iload_n (pc := 15) C d_Sat_markProof_15 rfl 1 rfl ?_
    refine ax_bipush (pc := 16) C 10 d_Sat_markProof_16 (by decide +kernel) ?_
    refine ax_iconst (pc := 18) C 1 d_Sat_markProof_18 (by decide +kernel) ?_
    obtain ⟨σ2, r2, d1_2, d2_2, h1, h, hd2, hd1⟩ := it_b h
    have hm : sC_Sto_setFact l D kA u w tx σ1 [x0, 10, 1] (σ2, r2, d1_2) := ih tC_Sto_setFact _ _ _ h1
    refine cc_Vv (pc := 19) C (σ2 := σ2) (As := [.int x0, .int 10, .int 1]) (rest := []) (hm _ _ _ rfl) ml_Sat_87 54 rfl rfl rfl d_Sat_markProof_19 rfl rfl (by dsimp only; omega) (by dsimp only; omega) (Nat.le_of_ble_eq_true rfl) (Nat.le_of_ble_eq_true rfl) (Nat.le_of_ble_eq_true rfl) ?_
    have hF : d2_2 + 1 ≤ F := by omega
    have hLo : 48 * d2_2 + 48 ≤ Lo := by omega
    refine ax_ls ([(0, .ref (u 53)), (1, .int x0)]) [0, 1] rfl ?_
    have hm : sC_Sat_markProof_p22 l D kA u w tx σ2 [x0] (σf, rf, _) := ih tC_Sat_markProof_p22 _ _ _ h
    exact hm _ rfl p e s m args below meth c F Lo σ0 hF hLo C
set_option maxHeartbeats 4000000 in
set_option maxRecDepth 100000 in
theorem oC_Sat_markProof_p22 (l : Launch) (D : va_G) (kA : Nat → ClassId) (u w : Nat → Nat) (tx : Value) (rec : mF) (ih : ∀ t σ xs res, rec t σ xs = some res → cSem l D kA u w tx t σ xs res) (σ : mS) (xs : List Int32) (res : mR) (h : u_1 (kC_Sat_markProof_p22 rec σ) xs = some res) : sC_Sat_markProof_p22 l D kA u w tx σ xs res := by
  intro x0 hxs
  subst hxs
  obtain ⟨σf, rf, dd⟩ := res
  have h : (some (σ, 0, 0)) = some (σf, rf, dd) := h
  intro p e s m args below meth c F Lo σ0 hF hLo C
  dsimp only at hF hLo ⊢
  cases h
  exact ax_vret (pc := 22) C d_Sat_markProof_22 rfl (Nat.le_refl _) (Nat.le_refl _)
set_option maxHeartbeats 4000000 in
set_option maxRecDepth 100000 in
theorem oC_Sat_writeOthers (l : Launch) (D : va_G) (kA : Nat → ClassId) (u w : Nat → Nat) (tx : Value) (rec : mF) (ih : ∀ t σ xs res, rec t σ xs = some res → cSem l D kA u w tx t σ xs res) (σ : mS) (xs : List Int32) (res : mR) (h : u_4 (kC_Sat_writeOthers rec σ) xs = some res) : sC_Sat_writeOthers l D kA u w tx σ xs res := by
  intro x0 x1 x2 x3 hxs
  subst hxs
  obtain ⟨σf, rf, dd⟩ := res
  have h : (bnd (rec tC_Sto_fact σ [x0, 8]) (fun σ1 r1 => rec tC_Sat_writeOthers_p15 σ1 [x0, x1, x2, x3, r1, 0])) = some (σf, rf, dd) := h
  refine ax_Mv.of (by decide +kernel) (Nat.le_of_ble_eq_true rfl) ?_
  intro p e s m args below meth c C hnm
  have C : ax_C p s m args meth c b_Sat_writeOthers "ClauseProver$Saturation" 8 none D kA (va_A (cpW kA u w tx σ) s.heap.size) := C
  obtain ⟨F, hFe⟩ : ∃ F, F = dd + 1 := ⟨_, rfl⟩
  obtain ⟨Lo, hLoe⟩ : ∃ Lo, Lo = 48 * dd + 48 := ⟨_, rfl⟩
  obtain ⟨σ0, hσ0⟩ : ∃ s0, s0 = σ := ⟨_, rfl⟩
  suffices K : AW p l e { frames := F, cells := 0, slots := 0, locals := Lo } s m args below meth c D kA (va_A (cpW kA u w tx σ0) s.heap.size) 8 (ax_Qv below args s D kA (cpW kA u w tx σ0) 0 0 (fun w1 => w1 = cpW kA u w tx σf)) 0 [(0, .ref (u 53)), (1, .int x0), (2, .int x1), (3, .int x2), (4, .int x3)] [] (cpW kA u w tx σ) 0 0 by rw [hFe, hLoe, hσ0] at K; exact ax_ls ([(0, .ref (u 53)), (1, .int x0), (2, .int x1), (3, .int x2), (4, .int x3)]) [0, 1, 2, 3, 4] rfl K
  have C : ax_C p s m args meth c b_Sat_writeOthers "ClauseProver$Saturation" 8 none D kA (va_A (cpW kA u w tx σ0) s.heap.size) := by rw [hσ0]; exact C
  have hF : dd + 1 ≤ F := by omega
  have hLo : 48 * dd + 48 ≤ Lo := by omega
  clear hFe hLoe hσ0
  refine ax_aload_n (pc := 0) C d_Sat_writeOthers_0 rfl 0 rfl ?_
  refine cg_53_9_Sat_27 (pc := 1) C d_Sat_writeOthers_1 ?_
  refine ax_iload_n (pc := 4) C d_Sat_writeOthers_4 rfl 1 rfl ?_
  refine ax_bipush (pc := 5) C 8 d_Sat_writeOthers_5 (by decide +kernel) ?_
  obtain ⟨σ1, r1, d1_1, d2_1, h1, h, hd2, hd1⟩ := it_b h
  have hm : sC_Sto_fact l D kA u w tx σ [x0, 8] (σ1, r1, d1_1) := ih tC_Sto_fact _ _ _ h1
  refine cc_Vi (pc := 7) C (r0 := r1) (σ2 := σ1) (As := [.int x0, .int 8]) (rest := []) (hm _ _ rfl) ml_Sat_91 54 rfl rfl rfl d_Sat_writeOthers_7 rfl rfl (by dsimp only; omega) (by dsimp only; omega) (Nat.le_of_ble_eq_true rfl) (Nat.le_of_ble_eq_true rfl) (Nat.le_of_ble_eq_true rfl) ?_
  have hF : d2_1 + 1 ≤ F := by omega
  have hLo : 48 * d2_1 + 48 ≤ Lo := by omega
  refine ax_istore (pc := 10) C d_Sat_writeOthers_10 (Nat.le_of_ble_eq_true rfl) ([(5, .int r1), (0, .ref (u 53)), (1, .int x0), (2, .int x1), (3, .int x2), (4, .int x3)]) rfl ?_
  refine ax_iconst (pc := 12) C 0 d_Sat_writeOthers_12 (by decide +kernel) ?_
  refine ax_istore (pc := 13) C d_Sat_writeOthers_13 (Nat.le_of_ble_eq_true rfl) ([(6, .int 0), (5, .int r1), (0, .ref (u 53)), (1, .int x0), (2, .int x1), (3, .int x2), (4, .int x3)]) rfl ?_
  refine ax_ls ([(0, .ref (u 53)), (1, .int x0), (2, .int x1), (3, .int x2), (4, .int x3), (5, .int r1), (6, .int 0)]) [2, 3, 4, 5, 6, 1, 0] rfl ?_
  have hm : sC_Sat_writeOthers_p15 l D kA u w tx σ1 [x0, x1, x2, x3, r1, 0] (σf, rf, _) := ih tC_Sat_writeOthers_p15 _ _ _ h
  exact hm _ _ _ _ _ _ rfl p e s m args below meth c F Lo σ0 hF hLo C
set_option maxHeartbeats 4000000 in
set_option maxRecDepth 100000 in
theorem oC_Sat_writeOthers_p15 (l : Launch) (D : va_G) (kA : Nat → ClassId) (u w : Nat → Nat) (tx : Value) (rec : mF) (ih : ∀ t σ xs res, rec t σ xs = some res → cSem l D kA u w tx t σ xs res) (σ : mS) (xs : List Int32) (res : mR) (h : u_6 (kC_Sat_writeOthers_p15 rec σ) xs = some res) : sC_Sat_writeOthers_p15 l D kA u w tx σ xs res := by
  intro x0 x1 x2 x3 x4 x5 hxs
  subst hxs
  obtain ⟨σf, rf, dd⟩ := res
  have h : (bnd (rec tC_Sto_fact σ [x0, 3]) (fun σ1 r1 => if r1 ≤ x5 then (some (σ1, 0, 0)) else (if x4 = x1 then (rec tC_Sat_writeOthers_p134 σ1 [x0, x1, x2, x3, x4, x5]) else (if x4 = x2 then (rec tC_Sat_writeOthers_p134 σ1 [x0, x1, x2, x3, x4, x5]) else (bnd (rec tC_Sto_sideAt σ1 [x4, 1]) (fun σ2 r2 => bnd (rec tC_Sto_isPositive σ2 [x4]) (fun σ3 r3 => bnd (rec tC_Dra_openLiteral σ3 [r3]) (fun σ4 r4 => bnd (rec tC_Sto_sideAt σ4 [x4, 0]) (fun σ5 r5 => bnd (rec tC_Uni_write σ5 [r5, r2, x3, 0]) (fun σ6 r6 => bnd (rec tC_Dra_openRight σ6 []) (fun σ7 r7 => bnd (rec tC_Sto_behind σ7 [x4]) (fun σ8 r8 => bnd (rec tC_Uni_write σ8 [r2, r8, x3, 0]) (fun σ9 r9 => bnd (rec tC_Dra_closeLiteral σ9 []) (fun σ10 r10 => rec tC_Sat_writeOthers_p134 σ10 [x0, x1, x2, x3, x4, x5])))))))))))))) = some (σf, rf, dd) := h
  intro p e s m args below meth c F Lo σ0 hF hLo C
  dsimp only at hF hLo ⊢
  refine ax_iload (pc := 15) C d_Sat_writeOthers_15 6 rfl ?_
  refine ax_aload_n (pc := 17) C d_Sat_writeOthers_17 rfl 0 rfl ?_
  refine cg_53_9_Sat_27 (pc := 18) C d_Sat_writeOthers_18 ?_
  refine ax_iload_n (pc := 21) C d_Sat_writeOthers_21 rfl 1 rfl ?_
  refine ax_iconst (pc := 22) C 3 d_Sat_writeOthers_22 (by decide +kernel) ?_
  obtain ⟨σ1, r1, d1_1, d2_1, h1, h, hd2, hd1⟩ := it_b h
  have hm : sC_Sto_fact l D kA u w tx σ [x0, 3] (σ1, r1, d1_1) := ih tC_Sto_fact _ _ _ h1
  refine cc_Vi (pc := 23) C (r0 := r1) (σ2 := σ1) (As := [.int x0, .int 3]) (rest := [.int x5]) (hm _ _ rfl) ml_Sat_91 54 rfl rfl rfl d_Sat_writeOthers_23 rfl rfl (by dsimp only; omega) (by dsimp only; omega) (Nat.le_of_ble_eq_true rfl) (Nat.le_of_ble_eq_true rfl) (Nat.le_of_ble_eq_true rfl) ?_
  have hF : d2_1 + 1 ≤ F := by omega
  have hLo : 48 * d2_1 + 48 ≤ Lo := by omega
  refine ax_icmp_ge (pc := 26) C 151 d_Sat_writeOthers_26 (by decide) (fun hc => ?_) (fun hc => ?_)
  · have h := it_t hc h
    cases h
    exact ax_vret (pc := 151) C d_Sat_writeOthers_151 rfl (Nat.le_refl _) (Nat.le_refl _)
  · have h := it_f hc h
    refine ax_iload (pc := 29) C d_Sat_writeOthers_29 5 rfl ?_
    refine ax_iload_n (pc := 31) C d_Sat_writeOthers_31 rfl 2 rfl ?_
    refine ax_icmp_eq (pc := 32) C 134 d_Sat_writeOthers_32 (by decide) (fun hc => ?_) (fun hc => ?_)
    · have h := it_t hc h
      refine ax_ls ([(0, .ref (u 53)), (1, .int x0), (2, .int x1), (3, .int x2), (4, .int x3), (5, .int x4), (6, .int x5)]) [0, 1, 2, 3, 4, 5, 6] rfl ?_
      have hm : sC_Sat_writeOthers_p134 l D kA u w tx σ1 [x0, x1, x2, x3, x4, x5] (σf, rf, _) := ih tC_Sat_writeOthers_p134 _ _ _ h
      exact hm _ _ _ _ _ _ rfl p e s m args below meth c F Lo σ0 hF hLo C
    · have h := it_f hc h
      refine ax_iload (pc := 35) C d_Sat_writeOthers_35 5 rfl ?_
      refine ax_iload_n (pc := 37) C d_Sat_writeOthers_37 rfl 3 rfl ?_
      refine ax_icmp_eq (pc := 38) C 134 d_Sat_writeOthers_38 (by decide) (fun hc => ?_) (fun hc => ?_)
      · have h := it_t hc h
        refine ax_ls ([(0, .ref (u 53)), (1, .int x0), (2, .int x1), (3, .int x2), (4, .int x3), (5, .int x4), (6, .int x5)]) [0, 1, 2, 3, 4, 5, 6] rfl ?_
        have hm : sC_Sat_writeOthers_p134 l D kA u w tx σ1 [x0, x1, x2, x3, x4, x5] (σf, rf, _) := ih tC_Sat_writeOthers_p134 _ _ _ h
        exact hm _ _ _ _ _ _ rfl p e s m args below meth c F Lo σ0 hF hLo C
      · have h := it_f hc h
        refine ax_aload_n (pc := 41) C d_Sat_writeOthers_41 rfl 0 rfl ?_
        refine cg_53_9_Sat_27 (pc := 42) C d_Sat_writeOthers_42 ?_
        refine ax_iload (pc := 45) C d_Sat_writeOthers_45 5 rfl ?_
        refine ax_iconst (pc := 47) C 1 d_Sat_writeOthers_47 (by decide +kernel) ?_
        obtain ⟨σ2, r2, d1_2, d2_2, h1, h, hd2, hd1⟩ := it_b h
        have hm : sC_Sto_sideAt l D kA u w tx σ1 [x4, 1] (σ2, r2, d1_2) := ih tC_Sto_sideAt _ _ _ h1
        refine cc_Vi (pc := 48) C (r0 := r2) (σ2 := σ2) (As := [.int x4, .int 1]) (rest := []) (hm _ _ rfl) ml_Sat_200 54 rfl rfl rfl d_Sat_writeOthers_48 rfl rfl (by dsimp only; omega) (by dsimp only; omega) (Nat.le_of_ble_eq_true rfl) (Nat.le_of_ble_eq_true rfl) (Nat.le_of_ble_eq_true rfl) ?_
        have hF : d2_2 + 1 ≤ F := by omega
        have hLo : 48 * d2_2 + 48 ≤ Lo := by omega
        refine ax_istore (pc := 51) C d_Sat_writeOthers_51 (Nat.le_of_ble_eq_true rfl) ([(7, .int r2), (0, .ref (u 53)), (1, .int x0), (2, .int x1), (3, .int x2), (4, .int x3), (5, .int x4), (6, .int x5)]) rfl ?_
        refine ax_aload_n (pc := 53) C d_Sat_writeOthers_53 rfl 1 rfl ?_
        refine cg_53_10_Sat_31 (pc := 54) C d_Sat_writeOthers_54 ?_
        refine ax_aload_n (pc := 57) C d_Sat_writeOthers_57 rfl 1 rfl ?_
        refine cg_53_9_Sat_27 (pc := 58) C d_Sat_writeOthers_58 ?_
        refine ax_iload (pc := 61) C d_Sat_writeOthers_61 6 rfl ?_
        obtain ⟨σ3, r3, d1_3, d2_3, h1, h, hd2, hd1⟩ := it_b h
        have hm : sC_Sto_isPositive l D kA u w tx σ2 [x4] (σ3, r3, d1_3) := ih tC_Sto_isPositive _ _ _ h1
        refine cc_Vi (pc := 63) C (r0 := r3) (σ2 := σ3) (As := [.int x4]) (rest := [.ref (u 39)]) (hm _ rfl) ml_Sat_113 54 rfl rfl rfl d_Sat_writeOthers_63 rfl rfl (by dsimp only; omega) (by dsimp only; omega) (Nat.le_of_ble_eq_true rfl) (Nat.le_of_ble_eq_true rfl) (Nat.le_of_ble_eq_true rfl) ?_
        have hF : d2_3 + 1 ≤ F := by omega
        have hLo : 48 * d2_3 + 48 ≤ Lo := by omega
        obtain ⟨σ4, r4, d1_4, d2_4, h1, h, hd2, hd1⟩ := it_b h
        have hm : sC_Dra_openLiteral l D kA u w tx σ3 [r3] (σ4, r4, d1_4) := ih tC_Dra_openLiteral _ _ _ h1
        refine cc_Vv (pc := 66) C (σ2 := σ4) (As := [.int r3]) (rest := []) (hm _ rfl) ml_Sat_225 39 rfl rfl rfl d_Sat_writeOthers_66 rfl rfl (by dsimp only; omega) (by dsimp only; omega) (Nat.le_of_ble_eq_true rfl) (Nat.le_of_ble_eq_true rfl) (Nat.le_of_ble_eq_true rfl) ?_
        have hF : d2_4 + 1 ≤ F := by omega
        have hLo : 48 * d2_4 + 48 ≤ Lo := by omega
        refine ax_aload_n (pc := 69) C d_Sat_writeOthers_69 rfl 1 rfl ?_
        refine cg_53_11_Sat_45 (pc := 70) C d_Sat_writeOthers_70 ?_
        refine ax_aload_n (pc := 73) C d_Sat_writeOthers_73 rfl 1 rfl ?_
        refine cg_53_10_Sat_31 (pc := 74) C d_Sat_writeOthers_74 ?_
        refine ax_aload_n (pc := 77) C d_Sat_writeOthers_77 rfl 1 rfl ?_
        refine cg_53_9_Sat_27 (pc := 78) C d_Sat_writeOthers_78 ?_
        refine ax_iload (pc := 81) C d_Sat_writeOthers_81 6 rfl ?_
        refine ax_iconst (pc := 83) C 0 d_Sat_writeOthers_83 (by decide +kernel) ?_
        obtain ⟨σ5, r5, d1_5, d2_5, h1, h, hd2, hd1⟩ := it_b h
        have hm : sC_Sto_sideAt l D kA u w tx σ4 [x4, 0] (σ5, r5, d1_5) := ih tC_Sto_sideAt _ _ _ h1
        refine cc_Vi (pc := 84) C (r0 := r5) (σ2 := σ5) (As := [.int x4, .int 0]) (rest := [.ref (u 39), .ref (u 59)]) (hm _ _ rfl) ml_Sat_200 54 rfl rfl rfl d_Sat_writeOthers_84 rfl rfl (by dsimp only; omega) (by dsimp only; omega) (Nat.le_of_ble_eq_true rfl) (Nat.le_of_ble_eq_true rfl) (Nat.le_of_ble_eq_true rfl) ?_
        have hF : d2_5 + 1 ≤ F := by omega
        have hLo : 48 * d2_5 + 48 ≤ Lo := by omega
        refine ax_iload (pc := 87) C d_Sat_writeOthers_87 0 rfl ?_
        refine ax_iload (pc := 89) C d_Sat_writeOthers_89 5 rfl ?_
        refine ax_iconst (pc := 91) C 0 d_Sat_writeOthers_91 (by decide +kernel) ?_
        obtain ⟨σ6, r6, d1_6, d2_6, h1, h, hd2, hd1⟩ := it_b h
        have hm : sC_Uni_write l D kA u w tx σ5 [r5, r2, x3, 0] (σ6, r6, d1_6) := ih tC_Uni_write _ _ _ h1
        refine cc_VNv (pc := 92) C (σ2 := σ6) (As := [.ref (u 39), .int r5, .int r2, .int x3, .int 0]) (rest := []) (hm _ _ _ _ rfl) ml_Sat_229 59 rfl rfl rfl d_Sat_writeOthers_92 rfl rfl (by dsimp only; omega) (by dsimp only; omega) (Nat.le_of_ble_eq_true rfl) (Nat.le_of_ble_eq_true rfl) (Nat.le_of_ble_eq_true rfl) ?_
        have hF : d2_6 + 1 ≤ F := by omega
        have hLo : 48 * d2_6 + 48 ≤ Lo := by omega
        refine ax_aload_n (pc := 95) C d_Sat_writeOthers_95 rfl 1 rfl ?_
        refine cg_53_10_Sat_31 (pc := 96) C d_Sat_writeOthers_96 ?_
        obtain ⟨σ7, r7, d1_7, d2_7, h1, h, hd2, hd1⟩ := it_b h
        have hm : sC_Dra_openRight l D kA u w tx σ6 [] (σ7, r7, d1_7) := ih tC_Dra_openRight _ _ _ h1
        refine cc_Vv (pc := 99) C (σ2 := σ7) (As := []) (rest := []) (hm rfl) ml_Sat_233 39 rfl rfl rfl d_Sat_writeOthers_99 rfl rfl (by dsimp only; omega) (by dsimp only; omega) (Nat.le_of_ble_eq_true rfl) (Nat.le_of_ble_eq_true rfl) (Nat.le_of_ble_eq_true rfl) ?_
        have hF : d2_7 + 1 ≤ F := by omega
        have hLo : 48 * d2_7 + 48 ≤ Lo := by omega
        refine ax_aload_n (pc := 102) C d_Sat_writeOthers_102 rfl 1 rfl ?_
        refine cg_53_11_Sat_45 (pc := 103) C d_Sat_writeOthers_103 ?_
        refine ax_aload_n (pc := 106) C d_Sat_writeOthers_106 rfl 1 rfl ?_
        refine cg_53_10_Sat_31 (pc := 107) C d_Sat_writeOthers_107 ?_
        refine ax_iload (pc := 110) C d_Sat_writeOthers_110 0 rfl ?_
        refine ax_aload_n (pc := 112) C d_Sat_writeOthers_112 rfl 1 rfl ?_
        refine cg_53_9_Sat_27 (pc := 113) C d_Sat_writeOthers_113 ?_
        refine ax_iload (pc := 116) C d_Sat_writeOthers_116 6 rfl ?_
        obtain ⟨σ8, r8, d1_8, d2_8, h1, h, hd2, hd1⟩ := it_b h
        have hm : sC_Sto_behind l D kA u w tx σ7 [x4] (σ8, r8, d1_8) := ih tC_Sto_behind _ _ _ h1
        refine cc_Vi (pc := 118) C (r0 := r8) (σ2 := σ8) (As := [.int x4]) (rest := [.int r2, .ref (u 39), .ref (u 59)]) (hm _ rfl) ml_Sat_236 54 rfl rfl rfl d_Sat_writeOthers_118 rfl rfl (by dsimp only; omega) (by dsimp only; omega) (Nat.le_of_ble_eq_true rfl) (Nat.le_of_ble_eq_true rfl) (Nat.le_of_ble_eq_true rfl) ?_
        have hF : d2_8 + 1 ≤ F := by omega
        have hLo : 48 * d2_8 + 48 ≤ Lo := by omega
        refine ax_iload (pc := 121) C d_Sat_writeOthers_121 5 rfl ?_
        refine ax_iconst (pc := 123) C 0 d_Sat_writeOthers_123 (by decide +kernel) ?_
        obtain ⟨σ9, r9, d1_9, d2_9, h1, h, hd2, hd1⟩ := it_b h
        have hm : sC_Uni_write l D kA u w tx σ8 [r2, r8, x3, 0] (σ9, r9, d1_9) := ih tC_Uni_write _ _ _ h1
        refine cc_VNv (pc := 124) C (σ2 := σ9) (As := [.ref (u 39), .int r2, .int r8, .int x3, .int 0]) (rest := []) (hm _ _ _ _ rfl) ml_Sat_229 59 rfl rfl rfl d_Sat_writeOthers_124 rfl rfl (by dsimp only; omega) (by dsimp only; omega) (Nat.le_of_ble_eq_true rfl) (Nat.le_of_ble_eq_true rfl) (Nat.le_of_ble_eq_true rfl) ?_
        have hF : d2_9 + 1 ≤ F := by omega
        have hLo : 48 * d2_9 + 48 ≤ Lo := by omega
        refine ax_aload_n (pc := 127) C d_Sat_writeOthers_127 rfl 1 rfl ?_
        refine cg_53_10_Sat_31 (pc := 128) C d_Sat_writeOthers_128 ?_
        obtain ⟨σ10, r10, d1_10, d2_10, h1, h, hd2, hd1⟩ := it_b h
        have hm : sC_Dra_closeLiteral l D kA u w tx σ9 [] (σ10, r10, d1_10) := ih tC_Dra_closeLiteral _ _ _ h1
        refine cc_Vv (pc := 131) C (σ2 := σ10) (As := []) (rest := []) (hm rfl) ml_Sat_239 39 rfl rfl rfl d_Sat_writeOthers_131 rfl rfl (by dsimp only; omega) (by dsimp only; omega) (Nat.le_of_ble_eq_true rfl) (Nat.le_of_ble_eq_true rfl) (Nat.le_of_ble_eq_true rfl) ?_
        have hF : d2_10 + 1 ≤ F := by omega
        have hLo : 48 * d2_10 + 48 ≤ Lo := by omega
        refine ax_ls ([(0, .ref (u 53)), (1, .int x0), (2, .int x1), (3, .int x2), (4, .int x3), (5, .int x4), (6, .int x5)]) [1, 2, 3, 4, 5, 6, 7] rfl ?_
        have hm : sC_Sat_writeOthers_p134 l D kA u w tx σ10 [x0, x1, x2, x3, x4, x5] (σf, rf, _) := ih tC_Sat_writeOthers_p134 _ _ _ h
        exact hm _ _ _ _ _ _ rfl p e s m args below meth c F Lo σ0 hF hLo C
set_option maxHeartbeats 4000000 in
set_option maxRecDepth 100000 in
theorem oC_Sat_writeOthers_p134 (l : Launch) (D : va_G) (kA : Nat → ClassId) (u w : Nat → Nat) (tx : Value) (rec : mF) (ih : ∀ t σ xs res, rec t σ xs = some res → cSem l D kA u w tx t σ xs res) (σ : mS) (xs : List Int32) (res : mR) (h : u_6 (kC_Sat_writeOthers_p134 rec σ) xs = some res) : sC_Sat_writeOthers_p134 l D kA u w tx σ xs res := by
  intro x0 x1 x2 x3 x4 x5 hxs
  subst hxs
  obtain ⟨σf, rf, dd⟩ := res
  have h : (bnd (rec tC_Sto_behind σ [x4]) (fun σ1 r1 => rec tC_Sat_writeOthers_p15 σ1 [x0, x1, x2, x3, r1, (x5 + 1)])) = some (σf, rf, dd) := h
  intro p e s m args below meth c F Lo σ0 hF hLo C
  dsimp only at hF hLo ⊢
  refine ax_aload_n (pc := 134) C d_Sat_writeOthers_134 rfl 0 rfl ?_
  refine cg_53_9_Sat_27 (pc := 135) C d_Sat_writeOthers_135 ?_
  refine ax_iload (pc := 138) C d_Sat_writeOthers_138 5 rfl ?_
  obtain ⟨σ1, r1, d1_1, d2_1, h1, h, hd2, hd1⟩ := it_b h
  have hm : sC_Sto_behind l D kA u w tx σ [x4] (σ1, r1, d1_1) := ih tC_Sto_behind _ _ _ h1
  refine cc_Vi (pc := 140) C (r0 := r1) (σ2 := σ1) (As := [.int x4]) (rest := []) (hm _ rfl) ml_Sat_236 54 rfl rfl rfl d_Sat_writeOthers_140 rfl rfl (by dsimp only; omega) (by dsimp only; omega) (Nat.le_of_ble_eq_true rfl) (Nat.le_of_ble_eq_true rfl) (Nat.le_of_ble_eq_true rfl) ?_
  have hF : d2_1 + 1 ≤ F := by omega
  have hLo : 48 * d2_1 + 48 ≤ Lo := by omega
  refine ax_istore (pc := 143) C d_Sat_writeOthers_143 (Nat.le_of_ble_eq_true rfl) ([(5, .int r1), (0, .ref (u 53)), (1, .int x0), (2, .int x1), (3, .int x2), (4, .int x3), (6, .int x5)]) rfl ?_
  refine ax_iinc (pc := 145) C (x5 + 1) d_Sat_writeOthers_145 6 rfl rfl (Nat.le_of_ble_eq_true rfl) ([(6, .int (x5 + 1)), (5, .int r1), (0, .ref (u 53)), (1, .int x0), (2, .int x1), (3, .int x2), (4, .int x3)]) rfl ?_
  refine ax_goto (pc := 148) C 15 d_Sat_writeOthers_148 (by decide) ?_
  refine ax_ls ([(0, .ref (u 53)), (1, .int x0), (2, .int x1), (3, .int x2), (4, .int x3), (5, .int r1), (6, .int (x5 + 1))]) [2, 3, 4, 5, 6, 1, 0] rfl ?_
  have hm : sC_Sat_writeOthers_p15 l D kA u w tx σ1 [x0, x1, x2, x3, r1, (x5 + 1)] (σf, rf, _) := ih tC_Sat_writeOthers_p15 _ _ _ h
  exact hm _ _ _ _ _ _ rfl p e s m args below meth c F Lo σ0 hF hLo C
set_option maxHeartbeats 4000000 in
set_option maxRecDepth 100000 in
theorem oC_Sat_writePair (l : Launch) (D : va_G) (kA : Nat → ClassId) (u w : Nat → Nat) (tx : Value) (rec : mF) (ih : ∀ t σ xs res, rec t σ xs = some res → cSem l D kA u w tx t σ xs res) (σ : mS) (xs : List Int32) (res : mR) (h : u_5 (kC_Sat_writePair rec σ) xs = some res) : sC_Sat_writePair l D kA u w tx σ xs res := by
  intro x0 x1 x2 x3 x4 hxs
  subst hxs
  obtain ⟨σf, rf, dd⟩ := res
  have h : (bnd (rec tC_Sto_sideAt σ [x1, x2]) (fun σ1 r1 => bnd (rec tC_Sto_sideAt σ1 [x3, x4]) (fun σ2 r2 => bnd (rec tC_Dra_openLiteral σ2 [x0]) (fun σ3 r3 => bnd (rec tC_Sto_sideSize σ3 [x1, x2]) (fun σ4 r4 => bnd (rec tC_Uni_write σ4 [r1, ((r1 : Int32) + r4), 0, 0]) (fun σ5 r5 => bnd (rec tC_Dra_openRight σ5 []) (fun σ6 r6 => bnd (rec tC_Sto_sideSize σ6 [x3, x4]) (fun σ7 r7 => bnd (rec tC_Uni_write σ7 [r2, ((r2 : Int32) + r7), 0, 0]) (fun σ8 r8 => bnd (rec tC_Dra_closeLiteral σ8 []) (fun σ9 r9 => some (σ9, 0, 0))))))))))) = some (σf, rf, dd) := h
  refine ax_Mv.of (by decide +kernel) (Nat.le_of_ble_eq_true rfl) ?_
  intro p e s m args below meth c C hnm
  have C : ax_C p s m args meth c b_Sat_writePair "ClauseProver$Saturation" 8 none D kA (va_A (cpW kA u w tx σ) s.heap.size) := C
  obtain ⟨F, hFe⟩ : ∃ F, F = dd + 1 := ⟨_, rfl⟩
  obtain ⟨Lo, hLoe⟩ : ∃ Lo, Lo = 48 * dd + 48 := ⟨_, rfl⟩
  obtain ⟨σ0, hσ0⟩ : ∃ s0, s0 = σ := ⟨_, rfl⟩
  suffices K : AW p l e { frames := F, cells := 0, slots := 0, locals := Lo } s m args below meth c D kA (va_A (cpW kA u w tx σ0) s.heap.size) 8 (ax_Qv below args s D kA (cpW kA u w tx σ0) 0 0 (fun w1 => w1 = cpW kA u w tx σf)) 0 [(0, .ref (u 53)), (1, .int x0), (2, .int x1), (3, .int x2), (4, .int x3), (5, .int x4)] [] (cpW kA u w tx σ) 0 0 by rw [hFe, hLoe, hσ0] at K; exact ax_ls ([(0, .ref (u 53)), (1, .int x0), (2, .int x1), (3, .int x2), (4, .int x3), (5, .int x4)]) [0, 1, 2, 3, 4, 5] rfl K
  have C : ax_C p s m args meth c b_Sat_writePair "ClauseProver$Saturation" 8 none D kA (va_A (cpW kA u w tx σ0) s.heap.size) := by rw [hσ0]; exact C
  have hF : dd + 1 ≤ F := by omega
  have hLo : 48 * dd + 48 ≤ Lo := by omega
  clear hFe hLoe hσ0
  refine ax_aload_n (pc := 0) C d_Sat_writePair_0 rfl 0 rfl ?_
  refine cg_53_9_Sat_27 (pc := 1) C d_Sat_writePair_1 ?_
  refine ax_iload_n (pc := 4) C d_Sat_writePair_4 rfl 2 rfl ?_
  refine ax_iload_n (pc := 5) C d_Sat_writePair_5 rfl 3 rfl ?_
  obtain ⟨σ1, r1, d1_1, d2_1, h1, h, hd2, hd1⟩ := it_b h
  have hm : sC_Sto_sideAt l D kA u w tx σ [x1, x2] (σ1, r1, d1_1) := ih tC_Sto_sideAt _ _ _ h1
  refine cc_Vi (pc := 6) C (r0 := r1) (σ2 := σ1) (As := [.int x1, .int x2]) (rest := []) (hm _ _ rfl) ml_Sat_200 54 rfl rfl rfl d_Sat_writePair_6 rfl rfl (by dsimp only; omega) (by dsimp only; omega) (Nat.le_of_ble_eq_true rfl) (Nat.le_of_ble_eq_true rfl) (Nat.le_of_ble_eq_true rfl) ?_
  have hF : d2_1 + 1 ≤ F := by omega
  have hLo : 48 * d2_1 + 48 ≤ Lo := by omega
  refine ax_istore (pc := 9) C d_Sat_writePair_9 (Nat.le_of_ble_eq_true rfl) ([(6, .int r1), (0, .ref (u 53)), (1, .int x0), (2, .int x1), (3, .int x2), (4, .int x3), (5, .int x4)]) rfl ?_
  refine ax_aload_n (pc := 11) C d_Sat_writePair_11 rfl 1 rfl ?_
  refine cg_53_9_Sat_27 (pc := 12) C d_Sat_writePair_12 ?_
  refine ax_iload (pc := 15) C d_Sat_writePair_15 5 rfl ?_
  refine ax_iload (pc := 17) C d_Sat_writePair_17 6 rfl ?_
  obtain ⟨σ2, r2, d1_2, d2_2, h1, h, hd2, hd1⟩ := it_b h
  have hm : sC_Sto_sideAt l D kA u w tx σ1 [x3, x4] (σ2, r2, d1_2) := ih tC_Sto_sideAt _ _ _ h1
  refine cc_Vi (pc := 19) C (r0 := r2) (σ2 := σ2) (As := [.int x3, .int x4]) (rest := []) (hm _ _ rfl) ml_Sat_200 54 rfl rfl rfl d_Sat_writePair_19 rfl rfl (by dsimp only; omega) (by dsimp only; omega) (Nat.le_of_ble_eq_true rfl) (Nat.le_of_ble_eq_true rfl) (Nat.le_of_ble_eq_true rfl) ?_
  have hF : d2_2 + 1 ≤ F := by omega
  have hLo : 48 * d2_2 + 48 ≤ Lo := by omega
  refine ax_istore (pc := 22) C d_Sat_writePair_22 (Nat.le_of_ble_eq_true rfl) ([(7, .int r2), (6, .int r1), (0, .ref (u 53)), (1, .int x0), (2, .int x1), (3, .int x2), (4, .int x3), (5, .int x4)]) rfl ?_
  refine ax_aload_n (pc := 24) C d_Sat_writePair_24 rfl 2 rfl ?_
  refine cg_53_10_Sat_31 (pc := 25) C d_Sat_writePair_25 ?_
  refine ax_iload_n (pc := 28) C d_Sat_writePair_28 rfl 3 rfl ?_
  obtain ⟨σ3, r3, d1_3, d2_3, h1, h, hd2, hd1⟩ := it_b h
  have hm : sC_Dra_openLiteral l D kA u w tx σ2 [x0] (σ3, r3, d1_3) := ih tC_Dra_openLiteral _ _ _ h1
  refine cc_Vv (pc := 29) C (σ2 := σ3) (As := [.int x0]) (rest := []) (hm _ rfl) ml_Sat_225 39 rfl rfl rfl d_Sat_writePair_29 rfl rfl (by dsimp only; omega) (by dsimp only; omega) (Nat.le_of_ble_eq_true rfl) (Nat.le_of_ble_eq_true rfl) (Nat.le_of_ble_eq_true rfl) ?_
  have hF : d2_3 + 1 ≤ F := by omega
  have hLo : 48 * d2_3 + 48 ≤ Lo := by omega
  refine ax_aload_n (pc := 32) C d_Sat_writePair_32 rfl 2 rfl ?_
  refine cg_53_11_Sat_45 (pc := 33) C d_Sat_writePair_33 ?_
  refine ax_aload_n (pc := 36) C d_Sat_writePair_36 rfl 2 rfl ?_
  refine cg_53_10_Sat_31 (pc := 37) C d_Sat_writePair_37 ?_
  refine ax_iload (pc := 40) C d_Sat_writePair_40 1 rfl ?_
  refine ax_iload (pc := 42) C d_Sat_writePair_42 1 rfl ?_
  refine ax_aload_n (pc := 44) C d_Sat_writePair_44 rfl 2 rfl ?_
  refine cg_53_9_Sat_27 (pc := 45) C d_Sat_writePair_45 ?_
  refine ax_iload_n (pc := 48) C d_Sat_writePair_48 rfl 4 rfl ?_
  refine ax_iload_n (pc := 49) C d_Sat_writePair_49 rfl 5 rfl ?_
  obtain ⟨σ4, r4, d1_4, d2_4, h1, h, hd2, hd1⟩ := it_b h
  have hm : sC_Sto_sideSize l D kA u w tx σ3 [x1, x2] (σ4, r4, d1_4) := ih tC_Sto_sideSize _ _ _ h1
  refine cc_Vi (pc := 50) C (r0 := r4) (σ2 := σ4) (As := [.int x1, .int x2]) (rest := [.int r1, .int r1, .ref (u 39), .ref (u 59)]) (hm _ _ rfl) ml_Sat_203 54 rfl rfl rfl d_Sat_writePair_50 rfl rfl (by dsimp only; omega) (by dsimp only; omega) (Nat.le_of_ble_eq_true rfl) (Nat.le_of_ble_eq_true rfl) (Nat.le_of_ble_eq_true rfl) ?_
  have hF : d2_4 + 1 ≤ F := by omega
  have hLo : 48 * d2_4 + 48 ≤ Lo := by omega
  refine ax_iadd (pc := 53) C d_Sat_writePair_53 ?_
  refine ax_iconst (pc := 54) C 0 d_Sat_writePair_54 (by decide +kernel) ?_
  refine ax_iconst (pc := 55) C 0 d_Sat_writePair_55 (by decide +kernel) ?_
  obtain ⟨σ5, r5, d1_5, d2_5, h1, h, hd2, hd1⟩ := it_b h
  have hm : sC_Uni_write l D kA u w tx σ4 [r1, ((r1 : Int32) + r4), 0, 0] (σ5, r5, d1_5) := ih tC_Uni_write _ _ _ h1
  refine cc_VNv (pc := 56) C (σ2 := σ5) (As := [.ref (u 39), .int r1, .int ((r1 : Int32) + r4), .int 0, .int 0]) (rest := []) (hm _ _ _ _ rfl) ml_Sat_229 59 rfl rfl rfl d_Sat_writePair_56 rfl rfl (by dsimp only; omega) (by dsimp only; omega) (Nat.le_of_ble_eq_true rfl) (Nat.le_of_ble_eq_true rfl) (Nat.le_of_ble_eq_true rfl) ?_
  have hF : d2_5 + 1 ≤ F := by omega
  have hLo : 48 * d2_5 + 48 ≤ Lo := by omega
  refine ax_aload_n (pc := 59) C d_Sat_writePair_59 rfl 2 rfl ?_
  refine cg_53_10_Sat_31 (pc := 60) C d_Sat_writePair_60 ?_
  obtain ⟨σ6, r6, d1_6, d2_6, h1, h, hd2, hd1⟩ := it_b h
  have hm : sC_Dra_openRight l D kA u w tx σ5 [] (σ6, r6, d1_6) := ih tC_Dra_openRight _ _ _ h1
  refine cc_Vv (pc := 63) C (σ2 := σ6) (As := []) (rest := []) (hm rfl) ml_Sat_233 39 rfl rfl rfl d_Sat_writePair_63 rfl rfl (by dsimp only; omega) (by dsimp only; omega) (Nat.le_of_ble_eq_true rfl) (Nat.le_of_ble_eq_true rfl) (Nat.le_of_ble_eq_true rfl) ?_
  have hF : d2_6 + 1 ≤ F := by omega
  have hLo : 48 * d2_6 + 48 ≤ Lo := by omega
  refine ax_aload_n (pc := 66) C d_Sat_writePair_66 rfl 2 rfl ?_
  refine cg_53_11_Sat_45 (pc := 67) C d_Sat_writePair_67 ?_
  refine ax_aload_n (pc := 70) C d_Sat_writePair_70 rfl 2 rfl ?_
  refine cg_53_10_Sat_31 (pc := 71) C d_Sat_writePair_71 ?_
  refine ax_iload (pc := 74) C d_Sat_writePair_74 0 rfl ?_
  refine ax_iload (pc := 76) C d_Sat_writePair_76 0 rfl ?_
  refine ax_aload_n (pc := 78) C d_Sat_writePair_78 rfl 2 rfl ?_
  refine cg_53_9_Sat_27 (pc := 79) C d_Sat_writePair_79 ?_
  refine ax_iload (pc := 82) C d_Sat_writePair_82 6 rfl ?_
  refine ax_iload (pc := 84) C d_Sat_writePair_84 7 rfl ?_
  obtain ⟨σ7, r7, d1_7, d2_7, h1, h, hd2, hd1⟩ := it_b h
  have hm : sC_Sto_sideSize l D kA u w tx σ6 [x3, x4] (σ7, r7, d1_7) := ih tC_Sto_sideSize _ _ _ h1
  refine cc_Vi (pc := 86) C (r0 := r7) (σ2 := σ7) (As := [.int x3, .int x4]) (rest := [.int r2, .int r2, .ref (u 39), .ref (u 59)]) (hm _ _ rfl) ml_Sat_203 54 rfl rfl rfl d_Sat_writePair_86 rfl rfl (by dsimp only; omega) (by dsimp only; omega) (Nat.le_of_ble_eq_true rfl) (Nat.le_of_ble_eq_true rfl) (Nat.le_of_ble_eq_true rfl) ?_
  have hF : d2_7 + 1 ≤ F := by omega
  have hLo : 48 * d2_7 + 48 ≤ Lo := by omega
  refine ax_iadd (pc := 89) C d_Sat_writePair_89 ?_
  refine ax_iconst (pc := 90) C 0 d_Sat_writePair_90 (by decide +kernel) ?_
  refine ax_iconst (pc := 91) C 0 d_Sat_writePair_91 (by decide +kernel) ?_
  obtain ⟨σ8, r8, d1_8, d2_8, h1, h, hd2, hd1⟩ := it_b h
  have hm : sC_Uni_write l D kA u w tx σ7 [r2, ((r2 : Int32) + r7), 0, 0] (σ8, r8, d1_8) := ih tC_Uni_write _ _ _ h1
  refine cc_VNv (pc := 92) C (σ2 := σ8) (As := [.ref (u 39), .int r2, .int ((r2 : Int32) + r7), .int 0, .int 0]) (rest := []) (hm _ _ _ _ rfl) ml_Sat_229 59 rfl rfl rfl d_Sat_writePair_92 rfl rfl (by dsimp only; omega) (by dsimp only; omega) (Nat.le_of_ble_eq_true rfl) (Nat.le_of_ble_eq_true rfl) (Nat.le_of_ble_eq_true rfl) ?_
  have hF : d2_8 + 1 ≤ F := by omega
  have hLo : 48 * d2_8 + 48 ≤ Lo := by omega
  refine ax_aload_n (pc := 95) C d_Sat_writePair_95 rfl 2 rfl ?_
  refine cg_53_10_Sat_31 (pc := 96) C d_Sat_writePair_96 ?_
  obtain ⟨σ9, r9, d1_9, d2_9, h1, h, hd2, hd1⟩ := it_b h
  have hm : sC_Dra_closeLiteral l D kA u w tx σ8 [] (σ9, r9, d1_9) := ih tC_Dra_closeLiteral _ _ _ h1
  refine cc_Vv (pc := 99) C (σ2 := σ9) (As := []) (rest := []) (hm rfl) ml_Sat_239 39 rfl rfl rfl d_Sat_writePair_99 rfl rfl (by dsimp only; omega) (by dsimp only; omega) (Nat.le_of_ble_eq_true rfl) (Nat.le_of_ble_eq_true rfl) (Nat.le_of_ble_eq_true rfl) ?_
  have hF : d2_9 + 1 ≤ F := by omega
  have hLo : 48 * d2_9 + 48 ≤ Lo := by omega
  cases h
  exact ax_vret (pc := 102) C d_Sat_writePair_102 rfl (Nat.le_refl _) (Nat.le_refl _)
set_option maxHeartbeats 4000000 in
set_option maxRecDepth 100000 in
theorem oC_Sat_writeRange (l : Launch) (D : va_G) (kA : Nat → ClassId) (u w : Nat → Nat) (tx : Value) (rec : mF) (ih : ∀ t σ xs res, rec t σ xs = some res → cSem l D kA u w tx t σ xs res) (σ : mS) (xs : List Int32) (res : mR) (h : u_5 (kC_Sat_writeRange rec σ) xs = some res) : sC_Sat_writeRange l D kA u w tx σ xs res := by
  intro x0 x1 x2 x3 x4 hxs
  subst hxs
  obtain ⟨σf, rf, dd⟩ := res
  have h : (if x2 < x0 then (rec tC_Sat_writeRange_p10 σ [x0, x1, x2, x3, x4]) else (if x2 < x1 then (bnd (rec tC_Sto_sideAt σ [x3, x4]) (fun σ1 r1 => bnd (rec tC_Uni_write σ1 [x0, x2, 6, 0]) (fun σ2 r2 => bnd (rec tC_Sto_sideSize σ2 [x3, x4]) (fun σ3 r3 => bnd (rec tC_Uni_write σ3 [r1, ((r1 : Int32) + r3), 0, 0]) (fun σ4 r4 => bnd (rec tC_Sym_after_48 σ4 [x2]) (fun σ5 r5 => bnd (rec tC_Uni_write σ5 [r5, x1, 6, 0]) (fun σ6 r6 => some (σ6, 0, 0)))))))) else (rec tC_Sat_writeRange_p10 σ [x0, x1, x2, x3, x4]))) = some (σf, rf, dd) := h
  refine ax_Mv.of (by decide +kernel) (Nat.le_of_ble_eq_true rfl) ?_
  intro p e s m args below meth c C hnm
  have C : ax_C p s m args meth c b_Sat_writeRange "ClauseProver$Saturation" 7 none D kA (va_A (cpW kA u w tx σ) s.heap.size) := C
  obtain ⟨F, hFe⟩ : ∃ F, F = dd + 1 := ⟨_, rfl⟩
  obtain ⟨Lo, hLoe⟩ : ∃ Lo, Lo = 48 * dd + 48 := ⟨_, rfl⟩
  obtain ⟨σ0, hσ0⟩ : ∃ s0, s0 = σ := ⟨_, rfl⟩
  suffices K : AW p l e { frames := F, cells := 0, slots := 0, locals := Lo } s m args below meth c D kA (va_A (cpW kA u w tx σ0) s.heap.size) 7 (ax_Qv below args s D kA (cpW kA u w tx σ0) 0 0 (fun w1 => w1 = cpW kA u w tx σf)) 0 [(0, .ref (u 53)), (1, .int x0), (2, .int x1), (3, .int x2), (4, .int x3), (5, .int x4)] [] (cpW kA u w tx σ) 0 0 by rw [hFe, hLoe, hσ0] at K; exact ax_ls ([(0, .ref (u 53)), (1, .int x0), (2, .int x1), (3, .int x2), (4, .int x3), (5, .int x4)]) [0, 1, 2, 3, 4, 5] rfl K
  have C : ax_C p s m args meth c b_Sat_writeRange "ClauseProver$Saturation" 7 none D kA (va_A (cpW kA u w tx σ0) s.heap.size) := by rw [hσ0]; exact C
  have hF : dd + 1 ≤ F := by omega
  have hLo : 48 * dd + 48 ≤ Lo := by omega
  clear hFe hLoe hσ0
  refine ax_iload_n (pc := 0) C d_Sat_writeRange_0 rfl 3 rfl ?_
  refine ax_iload_n (pc := 1) C d_Sat_writeRange_1 rfl 1 rfl ?_
  refine ax_icmp_lt (pc := 2) C 10 d_Sat_writeRange_2 (by decide) (fun hc => ?_) (fun hc => ?_)
  · have h := it_t hc h
    refine ax_ls ([(0, .ref (u 53)), (1, .int x0), (2, .int x1), (3, .int x2), (4, .int x3), (5, .int x4)]) [0, 1, 2, 3, 4, 5] rfl ?_
    have hm : sC_Sat_writeRange_p10 l D kA u w tx σ [x0, x1, x2, x3, x4] (σf, rf, _) := ih tC_Sat_writeRange_p10 _ _ _ h
    exact hm _ _ _ _ _ rfl p e s m args below meth c F Lo σ0 hF hLo C
  · have h := it_f hc h
    refine ax_iload_n (pc := 5) C d_Sat_writeRange_5 rfl 3 rfl ?_
    refine ax_iload_n (pc := 6) C d_Sat_writeRange_6 rfl 2 rfl ?_
    refine ax_icmp_lt (pc := 7) C 27 d_Sat_writeRange_7 (by decide) (fun hc => ?_) (fun hc => ?_)
    · have h := it_t hc h
      refine ax_aload_n (pc := 27) C d_Sat_writeRange_27 rfl 0 rfl ?_
      refine cg_53_9_Sat_27 (pc := 28) C d_Sat_writeRange_28 ?_
      refine ax_iload (pc := 31) C d_Sat_writeRange_31 4 rfl ?_
      refine ax_iload (pc := 33) C d_Sat_writeRange_33 5 rfl ?_
      obtain ⟨σ1, r1, d1_1, d2_1, h1, h, hd2, hd1⟩ := it_b h
      have hm : sC_Sto_sideAt l D kA u w tx σ [x3, x4] (σ1, r1, d1_1) := ih tC_Sto_sideAt _ _ _ h1
      refine cc_Vi (pc := 35) C (r0 := r1) (σ2 := σ1) (As := [.int x3, .int x4]) (rest := []) (hm _ _ rfl) ml_Sat_200 54 rfl rfl rfl d_Sat_writeRange_35 rfl rfl (by dsimp only; omega) (by dsimp only; omega) (Nat.le_of_ble_eq_true rfl) (Nat.le_of_ble_eq_true rfl) (Nat.le_of_ble_eq_true rfl) ?_
      have hF : d2_1 + 1 ≤ F := by omega
      have hLo : 48 * d2_1 + 48 ≤ Lo := by omega
      refine ax_istore (pc := 38) C d_Sat_writeRange_38 (Nat.le_of_ble_eq_true rfl) ([(6, .int r1), (0, .ref (u 53)), (1, .int x0), (2, .int x1), (3, .int x2), (4, .int x3), (5, .int x4)]) rfl ?_
      refine ax_aload_n (pc := 40) C d_Sat_writeRange_40 rfl 1 rfl ?_
      refine cg_53_11_Sat_45 (pc := 41) C d_Sat_writeRange_41 ?_
      refine ax_aload_n (pc := 44) C d_Sat_writeRange_44 rfl 1 rfl ?_
      refine cg_53_10_Sat_31 (pc := 45) C d_Sat_writeRange_45 ?_
      refine ax_iload_n (pc := 48) C d_Sat_writeRange_48 rfl 2 rfl ?_
      refine ax_iload_n (pc := 49) C d_Sat_writeRange_49 rfl 4 rfl ?_
      refine ax_bipush (pc := 50) C 6 d_Sat_writeRange_50 (by decide +kernel) ?_
      refine ax_iconst (pc := 52) C 0 d_Sat_writeRange_52 (by decide +kernel) ?_
      obtain ⟨σ2, r2, d1_2, d2_2, h1, h, hd2, hd1⟩ := it_b h
      have hm : sC_Uni_write l D kA u w tx σ1 [x0, x2, 6, 0] (σ2, r2, d1_2) := ih tC_Uni_write _ _ _ h1
      refine cc_VNv (pc := 53) C (σ2 := σ2) (As := [.ref (u 39), .int x0, .int x2, .int 6, .int 0]) (rest := []) (hm _ _ _ _ rfl) ml_Sat_229 59 rfl rfl rfl d_Sat_writeRange_53 rfl rfl (by dsimp only; omega) (by dsimp only; omega) (Nat.le_of_ble_eq_true rfl) (Nat.le_of_ble_eq_true rfl) (Nat.le_of_ble_eq_true rfl) ?_
      have hF : d2_2 + 1 ≤ F := by omega
      have hLo : 48 * d2_2 + 48 ≤ Lo := by omega
      refine ax_aload_n (pc := 56) C d_Sat_writeRange_56 rfl 1 rfl ?_
      refine cg_53_11_Sat_45 (pc := 57) C d_Sat_writeRange_57 ?_
      refine ax_aload_n (pc := 60) C d_Sat_writeRange_60 rfl 1 rfl ?_
      refine cg_53_10_Sat_31 (pc := 61) C d_Sat_writeRange_61 ?_
      refine ax_iload (pc := 64) C d_Sat_writeRange_64 0 rfl ?_
      refine ax_iload (pc := 66) C d_Sat_writeRange_66 0 rfl ?_
      refine ax_aload_n (pc := 68) C d_Sat_writeRange_68 rfl 1 rfl ?_
      refine cg_53_9_Sat_27 (pc := 69) C d_Sat_writeRange_69 ?_
      refine ax_iload (pc := 72) C d_Sat_writeRange_72 5 rfl ?_
      refine ax_iload (pc := 74) C d_Sat_writeRange_74 6 rfl ?_
      obtain ⟨σ3, r3, d1_3, d2_3, h1, h, hd2, hd1⟩ := it_b h
      have hm : sC_Sto_sideSize l D kA u w tx σ2 [x3, x4] (σ3, r3, d1_3) := ih tC_Sto_sideSize _ _ _ h1
      refine cc_Vi (pc := 76) C (r0 := r3) (σ2 := σ3) (As := [.int x3, .int x4]) (rest := [.int r1, .int r1, .ref (u 39), .ref (u 59)]) (hm _ _ rfl) ml_Sat_203 54 rfl rfl rfl d_Sat_writeRange_76 rfl rfl (by dsimp only; omega) (by dsimp only; omega) (Nat.le_of_ble_eq_true rfl) (Nat.le_of_ble_eq_true rfl) (Nat.le_of_ble_eq_true rfl) ?_
      have hF : d2_3 + 1 ≤ F := by omega
      have hLo : 48 * d2_3 + 48 ≤ Lo := by omega
      refine ax_iadd (pc := 79) C d_Sat_writeRange_79 ?_
      refine ax_iconst (pc := 80) C 0 d_Sat_writeRange_80 (by decide +kernel) ?_
      refine ax_iconst (pc := 81) C 0 d_Sat_writeRange_81 (by decide +kernel) ?_
      obtain ⟨σ4, r4, d1_4, d2_4, h1, h, hd2, hd1⟩ := it_b h
      have hm : sC_Uni_write l D kA u w tx σ3 [r1, ((r1 : Int32) + r3), 0, 0] (σ4, r4, d1_4) := ih tC_Uni_write _ _ _ h1
      refine cc_VNv (pc := 82) C (σ2 := σ4) (As := [.ref (u 39), .int r1, .int ((r1 : Int32) + r3), .int 0, .int 0]) (rest := []) (hm _ _ _ _ rfl) ml_Sat_229 59 rfl rfl rfl d_Sat_writeRange_82 rfl rfl (by dsimp only; omega) (by dsimp only; omega) (Nat.le_of_ble_eq_true rfl) (Nat.le_of_ble_eq_true rfl) (Nat.le_of_ble_eq_true rfl) ?_
      have hF : d2_4 + 1 ≤ F := by omega
      have hLo : 48 * d2_4 + 48 ≤ Lo := by omega
      refine ax_aload_n (pc := 85) C d_Sat_writeRange_85 rfl 1 rfl ?_
      refine cg_53_11_Sat_45 (pc := 86) C d_Sat_writeRange_86 ?_
      refine ax_aload_n (pc := 89) C d_Sat_writeRange_89 rfl 1 rfl ?_
      refine cg_53_10_Sat_31 (pc := 90) C d_Sat_writeRange_90 ?_
      refine ax_aload_n (pc := 93) C d_Sat_writeRange_93 rfl 1 rfl ?_
      refine cg_53_8_Sat_23 (pc := 94) C d_Sat_writeRange_94 ?_
      refine ax_aload_n (pc := 97) C d_Sat_writeRange_97 rfl 1 rfl ?_
      refine cg_53_9_Sat_27 (pc := 98) C d_Sat_writeRange_98 ?_
      refine cg_54_0_Sat_37 (pc := 101) C d_Sat_writeRange_101 ?_
      refine cg_47_0_Sat_151 (pc := 104) C d_Sat_writeRange_104 ?_
      refine ax_iload_n (pc := 107) C d_Sat_writeRange_107 rfl 4 rfl ?_
      obtain ⟨σ5, r5, d1_5, d2_5, h1, h, hd2, hd1⟩ := it_b h
      have hm : sC_Sym_after_48 l D kA u w tx σ4 [x2] (σ5, r5, d1_5) := ih tC_Sym_after_48 _ _ _ h1
      refine cc_Vi (pc := 108) C (r0 := r5) (σ2 := σ5) (As := [.ref (w 48), .int x2]) (rest := [.ref (u 39), .ref (u 59)]) (hm _ rfl) ml_Sat_246 6 rfl rfl rfl d_Sat_writeRange_108 rfl rfl (by dsimp only; omega) (by dsimp only; omega) (Nat.le_of_ble_eq_true rfl) (Nat.le_of_ble_eq_true rfl) (Nat.le_of_ble_eq_true rfl) ?_
      have hF : d2_5 + 1 ≤ F := by omega
      have hLo : 48 * d2_5 + 48 ≤ Lo := by omega
      refine ax_iload_n (pc := 111) C d_Sat_writeRange_111 rfl 3 rfl ?_
      refine ax_bipush (pc := 112) C 6 d_Sat_writeRange_112 (by decide +kernel) ?_
      refine ax_iconst (pc := 114) C 0 d_Sat_writeRange_114 (by decide +kernel) ?_
      obtain ⟨σ6, r6, d1_6, d2_6, h1, h, hd2, hd1⟩ := it_b h
      have hm : sC_Uni_write l D kA u w tx σ5 [r5, x1, 6, 0] (σ6, r6, d1_6) := ih tC_Uni_write _ _ _ h1
      refine cc_VNv (pc := 115) C (σ2 := σ6) (As := [.ref (u 39), .int r5, .int x1, .int 6, .int 0]) (rest := []) (hm _ _ _ _ rfl) ml_Sat_229 59 rfl rfl rfl d_Sat_writeRange_115 rfl rfl (by dsimp only; omega) (by dsimp only; omega) (Nat.le_of_ble_eq_true rfl) (Nat.le_of_ble_eq_true rfl) (Nat.le_of_ble_eq_true rfl) ?_
      have hF : d2_6 + 1 ≤ F := by omega
      have hLo : 48 * d2_6 + 48 ≤ Lo := by omega
      cases h
      exact ax_vret (pc := 118) C d_Sat_writeRange_118 rfl (Nat.le_refl _) (Nat.le_refl _)
    · have h := it_f hc h
      refine ax_ls ([(0, .ref (u 53)), (1, .int x0), (2, .int x1), (3, .int x2), (4, .int x3), (5, .int x4)]) [0, 1, 2, 3, 4, 5] rfl ?_
      have hm : sC_Sat_writeRange_p10 l D kA u w tx σ [x0, x1, x2, x3, x4] (σf, rf, _) := ih tC_Sat_writeRange_p10 _ _ _ h
      exact hm _ _ _ _ _ rfl p e s m args below meth c F Lo σ0 hF hLo C
set_option maxHeartbeats 4000000 in
set_option maxRecDepth 100000 in
theorem oC_Sat_writeRange_p10 (l : Launch) (D : va_G) (kA : Nat → ClassId) (u w : Nat → Nat) (tx : Value) (rec : mF) (ih : ∀ t σ xs res, rec t σ xs = some res → cSem l D kA u w tx t σ xs res) (σ : mS) (xs : List Int32) (res : mR) (h : u_5 (kC_Sat_writeRange_p10 rec σ) xs = some res) : sC_Sat_writeRange_p10 l D kA u w tx σ xs res := by
  intro x0 x1 x2 x3 x4 hxs
  subst hxs
  obtain ⟨σf, rf, dd⟩ := res
  have h : (bnd (rec tC_Uni_write σ [x0, x1, 6, 0]) (fun σ1 r1 => some (σ1, 0, 0))) = some (σf, rf, dd) := h
  intro p e s m args below meth c F Lo σ0 hF hLo C
  dsimp only at hF hLo ⊢
  refine ax_aload_n (pc := 10) C d_Sat_writeRange_10 rfl 0 rfl ?_
  refine cg_53_11_Sat_45 (pc := 11) C d_Sat_writeRange_11 ?_
  refine ax_aload_n (pc := 14) C d_Sat_writeRange_14 rfl 0 rfl ?_
  refine cg_53_10_Sat_31 (pc := 15) C d_Sat_writeRange_15 ?_
  refine ax_iload_n (pc := 18) C d_Sat_writeRange_18 rfl 1 rfl ?_
  refine ax_iload_n (pc := 19) C d_Sat_writeRange_19 rfl 2 rfl ?_
  refine ax_bipush (pc := 20) C 6 d_Sat_writeRange_20 (by decide +kernel) ?_
  refine ax_iconst (pc := 22) C 0 d_Sat_writeRange_22 (by decide +kernel) ?_
  obtain ⟨σ1, r1, d1_1, d2_1, h1, h, hd2, hd1⟩ := it_b h
  have hm : sC_Uni_write l D kA u w tx σ [x0, x1, 6, 0] (σ1, r1, d1_1) := ih tC_Uni_write _ _ _ h1
  refine cc_VNv (pc := 23) C (σ2 := σ1) (As := [.ref (u 39), .int x0, .int x1, .int 6, .int 0]) (rest := []) (hm _ _ _ _ rfl) ml_Sat_229 59 rfl rfl rfl d_Sat_writeRange_23 rfl rfl (by dsimp only; omega) (by dsimp only; omega) (Nat.le_of_ble_eq_true rfl) (Nat.le_of_ble_eq_true rfl) (Nat.le_of_ble_eq_true rfl) ?_
  have hF : d2_1 + 1 ≤ F := by omega
  have hLo : 48 * d2_1 + 48 ≤ Lo := by omega
  cases h
  exact ax_vret (pc := 26) C d_Sat_writeRange_26 rfl (Nat.le_refl _) (Nat.le_refl _)
set_option maxHeartbeats 4000000 in
set_option maxRecDepth 100000 in
theorem oC_Sat_writeReplaced (l : Launch) (D : va_G) (kA : Nat → ClassId) (u w : Nat → Nat) (tx : Value) (rec : mF) (ih : ∀ t σ xs res, rec t σ xs = some res → cSem l D kA u w tx t σ xs res) (σ : mS) (xs : List Int32) (res : mR) (h : u_4 (kC_Sat_writeReplaced rec σ) xs = some res) : sC_Sat_writeReplaced l D kA u w tx σ xs res := by
  intro x0 x1 x2 x3 hxs
  subst hxs
  obtain ⟨σf, rf, dd⟩ := res
  have h : (bnd (rec tC_Sto_fact σ [x0, 8]) (fun σ1 r1 => rec tC_Sat_writeReplaced_p15 σ1 [x0, x1, x2, x3, r1, 0])) = some (σf, rf, dd) := h
  refine ax_Mv.of (by decide +kernel) (Nat.le_of_ble_eq_true rfl) ?_
  intro p e s m args below meth c C hnm
  have C : ax_C p s m args meth c b_Sat_writeReplaced "ClauseProver$Saturation" 8 none D kA (va_A (cpW kA u w tx σ) s.heap.size) := C
  obtain ⟨F, hFe⟩ : ∃ F, F = dd + 1 := ⟨_, rfl⟩
  obtain ⟨Lo, hLoe⟩ : ∃ Lo, Lo = 48 * dd + 48 := ⟨_, rfl⟩
  obtain ⟨σ0, hσ0⟩ : ∃ s0, s0 = σ := ⟨_, rfl⟩
  suffices K : AW p l e { frames := F, cells := 0, slots := 0, locals := Lo } s m args below meth c D kA (va_A (cpW kA u w tx σ0) s.heap.size) 8 (ax_Qv below args s D kA (cpW kA u w tx σ0) 0 0 (fun w1 => w1 = cpW kA u w tx σf)) 0 [(0, .ref (u 53)), (1, .int x0), (2, .int x1), (3, .int x2), (4, .int x3)] [] (cpW kA u w tx σ) 0 0 by rw [hFe, hLoe, hσ0] at K; exact ax_ls ([(0, .ref (u 53)), (1, .int x0), (2, .int x1), (3, .int x2), (4, .int x3)]) [0, 1, 2, 3, 4] rfl K
  have C : ax_C p s m args meth c b_Sat_writeReplaced "ClauseProver$Saturation" 8 none D kA (va_A (cpW kA u w tx σ0) s.heap.size) := by rw [hσ0]; exact C
  have hF : dd + 1 ≤ F := by omega
  have hLo : 48 * dd + 48 ≤ Lo := by omega
  clear hFe hLoe hσ0
  refine ax_aload_n (pc := 0) C d_Sat_writeReplaced_0 rfl 0 rfl ?_
  refine cg_53_9_Sat_27 (pc := 1) C d_Sat_writeReplaced_1 ?_
  refine ax_iload_n (pc := 4) C d_Sat_writeReplaced_4 rfl 1 rfl ?_
  refine ax_bipush (pc := 5) C 8 d_Sat_writeReplaced_5 (by decide +kernel) ?_
  obtain ⟨σ1, r1, d1_1, d2_1, h1, h, hd2, hd1⟩ := it_b h
  have hm : sC_Sto_fact l D kA u w tx σ [x0, 8] (σ1, r1, d1_1) := ih tC_Sto_fact _ _ _ h1
  refine cc_Vi (pc := 7) C (r0 := r1) (σ2 := σ1) (As := [.int x0, .int 8]) (rest := []) (hm _ _ rfl) ml_Sat_91 54 rfl rfl rfl d_Sat_writeReplaced_7 rfl rfl (by dsimp only; omega) (by dsimp only; omega) (Nat.le_of_ble_eq_true rfl) (Nat.le_of_ble_eq_true rfl) (Nat.le_of_ble_eq_true rfl) ?_
  have hF : d2_1 + 1 ≤ F := by omega
  have hLo : 48 * d2_1 + 48 ≤ Lo := by omega
  refine ax_istore (pc := 10) C d_Sat_writeReplaced_10 (Nat.le_of_ble_eq_true rfl) ([(5, .int r1), (0, .ref (u 53)), (1, .int x0), (2, .int x1), (3, .int x2), (4, .int x3)]) rfl ?_
  refine ax_iconst (pc := 12) C 0 d_Sat_writeReplaced_12 (by decide +kernel) ?_
  refine ax_istore (pc := 13) C d_Sat_writeReplaced_13 (Nat.le_of_ble_eq_true rfl) ([(6, .int 0), (5, .int r1), (0, .ref (u 53)), (1, .int x0), (2, .int x1), (3, .int x2), (4, .int x3)]) rfl ?_
  refine ax_ls ([(0, .ref (u 53)), (1, .int x0), (2, .int x1), (3, .int x2), (4, .int x3), (5, .int r1), (6, .int 0)]) [2, 3, 4, 5, 6, 1, 0] rfl ?_
  have hm : sC_Sat_writeReplaced_p15 l D kA u w tx σ1 [x0, x1, x2, x3, r1, 0] (σf, rf, _) := ih tC_Sat_writeReplaced_p15 _ _ _ h
  exact hm _ _ _ _ _ _ rfl p e s m args below meth c F Lo σ0 hF hLo C
set_option maxHeartbeats 4000000 in
set_option maxRecDepth 100000 in
theorem oC_Sat_writeReplaced_p15 (l : Launch) (D : va_G) (kA : Nat → ClassId) (u w : Nat → Nat) (tx : Value) (rec : mF) (ih : ∀ t σ xs res, rec t σ xs = some res → cSem l D kA u w tx t σ xs res) (σ : mS) (xs : List Int32) (res : mR) (h : u_6 (kC_Sat_writeReplaced_p15 rec σ) xs = some res) : sC_Sat_writeReplaced_p15 l D kA u w tx σ xs res := by
  intro x0 x1 x2 x3 x4 x5 hxs
  subst hxs
  obtain ⟨σf, rf, dd⟩ := res
  have h : (bnd (rec tC_Sto_fact σ [x0, 3]) (fun σ1 r1 => if r1 ≤ x5 then (some (σ1, 0, 0)) else (bnd (rec tC_Sto_sideAt σ1 [x4, 1]) (fun σ2 r2 => bnd (rec tC_Sto_isPositive σ2 [x4]) (fun σ3 r3 => bnd (rec tC_Dra_openLiteral σ3 [r3]) (fun σ4 r4 => bnd (rec tC_Sto_sideAt σ4 [x4, 0]) (fun σ5 r5 => bnd (rec tC_Sat_writeRange σ5 [r5, r2, x1, x2, x3]) (fun σ6 r6 => bnd (rec tC_Dra_openRight σ6 []) (fun σ7 r7 => bnd (rec tC_Sto_behind σ7 [x4]) (fun σ8 r8 => bnd (rec tC_Sat_writeRange σ8 [r2, r8, x1, x2, x3]) (fun σ9 r9 => bnd (rec tC_Dra_closeLiteral σ9 []) (fun σ10 r10 => bnd (rec tC_Sto_behind σ10 [x4]) (fun σ11 r11 => rec tC_Sat_writeReplaced_p15 σ11 [x0, x1, x2, x3, r11, (x5 + 1)]))))))))))))) = some (σf, rf, dd) := h
  intro p e s m args below meth c F Lo σ0 hF hLo C
  dsimp only at hF hLo ⊢
  refine ax_iload (pc := 15) C d_Sat_writeReplaced_15 6 rfl ?_
  refine ax_aload_n (pc := 17) C d_Sat_writeReplaced_17 rfl 0 rfl ?_
  refine cg_53_9_Sat_27 (pc := 18) C d_Sat_writeReplaced_18 ?_
  refine ax_iload_n (pc := 21) C d_Sat_writeReplaced_21 rfl 1 rfl ?_
  refine ax_iconst (pc := 22) C 3 d_Sat_writeReplaced_22 (by decide +kernel) ?_
  obtain ⟨σ1, r1, d1_1, d2_1, h1, h, hd2, hd1⟩ := it_b h
  have hm : sC_Sto_fact l D kA u w tx σ [x0, 3] (σ1, r1, d1_1) := ih tC_Sto_fact _ _ _ h1
  refine cc_Vi (pc := 23) C (r0 := r1) (σ2 := σ1) (As := [.int x0, .int 3]) (rest := [.int x5]) (hm _ _ rfl) ml_Sat_91 54 rfl rfl rfl d_Sat_writeReplaced_23 rfl rfl (by dsimp only; omega) (by dsimp only; omega) (Nat.le_of_ble_eq_true rfl) (Nat.le_of_ble_eq_true rfl) (Nat.le_of_ble_eq_true rfl) ?_
  have hF : d2_1 + 1 ≤ F := by omega
  have hLo : 48 * d2_1 + 48 ≤ Lo := by omega
  refine ax_icmp_ge (pc := 26) C 127 d_Sat_writeReplaced_26 (by decide) (fun hc => ?_) (fun hc => ?_)
  · have h := it_t hc h
    cases h
    exact ax_vret (pc := 127) C d_Sat_writeReplaced_127 rfl (Nat.le_refl _) (Nat.le_refl _)
  · have h := it_f hc h
    refine ax_aload_n (pc := 29) C d_Sat_writeReplaced_29 rfl 0 rfl ?_
    refine cg_53_9_Sat_27 (pc := 30) C d_Sat_writeReplaced_30 ?_
    refine ax_iload (pc := 33) C d_Sat_writeReplaced_33 5 rfl ?_
    refine ax_iconst (pc := 35) C 1 d_Sat_writeReplaced_35 (by decide +kernel) ?_
    obtain ⟨σ2, r2, d1_2, d2_2, h1, h, hd2, hd1⟩ := it_b h
    have hm : sC_Sto_sideAt l D kA u w tx σ1 [x4, 1] (σ2, r2, d1_2) := ih tC_Sto_sideAt _ _ _ h1
    refine cc_Vi (pc := 36) C (r0 := r2) (σ2 := σ2) (As := [.int x4, .int 1]) (rest := []) (hm _ _ rfl) ml_Sat_200 54 rfl rfl rfl d_Sat_writeReplaced_36 rfl rfl (by dsimp only; omega) (by dsimp only; omega) (Nat.le_of_ble_eq_true rfl) (Nat.le_of_ble_eq_true rfl) (Nat.le_of_ble_eq_true rfl) ?_
    have hF : d2_2 + 1 ≤ F := by omega
    have hLo : 48 * d2_2 + 48 ≤ Lo := by omega
    refine ax_istore (pc := 39) C d_Sat_writeReplaced_39 (Nat.le_of_ble_eq_true rfl) ([(7, .int r2), (0, .ref (u 53)), (1, .int x0), (2, .int x1), (3, .int x2), (4, .int x3), (5, .int x4), (6, .int x5)]) rfl ?_
    refine ax_aload_n (pc := 41) C d_Sat_writeReplaced_41 rfl 1 rfl ?_
    refine cg_53_10_Sat_31 (pc := 42) C d_Sat_writeReplaced_42 ?_
    refine ax_aload_n (pc := 45) C d_Sat_writeReplaced_45 rfl 1 rfl ?_
    refine cg_53_9_Sat_27 (pc := 46) C d_Sat_writeReplaced_46 ?_
    refine ax_iload (pc := 49) C d_Sat_writeReplaced_49 6 rfl ?_
    obtain ⟨σ3, r3, d1_3, d2_3, h1, h, hd2, hd1⟩ := it_b h
    have hm : sC_Sto_isPositive l D kA u w tx σ2 [x4] (σ3, r3, d1_3) := ih tC_Sto_isPositive _ _ _ h1
    refine cc_Vi (pc := 51) C (r0 := r3) (σ2 := σ3) (As := [.int x4]) (rest := [.ref (u 39)]) (hm _ rfl) ml_Sat_113 54 rfl rfl rfl d_Sat_writeReplaced_51 rfl rfl (by dsimp only; omega) (by dsimp only; omega) (Nat.le_of_ble_eq_true rfl) (Nat.le_of_ble_eq_true rfl) (Nat.le_of_ble_eq_true rfl) ?_
    have hF : d2_3 + 1 ≤ F := by omega
    have hLo : 48 * d2_3 + 48 ≤ Lo := by omega
    obtain ⟨σ4, r4, d1_4, d2_4, h1, h, hd2, hd1⟩ := it_b h
    have hm : sC_Dra_openLiteral l D kA u w tx σ3 [r3] (σ4, r4, d1_4) := ih tC_Dra_openLiteral _ _ _ h1
    refine cc_Vv (pc := 54) C (σ2 := σ4) (As := [.int r3]) (rest := []) (hm _ rfl) ml_Sat_225 39 rfl rfl rfl d_Sat_writeReplaced_54 rfl rfl (by dsimp only; omega) (by dsimp only; omega) (Nat.le_of_ble_eq_true rfl) (Nat.le_of_ble_eq_true rfl) (Nat.le_of_ble_eq_true rfl) ?_
    have hF : d2_4 + 1 ≤ F := by omega
    have hLo : 48 * d2_4 + 48 ≤ Lo := by omega
    refine ax_aload_n (pc := 57) C d_Sat_writeReplaced_57 rfl 1 rfl ?_
    refine ax_aload_n (pc := 58) C d_Sat_writeReplaced_58 rfl 1 rfl ?_
    refine cg_53_9_Sat_27 (pc := 59) C d_Sat_writeReplaced_59 ?_
    refine ax_iload (pc := 62) C d_Sat_writeReplaced_62 6 rfl ?_
    refine ax_iconst (pc := 64) C 0 d_Sat_writeReplaced_64 (by decide +kernel) ?_
    obtain ⟨σ5, r5, d1_5, d2_5, h1, h, hd2, hd1⟩ := it_b h
    have hm : sC_Sto_sideAt l D kA u w tx σ4 [x4, 0] (σ5, r5, d1_5) := ih tC_Sto_sideAt _ _ _ h1
    refine cc_Vi (pc := 65) C (r0 := r5) (σ2 := σ5) (As := [.int x4, .int 0]) (rest := [.ref (u 53)]) (hm _ _ rfl) ml_Sat_200 54 rfl rfl rfl d_Sat_writeReplaced_65 rfl rfl (by dsimp only; omega) (by dsimp only; omega) (Nat.le_of_ble_eq_true rfl) (Nat.le_of_ble_eq_true rfl) (Nat.le_of_ble_eq_true rfl) ?_
    have hF : d2_5 + 1 ≤ F := by omega
    have hLo : 48 * d2_5 + 48 ≤ Lo := by omega
    refine ax_iload (pc := 68) C d_Sat_writeReplaced_68 0 rfl ?_
    refine ax_iload_n (pc := 70) C d_Sat_writeReplaced_70 rfl 3 rfl ?_
    refine ax_iload_n (pc := 71) C d_Sat_writeReplaced_71 rfl 4 rfl ?_
    refine ax_iload (pc := 72) C d_Sat_writeReplaced_72 5 rfl ?_
    obtain ⟨σ6, r6, d1_6, d2_6, h1, h, hd2, hd1⟩ := it_b h
    have hm : sC_Sat_writeRange l D kA u w tx σ5 [r5, r2, x1, x2, x3] (σ6, r6, d1_6) := ih tC_Sat_writeRange _ _ _ h1
    refine cc_Vv (pc := 74) C (σ2 := σ6) (As := [.int r5, .int r2, .int x1, .int x2, .int x3]) (rest := []) (hm _ _ _ _ _ rfl) ml_Sat_242 53 rfl rfl rfl d_Sat_writeReplaced_74 rfl rfl (by dsimp only; omega) (by dsimp only; omega) (Nat.le_of_ble_eq_true rfl) (Nat.le_of_ble_eq_true rfl) (Nat.le_of_ble_eq_true rfl) ?_
    have hF : d2_6 + 1 ≤ F := by omega
    have hLo : 48 * d2_6 + 48 ≤ Lo := by omega
    refine ax_aload_n (pc := 77) C d_Sat_writeReplaced_77 rfl 1 rfl ?_
    refine cg_53_10_Sat_31 (pc := 78) C d_Sat_writeReplaced_78 ?_
    obtain ⟨σ7, r7, d1_7, d2_7, h1, h, hd2, hd1⟩ := it_b h
    have hm : sC_Dra_openRight l D kA u w tx σ6 [] (σ7, r7, d1_7) := ih tC_Dra_openRight _ _ _ h1
    refine cc_Vv (pc := 81) C (σ2 := σ7) (As := []) (rest := []) (hm rfl) ml_Sat_233 39 rfl rfl rfl d_Sat_writeReplaced_81 rfl rfl (by dsimp only; omega) (by dsimp only; omega) (Nat.le_of_ble_eq_true rfl) (Nat.le_of_ble_eq_true rfl) (Nat.le_of_ble_eq_true rfl) ?_
    have hF : d2_7 + 1 ≤ F := by omega
    have hLo : 48 * d2_7 + 48 ≤ Lo := by omega
    refine ax_aload_n (pc := 84) C d_Sat_writeReplaced_84 rfl 1 rfl ?_
    refine ax_iload (pc := 85) C d_Sat_writeReplaced_85 0 rfl ?_
    refine ax_aload_n (pc := 87) C d_Sat_writeReplaced_87 rfl 1 rfl ?_
    refine cg_53_9_Sat_27 (pc := 88) C d_Sat_writeReplaced_88 ?_
    refine ax_iload (pc := 91) C d_Sat_writeReplaced_91 6 rfl ?_
    obtain ⟨σ8, r8, d1_8, d2_8, h1, h, hd2, hd1⟩ := it_b h
    have hm : sC_Sto_behind l D kA u w tx σ7 [x4] (σ8, r8, d1_8) := ih tC_Sto_behind _ _ _ h1
    refine cc_Vi (pc := 93) C (r0 := r8) (σ2 := σ8) (As := [.int x4]) (rest := [.int r2, .ref (u 53)]) (hm _ rfl) ml_Sat_236 54 rfl rfl rfl d_Sat_writeReplaced_93 rfl rfl (by dsimp only; omega) (by dsimp only; omega) (Nat.le_of_ble_eq_true rfl) (Nat.le_of_ble_eq_true rfl) (Nat.le_of_ble_eq_true rfl) ?_
    have hF : d2_8 + 1 ≤ F := by omega
    have hLo : 48 * d2_8 + 48 ≤ Lo := by omega
    refine ax_iload_n (pc := 96) C d_Sat_writeReplaced_96 rfl 3 rfl ?_
    refine ax_iload_n (pc := 97) C d_Sat_writeReplaced_97 rfl 4 rfl ?_
    refine ax_iload (pc := 98) C d_Sat_writeReplaced_98 5 rfl ?_
    obtain ⟨σ9, r9, d1_9, d2_9, h1, h, hd2, hd1⟩ := it_b h
    have hm : sC_Sat_writeRange l D kA u w tx σ8 [r2, r8, x1, x2, x3] (σ9, r9, d1_9) := ih tC_Sat_writeRange _ _ _ h1
    refine cc_Vv (pc := 100) C (σ2 := σ9) (As := [.int r2, .int r8, .int x1, .int x2, .int x3]) (rest := []) (hm _ _ _ _ _ rfl) ml_Sat_242 53 rfl rfl rfl d_Sat_writeReplaced_100 rfl rfl (by dsimp only; omega) (by dsimp only; omega) (Nat.le_of_ble_eq_true rfl) (Nat.le_of_ble_eq_true rfl) (Nat.le_of_ble_eq_true rfl) ?_
    have hF : d2_9 + 1 ≤ F := by omega
    have hLo : 48 * d2_9 + 48 ≤ Lo := by omega
    refine ax_aload_n (pc := 103) C d_Sat_writeReplaced_103 rfl 1 rfl ?_
    refine cg_53_10_Sat_31 (pc := 104) C d_Sat_writeReplaced_104 ?_
    obtain ⟨σ10, r10, d1_10, d2_10, h1, h, hd2, hd1⟩ := it_b h
    have hm : sC_Dra_closeLiteral l D kA u w tx σ9 [] (σ10, r10, d1_10) := ih tC_Dra_closeLiteral _ _ _ h1
    refine cc_Vv (pc := 107) C (σ2 := σ10) (As := []) (rest := []) (hm rfl) ml_Sat_239 39 rfl rfl rfl d_Sat_writeReplaced_107 rfl rfl (by dsimp only; omega) (by dsimp only; omega) (Nat.le_of_ble_eq_true rfl) (Nat.le_of_ble_eq_true rfl) (Nat.le_of_ble_eq_true rfl) ?_
    have hF : d2_10 + 1 ≤ F := by omega
    have hLo : 48 * d2_10 + 48 ≤ Lo := by omega
    refine ax_aload_n (pc := 110) C d_Sat_writeReplaced_110 rfl 1 rfl ?_
    refine cg_53_9_Sat_27 (pc := 111) C d_Sat_writeReplaced_111 ?_
    refine ax_iload (pc := 114) C d_Sat_writeReplaced_114 6 rfl ?_
    obtain ⟨σ11, r11, d1_11, d2_11, h1, h, hd2, hd1⟩ := it_b h
    have hm : sC_Sto_behind l D kA u w tx σ10 [x4] (σ11, r11, d1_11) := ih tC_Sto_behind _ _ _ h1
    refine cc_Vi (pc := 116) C (r0 := r11) (σ2 := σ11) (As := [.int x4]) (rest := []) (hm _ rfl) ml_Sat_236 54 rfl rfl rfl d_Sat_writeReplaced_116 rfl rfl (by dsimp only; omega) (by dsimp only; omega) (Nat.le_of_ble_eq_true rfl) (Nat.le_of_ble_eq_true rfl) (Nat.le_of_ble_eq_true rfl) ?_
    have hF : d2_11 + 1 ≤ F := by omega
    have hLo : 48 * d2_11 + 48 ≤ Lo := by omega
    refine ax_istore (pc := 119) C d_Sat_writeReplaced_119 (Nat.le_of_ble_eq_true rfl) ([(5, .int r11), (7, .int r2), (0, .ref (u 53)), (1, .int x0), (2, .int x1), (3, .int x2), (4, .int x3), (6, .int x5)]) rfl ?_
    refine ax_iinc (pc := 121) C (x5 + 1) d_Sat_writeReplaced_121 7 rfl rfl (Nat.le_of_ble_eq_true rfl) ([(6, .int (x5 + 1)), (5, .int r11), (7, .int r2), (0, .ref (u 53)), (1, .int x0), (2, .int x1), (3, .int x2), (4, .int x3)]) rfl ?_
    refine ax_goto (pc := 124) C 15 d_Sat_writeReplaced_124 (by decide) ?_
    refine ax_ls ([(0, .ref (u 53)), (1, .int x0), (2, .int x1), (3, .int x2), (4, .int x3), (5, .int r11), (6, .int (x5 + 1))]) [3, 4, 5, 6, 7, 1, 0] rfl ?_
    have hm : sC_Sat_writeReplaced_p15 l D kA u w tx σ11 [x0, x1, x2, x3, r11, (x5 + 1)] (σf, rf, _) := ih tC_Sat_writeReplaced_p15 _ _ _ h
    exact hm _ _ _ _ _ _ rfl p e s m args below meth c F Lo σ0 hF hLo C
set_option maxHeartbeats 4000000 in
set_option maxRecDepth 100000 in
theorem oC_Sto_behind (l : Launch) (D : va_G) (kA : Nat → ClassId) (u w : Nat → Nat) (tx : Value) (rec : mF) (ih : ∀ t σ xs res, rec t σ xs = some res → cSem l D kA u w tx t σ xs res) (σ : mS) (xs : List Int32) (res : mR) (h : u_1 (kC_Sto_behind rec σ) xs = some res) : sC_Sto_behind l D kA u w tx σ xs res := by
  intro x0 hxs
  subst hxs
  obtain ⟨σf, rf, dd⟩ := res
  have h : (if bin ((x0 : Int32) + 3) (σ.2.2 48) = true then (if bin ((x0 : Int32) + 4) (σ.2.2 48) = true then (some (σ, ((((((x0 : Int32) + 5) : Int32) + (σ.2.1 48 (Int32.toNatClampNeg ((x0 : Int32) + 3)))) : Int32) + (σ.2.1 48 (Int32.toNatClampNeg ((x0 : Int32) + 4)))), 0)) else none) else none) = some (σf, rf, dd) := h
  refine ax_Mi.of (by decide +kernel) (Nat.le_of_ble_eq_true rfl) ?_
  intro p e s m args below meth c C hnm
  have C : ax_C p s m args meth c b_Sto_behind "ClauseProver$Store" 2 (some .int) D kA (va_A (cpW kA u w tx σ) s.heap.size) := C
  obtain ⟨F, hFe⟩ : ∃ F, F = dd + 1 := ⟨_, rfl⟩
  obtain ⟨Lo, hLoe⟩ : ∃ Lo, Lo = 48 * dd + 48 := ⟨_, rfl⟩
  obtain ⟨σ0, hσ0⟩ : ∃ s0, s0 = σ := ⟨_, rfl⟩
  suffices K : AW p l e { frames := F, cells := 0, slots := 0, locals := Lo } s m args below meth c D kA (va_A (cpW kA u w tx σ0) s.heap.size) 2 (ax_Qi below args s D kA (cpW kA u w tx σ0) 0 0 (fun r w1 => r = rf ∧ w1 = cpW kA u w tx σf)) 0 [(0, .ref (u 54)), (1, .int x0)] [] (cpW kA u w tx σ) 0 0 by rw [hFe, hLoe, hσ0] at K; exact ax_ls ([(0, .ref (u 54)), (1, .int x0)]) [0, 1] rfl K
  have C : ax_C p s m args meth c b_Sto_behind "ClauseProver$Store" 2 (some .int) D kA (va_A (cpW kA u w tx σ0) s.heap.size) := by rw [hσ0]; exact C
  have hF : dd + 1 ≤ F := by omega
  have hLo : 48 * dd + 48 ≤ Lo := by omega
  clear hFe hLoe hσ0
  refine ax_iload_n (pc := 0) C d_Sto_behind_0 rfl 1 rfl ?_
  refine ax_iconst (pc := 1) C 5 d_Sto_behind_1 (by decide +kernel) ?_
  refine ax_iadd (pc := 2) C d_Sto_behind_2 ?_
  refine ax_aload_n (pc := 3) C d_Sto_behind_3 rfl 0 rfl ?_
  refine cg_54_0_Sto_14 (pc := 4) C d_Sto_behind_4 ?_
  refine cg_47_0_Sto_38 (pc := 7) C d_Sto_behind_7 ?_
  refine ax_iload_n (pc := 10) C d_Sto_behind_10 rfl 1 rfl ?_
  refine ax_iconst (pc := 11) C 3 d_Sto_behind_11 (by decide +kernel) ?_
  refine ax_iadd (pc := 12) C d_Sto_behind_12 ?_
  obtain ⟨hb, h⟩ := it_g h
  refine cl_48 (pc := 13) C d_Sto_behind_13 (bin_in hb) ?_
  refine ax_iadd (pc := 14) C d_Sto_behind_14 ?_
  refine ax_aload_n (pc := 15) C d_Sto_behind_15 rfl 0 rfl ?_
  refine cg_54_0_Sto_14 (pc := 16) C d_Sto_behind_16 ?_
  refine cg_47_0_Sto_38 (pc := 19) C d_Sto_behind_19 ?_
  refine ax_iload_n (pc := 22) C d_Sto_behind_22 rfl 1 rfl ?_
  refine ax_iconst (pc := 23) C 4 d_Sto_behind_23 (by decide +kernel) ?_
  refine ax_iadd (pc := 24) C d_Sto_behind_24 ?_
  obtain ⟨hb, h⟩ := it_g h
  refine cl_48 (pc := 25) C d_Sto_behind_25 (bin_in hb) ?_
  refine ax_iadd (pc := 26) C d_Sto_behind_26 ?_
  cases h
  exact ax_iret (pc := 27) C d_Sto_behind_27 ⟨rfl, rfl⟩ (Nat.le_refl _) (Nat.le_refl _)
set_option maxHeartbeats 4000000 in
set_option maxRecDepth 100000 in
theorem oC_Sto_clear (l : Launch) (D : va_G) (kA : Nat → ClassId) (u w : Nat → Nat) (tx : Value) (rec : mF) (ih : ∀ t σ xs res, rec t σ xs = some res → cSem l D kA u w tx t σ xs res) (σ : mS) (xs : List Int32) (res : mR) (h : u_0 (kC_Sto_clear rec σ) xs = some res) : sC_Sto_clear l D kA u w tx σ xs res := by
  intro hxs
  subst hxs
  obtain ⟨σf, rf, dd⟩ := res
  have h : (lt_ (mI σ 4701 0) (fun σ1 => lt_ (mI σ1 4901 0) (fun σ2 => lt_ (mI σ2 5101 0) (fun σ3 => lt_ (mI σ3 5402 0) (fun σ4 => lt_ (mI σ4 5403 0) (fun σ5 => some (σ5, 0, 0))))))) = some (σf, rf, dd) := h
  refine ax_Mv.of (by decide +kernel) (Nat.le_of_ble_eq_true rfl) ?_
  intro p e s m args below meth c C hnm
  have C : ax_C p s m args meth c b_Sto_clear "ClauseProver$Store" 1 none D kA (va_A (cpW kA u w tx σ) s.heap.size) := C
  obtain ⟨F, hFe⟩ : ∃ F, F = dd + 1 := ⟨_, rfl⟩
  obtain ⟨Lo, hLoe⟩ : ∃ Lo, Lo = 48 * dd + 48 := ⟨_, rfl⟩
  obtain ⟨σ0, hσ0⟩ : ∃ s0, s0 = σ := ⟨_, rfl⟩
  suffices K : AW p l e { frames := F, cells := 0, slots := 0, locals := Lo } s m args below meth c D kA (va_A (cpW kA u w tx σ0) s.heap.size) 1 (ax_Qv below args s D kA (cpW kA u w tx σ0) 0 0 (fun w1 => w1 = cpW kA u w tx σf)) 0 [(0, .ref (u 54))] [] (cpW kA u w tx σ) 0 0 by rw [hFe, hLoe, hσ0] at K; exact ax_ls ([(0, .ref (u 54))]) [0] rfl K
  have C : ax_C p s m args meth c b_Sto_clear "ClauseProver$Store" 1 none D kA (va_A (cpW kA u w tx σ0) s.heap.size) := by rw [hσ0]; exact C
  have hF : dd + 1 ≤ F := by omega
  have hLo : 48 * dd + 48 ≤ Lo := by omega
  clear hFe hLoe hσ0
  refine ax_aload_n (pc := 0) C d_Sto_clear_0 rfl 0 rfl ?_
  refine cg_54_0_Sto_14 (pc := 1) C d_Sto_clear_1 ?_
  refine ax_iconst (pc := 4) C 0 d_Sto_clear_4 (by decide +kernel) ?_
  refine cq_47_1_Sto_30 (pc := 5) C d_Sto_clear_5 ?_
  have h := it_l h
  generalize mI σ 4701 0 = σ1 at h ⊢
  refine ax_aload_n (pc := 8) C d_Sto_clear_8 rfl 0 rfl ?_
  refine cg_54_1_Sto_20 (pc := 9) C d_Sto_clear_9 ?_
  refine ax_iconst (pc := 12) C 0 d_Sto_clear_12 (by decide +kernel) ?_
  refine cq_49_1_Sto_30 (pc := 13) C d_Sto_clear_13 ?_
  have h := it_l h
  generalize mI σ1 4901 0 = σ2 at h ⊢
  refine ax_aload_n (pc := 16) C d_Sto_clear_16 rfl 0 rfl ?_
  refine cg_54_5_Sto_23 (pc := 17) C d_Sto_clear_17 ?_
  refine ax_iconst (pc := 20) C 0 d_Sto_clear_20 (by decide +kernel) ?_
  refine cq_51_1_Sto_30 (pc := 21) C d_Sto_clear_21 ?_
  have h := it_l h
  generalize mI σ2 5101 0 = σ3 at h ⊢
  refine ax_aload_n (pc := 24) C d_Sto_clear_24 rfl 0 rfl ?_
  refine ax_iconst (pc := 25) C 0 d_Sto_clear_25 (by decide +kernel) ?_
  refine cq_54_2_Sto_34 (pc := 26) C d_Sto_clear_26 ?_
  have h := it_l h
  generalize mI σ3 5402 0 = σ4 at h ⊢
  refine ax_aload_n (pc := 29) C d_Sto_clear_29 rfl 0 rfl ?_
  refine ax_iconst (pc := 30) C 0 d_Sto_clear_30 (by decide +kernel) ?_
  refine cq_54_3_Sto_35 (pc := 31) C d_Sto_clear_31 ?_
  have h := it_l h
  generalize mI σ4 5403 0 = σ5 at h ⊢
  cases h
  exact ax_vret (pc := 34) C d_Sto_clear_34 rfl (Nat.le_refl _) (Nat.le_refl _)
set_option maxHeartbeats 4000000 in
set_option maxRecDepth 100000 in
theorem oC_Sto_fact (l : Launch) (D : va_G) (kA : Nat → ClassId) (u w : Nat → Nat) (tx : Value) (rec : mF) (ih : ∀ t σ xs res, rec t σ xs = some res → cSem l D kA u w tx t σ xs res) (σ : mS) (xs : List Int32) (res : mR) (h : u_2 (kC_Sto_fact rec σ) xs = some res) : sC_Sto_fact l D kA u w tx σ xs res := by
  intro x0 x1 hxs
  subst hxs
  obtain ⟨σf, rf, dd⟩ := res
  have h : (if bin ((((x0 : Int32) * 11) : Int32) + x1) (σ.2.2 52) = true then (some (σ, (σ.2.1 52 (Int32.toNatClampNeg ((((x0 : Int32) * 11) : Int32) + x1))), 0)) else none) = some (σf, rf, dd) := h
  refine ax_Mi.of (by decide +kernel) (Nat.le_of_ble_eq_true rfl) ?_
  intro p e s m args below meth c C hnm
  have C : ax_C p s m args meth c b_Sto_fact "ClauseProver$Store" 3 (some .int) D kA (va_A (cpW kA u w tx σ) s.heap.size) := C
  obtain ⟨F, hFe⟩ : ∃ F, F = dd + 1 := ⟨_, rfl⟩
  obtain ⟨Lo, hLoe⟩ : ∃ Lo, Lo = 48 * dd + 48 := ⟨_, rfl⟩
  obtain ⟨σ0, hσ0⟩ : ∃ s0, s0 = σ := ⟨_, rfl⟩
  suffices K : AW p l e { frames := F, cells := 0, slots := 0, locals := Lo } s m args below meth c D kA (va_A (cpW kA u w tx σ0) s.heap.size) 3 (ax_Qi below args s D kA (cpW kA u w tx σ0) 0 0 (fun r w1 => r = rf ∧ w1 = cpW kA u w tx σf)) 0 [(0, .ref (u 54)), (1, .int x0), (2, .int x1)] [] (cpW kA u w tx σ) 0 0 by rw [hFe, hLoe, hσ0] at K; exact ax_ls ([(0, .ref (u 54)), (1, .int x0), (2, .int x1)]) [0, 1, 2] rfl K
  have C : ax_C p s m args meth c b_Sto_fact "ClauseProver$Store" 3 (some .int) D kA (va_A (cpW kA u w tx σ0) s.heap.size) := by rw [hσ0]; exact C
  have hF : dd + 1 ≤ F := by omega
  have hLo : 48 * dd + 48 ≤ Lo := by omega
  clear hFe hLoe hσ0
  refine ax_aload_n (pc := 0) C d_Sto_fact_0 rfl 0 rfl ?_
  refine cg_54_5_Sto_23 (pc := 1) C d_Sto_fact_1 ?_
  refine cg_51_0_Sto_38 (pc := 4) C d_Sto_fact_4 ?_
  refine ax_iload_n (pc := 7) C d_Sto_fact_7 rfl 1 rfl ?_
  refine ax_bipush (pc := 8) C 11 d_Sto_fact_8 (by decide +kernel) ?_
  refine ax_imul (pc := 10) C d_Sto_fact_10 ?_
  refine ax_iload_n (pc := 11) C d_Sto_fact_11 rfl 2 rfl ?_
  refine ax_iadd (pc := 12) C d_Sto_fact_12 ?_
  obtain ⟨hb, h⟩ := it_g h
  refine cl_52 (pc := 13) C d_Sto_fact_13 (bin_in hb) ?_
  cases h
  exact ax_iret (pc := 14) C d_Sto_fact_14 ⟨rfl, rfl⟩ (Nat.le_refl _) (Nat.le_refl _)
set_option maxHeartbeats 4000000 in
set_option maxRecDepth 100000 in
theorem oC_Sto_has (l : Launch) (D : va_G) (kA : Nat → ClassId) (u w : Nat → Nat) (tx : Value) (rec : mF) (ih : ∀ t σ xs res, rec t σ xs = some res → cSem l D kA u w tx t σ xs res) (σ : mS) (xs : List Int32) (res : mR) (h : u_1 (kC_Sto_has rec σ) xs = some res) : sC_Sto_has l D kA u w tx σ xs res := by
  intro x0 hxs
  subst hxs
  obtain ⟨σf, rf, dd⟩ := res
  have h : (if x0 < 0 then (rec tC_Sto_has_p16 σ [x0]) else (if (σ.1 5402) ≤ x0 then (rec tC_Sto_has_p16 σ [x0]) else (rec tC_Sto_has_p17 σ [x0, 1]))) = some (σf, rf, dd) := h
  refine ax_Mi.of (by decide +kernel) (Nat.le_of_ble_eq_true rfl) ?_
  intro p e s m args below meth c C hnm
  have C : ax_C p s m args meth c b_Sto_has "ClauseProver$Store" 2 (some .boolean) D kA (va_A (cpW kA u w tx σ) s.heap.size) := C
  obtain ⟨F, hFe⟩ : ∃ F, F = dd + 1 := ⟨_, rfl⟩
  obtain ⟨Lo, hLoe⟩ : ∃ Lo, Lo = 48 * dd + 48 := ⟨_, rfl⟩
  obtain ⟨σ0, hσ0⟩ : ∃ s0, s0 = σ := ⟨_, rfl⟩
  suffices K : AW p l e { frames := F, cells := 0, slots := 0, locals := Lo } s m args below meth c D kA (va_A (cpW kA u w tx σ0) s.heap.size) 2 (ax_Qi below args s D kA (cpW kA u w tx σ0) 0 0 (fun r w1 => r = rf ∧ w1 = cpW kA u w tx σf)) 0 [(0, .ref (u 54)), (1, .int x0)] [] (cpW kA u w tx σ) 0 0 by rw [hFe, hLoe, hσ0] at K; exact ax_ls ([(0, .ref (u 54)), (1, .int x0)]) [0, 1] rfl K
  have C : ax_C p s m args meth c b_Sto_has "ClauseProver$Store" 2 (some .boolean) D kA (va_A (cpW kA u w tx σ0) s.heap.size) := by rw [hσ0]; exact C
  have hF : dd + 1 ≤ F := by omega
  have hLo : 48 * dd + 48 ≤ Lo := by omega
  clear hFe hLoe hσ0
  refine ax_iload_n (pc := 0) C d_Sto_has_0 rfl 1 rfl ?_
  refine ax_if_lt (pc := 1) C 16 d_Sto_has_1 (by decide) (fun hc => ?_) (fun hc => ?_)
  · have h := it_t hc h
    refine ax_ls ([(0, .ref (u 54)), (1, .int x0)]) [0, 1] rfl ?_
    have hm : sC_Sto_has_p16 l D kA u w tx σ [x0] (σf, rf, _) := ih tC_Sto_has_p16 _ _ _ h
    exact hm _ rfl p e s m args below meth c F Lo σ0 hF hLo C
  · have h := it_f hc h
    refine ax_iload_n (pc := 4) C d_Sto_has_4 rfl 1 rfl ?_
    refine ax_aload_n (pc := 5) C d_Sto_has_5 rfl 0 rfl ?_
    refine cg_54_2_Sto_34 (pc := 6) C d_Sto_has_6 ?_
    refine ax_icmp_ge (pc := 9) C 16 d_Sto_has_9 (by decide) (fun hc => ?_) (fun hc => ?_)
    · have h := it_t hc h
      refine ax_ls ([(0, .ref (u 54)), (1, .int x0)]) [0, 1] rfl ?_
      have hm : sC_Sto_has_p16 l D kA u w tx σ [x0] (σf, rf, _) := ih tC_Sto_has_p16 _ _ _ h
      exact hm _ rfl p e s m args below meth c F Lo σ0 hF hLo C
    · have h := it_f hc h
      refine ax_iconst (pc := 12) C 1 d_Sto_has_12 (by decide +kernel) ?_
      refine ax_goto (pc := 13) C 17 d_Sto_has_13 (by decide) ?_
      refine ax_ls ([(0, .ref (u 54)), (1, .int x0)]) [0, 1] rfl ?_
      have hm : sC_Sto_has_p17 l D kA u w tx σ [x0, 1] (σf, rf, _) := ih tC_Sto_has_p17 _ _ _ h
      exact hm _ _ rfl p e s m args below meth c F Lo σ0 hF hLo C
set_option maxHeartbeats 4000000 in
set_option maxRecDepth 100000 in
theorem oC_Sto_has_p16 (l : Launch) (D : va_G) (kA : Nat → ClassId) (u w : Nat → Nat) (tx : Value) (rec : mF) (ih : ∀ t σ xs res, rec t σ xs = some res → cSem l D kA u w tx t σ xs res) (σ : mS) (xs : List Int32) (res : mR) (h : u_1 (kC_Sto_has_p16 rec σ) xs = some res) : sC_Sto_has_p16 l D kA u w tx σ xs res := by
  intro x0 hxs
  subst hxs
  obtain ⟨σf, rf, dd⟩ := res
  have h : (rec tC_Sto_has_p17 σ [x0, 0]) = some (σf, rf, dd) := h
  intro p e s m args below meth c F Lo σ0 hF hLo C
  dsimp only at hF hLo ⊢
  refine ax_iconst (pc := 16) C 0 d_Sto_has_16 (by decide +kernel) ?_
  refine ax_ls ([(0, .ref (u 54)), (1, .int x0)]) [0, 1] rfl ?_
  have hm : sC_Sto_has_p17 l D kA u w tx σ [x0, 0] (σf, rf, _) := ih tC_Sto_has_p17 _ _ _ h
  exact hm _ _ rfl p e s m args below meth c F Lo σ0 hF hLo C
set_option maxHeartbeats 4000000 in
set_option maxRecDepth 100000 in
theorem oC_Sto_has_p17 (l : Launch) (D : va_G) (kA : Nat → ClassId) (u w : Nat → Nat) (tx : Value) (rec : mF) (ih : ∀ t σ xs res, rec t σ xs = some res → cSem l D kA u w tx t σ xs res) (σ : mS) (xs : List Int32) (res : mR) (h : u_2 (kC_Sto_has_p17 rec σ) xs = some res) : sC_Sto_has_p17 l D kA u w tx σ xs res := by
  intro x0 x1 hxs
  subst hxs
  obtain ⟨σf, rf, dd⟩ := res
  have h : (if x1 = 0 ∨ x1 = 1 then some (σ, x1, 0) else none) = some (σf, rf, dd) := h
  intro p e s m args below meth c F Lo σ0 hF hLo C
  dsimp only at hF hLo ⊢
  obtain ⟨hb, h⟩ := it_g h
  cases h
  exact ax_zret (pc := 17) C d_Sto_has_17 (nb01 hb) ⟨rfl, rfl⟩ (Nat.le_refl _) (Nat.le_refl _)
set_option maxHeartbeats 4000000 in
set_option maxRecDepth 100000 in
theorem oC_Sto_headOf (l : Launch) (D : va_G) (kA : Nat → ClassId) (u w : Nat → Nat) (tx : Value) (rec : mF) (ih : ∀ t σ xs res, rec t σ xs = some res → cSem l D kA u w tx t σ xs res) (σ : mS) (xs : List Int32) (res : mR) (h : u_2 (kC_Sto_headOf rec σ) xs = some res) : sC_Sto_headOf l D kA u w tx σ xs res := by
  intro x0 x1 hxs
  subst hxs
  obtain ⟨σf, rf, dd⟩ := res
  have h : (bnd (rec tC_Sto_fact σ [x0, 8]) (fun σ1 r1 => rec tC_Sto_headOf_p11 σ1 [x0, x1, r1, 0])) = some (σf, rf, dd) := h
  refine ax_Mi.of (by decide +kernel) (Nat.le_of_ble_eq_true rfl) ?_
  intro p e s m args below meth c C hnm
  have C : ax_C p s m args meth c b_Sto_headOf "ClauseProver$Store" 5 (some .int) D kA (va_A (cpW kA u w tx σ) s.heap.size) := C
  obtain ⟨F, hFe⟩ : ∃ F, F = dd + 1 := ⟨_, rfl⟩
  obtain ⟨Lo, hLoe⟩ : ∃ Lo, Lo = 48 * dd + 48 := ⟨_, rfl⟩
  obtain ⟨σ0, hσ0⟩ : ∃ s0, s0 = σ := ⟨_, rfl⟩
  suffices K : AW p l e { frames := F, cells := 0, slots := 0, locals := Lo } s m args below meth c D kA (va_A (cpW kA u w tx σ0) s.heap.size) 5 (ax_Qi below args s D kA (cpW kA u w tx σ0) 0 0 (fun r w1 => r = rf ∧ w1 = cpW kA u w tx σf)) 0 [(0, .ref (u 54)), (1, .int x0), (2, .int x1)] [] (cpW kA u w tx σ) 0 0 by rw [hFe, hLoe, hσ0] at K; exact ax_ls ([(0, .ref (u 54)), (1, .int x0), (2, .int x1)]) [0, 1, 2] rfl K
  have C : ax_C p s m args meth c b_Sto_headOf "ClauseProver$Store" 5 (some .int) D kA (va_A (cpW kA u w tx σ0) s.heap.size) := by rw [hσ0]; exact C
  have hF : dd + 1 ≤ F := by omega
  have hLo : 48 * dd + 48 ≤ Lo := by omega
  clear hFe hLoe hσ0
  refine ax_aload_n (pc := 0) C d_Sto_headOf_0 rfl 0 rfl ?_
  refine ax_iload_n (pc := 1) C d_Sto_headOf_1 rfl 1 rfl ?_
  refine ax_bipush (pc := 2) C 8 d_Sto_headOf_2 (by decide +kernel) ?_
  obtain ⟨σ1, r1, d1_1, d2_1, h1, h, hd2, hd1⟩ := it_b h
  have hm : sC_Sto_fact l D kA u w tx σ [x0, 8] (σ1, r1, d1_1) := ih tC_Sto_fact _ _ _ h1
  refine cc_Vi (pc := 4) C (r0 := r1) (σ2 := σ1) (As := [.int x0, .int 8]) (rest := []) (hm _ _ rfl) ml_Sto_42 54 rfl rfl rfl d_Sto_headOf_4 rfl rfl (by dsimp only; omega) (by dsimp only; omega) (Nat.le_of_ble_eq_true rfl) (Nat.le_of_ble_eq_true rfl) (Nat.le_of_ble_eq_true rfl) ?_
  have hF : d2_1 + 1 ≤ F := by omega
  have hLo : 48 * d2_1 + 48 ≤ Lo := by omega
  refine ax_istore_n (pc := 7) C d_Sto_headOf_7 rfl (Nat.le_of_ble_eq_true rfl) ([(3, .int r1), (0, .ref (u 54)), (1, .int x0), (2, .int x1)]) rfl ?_
  refine ax_iconst (pc := 8) C 0 d_Sto_headOf_8 (by decide +kernel) ?_
  refine ax_istore (pc := 9) C d_Sto_headOf_9 (Nat.le_of_ble_eq_true rfl) ([(4, .int 0), (3, .int r1), (0, .ref (u 54)), (1, .int x0), (2, .int x1)]) rfl ?_
  refine ax_ls ([(0, .ref (u 54)), (1, .int x0), (2, .int x1), (3, .int r1), (4, .int 0)]) [2, 3, 4, 1, 0] rfl ?_
  have hm : sC_Sto_headOf_p11 l D kA u w tx σ1 [x0, x1, r1, 0] (σf, rf, _) := ih tC_Sto_headOf_p11 _ _ _ h
  exact hm _ _ _ _ rfl p e s m args below meth c F Lo σ0 hF hLo C
set_option maxHeartbeats 4000000 in
set_option maxRecDepth 100000 in
theorem oC_Sto_headOf_p11 (l : Launch) (D : va_G) (kA : Nat → ClassId) (u w : Nat → Nat) (tx : Value) (rec : mF) (ih : ∀ t σ xs res, rec t σ xs = some res → cSem l D kA u w tx t σ xs res) (σ : mS) (xs : List Int32) (res : mR) (h : u_4 (kC_Sto_headOf_p11 rec σ) xs = some res) : sC_Sto_headOf_p11 l D kA u w tx σ xs res := by
  intro x0 x1 x2 x3 hxs
  subst hxs
  obtain ⟨σf, rf, dd⟩ := res
  have h : (if x1 ≤ x3 then (some (σ, x2, 0)) else (bnd (rec tC_Sto_behind σ [x2]) (fun σ1 r1 => rec tC_Sto_headOf_p11 σ1 [x0, x1, r1, (x3 + 1)]))) = some (σf, rf, dd) := h
  intro p e s m args below meth c F Lo σ0 hF hLo C
  dsimp only at hF hLo ⊢
  refine ax_iload (pc := 11) C d_Sto_headOf_11 4 rfl ?_
  refine ax_iload_n (pc := 13) C d_Sto_headOf_13 rfl 2 rfl ?_
  refine ax_icmp_ge (pc := 14) C 29 d_Sto_headOf_14 (by decide) (fun hc => ?_) (fun hc => ?_)
  · have h := it_t hc h
    refine ax_iload_n (pc := 29) C d_Sto_headOf_29 rfl 3 rfl ?_
    cases h
    exact ax_iret (pc := 30) C d_Sto_headOf_30 ⟨rfl, rfl⟩ (Nat.le_refl _) (Nat.le_refl _)
  · have h := it_f hc h
    refine ax_aload_n (pc := 17) C d_Sto_headOf_17 rfl 0 rfl ?_
    refine ax_iload_n (pc := 18) C d_Sto_headOf_18 rfl 3 rfl ?_
    obtain ⟨σ1, r1, d1_1, d2_1, h1, h, hd2, hd1⟩ := it_b h
    have hm : sC_Sto_behind l D kA u w tx σ [x2] (σ1, r1, d1_1) := ih tC_Sto_behind _ _ _ h1
    refine cc_Vi (pc := 19) C (r0 := r1) (σ2 := σ1) (As := [.int x2]) (rest := []) (hm _ rfl) ml_Sto_73 54 rfl rfl rfl d_Sto_headOf_19 rfl rfl (by dsimp only; omega) (by dsimp only; omega) (Nat.le_of_ble_eq_true rfl) (Nat.le_of_ble_eq_true rfl) (Nat.le_of_ble_eq_true rfl) ?_
    have hF : d2_1 + 1 ≤ F := by omega
    have hLo : 48 * d2_1 + 48 ≤ Lo := by omega
    refine ax_istore_n (pc := 22) C d_Sto_headOf_22 rfl (Nat.le_of_ble_eq_true rfl) ([(3, .int r1), (0, .ref (u 54)), (1, .int x0), (2, .int x1), (4, .int x3)]) rfl ?_
    refine ax_iinc (pc := 23) C (x3 + 1) d_Sto_headOf_23 4 rfl rfl (Nat.le_of_ble_eq_true rfl) ([(4, .int (x3 + 1)), (3, .int r1), (0, .ref (u 54)), (1, .int x0), (2, .int x1)]) rfl ?_
    refine ax_goto (pc := 26) C 11 d_Sto_headOf_26 (by decide) ?_
    refine ax_ls ([(0, .ref (u 54)), (1, .int x0), (2, .int x1), (3, .int r1), (4, .int (x3 + 1))]) [2, 3, 4, 1, 0] rfl ?_
    have hm : sC_Sto_headOf_p11 l D kA u w tx σ1 [x0, x1, r1, (x3 + 1)] (σf, rf, _) := ih tC_Sto_headOf_p11 _ _ _ h
    exact hm _ _ _ _ rfl p e s m args below meth c F Lo σ0 hF hLo C
set_option maxHeartbeats 4000000 in
set_option maxRecDepth 100000 in
theorem oC_Sto_howMany (l : Launch) (D : va_G) (kA : Nat → ClassId) (u w : Nat → Nat) (tx : Value) (rec : mF) (ih : ∀ t σ xs res, rec t σ xs = some res → cSem l D kA u w tx t σ xs res) (σ : mS) (xs : List Int32) (res : mR) (h : u_1 (kC_Sto_howMany rec σ) xs = some res) : sC_Sto_howMany l D kA u w tx σ xs res := by
  intro x0 hxs
  subst hxs
  obtain ⟨σf, rf, dd⟩ := res
  have h : (rec tC_Sto_howMany_p4 σ [x0, 0, 0]) = some (σf, rf, dd) := h
  refine ax_Mi.of (by decide +kernel) (Nat.le_of_ble_eq_true rfl) ?_
  intro p e s m args below meth c C hnm
  have C : ax_C p s m args meth c b_Sto_howMany "ClauseProver$Store" 4 (some .int) D kA (va_A (cpW kA u w tx σ) s.heap.size) := C
  obtain ⟨F, hFe⟩ : ∃ F, F = dd + 1 := ⟨_, rfl⟩
  obtain ⟨Lo, hLoe⟩ : ∃ Lo, Lo = 48 * dd + 48 := ⟨_, rfl⟩
  obtain ⟨σ0, hσ0⟩ : ∃ s0, s0 = σ := ⟨_, rfl⟩
  suffices K : AW p l e { frames := F, cells := 0, slots := 0, locals := Lo } s m args below meth c D kA (va_A (cpW kA u w tx σ0) s.heap.size) 4 (ax_Qi below args s D kA (cpW kA u w tx σ0) 0 0 (fun r w1 => r = rf ∧ w1 = cpW kA u w tx σf)) 0 [(0, .ref (u 54)), (1, .int x0)] [] (cpW kA u w tx σ) 0 0 by rw [hFe, hLoe, hσ0] at K; exact ax_ls ([(0, .ref (u 54)), (1, .int x0)]) [0, 1] rfl K
  have C : ax_C p s m args meth c b_Sto_howMany "ClauseProver$Store" 4 (some .int) D kA (va_A (cpW kA u w tx σ0) s.heap.size) := by rw [hσ0]; exact C
  have hF : dd + 1 ≤ F := by omega
  have hLo : 48 * dd + 48 ≤ Lo := by omega
  clear hFe hLoe hσ0
  refine ax_iconst (pc := 0) C 0 d_Sto_howMany_0 (by decide +kernel) ?_
  refine ax_istore_n (pc := 1) C d_Sto_howMany_1 rfl (Nat.le_of_ble_eq_true rfl) ([(2, .int 0), (0, .ref (u 54)), (1, .int x0)]) rfl ?_
  refine ax_iconst (pc := 2) C 0 d_Sto_howMany_2 (by decide +kernel) ?_
  refine ax_istore_n (pc := 3) C d_Sto_howMany_3 rfl (Nat.le_of_ble_eq_true rfl) ([(3, .int 0), (2, .int 0), (0, .ref (u 54)), (1, .int x0)]) rfl ?_
  refine ax_ls ([(0, .ref (u 54)), (1, .int x0), (2, .int 0), (3, .int 0)]) [2, 3, 1, 0] rfl ?_
  have hm : sC_Sto_howMany_p4 l D kA u w tx σ [x0, 0, 0] (σf, rf, _) := ih tC_Sto_howMany_p4 _ _ _ h
  exact hm _ _ _ rfl p e s m args below meth c F Lo σ0 hF hLo C
set_option maxHeartbeats 4000000 in
set_option maxRecDepth 100000 in
theorem oC_Sto_howMany_p4 (l : Launch) (D : va_G) (kA : Nat → ClassId) (u w : Nat → Nat) (tx : Value) (rec : mF) (ih : ∀ t σ xs res, rec t σ xs = some res → cSem l D kA u w tx t σ xs res) (σ : mS) (xs : List Int32) (res : mR) (h : u_3 (kC_Sto_howMany_p4 rec σ) xs = some res) : sC_Sto_howMany_p4 l D kA u w tx σ xs res := by
  intro x0 x1 x2 hxs
  subst hxs
  obtain ⟨σf, rf, dd⟩ := res
  have h : (if (σ.1 5402) ≤ x2 then (some (σ, x1, 0)) else (bnd (rec tC_Sto_fact σ [x2, 6]) (fun σ1 r1 => if r1 = x0 then (rec tC_Sto_howMany_p29 σ1 [x0, x1, x2, 1, x1]) else (rec tC_Sto_howMany_p29 σ1 [x0, x1, x2, 0, x1])))) = some (σf, rf, dd) := h
  intro p e s m args below meth c F Lo σ0 hF hLo C
  dsimp only at hF hLo ⊢
  refine ax_iload_n (pc := 4) C d_Sto_howMany_4 rfl 3 rfl ?_
  refine ax_aload_n (pc := 5) C d_Sto_howMany_5 rfl 0 rfl ?_
  refine cg_54_2_Sto_34 (pc := 6) C d_Sto_howMany_6 ?_
  refine ax_icmp_ge (pc := 9) C 37 d_Sto_howMany_9 (by decide) (fun hc => ?_) (fun hc => ?_)
  · have h := it_t hc h
    refine ax_iload_n (pc := 37) C d_Sto_howMany_37 rfl 2 rfl ?_
    cases h
    exact ax_iret (pc := 38) C d_Sto_howMany_38 ⟨rfl, rfl⟩ (Nat.le_refl _) (Nat.le_refl _)
  · have h := it_f hc h
    refine ax_iload_n (pc := 12) C d_Sto_howMany_12 rfl 2 rfl ?_
    refine ax_aload_n (pc := 13) C d_Sto_howMany_13 rfl 0 rfl ?_
    refine ax_iload_n (pc := 14) C d_Sto_howMany_14 rfl 3 rfl ?_
    refine ax_bipush (pc := 15) C 6 d_Sto_howMany_15 (by decide +kernel) ?_
    obtain ⟨σ1, r1, d1_1, d2_1, h1, h, hd2, hd1⟩ := it_b h
    have hm : sC_Sto_fact l D kA u w tx σ [x2, 6] (σ1, r1, d1_1) := ih tC_Sto_fact _ _ _ h1
    refine cc_Vi (pc := 17) C (r0 := r1) (σ2 := σ1) (As := [.int x2, .int 6]) (rest := [.int x1]) (hm _ _ rfl) ml_Sto_42 54 rfl rfl rfl d_Sto_howMany_17 rfl rfl (by dsimp only; omega) (by dsimp only; omega) (Nat.le_of_ble_eq_true rfl) (Nat.le_of_ble_eq_true rfl) (Nat.le_of_ble_eq_true rfl) ?_
    have hF : d2_1 + 1 ≤ F := by omega
    have hLo : 48 * d2_1 + 48 ≤ Lo := by omega
    refine ax_iload_n (pc := 20) C d_Sto_howMany_20 rfl 1 rfl ?_
    refine ax_icmp_ne (pc := 21) C 28 d_Sto_howMany_21 (by decide) (fun hc => ?_) (fun hc => ?_)
    · have h := it_f hc h
      refine ax_iconst (pc := 28) C 0 d_Sto_howMany_28 (by decide +kernel) ?_
      refine ax_ls ([(0, .ref (u 54)), (1, .int x0), (2, .int x1), (3, .int x2)]) [0, 1, 2, 3] rfl ?_
      have hm : sC_Sto_howMany_p29 l D kA u w tx σ1 [x0, x1, x2, 0, x1] (σf, rf, _) := ih tC_Sto_howMany_p29 _ _ _ h
      exact hm _ _ _ _ _ rfl p e s m args below meth c F Lo σ0 hF hLo C
    · have h := it_t hc h
      refine ax_iconst (pc := 24) C 1 d_Sto_howMany_24 (by decide +kernel) ?_
      refine ax_goto (pc := 25) C 29 d_Sto_howMany_25 (by decide) ?_
      refine ax_ls ([(0, .ref (u 54)), (1, .int x0), (2, .int x1), (3, .int x2)]) [0, 1, 2, 3] rfl ?_
      have hm : sC_Sto_howMany_p29 l D kA u w tx σ1 [x0, x1, x2, 1, x1] (σf, rf, _) := ih tC_Sto_howMany_p29 _ _ _ h
      exact hm _ _ _ _ _ rfl p e s m args below meth c F Lo σ0 hF hLo C
set_option maxHeartbeats 4000000 in
set_option maxRecDepth 100000 in
theorem oC_Sto_howMany_p29 (l : Launch) (D : va_G) (kA : Nat → ClassId) (u w : Nat → Nat) (tx : Value) (rec : mF) (ih : ∀ t σ xs res, rec t σ xs = some res → cSem l D kA u w tx t σ xs res) (σ : mS) (xs : List Int32) (res : mR) (h : u_5 (kC_Sto_howMany_p29 rec σ) xs = some res) : sC_Sto_howMany_p29 l D kA u w tx σ xs res := by
  intro x0 x1 x2 x3 x4 hxs
  subst hxs
  obtain ⟨σf, rf, dd⟩ := res
  have h : (rec tC_Sto_howMany_p4 σ [x0, ((x4 : Int32) + x3), (x2 + 1)]) = some (σf, rf, dd) := h
  intro p e s m args below meth c F Lo σ0 hF hLo C
  dsimp only at hF hLo ⊢
  refine ax_iadd (pc := 29) C d_Sto_howMany_29 ?_
  refine ax_istore_n (pc := 30) C d_Sto_howMany_30 rfl (Nat.le_of_ble_eq_true rfl) ([(2, .int ((x4 : Int32) + x3)), (0, .ref (u 54)), (1, .int x0), (3, .int x2)]) rfl ?_
  refine ax_iinc (pc := 31) C (x2 + 1) d_Sto_howMany_31 3 rfl rfl (Nat.le_of_ble_eq_true rfl) ([(3, .int (x2 + 1)), (2, .int ((x4 : Int32) + x3)), (0, .ref (u 54)), (1, .int x0)]) rfl ?_
  refine ax_goto (pc := 34) C 4 d_Sto_howMany_34 (by decide) ?_
  refine ax_ls ([(0, .ref (u 54)), (1, .int x0), (2, .int ((x4 : Int32) + x3)), (3, .int (x2 + 1))]) [2, 3, 1, 0] rfl ?_
  have hm : sC_Sto_howMany_p4 l D kA u w tx σ [x0, ((x4 : Int32) + x3), (x2 + 1)] (σf, rf, _) := ih tC_Sto_howMany_p4 _ _ _ h
  exact hm _ _ _ rfl p e s m args below meth c F Lo σ0 hF hLo C
set_option maxHeartbeats 4000000 in
set_option maxRecDepth 100000 in
theorem oC_Sto_isEligible (l : Launch) (D : va_G) (kA : Nat → ClassId) (u w : Nat → Nat) (tx : Value) (rec : mF) (ih : ∀ t σ xs res, rec t σ xs = some res → cSem l D kA u w tx t σ xs res) (σ : mS) (xs : List Int32) (res : mR) (h : u_1 (kC_Sto_isEligible rec σ) xs = some res) : sC_Sto_isEligible l D kA u w tx σ xs res := by
  intro x0 hxs
  subst hxs
  obtain ⟨σf, rf, dd⟩ := res
  have h : (if bin ((x0 : Int32) + 2) (σ.2.2 48) = true then (if (σ.2.1 48 (Int32.toNatClampNeg ((x0 : Int32) + 2))) = 1 then (rec tC_Sto_isEligible_p20 σ [x0, 1]) else (rec tC_Sto_isEligible_p20 σ [x0, 0])) else none) = some (σf, rf, dd) := h
  refine ax_Mi.of (by decide +kernel) (Nat.le_of_ble_eq_true rfl) ?_
  intro p e s m args below meth c C hnm
  have C : ax_C p s m args meth c b_Sto_isEligible "ClauseProver$Store" 2 (some .boolean) D kA (va_A (cpW kA u w tx σ) s.heap.size) := C
  obtain ⟨F, hFe⟩ : ∃ F, F = dd + 1 := ⟨_, rfl⟩
  obtain ⟨Lo, hLoe⟩ : ∃ Lo, Lo = 48 * dd + 48 := ⟨_, rfl⟩
  obtain ⟨σ0, hσ0⟩ : ∃ s0, s0 = σ := ⟨_, rfl⟩
  suffices K : AW p l e { frames := F, cells := 0, slots := 0, locals := Lo } s m args below meth c D kA (va_A (cpW kA u w tx σ0) s.heap.size) 2 (ax_Qi below args s D kA (cpW kA u w tx σ0) 0 0 (fun r w1 => r = rf ∧ w1 = cpW kA u w tx σf)) 0 [(0, .ref (u 54)), (1, .int x0)] [] (cpW kA u w tx σ) 0 0 by rw [hFe, hLoe, hσ0] at K; exact ax_ls ([(0, .ref (u 54)), (1, .int x0)]) [0, 1] rfl K
  have C : ax_C p s m args meth c b_Sto_isEligible "ClauseProver$Store" 2 (some .boolean) D kA (va_A (cpW kA u w tx σ0) s.heap.size) := by rw [hσ0]; exact C
  have hF : dd + 1 ≤ F := by omega
  have hLo : 48 * dd + 48 ≤ Lo := by omega
  clear hFe hLoe hσ0
  refine ax_aload_n (pc := 0) C d_Sto_isEligible_0 rfl 0 rfl ?_
  refine cg_54_0_Sto_14 (pc := 1) C d_Sto_isEligible_1 ?_
  refine cg_47_0_Sto_38 (pc := 4) C d_Sto_isEligible_4 ?_
  refine ax_iload_n (pc := 7) C d_Sto_isEligible_7 rfl 1 rfl ?_
  refine ax_iconst (pc := 8) C 2 d_Sto_isEligible_8 (by decide +kernel) ?_
  refine ax_iadd (pc := 9) C d_Sto_isEligible_9 ?_
  obtain ⟨hb, h⟩ := it_g h
  refine cl_48 (pc := 10) C d_Sto_isEligible_10 (bin_in hb) ?_
  refine ax_iconst (pc := 11) C 1 d_Sto_isEligible_11 (by decide +kernel) ?_
  refine ax_icmp_ne (pc := 12) C 19 d_Sto_isEligible_12 (by decide) (fun hc => ?_) (fun hc => ?_)
  · have h := it_f hc h
    refine ax_iconst (pc := 19) C 0 d_Sto_isEligible_19 (by decide +kernel) ?_
    refine ax_ls ([(0, .ref (u 54)), (1, .int x0)]) [0, 1] rfl ?_
    have hm : sC_Sto_isEligible_p20 l D kA u w tx σ [x0, 0] (σf, rf, _) := ih tC_Sto_isEligible_p20 _ _ _ h
    exact hm _ _ rfl p e s m args below meth c F Lo σ0 hF hLo C
  · have h := it_t hc h
    refine ax_iconst (pc := 15) C 1 d_Sto_isEligible_15 (by decide +kernel) ?_
    refine ax_goto (pc := 16) C 20 d_Sto_isEligible_16 (by decide) ?_
    refine ax_ls ([(0, .ref (u 54)), (1, .int x0)]) [0, 1] rfl ?_
    have hm : sC_Sto_isEligible_p20 l D kA u w tx σ [x0, 1] (σf, rf, _) := ih tC_Sto_isEligible_p20 _ _ _ h
    exact hm _ _ rfl p e s m args below meth c F Lo σ0 hF hLo C
set_option maxHeartbeats 4000000 in
set_option maxRecDepth 100000 in
theorem oC_Sto_isEligible_p20 (l : Launch) (D : va_G) (kA : Nat → ClassId) (u w : Nat → Nat) (tx : Value) (rec : mF) (ih : ∀ t σ xs res, rec t σ xs = some res → cSem l D kA u w tx t σ xs res) (σ : mS) (xs : List Int32) (res : mR) (h : u_2 (kC_Sto_isEligible_p20 rec σ) xs = some res) : sC_Sto_isEligible_p20 l D kA u w tx σ xs res := by
  intro x0 x1 hxs
  subst hxs
  obtain ⟨σf, rf, dd⟩ := res
  have h : (if x1 = 0 ∨ x1 = 1 then some (σ, x1, 0) else none) = some (σf, rf, dd) := h
  intro p e s m args below meth c F Lo σ0 hF hLo C
  dsimp only at hF hLo ⊢
  obtain ⟨hb, h⟩ := it_g h
  cases h
  exact ax_zret (pc := 20) C d_Sto_isEligible_20 (nb01 hb) ⟨rfl, rfl⟩ (Nat.le_refl _) (Nat.le_refl _)
set_option maxHeartbeats 4000000 in
set_option maxRecDepth 100000 in
theorem oC_Sto_isGreater (l : Launch) (D : va_G) (kA : Nat → ClassId) (u w : Nat → Nat) (tx : Value) (rec : mF) (ih : ∀ t σ xs res, rec t σ xs = some res → cSem l D kA u w tx t σ xs res) (σ : mS) (xs : List Int32) (res : mR) (h : u_2 (kC_Sto_isGreater rec σ) xs = some res) : sC_Sto_isGreater l D kA u w tx σ xs res := by
  intro x0 x1 hxs
  subst hxs
  obtain ⟨σf, rf, dd⟩ := res
  have h : (rec tC_Sto_isGreater_p8 σ [x0, x1, 3, 3, 0]) = some (σf, rf, dd) := h
  refine ax_Mi.of (by decide +kernel) (Nat.le_of_ble_eq_true rfl) ?_
  intro p e s m args below meth c C hnm
  have C : ax_C p s m args meth c b_Sto_isGreater "ClauseProver$Store" 8 (some .boolean) D kA (va_A (cpW kA u w tx σ) s.heap.size) := C
  obtain ⟨F, hFe⟩ : ∃ F, F = dd + 1 := ⟨_, rfl⟩
  obtain ⟨Lo, hLoe⟩ : ∃ Lo, Lo = 48 * dd + 48 := ⟨_, rfl⟩
  obtain ⟨σ0, hσ0⟩ : ∃ s0, s0 = σ := ⟨_, rfl⟩
  suffices K : AW p l e { frames := F, cells := 0, slots := 0, locals := Lo } s m args below meth c D kA (va_A (cpW kA u w tx σ0) s.heap.size) 8 (ax_Qi below args s D kA (cpW kA u w tx σ0) 0 0 (fun r w1 => r = rf ∧ w1 = cpW kA u w tx σf)) 0 [(0, .ref (u 54)), (1, .int x0), (2, .int x1)] [] (cpW kA u w tx σ) 0 0 by rw [hFe, hLoe, hσ0] at K; exact ax_ls ([(0, .ref (u 54)), (1, .int x0), (2, .int x1)]) [0, 1, 2] rfl K
  have C : ax_C p s m args meth c b_Sto_isGreater "ClauseProver$Store" 8 (some .boolean) D kA (va_A (cpW kA u w tx σ0) s.heap.size) := by rw [hσ0]; exact C
  have hF : dd + 1 ≤ F := by omega
  have hLo : 48 * dd + 48 ≤ Lo := by omega
  clear hFe hLoe hσ0
  refine ax_iconst (pc := 0) C 3 d_Sto_isGreater_0 (by decide +kernel) ?_
  refine ax_istore_n (pc := 1) C d_Sto_isGreater_1 rfl (Nat.le_of_ble_eq_true rfl) ([(3, .int 3), (0, .ref (u 54)), (1, .int x0), (2, .int x1)]) rfl ?_
  refine ax_iconst (pc := 2) C 3 d_Sto_isGreater_2 (by decide +kernel) ?_
  refine ax_istore (pc := 3) C d_Sto_isGreater_3 (Nat.le_of_ble_eq_true rfl) ([(4, .int 3), (3, .int 3), (0, .ref (u 54)), (1, .int x0), (2, .int x1)]) rfl ?_
  refine ax_iconst (pc := 5) C 0 d_Sto_isGreater_5 (by decide +kernel) ?_
  refine ax_istore (pc := 6) C d_Sto_isGreater_6 (Nat.le_of_ble_eq_true rfl) ([(5, .int 0), (4, .int 3), (3, .int 3), (0, .ref (u 54)), (1, .int x0), (2, .int x1)]) rfl ?_
  refine ax_ls ([(0, .ref (u 54)), (1, .int x0), (2, .int x1), (3, .int 3), (4, .int 3), (5, .int 0)]) [3, 4, 5, 2, 1, 0] rfl ?_
  have hm : sC_Sto_isGreater_p8 l D kA u w tx σ [x0, x1, 3, 3, 0] (σf, rf, _) := ih tC_Sto_isGreater_p8 _ _ _ h
  exact hm _ _ _ _ _ rfl p e s m args below meth c F Lo σ0 hF hLo C
set_option maxHeartbeats 4000000 in
set_option maxRecDepth 100000 in
theorem oC_Sto_isGreater_p8 (l : Launch) (D : va_G) (kA : Nat → ClassId) (u w : Nat → Nat) (tx : Value) (rec : mF) (ih : ∀ t σ xs res, rec t σ xs = some res → cSem l D kA u w tx t σ xs res) (σ : mS) (xs : List Int32) (res : mR) (h : u_5 (kC_Sto_isGreater_p8 rec σ) xs = some res) : sC_Sto_isGreater_p8 l D kA u w tx σ xs res := by
  intro x0 x1 x2 x3 x4 hxs
  subst hxs
  obtain ⟨σf, rf, dd⟩ := res
  have h : (if 2 ≤ x4 then (rec tC_Sto_isGreater_p129 σ [x0, x1, x2, x3, 0]) else (rec tC_Sto_isGreater_p17 σ [x0, x1, x2, x3, x4, 0])) = some (σf, rf, dd) := h
  intro p e s m args below meth c F Lo σ0 hF hLo C
  dsimp only at hF hLo ⊢
  refine ax_iload (pc := 8) C d_Sto_isGreater_8 5 rfl ?_
  refine ax_iconst (pc := 10) C 2 d_Sto_isGreater_10 (by decide +kernel) ?_
  refine ax_icmp_ge (pc := 11) C 126 d_Sto_isGreater_11 (by decide) (fun hc => ?_) (fun hc => ?_)
  · have h := it_t hc h
    refine ax_iconst (pc := 126) C 0 d_Sto_isGreater_126 (by decide +kernel) ?_
    refine ax_istore (pc := 127) C d_Sto_isGreater_127 (Nat.le_of_ble_eq_true rfl) ([(5, .int 0), (0, .ref (u 54)), (1, .int x0), (2, .int x1), (3, .int x2), (4, .int x3)]) rfl ?_
    refine ax_ls ([(0, .ref (u 54)), (1, .int x0), (2, .int x1), (3, .int x2), (4, .int x3), (5, .int 0)]) [1, 2, 3, 4, 5, 0] rfl ?_
    have hm : sC_Sto_isGreater_p129 l D kA u w tx σ [x0, x1, x2, x3, 0] (σf, rf, _) := ih tC_Sto_isGreater_p129 _ _ _ h
    exact hm _ _ _ _ _ rfl p e s m args below meth c F Lo σ0 hF hLo C
  · have h := it_f hc h
    refine ax_iconst (pc := 14) C 0 d_Sto_isGreater_14 (by decide +kernel) ?_
    refine ax_istore (pc := 15) C d_Sto_isGreater_15 (Nat.le_of_ble_eq_true rfl) ([(6, .int 0), (0, .ref (u 54)), (1, .int x0), (2, .int x1), (3, .int x2), (4, .int x3), (5, .int x4)]) rfl ?_
    refine ax_ls ([(0, .ref (u 54)), (1, .int x0), (2, .int x1), (3, .int x2), (4, .int x3), (5, .int x4), (6, .int 0)]) [1, 2, 3, 4, 5, 6, 0] rfl ?_
    have hm : sC_Sto_isGreater_p17 l D kA u w tx σ [x0, x1, x2, x3, x4, 0] (σf, rf, _) := ih tC_Sto_isGreater_p17 _ _ _ h
    exact hm _ _ _ _ _ _ rfl p e s m args below meth c F Lo σ0 hF hLo C
set_option maxHeartbeats 4000000 in
set_option maxRecDepth 100000 in
theorem oC_Sto_isGreater_p17 (l : Launch) (D : va_G) (kA : Nat → ClassId) (u w : Nat → Nat) (tx : Value) (rec : mF) (ih : ∀ t σ xs res, rec t σ xs = some res → cSem l D kA u w tx t σ xs res) (σ : mS) (xs : List Int32) (res : mR) (h : u_6 (kC_Sto_isGreater_p17 rec σ) xs = some res) : sC_Sto_isGreater_p17 l D kA u w tx σ xs res := by
  intro x0 x1 x2 x3 x4 x5 hxs
  subst hxs
  obtain ⟨σf, rf, dd⟩ := res
  have h : (if 2 ≤ x5 then (rec tC_Sto_isGreater_p8 σ [x0, x1, x2, x3, (x4 + 1)]) else (if ((((x2 : Int32) >>> (x4 &&& 31)) : Int32) &&& 1) = 1 then (if ((((x3 : Int32) >>> (x5 &&& 31)) : Int32) &&& 1) = 1 then (rec tC_Sto_isGreater_p49 σ [x0, x1, x2, x3, x4, x5, 1]) else (rec tC_Sto_isGreater_p48 σ [x0, x1, x2, x3, x4, x5])) else (rec tC_Sto_isGreater_p48 σ [x0, x1, x2, x3, x4, x5]))) = some (σf, rf, dd) := h
  intro p e s m args below meth c F Lo σ0 hF hLo C
  dsimp only at hF hLo ⊢
  refine ax_iload (pc := 17) C d_Sto_isGreater_17 6 rfl ?_
  refine ax_iconst (pc := 19) C 2 d_Sto_isGreater_19 (by decide +kernel) ?_
  refine ax_icmp_ge (pc := 20) C 120 d_Sto_isGreater_20 (by decide) (fun hc => ?_) (fun hc => ?_)
  · have h := it_t hc h
    refine ax_iinc (pc := 120) C (x4 + 1) d_Sto_isGreater_120 5 rfl rfl (Nat.le_of_ble_eq_true rfl) ([(5, .int (x4 + 1)), (0, .ref (u 54)), (1, .int x0), (2, .int x1), (3, .int x2), (4, .int x3), (6, .int x5)]) rfl ?_
    refine ax_goto (pc := 123) C 8 d_Sto_isGreater_123 (by decide) ?_
    refine ax_ls ([(0, .ref (u 54)), (1, .int x0), (2, .int x1), (3, .int x2), (4, .int x3), (5, .int (x4 + 1))]) [1, 2, 3, 4, 5, 0] rfl ?_
    have hm : sC_Sto_isGreater_p8 l D kA u w tx σ [x0, x1, x2, x3, (x4 + 1)] (σf, rf, _) := ih tC_Sto_isGreater_p8 _ _ _ h
    exact hm _ _ _ _ _ rfl p e s m args below meth c F Lo σ0 hF hLo C
  · have h := it_f hc h
    refine ax_iload_n (pc := 23) C d_Sto_isGreater_23 rfl 3 rfl ?_
    refine ax_iload (pc := 24) C d_Sto_isGreater_24 5 rfl ?_
    refine ax_ishr (pc := 26) C d_Sto_isGreater_26 ?_
    refine ax_iconst (pc := 27) C 1 d_Sto_isGreater_27 (by decide +kernel) ?_
    refine ax_iand (pc := 28) C d_Sto_isGreater_28 ?_
    refine ax_iconst (pc := 29) C 1 d_Sto_isGreater_29 (by decide +kernel) ?_
    refine ax_icmp_ne (pc := 30) C 48 d_Sto_isGreater_30 (by decide) (fun hc => ?_) (fun hc => ?_)
    · have h := it_f hc h
      refine ax_ls ([(0, .ref (u 54)), (1, .int x0), (2, .int x1), (3, .int x2), (4, .int x3), (5, .int x4), (6, .int x5)]) [0, 1, 2, 3, 4, 5, 6] rfl ?_
      have hm : sC_Sto_isGreater_p48 l D kA u w tx σ [x0, x1, x2, x3, x4, x5] (σf, rf, _) := ih tC_Sto_isGreater_p48 _ _ _ h
      exact hm _ _ _ _ _ _ rfl p e s m args below meth c F Lo σ0 hF hLo C
    · have h := it_t hc h
      refine ax_iload (pc := 33) C d_Sto_isGreater_33 4 rfl ?_
      refine ax_iload (pc := 35) C d_Sto_isGreater_35 6 rfl ?_
      refine ax_ishr (pc := 37) C d_Sto_isGreater_37 ?_
      refine ax_iconst (pc := 38) C 1 d_Sto_isGreater_38 (by decide +kernel) ?_
      refine ax_iand (pc := 39) C d_Sto_isGreater_39 ?_
      refine ax_iconst (pc := 40) C 1 d_Sto_isGreater_40 (by decide +kernel) ?_
      refine ax_icmp_ne (pc := 41) C 48 d_Sto_isGreater_41 (by decide) (fun hc => ?_) (fun hc => ?_)
      · have h := it_f hc h
        refine ax_ls ([(0, .ref (u 54)), (1, .int x0), (2, .int x1), (3, .int x2), (4, .int x3), (5, .int x4), (6, .int x5)]) [0, 1, 2, 3, 4, 5, 6] rfl ?_
        have hm : sC_Sto_isGreater_p48 l D kA u w tx σ [x0, x1, x2, x3, x4, x5] (σf, rf, _) := ih tC_Sto_isGreater_p48 _ _ _ h
        exact hm _ _ _ _ _ _ rfl p e s m args below meth c F Lo σ0 hF hLo C
      · have h := it_t hc h
        refine ax_iconst (pc := 44) C 1 d_Sto_isGreater_44 (by decide +kernel) ?_
        refine ax_goto (pc := 45) C 49 d_Sto_isGreater_45 (by decide) ?_
        refine ax_ls ([(0, .ref (u 54)), (1, .int x0), (2, .int x1), (3, .int x2), (4, .int x3), (5, .int x4), (6, .int x5)]) [0, 1, 2, 3, 4, 5, 6] rfl ?_
        have hm : sC_Sto_isGreater_p49 l D kA u w tx σ [x0, x1, x2, x3, x4, x5, 1] (σf, rf, _) := ih tC_Sto_isGreater_p49 _ _ _ h
        exact hm _ _ _ _ _ _ _ rfl p e s m args below meth c F Lo σ0 hF hLo C
set_option maxHeartbeats 4000000 in
set_option maxRecDepth 100000 in
theorem oC_Sto_isGreater_p48 (l : Launch) (D : va_G) (kA : Nat → ClassId) (u w : Nat → Nat) (tx : Value) (rec : mF) (ih : ∀ t σ xs res, rec t σ xs = some res → cSem l D kA u w tx t σ xs res) (σ : mS) (xs : List Int32) (res : mR) (h : u_6 (kC_Sto_isGreater_p48 rec σ) xs = some res) : sC_Sto_isGreater_p48 l D kA u w tx σ xs res := by
  intro x0 x1 x2 x3 x4 x5 hxs
  subst hxs
  obtain ⟨σf, rf, dd⟩ := res
  have h : (rec tC_Sto_isGreater_p49 σ [x0, x1, x2, x3, x4, x5, 0]) = some (σf, rf, dd) := h
  intro p e s m args below meth c F Lo σ0 hF hLo C
  dsimp only at hF hLo ⊢
  refine ax_iconst (pc := 48) C 0 d_Sto_isGreater_48 (by decide +kernel) ?_
  refine ax_ls ([(0, .ref (u 54)), (1, .int x0), (2, .int x1), (3, .int x2), (4, .int x3), (5, .int x4), (6, .int x5)]) [0, 1, 2, 3, 4, 5, 6] rfl ?_
  have hm : sC_Sto_isGreater_p49 l D kA u w tx σ [x0, x1, x2, x3, x4, x5, 0] (σf, rf, _) := ih tC_Sto_isGreater_p49 _ _ _ h
  exact hm _ _ _ _ _ _ _ rfl p e s m args below meth c F Lo σ0 hF hLo C
set_option maxHeartbeats 4000000 in
set_option maxRecDepth 100000 in
theorem oC_Sto_isGreater_p49 (l : Launch) (D : va_G) (kA : Nat → ClassId) (u w : Nat → Nat) (tx : Value) (rec : mF) (ih : ∀ t σ xs res, rec t σ xs = some res → cSem l D kA u w tx t σ xs res) (σ : mS) (xs : List Int32) (res : mR) (h : u_7 (kC_Sto_isGreater_p49 rec σ) xs = some res) : sC_Sto_isGreater_p49 l D kA u w tx σ xs res := by
  intro x0 x1 x2 x3 x4 x5 x6 hxs
  subst hxs
  obtain ⟨σf, rf, dd⟩ := res
  have h : (if x6 = 0 then (rec tC_Sto_isGreater_p114 σ [x0, x1, x2, x3, x4, x5, x6]) else (bnd (rec tC_Sto_sideAt σ [x0, x4]) (fun σ1 r1 => bnd (rec tC_Sto_sideAt σ1 [x1, x5]) (fun σ2 r2 => bnd (rec tC_Sym_same_48_48 σ2 [r1, r2]) (fun σ3 r3 => if r3 = 0 then (rec tC_Sto_isGreater_p114 σ3 [x0, x1, x2, x3, x4, x5, x6]) else (rec tC_Sto_isGreater_p114 σ3 [x0, x1, ((x2 : Int32) &&& ((((1 : Int32) <<< (x4 &&& 31)) : Int32) ^^^ (-1))), ((x3 : Int32) &&& ((((1 : Int32) <<< (x5 &&& 31)) : Int32) ^^^ (-1))), x4, x5, x6])))))) = some (σf, rf, dd) := h
  intro p e s m args below meth c F Lo σ0 hF hLo C
  dsimp only at hF hLo ⊢
  refine ax_istore (pc := 49) C d_Sto_isGreater_49 (Nat.le_of_ble_eq_true rfl) ([(7, .int x6), (0, .ref (u 54)), (1, .int x0), (2, .int x1), (3, .int x2), (4, .int x3), (5, .int x4), (6, .int x5)]) rfl ?_
  refine ax_iload (pc := 51) C d_Sto_isGreater_51 0 rfl ?_
  refine ax_if_eq (pc := 53) C 114 d_Sto_isGreater_53 (by decide) (fun hc => ?_) (fun hc => ?_)
  · have h := it_t hc h
    refine ax_ls ([(0, .ref (u 54)), (1, .int x0), (2, .int x1), (3, .int x2), (4, .int x3), (5, .int x4), (6, .int x5), (7, .int x6)]) [1, 2, 3, 4, 5, 6, 7, 0] rfl ?_
    have hm : sC_Sto_isGreater_p114 l D kA u w tx σ [x0, x1, x2, x3, x4, x5, x6] (σf, rf, _) := ih tC_Sto_isGreater_p114 _ _ _ h
    exact hm _ _ _ _ _ _ _ rfl p e s m args below meth c F Lo σ0 hF hLo C
  · have h := it_f hc h
    refine ax_aload_n (pc := 56) C d_Sto_isGreater_56 rfl 1 rfl ?_
    refine cg_54_4_Sto_26 (pc := 57) C d_Sto_isGreater_57 ?_
    refine ax_aload_n (pc := 60) C d_Sto_isGreater_60 rfl 1 rfl ?_
    refine cg_54_0_Sto_14 (pc := 61) C d_Sto_isGreater_61 ?_
    refine cg_47_0_Sto_38 (pc := 64) C d_Sto_isGreater_64 ?_
    refine ax_aload_n (pc := 67) C d_Sto_isGreater_67 rfl 1 rfl ?_
    refine ax_iload_n (pc := 68) C d_Sto_isGreater_68 rfl 2 rfl ?_
    refine ax_iload (pc := 69) C d_Sto_isGreater_69 6 rfl ?_
    obtain ⟨σ1, r1, d1_1, d2_1, h1, h, hd2, hd1⟩ := it_b h
    have hm : sC_Sto_sideAt l D kA u w tx σ [x0, x4] (σ1, r1, d1_1) := ih tC_Sto_sideAt _ _ _ h1
    refine cc_Vi (pc := 71) C (r0 := r1) (σ2 := σ1) (As := [.int x0, .int x4]) (rest := [.ref (w 48), .ref (u 6)]) (hm _ _ rfl) ml_Sto_80 54 rfl rfl rfl d_Sto_isGreater_71 rfl rfl (by dsimp only; omega) (by dsimp only; omega) (Nat.le_of_ble_eq_true rfl) (Nat.le_of_ble_eq_true rfl) (Nat.le_of_ble_eq_true rfl) ?_
    have hF : d2_1 + 1 ≤ F := by omega
    have hLo : 48 * d2_1 + 48 ≤ Lo := by omega
    refine ax_aload_n (pc := 74) C d_Sto_isGreater_74 rfl 1 rfl ?_
    refine cg_54_0_Sto_14 (pc := 75) C d_Sto_isGreater_75 ?_
    refine cg_47_0_Sto_38 (pc := 78) C d_Sto_isGreater_78 ?_
    refine ax_aload_n (pc := 81) C d_Sto_isGreater_81 rfl 1 rfl ?_
    refine ax_iload_n (pc := 82) C d_Sto_isGreater_82 rfl 3 rfl ?_
    refine ax_iload (pc := 83) C d_Sto_isGreater_83 7 rfl ?_
    obtain ⟨σ2, r2, d1_2, d2_2, h1, h, hd2, hd1⟩ := it_b h
    have hm : sC_Sto_sideAt l D kA u w tx σ1 [x1, x5] (σ2, r2, d1_2) := ih tC_Sto_sideAt _ _ _ h1
    refine cc_Vi (pc := 85) C (r0 := r2) (σ2 := σ2) (As := [.int x1, .int x5]) (rest := [.ref (w 48), .int r1, .ref (w 48), .ref (u 6)]) (hm _ _ rfl) ml_Sto_80 54 rfl rfl rfl d_Sto_isGreater_85 rfl rfl (by dsimp only; omega) (by dsimp only; omega) (Nat.le_of_ble_eq_true rfl) (Nat.le_of_ble_eq_true rfl) (Nat.le_of_ble_eq_true rfl) ?_
    have hF : d2_2 + 1 ≤ F := by omega
    have hLo : 48 * d2_2 + 48 ≤ Lo := by omega
    obtain ⟨σ3, r3, d1_3, d2_3, h1, h, hd2, hd1⟩ := it_b h
    have hm : sC_Sym_same_48_48 l D kA u w tx σ2 [r1, r2] (σ3, r3, d1_3) := ih tC_Sym_same_48_48 _ _ _ h1
    refine cc_Vi (pc := 88) C (r0 := r3) (σ2 := σ3) (As := [.ref (w 48), .int r1, .ref (w 48), .int r2]) (rest := []) (hm _ _ rfl) ml_Sto_100 6 rfl rfl rfl d_Sto_isGreater_88 rfl rfl (by dsimp only; omega) (by dsimp only; omega) (Nat.le_of_ble_eq_true rfl) (Nat.le_of_ble_eq_true rfl) (Nat.le_of_ble_eq_true rfl) ?_
    have hF : d2_3 + 1 ≤ F := by omega
    have hLo : 48 * d2_3 + 48 ≤ Lo := by omega
    refine ax_if_eq (pc := 91) C 114 d_Sto_isGreater_91 (by decide) (fun hc => ?_) (fun hc => ?_)
    · have h := it_t hc h
      refine ax_ls ([(0, .ref (u 54)), (1, .int x0), (2, .int x1), (3, .int x2), (4, .int x3), (5, .int x4), (6, .int x5), (7, .int x6)]) [1, 2, 3, 4, 5, 6, 7, 0] rfl ?_
      have hm : sC_Sto_isGreater_p114 l D kA u w tx σ3 [x0, x1, x2, x3, x4, x5, x6] (σf, rf, _) := ih tC_Sto_isGreater_p114 _ _ _ h
      exact hm _ _ _ _ _ _ _ rfl p e s m args below meth c F Lo σ0 hF hLo C
    · have h := it_f hc h
      refine ax_iload_n (pc := 94) C d_Sto_isGreater_94 rfl 4 rfl ?_
      refine ax_iconst (pc := 95) C 1 d_Sto_isGreater_95 (by decide +kernel) ?_
      refine ax_iload (pc := 96) C d_Sto_isGreater_96 6 rfl ?_
      refine ax_ishl (pc := 98) C d_Sto_isGreater_98 ?_
      refine ax_iconst (pc := 99) C (-1) d_Sto_isGreater_99 (by decide +kernel) ?_
      refine ax_ixor (pc := 100) C d_Sto_isGreater_100 ?_
      refine ax_iand (pc := 101) C d_Sto_isGreater_101 ?_
      refine ax_istore_n (pc := 102) C d_Sto_isGreater_102 rfl (Nat.le_of_ble_eq_true rfl) ([(3, .int ((x2 : Int32) &&& ((((1 : Int32) <<< (x4 &&& 31)) : Int32) ^^^ (-1)))), (7, .int x6), (0, .ref (u 54)), (1, .int x0), (2, .int x1), (4, .int x3), (5, .int x4), (6, .int x5)]) rfl ?_
      refine ax_iload (pc := 103) C d_Sto_isGreater_103 5 rfl ?_
      refine ax_iconst (pc := 105) C 1 d_Sto_isGreater_105 (by decide +kernel) ?_
      refine ax_iload (pc := 106) C d_Sto_isGreater_106 7 rfl ?_
      refine ax_ishl (pc := 108) C d_Sto_isGreater_108 ?_
      refine ax_iconst (pc := 109) C (-1) d_Sto_isGreater_109 (by decide +kernel) ?_
      refine ax_ixor (pc := 110) C d_Sto_isGreater_110 ?_
      refine ax_iand (pc := 111) C d_Sto_isGreater_111 ?_
      refine ax_istore (pc := 112) C d_Sto_isGreater_112 (Nat.le_of_ble_eq_true rfl) ([(4, .int ((x3 : Int32) &&& ((((1 : Int32) <<< (x5 &&& 31)) : Int32) ^^^ (-1)))), (3, .int ((x2 : Int32) &&& ((((1 : Int32) <<< (x4 &&& 31)) : Int32) ^^^ (-1)))), (7, .int x6), (0, .ref (u 54)), (1, .int x0), (2, .int x1), (5, .int x4), (6, .int x5)]) rfl ?_
      refine ax_ls ([(0, .ref (u 54)), (1, .int x0), (2, .int x1), (3, .int ((x2 : Int32) &&& ((((1 : Int32) <<< (x4 &&& 31)) : Int32) ^^^ (-1)))), (4, .int ((x3 : Int32) &&& ((((1 : Int32) <<< (x5 &&& 31)) : Int32) ^^^ (-1)))), (5, .int x4), (6, .int x5), (7, .int x6)]) [3, 4, 5, 1, 0, 6, 7, 2] rfl ?_
      have hm : sC_Sto_isGreater_p114 l D kA u w tx σ3 [x0, x1, ((x2 : Int32) &&& ((((1 : Int32) <<< (x4 &&& 31)) : Int32) ^^^ (-1))), ((x3 : Int32) &&& ((((1 : Int32) <<< (x5 &&& 31)) : Int32) ^^^ (-1))), x4, x5, x6] (σf, rf, _) := ih tC_Sto_isGreater_p114 _ _ _ h
      exact hm _ _ _ _ _ _ _ rfl p e s m args below meth c F Lo σ0 hF hLo C
set_option maxHeartbeats 4000000 in
set_option maxRecDepth 100000 in
theorem oC_Sto_isGreater_p114 (l : Launch) (D : va_G) (kA : Nat → ClassId) (u w : Nat → Nat) (tx : Value) (rec : mF) (ih : ∀ t σ xs res, rec t σ xs = some res → cSem l D kA u w tx t σ xs res) (σ : mS) (xs : List Int32) (res : mR) (h : u_7 (kC_Sto_isGreater_p114 rec σ) xs = some res) : sC_Sto_isGreater_p114 l D kA u w tx σ xs res := by
  intro x0 x1 x2 x3 x4 x5 x6 hxs
  subst hxs
  obtain ⟨σf, rf, dd⟩ := res
  have h : (rec tC_Sto_isGreater_p17 σ [x0, x1, x2, x3, x4, (x5 + 1)]) = some (σf, rf, dd) := h
  intro p e s m args below meth c F Lo σ0 hF hLo C
  dsimp only at hF hLo ⊢
  refine ax_iinc (pc := 114) C (x5 + 1) d_Sto_isGreater_114 6 rfl rfl (Nat.le_of_ble_eq_true rfl) ([(6, .int (x5 + 1)), (0, .ref (u 54)), (1, .int x0), (2, .int x1), (3, .int x2), (4, .int x3), (5, .int x4), (7, .int x6)]) rfl ?_
  refine ax_goto (pc := 117) C 17 d_Sto_isGreater_117 (by decide) ?_
  refine ax_ls ([(0, .ref (u 54)), (1, .int x0), (2, .int x1), (3, .int x2), (4, .int x3), (5, .int x4), (6, .int (x5 + 1))]) [1, 2, 3, 4, 5, 6, 0] rfl ?_
  have hm : sC_Sto_isGreater_p17 l D kA u w tx σ [x0, x1, x2, x3, x4, (x5 + 1)] (σf, rf, _) := ih tC_Sto_isGreater_p17 _ _ _ h
  exact hm _ _ _ _ _ _ rfl p e s m args below meth c F Lo σ0 hF hLo C
set_option maxHeartbeats 4000000 in
set_option maxRecDepth 100000 in
theorem oC_Sto_isGreater_p129 (l : Launch) (D : va_G) (kA : Nat → ClassId) (u w : Nat → Nat) (tx : Value) (rec : mF) (ih : ∀ t σ xs res, rec t σ xs = some res → cSem l D kA u w tx t σ xs res) (σ : mS) (xs : List Int32) (res : mR) (h : u_5 (kC_Sto_isGreater_p129 rec σ) xs = some res) : sC_Sto_isGreater_p129 l D kA u w tx σ xs res := by
  intro x0 x1 x2 x3 x4 hxs
  subst hxs
  obtain ⟨σf, rf, dd⟩ := res
  have h : (if 2 ≤ x4 then (if x2 = 0 then (rec tC_Sto_isGreater_p249 σ [x0, x1, x2, x3, x4, 0]) else (rec tC_Sto_isGreater_p249 σ [x0, x1, x2, x3, x4, 1])) else (if ((((x3 : Int32) >>> (x4 &&& 31)) : Int32) &&& 1) = 0 then (rec tC_Sto_isGreater_p150 σ [x0, x1, x2, x3, x4, 1]) else (rec tC_Sto_isGreater_p150 σ [x0, x1, x2, x3, x4, 0]))) = some (σf, rf, dd) := h
  intro p e s m args below meth c F Lo σ0 hF hLo C
  dsimp only at hF hLo ⊢
  refine ax_iload (pc := 129) C d_Sto_isGreater_129 5 rfl ?_
  refine ax_iconst (pc := 131) C 2 d_Sto_isGreater_131 (by decide +kernel) ?_
  refine ax_icmp_ge (pc := 132) C 240 d_Sto_isGreater_132 (by decide) (fun hc => ?_) (fun hc => ?_)
  · have h := it_t hc h
    refine ax_iload_n (pc := 240) C d_Sto_isGreater_240 rfl 3 rfl ?_
    refine ax_if_eq (pc := 241) C 248 d_Sto_isGreater_241 (by decide) (fun hc => ?_) (fun hc => ?_)
    · have h := it_t hc h
      refine ax_iconst (pc := 248) C 0 d_Sto_isGreater_248 (by decide +kernel) ?_
      refine ax_ls ([(0, .ref (u 54)), (1, .int x0), (2, .int x1), (3, .int x2), (4, .int x3), (5, .int x4)]) [0, 1, 2, 3, 4, 5] rfl ?_
      have hm : sC_Sto_isGreater_p249 l D kA u w tx σ [x0, x1, x2, x3, x4, 0] (σf, rf, _) := ih tC_Sto_isGreater_p249 _ _ _ h
      exact hm _ _ _ _ _ _ rfl p e s m args below meth c F Lo σ0 hF hLo C
    · have h := it_f hc h
      refine ax_iconst (pc := 244) C 1 d_Sto_isGreater_244 (by decide +kernel) ?_
      refine ax_goto (pc := 245) C 249 d_Sto_isGreater_245 (by decide) ?_
      refine ax_ls ([(0, .ref (u 54)), (1, .int x0), (2, .int x1), (3, .int x2), (4, .int x3), (5, .int x4)]) [0, 1, 2, 3, 4, 5] rfl ?_
      have hm : sC_Sto_isGreater_p249 l D kA u w tx σ [x0, x1, x2, x3, x4, 1] (σf, rf, _) := ih tC_Sto_isGreater_p249 _ _ _ h
      exact hm _ _ _ _ _ _ rfl p e s m args below meth c F Lo σ0 hF hLo C
  · have h := it_f hc h
    refine ax_iload (pc := 135) C d_Sto_isGreater_135 4 rfl ?_
    refine ax_iload (pc := 137) C d_Sto_isGreater_137 5 rfl ?_
    refine ax_ishr (pc := 139) C d_Sto_isGreater_139 ?_
    refine ax_iconst (pc := 140) C 1 d_Sto_isGreater_140 (by decide +kernel) ?_
    refine ax_iand (pc := 141) C d_Sto_isGreater_141 ?_
    refine ax_if_ne (pc := 142) C 149 d_Sto_isGreater_142 (by decide) (fun hc => ?_) (fun hc => ?_)
    · have h := it_f hc h
      refine ax_iconst (pc := 149) C 0 d_Sto_isGreater_149 (by decide +kernel) ?_
      refine ax_ls ([(0, .ref (u 54)), (1, .int x0), (2, .int x1), (3, .int x2), (4, .int x3), (5, .int x4)]) [0, 1, 2, 3, 4, 5] rfl ?_
      have hm : sC_Sto_isGreater_p150 l D kA u w tx σ [x0, x1, x2, x3, x4, 0] (σf, rf, _) := ih tC_Sto_isGreater_p150 _ _ _ h
      exact hm _ _ _ _ _ _ rfl p e s m args below meth c F Lo σ0 hF hLo C
    · have h := it_t hc h
      refine ax_iconst (pc := 145) C 1 d_Sto_isGreater_145 (by decide +kernel) ?_
      refine ax_goto (pc := 146) C 150 d_Sto_isGreater_146 (by decide) ?_
      refine ax_ls ([(0, .ref (u 54)), (1, .int x0), (2, .int x1), (3, .int x2), (4, .int x3), (5, .int x4)]) [0, 1, 2, 3, 4, 5] rfl ?_
      have hm : sC_Sto_isGreater_p150 l D kA u w tx σ [x0, x1, x2, x3, x4, 1] (σf, rf, _) := ih tC_Sto_isGreater_p150 _ _ _ h
      exact hm _ _ _ _ _ _ rfl p e s m args below meth c F Lo σ0 hF hLo C
set_option maxHeartbeats 4000000 in
set_option maxRecDepth 100000 in
theorem oC_Sto_isGreater_p150 (l : Launch) (D : va_G) (kA : Nat → ClassId) (u w : Nat → Nat) (tx : Value) (rec : mF) (ih : ∀ t σ xs res, rec t σ xs = some res → cSem l D kA u w tx t σ xs res) (σ : mS) (xs : List Int32) (res : mR) (h : u_6 (kC_Sto_isGreater_p150 rec σ) xs = some res) : sC_Sto_isGreater_p150 l D kA u w tx σ xs res := by
  intro x0 x1 x2 x3 x4 x5 hxs
  subst hxs
  obtain ⟨σf, rf, dd⟩ := res
  have h : (rec tC_Sto_isGreater_p155 σ [x0, x1, x2, x3, x4, x5, 0]) = some (σf, rf, dd) := h
  intro p e s m args below meth c F Lo σ0 hF hLo C
  dsimp only at hF hLo ⊢
  refine ax_istore (pc := 150) C d_Sto_isGreater_150 (Nat.le_of_ble_eq_true rfl) ([(6, .int x5), (0, .ref (u 54)), (1, .int x0), (2, .int x1), (3, .int x2), (4, .int x3), (5, .int x4)]) rfl ?_
  refine ax_iconst (pc := 152) C 0 d_Sto_isGreater_152 (by decide +kernel) ?_
  refine ax_istore (pc := 153) C d_Sto_isGreater_153 (Nat.le_of_ble_eq_true rfl) ([(7, .int 0), (6, .int x5), (0, .ref (u 54)), (1, .int x0), (2, .int x1), (3, .int x2), (4, .int x3), (5, .int x4)]) rfl ?_
  refine ax_ls ([(0, .ref (u 54)), (1, .int x0), (2, .int x1), (3, .int x2), (4, .int x3), (5, .int x4), (6, .int x5), (7, .int 0)]) [2, 3, 4, 5, 6, 7, 1, 0] rfl ?_
  have hm : sC_Sto_isGreater_p155 l D kA u w tx σ [x0, x1, x2, x3, x4, x5, 0] (σf, rf, _) := ih tC_Sto_isGreater_p155 _ _ _ h
  exact hm _ _ _ _ _ _ _ rfl p e s m args below meth c F Lo σ0 hF hLo C
set_option maxHeartbeats 4000000 in
set_option maxRecDepth 100000 in
theorem oC_Sto_isGreater_p155 (l : Launch) (D : va_G) (kA : Nat → ClassId) (u w : Nat → Nat) (tx : Value) (rec : mF) (ih : ∀ t σ xs res, rec t σ xs = some res → cSem l D kA u w tx t σ xs res) (σ : mS) (xs : List Int32) (res : mR) (h : u_7 (kC_Sto_isGreater_p155 rec σ) xs = some res) : sC_Sto_isGreater_p155 l D kA u w tx σ xs res := by
  intro x0 x1 x2 x3 x4 x5 x6 hxs
  subst hxs
  obtain ⟨σf, rf, dd⟩ := res
  have h : (if 2 ≤ x6 then (rec tC_Sto_isGreater_p227 σ [x0, x1, x2, x3, x4, x5, x6]) else (if x5 = 0 then (if ((((x2 : Int32) >>> (x6 &&& 31)) : Int32) &&& 1) = 1 then (bnd (rec tC_Sto_sideAt σ [x0, x6]) (fun σ1 r1 => bnd (rec tC_Sto_sideAt σ1 [x1, x4]) (fun σ2 r2 => bnd (rec tC_Sym_greater_48_48 σ2 [r1, r2]) (fun σ3 r3 => if r3 = 0 then (rec tC_Sto_isGreater_p218 σ3 [x0, x1, x2, x3, x4, x5, x6]) else (rec tC_Sto_isGreater_p219 σ3 [x0, x1, x2, x3, x4, x5, x6, 1]))))) else (rec tC_Sto_isGreater_p218 σ [x0, x1, x2, x3, x4, x5, x6])) else (rec tC_Sto_isGreater_p227 σ [x0, x1, x2, x3, x4, x5, x6]))) = some (σf, rf, dd) := h
  intro p e s m args below meth c F Lo σ0 hF hLo C
  dsimp only at hF hLo ⊢
  refine ax_iload (pc := 155) C d_Sto_isGreater_155 7 rfl ?_
  refine ax_iconst (pc := 157) C 2 d_Sto_isGreater_157 (by decide +kernel) ?_
  refine ax_icmp_ge (pc := 158) C 227 d_Sto_isGreater_158 (by decide) (fun hc => ?_) (fun hc => ?_)
  · have h := it_t hc h
    refine ax_ls ([(0, .ref (u 54)), (1, .int x0), (2, .int x1), (3, .int x2), (4, .int x3), (5, .int x4), (6, .int x5), (7, .int x6)]) [0, 1, 2, 3, 4, 5, 6, 7] rfl ?_
    have hm : sC_Sto_isGreater_p227 l D kA u w tx σ [x0, x1, x2, x3, x4, x5, x6] (σf, rf, _) := ih tC_Sto_isGreater_p227 _ _ _ h
    exact hm _ _ _ _ _ _ _ rfl p e s m args below meth c F Lo σ0 hF hLo C
  · have h := it_f hc h
    refine ax_iload (pc := 161) C d_Sto_isGreater_161 6 rfl ?_
    refine ax_if_ne (pc := 163) C 227 d_Sto_isGreater_163 (by decide) (fun hc => ?_) (fun hc => ?_)
    · have h := it_f hc h
      refine ax_ls ([(0, .ref (u 54)), (1, .int x0), (2, .int x1), (3, .int x2), (4, .int x3), (5, .int x4), (6, .int x5), (7, .int x6)]) [0, 1, 2, 3, 4, 5, 6, 7] rfl ?_
      have hm : sC_Sto_isGreater_p227 l D kA u w tx σ [x0, x1, x2, x3, x4, x5, x6] (σf, rf, _) := ih tC_Sto_isGreater_p227 _ _ _ h
      exact hm _ _ _ _ _ _ _ rfl p e s m args below meth c F Lo σ0 hF hLo C
    · have h := it_t hc h
      refine ax_iload_n (pc := 166) C d_Sto_isGreater_166 rfl 3 rfl ?_
      refine ax_iload (pc := 167) C d_Sto_isGreater_167 7 rfl ?_
      refine ax_ishr (pc := 169) C d_Sto_isGreater_169 ?_
      refine ax_iconst (pc := 170) C 1 d_Sto_isGreater_170 (by decide +kernel) ?_
      refine ax_iand (pc := 171) C d_Sto_isGreater_171 ?_
      refine ax_iconst (pc := 172) C 1 d_Sto_isGreater_172 (by decide +kernel) ?_
      refine ax_icmp_ne (pc := 173) C 218 d_Sto_isGreater_173 (by decide) (fun hc => ?_) (fun hc => ?_)
      · have h := it_f hc h
        refine ax_ls ([(0, .ref (u 54)), (1, .int x0), (2, .int x1), (3, .int x2), (4, .int x3), (5, .int x4), (6, .int x5), (7, .int x6)]) [0, 1, 2, 3, 4, 5, 6, 7] rfl ?_
        have hm : sC_Sto_isGreater_p218 l D kA u w tx σ [x0, x1, x2, x3, x4, x5, x6] (σf, rf, _) := ih tC_Sto_isGreater_p218 _ _ _ h
        exact hm _ _ _ _ _ _ _ rfl p e s m args below meth c F Lo σ0 hF hLo C
      · have h := it_t hc h
        refine ax_aload_n (pc := 176) C d_Sto_isGreater_176 rfl 0 rfl ?_
        refine cg_54_4_Sto_26 (pc := 177) C d_Sto_isGreater_177 ?_
        refine ax_aload_n (pc := 180) C d_Sto_isGreater_180 rfl 0 rfl ?_
        refine cg_54_0_Sto_14 (pc := 181) C d_Sto_isGreater_181 ?_
        refine cg_47_0_Sto_38 (pc := 184) C d_Sto_isGreater_184 ?_
        refine ax_aload_n (pc := 187) C d_Sto_isGreater_187 rfl 0 rfl ?_
        refine ax_iload_n (pc := 188) C d_Sto_isGreater_188 rfl 1 rfl ?_
        refine ax_iload (pc := 189) C d_Sto_isGreater_189 7 rfl ?_
        obtain ⟨σ1, r1, d1_1, d2_1, h1, h, hd2, hd1⟩ := it_b h
        have hm : sC_Sto_sideAt l D kA u w tx σ [x0, x6] (σ1, r1, d1_1) := ih tC_Sto_sideAt _ _ _ h1
        refine cc_Vi (pc := 191) C (r0 := r1) (σ2 := σ1) (As := [.int x0, .int x6]) (rest := [.ref (w 48), .ref (u 6)]) (hm _ _ rfl) ml_Sto_80 54 rfl rfl rfl d_Sto_isGreater_191 rfl rfl (by dsimp only; omega) (by dsimp only; omega) (Nat.le_of_ble_eq_true rfl) (Nat.le_of_ble_eq_true rfl) (Nat.le_of_ble_eq_true rfl) ?_
        have hF : d2_1 + 1 ≤ F := by omega
        have hLo : 48 * d2_1 + 48 ≤ Lo := by omega
        refine ax_aload_n (pc := 194) C d_Sto_isGreater_194 rfl 0 rfl ?_
        refine cg_54_0_Sto_14 (pc := 195) C d_Sto_isGreater_195 ?_
        refine cg_47_0_Sto_38 (pc := 198) C d_Sto_isGreater_198 ?_
        refine ax_aload_n (pc := 201) C d_Sto_isGreater_201 rfl 0 rfl ?_
        refine ax_iload_n (pc := 202) C d_Sto_isGreater_202 rfl 2 rfl ?_
        refine ax_iload (pc := 203) C d_Sto_isGreater_203 5 rfl ?_
        obtain ⟨σ2, r2, d1_2, d2_2, h1, h, hd2, hd1⟩ := it_b h
        have hm : sC_Sto_sideAt l D kA u w tx σ1 [x1, x4] (σ2, r2, d1_2) := ih tC_Sto_sideAt _ _ _ h1
        refine cc_Vi (pc := 205) C (r0 := r2) (σ2 := σ2) (As := [.int x1, .int x4]) (rest := [.ref (w 48), .int r1, .ref (w 48), .ref (u 6)]) (hm _ _ rfl) ml_Sto_80 54 rfl rfl rfl d_Sto_isGreater_205 rfl rfl (by dsimp only; omega) (by dsimp only; omega) (Nat.le_of_ble_eq_true rfl) (Nat.le_of_ble_eq_true rfl) (Nat.le_of_ble_eq_true rfl) ?_
        have hF : d2_2 + 1 ≤ F := by omega
        have hLo : 48 * d2_2 + 48 ≤ Lo := by omega
        obtain ⟨σ3, r3, d1_3, d2_3, h1, h, hd2, hd1⟩ := it_b h
        have hm : sC_Sym_greater_48_48 l D kA u w tx σ2 [r1, r2] (σ3, r3, d1_3) := ih tC_Sym_greater_48_48 _ _ _ h1
        refine cc_Vi (pc := 208) C (r0 := r3) (σ2 := σ3) (As := [.ref (w 48), .int r1, .ref (w 48), .int r2]) (rest := []) (hm _ _ rfl) ml_Sto_87 6 rfl rfl rfl d_Sto_isGreater_208 rfl rfl (by dsimp only; omega) (by dsimp only; omega) (Nat.le_of_ble_eq_true rfl) (Nat.le_of_ble_eq_true rfl) (Nat.le_of_ble_eq_true rfl) ?_
        have hF : d2_3 + 1 ≤ F := by omega
        have hLo : 48 * d2_3 + 48 ≤ Lo := by omega
        refine ax_if_eq (pc := 211) C 218 d_Sto_isGreater_211 (by decide) (fun hc => ?_) (fun hc => ?_)
        · have h := it_t hc h
          refine ax_ls ([(0, .ref (u 54)), (1, .int x0), (2, .int x1), (3, .int x2), (4, .int x3), (5, .int x4), (6, .int x5), (7, .int x6)]) [0, 1, 2, 3, 4, 5, 6, 7] rfl ?_
          have hm : sC_Sto_isGreater_p218 l D kA u w tx σ3 [x0, x1, x2, x3, x4, x5, x6] (σf, rf, _) := ih tC_Sto_isGreater_p218 _ _ _ h
          exact hm _ _ _ _ _ _ _ rfl p e s m args below meth c F Lo σ0 hF hLo C
        · have h := it_f hc h
          refine ax_iconst (pc := 214) C 1 d_Sto_isGreater_214 (by decide +kernel) ?_
          refine ax_goto (pc := 215) C 219 d_Sto_isGreater_215 (by decide) ?_
          refine ax_ls ([(0, .ref (u 54)), (1, .int x0), (2, .int x1), (3, .int x2), (4, .int x3), (5, .int x4), (6, .int x5), (7, .int x6)]) [0, 1, 2, 3, 4, 5, 6, 7] rfl ?_
          have hm : sC_Sto_isGreater_p219 l D kA u w tx σ3 [x0, x1, x2, x3, x4, x5, x6, 1] (σf, rf, _) := ih tC_Sto_isGreater_p219 _ _ _ h
          exact hm _ _ _ _ _ _ _ _ rfl p e s m args below meth c F Lo σ0 hF hLo C
set_option maxHeartbeats 4000000 in
set_option maxRecDepth 100000 in
theorem oC_Sto_isGreater_p218 (l : Launch) (D : va_G) (kA : Nat → ClassId) (u w : Nat → Nat) (tx : Value) (rec : mF) (ih : ∀ t σ xs res, rec t σ xs = some res → cSem l D kA u w tx t σ xs res) (σ : mS) (xs : List Int32) (res : mR) (h : u_7 (kC_Sto_isGreater_p218 rec σ) xs = some res) : sC_Sto_isGreater_p218 l D kA u w tx σ xs res := by
  intro x0 x1 x2 x3 x4 x5 x6 hxs
  subst hxs
  obtain ⟨σf, rf, dd⟩ := res
  have h : (rec tC_Sto_isGreater_p219 σ [x0, x1, x2, x3, x4, x5, x6, 0]) = some (σf, rf, dd) := h
  intro p e s m args below meth c F Lo σ0 hF hLo C
  dsimp only at hF hLo ⊢
  refine ax_iconst (pc := 218) C 0 d_Sto_isGreater_218 (by decide +kernel) ?_
  refine ax_ls ([(0, .ref (u 54)), (1, .int x0), (2, .int x1), (3, .int x2), (4, .int x3), (5, .int x4), (6, .int x5), (7, .int x6)]) [0, 1, 2, 3, 4, 5, 6, 7] rfl ?_
  have hm : sC_Sto_isGreater_p219 l D kA u w tx σ [x0, x1, x2, x3, x4, x5, x6, 0] (σf, rf, _) := ih tC_Sto_isGreater_p219 _ _ _ h
  exact hm _ _ _ _ _ _ _ _ rfl p e s m args below meth c F Lo σ0 hF hLo C
set_option maxHeartbeats 4000000 in
set_option maxRecDepth 100000 in
theorem oC_Sto_isGreater_p219 (l : Launch) (D : va_G) (kA : Nat → ClassId) (u w : Nat → Nat) (tx : Value) (rec : mF) (ih : ∀ t σ xs res, rec t σ xs = some res → cSem l D kA u w tx t σ xs res) (σ : mS) (xs : List Int32) (res : mR) (h : u_8 (kC_Sto_isGreater_p219 rec σ) xs = some res) : sC_Sto_isGreater_p219 l D kA u w tx σ xs res := by
  intro x0 x1 x2 x3 x4 x5 x6 x7 hxs
  subst hxs
  obtain ⟨σf, rf, dd⟩ := res
  have h : (rec tC_Sto_isGreater_p155 σ [x0, x1, x2, x3, x4, x7, (x6 + 1)]) = some (σf, rf, dd) := h
  intro p e s m args below meth c F Lo σ0 hF hLo C
  dsimp only at hF hLo ⊢
  refine ax_istore (pc := 219) C d_Sto_isGreater_219 (Nat.le_of_ble_eq_true rfl) ([(6, .int x7), (0, .ref (u 54)), (1, .int x0), (2, .int x1), (3, .int x2), (4, .int x3), (5, .int x4), (7, .int x6)]) rfl ?_
  refine ax_iinc (pc := 221) C (x6 + 1) d_Sto_isGreater_221 7 rfl rfl (Nat.le_of_ble_eq_true rfl) ([(7, .int (x6 + 1)), (6, .int x7), (0, .ref (u 54)), (1, .int x0), (2, .int x1), (3, .int x2), (4, .int x3), (5, .int x4)]) rfl ?_
  refine ax_goto (pc := 224) C 155 d_Sto_isGreater_224 (by decide) ?_
  refine ax_ls ([(0, .ref (u 54)), (1, .int x0), (2, .int x1), (3, .int x2), (4, .int x3), (5, .int x4), (6, .int x7), (7, .int (x6 + 1))]) [2, 3, 4, 5, 6, 7, 1, 0] rfl ?_
  have hm : sC_Sto_isGreater_p155 l D kA u w tx σ [x0, x1, x2, x3, x4, x7, (x6 + 1)] (σf, rf, _) := ih tC_Sto_isGreater_p155 _ _ _ h
  exact hm _ _ _ _ _ _ _ rfl p e s m args below meth c F Lo σ0 hF hLo C
set_option maxHeartbeats 4000000 in
set_option maxRecDepth 100000 in
theorem oC_Sto_isGreater_p227 (l : Launch) (D : va_G) (kA : Nat → ClassId) (u w : Nat → Nat) (tx : Value) (rec : mF) (ih : ∀ t σ xs res, rec t σ xs = some res → cSem l D kA u w tx t σ xs res) (σ : mS) (xs : List Int32) (res : mR) (h : u_7 (kC_Sto_isGreater_p227 rec σ) xs = some res) : sC_Sto_isGreater_p227 l D kA u w tx σ xs res := by
  intro x0 x1 x2 x3 x4 x5 x6 hxs
  subst hxs
  obtain ⟨σf, rf, dd⟩ := res
  have h : (if x5 = 0 then (some (σ, 0, 0)) else (rec tC_Sto_isGreater_p129 σ [x0, x1, x2, x3, (x4 + 1)])) = some (σf, rf, dd) := h
  intro p e s m args below meth c F Lo σ0 hF hLo C
  dsimp only at hF hLo ⊢
  refine ax_iload (pc := 227) C d_Sto_isGreater_227 6 rfl ?_
  refine ax_if_ne (pc := 229) C 234 d_Sto_isGreater_229 (by decide) (fun hc => ?_) (fun hc => ?_)
  · have h := it_f hc h
    refine ax_iinc (pc := 234) C (x4 + 1) d_Sto_isGreater_234 5 rfl rfl (Nat.le_of_ble_eq_true rfl) ([(5, .int (x4 + 1)), (0, .ref (u 54)), (1, .int x0), (2, .int x1), (3, .int x2), (4, .int x3), (6, .int x5), (7, .int x6)]) rfl ?_
    refine ax_goto (pc := 237) C 129 d_Sto_isGreater_237 (by decide) ?_
    refine ax_ls ([(0, .ref (u 54)), (1, .int x0), (2, .int x1), (3, .int x2), (4, .int x3), (5, .int (x4 + 1))]) [1, 2, 3, 4, 5, 0] rfl ?_
    have hm : sC_Sto_isGreater_p129 l D kA u w tx σ [x0, x1, x2, x3, (x4 + 1)] (σf, rf, _) := ih tC_Sto_isGreater_p129 _ _ _ h
    exact hm _ _ _ _ _ rfl p e s m args below meth c F Lo σ0 hF hLo C
  · have h := it_t hc h
    refine ax_iconst (pc := 232) C 0 d_Sto_isGreater_232 (by decide +kernel) ?_
    cases h
    exact ax_zret (pc := 233) C d_Sto_isGreater_233 rfl ⟨rfl, rfl⟩ (Nat.le_refl _) (Nat.le_refl _)
set_option maxHeartbeats 4000000 in
set_option maxRecDepth 100000 in
theorem oC_Sto_isGreater_p249 (l : Launch) (D : va_G) (kA : Nat → ClassId) (u w : Nat → Nat) (tx : Value) (rec : mF) (ih : ∀ t σ xs res, rec t σ xs = some res → cSem l D kA u w tx t σ xs res) (σ : mS) (xs : List Int32) (res : mR) (h : u_6 (kC_Sto_isGreater_p249 rec σ) xs = some res) : sC_Sto_isGreater_p249 l D kA u w tx σ xs res := by
  intro x0 x1 x2 x3 x4 x5 hxs
  subst hxs
  obtain ⟨σf, rf, dd⟩ := res
  have h : (if x5 = 0 ∨ x5 = 1 then some (σ, x5, 0) else none) = some (σf, rf, dd) := h
  intro p e s m args below meth c F Lo σ0 hF hLo C
  dsimp only at hF hLo ⊢
  obtain ⟨hb, h⟩ := it_g h
  cases h
  exact ax_zret (pc := 249) C d_Sto_isGreater_249 (nb01 hb) ⟨rfl, rfl⟩ (Nat.le_refl _) (Nat.le_refl _)
set_option maxHeartbeats 4000000 in
set_option maxRecDepth 100000 in
theorem oC_Sto_isPositive (l : Launch) (D : va_G) (kA : Nat → ClassId) (u w : Nat → Nat) (tx : Value) (rec : mF) (ih : ∀ t σ xs res, rec t σ xs = some res → cSem l D kA u w tx t σ xs res) (σ : mS) (xs : List Int32) (res : mR) (h : u_1 (kC_Sto_isPositive rec σ) xs = some res) : sC_Sto_isPositive l D kA u w tx σ xs res := by
  intro x0 hxs
  subst hxs
  obtain ⟨σf, rf, dd⟩ := res
  have h : (if bin ((x0 : Int32) + 0) (σ.2.2 48) = true then (if (σ.2.1 48 (Int32.toNatClampNeg ((x0 : Int32) + 0))) = 1 then (rec tC_Sto_isPositive_p20 σ [x0, 1]) else (rec tC_Sto_isPositive_p20 σ [x0, 0])) else none) = some (σf, rf, dd) := h
  refine ax_Mi.of (by decide +kernel) (Nat.le_of_ble_eq_true rfl) ?_
  intro p e s m args below meth c C hnm
  have C : ax_C p s m args meth c b_Sto_isPositive "ClauseProver$Store" 2 (some .boolean) D kA (va_A (cpW kA u w tx σ) s.heap.size) := C
  obtain ⟨F, hFe⟩ : ∃ F, F = dd + 1 := ⟨_, rfl⟩
  obtain ⟨Lo, hLoe⟩ : ∃ Lo, Lo = 48 * dd + 48 := ⟨_, rfl⟩
  obtain ⟨σ0, hσ0⟩ : ∃ s0, s0 = σ := ⟨_, rfl⟩
  suffices K : AW p l e { frames := F, cells := 0, slots := 0, locals := Lo } s m args below meth c D kA (va_A (cpW kA u w tx σ0) s.heap.size) 2 (ax_Qi below args s D kA (cpW kA u w tx σ0) 0 0 (fun r w1 => r = rf ∧ w1 = cpW kA u w tx σf)) 0 [(0, .ref (u 54)), (1, .int x0)] [] (cpW kA u w tx σ) 0 0 by rw [hFe, hLoe, hσ0] at K; exact ax_ls ([(0, .ref (u 54)), (1, .int x0)]) [0, 1] rfl K
  have C : ax_C p s m args meth c b_Sto_isPositive "ClauseProver$Store" 2 (some .boolean) D kA (va_A (cpW kA u w tx σ0) s.heap.size) := by rw [hσ0]; exact C
  have hF : dd + 1 ≤ F := by omega
  have hLo : 48 * dd + 48 ≤ Lo := by omega
  clear hFe hLoe hσ0
  refine ax_aload_n (pc := 0) C d_Sto_isPositive_0 rfl 0 rfl ?_
  refine cg_54_0_Sto_14 (pc := 1) C d_Sto_isPositive_1 ?_
  refine cg_47_0_Sto_38 (pc := 4) C d_Sto_isPositive_4 ?_
  refine ax_iload_n (pc := 7) C d_Sto_isPositive_7 rfl 1 rfl ?_
  refine ax_iconst (pc := 8) C 0 d_Sto_isPositive_8 (by decide +kernel) ?_
  refine ax_iadd (pc := 9) C d_Sto_isPositive_9 ?_
  obtain ⟨hb, h⟩ := it_g h
  refine cl_48 (pc := 10) C d_Sto_isPositive_10 (bin_in hb) ?_
  refine ax_iconst (pc := 11) C 1 d_Sto_isPositive_11 (by decide +kernel) ?_
  refine ax_icmp_ne (pc := 12) C 19 d_Sto_isPositive_12 (by decide) (fun hc => ?_) (fun hc => ?_)
  · have h := it_f hc h
    refine ax_iconst (pc := 19) C 0 d_Sto_isPositive_19 (by decide +kernel) ?_
    refine ax_ls ([(0, .ref (u 54)), (1, .int x0)]) [0, 1] rfl ?_
    have hm : sC_Sto_isPositive_p20 l D kA u w tx σ [x0, 0] (σf, rf, _) := ih tC_Sto_isPositive_p20 _ _ _ h
    exact hm _ _ rfl p e s m args below meth c F Lo σ0 hF hLo C
  · have h := it_t hc h
    refine ax_iconst (pc := 15) C 1 d_Sto_isPositive_15 (by decide +kernel) ?_
    refine ax_goto (pc := 16) C 20 d_Sto_isPositive_16 (by decide) ?_
    refine ax_ls ([(0, .ref (u 54)), (1, .int x0)]) [0, 1] rfl ?_
    have hm : sC_Sto_isPositive_p20 l D kA u w tx σ [x0, 1] (σf, rf, _) := ih tC_Sto_isPositive_p20 _ _ _ h
    exact hm _ _ rfl p e s m args below meth c F Lo σ0 hF hLo C
set_option maxHeartbeats 4000000 in
set_option maxRecDepth 100000 in
theorem oC_Sto_isPositive_p20 (l : Launch) (D : va_G) (kA : Nat → ClassId) (u w : Nat → Nat) (tx : Value) (rec : mF) (ih : ∀ t σ xs res, rec t σ xs = some res → cSem l D kA u w tx t σ xs res) (σ : mS) (xs : List Int32) (res : mR) (h : u_2 (kC_Sto_isPositive_p20 rec σ) xs = some res) : sC_Sto_isPositive_p20 l D kA u w tx σ xs res := by
  intro x0 x1 hxs
  subst hxs
  obtain ⟨σf, rf, dd⟩ := res
  have h : (if x1 = 0 ∨ x1 = 1 then some (σ, x1, 0) else none) = some (σf, rf, dd) := h
  intro p e s m args below meth c F Lo σ0 hF hLo C
  dsimp only at hF hLo ⊢
  obtain ⟨hb, h⟩ := it_g h
  cases h
  exact ax_zret (pc := 20) C d_Sto_isPositive_20 (nb01 hb) ⟨rfl, rfl⟩ (Nat.le_refl _) (Nat.le_refl _)
set_option maxHeartbeats 4000000 in
set_option maxRecDepth 100000 in
theorem oC_Sto_isTopmost (l : Launch) (D : va_G) (kA : Nat → ClassId) (u w : Nat → Nat) (tx : Value) (rec : mF) (ih : ∀ t σ xs res, rec t σ xs = some res → cSem l D kA u w tx t σ xs res) (σ : mS) (xs : List Int32) (res : mR) (h : u_2 (kC_Sto_isTopmost rec σ) xs = some res) : sC_Sto_isTopmost l D kA u w tx σ xs res := by
  intro x0 x1 hxs
  subst hxs
  obtain ⟨σf, rf, dd⟩ := res
  have h : (bnd (rec tC_Sto_fact σ [x0, 8]) (fun σ1 r1 => rec tC_Sto_isTopmost_p11 σ1 [x0, x1, r1, 0])) = some (σf, rf, dd) := h
  refine ax_Mi.of (by decide +kernel) (Nat.le_of_ble_eq_true rfl) ?_
  intro p e s m args below meth c C hnm
  have C : ax_C p s m args meth c b_Sto_isTopmost "ClauseProver$Store" 5 (some .boolean) D kA (va_A (cpW kA u w tx σ) s.heap.size) := C
  obtain ⟨F, hFe⟩ : ∃ F, F = dd + 1 := ⟨_, rfl⟩
  obtain ⟨Lo, hLoe⟩ : ∃ Lo, Lo = 48 * dd + 48 := ⟨_, rfl⟩
  obtain ⟨σ0, hσ0⟩ : ∃ s0, s0 = σ := ⟨_, rfl⟩
  suffices K : AW p l e { frames := F, cells := 0, slots := 0, locals := Lo } s m args below meth c D kA (va_A (cpW kA u w tx σ0) s.heap.size) 5 (ax_Qi below args s D kA (cpW kA u w tx σ0) 0 0 (fun r w1 => r = rf ∧ w1 = cpW kA u w tx σf)) 0 [(0, .ref (u 54)), (1, .int x0), (2, .int x1)] [] (cpW kA u w tx σ) 0 0 by rw [hFe, hLoe, hσ0] at K; exact ax_ls ([(0, .ref (u 54)), (1, .int x0), (2, .int x1)]) [0, 1, 2] rfl K
  have C : ax_C p s m args meth c b_Sto_isTopmost "ClauseProver$Store" 5 (some .boolean) D kA (va_A (cpW kA u w tx σ0) s.heap.size) := by rw [hσ0]; exact C
  have hF : dd + 1 ≤ F := by omega
  have hLo : 48 * dd + 48 ≤ Lo := by omega
  clear hFe hLoe hσ0
  refine ax_aload_n (pc := 0) C d_Sto_isTopmost_0 rfl 0 rfl ?_
  refine ax_iload_n (pc := 1) C d_Sto_isTopmost_1 rfl 1 rfl ?_
  refine ax_bipush (pc := 2) C 8 d_Sto_isTopmost_2 (by decide +kernel) ?_
  obtain ⟨σ1, r1, d1_1, d2_1, h1, h, hd2, hd1⟩ := it_b h
  have hm : sC_Sto_fact l D kA u w tx σ [x0, 8] (σ1, r1, d1_1) := ih tC_Sto_fact _ _ _ h1
  refine cc_Vi (pc := 4) C (r0 := r1) (σ2 := σ1) (As := [.int x0, .int 8]) (rest := []) (hm _ _ rfl) ml_Sto_42 54 rfl rfl rfl d_Sto_isTopmost_4 rfl rfl (by dsimp only; omega) (by dsimp only; omega) (Nat.le_of_ble_eq_true rfl) (Nat.le_of_ble_eq_true rfl) (Nat.le_of_ble_eq_true rfl) ?_
  have hF : d2_1 + 1 ≤ F := by omega
  have hLo : 48 * d2_1 + 48 ≤ Lo := by omega
  refine ax_istore_n (pc := 7) C d_Sto_isTopmost_7 rfl (Nat.le_of_ble_eq_true rfl) ([(3, .int r1), (0, .ref (u 54)), (1, .int x0), (2, .int x1)]) rfl ?_
  refine ax_iconst (pc := 8) C 0 d_Sto_isTopmost_8 (by decide +kernel) ?_
  refine ax_istore (pc := 9) C d_Sto_isTopmost_9 (Nat.le_of_ble_eq_true rfl) ([(4, .int 0), (3, .int r1), (0, .ref (u 54)), (1, .int x0), (2, .int x1)]) rfl ?_
  refine ax_ls ([(0, .ref (u 54)), (1, .int x0), (2, .int x1), (3, .int r1), (4, .int 0)]) [2, 3, 4, 1, 0] rfl ?_
  have hm : sC_Sto_isTopmost_p11 l D kA u w tx σ1 [x0, x1, r1, 0] (σf, rf, _) := ih tC_Sto_isTopmost_p11 _ _ _ h
  exact hm _ _ _ _ rfl p e s m args below meth c F Lo σ0 hF hLo C
set_option maxHeartbeats 4000000 in
set_option maxRecDepth 100000 in
theorem oC_Sto_isTopmost_p11 (l : Launch) (D : va_G) (kA : Nat → ClassId) (u w : Nat → Nat) (tx : Value) (rec : mF) (ih : ∀ t σ xs res, rec t σ xs = some res → cSem l D kA u w tx t σ xs res) (σ : mS) (xs : List Int32) (res : mR) (h : u_4 (kC_Sto_isTopmost_p11 rec σ) xs = some res) : sC_Sto_isTopmost_p11 l D kA u w tx σ xs res := by
  intro x0 x1 x2 x3 hxs
  subst hxs
  obtain ⟨σf, rf, dd⟩ := res
  have h : (bnd (rec tC_Sto_fact σ [x0, 3]) (fun σ1 r1 => if r1 ≤ x3 then (some (σ1, 1, 0)) else (if x2 = x1 then (rec tC_Sto_isTopmost_p38 σ1 [x0, x1, x2, x3]) else (bnd (rec tC_Sto_isGreater σ1 [x2, x1]) (fun σ2 r2 => if r2 = 0 then (rec tC_Sto_isTopmost_p38 σ2 [x0, x1, x2, x3]) else (some (σ2, 0, 0))))))) = some (σf, rf, dd) := h
  intro p e s m args below meth c F Lo σ0 hF hLo C
  dsimp only at hF hLo ⊢
  refine ax_iload (pc := 11) C d_Sto_isTopmost_11 4 rfl ?_
  refine ax_aload_n (pc := 13) C d_Sto_isTopmost_13 rfl 0 rfl ?_
  refine ax_iload_n (pc := 14) C d_Sto_isTopmost_14 rfl 1 rfl ?_
  refine ax_iconst (pc := 15) C 3 d_Sto_isTopmost_15 (by decide +kernel) ?_
  obtain ⟨σ1, r1, d1_1, d2_1, h1, h, hd2, hd1⟩ := it_b h
  have hm : sC_Sto_fact l D kA u w tx σ [x0, 3] (σ1, r1, d1_1) := ih tC_Sto_fact _ _ _ h1
  refine cc_Vi (pc := 16) C (r0 := r1) (σ2 := σ1) (As := [.int x0, .int 3]) (rest := [.int x3]) (hm _ _ rfl) ml_Sto_42 54 rfl rfl rfl d_Sto_isTopmost_16 rfl rfl (by dsimp only; omega) (by dsimp only; omega) (Nat.le_of_ble_eq_true rfl) (Nat.le_of_ble_eq_true rfl) (Nat.le_of_ble_eq_true rfl) ?_
  have hF : d2_1 + 1 ≤ F := by omega
  have hLo : 48 * d2_1 + 48 ≤ Lo := by omega
  refine ax_icmp_ge (pc := 19) C 50 d_Sto_isTopmost_19 (by decide) (fun hc => ?_) (fun hc => ?_)
  · have h := it_t hc h
    refine ax_iconst (pc := 50) C 1 d_Sto_isTopmost_50 (by decide +kernel) ?_
    cases h
    exact ax_zret (pc := 51) C d_Sto_isTopmost_51 rfl ⟨rfl, rfl⟩ (Nat.le_refl _) (Nat.le_refl _)
  · have h := it_f hc h
    refine ax_iload_n (pc := 22) C d_Sto_isTopmost_22 rfl 3 rfl ?_
    refine ax_iload_n (pc := 23) C d_Sto_isTopmost_23 rfl 2 rfl ?_
    refine ax_icmp_eq (pc := 24) C 38 d_Sto_isTopmost_24 (by decide) (fun hc => ?_) (fun hc => ?_)
    · have h := it_t hc h
      refine ax_ls ([(0, .ref (u 54)), (1, .int x0), (2, .int x1), (3, .int x2), (4, .int x3)]) [0, 1, 2, 3, 4] rfl ?_
      have hm : sC_Sto_isTopmost_p38 l D kA u w tx σ1 [x0, x1, x2, x3] (σf, rf, _) := ih tC_Sto_isTopmost_p38 _ _ _ h
      exact hm _ _ _ _ rfl p e s m args below meth c F Lo σ0 hF hLo C
    · have h := it_f hc h
      refine ax_aload_n (pc := 27) C d_Sto_isTopmost_27 rfl 0 rfl ?_
      refine ax_iload_n (pc := 28) C d_Sto_isTopmost_28 rfl 3 rfl ?_
      refine ax_iload_n (pc := 29) C d_Sto_isTopmost_29 rfl 2 rfl ?_
      obtain ⟨σ2, r2, d1_2, d2_2, h1, h, hd2, hd1⟩ := it_b h
      have hm : sC_Sto_isGreater l D kA u w tx σ1 [x2, x1] (σ2, r2, d1_2) := ih tC_Sto_isGreater _ _ _ h1
      refine cc_Vi (pc := 30) C (r0 := r2) (σ2 := σ2) (As := [.int x2, .int x1]) (rest := []) (hm _ _ rfl) ml_Sto_97 54 rfl rfl rfl d_Sto_isTopmost_30 rfl rfl (by dsimp only; omega) (by dsimp only; omega) (Nat.le_of_ble_eq_true rfl) (Nat.le_of_ble_eq_true rfl) (Nat.le_of_ble_eq_true rfl) ?_
      have hF : d2_2 + 1 ≤ F := by omega
      have hLo : 48 * d2_2 + 48 ≤ Lo := by omega
      refine ax_if_eq (pc := 33) C 38 d_Sto_isTopmost_33 (by decide) (fun hc => ?_) (fun hc => ?_)
      · have h := it_t hc h
        refine ax_ls ([(0, .ref (u 54)), (1, .int x0), (2, .int x1), (3, .int x2), (4, .int x3)]) [0, 1, 2, 3, 4] rfl ?_
        have hm : sC_Sto_isTopmost_p38 l D kA u w tx σ2 [x0, x1, x2, x3] (σf, rf, _) := ih tC_Sto_isTopmost_p38 _ _ _ h
        exact hm _ _ _ _ rfl p e s m args below meth c F Lo σ0 hF hLo C
      · have h := it_f hc h
        refine ax_iconst (pc := 36) C 0 d_Sto_isTopmost_36 (by decide +kernel) ?_
        cases h
        exact ax_zret (pc := 37) C d_Sto_isTopmost_37 rfl ⟨rfl, rfl⟩ (Nat.le_refl _) (Nat.le_refl _)
set_option maxHeartbeats 4000000 in
set_option maxRecDepth 100000 in
theorem oC_Sto_isTopmost_p38 (l : Launch) (D : va_G) (kA : Nat → ClassId) (u w : Nat → Nat) (tx : Value) (rec : mF) (ih : ∀ t σ xs res, rec t σ xs = some res → cSem l D kA u w tx t σ xs res) (σ : mS) (xs : List Int32) (res : mR) (h : u_4 (kC_Sto_isTopmost_p38 rec σ) xs = some res) : sC_Sto_isTopmost_p38 l D kA u w tx σ xs res := by
  intro x0 x1 x2 x3 hxs
  subst hxs
  obtain ⟨σf, rf, dd⟩ := res
  have h : (bnd (rec tC_Sto_behind σ [x2]) (fun σ1 r1 => rec tC_Sto_isTopmost_p11 σ1 [x0, x1, r1, (x3 + 1)])) = some (σf, rf, dd) := h
  intro p e s m args below meth c F Lo σ0 hF hLo C
  dsimp only at hF hLo ⊢
  refine ax_aload_n (pc := 38) C d_Sto_isTopmost_38 rfl 0 rfl ?_
  refine ax_iload_n (pc := 39) C d_Sto_isTopmost_39 rfl 3 rfl ?_
  obtain ⟨σ1, r1, d1_1, d2_1, h1, h, hd2, hd1⟩ := it_b h
  have hm : sC_Sto_behind l D kA u w tx σ [x2] (σ1, r1, d1_1) := ih tC_Sto_behind _ _ _ h1
  refine cc_Vi (pc := 40) C (r0 := r1) (σ2 := σ1) (As := [.int x2]) (rest := []) (hm _ rfl) ml_Sto_73 54 rfl rfl rfl d_Sto_isTopmost_40 rfl rfl (by dsimp only; omega) (by dsimp only; omega) (Nat.le_of_ble_eq_true rfl) (Nat.le_of_ble_eq_true rfl) (Nat.le_of_ble_eq_true rfl) ?_
  have hF : d2_1 + 1 ≤ F := by omega
  have hLo : 48 * d2_1 + 48 ≤ Lo := by omega
  refine ax_istore_n (pc := 43) C d_Sto_isTopmost_43 rfl (Nat.le_of_ble_eq_true rfl) ([(3, .int r1), (0, .ref (u 54)), (1, .int x0), (2, .int x1), (4, .int x3)]) rfl ?_
  refine ax_iinc (pc := 44) C (x3 + 1) d_Sto_isTopmost_44 4 rfl rfl (Nat.le_of_ble_eq_true rfl) ([(4, .int (x3 + 1)), (3, .int r1), (0, .ref (u 54)), (1, .int x0), (2, .int x1)]) rfl ?_
  refine ax_goto (pc := 47) C 11 d_Sto_isTopmost_47 (by decide) ?_
  refine ax_ls ([(0, .ref (u 54)), (1, .int x0), (2, .int x1), (3, .int r1), (4, .int (x3 + 1))]) [2, 3, 4, 1, 0] rfl ?_
  have hm : sC_Sto_isTopmost_p11 l D kA u w tx σ1 [x0, x1, r1, (x3 + 1)] (σf, rf, _) := ih tC_Sto_isTopmost_p11 _ _ _ h
  exact hm _ _ _ _ rfl p e s m args below meth c F Lo σ0 hF hLo C
set_option maxHeartbeats 4000000 in
set_option maxRecDepth 100000 in
theorem oC_Sto_isUsable (l : Launch) (D : va_G) (kA : Nat → ClassId) (u w : Nat → Nat) (tx : Value) (rec : mF) (ih : ∀ t σ xs res, rec t σ xs = some res → cSem l D kA u w tx t σ xs res) (σ : mS) (xs : List Int32) (res : mR) (h : u_2 (kC_Sto_isUsable rec σ) xs = some res) : sC_Sto_isUsable l D kA u w tx σ xs res := by
  intro x0 x1 hxs
  subst hxs
  obtain ⟨σf, rf, dd⟩ := res
  have h : (if bin ((x0 : Int32) + 1) (σ.2.2 48) = true then (if (σ.2.1 48 (Int32.toNatClampNeg ((x0 : Int32) + 1))) = 0 then (rec tC_Sto_isUsable_p23 σ [x0, x1, (σ.2.1 48 (Int32.toNatClampNeg ((x0 : Int32) + 1)))]) else (if (σ.2.1 48 (Int32.toNatClampNeg ((x0 : Int32) + 1))) = ((x1 : Int32) + 1) then (rec tC_Sto_isUsable_p23 σ [x0, x1, (σ.2.1 48 (Int32.toNatClampNeg ((x0 : Int32) + 1)))]) else (rec tC_Sto_isUsable_p28 σ [x0, x1, (σ.2.1 48 (Int32.toNatClampNeg ((x0 : Int32) + 1))), 0]))) else none) = some (σf, rf, dd) := h
  refine ax_Mi.of (by decide +kernel) (Nat.le_of_ble_eq_true rfl) ?_
  intro p e s m args below meth c C hnm
  have C : ax_C p s m args meth c b_Sto_isUsable "ClauseProver$Store" 4 (some .boolean) D kA (va_A (cpW kA u w tx σ) s.heap.size) := C
  obtain ⟨F, hFe⟩ : ∃ F, F = dd + 1 := ⟨_, rfl⟩
  obtain ⟨Lo, hLoe⟩ : ∃ Lo, Lo = 48 * dd + 48 := ⟨_, rfl⟩
  obtain ⟨σ0, hσ0⟩ : ∃ s0, s0 = σ := ⟨_, rfl⟩
  suffices K : AW p l e { frames := F, cells := 0, slots := 0, locals := Lo } s m args below meth c D kA (va_A (cpW kA u w tx σ0) s.heap.size) 4 (ax_Qi below args s D kA (cpW kA u w tx σ0) 0 0 (fun r w1 => r = rf ∧ w1 = cpW kA u w tx σf)) 0 [(0, .ref (u 54)), (1, .int x0), (2, .int x1)] [] (cpW kA u w tx σ) 0 0 by rw [hFe, hLoe, hσ0] at K; exact ax_ls ([(0, .ref (u 54)), (1, .int x0), (2, .int x1)]) [0, 1, 2] rfl K
  have C : ax_C p s m args meth c b_Sto_isUsable "ClauseProver$Store" 4 (some .boolean) D kA (va_A (cpW kA u w tx σ0) s.heap.size) := by rw [hσ0]; exact C
  have hF : dd + 1 ≤ F := by omega
  have hLo : 48 * dd + 48 ≤ Lo := by omega
  clear hFe hLoe hσ0
  refine ax_aload_n (pc := 0) C d_Sto_isUsable_0 rfl 0 rfl ?_
  refine cg_54_0_Sto_14 (pc := 1) C d_Sto_isUsable_1 ?_
  refine cg_47_0_Sto_38 (pc := 4) C d_Sto_isUsable_4 ?_
  refine ax_iload_n (pc := 7) C d_Sto_isUsable_7 rfl 1 rfl ?_
  refine ax_iconst (pc := 8) C 1 d_Sto_isUsable_8 (by decide +kernel) ?_
  refine ax_iadd (pc := 9) C d_Sto_isUsable_9 ?_
  obtain ⟨hb, h⟩ := it_g h
  refine cl_48 (pc := 10) C d_Sto_isUsable_10 (bin_in hb) ?_
  refine ax_istore_n (pc := 11) C d_Sto_isUsable_11 rfl (Nat.le_of_ble_eq_true rfl) ([(3, .int (σ.2.1 48 (Int32.toNatClampNeg ((x0 : Int32) + 1)))), (0, .ref (u 54)), (1, .int x0), (2, .int x1)]) rfl ?_
  refine ax_iload_n (pc := 12) C d_Sto_isUsable_12 rfl 0 rfl ?_
  refine ax_if_eq (pc := 13) C 23 d_Sto_isUsable_13 (by decide) (fun hc => ?_) (fun hc => ?_)
  · have h := it_t hc h
    refine ax_ls ([(0, .ref (u 54)), (1, .int x0), (2, .int x1), (3, .int (σ.2.1 48 (Int32.toNatClampNeg ((x0 : Int32) + 1))))]) [1, 2, 3, 0] rfl ?_
    have hm : sC_Sto_isUsable_p23 l D kA u w tx σ [x0, x1, (σ.2.1 48 (Int32.toNatClampNeg ((x0 : Int32) + 1)))] (σf, rf, _) := ih tC_Sto_isUsable_p23 _ _ _ h
    exact hm _ _ _ rfl p e s m args below meth c F Lo σ0 hF hLo C
  · have h := it_f hc h
    refine ax_iload_n (pc := 16) C d_Sto_isUsable_16 rfl 0 rfl ?_
    refine ax_iload_n (pc := 17) C d_Sto_isUsable_17 rfl 3 rfl ?_
    refine ax_iconst (pc := 18) C 1 d_Sto_isUsable_18 (by decide +kernel) ?_
    refine ax_iadd (pc := 19) C d_Sto_isUsable_19 ?_
    refine ax_icmp_ne (pc := 20) C 27 d_Sto_isUsable_20 (by decide) (fun hc => ?_) (fun hc => ?_)
    · have h := it_f hc h
      refine ax_iconst (pc := 27) C 0 d_Sto_isUsable_27 (by decide +kernel) ?_
      refine ax_ls ([(0, .ref (u 54)), (1, .int x0), (2, .int x1), (3, .int (σ.2.1 48 (Int32.toNatClampNeg ((x0 : Int32) + 1))))]) [1, 2, 3, 0] rfl ?_
      have hm : sC_Sto_isUsable_p28 l D kA u w tx σ [x0, x1, (σ.2.1 48 (Int32.toNatClampNeg ((x0 : Int32) + 1))), 0] (σf, rf, _) := ih tC_Sto_isUsable_p28 _ _ _ h
      exact hm _ _ _ _ rfl p e s m args below meth c F Lo σ0 hF hLo C
    · have h := it_t hc h
      refine ax_ls ([(0, .ref (u 54)), (1, .int x0), (2, .int x1), (3, .int (σ.2.1 48 (Int32.toNatClampNeg ((x0 : Int32) + 1))))]) [1, 2, 3, 0] rfl ?_
      have hm : sC_Sto_isUsable_p23 l D kA u w tx σ [x0, x1, (σ.2.1 48 (Int32.toNatClampNeg ((x0 : Int32) + 1)))] (σf, rf, _) := ih tC_Sto_isUsable_p23 _ _ _ h
      exact hm _ _ _ rfl p e s m args below meth c F Lo σ0 hF hLo C
set_option maxHeartbeats 4000000 in
set_option maxRecDepth 100000 in
theorem oC_Sto_isUsable_p23 (l : Launch) (D : va_G) (kA : Nat → ClassId) (u w : Nat → Nat) (tx : Value) (rec : mF) (ih : ∀ t σ xs res, rec t σ xs = some res → cSem l D kA u w tx t σ xs res) (σ : mS) (xs : List Int32) (res : mR) (h : u_3 (kC_Sto_isUsable_p23 rec σ) xs = some res) : sC_Sto_isUsable_p23 l D kA u w tx σ xs res := by
  intro x0 x1 x2 hxs
  subst hxs
  obtain ⟨σf, rf, dd⟩ := res
  have h : (rec tC_Sto_isUsable_p28 σ [x0, x1, x2, 1]) = some (σf, rf, dd) := h
  intro p e s m args below meth c F Lo σ0 hF hLo C
  dsimp only at hF hLo ⊢
  refine ax_iconst (pc := 23) C 1 d_Sto_isUsable_23 (by decide +kernel) ?_
  refine ax_goto (pc := 24) C 28 d_Sto_isUsable_24 (by decide) ?_
  refine ax_ls ([(0, .ref (u 54)), (1, .int x0), (2, .int x1), (3, .int x2)]) [0, 1, 2, 3] rfl ?_
  have hm : sC_Sto_isUsable_p28 l D kA u w tx σ [x0, x1, x2, 1] (σf, rf, _) := ih tC_Sto_isUsable_p28 _ _ _ h
  exact hm _ _ _ _ rfl p e s m args below meth c F Lo σ0 hF hLo C
set_option maxHeartbeats 4000000 in
set_option maxRecDepth 100000 in
theorem oC_Sto_isUsable_p28 (l : Launch) (D : va_G) (kA : Nat → ClassId) (u w : Nat → Nat) (tx : Value) (rec : mF) (ih : ∀ t σ xs res, rec t σ xs = some res → cSem l D kA u w tx t σ xs res) (σ : mS) (xs : List Int32) (res : mR) (h : u_4 (kC_Sto_isUsable_p28 rec σ) xs = some res) : sC_Sto_isUsable_p28 l D kA u w tx σ xs res := by
  intro x0 x1 x2 x3 hxs
  subst hxs
  obtain ⟨σf, rf, dd⟩ := res
  have h : (if x3 = 0 ∨ x3 = 1 then some (σ, x3, 0) else none) = some (σf, rf, dd) := h
  intro p e s m args below meth c F Lo σ0 hF hLo C
  dsimp only at hF hLo ⊢
  obtain ⟨hb, h⟩ := it_g h
  cases h
  exact ax_zret (pc := 28) C d_Sto_isUsable_28 (nb01 hb) ⟨rfl, rfl⟩ (Nat.le_refl _) (Nat.le_refl _)
set_option maxHeartbeats 4000000 in
set_option maxRecDepth 100000 in
theorem oC_Sto_judge (l : Launch) (D : va_G) (kA : Nat → ClassId) (u w : Nat → Nat) (tx : Value) (rec : mF) (ih : ∀ t σ xs res, rec t σ xs = some res → cSem l D kA u w tx t σ xs res) (σ : mS) (xs : List Int32) (res : mR) (h : u_1 (kC_Sto_judge rec σ) xs = some res) : sC_Sto_judge l D kA u w tx σ xs res := by
  intro x0 hxs
  subst hxs
  obtain ⟨σf, rf, dd⟩ := res
  have h : (bnd (rec tC_Sto_selectedOf σ [x0]) (fun σ1 r1 => bnd (rec tC_Sto_fact σ1 [x0, 8]) (fun σ2 r2 => rec tC_Sto_judge_p17 σ2 [x0, r1, r2, 0]))) = some (σf, rf, dd) := h
  refine ax_Mv.of (by decide +kernel) (Nat.le_of_ble_eq_true rfl) ?_
  intro p e s m args below meth c C hnm
  have C : ax_C p s m args meth c b_Sto_judge "ClauseProver$Store" 8 none D kA (va_A (cpW kA u w tx σ) s.heap.size) := C
  obtain ⟨F, hFe⟩ : ∃ F, F = dd + 1 := ⟨_, rfl⟩
  obtain ⟨Lo, hLoe⟩ : ∃ Lo, Lo = 48 * dd + 48 := ⟨_, rfl⟩
  obtain ⟨σ0, hσ0⟩ : ∃ s0, s0 = σ := ⟨_, rfl⟩
  suffices K : AW p l e { frames := F, cells := 0, slots := 0, locals := Lo } s m args below meth c D kA (va_A (cpW kA u w tx σ0) s.heap.size) 8 (ax_Qv below args s D kA (cpW kA u w tx σ0) 0 0 (fun w1 => w1 = cpW kA u w tx σf)) 0 [(0, .ref (u 54)), (1, .int x0)] [] (cpW kA u w tx σ) 0 0 by rw [hFe, hLoe, hσ0] at K; exact ax_ls ([(0, .ref (u 54)), (1, .int x0)]) [0, 1] rfl K
  have C : ax_C p s m args meth c b_Sto_judge "ClauseProver$Store" 8 none D kA (va_A (cpW kA u w tx σ0) s.heap.size) := by rw [hσ0]; exact C
  have hF : dd + 1 ≤ F := by omega
  have hLo : 48 * dd + 48 ≤ Lo := by omega
  clear hFe hLoe hσ0
  refine ax_aload_n (pc := 0) C d_Sto_judge_0 rfl 0 rfl ?_
  refine ax_iload_n (pc := 1) C d_Sto_judge_1 rfl 1 rfl ?_
  obtain ⟨σ1, r1, d1_1, d2_1, h1, h, hd2, hd1⟩ := it_b h
  have hm : sC_Sto_selectedOf l D kA u w tx σ [x0] (σ1, r1, d1_1) := ih tC_Sto_selectedOf _ _ _ h1
  refine cc_Vi (pc := 2) C (r0 := r1) (σ2 := σ1) (As := [.int x0]) (rest := []) (hm _ rfl) ml_Sto_77 54 rfl rfl rfl d_Sto_judge_2 rfl rfl (by dsimp only; omega) (by dsimp only; omega) (Nat.le_of_ble_eq_true rfl) (Nat.le_of_ble_eq_true rfl) (Nat.le_of_ble_eq_true rfl) ?_
  have hF : d2_1 + 1 ≤ F := by omega
  have hLo : 48 * d2_1 + 48 ≤ Lo := by omega
  refine ax_istore_n (pc := 5) C d_Sto_judge_5 rfl (Nat.le_of_ble_eq_true rfl) ([(2, .int r1), (0, .ref (u 54)), (1, .int x0)]) rfl ?_
  refine ax_aload_n (pc := 6) C d_Sto_judge_6 rfl 1 rfl ?_
  refine ax_iload_n (pc := 7) C d_Sto_judge_7 rfl 2 rfl ?_
  refine ax_bipush (pc := 8) C 8 d_Sto_judge_8 (by decide +kernel) ?_
  obtain ⟨σ2, r2, d1_2, d2_2, h1, h, hd2, hd1⟩ := it_b h
  have hm : sC_Sto_fact l D kA u w tx σ1 [x0, 8] (σ2, r2, d1_2) := ih tC_Sto_fact _ _ _ h1
  refine cc_Vi (pc := 10) C (r0 := r2) (σ2 := σ2) (As := [.int x0, .int 8]) (rest := []) (hm _ _ rfl) ml_Sto_42 54 rfl rfl rfl d_Sto_judge_10 rfl rfl (by dsimp only; omega) (by dsimp only; omega) (Nat.le_of_ble_eq_true rfl) (Nat.le_of_ble_eq_true rfl) (Nat.le_of_ble_eq_true rfl) ?_
  have hF : d2_2 + 1 ≤ F := by omega
  have hLo : 48 * d2_2 + 48 ≤ Lo := by omega
  refine ax_istore_n (pc := 13) C d_Sto_judge_13 rfl (Nat.le_of_ble_eq_true rfl) ([(3, .int r2), (2, .int r1), (0, .ref (u 54)), (1, .int x0)]) rfl ?_
  refine ax_iconst (pc := 14) C 0 d_Sto_judge_14 (by decide +kernel) ?_
  refine ax_istore (pc := 15) C d_Sto_judge_15 (Nat.le_of_ble_eq_true rfl) ([(4, .int 0), (3, .int r2), (2, .int r1), (0, .ref (u 54)), (1, .int x0)]) rfl ?_
  refine ax_ls ([(0, .ref (u 54)), (1, .int x0), (2, .int r1), (3, .int r2), (4, .int 0)]) [3, 4, 2, 1, 0] rfl ?_
  have hm : sC_Sto_judge_p17 l D kA u w tx σ2 [x0, r1, r2, 0] (σf, rf, _) := ih tC_Sto_judge_p17 _ _ _ h
  exact hm _ _ _ _ rfl p e s m args below meth c F Lo σ0 hF hLo C
set_option maxHeartbeats 4000000 in
set_option maxRecDepth 100000 in
theorem oC_Sto_judge_p17 (l : Launch) (D : va_G) (kA : Nat → ClassId) (u w : Nat → Nat) (tx : Value) (rec : mF) (ih : ∀ t σ xs res, rec t σ xs = some res → cSem l D kA u w tx t σ xs res) (σ : mS) (xs : List Int32) (res : mR) (h : u_4 (kC_Sto_judge_p17 rec σ) xs = some res) : sC_Sto_judge_p17 l D kA u w tx σ xs res := by
  intro x0 x1 x2 x3 hxs
  subst hxs
  obtain ⟨σf, rf, dd⟩ := res
  have h : (bnd (rec tC_Sto_fact σ [x0, 3]) (fun σ1 r1 => if r1 ≤ x3 then (some (σ1, 0, 0)) else (bnd (rec tC_Sto_sideAt σ1 [x2, 0]) (fun σ2 r2 => bnd (rec tC_Sto_sideAt σ2 [x2, 1]) (fun σ3 r3 => if x1 = (-1) then (bnd (rec tC_Sto_isTopmost σ3 [x0, x2]) (fun σ4 r4 => rec tC_Sto_judge_p68 σ4 [x0, x1, x2, x3, r2, r3, r4])) else (if x1 = x2 then (rec tC_Sto_judge_p68 σ3 [x0, x1, x2, x3, r2, r3, 1]) else (rec tC_Sto_judge_p68 σ3 [x0, x1, x2, x3, r2, r3, 0]))))))) = some (σf, rf, dd) := h
  intro p e s m args below meth c F Lo σ0 hF hLo C
  dsimp only at hF hLo ⊢
  refine ax_iload (pc := 17) C d_Sto_judge_17 4 rfl ?_
  refine ax_aload_n (pc := 19) C d_Sto_judge_19 rfl 0 rfl ?_
  refine ax_iload_n (pc := 20) C d_Sto_judge_20 rfl 1 rfl ?_
  refine ax_iconst (pc := 21) C 3 d_Sto_judge_21 (by decide +kernel) ?_
  obtain ⟨σ1, r1, d1_1, d2_1, h1, h, hd2, hd1⟩ := it_b h
  have hm : sC_Sto_fact l D kA u w tx σ [x0, 3] (σ1, r1, d1_1) := ih tC_Sto_fact _ _ _ h1
  refine cc_Vi (pc := 22) C (r0 := r1) (σ2 := σ1) (As := [.int x0, .int 3]) (rest := [.int x3]) (hm _ _ rfl) ml_Sto_42 54 rfl rfl rfl d_Sto_judge_22 rfl rfl (by dsimp only; omega) (by dsimp only; omega) (Nat.le_of_ble_eq_true rfl) (Nat.le_of_ble_eq_true rfl) (Nat.le_of_ble_eq_true rfl) ?_
  have hF : d2_1 + 1 ≤ F := by omega
  have hLo : 48 * d2_1 + 48 ≤ Lo := by omega
  refine ax_icmp_ge (pc := 25) C 179 d_Sto_judge_25 (by decide) (fun hc => ?_) (fun hc => ?_)
  · have h := it_t hc h
    cases h
    exact ax_vret (pc := 179) C d_Sto_judge_179 rfl (Nat.le_refl _) (Nat.le_refl _)
  · have h := it_f hc h
    refine ax_aload_n (pc := 28) C d_Sto_judge_28 rfl 0 rfl ?_
    refine ax_iload_n (pc := 29) C d_Sto_judge_29 rfl 3 rfl ?_
    refine ax_iconst (pc := 30) C 0 d_Sto_judge_30 (by decide +kernel) ?_
    obtain ⟨σ2, r2, d1_2, d2_2, h1, h, hd2, hd1⟩ := it_b h
    have hm : sC_Sto_sideAt l D kA u w tx σ1 [x2, 0] (σ2, r2, d1_2) := ih tC_Sto_sideAt _ _ _ h1
    refine cc_Vi (pc := 31) C (r0 := r2) (σ2 := σ2) (As := [.int x2, .int 0]) (rest := []) (hm _ _ rfl) ml_Sto_80 54 rfl rfl rfl d_Sto_judge_31 rfl rfl (by dsimp only; omega) (by dsimp only; omega) (Nat.le_of_ble_eq_true rfl) (Nat.le_of_ble_eq_true rfl) (Nat.le_of_ble_eq_true rfl) ?_
    have hF : d2_2 + 1 ≤ F := by omega
    have hLo : 48 * d2_2 + 48 ≤ Lo := by omega
    refine ax_istore (pc := 34) C d_Sto_judge_34 (Nat.le_of_ble_eq_true rfl) ([(5, .int r2), (0, .ref (u 54)), (1, .int x0), (2, .int x1), (3, .int x2), (4, .int x3)]) rfl ?_
    refine ax_aload_n (pc := 36) C d_Sto_judge_36 rfl 1 rfl ?_
    refine ax_iload_n (pc := 37) C d_Sto_judge_37 rfl 4 rfl ?_
    refine ax_iconst (pc := 38) C 1 d_Sto_judge_38 (by decide +kernel) ?_
    obtain ⟨σ3, r3, d1_3, d2_3, h1, h, hd2, hd1⟩ := it_b h
    have hm : sC_Sto_sideAt l D kA u w tx σ2 [x2, 1] (σ3, r3, d1_3) := ih tC_Sto_sideAt _ _ _ h1
    refine cc_Vi (pc := 39) C (r0 := r3) (σ2 := σ3) (As := [.int x2, .int 1]) (rest := []) (hm _ _ rfl) ml_Sto_80 54 rfl rfl rfl d_Sto_judge_39 rfl rfl (by dsimp only; omega) (by dsimp only; omega) (Nat.le_of_ble_eq_true rfl) (Nat.le_of_ble_eq_true rfl) (Nat.le_of_ble_eq_true rfl) ?_
    have hF : d2_3 + 1 ≤ F := by omega
    have hLo : 48 * d2_3 + 48 ≤ Lo := by omega
    refine ax_istore (pc := 42) C d_Sto_judge_42 (Nat.le_of_ble_eq_true rfl) ([(6, .int r3), (5, .int r2), (0, .ref (u 54)), (1, .int x0), (2, .int x1), (3, .int x2), (4, .int x3)]) rfl ?_
    refine ax_iload_n (pc := 44) C d_Sto_judge_44 rfl 4 rfl ?_
    refine ax_iconst (pc := 45) C (-1) d_Sto_judge_45 (by decide +kernel) ?_
    refine ax_icmp_ne (pc := 46) C 58 d_Sto_judge_46 (by decide) (fun hc => ?_) (fun hc => ?_)
    · have h := it_f hc h
      refine ax_iload_n (pc := 58) C d_Sto_judge_58 rfl 4 rfl ?_
      refine ax_iload_n (pc := 59) C d_Sto_judge_59 rfl 5 rfl ?_
      refine ax_icmp_ne (pc := 60) C 67 d_Sto_judge_60 (by decide) (fun hc => ?_) (fun hc => ?_)
      · have h := it_f hc h
        refine ax_iconst (pc := 67) C 0 d_Sto_judge_67 (by decide +kernel) ?_
        refine ax_ls ([(0, .ref (u 54)), (1, .int x0), (2, .int x1), (3, .int x2), (4, .int x3), (5, .int r2), (6, .int r3)]) [2, 3, 4, 5, 6, 1, 0] rfl ?_
        have hm : sC_Sto_judge_p68 l D kA u w tx σ3 [x0, x1, x2, x3, r2, r3, 0] (σf, rf, _) := ih tC_Sto_judge_p68 _ _ _ h
        exact hm _ _ _ _ _ _ _ rfl p e s m args below meth c F Lo σ0 hF hLo C
      · have h := it_t hc h
        refine ax_iconst (pc := 63) C 1 d_Sto_judge_63 (by decide +kernel) ?_
        refine ax_goto (pc := 64) C 68 d_Sto_judge_64 (by decide) ?_
        refine ax_ls ([(0, .ref (u 54)), (1, .int x0), (2, .int x1), (3, .int x2), (4, .int x3), (5, .int r2), (6, .int r3)]) [2, 3, 4, 5, 6, 1, 0] rfl ?_
        have hm : sC_Sto_judge_p68 l D kA u w tx σ3 [x0, x1, x2, x3, r2, r3, 1] (σf, rf, _) := ih tC_Sto_judge_p68 _ _ _ h
        exact hm _ _ _ _ _ _ _ rfl p e s m args below meth c F Lo σ0 hF hLo C
    · have h := it_t hc h
      refine ax_aload_n (pc := 49) C d_Sto_judge_49 rfl 2 rfl ?_
      refine ax_iload_n (pc := 50) C d_Sto_judge_50 rfl 3 rfl ?_
      refine ax_iload_n (pc := 51) C d_Sto_judge_51 rfl 5 rfl ?_
      obtain ⟨σ4, r4, d1_4, d2_4, h1, h, hd2, hd1⟩ := it_b h
      have hm : sC_Sto_isTopmost l D kA u w tx σ3 [x0, x2] (σ4, r4, d1_4) := ih tC_Sto_isTopmost _ _ _ h1
      refine cc_Vi (pc := 52) C (r0 := r4) (σ2 := σ4) (As := [.int x0, .int x2]) (rest := []) (hm _ _ rfl) ml_Sto_83 54 rfl rfl rfl d_Sto_judge_52 rfl rfl (by dsimp only; omega) (by dsimp only; omega) (Nat.le_of_ble_eq_true rfl) (Nat.le_of_ble_eq_true rfl) (Nat.le_of_ble_eq_true rfl) ?_
      have hF : d2_4 + 1 ≤ F := by omega
      have hLo : 48 * d2_4 + 48 ≤ Lo := by omega
      refine ax_goto (pc := 55) C 68 d_Sto_judge_55 (by decide) ?_
      refine ax_ls ([(0, .ref (u 54)), (1, .int x0), (2, .int x1), (3, .int x2), (4, .int x3), (5, .int r2), (6, .int r3)]) [2, 3, 4, 5, 6, 1, 0] rfl ?_
      have hm : sC_Sto_judge_p68 l D kA u w tx σ4 [x0, x1, x2, x3, r2, r3, r4] (σf, rf, _) := ih tC_Sto_judge_p68 _ _ _ h
      exact hm _ _ _ _ _ _ _ rfl p e s m args below meth c F Lo σ0 hF hLo C
