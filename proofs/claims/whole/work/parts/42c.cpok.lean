set_option maxHeartbeats 4000000 in
set_option maxRecDepth 100000 in
theorem oC_Sto_judge_p68 (l : Launch) (D : va_G) (kA : Nat → ClassId) (u w : Nat → Nat) (tx : Value) (rec : mF) (ih : ∀ t σ xs res, rec t σ xs = some res → cSem l D kA u w tx t σ xs res) (σ : mS) (xs : List Int32) (res : mR) (h : u_7 (kC_Sto_judge_p68 rec σ) xs = some res) : sC_Sto_judge_p68 l D kA u w tx σ xs res := by
  intro x0 x1 x2 x3 x4 x5 x6 hxs
  subst hxs
  obtain ⟨σf, rf, dd⟩ := res
  have h : (bnd (rec tC_Sym_greater_48_48 σ [x4, x5]) (fun σ1 r1 => if r1 = 0 then (bnd (rec tC_Sym_greater_48_48 σ1 [x5, x4]) (fun σ2 r2 => if r2 = 0 then (rec tC_Sto_judge_p145 σ2 [x0, x1, x2, x3, x4, x5, x6, 0, ((x2 : Int32) + 1)]) else (rec tC_Sto_judge_p145 σ2 [x0, x1, x2, x3, x4, x5, x6, 2, ((x2 : Int32) + 1)]))) else (rec tC_Sto_judge_p145 σ1 [x0, x1, x2, x3, x4, x5, x6, 1, ((x2 : Int32) + 1)]))) = some (σf, rf, dd) := h
  intro p e s m args below meth c F Lo σ0 hF hLo C
  dsimp only at hF hLo ⊢
  refine ax_istore (pc := 68) C d_Sto_judge_68 (Nat.le_of_ble_eq_true rfl) ([(7, .int x6), (0, .ref (u 54)), (1, .int x0), (2, .int x1), (3, .int x2), (4, .int x3), (5, .int x4), (6, .int x5)]) rfl ?_
  refine ax_aload_n (pc := 70) C d_Sto_judge_70 rfl 1 rfl ?_
  refine cg_54_0_Sto_14 (pc := 71) C d_Sto_judge_71 ?_
  refine cg_47_0_Sto_38 (pc := 74) C d_Sto_judge_74 ?_
  refine ax_iload_n (pc := 77) C d_Sto_judge_77 rfl 4 rfl ?_
  refine ax_iconst (pc := 78) C 1 d_Sto_judge_78 (by decide +kernel) ?_
  refine ax_iadd (pc := 79) C d_Sto_judge_79 ?_
  refine ax_aload_n (pc := 80) C d_Sto_judge_80 rfl 1 rfl ?_
  refine cg_54_4_Sto_26 (pc := 81) C d_Sto_judge_81 ?_
  refine ax_aload_n (pc := 84) C d_Sto_judge_84 rfl 1 rfl ?_
  refine cg_54_0_Sto_14 (pc := 85) C d_Sto_judge_85 ?_
  refine cg_47_0_Sto_38 (pc := 88) C d_Sto_judge_88 ?_
  refine ax_iload (pc := 91) C d_Sto_judge_91 6 rfl ?_
  refine ax_aload_n (pc := 93) C d_Sto_judge_93 rfl 1 rfl ?_
  refine cg_54_0_Sto_14 (pc := 94) C d_Sto_judge_94 ?_
  refine cg_47_0_Sto_38 (pc := 97) C d_Sto_judge_97 ?_
  refine ax_iload (pc := 100) C d_Sto_judge_100 7 rfl ?_
  obtain ⟨σ1, r1, d1_1, d2_1, h1, h, hd2, hd1⟩ := it_b h
  have hm : sC_Sym_greater_48_48 l D kA u w tx σ [x4, x5] (σ1, r1, d1_1) := ih tC_Sym_greater_48_48 _ _ _ h1
  refine cc_Vi (pc := 102) C (r0 := r1) (σ2 := σ1) (As := [.ref (w 48), .int x4, .ref (w 48), .int x5]) (rest := [.int ((x2 : Int32) + 1), .ref (w 48)]) (hm _ _ rfl) ml_Sto_87 6 rfl rfl rfl d_Sto_judge_102 rfl rfl (by dsimp only; omega) (by dsimp only; omega) (Nat.le_of_ble_eq_true rfl) (Nat.le_of_ble_eq_true rfl) (Nat.le_of_ble_eq_true rfl) ?_
  have hF : d2_1 + 1 ≤ F := by omega
  have hLo : 48 * d2_1 + 48 ≤ Lo := by omega
  refine ax_if_eq (pc := 105) C 112 d_Sto_judge_105 (by decide) (fun hc => ?_) (fun hc => ?_)
  · have h := it_t hc h
    refine ax_aload_n (pc := 112) C d_Sto_judge_112 rfl 1 rfl ?_
    refine cg_54_4_Sto_26 (pc := 113) C d_Sto_judge_113 ?_
    refine ax_aload_n (pc := 116) C d_Sto_judge_116 rfl 1 rfl ?_
    refine cg_54_0_Sto_14 (pc := 117) C d_Sto_judge_117 ?_
    refine cg_47_0_Sto_38 (pc := 120) C d_Sto_judge_120 ?_
    refine ax_iload (pc := 123) C d_Sto_judge_123 7 rfl ?_
    refine ax_aload_n (pc := 125) C d_Sto_judge_125 rfl 1 rfl ?_
    refine cg_54_0_Sto_14 (pc := 126) C d_Sto_judge_126 ?_
    refine cg_47_0_Sto_38 (pc := 129) C d_Sto_judge_129 ?_
    refine ax_iload (pc := 132) C d_Sto_judge_132 6 rfl ?_
    obtain ⟨σ2, r2, d1_2, d2_2, h1, h, hd2, hd1⟩ := it_b h
    have hm : sC_Sym_greater_48_48 l D kA u w tx σ1 [x5, x4] (σ2, r2, d1_2) := ih tC_Sym_greater_48_48 _ _ _ h1
    refine cc_Vi (pc := 134) C (r0 := r2) (σ2 := σ2) (As := [.ref (w 48), .int x5, .ref (w 48), .int x4]) (rest := [.int ((x2 : Int32) + 1), .ref (w 48)]) (hm _ _ rfl) ml_Sto_87 6 rfl rfl rfl d_Sto_judge_134 rfl rfl (by dsimp only; omega) (by dsimp only; omega) (Nat.le_of_ble_eq_true rfl) (Nat.le_of_ble_eq_true rfl) (Nat.le_of_ble_eq_true rfl) ?_
    have hF : d2_2 + 1 ≤ F := by omega
    have hLo : 48 * d2_2 + 48 ≤ Lo := by omega
    refine ax_if_eq (pc := 137) C 144 d_Sto_judge_137 (by decide) (fun hc => ?_) (fun hc => ?_)
    · have h := it_t hc h
      refine ax_iconst (pc := 144) C 0 d_Sto_judge_144 (by decide +kernel) ?_
      refine ax_ls ([(0, .ref (u 54)), (1, .int x0), (2, .int x1), (3, .int x2), (4, .int x3), (5, .int x4), (6, .int x5), (7, .int x6)]) [1, 2, 3, 4, 5, 6, 7, 0] rfl ?_
      have hm : sC_Sto_judge_p145 l D kA u w tx σ2 [x0, x1, x2, x3, x4, x5, x6, 0, ((x2 : Int32) + 1)] (σf, rf, _) := ih tC_Sto_judge_p145 _ _ _ h
      exact hm _ _ _ _ _ _ _ _ _ rfl p e s m args below meth c F Lo σ0 hF hLo C
    · have h := it_f hc h
      refine ax_iconst (pc := 140) C 2 d_Sto_judge_140 (by decide +kernel) ?_
      refine ax_goto (pc := 141) C 145 d_Sto_judge_141 (by decide) ?_
      refine ax_ls ([(0, .ref (u 54)), (1, .int x0), (2, .int x1), (3, .int x2), (4, .int x3), (5, .int x4), (6, .int x5), (7, .int x6)]) [1, 2, 3, 4, 5, 6, 7, 0] rfl ?_
      have hm : sC_Sto_judge_p145 l D kA u w tx σ2 [x0, x1, x2, x3, x4, x5, x6, 2, ((x2 : Int32) + 1)] (σf, rf, _) := ih tC_Sto_judge_p145 _ _ _ h
      exact hm _ _ _ _ _ _ _ _ _ rfl p e s m args below meth c F Lo σ0 hF hLo C
  · have h := it_f hc h
    refine ax_iconst (pc := 108) C 1 d_Sto_judge_108 (by decide +kernel) ?_
    refine ax_goto (pc := 109) C 145 d_Sto_judge_109 (by decide) ?_
    refine ax_ls ([(0, .ref (u 54)), (1, .int x0), (2, .int x1), (3, .int x2), (4, .int x3), (5, .int x4), (6, .int x5), (7, .int x6)]) [1, 2, 3, 4, 5, 6, 7, 0] rfl ?_
    have hm : sC_Sto_judge_p145 l D kA u w tx σ1 [x0, x1, x2, x3, x4, x5, x6, 1, ((x2 : Int32) + 1)] (σf, rf, _) := ih tC_Sto_judge_p145 _ _ _ h
    exact hm _ _ _ _ _ _ _ _ _ rfl p e s m args below meth c F Lo σ0 hF hLo C
set_option maxHeartbeats 4000000 in
set_option maxRecDepth 100000 in
theorem oC_Sto_judge_p145 (l : Launch) (D : va_G) (kA : Nat → ClassId) (u w : Nat → Nat) (tx : Value) (rec : mF) (ih : ∀ t σ xs res, rec t σ xs = some res → cSem l D kA u w tx t σ xs res) (σ : mS) (xs : List Int32) (res : mR) (h : u_9 (kC_Sto_judge_p145 rec σ) xs = some res) : sC_Sto_judge_p145 l D kA u w tx σ xs res := by
  intro x0 x1 x2 x3 x4 x5 x6 x7 x8 hxs
  subst hxs
  obtain ⟨σf, rf, dd⟩ := res
  have h : (if bin x8 (σ.2.2 48) = true then (lt_ (mA σ 48 (Int32.toNatClampNeg x8) x7) (fun σ1 => if x6 = 0 then (rec tC_Sto_judge_p166 σ1 [x0, x1, x2, x3, x4, x5, x6, 0, ((x2 : Int32) + 2)]) else (rec tC_Sto_judge_p166 σ1 [x0, x1, x2, x3, x4, x5, x6, 1, ((x2 : Int32) + 2)]))) else none) = some (σf, rf, dd) := h
  intro p e s m args below meth c F Lo σ0 hF hLo C
  dsimp only at hF hLo ⊢
  obtain ⟨hb, h⟩ := it_g h
  refine cs_48 (pc := 145) C d_Sto_judge_145 (bin_in hb) ?_
  have h := it_l h
  generalize mA σ 48 (Int32.toNatClampNeg x8) x7 = σ1 at h ⊢
  refine ax_aload_n (pc := 146) C d_Sto_judge_146 rfl 0 rfl ?_
  refine cg_54_0_Sto_14 (pc := 147) C d_Sto_judge_147 ?_
  refine cg_47_0_Sto_38 (pc := 150) C d_Sto_judge_150 ?_
  refine ax_iload_n (pc := 153) C d_Sto_judge_153 rfl 3 rfl ?_
  refine ax_iconst (pc := 154) C 2 d_Sto_judge_154 (by decide +kernel) ?_
  refine ax_iadd (pc := 155) C d_Sto_judge_155 ?_
  refine ax_iload (pc := 156) C d_Sto_judge_156 7 rfl ?_
  refine ax_if_eq (pc := 158) C 165 d_Sto_judge_158 (by decide) (fun hc => ?_) (fun hc => ?_)
  · have h := it_t hc h
    refine ax_iconst (pc := 165) C 0 d_Sto_judge_165 (by decide +kernel) ?_
    refine ax_ls ([(0, .ref (u 54)), (1, .int x0), (2, .int x1), (3, .int x2), (4, .int x3), (5, .int x4), (6, .int x5), (7, .int x6)]) [0, 1, 2, 3, 4, 5, 6, 7] rfl ?_
    have hm : sC_Sto_judge_p166 l D kA u w tx σ1 [x0, x1, x2, x3, x4, x5, x6, 0, ((x2 : Int32) + 2)] (σf, rf, _) := ih tC_Sto_judge_p166 _ _ _ h
    exact hm _ _ _ _ _ _ _ _ _ rfl p e s m args below meth c F Lo σ0 hF hLo C
  · have h := it_f hc h
    refine ax_iconst (pc := 161) C 1 d_Sto_judge_161 (by decide +kernel) ?_
    refine ax_goto (pc := 162) C 166 d_Sto_judge_162 (by decide) ?_
    refine ax_ls ([(0, .ref (u 54)), (1, .int x0), (2, .int x1), (3, .int x2), (4, .int x3), (5, .int x4), (6, .int x5), (7, .int x6)]) [0, 1, 2, 3, 4, 5, 6, 7] rfl ?_
    have hm : sC_Sto_judge_p166 l D kA u w tx σ1 [x0, x1, x2, x3, x4, x5, x6, 1, ((x2 : Int32) + 2)] (σf, rf, _) := ih tC_Sto_judge_p166 _ _ _ h
    exact hm _ _ _ _ _ _ _ _ _ rfl p e s m args below meth c F Lo σ0 hF hLo C
set_option maxHeartbeats 4000000 in
set_option maxRecDepth 100000 in
theorem oC_Sto_judge_p166 (l : Launch) (D : va_G) (kA : Nat → ClassId) (u w : Nat → Nat) (tx : Value) (rec : mF) (ih : ∀ t σ xs res, rec t σ xs = some res → cSem l D kA u w tx t σ xs res) (σ : mS) (xs : List Int32) (res : mR) (h : u_9 (kC_Sto_judge_p166 rec σ) xs = some res) : sC_Sto_judge_p166 l D kA u w tx σ xs res := by
  intro x0 x1 x2 x3 x4 x5 x6 x7 x8 hxs
  subst hxs
  obtain ⟨σf, rf, dd⟩ := res
  have h : (if bin x8 (σ.2.2 48) = true then (lt_ (mA σ 48 (Int32.toNatClampNeg x8) x7) (fun σ1 => bnd (rec tC_Sto_behind σ1 [x2]) (fun σ2 r2 => rec tC_Sto_judge_p17 σ2 [x0, x1, r2, (x3 + 1)]))) else none) = some (σf, rf, dd) := h
  intro p e s m args below meth c F Lo σ0 hF hLo C
  dsimp only at hF hLo ⊢
  obtain ⟨hb, h⟩ := it_g h
  refine cs_48 (pc := 166) C d_Sto_judge_166 (bin_in hb) ?_
  have h := it_l h
  generalize mA σ 48 (Int32.toNatClampNeg x8) x7 = σ1 at h ⊢
  refine ax_aload_n (pc := 167) C d_Sto_judge_167 rfl 0 rfl ?_
  refine ax_iload_n (pc := 168) C d_Sto_judge_168 rfl 3 rfl ?_
  obtain ⟨σ2, r2, d1_2, d2_2, h1, h, hd2, hd1⟩ := it_b h
  have hm : sC_Sto_behind l D kA u w tx σ1 [x2] (σ2, r2, d1_2) := ih tC_Sto_behind _ _ _ h1
  refine cc_Vi (pc := 169) C (r0 := r2) (σ2 := σ2) (As := [.int x2]) (rest := []) (hm _ rfl) ml_Sto_73 54 rfl rfl rfl d_Sto_judge_169 rfl rfl (by dsimp only; omega) (by dsimp only; omega) (Nat.le_of_ble_eq_true rfl) (Nat.le_of_ble_eq_true rfl) (Nat.le_of_ble_eq_true rfl) ?_
  have hF : d2_2 + 1 ≤ F := by omega
  have hLo : 48 * d2_2 + 48 ≤ Lo := by omega
  refine ax_istore_n (pc := 172) C d_Sto_judge_172 rfl (Nat.le_of_ble_eq_true rfl) ([(3, .int r2), (0, .ref (u 54)), (1, .int x0), (2, .int x1), (4, .int x3), (5, .int x4), (6, .int x5), (7, .int x6)]) rfl ?_
  refine ax_iinc (pc := 173) C (x3 + 1) d_Sto_judge_173 4 rfl rfl (Nat.le_of_ble_eq_true rfl) ([(4, .int (x3 + 1)), (3, .int r2), (0, .ref (u 54)), (1, .int x0), (2, .int x1), (5, .int x4), (6, .int x5), (7, .int x6)]) rfl ?_
  refine ax_goto (pc := 176) C 17 d_Sto_judge_176 (by decide) ?_
  refine ax_ls ([(0, .ref (u 54)), (1, .int x0), (2, .int x1), (3, .int r2), (4, .int (x3 + 1))]) [2, 3, 4, 1, 0] rfl ?_
  have hm : sC_Sto_judge_p17 l D kA u w tx σ2 [x0, x1, r2, (x3 + 1)] (σf, rf, _) := ih tC_Sto_judge_p17 _ _ _ h
  exact hm _ _ _ _ rfl p e s m args below meth c F Lo σ0 hF hLo C
set_option maxHeartbeats 4000000 in
set_option maxRecDepth 100000 in
theorem oC_Sto_selectedOf (l : Launch) (D : va_G) (kA : Nat → ClassId) (u w : Nat → Nat) (tx : Value) (rec : mF) (ih : ∀ t σ xs res, rec t σ xs = some res → cSem l D kA u w tx t σ xs res) (σ : mS) (xs : List Int32) (res : mR) (h : u_1 (kC_Sto_selectedOf rec σ) xs = some res) : sC_Sto_selectedOf l D kA u w tx σ xs res := by
  intro x0 hxs
  subst hxs
  obtain ⟨σf, rf, dd⟩ := res
  have h : (bnd (rec tC_Sto_fact σ [x0, 8]) (fun σ1 r1 => rec tC_Sto_selectedOf_p16 σ1 [x0, (-1), 0, r1, 0])) = some (σf, rf, dd) := h
  refine ax_Mi.of (by decide +kernel) (Nat.le_of_ble_eq_true rfl) ?_
  intro p e s m args below meth c C hnm
  have C : ax_C p s m args meth c b_Sto_selectedOf "ClauseProver$Store" 7 (some .int) D kA (va_A (cpW kA u w tx σ) s.heap.size) := C
  obtain ⟨F, hFe⟩ : ∃ F, F = dd + 1 := ⟨_, rfl⟩
  obtain ⟨Lo, hLoe⟩ : ∃ Lo, Lo = 48 * dd + 48 := ⟨_, rfl⟩
  obtain ⟨σ0, hσ0⟩ : ∃ s0, s0 = σ := ⟨_, rfl⟩
  suffices K : AW p l e { frames := F, cells := 0, slots := 0, locals := Lo } s m args below meth c D kA (va_A (cpW kA u w tx σ0) s.heap.size) 7 (ax_Qi below args s D kA (cpW kA u w tx σ0) 0 0 (fun r w1 => r = rf ∧ w1 = cpW kA u w tx σf)) 0 [(0, .ref (u 54)), (1, .int x0)] [] (cpW kA u w tx σ) 0 0 by rw [hFe, hLoe, hσ0] at K; exact ax_ls ([(0, .ref (u 54)), (1, .int x0)]) [0, 1] rfl K
  have C : ax_C p s m args meth c b_Sto_selectedOf "ClauseProver$Store" 7 (some .int) D kA (va_A (cpW kA u w tx σ0) s.heap.size) := by rw [hσ0]; exact C
  have hF : dd + 1 ≤ F := by omega
  have hLo : 48 * dd + 48 ≤ Lo := by omega
  clear hFe hLoe hσ0
  refine ax_iconst (pc := 0) C (-1) d_Sto_selectedOf_0 (by decide +kernel) ?_
  refine ax_istore_n (pc := 1) C d_Sto_selectedOf_1 rfl (Nat.le_of_ble_eq_true rfl) ([(2, .int (-1)), (0, .ref (u 54)), (1, .int x0)]) rfl ?_
  refine ax_iconst (pc := 2) C 0 d_Sto_selectedOf_2 (by decide +kernel) ?_
  refine ax_istore_n (pc := 3) C d_Sto_selectedOf_3 rfl (Nat.le_of_ble_eq_true rfl) ([(3, .int 0), (2, .int (-1)), (0, .ref (u 54)), (1, .int x0)]) rfl ?_
  refine ax_aload_n (pc := 4) C d_Sto_selectedOf_4 rfl 2 rfl ?_
  refine ax_iload_n (pc := 5) C d_Sto_selectedOf_5 rfl 3 rfl ?_
  refine ax_bipush (pc := 6) C 8 d_Sto_selectedOf_6 (by decide +kernel) ?_
  obtain ⟨σ1, r1, d1_1, d2_1, h1, h, hd2, hd1⟩ := it_b h
  have hm : sC_Sto_fact l D kA u w tx σ [x0, 8] (σ1, r1, d1_1) := ih tC_Sto_fact _ _ _ h1
  refine cc_Vi (pc := 8) C (r0 := r1) (σ2 := σ1) (As := [.int x0, .int 8]) (rest := []) (hm _ _ rfl) ml_Sto_42 54 rfl rfl rfl d_Sto_selectedOf_8 rfl rfl (by dsimp only; omega) (by dsimp only; omega) (Nat.le_of_ble_eq_true rfl) (Nat.le_of_ble_eq_true rfl) (Nat.le_of_ble_eq_true rfl) ?_
  have hF : d2_1 + 1 ≤ F := by omega
  have hLo : 48 * d2_1 + 48 ≤ Lo := by omega
  refine ax_istore (pc := 11) C d_Sto_selectedOf_11 (Nat.le_of_ble_eq_true rfl) ([(4, .int r1), (3, .int 0), (2, .int (-1)), (0, .ref (u 54)), (1, .int x0)]) rfl ?_
  refine ax_iconst (pc := 13) C 0 d_Sto_selectedOf_13 (by decide +kernel) ?_
  refine ax_istore (pc := 14) C d_Sto_selectedOf_14 (Nat.le_of_ble_eq_true rfl) ([(5, .int 0), (4, .int r1), (3, .int 0), (2, .int (-1)), (0, .ref (u 54)), (1, .int x0)]) rfl ?_
  refine ax_ls ([(0, .ref (u 54)), (1, .int x0), (2, .int (-1)), (3, .int 0), (4, .int r1), (5, .int 0)]) [4, 5, 3, 2, 1, 0] rfl ?_
  have hm : sC_Sto_selectedOf_p16 l D kA u w tx σ1 [x0, (-1), 0, r1, 0] (σf, rf, _) := ih tC_Sto_selectedOf_p16 _ _ _ h
  exact hm _ _ _ _ _ rfl p e s m args below meth c F Lo σ0 hF hLo C
set_option maxHeartbeats 4000000 in
set_option maxRecDepth 100000 in
theorem oC_Sto_selectedOf_p16 (l : Launch) (D : va_G) (kA : Nat → ClassId) (u w : Nat → Nat) (tx : Value) (rec : mF) (ih : ∀ t σ xs res, rec t σ xs = some res → cSem l D kA u w tx t σ xs res) (σ : mS) (xs : List Int32) (res : mR) (h : u_5 (kC_Sto_selectedOf_p16 rec σ) xs = some res) : sC_Sto_selectedOf_p16 l D kA u w tx σ xs res := by
  intro x0 x1 x2 x3 x4 hxs
  subst hxs
  obtain ⟨σf, rf, dd⟩ := res
  have h : (bnd (rec tC_Sto_fact σ [x0, 3]) (fun σ1 r1 => if r1 ≤ x4 then (some (σ1, x1, 0)) else (if bin ((x3 : Int32) + 3) (σ1.2.2 48) = true then (if bin ((x3 : Int32) + 4) (σ1.2.2 48) = true then (bnd (rec tC_Sto_isPositive σ1 [x3]) (fun σ2 r2 => if r2 = 0 then (if (((σ1.2.1 48 (Int32.toNatClampNeg ((x3 : Int32) + 3))) : Int32) + (σ1.2.1 48 (Int32.toNatClampNeg ((x3 : Int32) + 4)))) ≤ x2 then (rec tC_Sto_selectedOf_p75 σ2 [x0, x1, x2, x3, x4, (((σ1.2.1 48 (Int32.toNatClampNeg ((x3 : Int32) + 3))) : Int32) + (σ1.2.1 48 (Int32.toNatClampNeg ((x3 : Int32) + 4))))]) else (rec tC_Sto_selectedOf_p75 σ2 [x0, x3, (((σ1.2.1 48 (Int32.toNatClampNeg ((x3 : Int32) + 3))) : Int32) + (σ1.2.1 48 (Int32.toNatClampNeg ((x3 : Int32) + 4)))), x3, x4, (((σ1.2.1 48 (Int32.toNatClampNeg ((x3 : Int32) + 3))) : Int32) + (σ1.2.1 48 (Int32.toNatClampNeg ((x3 : Int32) + 4))))])) else (rec tC_Sto_selectedOf_p75 σ2 [x0, x1, x2, x3, x4, (((σ1.2.1 48 (Int32.toNatClampNeg ((x3 : Int32) + 3))) : Int32) + (σ1.2.1 48 (Int32.toNatClampNeg ((x3 : Int32) + 4))))]))) else none) else none))) = some (σf, rf, dd) := h
  intro p e s m args below meth c F Lo σ0 hF hLo C
  dsimp only at hF hLo ⊢
  refine ax_iload (pc := 16) C d_Sto_selectedOf_16 5 rfl ?_
  refine ax_aload_n (pc := 18) C d_Sto_selectedOf_18 rfl 0 rfl ?_
  refine ax_iload_n (pc := 19) C d_Sto_selectedOf_19 rfl 1 rfl ?_
  refine ax_iconst (pc := 20) C 3 d_Sto_selectedOf_20 (by decide +kernel) ?_
  obtain ⟨σ1, r1, d1_1, d2_1, h1, h, hd2, hd1⟩ := it_b h
  have hm : sC_Sto_fact l D kA u w tx σ [x0, 3] (σ1, r1, d1_1) := ih tC_Sto_fact _ _ _ h1
  refine cc_Vi (pc := 21) C (r0 := r1) (σ2 := σ1) (As := [.int x0, .int 3]) (rest := [.int x4]) (hm _ _ rfl) ml_Sto_42 54 rfl rfl rfl d_Sto_selectedOf_21 rfl rfl (by dsimp only; omega) (by dsimp only; omega) (Nat.le_of_ble_eq_true rfl) (Nat.le_of_ble_eq_true rfl) (Nat.le_of_ble_eq_true rfl) ?_
  have hF : d2_1 + 1 ≤ F := by omega
  have hLo : 48 * d2_1 + 48 ≤ Lo := by omega
  refine ax_icmp_ge (pc := 24) C 89 d_Sto_selectedOf_24 (by decide) (fun hc => ?_) (fun hc => ?_)
  · have h := it_t hc h
    refine ax_iload_n (pc := 89) C d_Sto_selectedOf_89 rfl 2 rfl ?_
    cases h
    exact ax_iret (pc := 90) C d_Sto_selectedOf_90 ⟨rfl, rfl⟩ (Nat.le_refl _) (Nat.le_refl _)
  · have h := it_f hc h
    refine ax_aload_n (pc := 27) C d_Sto_selectedOf_27 rfl 0 rfl ?_
    refine cg_54_0_Sto_14 (pc := 28) C d_Sto_selectedOf_28 ?_
    refine cg_47_0_Sto_38 (pc := 31) C d_Sto_selectedOf_31 ?_
    refine ax_iload (pc := 34) C d_Sto_selectedOf_34 4 rfl ?_
    refine ax_iconst (pc := 36) C 3 d_Sto_selectedOf_36 (by decide +kernel) ?_
    refine ax_iadd (pc := 37) C d_Sto_selectedOf_37 ?_
    obtain ⟨hb, h⟩ := it_g h
    refine cl_48 (pc := 38) C d_Sto_selectedOf_38 (bin_in hb) ?_
    refine ax_aload_n (pc := 39) C d_Sto_selectedOf_39 rfl 0 rfl ?_
    refine cg_54_0_Sto_14 (pc := 40) C d_Sto_selectedOf_40 ?_
    refine cg_47_0_Sto_38 (pc := 43) C d_Sto_selectedOf_43 ?_
    refine ax_iload (pc := 46) C d_Sto_selectedOf_46 4 rfl ?_
    refine ax_iconst (pc := 48) C 4 d_Sto_selectedOf_48 (by decide +kernel) ?_
    refine ax_iadd (pc := 49) C d_Sto_selectedOf_49 ?_
    obtain ⟨hb, h⟩ := it_g h
    refine cl_48 (pc := 50) C d_Sto_selectedOf_50 (bin_in hb) ?_
    refine ax_iadd (pc := 51) C d_Sto_selectedOf_51 ?_
    refine ax_istore (pc := 52) C d_Sto_selectedOf_52 (Nat.le_of_ble_eq_true rfl) ([(6, .int (((σ1.2.1 48 (Int32.toNatClampNeg ((x3 : Int32) + 3))) : Int32) + (σ1.2.1 48 (Int32.toNatClampNeg ((x3 : Int32) + 4))))), (0, .ref (u 54)), (1, .int x0), (2, .int x1), (3, .int x2), (4, .int x3), (5, .int x4)]) rfl ?_
    refine ax_aload_n (pc := 54) C d_Sto_selectedOf_54 rfl 1 rfl ?_
    refine ax_iload (pc := 55) C d_Sto_selectedOf_55 5 rfl ?_
    obtain ⟨σ2, r2, d1_2, d2_2, h1, h, hd2, hd1⟩ := it_b h
    have hm : sC_Sto_isPositive l D kA u w tx σ1 [x3] (σ2, r2, d1_2) := ih tC_Sto_isPositive _ _ _ h1
    refine cc_Vi (pc := 57) C (r0 := r2) (σ2 := σ2) (As := [.int x3]) (rest := []) (hm _ rfl) ml_Sto_93 54 rfl rfl rfl d_Sto_selectedOf_57 rfl rfl (by dsimp only; omega) (by dsimp only; omega) (Nat.le_of_ble_eq_true rfl) (Nat.le_of_ble_eq_true rfl) (Nat.le_of_ble_eq_true rfl) ?_
    have hF : d2_2 + 1 ≤ F := by omega
    have hLo : 48 * d2_2 + 48 ≤ Lo := by omega
    refine ax_if_ne (pc := 60) C 75 d_Sto_selectedOf_60 (by decide) (fun hc => ?_) (fun hc => ?_)
    · have h := it_f hc h
      refine ax_ls ([(0, .ref (u 54)), (1, .int x0), (2, .int x1), (3, .int x2), (4, .int x3), (5, .int x4), (6, .int (((σ1.2.1 48 (Int32.toNatClampNeg ((x3 : Int32) + 3))) : Int32) + (σ1.2.1 48 (Int32.toNatClampNeg ((x3 : Int32) + 4)))))]) [1, 2, 3, 4, 5, 6, 0] rfl ?_
      have hm : sC_Sto_selectedOf_p75 l D kA u w tx σ2 [x0, x1, x2, x3, x4, (((σ1.2.1 48 (Int32.toNatClampNeg ((x3 : Int32) + 3))) : Int32) + (σ1.2.1 48 (Int32.toNatClampNeg ((x3 : Int32) + 4))))] (σf, rf, _) := ih tC_Sto_selectedOf_p75 _ _ _ h
      exact hm _ _ _ _ _ _ rfl p e s m args below meth c F Lo σ0 hF hLo C
    · have h := it_t hc h
      refine ax_iload (pc := 63) C d_Sto_selectedOf_63 0 rfl ?_
      refine ax_iload_n (pc := 65) C d_Sto_selectedOf_65 rfl 4 rfl ?_
      refine ax_icmp_le (pc := 66) C 75 d_Sto_selectedOf_66 (by decide) (fun hc => ?_) (fun hc => ?_)
      · have h := it_t hc h
        refine ax_ls ([(0, .ref (u 54)), (1, .int x0), (2, .int x1), (3, .int x2), (4, .int x3), (5, .int x4), (6, .int (((σ1.2.1 48 (Int32.toNatClampNeg ((x3 : Int32) + 3))) : Int32) + (σ1.2.1 48 (Int32.toNatClampNeg ((x3 : Int32) + 4)))))]) [1, 2, 3, 4, 5, 6, 0] rfl ?_
        have hm : sC_Sto_selectedOf_p75 l D kA u w tx σ2 [x0, x1, x2, x3, x4, (((σ1.2.1 48 (Int32.toNatClampNeg ((x3 : Int32) + 3))) : Int32) + (σ1.2.1 48 (Int32.toNatClampNeg ((x3 : Int32) + 4))))] (σf, rf, _) := ih tC_Sto_selectedOf_p75 _ _ _ h
        exact hm _ _ _ _ _ _ rfl p e s m args below meth c F Lo σ0 hF hLo C
      · have h := it_f hc h
        refine ax_iload (pc := 69) C d_Sto_selectedOf_69 5 rfl ?_
        refine ax_istore_n (pc := 71) C d_Sto_selectedOf_71 rfl (Nat.le_of_ble_eq_true rfl) ([(2, .int x3), (6, .int (((σ1.2.1 48 (Int32.toNatClampNeg ((x3 : Int32) + 3))) : Int32) + (σ1.2.1 48 (Int32.toNatClampNeg ((x3 : Int32) + 4))))), (0, .ref (u 54)), (1, .int x0), (3, .int x2), (4, .int x3), (5, .int x4)]) rfl ?_
        refine ax_iload (pc := 72) C d_Sto_selectedOf_72 1 rfl ?_
        refine ax_istore_n (pc := 74) C d_Sto_selectedOf_74 rfl (Nat.le_of_ble_eq_true rfl) ([(3, .int (((σ1.2.1 48 (Int32.toNatClampNeg ((x3 : Int32) + 3))) : Int32) + (σ1.2.1 48 (Int32.toNatClampNeg ((x3 : Int32) + 4))))), (2, .int x3), (6, .int (((σ1.2.1 48 (Int32.toNatClampNeg ((x3 : Int32) + 3))) : Int32) + (σ1.2.1 48 (Int32.toNatClampNeg ((x3 : Int32) + 4))))), (0, .ref (u 54)), (1, .int x0), (4, .int x3), (5, .int x4)]) rfl ?_
        refine ax_ls ([(0, .ref (u 54)), (1, .int x0), (2, .int x3), (3, .int (((σ1.2.1 48 (Int32.toNatClampNeg ((x3 : Int32) + 3))) : Int32) + (σ1.2.1 48 (Int32.toNatClampNeg ((x3 : Int32) + 4))))), (4, .int x3), (5, .int x4), (6, .int (((σ1.2.1 48 (Int32.toNatClampNeg ((x3 : Int32) + 3))) : Int32) + (σ1.2.1 48 (Int32.toNatClampNeg ((x3 : Int32) + 4)))))]) [3, 4, 1, 0, 5, 6, 2] rfl ?_
        have hm : sC_Sto_selectedOf_p75 l D kA u w tx σ2 [x0, x3, (((σ1.2.1 48 (Int32.toNatClampNeg ((x3 : Int32) + 3))) : Int32) + (σ1.2.1 48 (Int32.toNatClampNeg ((x3 : Int32) + 4)))), x3, x4, (((σ1.2.1 48 (Int32.toNatClampNeg ((x3 : Int32) + 3))) : Int32) + (σ1.2.1 48 (Int32.toNatClampNeg ((x3 : Int32) + 4))))] (σf, rf, _) := ih tC_Sto_selectedOf_p75 _ _ _ h
        exact hm _ _ _ _ _ _ rfl p e s m args below meth c F Lo σ0 hF hLo C
set_option maxHeartbeats 4000000 in
set_option maxRecDepth 100000 in
theorem oC_Sto_selectedOf_p75 (l : Launch) (D : va_G) (kA : Nat → ClassId) (u w : Nat → Nat) (tx : Value) (rec : mF) (ih : ∀ t σ xs res, rec t σ xs = some res → cSem l D kA u w tx t σ xs res) (σ : mS) (xs : List Int32) (res : mR) (h : u_6 (kC_Sto_selectedOf_p75 rec σ) xs = some res) : sC_Sto_selectedOf_p75 l D kA u w tx σ xs res := by
  intro x0 x1 x2 x3 x4 x5 hxs
  subst hxs
  obtain ⟨σf, rf, dd⟩ := res
  have h : (bnd (rec tC_Sto_behind σ [x3]) (fun σ1 r1 => rec tC_Sto_selectedOf_p16 σ1 [x0, x1, x2, r1, (x4 + 1)])) = some (σf, rf, dd) := h
  intro p e s m args below meth c F Lo σ0 hF hLo C
  dsimp only at hF hLo ⊢
  refine ax_aload_n (pc := 75) C d_Sto_selectedOf_75 rfl 0 rfl ?_
  refine ax_iload (pc := 76) C d_Sto_selectedOf_76 4 rfl ?_
  obtain ⟨σ1, r1, d1_1, d2_1, h1, h, hd2, hd1⟩ := it_b h
  have hm : sC_Sto_behind l D kA u w tx σ [x3] (σ1, r1, d1_1) := ih tC_Sto_behind _ _ _ h1
  refine cc_Vi (pc := 78) C (r0 := r1) (σ2 := σ1) (As := [.int x3]) (rest := []) (hm _ rfl) ml_Sto_73 54 rfl rfl rfl d_Sto_selectedOf_78 rfl rfl (by dsimp only; omega) (by dsimp only; omega) (Nat.le_of_ble_eq_true rfl) (Nat.le_of_ble_eq_true rfl) (Nat.le_of_ble_eq_true rfl) ?_
  have hF : d2_1 + 1 ≤ F := by omega
  have hLo : 48 * d2_1 + 48 ≤ Lo := by omega
  refine ax_istore (pc := 81) C d_Sto_selectedOf_81 (Nat.le_of_ble_eq_true rfl) ([(4, .int r1), (0, .ref (u 54)), (1, .int x0), (2, .int x1), (3, .int x2), (5, .int x4), (6, .int x5)]) rfl ?_
  refine ax_iinc (pc := 83) C (x4 + 1) d_Sto_selectedOf_83 5 rfl rfl (Nat.le_of_ble_eq_true rfl) ([(5, .int (x4 + 1)), (4, .int r1), (0, .ref (u 54)), (1, .int x0), (2, .int x1), (3, .int x2), (6, .int x5)]) rfl ?_
  refine ax_goto (pc := 86) C 16 d_Sto_selectedOf_86 (by decide) ?_
  refine ax_ls ([(0, .ref (u 54)), (1, .int x0), (2, .int x1), (3, .int x2), (4, .int r1), (5, .int (x4 + 1))]) [2, 3, 4, 5, 1, 0] rfl ?_
  have hm : sC_Sto_selectedOf_p16 l D kA u w tx σ1 [x0, x1, x2, r1, (x4 + 1)] (σf, rf, _) := ih tC_Sto_selectedOf_p16 _ _ _ h
  exact hm _ _ _ _ _ rfl p e s m args below meth c F Lo σ0 hF hLo C
set_option maxHeartbeats 4000000 in
set_option maxRecDepth 100000 in
theorem oC_Sto_setFact (l : Launch) (D : va_G) (kA : Nat → ClassId) (u w : Nat → Nat) (tx : Value) (rec : mF) (ih : ∀ t σ xs res, rec t σ xs = some res → cSem l D kA u w tx t σ xs res) (σ : mS) (xs : List Int32) (res : mR) (h : u_3 (kC_Sto_setFact rec σ) xs = some res) : sC_Sto_setFact l D kA u w tx σ xs res := by
  intro x0 x1 x2 hxs
  subst hxs
  obtain ⟨σf, rf, dd⟩ := res
  have h : (if bin ((((x0 : Int32) * 11) : Int32) + x1) (σ.2.2 52) = true then (lt_ (mA σ 52 (Int32.toNatClampNeg ((((x0 : Int32) * 11) : Int32) + x1)) x2) (fun σ1 => some (σ1, 0, 0))) else none) = some (σf, rf, dd) := h
  refine ax_Mv.of (by decide +kernel) (Nat.le_of_ble_eq_true rfl) ?_
  intro p e s m args below meth c C hnm
  have C : ax_C p s m args meth c b_Sto_setFact "ClauseProver$Store" 4 none D kA (va_A (cpW kA u w tx σ) s.heap.size) := C
  obtain ⟨F, hFe⟩ : ∃ F, F = dd + 1 := ⟨_, rfl⟩
  obtain ⟨Lo, hLoe⟩ : ∃ Lo, Lo = 48 * dd + 48 := ⟨_, rfl⟩
  obtain ⟨σ0, hσ0⟩ : ∃ s0, s0 = σ := ⟨_, rfl⟩
  suffices K : AW p l e { frames := F, cells := 0, slots := 0, locals := Lo } s m args below meth c D kA (va_A (cpW kA u w tx σ0) s.heap.size) 4 (ax_Qv below args s D kA (cpW kA u w tx σ0) 0 0 (fun w1 => w1 = cpW kA u w tx σf)) 0 [(0, .ref (u 54)), (1, .int x0), (2, .int x1), (3, .int x2)] [] (cpW kA u w tx σ) 0 0 by rw [hFe, hLoe, hσ0] at K; exact ax_ls ([(0, .ref (u 54)), (1, .int x0), (2, .int x1), (3, .int x2)]) [0, 1, 2, 3] rfl K
  have C : ax_C p s m args meth c b_Sto_setFact "ClauseProver$Store" 4 none D kA (va_A (cpW kA u w tx σ0) s.heap.size) := by rw [hσ0]; exact C
  have hF : dd + 1 ≤ F := by omega
  have hLo : 48 * dd + 48 ≤ Lo := by omega
  clear hFe hLoe hσ0
  refine ax_aload_n (pc := 0) C d_Sto_setFact_0 rfl 0 rfl ?_
  refine cg_54_5_Sto_23 (pc := 1) C d_Sto_setFact_1 ?_
  refine cg_51_0_Sto_38 (pc := 4) C d_Sto_setFact_4 ?_
  refine ax_iload_n (pc := 7) C d_Sto_setFact_7 rfl 1 rfl ?_
  refine ax_bipush (pc := 8) C 11 d_Sto_setFact_8 (by decide +kernel) ?_
  refine ax_imul (pc := 10) C d_Sto_setFact_10 ?_
  refine ax_iload_n (pc := 11) C d_Sto_setFact_11 rfl 2 rfl ?_
  refine ax_iadd (pc := 12) C d_Sto_setFact_12 ?_
  refine ax_iload_n (pc := 13) C d_Sto_setFact_13 rfl 3 rfl ?_
  obtain ⟨hb, h⟩ := it_g h
  refine cs_52 (pc := 14) C d_Sto_setFact_14 (bin_in hb) ?_
  have h := it_l h
  generalize mA σ 52 (Int32.toNatClampNeg ((((x0 : Int32) * 11) : Int32) + x1)) x2 = σ1 at h ⊢
  cases h
  exact ax_vret (pc := 15) C d_Sto_setFact_15 rfl (Nat.le_refl _) (Nat.le_refl _)
set_option maxHeartbeats 4000000 in
set_option maxRecDepth 100000 in
theorem oC_Sto_sideAt (l : Launch) (D : va_G) (kA : Nat → ClassId) (u w : Nat → Nat) (tx : Value) (rec : mF) (ih : ∀ t σ xs res, rec t σ xs = some res → cSem l D kA u w tx t σ xs res) (σ : mS) (xs : List Int32) (res : mR) (h : u_2 (kC_Sto_sideAt rec σ) xs = some res) : sC_Sto_sideAt l D kA u w tx σ xs res := by
  intro x0 x1 hxs
  subst hxs
  obtain ⟨σf, rf, dd⟩ := res
  have h : (if x1 = 0 then (rec tC_Sto_sideAt_p22 σ [x0, x1, 0, ((x0 : Int32) + 5)]) else (if bin ((x0 : Int32) + 3) (σ.2.2 48) = true then (rec tC_Sto_sideAt_p22 σ [x0, x1, (σ.2.1 48 (Int32.toNatClampNeg ((x0 : Int32) + 3))), ((x0 : Int32) + 5)]) else none)) = some (σf, rf, dd) := h
  refine ax_Mi.of (by decide +kernel) (Nat.le_of_ble_eq_true rfl) ?_
  intro p e s m args below meth c C hnm
  have C : ax_C p s m args meth c b_Sto_sideAt "ClauseProver$Store" 3 (some .int) D kA (va_A (cpW kA u w tx σ) s.heap.size) := C
  obtain ⟨F, hFe⟩ : ∃ F, F = dd + 1 := ⟨_, rfl⟩
  obtain ⟨Lo, hLoe⟩ : ∃ Lo, Lo = 48 * dd + 48 := ⟨_, rfl⟩
  obtain ⟨σ0, hσ0⟩ : ∃ s0, s0 = σ := ⟨_, rfl⟩
  suffices K : AW p l e { frames := F, cells := 0, slots := 0, locals := Lo } s m args below meth c D kA (va_A (cpW kA u w tx σ0) s.heap.size) 3 (ax_Qi below args s D kA (cpW kA u w tx σ0) 0 0 (fun r w1 => r = rf ∧ w1 = cpW kA u w tx σf)) 0 [(0, .ref (u 54)), (1, .int x0), (2, .int x1)] [] (cpW kA u w tx σ) 0 0 by rw [hFe, hLoe, hσ0] at K; exact ax_ls ([(0, .ref (u 54)), (1, .int x0), (2, .int x1)]) [0, 1, 2] rfl K
  have C : ax_C p s m args meth c b_Sto_sideAt "ClauseProver$Store" 3 (some .int) D kA (va_A (cpW kA u w tx σ0) s.heap.size) := by rw [hσ0]; exact C
  have hF : dd + 1 ≤ F := by omega
  have hLo : 48 * dd + 48 ≤ Lo := by omega
  clear hFe hLoe hσ0
  refine ax_iload_n (pc := 0) C d_Sto_sideAt_0 rfl 1 rfl ?_
  refine ax_iconst (pc := 1) C 5 d_Sto_sideAt_1 (by decide +kernel) ?_
  refine ax_iadd (pc := 2) C d_Sto_sideAt_2 ?_
  refine ax_iload_n (pc := 3) C d_Sto_sideAt_3 rfl 2 rfl ?_
  refine ax_if_ne (pc := 4) C 11 d_Sto_sideAt_4 (by decide) (fun hc => ?_) (fun hc => ?_)
  · have h := it_f hc h
    refine ax_aload_n (pc := 11) C d_Sto_sideAt_11 rfl 0 rfl ?_
    refine cg_54_0_Sto_14 (pc := 12) C d_Sto_sideAt_12 ?_
    refine cg_47_0_Sto_38 (pc := 15) C d_Sto_sideAt_15 ?_
    refine ax_iload_n (pc := 18) C d_Sto_sideAt_18 rfl 1 rfl ?_
    refine ax_iconst (pc := 19) C 3 d_Sto_sideAt_19 (by decide +kernel) ?_
    refine ax_iadd (pc := 20) C d_Sto_sideAt_20 ?_
    obtain ⟨hb, h⟩ := it_g h
    refine cl_48 (pc := 21) C d_Sto_sideAt_21 (bin_in hb) ?_
    refine ax_ls ([(0, .ref (u 54)), (1, .int x0), (2, .int x1)]) [0, 1, 2] rfl ?_
    have hm : sC_Sto_sideAt_p22 l D kA u w tx σ [x0, x1, (σ.2.1 48 (Int32.toNatClampNeg ((x0 : Int32) + 3))), ((x0 : Int32) + 5)] (σf, rf, _) := ih tC_Sto_sideAt_p22 _ _ _ h
    exact hm _ _ _ _ rfl p e s m args below meth c F Lo σ0 hF hLo C
  · have h := it_t hc h
    refine ax_iconst (pc := 7) C 0 d_Sto_sideAt_7 (by decide +kernel) ?_
    refine ax_goto (pc := 8) C 22 d_Sto_sideAt_8 (by decide) ?_
    refine ax_ls ([(0, .ref (u 54)), (1, .int x0), (2, .int x1)]) [0, 1, 2] rfl ?_
    have hm : sC_Sto_sideAt_p22 l D kA u w tx σ [x0, x1, 0, ((x0 : Int32) + 5)] (σf, rf, _) := ih tC_Sto_sideAt_p22 _ _ _ h
    exact hm _ _ _ _ rfl p e s m args below meth c F Lo σ0 hF hLo C
set_option maxHeartbeats 4000000 in
set_option maxRecDepth 100000 in
theorem oC_Sto_sideAt_p22 (l : Launch) (D : va_G) (kA : Nat → ClassId) (u w : Nat → Nat) (tx : Value) (rec : mF) (ih : ∀ t σ xs res, rec t σ xs = some res → cSem l D kA u w tx t σ xs res) (σ : mS) (xs : List Int32) (res : mR) (h : u_4 (kC_Sto_sideAt_p22 rec σ) xs = some res) : sC_Sto_sideAt_p22 l D kA u w tx σ xs res := by
  intro x0 x1 x2 x3 hxs
  subst hxs
  obtain ⟨σf, rf, dd⟩ := res
  have h : (some (σ, ((x3 : Int32) + x2), 0)) = some (σf, rf, dd) := h
  intro p e s m args below meth c F Lo σ0 hF hLo C
  dsimp only at hF hLo ⊢
  refine ax_iadd (pc := 22) C d_Sto_sideAt_22 ?_
  cases h
  exact ax_iret (pc := 23) C d_Sto_sideAt_23 ⟨rfl, rfl⟩ (Nat.le_refl _) (Nat.le_refl _)
set_option maxHeartbeats 4000000 in
set_option maxRecDepth 100000 in
theorem oC_Sto_sideSize (l : Launch) (D : va_G) (kA : Nat → ClassId) (u w : Nat → Nat) (tx : Value) (rec : mF) (ih : ∀ t σ xs res, rec t σ xs = some res → cSem l D kA u w tx t σ xs res) (σ : mS) (xs : List Int32) (res : mR) (h : u_2 (kC_Sto_sideSize rec σ) xs = some res) : sC_Sto_sideSize l D kA u w tx σ xs res := by
  intro x0 x1 hxs
  subst hxs
  obtain ⟨σf, rf, dd⟩ := res
  have h : (if x1 = 0 then (rec tC_Sto_sideSize_p17 σ [x0, x1, 3, x0]) else (rec tC_Sto_sideSize_p17 σ [x0, x1, 4, x0])) = some (σf, rf, dd) := h
  refine ax_Mi.of (by decide +kernel) (Nat.le_of_ble_eq_true rfl) ?_
  intro p e s m args below meth c C hnm
  have C : ax_C p s m args meth c b_Sto_sideSize "ClauseProver$Store" 3 (some .int) D kA (va_A (cpW kA u w tx σ) s.heap.size) := C
  obtain ⟨F, hFe⟩ : ∃ F, F = dd + 1 := ⟨_, rfl⟩
  obtain ⟨Lo, hLoe⟩ : ∃ Lo, Lo = 48 * dd + 48 := ⟨_, rfl⟩
  obtain ⟨σ0, hσ0⟩ : ∃ s0, s0 = σ := ⟨_, rfl⟩
  suffices K : AW p l e { frames := F, cells := 0, slots := 0, locals := Lo } s m args below meth c D kA (va_A (cpW kA u w tx σ0) s.heap.size) 3 (ax_Qi below args s D kA (cpW kA u w tx σ0) 0 0 (fun r w1 => r = rf ∧ w1 = cpW kA u w tx σf)) 0 [(0, .ref (u 54)), (1, .int x0), (2, .int x1)] [] (cpW kA u w tx σ) 0 0 by rw [hFe, hLoe, hσ0] at K; exact ax_ls ([(0, .ref (u 54)), (1, .int x0), (2, .int x1)]) [0, 1, 2] rfl K
  have C : ax_C p s m args meth c b_Sto_sideSize "ClauseProver$Store" 3 (some .int) D kA (va_A (cpW kA u w tx σ0) s.heap.size) := by rw [hσ0]; exact C
  have hF : dd + 1 ≤ F := by omega
  have hLo : 48 * dd + 48 ≤ Lo := by omega
  clear hFe hLoe hσ0
  refine ax_aload_n (pc := 0) C d_Sto_sideSize_0 rfl 0 rfl ?_
  refine cg_54_0_Sto_14 (pc := 1) C d_Sto_sideSize_1 ?_
  refine cg_47_0_Sto_38 (pc := 4) C d_Sto_sideSize_4 ?_
  refine ax_iload_n (pc := 7) C d_Sto_sideSize_7 rfl 1 rfl ?_
  refine ax_iload_n (pc := 8) C d_Sto_sideSize_8 rfl 2 rfl ?_
  refine ax_if_ne (pc := 9) C 16 d_Sto_sideSize_9 (by decide) (fun hc => ?_) (fun hc => ?_)
  · have h := it_f hc h
    refine ax_iconst (pc := 16) C 4 d_Sto_sideSize_16 (by decide +kernel) ?_
    refine ax_ls ([(0, .ref (u 54)), (1, .int x0), (2, .int x1)]) [0, 1, 2] rfl ?_
    have hm : sC_Sto_sideSize_p17 l D kA u w tx σ [x0, x1, 4, x0] (σf, rf, _) := ih tC_Sto_sideSize_p17 _ _ _ h
    exact hm _ _ _ _ rfl p e s m args below meth c F Lo σ0 hF hLo C
  · have h := it_t hc h
    refine ax_iconst (pc := 12) C 3 d_Sto_sideSize_12 (by decide +kernel) ?_
    refine ax_goto (pc := 13) C 17 d_Sto_sideSize_13 (by decide) ?_
    refine ax_ls ([(0, .ref (u 54)), (1, .int x0), (2, .int x1)]) [0, 1, 2] rfl ?_
    have hm : sC_Sto_sideSize_p17 l D kA u w tx σ [x0, x1, 3, x0] (σf, rf, _) := ih tC_Sto_sideSize_p17 _ _ _ h
    exact hm _ _ _ _ rfl p e s m args below meth c F Lo σ0 hF hLo C
set_option maxHeartbeats 4000000 in
set_option maxRecDepth 100000 in
theorem oC_Sto_sideSize_p17 (l : Launch) (D : va_G) (kA : Nat → ClassId) (u w : Nat → Nat) (tx : Value) (rec : mF) (ih : ∀ t σ xs res, rec t σ xs = some res → cSem l D kA u w tx t σ xs res) (σ : mS) (xs : List Int32) (res : mR) (h : u_4 (kC_Sto_sideSize_p17 rec σ) xs = some res) : sC_Sto_sideSize_p17 l D kA u w tx σ xs res := by
  intro x0 x1 x2 x3 hxs
  subst hxs
  obtain ⟨σf, rf, dd⟩ := res
  have h : (if bin ((x3 : Int32) + x2) (σ.2.2 48) = true then (some (σ, (σ.2.1 48 (Int32.toNatClampNeg ((x3 : Int32) + x2))), 0)) else none) = some (σf, rf, dd) := h
  intro p e s m args below meth c F Lo σ0 hF hLo C
  dsimp only at hF hLo ⊢
  refine ax_iadd (pc := 17) C d_Sto_sideSize_17 ?_
  obtain ⟨hb, h⟩ := it_g h
  refine cl_48 (pc := 18) C d_Sto_sideSize_18 (bin_in hb) ?_
  cases h
  exact ax_iret (pc := 19) C d_Sto_sideSize_19 ⟨rfl, rfl⟩ (Nat.le_refl _) (Nat.le_refl _)
set_option maxHeartbeats 4000000 in
set_option maxRecDepth 100000 in
theorem oC_Sym_addWitness (l : Launch) (D : va_G) (kA : Nat → ClassId) (u w : Nat → Nat) (tx : Value) (rec : mF) (ih : ∀ t σ xs res, rec t σ xs = some res → cSem l D kA u w tx t σ xs res) (σ : mS) (xs : List Int32) (res : mR) (h : u_1 (kC_Sym_addWitness rec σ) xs = some res) : sC_Sym_addWitness l D kA u w tx σ xs res := by
  intro x0 hxs
  subst hxs
  obtain ⟨σf, rf, dd⟩ := res
  have h : (if (σ.1 605) = 551 then (some (σ, (-1), 0)) else (if bin (σ.1 605) 551 = true then (lt_ (mA σ 12 (Int32.toNatClampNeg (σ.1 605)) 2) (fun σ1 => if bin (σ1.1 605) 551 = true then (lt_ (mA σ1 7 (Int32.toNatClampNeg (σ1.1 605)) x0) (fun σ2 => lt_ (mI σ2 605 (((σ2.1 605) : Int32) + 1)) (fun σ3 => some (σ3, (σ2.1 605), 0)))) else none)) else none)) = some (σf, rf, dd) := h
  refine ax_Mi.of (by decide +kernel) (Nat.le_of_ble_eq_true rfl) ?_
  intro p e s m args below meth c C hnm
  have C : ax_C p s m args meth c b_Sym_addWitness "ClauseProver$Symbols" 2 (some .int) D kA (va_A (cpW kA u w tx σ) s.heap.size) := C
  obtain ⟨F, hFe⟩ : ∃ F, F = dd + 1 := ⟨_, rfl⟩
  obtain ⟨Lo, hLoe⟩ : ∃ Lo, Lo = 48 * dd + 48 := ⟨_, rfl⟩
  obtain ⟨σ0, hσ0⟩ : ∃ s0, s0 = σ := ⟨_, rfl⟩
  suffices K : AW p l e { frames := F, cells := 0, slots := 0, locals := Lo } s m args below meth c D kA (va_A (cpW kA u w tx σ0) s.heap.size) 2 (ax_Qi below args s D kA (cpW kA u w tx σ0) 0 0 (fun r w1 => r = rf ∧ w1 = cpW kA u w tx σf)) 0 [(0, .ref (u 6)), (1, .int x0)] [] (cpW kA u w tx σ) 0 0 by rw [hFe, hLoe, hσ0] at K; exact ax_ls ([(0, .ref (u 6)), (1, .int x0)]) [0, 1] rfl K
  have C : ax_C p s m args meth c b_Sym_addWitness "ClauseProver$Symbols" 2 (some .int) D kA (va_A (cpW kA u w tx σ0) s.heap.size) := by rw [hσ0]; exact C
  have hF : dd + 1 ≤ F := by omega
  have hLo : 48 * dd + 48 ≤ Lo := by omega
  clear hFe hLoe hσ0
  refine ax_aload_n (pc := 0) C d_Sym_addWitness_0 rfl 0 rfl ?_
  refine cg_6_5_Sym_36 (pc := 1) C d_Sym_addWitness_1 ?_
  refine ax_sipush (pc := 4) C 551 d_Sym_addWitness_4 (by decide +kernel) ?_
  refine ax_icmp_ne (pc := 7) C 12 d_Sym_addWitness_7 (by decide) (fun hc => ?_) (fun hc => ?_)
  · have h := it_f hc h
    refine ax_aload_n (pc := 12) C d_Sym_addWitness_12 rfl 0 rfl ?_
    refine cg_6_6_Sym_30 (pc := 13) C d_Sym_addWitness_13 ?_
    refine ax_aload_n (pc := 16) C d_Sym_addWitness_16 rfl 0 rfl ?_
    refine cg_6_5_Sym_36 (pc := 17) C d_Sym_addWitness_17 ?_
    refine ax_iconst (pc := 20) C 2 d_Sym_addWitness_20 (by decide +kernel) ?_
    obtain ⟨hb, h⟩ := it_g h
    refine cs_12 (pc := 21) C d_Sym_addWitness_21 (bin_in hb) ?_
    have h := it_l h
    generalize mA σ 12 (Int32.toNatClampNeg (σ.1 605)) 2 = σ1 at h ⊢
    refine ax_aload_n (pc := 22) C d_Sym_addWitness_22 rfl 0 rfl ?_
    refine cg_6_0_Sym_9 (pc := 23) C d_Sym_addWitness_23 ?_
    refine ax_aload_n (pc := 26) C d_Sym_addWitness_26 rfl 0 rfl ?_
    refine cg_6_5_Sym_36 (pc := 27) C d_Sym_addWitness_27 ?_
    refine ax_iload_n (pc := 30) C d_Sym_addWitness_30 rfl 1 rfl ?_
    obtain ⟨hb, h⟩ := it_g h
    refine cs_7 (pc := 31) C d_Sym_addWitness_31 (bin_in hb) ?_
    have h := it_l h
    generalize mA σ1 7 (Int32.toNatClampNeg (σ1.1 605)) x0 = σ2 at h ⊢
    refine ax_aload_n (pc := 32) C d_Sym_addWitness_32 rfl 0 rfl ?_
    refine ax_dup (pc := 33) C d_Sym_addWitness_33 rfl ?_
    refine cg_6_5_Sym_36 (pc := 34) C d_Sym_addWitness_34 ?_
    refine ax_dup_x1 (pc := 37) C d_Sym_addWitness_37 rfl rfl ?_
    refine ax_iconst (pc := 38) C 1 d_Sym_addWitness_38 (by decide +kernel) ?_
    refine ax_iadd (pc := 39) C d_Sym_addWitness_39 ?_
    refine cq_6_5_Sym_36 (pc := 40) C d_Sym_addWitness_40 ?_
    have h := it_l h
    generalize mI σ2 605 (((σ2.1 605) : Int32) + 1) = σ3 at h ⊢
    cases h
    exact ax_iret (pc := 43) C d_Sym_addWitness_43 ⟨rfl, rfl⟩ (Nat.le_refl _) (Nat.le_refl _)
  · have h := it_t hc h
    refine ax_iconst (pc := 10) C (-1) d_Sym_addWitness_10 (by decide +kernel) ?_
    cases h
    exact ax_iret (pc := 11) C d_Sym_addWitness_11 ⟨rfl, rfl⟩ (Nat.le_refl _) (Nat.le_refl _)
set_option maxHeartbeats 4000000 in
set_option maxRecDepth 100000 in
theorem oC_Sym_after_16 (l : Launch) (D : va_G) (kA : Nat → ClassId) (u w : Nat → Nat) (tx : Value) (rec : mF) (ih : ∀ t σ xs res, rec t σ xs = some res → cSem l D kA u w tx t σ xs res) (σ : mS) (xs : List Int32) (res : mR) (h : u_1 (kC_Sym_after_16 rec σ) xs = some res) : sC_Sym_after_16 l D kA u w tx σ xs res := by
  intro x0 hxs
  subst hxs
  obtain ⟨σf, rf, dd⟩ := res
  have h : (rec tC_Sym_after_16_p5 σ [x0, 1, x0]) = some (σf, rf, dd) := h
  refine ax_Mi.of (by decide +kernel) (Nat.le_of_ble_eq_true rfl) ?_
  intro p e s m args below meth c C hnm
  have C : ax_C p s m args meth c b_Sym_after "ClauseProver$Symbols" 5 (some .int) D kA (va_A (cpW kA u w tx σ) s.heap.size) := C
  obtain ⟨F, hFe⟩ : ∃ F, F = dd + 1 := ⟨_, rfl⟩
  obtain ⟨Lo, hLoe⟩ : ∃ Lo, Lo = 48 * dd + 48 := ⟨_, rfl⟩
  obtain ⟨σ0, hσ0⟩ : ∃ s0, s0 = σ := ⟨_, rfl⟩
  suffices K : AW p l e { frames := F, cells := 0, slots := 0, locals := Lo } s m args below meth c D kA (va_A (cpW kA u w tx σ0) s.heap.size) 5 (ax_Qi below args s D kA (cpW kA u w tx σ0) 0 0 (fun r w1 => r = rf ∧ w1 = cpW kA u w tx σf)) 0 [(0, .ref (u 6)), (1, .ref (w 16)), (2, .int x0)] [] (cpW kA u w tx σ) 0 0 by rw [hFe, hLoe, hσ0] at K; exact ax_ls ([(0, .ref (u 6)), (1, .ref (w 16)), (2, .int x0)]) [0, 1, 2] rfl K
  have C : ax_C p s m args meth c b_Sym_after "ClauseProver$Symbols" 5 (some .int) D kA (va_A (cpW kA u w tx σ0) s.heap.size) := by rw [hσ0]; exact C
  have hF : dd + 1 ≤ F := by omega
  have hLo : 48 * dd + 48 ≤ Lo := by omega
  clear hFe hLoe hσ0
  refine ax_iconst (pc := 0) C 1 d_Sym_after_0 (by decide +kernel) ?_
  refine ax_istore_n (pc := 1) C d_Sym_after_1 rfl (Nat.le_of_ble_eq_true rfl) ([(3, .int 1), (0, .ref (u 6)), (1, .ref (w 16)), (2, .int x0)]) rfl ?_
  refine ax_iload_n (pc := 2) C d_Sym_after_2 rfl 3 rfl ?_
  refine ax_istore (pc := 3) C d_Sym_after_3 (Nat.le_of_ble_eq_true rfl) ([(4, .int x0), (3, .int 1), (0, .ref (u 6)), (1, .ref (w 16)), (2, .int x0)]) rfl ?_
  refine ax_ls ([(0, .ref (u 6)), (1, .ref (w 16)), (2, .int x0), (3, .int 1), (4, .int x0)]) [2, 3, 4, 1, 0] rfl ?_
  have hm : sC_Sym_after_16_p5 l D kA u w tx σ [x0, 1, x0] (σf, rf, _) := ih tC_Sym_after_16_p5 _ _ _ h
  exact hm _ _ _ rfl p e s m args below meth c F Lo σ0 hF hLo C
set_option maxHeartbeats 4000000 in
set_option maxRecDepth 100000 in
theorem oC_Sym_after_16_p5 (l : Launch) (D : va_G) (kA : Nat → ClassId) (u w : Nat → Nat) (tx : Value) (rec : mF) (ih : ∀ t σ xs res, rec t σ xs = some res → cSem l D kA u w tx t σ xs res) (σ : mS) (xs : List Int32) (res : mR) (h : u_3 (kC_Sym_after_16_p5 rec σ) xs = some res) : sC_Sym_after_16_p5 l D kA u w tx σ xs res := by
  intro x0 x1 x2 hxs
  subst hxs
  obtain ⟨σf, rf, dd⟩ := res
  have h : (if (Int32.ofNat (σ.2.2 16)) ≤ x2 then (rec tC_Sym_after_16_p47 σ [x0, x1, x2]) else (if x1 ≤ 0 then (rec tC_Sym_after_16_p47 σ [x0, x1, x2]) else (if bin x2 (σ.2.2 16) = true then (if 0 ≤ (σ.2.1 16 (Int32.toNatClampNeg x2)) then (if bin x2 (σ.2.2 16) = true then (if bin (σ.2.1 16 (Int32.toNatClampNeg x2)) 551 = true then (rec tC_Sym_after_16_p39 σ [x0, x1, x2, (((σ.2.1 7 (Int32.toNatClampNeg (σ.2.1 16 (Int32.toNatClampNeg x2)))) : Int32) - 1), x1]) else none) else none) else (rec tC_Sym_after_16_p39 σ [x0, x1, x2, (-1), x1])) else none))) = some (σf, rf, dd) := h
  intro p e s m args below meth c F Lo σ0 hF hLo C
  dsimp only at hF hLo ⊢
  refine ax_iload (pc := 5) C d_Sym_after_5 4 rfl ?_
  refine ax_aload_n (pc := 7) C d_Sym_after_7 rfl 1 rfl ?_
  refine cn_16 (pc := 8) C d_Sym_after_8 ?_
  refine ax_icmp_ge (pc := 9) C 47 d_Sym_after_9 (by decide) (fun hc => ?_) (fun hc => ?_)
  · have h := it_t hc h
    refine ax_ls ([(0, .ref (u 6)), (1, .ref (w 16)), (2, .int x0), (3, .int x1), (4, .int x2)]) [0, 1, 2, 3, 4] rfl ?_
    have hm : sC_Sym_after_16_p47 l D kA u w tx σ [x0, x1, x2] (σf, rf, _) := ih tC_Sym_after_16_p47 _ _ _ h
    exact hm _ _ _ rfl p e s m args below meth c F Lo σ0 hF hLo C
  · have h := it_f hc h
    refine ax_iload_n (pc := 12) C d_Sym_after_12 rfl 3 rfl ?_
    refine ax_if_le (pc := 13) C 47 d_Sym_after_13 (by decide) (fun hc => ?_) (fun hc => ?_)
    · have h := it_t hc h
      refine ax_ls ([(0, .ref (u 6)), (1, .ref (w 16)), (2, .int x0), (3, .int x1), (4, .int x2)]) [0, 1, 2, 3, 4] rfl ?_
      have hm : sC_Sym_after_16_p47 l D kA u w tx σ [x0, x1, x2] (σf, rf, _) := ih tC_Sym_after_16_p47 _ _ _ h
      exact hm _ _ _ rfl p e s m args below meth c F Lo σ0 hF hLo C
    · have h := it_f hc h
      refine ax_iload_n (pc := 16) C d_Sym_after_16 rfl 3 rfl ?_
      refine ax_aload_n (pc := 17) C d_Sym_after_17 rfl 1 rfl ?_
      refine ax_iload (pc := 18) C d_Sym_after_18 4 rfl ?_
      obtain ⟨hb, h⟩ := it_g h
      refine cl_16 (pc := 20) C d_Sym_after_20 (bin_in hb) ?_
      refine ax_if_ge (pc := 21) C 28 d_Sym_after_21 (by decide) (fun hc => ?_) (fun hc => ?_)
      · have h := it_t hc h
        refine ax_aload_n (pc := 28) C d_Sym_after_28 rfl 0 rfl ?_
        refine cg_6_0_Sym_9 (pc := 29) C d_Sym_after_29 ?_
        refine ax_aload_n (pc := 32) C d_Sym_after_32 rfl 1 rfl ?_
        refine ax_iload (pc := 33) C d_Sym_after_33 4 rfl ?_
        obtain ⟨hb, h⟩ := it_g h
        refine cl_16 (pc := 35) C d_Sym_after_35 (bin_in hb) ?_
        obtain ⟨hb, h⟩ := it_g h
        refine cl_7 (pc := 36) C d_Sym_after_36 (bin_in hb) ?_
        refine ax_iconst (pc := 37) C 1 d_Sym_after_37 (by decide +kernel) ?_
        refine ax_isub (pc := 38) C d_Sym_after_38 ?_
        refine ax_ls ([(0, .ref (u 6)), (1, .ref (w 16)), (2, .int x0), (3, .int x1), (4, .int x2)]) [0, 1, 2, 3, 4] rfl ?_
        have hm : sC_Sym_after_16_p39 l D kA u w tx σ [x0, x1, x2, (((σ.2.1 7 (Int32.toNatClampNeg (σ.2.1 16 (Int32.toNatClampNeg x2)))) : Int32) - 1), x1] (σf, rf, _) := ih tC_Sym_after_16_p39 _ _ _ h
        exact hm _ _ _ _ _ rfl p e s m args below meth c F Lo σ0 hF hLo C
      · have h := it_f hc h
        refine ax_iconst (pc := 24) C (-1) d_Sym_after_24 (by decide +kernel) ?_
        refine ax_goto (pc := 25) C 39 d_Sym_after_25 (by decide) ?_
        refine ax_ls ([(0, .ref (u 6)), (1, .ref (w 16)), (2, .int x0), (3, .int x1), (4, .int x2)]) [0, 1, 2, 3, 4] rfl ?_
        have hm : sC_Sym_after_16_p39 l D kA u w tx σ [x0, x1, x2, (-1), x1] (σf, rf, _) := ih tC_Sym_after_16_p39 _ _ _ h
        exact hm _ _ _ _ _ rfl p e s m args below meth c F Lo σ0 hF hLo C
set_option maxHeartbeats 4000000 in
set_option maxRecDepth 100000 in
theorem oC_Sym_after_16_p39 (l : Launch) (D : va_G) (kA : Nat → ClassId) (u w : Nat → Nat) (tx : Value) (rec : mF) (ih : ∀ t σ xs res, rec t σ xs = some res → cSem l D kA u w tx t σ xs res) (σ : mS) (xs : List Int32) (res : mR) (h : u_5 (kC_Sym_after_16_p39 rec σ) xs = some res) : sC_Sym_after_16_p39 l D kA u w tx σ xs res := by
  intro x0 x1 x2 x3 x4 hxs
  subst hxs
  obtain ⟨σf, rf, dd⟩ := res
  have h : (rec tC_Sym_after_16_p5 σ [x0, ((x4 : Int32) + x3), (x2 + 1)]) = some (σf, rf, dd) := h
  intro p e s m args below meth c F Lo σ0 hF hLo C
  dsimp only at hF hLo ⊢
  refine ax_iadd (pc := 39) C d_Sym_after_39 ?_
  refine ax_istore_n (pc := 40) C d_Sym_after_40 rfl (Nat.le_of_ble_eq_true rfl) ([(3, .int ((x4 : Int32) + x3)), (0, .ref (u 6)), (1, .ref (w 16)), (2, .int x0), (4, .int x2)]) rfl ?_
  refine ax_iinc (pc := 41) C (x2 + 1) d_Sym_after_41 4 rfl rfl (Nat.le_of_ble_eq_true rfl) ([(4, .int (x2 + 1)), (3, .int ((x4 : Int32) + x3)), (0, .ref (u 6)), (1, .ref (w 16)), (2, .int x0)]) rfl ?_
  refine ax_goto (pc := 44) C 5 d_Sym_after_44 (by decide) ?_
  refine ax_ls ([(0, .ref (u 6)), (1, .ref (w 16)), (2, .int x0), (3, .int ((x4 : Int32) + x3)), (4, .int (x2 + 1))]) [2, 3, 4, 1, 0] rfl ?_
  have hm : sC_Sym_after_16_p5 l D kA u w tx σ [x0, ((x4 : Int32) + x3), (x2 + 1)] (σf, rf, _) := ih tC_Sym_after_16_p5 _ _ _ h
  exact hm _ _ _ rfl p e s m args below meth c F Lo σ0 hF hLo C
set_option maxHeartbeats 4000000 in
set_option maxRecDepth 100000 in
theorem oC_Sym_after_16_p47 (l : Launch) (D : va_G) (kA : Nat → ClassId) (u w : Nat → Nat) (tx : Value) (rec : mF) (ih : ∀ t σ xs res, rec t σ xs = some res → cSem l D kA u w tx t σ xs res) (σ : mS) (xs : List Int32) (res : mR) (h : u_3 (kC_Sym_after_16_p47 rec σ) xs = some res) : sC_Sym_after_16_p47 l D kA u w tx σ xs res := by
  intro x0 x1 x2 hxs
  subst hxs
  obtain ⟨σf, rf, dd⟩ := res
  have h : (some (σ, x2, 0)) = some (σf, rf, dd) := h
  intro p e s m args below meth c F Lo σ0 hF hLo C
  dsimp only at hF hLo ⊢
  refine ax_iload (pc := 47) C d_Sym_after_47 4 rfl ?_
  cases h
  exact ax_iret (pc := 49) C d_Sym_after_49 ⟨rfl, rfl⟩ (Nat.le_refl _) (Nat.le_refl _)
set_option maxHeartbeats 4000000 in
set_option maxRecDepth 100000 in
theorem oC_Sym_after_40 (l : Launch) (D : va_G) (kA : Nat → ClassId) (u w : Nat → Nat) (tx : Value) (rec : mF) (ih : ∀ t σ xs res, rec t σ xs = some res → cSem l D kA u w tx t σ xs res) (σ : mS) (xs : List Int32) (res : mR) (h : u_1 (kC_Sym_after_40 rec σ) xs = some res) : sC_Sym_after_40 l D kA u w tx σ xs res := by
  intro x0 hxs
  subst hxs
  obtain ⟨σf, rf, dd⟩ := res
  have h : (rec tC_Sym_after_40_p5 σ [x0, 1, x0]) = some (σf, rf, dd) := h
  refine ax_Mi.of (by decide +kernel) (Nat.le_of_ble_eq_true rfl) ?_
  intro p e s m args below meth c C hnm
  have C : ax_C p s m args meth c b_Sym_after "ClauseProver$Symbols" 5 (some .int) D kA (va_A (cpW kA u w tx σ) s.heap.size) := C
  obtain ⟨F, hFe⟩ : ∃ F, F = dd + 1 := ⟨_, rfl⟩
  obtain ⟨Lo, hLoe⟩ : ∃ Lo, Lo = 48 * dd + 48 := ⟨_, rfl⟩
  obtain ⟨σ0, hσ0⟩ : ∃ s0, s0 = σ := ⟨_, rfl⟩
  suffices K : AW p l e { frames := F, cells := 0, slots := 0, locals := Lo } s m args below meth c D kA (va_A (cpW kA u w tx σ0) s.heap.size) 5 (ax_Qi below args s D kA (cpW kA u w tx σ0) 0 0 (fun r w1 => r = rf ∧ w1 = cpW kA u w tx σf)) 0 [(0, .ref (u 6)), (1, .ref (u 40)), (2, .int x0)] [] (cpW kA u w tx σ) 0 0 by rw [hFe, hLoe, hσ0] at K; exact ax_ls ([(0, .ref (u 6)), (1, .ref (u 40)), (2, .int x0)]) [0, 1, 2] rfl K
  have C : ax_C p s m args meth c b_Sym_after "ClauseProver$Symbols" 5 (some .int) D kA (va_A (cpW kA u w tx σ0) s.heap.size) := by rw [hσ0]; exact C
  have hF : dd + 1 ≤ F := by omega
  have hLo : 48 * dd + 48 ≤ Lo := by omega
  clear hFe hLoe hσ0
  refine ax_iconst (pc := 0) C 1 d_Sym_after_0 (by decide +kernel) ?_
  refine ax_istore_n (pc := 1) C d_Sym_after_1 rfl (Nat.le_of_ble_eq_true rfl) ([(3, .int 1), (0, .ref (u 6)), (1, .ref (u 40)), (2, .int x0)]) rfl ?_
  refine ax_iload_n (pc := 2) C d_Sym_after_2 rfl 3 rfl ?_
  refine ax_istore (pc := 3) C d_Sym_after_3 (Nat.le_of_ble_eq_true rfl) ([(4, .int x0), (3, .int 1), (0, .ref (u 6)), (1, .ref (u 40)), (2, .int x0)]) rfl ?_
  refine ax_ls ([(0, .ref (u 6)), (1, .ref (u 40)), (2, .int x0), (3, .int 1), (4, .int x0)]) [2, 3, 4, 1, 0] rfl ?_
  have hm : sC_Sym_after_40_p5 l D kA u w tx σ [x0, 1, x0] (σf, rf, _) := ih tC_Sym_after_40_p5 _ _ _ h
  exact hm _ _ _ rfl p e s m args below meth c F Lo σ0 hF hLo C
set_option maxHeartbeats 4000000 in
set_option maxRecDepth 100000 in
theorem oC_Sym_after_40_p5 (l : Launch) (D : va_G) (kA : Nat → ClassId) (u w : Nat → Nat) (tx : Value) (rec : mF) (ih : ∀ t σ xs res, rec t σ xs = some res → cSem l D kA u w tx t σ xs res) (σ : mS) (xs : List Int32) (res : mR) (h : u_3 (kC_Sym_after_40_p5 rec σ) xs = some res) : sC_Sym_after_40_p5 l D kA u w tx σ xs res := by
  intro x0 x1 x2 hxs
  subst hxs
  obtain ⟨σf, rf, dd⟩ := res
  have h : (if (Int32.ofNat 100) ≤ x2 then (rec tC_Sym_after_40_p47 σ [x0, x1, x2]) else (if x1 ≤ 0 then (rec tC_Sym_after_40_p47 σ [x0, x1, x2]) else (if bin x2 100 = true then (if 0 ≤ (σ.2.1 40 (Int32.toNatClampNeg x2)) then (if bin x2 100 = true then (if bin (σ.2.1 40 (Int32.toNatClampNeg x2)) 551 = true then (rec tC_Sym_after_40_p39 σ [x0, x1, x2, (((σ.2.1 7 (Int32.toNatClampNeg (σ.2.1 40 (Int32.toNatClampNeg x2)))) : Int32) - 1), x1]) else none) else none) else (rec tC_Sym_after_40_p39 σ [x0, x1, x2, (-1), x1])) else none))) = some (σf, rf, dd) := h
  intro p e s m args below meth c F Lo σ0 hF hLo C
  dsimp only at hF hLo ⊢
  refine ax_iload (pc := 5) C d_Sym_after_5 4 rfl ?_
  refine ax_aload_n (pc := 7) C d_Sym_after_7 rfl 1 rfl ?_
  refine cn_40 (pc := 8) C d_Sym_after_8 ?_
  refine ax_icmp_ge (pc := 9) C 47 d_Sym_after_9 (by decide) (fun hc => ?_) (fun hc => ?_)
  · have h := it_t hc h
    refine ax_ls ([(0, .ref (u 6)), (1, .ref (u 40)), (2, .int x0), (3, .int x1), (4, .int x2)]) [0, 1, 2, 3, 4] rfl ?_
    have hm : sC_Sym_after_40_p47 l D kA u w tx σ [x0, x1, x2] (σf, rf, _) := ih tC_Sym_after_40_p47 _ _ _ h
    exact hm _ _ _ rfl p e s m args below meth c F Lo σ0 hF hLo C
  · have h := it_f hc h
    refine ax_iload_n (pc := 12) C d_Sym_after_12 rfl 3 rfl ?_
    refine ax_if_le (pc := 13) C 47 d_Sym_after_13 (by decide) (fun hc => ?_) (fun hc => ?_)
    · have h := it_t hc h
      refine ax_ls ([(0, .ref (u 6)), (1, .ref (u 40)), (2, .int x0), (3, .int x1), (4, .int x2)]) [0, 1, 2, 3, 4] rfl ?_
      have hm : sC_Sym_after_40_p47 l D kA u w tx σ [x0, x1, x2] (σf, rf, _) := ih tC_Sym_after_40_p47 _ _ _ h
      exact hm _ _ _ rfl p e s m args below meth c F Lo σ0 hF hLo C
    · have h := it_f hc h
      refine ax_iload_n (pc := 16) C d_Sym_after_16 rfl 3 rfl ?_
      refine ax_aload_n (pc := 17) C d_Sym_after_17 rfl 1 rfl ?_
      refine ax_iload (pc := 18) C d_Sym_after_18 4 rfl ?_
      obtain ⟨hb, h⟩ := it_g h
      refine cl_40 (pc := 20) C d_Sym_after_20 (bin_in hb) ?_
      refine ax_if_ge (pc := 21) C 28 d_Sym_after_21 (by decide) (fun hc => ?_) (fun hc => ?_)
      · have h := it_t hc h
        refine ax_aload_n (pc := 28) C d_Sym_after_28 rfl 0 rfl ?_
        refine cg_6_0_Sym_9 (pc := 29) C d_Sym_after_29 ?_
        refine ax_aload_n (pc := 32) C d_Sym_after_32 rfl 1 rfl ?_
        refine ax_iload (pc := 33) C d_Sym_after_33 4 rfl ?_
        obtain ⟨hb, h⟩ := it_g h
        refine cl_40 (pc := 35) C d_Sym_after_35 (bin_in hb) ?_
        obtain ⟨hb, h⟩ := it_g h
        refine cl_7 (pc := 36) C d_Sym_after_36 (bin_in hb) ?_
        refine ax_iconst (pc := 37) C 1 d_Sym_after_37 (by decide +kernel) ?_
        refine ax_isub (pc := 38) C d_Sym_after_38 ?_
        refine ax_ls ([(0, .ref (u 6)), (1, .ref (u 40)), (2, .int x0), (3, .int x1), (4, .int x2)]) [0, 1, 2, 3, 4] rfl ?_
        have hm : sC_Sym_after_40_p39 l D kA u w tx σ [x0, x1, x2, (((σ.2.1 7 (Int32.toNatClampNeg (σ.2.1 40 (Int32.toNatClampNeg x2)))) : Int32) - 1), x1] (σf, rf, _) := ih tC_Sym_after_40_p39 _ _ _ h
        exact hm _ _ _ _ _ rfl p e s m args below meth c F Lo σ0 hF hLo C
      · have h := it_f hc h
        refine ax_iconst (pc := 24) C (-1) d_Sym_after_24 (by decide +kernel) ?_
        refine ax_goto (pc := 25) C 39 d_Sym_after_25 (by decide) ?_
        refine ax_ls ([(0, .ref (u 6)), (1, .ref (u 40)), (2, .int x0), (3, .int x1), (4, .int x2)]) [0, 1, 2, 3, 4] rfl ?_
        have hm : sC_Sym_after_40_p39 l D kA u w tx σ [x0, x1, x2, (-1), x1] (σf, rf, _) := ih tC_Sym_after_40_p39 _ _ _ h
        exact hm _ _ _ _ _ rfl p e s m args below meth c F Lo σ0 hF hLo C
set_option maxHeartbeats 4000000 in
set_option maxRecDepth 100000 in
theorem oC_Sym_after_40_p39 (l : Launch) (D : va_G) (kA : Nat → ClassId) (u w : Nat → Nat) (tx : Value) (rec : mF) (ih : ∀ t σ xs res, rec t σ xs = some res → cSem l D kA u w tx t σ xs res) (σ : mS) (xs : List Int32) (res : mR) (h : u_5 (kC_Sym_after_40_p39 rec σ) xs = some res) : sC_Sym_after_40_p39 l D kA u w tx σ xs res := by
  intro x0 x1 x2 x3 x4 hxs
  subst hxs
  obtain ⟨σf, rf, dd⟩ := res
  have h : (rec tC_Sym_after_40_p5 σ [x0, ((x4 : Int32) + x3), (x2 + 1)]) = some (σf, rf, dd) := h
  intro p e s m args below meth c F Lo σ0 hF hLo C
  dsimp only at hF hLo ⊢
  refine ax_iadd (pc := 39) C d_Sym_after_39 ?_
  refine ax_istore_n (pc := 40) C d_Sym_after_40 rfl (Nat.le_of_ble_eq_true rfl) ([(3, .int ((x4 : Int32) + x3)), (0, .ref (u 6)), (1, .ref (u 40)), (2, .int x0), (4, .int x2)]) rfl ?_
  refine ax_iinc (pc := 41) C (x2 + 1) d_Sym_after_41 4 rfl rfl (Nat.le_of_ble_eq_true rfl) ([(4, .int (x2 + 1)), (3, .int ((x4 : Int32) + x3)), (0, .ref (u 6)), (1, .ref (u 40)), (2, .int x0)]) rfl ?_
  refine ax_goto (pc := 44) C 5 d_Sym_after_44 (by decide) ?_
  refine ax_ls ([(0, .ref (u 6)), (1, .ref (u 40)), (2, .int x0), (3, .int ((x4 : Int32) + x3)), (4, .int (x2 + 1))]) [2, 3, 4, 1, 0] rfl ?_
  have hm : sC_Sym_after_40_p5 l D kA u w tx σ [x0, ((x4 : Int32) + x3), (x2 + 1)] (σf, rf, _) := ih tC_Sym_after_40_p5 _ _ _ h
  exact hm _ _ _ rfl p e s m args below meth c F Lo σ0 hF hLo C
set_option maxHeartbeats 4000000 in
set_option maxRecDepth 100000 in
theorem oC_Sym_after_40_p47 (l : Launch) (D : va_G) (kA : Nat → ClassId) (u w : Nat → Nat) (tx : Value) (rec : mF) (ih : ∀ t σ xs res, rec t σ xs = some res → cSem l D kA u w tx t σ xs res) (σ : mS) (xs : List Int32) (res : mR) (h : u_3 (kC_Sym_after_40_p47 rec σ) xs = some res) : sC_Sym_after_40_p47 l D kA u w tx σ xs res := by
  intro x0 x1 x2 hxs
  subst hxs
  obtain ⟨σf, rf, dd⟩ := res
  have h : (some (σ, x2, 0)) = some (σf, rf, dd) := h
  intro p e s m args below meth c F Lo σ0 hF hLo C
  dsimp only at hF hLo ⊢
  refine ax_iload (pc := 47) C d_Sym_after_47 4 rfl ?_
  cases h
  exact ax_iret (pc := 49) C d_Sym_after_49 ⟨rfl, rfl⟩ (Nat.le_refl _) (Nat.le_refl _)
set_option maxHeartbeats 4000000 in
set_option maxRecDepth 100000 in
theorem oC_Sym_after_48 (l : Launch) (D : va_G) (kA : Nat → ClassId) (u w : Nat → Nat) (tx : Value) (rec : mF) (ih : ∀ t σ xs res, rec t σ xs = some res → cSem l D kA u w tx t σ xs res) (σ : mS) (xs : List Int32) (res : mR) (h : u_1 (kC_Sym_after_48 rec σ) xs = some res) : sC_Sym_after_48 l D kA u w tx σ xs res := by
  intro x0 hxs
  subst hxs
  obtain ⟨σf, rf, dd⟩ := res
  have h : (rec tC_Sym_after_48_p5 σ [x0, 1, x0]) = some (σf, rf, dd) := h
  refine ax_Mi.of (by decide +kernel) (Nat.le_of_ble_eq_true rfl) ?_
  intro p e s m args below meth c C hnm
  have C : ax_C p s m args meth c b_Sym_after "ClauseProver$Symbols" 5 (some .int) D kA (va_A (cpW kA u w tx σ) s.heap.size) := C
  obtain ⟨F, hFe⟩ : ∃ F, F = dd + 1 := ⟨_, rfl⟩
  obtain ⟨Lo, hLoe⟩ : ∃ Lo, Lo = 48 * dd + 48 := ⟨_, rfl⟩
  obtain ⟨σ0, hσ0⟩ : ∃ s0, s0 = σ := ⟨_, rfl⟩
  suffices K : AW p l e { frames := F, cells := 0, slots := 0, locals := Lo } s m args below meth c D kA (va_A (cpW kA u w tx σ0) s.heap.size) 5 (ax_Qi below args s D kA (cpW kA u w tx σ0) 0 0 (fun r w1 => r = rf ∧ w1 = cpW kA u w tx σf)) 0 [(0, .ref (u 6)), (1, .ref (w 48)), (2, .int x0)] [] (cpW kA u w tx σ) 0 0 by rw [hFe, hLoe, hσ0] at K; exact ax_ls ([(0, .ref (u 6)), (1, .ref (w 48)), (2, .int x0)]) [0, 1, 2] rfl K
  have C : ax_C p s m args meth c b_Sym_after "ClauseProver$Symbols" 5 (some .int) D kA (va_A (cpW kA u w tx σ0) s.heap.size) := by rw [hσ0]; exact C
  have hF : dd + 1 ≤ F := by omega
  have hLo : 48 * dd + 48 ≤ Lo := by omega
  clear hFe hLoe hσ0
  refine ax_iconst (pc := 0) C 1 d_Sym_after_0 (by decide +kernel) ?_
  refine ax_istore_n (pc := 1) C d_Sym_after_1 rfl (Nat.le_of_ble_eq_true rfl) ([(3, .int 1), (0, .ref (u 6)), (1, .ref (w 48)), (2, .int x0)]) rfl ?_
  refine ax_iload_n (pc := 2) C d_Sym_after_2 rfl 3 rfl ?_
  refine ax_istore (pc := 3) C d_Sym_after_3 (Nat.le_of_ble_eq_true rfl) ([(4, .int x0), (3, .int 1), (0, .ref (u 6)), (1, .ref (w 48)), (2, .int x0)]) rfl ?_
  refine ax_ls ([(0, .ref (u 6)), (1, .ref (w 48)), (2, .int x0), (3, .int 1), (4, .int x0)]) [2, 3, 4, 1, 0] rfl ?_
  have hm : sC_Sym_after_48_p5 l D kA u w tx σ [x0, 1, x0] (σf, rf, _) := ih tC_Sym_after_48_p5 _ _ _ h
  exact hm _ _ _ rfl p e s m args below meth c F Lo σ0 hF hLo C
set_option maxHeartbeats 4000000 in
set_option maxRecDepth 100000 in
theorem oC_Sym_after_48_p5 (l : Launch) (D : va_G) (kA : Nat → ClassId) (u w : Nat → Nat) (tx : Value) (rec : mF) (ih : ∀ t σ xs res, rec t σ xs = some res → cSem l D kA u w tx t σ xs res) (σ : mS) (xs : List Int32) (res : mR) (h : u_3 (kC_Sym_after_48_p5 rec σ) xs = some res) : sC_Sym_after_48_p5 l D kA u w tx σ xs res := by
  intro x0 x1 x2 hxs
  subst hxs
  obtain ⟨σf, rf, dd⟩ := res
  have h : (if (Int32.ofNat (σ.2.2 48)) ≤ x2 then (rec tC_Sym_after_48_p47 σ [x0, x1, x2]) else (if x1 ≤ 0 then (rec tC_Sym_after_48_p47 σ [x0, x1, x2]) else (if bin x2 (σ.2.2 48) = true then (if 0 ≤ (σ.2.1 48 (Int32.toNatClampNeg x2)) then (if bin x2 (σ.2.2 48) = true then (if bin (σ.2.1 48 (Int32.toNatClampNeg x2)) 551 = true then (rec tC_Sym_after_48_p39 σ [x0, x1, x2, (((σ.2.1 7 (Int32.toNatClampNeg (σ.2.1 48 (Int32.toNatClampNeg x2)))) : Int32) - 1), x1]) else none) else none) else (rec tC_Sym_after_48_p39 σ [x0, x1, x2, (-1), x1])) else none))) = some (σf, rf, dd) := h
  intro p e s m args below meth c F Lo σ0 hF hLo C
  dsimp only at hF hLo ⊢
  refine ax_iload (pc := 5) C d_Sym_after_5 4 rfl ?_
  refine ax_aload_n (pc := 7) C d_Sym_after_7 rfl 1 rfl ?_
  refine cn_48 (pc := 8) C d_Sym_after_8 ?_
  refine ax_icmp_ge (pc := 9) C 47 d_Sym_after_9 (by decide) (fun hc => ?_) (fun hc => ?_)
  · have h := it_t hc h
    refine ax_ls ([(0, .ref (u 6)), (1, .ref (w 48)), (2, .int x0), (3, .int x1), (4, .int x2)]) [0, 1, 2, 3, 4] rfl ?_
    have hm : sC_Sym_after_48_p47 l D kA u w tx σ [x0, x1, x2] (σf, rf, _) := ih tC_Sym_after_48_p47 _ _ _ h
    exact hm _ _ _ rfl p e s m args below meth c F Lo σ0 hF hLo C
  · have h := it_f hc h
    refine ax_iload_n (pc := 12) C d_Sym_after_12 rfl 3 rfl ?_
    refine ax_if_le (pc := 13) C 47 d_Sym_after_13 (by decide) (fun hc => ?_) (fun hc => ?_)
    · have h := it_t hc h
      refine ax_ls ([(0, .ref (u 6)), (1, .ref (w 48)), (2, .int x0), (3, .int x1), (4, .int x2)]) [0, 1, 2, 3, 4] rfl ?_
      have hm : sC_Sym_after_48_p47 l D kA u w tx σ [x0, x1, x2] (σf, rf, _) := ih tC_Sym_after_48_p47 _ _ _ h
      exact hm _ _ _ rfl p e s m args below meth c F Lo σ0 hF hLo C
    · have h := it_f hc h
      refine ax_iload_n (pc := 16) C d_Sym_after_16 rfl 3 rfl ?_
      refine ax_aload_n (pc := 17) C d_Sym_after_17 rfl 1 rfl ?_
      refine ax_iload (pc := 18) C d_Sym_after_18 4 rfl ?_
      obtain ⟨hb, h⟩ := it_g h
      refine cl_48 (pc := 20) C d_Sym_after_20 (bin_in hb) ?_
      refine ax_if_ge (pc := 21) C 28 d_Sym_after_21 (by decide) (fun hc => ?_) (fun hc => ?_)
      · have h := it_t hc h
        refine ax_aload_n (pc := 28) C d_Sym_after_28 rfl 0 rfl ?_
        refine cg_6_0_Sym_9 (pc := 29) C d_Sym_after_29 ?_
        refine ax_aload_n (pc := 32) C d_Sym_after_32 rfl 1 rfl ?_
        refine ax_iload (pc := 33) C d_Sym_after_33 4 rfl ?_
        obtain ⟨hb, h⟩ := it_g h
        refine cl_48 (pc := 35) C d_Sym_after_35 (bin_in hb) ?_
        obtain ⟨hb, h⟩ := it_g h
        refine cl_7 (pc := 36) C d_Sym_after_36 (bin_in hb) ?_
        refine ax_iconst (pc := 37) C 1 d_Sym_after_37 (by decide +kernel) ?_
        refine ax_isub (pc := 38) C d_Sym_after_38 ?_
        refine ax_ls ([(0, .ref (u 6)), (1, .ref (w 48)), (2, .int x0), (3, .int x1), (4, .int x2)]) [0, 1, 2, 3, 4] rfl ?_
        have hm : sC_Sym_after_48_p39 l D kA u w tx σ [x0, x1, x2, (((σ.2.1 7 (Int32.toNatClampNeg (σ.2.1 48 (Int32.toNatClampNeg x2)))) : Int32) - 1), x1] (σf, rf, _) := ih tC_Sym_after_48_p39 _ _ _ h
        exact hm _ _ _ _ _ rfl p e s m args below meth c F Lo σ0 hF hLo C
      · have h := it_f hc h
        refine ax_iconst (pc := 24) C (-1) d_Sym_after_24 (by decide +kernel) ?_
        refine ax_goto (pc := 25) C 39 d_Sym_after_25 (by decide) ?_
        refine ax_ls ([(0, .ref (u 6)), (1, .ref (w 48)), (2, .int x0), (3, .int x1), (4, .int x2)]) [0, 1, 2, 3, 4] rfl ?_
        have hm : sC_Sym_after_48_p39 l D kA u w tx σ [x0, x1, x2, (-1), x1] (σf, rf, _) := ih tC_Sym_after_48_p39 _ _ _ h
        exact hm _ _ _ _ _ rfl p e s m args below meth c F Lo σ0 hF hLo C
set_option maxHeartbeats 4000000 in
set_option maxRecDepth 100000 in
theorem oC_Sym_after_48_p39 (l : Launch) (D : va_G) (kA : Nat → ClassId) (u w : Nat → Nat) (tx : Value) (rec : mF) (ih : ∀ t σ xs res, rec t σ xs = some res → cSem l D kA u w tx t σ xs res) (σ : mS) (xs : List Int32) (res : mR) (h : u_5 (kC_Sym_after_48_p39 rec σ) xs = some res) : sC_Sym_after_48_p39 l D kA u w tx σ xs res := by
  intro x0 x1 x2 x3 x4 hxs
  subst hxs
  obtain ⟨σf, rf, dd⟩ := res
  have h : (rec tC_Sym_after_48_p5 σ [x0, ((x4 : Int32) + x3), (x2 + 1)]) = some (σf, rf, dd) := h
  intro p e s m args below meth c F Lo σ0 hF hLo C
  dsimp only at hF hLo ⊢
  refine ax_iadd (pc := 39) C d_Sym_after_39 ?_
  refine ax_istore_n (pc := 40) C d_Sym_after_40 rfl (Nat.le_of_ble_eq_true rfl) ([(3, .int ((x4 : Int32) + x3)), (0, .ref (u 6)), (1, .ref (w 48)), (2, .int x0), (4, .int x2)]) rfl ?_
  refine ax_iinc (pc := 41) C (x2 + 1) d_Sym_after_41 4 rfl rfl (Nat.le_of_ble_eq_true rfl) ([(4, .int (x2 + 1)), (3, .int ((x4 : Int32) + x3)), (0, .ref (u 6)), (1, .ref (w 48)), (2, .int x0)]) rfl ?_
  refine ax_goto (pc := 44) C 5 d_Sym_after_44 (by decide) ?_
  refine ax_ls ([(0, .ref (u 6)), (1, .ref (w 48)), (2, .int x0), (3, .int ((x4 : Int32) + x3)), (4, .int (x2 + 1))]) [2, 3, 4, 1, 0] rfl ?_
  have hm : sC_Sym_after_48_p5 l D kA u w tx σ [x0, ((x4 : Int32) + x3), (x2 + 1)] (σf, rf, _) := ih tC_Sym_after_48_p5 _ _ _ h
  exact hm _ _ _ rfl p e s m args below meth c F Lo σ0 hF hLo C
set_option maxHeartbeats 4000000 in
set_option maxRecDepth 100000 in
theorem oC_Sym_after_48_p47 (l : Launch) (D : va_G) (kA : Nat → ClassId) (u w : Nat → Nat) (tx : Value) (rec : mF) (ih : ∀ t σ xs res, rec t σ xs = some res → cSem l D kA u w tx t σ xs res) (σ : mS) (xs : List Int32) (res : mR) (h : u_3 (kC_Sym_after_48_p47 rec σ) xs = some res) : sC_Sym_after_48_p47 l D kA u w tx σ xs res := by
  intro x0 x1 x2 hxs
  subst hxs
  obtain ⟨σf, rf, dd⟩ := res
  have h : (some (σ, x2, 0)) = some (σf, rf, dd) := h
  intro p e s m args below meth c F Lo σ0 hF hLo C
  dsimp only at hF hLo ⊢
  refine ax_iload (pc := 47) C d_Sym_after_47 4 rfl ?_
  cases h
  exact ax_iret (pc := 49) C d_Sym_after_49 ⟨rfl, rfl⟩ (Nat.le_refl _) (Nat.le_refl _)
set_option maxHeartbeats 4000000 in
set_option maxRecDepth 100000 in
theorem oC_Sym_after_68 (l : Launch) (D : va_G) (kA : Nat → ClassId) (u w : Nat → Nat) (tx : Value) (rec : mF) (ih : ∀ t σ xs res, rec t σ xs = some res → cSem l D kA u w tx t σ xs res) (σ : mS) (xs : List Int32) (res : mR) (h : u_1 (kC_Sym_after_68 rec σ) xs = some res) : sC_Sym_after_68 l D kA u w tx σ xs res := by
  intro x0 hxs
  subst hxs
  obtain ⟨σf, rf, dd⟩ := res
  have h : (rec tC_Sym_after_68_p5 σ [x0, 1, x0]) = some (σf, rf, dd) := h
  refine ax_Mi.of (by decide +kernel) (Nat.le_of_ble_eq_true rfl) ?_
  intro p e s m args below meth c C hnm
  have C : ax_C p s m args meth c b_Sym_after "ClauseProver$Symbols" 5 (some .int) D kA (va_A (cpW kA u w tx σ) s.heap.size) := C
  obtain ⟨F, hFe⟩ : ∃ F, F = dd + 1 := ⟨_, rfl⟩
  obtain ⟨Lo, hLoe⟩ : ∃ Lo, Lo = 48 * dd + 48 := ⟨_, rfl⟩
  obtain ⟨σ0, hσ0⟩ : ∃ s0, s0 = σ := ⟨_, rfl⟩
  suffices K : AW p l e { frames := F, cells := 0, slots := 0, locals := Lo } s m args below meth c D kA (va_A (cpW kA u w tx σ0) s.heap.size) 5 (ax_Qi below args s D kA (cpW kA u w tx σ0) 0 0 (fun r w1 => r = rf ∧ w1 = cpW kA u w tx σf)) 0 [(0, .ref (u 6)), (1, .ref (u 68)), (2, .int x0)] [] (cpW kA u w tx σ) 0 0 by rw [hFe, hLoe, hσ0] at K; exact ax_ls ([(0, .ref (u 6)), (1, .ref (u 68)), (2, .int x0)]) [0, 1, 2] rfl K
  have C : ax_C p s m args meth c b_Sym_after "ClauseProver$Symbols" 5 (some .int) D kA (va_A (cpW kA u w tx σ0) s.heap.size) := by rw [hσ0]; exact C
  have hF : dd + 1 ≤ F := by omega
  have hLo : 48 * dd + 48 ≤ Lo := by omega
  clear hFe hLoe hσ0
  refine ax_iconst (pc := 0) C 1 d_Sym_after_0 (by decide +kernel) ?_
  refine ax_istore_n (pc := 1) C d_Sym_after_1 rfl (Nat.le_of_ble_eq_true rfl) ([(3, .int 1), (0, .ref (u 6)), (1, .ref (u 68)), (2, .int x0)]) rfl ?_
  refine ax_iload_n (pc := 2) C d_Sym_after_2 rfl 3 rfl ?_
  refine ax_istore (pc := 3) C d_Sym_after_3 (Nat.le_of_ble_eq_true rfl) ([(4, .int x0), (3, .int 1), (0, .ref (u 6)), (1, .ref (u 68)), (2, .int x0)]) rfl ?_
  refine ax_ls ([(0, .ref (u 6)), (1, .ref (u 68)), (2, .int x0), (3, .int 1), (4, .int x0)]) [2, 3, 4, 1, 0] rfl ?_
  have hm : sC_Sym_after_68_p5 l D kA u w tx σ [x0, 1, x0] (σf, rf, _) := ih tC_Sym_after_68_p5 _ _ _ h
  exact hm _ _ _ rfl p e s m args below meth c F Lo σ0 hF hLo C
set_option maxHeartbeats 4000000 in
set_option maxRecDepth 100000 in
theorem oC_Sym_after_68_p5 (l : Launch) (D : va_G) (kA : Nat → ClassId) (u w : Nat → Nat) (tx : Value) (rec : mF) (ih : ∀ t σ xs res, rec t σ xs = some res → cSem l D kA u w tx t σ xs res) (σ : mS) (xs : List Int32) (res : mR) (h : u_3 (kC_Sym_after_68_p5 rec σ) xs = some res) : sC_Sym_after_68_p5 l D kA u w tx σ xs res := by
  intro x0 x1 x2 hxs
  subst hxs
  obtain ⟨σf, rf, dd⟩ := res
  have h : (if (Int32.ofNat 100) ≤ x2 then (rec tC_Sym_after_68_p47 σ [x0, x1, x2]) else (if x1 ≤ 0 then (rec tC_Sym_after_68_p47 σ [x0, x1, x2]) else (if bin x2 100 = true then (if 0 ≤ (σ.2.1 68 (Int32.toNatClampNeg x2)) then (if bin x2 100 = true then (if bin (σ.2.1 68 (Int32.toNatClampNeg x2)) 551 = true then (rec tC_Sym_after_68_p39 σ [x0, x1, x2, (((σ.2.1 7 (Int32.toNatClampNeg (σ.2.1 68 (Int32.toNatClampNeg x2)))) : Int32) - 1), x1]) else none) else none) else (rec tC_Sym_after_68_p39 σ [x0, x1, x2, (-1), x1])) else none))) = some (σf, rf, dd) := h
  intro p e s m args below meth c F Lo σ0 hF hLo C
  dsimp only at hF hLo ⊢
  refine ax_iload (pc := 5) C d_Sym_after_5 4 rfl ?_
  refine ax_aload_n (pc := 7) C d_Sym_after_7 rfl 1 rfl ?_
  refine cn_68 (pc := 8) C d_Sym_after_8 ?_
  refine ax_icmp_ge (pc := 9) C 47 d_Sym_after_9 (by decide) (fun hc => ?_) (fun hc => ?_)
  · have h := it_t hc h
    refine ax_ls ([(0, .ref (u 6)), (1, .ref (u 68)), (2, .int x0), (3, .int x1), (4, .int x2)]) [0, 1, 2, 3, 4] rfl ?_
    have hm : sC_Sym_after_68_p47 l D kA u w tx σ [x0, x1, x2] (σf, rf, _) := ih tC_Sym_after_68_p47 _ _ _ h
    exact hm _ _ _ rfl p e s m args below meth c F Lo σ0 hF hLo C
  · have h := it_f hc h
    refine ax_iload_n (pc := 12) C d_Sym_after_12 rfl 3 rfl ?_
    refine ax_if_le (pc := 13) C 47 d_Sym_after_13 (by decide) (fun hc => ?_) (fun hc => ?_)
    · have h := it_t hc h
      refine ax_ls ([(0, .ref (u 6)), (1, .ref (u 68)), (2, .int x0), (3, .int x1), (4, .int x2)]) [0, 1, 2, 3, 4] rfl ?_
      have hm : sC_Sym_after_68_p47 l D kA u w tx σ [x0, x1, x2] (σf, rf, _) := ih tC_Sym_after_68_p47 _ _ _ h
      exact hm _ _ _ rfl p e s m args below meth c F Lo σ0 hF hLo C
    · have h := it_f hc h
      refine ax_iload_n (pc := 16) C d_Sym_after_16 rfl 3 rfl ?_
      refine ax_aload_n (pc := 17) C d_Sym_after_17 rfl 1 rfl ?_
      refine ax_iload (pc := 18) C d_Sym_after_18 4 rfl ?_
      obtain ⟨hb, h⟩ := it_g h
      refine cl_68 (pc := 20) C d_Sym_after_20 (bin_in hb) ?_
      refine ax_if_ge (pc := 21) C 28 d_Sym_after_21 (by decide) (fun hc => ?_) (fun hc => ?_)
      · have h := it_t hc h
        refine ax_aload_n (pc := 28) C d_Sym_after_28 rfl 0 rfl ?_
        refine cg_6_0_Sym_9 (pc := 29) C d_Sym_after_29 ?_
        refine ax_aload_n (pc := 32) C d_Sym_after_32 rfl 1 rfl ?_
        refine ax_iload (pc := 33) C d_Sym_after_33 4 rfl ?_
        obtain ⟨hb, h⟩ := it_g h
        refine cl_68 (pc := 35) C d_Sym_after_35 (bin_in hb) ?_
        obtain ⟨hb, h⟩ := it_g h
        refine cl_7 (pc := 36) C d_Sym_after_36 (bin_in hb) ?_
        refine ax_iconst (pc := 37) C 1 d_Sym_after_37 (by decide +kernel) ?_
        refine ax_isub (pc := 38) C d_Sym_after_38 ?_
        refine ax_ls ([(0, .ref (u 6)), (1, .ref (u 68)), (2, .int x0), (3, .int x1), (4, .int x2)]) [0, 1, 2, 3, 4] rfl ?_
        have hm : sC_Sym_after_68_p39 l D kA u w tx σ [x0, x1, x2, (((σ.2.1 7 (Int32.toNatClampNeg (σ.2.1 68 (Int32.toNatClampNeg x2)))) : Int32) - 1), x1] (σf, rf, _) := ih tC_Sym_after_68_p39 _ _ _ h
        exact hm _ _ _ _ _ rfl p e s m args below meth c F Lo σ0 hF hLo C
      · have h := it_f hc h
        refine ax_iconst (pc := 24) C (-1) d_Sym_after_24 (by decide +kernel) ?_
        refine ax_goto (pc := 25) C 39 d_Sym_after_25 (by decide) ?_
        refine ax_ls ([(0, .ref (u 6)), (1, .ref (u 68)), (2, .int x0), (3, .int x1), (4, .int x2)]) [0, 1, 2, 3, 4] rfl ?_
        have hm : sC_Sym_after_68_p39 l D kA u w tx σ [x0, x1, x2, (-1), x1] (σf, rf, _) := ih tC_Sym_after_68_p39 _ _ _ h
        exact hm _ _ _ _ _ rfl p e s m args below meth c F Lo σ0 hF hLo C
set_option maxHeartbeats 4000000 in
set_option maxRecDepth 100000 in
theorem oC_Sym_after_68_p39 (l : Launch) (D : va_G) (kA : Nat → ClassId) (u w : Nat → Nat) (tx : Value) (rec : mF) (ih : ∀ t σ xs res, rec t σ xs = some res → cSem l D kA u w tx t σ xs res) (σ : mS) (xs : List Int32) (res : mR) (h : u_5 (kC_Sym_after_68_p39 rec σ) xs = some res) : sC_Sym_after_68_p39 l D kA u w tx σ xs res := by
  intro x0 x1 x2 x3 x4 hxs
  subst hxs
  obtain ⟨σf, rf, dd⟩ := res
  have h : (rec tC_Sym_after_68_p5 σ [x0, ((x4 : Int32) + x3), (x2 + 1)]) = some (σf, rf, dd) := h
  intro p e s m args below meth c F Lo σ0 hF hLo C
  dsimp only at hF hLo ⊢
  refine ax_iadd (pc := 39) C d_Sym_after_39 ?_
  refine ax_istore_n (pc := 40) C d_Sym_after_40 rfl (Nat.le_of_ble_eq_true rfl) ([(3, .int ((x4 : Int32) + x3)), (0, .ref (u 6)), (1, .ref (u 68)), (2, .int x0), (4, .int x2)]) rfl ?_
  refine ax_iinc (pc := 41) C (x2 + 1) d_Sym_after_41 4 rfl rfl (Nat.le_of_ble_eq_true rfl) ([(4, .int (x2 + 1)), (3, .int ((x4 : Int32) + x3)), (0, .ref (u 6)), (1, .ref (u 68)), (2, .int x0)]) rfl ?_
  refine ax_goto (pc := 44) C 5 d_Sym_after_44 (by decide) ?_
  refine ax_ls ([(0, .ref (u 6)), (1, .ref (u 68)), (2, .int x0), (3, .int ((x4 : Int32) + x3)), (4, .int (x2 + 1))]) [2, 3, 4, 1, 0] rfl ?_
  have hm : sC_Sym_after_68_p5 l D kA u w tx σ [x0, ((x4 : Int32) + x3), (x2 + 1)] (σf, rf, _) := ih tC_Sym_after_68_p5 _ _ _ h
  exact hm _ _ _ rfl p e s m args below meth c F Lo σ0 hF hLo C
set_option maxHeartbeats 4000000 in
set_option maxRecDepth 100000 in
theorem oC_Sym_after_68_p47 (l : Launch) (D : va_G) (kA : Nat → ClassId) (u w : Nat → Nat) (tx : Value) (rec : mF) (ih : ∀ t σ xs res, rec t σ xs = some res → cSem l D kA u w tx t σ xs res) (σ : mS) (xs : List Int32) (res : mR) (h : u_3 (kC_Sym_after_68_p47 rec σ) xs = some res) : sC_Sym_after_68_p47 l D kA u w tx σ xs res := by
  intro x0 x1 x2 hxs
  subst hxs
  obtain ⟨σf, rf, dd⟩ := res
  have h : (some (σ, x2, 0)) = some (σf, rf, dd) := h
  intro p e s m args below meth c F Lo σ0 hF hLo C
  dsimp only at hF hLo ⊢
  refine ax_iload (pc := 47) C d_Sym_after_47 4 rfl ?_
  cases h
  exact ax_iret (pc := 49) C d_Sym_after_49 ⟨rfl, rfl⟩ (Nat.le_refl _) (Nat.le_refl _)
set_option maxHeartbeats 4000000 in
set_option maxRecDepth 100000 in
theorem oC_Sym_clear (l : Launch) (D : va_G) (kA : Nat → ClassId) (u w : Nat → Nat) (tx : Value) (rec : mF) (ih : ∀ t σ xs res, rec t σ xs = some res → cSem l D kA u w tx t σ xs res) (σ : mS) (xs : List Int32) (res : mR) (h : u_0 (kC_Sym_clear rec σ) xs = some res) : sC_Sym_clear l D kA u w tx σ xs res := by
  intro hxs
  subst hxs
  obtain ⟨σf, rf, dd⟩ := res
  have h : (lt_ (mI σ 604 0) (fun σ1 => lt_ (mI σ1 605 1) (fun σ2 => lt_ (mI σ2 1001 0) (fun σ3 => some (σ3, 0, 0))))) = some (σf, rf, dd) := h
  refine ax_Mv.of (by decide +kernel) (Nat.le_of_ble_eq_true rfl) ?_
  intro p e s m args below meth c C hnm
  have C : ax_C p s m args meth c b_Sym_clear "ClauseProver$Symbols" 1 none D kA (va_A (cpW kA u w tx σ) s.heap.size) := C
  obtain ⟨F, hFe⟩ : ∃ F, F = dd + 1 := ⟨_, rfl⟩
  obtain ⟨Lo, hLoe⟩ : ∃ Lo, Lo = 48 * dd + 48 := ⟨_, rfl⟩
  obtain ⟨σ0, hσ0⟩ : ∃ s0, s0 = σ := ⟨_, rfl⟩
  suffices K : AW p l e { frames := F, cells := 0, slots := 0, locals := Lo } s m args below meth c D kA (va_A (cpW kA u w tx σ0) s.heap.size) 1 (ax_Qv below args s D kA (cpW kA u w tx σ0) 0 0 (fun w1 => w1 = cpW kA u w tx σf)) 0 [(0, .ref (u 6))] [] (cpW kA u w tx σ) 0 0 by rw [hFe, hLoe, hσ0] at K; exact ax_ls ([(0, .ref (u 6))]) [0] rfl K
  have C : ax_C p s m args meth c b_Sym_clear "ClauseProver$Symbols" 1 none D kA (va_A (cpW kA u w tx σ0) s.heap.size) := by rw [hσ0]; exact C
  have hF : dd + 1 ≤ F := by omega
  have hLo : 48 * dd + 48 ≤ Lo := by omega
  clear hFe hLoe hσ0
  refine ax_aload_n (pc := 0) C d_Sym_clear_0 rfl 0 rfl ?_
  refine ax_iconst (pc := 1) C 0 d_Sym_clear_1 (by decide +kernel) ?_
  refine cq_6_4_Sym_40 (pc := 2) C d_Sym_clear_2 ?_
  have h := it_l h
  generalize mI σ 604 0 = σ1 at h ⊢
  refine ax_aload_n (pc := 5) C d_Sym_clear_5 rfl 0 rfl ?_
  refine ax_iconst (pc := 6) C 1 d_Sym_clear_6 (by decide +kernel) ?_
  refine cq_6_5_Sym_36 (pc := 7) C d_Sym_clear_7 ?_
  have h := it_l h
  generalize mI σ1 605 1 = σ2 at h ⊢
  refine ax_aload_n (pc := 10) C d_Sym_clear_10 rfl 0 rfl ?_
  refine cg_6_3_Sym_26 (pc := 11) C d_Sym_clear_11 ?_
  refine ax_iconst (pc := 14) C 0 d_Sym_clear_14 (by decide +kernel) ?_
  refine cq_10_1_Sym_43 (pc := 15) C d_Sym_clear_15 ?_
  have h := it_l h
  generalize mI σ2 1001 0 = σ3 at h ⊢
  cases h
  exact ax_vret (pc := 18) C d_Sym_clear_18 rfl (Nat.le_refl _) (Nat.le_refl _)
set_option maxHeartbeats 4000000 in
set_option maxRecDepth 100000 in
theorem oC_Sym_greater_40_68 (l : Launch) (D : va_G) (kA : Nat → ClassId) (u w : Nat → Nat) (tx : Value) (rec : mF) (ih : ∀ t σ xs res, rec t σ xs = some res → cSem l D kA u w tx t σ xs res) (σ : mS) (xs : List Int32) (res : mR) (h : u_2 (kC_Sym_greater_40_68 rec σ) xs = some res) : sC_Sym_greater_40_68 l D kA u w tx σ xs res := by
  intro x0 x1 hxs
  subst hxs
  obtain ⟨σf, rf, dd⟩ := res
  have h : (rec tC_Sym_greater_40_68_p10 σ [x0, x1, x0, x1, 0]) = some (σf, rf, dd) := h
  refine ax_Mi.of (by decide +kernel) (Nat.le_of_ble_eq_true rfl) ?_
  intro p e s m args below meth c C hnm
  have C : ax_C p s m args meth c b_Sym_greater "ClauseProver$Symbols" 11 (some .boolean) D kA (va_A (cpW kA u w tx σ) s.heap.size) := C
  obtain ⟨F, hFe⟩ : ∃ F, F = dd + 1 := ⟨_, rfl⟩
  obtain ⟨Lo, hLoe⟩ : ∃ Lo, Lo = 48 * dd + 48 := ⟨_, rfl⟩
  obtain ⟨σ0, hσ0⟩ : ∃ s0, s0 = σ := ⟨_, rfl⟩
  suffices K : AW p l e { frames := F, cells := 0, slots := 0, locals := Lo } s m args below meth c D kA (va_A (cpW kA u w tx σ0) s.heap.size) 11 (ax_Qi below args s D kA (cpW kA u w tx σ0) 0 0 (fun r w1 => r = rf ∧ w1 = cpW kA u w tx σf)) 0 [(0, .ref (u 6)), (1, .ref (u 40)), (2, .int x0), (3, .ref (u 68)), (4, .int x1)] [] (cpW kA u w tx σ) 0 0 by rw [hFe, hLoe, hσ0] at K; exact ax_ls ([(0, .ref (u 6)), (1, .ref (u 40)), (2, .int x0), (3, .ref (u 68)), (4, .int x1)]) [0, 1, 2, 3, 4] rfl K
  have C : ax_C p s m args meth c b_Sym_greater "ClauseProver$Symbols" 11 (some .boolean) D kA (va_A (cpW kA u w tx σ0) s.heap.size) := by rw [hσ0]; exact C
  have hF : dd + 1 ≤ F := by omega
  have hLo : 48 * dd + 48 ≤ Lo := by omega
  clear hFe hLoe hσ0
  refine ax_iload_n (pc := 0) C d_Sym_greater_0 rfl 2 rfl ?_
  refine ax_istore (pc := 1) C d_Sym_greater_1 (Nat.le_of_ble_eq_true rfl) ([(5, .int x0), (0, .ref (u 6)), (1, .ref (u 40)), (2, .int x0), (3, .ref (u 68)), (4, .int x1)]) rfl ?_
  refine ax_iload (pc := 3) C d_Sym_greater_3 5 rfl ?_
  refine ax_istore (pc := 5) C d_Sym_greater_5 (Nat.le_of_ble_eq_true rfl) ([(6, .int x1), (5, .int x0), (0, .ref (u 6)), (1, .ref (u 40)), (2, .int x0), (3, .ref (u 68)), (4, .int x1)]) rfl ?_
  refine ax_iconst (pc := 7) C 0 d_Sym_greater_7 (by decide +kernel) ?_
  refine ax_istore (pc := 8) C d_Sym_greater_8 (Nat.le_of_ble_eq_true rfl) ([(7, .int 0), (6, .int x1), (5, .int x0), (0, .ref (u 6)), (1, .ref (u 40)), (2, .int x0), (3, .ref (u 68)), (4, .int x1)]) rfl ?_
  refine ax_ls ([(0, .ref (u 6)), (1, .ref (u 40)), (2, .int x0), (3, .ref (u 68)), (4, .int x1), (5, .int x0), (6, .int x1), (7, .int 0)]) [3, 4, 5, 6, 7, 2, 1, 0] rfl ?_
  have hm : sC_Sym_greater_40_68_p10 l D kA u w tx σ [x0, x1, x0, x1, 0] (σf, rf, _) := ih tC_Sym_greater_40_68_p10 _ _ _ h
  exact hm _ _ _ _ _ rfl p e s m args below meth c F Lo σ0 hF hLo C
set_option maxHeartbeats 4000000 in
set_option maxRecDepth 100000 in
theorem oC_Sym_greater_40_68_p10 (l : Launch) (D : va_G) (kA : Nat → ClassId) (u w : Nat → Nat) (tx : Value) (rec : mF) (ih : ∀ t σ xs res, rec t σ xs = some res → cSem l D kA u w tx t σ xs res) (σ : mS) (xs : List Int32) (res : mR) (h : u_5 (kC_Sym_greater_40_68_p10 rec σ) xs = some res) : sC_Sym_greater_40_68_p10 l D kA u w tx σ xs res := by
  intro x0 x1 x2 x3 x4 hxs
  subst hxs
  obtain ⟨σf, rf, dd⟩ := res
  have h : (if 100 < x4 then (some (σ, 0, 0)) else (bnd (rec tC_Sym_after_40 σ [x2]) (fun σ1 r1 => bnd (rec tC_Sym_after_68 σ1 [x3]) (fun σ2 r2 => if bin x2 100 = true then (if (σ2.2.1 40 (Int32.toNatClampNeg x2)) < 0 then (rec tC_Sym_greater_40_68_p72 σ2 [x0, x1, x2, x3, x4, ((r1 : Int32) - x2), ((r2 : Int32) - x3)]) else (if ((r1 : Int32) - x2) < ((r2 : Int32) - x3) then (rec tC_Sym_greater_40_68_p72 σ2 [x0, x1, x2, x3, x4, ((r1 : Int32) - x2), ((r2 : Int32) - x3)]) else (bnd (rec tC_Sym_hasAllVariables_40_68 σ2 [x2, ((r1 : Int32) - x2), x3, ((r2 : Int32) - x3)]) (fun σ3 r3 => if r3 = 0 then (rec tC_Sym_greater_40_68_p72 σ3 [x0, x1, x2, x3, x4, ((r1 : Int32) - x2), ((r2 : Int32) - x3)]) else (if ((r1 : Int32) - x2) ≤ ((r2 : Int32) - x3) then (if bin x2 100 = true then (if bin x3 100 = true then (if (σ3.2.1 40 (Int32.toNatClampNeg x2)) = (σ3.2.1 68 (Int32.toNatClampNeg x3)) then (bnd (rec tC_Sym_toDifference_40_68 σ3 [x2, x3, ((r1 : Int32) - x2)]) (fun σ4 r4 => if r4 = 0 then (some (σ4, 0, 0)) else (rec tC_Sym_greater_40_68_p10 σ4 [x0, x1, ((x2 : Int32) + r4), ((x3 : Int32) + r4), (x4 + 1)]))) else (if bin x2 100 = true then (if bin x3 100 = true then (if (σ3.2.1 40 (Int32.toNatClampNeg x2)) ≤ (σ3.2.1 68 (Int32.toNatClampNeg x3)) then (rec tC_Sym_greater_40_68_p110 σ3 [x0, x1, x2, x3, x4, ((r1 : Int32) - x2), ((r2 : Int32) - x3), 0]) else (rec tC_Sym_greater_40_68_p110 σ3 [x0, x1, x2, x3, x4, ((r1 : Int32) - x2), ((r2 : Int32) - x3), 1])) else none) else none)) else none) else none) else (some (σ3, 1, 0))))))) else none)))) = some (σf, rf, dd) := h
  intro p e s m args below meth c F Lo σ0 hF hLo C
  dsimp only at hF hLo ⊢
  refine ax_iload (pc := 10) C d_Sym_greater_10 7 rfl ?_
  refine ax_bipush (pc := 12) C 100 d_Sym_greater_12 (by decide +kernel) ?_
  refine ax_icmp_gt (pc := 14) C 152 d_Sym_greater_14 (by decide) (fun hc => ?_) (fun hc => ?_)
  · have h := it_t hc h
    refine ax_iconst (pc := 152) C 0 d_Sym_greater_152 (by decide +kernel) ?_
    cases h
    exact ax_zret (pc := 153) C d_Sym_greater_153 rfl ⟨rfl, rfl⟩ (Nat.le_refl _) (Nat.le_refl _)
  · have h := it_f hc h
    refine ax_aload_n (pc := 17) C d_Sym_greater_17 rfl 0 rfl ?_
    refine ax_aload_n (pc := 18) C d_Sym_greater_18 rfl 1 rfl ?_
    refine ax_iload (pc := 19) C d_Sym_greater_19 5 rfl ?_
    obtain ⟨σ1, r1, d1_1, d2_1, h1, h, hd2, hd1⟩ := it_b h
    have hm : sC_Sym_after_40 l D kA u w tx σ [x2] (σ1, r1, d1_1) := ih tC_Sym_after_40 _ _ _ h1
    refine cc_Vi (pc := 21) C (r0 := r1) (σ2 := σ1) (As := [.ref (u 40), .int x2]) (rest := []) (hm _ rfl) ml_Sym_59 6 rfl rfl rfl d_Sym_greater_21 rfl rfl (by dsimp only; omega) (by dsimp only; omega) (Nat.le_of_ble_eq_true rfl) (Nat.le_of_ble_eq_true rfl) (Nat.le_of_ble_eq_true rfl) ?_
    have hF : d2_1 + 1 ≤ F := by omega
    have hLo : 48 * d2_1 + 48 ≤ Lo := by omega
    refine ax_iload (pc := 24) C d_Sym_greater_24 5 rfl ?_
    refine ax_isub (pc := 26) C d_Sym_greater_26 ?_
    refine ax_istore (pc := 27) C d_Sym_greater_27 (Nat.le_of_ble_eq_true rfl) ([(8, .int ((r1 : Int32) - x2)), (0, .ref (u 6)), (1, .ref (u 40)), (2, .int x0), (3, .ref (u 68)), (4, .int x1), (5, .int x2), (6, .int x3), (7, .int x4)]) rfl ?_
    refine ax_aload_n (pc := 29) C d_Sym_greater_29 rfl 1 rfl ?_
    refine ax_aload_n (pc := 30) C d_Sym_greater_30 rfl 4 rfl ?_
    refine ax_iload (pc := 31) C d_Sym_greater_31 7 rfl ?_
    obtain ⟨σ2, r2, d1_2, d2_2, h1, h, hd2, hd1⟩ := it_b h
    have hm : sC_Sym_after_68 l D kA u w tx σ1 [x3] (σ2, r2, d1_2) := ih tC_Sym_after_68 _ _ _ h1
    refine cc_Vi (pc := 33) C (r0 := r2) (σ2 := σ2) (As := [.ref (u 68), .int x3]) (rest := []) (hm _ rfl) ml_Sym_59 6 rfl rfl rfl d_Sym_greater_33 rfl rfl (by dsimp only; omega) (by dsimp only; omega) (Nat.le_of_ble_eq_true rfl) (Nat.le_of_ble_eq_true rfl) (Nat.le_of_ble_eq_true rfl) ?_
    have hF : d2_2 + 1 ≤ F := by omega
    have hLo : 48 * d2_2 + 48 ≤ Lo := by omega
    refine ax_iload (pc := 36) C d_Sym_greater_36 7 rfl ?_
    refine ax_isub (pc := 38) C d_Sym_greater_38 ?_
    refine ax_istore (pc := 39) C d_Sym_greater_39 (Nat.le_of_ble_eq_true rfl) ([(9, .int ((r2 : Int32) - x3)), (8, .int ((r1 : Int32) - x2)), (0, .ref (u 6)), (1, .ref (u 40)), (2, .int x0), (3, .ref (u 68)), (4, .int x1), (5, .int x2), (6, .int x3), (7, .int x4)]) rfl ?_
    refine ax_aload_n (pc := 41) C d_Sym_greater_41 rfl 3 rfl ?_
    refine ax_iload (pc := 42) C d_Sym_greater_42 7 rfl ?_
    obtain ⟨hb, h⟩ := it_g h
    refine cl_40 (pc := 44) C d_Sym_greater_44 (bin_in hb) ?_
    refine ax_if_lt (pc := 45) C 72 d_Sym_greater_45 (by decide) (fun hc => ?_) (fun hc => ?_)
    · have h := it_t hc h
      refine ax_ls ([(0, .ref (u 6)), (1, .ref (u 40)), (2, .int x0), (3, .ref (u 68)), (4, .int x1), (5, .int x2), (6, .int x3), (7, .int x4), (8, .int ((r1 : Int32) - x2)), (9, .int ((r2 : Int32) - x3))]) [2, 3, 4, 5, 6, 7, 8, 9, 1, 0] rfl ?_
      have hm : sC_Sym_greater_40_68_p72 l D kA u w tx σ2 [x0, x1, x2, x3, x4, ((r1 : Int32) - x2), ((r2 : Int32) - x3)] (σf, rf, _) := ih tC_Sym_greater_40_68_p72 _ _ _ h
      exact hm _ _ _ _ _ _ _ rfl p e s m args below meth c F Lo σ0 hF hLo C
    · have h := it_f hc h
      refine ax_iload (pc := 48) C d_Sym_greater_48 1 rfl ?_
      refine ax_iload (pc := 50) C d_Sym_greater_50 0 rfl ?_
      refine ax_icmp_lt (pc := 52) C 72 d_Sym_greater_52 (by decide) (fun hc => ?_) (fun hc => ?_)
      · have h := it_t hc h
        refine ax_ls ([(0, .ref (u 6)), (1, .ref (u 40)), (2, .int x0), (3, .ref (u 68)), (4, .int x1), (5, .int x2), (6, .int x3), (7, .int x4), (8, .int ((r1 : Int32) - x2)), (9, .int ((r2 : Int32) - x3))]) [2, 3, 4, 5, 6, 7, 8, 9, 1, 0] rfl ?_
        have hm : sC_Sym_greater_40_68_p72 l D kA u w tx σ2 [x0, x1, x2, x3, x4, ((r1 : Int32) - x2), ((r2 : Int32) - x3)] (σf, rf, _) := ih tC_Sym_greater_40_68_p72 _ _ _ h
        exact hm _ _ _ _ _ _ _ rfl p e s m args below meth c F Lo σ0 hF hLo C
      · have h := it_f hc h
        refine ax_aload_n (pc := 55) C d_Sym_greater_55 rfl 2 rfl ?_
        refine ax_aload_n (pc := 56) C d_Sym_greater_56 rfl 3 rfl ?_
        refine ax_iload (pc := 57) C d_Sym_greater_57 7 rfl ?_
        refine ax_iload (pc := 59) C d_Sym_greater_59 1 rfl ?_
        refine ax_aload_n (pc := 61) C d_Sym_greater_61 rfl 5 rfl ?_
        refine ax_iload (pc := 62) C d_Sym_greater_62 8 rfl ?_
        refine ax_iload (pc := 64) C d_Sym_greater_64 0 rfl ?_
        obtain ⟨σ3, r3, d1_3, d2_3, h1, h, hd2, hd1⟩ := it_b h
        have hm : sC_Sym_hasAllVariables_40_68 l D kA u w tx σ2 [x2, ((r1 : Int32) - x2), x3, ((r2 : Int32) - x3)] (σ3, r3, d1_3) := ih tC_Sym_hasAllVariables_40_68 _ _ _ h1
        refine cc_Vi (pc := 66) C (r0 := r3) (σ2 := σ3) (As := [.ref (u 40), .int x2, .int ((r1 : Int32) - x2), .ref (u 68), .int x3, .int ((r2 : Int32) - x3)]) (rest := []) (hm _ _ _ _ rfl) ml_Sym_63 6 rfl rfl rfl d_Sym_greater_66 rfl rfl (by dsimp only; omega) (by dsimp only; omega) (Nat.le_of_ble_eq_true rfl) (Nat.le_of_ble_eq_true rfl) (Nat.le_of_ble_eq_true rfl) ?_
        have hF : d2_3 + 1 ≤ F := by omega
        have hLo : 48 * d2_3 + 48 ≤ Lo := by omega
        refine ax_if_ne (pc := 69) C 74 d_Sym_greater_69 (by decide) (fun hc => ?_) (fun hc => ?_)
        · have h := it_f hc h
          refine ax_iload (pc := 74) C d_Sym_greater_74 1 rfl ?_
          refine ax_iload (pc := 76) C d_Sym_greater_76 0 rfl ?_
          refine ax_icmp_le (pc := 78) C 83 d_Sym_greater_78 (by decide) (fun hc => ?_) (fun hc => ?_)
          · have h := it_t hc h
            refine ax_aload_n (pc := 83) C d_Sym_greater_83 rfl 3 rfl ?_
            refine ax_iload (pc := 84) C d_Sym_greater_84 7 rfl ?_
            obtain ⟨hb, h⟩ := it_g h
            refine cl_40 (pc := 86) C d_Sym_greater_86 (bin_in hb) ?_
            refine ax_aload_n (pc := 87) C d_Sym_greater_87 rfl 5 rfl ?_
            refine ax_iload (pc := 88) C d_Sym_greater_88 8 rfl ?_
            obtain ⟨hb, h⟩ := it_g h
            refine cl_68 (pc := 90) C d_Sym_greater_90 (bin_in hb) ?_
            refine ax_icmp_eq (pc := 91) C 111 d_Sym_greater_91 (by decide) (fun hc => ?_) (fun hc => ?_)
            · have h := it_t hc h
              refine ax_aload_n (pc := 111) C d_Sym_greater_111 rfl 2 rfl ?_
              refine ax_aload_n (pc := 112) C d_Sym_greater_112 rfl 3 rfl ?_
              refine ax_iload (pc := 113) C d_Sym_greater_113 7 rfl ?_
              refine ax_aload_n (pc := 115) C d_Sym_greater_115 rfl 5 rfl ?_
              refine ax_iload (pc := 116) C d_Sym_greater_116 8 rfl ?_
              refine ax_iload (pc := 118) C d_Sym_greater_118 1 rfl ?_
              obtain ⟨σ4, r4, d1_4, d2_4, h1, h, hd2, hd1⟩ := it_b h
              have hm : sC_Sym_toDifference_40_68 l D kA u w tx σ3 [x2, x3, ((r1 : Int32) - x2)] (σ4, r4, d1_4) := ih tC_Sym_toDifference_40_68 _ _ _ h1
              refine cc_Vi (pc := 120) C (r0 := r4) (σ2 := σ4) (As := [.ref (u 40), .int x2, .ref (u 68), .int x3, .int ((r1 : Int32) - x2)]) (rest := []) (hm _ _ _ rfl) ml_Sym_67 6 rfl rfl rfl d_Sym_greater_120 rfl rfl (by dsimp only; omega) (by dsimp only; omega) (Nat.le_of_ble_eq_true rfl) (Nat.le_of_ble_eq_true rfl) (Nat.le_of_ble_eq_true rfl) ?_
              have hF : d2_4 + 1 ≤ F := by omega
              have hLo : 48 * d2_4 + 48 ≤ Lo := by omega
              refine ax_istore (pc := 123) C d_Sym_greater_123 (Nat.le_of_ble_eq_true rfl) ([(10, .int r4), (9, .int ((r2 : Int32) - x3)), (8, .int ((r1 : Int32) - x2)), (0, .ref (u 6)), (1, .ref (u 40)), (2, .int x0), (3, .ref (u 68)), (4, .int x1), (5, .int x2), (6, .int x3), (7, .int x4)]) rfl ?_
              refine ax_iload (pc := 125) C d_Sym_greater_125 0 rfl ?_
              refine ax_if_ne (pc := 127) C 132 d_Sym_greater_127 (by decide) (fun hc => ?_) (fun hc => ?_)
              · have h := it_f hc h
                refine ax_iload (pc := 132) C d_Sym_greater_132 8 rfl ?_
                refine ax_iload (pc := 134) C d_Sym_greater_134 0 rfl ?_
                refine ax_iadd (pc := 136) C d_Sym_greater_136 ?_
                refine ax_istore (pc := 137) C d_Sym_greater_137 (Nat.le_of_ble_eq_true rfl) ([(5, .int ((x2 : Int32) + r4)), (10, .int r4), (9, .int ((r2 : Int32) - x3)), (8, .int ((r1 : Int32) - x2)), (0, .ref (u 6)), (1, .ref (u 40)), (2, .int x0), (3, .ref (u 68)), (4, .int x1), (6, .int x3), (7, .int x4)]) rfl ?_
                refine ax_iload (pc := 139) C d_Sym_greater_139 9 rfl ?_
                refine ax_iload (pc := 141) C d_Sym_greater_141 1 rfl ?_
                refine ax_iadd (pc := 143) C d_Sym_greater_143 ?_
                refine ax_istore (pc := 144) C d_Sym_greater_144 (Nat.le_of_ble_eq_true rfl) ([(6, .int ((x3 : Int32) + r4)), (5, .int ((x2 : Int32) + r4)), (10, .int r4), (9, .int ((r2 : Int32) - x3)), (8, .int ((r1 : Int32) - x2)), (0, .ref (u 6)), (1, .ref (u 40)), (2, .int x0), (3, .ref (u 68)), (4, .int x1), (7, .int x4)]) rfl ?_
                refine ax_iinc (pc := 146) C (x4 + 1) d_Sym_greater_146 10 rfl rfl (Nat.le_of_ble_eq_true rfl) ([(7, .int (x4 + 1)), (6, .int ((x3 : Int32) + r4)), (5, .int ((x2 : Int32) + r4)), (10, .int r4), (9, .int ((r2 : Int32) - x3)), (8, .int ((r1 : Int32) - x2)), (0, .ref (u 6)), (1, .ref (u 40)), (2, .int x0), (3, .ref (u 68)), (4, .int x1)]) rfl ?_
                refine ax_goto (pc := 149) C 10 d_Sym_greater_149 (by decide) ?_
                refine ax_ls ([(0, .ref (u 6)), (1, .ref (u 40)), (2, .int x0), (3, .ref (u 68)), (4, .int x1), (5, .int ((x2 : Int32) + r4)), (6, .int ((x3 : Int32) + r4)), (7, .int (x4 + 1))]) [6, 7, 8, 9, 10, 2, 1, 0] rfl ?_
                have hm : sC_Sym_greater_40_68_p10 l D kA u w tx σ4 [x0, x1, ((x2 : Int32) + r4), ((x3 : Int32) + r4), (x4 + 1)] (σf, rf, _) := ih tC_Sym_greater_40_68_p10 _ _ _ h
                exact hm _ _ _ _ _ rfl p e s m args below meth c F Lo σ0 hF hLo C
              · have h := it_t hc h
                refine ax_iconst (pc := 130) C 0 d_Sym_greater_130 (by decide +kernel) ?_
                cases h
                exact ax_zret (pc := 131) C d_Sym_greater_131 rfl ⟨rfl, rfl⟩ (Nat.le_refl _) (Nat.le_refl _)
            · have h := it_f hc h
              refine ax_aload_n (pc := 94) C d_Sym_greater_94 rfl 3 rfl ?_
              refine ax_iload (pc := 95) C d_Sym_greater_95 7 rfl ?_
              obtain ⟨hb, h⟩ := it_g h
              refine cl_40 (pc := 97) C d_Sym_greater_97 (bin_in hb) ?_
              refine ax_aload_n (pc := 98) C d_Sym_greater_98 rfl 5 rfl ?_
              refine ax_iload (pc := 99) C d_Sym_greater_99 8 rfl ?_
              obtain ⟨hb, h⟩ := it_g h
              refine cl_68 (pc := 101) C d_Sym_greater_101 (bin_in hb) ?_
              refine ax_icmp_le (pc := 102) C 109 d_Sym_greater_102 (by decide) (fun hc => ?_) (fun hc => ?_)
              · have h := it_t hc h
                refine ax_iconst (pc := 109) C 0 d_Sym_greater_109 (by decide +kernel) ?_
                refine ax_ls ([(0, .ref (u 6)), (1, .ref (u 40)), (2, .int x0), (3, .ref (u 68)), (4, .int x1), (5, .int x2), (6, .int x3), (7, .int x4), (8, .int ((r1 : Int32) - x2)), (9, .int ((r2 : Int32) - x3))]) [2, 3, 4, 5, 6, 7, 8, 9, 1, 0] rfl ?_
                have hm : sC_Sym_greater_40_68_p110 l D kA u w tx σ3 [x0, x1, x2, x3, x4, ((r1 : Int32) - x2), ((r2 : Int32) - x3), 0] (σf, rf, _) := ih tC_Sym_greater_40_68_p110 _ _ _ h
                exact hm _ _ _ _ _ _ _ _ rfl p e s m args below meth c F Lo σ0 hF hLo C
              · have h := it_f hc h
                refine ax_iconst (pc := 105) C 1 d_Sym_greater_105 (by decide +kernel) ?_
                refine ax_goto (pc := 106) C 110 d_Sym_greater_106 (by decide) ?_
                refine ax_ls ([(0, .ref (u 6)), (1, .ref (u 40)), (2, .int x0), (3, .ref (u 68)), (4, .int x1), (5, .int x2), (6, .int x3), (7, .int x4), (8, .int ((r1 : Int32) - x2)), (9, .int ((r2 : Int32) - x3))]) [2, 3, 4, 5, 6, 7, 8, 9, 1, 0] rfl ?_
                have hm : sC_Sym_greater_40_68_p110 l D kA u w tx σ3 [x0, x1, x2, x3, x4, ((r1 : Int32) - x2), ((r2 : Int32) - x3), 1] (σf, rf, _) := ih tC_Sym_greater_40_68_p110 _ _ _ h
                exact hm _ _ _ _ _ _ _ _ rfl p e s m args below meth c F Lo σ0 hF hLo C
          · have h := it_f hc h
            refine ax_iconst (pc := 81) C 1 d_Sym_greater_81 (by decide +kernel) ?_
            cases h
            exact ax_zret (pc := 82) C d_Sym_greater_82 rfl ⟨rfl, rfl⟩ (Nat.le_refl _) (Nat.le_refl _)
        · have h := it_t hc h
          refine ax_ls ([(0, .ref (u 6)), (1, .ref (u 40)), (2, .int x0), (3, .ref (u 68)), (4, .int x1), (5, .int x2), (6, .int x3), (7, .int x4), (8, .int ((r1 : Int32) - x2)), (9, .int ((r2 : Int32) - x3))]) [2, 3, 4, 5, 6, 7, 8, 9, 1, 0] rfl ?_
          have hm : sC_Sym_greater_40_68_p72 l D kA u w tx σ3 [x0, x1, x2, x3, x4, ((r1 : Int32) - x2), ((r2 : Int32) - x3)] (σf, rf, _) := ih tC_Sym_greater_40_68_p72 _ _ _ h
          exact hm _ _ _ _ _ _ _ rfl p e s m args below meth c F Lo σ0 hF hLo C
set_option maxHeartbeats 4000000 in
set_option maxRecDepth 100000 in
theorem oC_Sym_greater_40_68_p72 (l : Launch) (D : va_G) (kA : Nat → ClassId) (u w : Nat → Nat) (tx : Value) (rec : mF) (ih : ∀ t σ xs res, rec t σ xs = some res → cSem l D kA u w tx t σ xs res) (σ : mS) (xs : List Int32) (res : mR) (h : u_7 (kC_Sym_greater_40_68_p72 rec σ) xs = some res) : sC_Sym_greater_40_68_p72 l D kA u w tx σ xs res := by
  intro x0 x1 x2 x3 x4 x5 x6 hxs
  subst hxs
  obtain ⟨σf, rf, dd⟩ := res
  have h : (some (σ, 0, 0)) = some (σf, rf, dd) := h
  intro p e s m args below meth c F Lo σ0 hF hLo C
  dsimp only at hF hLo ⊢
  refine ax_iconst (pc := 72) C 0 d_Sym_greater_72 (by decide +kernel) ?_
  cases h
  exact ax_zret (pc := 73) C d_Sym_greater_73 rfl ⟨rfl, rfl⟩ (Nat.le_refl _) (Nat.le_refl _)
set_option maxHeartbeats 4000000 in
set_option maxRecDepth 100000 in
theorem oC_Sym_greater_40_68_p110 (l : Launch) (D : va_G) (kA : Nat → ClassId) (u w : Nat → Nat) (tx : Value) (rec : mF) (ih : ∀ t σ xs res, rec t σ xs = some res → cSem l D kA u w tx t σ xs res) (σ : mS) (xs : List Int32) (res : mR) (h : u_8 (kC_Sym_greater_40_68_p110 rec σ) xs = some res) : sC_Sym_greater_40_68_p110 l D kA u w tx σ xs res := by
  intro x0 x1 x2 x3 x4 x5 x6 x7 hxs
  subst hxs
  obtain ⟨σf, rf, dd⟩ := res
  have h : (if x7 = 0 ∨ x7 = 1 then some (σ, x7, 0) else none) = some (σf, rf, dd) := h
  intro p e s m args below meth c F Lo σ0 hF hLo C
  dsimp only at hF hLo ⊢
  obtain ⟨hb, h⟩ := it_g h
  cases h
  exact ax_zret (pc := 110) C d_Sym_greater_110 (nb01 hb) ⟨rfl, rfl⟩ (Nat.le_refl _) (Nat.le_refl _)
set_option maxHeartbeats 4000000 in
set_option maxRecDepth 100000 in
theorem oC_Sym_greater_48_48 (l : Launch) (D : va_G) (kA : Nat → ClassId) (u w : Nat → Nat) (tx : Value) (rec : mF) (ih : ∀ t σ xs res, rec t σ xs = some res → cSem l D kA u w tx t σ xs res) (σ : mS) (xs : List Int32) (res : mR) (h : u_2 (kC_Sym_greater_48_48 rec σ) xs = some res) : sC_Sym_greater_48_48 l D kA u w tx σ xs res := by
  intro x0 x1 hxs
  subst hxs
  obtain ⟨σf, rf, dd⟩ := res
  have h : (rec tC_Sym_greater_48_48_p10 σ [x0, x1, x0, x1, 0]) = some (σf, rf, dd) := h
  refine ax_Mi.of (by decide +kernel) (Nat.le_of_ble_eq_true rfl) ?_
  intro p e s m args below meth c C hnm
  have C : ax_C p s m args meth c b_Sym_greater "ClauseProver$Symbols" 11 (some .boolean) D kA (va_A (cpW kA u w tx σ) s.heap.size) := C
  obtain ⟨F, hFe⟩ : ∃ F, F = dd + 1 := ⟨_, rfl⟩
  obtain ⟨Lo, hLoe⟩ : ∃ Lo, Lo = 48 * dd + 48 := ⟨_, rfl⟩
  obtain ⟨σ0, hσ0⟩ : ∃ s0, s0 = σ := ⟨_, rfl⟩
  suffices K : AW p l e { frames := F, cells := 0, slots := 0, locals := Lo } s m args below meth c D kA (va_A (cpW kA u w tx σ0) s.heap.size) 11 (ax_Qi below args s D kA (cpW kA u w tx σ0) 0 0 (fun r w1 => r = rf ∧ w1 = cpW kA u w tx σf)) 0 [(0, .ref (u 6)), (1, .ref (w 48)), (2, .int x0), (3, .ref (w 48)), (4, .int x1)] [] (cpW kA u w tx σ) 0 0 by rw [hFe, hLoe, hσ0] at K; exact ax_ls ([(0, .ref (u 6)), (1, .ref (w 48)), (2, .int x0), (3, .ref (w 48)), (4, .int x1)]) [0, 1, 2, 3, 4] rfl K
  have C : ax_C p s m args meth c b_Sym_greater "ClauseProver$Symbols" 11 (some .boolean) D kA (va_A (cpW kA u w tx σ0) s.heap.size) := by rw [hσ0]; exact C
  have hF : dd + 1 ≤ F := by omega
  have hLo : 48 * dd + 48 ≤ Lo := by omega
  clear hFe hLoe hσ0
  refine ax_iload_n (pc := 0) C d_Sym_greater_0 rfl 2 rfl ?_
  refine ax_istore (pc := 1) C d_Sym_greater_1 (Nat.le_of_ble_eq_true rfl) ([(5, .int x0), (0, .ref (u 6)), (1, .ref (w 48)), (2, .int x0), (3, .ref (w 48)), (4, .int x1)]) rfl ?_
  refine ax_iload (pc := 3) C d_Sym_greater_3 5 rfl ?_
  refine ax_istore (pc := 5) C d_Sym_greater_5 (Nat.le_of_ble_eq_true rfl) ([(6, .int x1), (5, .int x0), (0, .ref (u 6)), (1, .ref (w 48)), (2, .int x0), (3, .ref (w 48)), (4, .int x1)]) rfl ?_
  refine ax_iconst (pc := 7) C 0 d_Sym_greater_7 (by decide +kernel) ?_
  refine ax_istore (pc := 8) C d_Sym_greater_8 (Nat.le_of_ble_eq_true rfl) ([(7, .int 0), (6, .int x1), (5, .int x0), (0, .ref (u 6)), (1, .ref (w 48)), (2, .int x0), (3, .ref (w 48)), (4, .int x1)]) rfl ?_
  refine ax_ls ([(0, .ref (u 6)), (1, .ref (w 48)), (2, .int x0), (3, .ref (w 48)), (4, .int x1), (5, .int x0), (6, .int x1), (7, .int 0)]) [3, 4, 5, 6, 7, 2, 1, 0] rfl ?_
  have hm : sC_Sym_greater_48_48_p10 l D kA u w tx σ [x0, x1, x0, x1, 0] (σf, rf, _) := ih tC_Sym_greater_48_48_p10 _ _ _ h
  exact hm _ _ _ _ _ rfl p e s m args below meth c F Lo σ0 hF hLo C
set_option maxHeartbeats 4000000 in
set_option maxRecDepth 100000 in
theorem oC_Sym_greater_48_48_p10 (l : Launch) (D : va_G) (kA : Nat → ClassId) (u w : Nat → Nat) (tx : Value) (rec : mF) (ih : ∀ t σ xs res, rec t σ xs = some res → cSem l D kA u w tx t σ xs res) (σ : mS) (xs : List Int32) (res : mR) (h : u_5 (kC_Sym_greater_48_48_p10 rec σ) xs = some res) : sC_Sym_greater_48_48_p10 l D kA u w tx σ xs res := by
  intro x0 x1 x2 x3 x4 hxs
  subst hxs
  obtain ⟨σf, rf, dd⟩ := res
  have h : (if 100 < x4 then (some (σ, 0, 0)) else (bnd (rec tC_Sym_after_48 σ [x2]) (fun σ1 r1 => bnd (rec tC_Sym_after_48 σ1 [x3]) (fun σ2 r2 => if bin x2 (σ2.2.2 48) = true then (if (σ2.2.1 48 (Int32.toNatClampNeg x2)) < 0 then (rec tC_Sym_greater_48_48_p72 σ2 [x0, x1, x2, x3, x4, ((r1 : Int32) - x2), ((r2 : Int32) - x3)]) else (if ((r1 : Int32) - x2) < ((r2 : Int32) - x3) then (rec tC_Sym_greater_48_48_p72 σ2 [x0, x1, x2, x3, x4, ((r1 : Int32) - x2), ((r2 : Int32) - x3)]) else (bnd (rec tC_Sym_hasAllVariables_48_48 σ2 [x2, ((r1 : Int32) - x2), x3, ((r2 : Int32) - x3)]) (fun σ3 r3 => if r3 = 0 then (rec tC_Sym_greater_48_48_p72 σ3 [x0, x1, x2, x3, x4, ((r1 : Int32) - x2), ((r2 : Int32) - x3)]) else (if ((r1 : Int32) - x2) ≤ ((r2 : Int32) - x3) then (if bin x2 (σ3.2.2 48) = true then (if bin x3 (σ3.2.2 48) = true then (if (σ3.2.1 48 (Int32.toNatClampNeg x2)) = (σ3.2.1 48 (Int32.toNatClampNeg x3)) then (bnd (rec tC_Sym_toDifference_48_48 σ3 [x2, x3, ((r1 : Int32) - x2)]) (fun σ4 r4 => if r4 = 0 then (some (σ4, 0, 0)) else (rec tC_Sym_greater_48_48_p10 σ4 [x0, x1, ((x2 : Int32) + r4), ((x3 : Int32) + r4), (x4 + 1)]))) else (if bin x2 (σ3.2.2 48) = true then (if bin x3 (σ3.2.2 48) = true then (if (σ3.2.1 48 (Int32.toNatClampNeg x2)) ≤ (σ3.2.1 48 (Int32.toNatClampNeg x3)) then (rec tC_Sym_greater_48_48_p110 σ3 [x0, x1, x2, x3, x4, ((r1 : Int32) - x2), ((r2 : Int32) - x3), 0]) else (rec tC_Sym_greater_48_48_p110 σ3 [x0, x1, x2, x3, x4, ((r1 : Int32) - x2), ((r2 : Int32) - x3), 1])) else none) else none)) else none) else none) else (some (σ3, 1, 0))))))) else none)))) = some (σf, rf, dd) := h
  intro p e s m args below meth c F Lo σ0 hF hLo C
  dsimp only at hF hLo ⊢
  refine ax_iload (pc := 10) C d_Sym_greater_10 7 rfl ?_
  refine ax_bipush (pc := 12) C 100 d_Sym_greater_12 (by decide +kernel) ?_
  refine ax_icmp_gt (pc := 14) C 152 d_Sym_greater_14 (by decide) (fun hc => ?_) (fun hc => ?_)
  · have h := it_t hc h
    refine ax_iconst (pc := 152) C 0 d_Sym_greater_152 (by decide +kernel) ?_
    cases h
    exact ax_zret (pc := 153) C d_Sym_greater_153 rfl ⟨rfl, rfl⟩ (Nat.le_refl _) (Nat.le_refl _)
  · have h := it_f hc h
    refine ax_aload_n (pc := 17) C d_Sym_greater_17 rfl 0 rfl ?_
    refine ax_aload_n (pc := 18) C d_Sym_greater_18 rfl 1 rfl ?_
    refine ax_iload (pc := 19) C d_Sym_greater_19 5 rfl ?_
    obtain ⟨σ1, r1, d1_1, d2_1, h1, h, hd2, hd1⟩ := it_b h
    have hm : sC_Sym_after_48 l D kA u w tx σ [x2] (σ1, r1, d1_1) := ih tC_Sym_after_48 _ _ _ h1
    refine cc_Vi (pc := 21) C (r0 := r1) (σ2 := σ1) (As := [.ref (w 48), .int x2]) (rest := []) (hm _ rfl) ml_Sym_59 6 rfl rfl rfl d_Sym_greater_21 rfl rfl (by dsimp only; omega) (by dsimp only; omega) (Nat.le_of_ble_eq_true rfl) (Nat.le_of_ble_eq_true rfl) (Nat.le_of_ble_eq_true rfl) ?_
    have hF : d2_1 + 1 ≤ F := by omega
    have hLo : 48 * d2_1 + 48 ≤ Lo := by omega
    refine ax_iload (pc := 24) C d_Sym_greater_24 5 rfl ?_
    refine ax_isub (pc := 26) C d_Sym_greater_26 ?_
    refine ax_istore (pc := 27) C d_Sym_greater_27 (Nat.le_of_ble_eq_true rfl) ([(8, .int ((r1 : Int32) - x2)), (0, .ref (u 6)), (1, .ref (w 48)), (2, .int x0), (3, .ref (w 48)), (4, .int x1), (5, .int x2), (6, .int x3), (7, .int x4)]) rfl ?_
    refine ax_aload_n (pc := 29) C d_Sym_greater_29 rfl 1 rfl ?_
    refine ax_aload_n (pc := 30) C d_Sym_greater_30 rfl 4 rfl ?_
    refine ax_iload (pc := 31) C d_Sym_greater_31 7 rfl ?_
    obtain ⟨σ2, r2, d1_2, d2_2, h1, h, hd2, hd1⟩ := it_b h
    have hm : sC_Sym_after_48 l D kA u w tx σ1 [x3] (σ2, r2, d1_2) := ih tC_Sym_after_48 _ _ _ h1
    refine cc_Vi (pc := 33) C (r0 := r2) (σ2 := σ2) (As := [.ref (w 48), .int x3]) (rest := []) (hm _ rfl) ml_Sym_59 6 rfl rfl rfl d_Sym_greater_33 rfl rfl (by dsimp only; omega) (by dsimp only; omega) (Nat.le_of_ble_eq_true rfl) (Nat.le_of_ble_eq_true rfl) (Nat.le_of_ble_eq_true rfl) ?_
    have hF : d2_2 + 1 ≤ F := by omega
    have hLo : 48 * d2_2 + 48 ≤ Lo := by omega
    refine ax_iload (pc := 36) C d_Sym_greater_36 7 rfl ?_
    refine ax_isub (pc := 38) C d_Sym_greater_38 ?_
    refine ax_istore (pc := 39) C d_Sym_greater_39 (Nat.le_of_ble_eq_true rfl) ([(9, .int ((r2 : Int32) - x3)), (8, .int ((r1 : Int32) - x2)), (0, .ref (u 6)), (1, .ref (w 48)), (2, .int x0), (3, .ref (w 48)), (4, .int x1), (5, .int x2), (6, .int x3), (7, .int x4)]) rfl ?_
    refine ax_aload_n (pc := 41) C d_Sym_greater_41 rfl 3 rfl ?_
    refine ax_iload (pc := 42) C d_Sym_greater_42 7 rfl ?_
    obtain ⟨hb, h⟩ := it_g h
    refine cl_48 (pc := 44) C d_Sym_greater_44 (bin_in hb) ?_
    refine ax_if_lt (pc := 45) C 72 d_Sym_greater_45 (by decide) (fun hc => ?_) (fun hc => ?_)
    · have h := it_t hc h
      refine ax_ls ([(0, .ref (u 6)), (1, .ref (w 48)), (2, .int x0), (3, .ref (w 48)), (4, .int x1), (5, .int x2), (6, .int x3), (7, .int x4), (8, .int ((r1 : Int32) - x2)), (9, .int ((r2 : Int32) - x3))]) [2, 3, 4, 5, 6, 7, 8, 9, 1, 0] rfl ?_
      have hm : sC_Sym_greater_48_48_p72 l D kA u w tx σ2 [x0, x1, x2, x3, x4, ((r1 : Int32) - x2), ((r2 : Int32) - x3)] (σf, rf, _) := ih tC_Sym_greater_48_48_p72 _ _ _ h
      exact hm _ _ _ _ _ _ _ rfl p e s m args below meth c F Lo σ0 hF hLo C
    · have h := it_f hc h
      refine ax_iload (pc := 48) C d_Sym_greater_48 1 rfl ?_
      refine ax_iload (pc := 50) C d_Sym_greater_50 0 rfl ?_
      refine ax_icmp_lt (pc := 52) C 72 d_Sym_greater_52 (by decide) (fun hc => ?_) (fun hc => ?_)
      · have h := it_t hc h
        refine ax_ls ([(0, .ref (u 6)), (1, .ref (w 48)), (2, .int x0), (3, .ref (w 48)), (4, .int x1), (5, .int x2), (6, .int x3), (7, .int x4), (8, .int ((r1 : Int32) - x2)), (9, .int ((r2 : Int32) - x3))]) [2, 3, 4, 5, 6, 7, 8, 9, 1, 0] rfl ?_
        have hm : sC_Sym_greater_48_48_p72 l D kA u w tx σ2 [x0, x1, x2, x3, x4, ((r1 : Int32) - x2), ((r2 : Int32) - x3)] (σf, rf, _) := ih tC_Sym_greater_48_48_p72 _ _ _ h
        exact hm _ _ _ _ _ _ _ rfl p e s m args below meth c F Lo σ0 hF hLo C
      · have h := it_f hc h
        refine ax_aload_n (pc := 55) C d_Sym_greater_55 rfl 2 rfl ?_
        refine ax_aload_n (pc := 56) C d_Sym_greater_56 rfl 3 rfl ?_
        refine ax_iload (pc := 57) C d_Sym_greater_57 7 rfl ?_
        refine ax_iload (pc := 59) C d_Sym_greater_59 1 rfl ?_
        refine ax_aload_n (pc := 61) C d_Sym_greater_61 rfl 5 rfl ?_
        refine ax_iload (pc := 62) C d_Sym_greater_62 8 rfl ?_
        refine ax_iload (pc := 64) C d_Sym_greater_64 0 rfl ?_
        obtain ⟨σ3, r3, d1_3, d2_3, h1, h, hd2, hd1⟩ := it_b h
        have hm : sC_Sym_hasAllVariables_48_48 l D kA u w tx σ2 [x2, ((r1 : Int32) - x2), x3, ((r2 : Int32) - x3)] (σ3, r3, d1_3) := ih tC_Sym_hasAllVariables_48_48 _ _ _ h1
        refine cc_Vi (pc := 66) C (r0 := r3) (σ2 := σ3) (As := [.ref (w 48), .int x2, .int ((r1 : Int32) - x2), .ref (w 48), .int x3, .int ((r2 : Int32) - x3)]) (rest := []) (hm _ _ _ _ rfl) ml_Sym_63 6 rfl rfl rfl d_Sym_greater_66 rfl rfl (by dsimp only; omega) (by dsimp only; omega) (Nat.le_of_ble_eq_true rfl) (Nat.le_of_ble_eq_true rfl) (Nat.le_of_ble_eq_true rfl) ?_
        have hF : d2_3 + 1 ≤ F := by omega
        have hLo : 48 * d2_3 + 48 ≤ Lo := by omega
        refine ax_if_ne (pc := 69) C 74 d_Sym_greater_69 (by decide) (fun hc => ?_) (fun hc => ?_)
        · have h := it_f hc h
          refine ax_iload (pc := 74) C d_Sym_greater_74 1 rfl ?_
          refine ax_iload (pc := 76) C d_Sym_greater_76 0 rfl ?_
          refine ax_icmp_le (pc := 78) C 83 d_Sym_greater_78 (by decide) (fun hc => ?_) (fun hc => ?_)
          · have h := it_t hc h
            refine ax_aload_n (pc := 83) C d_Sym_greater_83 rfl 3 rfl ?_
            refine ax_iload (pc := 84) C d_Sym_greater_84 7 rfl ?_
            obtain ⟨hb, h⟩ := it_g h
            refine cl_48 (pc := 86) C d_Sym_greater_86 (bin_in hb) ?_
            refine ax_aload_n (pc := 87) C d_Sym_greater_87 rfl 5 rfl ?_
            refine ax_iload (pc := 88) C d_Sym_greater_88 8 rfl ?_
            obtain ⟨hb, h⟩ := it_g h
            refine cl_48 (pc := 90) C d_Sym_greater_90 (bin_in hb) ?_
            refine ax_icmp_eq (pc := 91) C 111 d_Sym_greater_91 (by decide) (fun hc => ?_) (fun hc => ?_)
            · have h := it_t hc h
              refine ax_aload_n (pc := 111) C d_Sym_greater_111 rfl 2 rfl ?_
              refine ax_aload_n (pc := 112) C d_Sym_greater_112 rfl 3 rfl ?_
              refine ax_iload (pc := 113) C d_Sym_greater_113 7 rfl ?_
              refine ax_aload_n (pc := 115) C d_Sym_greater_115 rfl 5 rfl ?_
              refine ax_iload (pc := 116) C d_Sym_greater_116 8 rfl ?_
              refine ax_iload (pc := 118) C d_Sym_greater_118 1 rfl ?_
              obtain ⟨σ4, r4, d1_4, d2_4, h1, h, hd2, hd1⟩ := it_b h
              have hm : sC_Sym_toDifference_48_48 l D kA u w tx σ3 [x2, x3, ((r1 : Int32) - x2)] (σ4, r4, d1_4) := ih tC_Sym_toDifference_48_48 _ _ _ h1
              refine cc_Vi (pc := 120) C (r0 := r4) (σ2 := σ4) (As := [.ref (w 48), .int x2, .ref (w 48), .int x3, .int ((r1 : Int32) - x2)]) (rest := []) (hm _ _ _ rfl) ml_Sym_67 6 rfl rfl rfl d_Sym_greater_120 rfl rfl (by dsimp only; omega) (by dsimp only; omega) (Nat.le_of_ble_eq_true rfl) (Nat.le_of_ble_eq_true rfl) (Nat.le_of_ble_eq_true rfl) ?_
              have hF : d2_4 + 1 ≤ F := by omega
              have hLo : 48 * d2_4 + 48 ≤ Lo := by omega
              refine ax_istore (pc := 123) C d_Sym_greater_123 (Nat.le_of_ble_eq_true rfl) ([(10, .int r4), (9, .int ((r2 : Int32) - x3)), (8, .int ((r1 : Int32) - x2)), (0, .ref (u 6)), (1, .ref (w 48)), (2, .int x0), (3, .ref (w 48)), (4, .int x1), (5, .int x2), (6, .int x3), (7, .int x4)]) rfl ?_
              refine ax_iload (pc := 125) C d_Sym_greater_125 0 rfl ?_
              refine ax_if_ne (pc := 127) C 132 d_Sym_greater_127 (by decide) (fun hc => ?_) (fun hc => ?_)
              · have h := it_f hc h
                refine ax_iload (pc := 132) C d_Sym_greater_132 8 rfl ?_
                refine ax_iload (pc := 134) C d_Sym_greater_134 0 rfl ?_
                refine ax_iadd (pc := 136) C d_Sym_greater_136 ?_
                refine ax_istore (pc := 137) C d_Sym_greater_137 (Nat.le_of_ble_eq_true rfl) ([(5, .int ((x2 : Int32) + r4)), (10, .int r4), (9, .int ((r2 : Int32) - x3)), (8, .int ((r1 : Int32) - x2)), (0, .ref (u 6)), (1, .ref (w 48)), (2, .int x0), (3, .ref (w 48)), (4, .int x1), (6, .int x3), (7, .int x4)]) rfl ?_
                refine ax_iload (pc := 139) C d_Sym_greater_139 9 rfl ?_
                refine ax_iload (pc := 141) C d_Sym_greater_141 1 rfl ?_
                refine ax_iadd (pc := 143) C d_Sym_greater_143 ?_
                refine ax_istore (pc := 144) C d_Sym_greater_144 (Nat.le_of_ble_eq_true rfl) ([(6, .int ((x3 : Int32) + r4)), (5, .int ((x2 : Int32) + r4)), (10, .int r4), (9, .int ((r2 : Int32) - x3)), (8, .int ((r1 : Int32) - x2)), (0, .ref (u 6)), (1, .ref (w 48)), (2, .int x0), (3, .ref (w 48)), (4, .int x1), (7, .int x4)]) rfl ?_
                refine ax_iinc (pc := 146) C (x4 + 1) d_Sym_greater_146 10 rfl rfl (Nat.le_of_ble_eq_true rfl) ([(7, .int (x4 + 1)), (6, .int ((x3 : Int32) + r4)), (5, .int ((x2 : Int32) + r4)), (10, .int r4), (9, .int ((r2 : Int32) - x3)), (8, .int ((r1 : Int32) - x2)), (0, .ref (u 6)), (1, .ref (w 48)), (2, .int x0), (3, .ref (w 48)), (4, .int x1)]) rfl ?_
                refine ax_goto (pc := 149) C 10 d_Sym_greater_149 (by decide) ?_
                refine ax_ls ([(0, .ref (u 6)), (1, .ref (w 48)), (2, .int x0), (3, .ref (w 48)), (4, .int x1), (5, .int ((x2 : Int32) + r4)), (6, .int ((x3 : Int32) + r4)), (7, .int (x4 + 1))]) [6, 7, 8, 9, 10, 2, 1, 0] rfl ?_
                have hm : sC_Sym_greater_48_48_p10 l D kA u w tx σ4 [x0, x1, ((x2 : Int32) + r4), ((x3 : Int32) + r4), (x4 + 1)] (σf, rf, _) := ih tC_Sym_greater_48_48_p10 _ _ _ h
                exact hm _ _ _ _ _ rfl p e s m args below meth c F Lo σ0 hF hLo C
              · have h := it_t hc h
                refine ax_iconst (pc := 130) C 0 d_Sym_greater_130 (by decide +kernel) ?_
                cases h
                exact ax_zret (pc := 131) C d_Sym_greater_131 rfl ⟨rfl, rfl⟩ (Nat.le_refl _) (Nat.le_refl _)
            · have h := it_f hc h
              refine ax_aload_n (pc := 94) C d_Sym_greater_94 rfl 3 rfl ?_
              refine ax_iload (pc := 95) C d_Sym_greater_95 7 rfl ?_
              obtain ⟨hb, h⟩ := it_g h
              refine cl_48 (pc := 97) C d_Sym_greater_97 (bin_in hb) ?_
              refine ax_aload_n (pc := 98) C d_Sym_greater_98 rfl 5 rfl ?_
              refine ax_iload (pc := 99) C d_Sym_greater_99 8 rfl ?_
              obtain ⟨hb, h⟩ := it_g h
              refine cl_48 (pc := 101) C d_Sym_greater_101 (bin_in hb) ?_
              refine ax_icmp_le (pc := 102) C 109 d_Sym_greater_102 (by decide) (fun hc => ?_) (fun hc => ?_)
              · have h := it_t hc h
                refine ax_iconst (pc := 109) C 0 d_Sym_greater_109 (by decide +kernel) ?_
                refine ax_ls ([(0, .ref (u 6)), (1, .ref (w 48)), (2, .int x0), (3, .ref (w 48)), (4, .int x1), (5, .int x2), (6, .int x3), (7, .int x4), (8, .int ((r1 : Int32) - x2)), (9, .int ((r2 : Int32) - x3))]) [2, 3, 4, 5, 6, 7, 8, 9, 1, 0] rfl ?_
                have hm : sC_Sym_greater_48_48_p110 l D kA u w tx σ3 [x0, x1, x2, x3, x4, ((r1 : Int32) - x2), ((r2 : Int32) - x3), 0] (σf, rf, _) := ih tC_Sym_greater_48_48_p110 _ _ _ h
                exact hm _ _ _ _ _ _ _ _ rfl p e s m args below meth c F Lo σ0 hF hLo C
              · have h := it_f hc h
                refine ax_iconst (pc := 105) C 1 d_Sym_greater_105 (by decide +kernel) ?_
                refine ax_goto (pc := 106) C 110 d_Sym_greater_106 (by decide) ?_
                refine ax_ls ([(0, .ref (u 6)), (1, .ref (w 48)), (2, .int x0), (3, .ref (w 48)), (4, .int x1), (5, .int x2), (6, .int x3), (7, .int x4), (8, .int ((r1 : Int32) - x2)), (9, .int ((r2 : Int32) - x3))]) [2, 3, 4, 5, 6, 7, 8, 9, 1, 0] rfl ?_
                have hm : sC_Sym_greater_48_48_p110 l D kA u w tx σ3 [x0, x1, x2, x3, x4, ((r1 : Int32) - x2), ((r2 : Int32) - x3), 1] (σf, rf, _) := ih tC_Sym_greater_48_48_p110 _ _ _ h
                exact hm _ _ _ _ _ _ _ _ rfl p e s m args below meth c F Lo σ0 hF hLo C
          · have h := it_f hc h
            refine ax_iconst (pc := 81) C 1 d_Sym_greater_81 (by decide +kernel) ?_
            cases h
            exact ax_zret (pc := 82) C d_Sym_greater_82 rfl ⟨rfl, rfl⟩ (Nat.le_refl _) (Nat.le_refl _)
        · have h := it_t hc h
          refine ax_ls ([(0, .ref (u 6)), (1, .ref (w 48)), (2, .int x0), (3, .ref (w 48)), (4, .int x1), (5, .int x2), (6, .int x3), (7, .int x4), (8, .int ((r1 : Int32) - x2)), (9, .int ((r2 : Int32) - x3))]) [2, 3, 4, 5, 6, 7, 8, 9, 1, 0] rfl ?_
          have hm : sC_Sym_greater_48_48_p72 l D kA u w tx σ3 [x0, x1, x2, x3, x4, ((r1 : Int32) - x2), ((r2 : Int32) - x3)] (σf, rf, _) := ih tC_Sym_greater_48_48_p72 _ _ _ h
          exact hm _ _ _ _ _ _ _ rfl p e s m args below meth c F Lo σ0 hF hLo C
set_option maxHeartbeats 4000000 in
set_option maxRecDepth 100000 in
theorem oC_Sym_greater_48_48_p72 (l : Launch) (D : va_G) (kA : Nat → ClassId) (u w : Nat → Nat) (tx : Value) (rec : mF) (ih : ∀ t σ xs res, rec t σ xs = some res → cSem l D kA u w tx t σ xs res) (σ : mS) (xs : List Int32) (res : mR) (h : u_7 (kC_Sym_greater_48_48_p72 rec σ) xs = some res) : sC_Sym_greater_48_48_p72 l D kA u w tx σ xs res := by
  intro x0 x1 x2 x3 x4 x5 x6 hxs
  subst hxs
  obtain ⟨σf, rf, dd⟩ := res
  have h : (some (σ, 0, 0)) = some (σf, rf, dd) := h
  intro p e s m args below meth c F Lo σ0 hF hLo C
  dsimp only at hF hLo ⊢
  refine ax_iconst (pc := 72) C 0 d_Sym_greater_72 (by decide +kernel) ?_
  cases h
  exact ax_zret (pc := 73) C d_Sym_greater_73 rfl ⟨rfl, rfl⟩ (Nat.le_refl _) (Nat.le_refl _)
set_option maxHeartbeats 4000000 in
set_option maxRecDepth 100000 in
theorem oC_Sym_greater_48_48_p110 (l : Launch) (D : va_G) (kA : Nat → ClassId) (u w : Nat → Nat) (tx : Value) (rec : mF) (ih : ∀ t σ xs res, rec t σ xs = some res → cSem l D kA u w tx t σ xs res) (σ : mS) (xs : List Int32) (res : mR) (h : u_8 (kC_Sym_greater_48_48_p110 rec σ) xs = some res) : sC_Sym_greater_48_48_p110 l D kA u w tx σ xs res := by
  intro x0 x1 x2 x3 x4 x5 x6 x7 hxs
  subst hxs
  obtain ⟨σf, rf, dd⟩ := res
  have h : (if x7 = 0 ∨ x7 = 1 then some (σ, x7, 0) else none) = some (σf, rf, dd) := h
  intro p e s m args below meth c F Lo σ0 hF hLo C
  dsimp only at hF hLo ⊢
  obtain ⟨hb, h⟩ := it_g h
  cases h
  exact ax_zret (pc := 110) C d_Sym_greater_110 (nb01 hb) ⟨rfl, rfl⟩ (Nat.le_refl _) (Nat.le_refl _)
set_option maxHeartbeats 4000000 in
set_option maxRecDepth 100000 in
theorem oC_Sym_greater_48_68 (l : Launch) (D : va_G) (kA : Nat → ClassId) (u w : Nat → Nat) (tx : Value) (rec : mF) (ih : ∀ t σ xs res, rec t σ xs = some res → cSem l D kA u w tx t σ xs res) (σ : mS) (xs : List Int32) (res : mR) (h : u_2 (kC_Sym_greater_48_68 rec σ) xs = some res) : sC_Sym_greater_48_68 l D kA u w tx σ xs res := by
  intro x0 x1 hxs
  subst hxs
  obtain ⟨σf, rf, dd⟩ := res
  have h : (rec tC_Sym_greater_48_68_p10 σ [x0, x1, x0, x1, 0]) = some (σf, rf, dd) := h
  refine ax_Mi.of (by decide +kernel) (Nat.le_of_ble_eq_true rfl) ?_
  intro p e s m args below meth c C hnm
  have C : ax_C p s m args meth c b_Sym_greater "ClauseProver$Symbols" 11 (some .boolean) D kA (va_A (cpW kA u w tx σ) s.heap.size) := C
  obtain ⟨F, hFe⟩ : ∃ F, F = dd + 1 := ⟨_, rfl⟩
  obtain ⟨Lo, hLoe⟩ : ∃ Lo, Lo = 48 * dd + 48 := ⟨_, rfl⟩
  obtain ⟨σ0, hσ0⟩ : ∃ s0, s0 = σ := ⟨_, rfl⟩
  suffices K : AW p l e { frames := F, cells := 0, slots := 0, locals := Lo } s m args below meth c D kA (va_A (cpW kA u w tx σ0) s.heap.size) 11 (ax_Qi below args s D kA (cpW kA u w tx σ0) 0 0 (fun r w1 => r = rf ∧ w1 = cpW kA u w tx σf)) 0 [(0, .ref (u 6)), (1, .ref (w 48)), (2, .int x0), (3, .ref (u 68)), (4, .int x1)] [] (cpW kA u w tx σ) 0 0 by rw [hFe, hLoe, hσ0] at K; exact ax_ls ([(0, .ref (u 6)), (1, .ref (w 48)), (2, .int x0), (3, .ref (u 68)), (4, .int x1)]) [0, 1, 2, 3, 4] rfl K
  have C : ax_C p s m args meth c b_Sym_greater "ClauseProver$Symbols" 11 (some .boolean) D kA (va_A (cpW kA u w tx σ0) s.heap.size) := by rw [hσ0]; exact C
  have hF : dd + 1 ≤ F := by omega
  have hLo : 48 * dd + 48 ≤ Lo := by omega
  clear hFe hLoe hσ0
  refine ax_iload_n (pc := 0) C d_Sym_greater_0 rfl 2 rfl ?_
  refine ax_istore (pc := 1) C d_Sym_greater_1 (Nat.le_of_ble_eq_true rfl) ([(5, .int x0), (0, .ref (u 6)), (1, .ref (w 48)), (2, .int x0), (3, .ref (u 68)), (4, .int x1)]) rfl ?_
  refine ax_iload (pc := 3) C d_Sym_greater_3 5 rfl ?_
  refine ax_istore (pc := 5) C d_Sym_greater_5 (Nat.le_of_ble_eq_true rfl) ([(6, .int x1), (5, .int x0), (0, .ref (u 6)), (1, .ref (w 48)), (2, .int x0), (3, .ref (u 68)), (4, .int x1)]) rfl ?_
  refine ax_iconst (pc := 7) C 0 d_Sym_greater_7 (by decide +kernel) ?_
  refine ax_istore (pc := 8) C d_Sym_greater_8 (Nat.le_of_ble_eq_true rfl) ([(7, .int 0), (6, .int x1), (5, .int x0), (0, .ref (u 6)), (1, .ref (w 48)), (2, .int x0), (3, .ref (u 68)), (4, .int x1)]) rfl ?_
  refine ax_ls ([(0, .ref (u 6)), (1, .ref (w 48)), (2, .int x0), (3, .ref (u 68)), (4, .int x1), (5, .int x0), (6, .int x1), (7, .int 0)]) [3, 4, 5, 6, 7, 2, 1, 0] rfl ?_
  have hm : sC_Sym_greater_48_68_p10 l D kA u w tx σ [x0, x1, x0, x1, 0] (σf, rf, _) := ih tC_Sym_greater_48_68_p10 _ _ _ h
  exact hm _ _ _ _ _ rfl p e s m args below meth c F Lo σ0 hF hLo C
set_option maxHeartbeats 4000000 in
set_option maxRecDepth 100000 in
theorem oC_Sym_greater_48_68_p10 (l : Launch) (D : va_G) (kA : Nat → ClassId) (u w : Nat → Nat) (tx : Value) (rec : mF) (ih : ∀ t σ xs res, rec t σ xs = some res → cSem l D kA u w tx t σ xs res) (σ : mS) (xs : List Int32) (res : mR) (h : u_5 (kC_Sym_greater_48_68_p10 rec σ) xs = some res) : sC_Sym_greater_48_68_p10 l D kA u w tx σ xs res := by
  intro x0 x1 x2 x3 x4 hxs
  subst hxs
  obtain ⟨σf, rf, dd⟩ := res
  have h : (if 100 < x4 then (some (σ, 0, 0)) else (bnd (rec tC_Sym_after_48 σ [x2]) (fun σ1 r1 => bnd (rec tC_Sym_after_68 σ1 [x3]) (fun σ2 r2 => if bin x2 (σ2.2.2 48) = true then (if (σ2.2.1 48 (Int32.toNatClampNeg x2)) < 0 then (rec tC_Sym_greater_48_68_p72 σ2 [x0, x1, x2, x3, x4, ((r1 : Int32) - x2), ((r2 : Int32) - x3)]) else (if ((r1 : Int32) - x2) < ((r2 : Int32) - x3) then (rec tC_Sym_greater_48_68_p72 σ2 [x0, x1, x2, x3, x4, ((r1 : Int32) - x2), ((r2 : Int32) - x3)]) else (bnd (rec tC_Sym_hasAllVariables_48_68 σ2 [x2, ((r1 : Int32) - x2), x3, ((r2 : Int32) - x3)]) (fun σ3 r3 => if r3 = 0 then (rec tC_Sym_greater_48_68_p72 σ3 [x0, x1, x2, x3, x4, ((r1 : Int32) - x2), ((r2 : Int32) - x3)]) else (if ((r1 : Int32) - x2) ≤ ((r2 : Int32) - x3) then (if bin x2 (σ3.2.2 48) = true then (if bin x3 100 = true then (if (σ3.2.1 48 (Int32.toNatClampNeg x2)) = (σ3.2.1 68 (Int32.toNatClampNeg x3)) then (bnd (rec tC_Sym_toDifference_48_68 σ3 [x2, x3, ((r1 : Int32) - x2)]) (fun σ4 r4 => if r4 = 0 then (some (σ4, 0, 0)) else (rec tC_Sym_greater_48_68_p10 σ4 [x0, x1, ((x2 : Int32) + r4), ((x3 : Int32) + r4), (x4 + 1)]))) else (if bin x2 (σ3.2.2 48) = true then (if bin x3 100 = true then (if (σ3.2.1 48 (Int32.toNatClampNeg x2)) ≤ (σ3.2.1 68 (Int32.toNatClampNeg x3)) then (rec tC_Sym_greater_48_68_p110 σ3 [x0, x1, x2, x3, x4, ((r1 : Int32) - x2), ((r2 : Int32) - x3), 0]) else (rec tC_Sym_greater_48_68_p110 σ3 [x0, x1, x2, x3, x4, ((r1 : Int32) - x2), ((r2 : Int32) - x3), 1])) else none) else none)) else none) else none) else (some (σ3, 1, 0))))))) else none)))) = some (σf, rf, dd) := h
  intro p e s m args below meth c F Lo σ0 hF hLo C
  dsimp only at hF hLo ⊢
  refine ax_iload (pc := 10) C d_Sym_greater_10 7 rfl ?_
  refine ax_bipush (pc := 12) C 100 d_Sym_greater_12 (by decide +kernel) ?_
  refine ax_icmp_gt (pc := 14) C 152 d_Sym_greater_14 (by decide) (fun hc => ?_) (fun hc => ?_)
  · have h := it_t hc h
    refine ax_iconst (pc := 152) C 0 d_Sym_greater_152 (by decide +kernel) ?_
    cases h
    exact ax_zret (pc := 153) C d_Sym_greater_153 rfl ⟨rfl, rfl⟩ (Nat.le_refl _) (Nat.le_refl _)
  · have h := it_f hc h
    refine ax_aload_n (pc := 17) C d_Sym_greater_17 rfl 0 rfl ?_
    refine ax_aload_n (pc := 18) C d_Sym_greater_18 rfl 1 rfl ?_
    refine ax_iload (pc := 19) C d_Sym_greater_19 5 rfl ?_
    obtain ⟨σ1, r1, d1_1, d2_1, h1, h, hd2, hd1⟩ := it_b h
    have hm : sC_Sym_after_48 l D kA u w tx σ [x2] (σ1, r1, d1_1) := ih tC_Sym_after_48 _ _ _ h1
    refine cc_Vi (pc := 21) C (r0 := r1) (σ2 := σ1) (As := [.ref (w 48), .int x2]) (rest := []) (hm _ rfl) ml_Sym_59 6 rfl rfl rfl d_Sym_greater_21 rfl rfl (by dsimp only; omega) (by dsimp only; omega) (Nat.le_of_ble_eq_true rfl) (Nat.le_of_ble_eq_true rfl) (Nat.le_of_ble_eq_true rfl) ?_
    have hF : d2_1 + 1 ≤ F := by omega
    have hLo : 48 * d2_1 + 48 ≤ Lo := by omega
    refine ax_iload (pc := 24) C d_Sym_greater_24 5 rfl ?_
    refine ax_isub (pc := 26) C d_Sym_greater_26 ?_
    refine ax_istore (pc := 27) C d_Sym_greater_27 (Nat.le_of_ble_eq_true rfl) ([(8, .int ((r1 : Int32) - x2)), (0, .ref (u 6)), (1, .ref (w 48)), (2, .int x0), (3, .ref (u 68)), (4, .int x1), (5, .int x2), (6, .int x3), (7, .int x4)]) rfl ?_
    refine ax_aload_n (pc := 29) C d_Sym_greater_29 rfl 1 rfl ?_
    refine ax_aload_n (pc := 30) C d_Sym_greater_30 rfl 4 rfl ?_
    refine ax_iload (pc := 31) C d_Sym_greater_31 7 rfl ?_
    obtain ⟨σ2, r2, d1_2, d2_2, h1, h, hd2, hd1⟩ := it_b h
    have hm : sC_Sym_after_68 l D kA u w tx σ1 [x3] (σ2, r2, d1_2) := ih tC_Sym_after_68 _ _ _ h1
    refine cc_Vi (pc := 33) C (r0 := r2) (σ2 := σ2) (As := [.ref (u 68), .int x3]) (rest := []) (hm _ rfl) ml_Sym_59 6 rfl rfl rfl d_Sym_greater_33 rfl rfl (by dsimp only; omega) (by dsimp only; omega) (Nat.le_of_ble_eq_true rfl) (Nat.le_of_ble_eq_true rfl) (Nat.le_of_ble_eq_true rfl) ?_
    have hF : d2_2 + 1 ≤ F := by omega
    have hLo : 48 * d2_2 + 48 ≤ Lo := by omega
    refine ax_iload (pc := 36) C d_Sym_greater_36 7 rfl ?_
    refine ax_isub (pc := 38) C d_Sym_greater_38 ?_
    refine ax_istore (pc := 39) C d_Sym_greater_39 (Nat.le_of_ble_eq_true rfl) ([(9, .int ((r2 : Int32) - x3)), (8, .int ((r1 : Int32) - x2)), (0, .ref (u 6)), (1, .ref (w 48)), (2, .int x0), (3, .ref (u 68)), (4, .int x1), (5, .int x2), (6, .int x3), (7, .int x4)]) rfl ?_
    refine ax_aload_n (pc := 41) C d_Sym_greater_41 rfl 3 rfl ?_
    refine ax_iload (pc := 42) C d_Sym_greater_42 7 rfl ?_
    obtain ⟨hb, h⟩ := it_g h
    refine cl_48 (pc := 44) C d_Sym_greater_44 (bin_in hb) ?_
    refine ax_if_lt (pc := 45) C 72 d_Sym_greater_45 (by decide) (fun hc => ?_) (fun hc => ?_)
    · have h := it_t hc h
      refine ax_ls ([(0, .ref (u 6)), (1, .ref (w 48)), (2, .int x0), (3, .ref (u 68)), (4, .int x1), (5, .int x2), (6, .int x3), (7, .int x4), (8, .int ((r1 : Int32) - x2)), (9, .int ((r2 : Int32) - x3))]) [2, 3, 4, 5, 6, 7, 8, 9, 1, 0] rfl ?_
      have hm : sC_Sym_greater_48_68_p72 l D kA u w tx σ2 [x0, x1, x2, x3, x4, ((r1 : Int32) - x2), ((r2 : Int32) - x3)] (σf, rf, _) := ih tC_Sym_greater_48_68_p72 _ _ _ h
      exact hm _ _ _ _ _ _ _ rfl p e s m args below meth c F Lo σ0 hF hLo C
    · have h := it_f hc h
      refine ax_iload (pc := 48) C d_Sym_greater_48 1 rfl ?_
      refine ax_iload (pc := 50) C d_Sym_greater_50 0 rfl ?_
      refine ax_icmp_lt (pc := 52) C 72 d_Sym_greater_52 (by decide) (fun hc => ?_) (fun hc => ?_)
      · have h := it_t hc h
        refine ax_ls ([(0, .ref (u 6)), (1, .ref (w 48)), (2, .int x0), (3, .ref (u 68)), (4, .int x1), (5, .int x2), (6, .int x3), (7, .int x4), (8, .int ((r1 : Int32) - x2)), (9, .int ((r2 : Int32) - x3))]) [2, 3, 4, 5, 6, 7, 8, 9, 1, 0] rfl ?_
        have hm : sC_Sym_greater_48_68_p72 l D kA u w tx σ2 [x0, x1, x2, x3, x4, ((r1 : Int32) - x2), ((r2 : Int32) - x3)] (σf, rf, _) := ih tC_Sym_greater_48_68_p72 _ _ _ h
        exact hm _ _ _ _ _ _ _ rfl p e s m args below meth c F Lo σ0 hF hLo C
      · have h := it_f hc h
        refine ax_aload_n (pc := 55) C d_Sym_greater_55 rfl 2 rfl ?_
        refine ax_aload_n (pc := 56) C d_Sym_greater_56 rfl 3 rfl ?_
        refine ax_iload (pc := 57) C d_Sym_greater_57 7 rfl ?_
        refine ax_iload (pc := 59) C d_Sym_greater_59 1 rfl ?_
        refine ax_aload_n (pc := 61) C d_Sym_greater_61 rfl 5 rfl ?_
        refine ax_iload (pc := 62) C d_Sym_greater_62 8 rfl ?_
        refine ax_iload (pc := 64) C d_Sym_greater_64 0 rfl ?_
        obtain ⟨σ3, r3, d1_3, d2_3, h1, h, hd2, hd1⟩ := it_b h
        have hm : sC_Sym_hasAllVariables_48_68 l D kA u w tx σ2 [x2, ((r1 : Int32) - x2), x3, ((r2 : Int32) - x3)] (σ3, r3, d1_3) := ih tC_Sym_hasAllVariables_48_68 _ _ _ h1
        refine cc_Vi (pc := 66) C (r0 := r3) (σ2 := σ3) (As := [.ref (w 48), .int x2, .int ((r1 : Int32) - x2), .ref (u 68), .int x3, .int ((r2 : Int32) - x3)]) (rest := []) (hm _ _ _ _ rfl) ml_Sym_63 6 rfl rfl rfl d_Sym_greater_66 rfl rfl (by dsimp only; omega) (by dsimp only; omega) (Nat.le_of_ble_eq_true rfl) (Nat.le_of_ble_eq_true rfl) (Nat.le_of_ble_eq_true rfl) ?_
        have hF : d2_3 + 1 ≤ F := by omega
        have hLo : 48 * d2_3 + 48 ≤ Lo := by omega
        refine ax_if_ne (pc := 69) C 74 d_Sym_greater_69 (by decide) (fun hc => ?_) (fun hc => ?_)
        · have h := it_f hc h
          refine ax_iload (pc := 74) C d_Sym_greater_74 1 rfl ?_
          refine ax_iload (pc := 76) C d_Sym_greater_76 0 rfl ?_
          refine ax_icmp_le (pc := 78) C 83 d_Sym_greater_78 (by decide) (fun hc => ?_) (fun hc => ?_)
          · have h := it_t hc h
            refine ax_aload_n (pc := 83) C d_Sym_greater_83 rfl 3 rfl ?_
            refine ax_iload (pc := 84) C d_Sym_greater_84 7 rfl ?_
            obtain ⟨hb, h⟩ := it_g h
            refine cl_48 (pc := 86) C d_Sym_greater_86 (bin_in hb) ?_
            refine ax_aload_n (pc := 87) C d_Sym_greater_87 rfl 5 rfl ?_
            refine ax_iload (pc := 88) C d_Sym_greater_88 8 rfl ?_
            obtain ⟨hb, h⟩ := it_g h
            refine cl_68 (pc := 90) C d_Sym_greater_90 (bin_in hb) ?_
            refine ax_icmp_eq (pc := 91) C 111 d_Sym_greater_91 (by decide) (fun hc => ?_) (fun hc => ?_)
            · have h := it_t hc h
              refine ax_aload_n (pc := 111) C d_Sym_greater_111 rfl 2 rfl ?_
              refine ax_aload_n (pc := 112) C d_Sym_greater_112 rfl 3 rfl ?_
              refine ax_iload (pc := 113) C d_Sym_greater_113 7 rfl ?_
              refine ax_aload_n (pc := 115) C d_Sym_greater_115 rfl 5 rfl ?_
              refine ax_iload (pc := 116) C d_Sym_greater_116 8 rfl ?_
              refine ax_iload (pc := 118) C d_Sym_greater_118 1 rfl ?_
              obtain ⟨σ4, r4, d1_4, d2_4, h1, h, hd2, hd1⟩ := it_b h
              have hm : sC_Sym_toDifference_48_68 l D kA u w tx σ3 [x2, x3, ((r1 : Int32) - x2)] (σ4, r4, d1_4) := ih tC_Sym_toDifference_48_68 _ _ _ h1
              refine cc_Vi (pc := 120) C (r0 := r4) (σ2 := σ4) (As := [.ref (w 48), .int x2, .ref (u 68), .int x3, .int ((r1 : Int32) - x2)]) (rest := []) (hm _ _ _ rfl) ml_Sym_67 6 rfl rfl rfl d_Sym_greater_120 rfl rfl (by dsimp only; omega) (by dsimp only; omega) (Nat.le_of_ble_eq_true rfl) (Nat.le_of_ble_eq_true rfl) (Nat.le_of_ble_eq_true rfl) ?_
              have hF : d2_4 + 1 ≤ F := by omega
              have hLo : 48 * d2_4 + 48 ≤ Lo := by omega
              refine ax_istore (pc := 123) C d_Sym_greater_123 (Nat.le_of_ble_eq_true rfl) ([(10, .int r4), (9, .int ((r2 : Int32) - x3)), (8, .int ((r1 : Int32) - x2)), (0, .ref (u 6)), (1, .ref (w 48)), (2, .int x0), (3, .ref (u 68)), (4, .int x1), (5, .int x2), (6, .int x3), (7, .int x4)]) rfl ?_
              refine ax_iload (pc := 125) C d_Sym_greater_125 0 rfl ?_
              refine ax_if_ne (pc := 127) C 132 d_Sym_greater_127 (by decide) (fun hc => ?_) (fun hc => ?_)
              · have h := it_f hc h
                refine ax_iload (pc := 132) C d_Sym_greater_132 8 rfl ?_
                refine ax_iload (pc := 134) C d_Sym_greater_134 0 rfl ?_
                refine ax_iadd (pc := 136) C d_Sym_greater_136 ?_
                refine ax_istore (pc := 137) C d_Sym_greater_137 (Nat.le_of_ble_eq_true rfl) ([(5, .int ((x2 : Int32) + r4)), (10, .int r4), (9, .int ((r2 : Int32) - x3)), (8, .int ((r1 : Int32) - x2)), (0, .ref (u 6)), (1, .ref (w 48)), (2, .int x0), (3, .ref (u 68)), (4, .int x1), (6, .int x3), (7, .int x4)]) rfl ?_
                refine ax_iload (pc := 139) C d_Sym_greater_139 9 rfl ?_
                refine ax_iload (pc := 141) C d_Sym_greater_141 1 rfl ?_
                refine ax_iadd (pc := 143) C d_Sym_greater_143 ?_
                refine ax_istore (pc := 144) C d_Sym_greater_144 (Nat.le_of_ble_eq_true rfl) ([(6, .int ((x3 : Int32) + r4)), (5, .int ((x2 : Int32) + r4)), (10, .int r4), (9, .int ((r2 : Int32) - x3)), (8, .int ((r1 : Int32) - x2)), (0, .ref (u 6)), (1, .ref (w 48)), (2, .int x0), (3, .ref (u 68)), (4, .int x1), (7, .int x4)]) rfl ?_
                refine ax_iinc (pc := 146) C (x4 + 1) d_Sym_greater_146 10 rfl rfl (Nat.le_of_ble_eq_true rfl) ([(7, .int (x4 + 1)), (6, .int ((x3 : Int32) + r4)), (5, .int ((x2 : Int32) + r4)), (10, .int r4), (9, .int ((r2 : Int32) - x3)), (8, .int ((r1 : Int32) - x2)), (0, .ref (u 6)), (1, .ref (w 48)), (2, .int x0), (3, .ref (u 68)), (4, .int x1)]) rfl ?_
                refine ax_goto (pc := 149) C 10 d_Sym_greater_149 (by decide) ?_
                refine ax_ls ([(0, .ref (u 6)), (1, .ref (w 48)), (2, .int x0), (3, .ref (u 68)), (4, .int x1), (5, .int ((x2 : Int32) + r4)), (6, .int ((x3 : Int32) + r4)), (7, .int (x4 + 1))]) [6, 7, 8, 9, 10, 2, 1, 0] rfl ?_
                have hm : sC_Sym_greater_48_68_p10 l D kA u w tx σ4 [x0, x1, ((x2 : Int32) + r4), ((x3 : Int32) + r4), (x4 + 1)] (σf, rf, _) := ih tC_Sym_greater_48_68_p10 _ _ _ h
                exact hm _ _ _ _ _ rfl p e s m args below meth c F Lo σ0 hF hLo C
              · have h := it_t hc h
                refine ax_iconst (pc := 130) C 0 d_Sym_greater_130 (by decide +kernel) ?_
                cases h
                exact ax_zret (pc := 131) C d_Sym_greater_131 rfl ⟨rfl, rfl⟩ (Nat.le_refl _) (Nat.le_refl _)
            · have h := it_f hc h
              refine ax_aload_n (pc := 94) C d_Sym_greater_94 rfl 3 rfl ?_
              refine ax_iload (pc := 95) C d_Sym_greater_95 7 rfl ?_
              obtain ⟨hb, h⟩ := it_g h
              refine cl_48 (pc := 97) C d_Sym_greater_97 (bin_in hb) ?_
              refine ax_aload_n (pc := 98) C d_Sym_greater_98 rfl 5 rfl ?_
              refine ax_iload (pc := 99) C d_Sym_greater_99 8 rfl ?_
              obtain ⟨hb, h⟩ := it_g h
              refine cl_68 (pc := 101) C d_Sym_greater_101 (bin_in hb) ?_
              refine ax_icmp_le (pc := 102) C 109 d_Sym_greater_102 (by decide) (fun hc => ?_) (fun hc => ?_)
              · have h := it_t hc h
                refine ax_iconst (pc := 109) C 0 d_Sym_greater_109 (by decide +kernel) ?_
                refine ax_ls ([(0, .ref (u 6)), (1, .ref (w 48)), (2, .int x0), (3, .ref (u 68)), (4, .int x1), (5, .int x2), (6, .int x3), (7, .int x4), (8, .int ((r1 : Int32) - x2)), (9, .int ((r2 : Int32) - x3))]) [2, 3, 4, 5, 6, 7, 8, 9, 1, 0] rfl ?_
                have hm : sC_Sym_greater_48_68_p110 l D kA u w tx σ3 [x0, x1, x2, x3, x4, ((r1 : Int32) - x2), ((r2 : Int32) - x3), 0] (σf, rf, _) := ih tC_Sym_greater_48_68_p110 _ _ _ h
                exact hm _ _ _ _ _ _ _ _ rfl p e s m args below meth c F Lo σ0 hF hLo C
              · have h := it_f hc h
                refine ax_iconst (pc := 105) C 1 d_Sym_greater_105 (by decide +kernel) ?_
                refine ax_goto (pc := 106) C 110 d_Sym_greater_106 (by decide) ?_
                refine ax_ls ([(0, .ref (u 6)), (1, .ref (w 48)), (2, .int x0), (3, .ref (u 68)), (4, .int x1), (5, .int x2), (6, .int x3), (7, .int x4), (8, .int ((r1 : Int32) - x2)), (9, .int ((r2 : Int32) - x3))]) [2, 3, 4, 5, 6, 7, 8, 9, 1, 0] rfl ?_
                have hm : sC_Sym_greater_48_68_p110 l D kA u w tx σ3 [x0, x1, x2, x3, x4, ((r1 : Int32) - x2), ((r2 : Int32) - x3), 1] (σf, rf, _) := ih tC_Sym_greater_48_68_p110 _ _ _ h
                exact hm _ _ _ _ _ _ _ _ rfl p e s m args below meth c F Lo σ0 hF hLo C
          · have h := it_f hc h
            refine ax_iconst (pc := 81) C 1 d_Sym_greater_81 (by decide +kernel) ?_
            cases h
            exact ax_zret (pc := 82) C d_Sym_greater_82 rfl ⟨rfl, rfl⟩ (Nat.le_refl _) (Nat.le_refl _)
        · have h := it_t hc h
          refine ax_ls ([(0, .ref (u 6)), (1, .ref (w 48)), (2, .int x0), (3, .ref (u 68)), (4, .int x1), (5, .int x2), (6, .int x3), (7, .int x4), (8, .int ((r1 : Int32) - x2)), (9, .int ((r2 : Int32) - x3))]) [2, 3, 4, 5, 6, 7, 8, 9, 1, 0] rfl ?_
          have hm : sC_Sym_greater_48_68_p72 l D kA u w tx σ3 [x0, x1, x2, x3, x4, ((r1 : Int32) - x2), ((r2 : Int32) - x3)] (σf, rf, _) := ih tC_Sym_greater_48_68_p72 _ _ _ h
          exact hm _ _ _ _ _ _ _ rfl p e s m args below meth c F Lo σ0 hF hLo C
set_option maxHeartbeats 4000000 in
set_option maxRecDepth 100000 in
theorem oC_Sym_greater_48_68_p72 (l : Launch) (D : va_G) (kA : Nat → ClassId) (u w : Nat → Nat) (tx : Value) (rec : mF) (ih : ∀ t σ xs res, rec t σ xs = some res → cSem l D kA u w tx t σ xs res) (σ : mS) (xs : List Int32) (res : mR) (h : u_7 (kC_Sym_greater_48_68_p72 rec σ) xs = some res) : sC_Sym_greater_48_68_p72 l D kA u w tx σ xs res := by
  intro x0 x1 x2 x3 x4 x5 x6 hxs
  subst hxs
  obtain ⟨σf, rf, dd⟩ := res
  have h : (some (σ, 0, 0)) = some (σf, rf, dd) := h
  intro p e s m args below meth c F Lo σ0 hF hLo C
  dsimp only at hF hLo ⊢
  refine ax_iconst (pc := 72) C 0 d_Sym_greater_72 (by decide +kernel) ?_
  cases h
  exact ax_zret (pc := 73) C d_Sym_greater_73 rfl ⟨rfl, rfl⟩ (Nat.le_refl _) (Nat.le_refl _)
set_option maxHeartbeats 4000000 in
set_option maxRecDepth 100000 in
theorem oC_Sym_greater_48_68_p110 (l : Launch) (D : va_G) (kA : Nat → ClassId) (u w : Nat → Nat) (tx : Value) (rec : mF) (ih : ∀ t σ xs res, rec t σ xs = some res → cSem l D kA u w tx t σ xs res) (σ : mS) (xs : List Int32) (res : mR) (h : u_8 (kC_Sym_greater_48_68_p110 rec σ) xs = some res) : sC_Sym_greater_48_68_p110 l D kA u w tx σ xs res := by
  intro x0 x1 x2 x3 x4 x5 x6 x7 hxs
  subst hxs
  obtain ⟨σf, rf, dd⟩ := res
  have h : (if x7 = 0 ∨ x7 = 1 then some (σ, x7, 0) else none) = some (σf, rf, dd) := h
  intro p e s m args below meth c F Lo σ0 hF hLo C
  dsimp only at hF hLo ⊢
  obtain ⟨hb, h⟩ := it_g h
  cases h
  exact ax_zret (pc := 110) C d_Sym_greater_110 (nb01 hb) ⟨rfl, rfl⟩ (Nat.le_refl _) (Nat.le_refl _)
set_option maxHeartbeats 4000000 in
set_option maxRecDepth 100000 in
theorem oC_Sym_hasAllVariables_40_68 (l : Launch) (D : va_G) (kA : Nat → ClassId) (u w : Nat → Nat) (tx : Value) (rec : mF) (ih : ∀ t σ xs res, rec t σ xs = some res → cSem l D kA u w tx t σ xs res) (σ : mS) (xs : List Int32) (res : mR) (h : u_4 (kC_Sym_hasAllVariables_40_68 rec σ) xs = some res) : sC_Sym_hasAllVariables_40_68 l D kA u w tx σ xs res := by
  intro x0 x1 x2 x3 hxs
  subst hxs
  obtain ⟨σf, rf, dd⟩ := res
  have h : (lt_ (mFl σ 13 0 6) (fun σ1 => rec tC_Sym_hasAllVariables_40_68_p11 σ1 [x0, x1, x2, x3, x0])) = some (σf, rf, dd) := h
  refine ax_Mi.of (by decide +kernel) (Nat.le_of_ble_eq_true rfl) ?_
  intro p e s m args below meth c C hnm
  have C : ax_C p s m args meth c b_Sym_hasAllVariables "ClauseProver$Symbols" 8 (some .boolean) D kA (va_A (cpW kA u w tx σ) s.heap.size) := C
  obtain ⟨F, hFe⟩ : ∃ F, F = dd + 1 := ⟨_, rfl⟩
  obtain ⟨Lo, hLoe⟩ : ∃ Lo, Lo = 48 * dd + 48 := ⟨_, rfl⟩
  obtain ⟨σ0, hσ0⟩ : ∃ s0, s0 = σ := ⟨_, rfl⟩
  suffices K : AW p l e { frames := F, cells := 0, slots := 0, locals := Lo } s m args below meth c D kA (va_A (cpW kA u w tx σ0) s.heap.size) 8 (ax_Qi below args s D kA (cpW kA u w tx σ0) 0 0 (fun r w1 => r = rf ∧ w1 = cpW kA u w tx σf)) 0 [(0, .ref (u 6)), (1, .ref (u 40)), (2, .int x0), (3, .int x1), (4, .ref (u 68)), (5, .int x2), (6, .int x3)] [] (cpW kA u w tx σ) 0 0 by rw [hFe, hLoe, hσ0] at K; exact ax_ls ([(0, .ref (u 6)), (1, .ref (u 40)), (2, .int x0), (3, .int x1), (4, .ref (u 68)), (5, .int x2), (6, .int x3)]) [0, 1, 2, 3, 4, 5, 6] rfl K
  have C : ax_C p s m args meth c b_Sym_hasAllVariables "ClauseProver$Symbols" 8 (some .boolean) D kA (va_A (cpW kA u w tx σ0) s.heap.size) := by rw [hσ0]; exact C
  have hF : dd + 1 ≤ F := by omega
  have hLo : 48 * dd + 48 ≤ Lo := by omega
  clear hFe hLoe hσ0
  refine ax_aload_n (pc := 0) C d_Sym_hasAllVariables_0 rfl 0 rfl ?_
  refine cg_6_7_Sym_33 (pc := 1) C d_Sym_hasAllVariables_1 ?_
  refine ax_iconst (pc := 4) C 0 d_Sym_hasAllVariables_4 (by decide +kernel) ?_
  refine cf_13 (pc := 5) C (rest := []) ml_Sym_71 d_Sym_hasAllVariables_5 rfl hF hLo (Nat.le_of_ble_eq_true rfl) ?_
  have h := it_l h
  generalize mFl σ 13 0 6 = σ1 at h ⊢
  refine ax_iload_n (pc := 8) C d_Sym_hasAllVariables_8 rfl 2 rfl ?_
  refine ax_istore (pc := 9) C d_Sym_hasAllVariables_9 (Nat.le_of_ble_eq_true rfl) ([(7, .int x0), (0, .ref (u 6)), (1, .ref (u 40)), (2, .int x0), (3, .int x1), (4, .ref (u 68)), (5, .int x2), (6, .int x3)]) rfl ?_
  refine ax_ls ([(0, .ref (u 6)), (1, .ref (u 40)), (2, .int x0), (3, .int x1), (4, .ref (u 68)), (5, .int x2), (6, .int x3), (7, .int x0)]) [1, 2, 3, 4, 5, 6, 7, 0] rfl ?_
  have hm : sC_Sym_hasAllVariables_40_68_p11 l D kA u w tx σ1 [x0, x1, x2, x3, x0] (σf, rf, _) := ih tC_Sym_hasAllVariables_40_68_p11 _ _ _ h
  exact hm _ _ _ _ _ rfl p e s m args below meth c F Lo σ0 hF hLo C
set_option maxHeartbeats 4000000 in
set_option maxRecDepth 100000 in
theorem oC_Sym_hasAllVariables_40_68_p11 (l : Launch) (D : va_G) (kA : Nat → ClassId) (u w : Nat → Nat) (tx : Value) (rec : mF) (ih : ∀ t σ xs res, rec t σ xs = some res → cSem l D kA u w tx t σ xs res) (σ : mS) (xs : List Int32) (res : mR) (h : u_5 (kC_Sym_hasAllVariables_40_68_p11 rec σ) xs = some res) : sC_Sym_hasAllVariables_40_68_p11 l D kA u w tx σ xs res := by
  intro x0 x1 x2 x3 x4 hxs
  subst hxs
  obtain ⟨σf, rf, dd⟩ := res
  have h : (if ((x0 : Int32) + x1) ≤ x4 then (rec tC_Sym_hasAllVariables_40_68_p51 σ [x0, x1, x2, x3, x2]) else (if bin x4 100 = true then (if 0 ≤ (σ.2.1 40 (Int32.toNatClampNeg x4)) then (rec tC_Sym_hasAllVariables_40_68_p41 σ [x0, x1, x2, x3, x4]) else (if bin x4 100 = true then (if bin (((σ.2.1 40 (Int32.toNatClampNeg x4)) : Int32) ^^^ (-1)) 6 = true then (if bin (((σ.2.1 40 (Int32.toNatClampNeg x4)) : Int32) ^^^ (-1)) 6 = true then (lt_ (mA σ 13 (Int32.toNatClampNeg (((σ.2.1 40 (Int32.toNatClampNeg x4)) : Int32) ^^^ (-1))) (((σ.2.1 13 (Int32.toNatClampNeg (((σ.2.1 40 (Int32.toNatClampNeg x4)) : Int32) ^^^ (-1)))) : Int32) + 1)) (fun σ1 => rec tC_Sym_hasAllVariables_40_68_p41 σ1 [x0, x1, x2, x3, x4])) else none) else none) else none)) else none)) = some (σf, rf, dd) := h
  intro p e s m args below meth c F Lo σ0 hF hLo C
  dsimp only at hF hLo ⊢
  refine ax_iload (pc := 11) C d_Sym_hasAllVariables_11 7 rfl ?_
  refine ax_iload_n (pc := 13) C d_Sym_hasAllVariables_13 rfl 2 rfl ?_
  refine ax_iload_n (pc := 14) C d_Sym_hasAllVariables_14 rfl 3 rfl ?_
  refine ax_iadd (pc := 15) C d_Sym_hasAllVariables_15 ?_
  refine ax_icmp_ge (pc := 16) C 47 d_Sym_hasAllVariables_16 (by decide) (fun hc => ?_) (fun hc => ?_)
  · have h := it_t hc h
    refine ax_iload (pc := 47) C d_Sym_hasAllVariables_47 5 rfl ?_
    refine ax_istore (pc := 49) C d_Sym_hasAllVariables_49 (Nat.le_of_ble_eq_true rfl) ([(7, .int x2), (0, .ref (u 6)), (1, .ref (u 40)), (2, .int x0), (3, .int x1), (4, .ref (u 68)), (5, .int x2), (6, .int x3)]) rfl ?_
    refine ax_ls ([(0, .ref (u 6)), (1, .ref (u 40)), (2, .int x0), (3, .int x1), (4, .ref (u 68)), (5, .int x2), (6, .int x3), (7, .int x2)]) [1, 2, 3, 4, 5, 6, 7, 0] rfl ?_
    have hm : sC_Sym_hasAllVariables_40_68_p51 l D kA u w tx σ [x0, x1, x2, x3, x2] (σf, rf, _) := ih tC_Sym_hasAllVariables_40_68_p51 _ _ _ h
    exact hm _ _ _ _ _ rfl p e s m args below meth c F Lo σ0 hF hLo C
  · have h := it_f hc h
    refine ax_aload_n (pc := 19) C d_Sym_hasAllVariables_19 rfl 1 rfl ?_
    refine ax_iload (pc := 20) C d_Sym_hasAllVariables_20 7 rfl ?_
    obtain ⟨hb, h⟩ := it_g h
    refine cl_40 (pc := 22) C d_Sym_hasAllVariables_22 (bin_in hb) ?_
    refine ax_if_ge (pc := 23) C 41 d_Sym_hasAllVariables_23 (by decide) (fun hc => ?_) (fun hc => ?_)
    · have h := it_t hc h
      refine ax_ls ([(0, .ref (u 6)), (1, .ref (u 40)), (2, .int x0), (3, .int x1), (4, .ref (u 68)), (5, .int x2), (6, .int x3), (7, .int x4)]) [0, 1, 2, 3, 4, 5, 6, 7] rfl ?_
      have hm : sC_Sym_hasAllVariables_40_68_p41 l D kA u w tx σ [x0, x1, x2, x3, x4] (σf, rf, _) := ih tC_Sym_hasAllVariables_40_68_p41 _ _ _ h
      exact hm _ _ _ _ _ rfl p e s m args below meth c F Lo σ0 hF hLo C
    · have h := it_f hc h
      refine ax_aload_n (pc := 26) C d_Sym_hasAllVariables_26 rfl 0 rfl ?_
      refine cg_6_7_Sym_33 (pc := 27) C d_Sym_hasAllVariables_27 ?_
      refine ax_aload_n (pc := 30) C d_Sym_hasAllVariables_30 rfl 1 rfl ?_
      refine ax_iload (pc := 31) C d_Sym_hasAllVariables_31 7 rfl ?_
      obtain ⟨hb, h⟩ := it_g h
      refine cl_40 (pc := 33) C d_Sym_hasAllVariables_33 (bin_in hb) ?_
      refine ax_iconst (pc := 34) C (-1) d_Sym_hasAllVariables_34 (by decide +kernel) ?_
      refine ax_ixor (pc := 35) C d_Sym_hasAllVariables_35 ?_
      refine ax_dup2 (pc := 36) C d_Sym_hasAllVariables_36 rfl rfl ?_
      obtain ⟨hb, h⟩ := it_g h
      refine cl_13 (pc := 37) C d_Sym_hasAllVariables_37 (bin_in hb) ?_
      refine ax_iconst (pc := 38) C 1 d_Sym_hasAllVariables_38 (by decide +kernel) ?_
      refine ax_iadd (pc := 39) C d_Sym_hasAllVariables_39 ?_
      obtain ⟨hb, h⟩ := it_g h
      refine cs_13 (pc := 40) C d_Sym_hasAllVariables_40 (bin_in hb) ?_
      have h := it_l h
      generalize mA σ 13 (Int32.toNatClampNeg (((σ.2.1 40 (Int32.toNatClampNeg x4)) : Int32) ^^^ (-1))) (((σ.2.1 13 (Int32.toNatClampNeg (((σ.2.1 40 (Int32.toNatClampNeg x4)) : Int32) ^^^ (-1)))) : Int32) + 1) = σ1 at h ⊢
      refine ax_ls ([(0, .ref (u 6)), (1, .ref (u 40)), (2, .int x0), (3, .int x1), (4, .ref (u 68)), (5, .int x2), (6, .int x3), (7, .int x4)]) [0, 1, 2, 3, 4, 5, 6, 7] rfl ?_
      have hm : sC_Sym_hasAllVariables_40_68_p41 l D kA u w tx σ1 [x0, x1, x2, x3, x4] (σf, rf, _) := ih tC_Sym_hasAllVariables_40_68_p41 _ _ _ h
      exact hm _ _ _ _ _ rfl p e s m args below meth c F Lo σ0 hF hLo C
set_option maxHeartbeats 4000000 in
set_option maxRecDepth 100000 in
theorem oC_Sym_hasAllVariables_40_68_p41 (l : Launch) (D : va_G) (kA : Nat → ClassId) (u w : Nat → Nat) (tx : Value) (rec : mF) (ih : ∀ t σ xs res, rec t σ xs = some res → cSem l D kA u w tx t σ xs res) (σ : mS) (xs : List Int32) (res : mR) (h : u_5 (kC_Sym_hasAllVariables_40_68_p41 rec σ) xs = some res) : sC_Sym_hasAllVariables_40_68_p41 l D kA u w tx σ xs res := by
  intro x0 x1 x2 x3 x4 hxs
  subst hxs
  obtain ⟨σf, rf, dd⟩ := res
  have h : (rec tC_Sym_hasAllVariables_40_68_p11 σ [x0, x1, x2, x3, (x4 + 1)]) = some (σf, rf, dd) := h
  intro p e s m args below meth c F Lo σ0 hF hLo C
  dsimp only at hF hLo ⊢
  refine ax_iinc (pc := 41) C (x4 + 1) d_Sym_hasAllVariables_41 7 rfl rfl (Nat.le_of_ble_eq_true rfl) ([(7, .int (x4 + 1)), (0, .ref (u 6)), (1, .ref (u 40)), (2, .int x0), (3, .int x1), (4, .ref (u 68)), (5, .int x2), (6, .int x3)]) rfl ?_
  refine ax_goto (pc := 44) C 11 d_Sym_hasAllVariables_44 (by decide) ?_
  refine ax_ls ([(0, .ref (u 6)), (1, .ref (u 40)), (2, .int x0), (3, .int x1), (4, .ref (u 68)), (5, .int x2), (6, .int x3), (7, .int (x4 + 1))]) [1, 2, 3, 4, 5, 6, 7, 0] rfl ?_
  have hm : sC_Sym_hasAllVariables_40_68_p11 l D kA u w tx σ [x0, x1, x2, x3, (x4 + 1)] (σf, rf, _) := ih tC_Sym_hasAllVariables_40_68_p11 _ _ _ h
  exact hm _ _ _ _ _ rfl p e s m args below meth c F Lo σ0 hF hLo C
set_option maxHeartbeats 4000000 in
set_option maxRecDepth 100000 in
theorem oC_Sym_hasAllVariables_40_68_p51 (l : Launch) (D : va_G) (kA : Nat → ClassId) (u w : Nat → Nat) (tx : Value) (rec : mF) (ih : ∀ t σ xs res, rec t σ xs = some res → cSem l D kA u w tx t σ xs res) (σ : mS) (xs : List Int32) (res : mR) (h : u_5 (kC_Sym_hasAllVariables_40_68_p51 rec σ) xs = some res) : sC_Sym_hasAllVariables_40_68_p51 l D kA u w tx σ xs res := by
  intro x0 x1 x2 x3 x4 hxs
  subst hxs
  obtain ⟨σf, rf, dd⟩ := res
  have h : (if ((x2 : Int32) + x3) ≤ x4 then (some (σ, 1, 0)) else (if bin x4 100 = true then (if 0 ≤ (σ.2.1 68 (Int32.toNatClampNeg x4)) then (rec tC_Sym_hasAllVariables_40_68_p91 σ [x0, x1, x2, x3, x4]) else (if bin x4 100 = true then (if bin (((σ.2.1 68 (Int32.toNatClampNeg x4)) : Int32) ^^^ (-1)) 6 = true then (if bin (((σ.2.1 68 (Int32.toNatClampNeg x4)) : Int32) ^^^ (-1)) 6 = true then (lt_ (mA σ 13 (Int32.toNatClampNeg (((σ.2.1 68 (Int32.toNatClampNeg x4)) : Int32) ^^^ (-1))) (((σ.2.1 13 (Int32.toNatClampNeg (((σ.2.1 68 (Int32.toNatClampNeg x4)) : Int32) ^^^ (-1)))) : Int32) - 1)) (fun σ1 => if 0 ≤ (((σ.2.1 13 (Int32.toNatClampNeg (((σ.2.1 68 (Int32.toNatClampNeg x4)) : Int32) ^^^ (-1)))) : Int32) - 1) then (rec tC_Sym_hasAllVariables_40_68_p91 σ1 [x0, x1, x2, x3, x4]) else (some (σ1, 0, 0)))) else none) else none) else none)) else none)) = some (σf, rf, dd) := h
  intro p e s m args below meth c F Lo σ0 hF hLo C
  dsimp only at hF hLo ⊢
  refine ax_iload (pc := 51) C d_Sym_hasAllVariables_51 7 rfl ?_
  refine ax_iload (pc := 53) C d_Sym_hasAllVariables_53 5 rfl ?_
  refine ax_iload (pc := 55) C d_Sym_hasAllVariables_55 6 rfl ?_
  refine ax_iadd (pc := 57) C d_Sym_hasAllVariables_57 ?_
  refine ax_icmp_ge (pc := 58) C 97 d_Sym_hasAllVariables_58 (by decide) (fun hc => ?_) (fun hc => ?_)
  · have h := it_t hc h
    refine ax_iconst (pc := 97) C 1 d_Sym_hasAllVariables_97 (by decide +kernel) ?_
    cases h
    exact ax_zret (pc := 98) C d_Sym_hasAllVariables_98 rfl ⟨rfl, rfl⟩ (Nat.le_refl _) (Nat.le_refl _)
  · have h := it_f hc h
    refine ax_aload (pc := 61) C d_Sym_hasAllVariables_61 4 rfl ?_
    refine ax_iload (pc := 63) C d_Sym_hasAllVariables_63 7 rfl ?_
    obtain ⟨hb, h⟩ := it_g h
    refine cl_68 (pc := 65) C d_Sym_hasAllVariables_65 (bin_in hb) ?_
    refine ax_if_ge (pc := 66) C 91 d_Sym_hasAllVariables_66 (by decide) (fun hc => ?_) (fun hc => ?_)
    · have h := it_t hc h
      refine ax_ls ([(0, .ref (u 6)), (1, .ref (u 40)), (2, .int x0), (3, .int x1), (4, .ref (u 68)), (5, .int x2), (6, .int x3), (7, .int x4)]) [0, 1, 2, 3, 4, 5, 6, 7] rfl ?_
      have hm : sC_Sym_hasAllVariables_40_68_p91 l D kA u w tx σ [x0, x1, x2, x3, x4] (σf, rf, _) := ih tC_Sym_hasAllVariables_40_68_p91 _ _ _ h
      exact hm _ _ _ _ _ rfl p e s m args below meth c F Lo σ0 hF hLo C
    · have h := it_f hc h
      refine ax_aload_n (pc := 69) C d_Sym_hasAllVariables_69 rfl 0 rfl ?_
      refine cg_6_7_Sym_33 (pc := 70) C d_Sym_hasAllVariables_70 ?_
      refine ax_aload (pc := 73) C d_Sym_hasAllVariables_73 4 rfl ?_
      refine ax_iload (pc := 75) C d_Sym_hasAllVariables_75 7 rfl ?_
      obtain ⟨hb, h⟩ := it_g h
      refine cl_68 (pc := 77) C d_Sym_hasAllVariables_77 (bin_in hb) ?_
      refine ax_iconst (pc := 78) C (-1) d_Sym_hasAllVariables_78 (by decide +kernel) ?_
      refine ax_ixor (pc := 79) C d_Sym_hasAllVariables_79 ?_
      refine ax_dup2 (pc := 80) C d_Sym_hasAllVariables_80 rfl rfl ?_
      obtain ⟨hb, h⟩ := it_g h
      refine cl_13 (pc := 81) C d_Sym_hasAllVariables_81 (bin_in hb) ?_
      refine ax_iconst (pc := 82) C 1 d_Sym_hasAllVariables_82 (by decide +kernel) ?_
      refine ax_isub (pc := 83) C d_Sym_hasAllVariables_83 ?_
      refine ax_dup_x2 (pc := 84) C d_Sym_hasAllVariables_84 rfl rfl rfl ?_
      obtain ⟨hb, h⟩ := it_g h
      refine cs_13 (pc := 85) C d_Sym_hasAllVariables_85 (bin_in hb) ?_
      have h := it_l h
      generalize mA σ 13 (Int32.toNatClampNeg (((σ.2.1 68 (Int32.toNatClampNeg x4)) : Int32) ^^^ (-1))) (((σ.2.1 13 (Int32.toNatClampNeg (((σ.2.1 68 (Int32.toNatClampNeg x4)) : Int32) ^^^ (-1)))) : Int32) - 1) = σ1 at h ⊢
      refine ax_if_ge (pc := 86) C 91 d_Sym_hasAllVariables_86 (by decide) (fun hc => ?_) (fun hc => ?_)
      · have h := it_t hc h
        refine ax_ls ([(0, .ref (u 6)), (1, .ref (u 40)), (2, .int x0), (3, .int x1), (4, .ref (u 68)), (5, .int x2), (6, .int x3), (7, .int x4)]) [0, 1, 2, 3, 4, 5, 6, 7] rfl ?_
        have hm : sC_Sym_hasAllVariables_40_68_p91 l D kA u w tx σ1 [x0, x1, x2, x3, x4] (σf, rf, _) := ih tC_Sym_hasAllVariables_40_68_p91 _ _ _ h
        exact hm _ _ _ _ _ rfl p e s m args below meth c F Lo σ0 hF hLo C
      · have h := it_f hc h
        refine ax_iconst (pc := 89) C 0 d_Sym_hasAllVariables_89 (by decide +kernel) ?_
        cases h
        exact ax_zret (pc := 90) C d_Sym_hasAllVariables_90 rfl ⟨rfl, rfl⟩ (Nat.le_refl _) (Nat.le_refl _)
set_option maxHeartbeats 4000000 in
set_option maxRecDepth 100000 in
theorem oC_Sym_hasAllVariables_40_68_p91 (l : Launch) (D : va_G) (kA : Nat → ClassId) (u w : Nat → Nat) (tx : Value) (rec : mF) (ih : ∀ t σ xs res, rec t σ xs = some res → cSem l D kA u w tx t σ xs res) (σ : mS) (xs : List Int32) (res : mR) (h : u_5 (kC_Sym_hasAllVariables_40_68_p91 rec σ) xs = some res) : sC_Sym_hasAllVariables_40_68_p91 l D kA u w tx σ xs res := by
  intro x0 x1 x2 x3 x4 hxs
  subst hxs
  obtain ⟨σf, rf, dd⟩ := res
  have h : (rec tC_Sym_hasAllVariables_40_68_p51 σ [x0, x1, x2, x3, (x4 + 1)]) = some (σf, rf, dd) := h
  intro p e s m args below meth c F Lo σ0 hF hLo C
  dsimp only at hF hLo ⊢
  refine ax_iinc (pc := 91) C (x4 + 1) d_Sym_hasAllVariables_91 7 rfl rfl (Nat.le_of_ble_eq_true rfl) ([(7, .int (x4 + 1)), (0, .ref (u 6)), (1, .ref (u 40)), (2, .int x0), (3, .int x1), (4, .ref (u 68)), (5, .int x2), (6, .int x3)]) rfl ?_
  refine ax_goto (pc := 94) C 51 d_Sym_hasAllVariables_94 (by decide) ?_
  refine ax_ls ([(0, .ref (u 6)), (1, .ref (u 40)), (2, .int x0), (3, .int x1), (4, .ref (u 68)), (5, .int x2), (6, .int x3), (7, .int (x4 + 1))]) [1, 2, 3, 4, 5, 6, 7, 0] rfl ?_
  have hm : sC_Sym_hasAllVariables_40_68_p51 l D kA u w tx σ [x0, x1, x2, x3, (x4 + 1)] (σf, rf, _) := ih tC_Sym_hasAllVariables_40_68_p51 _ _ _ h
  exact hm _ _ _ _ _ rfl p e s m args below meth c F Lo σ0 hF hLo C
set_option maxHeartbeats 4000000 in
set_option maxRecDepth 100000 in
theorem oC_Sym_hasAllVariables_48_48 (l : Launch) (D : va_G) (kA : Nat → ClassId) (u w : Nat → Nat) (tx : Value) (rec : mF) (ih : ∀ t σ xs res, rec t σ xs = some res → cSem l D kA u w tx t σ xs res) (σ : mS) (xs : List Int32) (res : mR) (h : u_4 (kC_Sym_hasAllVariables_48_48 rec σ) xs = some res) : sC_Sym_hasAllVariables_48_48 l D kA u w tx σ xs res := by
  intro x0 x1 x2 x3 hxs
  subst hxs
  obtain ⟨σf, rf, dd⟩ := res
  have h : (lt_ (mFl σ 13 0 6) (fun σ1 => rec tC_Sym_hasAllVariables_48_48_p11 σ1 [x0, x1, x2, x3, x0])) = some (σf, rf, dd) := h
  refine ax_Mi.of (by decide +kernel) (Nat.le_of_ble_eq_true rfl) ?_
  intro p e s m args below meth c C hnm
  have C : ax_C p s m args meth c b_Sym_hasAllVariables "ClauseProver$Symbols" 8 (some .boolean) D kA (va_A (cpW kA u w tx σ) s.heap.size) := C
  obtain ⟨F, hFe⟩ : ∃ F, F = dd + 1 := ⟨_, rfl⟩
  obtain ⟨Lo, hLoe⟩ : ∃ Lo, Lo = 48 * dd + 48 := ⟨_, rfl⟩
  obtain ⟨σ0, hσ0⟩ : ∃ s0, s0 = σ := ⟨_, rfl⟩
  suffices K : AW p l e { frames := F, cells := 0, slots := 0, locals := Lo } s m args below meth c D kA (va_A (cpW kA u w tx σ0) s.heap.size) 8 (ax_Qi below args s D kA (cpW kA u w tx σ0) 0 0 (fun r w1 => r = rf ∧ w1 = cpW kA u w tx σf)) 0 [(0, .ref (u 6)), (1, .ref (w 48)), (2, .int x0), (3, .int x1), (4, .ref (w 48)), (5, .int x2), (6, .int x3)] [] (cpW kA u w tx σ) 0 0 by rw [hFe, hLoe, hσ0] at K; exact ax_ls ([(0, .ref (u 6)), (1, .ref (w 48)), (2, .int x0), (3, .int x1), (4, .ref (w 48)), (5, .int x2), (6, .int x3)]) [0, 1, 2, 3, 4, 5, 6] rfl K
  have C : ax_C p s m args meth c b_Sym_hasAllVariables "ClauseProver$Symbols" 8 (some .boolean) D kA (va_A (cpW kA u w tx σ0) s.heap.size) := by rw [hσ0]; exact C
  have hF : dd + 1 ≤ F := by omega
  have hLo : 48 * dd + 48 ≤ Lo := by omega
  clear hFe hLoe hσ0
  refine ax_aload_n (pc := 0) C d_Sym_hasAllVariables_0 rfl 0 rfl ?_
  refine cg_6_7_Sym_33 (pc := 1) C d_Sym_hasAllVariables_1 ?_
  refine ax_iconst (pc := 4) C 0 d_Sym_hasAllVariables_4 (by decide +kernel) ?_
  refine cf_13 (pc := 5) C (rest := []) ml_Sym_71 d_Sym_hasAllVariables_5 rfl hF hLo (Nat.le_of_ble_eq_true rfl) ?_
  have h := it_l h
  generalize mFl σ 13 0 6 = σ1 at h ⊢
  refine ax_iload_n (pc := 8) C d_Sym_hasAllVariables_8 rfl 2 rfl ?_
  refine ax_istore (pc := 9) C d_Sym_hasAllVariables_9 (Nat.le_of_ble_eq_true rfl) ([(7, .int x0), (0, .ref (u 6)), (1, .ref (w 48)), (2, .int x0), (3, .int x1), (4, .ref (w 48)), (5, .int x2), (6, .int x3)]) rfl ?_
  refine ax_ls ([(0, .ref (u 6)), (1, .ref (w 48)), (2, .int x0), (3, .int x1), (4, .ref (w 48)), (5, .int x2), (6, .int x3), (7, .int x0)]) [1, 2, 3, 4, 5, 6, 7, 0] rfl ?_
  have hm : sC_Sym_hasAllVariables_48_48_p11 l D kA u w tx σ1 [x0, x1, x2, x3, x0] (σf, rf, _) := ih tC_Sym_hasAllVariables_48_48_p11 _ _ _ h
  exact hm _ _ _ _ _ rfl p e s m args below meth c F Lo σ0 hF hLo C
set_option maxHeartbeats 4000000 in
set_option maxRecDepth 100000 in
theorem oC_Sym_hasAllVariables_48_48_p11 (l : Launch) (D : va_G) (kA : Nat → ClassId) (u w : Nat → Nat) (tx : Value) (rec : mF) (ih : ∀ t σ xs res, rec t σ xs = some res → cSem l D kA u w tx t σ xs res) (σ : mS) (xs : List Int32) (res : mR) (h : u_5 (kC_Sym_hasAllVariables_48_48_p11 rec σ) xs = some res) : sC_Sym_hasAllVariables_48_48_p11 l D kA u w tx σ xs res := by
  intro x0 x1 x2 x3 x4 hxs
  subst hxs
  obtain ⟨σf, rf, dd⟩ := res
  have h : (if ((x0 : Int32) + x1) ≤ x4 then (rec tC_Sym_hasAllVariables_48_48_p51 σ [x0, x1, x2, x3, x2]) else (if bin x4 (σ.2.2 48) = true then (if 0 ≤ (σ.2.1 48 (Int32.toNatClampNeg x4)) then (rec tC_Sym_hasAllVariables_48_48_p41 σ [x0, x1, x2, x3, x4]) else (if bin x4 (σ.2.2 48) = true then (if bin (((σ.2.1 48 (Int32.toNatClampNeg x4)) : Int32) ^^^ (-1)) 6 = true then (if bin (((σ.2.1 48 (Int32.toNatClampNeg x4)) : Int32) ^^^ (-1)) 6 = true then (lt_ (mA σ 13 (Int32.toNatClampNeg (((σ.2.1 48 (Int32.toNatClampNeg x4)) : Int32) ^^^ (-1))) (((σ.2.1 13 (Int32.toNatClampNeg (((σ.2.1 48 (Int32.toNatClampNeg x4)) : Int32) ^^^ (-1)))) : Int32) + 1)) (fun σ1 => rec tC_Sym_hasAllVariables_48_48_p41 σ1 [x0, x1, x2, x3, x4])) else none) else none) else none)) else none)) = some (σf, rf, dd) := h
  intro p e s m args below meth c F Lo σ0 hF hLo C
  dsimp only at hF hLo ⊢
  refine ax_iload (pc := 11) C d_Sym_hasAllVariables_11 7 rfl ?_
  refine ax_iload_n (pc := 13) C d_Sym_hasAllVariables_13 rfl 2 rfl ?_
  refine ax_iload_n (pc := 14) C d_Sym_hasAllVariables_14 rfl 3 rfl ?_
  refine ax_iadd (pc := 15) C d_Sym_hasAllVariables_15 ?_
  refine ax_icmp_ge (pc := 16) C 47 d_Sym_hasAllVariables_16 (by decide) (fun hc => ?_) (fun hc => ?_)
  · have h := it_t hc h
    refine ax_iload (pc := 47) C d_Sym_hasAllVariables_47 5 rfl ?_
    refine ax_istore (pc := 49) C d_Sym_hasAllVariables_49 (Nat.le_of_ble_eq_true rfl) ([(7, .int x2), (0, .ref (u 6)), (1, .ref (w 48)), (2, .int x0), (3, .int x1), (4, .ref (w 48)), (5, .int x2), (6, .int x3)]) rfl ?_
    refine ax_ls ([(0, .ref (u 6)), (1, .ref (w 48)), (2, .int x0), (3, .int x1), (4, .ref (w 48)), (5, .int x2), (6, .int x3), (7, .int x2)]) [1, 2, 3, 4, 5, 6, 7, 0] rfl ?_
    have hm : sC_Sym_hasAllVariables_48_48_p51 l D kA u w tx σ [x0, x1, x2, x3, x2] (σf, rf, _) := ih tC_Sym_hasAllVariables_48_48_p51 _ _ _ h
    exact hm _ _ _ _ _ rfl p e s m args below meth c F Lo σ0 hF hLo C
  · have h := it_f hc h
    refine ax_aload_n (pc := 19) C d_Sym_hasAllVariables_19 rfl 1 rfl ?_
    refine ax_iload (pc := 20) C d_Sym_hasAllVariables_20 7 rfl ?_
    obtain ⟨hb, h⟩ := it_g h
    refine cl_48 (pc := 22) C d_Sym_hasAllVariables_22 (bin_in hb) ?_
    refine ax_if_ge (pc := 23) C 41 d_Sym_hasAllVariables_23 (by decide) (fun hc => ?_) (fun hc => ?_)
    · have h := it_t hc h
      refine ax_ls ([(0, .ref (u 6)), (1, .ref (w 48)), (2, .int x0), (3, .int x1), (4, .ref (w 48)), (5, .int x2), (6, .int x3), (7, .int x4)]) [0, 1, 2, 3, 4, 5, 6, 7] rfl ?_
      have hm : sC_Sym_hasAllVariables_48_48_p41 l D kA u w tx σ [x0, x1, x2, x3, x4] (σf, rf, _) := ih tC_Sym_hasAllVariables_48_48_p41 _ _ _ h
      exact hm _ _ _ _ _ rfl p e s m args below meth c F Lo σ0 hF hLo C
    · have h := it_f hc h
      refine ax_aload_n (pc := 26) C d_Sym_hasAllVariables_26 rfl 0 rfl ?_
      refine cg_6_7_Sym_33 (pc := 27) C d_Sym_hasAllVariables_27 ?_
      refine ax_aload_n (pc := 30) C d_Sym_hasAllVariables_30 rfl 1 rfl ?_
      refine ax_iload (pc := 31) C d_Sym_hasAllVariables_31 7 rfl ?_
      obtain ⟨hb, h⟩ := it_g h
      refine cl_48 (pc := 33) C d_Sym_hasAllVariables_33 (bin_in hb) ?_
      refine ax_iconst (pc := 34) C (-1) d_Sym_hasAllVariables_34 (by decide +kernel) ?_
      refine ax_ixor (pc := 35) C d_Sym_hasAllVariables_35 ?_
      refine ax_dup2 (pc := 36) C d_Sym_hasAllVariables_36 rfl rfl ?_
      obtain ⟨hb, h⟩ := it_g h
      refine cl_13 (pc := 37) C d_Sym_hasAllVariables_37 (bin_in hb) ?_
      refine ax_iconst (pc := 38) C 1 d_Sym_hasAllVariables_38 (by decide +kernel) ?_
      refine ax_iadd (pc := 39) C d_Sym_hasAllVariables_39 ?_
      obtain ⟨hb, h⟩ := it_g h
      refine cs_13 (pc := 40) C d_Sym_hasAllVariables_40 (bin_in hb) ?_
      have h := it_l h
      generalize mA σ 13 (Int32.toNatClampNeg (((σ.2.1 48 (Int32.toNatClampNeg x4)) : Int32) ^^^ (-1))) (((σ.2.1 13 (Int32.toNatClampNeg (((σ.2.1 48 (Int32.toNatClampNeg x4)) : Int32) ^^^ (-1)))) : Int32) + 1) = σ1 at h ⊢
      refine ax_ls ([(0, .ref (u 6)), (1, .ref (w 48)), (2, .int x0), (3, .int x1), (4, .ref (w 48)), (5, .int x2), (6, .int x3), (7, .int x4)]) [0, 1, 2, 3, 4, 5, 6, 7] rfl ?_
      have hm : sC_Sym_hasAllVariables_48_48_p41 l D kA u w tx σ1 [x0, x1, x2, x3, x4] (σf, rf, _) := ih tC_Sym_hasAllVariables_48_48_p41 _ _ _ h
      exact hm _ _ _ _ _ rfl p e s m args below meth c F Lo σ0 hF hLo C
set_option maxHeartbeats 4000000 in
set_option maxRecDepth 100000 in
theorem oC_Sym_hasAllVariables_48_48_p41 (l : Launch) (D : va_G) (kA : Nat → ClassId) (u w : Nat → Nat) (tx : Value) (rec : mF) (ih : ∀ t σ xs res, rec t σ xs = some res → cSem l D kA u w tx t σ xs res) (σ : mS) (xs : List Int32) (res : mR) (h : u_5 (kC_Sym_hasAllVariables_48_48_p41 rec σ) xs = some res) : sC_Sym_hasAllVariables_48_48_p41 l D kA u w tx σ xs res := by
  intro x0 x1 x2 x3 x4 hxs
  subst hxs
  obtain ⟨σf, rf, dd⟩ := res
  have h : (rec tC_Sym_hasAllVariables_48_48_p11 σ [x0, x1, x2, x3, (x4 + 1)]) = some (σf, rf, dd) := h
  intro p e s m args below meth c F Lo σ0 hF hLo C
  dsimp only at hF hLo ⊢
  refine ax_iinc (pc := 41) C (x4 + 1) d_Sym_hasAllVariables_41 7 rfl rfl (Nat.le_of_ble_eq_true rfl) ([(7, .int (x4 + 1)), (0, .ref (u 6)), (1, .ref (w 48)), (2, .int x0), (3, .int x1), (4, .ref (w 48)), (5, .int x2), (6, .int x3)]) rfl ?_
  refine ax_goto (pc := 44) C 11 d_Sym_hasAllVariables_44 (by decide) ?_
  refine ax_ls ([(0, .ref (u 6)), (1, .ref (w 48)), (2, .int x0), (3, .int x1), (4, .ref (w 48)), (5, .int x2), (6, .int x3), (7, .int (x4 + 1))]) [1, 2, 3, 4, 5, 6, 7, 0] rfl ?_
  have hm : sC_Sym_hasAllVariables_48_48_p11 l D kA u w tx σ [x0, x1, x2, x3, (x4 + 1)] (σf, rf, _) := ih tC_Sym_hasAllVariables_48_48_p11 _ _ _ h
  exact hm _ _ _ _ _ rfl p e s m args below meth c F Lo σ0 hF hLo C
set_option maxHeartbeats 4000000 in
set_option maxRecDepth 100000 in
theorem oC_Sym_hasAllVariables_48_48_p51 (l : Launch) (D : va_G) (kA : Nat → ClassId) (u w : Nat → Nat) (tx : Value) (rec : mF) (ih : ∀ t σ xs res, rec t σ xs = some res → cSem l D kA u w tx t σ xs res) (σ : mS) (xs : List Int32) (res : mR) (h : u_5 (kC_Sym_hasAllVariables_48_48_p51 rec σ) xs = some res) : sC_Sym_hasAllVariables_48_48_p51 l D kA u w tx σ xs res := by
  intro x0 x1 x2 x3 x4 hxs
  subst hxs
  obtain ⟨σf, rf, dd⟩ := res
  have h : (if ((x2 : Int32) + x3) ≤ x4 then (some (σ, 1, 0)) else (if bin x4 (σ.2.2 48) = true then (if 0 ≤ (σ.2.1 48 (Int32.toNatClampNeg x4)) then (rec tC_Sym_hasAllVariables_48_48_p91 σ [x0, x1, x2, x3, x4]) else (if bin x4 (σ.2.2 48) = true then (if bin (((σ.2.1 48 (Int32.toNatClampNeg x4)) : Int32) ^^^ (-1)) 6 = true then (if bin (((σ.2.1 48 (Int32.toNatClampNeg x4)) : Int32) ^^^ (-1)) 6 = true then (lt_ (mA σ 13 (Int32.toNatClampNeg (((σ.2.1 48 (Int32.toNatClampNeg x4)) : Int32) ^^^ (-1))) (((σ.2.1 13 (Int32.toNatClampNeg (((σ.2.1 48 (Int32.toNatClampNeg x4)) : Int32) ^^^ (-1)))) : Int32) - 1)) (fun σ1 => if 0 ≤ (((σ.2.1 13 (Int32.toNatClampNeg (((σ.2.1 48 (Int32.toNatClampNeg x4)) : Int32) ^^^ (-1)))) : Int32) - 1) then (rec tC_Sym_hasAllVariables_48_48_p91 σ1 [x0, x1, x2, x3, x4]) else (some (σ1, 0, 0)))) else none) else none) else none)) else none)) = some (σf, rf, dd) := h
  intro p e s m args below meth c F Lo σ0 hF hLo C
  dsimp only at hF hLo ⊢
  refine ax_iload (pc := 51) C d_Sym_hasAllVariables_51 7 rfl ?_
  refine ax_iload (pc := 53) C d_Sym_hasAllVariables_53 5 rfl ?_
  refine ax_iload (pc := 55) C d_Sym_hasAllVariables_55 6 rfl ?_
  refine ax_iadd (pc := 57) C d_Sym_hasAllVariables_57 ?_
  refine ax_icmp_ge (pc := 58) C 97 d_Sym_hasAllVariables_58 (by decide) (fun hc => ?_) (fun hc => ?_)
  · have h := it_t hc h
    refine ax_iconst (pc := 97) C 1 d_Sym_hasAllVariables_97 (by decide +kernel) ?_
    cases h
    exact ax_zret (pc := 98) C d_Sym_hasAllVariables_98 rfl ⟨rfl, rfl⟩ (Nat.le_refl _) (Nat.le_refl _)
  · have h := it_f hc h
    refine ax_aload (pc := 61) C d_Sym_hasAllVariables_61 4 rfl ?_
    refine ax_iload (pc := 63) C d_Sym_hasAllVariables_63 7 rfl ?_
    obtain ⟨hb, h⟩ := it_g h
    refine cl_48 (pc := 65) C d_Sym_hasAllVariables_65 (bin_in hb) ?_
    refine ax_if_ge (pc := 66) C 91 d_Sym_hasAllVariables_66 (by decide) (fun hc => ?_) (fun hc => ?_)
    · have h := it_t hc h
      refine ax_ls ([(0, .ref (u 6)), (1, .ref (w 48)), (2, .int x0), (3, .int x1), (4, .ref (w 48)), (5, .int x2), (6, .int x3), (7, .int x4)]) [0, 1, 2, 3, 4, 5, 6, 7] rfl ?_
      have hm : sC_Sym_hasAllVariables_48_48_p91 l D kA u w tx σ [x0, x1, x2, x3, x4] (σf, rf, _) := ih tC_Sym_hasAllVariables_48_48_p91 _ _ _ h
      exact hm _ _ _ _ _ rfl p e s m args below meth c F Lo σ0 hF hLo C
    · have h := it_f hc h
      refine ax_aload_n (pc := 69) C d_Sym_hasAllVariables_69 rfl 0 rfl ?_
      refine cg_6_7_Sym_33 (pc := 70) C d_Sym_hasAllVariables_70 ?_
      refine ax_aload (pc := 73) C d_Sym_hasAllVariables_73 4 rfl ?_
      refine ax_iload (pc := 75) C d_Sym_hasAllVariables_75 7 rfl ?_
      obtain ⟨hb, h⟩ := it_g h
      refine cl_48 (pc := 77) C d_Sym_hasAllVariables_77 (bin_in hb) ?_
      refine ax_iconst (pc := 78) C (-1) d_Sym_hasAllVariables_78 (by decide +kernel) ?_
      refine ax_ixor (pc := 79) C d_Sym_hasAllVariables_79 ?_
      refine ax_dup2 (pc := 80) C d_Sym_hasAllVariables_80 rfl rfl ?_
      obtain ⟨hb, h⟩ := it_g h
      refine cl_13 (pc := 81) C d_Sym_hasAllVariables_81 (bin_in hb) ?_
      refine ax_iconst (pc := 82) C 1 d_Sym_hasAllVariables_82 (by decide +kernel) ?_
      refine ax_isub (pc := 83) C d_Sym_hasAllVariables_83 ?_
      refine ax_dup_x2 (pc := 84) C d_Sym_hasAllVariables_84 rfl rfl rfl ?_
      obtain ⟨hb, h⟩ := it_g h
      refine cs_13 (pc := 85) C d_Sym_hasAllVariables_85 (bin_in hb) ?_
      have h := it_l h
      generalize mA σ 13 (Int32.toNatClampNeg (((σ.2.1 48 (Int32.toNatClampNeg x4)) : Int32) ^^^ (-1))) (((σ.2.1 13 (Int32.toNatClampNeg (((σ.2.1 48 (Int32.toNatClampNeg x4)) : Int32) ^^^ (-1)))) : Int32) - 1) = σ1 at h ⊢
      refine ax_if_ge (pc := 86) C 91 d_Sym_hasAllVariables_86 (by decide) (fun hc => ?_) (fun hc => ?_)
      · have h := it_t hc h
        refine ax_ls ([(0, .ref (u 6)), (1, .ref (w 48)), (2, .int x0), (3, .int x1), (4, .ref (w 48)), (5, .int x2), (6, .int x3), (7, .int x4)]) [0, 1, 2, 3, 4, 5, 6, 7] rfl ?_
        have hm : sC_Sym_hasAllVariables_48_48_p91 l D kA u w tx σ1 [x0, x1, x2, x3, x4] (σf, rf, _) := ih tC_Sym_hasAllVariables_48_48_p91 _ _ _ h
        exact hm _ _ _ _ _ rfl p e s m args below meth c F Lo σ0 hF hLo C
      · have h := it_f hc h
        refine ax_iconst (pc := 89) C 0 d_Sym_hasAllVariables_89 (by decide +kernel) ?_
        cases h
        exact ax_zret (pc := 90) C d_Sym_hasAllVariables_90 rfl ⟨rfl, rfl⟩ (Nat.le_refl _) (Nat.le_refl _)
set_option maxHeartbeats 4000000 in
set_option maxRecDepth 100000 in
theorem oC_Sym_hasAllVariables_48_48_p91 (l : Launch) (D : va_G) (kA : Nat → ClassId) (u w : Nat → Nat) (tx : Value) (rec : mF) (ih : ∀ t σ xs res, rec t σ xs = some res → cSem l D kA u w tx t σ xs res) (σ : mS) (xs : List Int32) (res : mR) (h : u_5 (kC_Sym_hasAllVariables_48_48_p91 rec σ) xs = some res) : sC_Sym_hasAllVariables_48_48_p91 l D kA u w tx σ xs res := by
  intro x0 x1 x2 x3 x4 hxs
  subst hxs
  obtain ⟨σf, rf, dd⟩ := res
  have h : (rec tC_Sym_hasAllVariables_48_48_p51 σ [x0, x1, x2, x3, (x4 + 1)]) = some (σf, rf, dd) := h
  intro p e s m args below meth c F Lo σ0 hF hLo C
  dsimp only at hF hLo ⊢
  refine ax_iinc (pc := 91) C (x4 + 1) d_Sym_hasAllVariables_91 7 rfl rfl (Nat.le_of_ble_eq_true rfl) ([(7, .int (x4 + 1)), (0, .ref (u 6)), (1, .ref (w 48)), (2, .int x0), (3, .int x1), (4, .ref (w 48)), (5, .int x2), (6, .int x3)]) rfl ?_
  refine ax_goto (pc := 94) C 51 d_Sym_hasAllVariables_94 (by decide) ?_
  refine ax_ls ([(0, .ref (u 6)), (1, .ref (w 48)), (2, .int x0), (3, .int x1), (4, .ref (w 48)), (5, .int x2), (6, .int x3), (7, .int (x4 + 1))]) [1, 2, 3, 4, 5, 6, 7, 0] rfl ?_
  have hm : sC_Sym_hasAllVariables_48_48_p51 l D kA u w tx σ [x0, x1, x2, x3, (x4 + 1)] (σf, rf, _) := ih tC_Sym_hasAllVariables_48_48_p51 _ _ _ h
  exact hm _ _ _ _ _ rfl p e s m args below meth c F Lo σ0 hF hLo C
set_option maxHeartbeats 4000000 in
set_option maxRecDepth 100000 in
theorem oC_Sym_hasAllVariables_48_68 (l : Launch) (D : va_G) (kA : Nat → ClassId) (u w : Nat → Nat) (tx : Value) (rec : mF) (ih : ∀ t σ xs res, rec t σ xs = some res → cSem l D kA u w tx t σ xs res) (σ : mS) (xs : List Int32) (res : mR) (h : u_4 (kC_Sym_hasAllVariables_48_68 rec σ) xs = some res) : sC_Sym_hasAllVariables_48_68 l D kA u w tx σ xs res := by
  intro x0 x1 x2 x3 hxs
  subst hxs
  obtain ⟨σf, rf, dd⟩ := res
  have h : (lt_ (mFl σ 13 0 6) (fun σ1 => rec tC_Sym_hasAllVariables_48_68_p11 σ1 [x0, x1, x2, x3, x0])) = some (σf, rf, dd) := h
  refine ax_Mi.of (by decide +kernel) (Nat.le_of_ble_eq_true rfl) ?_
  intro p e s m args below meth c C hnm
  have C : ax_C p s m args meth c b_Sym_hasAllVariables "ClauseProver$Symbols" 8 (some .boolean) D kA (va_A (cpW kA u w tx σ) s.heap.size) := C
  obtain ⟨F, hFe⟩ : ∃ F, F = dd + 1 := ⟨_, rfl⟩
  obtain ⟨Lo, hLoe⟩ : ∃ Lo, Lo = 48 * dd + 48 := ⟨_, rfl⟩
  obtain ⟨σ0, hσ0⟩ : ∃ s0, s0 = σ := ⟨_, rfl⟩
  suffices K : AW p l e { frames := F, cells := 0, slots := 0, locals := Lo } s m args below meth c D kA (va_A (cpW kA u w tx σ0) s.heap.size) 8 (ax_Qi below args s D kA (cpW kA u w tx σ0) 0 0 (fun r w1 => r = rf ∧ w1 = cpW kA u w tx σf)) 0 [(0, .ref (u 6)), (1, .ref (w 48)), (2, .int x0), (3, .int x1), (4, .ref (u 68)), (5, .int x2), (6, .int x3)] [] (cpW kA u w tx σ) 0 0 by rw [hFe, hLoe, hσ0] at K; exact ax_ls ([(0, .ref (u 6)), (1, .ref (w 48)), (2, .int x0), (3, .int x1), (4, .ref (u 68)), (5, .int x2), (6, .int x3)]) [0, 1, 2, 3, 4, 5, 6] rfl K
  have C : ax_C p s m args meth c b_Sym_hasAllVariables "ClauseProver$Symbols" 8 (some .boolean) D kA (va_A (cpW kA u w tx σ0) s.heap.size) := by rw [hσ0]; exact C
  have hF : dd + 1 ≤ F := by omega
  have hLo : 48 * dd + 48 ≤ Lo := by omega
  clear hFe hLoe hσ0
  refine ax_aload_n (pc := 0) C d_Sym_hasAllVariables_0 rfl 0 rfl ?_
  refine cg_6_7_Sym_33 (pc := 1) C d_Sym_hasAllVariables_1 ?_
  refine ax_iconst (pc := 4) C 0 d_Sym_hasAllVariables_4 (by decide +kernel) ?_
  refine cf_13 (pc := 5) C (rest := []) ml_Sym_71 d_Sym_hasAllVariables_5 rfl hF hLo (Nat.le_of_ble_eq_true rfl) ?_
  have h := it_l h
  generalize mFl σ 13 0 6 = σ1 at h ⊢
  refine ax_iload_n (pc := 8) C d_Sym_hasAllVariables_8 rfl 2 rfl ?_
  refine ax_istore (pc := 9) C d_Sym_hasAllVariables_9 (Nat.le_of_ble_eq_true rfl) ([(7, .int x0), (0, .ref (u 6)), (1, .ref (w 48)), (2, .int x0), (3, .int x1), (4, .ref (u 68)), (5, .int x2), (6, .int x3)]) rfl ?_
  refine ax_ls ([(0, .ref (u 6)), (1, .ref (w 48)), (2, .int x0), (3, .int x1), (4, .ref (u 68)), (5, .int x2), (6, .int x3), (7, .int x0)]) [1, 2, 3, 4, 5, 6, 7, 0] rfl ?_
  have hm : sC_Sym_hasAllVariables_48_68_p11 l D kA u w tx σ1 [x0, x1, x2, x3, x0] (σf, rf, _) := ih tC_Sym_hasAllVariables_48_68_p11 _ _ _ h
  exact hm _ _ _ _ _ rfl p e s m args below meth c F Lo σ0 hF hLo C
set_option maxHeartbeats 4000000 in
set_option maxRecDepth 100000 in
theorem oC_Sym_hasAllVariables_48_68_p11 (l : Launch) (D : va_G) (kA : Nat → ClassId) (u w : Nat → Nat) (tx : Value) (rec : mF) (ih : ∀ t σ xs res, rec t σ xs = some res → cSem l D kA u w tx t σ xs res) (σ : mS) (xs : List Int32) (res : mR) (h : u_5 (kC_Sym_hasAllVariables_48_68_p11 rec σ) xs = some res) : sC_Sym_hasAllVariables_48_68_p11 l D kA u w tx σ xs res := by
  intro x0 x1 x2 x3 x4 hxs
  subst hxs
  obtain ⟨σf, rf, dd⟩ := res
  have h : (if ((x0 : Int32) + x1) ≤ x4 then (rec tC_Sym_hasAllVariables_48_68_p51 σ [x0, x1, x2, x3, x2]) else (if bin x4 (σ.2.2 48) = true then (if 0 ≤ (σ.2.1 48 (Int32.toNatClampNeg x4)) then (rec tC_Sym_hasAllVariables_48_68_p41 σ [x0, x1, x2, x3, x4]) else (if bin x4 (σ.2.2 48) = true then (if bin (((σ.2.1 48 (Int32.toNatClampNeg x4)) : Int32) ^^^ (-1)) 6 = true then (if bin (((σ.2.1 48 (Int32.toNatClampNeg x4)) : Int32) ^^^ (-1)) 6 = true then (lt_ (mA σ 13 (Int32.toNatClampNeg (((σ.2.1 48 (Int32.toNatClampNeg x4)) : Int32) ^^^ (-1))) (((σ.2.1 13 (Int32.toNatClampNeg (((σ.2.1 48 (Int32.toNatClampNeg x4)) : Int32) ^^^ (-1)))) : Int32) + 1)) (fun σ1 => rec tC_Sym_hasAllVariables_48_68_p41 σ1 [x0, x1, x2, x3, x4])) else none) else none) else none)) else none)) = some (σf, rf, dd) := h
  intro p e s m args below meth c F Lo σ0 hF hLo C
  dsimp only at hF hLo ⊢
  refine ax_iload (pc := 11) C d_Sym_hasAllVariables_11 7 rfl ?_
  refine ax_iload_n (pc := 13) C d_Sym_hasAllVariables_13 rfl 2 rfl ?_
  refine ax_iload_n (pc := 14) C d_Sym_hasAllVariables_14 rfl 3 rfl ?_
  refine ax_iadd (pc := 15) C d_Sym_hasAllVariables_15 ?_
  refine ax_icmp_ge (pc := 16) C 47 d_Sym_hasAllVariables_16 (by decide) (fun hc => ?_) (fun hc => ?_)
  · have h := it_t hc h
    refine ax_iload (pc := 47) C d_Sym_hasAllVariables_47 5 rfl ?_
    refine ax_istore (pc := 49) C d_Sym_hasAllVariables_49 (Nat.le_of_ble_eq_true rfl) ([(7, .int x2), (0, .ref (u 6)), (1, .ref (w 48)), (2, .int x0), (3, .int x1), (4, .ref (u 68)), (5, .int x2), (6, .int x3)]) rfl ?_
    refine ax_ls ([(0, .ref (u 6)), (1, .ref (w 48)), (2, .int x0), (3, .int x1), (4, .ref (u 68)), (5, .int x2), (6, .int x3), (7, .int x2)]) [1, 2, 3, 4, 5, 6, 7, 0] rfl ?_
    have hm : sC_Sym_hasAllVariables_48_68_p51 l D kA u w tx σ [x0, x1, x2, x3, x2] (σf, rf, _) := ih tC_Sym_hasAllVariables_48_68_p51 _ _ _ h
    exact hm _ _ _ _ _ rfl p e s m args below meth c F Lo σ0 hF hLo C
  · have h := it_f hc h
    refine ax_aload_n (pc := 19) C d_Sym_hasAllVariables_19 rfl 1 rfl ?_
    refine ax_iload (pc := 20) C d_Sym_hasAllVariables_20 7 rfl ?_
    obtain ⟨hb, h⟩ := it_g h
    refine cl_48 (pc := 22) C d_Sym_hasAllVariables_22 (bin_in hb) ?_
    refine ax_if_ge (pc := 23) C 41 d_Sym_hasAllVariables_23 (by decide) (fun hc => ?_) (fun hc => ?_)
    · have h := it_t hc h
      refine ax_ls ([(0, .ref (u 6)), (1, .ref (w 48)), (2, .int x0), (3, .int x1), (4, .ref (u 68)), (5, .int x2), (6, .int x3), (7, .int x4)]) [0, 1, 2, 3, 4, 5, 6, 7] rfl ?_
      have hm : sC_Sym_hasAllVariables_48_68_p41 l D kA u w tx σ [x0, x1, x2, x3, x4] (σf, rf, _) := ih tC_Sym_hasAllVariables_48_68_p41 _ _ _ h
      exact hm _ _ _ _ _ rfl p e s m args below meth c F Lo σ0 hF hLo C
    · have h := it_f hc h
      refine ax_aload_n (pc := 26) C d_Sym_hasAllVariables_26 rfl 0 rfl ?_
      refine cg_6_7_Sym_33 (pc := 27) C d_Sym_hasAllVariables_27 ?_
      refine ax_aload_n (pc := 30) C d_Sym_hasAllVariables_30 rfl 1 rfl ?_
      refine ax_iload (pc := 31) C d_Sym_hasAllVariables_31 7 rfl ?_
      obtain ⟨hb, h⟩ := it_g h
      refine cl_48 (pc := 33) C d_Sym_hasAllVariables_33 (bin_in hb) ?_
      refine ax_iconst (pc := 34) C (-1) d_Sym_hasAllVariables_34 (by decide +kernel) ?_
      refine ax_ixor (pc := 35) C d_Sym_hasAllVariables_35 ?_
      refine ax_dup2 (pc := 36) C d_Sym_hasAllVariables_36 rfl rfl ?_
      obtain ⟨hb, h⟩ := it_g h
      refine cl_13 (pc := 37) C d_Sym_hasAllVariables_37 (bin_in hb) ?_
      refine ax_iconst (pc := 38) C 1 d_Sym_hasAllVariables_38 (by decide +kernel) ?_
      refine ax_iadd (pc := 39) C d_Sym_hasAllVariables_39 ?_
      obtain ⟨hb, h⟩ := it_g h
      refine cs_13 (pc := 40) C d_Sym_hasAllVariables_40 (bin_in hb) ?_
      have h := it_l h
      generalize mA σ 13 (Int32.toNatClampNeg (((σ.2.1 48 (Int32.toNatClampNeg x4)) : Int32) ^^^ (-1))) (((σ.2.1 13 (Int32.toNatClampNeg (((σ.2.1 48 (Int32.toNatClampNeg x4)) : Int32) ^^^ (-1)))) : Int32) + 1) = σ1 at h ⊢
      refine ax_ls ([(0, .ref (u 6)), (1, .ref (w 48)), (2, .int x0), (3, .int x1), (4, .ref (u 68)), (5, .int x2), (6, .int x3), (7, .int x4)]) [0, 1, 2, 3, 4, 5, 6, 7] rfl ?_
      have hm : sC_Sym_hasAllVariables_48_68_p41 l D kA u w tx σ1 [x0, x1, x2, x3, x4] (σf, rf, _) := ih tC_Sym_hasAllVariables_48_68_p41 _ _ _ h
      exact hm _ _ _ _ _ rfl p e s m args below meth c F Lo σ0 hF hLo C
set_option maxHeartbeats 4000000 in
set_option maxRecDepth 100000 in
theorem oC_Sym_hasAllVariables_48_68_p41 (l : Launch) (D : va_G) (kA : Nat → ClassId) (u w : Nat → Nat) (tx : Value) (rec : mF) (ih : ∀ t σ xs res, rec t σ xs = some res → cSem l D kA u w tx t σ xs res) (σ : mS) (xs : List Int32) (res : mR) (h : u_5 (kC_Sym_hasAllVariables_48_68_p41 rec σ) xs = some res) : sC_Sym_hasAllVariables_48_68_p41 l D kA u w tx σ xs res := by
  intro x0 x1 x2 x3 x4 hxs
  subst hxs
  obtain ⟨σf, rf, dd⟩ := res
  have h : (rec tC_Sym_hasAllVariables_48_68_p11 σ [x0, x1, x2, x3, (x4 + 1)]) = some (σf, rf, dd) := h
  intro p e s m args below meth c F Lo σ0 hF hLo C
  dsimp only at hF hLo ⊢
  refine ax_iinc (pc := 41) C (x4 + 1) d_Sym_hasAllVariables_41 7 rfl rfl (Nat.le_of_ble_eq_true rfl) ([(7, .int (x4 + 1)), (0, .ref (u 6)), (1, .ref (w 48)), (2, .int x0), (3, .int x1), (4, .ref (u 68)), (5, .int x2), (6, .int x3)]) rfl ?_
  refine ax_goto (pc := 44) C 11 d_Sym_hasAllVariables_44 (by decide) ?_
  refine ax_ls ([(0, .ref (u 6)), (1, .ref (w 48)), (2, .int x0), (3, .int x1), (4, .ref (u 68)), (5, .int x2), (6, .int x3), (7, .int (x4 + 1))]) [1, 2, 3, 4, 5, 6, 7, 0] rfl ?_
  have hm : sC_Sym_hasAllVariables_48_68_p11 l D kA u w tx σ [x0, x1, x2, x3, (x4 + 1)] (σf, rf, _) := ih tC_Sym_hasAllVariables_48_68_p11 _ _ _ h
  exact hm _ _ _ _ _ rfl p e s m args below meth c F Lo σ0 hF hLo C
set_option maxHeartbeats 4000000 in
set_option maxRecDepth 100000 in
theorem oC_Sym_hasAllVariables_48_68_p51 (l : Launch) (D : va_G) (kA : Nat → ClassId) (u w : Nat → Nat) (tx : Value) (rec : mF) (ih : ∀ t σ xs res, rec t σ xs = some res → cSem l D kA u w tx t σ xs res) (σ : mS) (xs : List Int32) (res : mR) (h : u_5 (kC_Sym_hasAllVariables_48_68_p51 rec σ) xs = some res) : sC_Sym_hasAllVariables_48_68_p51 l D kA u w tx σ xs res := by
  intro x0 x1 x2 x3 x4 hxs
  subst hxs
  obtain ⟨σf, rf, dd⟩ := res
  have h : (if ((x2 : Int32) + x3) ≤ x4 then (some (σ, 1, 0)) else (if bin x4 100 = true then (if 0 ≤ (σ.2.1 68 (Int32.toNatClampNeg x4)) then (rec tC_Sym_hasAllVariables_48_68_p91 σ [x0, x1, x2, x3, x4]) else (if bin x4 100 = true then (if bin (((σ.2.1 68 (Int32.toNatClampNeg x4)) : Int32) ^^^ (-1)) 6 = true then (if bin (((σ.2.1 68 (Int32.toNatClampNeg x4)) : Int32) ^^^ (-1)) 6 = true then (lt_ (mA σ 13 (Int32.toNatClampNeg (((σ.2.1 68 (Int32.toNatClampNeg x4)) : Int32) ^^^ (-1))) (((σ.2.1 13 (Int32.toNatClampNeg (((σ.2.1 68 (Int32.toNatClampNeg x4)) : Int32) ^^^ (-1)))) : Int32) - 1)) (fun σ1 => if 0 ≤ (((σ.2.1 13 (Int32.toNatClampNeg (((σ.2.1 68 (Int32.toNatClampNeg x4)) : Int32) ^^^ (-1)))) : Int32) - 1) then (rec tC_Sym_hasAllVariables_48_68_p91 σ1 [x0, x1, x2, x3, x4]) else (some (σ1, 0, 0)))) else none) else none) else none)) else none)) = some (σf, rf, dd) := h
  intro p e s m args below meth c F Lo σ0 hF hLo C
  dsimp only at hF hLo ⊢
  refine ax_iload (pc := 51) C d_Sym_hasAllVariables_51 7 rfl ?_
  refine ax_iload (pc := 53) C d_Sym_hasAllVariables_53 5 rfl ?_
  refine ax_iload (pc := 55) C d_Sym_hasAllVariables_55 6 rfl ?_
  refine ax_iadd (pc := 57) C d_Sym_hasAllVariables_57 ?_
  refine ax_icmp_ge (pc := 58) C 97 d_Sym_hasAllVariables_58 (by decide) (fun hc => ?_) (fun hc => ?_)
  · have h := it_t hc h
    refine ax_iconst (pc := 97) C 1 d_Sym_hasAllVariables_97 (by decide +kernel) ?_
    cases h
    exact ax_zret (pc := 98) C d_Sym_hasAllVariables_98 rfl ⟨rfl, rfl⟩ (Nat.le_refl _) (Nat.le_refl _)
  · have h := it_f hc h
    refine ax_aload (pc := 61) C d_Sym_hasAllVariables_61 4 rfl ?_
    refine ax_iload (pc := 63) C d_Sym_hasAllVariables_63 7 rfl ?_
    obtain ⟨hb, h⟩ := it_g h
    refine cl_68 (pc := 65) C d_Sym_hasAllVariables_65 (bin_in hb) ?_
    refine ax_if_ge (pc := 66) C 91 d_Sym_hasAllVariables_66 (by decide) (fun hc => ?_) (fun hc => ?_)
    · have h := it_t hc h
      refine ax_ls ([(0, .ref (u 6)), (1, .ref (w 48)), (2, .int x0), (3, .int x1), (4, .ref (u 68)), (5, .int x2), (6, .int x3), (7, .int x4)]) [0, 1, 2, 3, 4, 5, 6, 7] rfl ?_
      have hm : sC_Sym_hasAllVariables_48_68_p91 l D kA u w tx σ [x0, x1, x2, x3, x4] (σf, rf, _) := ih tC_Sym_hasAllVariables_48_68_p91 _ _ _ h
      exact hm _ _ _ _ _ rfl p e s m args below meth c F Lo σ0 hF hLo C
    · have h := it_f hc h
      refine ax_aload_n (pc := 69) C d_Sym_hasAllVariables_69 rfl 0 rfl ?_
      refine cg_6_7_Sym_33 (pc := 70) C d_Sym_hasAllVariables_70 ?_
      refine ax_aload (pc := 73) C d_Sym_hasAllVariables_73 4 rfl ?_
      refine ax_iload (pc := 75) C d_Sym_hasAllVariables_75 7 rfl ?_
      obtain ⟨hb, h⟩ := it_g h
      refine cl_68 (pc := 77) C d_Sym_hasAllVariables_77 (bin_in hb) ?_
      refine ax_iconst (pc := 78) C (-1) d_Sym_hasAllVariables_78 (by decide +kernel) ?_
      refine ax_ixor (pc := 79) C d_Sym_hasAllVariables_79 ?_
      refine ax_dup2 (pc := 80) C d_Sym_hasAllVariables_80 rfl rfl ?_
      obtain ⟨hb, h⟩ := it_g h
      refine cl_13 (pc := 81) C d_Sym_hasAllVariables_81 (bin_in hb) ?_
      refine ax_iconst (pc := 82) C 1 d_Sym_hasAllVariables_82 (by decide +kernel) ?_
      refine ax_isub (pc := 83) C d_Sym_hasAllVariables_83 ?_
      refine ax_dup_x2 (pc := 84) C d_Sym_hasAllVariables_84 rfl rfl rfl ?_
      obtain ⟨hb, h⟩ := it_g h
      refine cs_13 (pc := 85) C d_Sym_hasAllVariables_85 (bin_in hb) ?_
      have h := it_l h
      generalize mA σ 13 (Int32.toNatClampNeg (((σ.2.1 68 (Int32.toNatClampNeg x4)) : Int32) ^^^ (-1))) (((σ.2.1 13 (Int32.toNatClampNeg (((σ.2.1 68 (Int32.toNatClampNeg x4)) : Int32) ^^^ (-1)))) : Int32) - 1) = σ1 at h ⊢
      refine ax_if_ge (pc := 86) C 91 d_Sym_hasAllVariables_86 (by decide) (fun hc => ?_) (fun hc => ?_)
      · have h := it_t hc h
        refine ax_ls ([(0, .ref (u 6)), (1, .ref (w 48)), (2, .int x0), (3, .int x1), (4, .ref (u 68)), (5, .int x2), (6, .int x3), (7, .int x4)]) [0, 1, 2, 3, 4, 5, 6, 7] rfl ?_
        have hm : sC_Sym_hasAllVariables_48_68_p91 l D kA u w tx σ1 [x0, x1, x2, x3, x4] (σf, rf, _) := ih tC_Sym_hasAllVariables_48_68_p91 _ _ _ h
        exact hm _ _ _ _ _ rfl p e s m args below meth c F Lo σ0 hF hLo C
      · have h := it_f hc h
        refine ax_iconst (pc := 89) C 0 d_Sym_hasAllVariables_89 (by decide +kernel) ?_
        cases h
        exact ax_zret (pc := 90) C d_Sym_hasAllVariables_90 rfl ⟨rfl, rfl⟩ (Nat.le_refl _) (Nat.le_refl _)
set_option maxHeartbeats 4000000 in
set_option maxRecDepth 100000 in
theorem oC_Sym_hasAllVariables_48_68_p91 (l : Launch) (D : va_G) (kA : Nat → ClassId) (u w : Nat → Nat) (tx : Value) (rec : mF) (ih : ∀ t σ xs res, rec t σ xs = some res → cSem l D kA u w tx t σ xs res) (σ : mS) (xs : List Int32) (res : mR) (h : u_5 (kC_Sym_hasAllVariables_48_68_p91 rec σ) xs = some res) : sC_Sym_hasAllVariables_48_68_p91 l D kA u w tx σ xs res := by
  intro x0 x1 x2 x3 x4 hxs
  subst hxs
  obtain ⟨σf, rf, dd⟩ := res
  have h : (rec tC_Sym_hasAllVariables_48_68_p51 σ [x0, x1, x2, x3, (x4 + 1)]) = some (σf, rf, dd) := h
  intro p e s m args below meth c F Lo σ0 hF hLo C
  dsimp only at hF hLo ⊢
  refine ax_iinc (pc := 91) C (x4 + 1) d_Sym_hasAllVariables_91 7 rfl rfl (Nat.le_of_ble_eq_true rfl) ([(7, .int (x4 + 1)), (0, .ref (u 6)), (1, .ref (w 48)), (2, .int x0), (3, .int x1), (4, .ref (u 68)), (5, .int x2), (6, .int x3)]) rfl ?_
  refine ax_goto (pc := 94) C 51 d_Sym_hasAllVariables_94 (by decide) ?_
  refine ax_ls ([(0, .ref (u 6)), (1, .ref (w 48)), (2, .int x0), (3, .int x1), (4, .ref (u 68)), (5, .int x2), (6, .int x3), (7, .int (x4 + 1))]) [1, 2, 3, 4, 5, 6, 7, 0] rfl ?_
  have hm : sC_Sym_hasAllVariables_48_68_p51 l D kA u w tx σ [x0, x1, x2, x3, (x4 + 1)] (σf, rf, _) := ih tC_Sym_hasAllVariables_48_68_p51 _ _ _ h
  exact hm _ _ _ _ _ rfl p e s m args below meth c F Lo σ0 hF hLo C
set_option maxHeartbeats 4000000 in
set_option maxRecDepth 100000 in
theorem oC_Sym_isPredicate (l : Launch) (D : va_G) (kA : Nat → ClassId) (u w : Nat → Nat) (tx : Value) (rec : mF) (ih : ∀ t σ xs res, rec t σ xs = some res → cSem l D kA u w tx t σ xs res) (σ : mS) (xs : List Int32) (res : mR) (h : u_1 (kC_Sym_isPredicate rec σ) xs = some res) : sC_Sym_isPredicate l D kA u w tx σ xs res := by
  intro x0 hxs
  subst hxs
  obtain ⟨σf, rf, dd⟩ := res
  have h : (if bin x0 551 = true then (if (σ.2.1 12 (Int32.toNatClampNeg x0)) = 1 then (rec tC_Sym_isPredicate_p15 σ [x0, 1]) else (rec tC_Sym_isPredicate_p15 σ [x0, 0])) else none) = some (σf, rf, dd) := h
  refine ax_Mi.of (by decide +kernel) (Nat.le_of_ble_eq_true rfl) ?_
  intro p e s m args below meth c C hnm
  have C : ax_C p s m args meth c b_Sym_isPredicate "ClauseProver$Symbols" 2 (some .boolean) D kA (va_A (cpW kA u w tx σ) s.heap.size) := C
  obtain ⟨F, hFe⟩ : ∃ F, F = dd + 1 := ⟨_, rfl⟩
  obtain ⟨Lo, hLoe⟩ : ∃ Lo, Lo = 48 * dd + 48 := ⟨_, rfl⟩
  obtain ⟨σ0, hσ0⟩ : ∃ s0, s0 = σ := ⟨_, rfl⟩
  suffices K : AW p l e { frames := F, cells := 0, slots := 0, locals := Lo } s m args below meth c D kA (va_A (cpW kA u w tx σ0) s.heap.size) 2 (ax_Qi below args s D kA (cpW kA u w tx σ0) 0 0 (fun r w1 => r = rf ∧ w1 = cpW kA u w tx σf)) 0 [(0, .ref (u 6)), (1, .int x0)] [] (cpW kA u w tx σ) 0 0 by rw [hFe, hLoe, hσ0] at K; exact ax_ls ([(0, .ref (u 6)), (1, .int x0)]) [0, 1] rfl K
  have C : ax_C p s m args meth c b_Sym_isPredicate "ClauseProver$Symbols" 2 (some .boolean) D kA (va_A (cpW kA u w tx σ0) s.heap.size) := by rw [hσ0]; exact C
  have hF : dd + 1 ≤ F := by omega
  have hLo : 48 * dd + 48 ≤ Lo := by omega
  clear hFe hLoe hσ0
  refine ax_aload_n (pc := 0) C d_Sym_isPredicate_0 rfl 0 rfl ?_
  refine cg_6_6_Sym_30 (pc := 1) C d_Sym_isPredicate_1 ?_
  refine ax_iload_n (pc := 4) C d_Sym_isPredicate_4 rfl 1 rfl ?_
  obtain ⟨hb, h⟩ := it_g h
  refine cl_12 (pc := 5) C d_Sym_isPredicate_5 (bin_in hb) ?_
  refine ax_iconst (pc := 6) C 1 d_Sym_isPredicate_6 (by decide +kernel) ?_
  refine ax_icmp_ne (pc := 7) C 14 d_Sym_isPredicate_7 (by decide) (fun hc => ?_) (fun hc => ?_)
  · have h := it_f hc h
    refine ax_iconst (pc := 14) C 0 d_Sym_isPredicate_14 (by decide +kernel) ?_
    refine ax_ls ([(0, .ref (u 6)), (1, .int x0)]) [0, 1] rfl ?_
    have hm : sC_Sym_isPredicate_p15 l D kA u w tx σ [x0, 0] (σf, rf, _) := ih tC_Sym_isPredicate_p15 _ _ _ h
    exact hm _ _ rfl p e s m args below meth c F Lo σ0 hF hLo C
  · have h := it_t hc h
    refine ax_iconst (pc := 10) C 1 d_Sym_isPredicate_10 (by decide +kernel) ?_
    refine ax_goto (pc := 11) C 15 d_Sym_isPredicate_11 (by decide) ?_
    refine ax_ls ([(0, .ref (u 6)), (1, .int x0)]) [0, 1] rfl ?_
    have hm : sC_Sym_isPredicate_p15 l D kA u w tx σ [x0, 1] (σf, rf, _) := ih tC_Sym_isPredicate_p15 _ _ _ h
    exact hm _ _ rfl p e s m args below meth c F Lo σ0 hF hLo C
set_option maxHeartbeats 4000000 in
set_option maxRecDepth 100000 in
theorem oC_Sym_isPredicate_p15 (l : Launch) (D : va_G) (kA : Nat → ClassId) (u w : Nat → Nat) (tx : Value) (rec : mF) (ih : ∀ t σ xs res, rec t σ xs = some res → cSem l D kA u w tx t σ xs res) (σ : mS) (xs : List Int32) (res : mR) (h : u_2 (kC_Sym_isPredicate_p15 rec σ) xs = some res) : sC_Sym_isPredicate_p15 l D kA u w tx σ xs res := by
  intro x0 x1 hxs
  subst hxs
  obtain ⟨σf, rf, dd⟩ := res
  have h : (if x1 = 0 ∨ x1 = 1 then some (σ, x1, 0) else none) = some (σf, rf, dd) := h
  intro p e s m args below meth c F Lo σ0 hF hLo C
  dsimp only at hF hLo ⊢
  obtain ⟨hb, h⟩ := it_g h
  cases h
  exact ax_zret (pc := 15) C d_Sym_isPredicate_15 (nb01 hb) ⟨rfl, rfl⟩ (Nat.le_refl _) (Nat.le_refl _)
set_option maxHeartbeats 4000000 in
set_option maxRecDepth 100000 in
theorem oC_Sym_isWitness (l : Launch) (D : va_G) (kA : Nat → ClassId) (u w : Nat → Nat) (tx : Value) (rec : mF) (ih : ∀ t σ xs res, rec t σ xs = some res → cSem l D kA u w tx t σ xs res) (σ : mS) (xs : List Int32) (res : mR) (h : u_1 (kC_Sym_isWitness rec σ) xs = some res) : sC_Sym_isWitness l D kA u w tx σ xs res := by
  intro x0 hxs
  subst hxs
  obtain ⟨σf, rf, dd⟩ := res
  have h : (if x0 ≤ (σ.1 604) then (rec tC_Sym_isWitness_p13 σ [x0, 0]) else (rec tC_Sym_isWitness_p13 σ [x0, 1])) = some (σf, rf, dd) := h
  refine ax_Mi.of (by decide +kernel) (Nat.le_of_ble_eq_true rfl) ?_
  intro p e s m args below meth c C hnm
  have C : ax_C p s m args meth c b_Sym_isWitness "ClauseProver$Symbols" 2 (some .boolean) D kA (va_A (cpW kA u w tx σ) s.heap.size) := C
  obtain ⟨F, hFe⟩ : ∃ F, F = dd + 1 := ⟨_, rfl⟩
  obtain ⟨Lo, hLoe⟩ : ∃ Lo, Lo = 48 * dd + 48 := ⟨_, rfl⟩
  obtain ⟨σ0, hσ0⟩ : ∃ s0, s0 = σ := ⟨_, rfl⟩
  suffices K : AW p l e { frames := F, cells := 0, slots := 0, locals := Lo } s m args below meth c D kA (va_A (cpW kA u w tx σ0) s.heap.size) 2 (ax_Qi below args s D kA (cpW kA u w tx σ0) 0 0 (fun r w1 => r = rf ∧ w1 = cpW kA u w tx σf)) 0 [(0, .ref (u 6)), (1, .int x0)] [] (cpW kA u w tx σ) 0 0 by rw [hFe, hLoe, hσ0] at K; exact ax_ls ([(0, .ref (u 6)), (1, .int x0)]) [0, 1] rfl K
  have C : ax_C p s m args meth c b_Sym_isWitness "ClauseProver$Symbols" 2 (some .boolean) D kA (va_A (cpW kA u w tx σ0) s.heap.size) := by rw [hσ0]; exact C
  have hF : dd + 1 ≤ F := by omega
  have hLo : 48 * dd + 48 ≤ Lo := by omega
  clear hFe hLoe hσ0
  refine ax_iload_n (pc := 0) C d_Sym_isWitness_0 rfl 1 rfl ?_
  refine ax_aload_n (pc := 1) C d_Sym_isWitness_1 rfl 0 rfl ?_
  refine cg_6_4_Sym_40 (pc := 2) C d_Sym_isWitness_2 ?_
  refine ax_icmp_le (pc := 5) C 12 d_Sym_isWitness_5 (by decide) (fun hc => ?_) (fun hc => ?_)
  · have h := it_t hc h
    refine ax_iconst (pc := 12) C 0 d_Sym_isWitness_12 (by decide +kernel) ?_
    refine ax_ls ([(0, .ref (u 6)), (1, .int x0)]) [0, 1] rfl ?_
    have hm : sC_Sym_isWitness_p13 l D kA u w tx σ [x0, 0] (σf, rf, _) := ih tC_Sym_isWitness_p13 _ _ _ h
    exact hm _ _ rfl p e s m args below meth c F Lo σ0 hF hLo C
  · have h := it_f hc h
    refine ax_iconst (pc := 8) C 1 d_Sym_isWitness_8 (by decide +kernel) ?_
    refine ax_goto (pc := 9) C 13 d_Sym_isWitness_9 (by decide) ?_
    refine ax_ls ([(0, .ref (u 6)), (1, .int x0)]) [0, 1] rfl ?_
    have hm : sC_Sym_isWitness_p13 l D kA u w tx σ [x0, 1] (σf, rf, _) := ih tC_Sym_isWitness_p13 _ _ _ h
    exact hm _ _ rfl p e s m args below meth c F Lo σ0 hF hLo C
set_option maxHeartbeats 4000000 in
set_option maxRecDepth 100000 in
theorem oC_Sym_isWitness_p13 (l : Launch) (D : va_G) (kA : Nat → ClassId) (u w : Nat → Nat) (tx : Value) (rec : mF) (ih : ∀ t σ xs res, rec t σ xs = some res → cSem l D kA u w tx t σ xs res) (σ : mS) (xs : List Int32) (res : mR) (h : u_2 (kC_Sym_isWitness_p13 rec σ) xs = some res) : sC_Sym_isWitness_p13 l D kA u w tx σ xs res := by
  intro x0 x1 hxs
  subst hxs
  obtain ⟨σf, rf, dd⟩ := res
  have h : (if x1 = 0 ∨ x1 = 1 then some (σ, x1, 0) else none) = some (σf, rf, dd) := h
  intro p e s m args below meth c F Lo σ0 hF hLo C
  dsimp only at hF hLo ⊢
  obtain ⟨hb, h⟩ := it_g h
  cases h
  exact ax_zret (pc := 13) C d_Sym_isWitness_13 (nb01 hb) ⟨rfl, rfl⟩ (Nat.le_refl _) (Nat.le_refl _)
set_option maxHeartbeats 4000000 in
set_option maxRecDepth 100000 in
theorem oC_Sym_same_40_40 (l : Launch) (D : va_G) (kA : Nat → ClassId) (u w : Nat → Nat) (tx : Value) (rec : mF) (ih : ∀ t σ xs res, rec t σ xs = some res → cSem l D kA u w tx t σ xs res) (σ : mS) (xs : List Int32) (res : mR) (h : u_2 (kC_Sym_same_40_40 rec σ) xs = some res) : sC_Sym_same_40_40 l D kA u w tx σ xs res := by
  intro x0 x1 hxs
  subst hxs
  obtain ⟨σf, rf, dd⟩ := res
  have h : (bnd (rec tC_Sym_after_40 σ [x0]) (fun σ1 r1 => if ((x1 : Int32) + ((r1 : Int32) - x0)) ≤ (Int32.ofNat 100) then (rec tC_Sym_same_40_40_p25 σ1 [x0, x1, ((r1 : Int32) - x0), 0]) else (some (σ1, 0, 0)))) = some (σf, rf, dd) := h
  refine ax_Mi.of (by decide +kernel) (Nat.le_of_ble_eq_true rfl) ?_
  intro p e s m args below meth c C hnm
  have C : ax_C p s m args meth c b_Sym_same "ClauseProver$Symbols" 7 (some .boolean) D kA (va_A (cpW kA u w tx σ) s.heap.size) := C
  obtain ⟨F, hFe⟩ : ∃ F, F = dd + 1 := ⟨_, rfl⟩
  obtain ⟨Lo, hLoe⟩ : ∃ Lo, Lo = 48 * dd + 48 := ⟨_, rfl⟩
  obtain ⟨σ0, hσ0⟩ : ∃ s0, s0 = σ := ⟨_, rfl⟩
  suffices K : AW p l e { frames := F, cells := 0, slots := 0, locals := Lo } s m args below meth c D kA (va_A (cpW kA u w tx σ0) s.heap.size) 7 (ax_Qi below args s D kA (cpW kA u w tx σ0) 0 0 (fun r w1 => r = rf ∧ w1 = cpW kA u w tx σf)) 0 [(0, .ref (u 6)), (1, .ref (u 40)), (2, .int x0), (3, .ref (u 40)), (4, .int x1)] [] (cpW kA u w tx σ) 0 0 by rw [hFe, hLoe, hσ0] at K; exact ax_ls ([(0, .ref (u 6)), (1, .ref (u 40)), (2, .int x0), (3, .ref (u 40)), (4, .int x1)]) [0, 1, 2, 3, 4] rfl K
  have C : ax_C p s m args meth c b_Sym_same "ClauseProver$Symbols" 7 (some .boolean) D kA (va_A (cpW kA u w tx σ0) s.heap.size) := by rw [hσ0]; exact C
  have hF : dd + 1 ≤ F := by omega
  have hLo : 48 * dd + 48 ≤ Lo := by omega
  clear hFe hLoe hσ0
  refine ax_aload_n (pc := 0) C d_Sym_same_0 rfl 0 rfl ?_
  refine ax_aload_n (pc := 1) C d_Sym_same_1 rfl 1 rfl ?_
  refine ax_iload_n (pc := 2) C d_Sym_same_2 rfl 2 rfl ?_
  obtain ⟨σ1, r1, d1_1, d2_1, h1, h, hd2, hd1⟩ := it_b h
  have hm : sC_Sym_after_40 l D kA u w tx σ [x0] (σ1, r1, d1_1) := ih tC_Sym_after_40 _ _ _ h1
  refine cc_Vi (pc := 3) C (r0 := r1) (σ2 := σ1) (As := [.ref (u 40), .int x0]) (rest := []) (hm _ rfl) ml_Sym_59 6 rfl rfl rfl d_Sym_same_3 rfl rfl (by dsimp only; omega) (by dsimp only; omega) (Nat.le_of_ble_eq_true rfl) (Nat.le_of_ble_eq_true rfl) (Nat.le_of_ble_eq_true rfl) ?_
  have hF : d2_1 + 1 ≤ F := by omega
  have hLo : 48 * d2_1 + 48 ≤ Lo := by omega
  refine ax_iload_n (pc := 6) C d_Sym_same_6 rfl 2 rfl ?_
  refine ax_isub (pc := 7) C d_Sym_same_7 ?_
  refine ax_istore (pc := 8) C d_Sym_same_8 (Nat.le_of_ble_eq_true rfl) ([(5, .int ((r1 : Int32) - x0)), (0, .ref (u 6)), (1, .ref (u 40)), (2, .int x0), (3, .ref (u 40)), (4, .int x1)]) rfl ?_
  refine ax_iload (pc := 10) C d_Sym_same_10 5 rfl ?_
  refine ax_iload (pc := 12) C d_Sym_same_12 0 rfl ?_
  refine ax_iadd (pc := 14) C d_Sym_same_14 ?_
  refine ax_aload_n (pc := 15) C d_Sym_same_15 rfl 4 rfl ?_
  refine cn_40 (pc := 16) C d_Sym_same_16 ?_
  refine ax_icmp_le (pc := 17) C 22 d_Sym_same_17 (by decide) (fun hc => ?_) (fun hc => ?_)
  · have h := it_t hc h
    refine ax_iconst (pc := 22) C 0 d_Sym_same_22 (by decide +kernel) ?_
    refine ax_istore (pc := 23) C d_Sym_same_23 (Nat.le_of_ble_eq_true rfl) ([(6, .int 0), (5, .int ((r1 : Int32) - x0)), (0, .ref (u 6)), (1, .ref (u 40)), (2, .int x0), (3, .ref (u 40)), (4, .int x1)]) rfl ?_
    refine ax_ls ([(0, .ref (u 6)), (1, .ref (u 40)), (2, .int x0), (3, .ref (u 40)), (4, .int x1), (5, .int ((r1 : Int32) - x0)), (6, .int 0)]) [2, 3, 4, 5, 6, 1, 0] rfl ?_
    have hm : sC_Sym_same_40_40_p25 l D kA u w tx σ1 [x0, x1, ((r1 : Int32) - x0), 0] (σf, rf, _) := ih tC_Sym_same_40_40_p25 _ _ _ h
    exact hm _ _ _ _ rfl p e s m args below meth c F Lo σ0 hF hLo C
  · have h := it_f hc h
    refine ax_iconst (pc := 20) C 0 d_Sym_same_20 (by decide +kernel) ?_
    cases h
    exact ax_zret (pc := 21) C d_Sym_same_21 rfl ⟨rfl, rfl⟩ (Nat.le_refl _) (Nat.le_refl _)
set_option maxHeartbeats 4000000 in
set_option maxRecDepth 100000 in
theorem oC_Sym_same_40_40_p25 (l : Launch) (D : va_G) (kA : Nat → ClassId) (u w : Nat → Nat) (tx : Value) (rec : mF) (ih : ∀ t σ xs res, rec t σ xs = some res → cSem l D kA u w tx t σ xs res) (σ : mS) (xs : List Int32) (res : mR) (h : u_4 (kC_Sym_same_40_40_p25 rec σ) xs = some res) : sC_Sym_same_40_40_p25 l D kA u w tx σ xs res := by
  intro x0 x1 x2 x3 hxs
  subst hxs
  obtain ⟨σf, rf, dd⟩ := res
  have h : (if x2 ≤ x3 then (some (σ, 1, 0)) else (if bin ((x0 : Int32) + x3) 100 = true then (if bin ((x1 : Int32) + x3) 100 = true then (if (σ.2.1 40 (Int32.toNatClampNeg ((x0 : Int32) + x3))) = (σ.2.1 40 (Int32.toNatClampNeg ((x1 : Int32) + x3))) then (rec tC_Sym_same_40_40_p25 σ [x0, x1, x2, (x3 + 1)]) else (some (σ, 0, 0))) else none) else none)) = some (σf, rf, dd) := h
  intro p e s m args below meth c F Lo σ0 hF hLo C
  dsimp only at hF hLo ⊢
  refine ax_iload (pc := 25) C d_Sym_same_25 6 rfl ?_
  refine ax_iload (pc := 27) C d_Sym_same_27 5 rfl ?_
  refine ax_icmp_ge (pc := 29) C 56 d_Sym_same_29 (by decide) (fun hc => ?_) (fun hc => ?_)
  · have h := it_t hc h
    refine ax_iconst (pc := 56) C 1 d_Sym_same_56 (by decide +kernel) ?_
    cases h
    exact ax_zret (pc := 57) C d_Sym_same_57 rfl ⟨rfl, rfl⟩ (Nat.le_refl _) (Nat.le_refl _)
  · have h := it_f hc h
    refine ax_aload_n (pc := 32) C d_Sym_same_32 rfl 1 rfl ?_
    refine ax_iload_n (pc := 33) C d_Sym_same_33 rfl 2 rfl ?_
    refine ax_iload (pc := 34) C d_Sym_same_34 6 rfl ?_
    refine ax_iadd (pc := 36) C d_Sym_same_36 ?_
    obtain ⟨hb, h⟩ := it_g h
    refine cl_40 (pc := 37) C d_Sym_same_37 (bin_in hb) ?_
    refine ax_aload_n (pc := 38) C d_Sym_same_38 rfl 3 rfl ?_
    refine ax_iload (pc := 39) C d_Sym_same_39 4 rfl ?_
    refine ax_iload (pc := 41) C d_Sym_same_41 6 rfl ?_
    refine ax_iadd (pc := 43) C d_Sym_same_43 ?_
    obtain ⟨hb, h⟩ := it_g h
    refine cl_40 (pc := 44) C d_Sym_same_44 (bin_in hb) ?_
    refine ax_icmp_eq (pc := 45) C 50 d_Sym_same_45 (by decide) (fun hc => ?_) (fun hc => ?_)
    · have h := it_t hc h
      refine ax_iinc (pc := 50) C (x3 + 1) d_Sym_same_50 6 rfl rfl (Nat.le_of_ble_eq_true rfl) ([(6, .int (x3 + 1)), (0, .ref (u 6)), (1, .ref (u 40)), (2, .int x0), (3, .ref (u 40)), (4, .int x1), (5, .int x2)]) rfl ?_
      refine ax_goto (pc := 53) C 25 d_Sym_same_53 (by decide) ?_
      refine ax_ls ([(0, .ref (u 6)), (1, .ref (u 40)), (2, .int x0), (3, .ref (u 40)), (4, .int x1), (5, .int x2), (6, .int (x3 + 1))]) [1, 2, 3, 4, 5, 6, 0] rfl ?_
      have hm : sC_Sym_same_40_40_p25 l D kA u w tx σ [x0, x1, x2, (x3 + 1)] (σf, rf, _) := ih tC_Sym_same_40_40_p25 _ _ _ h
      exact hm _ _ _ _ rfl p e s m args below meth c F Lo σ0 hF hLo C
    · have h := it_f hc h
      refine ax_iconst (pc := 48) C 0 d_Sym_same_48 (by decide +kernel) ?_
      cases h
      exact ax_zret (pc := 49) C d_Sym_same_49 rfl ⟨rfl, rfl⟩ (Nat.le_refl _) (Nat.le_refl _)
set_option maxHeartbeats 4000000 in
set_option maxRecDepth 100000 in
theorem oC_Sym_same_48_48 (l : Launch) (D : va_G) (kA : Nat → ClassId) (u w : Nat → Nat) (tx : Value) (rec : mF) (ih : ∀ t σ xs res, rec t σ xs = some res → cSem l D kA u w tx t σ xs res) (σ : mS) (xs : List Int32) (res : mR) (h : u_2 (kC_Sym_same_48_48 rec σ) xs = some res) : sC_Sym_same_48_48 l D kA u w tx σ xs res := by
  intro x0 x1 hxs
  subst hxs
  obtain ⟨σf, rf, dd⟩ := res
  have h : (bnd (rec tC_Sym_after_48 σ [x0]) (fun σ1 r1 => if ((x1 : Int32) + ((r1 : Int32) - x0)) ≤ (Int32.ofNat (σ1.2.2 48)) then (rec tC_Sym_same_48_48_p25 σ1 [x0, x1, ((r1 : Int32) - x0), 0]) else (some (σ1, 0, 0)))) = some (σf, rf, dd) := h
  refine ax_Mi.of (by decide +kernel) (Nat.le_of_ble_eq_true rfl) ?_
  intro p e s m args below meth c C hnm
  have C : ax_C p s m args meth c b_Sym_same "ClauseProver$Symbols" 7 (some .boolean) D kA (va_A (cpW kA u w tx σ) s.heap.size) := C
  obtain ⟨F, hFe⟩ : ∃ F, F = dd + 1 := ⟨_, rfl⟩
  obtain ⟨Lo, hLoe⟩ : ∃ Lo, Lo = 48 * dd + 48 := ⟨_, rfl⟩
  obtain ⟨σ0, hσ0⟩ : ∃ s0, s0 = σ := ⟨_, rfl⟩
  suffices K : AW p l e { frames := F, cells := 0, slots := 0, locals := Lo } s m args below meth c D kA (va_A (cpW kA u w tx σ0) s.heap.size) 7 (ax_Qi below args s D kA (cpW kA u w tx σ0) 0 0 (fun r w1 => r = rf ∧ w1 = cpW kA u w tx σf)) 0 [(0, .ref (u 6)), (1, .ref (w 48)), (2, .int x0), (3, .ref (w 48)), (4, .int x1)] [] (cpW kA u w tx σ) 0 0 by rw [hFe, hLoe, hσ0] at K; exact ax_ls ([(0, .ref (u 6)), (1, .ref (w 48)), (2, .int x0), (3, .ref (w 48)), (4, .int x1)]) [0, 1, 2, 3, 4] rfl K
  have C : ax_C p s m args meth c b_Sym_same "ClauseProver$Symbols" 7 (some .boolean) D kA (va_A (cpW kA u w tx σ0) s.heap.size) := by rw [hσ0]; exact C
  have hF : dd + 1 ≤ F := by omega
  have hLo : 48 * dd + 48 ≤ Lo := by omega
  clear hFe hLoe hσ0
  refine ax_aload_n (pc := 0) C d_Sym_same_0 rfl 0 rfl ?_
  refine ax_aload_n (pc := 1) C d_Sym_same_1 rfl 1 rfl ?_
  refine ax_iload_n (pc := 2) C d_Sym_same_2 rfl 2 rfl ?_
  obtain ⟨σ1, r1, d1_1, d2_1, h1, h, hd2, hd1⟩ := it_b h
  have hm : sC_Sym_after_48 l D kA u w tx σ [x0] (σ1, r1, d1_1) := ih tC_Sym_after_48 _ _ _ h1
  refine cc_Vi (pc := 3) C (r0 := r1) (σ2 := σ1) (As := [.ref (w 48), .int x0]) (rest := []) (hm _ rfl) ml_Sym_59 6 rfl rfl rfl d_Sym_same_3 rfl rfl (by dsimp only; omega) (by dsimp only; omega) (Nat.le_of_ble_eq_true rfl) (Nat.le_of_ble_eq_true rfl) (Nat.le_of_ble_eq_true rfl) ?_
  have hF : d2_1 + 1 ≤ F := by omega
  have hLo : 48 * d2_1 + 48 ≤ Lo := by omega
  refine ax_iload_n (pc := 6) C d_Sym_same_6 rfl 2 rfl ?_
  refine ax_isub (pc := 7) C d_Sym_same_7 ?_
  refine ax_istore (pc := 8) C d_Sym_same_8 (Nat.le_of_ble_eq_true rfl) ([(5, .int ((r1 : Int32) - x0)), (0, .ref (u 6)), (1, .ref (w 48)), (2, .int x0), (3, .ref (w 48)), (4, .int x1)]) rfl ?_
  refine ax_iload (pc := 10) C d_Sym_same_10 5 rfl ?_
  refine ax_iload (pc := 12) C d_Sym_same_12 0 rfl ?_
  refine ax_iadd (pc := 14) C d_Sym_same_14 ?_
  refine ax_aload_n (pc := 15) C d_Sym_same_15 rfl 4 rfl ?_
  refine cn_48 (pc := 16) C d_Sym_same_16 ?_
  refine ax_icmp_le (pc := 17) C 22 d_Sym_same_17 (by decide) (fun hc => ?_) (fun hc => ?_)
  · have h := it_t hc h
    refine ax_iconst (pc := 22) C 0 d_Sym_same_22 (by decide +kernel) ?_
    refine ax_istore (pc := 23) C d_Sym_same_23 (Nat.le_of_ble_eq_true rfl) ([(6, .int 0), (5, .int ((r1 : Int32) - x0)), (0, .ref (u 6)), (1, .ref (w 48)), (2, .int x0), (3, .ref (w 48)), (4, .int x1)]) rfl ?_
    refine ax_ls ([(0, .ref (u 6)), (1, .ref (w 48)), (2, .int x0), (3, .ref (w 48)), (4, .int x1), (5, .int ((r1 : Int32) - x0)), (6, .int 0)]) [2, 3, 4, 5, 6, 1, 0] rfl ?_
    have hm : sC_Sym_same_48_48_p25 l D kA u w tx σ1 [x0, x1, ((r1 : Int32) - x0), 0] (σf, rf, _) := ih tC_Sym_same_48_48_p25 _ _ _ h
    exact hm _ _ _ _ rfl p e s m args below meth c F Lo σ0 hF hLo C
  · have h := it_f hc h
    refine ax_iconst (pc := 20) C 0 d_Sym_same_20 (by decide +kernel) ?_
    cases h
    exact ax_zret (pc := 21) C d_Sym_same_21 rfl ⟨rfl, rfl⟩ (Nat.le_refl _) (Nat.le_refl _)
set_option maxHeartbeats 4000000 in
set_option maxRecDepth 100000 in
theorem oC_Sym_same_48_48_p25 (l : Launch) (D : va_G) (kA : Nat → ClassId) (u w : Nat → Nat) (tx : Value) (rec : mF) (ih : ∀ t σ xs res, rec t σ xs = some res → cSem l D kA u w tx t σ xs res) (σ : mS) (xs : List Int32) (res : mR) (h : u_4 (kC_Sym_same_48_48_p25 rec σ) xs = some res) : sC_Sym_same_48_48_p25 l D kA u w tx σ xs res := by
  intro x0 x1 x2 x3 hxs
  subst hxs
  obtain ⟨σf, rf, dd⟩ := res
  have h : (if x2 ≤ x3 then (some (σ, 1, 0)) else (if bin ((x0 : Int32) + x3) (σ.2.2 48) = true then (if bin ((x1 : Int32) + x3) (σ.2.2 48) = true then (if (σ.2.1 48 (Int32.toNatClampNeg ((x0 : Int32) + x3))) = (σ.2.1 48 (Int32.toNatClampNeg ((x1 : Int32) + x3))) then (rec tC_Sym_same_48_48_p25 σ [x0, x1, x2, (x3 + 1)]) else (some (σ, 0, 0))) else none) else none)) = some (σf, rf, dd) := h
  intro p e s m args below meth c F Lo σ0 hF hLo C
  dsimp only at hF hLo ⊢
  refine ax_iload (pc := 25) C d_Sym_same_25 6 rfl ?_
  refine ax_iload (pc := 27) C d_Sym_same_27 5 rfl ?_
  refine ax_icmp_ge (pc := 29) C 56 d_Sym_same_29 (by decide) (fun hc => ?_) (fun hc => ?_)
  · have h := it_t hc h
    refine ax_iconst (pc := 56) C 1 d_Sym_same_56 (by decide +kernel) ?_
    cases h
    exact ax_zret (pc := 57) C d_Sym_same_57 rfl ⟨rfl, rfl⟩ (Nat.le_refl _) (Nat.le_refl _)
  · have h := it_f hc h
    refine ax_aload_n (pc := 32) C d_Sym_same_32 rfl 1 rfl ?_
    refine ax_iload_n (pc := 33) C d_Sym_same_33 rfl 2 rfl ?_
    refine ax_iload (pc := 34) C d_Sym_same_34 6 rfl ?_
    refine ax_iadd (pc := 36) C d_Sym_same_36 ?_
    obtain ⟨hb, h⟩ := it_g h
    refine cl_48 (pc := 37) C d_Sym_same_37 (bin_in hb) ?_
    refine ax_aload_n (pc := 38) C d_Sym_same_38 rfl 3 rfl ?_
    refine ax_iload (pc := 39) C d_Sym_same_39 4 rfl ?_
    refine ax_iload (pc := 41) C d_Sym_same_41 6 rfl ?_
    refine ax_iadd (pc := 43) C d_Sym_same_43 ?_
    obtain ⟨hb, h⟩ := it_g h
    refine cl_48 (pc := 44) C d_Sym_same_44 (bin_in hb) ?_
    refine ax_icmp_eq (pc := 45) C 50 d_Sym_same_45 (by decide) (fun hc => ?_) (fun hc => ?_)
    · have h := it_t hc h
      refine ax_iinc (pc := 50) C (x3 + 1) d_Sym_same_50 6 rfl rfl (Nat.le_of_ble_eq_true rfl) ([(6, .int (x3 + 1)), (0, .ref (u 6)), (1, .ref (w 48)), (2, .int x0), (3, .ref (w 48)), (4, .int x1), (5, .int x2)]) rfl ?_
      refine ax_goto (pc := 53) C 25 d_Sym_same_53 (by decide) ?_
      refine ax_ls ([(0, .ref (u 6)), (1, .ref (w 48)), (2, .int x0), (3, .ref (w 48)), (4, .int x1), (5, .int x2), (6, .int (x3 + 1))]) [1, 2, 3, 4, 5, 6, 0] rfl ?_
      have hm : sC_Sym_same_48_48_p25 l D kA u w tx σ [x0, x1, x2, (x3 + 1)] (σf, rf, _) := ih tC_Sym_same_48_48_p25 _ _ _ h
      exact hm _ _ _ _ rfl p e s m args below meth c F Lo σ0 hF hLo C
    · have h := it_f hc h
      refine ax_iconst (pc := 48) C 0 d_Sym_same_48 (by decide +kernel) ?_
      cases h
      exact ax_zret (pc := 49) C d_Sym_same_49 rfl ⟨rfl, rfl⟩ (Nat.le_refl _) (Nat.le_refl _)
set_option maxHeartbeats 4000000 in
set_option maxRecDepth 100000 in
theorem oC_Sym_settles (l : Launch) (D : va_G) (kA : Nat → ClassId) (u w : Nat → Nat) (tx : Value) (rec : mF) (ih : ∀ t σ xs res, rec t σ xs = some res → cSem l D kA u w tx t σ xs res) (σ : mS) (xs : List Int32) (res : mR) (h : u_3 (kC_Sym_settles rec σ) xs = some res) : sC_Sym_settles l D kA u w tx σ xs res := by
  intro x0 x1 x2 hxs
  subst hxs
  obtain ⟨σf, rf, dd⟩ := res
  have h : (if bin x0 551 = true then (if (σ.2.1 12 (Int32.toNatClampNeg x0)) = 0 then (if bin x0 551 = true then (lt_ (mA σ 12 (Int32.toNatClampNeg x0) x1) (fun σ1 => if bin x0 551 = true then (lt_ (mA σ1 7 (Int32.toNatClampNeg x0) x2) (fun σ2 => rec tC_Sym_settles_p23 σ2 [x0, x1, x2])) else none)) else none) else (rec tC_Sym_settles_p23 σ [x0, x1, x2])) else none) = some (σf, rf, dd) := h
  refine ax_Mi.of (by decide +kernel) (Nat.le_of_ble_eq_true rfl) ?_
  intro p e s m args below meth c C hnm
  have C : ax_C p s m args meth c b_Sym_settles "ClauseProver$Symbols" 4 (some .boolean) D kA (va_A (cpW kA u w tx σ) s.heap.size) := C
  obtain ⟨F, hFe⟩ : ∃ F, F = dd + 1 := ⟨_, rfl⟩
  obtain ⟨Lo, hLoe⟩ : ∃ Lo, Lo = 48 * dd + 48 := ⟨_, rfl⟩
  obtain ⟨σ0, hσ0⟩ : ∃ s0, s0 = σ := ⟨_, rfl⟩
  suffices K : AW p l e { frames := F, cells := 0, slots := 0, locals := Lo } s m args below meth c D kA (va_A (cpW kA u w tx σ0) s.heap.size) 4 (ax_Qi below args s D kA (cpW kA u w tx σ0) 0 0 (fun r w1 => r = rf ∧ w1 = cpW kA u w tx σf)) 0 [(0, .ref (u 6)), (1, .int x0), (2, .int x1), (3, .int x2)] [] (cpW kA u w tx σ) 0 0 by rw [hFe, hLoe, hσ0] at K; exact ax_ls ([(0, .ref (u 6)), (1, .int x0), (2, .int x1), (3, .int x2)]) [0, 1, 2, 3] rfl K
  have C : ax_C p s m args meth c b_Sym_settles "ClauseProver$Symbols" 4 (some .boolean) D kA (va_A (cpW kA u w tx σ0) s.heap.size) := by rw [hσ0]; exact C
  have hF : dd + 1 ≤ F := by omega
  have hLo : 48 * dd + 48 ≤ Lo := by omega
  clear hFe hLoe hσ0
  refine ax_aload_n (pc := 0) C d_Sym_settles_0 rfl 0 rfl ?_
  refine cg_6_6_Sym_30 (pc := 1) C d_Sym_settles_1 ?_
  refine ax_iload_n (pc := 4) C d_Sym_settles_4 rfl 1 rfl ?_
  obtain ⟨hb, h⟩ := it_g h
  refine cl_12 (pc := 5) C d_Sym_settles_5 (bin_in hb) ?_
  refine ax_if_ne (pc := 6) C 23 d_Sym_settles_6 (by decide) (fun hc => ?_) (fun hc => ?_)
  · have h := it_f hc h
    refine ax_ls ([(0, .ref (u 6)), (1, .int x0), (2, .int x1), (3, .int x2)]) [0, 1, 2, 3] rfl ?_
    have hm : sC_Sym_settles_p23 l D kA u w tx σ [x0, x1, x2] (σf, rf, _) := ih tC_Sym_settles_p23 _ _ _ h
    exact hm _ _ _ rfl p e s m args below meth c F Lo σ0 hF hLo C
  · have h := it_t hc h
    refine ax_aload_n (pc := 9) C d_Sym_settles_9 rfl 0 rfl ?_
    refine cg_6_6_Sym_30 (pc := 10) C d_Sym_settles_10 ?_
    refine ax_iload_n (pc := 13) C d_Sym_settles_13 rfl 1 rfl ?_
    refine ax_iload_n (pc := 14) C d_Sym_settles_14 rfl 2 rfl ?_
    obtain ⟨hb, h⟩ := it_g h
    refine cs_12 (pc := 15) C d_Sym_settles_15 (bin_in hb) ?_
    have h := it_l h
    generalize mA σ 12 (Int32.toNatClampNeg x0) x1 = σ1 at h ⊢
    refine ax_aload_n (pc := 16) C d_Sym_settles_16 rfl 0 rfl ?_
    refine cg_6_0_Sym_9 (pc := 17) C d_Sym_settles_17 ?_
    refine ax_iload_n (pc := 20) C d_Sym_settles_20 rfl 1 rfl ?_
    refine ax_iload_n (pc := 21) C d_Sym_settles_21 rfl 3 rfl ?_
    obtain ⟨hb, h⟩ := it_g h
    refine cs_7 (pc := 22) C d_Sym_settles_22 (bin_in hb) ?_
    have h := it_l h
    generalize mA σ1 7 (Int32.toNatClampNeg x0) x2 = σ2 at h ⊢
    refine ax_ls ([(0, .ref (u 6)), (1, .int x0), (2, .int x1), (3, .int x2)]) [0, 1, 2, 3] rfl ?_
    have hm : sC_Sym_settles_p23 l D kA u w tx σ2 [x0, x1, x2] (σf, rf, _) := ih tC_Sym_settles_p23 _ _ _ h
    exact hm _ _ _ rfl p e s m args below meth c F Lo σ0 hF hLo C
set_option maxHeartbeats 4000000 in
set_option maxRecDepth 100000 in
theorem oC_Sym_settles_p23 (l : Launch) (D : va_G) (kA : Nat → ClassId) (u w : Nat → Nat) (tx : Value) (rec : mF) (ih : ∀ t σ xs res, rec t σ xs = some res → cSem l D kA u w tx t σ xs res) (σ : mS) (xs : List Int32) (res : mR) (h : u_3 (kC_Sym_settles_p23 rec σ) xs = some res) : sC_Sym_settles_p23 l D kA u w tx σ xs res := by
  intro x0 x1 x2 hxs
  subst hxs
  obtain ⟨σf, rf, dd⟩ := res
  have h : (if bin x0 551 = true then (if (σ.2.1 12 (Int32.toNatClampNeg x0)) = x1 then (if bin x0 551 = true then (if (σ.2.1 7 (Int32.toNatClampNeg x0)) = x2 then (rec tC_Sym_settles_p48 σ [x0, x1, x2, 1]) else (rec tC_Sym_settles_p47 σ [x0, x1, x2])) else none) else (rec tC_Sym_settles_p47 σ [x0, x1, x2])) else none) = some (σf, rf, dd) := h
  intro p e s m args below meth c F Lo σ0 hF hLo C
  dsimp only at hF hLo ⊢
  refine ax_aload_n (pc := 23) C d_Sym_settles_23 rfl 0 rfl ?_
  refine cg_6_6_Sym_30 (pc := 24) C d_Sym_settles_24 ?_
  refine ax_iload_n (pc := 27) C d_Sym_settles_27 rfl 1 rfl ?_
  obtain ⟨hb, h⟩ := it_g h
  refine cl_12 (pc := 28) C d_Sym_settles_28 (bin_in hb) ?_
  refine ax_iload_n (pc := 29) C d_Sym_settles_29 rfl 2 rfl ?_
  refine ax_icmp_ne (pc := 30) C 47 d_Sym_settles_30 (by decide) (fun hc => ?_) (fun hc => ?_)
  · have h := it_f hc h
    refine ax_ls ([(0, .ref (u 6)), (1, .int x0), (2, .int x1), (3, .int x2)]) [0, 1, 2, 3] rfl ?_
    have hm : sC_Sym_settles_p47 l D kA u w tx σ [x0, x1, x2] (σf, rf, _) := ih tC_Sym_settles_p47 _ _ _ h
    exact hm _ _ _ rfl p e s m args below meth c F Lo σ0 hF hLo C
  · have h := it_t hc h
    refine ax_aload_n (pc := 33) C d_Sym_settles_33 rfl 0 rfl ?_
    refine cg_6_0_Sym_9 (pc := 34) C d_Sym_settles_34 ?_
    refine ax_iload_n (pc := 37) C d_Sym_settles_37 rfl 1 rfl ?_
    obtain ⟨hb, h⟩ := it_g h
    refine cl_7 (pc := 38) C d_Sym_settles_38 (bin_in hb) ?_
    refine ax_iload_n (pc := 39) C d_Sym_settles_39 rfl 3 rfl ?_
    refine ax_icmp_ne (pc := 40) C 47 d_Sym_settles_40 (by decide) (fun hc => ?_) (fun hc => ?_)
    · have h := it_f hc h
      refine ax_ls ([(0, .ref (u 6)), (1, .int x0), (2, .int x1), (3, .int x2)]) [0, 1, 2, 3] rfl ?_
      have hm : sC_Sym_settles_p47 l D kA u w tx σ [x0, x1, x2] (σf, rf, _) := ih tC_Sym_settles_p47 _ _ _ h
      exact hm _ _ _ rfl p e s m args below meth c F Lo σ0 hF hLo C
    · have h := it_t hc h
      refine ax_iconst (pc := 43) C 1 d_Sym_settles_43 (by decide +kernel) ?_
      refine ax_goto (pc := 44) C 48 d_Sym_settles_44 (by decide) ?_
      refine ax_ls ([(0, .ref (u 6)), (1, .int x0), (2, .int x1), (3, .int x2)]) [0, 1, 2, 3] rfl ?_
      have hm : sC_Sym_settles_p48 l D kA u w tx σ [x0, x1, x2, 1] (σf, rf, _) := ih tC_Sym_settles_p48 _ _ _ h
      exact hm _ _ _ _ rfl p e s m args below meth c F Lo σ0 hF hLo C
set_option maxHeartbeats 4000000 in
set_option maxRecDepth 100000 in
theorem oC_Sym_settles_p47 (l : Launch) (D : va_G) (kA : Nat → ClassId) (u w : Nat → Nat) (tx : Value) (rec : mF) (ih : ∀ t σ xs res, rec t σ xs = some res → cSem l D kA u w tx t σ xs res) (σ : mS) (xs : List Int32) (res : mR) (h : u_3 (kC_Sym_settles_p47 rec σ) xs = some res) : sC_Sym_settles_p47 l D kA u w tx σ xs res := by
  intro x0 x1 x2 hxs
  subst hxs
  obtain ⟨σf, rf, dd⟩ := res
  have h : (rec tC_Sym_settles_p48 σ [x0, x1, x2, 0]) = some (σf, rf, dd) := h
  intro p e s m args below meth c F Lo σ0 hF hLo C
  dsimp only at hF hLo ⊢
  refine ax_iconst (pc := 47) C 0 d_Sym_settles_47 (by decide +kernel) ?_
  refine ax_ls ([(0, .ref (u 6)), (1, .int x0), (2, .int x1), (3, .int x2)]) [0, 1, 2, 3] rfl ?_
  have hm : sC_Sym_settles_p48 l D kA u w tx σ [x0, x1, x2, 0] (σf, rf, _) := ih tC_Sym_settles_p48 _ _ _ h
  exact hm _ _ _ _ rfl p e s m args below meth c F Lo σ0 hF hLo C
set_option maxHeartbeats 4000000 in
set_option maxRecDepth 100000 in
theorem oC_Sym_settles_p48 (l : Launch) (D : va_G) (kA : Nat → ClassId) (u w : Nat → Nat) (tx : Value) (rec : mF) (ih : ∀ t σ xs res, rec t σ xs = some res → cSem l D kA u w tx t σ xs res) (σ : mS) (xs : List Int32) (res : mR) (h : u_4 (kC_Sym_settles_p48 rec σ) xs = some res) : sC_Sym_settles_p48 l D kA u w tx σ xs res := by
  intro x0 x1 x2 x3 hxs
  subst hxs
  obtain ⟨σf, rf, dd⟩ := res
  have h : (if x3 = 0 ∨ x3 = 1 then some (σ, x3, 0) else none) = some (σf, rf, dd) := h
  intro p e s m args below meth c F Lo σ0 hF hLo C
  dsimp only at hF hLo ⊢
  obtain ⟨hb, h⟩ := it_g h
  cases h
  exact ax_zret (pc := 48) C d_Sym_settles_48 (nb01 hb) ⟨rfl, rfl⟩ (Nat.le_refl _) (Nat.le_refl _)
set_option maxHeartbeats 4000000 in
set_option maxRecDepth 100000 in
theorem oC_Sym_toDifference_40_68 (l : Launch) (D : va_G) (kA : Nat → ClassId) (u w : Nat → Nat) (tx : Value) (rec : mF) (ih : ∀ t σ xs res, rec t σ xs = some res → cSem l D kA u w tx t σ xs res) (σ : mS) (xs : List Int32) (res : mR) (h : u_3 (kC_Sym_toDifference_40_68 rec σ) xs = some res) : sC_Sym_toDifference_40_68 l D kA u w tx σ xs res := by
  intro x0 x1 x2 hxs
  subst hxs
  obtain ⟨σf, rf, dd⟩ := res
  have h : (rec tC_Sym_toDifference_40_68_p3 σ [x0, x1, x2, 1]) = some (σf, rf, dd) := h
  refine ax_Mi.of (by decide +kernel) (Nat.le_of_ble_eq_true rfl) ?_
  intro p e s m args below meth c C hnm
  have C : ax_C p s m args meth c b_Sym_toDifference "ClauseProver$Symbols" 9 (some .int) D kA (va_A (cpW kA u w tx σ) s.heap.size) := C
  obtain ⟨F, hFe⟩ : ∃ F, F = dd + 1 := ⟨_, rfl⟩
  obtain ⟨Lo, hLoe⟩ : ∃ Lo, Lo = 48 * dd + 48 := ⟨_, rfl⟩
  obtain ⟨σ0, hσ0⟩ : ∃ s0, s0 = σ := ⟨_, rfl⟩
  suffices K : AW p l e { frames := F, cells := 0, slots := 0, locals := Lo } s m args below meth c D kA (va_A (cpW kA u w tx σ0) s.heap.size) 9 (ax_Qi below args s D kA (cpW kA u w tx σ0) 0 0 (fun r w1 => r = rf ∧ w1 = cpW kA u w tx σf)) 0 [(0, .ref (u 6)), (1, .ref (u 40)), (2, .int x0), (3, .ref (u 68)), (4, .int x1), (5, .int x2)] [] (cpW kA u w tx σ) 0 0 by rw [hFe, hLoe, hσ0] at K; exact ax_ls ([(0, .ref (u 6)), (1, .ref (u 40)), (2, .int x0), (3, .ref (u 68)), (4, .int x1), (5, .int x2)]) [0, 1, 2, 3, 4, 5] rfl K
  have C : ax_C p s m args meth c b_Sym_toDifference "ClauseProver$Symbols" 9 (some .int) D kA (va_A (cpW kA u w tx σ0) s.heap.size) := by rw [hσ0]; exact C
  have hF : dd + 1 ≤ F := by omega
  have hLo : 48 * dd + 48 ≤ Lo := by omega
  clear hFe hLoe hσ0
  refine ax_iconst (pc := 0) C 1 d_Sym_toDifference_0 (by decide +kernel) ?_
  refine ax_istore (pc := 1) C d_Sym_toDifference_1 (Nat.le_of_ble_eq_true rfl) ([(6, .int 1), (0, .ref (u 6)), (1, .ref (u 40)), (2, .int x0), (3, .ref (u 68)), (4, .int x1), (5, .int x2)]) rfl ?_
  refine ax_ls ([(0, .ref (u 6)), (1, .ref (u 40)), (2, .int x0), (3, .ref (u 68)), (4, .int x1), (5, .int x2), (6, .int 1)]) [1, 2, 3, 4, 5, 6, 0] rfl ?_
  have hm : sC_Sym_toDifference_40_68_p3 l D kA u w tx σ [x0, x1, x2, 1] (σf, rf, _) := ih tC_Sym_toDifference_40_68_p3 _ _ _ h
  exact hm _ _ _ _ rfl p e s m args below meth c F Lo σ0 hF hLo C
set_option maxHeartbeats 4000000 in
set_option maxRecDepth 100000 in
theorem oC_Sym_toDifference_40_68_p3 (l : Launch) (D : va_G) (kA : Nat → ClassId) (u w : Nat → Nat) (tx : Value) (rec : mF) (ih : ∀ t σ xs res, rec t σ xs = some res → cSem l D kA u w tx t σ xs res) (σ : mS) (xs : List Int32) (res : mR) (h : u_4 (kC_Sym_toDifference_40_68_p3 rec σ) xs = some res) : sC_Sym_toDifference_40_68_p3 l D kA u w tx σ xs res := by
  intro x0 x1 x2 x3 hxs
  subst hxs
  obtain ⟨σf, rf, dd⟩ := res
  have h : (if x2 ≤ x3 then (rec tC_Sym_toDifference_40_68_p32 σ [x0, x1, x2, x3]) else (if bin ((x0 : Int32) + x3) 100 = true then (if bin ((x1 : Int32) + x3) 100 = true then (if (σ.2.1 40 (Int32.toNatClampNeg ((x0 : Int32) + x3))) = (σ.2.1 68 (Int32.toNatClampNeg ((x1 : Int32) + x3))) then (rec tC_Sym_toDifference_40_68_p3 σ [x0, x1, x2, (x3 + 1)]) else (rec tC_Sym_toDifference_40_68_p32 σ [x0, x1, x2, x3])) else none) else none)) = some (σf, rf, dd) := h
  intro p e s m args below meth c F Lo σ0 hF hLo C
  dsimp only at hF hLo ⊢
  refine ax_iload (pc := 3) C d_Sym_toDifference_3 6 rfl ?_
  refine ax_iload (pc := 5) C d_Sym_toDifference_5 5 rfl ?_
  refine ax_icmp_ge (pc := 7) C 32 d_Sym_toDifference_7 (by decide) (fun hc => ?_) (fun hc => ?_)
  · have h := it_t hc h
    refine ax_ls ([(0, .ref (u 6)), (1, .ref (u 40)), (2, .int x0), (3, .ref (u 68)), (4, .int x1), (5, .int x2), (6, .int x3)]) [0, 1, 2, 3, 4, 5, 6] rfl ?_
    have hm : sC_Sym_toDifference_40_68_p32 l D kA u w tx σ [x0, x1, x2, x3] (σf, rf, _) := ih tC_Sym_toDifference_40_68_p32 _ _ _ h
    exact hm _ _ _ _ rfl p e s m args below meth c F Lo σ0 hF hLo C
  · have h := it_f hc h
    refine ax_aload_n (pc := 10) C d_Sym_toDifference_10 rfl 1 rfl ?_
    refine ax_iload_n (pc := 11) C d_Sym_toDifference_11 rfl 2 rfl ?_
    refine ax_iload (pc := 12) C d_Sym_toDifference_12 6 rfl ?_
    refine ax_iadd (pc := 14) C d_Sym_toDifference_14 ?_
    obtain ⟨hb, h⟩ := it_g h
    refine cl_40 (pc := 15) C d_Sym_toDifference_15 (bin_in hb) ?_
    refine ax_aload_n (pc := 16) C d_Sym_toDifference_16 rfl 3 rfl ?_
    refine ax_iload (pc := 17) C d_Sym_toDifference_17 4 rfl ?_
    refine ax_iload (pc := 19) C d_Sym_toDifference_19 6 rfl ?_
    refine ax_iadd (pc := 21) C d_Sym_toDifference_21 ?_
    obtain ⟨hb, h⟩ := it_g h
    refine cl_68 (pc := 22) C d_Sym_toDifference_22 (bin_in hb) ?_
    refine ax_icmp_ne (pc := 23) C 32 d_Sym_toDifference_23 (by decide) (fun hc => ?_) (fun hc => ?_)
    · have h := it_f hc h
      refine ax_ls ([(0, .ref (u 6)), (1, .ref (u 40)), (2, .int x0), (3, .ref (u 68)), (4, .int x1), (5, .int x2), (6, .int x3)]) [0, 1, 2, 3, 4, 5, 6] rfl ?_
      have hm : sC_Sym_toDifference_40_68_p32 l D kA u w tx σ [x0, x1, x2, x3] (σf, rf, _) := ih tC_Sym_toDifference_40_68_p32 _ _ _ h
      exact hm _ _ _ _ rfl p e s m args below meth c F Lo σ0 hF hLo C
    · have h := it_t hc h
      refine ax_iinc (pc := 26) C (x3 + 1) d_Sym_toDifference_26 6 rfl rfl (Nat.le_of_ble_eq_true rfl) ([(6, .int (x3 + 1)), (0, .ref (u 6)), (1, .ref (u 40)), (2, .int x0), (3, .ref (u 68)), (4, .int x1), (5, .int x2)]) rfl ?_
      refine ax_goto (pc := 29) C 3 d_Sym_toDifference_29 (by decide) ?_
      refine ax_ls ([(0, .ref (u 6)), (1, .ref (u 40)), (2, .int x0), (3, .ref (u 68)), (4, .int x1), (5, .int x2), (6, .int (x3 + 1))]) [1, 2, 3, 4, 5, 6, 0] rfl ?_
      have hm : sC_Sym_toDifference_40_68_p3 l D kA u w tx σ [x0, x1, x2, (x3 + 1)] (σf, rf, _) := ih tC_Sym_toDifference_40_68_p3 _ _ _ h
      exact hm _ _ _ _ rfl p e s m args below meth c F Lo σ0 hF hLo C
set_option maxHeartbeats 4000000 in
set_option maxRecDepth 100000 in
theorem oC_Sym_toDifference_40_68_p32 (l : Launch) (D : va_G) (kA : Nat → ClassId) (u w : Nat → Nat) (tx : Value) (rec : mF) (ih : ∀ t σ xs res, rec t σ xs = some res → cSem l D kA u w tx t σ xs res) (σ : mS) (xs : List Int32) (res : mR) (h : u_4 (kC_Sym_toDifference_40_68_p32 rec σ) xs = some res) : sC_Sym_toDifference_40_68_p32 l D kA u w tx σ xs res := by
  intro x0 x1 x2 x3 hxs
  subst hxs
  obtain ⟨σf, rf, dd⟩ := res
  have h : (rec tC_Sym_toDifference_40_68_p35 σ [x0, x1, x2, x3, 1]) = some (σf, rf, dd) := h
  intro p e s m args below meth c F Lo σ0 hF hLo C
  dsimp only at hF hLo ⊢
  refine ax_iconst (pc := 32) C 1 d_Sym_toDifference_32 (by decide +kernel) ?_
  refine ax_istore (pc := 33) C d_Sym_toDifference_33 (Nat.le_of_ble_eq_true rfl) ([(7, .int 1), (0, .ref (u 6)), (1, .ref (u 40)), (2, .int x0), (3, .ref (u 68)), (4, .int x1), (5, .int x2), (6, .int x3)]) rfl ?_
  refine ax_ls ([(0, .ref (u 6)), (1, .ref (u 40)), (2, .int x0), (3, .ref (u 68)), (4, .int x1), (5, .int x2), (6, .int x3), (7, .int 1)]) [1, 2, 3, 4, 5, 6, 7, 0] rfl ?_
  have hm : sC_Sym_toDifference_40_68_p35 l D kA u w tx σ [x0, x1, x2, x3, 1] (σf, rf, _) := ih tC_Sym_toDifference_40_68_p35 _ _ _ h
  exact hm _ _ _ _ _ rfl p e s m args below meth c F Lo σ0 hF hLo C
set_option maxHeartbeats 4000000 in
set_option maxRecDepth 100000 in
theorem oC_Sym_toDifference_40_68_p35 (l : Launch) (D : va_G) (kA : Nat → ClassId) (u w : Nat → Nat) (tx : Value) (rec : mF) (ih : ∀ t σ xs res, rec t σ xs = some res → cSem l D kA u w tx t σ xs res) (σ : mS) (xs : List Int32) (res : mR) (h : u_5 (kC_Sym_toDifference_40_68_p35 rec σ) xs = some res) : sC_Sym_toDifference_40_68_p35 l D kA u w tx σ xs res := by
  intro x0 x1 x2 x3 x4 hxs
  subst hxs
  obtain ⟨σf, rf, dd⟩ := res
  have h : (if x2 ≤ x3 then (rec tC_Sym_toDifference_40_68_p79 σ [x0, x1, x2, x3, x4]) else (if x2 ≤ x4 then (rec tC_Sym_toDifference_40_68_p79 σ [x0, x1, x2, x3, x4]) else (bnd (rec tC_Sym_after_40 σ [((x0 : Int32) + x4)]) (fun σ1 r1 => if ((r1 : Int32) - x0) ≤ x3 then (rec tC_Sym_toDifference_40_68_p35 σ1 [x0, x1, x2, x3, ((r1 : Int32) - x0)]) else (some (σ1, x4, 0)))))) = some (σf, rf, dd) := h
  intro p e s m args below meth c F Lo σ0 hF hLo C
  dsimp only at hF hLo ⊢
  refine ax_iload (pc := 35) C d_Sym_toDifference_35 6 rfl ?_
  refine ax_iload (pc := 37) C d_Sym_toDifference_37 5 rfl ?_
  refine ax_icmp_ge (pc := 39) C 79 d_Sym_toDifference_39 (by decide) (fun hc => ?_) (fun hc => ?_)
  · have h := it_t hc h
    refine ax_ls ([(0, .ref (u 6)), (1, .ref (u 40)), (2, .int x0), (3, .ref (u 68)), (4, .int x1), (5, .int x2), (6, .int x3), (7, .int x4)]) [0, 1, 2, 3, 4, 5, 6, 7] rfl ?_
    have hm : sC_Sym_toDifference_40_68_p79 l D kA u w tx σ [x0, x1, x2, x3, x4] (σf, rf, _) := ih tC_Sym_toDifference_40_68_p79 _ _ _ h
    exact hm _ _ _ _ _ rfl p e s m args below meth c F Lo σ0 hF hLo C
  · have h := it_f hc h
    refine ax_iload (pc := 42) C d_Sym_toDifference_42 7 rfl ?_
    refine ax_iload (pc := 44) C d_Sym_toDifference_44 5 rfl ?_
    refine ax_icmp_ge (pc := 46) C 79 d_Sym_toDifference_46 (by decide) (fun hc => ?_) (fun hc => ?_)
    · have h := it_t hc h
      refine ax_ls ([(0, .ref (u 6)), (1, .ref (u 40)), (2, .int x0), (3, .ref (u 68)), (4, .int x1), (5, .int x2), (6, .int x3), (7, .int x4)]) [0, 1, 2, 3, 4, 5, 6, 7] rfl ?_
      have hm : sC_Sym_toDifference_40_68_p79 l D kA u w tx σ [x0, x1, x2, x3, x4] (σf, rf, _) := ih tC_Sym_toDifference_40_68_p79 _ _ _ h
      exact hm _ _ _ _ _ rfl p e s m args below meth c F Lo σ0 hF hLo C
    · have h := it_f hc h
      refine ax_aload_n (pc := 49) C d_Sym_toDifference_49 rfl 0 rfl ?_
      refine ax_aload_n (pc := 50) C d_Sym_toDifference_50 rfl 1 rfl ?_
      refine ax_iload_n (pc := 51) C d_Sym_toDifference_51 rfl 2 rfl ?_
      refine ax_iload (pc := 52) C d_Sym_toDifference_52 7 rfl ?_
      refine ax_iadd (pc := 54) C d_Sym_toDifference_54 ?_
      obtain ⟨σ1, r1, d1_1, d2_1, h1, h, hd2, hd1⟩ := it_b h
      have hm : sC_Sym_after_40 l D kA u w tx σ [((x0 : Int32) + x4)] (σ1, r1, d1_1) := ih tC_Sym_after_40 _ _ _ h1
      refine cc_Vi (pc := 55) C (r0 := r1) (σ2 := σ1) (As := [.ref (u 40), .int ((x0 : Int32) + x4)]) (rest := []) (hm _ rfl) ml_Sym_59 6 rfl rfl rfl d_Sym_toDifference_55 rfl rfl (by dsimp only; omega) (by dsimp only; omega) (Nat.le_of_ble_eq_true rfl) (Nat.le_of_ble_eq_true rfl) (Nat.le_of_ble_eq_true rfl) ?_
      have hF : d2_1 + 1 ≤ F := by omega
      have hLo : 48 * d2_1 + 48 ≤ Lo := by omega
      refine ax_iload_n (pc := 58) C d_Sym_toDifference_58 rfl 2 rfl ?_
      refine ax_isub (pc := 59) C d_Sym_toDifference_59 ?_
      refine ax_istore (pc := 60) C d_Sym_toDifference_60 (Nat.le_of_ble_eq_true rfl) ([(8, .int ((r1 : Int32) - x0)), (0, .ref (u 6)), (1, .ref (u 40)), (2, .int x0), (3, .ref (u 68)), (4, .int x1), (5, .int x2), (6, .int x3), (7, .int x4)]) rfl ?_
      refine ax_iload (pc := 62) C d_Sym_toDifference_62 7 rfl ?_
      refine ax_iload (pc := 64) C d_Sym_toDifference_64 0 rfl ?_
      refine ax_icmp_ge (pc := 66) C 72 d_Sym_toDifference_66 (by decide) (fun hc => ?_) (fun hc => ?_)
      · have h := it_t hc h
        refine ax_iload (pc := 72) C d_Sym_toDifference_72 0 rfl ?_
        refine ax_istore (pc := 74) C d_Sym_toDifference_74 (Nat.le_of_ble_eq_true rfl) ([(7, .int ((r1 : Int32) - x0)), (8, .int ((r1 : Int32) - x0)), (0, .ref (u 6)), (1, .ref (u 40)), (2, .int x0), (3, .ref (u 68)), (4, .int x1), (5, .int x2), (6, .int x3)]) rfl ?_
        refine ax_goto (pc := 76) C 35 d_Sym_toDifference_76 (by decide) ?_
        refine ax_ls ([(0, .ref (u 6)), (1, .ref (u 40)), (2, .int x0), (3, .ref (u 68)), (4, .int x1), (5, .int x2), (6, .int x3), (7, .int ((r1 : Int32) - x0))]) [2, 3, 4, 5, 6, 7, 8, 0] rfl ?_
        have hm : sC_Sym_toDifference_40_68_p35 l D kA u w tx σ1 [x0, x1, x2, x3, ((r1 : Int32) - x0)] (σf, rf, _) := ih tC_Sym_toDifference_40_68_p35 _ _ _ h
        exact hm _ _ _ _ _ rfl p e s m args below meth c F Lo σ0 hF hLo C
      · have h := it_f hc h
        refine ax_iload (pc := 69) C d_Sym_toDifference_69 8 rfl ?_
        cases h
        exact ax_iret (pc := 71) C d_Sym_toDifference_71 ⟨rfl, rfl⟩ (Nat.le_refl _) (Nat.le_refl _)
set_option maxHeartbeats 4000000 in
set_option maxRecDepth 100000 in
theorem oC_Sym_toDifference_40_68_p79 (l : Launch) (D : va_G) (kA : Nat → ClassId) (u w : Nat → Nat) (tx : Value) (rec : mF) (ih : ∀ t σ xs res, rec t σ xs = some res → cSem l D kA u w tx t σ xs res) (σ : mS) (xs : List Int32) (res : mR) (h : u_5 (kC_Sym_toDifference_40_68_p79 rec σ) xs = some res) : sC_Sym_toDifference_40_68_p79 l D kA u w tx σ xs res := by
  intro x0 x1 x2 x3 x4 hxs
  subst hxs
  obtain ⟨σf, rf, dd⟩ := res
  have h : (some (σ, 0, 0)) = some (σf, rf, dd) := h
  intro p e s m args below meth c F Lo σ0 hF hLo C
  dsimp only at hF hLo ⊢
  refine ax_iconst (pc := 79) C 0 d_Sym_toDifference_79 (by decide +kernel) ?_
  cases h
  exact ax_iret (pc := 80) C d_Sym_toDifference_80 ⟨rfl, rfl⟩ (Nat.le_refl _) (Nat.le_refl _)
set_option maxHeartbeats 4000000 in
set_option maxRecDepth 100000 in
theorem oC_Sym_toDifference_48_48 (l : Launch) (D : va_G) (kA : Nat → ClassId) (u w : Nat → Nat) (tx : Value) (rec : mF) (ih : ∀ t σ xs res, rec t σ xs = some res → cSem l D kA u w tx t σ xs res) (σ : mS) (xs : List Int32) (res : mR) (h : u_3 (kC_Sym_toDifference_48_48 rec σ) xs = some res) : sC_Sym_toDifference_48_48 l D kA u w tx σ xs res := by
  intro x0 x1 x2 hxs
  subst hxs
  obtain ⟨σf, rf, dd⟩ := res
  have h : (rec tC_Sym_toDifference_48_48_p3 σ [x0, x1, x2, 1]) = some (σf, rf, dd) := h
  refine ax_Mi.of (by decide +kernel) (Nat.le_of_ble_eq_true rfl) ?_
  intro p e s m args below meth c C hnm
  have C : ax_C p s m args meth c b_Sym_toDifference "ClauseProver$Symbols" 9 (some .int) D kA (va_A (cpW kA u w tx σ) s.heap.size) := C
  obtain ⟨F, hFe⟩ : ∃ F, F = dd + 1 := ⟨_, rfl⟩
  obtain ⟨Lo, hLoe⟩ : ∃ Lo, Lo = 48 * dd + 48 := ⟨_, rfl⟩
  obtain ⟨σ0, hσ0⟩ : ∃ s0, s0 = σ := ⟨_, rfl⟩
  suffices K : AW p l e { frames := F, cells := 0, slots := 0, locals := Lo } s m args below meth c D kA (va_A (cpW kA u w tx σ0) s.heap.size) 9 (ax_Qi below args s D kA (cpW kA u w tx σ0) 0 0 (fun r w1 => r = rf ∧ w1 = cpW kA u w tx σf)) 0 [(0, .ref (u 6)), (1, .ref (w 48)), (2, .int x0), (3, .ref (w 48)), (4, .int x1), (5, .int x2)] [] (cpW kA u w tx σ) 0 0 by rw [hFe, hLoe, hσ0] at K; exact ax_ls ([(0, .ref (u 6)), (1, .ref (w 48)), (2, .int x0), (3, .ref (w 48)), (4, .int x1), (5, .int x2)]) [0, 1, 2, 3, 4, 5] rfl K
  have C : ax_C p s m args meth c b_Sym_toDifference "ClauseProver$Symbols" 9 (some .int) D kA (va_A (cpW kA u w tx σ0) s.heap.size) := by rw [hσ0]; exact C
  have hF : dd + 1 ≤ F := by omega
  have hLo : 48 * dd + 48 ≤ Lo := by omega
  clear hFe hLoe hσ0
  refine ax_iconst (pc := 0) C 1 d_Sym_toDifference_0 (by decide +kernel) ?_
  refine ax_istore (pc := 1) C d_Sym_toDifference_1 (Nat.le_of_ble_eq_true rfl) ([(6, .int 1), (0, .ref (u 6)), (1, .ref (w 48)), (2, .int x0), (3, .ref (w 48)), (4, .int x1), (5, .int x2)]) rfl ?_
  refine ax_ls ([(0, .ref (u 6)), (1, .ref (w 48)), (2, .int x0), (3, .ref (w 48)), (4, .int x1), (5, .int x2), (6, .int 1)]) [1, 2, 3, 4, 5, 6, 0] rfl ?_
  have hm : sC_Sym_toDifference_48_48_p3 l D kA u w tx σ [x0, x1, x2, 1] (σf, rf, _) := ih tC_Sym_toDifference_48_48_p3 _ _ _ h
  exact hm _ _ _ _ rfl p e s m args below meth c F Lo σ0 hF hLo C
set_option maxHeartbeats 4000000 in
set_option maxRecDepth 100000 in
theorem oC_Sym_toDifference_48_48_p3 (l : Launch) (D : va_G) (kA : Nat → ClassId) (u w : Nat → Nat) (tx : Value) (rec : mF) (ih : ∀ t σ xs res, rec t σ xs = some res → cSem l D kA u w tx t σ xs res) (σ : mS) (xs : List Int32) (res : mR) (h : u_4 (kC_Sym_toDifference_48_48_p3 rec σ) xs = some res) : sC_Sym_toDifference_48_48_p3 l D kA u w tx σ xs res := by
  intro x0 x1 x2 x3 hxs
  subst hxs
  obtain ⟨σf, rf, dd⟩ := res
  have h : (if x2 ≤ x3 then (rec tC_Sym_toDifference_48_48_p32 σ [x0, x1, x2, x3]) else (if bin ((x0 : Int32) + x3) (σ.2.2 48) = true then (if bin ((x1 : Int32) + x3) (σ.2.2 48) = true then (if (σ.2.1 48 (Int32.toNatClampNeg ((x0 : Int32) + x3))) = (σ.2.1 48 (Int32.toNatClampNeg ((x1 : Int32) + x3))) then (rec tC_Sym_toDifference_48_48_p3 σ [x0, x1, x2, (x3 + 1)]) else (rec tC_Sym_toDifference_48_48_p32 σ [x0, x1, x2, x3])) else none) else none)) = some (σf, rf, dd) := h
  intro p e s m args below meth c F Lo σ0 hF hLo C
  dsimp only at hF hLo ⊢
  refine ax_iload (pc := 3) C d_Sym_toDifference_3 6 rfl ?_
  refine ax_iload (pc := 5) C d_Sym_toDifference_5 5 rfl ?_
  refine ax_icmp_ge (pc := 7) C 32 d_Sym_toDifference_7 (by decide) (fun hc => ?_) (fun hc => ?_)
  · have h := it_t hc h
    refine ax_ls ([(0, .ref (u 6)), (1, .ref (w 48)), (2, .int x0), (3, .ref (w 48)), (4, .int x1), (5, .int x2), (6, .int x3)]) [0, 1, 2, 3, 4, 5, 6] rfl ?_
    have hm : sC_Sym_toDifference_48_48_p32 l D kA u w tx σ [x0, x1, x2, x3] (σf, rf, _) := ih tC_Sym_toDifference_48_48_p32 _ _ _ h
    exact hm _ _ _ _ rfl p e s m args below meth c F Lo σ0 hF hLo C
  · have h := it_f hc h
    refine ax_aload_n (pc := 10) C d_Sym_toDifference_10 rfl 1 rfl ?_
    refine ax_iload_n (pc := 11) C d_Sym_toDifference_11 rfl 2 rfl ?_
    refine ax_iload (pc := 12) C d_Sym_toDifference_12 6 rfl ?_
    refine ax_iadd (pc := 14) C d_Sym_toDifference_14 ?_
    obtain ⟨hb, h⟩ := it_g h
    refine cl_48 (pc := 15) C d_Sym_toDifference_15 (bin_in hb) ?_
    refine ax_aload_n (pc := 16) C d_Sym_toDifference_16 rfl 3 rfl ?_
    refine ax_iload (pc := 17) C d_Sym_toDifference_17 4 rfl ?_
    refine ax_iload (pc := 19) C d_Sym_toDifference_19 6 rfl ?_
    refine ax_iadd (pc := 21) C d_Sym_toDifference_21 ?_
    obtain ⟨hb, h⟩ := it_g h
    refine cl_48 (pc := 22) C d_Sym_toDifference_22 (bin_in hb) ?_
    refine ax_icmp_ne (pc := 23) C 32 d_Sym_toDifference_23 (by decide) (fun hc => ?_) (fun hc => ?_)
    · have h := it_f hc h
      refine ax_ls ([(0, .ref (u 6)), (1, .ref (w 48)), (2, .int x0), (3, .ref (w 48)), (4, .int x1), (5, .int x2), (6, .int x3)]) [0, 1, 2, 3, 4, 5, 6] rfl ?_
      have hm : sC_Sym_toDifference_48_48_p32 l D kA u w tx σ [x0, x1, x2, x3] (σf, rf, _) := ih tC_Sym_toDifference_48_48_p32 _ _ _ h
      exact hm _ _ _ _ rfl p e s m args below meth c F Lo σ0 hF hLo C
    · have h := it_t hc h
      refine ax_iinc (pc := 26) C (x3 + 1) d_Sym_toDifference_26 6 rfl rfl (Nat.le_of_ble_eq_true rfl) ([(6, .int (x3 + 1)), (0, .ref (u 6)), (1, .ref (w 48)), (2, .int x0), (3, .ref (w 48)), (4, .int x1), (5, .int x2)]) rfl ?_
      refine ax_goto (pc := 29) C 3 d_Sym_toDifference_29 (by decide) ?_
      refine ax_ls ([(0, .ref (u 6)), (1, .ref (w 48)), (2, .int x0), (3, .ref (w 48)), (4, .int x1), (5, .int x2), (6, .int (x3 + 1))]) [1, 2, 3, 4, 5, 6, 0] rfl ?_
      have hm : sC_Sym_toDifference_48_48_p3 l D kA u w tx σ [x0, x1, x2, (x3 + 1)] (σf, rf, _) := ih tC_Sym_toDifference_48_48_p3 _ _ _ h
      exact hm _ _ _ _ rfl p e s m args below meth c F Lo σ0 hF hLo C
set_option maxHeartbeats 4000000 in
set_option maxRecDepth 100000 in
theorem oC_Sym_toDifference_48_48_p32 (l : Launch) (D : va_G) (kA : Nat → ClassId) (u w : Nat → Nat) (tx : Value) (rec : mF) (ih : ∀ t σ xs res, rec t σ xs = some res → cSem l D kA u w tx t σ xs res) (σ : mS) (xs : List Int32) (res : mR) (h : u_4 (kC_Sym_toDifference_48_48_p32 rec σ) xs = some res) : sC_Sym_toDifference_48_48_p32 l D kA u w tx σ xs res := by
  intro x0 x1 x2 x3 hxs
  subst hxs
  obtain ⟨σf, rf, dd⟩ := res
  have h : (rec tC_Sym_toDifference_48_48_p35 σ [x0, x1, x2, x3, 1]) = some (σf, rf, dd) := h
  intro p e s m args below meth c F Lo σ0 hF hLo C
  dsimp only at hF hLo ⊢
  refine ax_iconst (pc := 32) C 1 d_Sym_toDifference_32 (by decide +kernel) ?_
  refine ax_istore (pc := 33) C d_Sym_toDifference_33 (Nat.le_of_ble_eq_true rfl) ([(7, .int 1), (0, .ref (u 6)), (1, .ref (w 48)), (2, .int x0), (3, .ref (w 48)), (4, .int x1), (5, .int x2), (6, .int x3)]) rfl ?_
  refine ax_ls ([(0, .ref (u 6)), (1, .ref (w 48)), (2, .int x0), (3, .ref (w 48)), (4, .int x1), (5, .int x2), (6, .int x3), (7, .int 1)]) [1, 2, 3, 4, 5, 6, 7, 0] rfl ?_
  have hm : sC_Sym_toDifference_48_48_p35 l D kA u w tx σ [x0, x1, x2, x3, 1] (σf, rf, _) := ih tC_Sym_toDifference_48_48_p35 _ _ _ h
  exact hm _ _ _ _ _ rfl p e s m args below meth c F Lo σ0 hF hLo C
set_option maxHeartbeats 4000000 in
set_option maxRecDepth 100000 in
theorem oC_Sym_toDifference_48_48_p35 (l : Launch) (D : va_G) (kA : Nat → ClassId) (u w : Nat → Nat) (tx : Value) (rec : mF) (ih : ∀ t σ xs res, rec t σ xs = some res → cSem l D kA u w tx t σ xs res) (σ : mS) (xs : List Int32) (res : mR) (h : u_5 (kC_Sym_toDifference_48_48_p35 rec σ) xs = some res) : sC_Sym_toDifference_48_48_p35 l D kA u w tx σ xs res := by
  intro x0 x1 x2 x3 x4 hxs
  subst hxs
  obtain ⟨σf, rf, dd⟩ := res
  have h : (if x2 ≤ x3 then (rec tC_Sym_toDifference_48_48_p79 σ [x0, x1, x2, x3, x4]) else (if x2 ≤ x4 then (rec tC_Sym_toDifference_48_48_p79 σ [x0, x1, x2, x3, x4]) else (bnd (rec tC_Sym_after_48 σ [((x0 : Int32) + x4)]) (fun σ1 r1 => if ((r1 : Int32) - x0) ≤ x3 then (rec tC_Sym_toDifference_48_48_p35 σ1 [x0, x1, x2, x3, ((r1 : Int32) - x0)]) else (some (σ1, x4, 0)))))) = some (σf, rf, dd) := h
  intro p e s m args below meth c F Lo σ0 hF hLo C
  dsimp only at hF hLo ⊢
  refine ax_iload (pc := 35) C d_Sym_toDifference_35 6 rfl ?_
  refine ax_iload (pc := 37) C d_Sym_toDifference_37 5 rfl ?_
  refine ax_icmp_ge (pc := 39) C 79 d_Sym_toDifference_39 (by decide) (fun hc => ?_) (fun hc => ?_)
  · have h := it_t hc h
    refine ax_ls ([(0, .ref (u 6)), (1, .ref (w 48)), (2, .int x0), (3, .ref (w 48)), (4, .int x1), (5, .int x2), (6, .int x3), (7, .int x4)]) [0, 1, 2, 3, 4, 5, 6, 7] rfl ?_
    have hm : sC_Sym_toDifference_48_48_p79 l D kA u w tx σ [x0, x1, x2, x3, x4] (σf, rf, _) := ih tC_Sym_toDifference_48_48_p79 _ _ _ h
    exact hm _ _ _ _ _ rfl p e s m args below meth c F Lo σ0 hF hLo C
  · have h := it_f hc h
    refine ax_iload (pc := 42) C d_Sym_toDifference_42 7 rfl ?_
    refine ax_iload (pc := 44) C d_Sym_toDifference_44 5 rfl ?_
    refine ax_icmp_ge (pc := 46) C 79 d_Sym_toDifference_46 (by decide) (fun hc => ?_) (fun hc => ?_)
    · have h := it_t hc h
      refine ax_ls ([(0, .ref (u 6)), (1, .ref (w 48)), (2, .int x0), (3, .ref (w 48)), (4, .int x1), (5, .int x2), (6, .int x3), (7, .int x4)]) [0, 1, 2, 3, 4, 5, 6, 7] rfl ?_
      have hm : sC_Sym_toDifference_48_48_p79 l D kA u w tx σ [x0, x1, x2, x3, x4] (σf, rf, _) := ih tC_Sym_toDifference_48_48_p79 _ _ _ h
      exact hm _ _ _ _ _ rfl p e s m args below meth c F Lo σ0 hF hLo C
    · have h := it_f hc h
      refine ax_aload_n (pc := 49) C d_Sym_toDifference_49 rfl 0 rfl ?_
      refine ax_aload_n (pc := 50) C d_Sym_toDifference_50 rfl 1 rfl ?_
      refine ax_iload_n (pc := 51) C d_Sym_toDifference_51 rfl 2 rfl ?_
      refine ax_iload (pc := 52) C d_Sym_toDifference_52 7 rfl ?_
      refine ax_iadd (pc := 54) C d_Sym_toDifference_54 ?_
      obtain ⟨σ1, r1, d1_1, d2_1, h1, h, hd2, hd1⟩ := it_b h
      have hm : sC_Sym_after_48 l D kA u w tx σ [((x0 : Int32) + x4)] (σ1, r1, d1_1) := ih tC_Sym_after_48 _ _ _ h1
      refine cc_Vi (pc := 55) C (r0 := r1) (σ2 := σ1) (As := [.ref (w 48), .int ((x0 : Int32) + x4)]) (rest := []) (hm _ rfl) ml_Sym_59 6 rfl rfl rfl d_Sym_toDifference_55 rfl rfl (by dsimp only; omega) (by dsimp only; omega) (Nat.le_of_ble_eq_true rfl) (Nat.le_of_ble_eq_true rfl) (Nat.le_of_ble_eq_true rfl) ?_
      have hF : d2_1 + 1 ≤ F := by omega
      have hLo : 48 * d2_1 + 48 ≤ Lo := by omega
      refine ax_iload_n (pc := 58) C d_Sym_toDifference_58 rfl 2 rfl ?_
      refine ax_isub (pc := 59) C d_Sym_toDifference_59 ?_
      refine ax_istore (pc := 60) C d_Sym_toDifference_60 (Nat.le_of_ble_eq_true rfl) ([(8, .int ((r1 : Int32) - x0)), (0, .ref (u 6)), (1, .ref (w 48)), (2, .int x0), (3, .ref (w 48)), (4, .int x1), (5, .int x2), (6, .int x3), (7, .int x4)]) rfl ?_
      refine ax_iload (pc := 62) C d_Sym_toDifference_62 7 rfl ?_
      refine ax_iload (pc := 64) C d_Sym_toDifference_64 0 rfl ?_
      refine ax_icmp_ge (pc := 66) C 72 d_Sym_toDifference_66 (by decide) (fun hc => ?_) (fun hc => ?_)
      · have h := it_t hc h
        refine ax_iload (pc := 72) C d_Sym_toDifference_72 0 rfl ?_
        refine ax_istore (pc := 74) C d_Sym_toDifference_74 (Nat.le_of_ble_eq_true rfl) ([(7, .int ((r1 : Int32) - x0)), (8, .int ((r1 : Int32) - x0)), (0, .ref (u 6)), (1, .ref (w 48)), (2, .int x0), (3, .ref (w 48)), (4, .int x1), (5, .int x2), (6, .int x3)]) rfl ?_
        refine ax_goto (pc := 76) C 35 d_Sym_toDifference_76 (by decide) ?_
        refine ax_ls ([(0, .ref (u 6)), (1, .ref (w 48)), (2, .int x0), (3, .ref (w 48)), (4, .int x1), (5, .int x2), (6, .int x3), (7, .int ((r1 : Int32) - x0))]) [2, 3, 4, 5, 6, 7, 8, 0] rfl ?_
        have hm : sC_Sym_toDifference_48_48_p35 l D kA u w tx σ1 [x0, x1, x2, x3, ((r1 : Int32) - x0)] (σf, rf, _) := ih tC_Sym_toDifference_48_48_p35 _ _ _ h
        exact hm _ _ _ _ _ rfl p e s m args below meth c F Lo σ0 hF hLo C
      · have h := it_f hc h
        refine ax_iload (pc := 69) C d_Sym_toDifference_69 8 rfl ?_
        cases h
        exact ax_iret (pc := 71) C d_Sym_toDifference_71 ⟨rfl, rfl⟩ (Nat.le_refl _) (Nat.le_refl _)
set_option maxHeartbeats 4000000 in
set_option maxRecDepth 100000 in
theorem oC_Sym_toDifference_48_48_p79 (l : Launch) (D : va_G) (kA : Nat → ClassId) (u w : Nat → Nat) (tx : Value) (rec : mF) (ih : ∀ t σ xs res, rec t σ xs = some res → cSem l D kA u w tx t σ xs res) (σ : mS) (xs : List Int32) (res : mR) (h : u_5 (kC_Sym_toDifference_48_48_p79 rec σ) xs = some res) : sC_Sym_toDifference_48_48_p79 l D kA u w tx σ xs res := by
  intro x0 x1 x2 x3 x4 hxs
  subst hxs
  obtain ⟨σf, rf, dd⟩ := res
  have h : (some (σ, 0, 0)) = some (σf, rf, dd) := h
  intro p e s m args below meth c F Lo σ0 hF hLo C
  dsimp only at hF hLo ⊢
  refine ax_iconst (pc := 79) C 0 d_Sym_toDifference_79 (by decide +kernel) ?_
  cases h
  exact ax_iret (pc := 80) C d_Sym_toDifference_80 ⟨rfl, rfl⟩ (Nat.le_refl _) (Nat.le_refl _)
set_option maxHeartbeats 4000000 in
set_option maxRecDepth 100000 in
theorem oC_Sym_toDifference_48_68 (l : Launch) (D : va_G) (kA : Nat → ClassId) (u w : Nat → Nat) (tx : Value) (rec : mF) (ih : ∀ t σ xs res, rec t σ xs = some res → cSem l D kA u w tx t σ xs res) (σ : mS) (xs : List Int32) (res : mR) (h : u_3 (kC_Sym_toDifference_48_68 rec σ) xs = some res) : sC_Sym_toDifference_48_68 l D kA u w tx σ xs res := by
  intro x0 x1 x2 hxs
  subst hxs
  obtain ⟨σf, rf, dd⟩ := res
  have h : (rec tC_Sym_toDifference_48_68_p3 σ [x0, x1, x2, 1]) = some (σf, rf, dd) := h
  refine ax_Mi.of (by decide +kernel) (Nat.le_of_ble_eq_true rfl) ?_
  intro p e s m args below meth c C hnm
  have C : ax_C p s m args meth c b_Sym_toDifference "ClauseProver$Symbols" 9 (some .int) D kA (va_A (cpW kA u w tx σ) s.heap.size) := C
  obtain ⟨F, hFe⟩ : ∃ F, F = dd + 1 := ⟨_, rfl⟩
  obtain ⟨Lo, hLoe⟩ : ∃ Lo, Lo = 48 * dd + 48 := ⟨_, rfl⟩
  obtain ⟨σ0, hσ0⟩ : ∃ s0, s0 = σ := ⟨_, rfl⟩
  suffices K : AW p l e { frames := F, cells := 0, slots := 0, locals := Lo } s m args below meth c D kA (va_A (cpW kA u w tx σ0) s.heap.size) 9 (ax_Qi below args s D kA (cpW kA u w tx σ0) 0 0 (fun r w1 => r = rf ∧ w1 = cpW kA u w tx σf)) 0 [(0, .ref (u 6)), (1, .ref (w 48)), (2, .int x0), (3, .ref (u 68)), (4, .int x1), (5, .int x2)] [] (cpW kA u w tx σ) 0 0 by rw [hFe, hLoe, hσ0] at K; exact ax_ls ([(0, .ref (u 6)), (1, .ref (w 48)), (2, .int x0), (3, .ref (u 68)), (4, .int x1), (5, .int x2)]) [0, 1, 2, 3, 4, 5] rfl K
  have C : ax_C p s m args meth c b_Sym_toDifference "ClauseProver$Symbols" 9 (some .int) D kA (va_A (cpW kA u w tx σ0) s.heap.size) := by rw [hσ0]; exact C
  have hF : dd + 1 ≤ F := by omega
  have hLo : 48 * dd + 48 ≤ Lo := by omega
  clear hFe hLoe hσ0
  refine ax_iconst (pc := 0) C 1 d_Sym_toDifference_0 (by decide +kernel) ?_
  refine ax_istore (pc := 1) C d_Sym_toDifference_1 (Nat.le_of_ble_eq_true rfl) ([(6, .int 1), (0, .ref (u 6)), (1, .ref (w 48)), (2, .int x0), (3, .ref (u 68)), (4, .int x1), (5, .int x2)]) rfl ?_
  refine ax_ls ([(0, .ref (u 6)), (1, .ref (w 48)), (2, .int x0), (3, .ref (u 68)), (4, .int x1), (5, .int x2), (6, .int 1)]) [1, 2, 3, 4, 5, 6, 0] rfl ?_
  have hm : sC_Sym_toDifference_48_68_p3 l D kA u w tx σ [x0, x1, x2, 1] (σf, rf, _) := ih tC_Sym_toDifference_48_68_p3 _ _ _ h
  exact hm _ _ _ _ rfl p e s m args below meth c F Lo σ0 hF hLo C
set_option maxHeartbeats 4000000 in
set_option maxRecDepth 100000 in
theorem oC_Sym_toDifference_48_68_p3 (l : Launch) (D : va_G) (kA : Nat → ClassId) (u w : Nat → Nat) (tx : Value) (rec : mF) (ih : ∀ t σ xs res, rec t σ xs = some res → cSem l D kA u w tx t σ xs res) (σ : mS) (xs : List Int32) (res : mR) (h : u_4 (kC_Sym_toDifference_48_68_p3 rec σ) xs = some res) : sC_Sym_toDifference_48_68_p3 l D kA u w tx σ xs res := by
  intro x0 x1 x2 x3 hxs
  subst hxs
  obtain ⟨σf, rf, dd⟩ := res
  have h : (if x2 ≤ x3 then (rec tC_Sym_toDifference_48_68_p32 σ [x0, x1, x2, x3]) else (if bin ((x0 : Int32) + x3) (σ.2.2 48) = true then (if bin ((x1 : Int32) + x3) 100 = true then (if (σ.2.1 48 (Int32.toNatClampNeg ((x0 : Int32) + x3))) = (σ.2.1 68 (Int32.toNatClampNeg ((x1 : Int32) + x3))) then (rec tC_Sym_toDifference_48_68_p3 σ [x0, x1, x2, (x3 + 1)]) else (rec tC_Sym_toDifference_48_68_p32 σ [x0, x1, x2, x3])) else none) else none)) = some (σf, rf, dd) := h
  intro p e s m args below meth c F Lo σ0 hF hLo C
  dsimp only at hF hLo ⊢
  refine ax_iload (pc := 3) C d_Sym_toDifference_3 6 rfl ?_
  refine ax_iload (pc := 5) C d_Sym_toDifference_5 5 rfl ?_
  refine ax_icmp_ge (pc := 7) C 32 d_Sym_toDifference_7 (by decide) (fun hc => ?_) (fun hc => ?_)
  · have h := it_t hc h
    refine ax_ls ([(0, .ref (u 6)), (1, .ref (w 48)), (2, .int x0), (3, .ref (u 68)), (4, .int x1), (5, .int x2), (6, .int x3)]) [0, 1, 2, 3, 4, 5, 6] rfl ?_
    have hm : sC_Sym_toDifference_48_68_p32 l D kA u w tx σ [x0, x1, x2, x3] (σf, rf, _) := ih tC_Sym_toDifference_48_68_p32 _ _ _ h
    exact hm _ _ _ _ rfl p e s m args below meth c F Lo σ0 hF hLo C
  · have h := it_f hc h
    refine ax_aload_n (pc := 10) C d_Sym_toDifference_10 rfl 1 rfl ?_
    refine ax_iload_n (pc := 11) C d_Sym_toDifference_11 rfl 2 rfl ?_
    refine ax_iload (pc := 12) C d_Sym_toDifference_12 6 rfl ?_
    refine ax_iadd (pc := 14) C d_Sym_toDifference_14 ?_
    obtain ⟨hb, h⟩ := it_g h
    refine cl_48 (pc := 15) C d_Sym_toDifference_15 (bin_in hb) ?_
    refine ax_aload_n (pc := 16) C d_Sym_toDifference_16 rfl 3 rfl ?_
    refine ax_iload (pc := 17) C d_Sym_toDifference_17 4 rfl ?_
    refine ax_iload (pc := 19) C d_Sym_toDifference_19 6 rfl ?_
    refine ax_iadd (pc := 21) C d_Sym_toDifference_21 ?_
    obtain ⟨hb, h⟩ := it_g h
    refine cl_68 (pc := 22) C d_Sym_toDifference_22 (bin_in hb) ?_
    refine ax_icmp_ne (pc := 23) C 32 d_Sym_toDifference_23 (by decide) (fun hc => ?_) (fun hc => ?_)
    · have h := it_f hc h
      refine ax_ls ([(0, .ref (u 6)), (1, .ref (w 48)), (2, .int x0), (3, .ref (u 68)), (4, .int x1), (5, .int x2), (6, .int x3)]) [0, 1, 2, 3, 4, 5, 6] rfl ?_
      have hm : sC_Sym_toDifference_48_68_p32 l D kA u w tx σ [x0, x1, x2, x3] (σf, rf, _) := ih tC_Sym_toDifference_48_68_p32 _ _ _ h
      exact hm _ _ _ _ rfl p e s m args below meth c F Lo σ0 hF hLo C
    · have h := it_t hc h
      refine ax_iinc (pc := 26) C (x3 + 1) d_Sym_toDifference_26 6 rfl rfl (Nat.le_of_ble_eq_true rfl) ([(6, .int (x3 + 1)), (0, .ref (u 6)), (1, .ref (w 48)), (2, .int x0), (3, .ref (u 68)), (4, .int x1), (5, .int x2)]) rfl ?_
      refine ax_goto (pc := 29) C 3 d_Sym_toDifference_29 (by decide) ?_
      refine ax_ls ([(0, .ref (u 6)), (1, .ref (w 48)), (2, .int x0), (3, .ref (u 68)), (4, .int x1), (5, .int x2), (6, .int (x3 + 1))]) [1, 2, 3, 4, 5, 6, 0] rfl ?_
      have hm : sC_Sym_toDifference_48_68_p3 l D kA u w tx σ [x0, x1, x2, (x3 + 1)] (σf, rf, _) := ih tC_Sym_toDifference_48_68_p3 _ _ _ h
      exact hm _ _ _ _ rfl p e s m args below meth c F Lo σ0 hF hLo C
set_option maxHeartbeats 4000000 in
set_option maxRecDepth 100000 in
theorem oC_Sym_toDifference_48_68_p32 (l : Launch) (D : va_G) (kA : Nat → ClassId) (u w : Nat → Nat) (tx : Value) (rec : mF) (ih : ∀ t σ xs res, rec t σ xs = some res → cSem l D kA u w tx t σ xs res) (σ : mS) (xs : List Int32) (res : mR) (h : u_4 (kC_Sym_toDifference_48_68_p32 rec σ) xs = some res) : sC_Sym_toDifference_48_68_p32 l D kA u w tx σ xs res := by
  intro x0 x1 x2 x3 hxs
  subst hxs
  obtain ⟨σf, rf, dd⟩ := res
  have h : (rec tC_Sym_toDifference_48_68_p35 σ [x0, x1, x2, x3, 1]) = some (σf, rf, dd) := h
  intro p e s m args below meth c F Lo σ0 hF hLo C
  dsimp only at hF hLo ⊢
  refine ax_iconst (pc := 32) C 1 d_Sym_toDifference_32 (by decide +kernel) ?_
  refine ax_istore (pc := 33) C d_Sym_toDifference_33 (Nat.le_of_ble_eq_true rfl) ([(7, .int 1), (0, .ref (u 6)), (1, .ref (w 48)), (2, .int x0), (3, .ref (u 68)), (4, .int x1), (5, .int x2), (6, .int x3)]) rfl ?_
  refine ax_ls ([(0, .ref (u 6)), (1, .ref (w 48)), (2, .int x0), (3, .ref (u 68)), (4, .int x1), (5, .int x2), (6, .int x3), (7, .int 1)]) [1, 2, 3, 4, 5, 6, 7, 0] rfl ?_
  have hm : sC_Sym_toDifference_48_68_p35 l D kA u w tx σ [x0, x1, x2, x3, 1] (σf, rf, _) := ih tC_Sym_toDifference_48_68_p35 _ _ _ h
  exact hm _ _ _ _ _ rfl p e s m args below meth c F Lo σ0 hF hLo C
set_option maxHeartbeats 4000000 in
set_option maxRecDepth 100000 in
theorem oC_Sym_toDifference_48_68_p35 (l : Launch) (D : va_G) (kA : Nat → ClassId) (u w : Nat → Nat) (tx : Value) (rec : mF) (ih : ∀ t σ xs res, rec t σ xs = some res → cSem l D kA u w tx t σ xs res) (σ : mS) (xs : List Int32) (res : mR) (h : u_5 (kC_Sym_toDifference_48_68_p35 rec σ) xs = some res) : sC_Sym_toDifference_48_68_p35 l D kA u w tx σ xs res := by
  intro x0 x1 x2 x3 x4 hxs
  subst hxs
  obtain ⟨σf, rf, dd⟩ := res
  have h : (if x2 ≤ x3 then (rec tC_Sym_toDifference_48_68_p79 σ [x0, x1, x2, x3, x4]) else (if x2 ≤ x4 then (rec tC_Sym_toDifference_48_68_p79 σ [x0, x1, x2, x3, x4]) else (bnd (rec tC_Sym_after_48 σ [((x0 : Int32) + x4)]) (fun σ1 r1 => if ((r1 : Int32) - x0) ≤ x3 then (rec tC_Sym_toDifference_48_68_p35 σ1 [x0, x1, x2, x3, ((r1 : Int32) - x0)]) else (some (σ1, x4, 0)))))) = some (σf, rf, dd) := h
  intro p e s m args below meth c F Lo σ0 hF hLo C
  dsimp only at hF hLo ⊢
  refine ax_iload (pc := 35) C d_Sym_toDifference_35 6 rfl ?_
  refine ax_iload (pc := 37) C d_Sym_toDifference_37 5 rfl ?_
  refine ax_icmp_ge (pc := 39) C 79 d_Sym_toDifference_39 (by decide) (fun hc => ?_) (fun hc => ?_)
  · have h := it_t hc h
    refine ax_ls ([(0, .ref (u 6)), (1, .ref (w 48)), (2, .int x0), (3, .ref (u 68)), (4, .int x1), (5, .int x2), (6, .int x3), (7, .int x4)]) [0, 1, 2, 3, 4, 5, 6, 7] rfl ?_
    have hm : sC_Sym_toDifference_48_68_p79 l D kA u w tx σ [x0, x1, x2, x3, x4] (σf, rf, _) := ih tC_Sym_toDifference_48_68_p79 _ _ _ h
    exact hm _ _ _ _ _ rfl p e s m args below meth c F Lo σ0 hF hLo C
  · have h := it_f hc h
    refine ax_iload (pc := 42) C d_Sym_toDifference_42 7 rfl ?_
    refine ax_iload (pc := 44) C d_Sym_toDifference_44 5 rfl ?_
    refine ax_icmp_ge (pc := 46) C 79 d_Sym_toDifference_46 (by decide) (fun hc => ?_) (fun hc => ?_)
    · have h := it_t hc h
      refine ax_ls ([(0, .ref (u 6)), (1, .ref (w 48)), (2, .int x0), (3, .ref (u 68)), (4, .int x1), (5, .int x2), (6, .int x3), (7, .int x4)]) [0, 1, 2, 3, 4, 5, 6, 7] rfl ?_
      have hm : sC_Sym_toDifference_48_68_p79 l D kA u w tx σ [x0, x1, x2, x3, x4] (σf, rf, _) := ih tC_Sym_toDifference_48_68_p79 _ _ _ h
      exact hm _ _ _ _ _ rfl p e s m args below meth c F Lo σ0 hF hLo C
    · have h := it_f hc h
      refine ax_aload_n (pc := 49) C d_Sym_toDifference_49 rfl 0 rfl ?_
      refine ax_aload_n (pc := 50) C d_Sym_toDifference_50 rfl 1 rfl ?_
      refine ax_iload_n (pc := 51) C d_Sym_toDifference_51 rfl 2 rfl ?_
      refine ax_iload (pc := 52) C d_Sym_toDifference_52 7 rfl ?_
      refine ax_iadd (pc := 54) C d_Sym_toDifference_54 ?_
      obtain ⟨σ1, r1, d1_1, d2_1, h1, h, hd2, hd1⟩ := it_b h
      have hm : sC_Sym_after_48 l D kA u w tx σ [((x0 : Int32) + x4)] (σ1, r1, d1_1) := ih tC_Sym_after_48 _ _ _ h1
      refine cc_Vi (pc := 55) C (r0 := r1) (σ2 := σ1) (As := [.ref (w 48), .int ((x0 : Int32) + x4)]) (rest := []) (hm _ rfl) ml_Sym_59 6 rfl rfl rfl d_Sym_toDifference_55 rfl rfl (by dsimp only; omega) (by dsimp only; omega) (Nat.le_of_ble_eq_true rfl) (Nat.le_of_ble_eq_true rfl) (Nat.le_of_ble_eq_true rfl) ?_
      have hF : d2_1 + 1 ≤ F := by omega
      have hLo : 48 * d2_1 + 48 ≤ Lo := by omega
      refine ax_iload_n (pc := 58) C d_Sym_toDifference_58 rfl 2 rfl ?_
      refine ax_isub (pc := 59) C d_Sym_toDifference_59 ?_
      refine ax_istore (pc := 60) C d_Sym_toDifference_60 (Nat.le_of_ble_eq_true rfl) ([(8, .int ((r1 : Int32) - x0)), (0, .ref (u 6)), (1, .ref (w 48)), (2, .int x0), (3, .ref (u 68)), (4, .int x1), (5, .int x2), (6, .int x3), (7, .int x4)]) rfl ?_
      refine ax_iload (pc := 62) C d_Sym_toDifference_62 7 rfl ?_
      refine ax_iload (pc := 64) C d_Sym_toDifference_64 0 rfl ?_
      refine ax_icmp_ge (pc := 66) C 72 d_Sym_toDifference_66 (by decide) (fun hc => ?_) (fun hc => ?_)
      · have h := it_t hc h
        refine ax_iload (pc := 72) C d_Sym_toDifference_72 0 rfl ?_
        refine ax_istore (pc := 74) C d_Sym_toDifference_74 (Nat.le_of_ble_eq_true rfl) ([(7, .int ((r1 : Int32) - x0)), (8, .int ((r1 : Int32) - x0)), (0, .ref (u 6)), (1, .ref (w 48)), (2, .int x0), (3, .ref (u 68)), (4, .int x1), (5, .int x2), (6, .int x3)]) rfl ?_
        refine ax_goto (pc := 76) C 35 d_Sym_toDifference_76 (by decide) ?_
        refine ax_ls ([(0, .ref (u 6)), (1, .ref (w 48)), (2, .int x0), (3, .ref (u 68)), (4, .int x1), (5, .int x2), (6, .int x3), (7, .int ((r1 : Int32) - x0))]) [2, 3, 4, 5, 6, 7, 8, 0] rfl ?_
        have hm : sC_Sym_toDifference_48_68_p35 l D kA u w tx σ1 [x0, x1, x2, x3, ((r1 : Int32) - x0)] (σf, rf, _) := ih tC_Sym_toDifference_48_68_p35 _ _ _ h
        exact hm _ _ _ _ _ rfl p e s m args below meth c F Lo σ0 hF hLo C
      · have h := it_f hc h
        refine ax_iload (pc := 69) C d_Sym_toDifference_69 8 rfl ?_
        cases h
        exact ax_iret (pc := 71) C d_Sym_toDifference_71 ⟨rfl, rfl⟩ (Nat.le_refl _) (Nat.le_refl _)
set_option maxHeartbeats 4000000 in
set_option maxRecDepth 100000 in
theorem oC_Sym_toDifference_48_68_p79 (l : Launch) (D : va_G) (kA : Nat → ClassId) (u w : Nat → Nat) (tx : Value) (rec : mF) (ih : ∀ t σ xs res, rec t σ xs = some res → cSem l D kA u w tx t σ xs res) (σ : mS) (xs : List Int32) (res : mR) (h : u_5 (kC_Sym_toDifference_48_68_p79 rec σ) xs = some res) : sC_Sym_toDifference_48_68_p79 l D kA u w tx σ xs res := by
  intro x0 x1 x2 x3 x4 hxs
  subst hxs
  obtain ⟨σf, rf, dd⟩ := res
  have h : (some (σ, 0, 0)) = some (σf, rf, dd) := h
  intro p e s m args below meth c F Lo σ0 hF hLo C
  dsimp only at hF hLo ⊢
  refine ax_iconst (pc := 79) C 0 d_Sym_toDifference_79 (by decide +kernel) ?_
  cases h
  exact ax_iret (pc := 80) C d_Sym_toDifference_80 ⟨rfl, rfl⟩ (Nat.le_refl _) (Nat.le_refl _)
set_option maxHeartbeats 4000000 in
set_option maxRecDepth 100000 in
theorem oC_Uni_clear (l : Launch) (D : va_G) (kA : Nat → ClassId) (u w : Nat → Nat) (tx : Value) (rec : mF) (ih : ∀ t σ xs res, rec t σ xs = some res → cSem l D kA u w tx t σ xs res) (σ : mS) (xs : List Int32) (res : mR) (h : u_2 (kC_Uni_clear rec σ) xs = some res) : sC_Uni_clear l D kA u w tx σ xs res := by
  intro x0 x1 hxs
  subst hxs
  obtain ⟨σf, rf, dd⟩ := res
  have h : (rec tC_Uni_clear_p2 σ [x0, x1, 0]) = some (σf, rf, dd) := h
  refine ax_Mv.of (by decide +kernel) (Nat.le_of_ble_eq_true rfl) ?_
  intro p e s m args below meth c C hnm
  have C : ax_C p s m args meth c b_Uni_clear "ClauseProver$Unifier" 4 none D kA (va_A (cpW kA u w tx σ) s.heap.size) := C
  obtain ⟨F, hFe⟩ : ∃ F, F = dd + 1 := ⟨_, rfl⟩
  obtain ⟨Lo, hLoe⟩ : ∃ Lo, Lo = 48 * dd + 48 := ⟨_, rfl⟩
  obtain ⟨σ0, hσ0⟩ : ∃ s0, s0 = σ := ⟨_, rfl⟩
  suffices K : AW p l e { frames := F, cells := 0, slots := 0, locals := Lo } s m args below meth c D kA (va_A (cpW kA u w tx σ0) s.heap.size) 4 (ax_Qv below args s D kA (cpW kA u w tx σ0) 0 0 (fun w1 => w1 = cpW kA u w tx σf)) 0 [(0, .ref (u 59)), (1, .int x0), (2, .int x1)] [] (cpW kA u w tx σ) 0 0 by rw [hFe, hLoe, hσ0] at K; exact ax_ls ([(0, .ref (u 59)), (1, .int x0), (2, .int x1)]) [0, 1, 2] rfl K
  have C : ax_C p s m args meth c b_Uni_clear "ClauseProver$Unifier" 4 none D kA (va_A (cpW kA u w tx σ0) s.heap.size) := by rw [hσ0]; exact C
  have hF : dd + 1 ≤ F := by omega
  have hLo : 48 * dd + 48 ≤ Lo := by omega
  clear hFe hLoe hσ0
  refine ax_iconst (pc := 0) C 0 d_Uni_clear_0 (by decide +kernel) ?_
  refine ax_istore_n (pc := 1) C d_Uni_clear_1 rfl (Nat.le_of_ble_eq_true rfl) ([(3, .int 0), (0, .ref (u 59)), (1, .int x0), (2, .int x1)]) rfl ?_
  refine ax_ls ([(0, .ref (u 59)), (1, .int x0), (2, .int x1), (3, .int 0)]) [1, 2, 3, 0] rfl ?_
  have hm : sC_Uni_clear_p2 l D kA u w tx σ [x0, x1, 0] (σf, rf, _) := ih tC_Uni_clear_p2 _ _ _ h
  exact hm _ _ _ rfl p e s m args below meth c F Lo σ0 hF hLo C
set_option maxHeartbeats 4000000 in
set_option maxRecDepth 100000 in
theorem oC_Uni_clear_p2 (l : Launch) (D : va_G) (kA : Nat → ClassId) (u w : Nat → Nat) (tx : Value) (rec : mF) (ih : ∀ t σ xs res, rec t σ xs = some res → cSem l D kA u w tx t σ xs res) (σ : mS) (xs : List Int32) (res : mR) (h : u_3 (kC_Uni_clear_p2 rec σ) xs = some res) : sC_Uni_clear_p2 l D kA u w tx σ xs res := by
  intro x0 x1 x2 hxs
  subst hxs
  obtain ⟨σf, rf, dd⟩ := res
  have h : (if 12 ≤ x2 then (lt_ (mI σ 5905 0) (fun σ1 => lt_ (mI σ1 5906 x0) (fun σ2 => lt_ (mI σ2 5907 x1) (fun σ3 => rec tC_Uni_clear_p45 σ3 [x0, x1, 0])))) else (if bin x2 12 = true then (lt_ (mA σ 60 (Int32.toNatClampNeg x2) x2) (fun σ4 => if bin x2 12 = true then (lt_ (mA σ4 61 (Int32.toNatClampNeg x2) (-1)) (fun σ5 => rec tC_Uni_clear_p2 σ5 [x0, x1, (x2 + 1)])) else none)) else none)) = some (σf, rf, dd) := h
  intro p e s m args below meth c F Lo σ0 hF hLo C
  dsimp only at hF hLo ⊢
  refine ax_iload_n (pc := 2) C d_Uni_clear_2 rfl 3 rfl ?_
  refine ax_bipush (pc := 3) C 12 d_Uni_clear_3 (by decide +kernel) ?_
  refine ax_icmp_ge (pc := 5) C 28 d_Uni_clear_5 (by decide) (fun hc => ?_) (fun hc => ?_)
  · have h := it_t hc h
    refine ax_aload_n (pc := 28) C d_Uni_clear_28 rfl 0 rfl ?_
    refine ax_iconst (pc := 29) C 0 d_Uni_clear_29 (by decide +kernel) ?_
    refine cq_59_5_Uni_43 (pc := 30) C d_Uni_clear_30 ?_
    have h := it_l h
    generalize mI σ 5905 0 = σ1 at h ⊢
    refine ax_aload_n (pc := 33) C d_Uni_clear_33 rfl 0 rfl ?_
    refine ax_iload_n (pc := 34) C d_Uni_clear_34 rfl 1 rfl ?_
    refine cq_59_6_Uni_47 (pc := 35) C d_Uni_clear_35 ?_
    have h := it_l h
    generalize mI σ1 5906 x0 = σ2 at h ⊢
    refine ax_aload_n (pc := 38) C d_Uni_clear_38 rfl 0 rfl ?_
    refine ax_iload_n (pc := 39) C d_Uni_clear_39 rfl 2 rfl ?_
    refine cq_59_7_Uni_50 (pc := 40) C d_Uni_clear_40 ?_
    have h := it_l h
    generalize mI σ2 5907 x1 = σ3 at h ⊢
    refine ax_iconst (pc := 43) C 0 d_Uni_clear_43 (by decide +kernel) ?_
    refine ax_istore_n (pc := 44) C d_Uni_clear_44 rfl (Nat.le_of_ble_eq_true rfl) ([(3, .int 0), (0, .ref (u 59)), (1, .int x0), (2, .int x1)]) rfl ?_
    refine ax_ls ([(0, .ref (u 59)), (1, .int x0), (2, .int x1), (3, .int 0)]) [1, 2, 3, 0] rfl ?_
    have hm : sC_Uni_clear_p45 l D kA u w tx σ3 [x0, x1, 0] (σf, rf, _) := ih tC_Uni_clear_p45 _ _ _ h
    exact hm _ _ _ rfl p e s m args below meth c F Lo σ0 hF hLo C
  · have h := it_f hc h
    refine ax_aload_n (pc := 8) C d_Uni_clear_8 rfl 0 rfl ?_
    refine cg_59_2_Uni_13 (pc := 9) C d_Uni_clear_9 ?_
    refine ax_iload_n (pc := 12) C d_Uni_clear_12 rfl 3 rfl ?_
    refine ax_iload_n (pc := 13) C d_Uni_clear_13 rfl 3 rfl ?_
    obtain ⟨hb, h⟩ := it_g h
    refine cs_60 (pc := 14) C d_Uni_clear_14 (bin_in hb) ?_
    have h := it_l h
    generalize mA σ 60 (Int32.toNatClampNeg x2) x2 = σ4 at h ⊢
    refine ax_aload_n (pc := 15) C d_Uni_clear_15 rfl 0 rfl ?_
    refine cg_59_3_Uni_17 (pc := 16) C d_Uni_clear_16 ?_
    refine ax_iload_n (pc := 19) C d_Uni_clear_19 rfl 3 rfl ?_
    refine ax_iconst (pc := 20) C (-1) d_Uni_clear_20 (by decide +kernel) ?_
    obtain ⟨hb, h⟩ := it_g h
    refine cs_61 (pc := 21) C d_Uni_clear_21 (bin_in hb) ?_
    have h := it_l h
    generalize mA σ4 61 (Int32.toNatClampNeg x2) (-1) = σ5 at h ⊢
    refine ax_iinc (pc := 22) C (x2 + 1) d_Uni_clear_22 3 rfl rfl (Nat.le_of_ble_eq_true rfl) ([(3, .int (x2 + 1)), (0, .ref (u 59)), (1, .int x0), (2, .int x1)]) rfl ?_
    refine ax_goto (pc := 25) C 2 d_Uni_clear_25 (by decide) ?_
    refine ax_ls ([(0, .ref (u 59)), (1, .int x0), (2, .int x1), (3, .int (x2 + 1))]) [1, 2, 3, 0] rfl ?_
    have hm : sC_Uni_clear_p2 l D kA u w tx σ5 [x0, x1, (x2 + 1)] (σf, rf, _) := ih tC_Uni_clear_p2 _ _ _ h
    exact hm _ _ _ rfl p e s m args below meth c F Lo σ0 hF hLo C
set_option maxHeartbeats 4000000 in
set_option maxRecDepth 100000 in
theorem oC_Uni_clear_p45 (l : Launch) (D : va_G) (kA : Nat → ClassId) (u w : Nat → Nat) (tx : Value) (rec : mF) (ih : ∀ t σ xs res, rec t σ xs = some res → cSem l D kA u w tx t σ xs res) (σ : mS) (xs : List Int32) (res : mR) (h : u_3 (kC_Uni_clear_p45 rec σ) xs = some res) : sC_Uni_clear_p45 l D kA u w tx σ xs res := by
  intro x0 x1 x2 hxs
  subst hxs
  obtain ⟨σf, rf, dd⟩ := res
  have h : (if (σ.1 6401) ≤ x2 then (lt_ (mI σ 6401 0) (fun σ1 => some (σ1, 0, 0))) else (if bin x2 (σ.2.2 65) = true then (if bin (σ.2.1 65 (Int32.toNatClampNeg x2)) 3360 = true then (lt_ (mA σ 63 (Int32.toNatClampNeg (σ.2.1 65 (Int32.toNatClampNeg x2))) (vp_nar .boolean 0)) (fun σ2 => rec tC_Uni_clear_p45 σ2 [x0, x1, (x2 + 1)])) else none) else none)) = some (σf, rf, dd) := h
  intro p e s m args below meth c F Lo σ0 hF hLo C
  dsimp only at hF hLo ⊢
  refine ax_iload_n (pc := 45) C d_Uni_clear_45 rfl 3 rfl ?_
  refine ax_aload_n (pc := 46) C d_Uni_clear_46 rfl 0 rfl ?_
  refine cg_59_9_Uni_32 (pc := 47) C d_Uni_clear_47 ?_
  refine cg_64_1_Uni_53 (pc := 50) C d_Uni_clear_50 ?_
  refine ax_icmp_ge (pc := 53) C 77 d_Uni_clear_53 (by decide) (fun hc => ?_) (fun hc => ?_)
  · have h := it_t hc h
    refine ax_aload_n (pc := 77) C d_Uni_clear_77 rfl 0 rfl ?_
    refine cg_59_9_Uni_32 (pc := 78) C d_Uni_clear_78 ?_
    refine ax_iconst (pc := 81) C 0 d_Uni_clear_81 (by decide +kernel) ?_
    refine cq_64_1_Uni_53 (pc := 82) C d_Uni_clear_82 ?_
    have h := it_l h
    generalize mI σ 6401 0 = σ1 at h ⊢
    cases h
    exact ax_vret (pc := 85) C d_Uni_clear_85 rfl (Nat.le_refl _) (Nat.le_refl _)
  · have h := it_f hc h
    refine ax_aload_n (pc := 56) C d_Uni_clear_56 rfl 0 rfl ?_
    refine cg_59_8_Uni_23 (pc := 57) C d_Uni_clear_57 ?_
    refine ax_aload_n (pc := 60) C d_Uni_clear_60 rfl 0 rfl ?_
    refine cg_59_9_Uni_32 (pc := 61) C d_Uni_clear_61 ?_
    refine cg_64_0_Uni_56 (pc := 64) C d_Uni_clear_64 ?_
    refine ax_iload_n (pc := 67) C d_Uni_clear_67 rfl 3 rfl ?_
    obtain ⟨hb, h⟩ := it_g h
    refine cl_65 (pc := 68) C d_Uni_clear_68 (bin_in hb) ?_
    refine ax_iconst (pc := 69) C 0 d_Uni_clear_69 (by decide +kernel) ?_
    obtain ⟨hb, h⟩ := it_g h
    refine cs_63 (pc := 70) C d_Uni_clear_70 (bin_in hb) ?_
    have h := it_l h
    generalize mA σ 63 (Int32.toNatClampNeg (σ.2.1 65 (Int32.toNatClampNeg x2))) (vp_nar .boolean 0) = σ2 at h ⊢
    refine ax_iinc (pc := 71) C (x2 + 1) d_Uni_clear_71 3 rfl rfl (Nat.le_of_ble_eq_true rfl) ([(3, .int (x2 + 1)), (0, .ref (u 59)), (1, .int x0), (2, .int x1)]) rfl ?_
    refine ax_goto (pc := 74) C 45 d_Uni_clear_74 (by decide) ?_
    refine ax_ls ([(0, .ref (u 59)), (1, .int x0), (2, .int x1), (3, .int (x2 + 1))]) [1, 2, 3, 0] rfl ?_
    have hm : sC_Uni_clear_p45 l D kA u w tx σ2 [x0, x1, (x2 + 1)] (σf, rf, _) := ih tC_Uni_clear_p45 _ _ _ h
    exact hm _ _ _ rfl p e s m args below meth c F Lo σ0 hF hLo C
set_option maxHeartbeats 4000000 in
set_option maxRecDepth 100000 in
theorem oC_Uni_occurs (l : Launch) (D : va_G) (kA : Nat → ClassId) (u w : Nat → Nat) (tx : Value) (rec : mF) (ih : ∀ t σ xs res, rec t σ xs = some res → cSem l D kA u w tx t σ xs res) (σ : mS) (xs : List Int32) (res : mR) (h : u_3 (kC_Uni_occurs rec σ) xs = some res) : sC_Uni_occurs l D kA u w tx σ xs res := by
  intro x0 x1 x2 hxs
  subst hxs
  obtain ⟨σf, rf, dd⟩ := res
  have h : (rec tC_Uni_occurs_p15 σ [x0, x1, x2, 0, 0, x1, x2, 0]) = some (σf, rf, dd) := h
  refine ax_Mi.of (by decide +kernel) (Nat.le_of_ble_eq_true rfl) ?_
  intro p e s m args below meth c C hnm
  have C : ax_C p s m args meth c b_Uni_occurs "ClauseProver$Unifier" 12 (some .boolean) D kA (va_A (cpW kA u w tx σ) s.heap.size) := C
  obtain ⟨F, hFe⟩ : ∃ F, F = dd + 1 := ⟨_, rfl⟩
  obtain ⟨Lo, hLoe⟩ : ∃ Lo, Lo = 48 * dd + 48 := ⟨_, rfl⟩
  obtain ⟨σ0, hσ0⟩ : ∃ s0, s0 = σ := ⟨_, rfl⟩
  suffices K : AW p l e { frames := F, cells := 0, slots := 0, locals := Lo } s m args below meth c D kA (va_A (cpW kA u w tx σ0) s.heap.size) 12 (ax_Qi below args s D kA (cpW kA u w tx σ0) 0 0 (fun r w1 => r = rf ∧ w1 = cpW kA u w tx σf)) 0 [(0, .ref (u 59)), (1, .int x0), (2, .int x1), (3, .int x2)] [] (cpW kA u w tx σ) 0 0 by rw [hFe, hLoe, hσ0] at K; exact ax_ls ([(0, .ref (u 59)), (1, .int x0), (2, .int x1), (3, .int x2)]) [0, 1, 2, 3] rfl K
  have C : ax_C p s m args meth c b_Uni_occurs "ClauseProver$Unifier" 12 (some .boolean) D kA (va_A (cpW kA u w tx σ0) s.heap.size) := by rw [hσ0]; exact C
  have hF : dd + 1 ≤ F := by omega
  have hLo : 48 * dd + 48 ≤ Lo := by omega
  clear hFe hLoe hσ0
  refine ax_iconst (pc := 0) C 0 d_Uni_occurs_0 (by decide +kernel) ?_
  refine ax_istore (pc := 1) C d_Uni_occurs_1 (Nat.le_of_ble_eq_true rfl) ([(4, .int 0), (0, .ref (u 59)), (1, .int x0), (2, .int x1), (3, .int x2)]) rfl ?_
  refine ax_iconst (pc := 3) C 0 d_Uni_occurs_3 (by decide +kernel) ?_
  refine ax_istore (pc := 4) C d_Uni_occurs_4 (Nat.le_of_ble_eq_true rfl) ([(5, .int 0), (4, .int 0), (0, .ref (u 59)), (1, .int x0), (2, .int x1), (3, .int x2)]) rfl ?_
  refine ax_iload_n (pc := 6) C d_Uni_occurs_6 rfl 4 rfl ?_
  refine ax_istore (pc := 7) C d_Uni_occurs_7 (Nat.le_of_ble_eq_true rfl) ([(6, .int x1), (5, .int 0), (4, .int 0), (0, .ref (u 59)), (1, .int x0), (2, .int x1), (3, .int x2)]) rfl ?_
  refine ax_iload_n (pc := 9) C d_Uni_occurs_9 rfl 6 rfl ?_
  refine ax_istore (pc := 10) C d_Uni_occurs_10 (Nat.le_of_ble_eq_true rfl) ([(7, .int x2), (6, .int x1), (5, .int 0), (4, .int 0), (0, .ref (u 59)), (1, .int x0), (2, .int x1), (3, .int x2)]) rfl ?_
  refine ax_iconst (pc := 12) C 0 d_Uni_occurs_12 (by decide +kernel) ?_
  refine ax_istore (pc := 13) C d_Uni_occurs_13 (Nat.le_of_ble_eq_true rfl) ([(8, .int 0), (7, .int x2), (6, .int x1), (5, .int 0), (4, .int 0), (0, .ref (u 59)), (1, .int x0), (2, .int x1), (3, .int x2)]) rfl ?_
  refine ax_ls ([(0, .ref (u 59)), (1, .int x0), (2, .int x1), (3, .int x2), (4, .int 0), (5, .int 0), (6, .int x1), (7, .int x2), (8, .int 0)]) [5, 6, 7, 8, 4, 3, 2, 1, 0] rfl ?_
  have hm : sC_Uni_occurs_p15 l D kA u w tx σ [x0, x1, x2, 0, 0, x1, x2, 0] (σf, rf, _) := ih tC_Uni_occurs_p15 _ _ _ h
  exact hm _ _ _ _ _ _ _ _ rfl p e s m args below meth c F Lo σ0 hF hLo C
set_option maxHeartbeats 4000000 in
set_option maxRecDepth 100000 in
theorem oC_Uni_occurs_p15 (l : Launch) (D : va_G) (kA : Nat → ClassId) (u w : Nat → Nat) (tx : Value) (rec : mF) (ih : ∀ t σ xs res, rec t σ xs = some res → cSem l D kA u w tx t σ xs res) (σ : mS) (xs : List Int32) (res : mR) (h : u_8 (kC_Uni_occurs_p15 rec σ) xs = some res) : sC_Uni_occurs_p15 l D kA u w tx σ xs res := by
  intro x0 x1 x2 x3 x4 x5 x6 x7 hxs
  subst hxs
  obtain ⟨σf, rf, dd⟩ := res
  have h : (if 12 < x7 then (rec tC_Uni_occurs_p190 σ [x0, x1, x2, x3, x4, x5, x6, x7]) else (rec tC_Uni_occurs_p29 σ [x0, x1, x2, x3, x4, x5, x6, x7, 1, x5])) = some (σf, rf, dd) := h
  intro p e s m args below meth c F Lo σ0 hF hLo C
  dsimp only at hF hLo ⊢
  refine ax_iload (pc := 15) C d_Uni_occurs_15 8 rfl ?_
  refine ax_bipush (pc := 17) C 12 d_Uni_occurs_17 (by decide +kernel) ?_
  refine ax_icmp_gt (pc := 19) C 190 d_Uni_occurs_19 (by decide) (fun hc => ?_) (fun hc => ?_)
  · have h := it_t hc h
    refine ax_ls ([(0, .ref (u 59)), (1, .int x0), (2, .int x1), (3, .int x2), (4, .int x3), (5, .int x4), (6, .int x5), (7, .int x6), (8, .int x7)]) [0, 1, 2, 3, 4, 5, 6, 7, 8] rfl ?_
    have hm : sC_Uni_occurs_p190 l D kA u w tx σ [x0, x1, x2, x3, x4, x5, x6, x7] (σf, rf, _) := ih tC_Uni_occurs_p190 _ _ _ h
    exact hm _ _ _ _ _ _ _ _ rfl p e s m args below meth c F Lo σ0 hF hLo C
  · have h := it_f hc h
    refine ax_iconst (pc := 22) C 1 d_Uni_occurs_22 (by decide +kernel) ?_
    refine ax_istore (pc := 23) C d_Uni_occurs_23 (Nat.le_of_ble_eq_true rfl) ([(9, .int 1), (0, .ref (u 59)), (1, .int x0), (2, .int x1), (3, .int x2), (4, .int x3), (5, .int x4), (6, .int x5), (7, .int x6), (8, .int x7)]) rfl ?_
    refine ax_iload (pc := 25) C d_Uni_occurs_25 7 rfl ?_
    refine ax_istore (pc := 27) C d_Uni_occurs_27 (Nat.le_of_ble_eq_true rfl) ([(10, .int x5), (9, .int 1), (0, .ref (u 59)), (1, .int x0), (2, .int x1), (3, .int x2), (4, .int x3), (5, .int x4), (6, .int x5), (7, .int x6), (8, .int x7)]) rfl ?_
    refine ax_ls ([(0, .ref (u 59)), (1, .int x0), (2, .int x1), (3, .int x2), (4, .int x3), (5, .int x4), (6, .int x5), (7, .int x6), (8, .int x7), (9, .int 1), (10, .int x5)]) [2, 3, 4, 5, 6, 7, 8, 9, 10, 1, 0] rfl ?_
    have hm : sC_Uni_occurs_p29 l D kA u w tx σ [x0, x1, x2, x3, x4, x5, x6, x7, 1, x5] (σf, rf, _) := ih tC_Uni_occurs_p29 _ _ _ h
    exact hm _ _ _ _ _ _ _ _ _ _ rfl p e s m args below meth c F Lo σ0 hF hLo C
set_option maxHeartbeats 4000000 in
set_option maxRecDepth 100000 in
theorem oC_Uni_occurs_p29 (l : Launch) (D : va_G) (kA : Nat → ClassId) (u w : Nat → Nat) (tx : Value) (rec : mF) (ih : ∀ t σ xs res, rec t σ xs = some res → cSem l D kA u w tx t σ xs res) (σ : mS) (xs : List Int32) (res : mR) (h : u_10 (kC_Uni_occurs_p29 rec σ) xs = some res) : sC_Uni_occurs_p29 l D kA u w tx σ xs res := by
  intro x0 x1 x2 x3 x4 x5 x6 x7 x8 x9 hxs
  subst hxs
  obtain ⟨σf, rf, dd⟩ := res
  have h : (if x8 ≤ 0 then (rec tC_Uni_occurs_p118 σ [x0, x1, x2, x3, x4, x5, x6, x7, x8, x9]) else (if (σ.1 4701) ≤ x9 then (rec tC_Uni_occurs_p118 σ [x0, x1, x2, x3, x4, x5, x6, x7, x8, x9]) else (if bin x9 (σ.2.2 48) = true then (if 0 ≤ (σ.2.1 48 (Int32.toNatClampNeg x9)) then (if bin (σ.2.1 48 (Int32.toNatClampNeg x9)) 551 = true then (rec tC_Uni_occurs_p81 σ [x0, x1, x2, x3, x4, x5, x6, x7, x8, x9, (σ.2.1 48 (Int32.toNatClampNeg x9)), (((σ.2.1 7 (Int32.toNatClampNeg (σ.2.1 48 (Int32.toNatClampNeg x9)))) : Int32) - 1), x8]) else none) else (rec tC_Uni_occurs_p81 σ [x0, x1, x2, x3, x4, x5, x6, x7, x8, x9, (σ.2.1 48 (Int32.toNatClampNeg x9)), (-1), x8])) else none))) = some (σf, rf, dd) := h
  intro p e s m args below meth c F Lo σ0 hF hLo C
  dsimp only at hF hLo ⊢
  refine ax_iload (pc := 29) C d_Uni_occurs_29 9 rfl ?_
  refine ax_if_le (pc := 31) C 118 d_Uni_occurs_31 (by decide) (fun hc => ?_) (fun hc => ?_)
  · have h := it_t hc h
    refine ax_ls ([(0, .ref (u 59)), (1, .int x0), (2, .int x1), (3, .int x2), (4, .int x3), (5, .int x4), (6, .int x5), (7, .int x6), (8, .int x7), (9, .int x8), (10, .int x9)]) [0, 1, 2, 3, 4, 5, 6, 7, 8, 9, 10] rfl ?_
    have hm : sC_Uni_occurs_p118 l D kA u w tx σ [x0, x1, x2, x3, x4, x5, x6, x7, x8, x9] (σf, rf, _) := ih tC_Uni_occurs_p118 _ _ _ h
    exact hm _ _ _ _ _ _ _ _ _ _ rfl p e s m args below meth c F Lo σ0 hF hLo C
  · have h := it_f hc h
    refine ax_iload (pc := 34) C d_Uni_occurs_34 10 rfl ?_
    refine ax_aload_n (pc := 36) C d_Uni_occurs_36 rfl 0 rfl ?_
    refine cg_59_1_Uni_40 (pc := 37) C d_Uni_occurs_37 ?_
    refine cg_47_1_Uni_53 (pc := 40) C d_Uni_occurs_40 ?_
    refine ax_icmp_ge (pc := 43) C 118 d_Uni_occurs_43 (by decide) (fun hc => ?_) (fun hc => ?_)
    · have h := it_t hc h
      refine ax_ls ([(0, .ref (u 59)), (1, .int x0), (2, .int x1), (3, .int x2), (4, .int x3), (5, .int x4), (6, .int x5), (7, .int x6), (8, .int x7), (9, .int x8), (10, .int x9)]) [0, 1, 2, 3, 4, 5, 6, 7, 8, 9, 10] rfl ?_
      have hm : sC_Uni_occurs_p118 l D kA u w tx σ [x0, x1, x2, x3, x4, x5, x6, x7, x8, x9] (σf, rf, _) := ih tC_Uni_occurs_p118 _ _ _ h
      exact hm _ _ _ _ _ _ _ _ _ _ rfl p e s m args below meth c F Lo σ0 hF hLo C
    · have h := it_f hc h
      refine ax_aload_n (pc := 46) C d_Uni_occurs_46 rfl 0 rfl ?_
      refine cg_59_1_Uni_40 (pc := 47) C d_Uni_occurs_47 ?_
      refine cg_47_0_Uni_56 (pc := 50) C d_Uni_occurs_50 ?_
      refine ax_iload (pc := 53) C d_Uni_occurs_53 10 rfl ?_
      obtain ⟨hb, h⟩ := it_g h
      refine cl_48 (pc := 55) C d_Uni_occurs_55 (bin_in hb) ?_
      refine ax_istore (pc := 56) C d_Uni_occurs_56 (Nat.le_of_ble_eq_true rfl) ([(11, .int (σ.2.1 48 (Int32.toNatClampNeg x9))), (0, .ref (u 59)), (1, .int x0), (2, .int x1), (3, .int x2), (4, .int x3), (5, .int x4), (6, .int x5), (7, .int x6), (8, .int x7), (9, .int x8), (10, .int x9)]) rfl ?_
      refine ax_iload (pc := 58) C d_Uni_occurs_58 10 rfl ?_
      refine ax_iload (pc := 60) C d_Uni_occurs_60 0 rfl ?_
      refine ax_if_ge (pc := 62) C 69 d_Uni_occurs_62 (by decide) (fun hc => ?_) (fun hc => ?_)
      · have h := it_t hc h
        refine ax_aload_n (pc := 69) C d_Uni_occurs_69 rfl 1 rfl ?_
        refine cg_59_0_Uni_36 (pc := 70) C d_Uni_occurs_70 ?_
        refine cg_6_0_Uni_69 (pc := 73) C d_Uni_occurs_73 ?_
        refine ax_iload (pc := 76) C d_Uni_occurs_76 0 rfl ?_
        obtain ⟨hb, h⟩ := it_g h
        refine cl_7 (pc := 78) C d_Uni_occurs_78 (bin_in hb) ?_
        refine ax_iconst (pc := 79) C 1 d_Uni_occurs_79 (by decide +kernel) ?_
        refine ax_isub (pc := 80) C d_Uni_occurs_80 ?_
        refine ax_ls ([(0, .ref (u 59)), (1, .int x0), (2, .int x1), (3, .int x2), (4, .int x3), (5, .int x4), (6, .int x5), (7, .int x6), (8, .int x7), (9, .int x8), (10, .int x9), (11, .int (σ.2.1 48 (Int32.toNatClampNeg x9)))]) [1, 2, 3, 4, 5, 6, 7, 8, 9, 10, 11, 0] rfl ?_
        have hm : sC_Uni_occurs_p81 l D kA u w tx σ [x0, x1, x2, x3, x4, x5, x6, x7, x8, x9, (σ.2.1 48 (Int32.toNatClampNeg x9)), (((σ.2.1 7 (Int32.toNatClampNeg (σ.2.1 48 (Int32.toNatClampNeg x9)))) : Int32) - 1), x8] (σf, rf, _) := ih tC_Uni_occurs_p81 _ _ _ h
        exact hm _ _ _ _ _ _ _ _ _ _ _ _ _ rfl p e s m args below meth c F Lo σ0 hF hLo C
      · have h := it_f hc h
        refine ax_iconst (pc := 65) C (-1) d_Uni_occurs_65 (by decide +kernel) ?_
        refine ax_goto (pc := 66) C 81 d_Uni_occurs_66 (by decide) ?_
        refine ax_ls ([(0, .ref (u 59)), (1, .int x0), (2, .int x1), (3, .int x2), (4, .int x3), (5, .int x4), (6, .int x5), (7, .int x6), (8, .int x7), (9, .int x8), (10, .int x9), (11, .int (σ.2.1 48 (Int32.toNatClampNeg x9)))]) [1, 2, 3, 4, 5, 6, 7, 8, 9, 10, 11, 0] rfl ?_
        have hm : sC_Uni_occurs_p81 l D kA u w tx σ [x0, x1, x2, x3, x4, x5, x6, x7, x8, x9, (σ.2.1 48 (Int32.toNatClampNeg x9)), (-1), x8] (σf, rf, _) := ih tC_Uni_occurs_p81 _ _ _ h
        exact hm _ _ _ _ _ _ _ _ _ _ _ _ _ rfl p e s m args below meth c F Lo σ0 hF hLo C
set_option maxHeartbeats 4000000 in
set_option maxRecDepth 100000 in
theorem oC_Uni_occurs_p81 (l : Launch) (D : va_G) (kA : Nat → ClassId) (u w : Nat → Nat) (tx : Value) (rec : mF) (ih : ∀ t σ xs res, rec t σ xs = some res → cSem l D kA u w tx t σ xs res) (σ : mS) (xs : List Int32) (res : mR) (h : u_13 (kC_Uni_occurs_p81 rec σ) xs = some res) : sC_Uni_occurs_p81 l D kA u w tx σ xs res := by
  intro x0 x1 x2 x3 x4 x5 x6 x7 x8 x9 x10 x11 x12 hxs
  subst hxs
  obtain ⟨σf, rf, dd⟩ := res
  have h : (if 0 ≤ x10 then (rec tC_Uni_occurs_p109 σ [x0, x1, x2, x3, x4, x5, x6, x7, ((x12 : Int32) + x11), x9, x10, 0, x3]) else (if bin ((((x10 : Int32) ^^^ (-1)) : Int32) + x6) 12 = true then (rec tC_Uni_occurs_p109 σ [x0, x1, x2, x3, x4, x5, x6, x7, ((x12 : Int32) + x11), x9, x10, ((1 : Int32) <<< ((σ.2.1 60 (Int32.toNatClampNeg ((((x10 : Int32) ^^^ (-1)) : Int32) + x6))) &&& 31)), x3]) else none)) = some (σf, rf, dd) := h
  intro p e s m args below meth c F Lo σ0 hF hLo C
  dsimp only at hF hLo ⊢
  refine ax_iadd (pc := 81) C d_Uni_occurs_81 ?_
  refine ax_istore (pc := 82) C d_Uni_occurs_82 (Nat.le_of_ble_eq_true rfl) ([(9, .int ((x12 : Int32) + x11)), (0, .ref (u 59)), (1, .int x0), (2, .int x1), (3, .int x2), (4, .int x3), (5, .int x4), (6, .int x5), (7, .int x6), (8, .int x7), (10, .int x9), (11, .int x10)]) rfl ?_
  refine ax_iload (pc := 84) C d_Uni_occurs_84 5 rfl ?_
  refine ax_iload (pc := 86) C d_Uni_occurs_86 11 rfl ?_
  refine ax_if_ge (pc := 88) C 108 d_Uni_occurs_88 (by decide) (fun hc => ?_) (fun hc => ?_)
  · have h := it_t hc h
    refine ax_iconst (pc := 108) C 0 d_Uni_occurs_108 (by decide +kernel) ?_
    refine ax_ls ([(0, .ref (u 59)), (1, .int x0), (2, .int x1), (3, .int x2), (4, .int x3), (5, .int x4), (6, .int x5), (7, .int x6), (8, .int x7), (9, .int ((x12 : Int32) + x11)), (10, .int x9), (11, .int x10)]) [1, 2, 3, 4, 5, 6, 7, 8, 9, 0, 10, 11] rfl ?_
    have hm : sC_Uni_occurs_p109 l D kA u w tx σ [x0, x1, x2, x3, x4, x5, x6, x7, ((x12 : Int32) + x11), x9, x10, 0, x3] (σf, rf, _) := ih tC_Uni_occurs_p109 _ _ _ h
    exact hm _ _ _ _ _ _ _ _ _ _ _ _ _ rfl p e s m args below meth c F Lo σ0 hF hLo C
  · have h := it_f hc h
    refine ax_iconst (pc := 91) C 1 d_Uni_occurs_91 (by decide +kernel) ?_
    refine ax_aload_n (pc := 92) C d_Uni_occurs_92 rfl 1 rfl ?_
    refine cg_59_2_Uni_13 (pc := 93) C d_Uni_occurs_93 ?_
    refine ax_iload (pc := 96) C d_Uni_occurs_96 11 rfl ?_
    refine ax_iconst (pc := 98) C (-1) d_Uni_occurs_98 (by decide +kernel) ?_
    refine ax_ixor (pc := 99) C d_Uni_occurs_99 ?_
    refine ax_iload (pc := 100) C d_Uni_occurs_100 8 rfl ?_
    refine ax_iadd (pc := 102) C d_Uni_occurs_102 ?_
    obtain ⟨hb, h⟩ := it_g h
    refine cl_60 (pc := 103) C d_Uni_occurs_103 (bin_in hb) ?_
    refine ax_ishl (pc := 104) C d_Uni_occurs_104 ?_
    refine ax_goto (pc := 105) C 109 d_Uni_occurs_105 (by decide) ?_
    refine ax_ls ([(0, .ref (u 59)), (1, .int x0), (2, .int x1), (3, .int x2), (4, .int x3), (5, .int x4), (6, .int x5), (7, .int x6), (8, .int x7), (9, .int ((x12 : Int32) + x11)), (10, .int x9), (11, .int x10)]) [1, 2, 3, 4, 5, 6, 7, 8, 9, 0, 10, 11] rfl ?_
    have hm : sC_Uni_occurs_p109 l D kA u w tx σ [x0, x1, x2, x3, x4, x5, x6, x7, ((x12 : Int32) + x11), x9, x10, ((1 : Int32) <<< ((σ.2.1 60 (Int32.toNatClampNeg ((((x10 : Int32) ^^^ (-1)) : Int32) + x6))) &&& 31)), x3] (σf, rf, _) := ih tC_Uni_occurs_p109 _ _ _ h
    exact hm _ _ _ _ _ _ _ _ _ _ _ _ _ rfl p e s m args below meth c F Lo σ0 hF hLo C
set_option maxHeartbeats 4000000 in
set_option maxRecDepth 100000 in
theorem oC_Uni_occurs_p109 (l : Launch) (D : va_G) (kA : Nat → ClassId) (u w : Nat → Nat) (tx : Value) (rec : mF) (ih : ∀ t σ xs res, rec t σ xs = some res → cSem l D kA u w tx t σ xs res) (σ : mS) (xs : List Int32) (res : mR) (h : u_13 (kC_Uni_occurs_p109 rec σ) xs = some res) : sC_Uni_occurs_p109 l D kA u w tx σ xs res := by
  intro x0 x1 x2 x3 x4 x5 x6 x7 x8 x9 x10 x11 x12 hxs
  subst hxs
  obtain ⟨σf, rf, dd⟩ := res
  have h : (rec tC_Uni_occurs_p29 σ [x0, x1, x2, ((x12 : Int32) ||| x11), x4, x5, x6, x7, x8, (x9 + 1)]) = some (σf, rf, dd) := h
  intro p e s m args below meth c F Lo σ0 hF hLo C
  dsimp only at hF hLo ⊢
  refine ax_ior (pc := 109) C d_Uni_occurs_109 ?_
  refine ax_istore (pc := 110) C d_Uni_occurs_110 (Nat.le_of_ble_eq_true rfl) ([(4, .int ((x12 : Int32) ||| x11)), (0, .ref (u 59)), (1, .int x0), (2, .int x1), (3, .int x2), (5, .int x4), (6, .int x5), (7, .int x6), (8, .int x7), (9, .int x8), (10, .int x9), (11, .int x10)]) rfl ?_
  refine ax_iinc (pc := 112) C (x9 + 1) d_Uni_occurs_112 10 rfl rfl (Nat.le_of_ble_eq_true rfl) ([(10, .int (x9 + 1)), (4, .int ((x12 : Int32) ||| x11)), (0, .ref (u 59)), (1, .int x0), (2, .int x1), (3, .int x2), (5, .int x4), (6, .int x5), (7, .int x6), (8, .int x7), (9, .int x8), (11, .int x10)]) rfl ?_
  refine ax_goto (pc := 115) C 29 d_Uni_occurs_115 (by decide) ?_
  refine ax_ls ([(0, .ref (u 59)), (1, .int x0), (2, .int x1), (3, .int x2), (4, .int ((x12 : Int32) ||| x11)), (5, .int x4), (6, .int x5), (7, .int x6), (8, .int x7), (9, .int x8), (10, .int (x9 + 1))]) [2, 3, 4, 5, 1, 6, 7, 8, 9, 10, 0] rfl ?_
  have hm : sC_Uni_occurs_p29 l D kA u w tx σ [x0, x1, x2, ((x12 : Int32) ||| x11), x4, x5, x6, x7, x8, (x9 + 1)] (σf, rf, _) := ih tC_Uni_occurs_p29 _ _ _ h
  exact hm _ _ _ _ _ _ _ _ _ _ rfl p e s m args below meth c F Lo σ0 hF hLo C
set_option maxHeartbeats 4000000 in
set_option maxRecDepth 100000 in
theorem oC_Uni_occurs_p118 (l : Launch) (D : va_G) (kA : Nat → ClassId) (u w : Nat → Nat) (tx : Value) (rec : mF) (ih : ∀ t σ xs res, rec t σ xs = some res → cSem l D kA u w tx t σ xs res) (σ : mS) (xs : List Int32) (res : mR) (h : u_10 (kC_Uni_occurs_p118 rec σ) xs = some res) : sC_Uni_occurs_p118 l D kA u w tx σ xs res := by
  intro x0 x1 x2 x3 x4 x5 x6 x7 x8 x9 hxs
  subst hxs
  obtain ⟨σf, rf, dd⟩ := res
  have h : (if ((((x3 : Int32) >>> (x0 &&& 31)) : Int32) &&& 1) = 1 then (rec tC_Uni_occurs_p190 σ [x0, x1, x2, x3, x4, x5, x6, x7]) else (if ((((x3 : Int32) &&& (σ.1 5905)) : Int32) &&& ((x4 : Int32) ^^^ (-1))) = 0 then (rec tC_Uni_occurs_p190 σ [x0, x1, x2, x3, x4, x5, x6, x7]) else (bnd (rec tC_Integer_numberOfTrailingZeros σ [((((x3 : Int32) &&& (σ.1 5905)) : Int32) &&& ((x4 : Int32) ^^^ (-1)))]) (fun σ1 r1 => if bin r1 12 = true then (if bin r1 12 = true then (rec tC_Uni_occurs_p15 σ1 [x0, x1, x2, x3, ((x4 : Int32) ||| ((1 : Int32) <<< (r1 &&& 31))), (σ1.2.1 61 (Int32.toNatClampNeg r1)), (σ1.2.1 62 (Int32.toNatClampNeg r1)), (x7 + 1)]) else none) else none)))) = some (σf, rf, dd) := h
  intro p e s m args below meth c F Lo σ0 hF hLo C
  dsimp only at hF hLo ⊢
  refine ax_iload (pc := 118) C d_Uni_occurs_118 4 rfl ?_
  refine ax_aload_n (pc := 120) C d_Uni_occurs_120 rfl 0 rfl ?_
  refine cg_59_5_Uni_43 (pc := 121) C d_Uni_occurs_121 ?_
  refine ax_iand (pc := 124) C d_Uni_occurs_124 ?_
  refine ax_iload (pc := 125) C d_Uni_occurs_125 5 rfl ?_
  refine ax_iconst (pc := 127) C (-1) d_Uni_occurs_127 (by decide +kernel) ?_
  refine ax_ixor (pc := 128) C d_Uni_occurs_128 ?_
  refine ax_iand (pc := 129) C d_Uni_occurs_129 ?_
  refine ax_istore (pc := 130) C d_Uni_occurs_130 (Nat.le_of_ble_eq_true rfl) ([(10, .int ((((x3 : Int32) &&& (σ.1 5905)) : Int32) &&& ((x4 : Int32) ^^^ (-1)))), (0, .ref (u 59)), (1, .int x0), (2, .int x1), (3, .int x2), (4, .int x3), (5, .int x4), (6, .int x5), (7, .int x6), (8, .int x7), (9, .int x8)]) rfl ?_
  refine ax_iload (pc := 132) C d_Uni_occurs_132 5 rfl ?_
  refine ax_iload_n (pc := 134) C d_Uni_occurs_134 rfl 2 rfl ?_
  refine ax_ishr (pc := 135) C d_Uni_occurs_135 ?_
  refine ax_iconst (pc := 136) C 1 d_Uni_occurs_136 (by decide +kernel) ?_
  refine ax_iand (pc := 137) C d_Uni_occurs_137 ?_
  refine ax_iconst (pc := 138) C 1 d_Uni_occurs_138 (by decide +kernel) ?_
  refine ax_icmp_eq (pc := 139) C 190 d_Uni_occurs_139 (by decide) (fun hc => ?_) (fun hc => ?_)
  · have h := it_t hc h
    refine ax_ls ([(0, .ref (u 59)), (1, .int x0), (2, .int x1), (3, .int x2), (4, .int x3), (5, .int x4), (6, .int x5), (7, .int x6), (8, .int x7)]) [1, 2, 3, 4, 5, 6, 7, 8, 9] rfl ?_
    have hm : sC_Uni_occurs_p190 l D kA u w tx σ [x0, x1, x2, x3, x4, x5, x6, x7] (σf, rf, _) := ih tC_Uni_occurs_p190 _ _ _ h
    exact hm _ _ _ _ _ _ _ _ rfl p e s m args below meth c F Lo σ0 hF hLo C
  · have h := it_f hc h
    refine ax_iload (pc := 142) C d_Uni_occurs_142 0 rfl ?_
    refine ax_if_ne (pc := 144) C 150 d_Uni_occurs_144 (by decide) (fun hc => ?_) (fun hc => ?_)
    · have h := it_f hc h
      refine ax_iload (pc := 150) C d_Uni_occurs_150 0 rfl ?_
      obtain ⟨σ1, r1, d1_1, d2_1, h1, h, hd2, hd1⟩ := it_b h
      have hm : sC_Integer_numberOfTrailingZeros l D kA u w tx σ [((((x3 : Int32) &&& (σ.1 5905)) : Int32) &&& ((x4 : Int32) ^^^ (-1)))] (σ1, r1, d1_1) := ih tC_Integer_numberOfTrailingZeros _ _ _ h1
      refine cc_Si (pc := 152) C (r0 := r1) (σ2 := σ1) (As := [.int ((((x3 : Int32) &&& (σ.1 5905)) : Int32) &&& ((x4 : Int32) ^^^ (-1)))]) (rest := []) (hm _ rfl) ml_Uni_93 d_Uni_occurs_152 rfl rfl (by dsimp only; omega) (by dsimp only; omega) (Nat.le_of_ble_eq_true rfl) (Nat.le_of_ble_eq_true rfl) (Nat.le_of_ble_eq_true rfl) ?_
      have hF : d2_1 + 1 ≤ F := by omega
      have hLo : 48 * d2_1 + 48 ≤ Lo := by omega
      refine ax_istore (pc := 155) C d_Uni_occurs_155 (Nat.le_of_ble_eq_true rfl) ([(11, .int r1), (10, .int ((((x3 : Int32) &&& (σ.1 5905)) : Int32) &&& ((x4 : Int32) ^^^ (-1)))), (0, .ref (u 59)), (1, .int x0), (2, .int x1), (3, .int x2), (4, .int x3), (5, .int x4), (6, .int x5), (7, .int x6), (8, .int x7), (9, .int x8)]) rfl ?_
      refine ax_iload (pc := 157) C d_Uni_occurs_157 7 rfl ?_
      refine ax_iconst (pc := 159) C 1 d_Uni_occurs_159 (by decide +kernel) ?_
      refine ax_iload (pc := 160) C d_Uni_occurs_160 0 rfl ?_
      refine ax_ishl (pc := 162) C d_Uni_occurs_162 ?_
      refine ax_ior (pc := 163) C d_Uni_occurs_163 ?_
      refine ax_istore (pc := 164) C d_Uni_occurs_164 (Nat.le_of_ble_eq_true rfl) ([(5, .int ((x4 : Int32) ||| ((1 : Int32) <<< (r1 &&& 31)))), (11, .int r1), (10, .int ((((x3 : Int32) &&& (σ.1 5905)) : Int32) &&& ((x4 : Int32) ^^^ (-1)))), (0, .ref (u 59)), (1, .int x0), (2, .int x1), (3, .int x2), (4, .int x3), (6, .int x5), (7, .int x6), (8, .int x7), (9, .int x8)]) rfl ?_
      refine ax_aload_n (pc := 166) C d_Uni_occurs_166 rfl 3 rfl ?_
      refine cg_59_3_Uni_17 (pc := 167) C d_Uni_occurs_167 ?_
      refine ax_iload (pc := 170) C d_Uni_occurs_170 1 rfl ?_
      obtain ⟨hb, h⟩ := it_g h
      refine cl_61 (pc := 172) C d_Uni_occurs_172 (bin_in hb) ?_
      refine ax_istore (pc := 173) C d_Uni_occurs_173 (Nat.le_of_ble_eq_true rfl) ([(6, .int (σ1.2.1 61 (Int32.toNatClampNeg r1))), (5, .int ((x4 : Int32) ||| ((1 : Int32) <<< (r1 &&& 31)))), (11, .int r1), (10, .int ((((x3 : Int32) &&& (σ.1 5905)) : Int32) &&& ((x4 : Int32) ^^^ (-1)))), (0, .ref (u 59)), (1, .int x0), (2, .int x1), (3, .int x2), (4, .int x3), (7, .int x6), (8, .int x7), (9, .int x8)]) rfl ?_
      refine ax_aload_n (pc := 175) C d_Uni_occurs_175 rfl 4 rfl ?_
      refine cg_59_4_Uni_20 (pc := 176) C d_Uni_occurs_176 ?_
      refine ax_iload (pc := 179) C d_Uni_occurs_179 2 rfl ?_
      obtain ⟨hb, h⟩ := it_g h
      refine cl_62 (pc := 181) C d_Uni_occurs_181 (bin_in hb) ?_
      refine ax_istore (pc := 182) C d_Uni_occurs_182 (Nat.le_of_ble_eq_true rfl) ([(7, .int (σ1.2.1 62 (Int32.toNatClampNeg r1))), (6, .int (σ1.2.1 61 (Int32.toNatClampNeg r1))), (5, .int ((x4 : Int32) ||| ((1 : Int32) <<< (r1 &&& 31)))), (11, .int r1), (10, .int ((((x3 : Int32) &&& (σ.1 5905)) : Int32) &&& ((x4 : Int32) ^^^ (-1)))), (0, .ref (u 59)), (1, .int x0), (2, .int x1), (3, .int x2), (4, .int x3), (8, .int x7), (9, .int x8)]) rfl ?_
      refine ax_iinc (pc := 184) C (x7 + 1) d_Uni_occurs_184 10 rfl rfl (Nat.le_of_ble_eq_true rfl) ([(8, .int (x7 + 1)), (7, .int (σ1.2.1 62 (Int32.toNatClampNeg r1))), (6, .int (σ1.2.1 61 (Int32.toNatClampNeg r1))), (5, .int ((x4 : Int32) ||| ((1 : Int32) <<< (r1 &&& 31)))), (11, .int r1), (10, .int ((((x3 : Int32) &&& (σ.1 5905)) : Int32) &&& ((x4 : Int32) ^^^ (-1)))), (0, .ref (u 59)), (1, .int x0), (2, .int x1), (3, .int x2), (4, .int x3), (9, .int x8)]) rfl ?_
      refine ax_goto (pc := 187) C 15 d_Uni_occurs_187 (by decide) ?_
      refine ax_ls ([(0, .ref (u 59)), (1, .int x0), (2, .int x1), (3, .int x2), (4, .int x3), (5, .int ((x4 : Int32) ||| ((1 : Int32) <<< (r1 &&& 31)))), (6, .int (σ1.2.1 61 (Int32.toNatClampNeg r1))), (7, .int (σ1.2.1 62 (Int32.toNatClampNeg r1))), (8, .int (x7 + 1))]) [6, 7, 8, 9, 10, 3, 2, 1, 0] rfl ?_
      have hm : sC_Uni_occurs_p15 l D kA u w tx σ1 [x0, x1, x2, x3, ((x4 : Int32) ||| ((1 : Int32) <<< (r1 &&& 31))), (σ1.2.1 61 (Int32.toNatClampNeg r1)), (σ1.2.1 62 (Int32.toNatClampNeg r1)), (x7 + 1)] (σf, rf, _) := ih tC_Uni_occurs_p15 _ _ _ h
      exact hm _ _ _ _ _ _ _ _ rfl p e s m args below meth c F Lo σ0 hF hLo C
    · have h := it_t hc h
      refine ax_goto (pc := 147) C 190 d_Uni_occurs_147 (by decide) ?_
      refine ax_ls ([(0, .ref (u 59)), (1, .int x0), (2, .int x1), (3, .int x2), (4, .int x3), (5, .int x4), (6, .int x5), (7, .int x6), (8, .int x7)]) [1, 2, 3, 4, 5, 6, 7, 8, 9] rfl ?_
      have hm : sC_Uni_occurs_p190 l D kA u w tx σ [x0, x1, x2, x3, x4, x5, x6, x7] (σf, rf, _) := ih tC_Uni_occurs_p190 _ _ _ h
      exact hm _ _ _ _ _ _ _ _ rfl p e s m args below meth c F Lo σ0 hF hLo C
set_option maxHeartbeats 4000000 in
set_option maxRecDepth 100000 in
theorem oC_Uni_occurs_p190 (l : Launch) (D : va_G) (kA : Nat → ClassId) (u w : Nat → Nat) (tx : Value) (rec : mF) (ih : ∀ t σ xs res, rec t σ xs = some res → cSem l D kA u w tx t σ xs res) (σ : mS) (xs : List Int32) (res : mR) (h : u_8 (kC_Uni_occurs_p190 rec σ) xs = some res) : sC_Uni_occurs_p190 l D kA u w tx σ xs res := by
  intro x0 x1 x2 x3 x4 x5 x6 x7 hxs
  subst hxs
  obtain ⟨σf, rf, dd⟩ := res
  have h : (if ((((x3 : Int32) >>> (x0 &&& 31)) : Int32) &&& 1) = 1 then (rec tC_Uni_occurs_p205 σ [x0, x1, x2, x3, x4, x5, x6, x7, 1]) else (rec tC_Uni_occurs_p205 σ [x0, x1, x2, x3, x4, x5, x6, x7, 0])) = some (σf, rf, dd) := h
  intro p e s m args below meth c F Lo σ0 hF hLo C
  dsimp only at hF hLo ⊢
  refine ax_iload (pc := 190) C d_Uni_occurs_190 4 rfl ?_
  refine ax_iload_n (pc := 192) C d_Uni_occurs_192 rfl 1 rfl ?_
  refine ax_ishr (pc := 193) C d_Uni_occurs_193 ?_
  refine ax_iconst (pc := 194) C 1 d_Uni_occurs_194 (by decide +kernel) ?_
  refine ax_iand (pc := 195) C d_Uni_occurs_195 ?_
  refine ax_iconst (pc := 196) C 1 d_Uni_occurs_196 (by decide +kernel) ?_
  refine ax_icmp_ne (pc := 197) C 204 d_Uni_occurs_197 (by decide) (fun hc => ?_) (fun hc => ?_)
  · have h := it_f hc h
    refine ax_iconst (pc := 204) C 0 d_Uni_occurs_204 (by decide +kernel) ?_
    refine ax_ls ([(0, .ref (u 59)), (1, .int x0), (2, .int x1), (3, .int x2), (4, .int x3), (5, .int x4), (6, .int x5), (7, .int x6), (8, .int x7)]) [0, 1, 2, 3, 4, 5, 6, 7, 8] rfl ?_
    have hm : sC_Uni_occurs_p205 l D kA u w tx σ [x0, x1, x2, x3, x4, x5, x6, x7, 0] (σf, rf, _) := ih tC_Uni_occurs_p205 _ _ _ h
    exact hm _ _ _ _ _ _ _ _ _ rfl p e s m args below meth c F Lo σ0 hF hLo C
  · have h := it_t hc h
    refine ax_iconst (pc := 200) C 1 d_Uni_occurs_200 (by decide +kernel) ?_
    refine ax_goto (pc := 201) C 205 d_Uni_occurs_201 (by decide) ?_
    refine ax_ls ([(0, .ref (u 59)), (1, .int x0), (2, .int x1), (3, .int x2), (4, .int x3), (5, .int x4), (6, .int x5), (7, .int x6), (8, .int x7)]) [0, 1, 2, 3, 4, 5, 6, 7, 8] rfl ?_
    have hm : sC_Uni_occurs_p205 l D kA u w tx σ [x0, x1, x2, x3, x4, x5, x6, x7, 1] (σf, rf, _) := ih tC_Uni_occurs_p205 _ _ _ h
    exact hm _ _ _ _ _ _ _ _ _ rfl p e s m args below meth c F Lo σ0 hF hLo C
set_option maxHeartbeats 4000000 in
set_option maxRecDepth 100000 in
theorem oC_Uni_occurs_p205 (l : Launch) (D : va_G) (kA : Nat → ClassId) (u w : Nat → Nat) (tx : Value) (rec : mF) (ih : ∀ t σ xs res, rec t σ xs = some res → cSem l D kA u w tx t σ xs res) (σ : mS) (xs : List Int32) (res : mR) (h : u_9 (kC_Uni_occurs_p205 rec σ) xs = some res) : sC_Uni_occurs_p205 l D kA u w tx σ xs res := by
  intro x0 x1 x2 x3 x4 x5 x6 x7 x8 hxs
  subst hxs
  obtain ⟨σf, rf, dd⟩ := res
  have h : (if x8 = 0 ∨ x8 = 1 then some (σ, x8, 0) else none) = some (σf, rf, dd) := h
  intro p e s m args below meth c F Lo σ0 hF hLo C
  dsimp only at hF hLo ⊢
  obtain ⟨hb, h⟩ := it_g h
  cases h
  exact ax_zret (pc := 205) C d_Uni_occurs_205 (nb01 hb) ⟨rfl, rfl⟩ (Nat.le_refl _) (Nat.le_refl _)
set_option maxHeartbeats 4000000 in
set_option maxRecDepth 100000 in
theorem oC_Uni_write (l : Launch) (D : va_G) (kA : Nat → ClassId) (u w : Nat → Nat) (tx : Value) (rec : mF) (ih : ∀ t σ xs res, rec t σ xs = some res → cSem l D kA u w tx t σ xs res) (σ : mS) (xs : List Int32) (res : mR) (h : u_4 (kC_Uni_write rec σ) xs = some res) : sC_Uni_write l D kA u w tx σ xs res := by
  intro x0 x1 x2 x3 hxs
  subst hxs
  obtain ⟨σf, rf, dd⟩ := res
  have h : (rec tC_Uni_write_p3 σ [x0, x1, x2, x3, x0]) = some (σf, rf, dd) := h
  refine ax_Mv.of (by decide +kernel) (Nat.le_of_ble_eq_true rfl) ?_
  intro p e s m args below meth c C hnm
  have C : ax_C p s m args meth c b_Uni_write "ClauseProver$Unifier" 9 none D kA (va_A (cpW kA u w tx σ) s.heap.size) := C
  obtain ⟨F, hFe⟩ : ∃ F, F = dd + 1 := ⟨_, rfl⟩
  obtain ⟨Lo, hLoe⟩ : ∃ Lo, Lo = 48 * dd + 48 := ⟨_, rfl⟩
  obtain ⟨σ0, hσ0⟩ : ∃ s0, s0 = σ := ⟨_, rfl⟩
  suffices K : AW p l e { frames := F, cells := 0, slots := 0, locals := Lo } s m args below meth c D kA (va_A (cpW kA u w tx σ0) s.heap.size) 9 (ax_Qv below args s D kA (cpW kA u w tx σ0) 0 0 (fun w1 => w1 = cpW kA u w tx σf)) 0 [(0, .ref (u 59)), (1, .ref (u 39)), (2, .int x0), (3, .int x1), (4, .int x2), (5, .int x3)] [] (cpW kA u w tx σ) 0 0 by rw [hFe, hLoe, hσ0] at K; exact ax_ls ([(0, .ref (u 59)), (1, .ref (u 39)), (2, .int x0), (3, .int x1), (4, .int x2), (5, .int x3)]) [0, 1, 2, 3, 4, 5] rfl K
  have C : ax_C p s m args meth c b_Uni_write "ClauseProver$Unifier" 9 none D kA (va_A (cpW kA u w tx σ0) s.heap.size) := by rw [hσ0]; exact C
  have hF : dd + 1 ≤ F := by omega
  have hLo : 48 * dd + 48 ≤ Lo := by omega
  clear hFe hLoe hσ0
  refine ax_iload_n (pc := 0) C d_Uni_write_0 rfl 2 rfl ?_
  refine ax_istore (pc := 1) C d_Uni_write_1 (Nat.le_of_ble_eq_true rfl) ([(6, .int x0), (0, .ref (u 59)), (1, .ref (u 39)), (2, .int x0), (3, .int x1), (4, .int x2), (5, .int x3)]) rfl ?_
  refine ax_ls ([(0, .ref (u 59)), (1, .ref (u 39)), (2, .int x0), (3, .int x1), (4, .int x2), (5, .int x3), (6, .int x0)]) [1, 2, 3, 4, 5, 6, 0] rfl ?_
  have hm : sC_Uni_write_p3 l D kA u w tx σ [x0, x1, x2, x3, x0] (σf, rf, _) := ih tC_Uni_write_p3 _ _ _ h
  exact hm _ _ _ _ _ rfl p e s m args below meth c F Lo σ0 hF hLo C
set_option maxHeartbeats 4000000 in
set_option maxRecDepth 100000 in
theorem oC_Uni_write_p3 (l : Launch) (D : va_G) (kA : Nat → ClassId) (u w : Nat → Nat) (tx : Value) (rec : mF) (ih : ∀ t σ xs res, rec t σ xs = some res → cSem l D kA u w tx t σ xs res) (σ : mS) (xs : List Int32) (res : mR) (h : u_5 (kC_Uni_write_p3 rec σ) xs = some res) : sC_Uni_write_p3 l D kA u w tx σ xs res := by
  intro x0 x1 x2 x3 x4 hxs
  subst hxs
  obtain ⟨σf, rf, dd⟩ := res
  have h : (if x1 ≤ x4 then (rec tC_Uni_write_p147 σ [x0, x1, x2, x3, x4]) else (if (σ.1 3907) = 0 then (if 12 < x3 then (rec tC_Uni_write_p147 σ [x0, x1, x2, x3, x4]) else (if bin x4 (σ.2.2 48) = true then (if 0 ≤ (σ.2.1 48 (Int32.toNatClampNeg x4)) then (rec tC_Uni_write_p56 σ [x0, x1, x2, x3, x4, (σ.2.1 48 (Int32.toNatClampNeg x4)), (-1)]) else (if bin (((((σ.2.1 48 (Int32.toNatClampNeg x4)) : Int32) ^^^ (-1)) : Int32) + x2) 12 = true then (rec tC_Uni_write_p56 σ [x0, x1, x2, x3, x4, (σ.2.1 48 (Int32.toNatClampNeg x4)), (σ.2.1 60 (Int32.toNatClampNeg (((((σ.2.1 48 (Int32.toNatClampNeg x4)) : Int32) ^^^ (-1)) : Int32) + x2)))]) else none)) else none)) else (rec tC_Uni_write_p147 σ [x0, x1, x2, x3, x4]))) = some (σf, rf, dd) := h
  intro p e s m args below meth c F Lo σ0 hF hLo C
  dsimp only at hF hLo ⊢
  refine ax_iload (pc := 3) C d_Uni_write_3 6 rfl ?_
  refine ax_iload_n (pc := 5) C d_Uni_write_5 rfl 3 rfl ?_
  refine ax_icmp_ge (pc := 6) C 147 d_Uni_write_6 (by decide) (fun hc => ?_) (fun hc => ?_)
  · have h := it_t hc h
    refine ax_ls ([(0, .ref (u 59)), (1, .ref (u 39)), (2, .int x0), (3, .int x1), (4, .int x2), (5, .int x3), (6, .int x4)]) [0, 1, 2, 3, 4, 5, 6] rfl ?_
    have hm : sC_Uni_write_p147 l D kA u w tx σ [x0, x1, x2, x3, x4] (σf, rf, _) := ih tC_Uni_write_p147 _ _ _ h
    exact hm _ _ _ _ _ rfl p e s m args below meth c F Lo σ0 hF hLo C
  · have h := it_f hc h
    refine ax_aload_n (pc := 9) C d_Uni_write_9 rfl 1 rfl ?_
    refine cg_39_7_Uni_99 (pc := 10) C d_Uni_write_10 ?_
    refine ax_if_ne (pc := 13) C 147 d_Uni_write_13 (by decide) (fun hc => ?_) (fun hc => ?_)
    · have h := it_f hc h
      refine ax_ls ([(0, .ref (u 59)), (1, .ref (u 39)), (2, .int x0), (3, .int x1), (4, .int x2), (5, .int x3), (6, .int x4)]) [0, 1, 2, 3, 4, 5, 6] rfl ?_
      have hm : sC_Uni_write_p147 l D kA u w tx σ [x0, x1, x2, x3, x4] (σf, rf, _) := ih tC_Uni_write_p147 _ _ _ h
      exact hm _ _ _ _ _ rfl p e s m args below meth c F Lo σ0 hF hLo C
    · have h := it_t hc h
      refine ax_iload (pc := 16) C d_Uni_write_16 5 rfl ?_
      refine ax_bipush (pc := 18) C 12 d_Uni_write_18 (by decide +kernel) ?_
      refine ax_icmp_gt (pc := 20) C 147 d_Uni_write_20 (by decide) (fun hc => ?_) (fun hc => ?_)
      · have h := it_t hc h
        refine ax_ls ([(0, .ref (u 59)), (1, .ref (u 39)), (2, .int x0), (3, .int x1), (4, .int x2), (5, .int x3), (6, .int x4)]) [0, 1, 2, 3, 4, 5, 6] rfl ?_
        have hm : sC_Uni_write_p147 l D kA u w tx σ [x0, x1, x2, x3, x4] (σf, rf, _) := ih tC_Uni_write_p147 _ _ _ h
        exact hm _ _ _ _ _ rfl p e s m args below meth c F Lo σ0 hF hLo C
      · have h := it_f hc h
        refine ax_aload_n (pc := 23) C d_Uni_write_23 rfl 0 rfl ?_
        refine cg_59_1_Uni_40 (pc := 24) C d_Uni_write_24 ?_
        refine cg_47_0_Uni_56 (pc := 27) C d_Uni_write_27 ?_
        refine ax_iload (pc := 30) C d_Uni_write_30 6 rfl ?_
        obtain ⟨hb, h⟩ := it_g h
        refine cl_48 (pc := 32) C d_Uni_write_32 (bin_in hb) ?_
        refine ax_istore (pc := 33) C d_Uni_write_33 (Nat.le_of_ble_eq_true rfl) ([(7, .int (σ.2.1 48 (Int32.toNatClampNeg x4))), (0, .ref (u 59)), (1, .ref (u 39)), (2, .int x0), (3, .int x1), (4, .int x2), (5, .int x3), (6, .int x4)]) rfl ?_
        refine ax_iload (pc := 35) C d_Uni_write_35 0 rfl ?_
        refine ax_if_ge (pc := 37) C 55 d_Uni_write_37 (by decide) (fun hc => ?_) (fun hc => ?_)
        · have h := it_t hc h
          refine ax_iconst (pc := 55) C (-1) d_Uni_write_55 (by decide +kernel) ?_
          refine ax_ls ([(0, .ref (u 59)), (1, .ref (u 39)), (2, .int x0), (3, .int x1), (4, .int x2), (5, .int x3), (6, .int x4), (7, .int (σ.2.1 48 (Int32.toNatClampNeg x4)))]) [1, 2, 3, 4, 5, 6, 7, 0] rfl ?_
          have hm : sC_Uni_write_p56 l D kA u w tx σ [x0, x1, x2, x3, x4, (σ.2.1 48 (Int32.toNatClampNeg x4)), (-1)] (σf, rf, _) := ih tC_Uni_write_p56 _ _ _ h
          exact hm _ _ _ _ _ _ _ rfl p e s m args below meth c F Lo σ0 hF hLo C
        · have h := it_f hc h
          refine ax_aload_n (pc := 40) C d_Uni_write_40 rfl 1 rfl ?_
          refine cg_59_2_Uni_13 (pc := 41) C d_Uni_write_41 ?_
          refine ax_iload (pc := 44) C d_Uni_write_44 0 rfl ?_
          refine ax_iconst (pc := 46) C (-1) d_Uni_write_46 (by decide +kernel) ?_
          refine ax_ixor (pc := 47) C d_Uni_write_47 ?_
          refine ax_iload (pc := 48) C d_Uni_write_48 5 rfl ?_
          refine ax_iadd (pc := 50) C d_Uni_write_50 ?_
          obtain ⟨hb, h⟩ := it_g h
          refine cl_60 (pc := 51) C d_Uni_write_51 (bin_in hb) ?_
          refine ax_goto (pc := 52) C 56 d_Uni_write_52 (by decide) ?_
          refine ax_ls ([(0, .ref (u 59)), (1, .ref (u 39)), (2, .int x0), (3, .int x1), (4, .int x2), (5, .int x3), (6, .int x4), (7, .int (σ.2.1 48 (Int32.toNatClampNeg x4)))]) [1, 2, 3, 4, 5, 6, 7, 0] rfl ?_
          have hm : sC_Uni_write_p56 l D kA u w tx σ [x0, x1, x2, x3, x4, (σ.2.1 48 (Int32.toNatClampNeg x4)), (σ.2.1 60 (Int32.toNatClampNeg (((((σ.2.1 48 (Int32.toNatClampNeg x4)) : Int32) ^^^ (-1)) : Int32) + x2)))] (σf, rf, _) := ih tC_Uni_write_p56 _ _ _ h
          exact hm _ _ _ _ _ _ _ rfl p e s m args below meth c F Lo σ0 hF hLo C
set_option maxHeartbeats 4000000 in
set_option maxRecDepth 100000 in
theorem oC_Uni_write_p56 (l : Launch) (D : va_G) (kA : Nat → ClassId) (u w : Nat → Nat) (tx : Value) (rec : mF) (ih : ∀ t σ xs res, rec t σ xs = some res → cSem l D kA u w tx t σ xs res) (σ : mS) (xs : List Int32) (res : mR) (h : u_7 (kC_Uni_write_p56 rec σ) xs = some res) : sC_Uni_write_p56 l D kA u w tx σ xs res := by
  intro x0 x1 x2 x3 x4 x5 x6 hxs
  subst hxs
  obtain ⟨σf, rf, dd⟩ := res
  have h : (if x6 = (-1) then (bnd (rec tC_Dra_put σ [x5]) (fun σ5 r5 => rec tC_Uni_write_p141 σ5 [x0, x1, x2, x3, x4, x5, x6])) else (if bin x6 12 = true then (if (σ.2.1 61 (Int32.toNatClampNeg x6)) = (-1) then (bnd (rec tC_Dra_cellOf σ [x6]) (fun σ3 r3 => bnd (rec tC_Dra_put σ3 [r3]) (fun σ4 r4 => rec tC_Uni_write_p141 σ4 [x0, x1, x2, x3, x4, x5, x6]))) else (if bin x6 12 = true then (if bin x6 12 = true then (bnd (rec tC_Sym_after_48 σ [(σ.2.1 61 (Int32.toNatClampNeg x6))]) (fun σ1 r1 => if bin x6 12 = true then (bnd (rec tC_Uni_write σ1 [(σ.2.1 61 (Int32.toNatClampNeg x6)), r1, (σ1.2.1 62 (Int32.toNatClampNeg x6)), ((x3 : Int32) + 1)]) (fun σ2 r2 => rec tC_Uni_write_p141 σ2 [x0, x1, x2, x3, x4, x5, x6])) else none)) else none) else none)) else none)) = some (σf, rf, dd) := h
  intro p e s m args below meth c F Lo σ0 hF hLo C
  dsimp only at hF hLo ⊢
  refine ax_istore (pc := 56) C d_Uni_write_56 (Nat.le_of_ble_eq_true rfl) ([(8, .int x6), (0, .ref (u 59)), (1, .ref (u 39)), (2, .int x0), (3, .int x1), (4, .int x2), (5, .int x3), (6, .int x4), (7, .int x5)]) rfl ?_
  refine ax_iload (pc := 58) C d_Uni_write_58 0 rfl ?_
  refine ax_iconst (pc := 60) C (-1) d_Uni_write_60 (by decide +kernel) ?_
  refine ax_icmp_ne (pc := 61) C 73 d_Uni_write_61 (by decide) (fun hc => ?_) (fun hc => ?_)
  · have h := it_f hc h
    refine ax_aload_n (pc := 73) C d_Uni_write_73 rfl 1 rfl ?_
    refine cg_59_3_Uni_17 (pc := 74) C d_Uni_write_74 ?_
    refine ax_iload (pc := 77) C d_Uni_write_77 0 rfl ?_
    obtain ⟨hb, h⟩ := it_g h
    refine cl_61 (pc := 79) C d_Uni_write_79 (bin_in hb) ?_
    refine ax_iconst (pc := 80) C (-1) d_Uni_write_80 (by decide +kernel) ?_
    refine ax_icmp_ne (pc := 81) C 97 d_Uni_write_81 (by decide) (fun hc => ?_) (fun hc => ?_)
    · have h := it_f hc h
      refine ax_aload_n (pc := 97) C d_Uni_write_97 rfl 1 rfl ?_
      refine ax_aload_n (pc := 98) C d_Uni_write_98 rfl 2 rfl ?_
      refine ax_aload_n (pc := 99) C d_Uni_write_99 rfl 1 rfl ?_
      refine cg_59_3_Uni_17 (pc := 100) C d_Uni_write_100 ?_
      refine ax_iload (pc := 103) C d_Uni_write_103 0 rfl ?_
      obtain ⟨hb, h⟩ := it_g h
      refine cl_61 (pc := 105) C d_Uni_write_105 (bin_in hb) ?_
      refine ax_aload_n (pc := 106) C d_Uni_write_106 rfl 1 rfl ?_
      refine cg_59_0_Uni_36 (pc := 107) C d_Uni_write_107 ?_
      refine ax_aload_n (pc := 110) C d_Uni_write_110 rfl 1 rfl ?_
      refine cg_59_1_Uni_40 (pc := 111) C d_Uni_write_111 ?_
      refine cg_47_0_Uni_56 (pc := 114) C d_Uni_write_114 ?_
      refine ax_aload_n (pc := 117) C d_Uni_write_117 rfl 1 rfl ?_
      refine cg_59_3_Uni_17 (pc := 118) C d_Uni_write_118 ?_
      refine ax_iload (pc := 121) C d_Uni_write_121 0 rfl ?_
      obtain ⟨hb, h⟩ := it_g h
      refine cl_61 (pc := 123) C d_Uni_write_123 (bin_in hb) ?_
      obtain ⟨σ1, r1, d1_1, d2_1, h1, h, hd2, hd1⟩ := it_b h
      have hm : sC_Sym_after_48 l D kA u w tx σ [(σ.2.1 61 (Int32.toNatClampNeg x6))] (σ1, r1, d1_1) := ih tC_Sym_after_48 _ _ _ h1
      refine cc_Vi (pc := 124) C (r0 := r1) (σ2 := σ1) (As := [.ref (w 48), .int (σ.2.1 61 (Int32.toNatClampNeg x6))]) (rest := [.int (σ.2.1 61 (Int32.toNatClampNeg x6)), .ref (u 39), .ref (u 59)]) (hm _ rfl) ml_Uni_63 6 rfl rfl rfl d_Uni_write_124 rfl rfl (by dsimp only; omega) (by dsimp only; omega) (Nat.le_of_ble_eq_true rfl) (Nat.le_of_ble_eq_true rfl) (Nat.le_of_ble_eq_true rfl) ?_
      have hF : d2_1 + 1 ≤ F := by omega
      have hLo : 48 * d2_1 + 48 ≤ Lo := by omega
      refine ax_aload_n (pc := 127) C d_Uni_write_127 rfl 1 rfl ?_
      refine cg_59_4_Uni_20 (pc := 128) C d_Uni_write_128 ?_
      refine ax_iload (pc := 131) C d_Uni_write_131 0 rfl ?_
      obtain ⟨hb, h⟩ := it_g h
      refine cl_62 (pc := 133) C d_Uni_write_133 (bin_in hb) ?_
      refine ax_iload (pc := 134) C d_Uni_write_134 6 rfl ?_
      refine ax_iconst (pc := 136) C 1 d_Uni_write_136 (by decide +kernel) ?_
      refine ax_iadd (pc := 137) C d_Uni_write_137 ?_
      obtain ⟨σ2, r2, d1_2, d2_2, h1, h, hd2, hd1⟩ := it_b h
      have hm : sC_Uni_write l D kA u w tx σ1 [(σ.2.1 61 (Int32.toNatClampNeg x6)), r1, (σ1.2.1 62 (Int32.toNatClampNeg x6)), ((x3 : Int32) + 1)] (σ2, r2, d1_2) := ih tC_Uni_write _ _ _ h1
      refine cc_Vv (pc := 138) C (σ2 := σ2) (As := [.ref (u 39), .int (σ.2.1 61 (Int32.toNatClampNeg x6)), .int r1, .int (σ1.2.1 62 (Int32.toNatClampNeg x6)), .int ((x3 : Int32) + 1)]) (rest := []) (hm _ _ _ _ rfl) ml_Uni_111 59 rfl rfl rfl d_Uni_write_138 rfl rfl (by dsimp only; omega) (by dsimp only; omega) (Nat.le_of_ble_eq_true rfl) (Nat.le_of_ble_eq_true rfl) (Nat.le_of_ble_eq_true rfl) ?_
      have hF : d2_2 + 1 ≤ F := by omega
      have hLo : 48 * d2_2 + 48 ≤ Lo := by omega
      refine ax_ls ([(0, .ref (u 59)), (1, .ref (u 39)), (2, .int x0), (3, .int x1), (4, .int x2), (5, .int x3), (6, .int x4), (7, .int x5), (8, .int x6)]) [1, 2, 3, 4, 5, 6, 7, 8, 0] rfl ?_
      have hm : sC_Uni_write_p141 l D kA u w tx σ2 [x0, x1, x2, x3, x4, x5, x6] (σf, rf, _) := ih tC_Uni_write_p141 _ _ _ h
      exact hm _ _ _ _ _ _ _ rfl p e s m args below meth c F Lo σ0 hF hLo C
    · have h := it_t hc h
      refine ax_aload_n (pc := 84) C d_Uni_write_84 rfl 2 rfl ?_
      refine ax_aload_n (pc := 85) C d_Uni_write_85 rfl 2 rfl ?_
      refine ax_iload (pc := 86) C d_Uni_write_86 0 rfl ?_
      obtain ⟨σ3, r3, d1_3, d2_3, h1, h, hd2, hd1⟩ := it_b h
      have hm : sC_Dra_cellOf l D kA u w tx σ [x6] (σ3, r3, d1_3) := ih tC_Dra_cellOf _ _ _ h1
      refine cc_Vi (pc := 88) C (r0 := r3) (σ2 := σ3) (As := [.int x6]) (rest := [.ref (u 39)]) (hm _ rfl) ml_Uni_108 39 rfl rfl rfl d_Uni_write_88 rfl rfl (by dsimp only; omega) (by dsimp only; omega) (Nat.le_of_ble_eq_true rfl) (Nat.le_of_ble_eq_true rfl) (Nat.le_of_ble_eq_true rfl) ?_
      have hF : d2_3 + 1 ≤ F := by omega
      have hLo : 48 * d2_3 + 48 ≤ Lo := by omega
      obtain ⟨σ4, r4, d1_4, d2_4, h1, h, hd2, hd1⟩ := it_b h
      have hm : sC_Dra_put l D kA u w tx σ3 [r3] (σ4, r4, d1_4) := ih tC_Dra_put _ _ _ h1
      refine cc_Vv (pc := 91) C (σ2 := σ4) (As := [.int r3]) (rest := []) (hm _ rfl) ml_Uni_105 39 rfl rfl rfl d_Uni_write_91 rfl rfl (by dsimp only; omega) (by dsimp only; omega) (Nat.le_of_ble_eq_true rfl) (Nat.le_of_ble_eq_true rfl) (Nat.le_of_ble_eq_true rfl) ?_
      have hF : d2_4 + 1 ≤ F := by omega
      have hLo : 48 * d2_4 + 48 ≤ Lo := by omega
      refine ax_goto (pc := 94) C 141 d_Uni_write_94 (by decide) ?_
      refine ax_ls ([(0, .ref (u 59)), (1, .ref (u 39)), (2, .int x0), (3, .int x1), (4, .int x2), (5, .int x3), (6, .int x4), (7, .int x5), (8, .int x6)]) [1, 2, 3, 4, 5, 6, 7, 8, 0] rfl ?_
      have hm : sC_Uni_write_p141 l D kA u w tx σ4 [x0, x1, x2, x3, x4, x5, x6] (σf, rf, _) := ih tC_Uni_write_p141 _ _ _ h
      exact hm _ _ _ _ _ _ _ rfl p e s m args below meth c F Lo σ0 hF hLo C
  · have h := it_t hc h
    refine ax_aload_n (pc := 64) C d_Uni_write_64 rfl 2 rfl ?_
    refine ax_iload (pc := 65) C d_Uni_write_65 8 rfl ?_
    obtain ⟨σ5, r5, d1_5, d2_5, h1, h, hd2, hd1⟩ := it_b h
    have hm : sC_Dra_put l D kA u w tx σ [x5] (σ5, r5, d1_5) := ih tC_Dra_put _ _ _ h1
    refine cc_Vv (pc := 67) C (σ2 := σ5) (As := [.int x5]) (rest := []) (hm _ rfl) ml_Uni_105 39 rfl rfl rfl d_Uni_write_67 rfl rfl (by dsimp only; omega) (by dsimp only; omega) (Nat.le_of_ble_eq_true rfl) (Nat.le_of_ble_eq_true rfl) (Nat.le_of_ble_eq_true rfl) ?_
    have hF : d2_5 + 1 ≤ F := by omega
    have hLo : 48 * d2_5 + 48 ≤ Lo := by omega
    refine ax_goto (pc := 70) C 141 d_Uni_write_70 (by decide) ?_
    refine ax_ls ([(0, .ref (u 59)), (1, .ref (u 39)), (2, .int x0), (3, .int x1), (4, .int x2), (5, .int x3), (6, .int x4), (7, .int x5), (8, .int x6)]) [1, 2, 3, 4, 5, 6, 7, 8, 0] rfl ?_
    have hm : sC_Uni_write_p141 l D kA u w tx σ5 [x0, x1, x2, x3, x4, x5, x6] (σf, rf, _) := ih tC_Uni_write_p141 _ _ _ h
    exact hm _ _ _ _ _ _ _ rfl p e s m args below meth c F Lo σ0 hF hLo C
set_option maxHeartbeats 4000000 in
set_option maxRecDepth 100000 in
theorem oC_Uni_write_p141 (l : Launch) (D : va_G) (kA : Nat → ClassId) (u w : Nat → Nat) (tx : Value) (rec : mF) (ih : ∀ t σ xs res, rec t σ xs = some res → cSem l D kA u w tx t σ xs res) (σ : mS) (xs : List Int32) (res : mR) (h : u_7 (kC_Uni_write_p141 rec σ) xs = some res) : sC_Uni_write_p141 l D kA u w tx σ xs res := by
  intro x0 x1 x2 x3 x4 x5 x6 hxs
  subst hxs
  obtain ⟨σf, rf, dd⟩ := res
  have h : (rec tC_Uni_write_p3 σ [x0, x1, x2, x3, (x4 + 1)]) = some (σf, rf, dd) := h
  intro p e s m args below meth c F Lo σ0 hF hLo C
  dsimp only at hF hLo ⊢
  refine ax_iinc (pc := 141) C (x4 + 1) d_Uni_write_141 6 rfl rfl (Nat.le_of_ble_eq_true rfl) ([(6, .int (x4 + 1)), (0, .ref (u 59)), (1, .ref (u 39)), (2, .int x0), (3, .int x1), (4, .int x2), (5, .int x3), (7, .int x5), (8, .int x6)]) rfl ?_
  refine ax_goto (pc := 144) C 3 d_Uni_write_144 (by decide) ?_
  refine ax_ls ([(0, .ref (u 59)), (1, .ref (u 39)), (2, .int x0), (3, .int x1), (4, .int x2), (5, .int x3), (6, .int (x4 + 1))]) [1, 2, 3, 4, 5, 6, 0] rfl ?_
  have hm : sC_Uni_write_p3 l D kA u w tx σ [x0, x1, x2, x3, (x4 + 1)] (σf, rf, _) := ih tC_Uni_write_p3 _ _ _ h
  exact hm _ _ _ _ _ rfl p e s m args below meth c F Lo σ0 hF hLo C
set_option maxHeartbeats 4000000 in
set_option maxRecDepth 100000 in
theorem oC_Uni_write_p147 (l : Launch) (D : va_G) (kA : Nat → ClassId) (u w : Nat → Nat) (tx : Value) (rec : mF) (ih : ∀ t σ xs res, rec t σ xs = some res → cSem l D kA u w tx t σ xs res) (σ : mS) (xs : List Int32) (res : mR) (h : u_5 (kC_Uni_write_p147 rec σ) xs = some res) : sC_Uni_write_p147 l D kA u w tx σ xs res := by
  intro x0 x1 x2 x3 x4 hxs
  subst hxs
  obtain ⟨σf, rf, dd⟩ := res
  have h : (some (σ, 0, 0)) = some (σf, rf, dd) := h
  intro p e s m args below meth c F Lo σ0 hF hLo C
  dsimp only at hF hLo ⊢
  cases h
  exact ax_vret (pc := 147) C d_Uni_write_147 rfl (Nat.le_refl _) (Nat.le_refl _)
set_option maxHeartbeats 4000000 in
set_option maxRecDepth 100000 in
theorem oC_Wds_advance (l : Launch) (D : va_G) (kA : Nat → ClassId) (u w : Nat → Nat) (tx : Value) (rec : mF) (ih : ∀ t σ xs res, rec t σ xs = some res → cSem l D kA u w tx t σ xs res) (σ : mS) (xs : List Int32) (res : mR) (h : u_0 (kC_Wds_advance rec σ) xs = some res) : sC_Wds_advance l D kA u w tx σ xs res := by
  intro hxs htx
  subst hxs
  obtain ⟨σf, rf, dd⟩ := res
  have h : (bnd (rec tC_Wds_skipBlanks σ []) (fun σ1 r1 => lt_ (mI σ1 3203 (σ1.1 3206)) (fun σ2 => lt_ (mI σ2 3204 0) (fun σ3 => lt_ (mI σ3 3205 0) (fun σ4 => lt_ (mI σ4 3202 0) (fun σ5 => if (σ5.1 3206) < (σ5.1 3201) then (lt_ (mI σ5 3207 (((σ5.1 3207) : Int32) + 1)) (fun σ6 => if (σ6.1 3207) ≤ 20000 then (rec tC_Wds_advance_p65 σ6 [0]) else (rec tC_Wds_advance_p65 σ6 [1]))) else (some (σ5, 0, 0)))))))) = some (σf, rf, dd) := h
  refine ax_Mv.of (by decide +kernel) (Nat.le_of_ble_eq_true rfl) ?_
  intro p e s m args below meth c C hnm
  have C : ax_C p s m args meth c b_Wds_advance "ClauseProver$Words" 1 none D kA (va_A (cpW kA u w tx σ) s.heap.size) := C
  obtain ⟨F, hFe⟩ : ∃ F, F = dd + 1 := ⟨_, rfl⟩
  obtain ⟨Lo, hLoe⟩ : ∃ Lo, Lo = 48 * dd + 48 := ⟨_, rfl⟩
  obtain ⟨σ0, hσ0⟩ : ∃ s0, s0 = σ := ⟨_, rfl⟩
  suffices K : AW p l e { frames := F, cells := 0, slots := 0, locals := Lo } s m args below meth c D kA (va_A (cpW kA u w tx σ0) s.heap.size) 1 (ax_Qv below args s D kA (cpW kA u w tx σ0) 0 0 (fun w1 => w1 = cpW kA u w tx σf)) 0 [(0, .ref (u 32))] [] (cpW kA u w tx σ) 0 0 by rw [hFe, hLoe, hσ0] at K; exact ax_ls ([(0, .ref (u 32))]) [0] rfl K
  have C : ax_C p s m args meth c b_Wds_advance "ClauseProver$Words" 1 none D kA (va_A (cpW kA u w tx σ0) s.heap.size) := by rw [hσ0]; exact C
  have hF : dd + 1 ≤ F := by omega
  have hLo : 48 * dd + 48 ≤ Lo := by omega
  clear hFe hLoe hσ0
  refine ax_aload_n (pc := 0) C d_Wds_advance_0 rfl 0 rfl ?_
  obtain ⟨σ1, r1, d1_1, d2_1, h1, h, hd2, hd1⟩ := it_b h
  have hm : sC_Wds_skipBlanks l D kA u w tx σ [] (σ1, r1, d1_1) := ih tC_Wds_skipBlanks _ _ _ h1
  refine cc_Vv (pc := 1) C (σ2 := σ1) (As := []) (rest := []) (hm rfl htx) ml_Wds_45 32 rfl rfl rfl d_Wds_advance_1 rfl rfl (by dsimp only; omega) (by dsimp only; omega) (Nat.le_of_ble_eq_true rfl) (Nat.le_of_ble_eq_true rfl) (Nat.le_of_ble_eq_true rfl) ?_
  have hF : d2_1 + 1 ≤ F := by omega
  have hLo : 48 * d2_1 + 48 ≤ Lo := by omega
  refine ax_aload_n (pc := 4) C d_Wds_advance_4 rfl 0 rfl ?_
  refine ax_aload_n (pc := 5) C d_Wds_advance_5 rfl 0 rfl ?_
  refine cg_32_6_Wds_19 (pc := 6) C d_Wds_advance_6 ?_
  refine cq_32_3_Wds_42 (pc := 9) C d_Wds_advance_9 ?_
  have h := it_l h
  generalize mI σ1 3203 (σ1.1 3206) = σ2 at h ⊢
  refine ax_aload_n (pc := 12) C d_Wds_advance_12 rfl 0 rfl ?_
  refine ax_iconst (pc := 13) C 0 d_Wds_advance_13 (by decide +kernel) ?_
  refine cq_32_4_Wds_39 (pc := 14) C d_Wds_advance_14 ?_
  have h := it_l h
  generalize mI σ2 3204 0 = σ3 at h ⊢
  refine ax_aload_n (pc := 17) C d_Wds_advance_17 rfl 0 rfl ?_
  refine ax_iconst (pc := 18) C 0 d_Wds_advance_18 (by decide +kernel) ?_
  refine cq_32_5_Wds_31 (pc := 19) C (by decide) d_Wds_advance_19 ?_
  have h := it_l h
  generalize mI σ3 3205 0 = σ4 at h ⊢
  refine ax_aload_n (pc := 22) C d_Wds_advance_22 rfl 0 rfl ?_
  refine ax_iconst (pc := 23) C 0 d_Wds_advance_23 (by decide +kernel) ?_
  refine cq_32_2_Wds_28 (pc := 24) C d_Wds_advance_24 ?_
  have h := it_l h
  generalize mI σ4 3202 0 = σ5 at h ⊢
  refine ax_aload_n (pc := 27) C d_Wds_advance_27 rfl 0 rfl ?_
  refine cg_32_6_Wds_19 (pc := 28) C d_Wds_advance_28 ?_
  refine ax_aload_n (pc := 31) C d_Wds_advance_31 rfl 0 rfl ?_
  refine cg_32_1_Wds_15 (pc := 32) C d_Wds_advance_32 ?_
  refine ax_icmp_lt (pc := 35) C 39 d_Wds_advance_35 (by decide) (fun hc => ?_) (fun hc => ?_)
  · have h := it_t hc h
    refine ax_aload_n (pc := 39) C d_Wds_advance_39 rfl 0 rfl ?_
    refine ax_dup (pc := 40) C d_Wds_advance_40 rfl ?_
    refine cg_32_7_Wds_22 (pc := 41) C d_Wds_advance_41 ?_
    refine ax_iconst (pc := 44) C 1 d_Wds_advance_44 (by decide +kernel) ?_
    refine ax_iadd (pc := 45) C d_Wds_advance_45 ?_
    refine cq_32_7_Wds_22 (pc := 46) C d_Wds_advance_46 ?_
    have h := it_l h
    generalize mI σ5 3207 (((σ5.1 3207) : Int32) + 1) = σ6 at h ⊢
    refine ax_aload_n (pc := 49) C d_Wds_advance_49 rfl 0 rfl ?_
    refine ax_aload_n (pc := 50) C d_Wds_advance_50 rfl 0 rfl ?_
    refine cg_32_7_Wds_22 (pc := 51) C d_Wds_advance_51 ?_
    refine ax_sipush (pc := 54) C 20000 d_Wds_advance_54 (by decide +kernel) ?_
    refine ax_icmp_le (pc := 57) C 64 d_Wds_advance_57 (by decide) (fun hc => ?_) (fun hc => ?_)
    · have h := it_t hc h
      refine ax_iconst (pc := 64) C 0 d_Wds_advance_64 (by decide +kernel) ?_
      refine ax_ls ([(0, .ref (u 32))]) [0] rfl ?_
      have hm : sC_Wds_advance_p65 l D kA u w tx σ6 [0] (σf, rf, _) := ih tC_Wds_advance_p65 _ _ _ h
      exact hm _ rfl htx p e s m args below meth c F Lo σ0 hF hLo C
    · have h := it_f hc h
      refine ax_iconst (pc := 60) C 1 d_Wds_advance_60 (by decide +kernel) ?_
      refine ax_goto (pc := 61) C 65 d_Wds_advance_61 (by decide) ?_
      refine ax_ls ([(0, .ref (u 32))]) [0] rfl ?_
      have hm : sC_Wds_advance_p65 l D kA u w tx σ6 [1] (σf, rf, _) := ih tC_Wds_advance_p65 _ _ _ h
      exact hm _ rfl htx p e s m args below meth c F Lo σ0 hF hLo C
  · have h := it_f hc h
    cases h
    exact ax_vret (pc := 38) C d_Wds_advance_38 rfl (Nat.le_refl _) (Nat.le_refl _)
set_option maxHeartbeats 4000000 in
set_option maxRecDepth 100000 in
theorem oC_Wds_advance_p65 (l : Launch) (D : va_G) (kA : Nat → ClassId) (u w : Nat → Nat) (tx : Value) (rec : mF) (ih : ∀ t σ xs res, rec t σ xs = some res → cSem l D kA u w tx t σ xs res) (σ : mS) (xs : List Int32) (res : mR) (h : u_1 (kC_Wds_advance_p65 rec σ) xs = some res) : sC_Wds_advance_p65 l D kA u w tx σ xs res := by
  intro x0 hxs htx
  subst hxs
  obtain ⟨σf, rf, dd⟩ := res
  have h : (if x0 = 0 ∨ x0 = 1 then (lt_ (mI σ 3205 x0) (fun σ1 => if bin (σ1.1 3206) (σ1.2.2 2) = true then (if (((σ1.2.1 2 (Int32.toNatClampNeg (σ1.1 3206))) : Int32) ||| 32) < 97 then (rec tC_Wds_advance_p109 σ1 []) else (if bin (σ1.1 3206) (σ1.2.2 2) = true then (if 122 < (((σ1.2.1 2 (Int32.toNatClampNeg (σ1.1 3206))) : Int32) ||| 32) then (rec tC_Wds_advance_p109 σ1 []) else (bnd (rec tC_Wds_takeWord σ1 []) (fun σ2 r2 => rec tC_Wds_advance_p169 σ2 []))) else none)) else none)) else none) = some (σf, rf, dd) := h
  intro p e s m args below meth c F Lo σ0 hF hLo C
  dsimp only at hF hLo ⊢
  obtain ⟨hb, h⟩ := it_g h
  refine cq_32_5_Wds_31 (pc := 65) C hb d_Wds_advance_65 ?_
  have h := it_l h
  generalize mI σ 3205 x0 = σ1 at h ⊢
  refine ax_aload_n (pc := 68) C d_Wds_advance_68 rfl 0 rfl ?_
  refine cg_32_0_Wds_9 (pc := 69) C htx d_Wds_advance_69 ?_
  refine ax_aload_n (pc := 72) C d_Wds_advance_72 rfl 0 rfl ?_
  refine cg_32_6_Wds_19 (pc := 73) C d_Wds_advance_73 ?_
  obtain ⟨hb, h⟩ := it_g h
  refine cl_2 (pc := 76) C d_Wds_advance_76 (bin_in hb) ?_
  refine ax_bipush (pc := 77) C 32 d_Wds_advance_77 (by decide +kernel) ?_
  refine ax_ior (pc := 79) C d_Wds_advance_79 ?_
  refine ax_bipush (pc := 80) C 97 d_Wds_advance_80 (by decide +kernel) ?_
  refine ax_icmp_lt (pc := 82) C 109 d_Wds_advance_82 (by decide) (fun hc => ?_) (fun hc => ?_)
  · have h := it_t hc h
    refine ax_ls ([(0, .ref (u 32))]) [0] rfl ?_
    have hm : sC_Wds_advance_p109 l D kA u w tx σ1 [] (σf, rf, _) := ih tC_Wds_advance_p109 _ _ _ h
    exact hm rfl htx p e s m args below meth c F Lo σ0 hF hLo C
  · have h := it_f hc h
    refine ax_aload_n (pc := 85) C d_Wds_advance_85 rfl 0 rfl ?_
    refine cg_32_0_Wds_9 (pc := 86) C htx d_Wds_advance_86 ?_
    refine ax_aload_n (pc := 89) C d_Wds_advance_89 rfl 0 rfl ?_
    refine cg_32_6_Wds_19 (pc := 90) C d_Wds_advance_90 ?_
    obtain ⟨hb, h⟩ := it_g h
    refine cl_2 (pc := 93) C d_Wds_advance_93 (bin_in hb) ?_
    refine ax_bipush (pc := 94) C 32 d_Wds_advance_94 (by decide +kernel) ?_
    refine ax_ior (pc := 96) C d_Wds_advance_96 ?_
    refine ax_bipush (pc := 97) C 122 d_Wds_advance_97 (by decide +kernel) ?_
    refine ax_icmp_gt (pc := 99) C 109 d_Wds_advance_99 (by decide) (fun hc => ?_) (fun hc => ?_)
    · have h := it_t hc h
      refine ax_ls ([(0, .ref (u 32))]) [0] rfl ?_
      have hm : sC_Wds_advance_p109 l D kA u w tx σ1 [] (σf, rf, _) := ih tC_Wds_advance_p109 _ _ _ h
      exact hm rfl htx p e s m args below meth c F Lo σ0 hF hLo C
    · have h := it_f hc h
      refine ax_aload_n (pc := 102) C d_Wds_advance_102 rfl 0 rfl ?_
      obtain ⟨σ2, r2, d1_2, d2_2, h1, h, hd2, hd1⟩ := it_b h
      have hm : sC_Wds_takeWord l D kA u w tx σ1 [] (σ2, r2, d1_2) := ih tC_Wds_takeWord _ _ _ h1
      refine cc_Vv (pc := 103) C (σ2 := σ2) (As := []) (rest := []) (hm rfl htx) ml_Wds_48 32 rfl rfl rfl d_Wds_advance_103 rfl rfl (by dsimp only; omega) (by dsimp only; omega) (Nat.le_of_ble_eq_true rfl) (Nat.le_of_ble_eq_true rfl) (Nat.le_of_ble_eq_true rfl) ?_
      have hF : d2_2 + 1 ≤ F := by omega
      have hLo : 48 * d2_2 + 48 ≤ Lo := by omega
      refine ax_goto (pc := 106) C 169 d_Wds_advance_106 (by decide) ?_
      refine ax_ls ([(0, .ref (u 32))]) [0] rfl ?_
      have hm : sC_Wds_advance_p169 l D kA u w tx σ2 [] (σf, rf, _) := ih tC_Wds_advance_p169 _ _ _ h
      exact hm rfl htx p e s m args below meth c F Lo σ0 hF hLo C
set_option maxHeartbeats 4000000 in
set_option maxRecDepth 100000 in
theorem oC_Wds_advance_p109 (l : Launch) (D : va_G) (kA : Nat → ClassId) (u w : Nat → Nat) (tx : Value) (rec : mF) (ih : ∀ t σ xs res, rec t σ xs = some res → cSem l D kA u w tx t σ xs res) (σ : mS) (xs : List Int32) (res : mR) (h : u_0 (kC_Wds_advance_p109 rec σ) xs = some res) : sC_Wds_advance_p109 l D kA u w tx σ xs res := by
  intro hxs htx
  subst hxs
  obtain ⟨σf, rf, dd⟩ := res
  have h : (if (σ.1 3201) ≤ (((σ.1 3206) : Int32) + 1) then (rec tC_Wds_advance_p138 σ [(-1)]) else (if bin (((σ.1 3206) : Int32) + 1) (σ.2.2 2) = true then (rec tC_Wds_advance_p138 σ [(σ.2.1 2 (Int32.toNatClampNeg (((σ.1 3206) : Int32) + 1)))]) else none)) = some (σf, rf, dd) := h
  intro p e s m args below meth c F Lo σ0 hF hLo C
  dsimp only at hF hLo ⊢
  refine ax_aload_n (pc := 109) C d_Wds_advance_109 rfl 0 rfl ?_
  refine ax_aload_n (pc := 110) C d_Wds_advance_110 rfl 0 rfl ?_
  refine cg_32_6_Wds_19 (pc := 111) C d_Wds_advance_111 ?_
  refine ax_iconst (pc := 114) C 1 d_Wds_advance_114 (by decide +kernel) ?_
  refine ax_iadd (pc := 115) C d_Wds_advance_115 ?_
  refine ax_aload_n (pc := 116) C d_Wds_advance_116 rfl 0 rfl ?_
  refine cg_32_1_Wds_15 (pc := 117) C d_Wds_advance_117 ?_
  refine ax_icmp_ge (pc := 120) C 137 d_Wds_advance_120 (by decide) (fun hc => ?_) (fun hc => ?_)
  · have h := it_t hc h
    refine ax_iconst (pc := 137) C (-1) d_Wds_advance_137 (by decide +kernel) ?_
    refine ax_ls ([(0, .ref (u 32))]) [0] rfl ?_
    have hm : sC_Wds_advance_p138 l D kA u w tx σ [(-1)] (σf, rf, _) := ih tC_Wds_advance_p138 _ _ _ h
    exact hm _ rfl htx p e s m args below meth c F Lo σ0 hF hLo C
  · have h := it_f hc h
    refine ax_aload_n (pc := 123) C d_Wds_advance_123 rfl 0 rfl ?_
    refine cg_32_0_Wds_9 (pc := 124) C htx d_Wds_advance_124 ?_
    refine ax_aload_n (pc := 127) C d_Wds_advance_127 rfl 0 rfl ?_
    refine cg_32_6_Wds_19 (pc := 128) C d_Wds_advance_128 ?_
    refine ax_iconst (pc := 131) C 1 d_Wds_advance_131 (by decide +kernel) ?_
    refine ax_iadd (pc := 132) C d_Wds_advance_132 ?_
    obtain ⟨hb, h⟩ := it_g h
    refine cl_2 (pc := 133) C d_Wds_advance_133 (bin_in hb) ?_
    refine ax_goto (pc := 134) C 138 d_Wds_advance_134 (by decide) ?_
    refine ax_ls ([(0, .ref (u 32))]) [0] rfl ?_
    have hm : sC_Wds_advance_p138 l D kA u w tx σ [(σ.2.1 2 (Int32.toNatClampNeg (((σ.1 3206) : Int32) + 1)))] (σf, rf, _) := ih tC_Wds_advance_p138 _ _ _ h
    exact hm _ rfl htx p e s m args below meth c F Lo σ0 hF hLo C
set_option maxHeartbeats 4000000 in
set_option maxRecDepth 100000 in
theorem oC_Wds_advance_p138 (l : Launch) (D : va_G) (kA : Nat → ClassId) (u w : Nat → Nat) (tx : Value) (rec : mF) (ih : ∀ t σ xs res, rec t σ xs = some res → cSem l D kA u w tx t σ xs res) (σ : mS) (xs : List Int32) (res : mR) (h : u_1 (kC_Wds_advance_p138 rec σ) xs = some res) : sC_Wds_advance_p138 l D kA u w tx σ xs res := by
  intro x0 hxs htx
  subst hxs
  obtain ⟨σf, rf, dd⟩ := res
  have h : (if (σ.1 3201) ≤ (((σ.1 3206) : Int32) + 2) then (rec tC_Wds_advance_p166 σ [(-1), x0]) else (if bin (((σ.1 3206) : Int32) + 2) (σ.2.2 2) = true then (rec tC_Wds_advance_p166 σ [(σ.2.1 2 (Int32.toNatClampNeg (((σ.1 3206) : Int32) + 2))), x0]) else none)) = some (σf, rf, dd) := h
  intro p e s m args below meth c F Lo σ0 hF hLo C
  dsimp only at hF hLo ⊢
  refine ax_aload_n (pc := 138) C d_Wds_advance_138 rfl 0 rfl ?_
  refine cg_32_6_Wds_19 (pc := 139) C d_Wds_advance_139 ?_
  refine ax_iconst (pc := 142) C 2 d_Wds_advance_142 (by decide +kernel) ?_
  refine ax_iadd (pc := 143) C d_Wds_advance_143 ?_
  refine ax_aload_n (pc := 144) C d_Wds_advance_144 rfl 0 rfl ?_
  refine cg_32_1_Wds_15 (pc := 145) C d_Wds_advance_145 ?_
  refine ax_icmp_ge (pc := 148) C 165 d_Wds_advance_148 (by decide) (fun hc => ?_) (fun hc => ?_)
  · have h := it_t hc h
    refine ax_iconst (pc := 165) C (-1) d_Wds_advance_165 (by decide +kernel) ?_
    refine ax_ls ([(0, .ref (u 32))]) [0] rfl ?_
    have hm : sC_Wds_advance_p166 l D kA u w tx σ [(-1), x0] (σf, rf, _) := ih tC_Wds_advance_p166 _ _ _ h
    exact hm _ _ rfl htx p e s m args below meth c F Lo σ0 hF hLo C
  · have h := it_f hc h
    refine ax_aload_n (pc := 151) C d_Wds_advance_151 rfl 0 rfl ?_
    refine cg_32_0_Wds_9 (pc := 152) C htx d_Wds_advance_152 ?_
    refine ax_aload_n (pc := 155) C d_Wds_advance_155 rfl 0 rfl ?_
    refine cg_32_6_Wds_19 (pc := 156) C d_Wds_advance_156 ?_
    refine ax_iconst (pc := 159) C 2 d_Wds_advance_159 (by decide +kernel) ?_
    refine ax_iadd (pc := 160) C d_Wds_advance_160 ?_
    obtain ⟨hb, h⟩ := it_g h
    refine cl_2 (pc := 161) C d_Wds_advance_161 (bin_in hb) ?_
    refine ax_goto (pc := 162) C 166 d_Wds_advance_162 (by decide) ?_
    refine ax_ls ([(0, .ref (u 32))]) [0] rfl ?_
    have hm : sC_Wds_advance_p166 l D kA u w tx σ [(σ.2.1 2 (Int32.toNatClampNeg (((σ.1 3206) : Int32) + 2))), x0] (σf, rf, _) := ih tC_Wds_advance_p166 _ _ _ h
    exact hm _ _ rfl htx p e s m args below meth c F Lo σ0 hF hLo C
set_option maxHeartbeats 4000000 in
set_option maxRecDepth 100000 in
theorem oC_Wds_advance_p166 (l : Launch) (D : va_G) (kA : Nat → ClassId) (u w : Nat → Nat) (tx : Value) (rec : mF) (ih : ∀ t σ xs res, rec t σ xs = some res → cSem l D kA u w tx t σ xs res) (σ : mS) (xs : List Int32) (res : mR) (h : u_2 (kC_Wds_advance_p166 rec σ) xs = some res) : sC_Wds_advance_p166 l D kA u w tx σ xs res := by
  intro x0 x1 hxs htx
  subst hxs
  obtain ⟨σf, rf, dd⟩ := res
  have h : (bnd (rec tC_Wds_takeSign σ [x1, x0]) (fun σ1 r1 => rec tC_Wds_advance_p169 σ1 [])) = some (σf, rf, dd) := h
  intro p e s m args below meth c F Lo σ0 hF hLo C
  dsimp only at hF hLo ⊢
  obtain ⟨σ1, r1, d1_1, d2_1, h1, h, hd2, hd1⟩ := it_b h
  have hm : sC_Wds_takeSign l D kA u w tx σ [x1, x0] (σ1, r1, d1_1) := ih tC_Wds_takeSign _ _ _ h1
  refine cc_Vv (pc := 166) C (σ2 := σ1) (As := [.int x1, .int x0]) (rest := []) (hm _ _ rfl htx) ml_Wds_51 32 rfl rfl rfl d_Wds_advance_166 rfl rfl (by dsimp only; omega) (by dsimp only; omega) (Nat.le_of_ble_eq_true rfl) (Nat.le_of_ble_eq_true rfl) (Nat.le_of_ble_eq_true rfl) ?_
  have hF : d2_1 + 1 ≤ F := by omega
  have hLo : 48 * d2_1 + 48 ≤ Lo := by omega
  refine ax_ls ([(0, .ref (u 32))]) [0] rfl ?_
  have hm : sC_Wds_advance_p169 l D kA u w tx σ1 [] (σf, rf, _) := ih tC_Wds_advance_p169 _ _ _ h
  exact hm rfl htx p e s m args below meth c F Lo σ0 hF hLo C
set_option maxHeartbeats 4000000 in
set_option maxRecDepth 100000 in
theorem oC_Wds_advance_p169 (l : Launch) (D : va_G) (kA : Nat → ClassId) (u w : Nat → Nat) (tx : Value) (rec : mF) (ih : ∀ t σ xs res, rec t σ xs = some res → cSem l D kA u w tx t σ xs res) (σ : mS) (xs : List Int32) (res : mR) (h : u_0 (kC_Wds_advance_p169 rec σ) xs = some res) : sC_Wds_advance_p169 l D kA u w tx σ xs res := by
  intro hxs htx
  subst hxs
  obtain ⟨σf, rf, dd⟩ := res
  have h : (lt_ (mI σ 3206 (((σ.1 3206) : Int32) + (σ.1 3204))) (fun σ1 => some (σ1, 0, 0))) = some (σf, rf, dd) := h
  intro p e s m args below meth c F Lo σ0 hF hLo C
  dsimp only at hF hLo ⊢
  refine ax_aload_n (pc := 169) C d_Wds_advance_169 rfl 0 rfl ?_
  refine ax_dup (pc := 170) C d_Wds_advance_170 rfl ?_
  refine cg_32_6_Wds_19 (pc := 171) C d_Wds_advance_171 ?_
  refine ax_aload_n (pc := 174) C d_Wds_advance_174 rfl 0 rfl ?_
  refine cg_32_4_Wds_39 (pc := 175) C d_Wds_advance_175 ?_
  refine ax_iadd (pc := 178) C d_Wds_advance_178 ?_
  refine cq_32_6_Wds_19 (pc := 179) C d_Wds_advance_179 ?_
  have h := it_l h
  generalize mI σ 3206 (((σ.1 3206) : Int32) + (σ.1 3204)) = σ1 at h ⊢
  cases h
  exact ax_vret (pc := 182) C d_Wds_advance_182 rfl (Nat.le_refl _) (Nat.le_refl _)
set_option maxHeartbeats 4000000 in
set_option maxRecDepth 100000 in
theorem oC_Wds_isNow (l : Launch) (D : va_G) (kA : Nat → ClassId) (u w : Nat → Nat) (tx : Value) (rec : mF) (ih : ∀ t σ xs res, rec t σ xs = some res → cSem l D kA u w tx t σ xs res) (σ : mS) (xs : List Int32) (res : mR) (h : u_1 (kC_Wds_isNow rec σ) xs = some res) : sC_Wds_isNow l D kA u w tx σ xs res := by
  intro x0 hxs
  subst hxs
  obtain ⟨σf, rf, dd⟩ := res
  have h : (if (σ.1 3202) = x0 then (if (σ.1 3205) = 0 then (rec tC_Wds_isNow_p20 σ [x0, 1]) else (rec tC_Wds_isNow_p19 σ [x0])) else (rec tC_Wds_isNow_p19 σ [x0])) = some (σf, rf, dd) := h
  refine ax_Mi.of (by decide +kernel) (Nat.le_of_ble_eq_true rfl) ?_
  intro p e s m args below meth c C hnm
  have C : ax_C p s m args meth c b_Wds_isNow "ClauseProver$Words" 2 (some .boolean) D kA (va_A (cpW kA u w tx σ) s.heap.size) := C
  obtain ⟨F, hFe⟩ : ∃ F, F = dd + 1 := ⟨_, rfl⟩
  obtain ⟨Lo, hLoe⟩ : ∃ Lo, Lo = 48 * dd + 48 := ⟨_, rfl⟩
  obtain ⟨σ0, hσ0⟩ : ∃ s0, s0 = σ := ⟨_, rfl⟩
  suffices K : AW p l e { frames := F, cells := 0, slots := 0, locals := Lo } s m args below meth c D kA (va_A (cpW kA u w tx σ0) s.heap.size) 2 (ax_Qi below args s D kA (cpW kA u w tx σ0) 0 0 (fun r w1 => r = rf ∧ w1 = cpW kA u w tx σf)) 0 [(0, .ref (u 32)), (1, .int x0)] [] (cpW kA u w tx σ) 0 0 by rw [hFe, hLoe, hσ0] at K; exact ax_ls ([(0, .ref (u 32)), (1, .int x0)]) [0, 1] rfl K
  have C : ax_C p s m args meth c b_Wds_isNow "ClauseProver$Words" 2 (some .boolean) D kA (va_A (cpW kA u w tx σ0) s.heap.size) := by rw [hσ0]; exact C
  have hF : dd + 1 ≤ F := by omega
  have hLo : 48 * dd + 48 ≤ Lo := by omega
  clear hFe hLoe hσ0
  refine ax_aload_n (pc := 0) C d_Wds_isNow_0 rfl 0 rfl ?_
  refine cg_32_2_Wds_28 (pc := 1) C d_Wds_isNow_1 ?_
  refine ax_iload_n (pc := 4) C d_Wds_isNow_4 rfl 1 rfl ?_
  refine ax_icmp_ne (pc := 5) C 19 d_Wds_isNow_5 (by decide) (fun hc => ?_) (fun hc => ?_)
  · have h := it_f hc h
    refine ax_ls ([(0, .ref (u 32)), (1, .int x0)]) [0, 1] rfl ?_
    have hm : sC_Wds_isNow_p19 l D kA u w tx σ [x0] (σf, rf, _) := ih tC_Wds_isNow_p19 _ _ _ h
    exact hm _ rfl p e s m args below meth c F Lo σ0 hF hLo C
  · have h := it_t hc h
    refine ax_aload_n (pc := 8) C d_Wds_isNow_8 rfl 0 rfl ?_
    refine cg_32_5_Wds_31 (pc := 9) C d_Wds_isNow_9 ?_
    refine ax_if_ne (pc := 12) C 19 d_Wds_isNow_12 (by decide) (fun hc => ?_) (fun hc => ?_)
    · have h := it_f hc h
      refine ax_ls ([(0, .ref (u 32)), (1, .int x0)]) [0, 1] rfl ?_
      have hm : sC_Wds_isNow_p19 l D kA u w tx σ [x0] (σf, rf, _) := ih tC_Wds_isNow_p19 _ _ _ h
      exact hm _ rfl p e s m args below meth c F Lo σ0 hF hLo C
    · have h := it_t hc h
      refine ax_iconst (pc := 15) C 1 d_Wds_isNow_15 (by decide +kernel) ?_
      refine ax_goto (pc := 16) C 20 d_Wds_isNow_16 (by decide) ?_
      refine ax_ls ([(0, .ref (u 32)), (1, .int x0)]) [0, 1] rfl ?_
      have hm : sC_Wds_isNow_p20 l D kA u w tx σ [x0, 1] (σf, rf, _) := ih tC_Wds_isNow_p20 _ _ _ h
      exact hm _ _ rfl p e s m args below meth c F Lo σ0 hF hLo C
set_option maxHeartbeats 4000000 in
set_option maxRecDepth 100000 in
theorem oC_Wds_isNow_p19 (l : Launch) (D : va_G) (kA : Nat → ClassId) (u w : Nat → Nat) (tx : Value) (rec : mF) (ih : ∀ t σ xs res, rec t σ xs = some res → cSem l D kA u w tx t σ xs res) (σ : mS) (xs : List Int32) (res : mR) (h : u_1 (kC_Wds_isNow_p19 rec σ) xs = some res) : sC_Wds_isNow_p19 l D kA u w tx σ xs res := by
  intro x0 hxs
  subst hxs
  obtain ⟨σf, rf, dd⟩ := res
  have h : (rec tC_Wds_isNow_p20 σ [x0, 0]) = some (σf, rf, dd) := h
  intro p e s m args below meth c F Lo σ0 hF hLo C
  dsimp only at hF hLo ⊢
  refine ax_iconst (pc := 19) C 0 d_Wds_isNow_19 (by decide +kernel) ?_
  refine ax_ls ([(0, .ref (u 32)), (1, .int x0)]) [0, 1] rfl ?_
  have hm : sC_Wds_isNow_p20 l D kA u w tx σ [x0, 0] (σf, rf, _) := ih tC_Wds_isNow_p20 _ _ _ h
  exact hm _ _ rfl p e s m args below meth c F Lo σ0 hF hLo C
set_option maxHeartbeats 4000000 in
set_option maxRecDepth 100000 in
theorem oC_Wds_isNow_p20 (l : Launch) (D : va_G) (kA : Nat → ClassId) (u w : Nat → Nat) (tx : Value) (rec : mF) (ih : ∀ t σ xs res, rec t σ xs = some res → cSem l D kA u w tx t σ xs res) (σ : mS) (xs : List Int32) (res : mR) (h : u_2 (kC_Wds_isNow_p20 rec σ) xs = some res) : sC_Wds_isNow_p20 l D kA u w tx σ xs res := by
  intro x0 x1 hxs
  subst hxs
  obtain ⟨σf, rf, dd⟩ := res
  have h : (if x1 = 0 ∨ x1 = 1 then some (σ, x1, 0) else none) = some (σf, rf, dd) := h
  intro p e s m args below meth c F Lo σ0 hF hLo C
  dsimp only at hF hLo ⊢
  obtain ⟨hb, h⟩ := it_g h
  cases h
  exact ax_zret (pc := 20) C d_Wds_isNow_20 (nb01 hb) ⟨rfl, rfl⟩ (Nat.le_refl _) (Nat.le_refl _)
set_option maxHeartbeats 4000000 in
set_option maxRecDepth 100000 in
theorem oC_Wds_isProve (l : Launch) (D : va_G) (kA : Nat → ClassId) (u w : Nat → Nat) (tx : Value) (rec : mF) (ih : ∀ t σ xs res, rec t σ xs = some res → cSem l D kA u w tx t σ xs res) (σ : mS) (xs : List Int32) (res : mR) (h : u_0 (kC_Wds_isProve rec σ) xs = some res) : sC_Wds_isProve l D kA u w tx σ xs res := by
  intro hxs htx
  subst hxs
  obtain ⟨σf, rf, dd⟩ := res
  have h : (bnd (rec tC_Wds_isNow σ [2]) (fun σ1 r1 => if r1 = 0 then (rec tC_Wds_isProve_p98 σ1 []) else (if (σ1.1 3204) = 5 then (if bin (σ1.1 3203) (σ1.2.2 2) = true then (if (σ1.2.1 2 (Int32.toNatClampNeg (σ1.1 3203))) = 112 then (if bin (((σ1.1 3203) : Int32) + 1) (σ1.2.2 2) = true then (if (σ1.2.1 2 (Int32.toNatClampNeg (((σ1.1 3203) : Int32) + 1))) = 114 then (if bin (((σ1.1 3203) : Int32) + 2) (σ1.2.2 2) = true then (if (σ1.2.1 2 (Int32.toNatClampNeg (((σ1.1 3203) : Int32) + 2))) = 111 then (if bin (((σ1.1 3203) : Int32) + 3) (σ1.2.2 2) = true then (if (σ1.2.1 2 (Int32.toNatClampNeg (((σ1.1 3203) : Int32) + 3))) = 118 then (if bin (((σ1.1 3203) : Int32) + 4) (σ1.2.2 2) = true then (if (σ1.2.1 2 (Int32.toNatClampNeg (((σ1.1 3203) : Int32) + 4))) = 101 then (rec tC_Wds_isProve_p99 σ1 [1]) else (rec tC_Wds_isProve_p98 σ1 [])) else none) else (rec tC_Wds_isProve_p98 σ1 [])) else none) else (rec tC_Wds_isProve_p98 σ1 [])) else none) else (rec tC_Wds_isProve_p98 σ1 [])) else none) else (rec tC_Wds_isProve_p98 σ1 [])) else none) else (rec tC_Wds_isProve_p98 σ1 [])))) = some (σf, rf, dd) := h
  refine ax_Mi.of (by decide +kernel) (Nat.le_of_ble_eq_true rfl) ?_
  intro p e s m args below meth c C hnm
  have C : ax_C p s m args meth c b_Wds_isProve "ClauseProver$Words" 1 (some .boolean) D kA (va_A (cpW kA u w tx σ) s.heap.size) := C
  obtain ⟨F, hFe⟩ : ∃ F, F = dd + 1 := ⟨_, rfl⟩
  obtain ⟨Lo, hLoe⟩ : ∃ Lo, Lo = 48 * dd + 48 := ⟨_, rfl⟩
  obtain ⟨σ0, hσ0⟩ : ∃ s0, s0 = σ := ⟨_, rfl⟩
  suffices K : AW p l e { frames := F, cells := 0, slots := 0, locals := Lo } s m args below meth c D kA (va_A (cpW kA u w tx σ0) s.heap.size) 1 (ax_Qi below args s D kA (cpW kA u w tx σ0) 0 0 (fun r w1 => r = rf ∧ w1 = cpW kA u w tx σf)) 0 [(0, .ref (u 32))] [] (cpW kA u w tx σ) 0 0 by rw [hFe, hLoe, hσ0] at K; exact ax_ls ([(0, .ref (u 32))]) [0] rfl K
  have C : ax_C p s m args meth c b_Wds_isProve "ClauseProver$Words" 1 (some .boolean) D kA (va_A (cpW kA u w tx σ0) s.heap.size) := by rw [hσ0]; exact C
  have hF : dd + 1 ≤ F := by omega
  have hLo : 48 * dd + 48 ≤ Lo := by omega
  clear hFe hLoe hσ0
  refine ax_aload_n (pc := 0) C d_Wds_isProve_0 rfl 0 rfl ?_
  refine ax_iconst (pc := 1) C 2 d_Wds_isProve_1 (by decide +kernel) ?_
  obtain ⟨σ1, r1, d1_1, d2_1, h1, h, hd2, hd1⟩ := it_b h
  have hm : sC_Wds_isNow l D kA u w tx σ [2] (σ1, r1, d1_1) := ih tC_Wds_isNow _ _ _ h1
  refine cc_Vi (pc := 2) C (r0 := r1) (σ2 := σ1) (As := [.int 2]) (rest := []) (hm _ rfl) ml_Wds_35 32 rfl rfl rfl d_Wds_isProve_2 rfl rfl (by dsimp only; omega) (by dsimp only; omega) (Nat.le_of_ble_eq_true rfl) (Nat.le_of_ble_eq_true rfl) (Nat.le_of_ble_eq_true rfl) ?_
  have hF : d2_1 + 1 ≤ F := by omega
  have hLo : 48 * d2_1 + 48 ≤ Lo := by omega
  refine ax_if_eq (pc := 5) C 98 d_Wds_isProve_5 (by decide) (fun hc => ?_) (fun hc => ?_)
  · have h := it_t hc h
    refine ax_ls ([(0, .ref (u 32))]) [0] rfl ?_
    have hm : sC_Wds_isProve_p98 l D kA u w tx σ1 [] (σf, rf, _) := ih tC_Wds_isProve_p98 _ _ _ h
    exact hm rfl htx p e s m args below meth c F Lo σ0 hF hLo C
  · have h := it_f hc h
    refine ax_aload_n (pc := 8) C d_Wds_isProve_8 rfl 0 rfl ?_
    refine cg_32_4_Wds_39 (pc := 9) C d_Wds_isProve_9 ?_
    refine ax_iconst (pc := 12) C 5 d_Wds_isProve_12 (by decide +kernel) ?_
    refine ax_icmp_ne (pc := 13) C 98 d_Wds_isProve_13 (by decide) (fun hc => ?_) (fun hc => ?_)
    · have h := it_f hc h
      refine ax_ls ([(0, .ref (u 32))]) [0] rfl ?_
      have hm : sC_Wds_isProve_p98 l D kA u w tx σ1 [] (σf, rf, _) := ih tC_Wds_isProve_p98 _ _ _ h
      exact hm rfl htx p e s m args below meth c F Lo σ0 hF hLo C
    · have h := it_t hc h
      refine ax_aload_n (pc := 16) C d_Wds_isProve_16 rfl 0 rfl ?_
      refine cg_32_0_Wds_9 (pc := 17) C htx d_Wds_isProve_17 ?_
      refine ax_aload_n (pc := 20) C d_Wds_isProve_20 rfl 0 rfl ?_
      refine cg_32_3_Wds_42 (pc := 21) C d_Wds_isProve_21 ?_
      obtain ⟨hb, h⟩ := it_g h
      refine cl_2 (pc := 24) C d_Wds_isProve_24 (bin_in hb) ?_
      refine ax_bipush (pc := 25) C 112 d_Wds_isProve_25 (by decide +kernel) ?_
      refine ax_icmp_ne (pc := 27) C 98 d_Wds_isProve_27 (by decide) (fun hc => ?_) (fun hc => ?_)
      · have h := it_f hc h
        refine ax_ls ([(0, .ref (u 32))]) [0] rfl ?_
        have hm : sC_Wds_isProve_p98 l D kA u w tx σ1 [] (σf, rf, _) := ih tC_Wds_isProve_p98 _ _ _ h
        exact hm rfl htx p e s m args below meth c F Lo σ0 hF hLo C
      · have h := it_t hc h
        refine ax_aload_n (pc := 30) C d_Wds_isProve_30 rfl 0 rfl ?_
        refine cg_32_0_Wds_9 (pc := 31) C htx d_Wds_isProve_31 ?_
        refine ax_aload_n (pc := 34) C d_Wds_isProve_34 rfl 0 rfl ?_
        refine cg_32_3_Wds_42 (pc := 35) C d_Wds_isProve_35 ?_
        refine ax_iconst (pc := 38) C 1 d_Wds_isProve_38 (by decide +kernel) ?_
        refine ax_iadd (pc := 39) C d_Wds_isProve_39 ?_
        obtain ⟨hb, h⟩ := it_g h
        refine cl_2 (pc := 40) C d_Wds_isProve_40 (bin_in hb) ?_
        refine ax_bipush (pc := 41) C 114 d_Wds_isProve_41 (by decide +kernel) ?_
        refine ax_icmp_ne (pc := 43) C 98 d_Wds_isProve_43 (by decide) (fun hc => ?_) (fun hc => ?_)
        · have h := it_f hc h
          refine ax_ls ([(0, .ref (u 32))]) [0] rfl ?_
          have hm : sC_Wds_isProve_p98 l D kA u w tx σ1 [] (σf, rf, _) := ih tC_Wds_isProve_p98 _ _ _ h
          exact hm rfl htx p e s m args below meth c F Lo σ0 hF hLo C
        · have h := it_t hc h
          refine ax_aload_n (pc := 46) C d_Wds_isProve_46 rfl 0 rfl ?_
          refine cg_32_0_Wds_9 (pc := 47) C htx d_Wds_isProve_47 ?_
          refine ax_aload_n (pc := 50) C d_Wds_isProve_50 rfl 0 rfl ?_
          refine cg_32_3_Wds_42 (pc := 51) C d_Wds_isProve_51 ?_
          refine ax_iconst (pc := 54) C 2 d_Wds_isProve_54 (by decide +kernel) ?_
          refine ax_iadd (pc := 55) C d_Wds_isProve_55 ?_
          obtain ⟨hb, h⟩ := it_g h
          refine cl_2 (pc := 56) C d_Wds_isProve_56 (bin_in hb) ?_
          refine ax_bipush (pc := 57) C 111 d_Wds_isProve_57 (by decide +kernel) ?_
          refine ax_icmp_ne (pc := 59) C 98 d_Wds_isProve_59 (by decide) (fun hc => ?_) (fun hc => ?_)
          · have h := it_f hc h
            refine ax_ls ([(0, .ref (u 32))]) [0] rfl ?_
            have hm : sC_Wds_isProve_p98 l D kA u w tx σ1 [] (σf, rf, _) := ih tC_Wds_isProve_p98 _ _ _ h
            exact hm rfl htx p e s m args below meth c F Lo σ0 hF hLo C
          · have h := it_t hc h
            refine ax_aload_n (pc := 62) C d_Wds_isProve_62 rfl 0 rfl ?_
            refine cg_32_0_Wds_9 (pc := 63) C htx d_Wds_isProve_63 ?_
            refine ax_aload_n (pc := 66) C d_Wds_isProve_66 rfl 0 rfl ?_
            refine cg_32_3_Wds_42 (pc := 67) C d_Wds_isProve_67 ?_
            refine ax_iconst (pc := 70) C 3 d_Wds_isProve_70 (by decide +kernel) ?_
            refine ax_iadd (pc := 71) C d_Wds_isProve_71 ?_
            obtain ⟨hb, h⟩ := it_g h
            refine cl_2 (pc := 72) C d_Wds_isProve_72 (bin_in hb) ?_
            refine ax_bipush (pc := 73) C 118 d_Wds_isProve_73 (by decide +kernel) ?_
            refine ax_icmp_ne (pc := 75) C 98 d_Wds_isProve_75 (by decide) (fun hc => ?_) (fun hc => ?_)
            · have h := it_f hc h
              refine ax_ls ([(0, .ref (u 32))]) [0] rfl ?_
              have hm : sC_Wds_isProve_p98 l D kA u w tx σ1 [] (σf, rf, _) := ih tC_Wds_isProve_p98 _ _ _ h
              exact hm rfl htx p e s m args below meth c F Lo σ0 hF hLo C
            · have h := it_t hc h
              refine ax_aload_n (pc := 78) C d_Wds_isProve_78 rfl 0 rfl ?_
              refine cg_32_0_Wds_9 (pc := 79) C htx d_Wds_isProve_79 ?_
              refine ax_aload_n (pc := 82) C d_Wds_isProve_82 rfl 0 rfl ?_
              refine cg_32_3_Wds_42 (pc := 83) C d_Wds_isProve_83 ?_
              refine ax_iconst (pc := 86) C 4 d_Wds_isProve_86 (by decide +kernel) ?_
              refine ax_iadd (pc := 87) C d_Wds_isProve_87 ?_
              obtain ⟨hb, h⟩ := it_g h
              refine cl_2 (pc := 88) C d_Wds_isProve_88 (bin_in hb) ?_
              refine ax_bipush (pc := 89) C 101 d_Wds_isProve_89 (by decide +kernel) ?_
              refine ax_icmp_ne (pc := 91) C 98 d_Wds_isProve_91 (by decide) (fun hc => ?_) (fun hc => ?_)
              · have h := it_f hc h
                refine ax_ls ([(0, .ref (u 32))]) [0] rfl ?_
                have hm : sC_Wds_isProve_p98 l D kA u w tx σ1 [] (σf, rf, _) := ih tC_Wds_isProve_p98 _ _ _ h
                exact hm rfl htx p e s m args below meth c F Lo σ0 hF hLo C
              · have h := it_t hc h
                refine ax_iconst (pc := 94) C 1 d_Wds_isProve_94 (by decide +kernel) ?_
                refine ax_goto (pc := 95) C 99 d_Wds_isProve_95 (by decide) ?_
                refine ax_ls ([(0, .ref (u 32))]) [0] rfl ?_
                have hm : sC_Wds_isProve_p99 l D kA u w tx σ1 [1] (σf, rf, _) := ih tC_Wds_isProve_p99 _ _ _ h
                exact hm _ rfl htx p e s m args below meth c F Lo σ0 hF hLo C
set_option maxHeartbeats 4000000 in
set_option maxRecDepth 100000 in
theorem oC_Wds_isProve_p98 (l : Launch) (D : va_G) (kA : Nat → ClassId) (u w : Nat → Nat) (tx : Value) (rec : mF) (ih : ∀ t σ xs res, rec t σ xs = some res → cSem l D kA u w tx t σ xs res) (σ : mS) (xs : List Int32) (res : mR) (h : u_0 (kC_Wds_isProve_p98 rec σ) xs = some res) : sC_Wds_isProve_p98 l D kA u w tx σ xs res := by
  intro hxs htx
  subst hxs
  obtain ⟨σf, rf, dd⟩ := res
  have h : (rec tC_Wds_isProve_p99 σ [0]) = some (σf, rf, dd) := h
  intro p e s m args below meth c F Lo σ0 hF hLo C
  dsimp only at hF hLo ⊢
  refine ax_iconst (pc := 98) C 0 d_Wds_isProve_98 (by decide +kernel) ?_
  refine ax_ls ([(0, .ref (u 32))]) [0] rfl ?_
  have hm : sC_Wds_isProve_p99 l D kA u w tx σ [0] (σf, rf, _) := ih tC_Wds_isProve_p99 _ _ _ h
  exact hm _ rfl htx p e s m args below meth c F Lo σ0 hF hLo C
set_option maxHeartbeats 4000000 in
set_option maxRecDepth 100000 in
theorem oC_Wds_isProve_p99 (l : Launch) (D : va_G) (kA : Nat → ClassId) (u w : Nat → Nat) (tx : Value) (rec : mF) (ih : ∀ t σ xs res, rec t σ xs = some res → cSem l D kA u w tx t σ xs res) (σ : mS) (xs : List Int32) (res : mR) (h : u_1 (kC_Wds_isProve_p99 rec σ) xs = some res) : sC_Wds_isProve_p99 l D kA u w tx σ xs res := by
  intro x0 hxs htx
  subst hxs
  obtain ⟨σf, rf, dd⟩ := res
  have h : (if x0 = 0 ∨ x0 = 1 then some (σ, x0, 0) else none) = some (σf, rf, dd) := h
  intro p e s m args below meth c F Lo σ0 hF hLo C
  dsimp only at hF hLo ⊢
  obtain ⟨hb, h⟩ := it_g h
  cases h
  exact ax_zret (pc := 99) C d_Wds_isProve_99 (nb01 hb) ⟨rfl, rfl⟩ (Nat.le_refl _) (Nat.le_refl _)
set_option maxHeartbeats 4000000 in
set_option maxRecDepth 100000 in
theorem oC_Wds_skipBlanks (l : Launch) (D : va_G) (kA : Nat → ClassId) (u w : Nat → Nat) (tx : Value) (rec : mF) (ih : ∀ t σ xs res, rec t σ xs = some res → cSem l D kA u w tx t σ xs res) (σ : mS) (xs : List Int32) (res : mR) (h : u_0 (kC_Wds_skipBlanks rec σ) xs = some res) : sC_Wds_skipBlanks l D kA u w tx σ xs res := by
  intro hxs htx
  subst hxs
  obtain ⟨σf, rf, dd⟩ := res
  have h : (rec tC_Wds_skipBlanks_p2 σ [0]) = some (σf, rf, dd) := h
  refine ax_Mv.of (by decide +kernel) (Nat.le_of_ble_eq_true rfl) ?_
  intro p e s m args below meth c C hnm
  have C : ax_C p s m args meth c b_Wds_skipBlanks "ClauseProver$Words" 3 none D kA (va_A (cpW kA u w tx σ) s.heap.size) := C
  obtain ⟨F, hFe⟩ : ∃ F, F = dd + 1 := ⟨_, rfl⟩
  obtain ⟨Lo, hLoe⟩ : ∃ Lo, Lo = 48 * dd + 48 := ⟨_, rfl⟩
  obtain ⟨σ0, hσ0⟩ : ∃ s0, s0 = σ := ⟨_, rfl⟩
  suffices K : AW p l e { frames := F, cells := 0, slots := 0, locals := Lo } s m args below meth c D kA (va_A (cpW kA u w tx σ0) s.heap.size) 3 (ax_Qv below args s D kA (cpW kA u w tx σ0) 0 0 (fun w1 => w1 = cpW kA u w tx σf)) 0 [(0, .ref (u 32))] [] (cpW kA u w tx σ) 0 0 by rw [hFe, hLoe, hσ0] at K; exact ax_ls ([(0, .ref (u 32))]) [0] rfl K
  have C : ax_C p s m args meth c b_Wds_skipBlanks "ClauseProver$Words" 3 none D kA (va_A (cpW kA u w tx σ0) s.heap.size) := by rw [hσ0]; exact C
  have hF : dd + 1 ≤ F := by omega
  have hLo : 48 * dd + 48 ≤ Lo := by omega
  clear hFe hLoe hσ0
  refine ax_iconst (pc := 0) C 0 d_Wds_skipBlanks_0 (by decide +kernel) ?_
  refine ax_istore_n (pc := 1) C d_Wds_skipBlanks_1 rfl (Nat.le_of_ble_eq_true rfl) ([(1, .int 0), (0, .ref (u 32))]) rfl ?_
  refine ax_ls ([(0, .ref (u 32)), (1, .int 0)]) [1, 0] rfl ?_
  have hm : sC_Wds_skipBlanks_p2 l D kA u w tx σ [0] (σf, rf, _) := ih tC_Wds_skipBlanks_p2 _ _ _ h
  exact hm _ rfl htx p e s m args below meth c F Lo σ0 hF hLo C
set_option maxHeartbeats 4000000 in
set_option maxRecDepth 100000 in
theorem oC_Wds_skipBlanks_p2 (l : Launch) (D : va_G) (kA : Nat → ClassId) (u w : Nat → Nat) (tx : Value) (rec : mF) (ih : ∀ t σ xs res, rec t σ xs = some res → cSem l D kA u w tx t σ xs res) (σ : mS) (xs : List Int32) (res : mR) (h : u_1 (kC_Wds_skipBlanks_p2 rec σ) xs = some res) : sC_Wds_skipBlanks_p2 l D kA u w tx σ xs res := by
  intro x0 hxs htx
  subst hxs
  obtain ⟨σf, rf, dd⟩ := res
  have h : (if (σ.1 3201) ≤ (σ.1 3206) then (some (σ, 0, 0)) else (if bin (σ.1 3206) (σ.2.2 2) = true then (if (σ.2.1 2 (Int32.toNatClampNeg (σ.1 3206))) = 10 then (rec tC_Wds_skipBlanks_p68 σ [0, (σ.2.1 2 (Int32.toNatClampNeg (σ.1 3206)))]) else (if (σ.2.1 2 (Int32.toNatClampNeg (σ.1 3206))) = 37 then (rec tC_Wds_skipBlanks_p68 σ [1, (σ.2.1 2 (Int32.toNatClampNeg (σ.1 3206)))]) else (if x0 = 0 then (if (σ.2.1 2 (Int32.toNatClampNeg (σ.1 3206))) = 32 then (rec tC_Wds_skipBlanks_p68 σ [x0, (σ.2.1 2 (Int32.toNatClampNeg (σ.1 3206)))]) else (if (σ.2.1 2 (Int32.toNatClampNeg (σ.1 3206))) = 9 then (rec tC_Wds_skipBlanks_p68 σ [x0, (σ.2.1 2 (Int32.toNatClampNeg (σ.1 3206)))]) else (if (σ.2.1 2 (Int32.toNatClampNeg (σ.1 3206))) = 13 then (rec tC_Wds_skipBlanks_p68 σ [x0, (σ.2.1 2 (Int32.toNatClampNeg (σ.1 3206)))]) else (some (σ, 0, 0))))) else (rec tC_Wds_skipBlanks_p68 σ [x0, (σ.2.1 2 (Int32.toNatClampNeg (σ.1 3206)))])))) else none)) = some (σf, rf, dd) := h
  intro p e s m args below meth c F Lo σ0 hF hLo C
  dsimp only at hF hLo ⊢
  refine ax_aload_n (pc := 2) C d_Wds_skipBlanks_2 rfl 0 rfl ?_
  refine cg_32_6_Wds_19 (pc := 3) C d_Wds_skipBlanks_3 ?_
  refine ax_aload_n (pc := 6) C d_Wds_skipBlanks_6 rfl 0 rfl ?_
  refine cg_32_1_Wds_15 (pc := 7) C d_Wds_skipBlanks_7 ?_
  refine ax_icmp_ge (pc := 10) C 81 d_Wds_skipBlanks_10 (by decide) (fun hc => ?_) (fun hc => ?_)
  · have h := it_t hc h
    cases h
    exact ax_vret (pc := 81) C d_Wds_skipBlanks_81 rfl (Nat.le_refl _) (Nat.le_refl _)
  · have h := it_f hc h
    refine ax_aload_n (pc := 13) C d_Wds_skipBlanks_13 rfl 0 rfl ?_
    refine cg_32_0_Wds_9 (pc := 14) C htx d_Wds_skipBlanks_14 ?_
    refine ax_aload_n (pc := 17) C d_Wds_skipBlanks_17 rfl 0 rfl ?_
    refine cg_32_6_Wds_19 (pc := 18) C d_Wds_skipBlanks_18 ?_
    obtain ⟨hb, h⟩ := it_g h
    refine cl_2 (pc := 21) C d_Wds_skipBlanks_21 (bin_in hb) ?_
    refine ax_istore_n (pc := 22) C d_Wds_skipBlanks_22 rfl (Nat.le_of_ble_eq_true rfl) ([(2, .int (σ.2.1 2 (Int32.toNatClampNeg (σ.1 3206)))), (0, .ref (u 32)), (1, .int x0)]) rfl ?_
    refine ax_iload_n (pc := 23) C d_Wds_skipBlanks_23 rfl 0 rfl ?_
    refine ax_bipush (pc := 24) C 10 d_Wds_skipBlanks_24 (by decide +kernel) ?_
    refine ax_icmp_ne (pc := 26) C 34 d_Wds_skipBlanks_26 (by decide) (fun hc => ?_) (fun hc => ?_)
    · have h := it_f hc h
      refine ax_iload_n (pc := 34) C d_Wds_skipBlanks_34 rfl 0 rfl ?_
      refine ax_bipush (pc := 35) C 37 d_Wds_skipBlanks_35 (by decide +kernel) ?_
      refine ax_icmp_ne (pc := 37) C 45 d_Wds_skipBlanks_37 (by decide) (fun hc => ?_) (fun hc => ?_)
      · have h := it_f hc h
        refine ax_iload_n (pc := 45) C d_Wds_skipBlanks_45 rfl 2 rfl ?_
        refine ax_if_ne (pc := 46) C 68 d_Wds_skipBlanks_46 (by decide) (fun hc => ?_) (fun hc => ?_)
        · have h := it_f hc h
          refine ax_ls ([(0, .ref (u 32)), (1, .int x0), (2, .int (σ.2.1 2 (Int32.toNatClampNeg (σ.1 3206))))]) [1, 2, 0] rfl ?_
          have hm : sC_Wds_skipBlanks_p68 l D kA u w tx σ [x0, (σ.2.1 2 (Int32.toNatClampNeg (σ.1 3206)))] (σf, rf, _) := ih tC_Wds_skipBlanks_p68 _ _ _ h
          exact hm _ _ rfl htx p e s m args below meth c F Lo σ0 hF hLo C
        · have h := it_t hc h
          refine ax_iload_n (pc := 49) C d_Wds_skipBlanks_49 rfl 0 rfl ?_
          refine ax_bipush (pc := 50) C 32 d_Wds_skipBlanks_50 (by decide +kernel) ?_
          refine ax_icmp_eq (pc := 52) C 68 d_Wds_skipBlanks_52 (by decide) (fun hc => ?_) (fun hc => ?_)
          · have h := it_t hc h
            refine ax_ls ([(0, .ref (u 32)), (1, .int x0), (2, .int (σ.2.1 2 (Int32.toNatClampNeg (σ.1 3206))))]) [1, 2, 0] rfl ?_
            have hm : sC_Wds_skipBlanks_p68 l D kA u w tx σ [x0, (σ.2.1 2 (Int32.toNatClampNeg (σ.1 3206)))] (σf, rf, _) := ih tC_Wds_skipBlanks_p68 _ _ _ h
            exact hm _ _ rfl htx p e s m args below meth c F Lo σ0 hF hLo C
          · have h := it_f hc h
            refine ax_iload_n (pc := 55) C d_Wds_skipBlanks_55 rfl 0 rfl ?_
            refine ax_bipush (pc := 56) C 9 d_Wds_skipBlanks_56 (by decide +kernel) ?_
            refine ax_icmp_eq (pc := 58) C 68 d_Wds_skipBlanks_58 (by decide) (fun hc => ?_) (fun hc => ?_)
            · have h := it_t hc h
              refine ax_ls ([(0, .ref (u 32)), (1, .int x0), (2, .int (σ.2.1 2 (Int32.toNatClampNeg (σ.1 3206))))]) [1, 2, 0] rfl ?_
              have hm : sC_Wds_skipBlanks_p68 l D kA u w tx σ [x0, (σ.2.1 2 (Int32.toNatClampNeg (σ.1 3206)))] (σf, rf, _) := ih tC_Wds_skipBlanks_p68 _ _ _ h
              exact hm _ _ rfl htx p e s m args below meth c F Lo σ0 hF hLo C
            · have h := it_f hc h
              refine ax_iload_n (pc := 61) C d_Wds_skipBlanks_61 rfl 0 rfl ?_
              refine ax_bipush (pc := 62) C 13 d_Wds_skipBlanks_62 (by decide +kernel) ?_
              refine ax_icmp_eq (pc := 64) C 68 d_Wds_skipBlanks_64 (by decide) (fun hc => ?_) (fun hc => ?_)
              · have h := it_t hc h
                refine ax_ls ([(0, .ref (u 32)), (1, .int x0), (2, .int (σ.2.1 2 (Int32.toNatClampNeg (σ.1 3206))))]) [1, 2, 0] rfl ?_
                have hm : sC_Wds_skipBlanks_p68 l D kA u w tx σ [x0, (σ.2.1 2 (Int32.toNatClampNeg (σ.1 3206)))] (σf, rf, _) := ih tC_Wds_skipBlanks_p68 _ _ _ h
                exact hm _ _ rfl htx p e s m args below meth c F Lo σ0 hF hLo C
              · have h := it_f hc h
                cases h
                exact ax_vret (pc := 67) C d_Wds_skipBlanks_67 rfl (Nat.le_refl _) (Nat.le_refl _)
      · have h := it_t hc h
        refine ax_iconst (pc := 40) C 1 d_Wds_skipBlanks_40 (by decide +kernel) ?_
        refine ax_istore_n (pc := 41) C d_Wds_skipBlanks_41 rfl (Nat.le_of_ble_eq_true rfl) ([(1, .int 1), (2, .int (σ.2.1 2 (Int32.toNatClampNeg (σ.1 3206)))), (0, .ref (u 32))]) rfl ?_
        refine ax_goto (pc := 42) C 68 d_Wds_skipBlanks_42 (by decide) ?_
        refine ax_ls ([(0, .ref (u 32)), (1, .int 1), (2, .int (σ.2.1 2 (Int32.toNatClampNeg (σ.1 3206))))]) [2, 0, 1] rfl ?_
        have hm : sC_Wds_skipBlanks_p68 l D kA u w tx σ [1, (σ.2.1 2 (Int32.toNatClampNeg (σ.1 3206)))] (σf, rf, _) := ih tC_Wds_skipBlanks_p68 _ _ _ h
        exact hm _ _ rfl htx p e s m args below meth c F Lo σ0 hF hLo C
    · have h := it_t hc h
      refine ax_iconst (pc := 29) C 0 d_Wds_skipBlanks_29 (by decide +kernel) ?_
      refine ax_istore_n (pc := 30) C d_Wds_skipBlanks_30 rfl (Nat.le_of_ble_eq_true rfl) ([(1, .int 0), (2, .int (σ.2.1 2 (Int32.toNatClampNeg (σ.1 3206)))), (0, .ref (u 32))]) rfl ?_
      refine ax_goto (pc := 31) C 68 d_Wds_skipBlanks_31 (by decide) ?_
      refine ax_ls ([(0, .ref (u 32)), (1, .int 0), (2, .int (σ.2.1 2 (Int32.toNatClampNeg (σ.1 3206))))]) [2, 0, 1] rfl ?_
      have hm : sC_Wds_skipBlanks_p68 l D kA u w tx σ [0, (σ.2.1 2 (Int32.toNatClampNeg (σ.1 3206)))] (σf, rf, _) := ih tC_Wds_skipBlanks_p68 _ _ _ h
      exact hm _ _ rfl htx p e s m args below meth c F Lo σ0 hF hLo C
set_option maxHeartbeats 4000000 in
set_option maxRecDepth 100000 in
theorem oC_Wds_skipBlanks_p68 (l : Launch) (D : va_G) (kA : Nat → ClassId) (u w : Nat → Nat) (tx : Value) (rec : mF) (ih : ∀ t σ xs res, rec t σ xs = some res → cSem l D kA u w tx t σ xs res) (σ : mS) (xs : List Int32) (res : mR) (h : u_2 (kC_Wds_skipBlanks_p68 rec σ) xs = some res) : sC_Wds_skipBlanks_p68 l D kA u w tx σ xs res := by
  intro x0 x1 hxs htx
  subst hxs
  obtain ⟨σf, rf, dd⟩ := res
  have h : (lt_ (mI σ 3206 (((σ.1 3206) : Int32) + 1)) (fun σ1 => rec tC_Wds_skipBlanks_p2 σ1 [x0])) = some (σf, rf, dd) := h
  intro p e s m args below meth c F Lo σ0 hF hLo C
  dsimp only at hF hLo ⊢
  refine ax_aload_n (pc := 68) C d_Wds_skipBlanks_68 rfl 0 rfl ?_
  refine ax_dup (pc := 69) C d_Wds_skipBlanks_69 rfl ?_
  refine cg_32_6_Wds_19 (pc := 70) C d_Wds_skipBlanks_70 ?_
  refine ax_iconst (pc := 73) C 1 d_Wds_skipBlanks_73 (by decide +kernel) ?_
  refine ax_iadd (pc := 74) C d_Wds_skipBlanks_74 ?_
  refine cq_32_6_Wds_19 (pc := 75) C d_Wds_skipBlanks_75 ?_
  have h := it_l h
  generalize mI σ 3206 (((σ.1 3206) : Int32) + 1) = σ1 at h ⊢
  refine ax_goto (pc := 78) C 2 d_Wds_skipBlanks_78 (by decide) ?_
  refine ax_ls ([(0, .ref (u 32)), (1, .int x0)]) [0, 1] rfl ?_
  have hm : sC_Wds_skipBlanks_p2 l D kA u w tx σ1 [x0] (σf, rf, _) := ih tC_Wds_skipBlanks_p2 _ _ _ h
  exact hm _ rfl htx p e s m args below meth c F Lo σ0 hF hLo C
set_option maxHeartbeats 4000000 in
set_option maxRecDepth 100000 in
theorem oC_Wds_takeSign (l : Launch) (D : va_G) (kA : Nat → ClassId) (u w : Nat → Nat) (tx : Value) (rec : mF) (ih : ∀ t σ xs res, rec t σ xs = some res → cSem l D kA u w tx t σ xs res) (σ : mS) (xs : List Int32) (res : mR) (h : u_2 (kC_Wds_takeSign rec σ) xs = some res) : sC_Wds_takeSign l D kA u w tx σ xs res := by
  intro x0 x1 hxs htx
  subst hxs
  obtain ⟨σf, rf, dd⟩ := res
  have h : (lt_ (mI σ 3204 1) (fun σ1 => if bin (σ1.1 3206) (σ1.2.2 2) = true then (if ((σ1.2.1 2 (Int32.toNatClampNeg (σ1.1 3206))) : Int32) = 33 then (if x0 = 61 then (rec tC_Wds_takeSign_p211 σ1 [x0, x1, 2]) else (rec tC_Wds_takeSign_p211 σ1 [x0, x1, 1])) else (if ((σ1.2.1 2 (Int32.toNatClampNeg (σ1.1 3206))) : Int32) = 38 then (lt_ (mI σ1 3202 14) (fun σ2 => rec tC_Wds_takeSign_p316 σ2 [x0, x1])) else (if ((σ1.2.1 2 (Int32.toNatClampNeg (σ1.1 3206))) : Int32) = 40 then (lt_ (mI σ1 3202 5) (fun σ3 => rec tC_Wds_takeSign_p316 σ3 [x0, x1])) else (if ((σ1.2.1 2 (Int32.toNatClampNeg (σ1.1 3206))) : Int32) = 41 then (lt_ (mI σ1 3202 6) (fun σ4 => rec tC_Wds_takeSign_p316 σ4 [x0, x1])) else (if ((σ1.2.1 2 (Int32.toNatClampNeg (σ1.1 3206))) : Int32) = 44 then (lt_ (mI σ1 3202 7) (fun σ5 => rec tC_Wds_takeSign_p316 σ5 [x0, x1])) else (if ((σ1.2.1 2 (Int32.toNatClampNeg (σ1.1 3206))) : Int32) = 46 then (lt_ (mI σ1 3202 4) (fun σ6 => rec tC_Wds_takeSign_p316 σ6 [x0, x1])) else (if ((σ1.2.1 2 (Int32.toNatClampNeg (σ1.1 3206))) : Int32) = 58 then (lt_ (mI σ1 3202 8) (fun σ7 => rec tC_Wds_takeSign_p316 σ7 [x0, x1])) else (if ((σ1.2.1 2 (Int32.toNatClampNeg (σ1.1 3206))) : Int32) = 60 then (if x0 = 61 then (if x1 = 62 then (rec tC_Wds_takeSign_p287 σ1 [x0, x1, 3]) else (rec tC_Wds_takeSign_p286 σ1 [x0, x1])) else (rec tC_Wds_takeSign_p286 σ1 [x0, x1])) else (if ((σ1.2.1 2 (Int32.toNatClampNeg (σ1.1 3206))) : Int32) = 61 then (if x0 = 62 then (rec tC_Wds_takeSign_p246 σ1 [x0, x1, 2]) else (rec tC_Wds_takeSign_p246 σ1 [x0, x1, 1])) else (if ((σ1.2.1 2 (Int32.toNatClampNeg (σ1.1 3206))) : Int32) = 63 then (lt_ (mI σ1 3202 13) (fun σ8 => rec tC_Wds_takeSign_p316 σ8 [x0, x1])) else (if ((σ1.2.1 2 (Int32.toNatClampNeg (σ1.1 3206))) : Int32) = 124 then (lt_ (mI σ1 3202 15) (fun σ9 => rec tC_Wds_takeSign_p316 σ9 [x0, x1])) else (if ((σ1.2.1 2 (Int32.toNatClampNeg (σ1.1 3206))) : Int32) = 126 then (lt_ (mI σ1 3202 11) (fun σ10 => rec tC_Wds_takeSign_p316 σ10 [x0, x1])) else (lt_ (mI σ1 3202 1) (fun σ11 => rec tC_Wds_takeSign_p316 σ11 [x0, x1])))))))))))))) else none)) = some (σf, rf, dd) := h
  refine ax_Mv.of (by decide +kernel) (Nat.le_of_ble_eq_true rfl) ?_
  intro p e s m args below meth c C hnm
  have C : ax_C p s m args meth c b_Wds_takeSign "ClauseProver$Words" 3 none D kA (va_A (cpW kA u w tx σ) s.heap.size) := C
  obtain ⟨F, hFe⟩ : ∃ F, F = dd + 1 := ⟨_, rfl⟩
  obtain ⟨Lo, hLoe⟩ : ∃ Lo, Lo = 48 * dd + 48 := ⟨_, rfl⟩
  obtain ⟨σ0, hσ0⟩ : ∃ s0, s0 = σ := ⟨_, rfl⟩
  suffices K : AW p l e { frames := F, cells := 0, slots := 0, locals := Lo } s m args below meth c D kA (va_A (cpW kA u w tx σ0) s.heap.size) 3 (ax_Qv below args s D kA (cpW kA u w tx σ0) 0 0 (fun w1 => w1 = cpW kA u w tx σf)) 0 [(0, .ref (u 32)), (1, .int x0), (2, .int x1)] [] (cpW kA u w tx σ) 0 0 by rw [hFe, hLoe, hσ0] at K; exact ax_ls ([(0, .ref (u 32)), (1, .int x0), (2, .int x1)]) [0, 1, 2] rfl K
  have C : ax_C p s m args meth c b_Wds_takeSign "ClauseProver$Words" 3 none D kA (va_A (cpW kA u w tx σ0) s.heap.size) := by rw [hσ0]; exact C
  have hF : dd + 1 ≤ F := by omega
  have hLo : 48 * dd + 48 ≤ Lo := by omega
  clear hFe hLoe hσ0
  refine ax_aload_n (pc := 0) C d_Wds_takeSign_0 rfl 0 rfl ?_
  refine ax_iconst (pc := 1) C 1 d_Wds_takeSign_1 (by decide +kernel) ?_
  refine cq_32_4_Wds_39 (pc := 2) C d_Wds_takeSign_2 ?_
  have h := it_l h
  generalize mI σ 3204 1 = σ1 at h ⊢
  refine ax_aload_n (pc := 5) C d_Wds_takeSign_5 rfl 0 rfl ?_
  refine cg_32_0_Wds_9 (pc := 6) C htx d_Wds_takeSign_6 ?_
  refine ax_aload_n (pc := 9) C d_Wds_takeSign_9 rfl 0 rfl ?_
  refine cg_32_6_Wds_19 (pc := 10) C d_Wds_takeSign_10 ?_
  obtain ⟨hb, h⟩ := it_g h
  refine cl_2 (pc := 13) C d_Wds_takeSign_13 (bin_in hb) ?_
  by_cases hv0 : ((σ1.2.1 2 (Int32.toNatClampNeg (σ1.1 3206))) : Int32) = 33
  · have h := it_t hv0 h
    refine ax_lookup (pc := 14) C 199 d_Wds_takeSign_14 (by decide) (by rw [hv0]) (by decide) ?_
    refine ax_aload_n (pc := 199) C d_Wds_takeSign_199 rfl 0 rfl ?_
    refine ax_iload_n (pc := 200) C d_Wds_takeSign_200 rfl 1 rfl ?_
    refine ax_bipush (pc := 201) C 61 d_Wds_takeSign_201 (by decide +kernel) ?_
    refine ax_icmp_ne (pc := 203) C 210 d_Wds_takeSign_203 (by decide) (fun hc => ?_) (fun hc => ?_)
    · have h := it_f hc h
      refine ax_iconst (pc := 210) C 1 d_Wds_takeSign_210 (by decide +kernel) ?_
      refine ax_ls ([(0, .ref (u 32)), (1, .int x0), (2, .int x1)]) [0, 1, 2] rfl ?_
      have hm : sC_Wds_takeSign_p211 l D kA u w tx σ1 [x0, x1, 1] (σf, rf, _) := ih tC_Wds_takeSign_p211 _ _ _ h
      exact hm _ _ _ rfl htx p e s m args below meth c F Lo σ0 hF hLo C
    · have h := it_t hc h
      refine ax_iconst (pc := 206) C 2 d_Wds_takeSign_206 (by decide +kernel) ?_
      refine ax_goto (pc := 207) C 211 d_Wds_takeSign_207 (by decide) ?_
      refine ax_ls ([(0, .ref (u 32)), (1, .int x0), (2, .int x1)]) [0, 1, 2] rfl ?_
      have hm : sC_Wds_takeSign_p211 l D kA u w tx σ1 [x0, x1, 2] (σf, rf, _) := ih tC_Wds_takeSign_p211 _ _ _ h
      exact hm _ _ _ rfl htx p e s m args below meth c F Lo σ0 hF hLo C
  · have h := it_f hv0 h
    by_cases hv1 : ((σ1.2.1 2 (Int32.toNatClampNeg (σ1.1 3206))) : Int32) = 38
    · have h := it_t hv1 h
      refine ax_lookup (pc := 14) C 181 d_Wds_takeSign_14 (by decide) (by rw [hv1]) (by decide) ?_
      refine ax_aload_n (pc := 181) C d_Wds_takeSign_181 rfl 0 rfl ?_
      refine ax_bipush (pc := 182) C 14 d_Wds_takeSign_182 (by decide +kernel) ?_
      refine cq_32_2_Wds_28 (pc := 184) C d_Wds_takeSign_184 ?_
      have h := it_l h
      generalize mI σ1 3202 14 = σ2 at h ⊢
      refine ax_goto (pc := 187) C 316 d_Wds_takeSign_187 (by decide) ?_
      refine ax_ls ([(0, .ref (u 32)), (1, .int x0), (2, .int x1)]) [0, 1, 2] rfl ?_
      have hm : sC_Wds_takeSign_p316 l D kA u w tx σ2 [x0, x1] (σf, rf, _) := ih tC_Wds_takeSign_p316 _ _ _ h
      exact hm _ _ rfl htx p e s m args below meth c F Lo σ0 hF hLo C
    · have h := it_f hv1 h
      by_cases hv2 : ((σ1.2.1 2 (Int32.toNatClampNeg (σ1.1 3206))) : Int32) = 40
      · have h := it_t hv2 h
        refine ax_lookup (pc := 14) C 128 d_Wds_takeSign_14 (by decide) (by rw [hv2]) (by decide) ?_
        refine ax_aload_n (pc := 128) C d_Wds_takeSign_128 rfl 0 rfl ?_
        refine ax_iconst (pc := 129) C 5 d_Wds_takeSign_129 (by decide +kernel) ?_
        refine cq_32_2_Wds_28 (pc := 130) C d_Wds_takeSign_130 ?_
        have h := it_l h
        generalize mI σ1 3202 5 = σ3 at h ⊢
        refine ax_goto (pc := 133) C 316 d_Wds_takeSign_133 (by decide) ?_
        refine ax_ls ([(0, .ref (u 32)), (1, .int x0), (2, .int x1)]) [0, 1, 2] rfl ?_
        have hm : sC_Wds_takeSign_p316 l D kA u w tx σ3 [x0, x1] (σf, rf, _) := ih tC_Wds_takeSign_p316 _ _ _ h
        exact hm _ _ rfl htx p e s m args below meth c F Lo σ0 hF hLo C
      · have h := it_f hv2 h
        by_cases hv3 : ((σ1.2.1 2 (Int32.toNatClampNeg (σ1.1 3206))) : Int32) = 41
        · have h := it_t hv3 h
          refine ax_lookup (pc := 14) C 136 d_Wds_takeSign_14 (by decide) (by rw [hv3]) (by decide) ?_
          refine ax_aload_n (pc := 136) C d_Wds_takeSign_136 rfl 0 rfl ?_
          refine ax_bipush (pc := 137) C 6 d_Wds_takeSign_137 (by decide +kernel) ?_
          refine cq_32_2_Wds_28 (pc := 139) C d_Wds_takeSign_139 ?_
          have h := it_l h
          generalize mI σ1 3202 6 = σ4 at h ⊢
          refine ax_goto (pc := 142) C 316 d_Wds_takeSign_142 (by decide) ?_
          refine ax_ls ([(0, .ref (u 32)), (1, .int x0), (2, .int x1)]) [0, 1, 2] rfl ?_
          have hm : sC_Wds_takeSign_p316 l D kA u w tx σ4 [x0, x1] (σf, rf, _) := ih tC_Wds_takeSign_p316 _ _ _ h
          exact hm _ _ rfl htx p e s m args below meth c F Lo σ0 hF hLo C
        · have h := it_f hv3 h
          by_cases hv4 : ((σ1.2.1 2 (Int32.toNatClampNeg (σ1.1 3206))) : Int32) = 44
          · have h := it_t hv4 h
            refine ax_lookup (pc := 14) C 145 d_Wds_takeSign_14 (by decide) (by rw [hv4]) (by decide) ?_
            refine ax_aload_n (pc := 145) C d_Wds_takeSign_145 rfl 0 rfl ?_
            refine ax_bipush (pc := 146) C 7 d_Wds_takeSign_146 (by decide +kernel) ?_
            refine cq_32_2_Wds_28 (pc := 148) C d_Wds_takeSign_148 ?_
            have h := it_l h
            generalize mI σ1 3202 7 = σ5 at h ⊢
            refine ax_goto (pc := 151) C 316 d_Wds_takeSign_151 (by decide) ?_
            refine ax_ls ([(0, .ref (u 32)), (1, .int x0), (2, .int x1)]) [0, 1, 2] rfl ?_
            have hm : sC_Wds_takeSign_p316 l D kA u w tx σ5 [x0, x1] (σf, rf, _) := ih tC_Wds_takeSign_p316 _ _ _ h
            exact hm _ _ rfl htx p e s m args below meth c F Lo σ0 hF hLo C
          · have h := it_f hv4 h
            by_cases hv5 : ((σ1.2.1 2 (Int32.toNatClampNeg (σ1.1 3206))) : Int32) = 46
            · have h := it_t hv5 h
              refine ax_lookup (pc := 14) C 120 d_Wds_takeSign_14 (by decide) (by rw [hv5]) (by decide) ?_
              refine ax_aload_n (pc := 120) C d_Wds_takeSign_120 rfl 0 rfl ?_
              refine ax_iconst (pc := 121) C 4 d_Wds_takeSign_121 (by decide +kernel) ?_
              refine cq_32_2_Wds_28 (pc := 122) C d_Wds_takeSign_122 ?_
              have h := it_l h
              generalize mI σ1 3202 4 = σ6 at h ⊢
              refine ax_goto (pc := 125) C 316 d_Wds_takeSign_125 (by decide) ?_
              refine ax_ls ([(0, .ref (u 32)), (1, .int x0), (2, .int x1)]) [0, 1, 2] rfl ?_
              have hm : sC_Wds_takeSign_p316 l D kA u w tx σ6 [x0, x1] (σf, rf, _) := ih tC_Wds_takeSign_p316 _ _ _ h
              exact hm _ _ rfl htx p e s m args below meth c F Lo σ0 hF hLo C
            · have h := it_f hv5 h
              by_cases hv6 : ((σ1.2.1 2 (Int32.toNatClampNeg (σ1.1 3206))) : Int32) = 58
              · have h := it_t hv6 h
                refine ax_lookup (pc := 14) C 154 d_Wds_takeSign_14 (by decide) (by rw [hv6]) (by decide) ?_
                refine ax_aload_n (pc := 154) C d_Wds_takeSign_154 rfl 0 rfl ?_
                refine ax_bipush (pc := 155) C 8 d_Wds_takeSign_155 (by decide +kernel) ?_
                refine cq_32_2_Wds_28 (pc := 157) C d_Wds_takeSign_157 ?_
                have h := it_l h
                generalize mI σ1 3202 8 = σ7 at h ⊢
                refine ax_goto (pc := 160) C 316 d_Wds_takeSign_160 (by decide) ?_
                refine ax_ls ([(0, .ref (u 32)), (1, .int x0), (2, .int x1)]) [0, 1, 2] rfl ?_
                have hm : sC_Wds_takeSign_p316 l D kA u w tx σ7 [x0, x1] (σf, rf, _) := ih tC_Wds_takeSign_p316 _ _ _ h
                exact hm _ _ rfl htx p e s m args below meth c F Lo σ0 hF hLo C
              · have h := it_f hv6 h
                by_cases hv7 : ((σ1.2.1 2 (Int32.toNatClampNeg (σ1.1 3206))) : Int32) = 60
                · have h := it_t hv7 h
                  refine ax_lookup (pc := 14) C 269 d_Wds_takeSign_14 (by decide) (by rw [hv7]) (by decide) ?_
                  refine ax_aload_n (pc := 269) C d_Wds_takeSign_269 rfl 0 rfl ?_
                  refine ax_iload_n (pc := 270) C d_Wds_takeSign_270 rfl 1 rfl ?_
                  refine ax_bipush (pc := 271) C 61 d_Wds_takeSign_271 (by decide +kernel) ?_
                  refine ax_icmp_ne (pc := 273) C 286 d_Wds_takeSign_273 (by decide) (fun hc => ?_) (fun hc => ?_)
                  · have h := it_f hc h
                    refine ax_ls ([(0, .ref (u 32)), (1, .int x0), (2, .int x1)]) [0, 1, 2] rfl ?_
                    have hm : sC_Wds_takeSign_p286 l D kA u w tx σ1 [x0, x1] (σf, rf, _) := ih tC_Wds_takeSign_p286 _ _ _ h
                    exact hm _ _ rfl htx p e s m args below meth c F Lo σ0 hF hLo C
                  · have h := it_t hc h
                    refine ax_iload_n (pc := 276) C d_Wds_takeSign_276 rfl 2 rfl ?_
                    refine ax_bipush (pc := 277) C 62 d_Wds_takeSign_277 (by decide +kernel) ?_
                    refine ax_icmp_ne (pc := 279) C 286 d_Wds_takeSign_279 (by decide) (fun hc => ?_) (fun hc => ?_)
                    · have h := it_f hc h
                      refine ax_ls ([(0, .ref (u 32)), (1, .int x0), (2, .int x1)]) [0, 1, 2] rfl ?_
                      have hm : sC_Wds_takeSign_p286 l D kA u w tx σ1 [x0, x1] (σf, rf, _) := ih tC_Wds_takeSign_p286 _ _ _ h
                      exact hm _ _ rfl htx p e s m args below meth c F Lo σ0 hF hLo C
                    · have h := it_t hc h
                      refine ax_iconst (pc := 282) C 3 d_Wds_takeSign_282 (by decide +kernel) ?_
                      refine ax_goto (pc := 283) C 287 d_Wds_takeSign_283 (by decide) ?_
                      refine ax_ls ([(0, .ref (u 32)), (1, .int x0), (2, .int x1)]) [0, 1, 2] rfl ?_
                      have hm : sC_Wds_takeSign_p287 l D kA u w tx σ1 [x0, x1, 3] (σf, rf, _) := ih tC_Wds_takeSign_p287 _ _ _ h
                      exact hm _ _ _ rfl htx p e s m args below meth c F Lo σ0 hF hLo C
                · have h := it_f hv7 h
                  by_cases hv8 : ((σ1.2.1 2 (Int32.toNatClampNeg (σ1.1 3206))) : Int32) = 61
                  · have h := it_t hv8 h
                    refine ax_lookup (pc := 14) C 234 d_Wds_takeSign_14 (by decide) (by rw [hv8]) (by decide) ?_
                    refine ax_aload_n (pc := 234) C d_Wds_takeSign_234 rfl 0 rfl ?_
                    refine ax_iload_n (pc := 235) C d_Wds_takeSign_235 rfl 1 rfl ?_
                    refine ax_bipush (pc := 236) C 62 d_Wds_takeSign_236 (by decide +kernel) ?_
                    refine ax_icmp_ne (pc := 238) C 245 d_Wds_takeSign_238 (by decide) (fun hc => ?_) (fun hc => ?_)
                    · have h := it_f hc h
                      refine ax_iconst (pc := 245) C 1 d_Wds_takeSign_245 (by decide +kernel) ?_
                      refine ax_ls ([(0, .ref (u 32)), (1, .int x0), (2, .int x1)]) [0, 1, 2] rfl ?_
                      have hm : sC_Wds_takeSign_p246 l D kA u w tx σ1 [x0, x1, 1] (σf, rf, _) := ih tC_Wds_takeSign_p246 _ _ _ h
                      exact hm _ _ _ rfl htx p e s m args below meth c F Lo σ0 hF hLo C
                    · have h := it_t hc h
                      refine ax_iconst (pc := 241) C 2 d_Wds_takeSign_241 (by decide +kernel) ?_
                      refine ax_goto (pc := 242) C 246 d_Wds_takeSign_242 (by decide) ?_
                      refine ax_ls ([(0, .ref (u 32)), (1, .int x0), (2, .int x1)]) [0, 1, 2] rfl ?_
                      have hm : sC_Wds_takeSign_p246 l D kA u w tx σ1 [x0, x1, 2] (σf, rf, _) := ih tC_Wds_takeSign_p246 _ _ _ h
                      exact hm _ _ _ rfl htx p e s m args below meth c F Lo σ0 hF hLo C
                  · have h := it_f hv8 h
                    by_cases hv9 : ((σ1.2.1 2 (Int32.toNatClampNeg (σ1.1 3206))) : Int32) = 63
                    · have h := it_t hv9 h
                      refine ax_lookup (pc := 14) C 172 d_Wds_takeSign_14 (by decide) (by rw [hv9]) (by decide) ?_
                      refine ax_aload_n (pc := 172) C d_Wds_takeSign_172 rfl 0 rfl ?_
                      refine ax_bipush (pc := 173) C 13 d_Wds_takeSign_173 (by decide +kernel) ?_
                      refine cq_32_2_Wds_28 (pc := 175) C d_Wds_takeSign_175 ?_
                      have h := it_l h
                      generalize mI σ1 3202 13 = σ8 at h ⊢
                      refine ax_goto (pc := 178) C 316 d_Wds_takeSign_178 (by decide) ?_
                      refine ax_ls ([(0, .ref (u 32)), (1, .int x0), (2, .int x1)]) [0, 1, 2] rfl ?_
                      have hm : sC_Wds_takeSign_p316 l D kA u w tx σ8 [x0, x1] (σf, rf, _) := ih tC_Wds_takeSign_p316 _ _ _ h
                      exact hm _ _ rfl htx p e s m args below meth c F Lo σ0 hF hLo C
                    · have h := it_f hv9 h
                      by_cases hv10 : ((σ1.2.1 2 (Int32.toNatClampNeg (σ1.1 3206))) : Int32) = 124
                      · have h := it_t hv10 h
                        refine ax_lookup (pc := 14) C 190 d_Wds_takeSign_14 (by decide) (by rw [hv10]) (by decide) ?_
                        refine ax_aload_n (pc := 190) C d_Wds_takeSign_190 rfl 0 rfl ?_
                        refine ax_bipush (pc := 191) C 15 d_Wds_takeSign_191 (by decide +kernel) ?_
                        refine cq_32_2_Wds_28 (pc := 193) C d_Wds_takeSign_193 ?_
                        have h := it_l h
                        generalize mI σ1 3202 15 = σ9 at h ⊢
                        refine ax_goto (pc := 196) C 316 d_Wds_takeSign_196 (by decide) ?_
                        refine ax_ls ([(0, .ref (u 32)), (1, .int x0), (2, .int x1)]) [0, 1, 2] rfl ?_
                        have hm : sC_Wds_takeSign_p316 l D kA u w tx σ9 [x0, x1] (σf, rf, _) := ih tC_Wds_takeSign_p316 _ _ _ h
                        exact hm _ _ rfl htx p e s m args below meth c F Lo σ0 hF hLo C
                      · have h := it_f hv10 h
                        by_cases hv11 : ((σ1.2.1 2 (Int32.toNatClampNeg (σ1.1 3206))) : Int32) = 126
                        · have h := it_t hv11 h
                          refine ax_lookup (pc := 14) C 163 d_Wds_takeSign_14 (by decide) (by rw [hv11]) (by decide) ?_
                          refine ax_aload_n (pc := 163) C d_Wds_takeSign_163 rfl 0 rfl ?_
                          refine ax_bipush (pc := 164) C 11 d_Wds_takeSign_164 (by decide +kernel) ?_
                          refine cq_32_2_Wds_28 (pc := 166) C d_Wds_takeSign_166 ?_
                          have h := it_l h
                          generalize mI σ1 3202 11 = σ10 at h ⊢
                          refine ax_goto (pc := 169) C 316 d_Wds_takeSign_169 (by decide) ?_
                          refine ax_ls ([(0, .ref (u 32)), (1, .int x0), (2, .int x1)]) [0, 1, 2] rfl ?_
                          have hm : sC_Wds_takeSign_p316 l D kA u w tx σ10 [x0, x1] (σf, rf, _) := ih tC_Wds_takeSign_p316 _ _ _ h
                          exact hm _ _ rfl htx p e s m args below meth c F Lo σ0 hF hLo C
                        · have h := it_f hv11 h
                          refine ax_lookup (off := 297) (pc := 14) C 311 d_Wds_takeSign_14 (by decide) ((lv_osw hv0 rfl).trans ((lv_osw hv1 rfl).trans ((lv_osw hv2 rfl).trans ((lv_osw hv3 rfl).trans ((lv_osw hv4 rfl).trans ((lv_osw hv5 rfl).trans ((lv_osw hv6 rfl).trans ((lv_osw hv7 rfl).trans ((lv_osw hv8 rfl).trans ((lv_osw hv9 rfl).trans ((lv_osw hv10 rfl).trans ((lv_osw hv11 rfl).trans (rfl))))))))))))) (by decide) ?_
                          refine ax_aload_n (pc := 311) C d_Wds_takeSign_311 rfl 0 rfl ?_
                          refine ax_iconst (pc := 312) C 1 d_Wds_takeSign_312 (by decide +kernel) ?_
                          refine cq_32_2_Wds_28 (pc := 313) C d_Wds_takeSign_313 ?_
                          have h := it_l h
                          generalize mI σ1 3202 1 = σ11 at h ⊢
                          refine ax_ls ([(0, .ref (u 32)), (1, .int x0), (2, .int x1)]) [0, 1, 2] rfl ?_
                          have hm : sC_Wds_takeSign_p316 l D kA u w tx σ11 [x0, x1] (σf, rf, _) := ih tC_Wds_takeSign_p316 _ _ _ h
                          exact hm _ _ rfl htx p e s m args below meth c F Lo σ0 hF hLo C
set_option maxHeartbeats 4000000 in
set_option maxRecDepth 100000 in
theorem oC_Wds_takeSign_p211 (l : Launch) (D : va_G) (kA : Nat → ClassId) (u w : Nat → Nat) (tx : Value) (rec : mF) (ih : ∀ t σ xs res, rec t σ xs = some res → cSem l D kA u w tx t σ xs res) (σ : mS) (xs : List Int32) (res : mR) (h : u_3 (kC_Wds_takeSign_p211 rec σ) xs = some res) : sC_Wds_takeSign_p211 l D kA u w tx σ xs res := by
  intro x0 x1 x2 hxs htx
  subst hxs
  obtain ⟨σf, rf, dd⟩ := res
  have h : (lt_ (mI σ 3204 x2) (fun σ1 => if x0 = 61 then (rec tC_Wds_takeSign_p228 σ1 [x0, x1, 10]) else (rec tC_Wds_takeSign_p228 σ1 [x0, x1, 12]))) = some (σf, rf, dd) := h
  intro p e s m args below meth c F Lo σ0 hF hLo C
  dsimp only at hF hLo ⊢
  refine cq_32_4_Wds_39 (pc := 211) C d_Wds_takeSign_211 ?_
  have h := it_l h
  generalize mI σ 3204 x2 = σ1 at h ⊢
  refine ax_aload_n (pc := 214) C d_Wds_takeSign_214 rfl 0 rfl ?_
  refine ax_iload_n (pc := 215) C d_Wds_takeSign_215 rfl 1 rfl ?_
  refine ax_bipush (pc := 216) C 61 d_Wds_takeSign_216 (by decide +kernel) ?_
  refine ax_icmp_ne (pc := 218) C 226 d_Wds_takeSign_218 (by decide) (fun hc => ?_) (fun hc => ?_)
  · have h := it_f hc h
    refine ax_bipush (pc := 226) C 12 d_Wds_takeSign_226 (by decide +kernel) ?_
    refine ax_ls ([(0, .ref (u 32)), (1, .int x0), (2, .int x1)]) [0, 1, 2] rfl ?_
    have hm : sC_Wds_takeSign_p228 l D kA u w tx σ1 [x0, x1, 12] (σf, rf, _) := ih tC_Wds_takeSign_p228 _ _ _ h
    exact hm _ _ _ rfl htx p e s m args below meth c F Lo σ0 hF hLo C
  · have h := it_t hc h
    refine ax_bipush (pc := 221) C 10 d_Wds_takeSign_221 (by decide +kernel) ?_
    refine ax_goto (pc := 223) C 228 d_Wds_takeSign_223 (by decide) ?_
    refine ax_ls ([(0, .ref (u 32)), (1, .int x0), (2, .int x1)]) [0, 1, 2] rfl ?_
    have hm : sC_Wds_takeSign_p228 l D kA u w tx σ1 [x0, x1, 10] (σf, rf, _) := ih tC_Wds_takeSign_p228 _ _ _ h
    exact hm _ _ _ rfl htx p e s m args below meth c F Lo σ0 hF hLo C
set_option maxHeartbeats 4000000 in
set_option maxRecDepth 100000 in
theorem oC_Wds_takeSign_p228 (l : Launch) (D : va_G) (kA : Nat → ClassId) (u w : Nat → Nat) (tx : Value) (rec : mF) (ih : ∀ t σ xs res, rec t σ xs = some res → cSem l D kA u w tx t σ xs res) (σ : mS) (xs : List Int32) (res : mR) (h : u_3 (kC_Wds_takeSign_p228 rec σ) xs = some res) : sC_Wds_takeSign_p228 l D kA u w tx σ xs res := by
  intro x0 x1 x2 hxs htx
  subst hxs
  obtain ⟨σf, rf, dd⟩ := res
  have h : (lt_ (mI σ 3202 x2) (fun σ1 => rec tC_Wds_takeSign_p316 σ1 [x0, x1])) = some (σf, rf, dd) := h
  intro p e s m args below meth c F Lo σ0 hF hLo C
  dsimp only at hF hLo ⊢
  refine cq_32_2_Wds_28 (pc := 228) C d_Wds_takeSign_228 ?_
  have h := it_l h
  generalize mI σ 3202 x2 = σ1 at h ⊢
  refine ax_goto (pc := 231) C 316 d_Wds_takeSign_231 (by decide) ?_
  refine ax_ls ([(0, .ref (u 32)), (1, .int x0), (2, .int x1)]) [0, 1, 2] rfl ?_
  have hm : sC_Wds_takeSign_p316 l D kA u w tx σ1 [x0, x1] (σf, rf, _) := ih tC_Wds_takeSign_p316 _ _ _ h
  exact hm _ _ rfl htx p e s m args below meth c F Lo σ0 hF hLo C
set_option maxHeartbeats 4000000 in
set_option maxRecDepth 100000 in
theorem oC_Wds_takeSign_p246 (l : Launch) (D : va_G) (kA : Nat → ClassId) (u w : Nat → Nat) (tx : Value) (rec : mF) (ih : ∀ t σ xs res, rec t σ xs = some res → cSem l D kA u w tx t σ xs res) (σ : mS) (xs : List Int32) (res : mR) (h : u_3 (kC_Wds_takeSign_p246 rec σ) xs = some res) : sC_Wds_takeSign_p246 l D kA u w tx σ xs res := by
  intro x0 x1 x2 hxs htx
  subst hxs
  obtain ⟨σf, rf, dd⟩ := res
  have h : (lt_ (mI σ 3204 x2) (fun σ1 => if x0 = 62 then (rec tC_Wds_takeSign_p263 σ1 [x0, x1, 16]) else (rec tC_Wds_takeSign_p263 σ1 [x0, x1, 9]))) = some (σf, rf, dd) := h
  intro p e s m args below meth c F Lo σ0 hF hLo C
  dsimp only at hF hLo ⊢
  refine cq_32_4_Wds_39 (pc := 246) C d_Wds_takeSign_246 ?_
  have h := it_l h
  generalize mI σ 3204 x2 = σ1 at h ⊢
  refine ax_aload_n (pc := 249) C d_Wds_takeSign_249 rfl 0 rfl ?_
  refine ax_iload_n (pc := 250) C d_Wds_takeSign_250 rfl 1 rfl ?_
  refine ax_bipush (pc := 251) C 62 d_Wds_takeSign_251 (by decide +kernel) ?_
  refine ax_icmp_ne (pc := 253) C 261 d_Wds_takeSign_253 (by decide) (fun hc => ?_) (fun hc => ?_)
  · have h := it_f hc h
    refine ax_bipush (pc := 261) C 9 d_Wds_takeSign_261 (by decide +kernel) ?_
    refine ax_ls ([(0, .ref (u 32)), (1, .int x0), (2, .int x1)]) [0, 1, 2] rfl ?_
    have hm : sC_Wds_takeSign_p263 l D kA u w tx σ1 [x0, x1, 9] (σf, rf, _) := ih tC_Wds_takeSign_p263 _ _ _ h
    exact hm _ _ _ rfl htx p e s m args below meth c F Lo σ0 hF hLo C
  · have h := it_t hc h
    refine ax_bipush (pc := 256) C 16 d_Wds_takeSign_256 (by decide +kernel) ?_
    refine ax_goto (pc := 258) C 263 d_Wds_takeSign_258 (by decide) ?_
    refine ax_ls ([(0, .ref (u 32)), (1, .int x0), (2, .int x1)]) [0, 1, 2] rfl ?_
    have hm : sC_Wds_takeSign_p263 l D kA u w tx σ1 [x0, x1, 16] (σf, rf, _) := ih tC_Wds_takeSign_p263 _ _ _ h
    exact hm _ _ _ rfl htx p e s m args below meth c F Lo σ0 hF hLo C
set_option maxHeartbeats 4000000 in
set_option maxRecDepth 100000 in
theorem oC_Wds_takeSign_p263 (l : Launch) (D : va_G) (kA : Nat → ClassId) (u w : Nat → Nat) (tx : Value) (rec : mF) (ih : ∀ t σ xs res, rec t σ xs = some res → cSem l D kA u w tx t σ xs res) (σ : mS) (xs : List Int32) (res : mR) (h : u_3 (kC_Wds_takeSign_p263 rec σ) xs = some res) : sC_Wds_takeSign_p263 l D kA u w tx σ xs res := by
  intro x0 x1 x2 hxs htx
  subst hxs
  obtain ⟨σf, rf, dd⟩ := res
  have h : (lt_ (mI σ 3202 x2) (fun σ1 => rec tC_Wds_takeSign_p316 σ1 [x0, x1])) = some (σf, rf, dd) := h
  intro p e s m args below meth c F Lo σ0 hF hLo C
  dsimp only at hF hLo ⊢
  refine cq_32_2_Wds_28 (pc := 263) C d_Wds_takeSign_263 ?_
  have h := it_l h
  generalize mI σ 3202 x2 = σ1 at h ⊢
  refine ax_goto (pc := 266) C 316 d_Wds_takeSign_266 (by decide) ?_
  refine ax_ls ([(0, .ref (u 32)), (1, .int x0), (2, .int x1)]) [0, 1, 2] rfl ?_
  have hm : sC_Wds_takeSign_p316 l D kA u w tx σ1 [x0, x1] (σf, rf, _) := ih tC_Wds_takeSign_p316 _ _ _ h
  exact hm _ _ rfl htx p e s m args below meth c F Lo σ0 hF hLo C
set_option maxHeartbeats 4000000 in
set_option maxRecDepth 100000 in
theorem oC_Wds_takeSign_p286 (l : Launch) (D : va_G) (kA : Nat → ClassId) (u w : Nat → Nat) (tx : Value) (rec : mF) (ih : ∀ t σ xs res, rec t σ xs = some res → cSem l D kA u w tx t σ xs res) (σ : mS) (xs : List Int32) (res : mR) (h : u_2 (kC_Wds_takeSign_p286 rec σ) xs = some res) : sC_Wds_takeSign_p286 l D kA u w tx σ xs res := by
  intro x0 x1 hxs htx
  subst hxs
  obtain ⟨σf, rf, dd⟩ := res
  have h : (rec tC_Wds_takeSign_p287 σ [x0, x1, 1]) = some (σf, rf, dd) := h
  intro p e s m args below meth c F Lo σ0 hF hLo C
  dsimp only at hF hLo ⊢
  refine ax_iconst (pc := 286) C 1 d_Wds_takeSign_286 (by decide +kernel) ?_
  refine ax_ls ([(0, .ref (u 32)), (1, .int x0), (2, .int x1)]) [0, 1, 2] rfl ?_
  have hm : sC_Wds_takeSign_p287 l D kA u w tx σ [x0, x1, 1] (σf, rf, _) := ih tC_Wds_takeSign_p287 _ _ _ h
  exact hm _ _ _ rfl htx p e s m args below meth c F Lo σ0 hF hLo C
set_option maxHeartbeats 4000000 in
set_option maxRecDepth 100000 in
theorem oC_Wds_takeSign_p287 (l : Launch) (D : va_G) (kA : Nat → ClassId) (u w : Nat → Nat) (tx : Value) (rec : mF) (ih : ∀ t σ xs res, rec t σ xs = some res → cSem l D kA u w tx t σ xs res) (σ : mS) (xs : List Int32) (res : mR) (h : u_3 (kC_Wds_takeSign_p287 rec σ) xs = some res) : sC_Wds_takeSign_p287 l D kA u w tx σ xs res := by
  intro x0 x1 x2 hxs htx
  subst hxs
  obtain ⟨σf, rf, dd⟩ := res
  have h : (lt_ (mI σ 3204 x2) (fun σ1 => if (σ1.1 3204) = 3 then (rec tC_Wds_takeSign_p305 σ1 [x0, x1, 17]) else (rec tC_Wds_takeSign_p305 σ1 [x0, x1, 1]))) = some (σf, rf, dd) := h
  intro p e s m args below meth c F Lo σ0 hF hLo C
  dsimp only at hF hLo ⊢
  refine cq_32_4_Wds_39 (pc := 287) C d_Wds_takeSign_287 ?_
  have h := it_l h
  generalize mI σ 3204 x2 = σ1 at h ⊢
  refine ax_aload_n (pc := 290) C d_Wds_takeSign_290 rfl 0 rfl ?_
  refine ax_aload_n (pc := 291) C d_Wds_takeSign_291 rfl 0 rfl ?_
  refine cg_32_4_Wds_39 (pc := 292) C d_Wds_takeSign_292 ?_
  refine ax_iconst (pc := 295) C 3 d_Wds_takeSign_295 (by decide +kernel) ?_
  refine ax_icmp_ne (pc := 296) C 304 d_Wds_takeSign_296 (by decide) (fun hc => ?_) (fun hc => ?_)
  · have h := it_f hc h
    refine ax_iconst (pc := 304) C 1 d_Wds_takeSign_304 (by decide +kernel) ?_
    refine ax_ls ([(0, .ref (u 32)), (1, .int x0), (2, .int x1)]) [0, 1, 2] rfl ?_
    have hm : sC_Wds_takeSign_p305 l D kA u w tx σ1 [x0, x1, 1] (σf, rf, _) := ih tC_Wds_takeSign_p305 _ _ _ h
    exact hm _ _ _ rfl htx p e s m args below meth c F Lo σ0 hF hLo C
  · have h := it_t hc h
    refine ax_bipush (pc := 299) C 17 d_Wds_takeSign_299 (by decide +kernel) ?_
    refine ax_goto (pc := 301) C 305 d_Wds_takeSign_301 (by decide) ?_
    refine ax_ls ([(0, .ref (u 32)), (1, .int x0), (2, .int x1)]) [0, 1, 2] rfl ?_
    have hm : sC_Wds_takeSign_p305 l D kA u w tx σ1 [x0, x1, 17] (σf, rf, _) := ih tC_Wds_takeSign_p305 _ _ _ h
    exact hm _ _ _ rfl htx p e s m args below meth c F Lo σ0 hF hLo C
set_option maxHeartbeats 4000000 in
set_option maxRecDepth 100000 in
theorem oC_Wds_takeSign_p305 (l : Launch) (D : va_G) (kA : Nat → ClassId) (u w : Nat → Nat) (tx : Value) (rec : mF) (ih : ∀ t σ xs res, rec t σ xs = some res → cSem l D kA u w tx t σ xs res) (σ : mS) (xs : List Int32) (res : mR) (h : u_3 (kC_Wds_takeSign_p305 rec σ) xs = some res) : sC_Wds_takeSign_p305 l D kA u w tx σ xs res := by
  intro x0 x1 x2 hxs htx
  subst hxs
  obtain ⟨σf, rf, dd⟩ := res
  have h : (lt_ (mI σ 3202 x2) (fun σ1 => rec tC_Wds_takeSign_p316 σ1 [x0, x1])) = some (σf, rf, dd) := h
  intro p e s m args below meth c F Lo σ0 hF hLo C
  dsimp only at hF hLo ⊢
  refine cq_32_2_Wds_28 (pc := 305) C d_Wds_takeSign_305 ?_
  have h := it_l h
  generalize mI σ 3202 x2 = σ1 at h ⊢
  refine ax_goto (pc := 308) C 316 d_Wds_takeSign_308 (by decide) ?_
  refine ax_ls ([(0, .ref (u 32)), (1, .int x0), (2, .int x1)]) [0, 1, 2] rfl ?_
  have hm : sC_Wds_takeSign_p316 l D kA u w tx σ1 [x0, x1] (σf, rf, _) := ih tC_Wds_takeSign_p316 _ _ _ h
  exact hm _ _ rfl htx p e s m args below meth c F Lo σ0 hF hLo C
set_option maxHeartbeats 4000000 in
set_option maxRecDepth 100000 in
theorem oC_Wds_takeSign_p316 (l : Launch) (D : va_G) (kA : Nat → ClassId) (u w : Nat → Nat) (tx : Value) (rec : mF) (ih : ∀ t σ xs res, rec t σ xs = some res → cSem l D kA u w tx t σ xs res) (σ : mS) (xs : List Int32) (res : mR) (h : u_2 (kC_Wds_takeSign_p316 rec σ) xs = some res) : sC_Wds_takeSign_p316 l D kA u w tx σ xs res := by
  intro x0 x1 hxs htx
  subst hxs
  obtain ⟨σf, rf, dd⟩ := res
  have h : (some (σ, 0, 0)) = some (σf, rf, dd) := h
  intro p e s m args below meth c F Lo σ0 hF hLo C
  dsimp only at hF hLo ⊢
  cases h
  exact ax_vret (pc := 316) C d_Wds_takeSign_316 rfl (Nat.le_refl _) (Nat.le_refl _)
set_option maxHeartbeats 4000000 in
set_option maxRecDepth 100000 in
theorem oC_Wds_takeWord (l : Launch) (D : va_G) (kA : Nat → ClassId) (u w : Nat → Nat) (tx : Value) (rec : mF) (ih : ∀ t σ xs res, rec t σ xs = some res → cSem l D kA u w tx t σ xs res) (σ : mS) (xs : List Int32) (res : mR) (h : u_0 (kC_Wds_takeWord rec σ) xs = some res) : sC_Wds_takeWord l D kA u w tx σ xs res := by
  intro hxs htx
  subst hxs
  obtain ⟨σf, rf, dd⟩ := res
  have h : (rec tC_Wds_takeWord_p2 σ [1]) = some (σf, rf, dd) := h
  refine ax_Mv.of (by decide +kernel) (Nat.le_of_ble_eq_true rfl) ?_
  intro p e s m args below meth c C hnm
  have C : ax_C p s m args meth c b_Wds_takeWord "ClauseProver$Words" 3 none D kA (va_A (cpW kA u w tx σ) s.heap.size) := C
  obtain ⟨F, hFe⟩ : ∃ F, F = dd + 1 := ⟨_, rfl⟩
  obtain ⟨Lo, hLoe⟩ : ∃ Lo, Lo = 48 * dd + 48 := ⟨_, rfl⟩
  obtain ⟨σ0, hσ0⟩ : ∃ s0, s0 = σ := ⟨_, rfl⟩
  suffices K : AW p l e { frames := F, cells := 0, slots := 0, locals := Lo } s m args below meth c D kA (va_A (cpW kA u w tx σ0) s.heap.size) 3 (ax_Qv below args s D kA (cpW kA u w tx σ0) 0 0 (fun w1 => w1 = cpW kA u w tx σf)) 0 [(0, .ref (u 32))] [] (cpW kA u w tx σ) 0 0 by rw [hFe, hLoe, hσ0] at K; exact ax_ls ([(0, .ref (u 32))]) [0] rfl K
  have C : ax_C p s m args meth c b_Wds_takeWord "ClauseProver$Words" 3 none D kA (va_A (cpW kA u w tx σ0) s.heap.size) := by rw [hσ0]; exact C
  have hF : dd + 1 ≤ F := by omega
  have hLo : 48 * dd + 48 ≤ Lo := by omega
  clear hFe hLoe hσ0
  refine ax_iconst (pc := 0) C 1 d_Wds_takeWord_0 (by decide +kernel) ?_
  refine ax_istore_n (pc := 1) C d_Wds_takeWord_1 rfl (Nat.le_of_ble_eq_true rfl) ([(1, .int 1), (0, .ref (u 32))]) rfl ?_
  refine ax_ls ([(0, .ref (u 32)), (1, .int 1)]) [1, 0] rfl ?_
  have hm : sC_Wds_takeWord_p2 l D kA u w tx σ [1] (σf, rf, _) := ih tC_Wds_takeWord_p2 _ _ _ h
  exact hm _ rfl htx p e s m args below meth c F Lo σ0 hF hLo C
set_option maxHeartbeats 4000000 in
set_option maxRecDepth 100000 in
theorem oC_Wds_takeWord_p2 (l : Launch) (D : va_G) (kA : Nat → ClassId) (u w : Nat → Nat) (tx : Value) (rec : mF) (ih : ∀ t σ xs res, rec t σ xs = some res → cSem l D kA u w tx t σ xs res) (σ : mS) (xs : List Int32) (res : mR) (h : u_1 (kC_Wds_takeWord_p2 rec σ) xs = some res) : sC_Wds_takeWord_p2 l D kA u w tx σ xs res := by
  intro x0 hxs htx
  subst hxs
  obtain ⟨σf, rf, dd⟩ := res
  have h : (if x0 = 0 then (rec tC_Wds_takeWord_p100 σ [x0]) else (if (σ.1 3201) ≤ (((σ.1 3206) : Int32) + (σ.1 3204)) then (rec tC_Wds_takeWord_p100 σ [x0]) else (if bin (((σ.1 3206) : Int32) + (σ.1 3204)) (σ.2.2 2) = true then (if (((σ.2.1 2 (Int32.toNatClampNeg (((σ.1 3206) : Int32) + (σ.1 3204)))) : Int32) ||| 32) < 97 then (rec tC_Wds_takeWord_p55 σ [x0, (σ.2.1 2 (Int32.toNatClampNeg (((σ.1 3206) : Int32) + (σ.1 3204))))]) else (if (((σ.2.1 2 (Int32.toNatClampNeg (((σ.1 3206) : Int32) + (σ.1 3204)))) : Int32) ||| 32) ≤ 122 then (rec tC_Wds_takeWord_p73 σ [x0, (σ.2.1 2 (Int32.toNatClampNeg (((σ.1 3206) : Int32) + (σ.1 3204))))]) else (rec tC_Wds_takeWord_p55 σ [x0, (σ.2.1 2 (Int32.toNatClampNeg (((σ.1 3206) : Int32) + (σ.1 3204))))]))) else none))) = some (σf, rf, dd) := h
  intro p e s m args below meth c F Lo σ0 hF hLo C
  dsimp only at hF hLo ⊢
  refine ax_iload_n (pc := 2) C d_Wds_takeWord_2 rfl 1 rfl ?_
  refine ax_if_eq (pc := 3) C 100 d_Wds_takeWord_3 (by decide) (fun hc => ?_) (fun hc => ?_)
  · have h := it_t hc h
    refine ax_ls ([(0, .ref (u 32)), (1, .int x0)]) [0, 1] rfl ?_
    have hm : sC_Wds_takeWord_p100 l D kA u w tx σ [x0] (σf, rf, _) := ih tC_Wds_takeWord_p100 _ _ _ h
    exact hm _ rfl htx p e s m args below meth c F Lo σ0 hF hLo C
  · have h := it_f hc h
    refine ax_aload_n (pc := 6) C d_Wds_takeWord_6 rfl 0 rfl ?_
    refine cg_32_6_Wds_19 (pc := 7) C d_Wds_takeWord_7 ?_
    refine ax_aload_n (pc := 10) C d_Wds_takeWord_10 rfl 0 rfl ?_
    refine cg_32_4_Wds_39 (pc := 11) C d_Wds_takeWord_11 ?_
    refine ax_iadd (pc := 14) C d_Wds_takeWord_14 ?_
    refine ax_aload_n (pc := 15) C d_Wds_takeWord_15 rfl 0 rfl ?_
    refine cg_32_1_Wds_15 (pc := 16) C d_Wds_takeWord_16 ?_
    refine ax_icmp_ge (pc := 19) C 100 d_Wds_takeWord_19 (by decide) (fun hc => ?_) (fun hc => ?_)
    · have h := it_t hc h
      refine ax_ls ([(0, .ref (u 32)), (1, .int x0)]) [0, 1] rfl ?_
      have hm : sC_Wds_takeWord_p100 l D kA u w tx σ [x0] (σf, rf, _) := ih tC_Wds_takeWord_p100 _ _ _ h
      exact hm _ rfl htx p e s m args below meth c F Lo σ0 hF hLo C
    · have h := it_f hc h
      refine ax_aload_n (pc := 22) C d_Wds_takeWord_22 rfl 0 rfl ?_
      refine cg_32_0_Wds_9 (pc := 23) C htx d_Wds_takeWord_23 ?_
      refine ax_aload_n (pc := 26) C d_Wds_takeWord_26 rfl 0 rfl ?_
      refine cg_32_6_Wds_19 (pc := 27) C d_Wds_takeWord_27 ?_
      refine ax_aload_n (pc := 30) C d_Wds_takeWord_30 rfl 0 rfl ?_
      refine cg_32_4_Wds_39 (pc := 31) C d_Wds_takeWord_31 ?_
      refine ax_iadd (pc := 34) C d_Wds_takeWord_34 ?_
      obtain ⟨hb, h⟩ := it_g h
      refine cl_2 (pc := 35) C d_Wds_takeWord_35 (bin_in hb) ?_
      refine ax_istore_n (pc := 36) C d_Wds_takeWord_36 rfl (Nat.le_of_ble_eq_true rfl) ([(2, .int (σ.2.1 2 (Int32.toNatClampNeg (((σ.1 3206) : Int32) + (σ.1 3204))))), (0, .ref (u 32)), (1, .int x0)]) rfl ?_
      refine ax_iload_n (pc := 37) C d_Wds_takeWord_37 rfl 0 rfl ?_
      refine ax_bipush (pc := 38) C 32 d_Wds_takeWord_38 (by decide +kernel) ?_
      refine ax_ior (pc := 40) C d_Wds_takeWord_40 ?_
      refine ax_bipush (pc := 41) C 97 d_Wds_takeWord_41 (by decide +kernel) ?_
      refine ax_icmp_lt (pc := 43) C 55 d_Wds_takeWord_43 (by decide) (fun hc => ?_) (fun hc => ?_)
      · have h := it_t hc h
        refine ax_ls ([(0, .ref (u 32)), (1, .int x0), (2, .int (σ.2.1 2 (Int32.toNatClampNeg (((σ.1 3206) : Int32) + (σ.1 3204)))))]) [1, 2, 0] rfl ?_
        have hm : sC_Wds_takeWord_p55 l D kA u w tx σ [x0, (σ.2.1 2 (Int32.toNatClampNeg (((σ.1 3206) : Int32) + (σ.1 3204))))] (σf, rf, _) := ih tC_Wds_takeWord_p55 _ _ _ h
        exact hm _ _ rfl htx p e s m args below meth c F Lo σ0 hF hLo C
      · have h := it_f hc h
        refine ax_iload_n (pc := 46) C d_Wds_takeWord_46 rfl 0 rfl ?_
        refine ax_bipush (pc := 47) C 32 d_Wds_takeWord_47 (by decide +kernel) ?_
        refine ax_ior (pc := 49) C d_Wds_takeWord_49 ?_
        refine ax_bipush (pc := 50) C 122 d_Wds_takeWord_50 (by decide +kernel) ?_
        refine ax_icmp_le (pc := 52) C 73 d_Wds_takeWord_52 (by decide) (fun hc => ?_) (fun hc => ?_)
        · have h := it_t hc h
          refine ax_ls ([(0, .ref (u 32)), (1, .int x0), (2, .int (σ.2.1 2 (Int32.toNatClampNeg (((σ.1 3206) : Int32) + (σ.1 3204)))))]) [1, 2, 0] rfl ?_
          have hm : sC_Wds_takeWord_p73 l D kA u w tx σ [x0, (σ.2.1 2 (Int32.toNatClampNeg (((σ.1 3206) : Int32) + (σ.1 3204))))] (σf, rf, _) := ih tC_Wds_takeWord_p73 _ _ _ h
          exact hm _ _ rfl htx p e s m args below meth c F Lo σ0 hF hLo C
        · have h := it_f hc h
          refine ax_ls ([(0, .ref (u 32)), (1, .int x0), (2, .int (σ.2.1 2 (Int32.toNatClampNeg (((σ.1 3206) : Int32) + (σ.1 3204)))))]) [1, 2, 0] rfl ?_
          have hm : sC_Wds_takeWord_p55 l D kA u w tx σ [x0, (σ.2.1 2 (Int32.toNatClampNeg (((σ.1 3206) : Int32) + (σ.1 3204))))] (σf, rf, _) := ih tC_Wds_takeWord_p55 _ _ _ h
          exact hm _ _ rfl htx p e s m args below meth c F Lo σ0 hF hLo C
set_option maxHeartbeats 4000000 in
set_option maxRecDepth 100000 in
theorem oC_Wds_takeWord_p55 (l : Launch) (D : va_G) (kA : Nat → ClassId) (u w : Nat → Nat) (tx : Value) (rec : mF) (ih : ∀ t σ xs res, rec t σ xs = some res → cSem l D kA u w tx t σ xs res) (σ : mS) (xs : List Int32) (res : mR) (h : u_2 (kC_Wds_takeWord_p55 rec σ) xs = some res) : sC_Wds_takeWord_p55 l D kA u w tx σ xs res := by
  intro x0 x1 hxs htx
  subst hxs
  obtain ⟨σf, rf, dd⟩ := res
  have h : (if x1 < 48 then (rec tC_Wds_takeWord_p67 σ [x0, x1]) else (if x1 ≤ 57 then (rec tC_Wds_takeWord_p73 σ [x0, x1]) else (rec tC_Wds_takeWord_p67 σ [x0, x1]))) = some (σf, rf, dd) := h
  intro p e s m args below meth c F Lo σ0 hF hLo C
  dsimp only at hF hLo ⊢
  refine ax_iload_n (pc := 55) C d_Wds_takeWord_55 rfl 2 rfl ?_
  refine ax_bipush (pc := 56) C 48 d_Wds_takeWord_56 (by decide +kernel) ?_
  refine ax_icmp_lt (pc := 58) C 67 d_Wds_takeWord_58 (by decide) (fun hc => ?_) (fun hc => ?_)
  · have h := it_t hc h
    refine ax_ls ([(0, .ref (u 32)), (1, .int x0), (2, .int x1)]) [0, 1, 2] rfl ?_
    have hm : sC_Wds_takeWord_p67 l D kA u w tx σ [x0, x1] (σf, rf, _) := ih tC_Wds_takeWord_p67 _ _ _ h
    exact hm _ _ rfl htx p e s m args below meth c F Lo σ0 hF hLo C
  · have h := it_f hc h
    refine ax_iload_n (pc := 61) C d_Wds_takeWord_61 rfl 2 rfl ?_
    refine ax_bipush (pc := 62) C 57 d_Wds_takeWord_62 (by decide +kernel) ?_
    refine ax_icmp_le (pc := 64) C 73 d_Wds_takeWord_64 (by decide) (fun hc => ?_) (fun hc => ?_)
    · have h := it_t hc h
      refine ax_ls ([(0, .ref (u 32)), (1, .int x0), (2, .int x1)]) [0, 1, 2] rfl ?_
      have hm : sC_Wds_takeWord_p73 l D kA u w tx σ [x0, x1] (σf, rf, _) := ih tC_Wds_takeWord_p73 _ _ _ h
      exact hm _ _ rfl htx p e s m args below meth c F Lo σ0 hF hLo C
    · have h := it_f hc h
      refine ax_ls ([(0, .ref (u 32)), (1, .int x0), (2, .int x1)]) [0, 1, 2] rfl ?_
      have hm : sC_Wds_takeWord_p67 l D kA u w tx σ [x0, x1] (σf, rf, _) := ih tC_Wds_takeWord_p67 _ _ _ h
      exact hm _ _ rfl htx p e s m args below meth c F Lo σ0 hF hLo C
set_option maxHeartbeats 4000000 in
set_option maxRecDepth 100000 in
theorem oC_Wds_takeWord_p67 (l : Launch) (D : va_G) (kA : Nat → ClassId) (u w : Nat → Nat) (tx : Value) (rec : mF) (ih : ∀ t σ xs res, rec t σ xs = some res → cSem l D kA u w tx t σ xs res) (σ : mS) (xs : List Int32) (res : mR) (h : u_2 (kC_Wds_takeWord_p67 rec σ) xs = some res) : sC_Wds_takeWord_p67 l D kA u w tx σ xs res := by
  intro x0 x1 hxs htx
  subst hxs
  obtain ⟨σf, rf, dd⟩ := res
  have h : (if x1 = 95 then (rec tC_Wds_takeWord_p73 σ [x0, x1]) else (rec tC_Wds_takeWord_p78 σ [x0, x1, 0])) = some (σf, rf, dd) := h
  intro p e s m args below meth c F Lo σ0 hF hLo C
  dsimp only at hF hLo ⊢
  refine ax_iload_n (pc := 67) C d_Wds_takeWord_67 rfl 2 rfl ?_
  refine ax_bipush (pc := 68) C 95 d_Wds_takeWord_68 (by decide +kernel) ?_
  refine ax_icmp_ne (pc := 70) C 77 d_Wds_takeWord_70 (by decide) (fun hc => ?_) (fun hc => ?_)
  · have h := it_f hc h
    refine ax_iconst (pc := 77) C 0 d_Wds_takeWord_77 (by decide +kernel) ?_
    refine ax_ls ([(0, .ref (u 32)), (1, .int x0), (2, .int x1)]) [0, 1, 2] rfl ?_
    have hm : sC_Wds_takeWord_p78 l D kA u w tx σ [x0, x1, 0] (σf, rf, _) := ih tC_Wds_takeWord_p78 _ _ _ h
    exact hm _ _ _ rfl htx p e s m args below meth c F Lo σ0 hF hLo C
  · have h := it_t hc h
    refine ax_ls ([(0, .ref (u 32)), (1, .int x0), (2, .int x1)]) [0, 1, 2] rfl ?_
    have hm : sC_Wds_takeWord_p73 l D kA u w tx σ [x0, x1] (σf, rf, _) := ih tC_Wds_takeWord_p73 _ _ _ h
    exact hm _ _ rfl htx p e s m args below meth c F Lo σ0 hF hLo C
set_option maxHeartbeats 4000000 in
set_option maxRecDepth 100000 in
theorem oC_Wds_takeWord_p73 (l : Launch) (D : va_G) (kA : Nat → ClassId) (u w : Nat → Nat) (tx : Value) (rec : mF) (ih : ∀ t σ xs res, rec t σ xs = some res → cSem l D kA u w tx t σ xs res) (σ : mS) (xs : List Int32) (res : mR) (h : u_2 (kC_Wds_takeWord_p73 rec σ) xs = some res) : sC_Wds_takeWord_p73 l D kA u w tx σ xs res := by
  intro x0 x1 hxs htx
  subst hxs
  obtain ⟨σf, rf, dd⟩ := res
  have h : (rec tC_Wds_takeWord_p78 σ [x0, x1, 1]) = some (σf, rf, dd) := h
  intro p e s m args below meth c F Lo σ0 hF hLo C
  dsimp only at hF hLo ⊢
  refine ax_iconst (pc := 73) C 1 d_Wds_takeWord_73 (by decide +kernel) ?_
  refine ax_goto (pc := 74) C 78 d_Wds_takeWord_74 (by decide) ?_
  refine ax_ls ([(0, .ref (u 32)), (1, .int x0), (2, .int x1)]) [0, 1, 2] rfl ?_
  have hm : sC_Wds_takeWord_p78 l D kA u w tx σ [x0, x1, 1] (σf, rf, _) := ih tC_Wds_takeWord_p78 _ _ _ h
  exact hm _ _ _ rfl htx p e s m args below meth c F Lo σ0 hF hLo C
set_option maxHeartbeats 4000000 in
set_option maxRecDepth 100000 in
theorem oC_Wds_takeWord_p78 (l : Launch) (D : va_G) (kA : Nat → ClassId) (u w : Nat → Nat) (tx : Value) (rec : mF) (ih : ∀ t σ xs res, rec t σ xs = some res → cSem l D kA u w tx t σ xs res) (σ : mS) (xs : List Int32) (res : mR) (h : u_3 (kC_Wds_takeWord_p78 rec σ) xs = some res) : sC_Wds_takeWord_p78 l D kA u w tx σ xs res := by
  intro x0 x1 x2 hxs htx
  subst hxs
  obtain ⟨σf, rf, dd⟩ := res
  have h : (if x2 = 0 then (rec tC_Wds_takeWord_p93 σ [x2, x1, 0, (σ.1 3204)]) else (rec tC_Wds_takeWord_p93 σ [x2, x1, 1, (σ.1 3204)])) = some (σf, rf, dd) := h
  intro p e s m args below meth c F Lo σ0 hF hLo C
  dsimp only at hF hLo ⊢
  refine ax_istore_n (pc := 78) C d_Wds_takeWord_78 rfl (Nat.le_of_ble_eq_true rfl) ([(1, .int x2), (0, .ref (u 32)), (2, .int x1)]) rfl ?_
  refine ax_aload_n (pc := 79) C d_Wds_takeWord_79 rfl 1 rfl ?_
  refine ax_dup (pc := 80) C d_Wds_takeWord_80 rfl ?_
  refine cg_32_4_Wds_39 (pc := 81) C d_Wds_takeWord_81 ?_
  refine ax_iload_n (pc := 84) C d_Wds_takeWord_84 rfl 0 rfl ?_
  refine ax_if_eq (pc := 85) C 92 d_Wds_takeWord_85 (by decide) (fun hc => ?_) (fun hc => ?_)
  · have h := it_t hc h
    refine ax_iconst (pc := 92) C 0 d_Wds_takeWord_92 (by decide +kernel) ?_
    refine ax_ls ([(0, .ref (u 32)), (1, .int x2), (2, .int x1)]) [1, 0, 2] rfl ?_
    have hm : sC_Wds_takeWord_p93 l D kA u w tx σ [x2, x1, 0, (σ.1 3204)] (σf, rf, _) := ih tC_Wds_takeWord_p93 _ _ _ h
    exact hm _ _ _ _ rfl htx p e s m args below meth c F Lo σ0 hF hLo C
  · have h := it_f hc h
    refine ax_iconst (pc := 88) C 1 d_Wds_takeWord_88 (by decide +kernel) ?_
    refine ax_goto (pc := 89) C 93 d_Wds_takeWord_89 (by decide) ?_
    refine ax_ls ([(0, .ref (u 32)), (1, .int x2), (2, .int x1)]) [1, 0, 2] rfl ?_
    have hm : sC_Wds_takeWord_p93 l D kA u w tx σ [x2, x1, 1, (σ.1 3204)] (σf, rf, _) := ih tC_Wds_takeWord_p93 _ _ _ h
    exact hm _ _ _ _ rfl htx p e s m args below meth c F Lo σ0 hF hLo C
set_option maxHeartbeats 4000000 in
set_option maxRecDepth 100000 in
theorem oC_Wds_takeWord_p93 (l : Launch) (D : va_G) (kA : Nat → ClassId) (u w : Nat → Nat) (tx : Value) (rec : mF) (ih : ∀ t σ xs res, rec t σ xs = some res → cSem l D kA u w tx t σ xs res) (σ : mS) (xs : List Int32) (res : mR) (h : u_4 (kC_Wds_takeWord_p93 rec σ) xs = some res) : sC_Wds_takeWord_p93 l D kA u w tx σ xs res := by
  intro x0 x1 x2 x3 hxs htx
  subst hxs
  obtain ⟨σf, rf, dd⟩ := res
  have h : (lt_ (mI σ 3204 ((x3 : Int32) + x2)) (fun σ1 => rec tC_Wds_takeWord_p2 σ1 [x0])) = some (σf, rf, dd) := h
  intro p e s m args below meth c F Lo σ0 hF hLo C
  dsimp only at hF hLo ⊢
  refine ax_iadd (pc := 93) C d_Wds_takeWord_93 ?_
  refine cq_32_4_Wds_39 (pc := 94) C d_Wds_takeWord_94 ?_
  have h := it_l h
  generalize mI σ 3204 ((x3 : Int32) + x2) = σ1 at h ⊢
  refine ax_goto (pc := 97) C 2 d_Wds_takeWord_97 (by decide) ?_
  refine ax_ls ([(0, .ref (u 32)), (1, .int x0)]) [0, 1] rfl ?_
  have hm : sC_Wds_takeWord_p2 l D kA u w tx σ1 [x0] (σf, rf, _) := ih tC_Wds_takeWord_p2 _ _ _ h
  exact hm _ rfl htx p e s m args below meth c F Lo σ0 hF hLo C
set_option maxHeartbeats 4000000 in
set_option maxRecDepth 100000 in
theorem oC_Wds_takeWord_p100 (l : Launch) (D : va_G) (kA : Nat → ClassId) (u w : Nat → Nat) (tx : Value) (rec : mF) (ih : ∀ t σ xs res, rec t σ xs = some res → cSem l D kA u w tx t σ xs res) (σ : mS) (xs : List Int32) (res : mR) (h : u_1 (kC_Wds_takeWord_p100 rec σ) xs = some res) : sC_Wds_takeWord_p100 l D kA u w tx σ xs res := by
  intro x0 hxs htx
  subst hxs
  obtain ⟨σf, rf, dd⟩ := res
  have h : (if bin (σ.1 3206) (σ.2.2 2) = true then (if 90 < (σ.2.1 2 (Int32.toNatClampNeg (σ.1 3206))) then (rec tC_Wds_takeWord_p119 σ [x0, 0]) else (rec tC_Wds_takeWord_p119 σ [x0, 1])) else none) = some (σf, rf, dd) := h
  intro p e s m args below meth c F Lo σ0 hF hLo C
  dsimp only at hF hLo ⊢
  refine ax_aload_n (pc := 100) C d_Wds_takeWord_100 rfl 0 rfl ?_
  refine cg_32_0_Wds_9 (pc := 101) C htx d_Wds_takeWord_101 ?_
  refine ax_aload_n (pc := 104) C d_Wds_takeWord_104 rfl 0 rfl ?_
  refine cg_32_6_Wds_19 (pc := 105) C d_Wds_takeWord_105 ?_
  obtain ⟨hb, h⟩ := it_g h
  refine cl_2 (pc := 108) C d_Wds_takeWord_108 (bin_in hb) ?_
  refine ax_bipush (pc := 109) C 90 d_Wds_takeWord_109 (by decide +kernel) ?_
  refine ax_icmp_gt (pc := 111) C 118 d_Wds_takeWord_111 (by decide) (fun hc => ?_) (fun hc => ?_)
  · have h := it_t hc h
    refine ax_iconst (pc := 118) C 0 d_Wds_takeWord_118 (by decide +kernel) ?_
    refine ax_ls ([(0, .ref (u 32)), (1, .int x0)]) [0, 1] rfl ?_
    have hm : sC_Wds_takeWord_p119 l D kA u w tx σ [x0, 0] (σf, rf, _) := ih tC_Wds_takeWord_p119 _ _ _ h
    exact hm _ _ rfl htx p e s m args below meth c F Lo σ0 hF hLo C
  · have h := it_f hc h
    refine ax_iconst (pc := 114) C 1 d_Wds_takeWord_114 (by decide +kernel) ?_
    refine ax_goto (pc := 115) C 119 d_Wds_takeWord_115 (by decide) ?_
    refine ax_ls ([(0, .ref (u 32)), (1, .int x0)]) [0, 1] rfl ?_
    have hm : sC_Wds_takeWord_p119 l D kA u w tx σ [x0, 1] (σf, rf, _) := ih tC_Wds_takeWord_p119 _ _ _ h
    exact hm _ _ rfl htx p e s m args below meth c F Lo σ0 hF hLo C
set_option maxHeartbeats 4000000 in
set_option maxRecDepth 100000 in
theorem oC_Wds_takeWord_p119 (l : Launch) (D : va_G) (kA : Nat → ClassId) (u w : Nat → Nat) (tx : Value) (rec : mF) (ih : ∀ t σ xs res, rec t σ xs = some res → cSem l D kA u w tx t σ xs res) (σ : mS) (xs : List Int32) (res : mR) (h : u_2 (kC_Wds_takeWord_p119 rec σ) xs = some res) : sC_Wds_takeWord_p119 l D kA u w tx σ xs res := by
  intro x0 x1 hxs htx
  subst hxs
  obtain ⟨σf, rf, dd⟩ := res
  have h : (if (σ.1 3204) ≤ 31 then (if x1 = 0 then (rec tC_Wds_takeWord_p143 σ [x0, x1, 2]) else (rec tC_Wds_takeWord_p143 σ [x0, x1, 3])) else (rec tC_Wds_takeWord_p143 σ [x0, x1, 1])) = some (σf, rf, dd) := h
  intro p e s m args below meth c F Lo σ0 hF hLo C
  dsimp only at hF hLo ⊢
  refine ax_istore_n (pc := 119) C d_Wds_takeWord_119 rfl (Nat.le_of_ble_eq_true rfl) ([(2, .int x1), (0, .ref (u 32)), (1, .int x0)]) rfl ?_
  refine ax_aload_n (pc := 120) C d_Wds_takeWord_120 rfl 1 rfl ?_
  refine ax_aload_n (pc := 121) C d_Wds_takeWord_121 rfl 1 rfl ?_
  refine cg_32_4_Wds_39 (pc := 122) C d_Wds_takeWord_122 ?_
  refine ax_bipush (pc := 125) C 31 d_Wds_takeWord_125 (by decide +kernel) ?_
  refine ax_icmp_le (pc := 127) C 134 d_Wds_takeWord_127 (by decide) (fun hc => ?_) (fun hc => ?_)
  · have h := it_t hc h
    refine ax_iload_n (pc := 134) C d_Wds_takeWord_134 rfl 0 rfl ?_
    refine ax_if_eq (pc := 135) C 142 d_Wds_takeWord_135 (by decide) (fun hc => ?_) (fun hc => ?_)
    · have h := it_t hc h
      refine ax_iconst (pc := 142) C 2 d_Wds_takeWord_142 (by decide +kernel) ?_
      refine ax_ls ([(0, .ref (u 32)), (1, .int x0), (2, .int x1)]) [1, 2, 0] rfl ?_
      have hm : sC_Wds_takeWord_p143 l D kA u w tx σ [x0, x1, 2] (σf, rf, _) := ih tC_Wds_takeWord_p143 _ _ _ h
      exact hm _ _ _ rfl htx p e s m args below meth c F Lo σ0 hF hLo C
    · have h := it_f hc h
      refine ax_iconst (pc := 138) C 3 d_Wds_takeWord_138 (by decide +kernel) ?_
      refine ax_goto (pc := 139) C 143 d_Wds_takeWord_139 (by decide) ?_
      refine ax_ls ([(0, .ref (u 32)), (1, .int x0), (2, .int x1)]) [1, 2, 0] rfl ?_
      have hm : sC_Wds_takeWord_p143 l D kA u w tx σ [x0, x1, 3] (σf, rf, _) := ih tC_Wds_takeWord_p143 _ _ _ h
      exact hm _ _ _ rfl htx p e s m args below meth c F Lo σ0 hF hLo C
  · have h := it_f hc h
    refine ax_iconst (pc := 130) C 1 d_Wds_takeWord_130 (by decide +kernel) ?_
    refine ax_goto (pc := 131) C 143 d_Wds_takeWord_131 (by decide) ?_
    refine ax_ls ([(0, .ref (u 32)), (1, .int x0), (2, .int x1)]) [1, 2, 0] rfl ?_
    have hm : sC_Wds_takeWord_p143 l D kA u w tx σ [x0, x1, 1] (σf, rf, _) := ih tC_Wds_takeWord_p143 _ _ _ h
    exact hm _ _ _ rfl htx p e s m args below meth c F Lo σ0 hF hLo C
set_option maxHeartbeats 4000000 in
set_option maxRecDepth 100000 in
theorem oC_Wds_takeWord_p143 (l : Launch) (D : va_G) (kA : Nat → ClassId) (u w : Nat → Nat) (tx : Value) (rec : mF) (ih : ∀ t σ xs res, rec t σ xs = some res → cSem l D kA u w tx t σ xs res) (σ : mS) (xs : List Int32) (res : mR) (h : u_3 (kC_Wds_takeWord_p143 rec σ) xs = some res) : sC_Wds_takeWord_p143 l D kA u w tx σ xs res := by
  intro x0 x1 x2 hxs htx
  subst hxs
  obtain ⟨σf, rf, dd⟩ := res
  have h : (lt_ (mI σ 3202 x2) (fun σ1 => some (σ1, 0, 0))) = some (σf, rf, dd) := h
  intro p e s m args below meth c F Lo σ0 hF hLo C
  dsimp only at hF hLo ⊢
  refine cq_32_2_Wds_28 (pc := 143) C d_Wds_takeWord_143 ?_
  have h := it_l h
  generalize mI σ 3202 x2 = σ1 at h ⊢
  cases h
  exact ax_vret (pc := 146) C d_Wds_takeWord_146 rfl (Nat.le_refl _) (Nat.le_refl _)
set_option maxHeartbeats 4000000 in
set_option maxRecDepth 100000 in
theorem oC_Integer_numberOfTrailingZeros (l : Launch) (D : va_G) (kA : Nat → ClassId) (u w : Nat → Nat) (tx : Value) (rec : mF) (ih : ∀ t σ xs res, rec t σ xs = some res → cSem l D kA u w tx t σ xs res) (σ : mS) (xs : List Int32) (res : mR) (h : u_1 (kC_Integer_numberOfTrailingZeros rec σ) xs = some res) : sC_Integer_numberOfTrailingZeros l D kA u w tx σ xs res := by
  intro x0 hxs
  subst hxs
  obtain ⟨σf, rf, dd⟩ := res
  have h : (if 0 < ((((x0 : Int32) ^^^ (-1)) : Int32) &&& ((x0 : Int32) - 1)) then (if ((((x0 : Int32) ^^^ (-1)) : Int32) &&& ((x0 : Int32) - 1)) ≤ 65536 then (rec tC_Integer_numberOfTrailingZeros_p34 σ [((((x0 : Int32) ^^^ (-1)) : Int32) &&& ((x0 : Int32) - 1)), 1]) else (rec tC_Integer_numberOfTrailingZeros_p34 σ [(((((((x0 : Int32) ^^^ (-1)) : Int32) &&& ((x0 : Int32) - 1)) : Int32).toUInt32 >>> ((16 : Int32).toUInt32 &&& Int32.toUInt32 31)).toInt32), (1 + 16)])) else (some (σ, ((((((x0 : Int32) ^^^ (-1)) : Int32) &&& ((x0 : Int32) - 1)) : Int32) &&& 32), 0))) = some (σf, rf, dd) := h
  refine ax_Mi.of (by decide +kernel) (Nat.le_of_ble_eq_true rfl) ?_
  intro p e s m args below meth c C hnm
  have C : ax_C p s m args meth c b_Integer_numberOfTrailingZeros "java/lang/Integer" 2 (some .int) D kA (va_A (cpW kA u w tx σ) s.heap.size) := C
  obtain ⟨F, hFe⟩ : ∃ F, F = dd + 1 := ⟨_, rfl⟩
  obtain ⟨Lo, hLoe⟩ : ∃ Lo, Lo = 48 * dd + 48 := ⟨_, rfl⟩
  obtain ⟨σ0, hσ0⟩ : ∃ s0, s0 = σ := ⟨_, rfl⟩
  suffices K : AW p l e { frames := F, cells := 0, slots := 0, locals := Lo } s m args below meth c D kA (va_A (cpW kA u w tx σ0) s.heap.size) 2 (ax_Qi below args s D kA (cpW kA u w tx σ0) 0 0 (fun r w1 => r = rf ∧ w1 = cpW kA u w tx σf)) 0 [(0, .int x0)] [] (cpW kA u w tx σ) 0 0 by rw [hFe, hLoe, hσ0] at K; exact ax_ls ([(0, .int x0)]) [0] rfl K
  have C : ax_C p s m args meth c b_Integer_numberOfTrailingZeros "java/lang/Integer" 2 (some .int) D kA (va_A (cpW kA u w tx σ0) s.heap.size) := by rw [hσ0]; exact C
  have hF : dd + 1 ≤ F := by omega
  have hLo : 48 * dd + 48 ≤ Lo := by omega
  clear hFe hLoe hσ0
  refine ax_iload_n (pc := 0) C d_Integer_numberOfTrailingZeros_0 rfl 0 rfl ?_
  refine ax_iconst (pc := 1) C (-1) d_Integer_numberOfTrailingZeros_1 (by decide +kernel) ?_
  refine ax_ixor (pc := 2) C d_Integer_numberOfTrailingZeros_2 ?_
  refine ax_iload_n (pc := 3) C d_Integer_numberOfTrailingZeros_3 rfl 0 rfl ?_
  refine ax_iconst (pc := 4) C 1 d_Integer_numberOfTrailingZeros_4 (by decide +kernel) ?_
  refine ax_isub (pc := 5) C d_Integer_numberOfTrailingZeros_5 ?_
  refine ax_iand (pc := 6) C d_Integer_numberOfTrailingZeros_6 ?_
  refine ax_istore_n (pc := 7) C d_Integer_numberOfTrailingZeros_7 rfl (Nat.le_of_ble_eq_true rfl) ([(0, .int ((((x0 : Int32) ^^^ (-1)) : Int32) &&& ((x0 : Int32) - 1)))]) rfl ?_
  refine ax_iload_n (pc := 8) C d_Integer_numberOfTrailingZeros_8 rfl 0 rfl ?_
  refine ax_if_gt (pc := 9) C 17 d_Integer_numberOfTrailingZeros_9 (by decide) (fun hc => ?_) (fun hc => ?_)
  · have h := it_t hc h
    refine ax_iconst (pc := 17) C 1 d_Integer_numberOfTrailingZeros_17 (by decide +kernel) ?_
    refine ax_istore_n (pc := 18) C d_Integer_numberOfTrailingZeros_18 rfl (Nat.le_of_ble_eq_true rfl) ([(1, .int 1), (0, .int ((((x0 : Int32) ^^^ (-1)) : Int32) &&& ((x0 : Int32) - 1)))]) rfl ?_
    refine ax_iload_n (pc := 19) C d_Integer_numberOfTrailingZeros_19 rfl 1 rfl ?_
    refine ax_ldcw (pc := 20) C tb_constant_1227 d_Integer_numberOfTrailingZeros_20 ?_
    refine ax_icmp_le (pc := 23) C 34 d_Integer_numberOfTrailingZeros_23 (by decide) (fun hc => ?_) (fun hc => ?_)
    · have h := it_t hc h
      refine ax_ls ([(0, .int ((((x0 : Int32) ^^^ (-1)) : Int32) &&& ((x0 : Int32) - 1))), (1, .int 1)]) [1, 0] rfl ?_
      have hm : sC_Integer_numberOfTrailingZeros_p34 l D kA u w tx σ [((((x0 : Int32) ^^^ (-1)) : Int32) &&& ((x0 : Int32) - 1)), 1] (σf, rf, _) := ih tC_Integer_numberOfTrailingZeros_p34 _ _ _ h
      exact hm _ _ rfl p e s m args below meth c F Lo σ0 hF hLo C
    · have h := it_f hc h
      refine ax_iinc (pc := 26) C (1 + 16) d_Integer_numberOfTrailingZeros_26 0 rfl rfl (Nat.le_of_ble_eq_true rfl) ([(1, .int (1 + 16)), (0, .int ((((x0 : Int32) ^^^ (-1)) : Int32) &&& ((x0 : Int32) - 1)))]) rfl ?_
      refine ax_iload_n (pc := 29) C d_Integer_numberOfTrailingZeros_29 rfl 1 rfl ?_
      refine ax_bipush (pc := 30) C 16 d_Integer_numberOfTrailingZeros_30 (by decide +kernel) ?_
      refine ax_iushr (pc := 32) C (((((((x0 : Int32) ^^^ (-1)) : Int32) &&& ((x0 : Int32) - 1)) : Int32).toUInt32 >>> ((16 : Int32).toUInt32 &&& Int32.toUInt32 31)).toInt32) d_Integer_numberOfTrailingZeros_32 rfl ?_
      refine ax_istore_n (pc := 33) C d_Integer_numberOfTrailingZeros_33 rfl (Nat.le_of_ble_eq_true rfl) ([(0, .int (((((((x0 : Int32) ^^^ (-1)) : Int32) &&& ((x0 : Int32) - 1)) : Int32).toUInt32 >>> ((16 : Int32).toUInt32 &&& Int32.toUInt32 31)).toInt32)), (1, .int (1 + 16))]) rfl ?_
      refine ax_ls ([(0, .int (((((((x0 : Int32) ^^^ (-1)) : Int32) &&& ((x0 : Int32) - 1)) : Int32).toUInt32 >>> ((16 : Int32).toUInt32 &&& Int32.toUInt32 31)).toInt32)), (1, .int (1 + 16))]) [0, 1] rfl ?_
      have hm : sC_Integer_numberOfTrailingZeros_p34 l D kA u w tx σ [(((((((x0 : Int32) ^^^ (-1)) : Int32) &&& ((x0 : Int32) - 1)) : Int32).toUInt32 >>> ((16 : Int32).toUInt32 &&& Int32.toUInt32 31)).toInt32), (1 + 16)] (σf, rf, _) := ih tC_Integer_numberOfTrailingZeros_p34 _ _ _ h
      exact hm _ _ rfl p e s m args below meth c F Lo σ0 hF hLo C
  · have h := it_f hc h
    refine ax_iload_n (pc := 12) C d_Integer_numberOfTrailingZeros_12 rfl 0 rfl ?_
    refine ax_bipush (pc := 13) C 32 d_Integer_numberOfTrailingZeros_13 (by decide +kernel) ?_
    refine ax_iand (pc := 15) C d_Integer_numberOfTrailingZeros_15 ?_
    cases h
    exact ax_iret (pc := 16) C d_Integer_numberOfTrailingZeros_16 ⟨rfl, rfl⟩ (Nat.le_refl _) (Nat.le_refl _)
set_option maxHeartbeats 4000000 in
set_option maxRecDepth 100000 in
theorem oC_Integer_numberOfTrailingZeros_p34 (l : Launch) (D : va_G) (kA : Nat → ClassId) (u w : Nat → Nat) (tx : Value) (rec : mF) (ih : ∀ t σ xs res, rec t σ xs = some res → cSem l D kA u w tx t σ xs res) (σ : mS) (xs : List Int32) (res : mR) (h : u_2 (kC_Integer_numberOfTrailingZeros_p34 rec σ) xs = some res) : sC_Integer_numberOfTrailingZeros_p34 l D kA u w tx σ xs res := by
  intro x0 x1 hxs
  subst hxs
  obtain ⟨σf, rf, dd⟩ := res
  have h : (if x0 ≤ 256 then (rec tC_Integer_numberOfTrailingZeros_p49 σ [x0, x1]) else (rec tC_Integer_numberOfTrailingZeros_p49 σ [(((x0 : Int32).toUInt32 >>> ((8 : Int32).toUInt32 &&& Int32.toUInt32 31)).toInt32), (x1 + 8)])) = some (σf, rf, dd) := h
  intro p e s m args below meth c F Lo σ0 hF hLo C
  dsimp only at hF hLo ⊢
  refine ax_iload_n (pc := 34) C d_Integer_numberOfTrailingZeros_34 rfl 0 rfl ?_
  refine ax_sipush (pc := 35) C 256 d_Integer_numberOfTrailingZeros_35 (by decide +kernel) ?_
  refine ax_icmp_le (pc := 38) C 49 d_Integer_numberOfTrailingZeros_38 (by decide) (fun hc => ?_) (fun hc => ?_)
  · have h := it_t hc h
    refine ax_ls ([(0, .int x0), (1, .int x1)]) [0, 1] rfl ?_
    have hm : sC_Integer_numberOfTrailingZeros_p49 l D kA u w tx σ [x0, x1] (σf, rf, _) := ih tC_Integer_numberOfTrailingZeros_p49 _ _ _ h
    exact hm _ _ rfl p e s m args below meth c F Lo σ0 hF hLo C
  · have h := it_f hc h
    refine ax_iinc (pc := 41) C (x1 + 8) d_Integer_numberOfTrailingZeros_41 1 rfl rfl (Nat.le_of_ble_eq_true rfl) ([(1, .int (x1 + 8)), (0, .int x0)]) rfl ?_
    refine ax_iload_n (pc := 44) C d_Integer_numberOfTrailingZeros_44 rfl 1 rfl ?_
    refine ax_bipush (pc := 45) C 8 d_Integer_numberOfTrailingZeros_45 (by decide +kernel) ?_
    refine ax_iushr (pc := 47) C (((x0 : Int32).toUInt32 >>> ((8 : Int32).toUInt32 &&& Int32.toUInt32 31)).toInt32) d_Integer_numberOfTrailingZeros_47 rfl ?_
    refine ax_istore_n (pc := 48) C d_Integer_numberOfTrailingZeros_48 rfl (Nat.le_of_ble_eq_true rfl) ([(0, .int (((x0 : Int32).toUInt32 >>> ((8 : Int32).toUInt32 &&& Int32.toUInt32 31)).toInt32)), (1, .int (x1 + 8))]) rfl ?_
    refine ax_ls ([(0, .int (((x0 : Int32).toUInt32 >>> ((8 : Int32).toUInt32 &&& Int32.toUInt32 31)).toInt32)), (1, .int (x1 + 8))]) [0, 1] rfl ?_
    have hm : sC_Integer_numberOfTrailingZeros_p49 l D kA u w tx σ [(((x0 : Int32).toUInt32 >>> ((8 : Int32).toUInt32 &&& Int32.toUInt32 31)).toInt32), (x1 + 8)] (σf, rf, _) := ih tC_Integer_numberOfTrailingZeros_p49 _ _ _ h
    exact hm _ _ rfl p e s m args below meth c F Lo σ0 hF hLo C
set_option maxHeartbeats 4000000 in
set_option maxRecDepth 100000 in
theorem oC_Integer_numberOfTrailingZeros_p49 (l : Launch) (D : va_G) (kA : Nat → ClassId) (u w : Nat → Nat) (tx : Value) (rec : mF) (ih : ∀ t σ xs res, rec t σ xs = some res → cSem l D kA u w tx t σ xs res) (σ : mS) (xs : List Int32) (res : mR) (h : u_2 (kC_Integer_numberOfTrailingZeros_p49 rec σ) xs = some res) : sC_Integer_numberOfTrailingZeros_p49 l D kA u w tx σ xs res := by
  intro x0 x1 hxs
  subst hxs
  obtain ⟨σf, rf, dd⟩ := res
  have h : (if x0 ≤ 16 then (rec tC_Integer_numberOfTrailingZeros_p62 σ [x0, x1]) else (rec tC_Integer_numberOfTrailingZeros_p62 σ [(((x0 : Int32).toUInt32 >>> ((4 : Int32).toUInt32 &&& Int32.toUInt32 31)).toInt32), (x1 + 4)])) = some (σf, rf, dd) := h
  intro p e s m args below meth c F Lo σ0 hF hLo C
  dsimp only at hF hLo ⊢
  refine ax_iload_n (pc := 49) C d_Integer_numberOfTrailingZeros_49 rfl 0 rfl ?_
  refine ax_bipush (pc := 50) C 16 d_Integer_numberOfTrailingZeros_50 (by decide +kernel) ?_
  refine ax_icmp_le (pc := 52) C 62 d_Integer_numberOfTrailingZeros_52 (by decide) (fun hc => ?_) (fun hc => ?_)
  · have h := it_t hc h
    refine ax_ls ([(0, .int x0), (1, .int x1)]) [0, 1] rfl ?_
    have hm : sC_Integer_numberOfTrailingZeros_p62 l D kA u w tx σ [x0, x1] (σf, rf, _) := ih tC_Integer_numberOfTrailingZeros_p62 _ _ _ h
    exact hm _ _ rfl p e s m args below meth c F Lo σ0 hF hLo C
  · have h := it_f hc h
    refine ax_iinc (pc := 55) C (x1 + 4) d_Integer_numberOfTrailingZeros_55 1 rfl rfl (Nat.le_of_ble_eq_true rfl) ([(1, .int (x1 + 4)), (0, .int x0)]) rfl ?_
    refine ax_iload_n (pc := 58) C d_Integer_numberOfTrailingZeros_58 rfl 1 rfl ?_
    refine ax_iconst (pc := 59) C 4 d_Integer_numberOfTrailingZeros_59 (by decide +kernel) ?_
    refine ax_iushr (pc := 60) C (((x0 : Int32).toUInt32 >>> ((4 : Int32).toUInt32 &&& Int32.toUInt32 31)).toInt32) d_Integer_numberOfTrailingZeros_60 rfl ?_
    refine ax_istore_n (pc := 61) C d_Integer_numberOfTrailingZeros_61 rfl (Nat.le_of_ble_eq_true rfl) ([(0, .int (((x0 : Int32).toUInt32 >>> ((4 : Int32).toUInt32 &&& Int32.toUInt32 31)).toInt32)), (1, .int (x1 + 4))]) rfl ?_
    refine ax_ls ([(0, .int (((x0 : Int32).toUInt32 >>> ((4 : Int32).toUInt32 &&& Int32.toUInt32 31)).toInt32)), (1, .int (x1 + 4))]) [0, 1] rfl ?_
    have hm : sC_Integer_numberOfTrailingZeros_p62 l D kA u w tx σ [(((x0 : Int32).toUInt32 >>> ((4 : Int32).toUInt32 &&& Int32.toUInt32 31)).toInt32), (x1 + 4)] (σf, rf, _) := ih tC_Integer_numberOfTrailingZeros_p62 _ _ _ h
    exact hm _ _ rfl p e s m args below meth c F Lo σ0 hF hLo C
set_option maxHeartbeats 4000000 in
set_option maxRecDepth 100000 in
theorem oC_Integer_numberOfTrailingZeros_p62 (l : Launch) (D : va_G) (kA : Nat → ClassId) (u w : Nat → Nat) (tx : Value) (rec : mF) (ih : ∀ t σ xs res, rec t σ xs = some res → cSem l D kA u w tx t σ xs res) (σ : mS) (xs : List Int32) (res : mR) (h : u_2 (kC_Integer_numberOfTrailingZeros_p62 rec σ) xs = some res) : sC_Integer_numberOfTrailingZeros_p62 l D kA u w tx σ xs res := by
  intro x0 x1 hxs
  subst hxs
  obtain ⟨σf, rf, dd⟩ := res
  have h : (if x0 ≤ 4 then (rec tC_Integer_numberOfTrailingZeros_p74 σ [x0, x1]) else (rec tC_Integer_numberOfTrailingZeros_p74 σ [(((x0 : Int32).toUInt32 >>> ((2 : Int32).toUInt32 &&& Int32.toUInt32 31)).toInt32), (x1 + 2)])) = some (σf, rf, dd) := h
  intro p e s m args below meth c F Lo σ0 hF hLo C
  dsimp only at hF hLo ⊢
  refine ax_iload_n (pc := 62) C d_Integer_numberOfTrailingZeros_62 rfl 0 rfl ?_
  refine ax_iconst (pc := 63) C 4 d_Integer_numberOfTrailingZeros_63 (by decide +kernel) ?_
  refine ax_icmp_le (pc := 64) C 74 d_Integer_numberOfTrailingZeros_64 (by decide) (fun hc => ?_) (fun hc => ?_)
  · have h := it_t hc h
    refine ax_ls ([(0, .int x0), (1, .int x1)]) [0, 1] rfl ?_
    have hm : sC_Integer_numberOfTrailingZeros_p74 l D kA u w tx σ [x0, x1] (σf, rf, _) := ih tC_Integer_numberOfTrailingZeros_p74 _ _ _ h
    exact hm _ _ rfl p e s m args below meth c F Lo σ0 hF hLo C
  · have h := it_f hc h
    refine ax_iinc (pc := 67) C (x1 + 2) d_Integer_numberOfTrailingZeros_67 1 rfl rfl (Nat.le_of_ble_eq_true rfl) ([(1, .int (x1 + 2)), (0, .int x0)]) rfl ?_
    refine ax_iload_n (pc := 70) C d_Integer_numberOfTrailingZeros_70 rfl 1 rfl ?_
    refine ax_iconst (pc := 71) C 2 d_Integer_numberOfTrailingZeros_71 (by decide +kernel) ?_
    refine ax_iushr (pc := 72) C (((x0 : Int32).toUInt32 >>> ((2 : Int32).toUInt32 &&& Int32.toUInt32 31)).toInt32) d_Integer_numberOfTrailingZeros_72 rfl ?_
    refine ax_istore_n (pc := 73) C d_Integer_numberOfTrailingZeros_73 rfl (Nat.le_of_ble_eq_true rfl) ([(0, .int (((x0 : Int32).toUInt32 >>> ((2 : Int32).toUInt32 &&& Int32.toUInt32 31)).toInt32)), (1, .int (x1 + 2))]) rfl ?_
    refine ax_ls ([(0, .int (((x0 : Int32).toUInt32 >>> ((2 : Int32).toUInt32 &&& Int32.toUInt32 31)).toInt32)), (1, .int (x1 + 2))]) [0, 1] rfl ?_
    have hm : sC_Integer_numberOfTrailingZeros_p74 l D kA u w tx σ [(((x0 : Int32).toUInt32 >>> ((2 : Int32).toUInt32 &&& Int32.toUInt32 31)).toInt32), (x1 + 2)] (σf, rf, _) := ih tC_Integer_numberOfTrailingZeros_p74 _ _ _ h
    exact hm _ _ rfl p e s m args below meth c F Lo σ0 hF hLo C
set_option maxHeartbeats 4000000 in
set_option maxRecDepth 100000 in
theorem oC_Integer_numberOfTrailingZeros_p74 (l : Launch) (D : va_G) (kA : Nat → ClassId) (u w : Nat → Nat) (tx : Value) (rec : mF) (ih : ∀ t σ xs res, rec t σ xs = some res → cSem l D kA u w tx t σ xs res) (σ : mS) (xs : List Int32) (res : mR) (h : u_2 (kC_Integer_numberOfTrailingZeros_p74 rec σ) xs = some res) : sC_Integer_numberOfTrailingZeros_p74 l D kA u w tx σ xs res := by
  intro x0 x1 hxs
  subst hxs
  obtain ⟨σf, rf, dd⟩ := res
  have h : (some (σ, ((x1 : Int32) + (((x0 : Int32).toUInt32 >>> ((1 : Int32).toUInt32 &&& Int32.toUInt32 31)).toInt32)), 0)) = some (σf, rf, dd) := h
  intro p e s m args below meth c F Lo σ0 hF hLo C
  dsimp only at hF hLo ⊢
  refine ax_iload_n (pc := 74) C d_Integer_numberOfTrailingZeros_74 rfl 1 rfl ?_
  refine ax_iload_n (pc := 75) C d_Integer_numberOfTrailingZeros_75 rfl 0 rfl ?_
  refine ax_iconst (pc := 76) C 1 d_Integer_numberOfTrailingZeros_76 (by decide +kernel) ?_
  refine ax_iushr (pc := 77) C (((x0 : Int32).toUInt32 >>> ((1 : Int32).toUInt32 &&& Int32.toUInt32 31)).toInt32) d_Integer_numberOfTrailingZeros_77 rfl ?_
  refine ax_iadd (pc := 78) C d_Integer_numberOfTrailingZeros_78 ?_
  cases h
  exact ax_iret (pc := 79) C d_Integer_numberOfTrailingZeros_79 ⟨rfl, rfl⟩ (Nat.le_refl _) (Nat.le_refl _)
