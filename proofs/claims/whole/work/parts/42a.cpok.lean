set_option maxHeartbeats 4000000 in
set_option maxRecDepth 100000 in
theorem oC_CP_count (l : Launch) (D : va_G) (kA : Nat → ClassId) (u w : Nat → Nat) (tx : Value) (rec : mF) (ih : ∀ t σ xs res, rec t σ xs = some res → cSem l D kA u w tx t σ xs res) (σ : mS) (xs : List Int32) (res : mR) (h : u_1 (kC_CP_count rec σ) xs = some res) : sC_CP_count l D kA u w tx σ xs res := by
  intro x0 hxs
  subst hxs
  obtain ⟨σf, rf, dd⟩ := res
  have h : (if (x0 : Int32).toInt < 0 ∨ 13 < (x0 : Int32).toInt then (some (σ, (-1), 0)) else (if (x0 : Int32) = 0 then (some (σ, (σ.1 5402), 0)) else (if (x0 : Int32) = 1 then (some (σ, (σ.1 5403), 0)) else (if (x0 : Int32) = 2 then (bnd (rec tC_Sto_howMany σ [0]) (fun σ1 r1 => some (σ1, r1, 0))) else (if (x0 : Int32) = 3 then (bnd (rec tC_Sto_howMany σ [1]) (fun σ2 r2 => some (σ2, r2, 0))) else (if (x0 : Int32) = 4 then (some (σ, (σ.1 5301), 0)) else (if (x0 : Int32) = 5 then (some (σ, (σ.1 5302), 0)) else (if (x0 : Int32) = 6 then (some (σ, (σ.1 5303), 0)) else (if (x0 : Int32) = 7 then (some (σ, (σ.1 5304), 0)) else (if (x0 : Int32) = 8 then (some (σ, (σ.1 5305), 0)) else (if (x0 : Int32) = 9 then (some (σ, (σ.1 5306), 0)) else (if (x0 : Int32) = 10 then (some (σ, (σ.1 5300), 0)) else (if (x0 : Int32) = 11 then (some (σ, (σ.1 605), 0)) else (if (x0 : Int32) = 12 then (some (σ, (σ.1 101), 0)) else (some (σ, (σ.1 301), 0)))))))))))))))) = some (σf, rf, dd) := h
  refine ax_Mi.of (by decide +kernel) (Nat.le_of_ble_eq_true rfl) ?_
  intro p e s m args below meth c C hnm
  have C : ax_C p s m args meth c b_CP_count "ClauseProver" 2 (some .int) D kA (va_A (cpW kA u w tx σ) s.heap.size) := C
  obtain ⟨F, hFe⟩ : ∃ F, F = dd + 1 := ⟨_, rfl⟩
  obtain ⟨Lo, hLoe⟩ : ∃ Lo, Lo = 48 * dd + 48 := ⟨_, rfl⟩
  obtain ⟨σ0, hσ0⟩ : ∃ s0, s0 = σ := ⟨_, rfl⟩
  suffices K : AW p l e { frames := F, cells := 0, slots := 0, locals := Lo } s m args below meth c D kA (va_A (cpW kA u w tx σ0) s.heap.size) 2 (ax_Qi below args s D kA (cpW kA u w tx σ0) 0 0 (fun r w1 => r = rf ∧ w1 = cpW kA u w tx σf)) 0 [(0, .ref (u 0)), (1, .int x0)] [] (cpW kA u w tx σ) 0 0 by rw [hFe, hLoe, hσ0] at K; exact ax_ls ([(0, .ref (u 0)), (1, .int x0)]) [0, 1] rfl K
  have C : ax_C p s m args meth c b_CP_count "ClauseProver" 2 (some .int) D kA (va_A (cpW kA u w tx σ0) s.heap.size) := by rw [hσ0]; exact C
  have hF : dd + 1 ≤ F := by omega
  have hLo : 48 * dd + 48 ≤ Lo := by omega
  clear hFe hLoe hσ0
  refine ax_iload_n (pc := 0) C d_CP_count_0 rfl 1 rfl ?_
  by_cases hr : (x0 : Int32).toInt < 0 ∨ 13 < (x0 : Int32).toInt
  · have h := it_t hr h
    refine ax_tableOut (pc := 1) C 186 d_CP_count_1 hr (by decide) ?_
    refine ax_iconst (pc := 186) C (-1) d_CP_count_186 (by decide +kernel) ?_
    cases h
    exact ax_iret (pc := 187) C d_CP_count_187 ⟨rfl, rfl⟩ (Nat.le_refl _) (Nat.le_refl _)
  · have h := it_f hr h
    by_cases hv : (x0 : Int32) = 0
    · have h := it_t hv h
      refine ax_tableIn (pc := 1) C 72 d_CP_count_1 (by omega) (by omega) (by rw [hv]; rfl) (by decide) ?_
      refine ax_aload_n (pc := 72) C d_CP_count_72 rfl 0 rfl ?_
      refine cg_0_7_CP_60 (pc := 73) C d_CP_count_73 ?_
      refine cg_54_2_CP_134 (pc := 76) C d_CP_count_76 ?_
      cases h
      exact ax_iret (pc := 79) C d_CP_count_79 ⟨rfl, rfl⟩ (Nat.le_refl _) (Nat.le_refl _)
    · have h := it_f hv h
      have hn0 : ¬ (x0 : Int32).toInt = 0 := fun q => hv (i32q (by rw [q]; rfl))
      by_cases hv : (x0 : Int32) = 1
      · have h := it_t hv h
        refine ax_tableIn (pc := 1) C 80 d_CP_count_1 (by omega) (by omega) (by rw [hv]; rfl) (by decide) ?_
        refine ax_aload_n (pc := 80) C d_CP_count_80 rfl 0 rfl ?_
        refine cg_0_7_CP_60 (pc := 81) C d_CP_count_81 ?_
        refine cg_54_3_CP_135 (pc := 84) C d_CP_count_84 ?_
        cases h
        exact ax_iret (pc := 87) C d_CP_count_87 ⟨rfl, rfl⟩ (Nat.le_refl _) (Nat.le_refl _)
      · have h := it_f hv h
        have hn1 : ¬ (x0 : Int32).toInt = 1 := fun q => hv (i32q (by rw [q]; rfl))
        by_cases hv : (x0 : Int32) = 2
        · have h := it_t hv h
          refine ax_tableIn (pc := 1) C 88 d_CP_count_1 (by omega) (by omega) (by rw [hv]; rfl) (by decide) ?_
          refine ax_aload_n (pc := 88) C d_CP_count_88 rfl 0 rfl ?_
          refine cg_0_7_CP_60 (pc := 89) C d_CP_count_89 ?_
          refine ax_iconst (pc := 92) C 0 d_CP_count_92 (by decide +kernel) ?_
          obtain ⟨σ1, r1, d1_1, d2_1, h1, h, hd2, hd1⟩ := it_b h
          have hm : sC_Sto_howMany l D kA u w tx σ [0] (σ1, r1, d1_1) := ih tC_Sto_howMany _ _ _ h1
          refine cc_Vi (pc := 93) C (r0 := r1) (σ2 := σ1) (As := [.int 0]) (rest := []) (hm _ rfl) ml_CP_280 54 rfl rfl rfl d_CP_count_93 rfl rfl (by dsimp only; omega) (by dsimp only; omega) (Nat.le_of_ble_eq_true rfl) (Nat.le_of_ble_eq_true rfl) (Nat.le_of_ble_eq_true rfl) ?_
          have hF : d2_1 + 1 ≤ F := by omega
          have hLo : 48 * d2_1 + 48 ≤ Lo := by omega
          cases h
          exact ax_iret (pc := 96) C d_CP_count_96 ⟨rfl, rfl⟩ (Nat.le_refl _) (Nat.le_refl _)
        · have h := it_f hv h
          have hn2 : ¬ (x0 : Int32).toInt = 2 := fun q => hv (i32q (by rw [q]; rfl))
          by_cases hv : (x0 : Int32) = 3
          · have h := it_t hv h
            refine ax_tableIn (pc := 1) C 97 d_CP_count_1 (by omega) (by omega) (by rw [hv]; rfl) (by decide) ?_
            refine ax_aload_n (pc := 97) C d_CP_count_97 rfl 0 rfl ?_
            refine cg_0_7_CP_60 (pc := 98) C d_CP_count_98 ?_
            refine ax_iconst (pc := 101) C 1 d_CP_count_101 (by decide +kernel) ?_
            obtain ⟨σ2, r2, d1_2, d2_2, h1, h, hd2, hd1⟩ := it_b h
            have hm : sC_Sto_howMany l D kA u w tx σ [1] (σ2, r2, d1_2) := ih tC_Sto_howMany _ _ _ h1
            refine cc_Vi (pc := 102) C (r0 := r2) (σ2 := σ2) (As := [.int 1]) (rest := []) (hm _ rfl) ml_CP_280 54 rfl rfl rfl d_CP_count_102 rfl rfl (by dsimp only; omega) (by dsimp only; omega) (Nat.le_of_ble_eq_true rfl) (Nat.le_of_ble_eq_true rfl) (Nat.le_of_ble_eq_true rfl) ?_
            have hF : d2_2 + 1 ≤ F := by omega
            have hLo : 48 * d2_2 + 48 ≤ Lo := by omega
            cases h
            exact ax_iret (pc := 105) C d_CP_count_105 ⟨rfl, rfl⟩ (Nat.le_refl _) (Nat.le_refl _)
          · have h := it_f hv h
            have hn3 : ¬ (x0 : Int32).toInt = 3 := fun q => hv (i32q (by rw [q]; rfl))
            by_cases hv : (x0 : Int32) = 4
            · have h := it_t hv h
              refine ax_tableIn (pc := 1) C 106 d_CP_count_1 (by omega) (by omega) (by rw [hv]; rfl) (by decide) ?_
              refine ax_aload_n (pc := 106) C d_CP_count_106 rfl 0 rfl ?_
              refine cg_0_8_CP_69 (pc := 107) C d_CP_count_107 ?_
              refine cg_53_1_CP_283 (pc := 110) C d_CP_count_110 ?_
              cases h
              exact ax_iret (pc := 113) C d_CP_count_113 ⟨rfl, rfl⟩ (Nat.le_refl _) (Nat.le_refl _)
            · have h := it_f hv h
              have hn4 : ¬ (x0 : Int32).toInt = 4 := fun q => hv (i32q (by rw [q]; rfl))
              by_cases hv : (x0 : Int32) = 5
              · have h := it_t hv h
                refine ax_tableIn (pc := 1) C 114 d_CP_count_1 (by omega) (by omega) (by rw [hv]; rfl) (by decide) ?_
                refine ax_aload_n (pc := 114) C d_CP_count_114 rfl 0 rfl ?_
                refine cg_0_8_CP_69 (pc := 115) C d_CP_count_115 ?_
                refine cg_53_2_CP_286 (pc := 118) C d_CP_count_118 ?_
                cases h
                exact ax_iret (pc := 121) C d_CP_count_121 ⟨rfl, rfl⟩ (Nat.le_refl _) (Nat.le_refl _)
              · have h := it_f hv h
                have hn5 : ¬ (x0 : Int32).toInt = 5 := fun q => hv (i32q (by rw [q]; rfl))
                by_cases hv : (x0 : Int32) = 6
                · have h := it_t hv h
                  refine ax_tableIn (pc := 1) C 122 d_CP_count_1 (by omega) (by omega) (by rw [hv]; rfl) (by decide) ?_
                  refine ax_aload_n (pc := 122) C d_CP_count_122 rfl 0 rfl ?_
                  refine cg_0_8_CP_69 (pc := 123) C d_CP_count_123 ?_
                  refine cg_53_3_CP_289 (pc := 126) C d_CP_count_126 ?_
                  cases h
                  exact ax_iret (pc := 129) C d_CP_count_129 ⟨rfl, rfl⟩ (Nat.le_refl _) (Nat.le_refl _)
                · have h := it_f hv h
                  have hn6 : ¬ (x0 : Int32).toInt = 6 := fun q => hv (i32q (by rw [q]; rfl))
                  by_cases hv : (x0 : Int32) = 7
                  · have h := it_t hv h
                    refine ax_tableIn (pc := 1) C 130 d_CP_count_1 (by omega) (by omega) (by rw [hv]; rfl) (by decide) ?_
                    refine ax_aload_n (pc := 130) C d_CP_count_130 rfl 0 rfl ?_
                    refine cg_0_8_CP_69 (pc := 131) C d_CP_count_131 ?_
                    refine cg_53_4_CP_292 (pc := 134) C d_CP_count_134 ?_
                    cases h
                    exact ax_iret (pc := 137) C d_CP_count_137 ⟨rfl, rfl⟩ (Nat.le_refl _) (Nat.le_refl _)
                  · have h := it_f hv h
                    have hn7 : ¬ (x0 : Int32).toInt = 7 := fun q => hv (i32q (by rw [q]; rfl))
                    by_cases hv : (x0 : Int32) = 8
                    · have h := it_t hv h
                      refine ax_tableIn (pc := 1) C 138 d_CP_count_1 (by omega) (by omega) (by rw [hv]; rfl) (by decide) ?_
                      refine ax_aload_n (pc := 138) C d_CP_count_138 rfl 0 rfl ?_
                      refine cg_0_8_CP_69 (pc := 139) C d_CP_count_139 ?_
                      refine cg_53_5_CP_295 (pc := 142) C d_CP_count_142 ?_
                      cases h
                      exact ax_iret (pc := 145) C d_CP_count_145 ⟨rfl, rfl⟩ (Nat.le_refl _) (Nat.le_refl _)
                    · have h := it_f hv h
                      have hn8 : ¬ (x0 : Int32).toInt = 8 := fun q => hv (i32q (by rw [q]; rfl))
                      by_cases hv : (x0 : Int32) = 9
                      · have h := it_t hv h
                        refine ax_tableIn (pc := 1) C 146 d_CP_count_1 (by omega) (by omega) (by rw [hv]; rfl) (by decide) ?_
                        refine ax_aload_n (pc := 146) C d_CP_count_146 rfl 0 rfl ?_
                        refine cg_0_8_CP_69 (pc := 147) C d_CP_count_147 ?_
                        refine cg_53_6_CP_298 (pc := 150) C d_CP_count_150 ?_
                        cases h
                        exact ax_iret (pc := 153) C d_CP_count_153 ⟨rfl, rfl⟩ (Nat.le_refl _) (Nat.le_refl _)
                      · have h := it_f hv h
                        have hn9 : ¬ (x0 : Int32).toInt = 9 := fun q => hv (i32q (by rw [q]; rfl))
                        by_cases hv : (x0 : Int32) = 10
                        · have h := it_t hv h
                          refine ax_tableIn (pc := 1) C 154 d_CP_count_1 (by omega) (by omega) (by rw [hv]; rfl) (by decide) ?_
                          refine ax_aload_n (pc := 154) C d_CP_count_154 rfl 0 rfl ?_
                          refine cg_0_8_CP_69 (pc := 155) C d_CP_count_155 ?_
                          refine cg_53_0_CP_140 (pc := 158) C d_CP_count_158 ?_
                          cases h
                          exact ax_iret (pc := 161) C d_CP_count_161 ⟨rfl, rfl⟩ (Nat.le_refl _) (Nat.le_refl _)
                        · have h := it_f hv h
                          have hn10 : ¬ (x0 : Int32).toInt = 10 := fun q => hv (i32q (by rw [q]; rfl))
                          by_cases hv : (x0 : Int32) = 11
                          · have h := it_t hv h
                            refine ax_tableIn (pc := 1) C 162 d_CP_count_1 (by omega) (by omega) (by rw [hv]; rfl) (by decide) ?_
                            refine ax_aload_n (pc := 162) C d_CP_count_162 rfl 0 rfl ?_
                            refine cg_0_3_CP_28 (pc := 163) C d_CP_count_163 ?_
                            refine cg_6_5_CP_258 (pc := 166) C d_CP_count_166 ?_
                            cases h
                            exact ax_iret (pc := 169) C d_CP_count_169 ⟨rfl, rfl⟩ (Nat.le_refl _) (Nat.le_refl _)
                          · have h := it_f hv h
                            have hn11 : ¬ (x0 : Int32).toInt = 11 := fun q => hv (i32q (by rw [q]; rfl))
                            by_cases hv : (x0 : Int32) = 12
                            · have h := it_t hv h
                              refine ax_tableIn (pc := 1) C 170 d_CP_count_1 (by omega) (by omega) (by rw [hv]; rfl) (by decide) ?_
                              refine ax_aload_n (pc := 170) C d_CP_count_170 rfl 0 rfl ?_
                              refine cg_0_0_CP_14 (pc := 171) C d_CP_count_171 ?_
                              refine cg_1_1_CP_82 (pc := 174) C d_CP_count_174 ?_
                              cases h
                              exact ax_iret (pc := 177) C d_CP_count_177 ⟨rfl, rfl⟩ (Nat.le_refl _) (Nat.le_refl _)
                            · have h := it_f hv h
                              have hn12 : ¬ (x0 : Int32).toInt = 12 := fun q => hv (i32q (by rw [q]; rfl))
                              have hv : (x0 : Int32) = 13 := i32q (by have e9 : (13 : Int32).toInt = 13 := rfl; omega)
                              refine ax_tableIn (pc := 1) C 178 d_CP_count_1 (by omega) (by omega) (by rw [hv]; rfl) (by decide) ?_
                              refine ax_aload_n (pc := 178) C d_CP_count_178 rfl 0 rfl ?_
                              refine cg_0_1_CP_18 (pc := 179) C d_CP_count_179 ?_
                              refine cg_3_1_CP_82 (pc := 182) C d_CP_count_182 ?_
                              cases h
                              exact ax_iret (pc := 185) C d_CP_count_185 ⟨rfl, rfl⟩ (Nat.le_refl _) (Nat.le_refl _)
set_option maxHeartbeats 4000000 in
set_option maxRecDepth 100000 in
theorem oC_CP_fault (l : Launch) (D : va_G) (kA : Nat → ClassId) (u w : Nat → Nat) (tx : Value) (rec : mF) (ih : ∀ t σ xs res, rec t σ xs = some res → cSem l D kA u w tx t σ xs res) (σ : mS) (xs : List Int32) (res : mR) (h : u_1 (kC_CP_fault rec σ) xs = some res) : sC_CP_fault l D kA u w tx σ xs res := by
  intro x0 hxs
  subst hxs
  obtain ⟨σf, rf, dd⟩ := res
  have h : (if x0 = 0 then (some (σ, (σ.1 10), 0)) else (if x0 = 1 then (rec tC_CP_fault_p22 σ [x0, (σ.1 11)]) else (rec tC_CP_fault_p22 σ [x0, (-1)]))) = some (σf, rf, dd) := h
  refine ax_Mi.of (by decide +kernel) (Nat.le_of_ble_eq_true rfl) ?_
  intro p e s m args below meth c C hnm
  have C : ax_C p s m args meth c b_CP_fault "ClauseProver" 2 (some .int) D kA (va_A (cpW kA u w tx σ) s.heap.size) := C
  obtain ⟨F, hFe⟩ : ∃ F, F = dd + 1 := ⟨_, rfl⟩
  obtain ⟨Lo, hLoe⟩ : ∃ Lo, Lo = 48 * dd + 48 := ⟨_, rfl⟩
  obtain ⟨σ0, hσ0⟩ : ∃ s0, s0 = σ := ⟨_, rfl⟩
  suffices K : AW p l e { frames := F, cells := 0, slots := 0, locals := Lo } s m args below meth c D kA (va_A (cpW kA u w tx σ0) s.heap.size) 2 (ax_Qi below args s D kA (cpW kA u w tx σ0) 0 0 (fun r w1 => r = rf ∧ w1 = cpW kA u w tx σf)) 0 [(0, .ref (u 0)), (1, .int x0)] [] (cpW kA u w tx σ) 0 0 by rw [hFe, hLoe, hσ0] at K; exact ax_ls ([(0, .ref (u 0)), (1, .int x0)]) [0, 1] rfl K
  have C : ax_C p s m args meth c b_CP_fault "ClauseProver" 2 (some .int) D kA (va_A (cpW kA u w tx σ0) s.heap.size) := by rw [hσ0]; exact C
  have hF : dd + 1 ≤ F := by omega
  have hLo : 48 * dd + 48 ≤ Lo := by omega
  clear hFe hLoe hσ0
  refine ax_iload_n (pc := 0) C d_CP_fault_0 rfl 1 rfl ?_
  refine ax_if_ne (pc := 1) C 9 d_CP_fault_1 (by decide) (fun hc => ?_) (fun hc => ?_)
  · have h := it_f hc h
    refine ax_iload_n (pc := 9) C d_CP_fault_9 rfl 1 rfl ?_
    refine ax_iconst (pc := 10) C 1 d_CP_fault_10 (by decide +kernel) ?_
    refine ax_icmp_ne (pc := 11) C 21 d_CP_fault_11 (by decide) (fun hc => ?_) (fun hc => ?_)
    · have h := it_f hc h
      refine ax_iconst (pc := 21) C (-1) d_CP_fault_21 (by decide +kernel) ?_
      refine ax_ls ([(0, .ref (u 0)), (1, .int x0)]) [0, 1] rfl ?_
      have hm : sC_CP_fault_p22 l D kA u w tx σ [x0, (-1)] (σf, rf, _) := ih tC_CP_fault_p22 _ _ _ h
      exact hm _ _ rfl p e s m args below meth c F Lo σ0 hF hLo C
    · have h := it_t hc h
      refine ax_aload_n (pc := 14) C d_CP_fault_14 rfl 0 rfl ?_
      refine cg_0_11_CP_126 (pc := 15) C d_CP_fault_15 ?_
      refine ax_goto (pc := 18) C 22 d_CP_fault_18 (by decide) ?_
      refine ax_ls ([(0, .ref (u 0)), (1, .int x0)]) [0, 1] rfl ?_
      have hm : sC_CP_fault_p22 l D kA u w tx σ [x0, (σ.1 11)] (σf, rf, _) := ih tC_CP_fault_p22 _ _ _ h
      exact hm _ _ rfl p e s m args below meth c F Lo σ0 hF hLo C
  · have h := it_t hc h
    refine ax_aload_n (pc := 4) C d_CP_fault_4 rfl 0 rfl ?_
    refine cg_0_10_CP_120 (pc := 5) C d_CP_fault_5 ?_
    cases h
    exact ax_iret (pc := 8) C d_CP_fault_8 ⟨rfl, rfl⟩ (Nat.le_refl _) (Nat.le_refl _)
set_option maxHeartbeats 4000000 in
set_option maxRecDepth 100000 in
theorem oC_CP_fault_p22 (l : Launch) (D : va_G) (kA : Nat → ClassId) (u w : Nat → Nat) (tx : Value) (rec : mF) (ih : ∀ t σ xs res, rec t σ xs = some res → cSem l D kA u w tx t σ xs res) (σ : mS) (xs : List Int32) (res : mR) (h : u_2 (kC_CP_fault_p22 rec σ) xs = some res) : sC_CP_fault_p22 l D kA u w tx σ xs res := by
  intro x0 x1 hxs
  subst hxs
  obtain ⟨σf, rf, dd⟩ := res
  have h : (some (σ, x1, 0)) = some (σf, rf, dd) := h
  intro p e s m args below meth c F Lo σ0 hF hLo C
  dsimp only at hF hLo ⊢
  cases h
  exact ax_iret (pc := 22) C d_CP_fault_22 ⟨rfl, rfl⟩ (Nat.le_refl _) (Nat.le_refl _)
set_option maxHeartbeats 4000000 in
set_option maxRecDepth 100000 in
theorem oC_CP_proof (l : Launch) (D : va_G) (kA : Nat → ClassId) (u w : Nat → Nat) (tx : Value) (rec : mF) (ih : ∀ t σ xs res, rec t σ xs = some res → cSem l D kA u w tx t σ xs res) (σ : mS) (xs : List Int32) (res : mR) (h : u_0 (kC_CP_proof rec σ) xs = some res) : sC_CP_proof l D kA u w tx σ xs res := by
  intro hxs
  subst hxs
  obtain ⟨σf, rf, dd⟩ := res
  have h : (some (σ, (σ.1 5501), 0)) = some (σf, rf, dd) := h
  refine ax_Mi.of (by decide +kernel) (Nat.le_of_ble_eq_true rfl) ?_
  intro p e s m args below meth c C hnm
  have C : ax_C p s m args meth c b_CP_proof "ClauseProver" 1 (some .int) D kA (va_A (cpW kA u w tx σ) s.heap.size) := C
  obtain ⟨F, hFe⟩ : ∃ F, F = dd + 1 := ⟨_, rfl⟩
  obtain ⟨Lo, hLoe⟩ : ∃ Lo, Lo = 48 * dd + 48 := ⟨_, rfl⟩
  obtain ⟨σ0, hσ0⟩ : ∃ s0, s0 = σ := ⟨_, rfl⟩
  suffices K : AW p l e { frames := F, cells := 0, slots := 0, locals := Lo } s m args below meth c D kA (va_A (cpW kA u w tx σ0) s.heap.size) 1 (ax_Qi below args s D kA (cpW kA u w tx σ0) 0 0 (fun r w1 => r = rf ∧ w1 = cpW kA u w tx σf)) 0 [(0, .ref (u 0))] [] (cpW kA u w tx σ) 0 0 by rw [hFe, hLoe, hσ0] at K; exact ax_ls ([(0, .ref (u 0))]) [0] rfl K
  have C : ax_C p s m args meth c b_CP_proof "ClauseProver" 1 (some .int) D kA (va_A (cpW kA u w tx σ0) s.heap.size) := by rw [hσ0]; exact C
  have hF : dd + 1 ≤ F := by omega
  have hLo : 48 * dd + 48 ≤ Lo := by omega
  clear hFe hLoe hσ0
  refine ax_aload_n (pc := 0) C d_CP_proof_0 rfl 0 rfl ?_
  refine cg_0_8_CP_69 (pc := 1) C d_CP_proof_1 ?_
  refine cg_53_7_CP_264 (pc := 4) C d_CP_proof_4 ?_
  refine cg_55_1_CP_82 (pc := 7) C d_CP_proof_7 ?_
  cases h
  exact ax_iret (pc := 10) C d_CP_proof_10 ⟨rfl, rfl⟩ (Nat.le_refl _) (Nat.le_refl _)
set_option maxHeartbeats 4000000 in
set_option maxRecDepth 100000 in
theorem oC_Dra_cellOf (l : Launch) (D : va_G) (kA : Nat → ClassId) (u w : Nat → Nat) (tx : Value) (rec : mF) (ih : ∀ t σ xs res, rec t σ xs = some res → cSem l D kA u w tx t σ xs res) (σ : mS) (xs : List Int32) (res : mR) (h : u_1 (kC_Dra_cellOf rec σ) xs = some res) : sC_Dra_cellOf l D kA u w tx σ xs res := by
  intro x0 hxs
  subst hxs
  obtain ⟨σf, rf, dd⟩ := res
  have h : (if bin x0 300 = true then (if (σ.2.1 46 (Int32.toNatClampNeg x0)) = (-1) then (if (σ.1 3911) = 6 then (lt_ (mI σ 3907 1) (fun σ1 => rec tC_Dra_cellOf_p64 σ1 [x0])) else (rec tC_Dra_cellOf_p27 σ [x0])) else (rec tC_Dra_cellOf_p27 σ [x0])) else none) = some (σf, rf, dd) := h
  refine ax_Mi.of (by decide +kernel) (Nat.le_of_ble_eq_true rfl) ?_
  intro p e s m args below meth c C hnm
  have C : ax_C p s m args meth c b_Dra_cellOf "ClauseProver$Draft" 2 (some .int) D kA (va_A (cpW kA u w tx σ) s.heap.size) := C
  obtain ⟨F, hFe⟩ : ∃ F, F = dd + 1 := ⟨_, rfl⟩
  obtain ⟨Lo, hLoe⟩ : ∃ Lo, Lo = 48 * dd + 48 := ⟨_, rfl⟩
  obtain ⟨σ0, hσ0⟩ : ∃ s0, s0 = σ := ⟨_, rfl⟩
  suffices K : AW p l e { frames := F, cells := 0, slots := 0, locals := Lo } s m args below meth c D kA (va_A (cpW kA u w tx σ0) s.heap.size) 2 (ax_Qi below args s D kA (cpW kA u w tx σ0) 0 0 (fun r w1 => r = rf ∧ w1 = cpW kA u w tx σf)) 0 [(0, .ref (u 39)), (1, .int x0)] [] (cpW kA u w tx σ) 0 0 by rw [hFe, hLoe, hσ0] at K; exact ax_ls ([(0, .ref (u 39)), (1, .int x0)]) [0, 1] rfl K
  have C : ax_C p s m args meth c b_Dra_cellOf "ClauseProver$Draft" 2 (some .int) D kA (va_A (cpW kA u w tx σ0) s.heap.size) := by rw [hσ0]; exact C
  have hF : dd + 1 ≤ F := by omega
  have hLo : 48 * dd + 48 ≤ Lo := by omega
  clear hFe hLoe hσ0
  refine ax_aload_n (pc := 0) C d_Dra_cellOf_0 rfl 0 rfl ?_
  refine cg_39_9_Dra_25 (pc := 1) C d_Dra_cellOf_1 ?_
  refine ax_iload_n (pc := 4) C d_Dra_cellOf_4 rfl 1 rfl ?_
  obtain ⟨hb, h⟩ := it_g h
  refine cl_46 (pc := 5) C d_Dra_cellOf_5 (bin_in hb) ?_
  refine ax_iconst (pc := 6) C (-1) d_Dra_cellOf_6 (by decide +kernel) ?_
  refine ax_icmp_ne (pc := 7) C 27 d_Dra_cellOf_7 (by decide) (fun hc => ?_) (fun hc => ?_)
  · have h := it_f hc h
    refine ax_ls ([(0, .ref (u 39)), (1, .int x0)]) [0, 1] rfl ?_
    have hm : sC_Dra_cellOf_p27 l D kA u w tx σ [x0] (σf, rf, _) := ih tC_Dra_cellOf_p27 _ _ _ h
    exact hm _ rfl p e s m args below meth c F Lo σ0 hF hLo C
  · have h := it_t hc h
    refine ax_aload_n (pc := 10) C d_Dra_cellOf_10 rfl 0 rfl ?_
    refine cg_39_11_Dra_44 (pc := 11) C d_Dra_cellOf_11 ?_
    refine ax_bipush (pc := 14) C 6 d_Dra_cellOf_14 (by decide +kernel) ?_
    refine ax_icmp_ne (pc := 16) C 27 d_Dra_cellOf_16 (by decide) (fun hc => ?_) (fun hc => ?_)
    · have h := it_f hc h
      refine ax_ls ([(0, .ref (u 39)), (1, .int x0)]) [0, 1] rfl ?_
      have hm : sC_Dra_cellOf_p27 l D kA u w tx σ [x0] (σf, rf, _) := ih tC_Dra_cellOf_p27 _ _ _ h
      exact hm _ rfl p e s m args below meth c F Lo σ0 hF hLo C
    · have h := it_t hc h
      refine ax_aload_n (pc := 19) C d_Dra_cellOf_19 rfl 0 rfl ?_
      refine ax_iconst (pc := 20) C 1 d_Dra_cellOf_20 (by decide +kernel) ?_
      refine cq_39_7_Dra_54 (pc := 21) C (by decide) d_Dra_cellOf_21 ?_
      have h := it_l h
      generalize mI σ 3907 1 = σ1 at h ⊢
      refine ax_goto (pc := 24) C 64 d_Dra_cellOf_24 (by decide) ?_
      refine ax_ls ([(0, .ref (u 39)), (1, .int x0)]) [0, 1] rfl ?_
      have hm : sC_Dra_cellOf_p64 l D kA u w tx σ1 [x0] (σf, rf, _) := ih tC_Dra_cellOf_p64 _ _ _ h
      exact hm _ rfl p e s m args below meth c F Lo σ0 hF hLo C
set_option maxHeartbeats 4000000 in
set_option maxRecDepth 100000 in
theorem oC_Dra_cellOf_p27 (l : Launch) (D : va_G) (kA : Nat → ClassId) (u w : Nat → Nat) (tx : Value) (rec : mF) (ih : ∀ t σ xs res, rec t σ xs = some res → cSem l D kA u w tx t σ xs res) (σ : mS) (xs : List Int32) (res : mR) (h : u_1 (kC_Dra_cellOf_p27 rec σ) xs = some res) : sC_Dra_cellOf_p27 l D kA u w tx σ xs res := by
  intro x0 hxs
  subst hxs
  obtain ⟨σf, rf, dd⟩ := res
  have h : (if bin x0 300 = true then (if (σ.2.1 46 (Int32.toNatClampNeg x0)) = (-1) then (if bin (σ.1 3911) 6 = true then (lt_ (mA σ 44 (Int32.toNatClampNeg (σ.1 3911)) x0) (fun σ1 => lt_ (mI σ1 3911 (((σ1.1 3911) : Int32) + 1)) (fun σ2 => if bin x0 300 = true then (lt_ (mA σ2 46 (Int32.toNatClampNeg x0) (σ1.1 3911)) (fun σ3 => rec tC_Dra_cellOf_p64 σ3 [x0])) else none))) else none) else (rec tC_Dra_cellOf_p64 σ [x0])) else none) = some (σf, rf, dd) := h
  intro p e s m args below meth c F Lo σ0 hF hLo C
  dsimp only at hF hLo ⊢
  refine ax_aload_n (pc := 27) C d_Dra_cellOf_27 rfl 0 rfl ?_
  refine cg_39_9_Dra_25 (pc := 28) C d_Dra_cellOf_28 ?_
  refine ax_iload_n (pc := 31) C d_Dra_cellOf_31 rfl 1 rfl ?_
  obtain ⟨hb, h⟩ := it_g h
  refine cl_46 (pc := 32) C d_Dra_cellOf_32 (bin_in hb) ?_
  refine ax_iconst (pc := 33) C (-1) d_Dra_cellOf_33 (by decide +kernel) ?_
  refine ax_icmp_ne (pc := 34) C 64 d_Dra_cellOf_34 (by decide) (fun hc => ?_) (fun hc => ?_)
  · have h := it_f hc h
    refine ax_ls ([(0, .ref (u 39)), (1, .int x0)]) [0, 1] rfl ?_
    have hm : sC_Dra_cellOf_p64 l D kA u w tx σ [x0] (σf, rf, _) := ih tC_Dra_cellOf_p64 _ _ _ h
    exact hm _ rfl p e s m args below meth c F Lo σ0 hF hLo C
  · have h := it_t hc h
    refine ax_aload_n (pc := 37) C d_Dra_cellOf_37 rfl 0 rfl ?_
    refine cg_39_10_Dra_28 (pc := 38) C d_Dra_cellOf_38 ?_
    refine ax_aload_n (pc := 41) C d_Dra_cellOf_41 rfl 0 rfl ?_
    refine cg_39_11_Dra_44 (pc := 42) C d_Dra_cellOf_42 ?_
    refine ax_iload_n (pc := 45) C d_Dra_cellOf_45 rfl 1 rfl ?_
    obtain ⟨hb, h⟩ := it_g h
    refine cs_44 (pc := 46) C d_Dra_cellOf_46 (bin_in hb) ?_
    have h := it_l h
    generalize mA σ 44 (Int32.toNatClampNeg (σ.1 3911)) x0 = σ1 at h ⊢
    refine ax_aload_n (pc := 47) C d_Dra_cellOf_47 rfl 0 rfl ?_
    refine cg_39_9_Dra_25 (pc := 48) C d_Dra_cellOf_48 ?_
    refine ax_iload_n (pc := 51) C d_Dra_cellOf_51 rfl 1 rfl ?_
    refine ax_aload_n (pc := 52) C d_Dra_cellOf_52 rfl 0 rfl ?_
    refine ax_dup (pc := 53) C d_Dra_cellOf_53 rfl ?_
    refine cg_39_11_Dra_44 (pc := 54) C d_Dra_cellOf_54 ?_
    refine ax_dup_x1 (pc := 57) C d_Dra_cellOf_57 rfl rfl ?_
    refine ax_iconst (pc := 58) C 1 d_Dra_cellOf_58 (by decide +kernel) ?_
    refine ax_iadd (pc := 59) C d_Dra_cellOf_59 ?_
    refine cq_39_11_Dra_44 (pc := 60) C d_Dra_cellOf_60 ?_
    have h := it_l h
    generalize mI σ1 3911 (((σ1.1 3911) : Int32) + 1) = σ2 at h ⊢
    obtain ⟨hb, h⟩ := it_g h
    refine cs_46 (pc := 63) C d_Dra_cellOf_63 (bin_in hb) ?_
    have h := it_l h
    generalize mA σ2 46 (Int32.toNatClampNeg x0) (σ1.1 3911) = σ3 at h ⊢
    refine ax_ls ([(0, .ref (u 39)), (1, .int x0)]) [0, 1] rfl ?_
    have hm : sC_Dra_cellOf_p64 l D kA u w tx σ3 [x0] (σf, rf, _) := ih tC_Dra_cellOf_p64 _ _ _ h
    exact hm _ rfl p e s m args below meth c F Lo σ0 hF hLo C
set_option maxHeartbeats 4000000 in
set_option maxRecDepth 100000 in
theorem oC_Dra_cellOf_p64 (l : Launch) (D : va_G) (kA : Nat → ClassId) (u w : Nat → Nat) (tx : Value) (rec : mF) (ih : ∀ t σ xs res, rec t σ xs = some res → cSem l D kA u w tx t σ xs res) (σ : mS) (xs : List Int32) (res : mR) (h : u_1 (kC_Dra_cellOf_p64 rec σ) xs = some res) : sC_Dra_cellOf_p64 l D kA u w tx σ xs res := by
  intro x0 hxs
  subst hxs
  obtain ⟨σf, rf, dd⟩ := res
  have h : (if bin x0 300 = true then (some (σ, (((if (σ.2.1 46 (Int32.toNatClampNeg x0)) < 0 then 0 else (σ.2.1 46 (Int32.toNatClampNeg x0))) : Int32) ^^^ (-1)), 0)) else none) = some (σf, rf, dd) := h
  intro p e s m args below meth c F Lo σ0 hF hLo C
  dsimp only at hF hLo ⊢
  refine ax_aload_n (pc := 64) C d_Dra_cellOf_64 rfl 0 rfl ?_
  refine cg_39_9_Dra_25 (pc := 65) C d_Dra_cellOf_65 ?_
  refine ax_iload_n (pc := 68) C d_Dra_cellOf_68 rfl 1 rfl ?_
  obtain ⟨hb, h⟩ := it_g h
  refine cl_46 (pc := 69) C d_Dra_cellOf_69 (bin_in hb) ?_
  refine ax_iconst (pc := 70) C 0 d_Dra_cellOf_70 (by decide +kernel) ?_
  refine cx_max (pc := 71) C tb_methodLink_828 tb_static_701 tb_initialized_19 tcm_max d_Dra_cellOf_71 hF (Nat.le_of_ble_eq_true rfl) ?_
  refine ax_iconst (pc := 74) C (-1) d_Dra_cellOf_74 (by decide +kernel) ?_
  refine ax_ixor (pc := 75) C d_Dra_cellOf_75 ?_
  cases h
  exact ax_iret (pc := 76) C d_Dra_cellOf_76 ⟨rfl, rfl⟩ (Nat.le_refl _) (Nat.le_refl _)
set_option maxHeartbeats 4000000 in
set_option maxRecDepth 100000 in
theorem oC_Dra_clear (l : Launch) (D : va_G) (kA : Nat → ClassId) (u w : Nat → Nat) (tx : Value) (rec : mF) (ih : ∀ t σ xs res, rec t σ xs = some res → cSem l D kA u w tx t σ xs res) (σ : mS) (xs : List Int32) (res : mR) (h : u_0 (kC_Dra_clear rec σ) xs = some res) : sC_Dra_clear l D kA u w tx σ xs res := by
  intro hxs
  subst hxs
  obtain ⟨σf, rf, dd⟩ := res
  have h : (rec tC_Dra_clear_p2 σ [0]) = some (σf, rf, dd) := h
  refine ax_Mv.of (by decide +kernel) (Nat.le_of_ble_eq_true rfl) ?_
  intro p e s m args below meth c C hnm
  have C : ax_C p s m args meth c b_Dra_clear "ClauseProver$Draft" 2 none D kA (va_A (cpW kA u w tx σ) s.heap.size) := C
  obtain ⟨F, hFe⟩ : ∃ F, F = dd + 1 := ⟨_, rfl⟩
  obtain ⟨Lo, hLoe⟩ : ∃ Lo, Lo = 48 * dd + 48 := ⟨_, rfl⟩
  obtain ⟨σ0, hσ0⟩ : ∃ s0, s0 = σ := ⟨_, rfl⟩
  suffices K : AW p l e { frames := F, cells := 0, slots := 0, locals := Lo } s m args below meth c D kA (va_A (cpW kA u w tx σ0) s.heap.size) 2 (ax_Qv below args s D kA (cpW kA u w tx σ0) 0 0 (fun w1 => w1 = cpW kA u w tx σf)) 0 [(0, .ref (u 39))] [] (cpW kA u w tx σ) 0 0 by rw [hFe, hLoe, hσ0] at K; exact ax_ls ([(0, .ref (u 39))]) [0] rfl K
  have C : ax_C p s m args meth c b_Dra_clear "ClauseProver$Draft" 2 none D kA (va_A (cpW kA u w tx σ0) s.heap.size) := by rw [hσ0]; exact C
  have hF : dd + 1 ≤ F := by omega
  have hLo : 48 * dd + 48 ≤ Lo := by omega
  clear hFe hLoe hσ0
  refine ax_iconst (pc := 0) C 0 d_Dra_clear_0 (by decide +kernel) ?_
  refine ax_istore_n (pc := 1) C d_Dra_clear_1 rfl (Nat.le_of_ble_eq_true rfl) ([(1, .int 0), (0, .ref (u 39))]) rfl ?_
  refine ax_ls ([(0, .ref (u 39)), (1, .int 0)]) [1, 0] rfl ?_
  have hm : sC_Dra_clear_p2 l D kA u w tx σ [0] (σf, rf, _) := ih tC_Dra_clear_p2 _ _ _ h
  exact hm _ rfl p e s m args below meth c F Lo σ0 hF hLo C
set_option maxHeartbeats 4000000 in
set_option maxRecDepth 100000 in
theorem oC_Dra_clear_p2 (l : Launch) (D : va_G) (kA : Nat → ClassId) (u w : Nat → Nat) (tx : Value) (rec : mF) (ih : ∀ t σ xs res, rec t σ xs = some res → cSem l D kA u w tx t σ xs res) (σ : mS) (xs : List Int32) (res : mR) (h : u_1 (kC_Dra_clear_p2 rec σ) xs = some res) : sC_Dra_clear_p2 l D kA u w tx σ xs res := by
  intro x0 hxs
  subst hxs
  obtain ⟨σf, rf, dd⟩ := res
  have h : (if (σ.1 3911) ≤ x0 then (lt_ (mI σ 3911 0) (fun σ1 => lt_ (mI σ1 3904 0) (fun σ2 => lt_ (mI σ2 3905 0) (fun σ3 => lt_ (mI σ3 3907 0) (fun σ4 => some (σ4, 0, 0)))))) else (if bin x0 6 = true then (if bin (σ.2.1 44 (Int32.toNatClampNeg x0)) 300 = true then (lt_ (mA σ 46 (Int32.toNatClampNeg (σ.2.1 44 (Int32.toNatClampNeg x0))) (-1)) (fun σ5 => rec tC_Dra_clear_p2 σ5 [(x0 + 1)])) else none) else none)) = some (σf, rf, dd) := h
  intro p e s m args below meth c F Lo σ0 hF hLo C
  dsimp only at hF hLo ⊢
  refine ax_iload_n (pc := 2) C d_Dra_clear_2 rfl 1 rfl ?_
  refine ax_aload_n (pc := 3) C d_Dra_clear_3 rfl 0 rfl ?_
  refine cg_39_11_Dra_44 (pc := 4) C d_Dra_clear_4 ?_
  refine ax_icmp_ge (pc := 7) C 28 d_Dra_clear_7 (by decide) (fun hc => ?_) (fun hc => ?_)
  · have h := it_t hc h
    refine ax_aload_n (pc := 28) C d_Dra_clear_28 rfl 0 rfl ?_
    refine ax_iconst (pc := 29) C 0 d_Dra_clear_29 (by decide +kernel) ?_
    refine cq_39_11_Dra_44 (pc := 30) C d_Dra_clear_30 ?_
    have h := it_l h
    generalize mI σ 3911 0 = σ1 at h ⊢
    refine ax_aload_n (pc := 33) C d_Dra_clear_33 rfl 0 rfl ?_
    refine ax_iconst (pc := 34) C 0 d_Dra_clear_34 (by decide +kernel) ?_
    refine cq_39_4_Dra_48 (pc := 35) C d_Dra_clear_35 ?_
    have h := it_l h
    generalize mI σ1 3904 0 = σ2 at h ⊢
    refine ax_aload_n (pc := 38) C d_Dra_clear_38 rfl 0 rfl ?_
    refine ax_iconst (pc := 39) C 0 d_Dra_clear_39 (by decide +kernel) ?_
    refine cq_39_5_Dra_51 (pc := 40) C d_Dra_clear_40 ?_
    have h := it_l h
    generalize mI σ2 3905 0 = σ3 at h ⊢
    refine ax_aload_n (pc := 43) C d_Dra_clear_43 rfl 0 rfl ?_
    refine ax_iconst (pc := 44) C 0 d_Dra_clear_44 (by decide +kernel) ?_
    refine cq_39_7_Dra_54 (pc := 45) C (by decide) d_Dra_clear_45 ?_
    have h := it_l h
    generalize mI σ3 3907 0 = σ4 at h ⊢
    cases h
    exact ax_vret (pc := 48) C d_Dra_clear_48 rfl (Nat.le_refl _) (Nat.le_refl _)
  · have h := it_f hc h
    refine ax_aload_n (pc := 10) C d_Dra_clear_10 rfl 0 rfl ?_
    refine cg_39_9_Dra_25 (pc := 11) C d_Dra_clear_11 ?_
    refine ax_aload_n (pc := 14) C d_Dra_clear_14 rfl 0 rfl ?_
    refine cg_39_10_Dra_28 (pc := 15) C d_Dra_clear_15 ?_
    refine ax_iload_n (pc := 18) C d_Dra_clear_18 rfl 1 rfl ?_
    obtain ⟨hb, h⟩ := it_g h
    refine cl_44 (pc := 19) C d_Dra_clear_19 (bin_in hb) ?_
    refine ax_iconst (pc := 20) C (-1) d_Dra_clear_20 (by decide +kernel) ?_
    obtain ⟨hb, h⟩ := it_g h
    refine cs_46 (pc := 21) C d_Dra_clear_21 (bin_in hb) ?_
    have h := it_l h
    generalize mA σ 46 (Int32.toNatClampNeg (σ.2.1 44 (Int32.toNatClampNeg x0))) (-1) = σ5 at h ⊢
    refine ax_iinc (pc := 22) C (x0 + 1) d_Dra_clear_22 1 rfl rfl (Nat.le_of_ble_eq_true rfl) ([(1, .int (x0 + 1)), (0, .ref (u 39))]) rfl ?_
    refine ax_goto (pc := 25) C 2 d_Dra_clear_25 (by decide) ?_
    refine ax_ls ([(0, .ref (u 39)), (1, .int (x0 + 1))]) [1, 0] rfl ?_
    have hm : sC_Dra_clear_p2 l D kA u w tx σ5 [(x0 + 1)] (σf, rf, _) := ih tC_Dra_clear_p2 _ _ _ h
    exact hm _ rfl p e s m args below meth c F Lo σ0 hF hLo C
set_option maxHeartbeats 4000000 in
set_option maxRecDepth 100000 in
theorem oC_Dra_closeLiteral (l : Launch) (D : va_G) (kA : Nat → ClassId) (u w : Nat → Nat) (tx : Value) (rec : mF) (ih : ∀ t σ xs res, rec t σ xs = some res → cSem l D kA u w tx t σ xs res) (σ : mS) (xs : List Int32) (res : mR) (h : u_0 (kC_Dra_closeLiteral rec σ) xs = some res) : sC_Dra_closeLiteral l D kA u w tx σ xs res := by
  intro hxs
  subst hxs
  obtain ⟨σf, rf, dd⟩ := res
  have h : (if (σ.1 3907) = 0 then (lt_ (mI σ 3905 (((σ.1 3905) : Int32) + 1)) (fun σ1 => if bin (σ1.1 3905) 9 = true then (lt_ (mA σ1 41 (Int32.toNatClampNeg (σ1.1 3905)) (σ1.1 3904)) (fun σ2 => rec tC_Dra_closeLiteral_p30 σ2 [])) else none)) else (rec tC_Dra_closeLiteral_p30 σ [])) = some (σf, rf, dd) := h
  refine ax_Mv.of (by decide +kernel) (Nat.le_of_ble_eq_true rfl) ?_
  intro p e s m args below meth c C hnm
  have C : ax_C p s m args meth c b_Dra_closeLiteral "ClauseProver$Draft" 1 none D kA (va_A (cpW kA u w tx σ) s.heap.size) := C
  obtain ⟨F, hFe⟩ : ∃ F, F = dd + 1 := ⟨_, rfl⟩
  obtain ⟨Lo, hLoe⟩ : ∃ Lo, Lo = 48 * dd + 48 := ⟨_, rfl⟩
  obtain ⟨σ0, hσ0⟩ : ∃ s0, s0 = σ := ⟨_, rfl⟩
  suffices K : AW p l e { frames := F, cells := 0, slots := 0, locals := Lo } s m args below meth c D kA (va_A (cpW kA u w tx σ0) s.heap.size) 1 (ax_Qv below args s D kA (cpW kA u w tx σ0) 0 0 (fun w1 => w1 = cpW kA u w tx σf)) 0 [(0, .ref (u 39))] [] (cpW kA u w tx σ) 0 0 by rw [hFe, hLoe, hσ0] at K; exact ax_ls ([(0, .ref (u 39))]) [0] rfl K
  have C : ax_C p s m args meth c b_Dra_closeLiteral "ClauseProver$Draft" 1 none D kA (va_A (cpW kA u w tx σ0) s.heap.size) := by rw [hσ0]; exact C
  have hF : dd + 1 ≤ F := by omega
  have hLo : 48 * dd + 48 ≤ Lo := by omega
  clear hFe hLoe hσ0
  refine ax_aload_n (pc := 0) C d_Dra_closeLiteral_0 rfl 0 rfl ?_
  refine cg_39_7_Dra_54 (pc := 1) C d_Dra_closeLiteral_1 ?_
  refine ax_if_ne (pc := 4) C 30 d_Dra_closeLiteral_4 (by decide) (fun hc => ?_) (fun hc => ?_)
  · have h := it_f hc h
    refine ax_ls ([(0, .ref (u 39))]) [0] rfl ?_
    have hm : sC_Dra_closeLiteral_p30 l D kA u w tx σ [] (σf, rf, _) := ih tC_Dra_closeLiteral_p30 _ _ _ h
    exact hm rfl p e s m args below meth c F Lo σ0 hF hLo C
  · have h := it_t hc h
    refine ax_aload_n (pc := 7) C d_Dra_closeLiteral_7 rfl 0 rfl ?_
    refine ax_dup (pc := 8) C d_Dra_closeLiteral_8 rfl ?_
    refine cg_39_5_Dra_51 (pc := 9) C d_Dra_closeLiteral_9 ?_
    refine ax_iconst (pc := 12) C 1 d_Dra_closeLiteral_12 (by decide +kernel) ?_
    refine ax_iadd (pc := 13) C d_Dra_closeLiteral_13 ?_
    refine cq_39_5_Dra_51 (pc := 14) C d_Dra_closeLiteral_14 ?_
    have h := it_l h
    generalize mI σ 3905 (((σ.1 3905) : Int32) + 1) = σ1 at h ⊢
    refine ax_aload_n (pc := 17) C d_Dra_closeLiteral_17 rfl 0 rfl ?_
    refine cg_39_1_Dra_15 (pc := 18) C d_Dra_closeLiteral_18 ?_
    refine ax_aload_n (pc := 21) C d_Dra_closeLiteral_21 rfl 0 rfl ?_
    refine cg_39_5_Dra_51 (pc := 22) C d_Dra_closeLiteral_22 ?_
    refine ax_aload_n (pc := 25) C d_Dra_closeLiteral_25 rfl 0 rfl ?_
    refine cg_39_4_Dra_48 (pc := 26) C d_Dra_closeLiteral_26 ?_
    obtain ⟨hb, h⟩ := it_g h
    refine cs_41 (pc := 29) C d_Dra_closeLiteral_29 (bin_in hb) ?_
    have h := it_l h
    generalize mA σ1 41 (Int32.toNatClampNeg (σ1.1 3905)) (σ1.1 3904) = σ2 at h ⊢
    refine ax_ls ([(0, .ref (u 39))]) [0] rfl ?_
    have hm : sC_Dra_closeLiteral_p30 l D kA u w tx σ2 [] (σf, rf, _) := ih tC_Dra_closeLiteral_p30 _ _ _ h
    exact hm rfl p e s m args below meth c F Lo σ0 hF hLo C
set_option maxHeartbeats 4000000 in
set_option maxRecDepth 100000 in
theorem oC_Dra_closeLiteral_p30 (l : Launch) (D : va_G) (kA : Nat → ClassId) (u w : Nat → Nat) (tx : Value) (rec : mF) (ih : ∀ t σ xs res, rec t σ xs = some res → cSem l D kA u w tx t σ xs res) (σ : mS) (xs : List Int32) (res : mR) (h : u_0 (kC_Dra_closeLiteral_p30 rec σ) xs = some res) : sC_Dra_closeLiteral_p30 l D kA u w tx σ xs res := by
  intro hxs
  subst hxs
  obtain ⟨σf, rf, dd⟩ := res
  have h : (some (σ, 0, 0)) = some (σf, rf, dd) := h
  intro p e s m args below meth c F Lo σ0 hF hLo C
  dsimp only at hF hLo ⊢
  cases h
  exact ax_vret (pc := 30) C d_Dra_closeLiteral_30 rfl (Nat.le_refl _) (Nat.le_refl _)
set_option maxHeartbeats 4000000 in
set_option maxRecDepth 100000 in
theorem oC_Dra_hasSameSides (l : Launch) (D : va_G) (kA : Nat → ClassId) (u w : Nat → Nat) (tx : Value) (rec : mF) (ih : ∀ t σ xs res, rec t σ xs = some res → cSem l D kA u w tx t σ xs res) (σ : mS) (xs : List Int32) (res : mR) (h : u_2 (kC_Dra_hasSameSides rec σ) xs = some res) : sC_Dra_hasSameSides l D kA u w tx σ xs res := by
  intro x0 x1 hxs
  subst hxs
  obtain ⟨σf, rf, dd⟩ := res
  have h : (if bin x0 8 = true then (if bin x0 9 = true then (if bin ((x0 : Int32) + 1) 9 = true then (if bin x0 8 = true then (if bin x1 8 = true then (if bin x1 9 = true then (if bin ((x1 : Int32) + 1) 9 = true then (if bin x1 8 = true then (if bin x0 9 = true then (if bin x1 9 = true then (bnd (rec tC_Dra_isSame σ [(σ.2.1 41 (Int32.toNatClampNeg x0)), (((σ.2.1 42 (Int32.toNatClampNeg x0)) : Int32) - (σ.2.1 41 (Int32.toNatClampNeg x0))), (σ.2.1 41 (Int32.toNatClampNeg x1)), (((σ.2.1 42 (Int32.toNatClampNeg x1)) : Int32) - (σ.2.1 41 (Int32.toNatClampNeg x1)))]) (fun σ1 r1 => if r1 = 0 then (rec tC_Dra_hasSameSides_p108 σ1 [x0, x1, (((σ.2.1 42 (Int32.toNatClampNeg x0)) : Int32) - (σ.2.1 41 (Int32.toNatClampNeg x0))), (((σ.2.1 41 (Int32.toNatClampNeg ((x0 : Int32) + 1))) : Int32) - (σ.2.1 42 (Int32.toNatClampNeg x0))), (((σ.2.1 42 (Int32.toNatClampNeg x1)) : Int32) - (σ.2.1 41 (Int32.toNatClampNeg x1))), (((σ.2.1 41 (Int32.toNatClampNeg ((x1 : Int32) + 1))) : Int32) - (σ.2.1 42 (Int32.toNatClampNeg x1)))]) else (if bin x0 8 = true then (if bin x1 8 = true then (bnd (rec tC_Dra_isSame σ1 [(σ1.2.1 42 (Int32.toNatClampNeg x0)), (((σ.2.1 41 (Int32.toNatClampNeg ((x0 : Int32) + 1))) : Int32) - (σ.2.1 42 (Int32.toNatClampNeg x0))), (σ1.2.1 42 (Int32.toNatClampNeg x1)), (((σ.2.1 41 (Int32.toNatClampNeg ((x1 : Int32) + 1))) : Int32) - (σ.2.1 42 (Int32.toNatClampNeg x1)))]) (fun σ2 r2 => if r2 = 0 then (rec tC_Dra_hasSameSides_p108 σ2 [x0, x1, (((σ.2.1 42 (Int32.toNatClampNeg x0)) : Int32) - (σ.2.1 41 (Int32.toNatClampNeg x0))), (((σ.2.1 41 (Int32.toNatClampNeg ((x0 : Int32) + 1))) : Int32) - (σ.2.1 42 (Int32.toNatClampNeg x0))), (((σ.2.1 42 (Int32.toNatClampNeg x1)) : Int32) - (σ.2.1 41 (Int32.toNatClampNeg x1))), (((σ.2.1 41 (Int32.toNatClampNeg ((x1 : Int32) + 1))) : Int32) - (σ.2.1 42 (Int32.toNatClampNeg x1)))]) else (rec tC_Dra_hasSameSides_p153 σ2 [x0, x1, (((σ.2.1 42 (Int32.toNatClampNeg x0)) : Int32) - (σ.2.1 41 (Int32.toNatClampNeg x0))), (((σ.2.1 41 (Int32.toNatClampNeg ((x0 : Int32) + 1))) : Int32) - (σ.2.1 42 (Int32.toNatClampNeg x0))), (((σ.2.1 42 (Int32.toNatClampNeg x1)) : Int32) - (σ.2.1 41 (Int32.toNatClampNeg x1))), (((σ.2.1 41 (Int32.toNatClampNeg ((x1 : Int32) + 1))) : Int32) - (σ.2.1 42 (Int32.toNatClampNeg x1)))]))) else none) else none))) else none) else none) else none) else none) else none) else none) else none) else none) else none) else none) = some (σf, rf, dd) := h
  refine ax_Mi.of (by decide +kernel) (Nat.le_of_ble_eq_true rfl) ?_
  intro p e s m args below meth c C hnm
  have C : ax_C p s m args meth c b_Dra_hasSameSides "ClauseProver$Draft" 7 (some .boolean) D kA (va_A (cpW kA u w tx σ) s.heap.size) := C
  obtain ⟨F, hFe⟩ : ∃ F, F = dd + 1 := ⟨_, rfl⟩
  obtain ⟨Lo, hLoe⟩ : ∃ Lo, Lo = 48 * dd + 48 := ⟨_, rfl⟩
  obtain ⟨σ0, hσ0⟩ : ∃ s0, s0 = σ := ⟨_, rfl⟩
  suffices K : AW p l e { frames := F, cells := 0, slots := 0, locals := Lo } s m args below meth c D kA (va_A (cpW kA u w tx σ0) s.heap.size) 7 (ax_Qi below args s D kA (cpW kA u w tx σ0) 0 0 (fun r w1 => r = rf ∧ w1 = cpW kA u w tx σf)) 0 [(0, .ref (u 39)), (1, .int x0), (2, .int x1)] [] (cpW kA u w tx σ) 0 0 by rw [hFe, hLoe, hσ0] at K; exact ax_ls ([(0, .ref (u 39)), (1, .int x0), (2, .int x1)]) [0, 1, 2] rfl K
  have C : ax_C p s m args meth c b_Dra_hasSameSides "ClauseProver$Draft" 7 (some .boolean) D kA (va_A (cpW kA u w tx σ0) s.heap.size) := by rw [hσ0]; exact C
  have hF : dd + 1 ≤ F := by omega
  have hLo : 48 * dd + 48 ≤ Lo := by omega
  clear hFe hLoe hσ0
  refine ax_aload_n (pc := 0) C d_Dra_hasSameSides_0 rfl 0 rfl ?_
  refine cg_39_2_Dra_18 (pc := 1) C d_Dra_hasSameSides_1 ?_
  refine ax_iload_n (pc := 4) C d_Dra_hasSameSides_4 rfl 1 rfl ?_
  obtain ⟨hb, h⟩ := it_g h
  refine cl_42 (pc := 5) C d_Dra_hasSameSides_5 (bin_in hb) ?_
  refine ax_aload_n (pc := 6) C d_Dra_hasSameSides_6 rfl 0 rfl ?_
  refine cg_39_1_Dra_15 (pc := 7) C d_Dra_hasSameSides_7 ?_
  refine ax_iload_n (pc := 10) C d_Dra_hasSameSides_10 rfl 1 rfl ?_
  obtain ⟨hb, h⟩ := it_g h
  refine cl_41 (pc := 11) C d_Dra_hasSameSides_11 (bin_in hb) ?_
  refine ax_isub (pc := 12) C d_Dra_hasSameSides_12 ?_
  refine ax_istore_n (pc := 13) C d_Dra_hasSameSides_13 rfl (Nat.le_of_ble_eq_true rfl) ([(3, .int (((σ.2.1 42 (Int32.toNatClampNeg x0)) : Int32) - (σ.2.1 41 (Int32.toNatClampNeg x0)))), (0, .ref (u 39)), (1, .int x0), (2, .int x1)]) rfl ?_
  refine ax_aload_n (pc := 14) C d_Dra_hasSameSides_14 rfl 1 rfl ?_
  refine cg_39_1_Dra_15 (pc := 15) C d_Dra_hasSameSides_15 ?_
  refine ax_iload_n (pc := 18) C d_Dra_hasSameSides_18 rfl 2 rfl ?_
  refine ax_iconst (pc := 19) C 1 d_Dra_hasSameSides_19 (by decide +kernel) ?_
  refine ax_iadd (pc := 20) C d_Dra_hasSameSides_20 ?_
  obtain ⟨hb, h⟩ := it_g h
  refine cl_41 (pc := 21) C d_Dra_hasSameSides_21 (bin_in hb) ?_
  refine ax_aload_n (pc := 22) C d_Dra_hasSameSides_22 rfl 1 rfl ?_
  refine cg_39_2_Dra_18 (pc := 23) C d_Dra_hasSameSides_23 ?_
  refine ax_iload_n (pc := 26) C d_Dra_hasSameSides_26 rfl 2 rfl ?_
  obtain ⟨hb, h⟩ := it_g h
  refine cl_42 (pc := 27) C d_Dra_hasSameSides_27 (bin_in hb) ?_
  refine ax_isub (pc := 28) C d_Dra_hasSameSides_28 ?_
  refine ax_istore (pc := 29) C d_Dra_hasSameSides_29 (Nat.le_of_ble_eq_true rfl) ([(4, .int (((σ.2.1 41 (Int32.toNatClampNeg ((x0 : Int32) + 1))) : Int32) - (σ.2.1 42 (Int32.toNatClampNeg x0)))), (3, .int (((σ.2.1 42 (Int32.toNatClampNeg x0)) : Int32) - (σ.2.1 41 (Int32.toNatClampNeg x0)))), (0, .ref (u 39)), (1, .int x0), (2, .int x1)]) rfl ?_
  refine ax_aload_n (pc := 31) C d_Dra_hasSameSides_31 rfl 2 rfl ?_
  refine cg_39_2_Dra_18 (pc := 32) C d_Dra_hasSameSides_32 ?_
  refine ax_iload_n (pc := 35) C d_Dra_hasSameSides_35 rfl 4 rfl ?_
  obtain ⟨hb, h⟩ := it_g h
  refine cl_42 (pc := 36) C d_Dra_hasSameSides_36 (bin_in hb) ?_
  refine ax_aload_n (pc := 37) C d_Dra_hasSameSides_37 rfl 2 rfl ?_
  refine cg_39_1_Dra_15 (pc := 38) C d_Dra_hasSameSides_38 ?_
  refine ax_iload_n (pc := 41) C d_Dra_hasSameSides_41 rfl 4 rfl ?_
  obtain ⟨hb, h⟩ := it_g h
  refine cl_41 (pc := 42) C d_Dra_hasSameSides_42 (bin_in hb) ?_
  refine ax_isub (pc := 43) C d_Dra_hasSameSides_43 ?_
  refine ax_istore (pc := 44) C d_Dra_hasSameSides_44 (Nat.le_of_ble_eq_true rfl) ([(5, .int (((σ.2.1 42 (Int32.toNatClampNeg x1)) : Int32) - (σ.2.1 41 (Int32.toNatClampNeg x1)))), (4, .int (((σ.2.1 41 (Int32.toNatClampNeg ((x0 : Int32) + 1))) : Int32) - (σ.2.1 42 (Int32.toNatClampNeg x0)))), (3, .int (((σ.2.1 42 (Int32.toNatClampNeg x0)) : Int32) - (σ.2.1 41 (Int32.toNatClampNeg x0)))), (0, .ref (u 39)), (1, .int x0), (2, .int x1)]) rfl ?_
  refine ax_aload_n (pc := 46) C d_Dra_hasSameSides_46 rfl 3 rfl ?_
  refine cg_39_1_Dra_15 (pc := 47) C d_Dra_hasSameSides_47 ?_
  refine ax_iload_n (pc := 50) C d_Dra_hasSameSides_50 rfl 5 rfl ?_
  refine ax_iconst (pc := 51) C 1 d_Dra_hasSameSides_51 (by decide +kernel) ?_
  refine ax_iadd (pc := 52) C d_Dra_hasSameSides_52 ?_
  obtain ⟨hb, h⟩ := it_g h
  refine cl_41 (pc := 53) C d_Dra_hasSameSides_53 (bin_in hb) ?_
  refine ax_aload_n (pc := 54) C d_Dra_hasSameSides_54 rfl 3 rfl ?_
  refine cg_39_2_Dra_18 (pc := 55) C d_Dra_hasSameSides_55 ?_
  refine ax_iload_n (pc := 58) C d_Dra_hasSameSides_58 rfl 5 rfl ?_
  obtain ⟨hb, h⟩ := it_g h
  refine cl_42 (pc := 59) C d_Dra_hasSameSides_59 (bin_in hb) ?_
  refine ax_isub (pc := 60) C d_Dra_hasSameSides_60 ?_
  refine ax_istore (pc := 61) C d_Dra_hasSameSides_61 (Nat.le_of_ble_eq_true rfl) ([(6, .int (((σ.2.1 41 (Int32.toNatClampNeg ((x1 : Int32) + 1))) : Int32) - (σ.2.1 42 (Int32.toNatClampNeg x1)))), (5, .int (((σ.2.1 42 (Int32.toNatClampNeg x1)) : Int32) - (σ.2.1 41 (Int32.toNatClampNeg x1)))), (4, .int (((σ.2.1 41 (Int32.toNatClampNeg ((x0 : Int32) + 1))) : Int32) - (σ.2.1 42 (Int32.toNatClampNeg x0)))), (3, .int (((σ.2.1 42 (Int32.toNatClampNeg x0)) : Int32) - (σ.2.1 41 (Int32.toNatClampNeg x0)))), (0, .ref (u 39)), (1, .int x0), (2, .int x1)]) rfl ?_
  refine ax_aload_n (pc := 63) C d_Dra_hasSameSides_63 rfl 4 rfl ?_
  refine ax_aload_n (pc := 64) C d_Dra_hasSameSides_64 rfl 4 rfl ?_
  refine cg_39_1_Dra_15 (pc := 65) C d_Dra_hasSameSides_65 ?_
  refine ax_iload_n (pc := 68) C d_Dra_hasSameSides_68 rfl 5 rfl ?_
  obtain ⟨hb, h⟩ := it_g h
  refine cl_41 (pc := 69) C d_Dra_hasSameSides_69 (bin_in hb) ?_
  refine ax_iload_n (pc := 70) C d_Dra_hasSameSides_70 rfl 3 rfl ?_
  refine ax_aload_n (pc := 71) C d_Dra_hasSameSides_71 rfl 4 rfl ?_
  refine cg_39_1_Dra_15 (pc := 72) C d_Dra_hasSameSides_72 ?_
  refine ax_iload_n (pc := 75) C d_Dra_hasSameSides_75 rfl 6 rfl ?_
  obtain ⟨hb, h⟩ := it_g h
  refine cl_41 (pc := 76) C d_Dra_hasSameSides_76 (bin_in hb) ?_
  refine ax_iload (pc := 77) C d_Dra_hasSameSides_77 1 rfl ?_
  obtain ⟨σ1, r1, d1_1, d2_1, h1, h, hd2, hd1⟩ := it_b h
  have hm : sC_Dra_isSame l D kA u w tx σ [(σ.2.1 41 (Int32.toNatClampNeg x0)), (((σ.2.1 42 (Int32.toNatClampNeg x0)) : Int32) - (σ.2.1 41 (Int32.toNatClampNeg x0))), (σ.2.1 41 (Int32.toNatClampNeg x1)), (((σ.2.1 42 (Int32.toNatClampNeg x1)) : Int32) - (σ.2.1 41 (Int32.toNatClampNeg x1)))] (σ1, r1, d1_1) := ih tC_Dra_isSame _ _ _ h1
  refine cc_Vi (pc := 79) C (r0 := r1) (σ2 := σ1) (As := [.int (σ.2.1 41 (Int32.toNatClampNeg x0)), .int (((σ.2.1 42 (Int32.toNatClampNeg x0)) : Int32) - (σ.2.1 41 (Int32.toNatClampNeg x0))), .int (σ.2.1 41 (Int32.toNatClampNeg x1)), .int (((σ.2.1 42 (Int32.toNatClampNeg x1)) : Int32) - (σ.2.1 41 (Int32.toNatClampNeg x1)))]) (rest := []) (hm _ _ _ _ rfl) ml_Dra_114 39 rfl rfl rfl d_Dra_hasSameSides_79 rfl rfl (by dsimp only; omega) (by dsimp only; omega) (Nat.le_of_ble_eq_true rfl) (Nat.le_of_ble_eq_true rfl) (Nat.le_of_ble_eq_true rfl) ?_
  have hF : d2_1 + 1 ≤ F := by omega
  have hLo : 48 * d2_1 + 48 ≤ Lo := by omega
  refine ax_if_eq (pc := 82) C 108 d_Dra_hasSameSides_82 (by decide) (fun hc => ?_) (fun hc => ?_)
  · have h := it_t hc h
    refine ax_ls ([(0, .ref (u 39)), (1, .int x0), (2, .int x1), (3, .int (((σ.2.1 42 (Int32.toNatClampNeg x0)) : Int32) - (σ.2.1 41 (Int32.toNatClampNeg x0)))), (4, .int (((σ.2.1 41 (Int32.toNatClampNeg ((x0 : Int32) + 1))) : Int32) - (σ.2.1 42 (Int32.toNatClampNeg x0)))), (5, .int (((σ.2.1 42 (Int32.toNatClampNeg x1)) : Int32) - (σ.2.1 41 (Int32.toNatClampNeg x1)))), (6, .int (((σ.2.1 41 (Int32.toNatClampNeg ((x1 : Int32) + 1))) : Int32) - (σ.2.1 42 (Int32.toNatClampNeg x1))))]) [4, 5, 6, 3, 2, 1, 0] rfl ?_
    have hm : sC_Dra_hasSameSides_p108 l D kA u w tx σ1 [x0, x1, (((σ.2.1 42 (Int32.toNatClampNeg x0)) : Int32) - (σ.2.1 41 (Int32.toNatClampNeg x0))), (((σ.2.1 41 (Int32.toNatClampNeg ((x0 : Int32) + 1))) : Int32) - (σ.2.1 42 (Int32.toNatClampNeg x0))), (((σ.2.1 42 (Int32.toNatClampNeg x1)) : Int32) - (σ.2.1 41 (Int32.toNatClampNeg x1))), (((σ.2.1 41 (Int32.toNatClampNeg ((x1 : Int32) + 1))) : Int32) - (σ.2.1 42 (Int32.toNatClampNeg x1)))] (σf, rf, _) := ih tC_Dra_hasSameSides_p108 _ _ _ h
    exact hm _ _ _ _ _ _ rfl p e s m args below meth c F Lo σ0 hF hLo C
  · have h := it_f hc h
    refine ax_aload_n (pc := 85) C d_Dra_hasSameSides_85 rfl 4 rfl ?_
    refine ax_aload_n (pc := 86) C d_Dra_hasSameSides_86 rfl 4 rfl ?_
    refine cg_39_2_Dra_18 (pc := 87) C d_Dra_hasSameSides_87 ?_
    refine ax_iload_n (pc := 90) C d_Dra_hasSameSides_90 rfl 5 rfl ?_
    obtain ⟨hb, h⟩ := it_g h
    refine cl_42 (pc := 91) C d_Dra_hasSameSides_91 (bin_in hb) ?_
    refine ax_iload (pc := 92) C d_Dra_hasSameSides_92 2 rfl ?_
    refine ax_aload_n (pc := 94) C d_Dra_hasSameSides_94 rfl 4 rfl ?_
    refine cg_39_2_Dra_18 (pc := 95) C d_Dra_hasSameSides_95 ?_
    refine ax_iload_n (pc := 98) C d_Dra_hasSameSides_98 rfl 6 rfl ?_
    obtain ⟨hb, h⟩ := it_g h
    refine cl_42 (pc := 99) C d_Dra_hasSameSides_99 (bin_in hb) ?_
    refine ax_iload (pc := 100) C d_Dra_hasSameSides_100 0 rfl ?_
    obtain ⟨σ2, r2, d1_2, d2_2, h1, h, hd2, hd1⟩ := it_b h
    have hm : sC_Dra_isSame l D kA u w tx σ1 [(σ1.2.1 42 (Int32.toNatClampNeg x0)), (((σ.2.1 41 (Int32.toNatClampNeg ((x0 : Int32) + 1))) : Int32) - (σ.2.1 42 (Int32.toNatClampNeg x0))), (σ1.2.1 42 (Int32.toNatClampNeg x1)), (((σ.2.1 41 (Int32.toNatClampNeg ((x1 : Int32) + 1))) : Int32) - (σ.2.1 42 (Int32.toNatClampNeg x1)))] (σ2, r2, d1_2) := ih tC_Dra_isSame _ _ _ h1
    refine cc_Vi (pc := 102) C (r0 := r2) (σ2 := σ2) (As := [.int (σ1.2.1 42 (Int32.toNatClampNeg x0)), .int (((σ.2.1 41 (Int32.toNatClampNeg ((x0 : Int32) + 1))) : Int32) - (σ.2.1 42 (Int32.toNatClampNeg x0))), .int (σ1.2.1 42 (Int32.toNatClampNeg x1)), .int (((σ.2.1 41 (Int32.toNatClampNeg ((x1 : Int32) + 1))) : Int32) - (σ.2.1 42 (Int32.toNatClampNeg x1)))]) (rest := []) (hm _ _ _ _ rfl) ml_Dra_114 39 rfl rfl rfl d_Dra_hasSameSides_102 rfl rfl (by dsimp only; omega) (by dsimp only; omega) (Nat.le_of_ble_eq_true rfl) (Nat.le_of_ble_eq_true rfl) (Nat.le_of_ble_eq_true rfl) ?_
    have hF : d2_2 + 1 ≤ F := by omega
    have hLo : 48 * d2_2 + 48 ≤ Lo := by omega
    refine ax_if_ne (pc := 105) C 153 d_Dra_hasSameSides_105 (by decide) (fun hc => ?_) (fun hc => ?_)
    · have h := it_f hc h
      refine ax_ls ([(0, .ref (u 39)), (1, .int x0), (2, .int x1), (3, .int (((σ.2.1 42 (Int32.toNatClampNeg x0)) : Int32) - (σ.2.1 41 (Int32.toNatClampNeg x0)))), (4, .int (((σ.2.1 41 (Int32.toNatClampNeg ((x0 : Int32) + 1))) : Int32) - (σ.2.1 42 (Int32.toNatClampNeg x0)))), (5, .int (((σ.2.1 42 (Int32.toNatClampNeg x1)) : Int32) - (σ.2.1 41 (Int32.toNatClampNeg x1)))), (6, .int (((σ.2.1 41 (Int32.toNatClampNeg ((x1 : Int32) + 1))) : Int32) - (σ.2.1 42 (Int32.toNatClampNeg x1))))]) [4, 5, 6, 3, 2, 1, 0] rfl ?_
      have hm : sC_Dra_hasSameSides_p153 l D kA u w tx σ2 [x0, x1, (((σ.2.1 42 (Int32.toNatClampNeg x0)) : Int32) - (σ.2.1 41 (Int32.toNatClampNeg x0))), (((σ.2.1 41 (Int32.toNatClampNeg ((x0 : Int32) + 1))) : Int32) - (σ.2.1 42 (Int32.toNatClampNeg x0))), (((σ.2.1 42 (Int32.toNatClampNeg x1)) : Int32) - (σ.2.1 41 (Int32.toNatClampNeg x1))), (((σ.2.1 41 (Int32.toNatClampNeg ((x1 : Int32) + 1))) : Int32) - (σ.2.1 42 (Int32.toNatClampNeg x1)))] (σf, rf, _) := ih tC_Dra_hasSameSides_p153 _ _ _ h
      exact hm _ _ _ _ _ _ rfl p e s m args below meth c F Lo σ0 hF hLo C
    · have h := it_t hc h
      refine ax_ls ([(0, .ref (u 39)), (1, .int x0), (2, .int x1), (3, .int (((σ.2.1 42 (Int32.toNatClampNeg x0)) : Int32) - (σ.2.1 41 (Int32.toNatClampNeg x0)))), (4, .int (((σ.2.1 41 (Int32.toNatClampNeg ((x0 : Int32) + 1))) : Int32) - (σ.2.1 42 (Int32.toNatClampNeg x0)))), (5, .int (((σ.2.1 42 (Int32.toNatClampNeg x1)) : Int32) - (σ.2.1 41 (Int32.toNatClampNeg x1)))), (6, .int (((σ.2.1 41 (Int32.toNatClampNeg ((x1 : Int32) + 1))) : Int32) - (σ.2.1 42 (Int32.toNatClampNeg x1))))]) [4, 5, 6, 3, 2, 1, 0] rfl ?_
      have hm : sC_Dra_hasSameSides_p108 l D kA u w tx σ2 [x0, x1, (((σ.2.1 42 (Int32.toNatClampNeg x0)) : Int32) - (σ.2.1 41 (Int32.toNatClampNeg x0))), (((σ.2.1 41 (Int32.toNatClampNeg ((x0 : Int32) + 1))) : Int32) - (σ.2.1 42 (Int32.toNatClampNeg x0))), (((σ.2.1 42 (Int32.toNatClampNeg x1)) : Int32) - (σ.2.1 41 (Int32.toNatClampNeg x1))), (((σ.2.1 41 (Int32.toNatClampNeg ((x1 : Int32) + 1))) : Int32) - (σ.2.1 42 (Int32.toNatClampNeg x1)))] (σf, rf, _) := ih tC_Dra_hasSameSides_p108 _ _ _ h
      exact hm _ _ _ _ _ _ rfl p e s m args below meth c F Lo σ0 hF hLo C
set_option maxHeartbeats 4000000 in
set_option maxRecDepth 100000 in
theorem oC_Dra_hasSameSides_p108 (l : Launch) (D : va_G) (kA : Nat → ClassId) (u w : Nat → Nat) (tx : Value) (rec : mF) (ih : ∀ t σ xs res, rec t σ xs = some res → cSem l D kA u w tx t σ xs res) (σ : mS) (xs : List Int32) (res : mR) (h : u_6 (kC_Dra_hasSameSides_p108 rec σ) xs = some res) : sC_Dra_hasSameSides_p108 l D kA u w tx σ xs res := by
  intro x0 x1 x2 x3 x4 x5 hxs
  subst hxs
  obtain ⟨σf, rf, dd⟩ := res
  have h : (if bin x0 9 = true then (if bin x1 8 = true then (bnd (rec tC_Dra_isSame σ [(σ.2.1 41 (Int32.toNatClampNeg x0)), x2, (σ.2.1 42 (Int32.toNatClampNeg x1)), x5]) (fun σ1 r1 => if r1 = 0 then (rec tC_Dra_hasSameSides_p157 σ1 [x0, x1, x2, x3, x4, x5]) else (if bin x0 8 = true then (if bin x1 9 = true then (bnd (rec tC_Dra_isSame σ1 [(σ1.2.1 42 (Int32.toNatClampNeg x0)), x3, (σ1.2.1 41 (Int32.toNatClampNeg x1)), x4]) (fun σ2 r2 => if r2 = 0 then (rec tC_Dra_hasSameSides_p157 σ2 [x0, x1, x2, x3, x4, x5]) else (rec tC_Dra_hasSameSides_p153 σ2 [x0, x1, x2, x3, x4, x5]))) else none) else none))) else none) else none) = some (σf, rf, dd) := h
  intro p e s m args below meth c F Lo σ0 hF hLo C
  dsimp only at hF hLo ⊢
  refine ax_aload_n (pc := 108) C d_Dra_hasSameSides_108 rfl 0 rfl ?_
  refine ax_aload_n (pc := 109) C d_Dra_hasSameSides_109 rfl 0 rfl ?_
  refine cg_39_1_Dra_15 (pc := 110) C d_Dra_hasSameSides_110 ?_
  refine ax_iload_n (pc := 113) C d_Dra_hasSameSides_113 rfl 1 rfl ?_
  obtain ⟨hb, h⟩ := it_g h
  refine cl_41 (pc := 114) C d_Dra_hasSameSides_114 (bin_in hb) ?_
  refine ax_iload_n (pc := 115) C d_Dra_hasSameSides_115 rfl 3 rfl ?_
  refine ax_aload_n (pc := 116) C d_Dra_hasSameSides_116 rfl 0 rfl ?_
  refine cg_39_2_Dra_18 (pc := 117) C d_Dra_hasSameSides_117 ?_
  refine ax_iload_n (pc := 120) C d_Dra_hasSameSides_120 rfl 2 rfl ?_
  obtain ⟨hb, h⟩ := it_g h
  refine cl_42 (pc := 121) C d_Dra_hasSameSides_121 (bin_in hb) ?_
  refine ax_iload (pc := 122) C d_Dra_hasSameSides_122 6 rfl ?_
  obtain ⟨σ1, r1, d1_1, d2_1, h1, h, hd2, hd1⟩ := it_b h
  have hm : sC_Dra_isSame l D kA u w tx σ [(σ.2.1 41 (Int32.toNatClampNeg x0)), x2, (σ.2.1 42 (Int32.toNatClampNeg x1)), x5] (σ1, r1, d1_1) := ih tC_Dra_isSame _ _ _ h1
  refine cc_Vi (pc := 124) C (r0 := r1) (σ2 := σ1) (As := [.int (σ.2.1 41 (Int32.toNatClampNeg x0)), .int x2, .int (σ.2.1 42 (Int32.toNatClampNeg x1)), .int x5]) (rest := []) (hm _ _ _ _ rfl) ml_Dra_114 39 rfl rfl rfl d_Dra_hasSameSides_124 rfl rfl (by dsimp only; omega) (by dsimp only; omega) (Nat.le_of_ble_eq_true rfl) (Nat.le_of_ble_eq_true rfl) (Nat.le_of_ble_eq_true rfl) ?_
  have hF : d2_1 + 1 ≤ F := by omega
  have hLo : 48 * d2_1 + 48 ≤ Lo := by omega
  refine ax_if_eq (pc := 127) C 157 d_Dra_hasSameSides_127 (by decide) (fun hc => ?_) (fun hc => ?_)
  · have h := it_t hc h
    refine ax_ls ([(0, .ref (u 39)), (1, .int x0), (2, .int x1), (3, .int x2), (4, .int x3), (5, .int x4), (6, .int x5)]) [0, 1, 2, 3, 4, 5, 6] rfl ?_
    have hm : sC_Dra_hasSameSides_p157 l D kA u w tx σ1 [x0, x1, x2, x3, x4, x5] (σf, rf, _) := ih tC_Dra_hasSameSides_p157 _ _ _ h
    exact hm _ _ _ _ _ _ rfl p e s m args below meth c F Lo σ0 hF hLo C
  · have h := it_f hc h
    refine ax_aload_n (pc := 130) C d_Dra_hasSameSides_130 rfl 0 rfl ?_
    refine ax_aload_n (pc := 131) C d_Dra_hasSameSides_131 rfl 0 rfl ?_
    refine cg_39_2_Dra_18 (pc := 132) C d_Dra_hasSameSides_132 ?_
    refine ax_iload_n (pc := 135) C d_Dra_hasSameSides_135 rfl 1 rfl ?_
    obtain ⟨hb, h⟩ := it_g h
    refine cl_42 (pc := 136) C d_Dra_hasSameSides_136 (bin_in hb) ?_
    refine ax_iload (pc := 137) C d_Dra_hasSameSides_137 4 rfl ?_
    refine ax_aload_n (pc := 139) C d_Dra_hasSameSides_139 rfl 0 rfl ?_
    refine cg_39_1_Dra_15 (pc := 140) C d_Dra_hasSameSides_140 ?_
    refine ax_iload_n (pc := 143) C d_Dra_hasSameSides_143 rfl 2 rfl ?_
    obtain ⟨hb, h⟩ := it_g h
    refine cl_41 (pc := 144) C d_Dra_hasSameSides_144 (bin_in hb) ?_
    refine ax_iload (pc := 145) C d_Dra_hasSameSides_145 5 rfl ?_
    obtain ⟨σ2, r2, d1_2, d2_2, h1, h, hd2, hd1⟩ := it_b h
    have hm : sC_Dra_isSame l D kA u w tx σ1 [(σ1.2.1 42 (Int32.toNatClampNeg x0)), x3, (σ1.2.1 41 (Int32.toNatClampNeg x1)), x4] (σ2, r2, d1_2) := ih tC_Dra_isSame _ _ _ h1
    refine cc_Vi (pc := 147) C (r0 := r2) (σ2 := σ2) (As := [.int (σ1.2.1 42 (Int32.toNatClampNeg x0)), .int x3, .int (σ1.2.1 41 (Int32.toNatClampNeg x1)), .int x4]) (rest := []) (hm _ _ _ _ rfl) ml_Dra_114 39 rfl rfl rfl d_Dra_hasSameSides_147 rfl rfl (by dsimp only; omega) (by dsimp only; omega) (Nat.le_of_ble_eq_true rfl) (Nat.le_of_ble_eq_true rfl) (Nat.le_of_ble_eq_true rfl) ?_
    have hF : d2_2 + 1 ≤ F := by omega
    have hLo : 48 * d2_2 + 48 ≤ Lo := by omega
    refine ax_if_eq (pc := 150) C 157 d_Dra_hasSameSides_150 (by decide) (fun hc => ?_) (fun hc => ?_)
    · have h := it_t hc h
      refine ax_ls ([(0, .ref (u 39)), (1, .int x0), (2, .int x1), (3, .int x2), (4, .int x3), (5, .int x4), (6, .int x5)]) [0, 1, 2, 3, 4, 5, 6] rfl ?_
      have hm : sC_Dra_hasSameSides_p157 l D kA u w tx σ2 [x0, x1, x2, x3, x4, x5] (σf, rf, _) := ih tC_Dra_hasSameSides_p157 _ _ _ h
      exact hm _ _ _ _ _ _ rfl p e s m args below meth c F Lo σ0 hF hLo C
    · have h := it_f hc h
      refine ax_ls ([(0, .ref (u 39)), (1, .int x0), (2, .int x1), (3, .int x2), (4, .int x3), (5, .int x4), (6, .int x5)]) [0, 1, 2, 3, 4, 5, 6] rfl ?_
      have hm : sC_Dra_hasSameSides_p153 l D kA u w tx σ2 [x0, x1, x2, x3, x4, x5] (σf, rf, _) := ih tC_Dra_hasSameSides_p153 _ _ _ h
      exact hm _ _ _ _ _ _ rfl p e s m args below meth c F Lo σ0 hF hLo C
set_option maxHeartbeats 4000000 in
set_option maxRecDepth 100000 in
theorem oC_Dra_hasSameSides_p153 (l : Launch) (D : va_G) (kA : Nat → ClassId) (u w : Nat → Nat) (tx : Value) (rec : mF) (ih : ∀ t σ xs res, rec t σ xs = some res → cSem l D kA u w tx t σ xs res) (σ : mS) (xs : List Int32) (res : mR) (h : u_6 (kC_Dra_hasSameSides_p153 rec σ) xs = some res) : sC_Dra_hasSameSides_p153 l D kA u w tx σ xs res := by
  intro x0 x1 x2 x3 x4 x5 hxs
  subst hxs
  obtain ⟨σf, rf, dd⟩ := res
  have h : (rec tC_Dra_hasSameSides_p158 σ [x0, x1, x2, x3, x4, x5, 1]) = some (σf, rf, dd) := h
  intro p e s m args below meth c F Lo σ0 hF hLo C
  dsimp only at hF hLo ⊢
  refine ax_iconst (pc := 153) C 1 d_Dra_hasSameSides_153 (by decide +kernel) ?_
  refine ax_goto (pc := 154) C 158 d_Dra_hasSameSides_154 (by decide) ?_
  refine ax_ls ([(0, .ref (u 39)), (1, .int x0), (2, .int x1), (3, .int x2), (4, .int x3), (5, .int x4), (6, .int x5)]) [0, 1, 2, 3, 4, 5, 6] rfl ?_
  have hm : sC_Dra_hasSameSides_p158 l D kA u w tx σ [x0, x1, x2, x3, x4, x5, 1] (σf, rf, _) := ih tC_Dra_hasSameSides_p158 _ _ _ h
  exact hm _ _ _ _ _ _ _ rfl p e s m args below meth c F Lo σ0 hF hLo C
set_option maxHeartbeats 4000000 in
set_option maxRecDepth 100000 in
theorem oC_Dra_hasSameSides_p157 (l : Launch) (D : va_G) (kA : Nat → ClassId) (u w : Nat → Nat) (tx : Value) (rec : mF) (ih : ∀ t σ xs res, rec t σ xs = some res → cSem l D kA u w tx t σ xs res) (σ : mS) (xs : List Int32) (res : mR) (h : u_6 (kC_Dra_hasSameSides_p157 rec σ) xs = some res) : sC_Dra_hasSameSides_p157 l D kA u w tx σ xs res := by
  intro x0 x1 x2 x3 x4 x5 hxs
  subst hxs
  obtain ⟨σf, rf, dd⟩ := res
  have h : (rec tC_Dra_hasSameSides_p158 σ [x0, x1, x2, x3, x4, x5, 0]) = some (σf, rf, dd) := h
  intro p e s m args below meth c F Lo σ0 hF hLo C
  dsimp only at hF hLo ⊢
  refine ax_iconst (pc := 157) C 0 d_Dra_hasSameSides_157 (by decide +kernel) ?_
  refine ax_ls ([(0, .ref (u 39)), (1, .int x0), (2, .int x1), (3, .int x2), (4, .int x3), (5, .int x4), (6, .int x5)]) [0, 1, 2, 3, 4, 5, 6] rfl ?_
  have hm : sC_Dra_hasSameSides_p158 l D kA u w tx σ [x0, x1, x2, x3, x4, x5, 0] (σf, rf, _) := ih tC_Dra_hasSameSides_p158 _ _ _ h
  exact hm _ _ _ _ _ _ _ rfl p e s m args below meth c F Lo σ0 hF hLo C
set_option maxHeartbeats 4000000 in
set_option maxRecDepth 100000 in
theorem oC_Dra_hasSameSides_p158 (l : Launch) (D : va_G) (kA : Nat → ClassId) (u w : Nat → Nat) (tx : Value) (rec : mF) (ih : ∀ t σ xs res, rec t σ xs = some res → cSem l D kA u w tx t σ xs res) (σ : mS) (xs : List Int32) (res : mR) (h : u_7 (kC_Dra_hasSameSides_p158 rec σ) xs = some res) : sC_Dra_hasSameSides_p158 l D kA u w tx σ xs res := by
  intro x0 x1 x2 x3 x4 x5 x6 hxs
  subst hxs
  obtain ⟨σf, rf, dd⟩ := res
  have h : (if x6 = 0 ∨ x6 = 1 then some (σ, x6, 0) else none) = some (σf, rf, dd) := h
  intro p e s m args below meth c F Lo σ0 hF hLo C
  dsimp only at hF hLo ⊢
  obtain ⟨hb, h⟩ := it_g h
  cases h
  exact ax_zret (pc := 158) C d_Dra_hasSameSides_158 (nb01 hb) ⟨rfl, rfl⟩ (Nat.le_refl _) (Nat.le_refl _)
set_option maxHeartbeats 4000000 in
set_option maxRecDepth 100000 in
theorem oC_Dra_isSame (l : Launch) (D : va_G) (kA : Nat → ClassId) (u w : Nat → Nat) (tx : Value) (rec : mF) (ih : ∀ t σ xs res, rec t σ xs = some res → cSem l D kA u w tx t σ xs res) (σ : mS) (xs : List Int32) (res : mR) (h : u_4 (kC_Dra_isSame rec σ) xs = some res) : sC_Dra_isSame l D kA u w tx σ xs res := by
  intro x0 x1 x2 x3 hxs
  subst hxs
  obtain ⟨σf, rf, dd⟩ := res
  have h : (if x1 = x3 then (rec tC_Dra_isSame_p11 σ [x0, x1, x2, x3, 1]) else (rec tC_Dra_isSame_p11 σ [x0, x1, x2, x3, 0])) = some (σf, rf, dd) := h
  refine ax_Mi.of (by decide +kernel) (Nat.le_of_ble_eq_true rfl) ?_
  intro p e s m args below meth c C hnm
  have C : ax_C p s m args meth c b_Dra_isSame "ClauseProver$Draft" 7 (some .boolean) D kA (va_A (cpW kA u w tx σ) s.heap.size) := C
  obtain ⟨F, hFe⟩ : ∃ F, F = dd + 1 := ⟨_, rfl⟩
  obtain ⟨Lo, hLoe⟩ : ∃ Lo, Lo = 48 * dd + 48 := ⟨_, rfl⟩
  obtain ⟨σ0, hσ0⟩ : ∃ s0, s0 = σ := ⟨_, rfl⟩
  suffices K : AW p l e { frames := F, cells := 0, slots := 0, locals := Lo } s m args below meth c D kA (va_A (cpW kA u w tx σ0) s.heap.size) 7 (ax_Qi below args s D kA (cpW kA u w tx σ0) 0 0 (fun r w1 => r = rf ∧ w1 = cpW kA u w tx σf)) 0 [(0, .ref (u 39)), (1, .int x0), (2, .int x1), (3, .int x2), (4, .int x3)] [] (cpW kA u w tx σ) 0 0 by rw [hFe, hLoe, hσ0] at K; exact ax_ls ([(0, .ref (u 39)), (1, .int x0), (2, .int x1), (3, .int x2), (4, .int x3)]) [0, 1, 2, 3, 4] rfl K
  have C : ax_C p s m args meth c b_Dra_isSame "ClauseProver$Draft" 7 (some .boolean) D kA (va_A (cpW kA u w tx σ0) s.heap.size) := by rw [hσ0]; exact C
  have hF : dd + 1 ≤ F := by omega
  have hLo : 48 * dd + 48 ≤ Lo := by omega
  clear hFe hLoe hσ0
  refine ax_iload_n (pc := 0) C d_Dra_isSame_0 rfl 2 rfl ?_
  refine ax_iload (pc := 1) C d_Dra_isSame_1 4 rfl ?_
  refine ax_icmp_ne (pc := 3) C 10 d_Dra_isSame_3 (by decide) (fun hc => ?_) (fun hc => ?_)
  · have h := it_f hc h
    refine ax_iconst (pc := 10) C 0 d_Dra_isSame_10 (by decide +kernel) ?_
    refine ax_ls ([(0, .ref (u 39)), (1, .int x0), (2, .int x1), (3, .int x2), (4, .int x3)]) [0, 1, 2, 3, 4] rfl ?_
    have hm : sC_Dra_isSame_p11 l D kA u w tx σ [x0, x1, x2, x3, 0] (σf, rf, _) := ih tC_Dra_isSame_p11 _ _ _ h
    exact hm _ _ _ _ _ rfl p e s m args below meth c F Lo σ0 hF hLo C
  · have h := it_t hc h
    refine ax_iconst (pc := 6) C 1 d_Dra_isSame_6 (by decide +kernel) ?_
    refine ax_goto (pc := 7) C 11 d_Dra_isSame_7 (by decide) ?_
    refine ax_ls ([(0, .ref (u 39)), (1, .int x0), (2, .int x1), (3, .int x2), (4, .int x3)]) [0, 1, 2, 3, 4] rfl ?_
    have hm : sC_Dra_isSame_p11 l D kA u w tx σ [x0, x1, x2, x3, 1] (σf, rf, _) := ih tC_Dra_isSame_p11 _ _ _ h
    exact hm _ _ _ _ _ rfl p e s m args below meth c F Lo σ0 hF hLo C
set_option maxHeartbeats 4000000 in
set_option maxRecDepth 100000 in
theorem oC_Dra_isSame_p11 (l : Launch) (D : va_G) (kA : Nat → ClassId) (u w : Nat → Nat) (tx : Value) (rec : mF) (ih : ∀ t σ xs res, rec t σ xs = some res → cSem l D kA u w tx t σ xs res) (σ : mS) (xs : List Int32) (res : mR) (h : u_5 (kC_Dra_isSame_p11 rec σ) xs = some res) : sC_Dra_isSame_p11 l D kA u w tx σ xs res := by
  intro x0 x1 x2 x3 x4 hxs
  subst hxs
  obtain ⟨σf, rf, dd⟩ := res
  have h : (rec tC_Dra_isSame_p16 σ [x0, x1, x2, x3, x4, 0]) = some (σf, rf, dd) := h
  intro p e s m args below meth c F Lo σ0 hF hLo C
  dsimp only at hF hLo ⊢
  refine ax_istore (pc := 11) C d_Dra_isSame_11 (Nat.le_of_ble_eq_true rfl) ([(5, .int x4), (0, .ref (u 39)), (1, .int x0), (2, .int x1), (3, .int x2), (4, .int x3)]) rfl ?_
  refine ax_iconst (pc := 13) C 0 d_Dra_isSame_13 (by decide +kernel) ?_
  refine ax_istore (pc := 14) C d_Dra_isSame_14 (Nat.le_of_ble_eq_true rfl) ([(6, .int 0), (5, .int x4), (0, .ref (u 39)), (1, .int x0), (2, .int x1), (3, .int x2), (4, .int x3)]) rfl ?_
  refine ax_ls ([(0, .ref (u 39)), (1, .int x0), (2, .int x1), (3, .int x2), (4, .int x3), (5, .int x4), (6, .int 0)]) [2, 3, 4, 5, 6, 1, 0] rfl ?_
  have hm : sC_Dra_isSame_p16 l D kA u w tx σ [x0, x1, x2, x3, x4, 0] (σf, rf, _) := ih tC_Dra_isSame_p16 _ _ _ h
  exact hm _ _ _ _ _ _ rfl p e s m args below meth c F Lo σ0 hF hLo C
set_option maxHeartbeats 4000000 in
set_option maxRecDepth 100000 in
theorem oC_Dra_isSame_p16 (l : Launch) (D : va_G) (kA : Nat → ClassId) (u w : Nat → Nat) (tx : Value) (rec : mF) (ih : ∀ t σ xs res, rec t σ xs = some res → cSem l D kA u w tx t σ xs res) (σ : mS) (xs : List Int32) (res : mR) (h : u_6 (kC_Dra_isSame_p16 rec σ) xs = some res) : sC_Dra_isSame_p16 l D kA u w tx σ xs res := by
  intro x0 x1 x2 x3 x4 x5 hxs
  subst hxs
  obtain ⟨σf, rf, dd⟩ := res
  have h : (if x1 ≤ x5 then (rec tC_Dra_isSame_p61 σ [x0, x1, x2, x3, x4, x5]) else (if x4 = 0 then (rec tC_Dra_isSame_p61 σ [x0, x1, x2, x3, x4, x5]) else (if bin ((x0 : Int32) + x5) 100 = true then (if bin ((x2 : Int32) + x5) 100 = true then (if (σ.2.1 40 (Int32.toNatClampNeg ((x0 : Int32) + x5))) = (σ.2.1 40 (Int32.toNatClampNeg ((x2 : Int32) + x5))) then (rec tC_Dra_isSame_p53 σ [x0, x1, x2, x3, x4, x5, 1]) else (rec tC_Dra_isSame_p53 σ [x0, x1, x2, x3, x4, x5, 0])) else none) else none))) = some (σf, rf, dd) := h
  intro p e s m args below meth c F Lo σ0 hF hLo C
  dsimp only at hF hLo ⊢
  refine ax_iload (pc := 16) C d_Dra_isSame_16 6 rfl ?_
  refine ax_iload_n (pc := 18) C d_Dra_isSame_18 rfl 2 rfl ?_
  refine ax_icmp_ge (pc := 19) C 61 d_Dra_isSame_19 (by decide) (fun hc => ?_) (fun hc => ?_)
  · have h := it_t hc h
    refine ax_ls ([(0, .ref (u 39)), (1, .int x0), (2, .int x1), (3, .int x2), (4, .int x3), (5, .int x4), (6, .int x5)]) [0, 1, 2, 3, 4, 5, 6] rfl ?_
    have hm : sC_Dra_isSame_p61 l D kA u w tx σ [x0, x1, x2, x3, x4, x5] (σf, rf, _) := ih tC_Dra_isSame_p61 _ _ _ h
    exact hm _ _ _ _ _ _ rfl p e s m args below meth c F Lo σ0 hF hLo C
  · have h := it_f hc h
    refine ax_iload (pc := 22) C d_Dra_isSame_22 5 rfl ?_
    refine ax_if_eq (pc := 24) C 61 d_Dra_isSame_24 (by decide) (fun hc => ?_) (fun hc => ?_)
    · have h := it_t hc h
      refine ax_ls ([(0, .ref (u 39)), (1, .int x0), (2, .int x1), (3, .int x2), (4, .int x3), (5, .int x4), (6, .int x5)]) [0, 1, 2, 3, 4, 5, 6] rfl ?_
      have hm : sC_Dra_isSame_p61 l D kA u w tx σ [x0, x1, x2, x3, x4, x5] (σf, rf, _) := ih tC_Dra_isSame_p61 _ _ _ h
      exact hm _ _ _ _ _ _ rfl p e s m args below meth c F Lo σ0 hF hLo C
    · have h := it_f hc h
      refine ax_aload_n (pc := 27) C d_Dra_isSame_27 rfl 0 rfl ?_
      refine cg_39_0_Dra_9 (pc := 28) C d_Dra_isSame_28 ?_
      refine ax_iload_n (pc := 31) C d_Dra_isSame_31 rfl 1 rfl ?_
      refine ax_iload (pc := 32) C d_Dra_isSame_32 6 rfl ?_
      refine ax_iadd (pc := 34) C d_Dra_isSame_34 ?_
      obtain ⟨hb, h⟩ := it_g h
      refine cl_40 (pc := 35) C d_Dra_isSame_35 (bin_in hb) ?_
      refine ax_aload_n (pc := 36) C d_Dra_isSame_36 rfl 0 rfl ?_
      refine cg_39_0_Dra_9 (pc := 37) C d_Dra_isSame_37 ?_
      refine ax_iload_n (pc := 40) C d_Dra_isSame_40 rfl 3 rfl ?_
      refine ax_iload (pc := 41) C d_Dra_isSame_41 6 rfl ?_
      refine ax_iadd (pc := 43) C d_Dra_isSame_43 ?_
      obtain ⟨hb, h⟩ := it_g h
      refine cl_40 (pc := 44) C d_Dra_isSame_44 (bin_in hb) ?_
      refine ax_icmp_ne (pc := 45) C 52 d_Dra_isSame_45 (by decide) (fun hc => ?_) (fun hc => ?_)
      · have h := it_f hc h
        refine ax_iconst (pc := 52) C 0 d_Dra_isSame_52 (by decide +kernel) ?_
        refine ax_ls ([(0, .ref (u 39)), (1, .int x0), (2, .int x1), (3, .int x2), (4, .int x3), (5, .int x4), (6, .int x5)]) [0, 1, 2, 3, 4, 5, 6] rfl ?_
        have hm : sC_Dra_isSame_p53 l D kA u w tx σ [x0, x1, x2, x3, x4, x5, 0] (σf, rf, _) := ih tC_Dra_isSame_p53 _ _ _ h
        exact hm _ _ _ _ _ _ _ rfl p e s m args below meth c F Lo σ0 hF hLo C
      · have h := it_t hc h
        refine ax_iconst (pc := 48) C 1 d_Dra_isSame_48 (by decide +kernel) ?_
        refine ax_goto (pc := 49) C 53 d_Dra_isSame_49 (by decide) ?_
        refine ax_ls ([(0, .ref (u 39)), (1, .int x0), (2, .int x1), (3, .int x2), (4, .int x3), (5, .int x4), (6, .int x5)]) [0, 1, 2, 3, 4, 5, 6] rfl ?_
        have hm : sC_Dra_isSame_p53 l D kA u w tx σ [x0, x1, x2, x3, x4, x5, 1] (σf, rf, _) := ih tC_Dra_isSame_p53 _ _ _ h
        exact hm _ _ _ _ _ _ _ rfl p e s m args below meth c F Lo σ0 hF hLo C
set_option maxHeartbeats 4000000 in
set_option maxRecDepth 100000 in
theorem oC_Dra_isSame_p53 (l : Launch) (D : va_G) (kA : Nat → ClassId) (u w : Nat → Nat) (tx : Value) (rec : mF) (ih : ∀ t σ xs res, rec t σ xs = some res → cSem l D kA u w tx t σ xs res) (σ : mS) (xs : List Int32) (res : mR) (h : u_7 (kC_Dra_isSame_p53 rec σ) xs = some res) : sC_Dra_isSame_p53 l D kA u w tx σ xs res := by
  intro x0 x1 x2 x3 x4 x5 x6 hxs
  subst hxs
  obtain ⟨σf, rf, dd⟩ := res
  have h : (rec tC_Dra_isSame_p16 σ [x0, x1, x2, x3, x6, (x5 + 1)]) = some (σf, rf, dd) := h
  intro p e s m args below meth c F Lo σ0 hF hLo C
  dsimp only at hF hLo ⊢
  refine ax_istore (pc := 53) C d_Dra_isSame_53 (Nat.le_of_ble_eq_true rfl) ([(5, .int x6), (0, .ref (u 39)), (1, .int x0), (2, .int x1), (3, .int x2), (4, .int x3), (6, .int x5)]) rfl ?_
  refine ax_iinc (pc := 55) C (x5 + 1) d_Dra_isSame_55 6 rfl rfl (Nat.le_of_ble_eq_true rfl) ([(6, .int (x5 + 1)), (5, .int x6), (0, .ref (u 39)), (1, .int x0), (2, .int x1), (3, .int x2), (4, .int x3)]) rfl ?_
  refine ax_goto (pc := 58) C 16 d_Dra_isSame_58 (by decide) ?_
  refine ax_ls ([(0, .ref (u 39)), (1, .int x0), (2, .int x1), (3, .int x2), (4, .int x3), (5, .int x6), (6, .int (x5 + 1))]) [2, 3, 4, 5, 6, 1, 0] rfl ?_
  have hm : sC_Dra_isSame_p16 l D kA u w tx σ [x0, x1, x2, x3, x6, (x5 + 1)] (σf, rf, _) := ih tC_Dra_isSame_p16 _ _ _ h
  exact hm _ _ _ _ _ _ rfl p e s m args below meth c F Lo σ0 hF hLo C
set_option maxHeartbeats 4000000 in
set_option maxRecDepth 100000 in
theorem oC_Dra_isSame_p61 (l : Launch) (D : va_G) (kA : Nat → ClassId) (u w : Nat → Nat) (tx : Value) (rec : mF) (ih : ∀ t σ xs res, rec t σ xs = some res → cSem l D kA u w tx t σ xs res) (σ : mS) (xs : List Int32) (res : mR) (h : u_6 (kC_Dra_isSame_p61 rec σ) xs = some res) : sC_Dra_isSame_p61 l D kA u w tx σ xs res := by
  intro x0 x1 x2 x3 x4 x5 hxs
  subst hxs
  obtain ⟨σf, rf, dd⟩ := res
  have h : (if x4 = 0 ∨ x4 = 1 then some (σ, x4, 0) else none) = some (σf, rf, dd) := h
  intro p e s m args below meth c F Lo σ0 hF hLo C
  dsimp only at hF hLo ⊢
  refine ax_iload (pc := 61) C d_Dra_isSame_61 5 rfl ?_
  obtain ⟨hb, h⟩ := it_g h
  cases h
  exact ax_zret (pc := 63) C d_Dra_isSame_63 (nb01 hb) ⟨rfl, rfl⟩ (Nat.le_refl _) (Nat.le_refl _)
set_option maxHeartbeats 4000000 in
set_option maxRecDepth 100000 in
theorem oC_Dra_isTautology (l : Launch) (D : va_G) (kA : Nat → ClassId) (u w : Nat → Nat) (tx : Value) (rec : mF) (ih : ∀ t σ xs res, rec t σ xs = some res → cSem l D kA u w tx t σ xs res) (σ : mS) (xs : List Int32) (res : mR) (h : u_0 (kC_Dra_isTautology rec σ) xs = some res) : sC_Dra_isTautology l D kA u w tx σ xs res := by
  intro hxs
  subst hxs
  obtain ⟨σf, rf, dd⟩ := res
  have h : (rec tC_Dra_isTautology_p2 σ [0]) = some (σf, rf, dd) := h
  refine ax_Mi.of (by decide +kernel) (Nat.le_of_ble_eq_true rfl) ?_
  intro p e s m args below meth c C hnm
  have C : ax_C p s m args meth c b_Dra_isTautology "ClauseProver$Draft" 4 (some .boolean) D kA (va_A (cpW kA u w tx σ) s.heap.size) := C
  obtain ⟨F, hFe⟩ : ∃ F, F = dd + 1 := ⟨_, rfl⟩
  obtain ⟨Lo, hLoe⟩ : ∃ Lo, Lo = 48 * dd + 48 := ⟨_, rfl⟩
  obtain ⟨σ0, hσ0⟩ : ∃ s0, s0 = σ := ⟨_, rfl⟩
  suffices K : AW p l e { frames := F, cells := 0, slots := 0, locals := Lo } s m args below meth c D kA (va_A (cpW kA u w tx σ0) s.heap.size) 4 (ax_Qi below args s D kA (cpW kA u w tx σ0) 0 0 (fun r w1 => r = rf ∧ w1 = cpW kA u w tx σf)) 0 [(0, .ref (u 39))] [] (cpW kA u w tx σ) 0 0 by rw [hFe, hLoe, hσ0] at K; exact ax_ls ([(0, .ref (u 39))]) [0] rfl K
  have C : ax_C p s m args meth c b_Dra_isTautology "ClauseProver$Draft" 4 (some .boolean) D kA (va_A (cpW kA u w tx σ0) s.heap.size) := by rw [hσ0]; exact C
  have hF : dd + 1 ≤ F := by omega
  have hLo : 48 * dd + 48 ≤ Lo := by omega
  clear hFe hLoe hσ0
  refine ax_iconst (pc := 0) C 0 d_Dra_isTautology_0 (by decide +kernel) ?_
  refine ax_istore_n (pc := 1) C d_Dra_isTautology_1 rfl (Nat.le_of_ble_eq_true rfl) ([(1, .int 0), (0, .ref (u 39))]) rfl ?_
  refine ax_ls ([(0, .ref (u 39)), (1, .int 0)]) [1, 0] rfl ?_
  have hm : sC_Dra_isTautology_p2 l D kA u w tx σ [0] (σf, rf, _) := ih tC_Dra_isTautology_p2 _ _ _ h
  exact hm _ rfl p e s m args below meth c F Lo σ0 hF hLo C
set_option maxHeartbeats 4000000 in
set_option maxRecDepth 100000 in
theorem oC_Dra_isTautology_p2 (l : Launch) (D : va_G) (kA : Nat → ClassId) (u w : Nat → Nat) (tx : Value) (rec : mF) (ih : ∀ t σ xs res, rec t σ xs = some res → cSem l D kA u w tx t σ xs res) (σ : mS) (xs : List Int32) (res : mR) (h : u_1 (kC_Dra_isTautology_p2 rec σ) xs = some res) : sC_Dra_isTautology_p2 l D kA u w tx σ xs res := by
  intro x0 hxs
  subst hxs
  obtain ⟨σf, rf, dd⟩ := res
  have h : (if (σ.1 3905) ≤ x0 then (some (σ, 0, 0)) else (if bin x0 8 = true then (if bin x0 9 = true then (if bin x0 8 = true then (if (σ.2.1 43 (Int32.toNatClampNeg x0)) = 0 then (rec tC_Dra_isTautology_p70 σ [x0, (((σ.2.1 42 (Int32.toNatClampNeg x0)) : Int32) - (σ.2.1 41 (Int32.toNatClampNeg x0)))]) else (if bin x0 9 = true then (if bin x0 8 = true then (if bin ((x0 : Int32) + 1) 9 = true then (if bin x0 8 = true then (bnd (rec tC_Dra_isSame σ [(σ.2.1 41 (Int32.toNatClampNeg x0)), (((σ.2.1 42 (Int32.toNatClampNeg x0)) : Int32) - (σ.2.1 41 (Int32.toNatClampNeg x0))), (σ.2.1 42 (Int32.toNatClampNeg x0)), (((σ.2.1 41 (Int32.toNatClampNeg ((x0 : Int32) + 1))) : Int32) - (σ.2.1 42 (Int32.toNatClampNeg x0)))]) (fun σ1 r1 => if r1 = 0 then (rec tC_Dra_isTautology_p70 σ1 [x0, (((σ.2.1 42 (Int32.toNatClampNeg x0)) : Int32) - (σ.2.1 41 (Int32.toNatClampNeg x0)))]) else (some (σ1, 1, 0)))) else none) else none) else none) else none)) else none) else none) else none)) = some (σf, rf, dd) := h
  intro p e s m args below meth c F Lo σ0 hF hLo C
  dsimp only at hF hLo ⊢
  refine ax_iload_n (pc := 2) C d_Dra_isTautology_2 rfl 1 rfl ?_
  refine ax_aload_n (pc := 3) C d_Dra_isTautology_3 rfl 0 rfl ?_
  refine cg_39_5_Dra_51 (pc := 4) C d_Dra_isTautology_4 ?_
  refine ax_icmp_ge (pc := 7) C 115 d_Dra_isTautology_7 (by decide) (fun hc => ?_) (fun hc => ?_)
  · have h := it_t hc h
    refine ax_iconst (pc := 115) C 0 d_Dra_isTautology_115 (by decide +kernel) ?_
    cases h
    exact ax_zret (pc := 116) C d_Dra_isTautology_116 rfl ⟨rfl, rfl⟩ (Nat.le_refl _) (Nat.le_refl _)
  · have h := it_f hc h
    refine ax_aload_n (pc := 10) C d_Dra_isTautology_10 rfl 0 rfl ?_
    refine cg_39_2_Dra_18 (pc := 11) C d_Dra_isTautology_11 ?_
    refine ax_iload_n (pc := 14) C d_Dra_isTautology_14 rfl 1 rfl ?_
    obtain ⟨hb, h⟩ := it_g h
    refine cl_42 (pc := 15) C d_Dra_isTautology_15 (bin_in hb) ?_
    refine ax_aload_n (pc := 16) C d_Dra_isTautology_16 rfl 0 rfl ?_
    refine cg_39_1_Dra_15 (pc := 17) C d_Dra_isTautology_17 ?_
    refine ax_iload_n (pc := 20) C d_Dra_isTautology_20 rfl 1 rfl ?_
    obtain ⟨hb, h⟩ := it_g h
    refine cl_41 (pc := 21) C d_Dra_isTautology_21 (bin_in hb) ?_
    refine ax_isub (pc := 22) C d_Dra_isTautology_22 ?_
    refine ax_istore_n (pc := 23) C d_Dra_isTautology_23 rfl (Nat.le_of_ble_eq_true rfl) ([(2, .int (((σ.2.1 42 (Int32.toNatClampNeg x0)) : Int32) - (σ.2.1 41 (Int32.toNatClampNeg x0)))), (0, .ref (u 39)), (1, .int x0)]) rfl ?_
    refine ax_aload_n (pc := 24) C d_Dra_isTautology_24 rfl 1 rfl ?_
    refine cg_39_3_Dra_21 (pc := 25) C d_Dra_isTautology_25 ?_
    refine ax_iload_n (pc := 28) C d_Dra_isTautology_28 rfl 2 rfl ?_
    obtain ⟨hb, h⟩ := it_g h
    refine cl_43 (pc := 29) C d_Dra_isTautology_29 (bin_in hb) ?_
    refine ax_if_eq (pc := 30) C 70 d_Dra_isTautology_30 (by decide) (fun hc => ?_) (fun hc => ?_)
    · have h := it_t hc h
      refine ax_ls ([(0, .ref (u 39)), (1, .int x0), (2, .int (((σ.2.1 42 (Int32.toNatClampNeg x0)) : Int32) - (σ.2.1 41 (Int32.toNatClampNeg x0))))]) [1, 2, 0] rfl ?_
      have hm : sC_Dra_isTautology_p70 l D kA u w tx σ [x0, (((σ.2.1 42 (Int32.toNatClampNeg x0)) : Int32) - (σ.2.1 41 (Int32.toNatClampNeg x0)))] (σf, rf, _) := ih tC_Dra_isTautology_p70 _ _ _ h
      exact hm _ _ rfl p e s m args below meth c F Lo σ0 hF hLo C
    · have h := it_f hc h
      refine ax_aload_n (pc := 33) C d_Dra_isTautology_33 rfl 1 rfl ?_
      refine ax_aload_n (pc := 34) C d_Dra_isTautology_34 rfl 1 rfl ?_
      refine cg_39_1_Dra_15 (pc := 35) C d_Dra_isTautology_35 ?_
      refine ax_iload_n (pc := 38) C d_Dra_isTautology_38 rfl 2 rfl ?_
      obtain ⟨hb, h⟩ := it_g h
      refine cl_41 (pc := 39) C d_Dra_isTautology_39 (bin_in hb) ?_
      refine ax_iload_n (pc := 40) C d_Dra_isTautology_40 rfl 0 rfl ?_
      refine ax_aload_n (pc := 41) C d_Dra_isTautology_41 rfl 1 rfl ?_
      refine cg_39_2_Dra_18 (pc := 42) C d_Dra_isTautology_42 ?_
      refine ax_iload_n (pc := 45) C d_Dra_isTautology_45 rfl 2 rfl ?_
      obtain ⟨hb, h⟩ := it_g h
      refine cl_42 (pc := 46) C d_Dra_isTautology_46 (bin_in hb) ?_
      refine ax_aload_n (pc := 47) C d_Dra_isTautology_47 rfl 1 rfl ?_
      refine cg_39_1_Dra_15 (pc := 48) C d_Dra_isTautology_48 ?_
      refine ax_iload_n (pc := 51) C d_Dra_isTautology_51 rfl 2 rfl ?_
      refine ax_iconst (pc := 52) C 1 d_Dra_isTautology_52 (by decide +kernel) ?_
      refine ax_iadd (pc := 53) C d_Dra_isTautology_53 ?_
      obtain ⟨hb, h⟩ := it_g h
      refine cl_41 (pc := 54) C d_Dra_isTautology_54 (bin_in hb) ?_
      refine ax_aload_n (pc := 55) C d_Dra_isTautology_55 rfl 1 rfl ?_
      refine cg_39_2_Dra_18 (pc := 56) C d_Dra_isTautology_56 ?_
      refine ax_iload_n (pc := 59) C d_Dra_isTautology_59 rfl 2 rfl ?_
      obtain ⟨hb, h⟩ := it_g h
      refine cl_42 (pc := 60) C d_Dra_isTautology_60 (bin_in hb) ?_
      refine ax_isub (pc := 61) C d_Dra_isTautology_61 ?_
      obtain ⟨σ1, r1, d1_1, d2_1, h1, h, hd2, hd1⟩ := it_b h
      have hm : sC_Dra_isSame l D kA u w tx σ [(σ.2.1 41 (Int32.toNatClampNeg x0)), (((σ.2.1 42 (Int32.toNatClampNeg x0)) : Int32) - (σ.2.1 41 (Int32.toNatClampNeg x0))), (σ.2.1 42 (Int32.toNatClampNeg x0)), (((σ.2.1 41 (Int32.toNatClampNeg ((x0 : Int32) + 1))) : Int32) - (σ.2.1 42 (Int32.toNatClampNeg x0)))] (σ1, r1, d1_1) := ih tC_Dra_isSame _ _ _ h1
      refine cc_Vi (pc := 62) C (r0 := r1) (σ2 := σ1) (As := [.int (σ.2.1 41 (Int32.toNatClampNeg x0)), .int (((σ.2.1 42 (Int32.toNatClampNeg x0)) : Int32) - (σ.2.1 41 (Int32.toNatClampNeg x0))), .int (σ.2.1 42 (Int32.toNatClampNeg x0)), .int (((σ.2.1 41 (Int32.toNatClampNeg ((x0 : Int32) + 1))) : Int32) - (σ.2.1 42 (Int32.toNatClampNeg x0)))]) (rest := []) (hm _ _ _ _ rfl) ml_Dra_114 39 rfl rfl rfl d_Dra_isTautology_62 rfl rfl (by dsimp only; omega) (by dsimp only; omega) (Nat.le_of_ble_eq_true rfl) (Nat.le_of_ble_eq_true rfl) (Nat.le_of_ble_eq_true rfl) ?_
      have hF : d2_1 + 1 ≤ F := by omega
      have hLo : 48 * d2_1 + 48 ≤ Lo := by omega
      refine ax_if_eq (pc := 65) C 70 d_Dra_isTautology_65 (by decide) (fun hc => ?_) (fun hc => ?_)
      · have h := it_t hc h
        refine ax_ls ([(0, .ref (u 39)), (1, .int x0), (2, .int (((σ.2.1 42 (Int32.toNatClampNeg x0)) : Int32) - (σ.2.1 41 (Int32.toNatClampNeg x0))))]) [1, 2, 0] rfl ?_
        have hm : sC_Dra_isTautology_p70 l D kA u w tx σ1 [x0, (((σ.2.1 42 (Int32.toNatClampNeg x0)) : Int32) - (σ.2.1 41 (Int32.toNatClampNeg x0)))] (σf, rf, _) := ih tC_Dra_isTautology_p70 _ _ _ h
        exact hm _ _ rfl p e s m args below meth c F Lo σ0 hF hLo C
      · have h := it_f hc h
        refine ax_iconst (pc := 68) C 1 d_Dra_isTautology_68 (by decide +kernel) ?_
        cases h
        exact ax_zret (pc := 69) C d_Dra_isTautology_69 rfl ⟨rfl, rfl⟩ (Nat.le_refl _) (Nat.le_refl _)
set_option maxHeartbeats 4000000 in
set_option maxRecDepth 100000 in
theorem oC_Dra_isTautology_p70 (l : Launch) (D : va_G) (kA : Nat → ClassId) (u w : Nat → Nat) (tx : Value) (rec : mF) (ih : ∀ t σ xs res, rec t σ xs = some res → cSem l D kA u w tx t σ xs res) (σ : mS) (xs : List Int32) (res : mR) (h : u_2 (kC_Dra_isTautology_p70 rec σ) xs = some res) : sC_Dra_isTautology_p70 l D kA u w tx σ xs res := by
  intro x0 x1 hxs
  subst hxs
  obtain ⟨σf, rf, dd⟩ := res
  have h : (rec tC_Dra_isTautology_p72 σ [x0, x1, 0]) = some (σf, rf, dd) := h
  intro p e s m args below meth c F Lo σ0 hF hLo C
  dsimp only at hF hLo ⊢
  refine ax_iconst (pc := 70) C 0 d_Dra_isTautology_70 (by decide +kernel) ?_
  refine ax_istore_n (pc := 71) C d_Dra_isTautology_71 rfl (Nat.le_of_ble_eq_true rfl) ([(3, .int 0), (0, .ref (u 39)), (1, .int x0), (2, .int x1)]) rfl ?_
  refine ax_ls ([(0, .ref (u 39)), (1, .int x0), (2, .int x1), (3, .int 0)]) [1, 2, 3, 0] rfl ?_
  have hm : sC_Dra_isTautology_p72 l D kA u w tx σ [x0, x1, 0] (σf, rf, _) := ih tC_Dra_isTautology_p72 _ _ _ h
  exact hm _ _ _ rfl p e s m args below meth c F Lo σ0 hF hLo C
set_option maxHeartbeats 4000000 in
set_option maxRecDepth 100000 in
theorem oC_Dra_isTautology_p72 (l : Launch) (D : va_G) (kA : Nat → ClassId) (u w : Nat → Nat) (tx : Value) (rec : mF) (ih : ∀ t σ xs res, rec t σ xs = some res → cSem l D kA u w tx t σ xs res) (σ : mS) (xs : List Int32) (res : mR) (h : u_3 (kC_Dra_isTautology_p72 rec σ) xs = some res) : sC_Dra_isTautology_p72 l D kA u w tx σ xs res := by
  intro x0 x1 x2 hxs
  subst hxs
  obtain ⟨σf, rf, dd⟩ := res
  have h : (if x0 ≤ x2 then (rec tC_Dra_isTautology_p2 σ [(x0 + 1)]) else (if bin x0 8 = true then (if bin x2 8 = true then (if (σ.2.1 43 (Int32.toNatClampNeg x0)) = (σ.2.1 43 (Int32.toNatClampNeg x2)) then (rec tC_Dra_isTautology_p103 σ [x0, x1, x2]) else (bnd (rec tC_Dra_hasSameSides σ [x0, x2]) (fun σ1 r1 => if r1 = 0 then (rec tC_Dra_isTautology_p103 σ1 [x0, x1, x2]) else (some (σ1, 1, 0))))) else none) else none)) = some (σf, rf, dd) := h
  intro p e s m args below meth c F Lo σ0 hF hLo C
  dsimp only at hF hLo ⊢
  refine ax_iload_n (pc := 72) C d_Dra_isTautology_72 rfl 3 rfl ?_
  refine ax_iload_n (pc := 73) C d_Dra_isTautology_73 rfl 1 rfl ?_
  refine ax_icmp_ge (pc := 74) C 109 d_Dra_isTautology_74 (by decide) (fun hc => ?_) (fun hc => ?_)
  · have h := it_t hc h
    refine ax_iinc (pc := 109) C (x0 + 1) d_Dra_isTautology_109 1 rfl rfl (Nat.le_of_ble_eq_true rfl) ([(1, .int (x0 + 1)), (0, .ref (u 39)), (2, .int x1), (3, .int x2)]) rfl ?_
    refine ax_goto (pc := 112) C 2 d_Dra_isTautology_112 (by decide) ?_
    refine ax_ls ([(0, .ref (u 39)), (1, .int (x0 + 1))]) [1, 0] rfl ?_
    have hm : sC_Dra_isTautology_p2 l D kA u w tx σ [(x0 + 1)] (σf, rf, _) := ih tC_Dra_isTautology_p2 _ _ _ h
    exact hm _ rfl p e s m args below meth c F Lo σ0 hF hLo C
  · have h := it_f hc h
    refine ax_aload_n (pc := 77) C d_Dra_isTautology_77 rfl 0 rfl ?_
    refine cg_39_3_Dra_21 (pc := 78) C d_Dra_isTautology_78 ?_
    refine ax_iload_n (pc := 81) C d_Dra_isTautology_81 rfl 1 rfl ?_
    obtain ⟨hb, h⟩ := it_g h
    refine cl_43 (pc := 82) C d_Dra_isTautology_82 (bin_in hb) ?_
    refine ax_aload_n (pc := 83) C d_Dra_isTautology_83 rfl 0 rfl ?_
    refine cg_39_3_Dra_21 (pc := 84) C d_Dra_isTautology_84 ?_
    refine ax_iload_n (pc := 87) C d_Dra_isTautology_87 rfl 3 rfl ?_
    obtain ⟨hb, h⟩ := it_g h
    refine cl_43 (pc := 88) C d_Dra_isTautology_88 (bin_in hb) ?_
    refine ax_icmp_eq (pc := 89) C 103 d_Dra_isTautology_89 (by decide) (fun hc => ?_) (fun hc => ?_)
    · have h := it_t hc h
      refine ax_ls ([(0, .ref (u 39)), (1, .int x0), (2, .int x1), (3, .int x2)]) [0, 1, 2, 3] rfl ?_
      have hm : sC_Dra_isTautology_p103 l D kA u w tx σ [x0, x1, x2] (σf, rf, _) := ih tC_Dra_isTautology_p103 _ _ _ h
      exact hm _ _ _ rfl p e s m args below meth c F Lo σ0 hF hLo C
    · have h := it_f hc h
      refine ax_aload_n (pc := 92) C d_Dra_isTautology_92 rfl 0 rfl ?_
      refine ax_iload_n (pc := 93) C d_Dra_isTautology_93 rfl 1 rfl ?_
      refine ax_iload_n (pc := 94) C d_Dra_isTautology_94 rfl 3 rfl ?_
      obtain ⟨σ1, r1, d1_1, d2_1, h1, h, hd2, hd1⟩ := it_b h
      have hm : sC_Dra_hasSameSides l D kA u w tx σ [x0, x2] (σ1, r1, d1_1) := ih tC_Dra_hasSameSides _ _ _ h1
      refine cc_Vi (pc := 95) C (r0 := r1) (σ2 := σ1) (As := [.int x0, .int x2]) (rest := []) (hm _ _ rfl) ml_Dra_118 39 rfl rfl rfl d_Dra_isTautology_95 rfl rfl (by dsimp only; omega) (by dsimp only; omega) (Nat.le_of_ble_eq_true rfl) (Nat.le_of_ble_eq_true rfl) (Nat.le_of_ble_eq_true rfl) ?_
      have hF : d2_1 + 1 ≤ F := by omega
      have hLo : 48 * d2_1 + 48 ≤ Lo := by omega
      refine ax_if_eq (pc := 98) C 103 d_Dra_isTautology_98 (by decide) (fun hc => ?_) (fun hc => ?_)
      · have h := it_t hc h
        refine ax_ls ([(0, .ref (u 39)), (1, .int x0), (2, .int x1), (3, .int x2)]) [0, 1, 2, 3] rfl ?_
        have hm : sC_Dra_isTautology_p103 l D kA u w tx σ1 [x0, x1, x2] (σf, rf, _) := ih tC_Dra_isTautology_p103 _ _ _ h
        exact hm _ _ _ rfl p e s m args below meth c F Lo σ0 hF hLo C
      · have h := it_f hc h
        refine ax_iconst (pc := 101) C 1 d_Dra_isTautology_101 (by decide +kernel) ?_
        cases h
        exact ax_zret (pc := 102) C d_Dra_isTautology_102 rfl ⟨rfl, rfl⟩ (Nat.le_refl _) (Nat.le_refl _)
set_option maxHeartbeats 4000000 in
set_option maxRecDepth 100000 in
theorem oC_Dra_isTautology_p103 (l : Launch) (D : va_G) (kA : Nat → ClassId) (u w : Nat → Nat) (tx : Value) (rec : mF) (ih : ∀ t σ xs res, rec t σ xs = some res → cSem l D kA u w tx t σ xs res) (σ : mS) (xs : List Int32) (res : mR) (h : u_3 (kC_Dra_isTautology_p103 rec σ) xs = some res) : sC_Dra_isTautology_p103 l D kA u w tx σ xs res := by
  intro x0 x1 x2 hxs
  subst hxs
  obtain ⟨σf, rf, dd⟩ := res
  have h : (rec tC_Dra_isTautology_p72 σ [x0, x1, (x2 + 1)]) = some (σf, rf, dd) := h
  intro p e s m args below meth c F Lo σ0 hF hLo C
  dsimp only at hF hLo ⊢
  refine ax_iinc (pc := 103) C (x2 + 1) d_Dra_isTautology_103 3 rfl rfl (Nat.le_of_ble_eq_true rfl) ([(3, .int (x2 + 1)), (0, .ref (u 39)), (1, .int x0), (2, .int x1)]) rfl ?_
  refine ax_goto (pc := 106) C 72 d_Dra_isTautology_106 (by decide) ?_
  refine ax_ls ([(0, .ref (u 39)), (1, .int x0), (2, .int x1), (3, .int (x2 + 1))]) [1, 2, 3, 0] rfl ?_
  have hm : sC_Dra_isTautology_p72 l D kA u w tx σ [x0, x1, (x2 + 1)] (σf, rf, _) := ih tC_Dra_isTautology_p72 _ _ _ h
  exact hm _ _ _ rfl p e s m args below meth c F Lo σ0 hF hLo C
set_option maxHeartbeats 4000000 in
set_option maxRecDepth 100000 in
theorem oC_Dra_load (l : Launch) (D : va_G) (kA : Nat → ClassId) (u w : Nat → Nat) (tx : Value) (rec : mF) (ih : ∀ t σ xs res, rec t σ xs = some res → cSem l D kA u w tx t σ xs res) (σ : mS) (xs : List Int32) (res : mR) (h : u_1 (kC_Dra_load rec σ) xs = some res) : sC_Dra_load l D kA u w tx σ xs res := by
  intro x0 hxs
  subst hxs
  obtain ⟨σf, rf, dd⟩ := res
  have h : (bnd (rec tC_Dra_clear σ []) (fun σ1 r1 => bnd (rec tC_Sto_fact σ1 [x0, 8]) (fun σ2 r2 => rec tC_Dra_load_p24 σ2 [x0, r2, 0]))) = some (σf, rf, dd) := h
  refine ax_Mv.of (by decide +kernel) (Nat.le_of_ble_eq_true rfl) ?_
  intro p e s m args below meth c C hnm
  have C : ax_C p s m args meth c b_Dra_load "ClauseProver$Draft" 7 none D kA (va_A (cpW kA u w tx σ) s.heap.size) := C
  obtain ⟨F, hFe⟩ : ∃ F, F = dd + 1 := ⟨_, rfl⟩
  obtain ⟨Lo, hLoe⟩ : ∃ Lo, Lo = 48 * dd + 48 := ⟨_, rfl⟩
  obtain ⟨σ0, hσ0⟩ : ∃ s0, s0 = σ := ⟨_, rfl⟩
  suffices K : AW p l e { frames := F, cells := 0, slots := 0, locals := Lo } s m args below meth c D kA (va_A (cpW kA u w tx σ0) s.heap.size) 7 (ax_Qv below args s D kA (cpW kA u w tx σ0) 0 0 (fun w1 => w1 = cpW kA u w tx σf)) 0 [(0, .ref (u 39)), (1, .ref (u 54)), (2, .int x0)] [] (cpW kA u w tx σ) 0 0 by rw [hFe, hLoe, hσ0] at K; exact ax_ls ([(0, .ref (u 39)), (1, .ref (u 54)), (2, .int x0)]) [0, 1, 2] rfl K
  have C : ax_C p s m args meth c b_Dra_load "ClauseProver$Draft" 7 none D kA (va_A (cpW kA u w tx σ0) s.heap.size) := by rw [hσ0]; exact C
  have hF : dd + 1 ≤ F := by omega
  have hLo : 48 * dd + 48 ≤ Lo := by omega
  clear hFe hLoe hσ0
  refine ax_aload_n (pc := 0) C d_Dra_load_0 rfl 0 rfl ?_
  obtain ⟨σ1, r1, d1_1, d2_1, h1, h, hd2, hd1⟩ := it_b h
  have hm : sC_Dra_clear l D kA u w tx σ [] (σ1, r1, d1_1) := ih tC_Dra_clear _ _ _ h1
  refine cc_Vv (pc := 1) C (σ2 := σ1) (As := []) (rest := []) (hm rfl) ml_Dra_64 39 rfl rfl rfl d_Dra_load_1 rfl rfl (by dsimp only; omega) (by dsimp only; omega) (Nat.le_of_ble_eq_true rfl) (Nat.le_of_ble_eq_true rfl) (Nat.le_of_ble_eq_true rfl) ?_
  have hF : d2_1 + 1 ≤ F := by omega
  have hLo : 48 * d2_1 + 48 ≤ Lo := by omega
  refine ax_aload_n (pc := 4) C d_Dra_load_4 rfl 1 rfl ?_
  refine cg_54_0_Dra_67 (pc := 5) C d_Dra_load_5 ?_
  refine cg_47_0_Dra_73 (pc := 8) C d_Dra_load_8 ?_
  refine ax_astore_n (pc := 11) C d_Dra_load_11 rfl (Nat.le_of_ble_eq_true rfl) ([(3, .ref (w 48)), (0, .ref (u 39)), (1, .ref (u 54)), (2, .int x0)]) rfl ?_
  refine ax_aload_n (pc := 12) C d_Dra_load_12 rfl 2 rfl ?_
  refine ax_iload_n (pc := 13) C d_Dra_load_13 rfl 3 rfl ?_
  refine ax_bipush (pc := 14) C 8 d_Dra_load_14 (by decide +kernel) ?_
  obtain ⟨σ2, r2, d1_2, d2_2, h1, h, hd2, hd1⟩ := it_b h
  have hm : sC_Sto_fact l D kA u w tx σ1 [x0, 8] (σ2, r2, d1_2) := ih tC_Sto_fact _ _ _ h1
  refine cc_Vi (pc := 16) C (r0 := r2) (σ2 := σ2) (As := [.int x0, .int 8]) (rest := []) (hm _ _ rfl) ml_Dra_78 54 rfl rfl rfl d_Dra_load_16 rfl rfl (by dsimp only; omega) (by dsimp only; omega) (Nat.le_of_ble_eq_true rfl) (Nat.le_of_ble_eq_true rfl) (Nat.le_of_ble_eq_true rfl) ?_
  have hF : d2_2 + 1 ≤ F := by omega
  have hLo : 48 * d2_2 + 48 ≤ Lo := by omega
  refine ax_istore (pc := 19) C d_Dra_load_19 (Nat.le_of_ble_eq_true rfl) ([(4, .int r2), (3, .ref (w 48)), (0, .ref (u 39)), (1, .ref (u 54)), (2, .int x0)]) rfl ?_
  refine ax_iconst (pc := 21) C 0 d_Dra_load_21 (by decide +kernel) ?_
  refine ax_istore (pc := 22) C d_Dra_load_22 (Nat.le_of_ble_eq_true rfl) ([(5, .int 0), (4, .int r2), (3, .ref (w 48)), (0, .ref (u 39)), (1, .ref (u 54)), (2, .int x0)]) rfl ?_
  refine ax_ls ([(0, .ref (u 39)), (1, .ref (u 54)), (2, .int x0), (3, .ref (w 48)), (4, .int r2), (5, .int 0)]) [3, 4, 5, 2, 1, 0] rfl ?_
  have hm : sC_Dra_load_p24 l D kA u w tx σ2 [x0, r2, 0] (σf, rf, _) := ih tC_Dra_load_p24 _ _ _ h
  exact hm _ _ _ rfl p e s m args below meth c F Lo σ0 hF hLo C
set_option maxHeartbeats 4000000 in
set_option maxRecDepth 100000 in
theorem oC_Dra_load_p24 (l : Launch) (D : va_G) (kA : Nat → ClassId) (u w : Nat → Nat) (tx : Value) (rec : mF) (ih : ∀ t σ xs res, rec t σ xs = some res → cSem l D kA u w tx t σ xs res) (σ : mS) (xs : List Int32) (res : mR) (h : u_3 (kC_Dra_load_p24 rec σ) xs = some res) : sC_Dra_load_p24 l D kA u w tx σ xs res := by
  intro x0 x1 x2 hxs
  subst hxs
  obtain ⟨σf, rf, dd⟩ := res
  have h : (bnd (rec tC_Sto_fact σ [x0, 3]) (fun σ1 r1 => if r1 ≤ x2 then (some (σ1, 0, 0)) else (if bin ((x1 : Int32) + 0) (σ1.2.2 48) = true then (if (σ1.2.1 48 (Int32.toNatClampNeg ((x1 : Int32) + 0))) = 1 then (rec tC_Dra_load_p51 σ1 [x0, x1, x2, 1]) else (rec tC_Dra_load_p51 σ1 [x0, x1, x2, 0])) else none))) = some (σf, rf, dd) := h
  intro p e s m args below meth c F Lo σ0 hF hLo C
  dsimp only at hF hLo ⊢
  refine ax_iload (pc := 24) C d_Dra_load_24 5 rfl ?_
  refine ax_aload_n (pc := 26) C d_Dra_load_26 rfl 1 rfl ?_
  refine ax_iload_n (pc := 27) C d_Dra_load_27 rfl 2 rfl ?_
  refine ax_iconst (pc := 28) C 3 d_Dra_load_28 (by decide +kernel) ?_
  obtain ⟨σ1, r1, d1_1, d2_1, h1, h, hd2, hd1⟩ := it_b h
  have hm : sC_Sto_fact l D kA u w tx σ [x0, 3] (σ1, r1, d1_1) := ih tC_Sto_fact _ _ _ h1
  refine cc_Vi (pc := 29) C (r0 := r1) (σ2 := σ1) (As := [.int x0, .int 3]) (rest := [.int x2]) (hm _ _ rfl) ml_Dra_78 54 rfl rfl rfl d_Dra_load_29 rfl rfl (by dsimp only; omega) (by dsimp only; omega) (Nat.le_of_ble_eq_true rfl) (Nat.le_of_ble_eq_true rfl) (Nat.le_of_ble_eq_true rfl) ?_
  have hF : d2_1 + 1 ≤ F := by omega
  have hLo : 48 * d2_1 + 48 ≤ Lo := by omega
  refine ax_icmp_ge (pc := 32) C 122 d_Dra_load_32 (by decide) (fun hc => ?_) (fun hc => ?_)
  · have h := it_t hc h
    cases h
    exact ax_vret (pc := 122) C d_Dra_load_122 rfl (Nat.le_refl _) (Nat.le_refl _)
  · have h := it_f hc h
    refine ax_aload_n (pc := 35) C d_Dra_load_35 rfl 0 rfl ?_
    refine ax_aload_n (pc := 36) C d_Dra_load_36 rfl 3 rfl ?_
    refine ax_iload (pc := 37) C d_Dra_load_37 4 rfl ?_
    refine ax_iconst (pc := 39) C 0 d_Dra_load_39 (by decide +kernel) ?_
    refine ax_iadd (pc := 40) C d_Dra_load_40 ?_
    obtain ⟨hb, h⟩ := it_g h
    refine cl_48 (pc := 41) C d_Dra_load_41 (bin_in hb) ?_
    refine ax_iconst (pc := 42) C 1 d_Dra_load_42 (by decide +kernel) ?_
    refine ax_icmp_ne (pc := 43) C 50 d_Dra_load_43 (by decide) (fun hc => ?_) (fun hc => ?_)
    · have h := it_f hc h
      refine ax_iconst (pc := 50) C 0 d_Dra_load_50 (by decide +kernel) ?_
      refine ax_ls ([(0, .ref (u 39)), (1, .ref (u 54)), (2, .int x0), (3, .ref (w 48)), (4, .int x1), (5, .int x2)]) [0, 1, 2, 3, 4, 5] rfl ?_
      have hm : sC_Dra_load_p51 l D kA u w tx σ1 [x0, x1, x2, 0] (σf, rf, _) := ih tC_Dra_load_p51 _ _ _ h
      exact hm _ _ _ _ rfl p e s m args below meth c F Lo σ0 hF hLo C
    · have h := it_t hc h
      refine ax_iconst (pc := 46) C 1 d_Dra_load_46 (by decide +kernel) ?_
      refine ax_goto (pc := 47) C 51 d_Dra_load_47 (by decide) ?_
      refine ax_ls ([(0, .ref (u 39)), (1, .ref (u 54)), (2, .int x0), (3, .ref (w 48)), (4, .int x1), (5, .int x2)]) [0, 1, 2, 3, 4, 5] rfl ?_
      have hm : sC_Dra_load_p51 l D kA u w tx σ1 [x0, x1, x2, 1] (σf, rf, _) := ih tC_Dra_load_p51 _ _ _ h
      exact hm _ _ _ _ rfl p e s m args below meth c F Lo σ0 hF hLo C
set_option maxHeartbeats 4000000 in
set_option maxRecDepth 100000 in
theorem oC_Dra_load_p51 (l : Launch) (D : va_G) (kA : Nat → ClassId) (u w : Nat → Nat) (tx : Value) (rec : mF) (ih : ∀ t σ xs res, rec t σ xs = some res → cSem l D kA u w tx t σ xs res) (σ : mS) (xs : List Int32) (res : mR) (h : u_4 (kC_Dra_load_p51 rec σ) xs = some res) : sC_Dra_load_p51 l D kA u w tx σ xs res := by
  intro x0 x1 x2 x3 hxs
  subst hxs
  obtain ⟨σf, rf, dd⟩ := res
  have h : (bnd (rec tC_Dra_openLiteral σ [x3]) (fun σ1 r1 => bnd (rec tC_Sto_sideAt σ1 [x1, 0]) (fun σ2 r2 => rec tC_Dra_load_p63 σ2 [x0, x1, x2, r2]))) = some (σf, rf, dd) := h
  intro p e s m args below meth c F Lo σ0 hF hLo C
  dsimp only at hF hLo ⊢
  obtain ⟨σ1, r1, d1_1, d2_1, h1, h, hd2, hd1⟩ := it_b h
  have hm : sC_Dra_openLiteral l D kA u w tx σ [x3] (σ1, r1, d1_1) := ih tC_Dra_openLiteral _ _ _ h1
  refine cc_Vv (pc := 51) C (σ2 := σ1) (As := [.int x3]) (rest := []) (hm _ rfl) ml_Dra_81 39 rfl rfl rfl d_Dra_load_51 rfl rfl (by dsimp only; omega) (by dsimp only; omega) (Nat.le_of_ble_eq_true rfl) (Nat.le_of_ble_eq_true rfl) (Nat.le_of_ble_eq_true rfl) ?_
  have hF : d2_1 + 1 ≤ F := by omega
  have hLo : 48 * d2_1 + 48 ≤ Lo := by omega
  refine ax_aload_n (pc := 54) C d_Dra_load_54 rfl 1 rfl ?_
  refine ax_iload (pc := 55) C d_Dra_load_55 4 rfl ?_
  refine ax_iconst (pc := 57) C 0 d_Dra_load_57 (by decide +kernel) ?_
  obtain ⟨σ2, r2, d1_2, d2_2, h1, h, hd2, hd1⟩ := it_b h
  have hm : sC_Sto_sideAt l D kA u w tx σ1 [x1, 0] (σ2, r2, d1_2) := ih tC_Sto_sideAt _ _ _ h1
  refine cc_Vi (pc := 58) C (r0 := r2) (σ2 := σ2) (As := [.int x1, .int 0]) (rest := []) (hm _ _ rfl) ml_Dra_85 54 rfl rfl rfl d_Dra_load_58 rfl rfl (by dsimp only; omega) (by dsimp only; omega) (Nat.le_of_ble_eq_true rfl) (Nat.le_of_ble_eq_true rfl) (Nat.le_of_ble_eq_true rfl) ?_
  have hF : d2_2 + 1 ≤ F := by omega
  have hLo : 48 * d2_2 + 48 ≤ Lo := by omega
  refine ax_istore (pc := 61) C d_Dra_load_61 (Nat.le_of_ble_eq_true rfl) ([(6, .int r2), (0, .ref (u 39)), (1, .ref (u 54)), (2, .int x0), (3, .ref (w 48)), (4, .int x1), (5, .int x2)]) rfl ?_
  refine ax_ls ([(0, .ref (u 39)), (1, .ref (u 54)), (2, .int x0), (3, .ref (w 48)), (4, .int x1), (5, .int x2), (6, .int r2)]) [1, 2, 3, 4, 5, 6, 0] rfl ?_
  have hm : sC_Dra_load_p63 l D kA u w tx σ2 [x0, x1, x2, r2] (σf, rf, _) := ih tC_Dra_load_p63 _ _ _ h
  exact hm _ _ _ _ rfl p e s m args below meth c F Lo σ0 hF hLo C
set_option maxHeartbeats 4000000 in
set_option maxRecDepth 100000 in
theorem oC_Dra_load_p63 (l : Launch) (D : va_G) (kA : Nat → ClassId) (u w : Nat → Nat) (tx : Value) (rec : mF) (ih : ∀ t σ xs res, rec t σ xs = some res → cSem l D kA u w tx t σ xs res) (σ : mS) (xs : List Int32) (res : mR) (h : u_4 (kC_Dra_load_p63 rec σ) xs = some res) : sC_Dra_load_p63 l D kA u w tx σ xs res := by
  intro x0 x1 x2 x3 hxs
  subst hxs
  obtain ⟨σf, rf, dd⟩ := res
  have h : (bnd (rec tC_Sto_behind σ [x1]) (fun σ1 r1 => if r1 ≤ x3 then (bnd (rec tC_Dra_closeLiteral σ1 []) (fun σ2 r2 => bnd (rec tC_Sto_behind σ2 [x1]) (fun σ3 r3 => rec tC_Dra_load_p24 σ3 [x0, r3, (x2 + 1)]))) else (bnd (rec tC_Sto_sideAt σ1 [x1, 1]) (fun σ4 r4 => if x3 = r4 then (bnd (rec tC_Dra_openRight σ4 []) (fun σ5 r5 => rec tC_Dra_load_p90 σ5 [x0, x1, x2, x3])) else (rec tC_Dra_load_p90 σ4 [x0, x1, x2, x3]))))) = some (σf, rf, dd) := h
  intro p e s m args below meth c F Lo σ0 hF hLo C
  dsimp only at hF hLo ⊢
  refine ax_iload (pc := 63) C d_Dra_load_63 6 rfl ?_
  refine ax_aload_n (pc := 65) C d_Dra_load_65 rfl 1 rfl ?_
  refine ax_iload (pc := 66) C d_Dra_load_66 4 rfl ?_
  obtain ⟨σ1, r1, d1_1, d2_1, h1, h, hd2, hd1⟩ := it_b h
  have hm : sC_Sto_behind l D kA u w tx σ [x1] (σ1, r1, d1_1) := ih tC_Sto_behind _ _ _ h1
  refine cc_Vi (pc := 68) C (r0 := r1) (σ2 := σ1) (As := [.int x1]) (rest := [.int x3]) (hm _ rfl) ml_Dra_88 54 rfl rfl rfl d_Dra_load_68 rfl rfl (by dsimp only; omega) (by dsimp only; omega) (Nat.le_of_ble_eq_true rfl) (Nat.le_of_ble_eq_true rfl) (Nat.le_of_ble_eq_true rfl) ?_
  have hF : d2_1 + 1 ≤ F := by omega
  have hLo : 48 * d2_1 + 48 ≤ Lo := by omega
  refine ax_icmp_ge (pc := 71) C 104 d_Dra_load_71 (by decide) (fun hc => ?_) (fun hc => ?_)
  · have h := it_t hc h
    refine ax_aload_n (pc := 104) C d_Dra_load_104 rfl 0 rfl ?_
    obtain ⟨σ2, r2, d1_2, d2_2, h1, h, hd2, hd1⟩ := it_b h
    have hm : sC_Dra_closeLiteral l D kA u w tx σ1 [] (σ2, r2, d1_2) := ih tC_Dra_closeLiteral _ _ _ h1
    refine cc_Vv (pc := 105) C (σ2 := σ2) (As := []) (rest := []) (hm rfl) ml_Dra_99 39 rfl rfl rfl d_Dra_load_105 rfl rfl (by dsimp only; omega) (by dsimp only; omega) (Nat.le_of_ble_eq_true rfl) (Nat.le_of_ble_eq_true rfl) (Nat.le_of_ble_eq_true rfl) ?_
    have hF : d2_2 + 1 ≤ F := by omega
    have hLo : 48 * d2_2 + 48 ≤ Lo := by omega
    refine ax_aload_n (pc := 108) C d_Dra_load_108 rfl 1 rfl ?_
    refine ax_iload (pc := 109) C d_Dra_load_109 4 rfl ?_
    obtain ⟨σ3, r3, d1_3, d2_3, h1, h, hd2, hd1⟩ := it_b h
    have hm : sC_Sto_behind l D kA u w tx σ2 [x1] (σ3, r3, d1_3) := ih tC_Sto_behind _ _ _ h1
    refine cc_Vi (pc := 111) C (r0 := r3) (σ2 := σ3) (As := [.int x1]) (rest := []) (hm _ rfl) ml_Dra_88 54 rfl rfl rfl d_Dra_load_111 rfl rfl (by dsimp only; omega) (by dsimp only; omega) (Nat.le_of_ble_eq_true rfl) (Nat.le_of_ble_eq_true rfl) (Nat.le_of_ble_eq_true rfl) ?_
    have hF : d2_3 + 1 ≤ F := by omega
    have hLo : 48 * d2_3 + 48 ≤ Lo := by omega
    refine ax_istore (pc := 114) C d_Dra_load_114 (Nat.le_of_ble_eq_true rfl) ([(4, .int r3), (0, .ref (u 39)), (1, .ref (u 54)), (2, .int x0), (3, .ref (w 48)), (5, .int x2), (6, .int x3)]) rfl ?_
    refine ax_iinc (pc := 116) C (x2 + 1) d_Dra_load_116 5 rfl rfl (Nat.le_of_ble_eq_true rfl) ([(5, .int (x2 + 1)), (4, .int r3), (0, .ref (u 39)), (1, .ref (u 54)), (2, .int x0), (3, .ref (w 48)), (6, .int x3)]) rfl ?_
    refine ax_goto (pc := 119) C 24 d_Dra_load_119 (by decide) ?_
    refine ax_ls ([(0, .ref (u 39)), (1, .ref (u 54)), (2, .int x0), (3, .ref (w 48)), (4, .int r3), (5, .int (x2 + 1))]) [2, 3, 4, 5, 1, 0] rfl ?_
    have hm : sC_Dra_load_p24 l D kA u w tx σ3 [x0, r3, (x2 + 1)] (σf, rf, _) := ih tC_Dra_load_p24 _ _ _ h
    exact hm _ _ _ rfl p e s m args below meth c F Lo σ0 hF hLo C
  · have h := it_f hc h
    refine ax_iload (pc := 74) C d_Dra_load_74 6 rfl ?_
    refine ax_aload_n (pc := 76) C d_Dra_load_76 rfl 1 rfl ?_
    refine ax_iload (pc := 77) C d_Dra_load_77 4 rfl ?_
    refine ax_iconst (pc := 79) C 1 d_Dra_load_79 (by decide +kernel) ?_
    obtain ⟨σ4, r4, d1_4, d2_4, h1, h, hd2, hd1⟩ := it_b h
    have hm : sC_Sto_sideAt l D kA u w tx σ1 [x1, 1] (σ4, r4, d1_4) := ih tC_Sto_sideAt _ _ _ h1
    refine cc_Vi (pc := 80) C (r0 := r4) (σ2 := σ4) (As := [.int x1, .int 1]) (rest := [.int x3]) (hm _ _ rfl) ml_Dra_85 54 rfl rfl rfl d_Dra_load_80 rfl rfl (by dsimp only; omega) (by dsimp only; omega) (Nat.le_of_ble_eq_true rfl) (Nat.le_of_ble_eq_true rfl) (Nat.le_of_ble_eq_true rfl) ?_
    have hF : d2_4 + 1 ≤ F := by omega
    have hLo : 48 * d2_4 + 48 ≤ Lo := by omega
    refine ax_icmp_ne (pc := 83) C 90 d_Dra_load_83 (by decide) (fun hc => ?_) (fun hc => ?_)
    · have h := it_f hc h
      refine ax_ls ([(0, .ref (u 39)), (1, .ref (u 54)), (2, .int x0), (3, .ref (w 48)), (4, .int x1), (5, .int x2), (6, .int x3)]) [0, 1, 2, 3, 4, 5, 6] rfl ?_
      have hm : sC_Dra_load_p90 l D kA u w tx σ4 [x0, x1, x2, x3] (σf, rf, _) := ih tC_Dra_load_p90 _ _ _ h
      exact hm _ _ _ _ rfl p e s m args below meth c F Lo σ0 hF hLo C
    · have h := it_t hc h
      refine ax_aload_n (pc := 86) C d_Dra_load_86 rfl 0 rfl ?_
      obtain ⟨σ5, r5, d1_5, d2_5, h1, h, hd2, hd1⟩ := it_b h
      have hm : sC_Dra_openRight l D kA u w tx σ4 [] (σ5, r5, d1_5) := ih tC_Dra_openRight _ _ _ h1
      refine cc_Vv (pc := 87) C (σ2 := σ5) (As := []) (rest := []) (hm rfl) ml_Dra_92 39 rfl rfl rfl d_Dra_load_87 rfl rfl (by dsimp only; omega) (by dsimp only; omega) (Nat.le_of_ble_eq_true rfl) (Nat.le_of_ble_eq_true rfl) (Nat.le_of_ble_eq_true rfl) ?_
      have hF : d2_5 + 1 ≤ F := by omega
      have hLo : 48 * d2_5 + 48 ≤ Lo := by omega
      refine ax_ls ([(0, .ref (u 39)), (1, .ref (u 54)), (2, .int x0), (3, .ref (w 48)), (4, .int x1), (5, .int x2), (6, .int x3)]) [0, 1, 2, 3, 4, 5, 6] rfl ?_
      have hm : sC_Dra_load_p90 l D kA u w tx σ5 [x0, x1, x2, x3] (σf, rf, _) := ih tC_Dra_load_p90 _ _ _ h
      exact hm _ _ _ _ rfl p e s m args below meth c F Lo σ0 hF hLo C
set_option maxHeartbeats 4000000 in
set_option maxRecDepth 100000 in
theorem oC_Dra_load_p90 (l : Launch) (D : va_G) (kA : Nat → ClassId) (u w : Nat → Nat) (tx : Value) (rec : mF) (ih : ∀ t σ xs res, rec t σ xs = some res → cSem l D kA u w tx t σ xs res) (σ : mS) (xs : List Int32) (res : mR) (h : u_4 (kC_Dra_load_p90 rec σ) xs = some res) : sC_Dra_load_p90 l D kA u w tx σ xs res := by
  intro x0 x1 x2 x3 hxs
  subst hxs
  obtain ⟨σf, rf, dd⟩ := res
  have h : (if bin x3 (σ.2.2 48) = true then (bnd (rec tC_Dra_put σ [(σ.2.1 48 (Int32.toNatClampNeg x3))]) (fun σ1 r1 => rec tC_Dra_load_p63 σ1 [x0, x1, x2, (x3 + 1)])) else none) = some (σf, rf, dd) := h
  intro p e s m args below meth c F Lo σ0 hF hLo C
  dsimp only at hF hLo ⊢
  refine ax_aload_n (pc := 90) C d_Dra_load_90 rfl 0 rfl ?_
  refine ax_aload_n (pc := 91) C d_Dra_load_91 rfl 3 rfl ?_
  refine ax_iload (pc := 92) C d_Dra_load_92 6 rfl ?_
  obtain ⟨hb, h⟩ := it_g h
  refine cl_48 (pc := 94) C d_Dra_load_94 (bin_in hb) ?_
  obtain ⟨σ1, r1, d1_1, d2_1, h1, h, hd2, hd1⟩ := it_b h
  have hm : sC_Dra_put l D kA u w tx σ [(σ.2.1 48 (Int32.toNatClampNeg x3))] (σ1, r1, d1_1) := ih tC_Dra_put _ _ _ h1
  refine cc_Vv (pc := 95) C (σ2 := σ1) (As := [.int (σ.2.1 48 (Int32.toNatClampNeg x3))]) (rest := []) (hm _ rfl) ml_Dra_95 39 rfl rfl rfl d_Dra_load_95 rfl rfl (by dsimp only; omega) (by dsimp only; omega) (Nat.le_of_ble_eq_true rfl) (Nat.le_of_ble_eq_true rfl) (Nat.le_of_ble_eq_true rfl) ?_
  have hF : d2_1 + 1 ≤ F := by omega
  have hLo : 48 * d2_1 + 48 ≤ Lo := by omega
  refine ax_iinc (pc := 98) C (x3 + 1) d_Dra_load_98 6 rfl rfl (Nat.le_of_ble_eq_true rfl) ([(6, .int (x3 + 1)), (0, .ref (u 39)), (1, .ref (u 54)), (2, .int x0), (3, .ref (w 48)), (4, .int x1), (5, .int x2)]) rfl ?_
  refine ax_goto (pc := 101) C 63 d_Dra_load_101 (by decide) ?_
  refine ax_ls ([(0, .ref (u 39)), (1, .ref (u 54)), (2, .int x0), (3, .ref (w 48)), (4, .int x1), (5, .int x2), (6, .int (x3 + 1))]) [1, 2, 3, 4, 5, 6, 0] rfl ?_
  have hm : sC_Dra_load_p63 l D kA u w tx σ1 [x0, x1, x2, (x3 + 1)] (σf, rf, _) := ih tC_Dra_load_p63 _ _ _ h
  exact hm _ _ _ _ rfl p e s m args below meth c F Lo σ0 hF hLo C
set_option maxHeartbeats 4000000 in
set_option maxRecDepth 100000 in
theorem oC_Dra_openLiteral (l : Launch) (D : va_G) (kA : Nat → ClassId) (u w : Nat → Nat) (tx : Value) (rec : mF) (ih : ∀ t σ xs res, rec t σ xs = some res → cSem l D kA u w tx t σ xs res) (σ : mS) (xs : List Int32) (res : mR) (h : u_1 (kC_Dra_openLiteral rec σ) xs = some res) : sC_Dra_openLiteral l D kA u w tx σ xs res := by
  intro x0 hxs
  subst hxs
  obtain ⟨σf, rf, dd⟩ := res
  have h : (if (σ.1 3905) = 8 then (lt_ (mI σ 3907 1) (fun σ3 => some (σ3, 0, 0))) else (if bin (σ.1 3905) 8 = true then (lt_ (mA σ 43 (Int32.toNatClampNeg (σ.1 3905)) (vp_nar .boolean x0)) (fun σ1 => if bin (σ1.1 3905) 9 = true then (lt_ (mA σ1 41 (Int32.toNatClampNeg (σ1.1 3905)) (σ1.1 3904)) (fun σ2 => some (σ2, 0, 0))) else none)) else none)) = some (σf, rf, dd) := h
  refine ax_Mv.of (by decide +kernel) (Nat.le_of_ble_eq_true rfl) ?_
  intro p e s m args below meth c C hnm
  have C : ax_C p s m args meth c b_Dra_openLiteral "ClauseProver$Draft" 2 none D kA (va_A (cpW kA u w tx σ) s.heap.size) := C
  obtain ⟨F, hFe⟩ : ∃ F, F = dd + 1 := ⟨_, rfl⟩
  obtain ⟨Lo, hLoe⟩ : ∃ Lo, Lo = 48 * dd + 48 := ⟨_, rfl⟩
  obtain ⟨σ0, hσ0⟩ : ∃ s0, s0 = σ := ⟨_, rfl⟩
  suffices K : AW p l e { frames := F, cells := 0, slots := 0, locals := Lo } s m args below meth c D kA (va_A (cpW kA u w tx σ0) s.heap.size) 2 (ax_Qv below args s D kA (cpW kA u w tx σ0) 0 0 (fun w1 => w1 = cpW kA u w tx σf)) 0 [(0, .ref (u 39)), (1, .int x0)] [] (cpW kA u w tx σ) 0 0 by rw [hFe, hLoe, hσ0] at K; exact ax_ls ([(0, .ref (u 39)), (1, .int x0)]) [0, 1] rfl K
  have C : ax_C p s m args meth c b_Dra_openLiteral "ClauseProver$Draft" 2 none D kA (va_A (cpW kA u w tx σ0) s.heap.size) := by rw [hσ0]; exact C
  have hF : dd + 1 ≤ F := by omega
  have hLo : 48 * dd + 48 ≤ Lo := by omega
  clear hFe hLoe hσ0
  refine ax_aload_n (pc := 0) C d_Dra_openLiteral_0 rfl 0 rfl ?_
  refine cg_39_5_Dra_51 (pc := 1) C d_Dra_openLiteral_1 ?_
  refine ax_bipush (pc := 4) C 8 d_Dra_openLiteral_4 (by decide +kernel) ?_
  refine ax_icmp_ne (pc := 6) C 15 d_Dra_openLiteral_6 (by decide) (fun hc => ?_) (fun hc => ?_)
  · have h := it_f hc h
    refine ax_aload_n (pc := 15) C d_Dra_openLiteral_15 rfl 0 rfl ?_
    refine cg_39_3_Dra_21 (pc := 16) C d_Dra_openLiteral_16 ?_
    refine ax_aload_n (pc := 19) C d_Dra_openLiteral_19 rfl 0 rfl ?_
    refine cg_39_5_Dra_51 (pc := 20) C d_Dra_openLiteral_20 ?_
    refine ax_iload_n (pc := 23) C d_Dra_openLiteral_23 rfl 1 rfl ?_
    obtain ⟨hb, h⟩ := it_g h
    refine cs_43 (pc := 24) C d_Dra_openLiteral_24 (bin_in hb) ?_
    have h := it_l h
    generalize mA σ 43 (Int32.toNatClampNeg (σ.1 3905)) (vp_nar .boolean x0) = σ1 at h ⊢
    refine ax_aload_n (pc := 25) C d_Dra_openLiteral_25 rfl 0 rfl ?_
    refine cg_39_1_Dra_15 (pc := 26) C d_Dra_openLiteral_26 ?_
    refine ax_aload_n (pc := 29) C d_Dra_openLiteral_29 rfl 0 rfl ?_
    refine cg_39_5_Dra_51 (pc := 30) C d_Dra_openLiteral_30 ?_
    refine ax_aload_n (pc := 33) C d_Dra_openLiteral_33 rfl 0 rfl ?_
    refine cg_39_4_Dra_48 (pc := 34) C d_Dra_openLiteral_34 ?_
    obtain ⟨hb, h⟩ := it_g h
    refine cs_41 (pc := 37) C d_Dra_openLiteral_37 (bin_in hb) ?_
    have h := it_l h
    generalize mA σ1 41 (Int32.toNatClampNeg (σ1.1 3905)) (σ1.1 3904) = σ2 at h ⊢
    cases h
    exact ax_vret (pc := 38) C d_Dra_openLiteral_38 rfl (Nat.le_refl _) (Nat.le_refl _)
  · have h := it_t hc h
    refine ax_aload_n (pc := 9) C d_Dra_openLiteral_9 rfl 0 rfl ?_
    refine ax_iconst (pc := 10) C 1 d_Dra_openLiteral_10 (by decide +kernel) ?_
    refine cq_39_7_Dra_54 (pc := 11) C (by decide) d_Dra_openLiteral_11 ?_
    have h := it_l h
    generalize mI σ 3907 1 = σ3 at h ⊢
    cases h
    exact ax_vret (pc := 14) C d_Dra_openLiteral_14 rfl (Nat.le_refl _) (Nat.le_refl _)
set_option maxHeartbeats 4000000 in
set_option maxRecDepth 100000 in
theorem oC_Dra_openRight (l : Launch) (D : va_G) (kA : Nat → ClassId) (u w : Nat → Nat) (tx : Value) (rec : mF) (ih : ∀ t σ xs res, rec t σ xs = some res → cSem l D kA u w tx t σ xs res) (σ : mS) (xs : List Int32) (res : mR) (h : u_0 (kC_Dra_openRight rec σ) xs = some res) : sC_Dra_openRight l D kA u w tx σ xs res := by
  intro hxs
  subst hxs
  obtain ⟨σf, rf, dd⟩ := res
  have h : (if (σ.1 3907) = 0 then (if bin (σ.1 3905) 8 = true then (lt_ (mA σ 42 (Int32.toNatClampNeg (σ.1 3905)) (σ.1 3904)) (fun σ1 => rec tC_Dra_openRight_p20 σ1 [])) else none) else (rec tC_Dra_openRight_p20 σ [])) = some (σf, rf, dd) := h
  refine ax_Mv.of (by decide +kernel) (Nat.le_of_ble_eq_true rfl) ?_
  intro p e s m args below meth c C hnm
  have C : ax_C p s m args meth c b_Dra_openRight "ClauseProver$Draft" 1 none D kA (va_A (cpW kA u w tx σ) s.heap.size) := C
  obtain ⟨F, hFe⟩ : ∃ F, F = dd + 1 := ⟨_, rfl⟩
  obtain ⟨Lo, hLoe⟩ : ∃ Lo, Lo = 48 * dd + 48 := ⟨_, rfl⟩
  obtain ⟨σ0, hσ0⟩ : ∃ s0, s0 = σ := ⟨_, rfl⟩
  suffices K : AW p l e { frames := F, cells := 0, slots := 0, locals := Lo } s m args below meth c D kA (va_A (cpW kA u w tx σ0) s.heap.size) 1 (ax_Qv below args s D kA (cpW kA u w tx σ0) 0 0 (fun w1 => w1 = cpW kA u w tx σf)) 0 [(0, .ref (u 39))] [] (cpW kA u w tx σ) 0 0 by rw [hFe, hLoe, hσ0] at K; exact ax_ls ([(0, .ref (u 39))]) [0] rfl K
  have C : ax_C p s m args meth c b_Dra_openRight "ClauseProver$Draft" 1 none D kA (va_A (cpW kA u w tx σ0) s.heap.size) := by rw [hσ0]; exact C
  have hF : dd + 1 ≤ F := by omega
  have hLo : 48 * dd + 48 ≤ Lo := by omega
  clear hFe hLoe hσ0
  refine ax_aload_n (pc := 0) C d_Dra_openRight_0 rfl 0 rfl ?_
  refine cg_39_7_Dra_54 (pc := 1) C d_Dra_openRight_1 ?_
  refine ax_if_ne (pc := 4) C 20 d_Dra_openRight_4 (by decide) (fun hc => ?_) (fun hc => ?_)
  · have h := it_f hc h
    refine ax_ls ([(0, .ref (u 39))]) [0] rfl ?_
    have hm : sC_Dra_openRight_p20 l D kA u w tx σ [] (σf, rf, _) := ih tC_Dra_openRight_p20 _ _ _ h
    exact hm rfl p e s m args below meth c F Lo σ0 hF hLo C
  · have h := it_t hc h
    refine ax_aload_n (pc := 7) C d_Dra_openRight_7 rfl 0 rfl ?_
    refine cg_39_2_Dra_18 (pc := 8) C d_Dra_openRight_8 ?_
    refine ax_aload_n (pc := 11) C d_Dra_openRight_11 rfl 0 rfl ?_
    refine cg_39_5_Dra_51 (pc := 12) C d_Dra_openRight_12 ?_
    refine ax_aload_n (pc := 15) C d_Dra_openRight_15 rfl 0 rfl ?_
    refine cg_39_4_Dra_48 (pc := 16) C d_Dra_openRight_16 ?_
    obtain ⟨hb, h⟩ := it_g h
    refine cs_42 (pc := 19) C d_Dra_openRight_19 (bin_in hb) ?_
    have h := it_l h
    generalize mA σ 42 (Int32.toNatClampNeg (σ.1 3905)) (σ.1 3904) = σ1 at h ⊢
    refine ax_ls ([(0, .ref (u 39))]) [0] rfl ?_
    have hm : sC_Dra_openRight_p20 l D kA u w tx σ1 [] (σf, rf, _) := ih tC_Dra_openRight_p20 _ _ _ h
    exact hm rfl p e s m args below meth c F Lo σ0 hF hLo C
set_option maxHeartbeats 4000000 in
set_option maxRecDepth 100000 in
theorem oC_Dra_openRight_p20 (l : Launch) (D : va_G) (kA : Nat → ClassId) (u w : Nat → Nat) (tx : Value) (rec : mF) (ih : ∀ t σ xs res, rec t σ xs = some res → cSem l D kA u w tx t σ xs res) (σ : mS) (xs : List Int32) (res : mR) (h : u_0 (kC_Dra_openRight_p20 rec σ) xs = some res) : sC_Dra_openRight_p20 l D kA u w tx σ xs res := by
  intro hxs
  subst hxs
  obtain ⟨σf, rf, dd⟩ := res
  have h : (some (σ, 0, 0)) = some (σf, rf, dd) := h
  intro p e s m args below meth c F Lo σ0 hF hLo C
  dsimp only at hF hLo ⊢
  cases h
  exact ax_vret (pc := 20) C d_Dra_openRight_20 rfl (Nat.le_refl _) (Nat.le_refl _)
set_option maxHeartbeats 4000000 in
set_option maxRecDepth 100000 in
theorem oC_Dra_put (l : Launch) (D : va_G) (kA : Nat → ClassId) (u w : Nat → Nat) (tx : Value) (rec : mF) (ih : ∀ t σ xs res, rec t σ xs = some res → cSem l D kA u w tx t σ xs res) (σ : mS) (xs : List Int32) (res : mR) (h : u_1 (kC_Dra_put rec σ) xs = some res) : sC_Dra_put l D kA u w tx σ xs res := by
  intro x0 hxs
  subst hxs
  obtain ⟨σf, rf, dd⟩ := res
  have h : (if (σ.1 3904) = 100 then (lt_ (mI σ 3907 1) (fun σ1 => rec tC_Dra_put_p14 σ1 [x0])) else (rec tC_Dra_put_p14 σ [x0])) = some (σf, rf, dd) := h
  refine ax_Mv.of (by decide +kernel) (Nat.le_of_ble_eq_true rfl) ?_
  intro p e s m args below meth c C hnm
  have C : ax_C p s m args meth c b_Dra_put "ClauseProver$Draft" 2 none D kA (va_A (cpW kA u w tx σ) s.heap.size) := C
  obtain ⟨F, hFe⟩ : ∃ F, F = dd + 1 := ⟨_, rfl⟩
  obtain ⟨Lo, hLoe⟩ : ∃ Lo, Lo = 48 * dd + 48 := ⟨_, rfl⟩
  obtain ⟨σ0, hσ0⟩ : ∃ s0, s0 = σ := ⟨_, rfl⟩
  suffices K : AW p l e { frames := F, cells := 0, slots := 0, locals := Lo } s m args below meth c D kA (va_A (cpW kA u w tx σ0) s.heap.size) 2 (ax_Qv below args s D kA (cpW kA u w tx σ0) 0 0 (fun w1 => w1 = cpW kA u w tx σf)) 0 [(0, .ref (u 39)), (1, .int x0)] [] (cpW kA u w tx σ) 0 0 by rw [hFe, hLoe, hσ0] at K; exact ax_ls ([(0, .ref (u 39)), (1, .int x0)]) [0, 1] rfl K
  have C : ax_C p s m args meth c b_Dra_put "ClauseProver$Draft" 2 none D kA (va_A (cpW kA u w tx σ0) s.heap.size) := by rw [hσ0]; exact C
  have hF : dd + 1 ≤ F := by omega
  have hLo : 48 * dd + 48 ≤ Lo := by omega
  clear hFe hLoe hσ0
  refine ax_aload_n (pc := 0) C d_Dra_put_0 rfl 0 rfl ?_
  refine cg_39_4_Dra_48 (pc := 1) C d_Dra_put_1 ?_
  refine ax_bipush (pc := 4) C 100 d_Dra_put_4 (by decide +kernel) ?_
  refine ax_icmp_ne (pc := 6) C 14 d_Dra_put_6 (by decide) (fun hc => ?_) (fun hc => ?_)
  · have h := it_f hc h
    refine ax_ls ([(0, .ref (u 39)), (1, .int x0)]) [0, 1] rfl ?_
    have hm : sC_Dra_put_p14 l D kA u w tx σ [x0] (σf, rf, _) := ih tC_Dra_put_p14 _ _ _ h
    exact hm _ rfl p e s m args below meth c F Lo σ0 hF hLo C
  · have h := it_t hc h
    refine ax_aload_n (pc := 9) C d_Dra_put_9 rfl 0 rfl ?_
    refine ax_iconst (pc := 10) C 1 d_Dra_put_10 (by decide +kernel) ?_
    refine cq_39_7_Dra_54 (pc := 11) C (by decide) d_Dra_put_11 ?_
    have h := it_l h
    generalize mI σ 3907 1 = σ1 at h ⊢
    refine ax_ls ([(0, .ref (u 39)), (1, .int x0)]) [0, 1] rfl ?_
    have hm : sC_Dra_put_p14 l D kA u w tx σ1 [x0] (σf, rf, _) := ih tC_Dra_put_p14 _ _ _ h
    exact hm _ rfl p e s m args below meth c F Lo σ0 hF hLo C
set_option maxHeartbeats 4000000 in
set_option maxRecDepth 100000 in
theorem oC_Dra_put_p14 (l : Launch) (D : va_G) (kA : Nat → ClassId) (u w : Nat → Nat) (tx : Value) (rec : mF) (ih : ∀ t σ xs res, rec t σ xs = some res → cSem l D kA u w tx t σ xs res) (σ : mS) (xs : List Int32) (res : mR) (h : u_1 (kC_Dra_put_p14 rec σ) xs = some res) : sC_Dra_put_p14 l D kA u w tx σ xs res := by
  intro x0 hxs
  subst hxs
  obtain ⟨σf, rf, dd⟩ := res
  have h : (if (σ.1 3907) = 0 then (lt_ (mI σ 3904 (((σ.1 3904) : Int32) + 1)) (fun σ1 => if bin (σ.1 3904) 100 = true then (lt_ (mA σ1 40 (Int32.toNatClampNeg (σ.1 3904)) x0) (fun σ2 => rec tC_Dra_put_p38 σ2 [x0])) else none)) else (rec tC_Dra_put_p38 σ [x0])) = some (σf, rf, dd) := h
  intro p e s m args below meth c F Lo σ0 hF hLo C
  dsimp only at hF hLo ⊢
  refine ax_aload_n (pc := 14) C d_Dra_put_14 rfl 0 rfl ?_
  refine cg_39_7_Dra_54 (pc := 15) C d_Dra_put_15 ?_
  refine ax_if_ne (pc := 18) C 38 d_Dra_put_18 (by decide) (fun hc => ?_) (fun hc => ?_)
  · have h := it_f hc h
    refine ax_ls ([(0, .ref (u 39)), (1, .int x0)]) [0, 1] rfl ?_
    have hm : sC_Dra_put_p38 l D kA u w tx σ [x0] (σf, rf, _) := ih tC_Dra_put_p38 _ _ _ h
    exact hm _ rfl p e s m args below meth c F Lo σ0 hF hLo C
  · have h := it_t hc h
    refine ax_aload_n (pc := 21) C d_Dra_put_21 rfl 0 rfl ?_
    refine cg_39_0_Dra_9 (pc := 22) C d_Dra_put_22 ?_
    refine ax_aload_n (pc := 25) C d_Dra_put_25 rfl 0 rfl ?_
    refine ax_dup (pc := 26) C d_Dra_put_26 rfl ?_
    refine cg_39_4_Dra_48 (pc := 27) C d_Dra_put_27 ?_
    refine ax_dup_x1 (pc := 30) C d_Dra_put_30 rfl rfl ?_
    refine ax_iconst (pc := 31) C 1 d_Dra_put_31 (by decide +kernel) ?_
    refine ax_iadd (pc := 32) C d_Dra_put_32 ?_
    refine cq_39_4_Dra_48 (pc := 33) C d_Dra_put_33 ?_
    have h := it_l h
    generalize mI σ 3904 (((σ.1 3904) : Int32) + 1) = σ1 at h ⊢
    refine ax_iload_n (pc := 36) C d_Dra_put_36 rfl 1 rfl ?_
    obtain ⟨hb, h⟩ := it_g h
    refine cs_40 (pc := 37) C d_Dra_put_37 (bin_in hb) ?_
    have h := it_l h
    generalize mA σ1 40 (Int32.toNatClampNeg (σ.1 3904)) x0 = σ2 at h ⊢
    refine ax_ls ([(0, .ref (u 39)), (1, .int x0)]) [0, 1] rfl ?_
    have hm : sC_Dra_put_p38 l D kA u w tx σ2 [x0] (σf, rf, _) := ih tC_Dra_put_p38 _ _ _ h
    exact hm _ rfl p e s m args below meth c F Lo σ0 hF hLo C
set_option maxHeartbeats 4000000 in
set_option maxRecDepth 100000 in
theorem oC_Dra_put_p38 (l : Launch) (D : va_G) (kA : Nat → ClassId) (u w : Nat → Nat) (tx : Value) (rec : mF) (ih : ∀ t σ xs res, rec t σ xs = some res → cSem l D kA u w tx t σ xs res) (σ : mS) (xs : List Int32) (res : mR) (h : u_1 (kC_Dra_put_p38 rec σ) xs = some res) : sC_Dra_put_p38 l D kA u w tx σ xs res := by
  intro x0 hxs
  subst hxs
  obtain ⟨σf, rf, dd⟩ := res
  have h : (some (σ, 0, 0)) = some (σf, rf, dd) := h
  intro p e s m args below meth c F Lo σ0 hF hLo C
  dsimp only at hF hLo ⊢
  cases h
  exact ax_vret (pc := 38) C d_Dra_put_38 rfl (Nat.le_refl _) (Nat.le_refl _)
set_option maxHeartbeats 4000000 in
set_option maxRecDepth 100000 in
theorem oC_Dra_reduce (l : Launch) (D : va_G) (kA : Nat → ClassId) (u w : Nat → Nat) (tx : Value) (rec : mF) (ih : ∀ t σ xs res, rec t σ xs = some res → cSem l D kA u w tx t σ xs res) (σ : mS) (xs : List Int32) (res : mR) (h : u_0 (kC_Dra_reduce rec σ) xs = some res) : sC_Dra_reduce l D kA u w tx σ xs res := by
  intro hxs
  subst hxs
  obtain ⟨σf, rf, dd⟩ := res
  have h : (rec tC_Dra_reduce_p6 σ [0, 0, 0]) = some (σf, rf, dd) := h
  refine ax_Mv.of (by decide +kernel) (Nat.le_of_ble_eq_true rfl) ?_
  intro p e s m args below meth c C hnm
  have C : ax_C p s m args meth c b_Dra_reduce "ClauseProver$Draft" 9 none D kA (va_A (cpW kA u w tx σ) s.heap.size) := C
  obtain ⟨F, hFe⟩ : ∃ F, F = dd + 1 := ⟨_, rfl⟩
  obtain ⟨Lo, hLoe⟩ : ∃ Lo, Lo = 48 * dd + 48 := ⟨_, rfl⟩
  obtain ⟨σ0, hσ0⟩ : ∃ s0, s0 = σ := ⟨_, rfl⟩
  suffices K : AW p l e { frames := F, cells := 0, slots := 0, locals := Lo } s m args below meth c D kA (va_A (cpW kA u w tx σ0) s.heap.size) 9 (ax_Qv below args s D kA (cpW kA u w tx σ0) 0 0 (fun w1 => w1 = cpW kA u w tx σf)) 0 [(0, .ref (u 39))] [] (cpW kA u w tx σ) 0 0 by rw [hFe, hLoe, hσ0] at K; exact ax_ls ([(0, .ref (u 39))]) [0] rfl K
  have C : ax_C p s m args meth c b_Dra_reduce "ClauseProver$Draft" 9 none D kA (va_A (cpW kA u w tx σ0) s.heap.size) := by rw [hσ0]; exact C
  have hF : dd + 1 ≤ F := by omega
  have hLo : 48 * dd + 48 ≤ Lo := by omega
  clear hFe hLoe hσ0
  refine ax_iconst (pc := 0) C 0 d_Dra_reduce_0 (by decide +kernel) ?_
  refine ax_istore_n (pc := 1) C d_Dra_reduce_1 rfl (Nat.le_of_ble_eq_true rfl) ([(1, .int 0), (0, .ref (u 39))]) rfl ?_
  refine ax_iconst (pc := 2) C 0 d_Dra_reduce_2 (by decide +kernel) ?_
  refine ax_istore_n (pc := 3) C d_Dra_reduce_3 rfl (Nat.le_of_ble_eq_true rfl) ([(2, .int 0), (1, .int 0), (0, .ref (u 39))]) rfl ?_
  refine ax_iconst (pc := 4) C 0 d_Dra_reduce_4 (by decide +kernel) ?_
  refine ax_istore_n (pc := 5) C d_Dra_reduce_5 rfl (Nat.le_of_ble_eq_true rfl) ([(3, .int 0), (2, .int 0), (1, .int 0), (0, .ref (u 39))]) rfl ?_
  refine ax_ls ([(0, .ref (u 39)), (1, .int 0), (2, .int 0), (3, .int 0)]) [3, 2, 1, 0] rfl ?_
  have hm : sC_Dra_reduce_p6 l D kA u w tx σ [0, 0, 0] (σf, rf, _) := ih tC_Dra_reduce_p6 _ _ _ h
  exact hm _ _ _ rfl p e s m args below meth c F Lo σ0 hF hLo C
set_option maxHeartbeats 4000000 in
set_option maxRecDepth 100000 in
theorem oC_Dra_reduce_p6 (l : Launch) (D : va_G) (kA : Nat → ClassId) (u w : Nat → Nat) (tx : Value) (rec : mF) (ih : ∀ t σ xs res, rec t σ xs = some res → cSem l D kA u w tx t σ xs res) (σ : mS) (xs : List Int32) (res : mR) (h : u_3 (kC_Dra_reduce_p6 rec σ) xs = some res) : sC_Dra_reduce_p6 l D kA u w tx σ xs res := by
  intro x0 x1 x2 hxs
  subst hxs
  obtain ⟨σf, rf, dd⟩ := res
  have h : (if (σ.1 3905) ≤ x2 then (lt_ (mI σ 3905 x0) (fun σ1 => lt_ (mI σ1 3904 x1) (fun σ2 => bnd (rec tC_Dra_renumber σ2 []) (fun σ3 r3 => some (σ3, 0, 0))))) else (if bin x2 9 = true then (if bin ((x2 : Int32) + 1) 9 = true then (if bin x2 8 = true then (if bin x2 8 = true then (if (σ.2.1 43 (Int32.toNatClampNeg x2)) = 0 then (if bin x2 8 = true then (bnd (rec tC_Dra_isSame σ [(σ.2.1 41 (Int32.toNatClampNeg x2)), (((σ.2.1 42 (Int32.toNatClampNeg x2)) : Int32) - (σ.2.1 41 (Int32.toNatClampNeg x2))), (σ.2.1 42 (Int32.toNatClampNeg x2)), (((((σ.2.1 41 (Int32.toNatClampNeg ((x2 : Int32) + 1))) : Int32) - (σ.2.1 41 (Int32.toNatClampNeg x2))) : Int32) - (((σ.2.1 42 (Int32.toNatClampNeg x2)) : Int32) - (σ.2.1 41 (Int32.toNatClampNeg x2))))]) (fun σ4 r4 => if r4 = 0 then (rec tC_Dra_reduce_p81 σ4 [x0, x1, x2, (σ.2.1 41 (Int32.toNatClampNeg x2)), (((σ.2.1 41 (Int32.toNatClampNeg ((x2 : Int32) + 1))) : Int32) - (σ.2.1 41 (Int32.toNatClampNeg x2))), (((σ.2.1 42 (Int32.toNatClampNeg x2)) : Int32) - (σ.2.1 41 (Int32.toNatClampNeg x2)))]) else (rec tC_Dra_reduce_p82 σ4 [x0, x1, x2, (σ.2.1 41 (Int32.toNatClampNeg x2)), (((σ.2.1 41 (Int32.toNatClampNeg ((x2 : Int32) + 1))) : Int32) - (σ.2.1 41 (Int32.toNatClampNeg x2))), (((σ.2.1 42 (Int32.toNatClampNeg x2)) : Int32) - (σ.2.1 41 (Int32.toNatClampNeg x2))), 1]))) else none) else (rec tC_Dra_reduce_p81 σ [x0, x1, x2, (σ.2.1 41 (Int32.toNatClampNeg x2)), (((σ.2.1 41 (Int32.toNatClampNeg ((x2 : Int32) + 1))) : Int32) - (σ.2.1 41 (Int32.toNatClampNeg x2))), (((σ.2.1 42 (Int32.toNatClampNeg x2)) : Int32) - (σ.2.1 41 (Int32.toNatClampNeg x2)))])) else none) else none) else none) else none)) = some (σf, rf, dd) := h
  intro p e s m args below meth c F Lo σ0 hF hLo C
  dsimp only at hF hLo ⊢
  refine ax_iload_n (pc := 6) C d_Dra_reduce_6 rfl 3 rfl ?_
  refine ax_aload_n (pc := 7) C d_Dra_reduce_7 rfl 0 rfl ?_
  refine cg_39_5_Dra_51 (pc := 8) C d_Dra_reduce_8 ?_
  refine ax_icmp_ge (pc := 11) C 208 d_Dra_reduce_11 (by decide) (fun hc => ?_) (fun hc => ?_)
  · have h := it_t hc h
    refine ax_aload_n (pc := 208) C d_Dra_reduce_208 rfl 0 rfl ?_
    refine ax_iload_n (pc := 209) C d_Dra_reduce_209 rfl 1 rfl ?_
    refine cq_39_5_Dra_51 (pc := 210) C d_Dra_reduce_210 ?_
    have h := it_l h
    generalize mI σ 3905 x0 = σ1 at h ⊢
    refine ax_aload_n (pc := 213) C d_Dra_reduce_213 rfl 0 rfl ?_
    refine ax_iload_n (pc := 214) C d_Dra_reduce_214 rfl 2 rfl ?_
    refine cq_39_4_Dra_48 (pc := 215) C d_Dra_reduce_215 ?_
    have h := it_l h
    generalize mI σ1 3904 x1 = σ2 at h ⊢
    refine ax_aload_n (pc := 218) C d_Dra_reduce_218 rfl 0 rfl ?_
    obtain ⟨σ3, r3, d1_3, d2_3, h1, h, hd2, hd1⟩ := it_b h
    have hm : sC_Dra_renumber l D kA u w tx σ2 [] (σ3, r3, d1_3) := ih tC_Dra_renumber _ _ _ h1
    refine cc_Vv (pc := 219) C (σ2 := σ3) (As := []) (rest := []) (hm rfl) ml_Dra_122 39 rfl rfl rfl d_Dra_reduce_219 rfl rfl (by dsimp only; omega) (by dsimp only; omega) (Nat.le_of_ble_eq_true rfl) (Nat.le_of_ble_eq_true rfl) (Nat.le_of_ble_eq_true rfl) ?_
    have hF : d2_3 + 1 ≤ F := by omega
    have hLo : 48 * d2_3 + 48 ≤ Lo := by omega
    cases h
    exact ax_vret (pc := 222) C d_Dra_reduce_222 rfl (Nat.le_refl _) (Nat.le_refl _)
  · have h := it_f hc h
    refine ax_aload_n (pc := 14) C d_Dra_reduce_14 rfl 0 rfl ?_
    refine cg_39_1_Dra_15 (pc := 15) C d_Dra_reduce_15 ?_
    refine ax_iload_n (pc := 18) C d_Dra_reduce_18 rfl 3 rfl ?_
    obtain ⟨hb, h⟩ := it_g h
    refine cl_41 (pc := 19) C d_Dra_reduce_19 (bin_in hb) ?_
    refine ax_istore (pc := 20) C d_Dra_reduce_20 (Nat.le_of_ble_eq_true rfl) ([(4, .int (σ.2.1 41 (Int32.toNatClampNeg x2))), (0, .ref (u 39)), (1, .int x0), (2, .int x1), (3, .int x2)]) rfl ?_
    refine ax_aload_n (pc := 22) C d_Dra_reduce_22 rfl 1 rfl ?_
    refine cg_39_1_Dra_15 (pc := 23) C d_Dra_reduce_23 ?_
    refine ax_iload_n (pc := 26) C d_Dra_reduce_26 rfl 4 rfl ?_
    refine ax_iconst (pc := 27) C 1 d_Dra_reduce_27 (by decide +kernel) ?_
    refine ax_iadd (pc := 28) C d_Dra_reduce_28 ?_
    obtain ⟨hb, h⟩ := it_g h
    refine cl_41 (pc := 29) C d_Dra_reduce_29 (bin_in hb) ?_
    refine ax_iload (pc := 30) C d_Dra_reduce_30 0 rfl ?_
    refine ax_isub (pc := 32) C d_Dra_reduce_32 ?_
    refine ax_istore (pc := 33) C d_Dra_reduce_33 (Nat.le_of_ble_eq_true rfl) ([(5, .int (((σ.2.1 41 (Int32.toNatClampNeg ((x2 : Int32) + 1))) : Int32) - (σ.2.1 41 (Int32.toNatClampNeg x2)))), (4, .int (σ.2.1 41 (Int32.toNatClampNeg x2))), (0, .ref (u 39)), (1, .int x0), (2, .int x1), (3, .int x2)]) rfl ?_
    refine ax_aload_n (pc := 35) C d_Dra_reduce_35 rfl 2 rfl ?_
    refine cg_39_2_Dra_18 (pc := 36) C d_Dra_reduce_36 ?_
    refine ax_iload_n (pc := 39) C d_Dra_reduce_39 rfl 5 rfl ?_
    obtain ⟨hb, h⟩ := it_g h
    refine cl_42 (pc := 40) C d_Dra_reduce_40 (bin_in hb) ?_
    refine ax_iload (pc := 41) C d_Dra_reduce_41 1 rfl ?_
    refine ax_isub (pc := 43) C d_Dra_reduce_43 ?_
    refine ax_istore (pc := 44) C d_Dra_reduce_44 (Nat.le_of_ble_eq_true rfl) ([(6, .int (((σ.2.1 42 (Int32.toNatClampNeg x2)) : Int32) - (σ.2.1 41 (Int32.toNatClampNeg x2)))), (5, .int (((σ.2.1 41 (Int32.toNatClampNeg ((x2 : Int32) + 1))) : Int32) - (σ.2.1 41 (Int32.toNatClampNeg x2)))), (4, .int (σ.2.1 41 (Int32.toNatClampNeg x2))), (0, .ref (u 39)), (1, .int x0), (2, .int x1), (3, .int x2)]) rfl ?_
    refine ax_aload_n (pc := 46) C d_Dra_reduce_46 rfl 3 rfl ?_
    refine cg_39_3_Dra_21 (pc := 47) C d_Dra_reduce_47 ?_
    refine ax_iload_n (pc := 50) C d_Dra_reduce_50 rfl 6 rfl ?_
    obtain ⟨hb, h⟩ := it_g h
    refine cl_43 (pc := 51) C d_Dra_reduce_51 (bin_in hb) ?_
    refine ax_if_ne (pc := 52) C 81 d_Dra_reduce_52 (by decide) (fun hc => ?_) (fun hc => ?_)
    · have h := it_f hc h
      refine ax_ls ([(0, .ref (u 39)), (1, .int x0), (2, .int x1), (3, .int x2), (4, .int (σ.2.1 41 (Int32.toNatClampNeg x2))), (5, .int (((σ.2.1 41 (Int32.toNatClampNeg ((x2 : Int32) + 1))) : Int32) - (σ.2.1 41 (Int32.toNatClampNeg x2)))), (6, .int (((σ.2.1 42 (Int32.toNatClampNeg x2)) : Int32) - (σ.2.1 41 (Int32.toNatClampNeg x2))))]) [3, 4, 5, 6, 2, 1, 0] rfl ?_
      have hm : sC_Dra_reduce_p81 l D kA u w tx σ [x0, x1, x2, (σ.2.1 41 (Int32.toNatClampNeg x2)), (((σ.2.1 41 (Int32.toNatClampNeg ((x2 : Int32) + 1))) : Int32) - (σ.2.1 41 (Int32.toNatClampNeg x2))), (((σ.2.1 42 (Int32.toNatClampNeg x2)) : Int32) - (σ.2.1 41 (Int32.toNatClampNeg x2)))] (σf, rf, _) := ih tC_Dra_reduce_p81 _ _ _ h
      exact hm _ _ _ _ _ _ rfl p e s m args below meth c F Lo σ0 hF hLo C
    · have h := it_t hc h
      refine ax_aload_n (pc := 55) C d_Dra_reduce_55 rfl 3 rfl ?_
      refine ax_iload (pc := 56) C d_Dra_reduce_56 2 rfl ?_
      refine ax_iload (pc := 58) C d_Dra_reduce_58 0 rfl ?_
      refine ax_aload_n (pc := 60) C d_Dra_reduce_60 rfl 3 rfl ?_
      refine cg_39_2_Dra_18 (pc := 61) C d_Dra_reduce_61 ?_
      refine ax_iload_n (pc := 64) C d_Dra_reduce_64 rfl 6 rfl ?_
      obtain ⟨hb, h⟩ := it_g h
      refine cl_42 (pc := 65) C d_Dra_reduce_65 (bin_in hb) ?_
      refine ax_iload (pc := 66) C d_Dra_reduce_66 1 rfl ?_
      refine ax_iload (pc := 68) C d_Dra_reduce_68 0 rfl ?_
      refine ax_isub (pc := 70) C d_Dra_reduce_70 ?_
      obtain ⟨σ4, r4, d1_4, d2_4, h1, h, hd2, hd1⟩ := it_b h
      have hm : sC_Dra_isSame l D kA u w tx σ [(σ.2.1 41 (Int32.toNatClampNeg x2)), (((σ.2.1 42 (Int32.toNatClampNeg x2)) : Int32) - (σ.2.1 41 (Int32.toNatClampNeg x2))), (σ.2.1 42 (Int32.toNatClampNeg x2)), (((((σ.2.1 41 (Int32.toNatClampNeg ((x2 : Int32) + 1))) : Int32) - (σ.2.1 41 (Int32.toNatClampNeg x2))) : Int32) - (((σ.2.1 42 (Int32.toNatClampNeg x2)) : Int32) - (σ.2.1 41 (Int32.toNatClampNeg x2))))] (σ4, r4, d1_4) := ih tC_Dra_isSame _ _ _ h1
      refine cc_Vi (pc := 71) C (r0 := r4) (σ2 := σ4) (As := [.int (σ.2.1 41 (Int32.toNatClampNeg x2)), .int (((σ.2.1 42 (Int32.toNatClampNeg x2)) : Int32) - (σ.2.1 41 (Int32.toNatClampNeg x2))), .int (σ.2.1 42 (Int32.toNatClampNeg x2)), .int (((((σ.2.1 41 (Int32.toNatClampNeg ((x2 : Int32) + 1))) : Int32) - (σ.2.1 41 (Int32.toNatClampNeg x2))) : Int32) - (((σ.2.1 42 (Int32.toNatClampNeg x2)) : Int32) - (σ.2.1 41 (Int32.toNatClampNeg x2))))]) (rest := []) (hm _ _ _ _ rfl) ml_Dra_114 39 rfl rfl rfl d_Dra_reduce_71 rfl rfl (by dsimp only; omega) (by dsimp only; omega) (Nat.le_of_ble_eq_true rfl) (Nat.le_of_ble_eq_true rfl) (Nat.le_of_ble_eq_true rfl) ?_
      have hF : d2_4 + 1 ≤ F := by omega
      have hLo : 48 * d2_4 + 48 ≤ Lo := by omega
      refine ax_if_eq (pc := 74) C 81 d_Dra_reduce_74 (by decide) (fun hc => ?_) (fun hc => ?_)
      · have h := it_t hc h
        refine ax_ls ([(0, .ref (u 39)), (1, .int x0), (2, .int x1), (3, .int x2), (4, .int (σ.2.1 41 (Int32.toNatClampNeg x2))), (5, .int (((σ.2.1 41 (Int32.toNatClampNeg ((x2 : Int32) + 1))) : Int32) - (σ.2.1 41 (Int32.toNatClampNeg x2)))), (6, .int (((σ.2.1 42 (Int32.toNatClampNeg x2)) : Int32) - (σ.2.1 41 (Int32.toNatClampNeg x2))))]) [3, 4, 5, 6, 2, 1, 0] rfl ?_
        have hm : sC_Dra_reduce_p81 l D kA u w tx σ4 [x0, x1, x2, (σ.2.1 41 (Int32.toNatClampNeg x2)), (((σ.2.1 41 (Int32.toNatClampNeg ((x2 : Int32) + 1))) : Int32) - (σ.2.1 41 (Int32.toNatClampNeg x2))), (((σ.2.1 42 (Int32.toNatClampNeg x2)) : Int32) - (σ.2.1 41 (Int32.toNatClampNeg x2)))] (σf, rf, _) := ih tC_Dra_reduce_p81 _ _ _ h
        exact hm _ _ _ _ _ _ rfl p e s m args below meth c F Lo σ0 hF hLo C
      · have h := it_f hc h
        refine ax_iconst (pc := 77) C 1 d_Dra_reduce_77 (by decide +kernel) ?_
        refine ax_goto (pc := 78) C 82 d_Dra_reduce_78 (by decide) ?_
        refine ax_ls ([(0, .ref (u 39)), (1, .int x0), (2, .int x1), (3, .int x2), (4, .int (σ.2.1 41 (Int32.toNatClampNeg x2))), (5, .int (((σ.2.1 41 (Int32.toNatClampNeg ((x2 : Int32) + 1))) : Int32) - (σ.2.1 41 (Int32.toNatClampNeg x2)))), (6, .int (((σ.2.1 42 (Int32.toNatClampNeg x2)) : Int32) - (σ.2.1 41 (Int32.toNatClampNeg x2))))]) [3, 4, 5, 6, 2, 1, 0] rfl ?_
        have hm : sC_Dra_reduce_p82 l D kA u w tx σ4 [x0, x1, x2, (σ.2.1 41 (Int32.toNatClampNeg x2)), (((σ.2.1 41 (Int32.toNatClampNeg ((x2 : Int32) + 1))) : Int32) - (σ.2.1 41 (Int32.toNatClampNeg x2))), (((σ.2.1 42 (Int32.toNatClampNeg x2)) : Int32) - (σ.2.1 41 (Int32.toNatClampNeg x2))), 1] (σf, rf, _) := ih tC_Dra_reduce_p82 _ _ _ h
        exact hm _ _ _ _ _ _ _ rfl p e s m args below meth c F Lo σ0 hF hLo C
set_option maxHeartbeats 4000000 in
set_option maxRecDepth 100000 in
theorem oC_Dra_reduce_p81 (l : Launch) (D : va_G) (kA : Nat → ClassId) (u w : Nat → Nat) (tx : Value) (rec : mF) (ih : ∀ t σ xs res, rec t σ xs = some res → cSem l D kA u w tx t σ xs res) (σ : mS) (xs : List Int32) (res : mR) (h : u_6 (kC_Dra_reduce_p81 rec σ) xs = some res) : sC_Dra_reduce_p81 l D kA u w tx σ xs res := by
  intro x0 x1 x2 x3 x4 x5 hxs
  subst hxs
  obtain ⟨σf, rf, dd⟩ := res
  have h : (rec tC_Dra_reduce_p82 σ [x0, x1, x2, x3, x4, x5, 0]) = some (σf, rf, dd) := h
  intro p e s m args below meth c F Lo σ0 hF hLo C
  dsimp only at hF hLo ⊢
  refine ax_iconst (pc := 81) C 0 d_Dra_reduce_81 (by decide +kernel) ?_
  refine ax_ls ([(0, .ref (u 39)), (1, .int x0), (2, .int x1), (3, .int x2), (4, .int x3), (5, .int x4), (6, .int x5)]) [0, 1, 2, 3, 4, 5, 6] rfl ?_
  have hm : sC_Dra_reduce_p82 l D kA u w tx σ [x0, x1, x2, x3, x4, x5, 0] (σf, rf, _) := ih tC_Dra_reduce_p82 _ _ _ h
  exact hm _ _ _ _ _ _ _ rfl p e s m args below meth c F Lo σ0 hF hLo C
set_option maxHeartbeats 4000000 in
set_option maxRecDepth 100000 in
theorem oC_Dra_reduce_p82 (l : Launch) (D : va_G) (kA : Nat → ClassId) (u w : Nat → Nat) (tx : Value) (rec : mF) (ih : ∀ t σ xs res, rec t σ xs = some res → cSem l D kA u w tx t σ xs res) (σ : mS) (xs : List Int32) (res : mR) (h : u_7 (kC_Dra_reduce_p82 rec σ) xs = some res) : sC_Dra_reduce_p82 l D kA u w tx σ xs res := by
  intro x0 x1 x2 x3 x4 x5 x6 hxs
  subst hxs
  obtain ⟨σf, rf, dd⟩ := res
  have h : (rec tC_Dra_reduce_p87 σ [x0, x1, x2, x3, x4, x5, x6, 0]) = some (σf, rf, dd) := h
  intro p e s m args below meth c F Lo σ0 hF hLo C
  dsimp only at hF hLo ⊢
  refine ax_istore (pc := 82) C d_Dra_reduce_82 (Nat.le_of_ble_eq_true rfl) ([(7, .int x6), (0, .ref (u 39)), (1, .int x0), (2, .int x1), (3, .int x2), (4, .int x3), (5, .int x4), (6, .int x5)]) rfl ?_
  refine ax_iconst (pc := 84) C 0 d_Dra_reduce_84 (by decide +kernel) ?_
  refine ax_istore (pc := 85) C d_Dra_reduce_85 (Nat.le_of_ble_eq_true rfl) ([(8, .int 0), (7, .int x6), (0, .ref (u 39)), (1, .int x0), (2, .int x1), (3, .int x2), (4, .int x3), (5, .int x4), (6, .int x5)]) rfl ?_
  refine ax_ls ([(0, .ref (u 39)), (1, .int x0), (2, .int x1), (3, .int x2), (4, .int x3), (5, .int x4), (6, .int x5), (7, .int x6), (8, .int 0)]) [2, 3, 4, 5, 6, 7, 8, 1, 0] rfl ?_
  have hm : sC_Dra_reduce_p87 l D kA u w tx σ [x0, x1, x2, x3, x4, x5, x6, 0] (σf, rf, _) := ih tC_Dra_reduce_p87 _ _ _ h
  exact hm _ _ _ _ _ _ _ _ rfl p e s m args below meth c F Lo σ0 hF hLo C
set_option maxHeartbeats 4000000 in
set_option maxRecDepth 100000 in
theorem oC_Dra_reduce_p87 (l : Launch) (D : va_G) (kA : Nat → ClassId) (u w : Nat → Nat) (tx : Value) (rec : mF) (ih : ∀ t σ xs res, rec t σ xs = some res → cSem l D kA u w tx t σ xs res) (σ : mS) (xs : List Int32) (res : mR) (h : u_8 (kC_Dra_reduce_p87 rec σ) xs = some res) : sC_Dra_reduce_p87 l D kA u w tx σ xs res := by
  intro x0 x1 x2 x3 x4 x5 x6 x7 hxs
  subst hxs
  obtain ⟨σf, rf, dd⟩ := res
  have h : (if x0 ≤ x7 then (rec tC_Dra_reduce_p137 σ [x0, x1, x2, x3, x4, x5, x6, x7]) else (if x6 = 0 then (if bin x7 8 = true then (if bin x2 8 = true then (if (σ.2.1 43 (Int32.toNatClampNeg x7)) = (σ.2.1 43 (Int32.toNatClampNeg x2)) then (bnd (rec tC_Dra_hasSameSides σ [x2, x7]) (fun σ1 r1 => if r1 = 0 then (rec tC_Dra_reduce_p128 σ1 [x0, x1, x2, x3, x4, x5, x6, x7]) else (rec tC_Dra_reduce_p129 σ1 [x0, x1, x2, x3, x4, x5, x6, x7, 1]))) else (rec tC_Dra_reduce_p128 σ [x0, x1, x2, x3, x4, x5, x6, x7])) else none) else none) else (rec tC_Dra_reduce_p137 σ [x0, x1, x2, x3, x4, x5, x6, x7]))) = some (σf, rf, dd) := h
  intro p e s m args below meth c F Lo σ0 hF hLo C
  dsimp only at hF hLo ⊢
  refine ax_iload (pc := 87) C d_Dra_reduce_87 8 rfl ?_
  refine ax_iload_n (pc := 89) C d_Dra_reduce_89 rfl 1 rfl ?_
  refine ax_icmp_ge (pc := 90) C 137 d_Dra_reduce_90 (by decide) (fun hc => ?_) (fun hc => ?_)
  · have h := it_t hc h
    refine ax_ls ([(0, .ref (u 39)), (1, .int x0), (2, .int x1), (3, .int x2), (4, .int x3), (5, .int x4), (6, .int x5), (7, .int x6), (8, .int x7)]) [0, 1, 2, 3, 4, 5, 6, 7, 8] rfl ?_
    have hm : sC_Dra_reduce_p137 l D kA u w tx σ [x0, x1, x2, x3, x4, x5, x6, x7] (σf, rf, _) := ih tC_Dra_reduce_p137 _ _ _ h
    exact hm _ _ _ _ _ _ _ _ rfl p e s m args below meth c F Lo σ0 hF hLo C
  · have h := it_f hc h
    refine ax_iload (pc := 93) C d_Dra_reduce_93 7 rfl ?_
    refine ax_if_ne (pc := 95) C 137 d_Dra_reduce_95 (by decide) (fun hc => ?_) (fun hc => ?_)
    · have h := it_f hc h
      refine ax_ls ([(0, .ref (u 39)), (1, .int x0), (2, .int x1), (3, .int x2), (4, .int x3), (5, .int x4), (6, .int x5), (7, .int x6), (8, .int x7)]) [0, 1, 2, 3, 4, 5, 6, 7, 8] rfl ?_
      have hm : sC_Dra_reduce_p137 l D kA u w tx σ [x0, x1, x2, x3, x4, x5, x6, x7] (σf, rf, _) := ih tC_Dra_reduce_p137 _ _ _ h
      exact hm _ _ _ _ _ _ _ _ rfl p e s m args below meth c F Lo σ0 hF hLo C
    · have h := it_t hc h
      refine ax_aload_n (pc := 98) C d_Dra_reduce_98 rfl 0 rfl ?_
      refine cg_39_3_Dra_21 (pc := 99) C d_Dra_reduce_99 ?_
      refine ax_iload (pc := 102) C d_Dra_reduce_102 8 rfl ?_
      obtain ⟨hb, h⟩ := it_g h
      refine cl_43 (pc := 104) C d_Dra_reduce_104 (bin_in hb) ?_
      refine ax_aload_n (pc := 105) C d_Dra_reduce_105 rfl 0 rfl ?_
      refine cg_39_3_Dra_21 (pc := 106) C d_Dra_reduce_106 ?_
      refine ax_iload_n (pc := 109) C d_Dra_reduce_109 rfl 3 rfl ?_
      obtain ⟨hb, h⟩ := it_g h
      refine cl_43 (pc := 110) C d_Dra_reduce_110 (bin_in hb) ?_
      refine ax_icmp_ne (pc := 111) C 128 d_Dra_reduce_111 (by decide) (fun hc => ?_) (fun hc => ?_)
      · have h := it_f hc h
        refine ax_ls ([(0, .ref (u 39)), (1, .int x0), (2, .int x1), (3, .int x2), (4, .int x3), (5, .int x4), (6, .int x5), (7, .int x6), (8, .int x7)]) [0, 1, 2, 3, 4, 5, 6, 7, 8] rfl ?_
        have hm : sC_Dra_reduce_p128 l D kA u w tx σ [x0, x1, x2, x3, x4, x5, x6, x7] (σf, rf, _) := ih tC_Dra_reduce_p128 _ _ _ h
        exact hm _ _ _ _ _ _ _ _ rfl p e s m args below meth c F Lo σ0 hF hLo C
      · have h := it_t hc h
        refine ax_aload_n (pc := 114) C d_Dra_reduce_114 rfl 0 rfl ?_
        refine ax_iload_n (pc := 115) C d_Dra_reduce_115 rfl 3 rfl ?_
        refine ax_iload (pc := 116) C d_Dra_reduce_116 8 rfl ?_
        obtain ⟨σ1, r1, d1_1, d2_1, h1, h, hd2, hd1⟩ := it_b h
        have hm : sC_Dra_hasSameSides l D kA u w tx σ [x2, x7] (σ1, r1, d1_1) := ih tC_Dra_hasSameSides _ _ _ h1
        refine cc_Vi (pc := 118) C (r0 := r1) (σ2 := σ1) (As := [.int x2, .int x7]) (rest := []) (hm _ _ rfl) ml_Dra_118 39 rfl rfl rfl d_Dra_reduce_118 rfl rfl (by dsimp only; omega) (by dsimp only; omega) (Nat.le_of_ble_eq_true rfl) (Nat.le_of_ble_eq_true rfl) (Nat.le_of_ble_eq_true rfl) ?_
        have hF : d2_1 + 1 ≤ F := by omega
        have hLo : 48 * d2_1 + 48 ≤ Lo := by omega
        refine ax_if_eq (pc := 121) C 128 d_Dra_reduce_121 (by decide) (fun hc => ?_) (fun hc => ?_)
        · have h := it_t hc h
          refine ax_ls ([(0, .ref (u 39)), (1, .int x0), (2, .int x1), (3, .int x2), (4, .int x3), (5, .int x4), (6, .int x5), (7, .int x6), (8, .int x7)]) [0, 1, 2, 3, 4, 5, 6, 7, 8] rfl ?_
          have hm : sC_Dra_reduce_p128 l D kA u w tx σ1 [x0, x1, x2, x3, x4, x5, x6, x7] (σf, rf, _) := ih tC_Dra_reduce_p128 _ _ _ h
          exact hm _ _ _ _ _ _ _ _ rfl p e s m args below meth c F Lo σ0 hF hLo C
        · have h := it_f hc h
          refine ax_iconst (pc := 124) C 1 d_Dra_reduce_124 (by decide +kernel) ?_
          refine ax_goto (pc := 125) C 129 d_Dra_reduce_125 (by decide) ?_
          refine ax_ls ([(0, .ref (u 39)), (1, .int x0), (2, .int x1), (3, .int x2), (4, .int x3), (5, .int x4), (6, .int x5), (7, .int x6), (8, .int x7)]) [0, 1, 2, 3, 4, 5, 6, 7, 8] rfl ?_
          have hm : sC_Dra_reduce_p129 l D kA u w tx σ1 [x0, x1, x2, x3, x4, x5, x6, x7, 1] (σf, rf, _) := ih tC_Dra_reduce_p129 _ _ _ h
          exact hm _ _ _ _ _ _ _ _ _ rfl p e s m args below meth c F Lo σ0 hF hLo C
set_option maxHeartbeats 4000000 in
set_option maxRecDepth 100000 in
theorem oC_Dra_reduce_p128 (l : Launch) (D : va_G) (kA : Nat → ClassId) (u w : Nat → Nat) (tx : Value) (rec : mF) (ih : ∀ t σ xs res, rec t σ xs = some res → cSem l D kA u w tx t σ xs res) (σ : mS) (xs : List Int32) (res : mR) (h : u_8 (kC_Dra_reduce_p128 rec σ) xs = some res) : sC_Dra_reduce_p128 l D kA u w tx σ xs res := by
  intro x0 x1 x2 x3 x4 x5 x6 x7 hxs
  subst hxs
  obtain ⟨σf, rf, dd⟩ := res
  have h : (rec tC_Dra_reduce_p129 σ [x0, x1, x2, x3, x4, x5, x6, x7, 0]) = some (σf, rf, dd) := h
  intro p e s m args below meth c F Lo σ0 hF hLo C
  dsimp only at hF hLo ⊢
  refine ax_iconst (pc := 128) C 0 d_Dra_reduce_128 (by decide +kernel) ?_
  refine ax_ls ([(0, .ref (u 39)), (1, .int x0), (2, .int x1), (3, .int x2), (4, .int x3), (5, .int x4), (6, .int x5), (7, .int x6), (8, .int x7)]) [0, 1, 2, 3, 4, 5, 6, 7, 8] rfl ?_
  have hm : sC_Dra_reduce_p129 l D kA u w tx σ [x0, x1, x2, x3, x4, x5, x6, x7, 0] (σf, rf, _) := ih tC_Dra_reduce_p129 _ _ _ h
  exact hm _ _ _ _ _ _ _ _ _ rfl p e s m args below meth c F Lo σ0 hF hLo C
set_option maxHeartbeats 4000000 in
set_option maxRecDepth 100000 in
theorem oC_Dra_reduce_p129 (l : Launch) (D : va_G) (kA : Nat → ClassId) (u w : Nat → Nat) (tx : Value) (rec : mF) (ih : ∀ t σ xs res, rec t σ xs = some res → cSem l D kA u w tx t σ xs res) (σ : mS) (xs : List Int32) (res : mR) (h : u_9 (kC_Dra_reduce_p129 rec σ) xs = some res) : sC_Dra_reduce_p129 l D kA u w tx σ xs res := by
  intro x0 x1 x2 x3 x4 x5 x6 x7 x8 hxs
  subst hxs
  obtain ⟨σf, rf, dd⟩ := res
  have h : (rec tC_Dra_reduce_p87 σ [x0, x1, x2, x3, x4, x5, x8, (x7 + 1)]) = some (σf, rf, dd) := h
  intro p e s m args below meth c F Lo σ0 hF hLo C
  dsimp only at hF hLo ⊢
  refine ax_istore (pc := 129) C d_Dra_reduce_129 (Nat.le_of_ble_eq_true rfl) ([(7, .int x8), (0, .ref (u 39)), (1, .int x0), (2, .int x1), (3, .int x2), (4, .int x3), (5, .int x4), (6, .int x5), (8, .int x7)]) rfl ?_
  refine ax_iinc (pc := 131) C (x7 + 1) d_Dra_reduce_131 8 rfl rfl (Nat.le_of_ble_eq_true rfl) ([(8, .int (x7 + 1)), (7, .int x8), (0, .ref (u 39)), (1, .int x0), (2, .int x1), (3, .int x2), (4, .int x3), (5, .int x4), (6, .int x5)]) rfl ?_
  refine ax_goto (pc := 134) C 87 d_Dra_reduce_134 (by decide) ?_
  refine ax_ls ([(0, .ref (u 39)), (1, .int x0), (2, .int x1), (3, .int x2), (4, .int x3), (5, .int x4), (6, .int x5), (7, .int x8), (8, .int (x7 + 1))]) [2, 3, 4, 5, 6, 7, 8, 1, 0] rfl ?_
  have hm : sC_Dra_reduce_p87 l D kA u w tx σ [x0, x1, x2, x3, x4, x5, x8, (x7 + 1)] (σf, rf, _) := ih tC_Dra_reduce_p87 _ _ _ h
  exact hm _ _ _ _ _ _ _ _ rfl p e s m args below meth c F Lo σ0 hF hLo C
set_option maxHeartbeats 4000000 in
set_option maxRecDepth 100000 in
theorem oC_Dra_reduce_p137 (l : Launch) (D : va_G) (kA : Nat → ClassId) (u w : Nat → Nat) (tx : Value) (rec : mF) (ih : ∀ t σ xs res, rec t σ xs = some res → cSem l D kA u w tx t σ xs res) (σ : mS) (xs : List Int32) (res : mR) (h : u_8 (kC_Dra_reduce_p137 rec σ) xs = some res) : sC_Dra_reduce_p137 l D kA u w tx σ xs res := by
  intro x0 x1 x2 x3 x4 x5 x6 x7 hxs
  subst hxs
  obtain ⟨σf, rf, dd⟩ := res
  have h : (if x6 = 0 then (if bcp x3 x1 x4 100 100 = true then (lt_ (mCp σ 40 40 (Int32.toNatClampNeg x3) (Int32.toNatClampNeg x1) (Int32.toNatClampNeg x4)) (fun σ1 => if bin x2 8 = true then (if bin x0 8 = true then (lt_ (mA σ1 43 (Int32.toNatClampNeg x0) (vp_nar .boolean (σ1.2.1 43 (Int32.toNatClampNeg x2)))) (fun σ2 => if bin x0 9 = true then (lt_ (mA σ2 41 (Int32.toNatClampNeg x0) x1) (fun σ3 => if bin x0 8 = true then (lt_ (mA σ3 42 (Int32.toNatClampNeg x0) ((x1 : Int32) + x5)) (fun σ4 => if bin (x0 + 1) 9 = true then (lt_ (mA σ4 41 (Int32.toNatClampNeg (x0 + 1)) ((x1 : Int32) + x4)) (fun σ5 => rec tC_Dra_reduce_p202 σ5 [(x0 + 1), ((x1 : Int32) + x4), x2, x3, x4, x5, x6, x7])) else none)) else none)) else none)) else none) else none)) else none) else (rec tC_Dra_reduce_p202 σ [x0, x1, x2, x3, x4, x5, x6, x7])) = some (σf, rf, dd) := h
  intro p e s m args below meth c F Lo σ0 hF hLo C
  dsimp only at hF hLo ⊢
  refine ax_iload (pc := 137) C d_Dra_reduce_137 7 rfl ?_
  refine ax_if_ne (pc := 139) C 202 d_Dra_reduce_139 (by decide) (fun hc => ?_) (fun hc => ?_)
  · have h := it_f hc h
    refine ax_ls ([(0, .ref (u 39)), (1, .int x0), (2, .int x1), (3, .int x2), (4, .int x3), (5, .int x4), (6, .int x5), (7, .int x6), (8, .int x7)]) [0, 1, 2, 3, 4, 5, 6, 7, 8] rfl ?_
    have hm : sC_Dra_reduce_p202 l D kA u w tx σ [x0, x1, x2, x3, x4, x5, x6, x7] (σf, rf, _) := ih tC_Dra_reduce_p202 _ _ _ h
    exact hm _ _ _ _ _ _ _ _ rfl p e s m args below meth c F Lo σ0 hF hLo C
  · have h := it_t hc h
    refine ax_aload_n (pc := 142) C d_Dra_reduce_142 rfl 0 rfl ?_
    refine cg_39_0_Dra_9 (pc := 143) C d_Dra_reduce_143 ?_
    refine ax_iload (pc := 146) C d_Dra_reduce_146 4 rfl ?_
    refine ax_aload_n (pc := 148) C d_Dra_reduce_148 rfl 0 rfl ?_
    refine cg_39_0_Dra_9 (pc := 149) C d_Dra_reduce_149 ?_
    refine ax_iload_n (pc := 152) C d_Dra_reduce_152 rfl 2 rfl ?_
    refine ax_iload (pc := 153) C d_Dra_reduce_153 5 rfl ?_
    obtain ⟨hb, h⟩ := it_g h
    refine ccp_40_40 (pc := 155) C (rest := []) tb_methodLink_857 tb_native_616 tb_static_615 tb_initialized_20 d_Dra_reduce_155 hb hF hLo (Nat.le_of_ble_eq_true rfl) ?_
    have h := it_l h
    generalize mCp σ 40 40 (Int32.toNatClampNeg x3) (Int32.toNatClampNeg x1) (Int32.toNatClampNeg x4) = σ1 at h ⊢
    refine ax_aload_n (pc := 158) C d_Dra_reduce_158 rfl 0 rfl ?_
    refine cg_39_3_Dra_21 (pc := 159) C d_Dra_reduce_159 ?_
    refine ax_iload_n (pc := 162) C d_Dra_reduce_162 rfl 1 rfl ?_
    refine ax_aload_n (pc := 163) C d_Dra_reduce_163 rfl 0 rfl ?_
    refine cg_39_3_Dra_21 (pc := 164) C d_Dra_reduce_164 ?_
    refine ax_iload_n (pc := 167) C d_Dra_reduce_167 rfl 3 rfl ?_
    obtain ⟨hb, h⟩ := it_g h
    refine cl_43 (pc := 168) C d_Dra_reduce_168 (bin_in hb) ?_
    obtain ⟨hb, h⟩ := it_g h
    refine cs_43 (pc := 169) C d_Dra_reduce_169 (bin_in hb) ?_
    have h := it_l h
    generalize mA σ1 43 (Int32.toNatClampNeg x0) (vp_nar .boolean (σ1.2.1 43 (Int32.toNatClampNeg x2))) = σ2 at h ⊢
    refine ax_aload_n (pc := 170) C d_Dra_reduce_170 rfl 0 rfl ?_
    refine cg_39_1_Dra_15 (pc := 171) C d_Dra_reduce_171 ?_
    refine ax_iload_n (pc := 174) C d_Dra_reduce_174 rfl 1 rfl ?_
    refine ax_iload_n (pc := 175) C d_Dra_reduce_175 rfl 2 rfl ?_
    obtain ⟨hb, h⟩ := it_g h
    refine cs_41 (pc := 176) C d_Dra_reduce_176 (bin_in hb) ?_
    have h := it_l h
    generalize mA σ2 41 (Int32.toNatClampNeg x0) x1 = σ3 at h ⊢
    refine ax_aload_n (pc := 177) C d_Dra_reduce_177 rfl 0 rfl ?_
    refine cg_39_2_Dra_18 (pc := 178) C d_Dra_reduce_178 ?_
    refine ax_iload_n (pc := 181) C d_Dra_reduce_181 rfl 1 rfl ?_
    refine ax_iload_n (pc := 182) C d_Dra_reduce_182 rfl 2 rfl ?_
    refine ax_iload (pc := 183) C d_Dra_reduce_183 6 rfl ?_
    refine ax_iadd (pc := 185) C d_Dra_reduce_185 ?_
    obtain ⟨hb, h⟩ := it_g h
    refine cs_42 (pc := 186) C d_Dra_reduce_186 (bin_in hb) ?_
    have h := it_l h
    generalize mA σ3 42 (Int32.toNatClampNeg x0) ((x1 : Int32) + x5) = σ4 at h ⊢
    refine ax_iinc (pc := 187) C (x0 + 1) d_Dra_reduce_187 1 rfl rfl (Nat.le_of_ble_eq_true rfl) ([(1, .int (x0 + 1)), (0, .ref (u 39)), (2, .int x1), (3, .int x2), (4, .int x3), (5, .int x4), (6, .int x5), (7, .int x6), (8, .int x7)]) rfl ?_
    refine ax_iload_n (pc := 190) C d_Dra_reduce_190 rfl 2 rfl ?_
    refine ax_iload (pc := 191) C d_Dra_reduce_191 5 rfl ?_
    refine ax_iadd (pc := 193) C d_Dra_reduce_193 ?_
    refine ax_istore_n (pc := 194) C d_Dra_reduce_194 rfl (Nat.le_of_ble_eq_true rfl) ([(2, .int ((x1 : Int32) + x4)), (1, .int (x0 + 1)), (0, .ref (u 39)), (3, .int x2), (4, .int x3), (5, .int x4), (6, .int x5), (7, .int x6), (8, .int x7)]) rfl ?_
    refine ax_aload_n (pc := 195) C d_Dra_reduce_195 rfl 2 rfl ?_
    refine cg_39_1_Dra_15 (pc := 196) C d_Dra_reduce_196 ?_
    refine ax_iload_n (pc := 199) C d_Dra_reduce_199 rfl 1 rfl ?_
    refine ax_iload_n (pc := 200) C d_Dra_reduce_200 rfl 0 rfl ?_
    obtain ⟨hb, h⟩ := it_g h
    refine cs_41 (pc := 201) C d_Dra_reduce_201 (bin_in hb) ?_
    have h := it_l h
    generalize mA σ4 41 (Int32.toNatClampNeg (x0 + 1)) ((x1 : Int32) + x4) = σ5 at h ⊢
    refine ax_ls ([(0, .ref (u 39)), (1, .int (x0 + 1)), (2, .int ((x1 : Int32) + x4)), (3, .int x2), (4, .int x3), (5, .int x4), (6, .int x5), (7, .int x6), (8, .int x7)]) [2, 1, 0, 3, 4, 5, 6, 7, 8] rfl ?_
    have hm : sC_Dra_reduce_p202 l D kA u w tx σ5 [(x0 + 1), ((x1 : Int32) + x4), x2, x3, x4, x5, x6, x7] (σf, rf, _) := ih tC_Dra_reduce_p202 _ _ _ h
    exact hm _ _ _ _ _ _ _ _ rfl p e s m args below meth c F Lo σ0 hF hLo C
set_option maxHeartbeats 4000000 in
set_option maxRecDepth 100000 in
theorem oC_Dra_reduce_p202 (l : Launch) (D : va_G) (kA : Nat → ClassId) (u w : Nat → Nat) (tx : Value) (rec : mF) (ih : ∀ t σ xs res, rec t σ xs = some res → cSem l D kA u w tx t σ xs res) (σ : mS) (xs : List Int32) (res : mR) (h : u_8 (kC_Dra_reduce_p202 rec σ) xs = some res) : sC_Dra_reduce_p202 l D kA u w tx σ xs res := by
  intro x0 x1 x2 x3 x4 x5 x6 x7 hxs
  subst hxs
  obtain ⟨σf, rf, dd⟩ := res
  have h : (rec tC_Dra_reduce_p6 σ [x0, x1, (x2 + 1)]) = some (σf, rf, dd) := h
  intro p e s m args below meth c F Lo σ0 hF hLo C
  dsimp only at hF hLo ⊢
  refine ax_iinc (pc := 202) C (x2 + 1) d_Dra_reduce_202 3 rfl rfl (Nat.le_of_ble_eq_true rfl) ([(3, .int (x2 + 1)), (0, .ref (u 39)), (1, .int x0), (2, .int x1), (4, .int x3), (5, .int x4), (6, .int x5), (7, .int x6), (8, .int x7)]) rfl ?_
  refine ax_goto (pc := 205) C 6 d_Dra_reduce_205 (by decide) ?_
  refine ax_ls ([(0, .ref (u 39)), (1, .int x0), (2, .int x1), (3, .int (x2 + 1))]) [1, 2, 3, 0] rfl ?_
  have hm : sC_Dra_reduce_p6 l D kA u w tx σ [x0, x1, (x2 + 1)] (σf, rf, _) := ih tC_Dra_reduce_p6 _ _ _ h
  exact hm _ _ _ rfl p e s m args below meth c F Lo σ0 hF hLo C
set_option maxHeartbeats 4000000 in
set_option maxRecDepth 100000 in
theorem oC_Dra_renumber (l : Launch) (D : va_G) (kA : Nat → ClassId) (u w : Nat → Nat) (tx : Value) (rec : mF) (ih : ∀ t σ xs res, rec t σ xs = some res → cSem l D kA u w tx t σ xs res) (σ : mS) (xs : List Int32) (res : mR) (h : u_0 (kC_Dra_renumber rec σ) xs = some res) : sC_Dra_renumber l D kA u w tx σ xs res := by
  intro hxs
  subst hxs
  obtain ⟨σf, rf, dd⟩ := res
  have h : (lt_ (mFl σ 45 (-1) 6) (fun σ1 => lt_ (mI σ1 3906 0) (fun σ2 => rec tC_Dra_renumber_p15 σ2 [0]))) = some (σf, rf, dd) := h
  refine ax_Mv.of (by decide +kernel) (Nat.le_of_ble_eq_true rfl) ?_
  intro p e s m args below meth c C hnm
  have C : ax_C p s m args meth c b_Dra_renumber "ClauseProver$Draft" 3 none D kA (va_A (cpW kA u w tx σ) s.heap.size) := C
  obtain ⟨F, hFe⟩ : ∃ F, F = dd + 1 := ⟨_, rfl⟩
  obtain ⟨Lo, hLoe⟩ : ∃ Lo, Lo = 48 * dd + 48 := ⟨_, rfl⟩
  obtain ⟨σ0, hσ0⟩ : ∃ s0, s0 = σ := ⟨_, rfl⟩
  suffices K : AW p l e { frames := F, cells := 0, slots := 0, locals := Lo } s m args below meth c D kA (va_A (cpW kA u w tx σ0) s.heap.size) 3 (ax_Qv below args s D kA (cpW kA u w tx σ0) 0 0 (fun w1 => w1 = cpW kA u w tx σf)) 0 [(0, .ref (u 39))] [] (cpW kA u w tx σ) 0 0 by rw [hFe, hLoe, hσ0] at K; exact ax_ls ([(0, .ref (u 39))]) [0] rfl K
  have C : ax_C p s m args meth c b_Dra_renumber "ClauseProver$Draft" 3 none D kA (va_A (cpW kA u w tx σ0) s.heap.size) := by rw [hσ0]; exact C
  have hF : dd + 1 ≤ F := by omega
  have hLo : 48 * dd + 48 ≤ Lo := by omega
  clear hFe hLoe hσ0
  refine ax_aload_n (pc := 0) C d_Dra_renumber_0 rfl 0 rfl ?_
  refine cg_39_12_Dra_31 (pc := 1) C d_Dra_renumber_1 ?_
  refine ax_iconst (pc := 4) C (-1) d_Dra_renumber_4 (by decide +kernel) ?_
  refine cf_45 (pc := 5) C (rest := []) ml_Dra_38 d_Dra_renumber_5 rfl hF hLo (Nat.le_of_ble_eq_true rfl) ?_
  have h := it_l h
  generalize mFl σ 45 (-1) 6 = σ1 at h ⊢
  refine ax_aload_n (pc := 8) C d_Dra_renumber_8 rfl 0 rfl ?_
  refine ax_iconst (pc := 9) C 0 d_Dra_renumber_9 (by decide +kernel) ?_
  refine cq_39_6_Dra_125 (pc := 10) C d_Dra_renumber_10 ?_
  have h := it_l h
  generalize mI σ1 3906 0 = σ2 at h ⊢
  refine ax_iconst (pc := 13) C 0 d_Dra_renumber_13 (by decide +kernel) ?_
  refine ax_istore_n (pc := 14) C d_Dra_renumber_14 rfl (Nat.le_of_ble_eq_true rfl) ([(1, .int 0), (0, .ref (u 39))]) rfl ?_
  refine ax_ls ([(0, .ref (u 39)), (1, .int 0)]) [1, 0] rfl ?_
  have hm : sC_Dra_renumber_p15 l D kA u w tx σ2 [0] (σf, rf, _) := ih tC_Dra_renumber_p15 _ _ _ h
  exact hm _ rfl p e s m args below meth c F Lo σ0 hF hLo C
set_option maxHeartbeats 4000000 in
set_option maxRecDepth 100000 in
theorem oC_Dra_renumber_p15 (l : Launch) (D : va_G) (kA : Nat → ClassId) (u w : Nat → Nat) (tx : Value) (rec : mF) (ih : ∀ t σ xs res, rec t σ xs = some res → cSem l D kA u w tx t σ xs res) (σ : mS) (xs : List Int32) (res : mR) (h : u_1 (kC_Dra_renumber_p15 rec σ) xs = some res) : sC_Dra_renumber_p15 l D kA u w tx σ xs res := by
  intro x0 hxs
  subst hxs
  obtain ⟨σf, rf, dd⟩ := res
  have h : (if (σ.1 3904) ≤ x0 then (some (σ, 0, 0)) else (if bin x0 100 = true then (if 0 ≤ (σ.2.1 40 (Int32.toNatClampNeg x0)) then (rec tC_Dra_renumber_p82 σ [x0]) else (if bin x0 100 = true then (if bin (((σ.2.1 40 (Int32.toNatClampNeg x0)) : Int32) ^^^ (-1)) 6 = true then (if (σ.2.1 45 (Int32.toNatClampNeg (((σ.2.1 40 (Int32.toNatClampNeg x0)) : Int32) ^^^ (-1)))) = (-1) then (lt_ (mI σ 3906 (((σ.1 3906) : Int32) + 1)) (fun σ1 => if bin (((σ.2.1 40 (Int32.toNatClampNeg x0)) : Int32) ^^^ (-1)) 6 = true then (lt_ (mA σ1 45 (Int32.toNatClampNeg (((σ.2.1 40 (Int32.toNatClampNeg x0)) : Int32) ^^^ (-1))) (σ.1 3906)) (fun σ2 => rec tC_Dra_renumber_p68 σ2 [x0, (((σ.2.1 40 (Int32.toNatClampNeg x0)) : Int32) ^^^ (-1))])) else none)) else (rec tC_Dra_renumber_p68 σ [x0, (((σ.2.1 40 (Int32.toNatClampNeg x0)) : Int32) ^^^ (-1))])) else none) else none)) else none)) = some (σf, rf, dd) := h
  intro p e s m args below meth c F Lo σ0 hF hLo C
  dsimp only at hF hLo ⊢
  refine ax_iload_n (pc := 15) C d_Dra_renumber_15 rfl 1 rfl ?_
  refine ax_aload_n (pc := 16) C d_Dra_renumber_16 rfl 0 rfl ?_
  refine cg_39_4_Dra_48 (pc := 17) C d_Dra_renumber_17 ?_
  refine ax_icmp_ge (pc := 20) C 88 d_Dra_renumber_20 (by decide) (fun hc => ?_) (fun hc => ?_)
  · have h := it_t hc h
    cases h
    exact ax_vret (pc := 88) C d_Dra_renumber_88 rfl (Nat.le_refl _) (Nat.le_refl _)
  · have h := it_f hc h
    refine ax_aload_n (pc := 23) C d_Dra_renumber_23 rfl 0 rfl ?_
    refine cg_39_0_Dra_9 (pc := 24) C d_Dra_renumber_24 ?_
    refine ax_iload_n (pc := 27) C d_Dra_renumber_27 rfl 1 rfl ?_
    obtain ⟨hb, h⟩ := it_g h
    refine cl_40 (pc := 28) C d_Dra_renumber_28 (bin_in hb) ?_
    refine ax_if_ge (pc := 29) C 82 d_Dra_renumber_29 (by decide) (fun hc => ?_) (fun hc => ?_)
    · have h := it_t hc h
      refine ax_ls ([(0, .ref (u 39)), (1, .int x0)]) [0, 1] rfl ?_
      have hm : sC_Dra_renumber_p82 l D kA u w tx σ [x0] (σf, rf, _) := ih tC_Dra_renumber_p82 _ _ _ h
      exact hm _ rfl p e s m args below meth c F Lo σ0 hF hLo C
    · have h := it_f hc h
      refine ax_aload_n (pc := 32) C d_Dra_renumber_32 rfl 0 rfl ?_
      refine cg_39_0_Dra_9 (pc := 33) C d_Dra_renumber_33 ?_
      refine ax_iload_n (pc := 36) C d_Dra_renumber_36 rfl 1 rfl ?_
      obtain ⟨hb, h⟩ := it_g h
      refine cl_40 (pc := 37) C d_Dra_renumber_37 (bin_in hb) ?_
      refine ax_iconst (pc := 38) C (-1) d_Dra_renumber_38 (by decide +kernel) ?_
      refine ax_ixor (pc := 39) C d_Dra_renumber_39 ?_
      refine ax_istore_n (pc := 40) C d_Dra_renumber_40 rfl (Nat.le_of_ble_eq_true rfl) ([(2, .int (((σ.2.1 40 (Int32.toNatClampNeg x0)) : Int32) ^^^ (-1))), (0, .ref (u 39)), (1, .int x0)]) rfl ?_
      refine ax_aload_n (pc := 41) C d_Dra_renumber_41 rfl 1 rfl ?_
      refine cg_39_12_Dra_31 (pc := 42) C d_Dra_renumber_42 ?_
      refine ax_iload_n (pc := 45) C d_Dra_renumber_45 rfl 0 rfl ?_
      obtain ⟨hb, h⟩ := it_g h
      refine cl_45 (pc := 46) C d_Dra_renumber_46 (bin_in hb) ?_
      refine ax_iconst (pc := 47) C (-1) d_Dra_renumber_47 (by decide +kernel) ?_
      refine ax_icmp_ne (pc := 48) C 68 d_Dra_renumber_48 (by decide) (fun hc => ?_) (fun hc => ?_)
      · have h := it_f hc h
        refine ax_ls ([(0, .ref (u 39)), (1, .int x0), (2, .int (((σ.2.1 40 (Int32.toNatClampNeg x0)) : Int32) ^^^ (-1)))]) [1, 2, 0] rfl ?_
        have hm : sC_Dra_renumber_p68 l D kA u w tx σ [x0, (((σ.2.1 40 (Int32.toNatClampNeg x0)) : Int32) ^^^ (-1))] (σf, rf, _) := ih tC_Dra_renumber_p68 _ _ _ h
        exact hm _ _ rfl p e s m args below meth c F Lo σ0 hF hLo C
      · have h := it_t hc h
        refine ax_aload_n (pc := 51) C d_Dra_renumber_51 rfl 1 rfl ?_
        refine cg_39_12_Dra_31 (pc := 52) C d_Dra_renumber_52 ?_
        refine ax_iload_n (pc := 55) C d_Dra_renumber_55 rfl 0 rfl ?_
        refine ax_aload_n (pc := 56) C d_Dra_renumber_56 rfl 1 rfl ?_
        refine ax_dup (pc := 57) C d_Dra_renumber_57 rfl ?_
        refine cg_39_6_Dra_125 (pc := 58) C d_Dra_renumber_58 ?_
        refine ax_dup_x1 (pc := 61) C d_Dra_renumber_61 rfl rfl ?_
        refine ax_iconst (pc := 62) C 1 d_Dra_renumber_62 (by decide +kernel) ?_
        refine ax_iadd (pc := 63) C d_Dra_renumber_63 ?_
        refine cq_39_6_Dra_125 (pc := 64) C d_Dra_renumber_64 ?_
        have h := it_l h
        generalize mI σ 3906 (((σ.1 3906) : Int32) + 1) = σ1 at h ⊢
        obtain ⟨hb, h⟩ := it_g h
        refine cs_45 (pc := 67) C d_Dra_renumber_67 (bin_in hb) ?_
        have h := it_l h
        generalize mA σ1 45 (Int32.toNatClampNeg (((σ.2.1 40 (Int32.toNatClampNeg x0)) : Int32) ^^^ (-1))) (σ.1 3906) = σ2 at h ⊢
        refine ax_ls ([(0, .ref (u 39)), (1, .int x0), (2, .int (((σ.2.1 40 (Int32.toNatClampNeg x0)) : Int32) ^^^ (-1)))]) [1, 2, 0] rfl ?_
        have hm : sC_Dra_renumber_p68 l D kA u w tx σ2 [x0, (((σ.2.1 40 (Int32.toNatClampNeg x0)) : Int32) ^^^ (-1))] (σf, rf, _) := ih tC_Dra_renumber_p68 _ _ _ h
        exact hm _ _ rfl p e s m args below meth c F Lo σ0 hF hLo C
set_option maxHeartbeats 4000000 in
set_option maxRecDepth 100000 in
theorem oC_Dra_renumber_p68 (l : Launch) (D : va_G) (kA : Nat → ClassId) (u w : Nat → Nat) (tx : Value) (rec : mF) (ih : ∀ t σ xs res, rec t σ xs = some res → cSem l D kA u w tx t σ xs res) (σ : mS) (xs : List Int32) (res : mR) (h : u_2 (kC_Dra_renumber_p68 rec σ) xs = some res) : sC_Dra_renumber_p68 l D kA u w tx σ xs res := by
  intro x0 x1 hxs
  subst hxs
  obtain ⟨σf, rf, dd⟩ := res
  have h : (if bin x1 6 = true then (if bin x0 100 = true then (lt_ (mA σ 40 (Int32.toNatClampNeg x0) (((σ.2.1 45 (Int32.toNatClampNeg x1)) : Int32) ^^^ (-1))) (fun σ1 => rec tC_Dra_renumber_p82 σ1 [x0])) else none) else none) = some (σf, rf, dd) := h
  intro p e s m args below meth c F Lo σ0 hF hLo C
  dsimp only at hF hLo ⊢
  refine ax_aload_n (pc := 68) C d_Dra_renumber_68 rfl 0 rfl ?_
  refine cg_39_0_Dra_9 (pc := 69) C d_Dra_renumber_69 ?_
  refine ax_iload_n (pc := 72) C d_Dra_renumber_72 rfl 1 rfl ?_
  refine ax_aload_n (pc := 73) C d_Dra_renumber_73 rfl 0 rfl ?_
  refine cg_39_12_Dra_31 (pc := 74) C d_Dra_renumber_74 ?_
  refine ax_iload_n (pc := 77) C d_Dra_renumber_77 rfl 2 rfl ?_
  obtain ⟨hb, h⟩ := it_g h
  refine cl_45 (pc := 78) C d_Dra_renumber_78 (bin_in hb) ?_
  refine ax_iconst (pc := 79) C (-1) d_Dra_renumber_79 (by decide +kernel) ?_
  refine ax_ixor (pc := 80) C d_Dra_renumber_80 ?_
  obtain ⟨hb, h⟩ := it_g h
  refine cs_40 (pc := 81) C d_Dra_renumber_81 (bin_in hb) ?_
  have h := it_l h
  generalize mA σ 40 (Int32.toNatClampNeg x0) (((σ.2.1 45 (Int32.toNatClampNeg x1)) : Int32) ^^^ (-1)) = σ1 at h ⊢
  refine ax_ls ([(0, .ref (u 39)), (1, .int x0)]) [0, 1] rfl ?_
  have hm : sC_Dra_renumber_p82 l D kA u w tx σ1 [x0] (σf, rf, _) := ih tC_Dra_renumber_p82 _ _ _ h
  exact hm _ rfl p e s m args below meth c F Lo σ0 hF hLo C
set_option maxHeartbeats 4000000 in
set_option maxRecDepth 100000 in
theorem oC_Dra_renumber_p82 (l : Launch) (D : va_G) (kA : Nat → ClassId) (u w : Nat → Nat) (tx : Value) (rec : mF) (ih : ∀ t σ xs res, rec t σ xs = some res → cSem l D kA u w tx t σ xs res) (σ : mS) (xs : List Int32) (res : mR) (h : u_1 (kC_Dra_renumber_p82 rec σ) xs = some res) : sC_Dra_renumber_p82 l D kA u w tx σ xs res := by
  intro x0 hxs
  subst hxs
  obtain ⟨σf, rf, dd⟩ := res
  have h : (rec tC_Dra_renumber_p15 σ [(x0 + 1)]) = some (σf, rf, dd) := h
  intro p e s m args below meth c F Lo σ0 hF hLo C
  dsimp only at hF hLo ⊢
  refine ax_iinc (pc := 82) C (x0 + 1) d_Dra_renumber_82 1 rfl rfl (Nat.le_of_ble_eq_true rfl) ([(1, .int (x0 + 1)), (0, .ref (u 39))]) rfl ?_
  refine ax_goto (pc := 85) C 15 d_Dra_renumber_85 (by decide) ?_
  refine ax_ls ([(0, .ref (u 39)), (1, .int (x0 + 1))]) [1, 0] rfl ?_
  have hm : sC_Dra_renumber_p15 l D kA u w tx σ [(x0 + 1)] (σf, rf, _) := ih tC_Dra_renumber_p15 _ _ _ h
  exact hm _ rfl p e s m args below meth c F Lo σ0 hF hLo C
set_option maxHeartbeats 4000000 in
set_option maxRecDepth 100000 in
theorem oC_Dra_replace_68 (l : Launch) (D : va_G) (kA : Nat → ClassId) (u w : Nat → Nat) (tx : Value) (rec : mF) (ih : ∀ t σ xs res, rec t σ xs = some res → cSem l D kA u w tx t σ xs res) (σ : mS) (xs : List Int32) (res : mR) (h : u_2 (kC_Dra_replace_68 rec σ) xs = some res) : sC_Dra_replace_68 l D kA u w tx σ xs res := by
  intro x0 x1 hxs
  subst hxs
  obtain ⟨σf, rf, dd⟩ := res
  have h : (bnd (rec tC_Sym_after_40 σ [x0]) (fun σ1 r1 => if bcp 0 x0 x1 100 100 = true then (lt_ (mCp σ1 68 40 (Int32.toNatClampNeg 0) (Int32.toNatClampNeg x0) (Int32.toNatClampNeg x1)) (fun σ2 => if bcp r1 ((x0 : Int32) + x1) (((σ2.1 3904) : Int32) - r1) 100 100 = true then (lt_ (mCp σ2 40 40 (Int32.toNatClampNeg r1) (Int32.toNatClampNeg ((x0 : Int32) + x1)) (Int32.toNatClampNeg (((σ2.1 3904) : Int32) - r1))) (fun σ3 => lt_ (mI σ3 3904 (((σ3.1 3904) : Int32) - ((((r1 : Int32) - x0) : Int32) - x1))) (fun σ4 => rec tC_Dra_replace_68_p70 σ4 [x0, x1, r1, ((((r1 : Int32) - x0) : Int32) - x1), 0]))) else none)) else none)) = some (σf, rf, dd) := h
  refine ax_Mv.of (by decide +kernel) (Nat.le_of_ble_eq_true rfl) ?_
  intro p e s m args below meth c C hnm
  have C : ax_C p s m args meth c b_Dra_replace "ClauseProver$Draft" 7 none D kA (va_A (cpW kA u w tx σ) s.heap.size) := C
  obtain ⟨F, hFe⟩ : ∃ F, F = dd + 1 := ⟨_, rfl⟩
  obtain ⟨Lo, hLoe⟩ : ∃ Lo, Lo = 48 * dd + 48 := ⟨_, rfl⟩
  obtain ⟨σ0, hσ0⟩ : ∃ s0, s0 = σ := ⟨_, rfl⟩
  suffices K : AW p l e { frames := F, cells := 0, slots := 0, locals := Lo } s m args below meth c D kA (va_A (cpW kA u w tx σ0) s.heap.size) 7 (ax_Qv below args s D kA (cpW kA u w tx σ0) 0 0 (fun w1 => w1 = cpW kA u w tx σf)) 0 [(0, .ref (u 39)), (1, .int x0), (2, .ref (u 68)), (3, .int x1)] [] (cpW kA u w tx σ) 0 0 by rw [hFe, hLoe, hσ0] at K; exact ax_ls ([(0, .ref (u 39)), (1, .int x0), (2, .ref (u 68)), (3, .int x1)]) [0, 1, 2, 3] rfl K
  have C : ax_C p s m args meth c b_Dra_replace "ClauseProver$Draft" 7 none D kA (va_A (cpW kA u w tx σ0) s.heap.size) := by rw [hσ0]; exact C
  have hF : dd + 1 ≤ F := by omega
  have hLo : 48 * dd + 48 ≤ Lo := by omega
  clear hFe hLoe hσ0
  refine ax_aload_n (pc := 0) C d_Dra_replace_0 rfl 0 rfl ?_
  refine cg_39_8_Dra_34 (pc := 1) C d_Dra_replace_1 ?_
  refine ax_aload_n (pc := 4) C d_Dra_replace_4 rfl 0 rfl ?_
  refine cg_39_0_Dra_9 (pc := 5) C d_Dra_replace_5 ?_
  refine ax_iload_n (pc := 8) C d_Dra_replace_8 rfl 1 rfl ?_
  obtain ⟨σ1, r1, d1_1, d2_1, h1, h, hd2, hd1⟩ := it_b h
  have hm : sC_Sym_after_40 l D kA u w tx σ [x0] (σ1, r1, d1_1) := ih tC_Sym_after_40 _ _ _ h1
  refine cc_Vi (pc := 9) C (r0 := r1) (σ2 := σ1) (As := [.ref (u 40), .int x0]) (rest := []) (hm _ rfl) ml_Dra_102 6 rfl rfl rfl d_Dra_replace_9 rfl rfl (by dsimp only; omega) (by dsimp only; omega) (Nat.le_of_ble_eq_true rfl) (Nat.le_of_ble_eq_true rfl) (Nat.le_of_ble_eq_true rfl) ?_
  have hF : d2_1 + 1 ≤ F := by omega
  have hLo : 48 * d2_1 + 48 ≤ Lo := by omega
  refine ax_istore (pc := 12) C d_Dra_replace_12 (Nat.le_of_ble_eq_true rfl) ([(4, .int r1), (0, .ref (u 39)), (1, .int x0), (2, .ref (u 68)), (3, .int x1)]) rfl ?_
  refine ax_iload (pc := 14) C d_Dra_replace_14 0 rfl ?_
  refine ax_iload_n (pc := 16) C d_Dra_replace_16 rfl 2 rfl ?_
  refine ax_isub (pc := 17) C d_Dra_replace_17 ?_
  refine ax_iload_n (pc := 18) C d_Dra_replace_18 rfl 4 rfl ?_
  refine ax_isub (pc := 19) C d_Dra_replace_19 ?_
  refine ax_istore (pc := 20) C d_Dra_replace_20 (Nat.le_of_ble_eq_true rfl) ([(5, .int ((((r1 : Int32) - x0) : Int32) - x1)), (4, .int r1), (0, .ref (u 39)), (1, .int x0), (2, .ref (u 68)), (3, .int x1)]) rfl ?_
  refine ax_aload_n (pc := 22) C d_Dra_replace_22 rfl 4 rfl ?_
  refine ax_iconst (pc := 23) C 0 d_Dra_replace_23 (by decide +kernel) ?_
  refine ax_aload_n (pc := 24) C d_Dra_replace_24 rfl 2 rfl ?_
  refine cg_39_0_Dra_9 (pc := 25) C d_Dra_replace_25 ?_
  refine ax_iload_n (pc := 28) C d_Dra_replace_28 rfl 3 rfl ?_
  refine ax_iload_n (pc := 29) C d_Dra_replace_29 rfl 5 rfl ?_
  obtain ⟨hb, h⟩ := it_g h
  refine ccp_68_40 (pc := 30) C (rest := []) tb_methodLink_857 tb_native_616 tb_static_615 tb_initialized_20 d_Dra_replace_30 hb hF hLo (Nat.le_of_ble_eq_true rfl) ?_
  have h := it_l h
  generalize mCp σ1 68 40 (Int32.toNatClampNeg 0) (Int32.toNatClampNeg x0) (Int32.toNatClampNeg x1) = σ2 at h ⊢
  refine ax_aload_n (pc := 33) C d_Dra_replace_33 rfl 2 rfl ?_
  refine cg_39_0_Dra_9 (pc := 34) C d_Dra_replace_34 ?_
  refine ax_iload (pc := 37) C d_Dra_replace_37 1 rfl ?_
  refine ax_aload_n (pc := 39) C d_Dra_replace_39 rfl 2 rfl ?_
  refine cg_39_0_Dra_9 (pc := 40) C d_Dra_replace_40 ?_
  refine ax_iload_n (pc := 43) C d_Dra_replace_43 rfl 3 rfl ?_
  refine ax_iload_n (pc := 44) C d_Dra_replace_44 rfl 5 rfl ?_
  refine ax_iadd (pc := 45) C d_Dra_replace_45 ?_
  refine ax_aload_n (pc := 46) C d_Dra_replace_46 rfl 2 rfl ?_
  refine cg_39_4_Dra_48 (pc := 47) C d_Dra_replace_47 ?_
  refine ax_iload (pc := 50) C d_Dra_replace_50 1 rfl ?_
  refine ax_isub (pc := 52) C d_Dra_replace_52 ?_
  obtain ⟨hb, h⟩ := it_g h
  refine ccp_40_40 (pc := 53) C (rest := []) tb_methodLink_857 tb_native_616 tb_static_615 tb_initialized_20 d_Dra_replace_53 hb hF hLo (Nat.le_of_ble_eq_true rfl) ?_
  have h := it_l h
  generalize mCp σ2 40 40 (Int32.toNatClampNeg r1) (Int32.toNatClampNeg ((x0 : Int32) + x1)) (Int32.toNatClampNeg (((σ2.1 3904) : Int32) - r1)) = σ3 at h ⊢
  refine ax_aload_n (pc := 56) C d_Dra_replace_56 rfl 2 rfl ?_
  refine ax_dup (pc := 57) C d_Dra_replace_57 rfl ?_
  refine cg_39_4_Dra_48 (pc := 58) C d_Dra_replace_58 ?_
  refine ax_iload (pc := 61) C d_Dra_replace_61 0 rfl ?_
  refine ax_isub (pc := 63) C d_Dra_replace_63 ?_
  refine cq_39_4_Dra_48 (pc := 64) C d_Dra_replace_64 ?_
  have h := it_l h
  generalize mI σ3 3904 (((σ3.1 3904) : Int32) - ((((r1 : Int32) - x0) : Int32) - x1)) = σ4 at h ⊢
  refine ax_iconst (pc := 67) C 0 d_Dra_replace_67 (by decide +kernel) ?_
  refine ax_istore (pc := 68) C d_Dra_replace_68 (Nat.le_of_ble_eq_true rfl) ([(6, .int 0), (5, .int ((((r1 : Int32) - x0) : Int32) - x1)), (4, .int r1), (0, .ref (u 39)), (1, .int x0), (2, .ref (u 68)), (3, .int x1)]) rfl ?_
  refine ax_ls ([(0, .ref (u 39)), (1, .int x0), (2, .ref (u 68)), (3, .int x1), (4, .int r1), (5, .int ((((r1 : Int32) - x0) : Int32) - x1)), (6, .int 0)]) [3, 4, 5, 6, 2, 1, 0] rfl ?_
  have hm : sC_Dra_replace_68_p70 l D kA u w tx σ4 [x0, x1, r1, ((((r1 : Int32) - x0) : Int32) - x1), 0] (σf, rf, _) := ih tC_Dra_replace_68_p70 _ _ _ h
  exact hm _ _ _ _ _ rfl p e s m args below meth c F Lo σ0 hF hLo C
set_option maxHeartbeats 4000000 in
set_option maxRecDepth 100000 in
theorem oC_Dra_replace_68_p70 (l : Launch) (D : va_G) (kA : Nat → ClassId) (u w : Nat → Nat) (tx : Value) (rec : mF) (ih : ∀ t σ xs res, rec t σ xs = some res → cSem l D kA u w tx t σ xs res) (σ : mS) (xs : List Int32) (res : mR) (h : u_5 (kC_Dra_replace_68_p70 rec σ) xs = some res) : sC_Dra_replace_68_p70 l D kA u w tx σ xs res := by
  intro x0 x1 x2 x3 x4 hxs
  subst hxs
  obtain ⟨σf, rf, dd⟩ := res
  have h : (if (σ.1 3905) ≤ x4 then (some (σ, 0, 0)) else (if bin x4 8 = true then (if bin x4 8 = true then (if (σ.2.1 42 (Int32.toNatClampNeg x4)) ≤ x0 then (rec tC_Dra_replace_68_p104 σ [x0, x1, x2, x3, x4, 0, (σ.2.1 42 (Int32.toNatClampNeg x4)), x4]) else (rec tC_Dra_replace_68_p104 σ [x0, x1, x2, x3, x4, x3, (σ.2.1 42 (Int32.toNatClampNeg x4)), x4])) else none) else none)) = some (σf, rf, dd) := h
  intro p e s m args below meth c F Lo σ0 hF hLo C
  dsimp only at hF hLo ⊢
  refine ax_iload (pc := 70) C d_Dra_replace_70 6 rfl ?_
  refine ax_aload_n (pc := 72) C d_Dra_replace_72 rfl 0 rfl ?_
  refine cg_39_5_Dra_51 (pc := 73) C d_Dra_replace_73 ?_
  refine ax_icmp_ge (pc := 76) C 143 d_Dra_replace_76 (by decide) (fun hc => ?_) (fun hc => ?_)
  · have h := it_t hc h
    cases h
    exact ax_vret (pc := 143) C d_Dra_replace_143 rfl (Nat.le_refl _) (Nat.le_refl _)
  · have h := it_f hc h
    refine ax_aload_n (pc := 79) C d_Dra_replace_79 rfl 0 rfl ?_
    refine cg_39_2_Dra_18 (pc := 80) C d_Dra_replace_80 ?_
    refine ax_iload (pc := 83) C d_Dra_replace_83 6 rfl ?_
    refine ax_dup2 (pc := 85) C d_Dra_replace_85 rfl rfl ?_
    obtain ⟨hb, h⟩ := it_g h
    refine cl_42 (pc := 86) C d_Dra_replace_86 (bin_in hb) ?_
    refine ax_aload_n (pc := 87) C d_Dra_replace_87 rfl 0 rfl ?_
    refine cg_39_2_Dra_18 (pc := 88) C d_Dra_replace_88 ?_
    refine ax_iload (pc := 91) C d_Dra_replace_91 6 rfl ?_
    obtain ⟨hb, h⟩ := it_g h
    refine cl_42 (pc := 93) C d_Dra_replace_93 (bin_in hb) ?_
    refine ax_iload_n (pc := 94) C d_Dra_replace_94 rfl 1 rfl ?_
    refine ax_icmp_le (pc := 95) C 103 d_Dra_replace_95 (by decide) (fun hc => ?_) (fun hc => ?_)
    · have h := it_t hc h
      refine ax_iconst (pc := 103) C 0 d_Dra_replace_103 (by decide +kernel) ?_
      refine ax_ls ([(0, .ref (u 39)), (1, .int x0), (2, .ref (u 68)), (3, .int x1), (4, .int x2), (5, .int x3), (6, .int x4)]) [0, 1, 2, 3, 4, 5, 6] rfl ?_
      have hm : sC_Dra_replace_68_p104 l D kA u w tx σ [x0, x1, x2, x3, x4, 0, (σ.2.1 42 (Int32.toNatClampNeg x4)), x4] (σf, rf, _) := ih tC_Dra_replace_68_p104 _ _ _ h
      exact hm _ _ _ _ _ _ _ _ rfl p e s m args below meth c F Lo σ0 hF hLo C
    · have h := it_f hc h
      refine ax_iload (pc := 98) C d_Dra_replace_98 5 rfl ?_
      refine ax_goto (pc := 100) C 104 d_Dra_replace_100 (by decide) ?_
      refine ax_ls ([(0, .ref (u 39)), (1, .int x0), (2, .ref (u 68)), (3, .int x1), (4, .int x2), (5, .int x3), (6, .int x4)]) [0, 1, 2, 3, 4, 5, 6] rfl ?_
      have hm : sC_Dra_replace_68_p104 l D kA u w tx σ [x0, x1, x2, x3, x4, x3, (σ.2.1 42 (Int32.toNatClampNeg x4)), x4] (σf, rf, _) := ih tC_Dra_replace_68_p104 _ _ _ h
      exact hm _ _ _ _ _ _ _ _ rfl p e s m args below meth c F Lo σ0 hF hLo C
set_option maxHeartbeats 4000000 in
set_option maxRecDepth 100000 in
theorem oC_Dra_replace_68_p104 (l : Launch) (D : va_G) (kA : Nat → ClassId) (u w : Nat → Nat) (tx : Value) (rec : mF) (ih : ∀ t σ xs res, rec t σ xs = some res → cSem l D kA u w tx t σ xs res) (σ : mS) (xs : List Int32) (res : mR) (h : u_8 (kC_Dra_replace_68_p104 rec σ) xs = some res) : sC_Dra_replace_68_p104 l D kA u w tx σ xs res := by
  intro x0 x1 x2 x3 x4 x5 x6 x7 hxs
  subst hxs
  obtain ⟨σf, rf, dd⟩ := res
  have h : (if bin x7 8 = true then (lt_ (mA σ 42 (Int32.toNatClampNeg x7) ((x6 : Int32) - x5)) (fun σ1 => if bin ((x4 : Int32) + 1) 9 = true then (if bin ((x4 : Int32) + 1) 9 = true then (if (σ1.2.1 41 (Int32.toNatClampNeg ((x4 : Int32) + 1))) ≤ x0 then (rec tC_Dra_replace_68_p135 σ1 [x0, x1, x2, x3, x4, 0, (σ1.2.1 41 (Int32.toNatClampNeg ((x4 : Int32) + 1))), ((x4 : Int32) + 1)]) else (rec tC_Dra_replace_68_p135 σ1 [x0, x1, x2, x3, x4, x3, (σ1.2.1 41 (Int32.toNatClampNeg ((x4 : Int32) + 1))), ((x4 : Int32) + 1)])) else none) else none)) else none) = some (σf, rf, dd) := h
  intro p e s m args below meth c F Lo σ0 hF hLo C
  dsimp only at hF hLo ⊢
  refine ax_isub (pc := 104) C d_Dra_replace_104 ?_
  obtain ⟨hb, h⟩ := it_g h
  refine cs_42 (pc := 105) C d_Dra_replace_105 (bin_in hb) ?_
  have h := it_l h
  generalize mA σ 42 (Int32.toNatClampNeg x7) ((x6 : Int32) - x5) = σ1 at h ⊢
  refine ax_aload_n (pc := 106) C d_Dra_replace_106 rfl 0 rfl ?_
  refine cg_39_1_Dra_15 (pc := 107) C d_Dra_replace_107 ?_
  refine ax_iload (pc := 110) C d_Dra_replace_110 6 rfl ?_
  refine ax_iconst (pc := 112) C 1 d_Dra_replace_112 (by decide +kernel) ?_
  refine ax_iadd (pc := 113) C d_Dra_replace_113 ?_
  refine ax_dup2 (pc := 114) C d_Dra_replace_114 rfl rfl ?_
  obtain ⟨hb, h⟩ := it_g h
  refine cl_41 (pc := 115) C d_Dra_replace_115 (bin_in hb) ?_
  refine ax_aload_n (pc := 116) C d_Dra_replace_116 rfl 0 rfl ?_
  refine cg_39_1_Dra_15 (pc := 117) C d_Dra_replace_117 ?_
  refine ax_iload (pc := 120) C d_Dra_replace_120 6 rfl ?_
  refine ax_iconst (pc := 122) C 1 d_Dra_replace_122 (by decide +kernel) ?_
  refine ax_iadd (pc := 123) C d_Dra_replace_123 ?_
  obtain ⟨hb, h⟩ := it_g h
  refine cl_41 (pc := 124) C d_Dra_replace_124 (bin_in hb) ?_
  refine ax_iload_n (pc := 125) C d_Dra_replace_125 rfl 1 rfl ?_
  refine ax_icmp_le (pc := 126) C 134 d_Dra_replace_126 (by decide) (fun hc => ?_) (fun hc => ?_)
  · have h := it_t hc h
    refine ax_iconst (pc := 134) C 0 d_Dra_replace_134 (by decide +kernel) ?_
    refine ax_ls ([(0, .ref (u 39)), (1, .int x0), (2, .ref (u 68)), (3, .int x1), (4, .int x2), (5, .int x3), (6, .int x4)]) [0, 1, 2, 3, 4, 5, 6] rfl ?_
    have hm : sC_Dra_replace_68_p135 l D kA u w tx σ1 [x0, x1, x2, x3, x4, 0, (σ1.2.1 41 (Int32.toNatClampNeg ((x4 : Int32) + 1))), ((x4 : Int32) + 1)] (σf, rf, _) := ih tC_Dra_replace_68_p135 _ _ _ h
    exact hm _ _ _ _ _ _ _ _ rfl p e s m args below meth c F Lo σ0 hF hLo C
  · have h := it_f hc h
    refine ax_iload (pc := 129) C d_Dra_replace_129 5 rfl ?_
    refine ax_goto (pc := 131) C 135 d_Dra_replace_131 (by decide) ?_
    refine ax_ls ([(0, .ref (u 39)), (1, .int x0), (2, .ref (u 68)), (3, .int x1), (4, .int x2), (5, .int x3), (6, .int x4)]) [0, 1, 2, 3, 4, 5, 6] rfl ?_
    have hm : sC_Dra_replace_68_p135 l D kA u w tx σ1 [x0, x1, x2, x3, x4, x3, (σ1.2.1 41 (Int32.toNatClampNeg ((x4 : Int32) + 1))), ((x4 : Int32) + 1)] (σf, rf, _) := ih tC_Dra_replace_68_p135 _ _ _ h
    exact hm _ _ _ _ _ _ _ _ rfl p e s m args below meth c F Lo σ0 hF hLo C
set_option maxHeartbeats 4000000 in
set_option maxRecDepth 100000 in
theorem oC_Dra_replace_68_p135 (l : Launch) (D : va_G) (kA : Nat → ClassId) (u w : Nat → Nat) (tx : Value) (rec : mF) (ih : ∀ t σ xs res, rec t σ xs = some res → cSem l D kA u w tx t σ xs res) (σ : mS) (xs : List Int32) (res : mR) (h : u_8 (kC_Dra_replace_68_p135 rec σ) xs = some res) : sC_Dra_replace_68_p135 l D kA u w tx σ xs res := by
  intro x0 x1 x2 x3 x4 x5 x6 x7 hxs
  subst hxs
  obtain ⟨σf, rf, dd⟩ := res
  have h : (if bin x7 9 = true then (lt_ (mA σ 41 (Int32.toNatClampNeg x7) ((x6 : Int32) - x5)) (fun σ1 => rec tC_Dra_replace_68_p70 σ1 [x0, x1, x2, x3, (x4 + 1)])) else none) = some (σf, rf, dd) := h
  intro p e s m args below meth c F Lo σ0 hF hLo C
  dsimp only at hF hLo ⊢
  refine ax_isub (pc := 135) C d_Dra_replace_135 ?_
  obtain ⟨hb, h⟩ := it_g h
  refine cs_41 (pc := 136) C d_Dra_replace_136 (bin_in hb) ?_
  have h := it_l h
  generalize mA σ 41 (Int32.toNatClampNeg x7) ((x6 : Int32) - x5) = σ1 at h ⊢
  refine ax_iinc (pc := 137) C (x4 + 1) d_Dra_replace_137 6 rfl rfl (Nat.le_of_ble_eq_true rfl) ([(6, .int (x4 + 1)), (0, .ref (u 39)), (1, .int x0), (2, .ref (u 68)), (3, .int x1), (4, .int x2), (5, .int x3)]) rfl ?_
  refine ax_goto (pc := 140) C 70 d_Dra_replace_140 (by decide) ?_
  refine ax_ls ([(0, .ref (u 39)), (1, .int x0), (2, .ref (u 68)), (3, .int x1), (4, .int x2), (5, .int x3), (6, .int (x4 + 1))]) [1, 2, 3, 4, 5, 6, 0] rfl ?_
  have hm : sC_Dra_replace_68_p70 l D kA u w tx σ1 [x0, x1, x2, x3, (x4 + 1)] (σf, rf, _) := ih tC_Dra_replace_68_p70 _ _ _ h
  exact hm _ _ _ _ _ rfl p e s m args below meth c F Lo σ0 hF hLo C
set_option maxHeartbeats 4000000 in
set_option maxRecDepth 100000 in
theorem oC_For_addVariable (l : Launch) (D : va_G) (kA : Nat → ClassId) (u w : Nat → Nat) (tx : Value) (rec : mF) (ih : ∀ t σ xs res, rec t σ xs = some res → cSem l D kA u w tx t σ xs res) (σ : mS) (xs : List Int32) (res : mR) (h : u_0 (kC_For_addVariable rec σ) xs = some res) : sC_For_addVariable l D kA u w tx σ xs res := by
  intro hxs
  subst hxs
  obtain ⟨σf, rf, dd⟩ := res
  have h : (if (σ.1 1402) = 300 then (some (σ, (-1), 0)) else (if bin (σ.1 1402) 300 = true then (lt_ (mA σ 22 (Int32.toNatClampNeg (σ.1 1402)) (σ.1 3203)) (fun σ1 => if bin (σ1.1 1402) 300 = true then (lt_ (mA σ1 23 (Int32.toNatClampNeg (σ1.1 1402)) (σ1.1 3204)) (fun σ2 => if bin (σ2.1 1402) 300 = true then (lt_ (mA σ2 25 (Int32.toNatClampNeg (σ2.1 1402)) (((σ2.1 2001) : Int32) - 5)) (fun σ3 => lt_ (mI σ3 1402 (((σ3.1 1402) : Int32) + 1)) (fun σ4 => some (σ4, (σ3.1 1402), 0)))) else none)) else none)) else none)) = some (σf, rf, dd) := h
  refine ax_Mi.of (by decide +kernel) (Nat.le_of_ble_eq_true rfl) ?_
  intro p e s m args below meth c C hnm
  have C : ax_C p s m args meth c b_For_addVariable "ClauseProver$Formulas" 2 (some .int) D kA (va_A (cpW kA u w tx σ) s.heap.size) := C
  obtain ⟨F, hFe⟩ : ∃ F, F = dd + 1 := ⟨_, rfl⟩
  obtain ⟨Lo, hLoe⟩ : ∃ Lo, Lo = 48 * dd + 48 := ⟨_, rfl⟩
  obtain ⟨σ0, hσ0⟩ : ∃ s0, s0 = σ := ⟨_, rfl⟩
  suffices K : AW p l e { frames := F, cells := 0, slots := 0, locals := Lo } s m args below meth c D kA (va_A (cpW kA u w tx σ0) s.heap.size) 2 (ax_Qi below args s D kA (cpW kA u w tx σ0) 0 0 (fun r w1 => r = rf ∧ w1 = cpW kA u w tx σf)) 0 [(0, .ref (u 14)), (1, .ref (u 32))] [] (cpW kA u w tx σ) 0 0 by rw [hFe, hLoe, hσ0] at K; exact ax_ls ([(0, .ref (u 14)), (1, .ref (u 32))]) [0, 1] rfl K
  have C : ax_C p s m args meth c b_For_addVariable "ClauseProver$Formulas" 2 (some .int) D kA (va_A (cpW kA u w tx σ0) s.heap.size) := by rw [hσ0]; exact C
  have hF : dd + 1 ≤ F := by omega
  have hLo : 48 * dd + 48 ≤ Lo := by omega
  clear hFe hLoe hσ0
  refine ax_aload_n (pc := 0) C d_For_addVariable_0 rfl 0 rfl ?_
  refine cg_14_2_For_63 (pc := 1) C d_For_addVariable_1 ?_
  refine ax_sipush (pc := 4) C 300 d_For_addVariable_4 (by decide +kernel) ?_
  refine ax_icmp_ne (pc := 7) C 12 d_For_addVariable_7 (by decide) (fun hc => ?_) (fun hc => ?_)
  · have h := it_f hc h
    refine ax_aload_n (pc := 12) C d_For_addVariable_12 rfl 0 rfl ?_
    refine cg_14_7_For_30 (pc := 13) C d_For_addVariable_13 ?_
    refine ax_aload_n (pc := 16) C d_For_addVariable_16 rfl 0 rfl ?_
    refine cg_14_2_For_63 (pc := 17) C d_For_addVariable_17 ?_
    refine ax_aload_n (pc := 20) C d_For_addVariable_20 rfl 1 rfl ?_
    refine cg_32_3_For_86 (pc := 21) C d_For_addVariable_21 ?_
    obtain ⟨hb, h⟩ := it_g h
    refine cs_22 (pc := 24) C d_For_addVariable_24 (bin_in hb) ?_
    have h := it_l h
    generalize mA σ 22 (Int32.toNatClampNeg (σ.1 1402)) (σ.1 3203) = σ1 at h ⊢
    refine ax_aload_n (pc := 25) C d_For_addVariable_25 rfl 0 rfl ?_
    refine cg_14_8_For_33 (pc := 26) C d_For_addVariable_26 ?_
    refine ax_aload_n (pc := 29) C d_For_addVariable_29 rfl 0 rfl ?_
    refine cg_14_2_For_63 (pc := 30) C d_For_addVariable_30 ?_
    refine ax_aload_n (pc := 33) C d_For_addVariable_33 rfl 1 rfl ?_
    refine cg_32_4_For_91 (pc := 34) C d_For_addVariable_34 ?_
    obtain ⟨hb, h⟩ := it_g h
    refine cs_23 (pc := 37) C d_For_addVariable_37 (bin_in hb) ?_
    have h := it_l h
    generalize mA σ1 23 (Int32.toNatClampNeg (σ1.1 1402)) (σ1.1 3204) = σ2 at h ⊢
    refine ax_aload_n (pc := 38) C d_For_addVariable_38 rfl 0 rfl ?_
    refine cg_14_10_For_39 (pc := 39) C d_For_addVariable_39 ?_
    refine ax_aload_n (pc := 42) C d_For_addVariable_42 rfl 0 rfl ?_
    refine cg_14_2_For_63 (pc := 43) C d_For_addVariable_43 ?_
    refine ax_aload_n (pc := 46) C d_For_addVariable_46 rfl 0 rfl ?_
    refine cg_14_6_For_27 (pc := 47) C d_For_addVariable_47 ?_
    refine cg_20_1_For_59 (pc := 50) C d_For_addVariable_50 ?_
    refine ax_iconst (pc := 53) C 5 d_For_addVariable_53 (by decide +kernel) ?_
    refine ax_isub (pc := 54) C d_For_addVariable_54 ?_
    obtain ⟨hb, h⟩ := it_g h
    refine cs_25 (pc := 55) C d_For_addVariable_55 (bin_in hb) ?_
    have h := it_l h
    generalize mA σ2 25 (Int32.toNatClampNeg (σ2.1 1402)) (((σ2.1 2001) : Int32) - 5) = σ3 at h ⊢
    refine ax_aload_n (pc := 56) C d_For_addVariable_56 rfl 0 rfl ?_
    refine ax_dup (pc := 57) C d_For_addVariable_57 rfl ?_
    refine cg_14_2_For_63 (pc := 58) C d_For_addVariable_58 ?_
    refine ax_dup_x1 (pc := 61) C d_For_addVariable_61 rfl rfl ?_
    refine ax_iconst (pc := 62) C 1 d_For_addVariable_62 (by decide +kernel) ?_
    refine ax_iadd (pc := 63) C d_For_addVariable_63 ?_
    refine cq_14_2_For_63 (pc := 64) C d_For_addVariable_64 ?_
    have h := it_l h
    generalize mI σ3 1402 (((σ3.1 1402) : Int32) + 1) = σ4 at h ⊢
    cases h
    exact ax_iret (pc := 67) C d_For_addVariable_67 ⟨rfl, rfl⟩ (Nat.le_refl _) (Nat.le_refl _)
  · have h := it_t hc h
    refine ax_iconst (pc := 10) C (-1) d_For_addVariable_10 (by decide +kernel) ?_
    cases h
    exact ax_iret (pc := 11) C d_For_addVariable_11 ⟨rfl, rfl⟩ (Nat.le_refl _) (Nat.le_refl _)
set_option maxHeartbeats 4000000 in
set_option maxRecDepth 100000 in
theorem oC_For_around (l : Launch) (D : va_G) (kA : Nat → ClassId) (u w : Nat → Nat) (tx : Value) (rec : mF) (ih : ∀ t σ xs res, rec t σ xs = some res → cSem l D kA u w tx t σ xs res) (σ : mS) (xs : List Int32) (res : mR) (h : u_1 (kC_For_around rec σ) xs = some res) : sC_For_around l D kA u w tx σ xs res := by
  intro x0 hxs
  subst hxs
  obtain ⟨σf, rf, dd⟩ := res
  have h : (if bin x0 300 = true then (if bin x0 300 = true then (if (σ.2.1 17 (Int32.toNatClampNeg x0)) = (-2) then (if bin x0 300 = true then (rec tC_For_around_p57 σ [x0, (σ.2.1 25 (Int32.toNatClampNeg x0)), (σ.2.1 24 (Int32.toNatClampNeg x0))]) else none) else (if bin x0 300 = true then (if bin (((σ.2.1 25 (Int32.toNatClampNeg x0)) : Int32) + 4) (σ.2.2 21) = true then (if bin (((σ.2.1 25 (Int32.toNatClampNeg x0)) : Int32) + 3) (σ.2.2 21) = true then (rec tC_For_around_p57 σ [x0, (σ.2.1 25 (Int32.toNatClampNeg x0)), (((((σ.2.1 24 (Int32.toNatClampNeg x0)) : Int32) + (σ.2.1 21 (Int32.toNatClampNeg (((σ.2.1 25 (Int32.toNatClampNeg x0)) : Int32) + 4)))) : Int32) - (σ.2.1 21 (Int32.toNatClampNeg (((σ.2.1 25 (Int32.toNatClampNeg x0)) : Int32) + 3))))]) else none) else none) else none)) else none) else none) = some (σf, rf, dd) := h
  refine ax_Mi.of (by decide +kernel) (Nat.le_of_ble_eq_true rfl) ?_
  intro p e s m args below meth c C hnm
  have C : ax_C p s m args meth c b_For_around "ClauseProver$Formulas" 3 (some .int) D kA (va_A (cpW kA u w tx σ) s.heap.size) := C
  obtain ⟨F, hFe⟩ : ∃ F, F = dd + 1 := ⟨_, rfl⟩
  obtain ⟨Lo, hLoe⟩ : ∃ Lo, Lo = 48 * dd + 48 := ⟨_, rfl⟩
  obtain ⟨σ0, hσ0⟩ : ∃ s0, s0 = σ := ⟨_, rfl⟩
  suffices K : AW p l e { frames := F, cells := 0, slots := 0, locals := Lo } s m args below meth c D kA (va_A (cpW kA u w tx σ0) s.heap.size) 3 (ax_Qi below args s D kA (cpW kA u w tx σ0) 0 0 (fun r w1 => r = rf ∧ w1 = cpW kA u w tx σf)) 0 [(0, .ref (u 14)), (1, .int x0)] [] (cpW kA u w tx σ) 0 0 by rw [hFe, hLoe, hσ0] at K; exact ax_ls ([(0, .ref (u 14)), (1, .int x0)]) [0, 1] rfl K
  have C : ax_C p s m args meth c b_For_around "ClauseProver$Formulas" 3 (some .int) D kA (va_A (cpW kA u w tx σ0) s.heap.size) := by rw [hσ0]; exact C
  have hF : dd + 1 ≤ F := by omega
  have hLo : 48 * dd + 48 ≤ Lo := by omega
  clear hFe hLoe hσ0
  refine ax_aload_n (pc := 0) C d_For_around_0 rfl 0 rfl ?_
  refine cg_14_10_For_39 (pc := 1) C d_For_around_1 ?_
  refine ax_iload_n (pc := 4) C d_For_around_4 rfl 1 rfl ?_
  obtain ⟨hb, h⟩ := it_g h
  refine cl_25 (pc := 5) C d_For_around_5 (bin_in hb) ?_
  refine ax_istore_n (pc := 6) C d_For_around_6 rfl (Nat.le_of_ble_eq_true rfl) ([(2, .int (σ.2.1 25 (Int32.toNatClampNeg x0))), (0, .ref (u 14)), (1, .int x0)]) rfl ?_
  refine ax_aload_n (pc := 7) C d_For_around_7 rfl 1 rfl ?_
  refine cg_14_1_For_20 (pc := 8) C d_For_around_8 ?_
  refine ax_iload_n (pc := 11) C d_For_around_11 rfl 2 rfl ?_
  obtain ⟨hb, h⟩ := it_g h
  refine cl_17 (pc := 12) C d_For_around_12 (bin_in hb) ?_
  refine ax_bipush (pc := 13) C (-2) d_For_around_13 (by decide +kernel) ?_
  refine ax_icmp_ne (pc := 15) C 27 d_For_around_15 (by decide) (fun hc => ?_) (fun hc => ?_)
  · have h := it_f hc h
    refine ax_aload_n (pc := 27) C d_For_around_27 rfl 1 rfl ?_
    refine cg_14_9_For_36 (pc := 28) C d_For_around_28 ?_
    refine ax_iload_n (pc := 31) C d_For_around_31 rfl 2 rfl ?_
    obtain ⟨hb, h⟩ := it_g h
    refine cl_24 (pc := 32) C d_For_around_32 (bin_in hb) ?_
    refine ax_aload_n (pc := 33) C d_For_around_33 rfl 1 rfl ?_
    refine cg_14_6_For_27 (pc := 34) C d_For_around_34 ?_
    refine cg_20_0_For_75 (pc := 37) C d_For_around_37 ?_
    refine ax_iload_n (pc := 40) C d_For_around_40 rfl 0 rfl ?_
    refine ax_iconst (pc := 41) C 4 d_For_around_41 (by decide +kernel) ?_
    refine ax_iadd (pc := 42) C d_For_around_42 ?_
    obtain ⟨hb, h⟩ := it_g h
    refine cl_21 (pc := 43) C d_For_around_43 (bin_in hb) ?_
    refine ax_iadd (pc := 44) C d_For_around_44 ?_
    refine ax_aload_n (pc := 45) C d_For_around_45 rfl 1 rfl ?_
    refine cg_14_6_For_27 (pc := 46) C d_For_around_46 ?_
    refine cg_20_0_For_75 (pc := 49) C d_For_around_49 ?_
    refine ax_iload_n (pc := 52) C d_For_around_52 rfl 0 rfl ?_
    refine ax_iconst (pc := 53) C 3 d_For_around_53 (by decide +kernel) ?_
    refine ax_iadd (pc := 54) C d_For_around_54 ?_
    obtain ⟨hb, h⟩ := it_g h
    refine cl_21 (pc := 55) C d_For_around_55 (bin_in hb) ?_
    refine ax_isub (pc := 56) C d_For_around_56 ?_
    refine ax_ls ([(0, .ref (u 14)), (1, .int x0), (2, .int (σ.2.1 25 (Int32.toNatClampNeg x0)))]) [1, 2, 0] rfl ?_
    have hm : sC_For_around_p57 l D kA u w tx σ [x0, (σ.2.1 25 (Int32.toNatClampNeg x0)), (((((σ.2.1 24 (Int32.toNatClampNeg x0)) : Int32) + (σ.2.1 21 (Int32.toNatClampNeg (((σ.2.1 25 (Int32.toNatClampNeg x0)) : Int32) + 4)))) : Int32) - (σ.2.1 21 (Int32.toNatClampNeg (((σ.2.1 25 (Int32.toNatClampNeg x0)) : Int32) + 3))))] (σf, rf, _) := ih tC_For_around_p57 _ _ _ h
    exact hm _ _ _ rfl p e s m args below meth c F Lo σ0 hF hLo C
  · have h := it_t hc h
    refine ax_aload_n (pc := 18) C d_For_around_18 rfl 1 rfl ?_
    refine cg_14_9_For_36 (pc := 19) C d_For_around_19 ?_
    refine ax_iload_n (pc := 22) C d_For_around_22 rfl 2 rfl ?_
    obtain ⟨hb, h⟩ := it_g h
    refine cl_24 (pc := 23) C d_For_around_23 (bin_in hb) ?_
    refine ax_goto (pc := 24) C 57 d_For_around_24 (by decide) ?_
    refine ax_ls ([(0, .ref (u 14)), (1, .int x0), (2, .int (σ.2.1 25 (Int32.toNatClampNeg x0)))]) [1, 2, 0] rfl ?_
    have hm : sC_For_around_p57 l D kA u w tx σ [x0, (σ.2.1 25 (Int32.toNatClampNeg x0)), (σ.2.1 24 (Int32.toNatClampNeg x0))] (σf, rf, _) := ih tC_For_around_p57 _ _ _ h
    exact hm _ _ _ rfl p e s m args below meth c F Lo σ0 hF hLo C
set_option maxHeartbeats 4000000 in
set_option maxRecDepth 100000 in
theorem oC_For_around_p57 (l : Launch) (D : va_G) (kA : Nat → ClassId) (u w : Nat → Nat) (tx : Value) (rec : mF) (ih : ∀ t σ xs res, rec t σ xs = some res → cSem l D kA u w tx t σ xs res) (σ : mS) (xs : List Int32) (res : mR) (h : u_3 (kC_For_around_p57 rec σ) xs = some res) : sC_For_around_p57 l D kA u w tx σ xs res := by
  intro x0 x1 x2 hxs
  subst hxs
  obtain ⟨σf, rf, dd⟩ := res
  have h : (some (σ, x2, 0)) = some (σf, rf, dd) := h
  intro p e s m args below meth c F Lo σ0 hF hLo C
  dsimp only at hF hLo ⊢
  cases h
  exact ax_iret (pc := 57) C d_For_around_57 ⟨rfl, rfl⟩ (Nat.le_refl _) (Nat.le_refl _)
set_option maxHeartbeats 4000000 in
set_option maxRecDepth 100000 in
theorem oC_For_aroundAt (l : Launch) (D : va_G) (kA : Nat → ClassId) (u w : Nat → Nat) (tx : Value) (rec : mF) (ih : ∀ t σ xs res, rec t σ xs = some res → cSem l D kA u w tx t σ xs res) (σ : mS) (xs : List Int32) (res : mR) (h : u_2 (kC_For_aroundAt rec σ) xs = some res) : sC_For_aroundAt l D kA u w tx σ xs res := by
  intro x0 x1 hxs
  subst hxs
  obtain ⟨σf, rf, dd⟩ := res
  have h : (if bin x0 300 = true then (if bin (((σ.2.1 25 (Int32.toNatClampNeg x0)) : Int32) + 3) (σ.2.2 21) = true then (if bin (((σ.2.1 25 (Int32.toNatClampNeg x0)) : Int32) + 4) (σ.2.2 21) = true then (if (((σ.2.1 21 (Int32.toNatClampNeg (((σ.2.1 25 (Int32.toNatClampNeg x0)) : Int32) + 4))) : Int32) - (σ.2.1 21 (Int32.toNatClampNeg (((σ.2.1 25 (Int32.toNatClampNeg x0)) : Int32) + 3)))) ≤ x1 then (if bin x0 300 = true then (rec tC_For_aroundAt_p68 σ [x0, x1, (σ.2.1 25 (Int32.toNatClampNeg x0)), (σ.2.1 21 (Int32.toNatClampNeg (((σ.2.1 25 (Int32.toNatClampNeg x0)) : Int32) + 3))), (((σ.2.1 21 (Int32.toNatClampNeg (((σ.2.1 25 (Int32.toNatClampNeg x0)) : Int32) + 4))) : Int32) - (σ.2.1 21 (Int32.toNatClampNeg (((σ.2.1 25 (Int32.toNatClampNeg x0)) : Int32) + 3)))), x0, (((σ.2.1 24 (Int32.toNatClampNeg x0)) : Int32) - ((x1 : Int32) - (((σ.2.1 21 (Int32.toNatClampNeg (((σ.2.1 25 (Int32.toNatClampNeg x0)) : Int32) + 4))) : Int32) - (σ.2.1 21 (Int32.toNatClampNeg (((σ.2.1 25 (Int32.toNatClampNeg x0)) : Int32) + 3))))))]) else none) else (if bin (((σ.2.1 21 (Int32.toNatClampNeg (((σ.2.1 25 (Int32.toNatClampNeg x0)) : Int32) + 3))) : Int32) + x1) 300 = true then (some (σ, (σ.2.1 28 (Int32.toNatClampNeg (((σ.2.1 21 (Int32.toNatClampNeg (((σ.2.1 25 (Int32.toNatClampNeg x0)) : Int32) + 3))) : Int32) + x1))), 0)) else none)) else none) else none) else none) = some (σf, rf, dd) := h
  refine ax_Mi.of (by decide +kernel) (Nat.le_of_ble_eq_true rfl) ?_
  intro p e s m args below meth c C hnm
  have C : ax_C p s m args meth c b_For_aroundAt "ClauseProver$Formulas" 8 (some .int) D kA (va_A (cpW kA u w tx σ) s.heap.size) := C
  obtain ⟨F, hFe⟩ : ∃ F, F = dd + 1 := ⟨_, rfl⟩
  obtain ⟨Lo, hLoe⟩ : ∃ Lo, Lo = 48 * dd + 48 := ⟨_, rfl⟩
  obtain ⟨σ0, hσ0⟩ : ∃ s0, s0 = σ := ⟨_, rfl⟩
  suffices K : AW p l e { frames := F, cells := 0, slots := 0, locals := Lo } s m args below meth c D kA (va_A (cpW kA u w tx σ0) s.heap.size) 8 (ax_Qi below args s D kA (cpW kA u w tx σ0) 0 0 (fun r w1 => r = rf ∧ w1 = cpW kA u w tx σf)) 0 [(0, .ref (u 14)), (1, .int x0), (2, .int x1)] [] (cpW kA u w tx σ) 0 0 by rw [hFe, hLoe, hσ0] at K; exact ax_ls ([(0, .ref (u 14)), (1, .int x0), (2, .int x1)]) [0, 1, 2] rfl K
  have C : ax_C p s m args meth c b_For_aroundAt "ClauseProver$Formulas" 8 (some .int) D kA (va_A (cpW kA u w tx σ0) s.heap.size) := by rw [hσ0]; exact C
  have hF : dd + 1 ≤ F := by omega
  have hLo : 48 * dd + 48 ≤ Lo := by omega
  clear hFe hLoe hσ0
  refine ax_aload_n (pc := 0) C d_For_aroundAt_0 rfl 0 rfl ?_
  refine cg_14_10_For_39 (pc := 1) C d_For_aroundAt_1 ?_
  refine ax_iload_n (pc := 4) C d_For_aroundAt_4 rfl 1 rfl ?_
  obtain ⟨hb, h⟩ := it_g h
  refine cl_25 (pc := 5) C d_For_aroundAt_5 (bin_in hb) ?_
  refine ax_istore_n (pc := 6) C d_For_aroundAt_6 rfl (Nat.le_of_ble_eq_true rfl) ([(3, .int (σ.2.1 25 (Int32.toNatClampNeg x0))), (0, .ref (u 14)), (1, .int x0), (2, .int x1)]) rfl ?_
  refine ax_aload_n (pc := 7) C d_For_aroundAt_7 rfl 1 rfl ?_
  refine cg_14_6_For_27 (pc := 8) C d_For_aroundAt_8 ?_
  refine cg_20_0_For_75 (pc := 11) C d_For_aroundAt_11 ?_
  refine ax_iload_n (pc := 14) C d_For_aroundAt_14 rfl 0 rfl ?_
  refine ax_iconst (pc := 15) C 3 d_For_aroundAt_15 (by decide +kernel) ?_
  refine ax_iadd (pc := 16) C d_For_aroundAt_16 ?_
  obtain ⟨hb, h⟩ := it_g h
  refine cl_21 (pc := 17) C d_For_aroundAt_17 (bin_in hb) ?_
  refine ax_istore (pc := 18) C d_For_aroundAt_18 (Nat.le_of_ble_eq_true rfl) ([(4, .int (σ.2.1 21 (Int32.toNatClampNeg (((σ.2.1 25 (Int32.toNatClampNeg x0)) : Int32) + 3)))), (3, .int (σ.2.1 25 (Int32.toNatClampNeg x0))), (0, .ref (u 14)), (1, .int x0), (2, .int x1)]) rfl ?_
  refine ax_aload_n (pc := 20) C d_For_aroundAt_20 rfl 2 rfl ?_
  refine cg_14_6_For_27 (pc := 21) C d_For_aroundAt_21 ?_
  refine cg_20_0_For_75 (pc := 24) C d_For_aroundAt_24 ?_
  refine ax_iload_n (pc := 27) C d_For_aroundAt_27 rfl 1 rfl ?_
  refine ax_iconst (pc := 28) C 4 d_For_aroundAt_28 (by decide +kernel) ?_
  refine ax_iadd (pc := 29) C d_For_aroundAt_29 ?_
  obtain ⟨hb, h⟩ := it_g h
  refine cl_21 (pc := 30) C d_For_aroundAt_30 (bin_in hb) ?_
  refine ax_iload (pc := 31) C d_For_aroundAt_31 0 rfl ?_
  refine ax_isub (pc := 33) C d_For_aroundAt_33 ?_
  refine ax_istore (pc := 34) C d_For_aroundAt_34 (Nat.le_of_ble_eq_true rfl) ([(5, .int (((σ.2.1 21 (Int32.toNatClampNeg (((σ.2.1 25 (Int32.toNatClampNeg x0)) : Int32) + 4))) : Int32) - (σ.2.1 21 (Int32.toNatClampNeg (((σ.2.1 25 (Int32.toNatClampNeg x0)) : Int32) + 3))))), (4, .int (σ.2.1 21 (Int32.toNatClampNeg (((σ.2.1 25 (Int32.toNatClampNeg x0)) : Int32) + 3)))), (3, .int (σ.2.1 25 (Int32.toNatClampNeg x0))), (0, .ref (u 14)), (1, .int x0), (2, .int x1)]) rfl ?_
  refine ax_iload_n (pc := 36) C d_For_aroundAt_36 rfl 5 rfl ?_
  refine ax_iload (pc := 37) C d_For_aroundAt_37 0 rfl ?_
  refine ax_icmp_ge (pc := 39) C 52 d_For_aroundAt_39 (by decide) (fun hc => ?_) (fun hc => ?_)
  · have h := it_t hc h
    refine ax_iload_n (pc := 52) C d_For_aroundAt_52 rfl 4 rfl ?_
    refine ax_istore (pc := 53) C d_For_aroundAt_53 (Nat.le_of_ble_eq_true rfl) ([(6, .int x0), (5, .int (((σ.2.1 21 (Int32.toNatClampNeg (((σ.2.1 25 (Int32.toNatClampNeg x0)) : Int32) + 4))) : Int32) - (σ.2.1 21 (Int32.toNatClampNeg (((σ.2.1 25 (Int32.toNatClampNeg x0)) : Int32) + 3))))), (4, .int (σ.2.1 21 (Int32.toNatClampNeg (((σ.2.1 25 (Int32.toNatClampNeg x0)) : Int32) + 3)))), (3, .int (σ.2.1 25 (Int32.toNatClampNeg x0))), (0, .ref (u 14)), (1, .int x0), (2, .int x1)]) rfl ?_
    refine ax_aload_n (pc := 55) C d_For_aroundAt_55 rfl 4 rfl ?_
    refine cg_14_9_For_36 (pc := 56) C d_For_aroundAt_56 ?_
    refine ax_iload_n (pc := 59) C d_For_aroundAt_59 rfl 5 rfl ?_
    obtain ⟨hb, h⟩ := it_g h
    refine cl_24 (pc := 60) C d_For_aroundAt_60 (bin_in hb) ?_
    refine ax_iload_n (pc := 61) C d_For_aroundAt_61 rfl 6 rfl ?_
    refine ax_iload (pc := 62) C d_For_aroundAt_62 1 rfl ?_
    refine ax_isub (pc := 64) C d_For_aroundAt_64 ?_
    refine ax_isub (pc := 65) C d_For_aroundAt_65 ?_
    refine ax_istore (pc := 66) C d_For_aroundAt_66 (Nat.le_of_ble_eq_true rfl) ([(7, .int (((σ.2.1 24 (Int32.toNatClampNeg x0)) : Int32) - ((x1 : Int32) - (((σ.2.1 21 (Int32.toNatClampNeg (((σ.2.1 25 (Int32.toNatClampNeg x0)) : Int32) + 4))) : Int32) - (σ.2.1 21 (Int32.toNatClampNeg (((σ.2.1 25 (Int32.toNatClampNeg x0)) : Int32) + 3))))))), (6, .int x0), (5, .int (((σ.2.1 21 (Int32.toNatClampNeg (((σ.2.1 25 (Int32.toNatClampNeg x0)) : Int32) + 4))) : Int32) - (σ.2.1 21 (Int32.toNatClampNeg (((σ.2.1 25 (Int32.toNatClampNeg x0)) : Int32) + 3))))), (4, .int (σ.2.1 21 (Int32.toNatClampNeg (((σ.2.1 25 (Int32.toNatClampNeg x0)) : Int32) + 3)))), (3, .int (σ.2.1 25 (Int32.toNatClampNeg x0))), (0, .ref (u 14)), (1, .int x0), (2, .int x1)]) rfl ?_
    refine ax_ls ([(0, .ref (u 14)), (1, .int x0), (2, .int x1), (3, .int (σ.2.1 25 (Int32.toNatClampNeg x0))), (4, .int (σ.2.1 21 (Int32.toNatClampNeg (((σ.2.1 25 (Int32.toNatClampNeg x0)) : Int32) + 3)))), (5, .int (((σ.2.1 21 (Int32.toNatClampNeg (((σ.2.1 25 (Int32.toNatClampNeg x0)) : Int32) + 4))) : Int32) - (σ.2.1 21 (Int32.toNatClampNeg (((σ.2.1 25 (Int32.toNatClampNeg x0)) : Int32) + 3))))), (6, .int x0), (7, .int (((σ.2.1 24 (Int32.toNatClampNeg x0)) : Int32) - ((x1 : Int32) - (((σ.2.1 21 (Int32.toNatClampNeg (((σ.2.1 25 (Int32.toNatClampNeg x0)) : Int32) + 4))) : Int32) - (σ.2.1 21 (Int32.toNatClampNeg (((σ.2.1 25 (Int32.toNatClampNeg x0)) : Int32) + 3)))))))]) [5, 6, 7, 4, 3, 2, 1, 0] rfl ?_
    have hm : sC_For_aroundAt_p68 l D kA u w tx σ [x0, x1, (σ.2.1 25 (Int32.toNatClampNeg x0)), (σ.2.1 21 (Int32.toNatClampNeg (((σ.2.1 25 (Int32.toNatClampNeg x0)) : Int32) + 3))), (((σ.2.1 21 (Int32.toNatClampNeg (((σ.2.1 25 (Int32.toNatClampNeg x0)) : Int32) + 4))) : Int32) - (σ.2.1 21 (Int32.toNatClampNeg (((σ.2.1 25 (Int32.toNatClampNeg x0)) : Int32) + 3)))), x0, (((σ.2.1 24 (Int32.toNatClampNeg x0)) : Int32) - ((x1 : Int32) - (((σ.2.1 21 (Int32.toNatClampNeg (((σ.2.1 25 (Int32.toNatClampNeg x0)) : Int32) + 4))) : Int32) - (σ.2.1 21 (Int32.toNatClampNeg (((σ.2.1 25 (Int32.toNatClampNeg x0)) : Int32) + 3))))))] (σf, rf, _) := ih tC_For_aroundAt_p68 _ _ _ h
    exact hm _ _ _ _ _ _ _ rfl p e s m args below meth c F Lo σ0 hF hLo C
  · have h := it_f hc h
    refine ax_aload_n (pc := 42) C d_For_aroundAt_42 rfl 3 rfl ?_
    refine cg_14_13_For_49 (pc := 43) C d_For_aroundAt_43 ?_
    refine ax_iload (pc := 46) C d_For_aroundAt_46 1 rfl ?_
    refine ax_iload_n (pc := 48) C d_For_aroundAt_48 rfl 5 rfl ?_
    refine ax_iadd (pc := 49) C d_For_aroundAt_49 ?_
    obtain ⟨hb, h⟩ := it_g h
    refine cl_28 (pc := 50) C d_For_aroundAt_50 (bin_in hb) ?_
    cases h
    exact ax_iret (pc := 51) C d_For_aroundAt_51 ⟨rfl, rfl⟩ (Nat.le_refl _) (Nat.le_refl _)
set_option maxHeartbeats 4000000 in
set_option maxRecDepth 100000 in
theorem oC_For_aroundAt_p68 (l : Launch) (D : va_G) (kA : Nat → ClassId) (u w : Nat → Nat) (tx : Value) (rec : mF) (ih : ∀ t σ xs res, rec t σ xs = some res → cSem l D kA u w tx t σ xs res) (σ : mS) (xs : List Int32) (res : mR) (h : u_7 (kC_For_aroundAt_p68 rec σ) xs = some res) : sC_For_aroundAt_p68 l D kA u w tx σ xs res := by
  intro x0 x1 x2 x3 x4 x5 x6 hxs
  subst hxs
  obtain ⟨σf, rf, dd⟩ := res
  have h : (if x6 ≤ 0 then (some (σ, x5, 0)) else (if bin x5 300 = true then (rec tC_For_aroundAt_p68 σ [x0, x1, x2, x3, x4, (σ.2.1 17 (Int32.toNatClampNeg x5)), (x6 + (-1))]) else none)) = some (σf, rf, dd) := h
  intro p e s m args below meth c F Lo σ0 hF hLo C
  dsimp only at hF hLo ⊢
  refine ax_iload (pc := 68) C d_For_aroundAt_68 7 rfl ?_
  refine ax_if_le (pc := 70) C 88 d_For_aroundAt_70 (by decide) (fun hc => ?_) (fun hc => ?_)
  · have h := it_t hc h
    refine ax_iload (pc := 88) C d_For_aroundAt_88 6 rfl ?_
    cases h
    exact ax_iret (pc := 90) C d_For_aroundAt_90 ⟨rfl, rfl⟩ (Nat.le_refl _) (Nat.le_refl _)
  · have h := it_f hc h
    refine ax_aload_n (pc := 73) C d_For_aroundAt_73 rfl 0 rfl ?_
    refine cg_14_1_For_20 (pc := 74) C d_For_aroundAt_74 ?_
    refine ax_iload (pc := 77) C d_For_aroundAt_77 6 rfl ?_
    obtain ⟨hb, h⟩ := it_g h
    refine cl_17 (pc := 79) C d_For_aroundAt_79 (bin_in hb) ?_
    refine ax_istore (pc := 80) C d_For_aroundAt_80 (Nat.le_of_ble_eq_true rfl) ([(6, .int (σ.2.1 17 (Int32.toNatClampNeg x5))), (0, .ref (u 14)), (1, .int x0), (2, .int x1), (3, .int x2), (4, .int x3), (5, .int x4), (7, .int x6)]) rfl ?_
    refine ax_iinc (pc := 82) C (x6 + (-1)) d_For_aroundAt_82 7 rfl rfl (Nat.le_of_ble_eq_true rfl) ([(7, .int (x6 + (-1))), (6, .int (σ.2.1 17 (Int32.toNatClampNeg x5))), (0, .ref (u 14)), (1, .int x0), (2, .int x1), (3, .int x2), (4, .int x3), (5, .int x4)]) rfl ?_
    refine ax_goto (pc := 85) C 68 d_For_aroundAt_85 (by decide) ?_
    refine ax_ls ([(0, .ref (u 14)), (1, .int x0), (2, .int x1), (3, .int x2), (4, .int x3), (5, .int x4), (6, .int (σ.2.1 17 (Int32.toNatClampNeg x5))), (7, .int (x6 + (-1)))]) [2, 3, 4, 5, 6, 7, 1, 0] rfl ?_
    have hm : sC_For_aroundAt_p68 l D kA u w tx σ [x0, x1, x2, x3, x4, (σ.2.1 17 (Int32.toNatClampNeg x5)), (x6 + (-1))] (σf, rf, _) := ih tC_For_aroundAt_p68 _ _ _ h
    exact hm _ _ _ _ _ _ _ rfl p e s m args below meth c F Lo σ0 hF hLo C
set_option maxHeartbeats 4000000 in
set_option maxRecDepth 100000 in
theorem oC_For_bind (l : Launch) (D : va_G) (kA : Nat → ClassId) (u w : Nat → Nat) (tx : Value) (rec : mF) (ih : ∀ t σ xs res, rec t σ xs = some res → cSem l D kA u w tx t σ xs res) (σ : mS) (xs : List Int32) (res : mR) (h : u_0 (kC_For_bind rec σ) xs = some res) : sC_For_bind l D kA u w tx σ xs res := by
  intro hxs
  subst hxs
  obtain ⟨σf, rf, dd⟩ := res
  have h : (bnd (rec tC_For_addVariable σ []) (fun σ1 r1 => if r1 = (-1) then (rec tC_For_bind_p55 σ1 [r1]) else (if bin r1 300 = true then (lt_ (mA σ1 17 (Int32.toNatClampNeg r1) (σ1.1 1403)) (fun σ2 => if (σ2.1 1403) = (-1) then (rec tC_For_bind_p49 σ2 [r1, 0, r1]) else (if bin (σ2.1 1403) 300 = true then (rec tC_For_bind_p49 σ2 [r1, (((σ2.2.1 24 (Int32.toNatClampNeg (σ2.1 1403))) : Int32) + 1), r1]) else none))) else none))) = some (σf, rf, dd) := h
  refine ax_Mi.of (by decide +kernel) (Nat.le_of_ble_eq_true rfl) ?_
  intro p e s m args below meth c C hnm
  have C : ax_C p s m args meth c b_For_bind "ClauseProver$Formulas" 3 (some .int) D kA (va_A (cpW kA u w tx σ) s.heap.size) := C
  obtain ⟨F, hFe⟩ : ∃ F, F = dd + 1 := ⟨_, rfl⟩
  obtain ⟨Lo, hLoe⟩ : ∃ Lo, Lo = 48 * dd + 48 := ⟨_, rfl⟩
  obtain ⟨σ0, hσ0⟩ : ∃ s0, s0 = σ := ⟨_, rfl⟩
  suffices K : AW p l e { frames := F, cells := 0, slots := 0, locals := Lo } s m args below meth c D kA (va_A (cpW kA u w tx σ0) s.heap.size) 3 (ax_Qi below args s D kA (cpW kA u w tx σ0) 0 0 (fun r w1 => r = rf ∧ w1 = cpW kA u w tx σf)) 0 [(0, .ref (u 14)), (1, .ref (u 32))] [] (cpW kA u w tx σ) 0 0 by rw [hFe, hLoe, hσ0] at K; exact ax_ls ([(0, .ref (u 14)), (1, .ref (u 32))]) [0, 1] rfl K
  have C : ax_C p s m args meth c b_For_bind "ClauseProver$Formulas" 3 (some .int) D kA (va_A (cpW kA u w tx σ0) s.heap.size) := by rw [hσ0]; exact C
  have hF : dd + 1 ≤ F := by omega
  have hLo : 48 * dd + 48 ≤ Lo := by omega
  clear hFe hLoe hσ0
  refine ax_aload_n (pc := 0) C d_For_bind_0 rfl 0 rfl ?_
  refine ax_aload_n (pc := 1) C d_For_bind_1 rfl 1 rfl ?_
  obtain ⟨σ1, r1, d1_1, d2_1, h1, h, hd2, hd1⟩ := it_b h
  have hm : sC_For_addVariable l D kA u w tx σ [] (σ1, r1, d1_1) := ih tC_For_addVariable _ _ _ h1
  refine cc_Vi (pc := 2) C (r0 := r1) (σ2 := σ1) (As := [.ref (u 32)]) (rest := []) (hm rfl) ml_For_78 14 rfl rfl rfl d_For_bind_2 rfl rfl (by dsimp only; omega) (by dsimp only; omega) (Nat.le_of_ble_eq_true rfl) (Nat.le_of_ble_eq_true rfl) (Nat.le_of_ble_eq_true rfl) ?_
  have hF : d2_1 + 1 ≤ F := by omega
  have hLo : 48 * d2_1 + 48 ≤ Lo := by omega
  refine ax_istore_n (pc := 5) C d_For_bind_5 rfl (Nat.le_of_ble_eq_true rfl) ([(2, .int r1), (0, .ref (u 14)), (1, .ref (u 32))]) rfl ?_
  refine ax_iload_n (pc := 6) C d_For_bind_6 rfl 0 rfl ?_
  refine ax_iconst (pc := 7) C (-1) d_For_bind_7 (by decide +kernel) ?_
  refine ax_icmp_eq (pc := 8) C 55 d_For_bind_8 (by decide) (fun hc => ?_) (fun hc => ?_)
  · have h := it_t hc h
    refine ax_ls ([(0, .ref (u 14)), (1, .ref (u 32)), (2, .int r1)]) [1, 2, 0] rfl ?_
    have hm : sC_For_bind_p55 l D kA u w tx σ1 [r1] (σf, rf, _) := ih tC_For_bind_p55 _ _ _ h
    exact hm _ rfl p e s m args below meth c F Lo σ0 hF hLo C
  · have h := it_f hc h
    refine ax_aload_n (pc := 11) C d_For_bind_11 rfl 1 rfl ?_
    refine cg_14_1_For_20 (pc := 12) C d_For_bind_12 ?_
    refine ax_iload_n (pc := 15) C d_For_bind_15 rfl 0 rfl ?_
    refine ax_aload_n (pc := 16) C d_For_bind_16 rfl 1 rfl ?_
    refine cg_14_3_For_69 (pc := 17) C d_For_bind_17 ?_
    obtain ⟨hb, h⟩ := it_g h
    refine cs_17 (pc := 20) C d_For_bind_20 (bin_in hb) ?_
    have h := it_l h
    generalize mA σ1 17 (Int32.toNatClampNeg r1) (σ1.1 1403) = σ2 at h ⊢
    refine ax_aload_n (pc := 21) C d_For_bind_21 rfl 1 rfl ?_
    refine cg_14_9_For_36 (pc := 22) C d_For_bind_22 ?_
    refine ax_iload_n (pc := 25) C d_For_bind_25 rfl 0 rfl ?_
    refine ax_aload_n (pc := 26) C d_For_bind_26 rfl 1 rfl ?_
    refine cg_14_3_For_69 (pc := 27) C d_For_bind_27 ?_
    refine ax_iconst (pc := 30) C (-1) d_For_bind_30 (by decide +kernel) ?_
    refine ax_icmp_ne (pc := 31) C 38 d_For_bind_31 (by decide) (fun hc => ?_) (fun hc => ?_)
    · have h := it_f hc h
      refine ax_aload_n (pc := 38) C d_For_bind_38 rfl 1 rfl ?_
      refine cg_14_9_For_36 (pc := 39) C d_For_bind_39 ?_
      refine ax_aload_n (pc := 42) C d_For_bind_42 rfl 1 rfl ?_
      refine cg_14_3_For_69 (pc := 43) C d_For_bind_43 ?_
      obtain ⟨hb, h⟩ := it_g h
      refine cl_24 (pc := 46) C d_For_bind_46 (bin_in hb) ?_
      refine ax_iconst (pc := 47) C 1 d_For_bind_47 (by decide +kernel) ?_
      refine ax_iadd (pc := 48) C d_For_bind_48 ?_
      refine ax_ls ([(0, .ref (u 14)), (1, .ref (u 32)), (2, .int r1)]) [1, 2, 0] rfl ?_
      have hm : sC_For_bind_p49 l D kA u w tx σ2 [r1, (((σ2.2.1 24 (Int32.toNatClampNeg (σ2.1 1403))) : Int32) + 1), r1] (σf, rf, _) := ih tC_For_bind_p49 _ _ _ h
      exact hm _ _ _ rfl p e s m args below meth c F Lo σ0 hF hLo C
    · have h := it_t hc h
      refine ax_iconst (pc := 34) C 0 d_For_bind_34 (by decide +kernel) ?_
      refine ax_goto (pc := 35) C 49 d_For_bind_35 (by decide) ?_
      refine ax_ls ([(0, .ref (u 14)), (1, .ref (u 32)), (2, .int r1)]) [1, 2, 0] rfl ?_
      have hm : sC_For_bind_p49 l D kA u w tx σ2 [r1, 0, r1] (σf, rf, _) := ih tC_For_bind_p49 _ _ _ h
      exact hm _ _ _ rfl p e s m args below meth c F Lo σ0 hF hLo C
set_option maxHeartbeats 4000000 in
set_option maxRecDepth 100000 in
theorem oC_For_bind_p49 (l : Launch) (D : va_G) (kA : Nat → ClassId) (u w : Nat → Nat) (tx : Value) (rec : mF) (ih : ∀ t σ xs res, rec t σ xs = some res → cSem l D kA u w tx t σ xs res) (σ : mS) (xs : List Int32) (res : mR) (h : u_3 (kC_For_bind_p49 rec σ) xs = some res) : sC_For_bind_p49 l D kA u w tx σ xs res := by
  intro x0 x1 x2 hxs
  subst hxs
  obtain ⟨σf, rf, dd⟩ := res
  have h : (if bin x2 300 = true then (lt_ (mA σ 24 (Int32.toNatClampNeg x2) x1) (fun σ1 => lt_ (mI σ1 1403 x0) (fun σ2 => rec tC_For_bind_p55 σ2 [x0]))) else none) = some (σf, rf, dd) := h
  intro p e s m args below meth c F Lo σ0 hF hLo C
  dsimp only at hF hLo ⊢
  obtain ⟨hb, h⟩ := it_g h
  refine cs_24 (pc := 49) C d_For_bind_49 (bin_in hb) ?_
  have h := it_l h
  generalize mA σ 24 (Int32.toNatClampNeg x2) x1 = σ1 at h ⊢
  refine ax_aload_n (pc := 50) C d_For_bind_50 rfl 0 rfl ?_
  refine ax_iload_n (pc := 51) C d_For_bind_51 rfl 2 rfl ?_
  refine cq_14_3_For_69 (pc := 52) C d_For_bind_52 ?_
  have h := it_l h
  generalize mI σ1 1403 x0 = σ2 at h ⊢
  refine ax_ls ([(0, .ref (u 14)), (1, .ref (u 32)), (2, .int x0)]) [0, 1, 2] rfl ?_
  have hm : sC_For_bind_p55 l D kA u w tx σ2 [x0] (σf, rf, _) := ih tC_For_bind_p55 _ _ _ h
  exact hm _ rfl p e s m args below meth c F Lo σ0 hF hLo C
set_option maxHeartbeats 4000000 in
set_option maxRecDepth 100000 in
theorem oC_For_bind_p55 (l : Launch) (D : va_G) (kA : Nat → ClassId) (u w : Nat → Nat) (tx : Value) (rec : mF) (ih : ∀ t σ xs res, rec t σ xs = some res → cSem l D kA u w tx t σ xs res) (σ : mS) (xs : List Int32) (res : mR) (h : u_1 (kC_For_bind_p55 rec σ) xs = some res) : sC_For_bind_p55 l D kA u w tx σ xs res := by
  intro x0 hxs
  subst hxs
  obtain ⟨σf, rf, dd⟩ := res
  have h : (some (σ, x0, 0)) = some (σf, rf, dd) := h
  intro p e s m args below meth c F Lo σ0 hF hLo C
  dsimp only at hF hLo ⊢
  refine ax_iload_n (pc := 55) C d_For_bind_55 rfl 2 rfl ?_
  cases h
  exact ax_iret (pc := 56) C d_For_bind_56 ⟨rfl, rfl⟩ (Nat.le_refl _) (Nat.le_refl _)
set_option maxHeartbeats 4000000 in
set_option maxRecDepth 100000 in
theorem oC_For_clausesOf (l : Launch) (D : va_G) (kA : Nat → ClassId) (u w : Nat → Nat) (tx : Value) (rec : mF) (ih : ∀ t σ xs res, rec t σ xs = some res → cSem l D kA u w tx t σ xs res) (σ : mS) (xs : List Int32) (res : mR) (h : u_2 (kC_For_clausesOf rec σ) xs = some res) : sC_For_clausesOf l D kA u w tx σ xs res := by
  intro x0 x1 hxs
  subst hxs
  obtain ⟨σf, rf, dd⟩ := res
  have h : (if x1 = 0 then (rec tC_For_clausesOf_p11 σ [x0, x1, 4, x0]) else (rec tC_For_clausesOf_p11 σ [x0, x1, 5, x0])) = some (σf, rf, dd) := h
  refine ax_Mi.of (by decide +kernel) (Nat.le_of_ble_eq_true rfl) ?_
  intro p e s m args below meth c C hnm
  have C : ax_C p s m args meth c b_For_clausesOf "ClauseProver$Formulas" 3 (some .int) D kA (va_A (cpW kA u w tx σ) s.heap.size) := C
  obtain ⟨F, hFe⟩ : ∃ F, F = dd + 1 := ⟨_, rfl⟩
  obtain ⟨Lo, hLoe⟩ : ∃ Lo, Lo = 48 * dd + 48 := ⟨_, rfl⟩
  obtain ⟨σ0, hσ0⟩ : ∃ s0, s0 = σ := ⟨_, rfl⟩
  suffices K : AW p l e { frames := F, cells := 0, slots := 0, locals := Lo } s m args below meth c D kA (va_A (cpW kA u w tx σ0) s.heap.size) 3 (ax_Qi below args s D kA (cpW kA u w tx σ0) 0 0 (fun r w1 => r = rf ∧ w1 = cpW kA u w tx σf)) 0 [(0, .ref (u 14)), (1, .int x0), (2, .int x1)] [] (cpW kA u w tx σ) 0 0 by rw [hFe, hLoe, hσ0] at K; exact ax_ls ([(0, .ref (u 14)), (1, .int x0), (2, .int x1)]) [0, 1, 2] rfl K
  have C : ax_C p s m args meth c b_For_clausesOf "ClauseProver$Formulas" 3 (some .int) D kA (va_A (cpW kA u w tx σ0) s.heap.size) := by rw [hσ0]; exact C
  have hF : dd + 1 ≤ F := by omega
  have hLo : 48 * dd + 48 ≤ Lo := by omega
  clear hFe hLoe hσ0
  refine ax_aload_n (pc := 0) C d_For_clausesOf_0 rfl 0 rfl ?_
  refine ax_iload_n (pc := 1) C d_For_clausesOf_1 rfl 1 rfl ?_
  refine ax_iload_n (pc := 2) C d_For_clausesOf_2 rfl 2 rfl ?_
  refine ax_if_eq (pc := 3) C 10 d_For_clausesOf_3 (by decide) (fun hc => ?_) (fun hc => ?_)
  · have h := it_t hc h
    refine ax_iconst (pc := 10) C 4 d_For_clausesOf_10 (by decide +kernel) ?_
    refine ax_ls ([(0, .ref (u 14)), (1, .int x0), (2, .int x1)]) [0, 1, 2] rfl ?_
    have hm : sC_For_clausesOf_p11 l D kA u w tx σ [x0, x1, 4, x0] (σf, rf, _) := ih tC_For_clausesOf_p11 _ _ _ h
    exact hm _ _ _ _ rfl p e s m args below meth c F Lo σ0 hF hLo C
  · have h := it_f hc h
    refine ax_iconst (pc := 6) C 5 d_For_clausesOf_6 (by decide +kernel) ?_
    refine ax_goto (pc := 7) C 11 d_For_clausesOf_7 (by decide) ?_
    refine ax_ls ([(0, .ref (u 14)), (1, .int x0), (2, .int x1)]) [0, 1, 2] rfl ?_
    have hm : sC_For_clausesOf_p11 l D kA u w tx σ [x0, x1, 5, x0] (σf, rf, _) := ih tC_For_clausesOf_p11 _ _ _ h
    exact hm _ _ _ _ rfl p e s m args below meth c F Lo σ0 hF hLo C
set_option maxHeartbeats 4000000 in
set_option maxRecDepth 100000 in
theorem oC_For_clausesOf_p11 (l : Launch) (D : va_G) (kA : Nat → ClassId) (u w : Nat → Nat) (tx : Value) (rec : mF) (ih : ∀ t σ xs res, rec t σ xs = some res → cSem l D kA u w tx t σ xs res) (σ : mS) (xs : List Int32) (res : mR) (h : u_4 (kC_For_clausesOf_p11 rec σ) xs = some res) : sC_For_clausesOf_p11 l D kA u w tx σ xs res := by
  intro x0 x1 x2 x3 hxs
  subst hxs
  obtain ⟨σf, rf, dd⟩ := res
  have h : (bnd (rec tC_For_get σ [x3, x2]) (fun σ1 r1 => some (σ1, r1, 0))) = some (σf, rf, dd) := h
  intro p e s m args below meth c F Lo σ0 hF hLo C
  dsimp only at hF hLo ⊢
  obtain ⟨σ1, r1, d1_1, d2_1, h1, h, hd2, hd1⟩ := it_b h
  have hm : sC_For_get l D kA u w tx σ [x3, x2] (σ1, r1, d1_1) := ih tC_For_get _ _ _ h1
  refine cc_Vi (pc := 11) C (r0 := r1) (σ2 := σ1) (As := [.int x3, .int x2]) (rest := []) (hm _ _ rfl) ml_For_104 14 rfl rfl rfl d_For_clausesOf_11 rfl rfl (by dsimp only; omega) (by dsimp only; omega) (Nat.le_of_ble_eq_true rfl) (Nat.le_of_ble_eq_true rfl) (Nat.le_of_ble_eq_true rfl) ?_
  have hF : d2_1 + 1 ≤ F := by omega
  have hLo : 48 * d2_1 + 48 ≤ Lo := by omega
  cases h
  exact ax_iret (pc := 14) C d_For_clausesOf_14 ⟨rfl, rfl⟩ (Nat.le_refl _) (Nat.le_refl _)
set_option maxHeartbeats 4000000 in
set_option maxRecDepth 100000 in
theorem oC_For_clear (l : Launch) (D : va_G) (kA : Nat → ClassId) (u w : Nat → Nat) (tx : Value) (rec : mF) (ih : ∀ t σ xs res, rec t σ xs = some res → cSem l D kA u w tx t σ xs res) (σ : mS) (xs : List Int32) (res : mR) (h : u_0 (kC_For_clear rec σ) xs = some res) : sC_For_clear l D kA u w tx σ xs res := by
  intro hxs
  subst hxs
  obtain ⟨σf, rf, dd⟩ := res
  have h : (lt_ (mI σ 1501 0) (fun σ1 => lt_ (mI σ1 1801 0) (fun σ2 => lt_ (mI σ2 2001 0) (fun σ3 => lt_ (mI σ3 1402 0) (fun σ4 => lt_ (mI σ4 1414 0) (fun σ5 => lt_ (mI σ5 1403 (-1)) (fun σ6 => some (σ6, 0, 0)))))))) = some (σf, rf, dd) := h
  refine ax_Mv.of (by decide +kernel) (Nat.le_of_ble_eq_true rfl) ?_
  intro p e s m args below meth c C hnm
  have C : ax_C p s m args meth c b_For_clear "ClauseProver$Formulas" 1 none D kA (va_A (cpW kA u w tx σ) s.heap.size) := C
  obtain ⟨F, hFe⟩ : ∃ F, F = dd + 1 := ⟨_, rfl⟩
  obtain ⟨Lo, hLoe⟩ : ∃ Lo, Lo = 48 * dd + 48 := ⟨_, rfl⟩
  obtain ⟨σ0, hσ0⟩ : ∃ s0, s0 = σ := ⟨_, rfl⟩
  suffices K : AW p l e { frames := F, cells := 0, slots := 0, locals := Lo } s m args below meth c D kA (va_A (cpW kA u w tx σ0) s.heap.size) 1 (ax_Qv below args s D kA (cpW kA u w tx σ0) 0 0 (fun w1 => w1 = cpW kA u w tx σf)) 0 [(0, .ref (u 14))] [] (cpW kA u w tx σ) 0 0 by rw [hFe, hLoe, hσ0] at K; exact ax_ls ([(0, .ref (u 14))]) [0] rfl K
  have C : ax_C p s m args meth c b_For_clear "ClauseProver$Formulas" 1 none D kA (va_A (cpW kA u w tx σ0) s.heap.size) := by rw [hσ0]; exact C
  have hF : dd + 1 ≤ F := by omega
  have hLo : 48 * dd + 48 ≤ Lo := by omega
  clear hFe hLoe hσ0
  refine ax_aload_n (pc := 0) C d_For_clear_0 rfl 0 rfl ?_
  refine cg_14_0_For_14 (pc := 1) C d_For_clear_1 ?_
  refine ax_iconst (pc := 4) C 0 d_For_clear_4 (by decide +kernel) ?_
  refine cq_15_1_For_59 (pc := 5) C d_For_clear_5 ?_
  have h := it_l h
  generalize mI σ 1501 0 = σ1 at h ⊢
  refine ax_aload_n (pc := 8) C d_For_clear_8 rfl 0 rfl ?_
  refine cg_14_5_For_24 (pc := 9) C d_For_clear_9 ?_
  refine ax_iconst (pc := 12) C 0 d_For_clear_12 (by decide +kernel) ?_
  refine cq_18_1_For_59 (pc := 13) C d_For_clear_13 ?_
  have h := it_l h
  generalize mI σ1 1801 0 = σ2 at h ⊢
  refine ax_aload_n (pc := 16) C d_For_clear_16 rfl 0 rfl ?_
  refine cg_14_6_For_27 (pc := 17) C d_For_clear_17 ?_
  refine ax_iconst (pc := 20) C 0 d_For_clear_20 (by decide +kernel) ?_
  refine cq_20_1_For_59 (pc := 21) C d_For_clear_21 ?_
  have h := it_l h
  generalize mI σ2 2001 0 = σ3 at h ⊢
  refine ax_aload_n (pc := 24) C d_For_clear_24 rfl 0 rfl ?_
  refine ax_iconst (pc := 25) C 0 d_For_clear_25 (by decide +kernel) ?_
  refine cq_14_2_For_63 (pc := 26) C d_For_clear_26 ?_
  have h := it_l h
  generalize mI σ3 1402 0 = σ4 at h ⊢
  refine ax_aload_n (pc := 29) C d_For_clear_29 rfl 0 rfl ?_
  refine ax_iconst (pc := 30) C 0 d_For_clear_30 (by decide +kernel) ?_
  refine cq_14_14_For_66 (pc := 31) C d_For_clear_31 ?_
  have h := it_l h
  generalize mI σ4 1414 0 = σ5 at h ⊢
  refine ax_aload_n (pc := 34) C d_For_clear_34 rfl 0 rfl ?_
  refine ax_iconst (pc := 35) C (-1) d_For_clear_35 (by decide +kernel) ?_
  refine cq_14_3_For_69 (pc := 36) C d_For_clear_36 ?_
  have h := it_l h
  generalize mI σ5 1403 (-1) = σ6 at h ⊢
  cases h
  exact ax_vret (pc := 39) C d_For_clear_39 rfl (Nat.le_refl _) (Nat.le_refl _)
set_option maxHeartbeats 4000000 in
set_option maxRecDepth 100000 in
theorem oC_For_closeSentence (l : Launch) (D : va_G) (kA : Nat → ClassId) (u w : Nat → Nat) (tx : Value) (rec : mF) (ih : ∀ t σ xs res, rec t σ xs = some res → cSem l D kA u w tx t σ xs res) (σ : mS) (xs : List Int32) (res : mR) (h : u_1 (kC_For_closeSentence rec σ) xs = some res) : sC_For_closeSentence l D kA u w tx σ xs res := by
  intro x0 hxs
  subst hxs
  obtain ⟨σf, rf, dd⟩ := res
  have h : (if bin (((((σ.1 2001) : Int32) - 5) : Int32) + 2) (σ.2.2 21) = true then (lt_ (mA σ 21 (Int32.toNatClampNeg (((((σ.1 2001) : Int32) - 5) : Int32) + 2)) x0) (fun σ1 => some (σ1, 0, 0))) else none) = some (σf, rf, dd) := h
  refine ax_Mv.of (by decide +kernel) (Nat.le_of_ble_eq_true rfl) ?_
  intro p e s m args below meth c C hnm
  have C : ax_C p s m args meth c b_For_closeSentence "ClauseProver$Formulas" 2 none D kA (va_A (cpW kA u w tx σ) s.heap.size) := C
  obtain ⟨F, hFe⟩ : ∃ F, F = dd + 1 := ⟨_, rfl⟩
  obtain ⟨Lo, hLoe⟩ : ∃ Lo, Lo = 48 * dd + 48 := ⟨_, rfl⟩
  obtain ⟨σ0, hσ0⟩ : ∃ s0, s0 = σ := ⟨_, rfl⟩
  suffices K : AW p l e { frames := F, cells := 0, slots := 0, locals := Lo } s m args below meth c D kA (va_A (cpW kA u w tx σ0) s.heap.size) 2 (ax_Qv below args s D kA (cpW kA u w tx σ0) 0 0 (fun w1 => w1 = cpW kA u w tx σf)) 0 [(0, .ref (u 14)), (1, .int x0)] [] (cpW kA u w tx σ) 0 0 by rw [hFe, hLoe, hσ0] at K; exact ax_ls ([(0, .ref (u 14)), (1, .int x0)]) [0, 1] rfl K
  have C : ax_C p s m args meth c b_For_closeSentence "ClauseProver$Formulas" 2 none D kA (va_A (cpW kA u w tx σ0) s.heap.size) := by rw [hσ0]; exact C
  have hF : dd + 1 ≤ F := by omega
  have hLo : 48 * dd + 48 ≤ Lo := by omega
  clear hFe hLoe hσ0
  refine ax_aload_n (pc := 0) C d_For_closeSentence_0 rfl 0 rfl ?_
  refine cg_14_6_For_27 (pc := 1) C d_For_closeSentence_1 ?_
  refine cg_20_0_For_75 (pc := 4) C d_For_closeSentence_4 ?_
  refine ax_aload_n (pc := 7) C d_For_closeSentence_7 rfl 0 rfl ?_
  refine cg_14_6_For_27 (pc := 8) C d_For_closeSentence_8 ?_
  refine cg_20_1_For_59 (pc := 11) C d_For_closeSentence_11 ?_
  refine ax_iconst (pc := 14) C 5 d_For_closeSentence_14 (by decide +kernel) ?_
  refine ax_isub (pc := 15) C d_For_closeSentence_15 ?_
  refine ax_iconst (pc := 16) C 2 d_For_closeSentence_16 (by decide +kernel) ?_
  refine ax_iadd (pc := 17) C d_For_closeSentence_17 ?_
  refine ax_iload_n (pc := 18) C d_For_closeSentence_18 rfl 1 rfl ?_
  obtain ⟨hb, h⟩ := it_g h
  refine cs_21 (pc := 19) C d_For_closeSentence_19 (bin_in hb) ?_
  have h := it_l h
  generalize mA σ 21 (Int32.toNatClampNeg (((((σ.1 2001) : Int32) - 5) : Int32) + 2)) x0 = σ1 at h ⊢
  cases h
  exact ax_vret (pc := 20) C d_For_closeSentence_20 rfl (Nat.le_refl _) (Nat.le_refl _)
set_option maxHeartbeats 4000000 in
set_option maxRecDepth 100000 in
theorem oC_For_get (l : Launch) (D : va_G) (kA : Nat → ClassId) (u w : Nat → Nat) (tx : Value) (rec : mF) (ih : ∀ t σ xs res, rec t σ xs = some res → cSem l D kA u w tx t σ xs res) (σ : mS) (xs : List Int32) (res : mR) (h : u_2 (kC_For_get rec σ) xs = some res) : sC_For_get l D kA u w tx σ xs res := by
  intro x0 x1 hxs
  subst hxs
  obtain ⟨σf, rf, dd⟩ := res
  have h : (if bin ((((x0 : Int32) * 7) : Int32) + x1) (σ.2.2 19) = true then (some (σ, (σ.2.1 19 (Int32.toNatClampNeg ((((x0 : Int32) * 7) : Int32) + x1))), 0)) else none) = some (σf, rf, dd) := h
  refine ax_Mi.of (by decide +kernel) (Nat.le_of_ble_eq_true rfl) ?_
  intro p e s m args below meth c C hnm
  have C : ax_C p s m args meth c b_For_get "ClauseProver$Formulas" 3 (some .int) D kA (va_A (cpW kA u w tx σ) s.heap.size) := C
  obtain ⟨F, hFe⟩ : ∃ F, F = dd + 1 := ⟨_, rfl⟩
  obtain ⟨Lo, hLoe⟩ : ∃ Lo, Lo = 48 * dd + 48 := ⟨_, rfl⟩
  obtain ⟨σ0, hσ0⟩ : ∃ s0, s0 = σ := ⟨_, rfl⟩
  suffices K : AW p l e { frames := F, cells := 0, slots := 0, locals := Lo } s m args below meth c D kA (va_A (cpW kA u w tx σ0) s.heap.size) 3 (ax_Qi below args s D kA (cpW kA u w tx σ0) 0 0 (fun r w1 => r = rf ∧ w1 = cpW kA u w tx σf)) 0 [(0, .ref (u 14)), (1, .int x0), (2, .int x1)] [] (cpW kA u w tx σ) 0 0 by rw [hFe, hLoe, hσ0] at K; exact ax_ls ([(0, .ref (u 14)), (1, .int x0), (2, .int x1)]) [0, 1, 2] rfl K
  have C : ax_C p s m args meth c b_For_get "ClauseProver$Formulas" 3 (some .int) D kA (va_A (cpW kA u w tx σ0) s.heap.size) := by rw [hσ0]; exact C
  have hF : dd + 1 ≤ F := by omega
  have hLo : 48 * dd + 48 ≤ Lo := by omega
  clear hFe hLoe hσ0
  refine ax_aload_n (pc := 0) C d_For_get_0 rfl 0 rfl ?_
  refine cg_14_5_For_24 (pc := 1) C d_For_get_1 ?_
  refine cg_18_0_For_75 (pc := 4) C d_For_get_4 ?_
  refine ax_iload_n (pc := 7) C d_For_get_7 rfl 1 rfl ?_
  refine ax_bipush (pc := 8) C 7 d_For_get_8 (by decide +kernel) ?_
  refine ax_imul (pc := 10) C d_For_get_10 ?_
  refine ax_iload_n (pc := 11) C d_For_get_11 rfl 2 rfl ?_
  refine ax_iadd (pc := 12) C d_For_get_12 ?_
  obtain ⟨hb, h⟩ := it_g h
  refine cl_19 (pc := 13) C d_For_get_13 (bin_in hb) ?_
  cases h
  exact ax_iret (pc := 14) C d_For_get_14 ⟨rfl, rfl⟩ (Nat.le_refl _) (Nat.le_refl _)
set_option maxHeartbeats 4000000 in
set_option maxRecDepth 100000 in
theorem oC_For_isWord (l : Launch) (D : va_G) (kA : Nat → ClassId) (u w : Nat → Nat) (tx : Value) (rec : mF) (ih : ∀ t σ xs res, rec t σ xs = some res → cSem l D kA u w tx t σ xs res) (σ : mS) (xs : List Int32) (res : mR) (h : u_1 (kC_For_isWord rec σ) xs = some res) : sC_For_isWord l D kA u w tx σ xs res := by
  intro x0 hxs htx
  subst hxs
  obtain ⟨σf, rf, dd⟩ := res
  have h : (if bin x0 300 = true then (if (σ.2.1 23 (Int32.toNatClampNeg x0)) = (σ.1 3204) then (rec tC_For_isWord_p17 σ [x0, 0]) else (some (σ, 0, 0))) else none) = some (σf, rf, dd) := h
  refine ax_Mi.of (by decide +kernel) (Nat.le_of_ble_eq_true rfl) ?_
  intro p e s m args below meth c C hnm
  have C : ax_C p s m args meth c b_For_isWord "ClauseProver$Formulas" 4 (some .boolean) D kA (va_A (cpW kA u w tx σ) s.heap.size) := C
  obtain ⟨F, hFe⟩ : ∃ F, F = dd + 1 := ⟨_, rfl⟩
  obtain ⟨Lo, hLoe⟩ : ∃ Lo, Lo = 48 * dd + 48 := ⟨_, rfl⟩
  obtain ⟨σ0, hσ0⟩ : ∃ s0, s0 = σ := ⟨_, rfl⟩
  suffices K : AW p l e { frames := F, cells := 0, slots := 0, locals := Lo } s m args below meth c D kA (va_A (cpW kA u w tx σ0) s.heap.size) 4 (ax_Qi below args s D kA (cpW kA u w tx σ0) 0 0 (fun r w1 => r = rf ∧ w1 = cpW kA u w tx σf)) 0 [(0, .ref (u 14)), (1, .int x0), (2, .ref (u 32))] [] (cpW kA u w tx σ) 0 0 by rw [hFe, hLoe, hσ0] at K; exact ax_ls ([(0, .ref (u 14)), (1, .int x0), (2, .ref (u 32))]) [0, 1, 2] rfl K
  have C : ax_C p s m args meth c b_For_isWord "ClauseProver$Formulas" 4 (some .boolean) D kA (va_A (cpW kA u w tx σ0) s.heap.size) := by rw [hσ0]; exact C
  have hF : dd + 1 ≤ F := by omega
  have hLo : 48 * dd + 48 ≤ Lo := by omega
  clear hFe hLoe hσ0
  refine ax_aload_n (pc := 0) C d_For_isWord_0 rfl 0 rfl ?_
  refine cg_14_8_For_33 (pc := 1) C d_For_isWord_1 ?_
  refine ax_iload_n (pc := 4) C d_For_isWord_4 rfl 1 rfl ?_
  obtain ⟨hb, h⟩ := it_g h
  refine cl_23 (pc := 5) C d_For_isWord_5 (bin_in hb) ?_
  refine ax_aload_n (pc := 6) C d_For_isWord_6 rfl 2 rfl ?_
  refine cg_32_4_For_91 (pc := 7) C d_For_isWord_7 ?_
  refine ax_icmp_eq (pc := 10) C 15 d_For_isWord_10 (by decide) (fun hc => ?_) (fun hc => ?_)
  · have h := it_t hc h
    refine ax_iconst (pc := 15) C 0 d_For_isWord_15 (by decide +kernel) ?_
    refine ax_istore_n (pc := 16) C d_For_isWord_16 rfl (Nat.le_of_ble_eq_true rfl) ([(3, .int 0), (0, .ref (u 14)), (1, .int x0), (2, .ref (u 32))]) rfl ?_
    refine ax_ls ([(0, .ref (u 14)), (1, .int x0), (2, .ref (u 32)), (3, .int 0)]) [1, 2, 3, 0] rfl ?_
    have hm : sC_For_isWord_p17 l D kA u w tx σ [x0, 0] (σf, rf, _) := ih tC_For_isWord_p17 _ _ _ h
    exact hm _ _ rfl htx p e s m args below meth c F Lo σ0 hF hLo C
  · have h := it_f hc h
    refine ax_iconst (pc := 13) C 0 d_For_isWord_13 (by decide +kernel) ?_
    cases h
    exact ax_zret (pc := 14) C d_For_isWord_14 rfl ⟨rfl, rfl⟩ (Nat.le_refl _) (Nat.le_refl _)
set_option maxHeartbeats 4000000 in
set_option maxRecDepth 100000 in
theorem oC_For_isWord_p17 (l : Launch) (D : va_G) (kA : Nat → ClassId) (u w : Nat → Nat) (tx : Value) (rec : mF) (ih : ∀ t σ xs res, rec t σ xs = some res → cSem l D kA u w tx t σ xs res) (σ : mS) (xs : List Int32) (res : mR) (h : u_2 (kC_For_isWord_p17 rec σ) xs = some res) : sC_For_isWord_p17 l D kA u w tx σ xs res := by
  intro x0 x1 hxs htx
  subst hxs
  obtain ⟨σf, rf, dd⟩ := res
  have h : (if (σ.1 3204) ≤ x1 then (some (σ, 1, 0)) else (if bin x0 300 = true then (if bin (((σ.2.1 22 (Int32.toNatClampNeg x0)) : Int32) + x1) (σ.2.2 2) = true then (if bin (((σ.1 3203) : Int32) + x1) (σ.2.2 2) = true then (if (σ.2.1 2 (Int32.toNatClampNeg (((σ.2.1 22 (Int32.toNatClampNeg x0)) : Int32) + x1))) = (σ.2.1 2 (Int32.toNatClampNeg (((σ.1 3203) : Int32) + x1))) then (rec tC_For_isWord_p17 σ [x0, (x1 + 1)]) else (some (σ, 0, 0))) else none) else none) else none)) = some (σf, rf, dd) := h
  intro p e s m args below meth c F Lo σ0 hF hLo C
  dsimp only at hF hLo ⊢
  refine ax_iload_n (pc := 17) C d_For_isWord_17 rfl 3 rfl ?_
  refine ax_aload_n (pc := 18) C d_For_isWord_18 rfl 2 rfl ?_
  refine cg_32_4_For_91 (pc := 19) C d_For_isWord_19 ?_
  refine ax_icmp_ge (pc := 22) C 60 d_For_isWord_22 (by decide) (fun hc => ?_) (fun hc => ?_)
  · have h := it_t hc h
    refine ax_iconst (pc := 60) C 1 d_For_isWord_60 (by decide +kernel) ?_
    cases h
    exact ax_zret (pc := 61) C d_For_isWord_61 rfl ⟨rfl, rfl⟩ (Nat.le_refl _) (Nat.le_refl _)
  · have h := it_f hc h
    refine ax_aload_n (pc := 25) C d_For_isWord_25 rfl 2 rfl ?_
    refine cg_32_0_For_92 (pc := 26) C htx d_For_isWord_26 ?_
    refine ax_aload_n (pc := 29) C d_For_isWord_29 rfl 0 rfl ?_
    refine cg_14_7_For_30 (pc := 30) C d_For_isWord_30 ?_
    refine ax_iload_n (pc := 33) C d_For_isWord_33 rfl 1 rfl ?_
    obtain ⟨hb, h⟩ := it_g h
    refine cl_22 (pc := 34) C d_For_isWord_34 (bin_in hb) ?_
    refine ax_iload_n (pc := 35) C d_For_isWord_35 rfl 3 rfl ?_
    refine ax_iadd (pc := 36) C d_For_isWord_36 ?_
    obtain ⟨hb, h⟩ := it_g h
    refine cl_2 (pc := 37) C d_For_isWord_37 (bin_in hb) ?_
    refine ax_aload_n (pc := 38) C d_For_isWord_38 rfl 2 rfl ?_
    refine cg_32_0_For_92 (pc := 39) C htx d_For_isWord_39 ?_
    refine ax_aload_n (pc := 42) C d_For_isWord_42 rfl 2 rfl ?_
    refine cg_32_3_For_86 (pc := 43) C d_For_isWord_43 ?_
    refine ax_iload_n (pc := 46) C d_For_isWord_46 rfl 3 rfl ?_
    refine ax_iadd (pc := 47) C d_For_isWord_47 ?_
    obtain ⟨hb, h⟩ := it_g h
    refine cl_2 (pc := 48) C d_For_isWord_48 (bin_in hb) ?_
    refine ax_icmp_eq (pc := 49) C 54 d_For_isWord_49 (by decide) (fun hc => ?_) (fun hc => ?_)
    · have h := it_t hc h
      refine ax_iinc (pc := 54) C (x1 + 1) d_For_isWord_54 3 rfl rfl (Nat.le_of_ble_eq_true rfl) ([(3, .int (x1 + 1)), (0, .ref (u 14)), (1, .int x0), (2, .ref (u 32))]) rfl ?_
      refine ax_goto (pc := 57) C 17 d_For_isWord_57 (by decide) ?_
      refine ax_ls ([(0, .ref (u 14)), (1, .int x0), (2, .ref (u 32)), (3, .int (x1 + 1))]) [1, 2, 3, 0] rfl ?_
      have hm : sC_For_isWord_p17 l D kA u w tx σ [x0, (x1 + 1)] (σf, rf, _) := ih tC_For_isWord_p17 _ _ _ h
      exact hm _ _ rfl htx p e s m args below meth c F Lo σ0 hF hLo C
    · have h := it_f hc h
      refine ax_iconst (pc := 52) C 0 d_For_isWord_52 (by decide +kernel) ?_
      cases h
      exact ax_zret (pc := 53) C d_For_isWord_53 rfl ⟨rfl, rfl⟩ (Nat.le_refl _) (Nat.le_refl _)
set_option maxHeartbeats 4000000 in
set_option maxRecDepth 100000 in
theorem oC_For_makeWitnesses (l : Launch) (D : va_G) (kA : Nat → ClassId) (u w : Nat → Nat) (tx : Value) (rec : mF) (ih : ∀ t σ xs res, rec t σ xs = some res → cSem l D kA u w tx t σ xs res) (σ : mS) (xs : List Int32) (res : mR) (h : u_0 (kC_For_makeWitnesses rec σ) xs = some res) : sC_For_makeWitnesses l D kA u w tx σ xs res := by
  intro hxs
  subst hxs
  obtain ⟨σf, rf, dd⟩ := res
  have h : (rec tC_For_makeWitnesses_p2 σ [0]) = some (σf, rf, dd) := h
  refine ax_Mv.of (by decide +kernel) (Nat.le_of_ble_eq_true rfl) ?_
  intro p e s m args below meth c C hnm
  have C : ax_C p s m args meth c b_For_makeWitnesses "ClauseProver$Formulas" 3 none D kA (va_A (cpW kA u w tx σ) s.heap.size) := C
  obtain ⟨F, hFe⟩ : ∃ F, F = dd + 1 := ⟨_, rfl⟩
  obtain ⟨Lo, hLoe⟩ : ∃ Lo, Lo = 48 * dd + 48 := ⟨_, rfl⟩
  obtain ⟨σ0, hσ0⟩ : ∃ s0, s0 = σ := ⟨_, rfl⟩
  suffices K : AW p l e { frames := F, cells := 0, slots := 0, locals := Lo } s m args below meth c D kA (va_A (cpW kA u w tx σ0) s.heap.size) 3 (ax_Qv below args s D kA (cpW kA u w tx σ0) 0 0 (fun w1 => w1 = cpW kA u w tx σf)) 0 [(0, .ref (u 14))] [] (cpW kA u w tx σ) 0 0 by rw [hFe, hLoe, hσ0] at K; exact ax_ls ([(0, .ref (u 14))]) [0] rfl K
  have C : ax_C p s m args meth c b_For_makeWitnesses "ClauseProver$Formulas" 3 none D kA (va_A (cpW kA u w tx σ0) s.heap.size) := by rw [hσ0]; exact C
  have hF : dd + 1 ≤ F := by omega
  have hLo : 48 * dd + 48 ≤ Lo := by omega
  clear hFe hLoe hσ0
  refine ax_iconst (pc := 0) C 0 d_For_makeWitnesses_0 (by decide +kernel) ?_
  refine ax_istore_n (pc := 1) C d_For_makeWitnesses_1 rfl (Nat.le_of_ble_eq_true rfl) ([(1, .int 0), (0, .ref (u 14))]) rfl ?_
  refine ax_ls ([(0, .ref (u 14)), (1, .int 0)]) [1, 0] rfl ?_
  have hm : sC_For_makeWitnesses_p2 l D kA u w tx σ [0] (σf, rf, _) := ih tC_For_makeWitnesses_p2 _ _ _ h
  exact hm _ rfl p e s m args below meth c F Lo σ0 hF hLo C
set_option maxHeartbeats 4000000 in
set_option maxRecDepth 100000 in
theorem oC_For_makeWitnesses_p2 (l : Launch) (D : va_G) (kA : Nat → ClassId) (u w : Nat → Nat) (tx : Value) (rec : mF) (ih : ∀ t σ xs res, rec t σ xs = some res → cSem l D kA u w tx t σ xs res) (σ : mS) (xs : List Int32) (res : mR) (h : u_1 (kC_For_makeWitnesses_p2 rec σ) xs = some res) : sC_For_makeWitnesses_p2 l D kA u w tx σ xs res := by
  intro x0 hxs
  subst hxs
  obtain ⟨σf, rf, dd⟩ := res
  have h : (if (σ.1 2001) ≤ x0 then (if (7 : Int32) = 0 then none else (rec tC_For_makeWitnesses_p83 σ [((((σ.1 1801) / 7) : Int32) - 1)])) else (if bin ((x0 : Int32) + 1) (σ.2.2 21) = true then (if (σ.2.1 21 (Int32.toNatClampNeg ((x0 : Int32) + 1))) = 1 then (rec tC_For_makeWitnesses_p33 σ [x0, 1]) else (rec tC_For_makeWitnesses_p33 σ [x0, 0])) else none)) = some (σf, rf, dd) := h
  intro p e s m args below meth c F Lo σ0 hF hLo C
  dsimp only at hF hLo ⊢
  refine ax_iload_n (pc := 2) C d_For_makeWitnesses_2 rfl 1 rfl ?_
  refine ax_aload_n (pc := 3) C d_For_makeWitnesses_3 rfl 0 rfl ?_
  refine cg_14_6_For_27 (pc := 4) C d_For_makeWitnesses_4 ?_
  refine cg_20_1_For_59 (pc := 7) C d_For_makeWitnesses_7 ?_
  refine ax_icmp_ge (pc := 10) C 70 d_For_makeWitnesses_10 (by decide) (fun hc => ?_) (fun hc => ?_)
  · have h := it_t hc h
    refine ax_aload_n (pc := 70) C d_For_makeWitnesses_70 rfl 0 rfl ?_
    refine cg_14_5_For_24 (pc := 71) C d_For_makeWitnesses_71 ?_
    refine cg_18_1_For_59 (pc := 74) C d_For_makeWitnesses_74 ?_
    refine ax_bipush (pc := 77) C 7 d_For_makeWitnesses_77 (by decide +kernel) ?_
    obtain ⟨hz, h⟩ := it_n h
    refine ax_idiv (pc := 79) C d_For_makeWitnesses_79 hz ?_
    refine ax_iconst (pc := 80) C 1 d_For_makeWitnesses_80 (by decide +kernel) ?_
    refine ax_isub (pc := 81) C d_For_makeWitnesses_81 ?_
    refine ax_istore_n (pc := 82) C d_For_makeWitnesses_82 rfl (Nat.le_of_ble_eq_true rfl) ([(1, .int ((((σ.1 1801) / 7) : Int32) - 1)), (0, .ref (u 14))]) rfl ?_
    refine ax_ls ([(0, .ref (u 14)), (1, .int ((((σ.1 1801) / 7) : Int32) - 1))]) [1, 0] rfl ?_
    have hm : sC_For_makeWitnesses_p83 l D kA u w tx σ [((((σ.1 1801) / 7) : Int32) - 1)] (σf, rf, _) := ih tC_For_makeWitnesses_p83 _ _ _ h
    exact hm _ rfl p e s m args below meth c F Lo σ0 hF hLo C
  · have h := it_f hc h
    refine ax_aload_n (pc := 13) C d_For_makeWitnesses_13 rfl 0 rfl ?_
    refine cg_14_6_For_27 (pc := 14) C d_For_makeWitnesses_14 ?_
    refine cg_20_0_For_75 (pc := 17) C d_For_makeWitnesses_17 ?_
    refine ax_iload_n (pc := 20) C d_For_makeWitnesses_20 rfl 1 rfl ?_
    refine ax_iconst (pc := 21) C 1 d_For_makeWitnesses_21 (by decide +kernel) ?_
    refine ax_iadd (pc := 22) C d_For_makeWitnesses_22 ?_
    obtain ⟨hb, h⟩ := it_g h
    refine cl_21 (pc := 23) C d_For_makeWitnesses_23 (bin_in hb) ?_
    refine ax_iconst (pc := 24) C 1 d_For_makeWitnesses_24 (by decide +kernel) ?_
    refine ax_icmp_ne (pc := 25) C 32 d_For_makeWitnesses_25 (by decide) (fun hc => ?_) (fun hc => ?_)
    · have h := it_f hc h
      refine ax_iconst (pc := 32) C 0 d_For_makeWitnesses_32 (by decide +kernel) ?_
      refine ax_ls ([(0, .ref (u 14)), (1, .int x0)]) [0, 1] rfl ?_
      have hm : sC_For_makeWitnesses_p33 l D kA u w tx σ [x0, 0] (σf, rf, _) := ih tC_For_makeWitnesses_p33 _ _ _ h
      exact hm _ _ rfl p e s m args below meth c F Lo σ0 hF hLo C
    · have h := it_t hc h
      refine ax_iconst (pc := 28) C 1 d_For_makeWitnesses_28 (by decide +kernel) ?_
      refine ax_goto (pc := 29) C 33 d_For_makeWitnesses_29 (by decide) ?_
      refine ax_ls ([(0, .ref (u 14)), (1, .int x0)]) [0, 1] rfl ?_
      have hm : sC_For_makeWitnesses_p33 l D kA u w tx σ [x0, 1] (σf, rf, _) := ih tC_For_makeWitnesses_p33 _ _ _ h
      exact hm _ _ rfl p e s m args below meth c F Lo σ0 hF hLo C
set_option maxHeartbeats 4000000 in
set_option maxRecDepth 100000 in
theorem oC_For_makeWitnesses_p33 (l : Launch) (D : va_G) (kA : Nat → ClassId) (u w : Nat → Nat) (tx : Value) (rec : mF) (ih : ∀ t σ xs res, rec t σ xs = some res → cSem l D kA u w tx t σ xs res) (σ : mS) (xs : List Int32) (res : mR) (h : u_2 (kC_For_makeWitnesses_p33 rec σ) xs = some res) : sC_For_makeWitnesses_p33 l D kA u w tx σ xs res := by
  intro x0 x1 hxs
  subst hxs
  obtain ⟨σf, rf, dd⟩ := res
  have h : (if bin ((x0 : Int32) + 2) (σ.2.2 21) = true then (if x1 = 0 then (rec tC_For_makeWitnesses_p55 σ [x0, x1, 2, (σ.2.1 21 (Int32.toNatClampNeg ((x0 : Int32) + 2)))]) else (rec tC_For_makeWitnesses_p55 σ [x0, x1, 1, (σ.2.1 21 (Int32.toNatClampNeg ((x0 : Int32) + 2)))])) else none) = some (σf, rf, dd) := h
  intro p e s m args below meth c F Lo σ0 hF hLo C
  dsimp only at hF hLo ⊢
  refine ax_istore_n (pc := 33) C d_For_makeWitnesses_33 rfl (Nat.le_of_ble_eq_true rfl) ([(2, .int x1), (0, .ref (u 14)), (1, .int x0)]) rfl ?_
  refine ax_aload_n (pc := 34) C d_For_makeWitnesses_34 rfl 1 rfl ?_
  refine ax_aload_n (pc := 35) C d_For_makeWitnesses_35 rfl 1 rfl ?_
  refine cg_14_6_For_27 (pc := 36) C d_For_makeWitnesses_36 ?_
  refine cg_20_0_For_75 (pc := 39) C d_For_makeWitnesses_39 ?_
  refine ax_iload_n (pc := 42) C d_For_makeWitnesses_42 rfl 2 rfl ?_
  refine ax_iconst (pc := 43) C 2 d_For_makeWitnesses_43 (by decide +kernel) ?_
  refine ax_iadd (pc := 44) C d_For_makeWitnesses_44 ?_
  obtain ⟨hb, h⟩ := it_g h
  refine cl_21 (pc := 45) C d_For_makeWitnesses_45 (bin_in hb) ?_
  refine ax_iload_n (pc := 46) C d_For_makeWitnesses_46 rfl 0 rfl ?_
  refine ax_if_eq (pc := 47) C 54 d_For_makeWitnesses_47 (by decide) (fun hc => ?_) (fun hc => ?_)
  · have h := it_t hc h
    refine ax_iconst (pc := 54) C 2 d_For_makeWitnesses_54 (by decide +kernel) ?_
    refine ax_ls ([(0, .ref (u 14)), (1, .int x0), (2, .int x1)]) [1, 2, 0] rfl ?_
    have hm : sC_For_makeWitnesses_p55 l D kA u w tx σ [x0, x1, 2, (σ.2.1 21 (Int32.toNatClampNeg ((x0 : Int32) + 2)))] (σf, rf, _) := ih tC_For_makeWitnesses_p55 _ _ _ h
    exact hm _ _ _ _ rfl p e s m args below meth c F Lo σ0 hF hLo C
  · have h := it_f hc h
    refine ax_iconst (pc := 50) C 1 d_For_makeWitnesses_50 (by decide +kernel) ?_
    refine ax_goto (pc := 51) C 55 d_For_makeWitnesses_51 (by decide) ?_
    refine ax_ls ([(0, .ref (u 14)), (1, .int x0), (2, .int x1)]) [1, 2, 0] rfl ?_
    have hm : sC_For_makeWitnesses_p55 l D kA u w tx σ [x0, x1, 1, (σ.2.1 21 (Int32.toNatClampNeg ((x0 : Int32) + 2)))] (σf, rf, _) := ih tC_For_makeWitnesses_p55 _ _ _ h
    exact hm _ _ _ _ rfl p e s m args below meth c F Lo σ0 hF hLo C
set_option maxHeartbeats 4000000 in
set_option maxRecDepth 100000 in
theorem oC_For_makeWitnesses_p55 (l : Launch) (D : va_G) (kA : Nat → ClassId) (u w : Nat → Nat) (tx : Value) (rec : mF) (ih : ∀ t σ xs res, rec t σ xs = some res → cSem l D kA u w tx t σ xs res) (σ : mS) (xs : List Int32) (res : mR) (h : u_4 (kC_For_makeWitnesses_p55 rec σ) xs = some res) : sC_For_makeWitnesses_p55 l D kA u w tx σ xs res := by
  intro x0 x1 x2 x3 hxs
  subst hxs
  obtain ⟨σf, rf, dd⟩ := res
  have h : (bnd (rec tC_For_reach σ [x3, x2]) (fun σ1 r1 => bnd (rec tC_For_replaceFree σ1 [x0, x1]) (fun σ2 r2 => rec tC_For_makeWitnesses_p2 σ2 [(x0 + 5)]))) = some (σf, rf, dd) := h
  intro p e s m args below meth c F Lo σ0 hF hLo C
  dsimp only at hF hLo ⊢
  obtain ⟨σ1, r1, d1_1, d2_1, h1, h, hd2, hd1⟩ := it_b h
  have hm : sC_For_reach l D kA u w tx σ [x3, x2] (σ1, r1, d1_1) := ih tC_For_reach _ _ _ h1
  refine cc_Vv (pc := 55) C (σ2 := σ1) (As := [.int x3, .int x2]) (rest := []) (hm _ _ rfl) ml_For_107 14 rfl rfl rfl d_For_makeWitnesses_55 rfl rfl (by dsimp only; omega) (by dsimp only; omega) (Nat.le_of_ble_eq_true rfl) (Nat.le_of_ble_eq_true rfl) (Nat.le_of_ble_eq_true rfl) ?_
  have hF : d2_1 + 1 ≤ F := by omega
  have hLo : 48 * d2_1 + 48 ≤ Lo := by omega
  refine ax_aload_n (pc := 58) C d_For_makeWitnesses_58 rfl 0 rfl ?_
  refine ax_iload_n (pc := 59) C d_For_makeWitnesses_59 rfl 1 rfl ?_
  refine ax_iload_n (pc := 60) C d_For_makeWitnesses_60 rfl 2 rfl ?_
  obtain ⟨σ2, r2, d1_2, d2_2, h1, h, hd2, hd1⟩ := it_b h
  have hm : sC_For_replaceFree l D kA u w tx σ1 [x0, x1] (σ2, r2, d1_2) := ih tC_For_replaceFree _ _ _ h1
  refine cc_Vv (pc := 61) C (σ2 := σ2) (As := [.int x0, .int x1]) (rest := []) (hm _ _ rfl) ml_For_111 14 rfl rfl rfl d_For_makeWitnesses_61 rfl rfl (by dsimp only; omega) (by dsimp only; omega) (Nat.le_of_ble_eq_true rfl) (Nat.le_of_ble_eq_true rfl) (Nat.le_of_ble_eq_true rfl) ?_
  have hF : d2_2 + 1 ≤ F := by omega
  have hLo : 48 * d2_2 + 48 ≤ Lo := by omega
  refine ax_iinc (pc := 64) C (x0 + 5) d_For_makeWitnesses_64 1 rfl rfl (Nat.le_of_ble_eq_true rfl) ([(1, .int (x0 + 5)), (0, .ref (u 14)), (2, .int x1)]) rfl ?_
  refine ax_goto (pc := 67) C 2 d_For_makeWitnesses_67 (by decide) ?_
  refine ax_ls ([(0, .ref (u 14)), (1, .int (x0 + 5))]) [1, 0] rfl ?_
  have hm : sC_For_makeWitnesses_p2 l D kA u w tx σ2 [(x0 + 5)] (σf, rf, _) := ih tC_For_makeWitnesses_p2 _ _ _ h
  exact hm _ rfl p e s m args below meth c F Lo σ0 hF hLo C
set_option maxHeartbeats 4000000 in
set_option maxRecDepth 100000 in
theorem oC_For_makeWitnesses_p83 (l : Launch) (D : va_G) (kA : Nat → ClassId) (u w : Nat → Nat) (tx : Value) (rec : mF) (ih : ∀ t σ xs res, rec t σ xs = some res → cSem l D kA u w tx t σ xs res) (σ : mS) (xs : List Int32) (res : mR) (h : u_1 (kC_For_makeWitnesses_p83 rec σ) xs = some res) : sC_For_makeWitnesses_p83 l D kA u w tx σ xs res := by
  intro x0 hxs
  subst hxs
  obtain ⟨σf, rf, dd⟩ := res
  have h : (if x0 < 0 then (rec tC_For_makeWitnesses_p107 σ [0]) else (bnd (rec tC_For_get σ [x0, 6]) (fun σ1 r1 => bnd (rec tC_For_reachParts σ1 [x0, r1]) (fun σ2 r2 => rec tC_For_makeWitnesses_p83 σ2 [(x0 + (-1))])))) = some (σf, rf, dd) := h
  intro p e s m args below meth c F Lo σ0 hF hLo C
  dsimp only at hF hLo ⊢
  refine ax_iload_n (pc := 83) C d_For_makeWitnesses_83 rfl 1 rfl ?_
  refine ax_if_lt (pc := 84) C 105 d_For_makeWitnesses_84 (by decide) (fun hc => ?_) (fun hc => ?_)
  · have h := it_t hc h
    refine ax_iconst (pc := 105) C 0 d_For_makeWitnesses_105 (by decide +kernel) ?_
    refine ax_istore_n (pc := 106) C d_For_makeWitnesses_106 rfl (Nat.le_of_ble_eq_true rfl) ([(1, .int 0), (0, .ref (u 14))]) rfl ?_
    refine ax_ls ([(0, .ref (u 14)), (1, .int 0)]) [1, 0] rfl ?_
    have hm : sC_For_makeWitnesses_p107 l D kA u w tx σ [0] (σf, rf, _) := ih tC_For_makeWitnesses_p107 _ _ _ h
    exact hm _ rfl p e s m args below meth c F Lo σ0 hF hLo C
  · have h := it_f hc h
    refine ax_aload_n (pc := 87) C d_For_makeWitnesses_87 rfl 0 rfl ?_
    refine ax_iload_n (pc := 88) C d_For_makeWitnesses_88 rfl 1 rfl ?_
    refine ax_aload_n (pc := 89) C d_For_makeWitnesses_89 rfl 0 rfl ?_
    refine ax_iload_n (pc := 90) C d_For_makeWitnesses_90 rfl 1 rfl ?_
    refine ax_bipush (pc := 91) C 6 d_For_makeWitnesses_91 (by decide +kernel) ?_
    obtain ⟨σ1, r1, d1_1, d2_1, h1, h, hd2, hd1⟩ := it_b h
    have hm : sC_For_get l D kA u w tx σ [x0, 6] (σ1, r1, d1_1) := ih tC_For_get _ _ _ h1
    refine cc_Vi (pc := 93) C (r0 := r1) (σ2 := σ1) (As := [.int x0, .int 6]) (rest := [.int x0, .ref (u 14)]) (hm _ _ rfl) ml_For_104 14 rfl rfl rfl d_For_makeWitnesses_93 rfl rfl (by dsimp only; omega) (by dsimp only; omega) (Nat.le_of_ble_eq_true rfl) (Nat.le_of_ble_eq_true rfl) (Nat.le_of_ble_eq_true rfl) ?_
    have hF : d2_1 + 1 ≤ F := by omega
    have hLo : 48 * d2_1 + 48 ≤ Lo := by omega
    obtain ⟨σ2, r2, d1_2, d2_2, h1, h, hd2, hd1⟩ := it_b h
    have hm : sC_For_reachParts l D kA u w tx σ1 [x0, r1] (σ2, r2, d1_2) := ih tC_For_reachParts _ _ _ h1
    refine cc_Vv (pc := 96) C (σ2 := σ2) (As := [.int x0, .int r1]) (rest := []) (hm _ _ rfl) ml_For_115 14 rfl rfl rfl d_For_makeWitnesses_96 rfl rfl (by dsimp only; omega) (by dsimp only; omega) (Nat.le_of_ble_eq_true rfl) (Nat.le_of_ble_eq_true rfl) (Nat.le_of_ble_eq_true rfl) ?_
    have hF : d2_2 + 1 ≤ F := by omega
    have hLo : 48 * d2_2 + 48 ≤ Lo := by omega
    refine ax_iinc (pc := 99) C (x0 + (-1)) d_For_makeWitnesses_99 1 rfl rfl (Nat.le_of_ble_eq_true rfl) ([(1, .int (x0 + (-1))), (0, .ref (u 14))]) rfl ?_
    refine ax_goto (pc := 102) C 83 d_For_makeWitnesses_102 (by decide) ?_
    refine ax_ls ([(0, .ref (u 14)), (1, .int (x0 + (-1)))]) [1, 0] rfl ?_
    have hm : sC_For_makeWitnesses_p83 l D kA u w tx σ2 [(x0 + (-1))] (σf, rf, _) := ih tC_For_makeWitnesses_p83 _ _ _ h
    exact hm _ rfl p e s m args below meth c F Lo σ0 hF hLo C
set_option maxHeartbeats 4000000 in
set_option maxRecDepth 100000 in
theorem oC_For_makeWitnesses_p107 (l : Launch) (D : va_G) (kA : Nat → ClassId) (u w : Nat → Nat) (tx : Value) (rec : mF) (ih : ∀ t σ xs res, rec t σ xs = some res → cSem l D kA u w tx t σ xs res) (σ : mS) (xs : List Int32) (res : mR) (h : u_1 (kC_For_makeWitnesses_p107 rec σ) xs = some res) : sC_For_makeWitnesses_p107 l D kA u w tx σ xs res := by
  intro x0 hxs
  subst hxs
  obtain ⟨σf, rf, dd⟩ := res
  have h : (if (σ.1 1402) ≤ x0 then (some (σ, 0, 0)) else (if bin x0 300 = true then (if (σ.2.1 27 (Int32.toNatClampNeg x0)) = 0 then (rec tC_For_makeWitnesses_p145 σ [x0, (-1), x0]) else (bnd (rec tC_For_around σ [x0]) (fun σ1 r1 => bnd (rec tC_Sym_addWitness σ1 [r1]) (fun σ2 r2 => rec tC_For_makeWitnesses_p145 σ2 [x0, r2, x0])))) else none)) = some (σf, rf, dd) := h
  intro p e s m args below meth c F Lo σ0 hF hLo C
  dsimp only at hF hLo ⊢
  refine ax_iload_n (pc := 107) C d_For_makeWitnesses_107 rfl 1 rfl ?_
  refine ax_aload_n (pc := 108) C d_For_makeWitnesses_108 rfl 0 rfl ?_
  refine cg_14_2_For_63 (pc := 109) C d_For_makeWitnesses_109 ?_
  refine ax_icmp_ge (pc := 112) C 152 d_For_makeWitnesses_112 (by decide) (fun hc => ?_) (fun hc => ?_)
  · have h := it_t hc h
    cases h
    exact ax_vret (pc := 152) C d_For_makeWitnesses_152 rfl (Nat.le_refl _) (Nat.le_refl _)
  · have h := it_f hc h
    refine ax_aload_n (pc := 115) C d_For_makeWitnesses_115 rfl 0 rfl ?_
    refine cg_14_11_For_42 (pc := 116) C d_For_makeWitnesses_116 ?_
    refine ax_iload_n (pc := 119) C d_For_makeWitnesses_119 rfl 1 rfl ?_
    refine ax_aload_n (pc := 120) C d_For_makeWitnesses_120 rfl 0 rfl ?_
    refine cg_14_12_For_45 (pc := 121) C d_For_makeWitnesses_121 ?_
    refine ax_iload_n (pc := 124) C d_For_makeWitnesses_124 rfl 1 rfl ?_
    obtain ⟨hb, h⟩ := it_g h
    refine cl_27 (pc := 125) C d_For_makeWitnesses_125 (bin_in hb) ?_
    refine ax_if_eq (pc := 126) C 144 d_For_makeWitnesses_126 (by decide) (fun hc => ?_) (fun hc => ?_)
    · have h := it_t hc h
      refine ax_iconst (pc := 144) C (-1) d_For_makeWitnesses_144 (by decide +kernel) ?_
      refine ax_ls ([(0, .ref (u 14)), (1, .int x0)]) [0, 1] rfl ?_
      have hm : sC_For_makeWitnesses_p145 l D kA u w tx σ [x0, (-1), x0] (σf, rf, _) := ih tC_For_makeWitnesses_p145 _ _ _ h
      exact hm _ _ _ rfl p e s m args below meth c F Lo σ0 hF hLo C
    · have h := it_f hc h
      refine ax_aload_n (pc := 129) C d_For_makeWitnesses_129 rfl 0 rfl ?_
      refine cg_14_4_For_55 (pc := 130) C d_For_makeWitnesses_130 ?_
      refine ax_aload_n (pc := 133) C d_For_makeWitnesses_133 rfl 0 rfl ?_
      refine ax_iload_n (pc := 134) C d_For_makeWitnesses_134 rfl 1 rfl ?_
      obtain ⟨σ1, r1, d1_1, d2_1, h1, h, hd2, hd1⟩ := it_b h
      have hm : sC_For_around l D kA u w tx σ [x0] (σ1, r1, d1_1) := ih tC_For_around _ _ _ h1
      refine cc_Vi (pc := 135) C (r0 := r1) (σ2 := σ1) (As := [.int x0]) (rest := [.ref (u 6), .int x0, .ref (u 26)]) (hm _ rfl) ml_For_118 14 rfl rfl rfl d_For_makeWitnesses_135 rfl rfl (by dsimp only; omega) (by dsimp only; omega) (Nat.le_of_ble_eq_true rfl) (Nat.le_of_ble_eq_true rfl) (Nat.le_of_ble_eq_true rfl) ?_
      have hF : d2_1 + 1 ≤ F := by omega
      have hLo : 48 * d2_1 + 48 ≤ Lo := by omega
      obtain ⟨σ2, r2, d1_2, d2_2, h1, h, hd2, hd1⟩ := it_b h
      have hm : sC_Sym_addWitness l D kA u w tx σ1 [r1] (σ2, r2, d1_2) := ih tC_Sym_addWitness _ _ _ h1
      refine cc_Vi (pc := 138) C (r0 := r2) (σ2 := σ2) (As := [.int r1]) (rest := [.int x0, .ref (u 26)]) (hm _ rfl) ml_For_122 6 rfl rfl rfl d_For_makeWitnesses_138 rfl rfl (by dsimp only; omega) (by dsimp only; omega) (Nat.le_of_ble_eq_true rfl) (Nat.le_of_ble_eq_true rfl) (Nat.le_of_ble_eq_true rfl) ?_
      have hF : d2_2 + 1 ≤ F := by omega
      have hLo : 48 * d2_2 + 48 ≤ Lo := by omega
      refine ax_goto (pc := 141) C 145 d_For_makeWitnesses_141 (by decide) ?_
      refine ax_ls ([(0, .ref (u 14)), (1, .int x0)]) [0, 1] rfl ?_
      have hm : sC_For_makeWitnesses_p145 l D kA u w tx σ2 [x0, r2, x0] (σf, rf, _) := ih tC_For_makeWitnesses_p145 _ _ _ h
      exact hm _ _ _ rfl p e s m args below meth c F Lo σ0 hF hLo C
set_option maxHeartbeats 4000000 in
set_option maxRecDepth 100000 in
theorem oC_For_makeWitnesses_p145 (l : Launch) (D : va_G) (kA : Nat → ClassId) (u w : Nat → Nat) (tx : Value) (rec : mF) (ih : ∀ t σ xs res, rec t σ xs = some res → cSem l D kA u w tx t σ xs res) (σ : mS) (xs : List Int32) (res : mR) (h : u_3 (kC_For_makeWitnesses_p145 rec σ) xs = some res) : sC_For_makeWitnesses_p145 l D kA u w tx σ xs res := by
  intro x0 x1 x2 hxs
  subst hxs
  obtain ⟨σf, rf, dd⟩ := res
  have h : (if bin x2 300 = true then (lt_ (mA σ 26 (Int32.toNatClampNeg x2) x1) (fun σ1 => rec tC_For_makeWitnesses_p107 σ1 [(x0 + 1)])) else none) = some (σf, rf, dd) := h
  intro p e s m args below meth c F Lo σ0 hF hLo C
  dsimp only at hF hLo ⊢
  obtain ⟨hb, h⟩ := it_g h
  refine cs_26 (pc := 145) C d_For_makeWitnesses_145 (bin_in hb) ?_
  have h := it_l h
  generalize mA σ 26 (Int32.toNatClampNeg x2) x1 = σ1 at h ⊢
  refine ax_iinc (pc := 146) C (x0 + 1) d_For_makeWitnesses_146 1 rfl rfl (Nat.le_of_ble_eq_true rfl) ([(1, .int (x0 + 1)), (0, .ref (u 14))]) rfl ?_
  refine ax_goto (pc := 149) C 107 d_For_makeWitnesses_149 (by decide) ?_
  refine ax_ls ([(0, .ref (u 14)), (1, .int (x0 + 1))]) [1, 0] rfl ?_
  have hm : sC_For_makeWitnesses_p107 l D kA u w tx σ1 [(x0 + 1)] (σf, rf, _) := ih tC_For_makeWitnesses_p107 _ _ _ h
  exact hm _ rfl p e s m args below meth c F Lo σ0 hF hLo C
set_option maxHeartbeats 4000000 in
set_option maxRecDepth 100000 in
theorem oC_For_reach (l : Launch) (D : va_G) (kA : Nat → ClassId) (u w : Nat → Nat) (tx : Value) (rec : mF) (ih : ∀ t σ xs res, rec t σ xs = some res → cSem l D kA u w tx t σ xs res) (σ : mS) (xs : List Int32) (res : mR) (h : u_2 (kC_For_reach rec σ) xs = some res) : sC_For_reach l D kA u w tx σ xs res := by
  intro x0 x1 hxs
  subst hxs
  obtain ⟨σf, rf, dd⟩ := res
  have h : (if bin ((((x0 : Int32) * 7) : Int32) + 6) (σ.2.2 19) = true then (if bin ((((x0 : Int32) * 7) : Int32) + 6) (σ.2.2 19) = true then (lt_ (mA σ 19 (Int32.toNatClampNeg ((((x0 : Int32) * 7) : Int32) + 6)) (((σ.2.1 19 (Int32.toNatClampNeg ((((x0 : Int32) * 7) : Int32) + 6))) : Int32) ||| x1)) (fun σ1 => some (σ1, 0, 0))) else none) else none) = some (σf, rf, dd) := h
  refine ax_Mv.of (by decide +kernel) (Nat.le_of_ble_eq_true rfl) ?_
  intro p e s m args below meth c C hnm
  have C : ax_C p s m args meth c b_For_reach "ClauseProver$Formulas" 3 none D kA (va_A (cpW kA u w tx σ) s.heap.size) := C
  obtain ⟨F, hFe⟩ : ∃ F, F = dd + 1 := ⟨_, rfl⟩
  obtain ⟨Lo, hLoe⟩ : ∃ Lo, Lo = 48 * dd + 48 := ⟨_, rfl⟩
  obtain ⟨σ0, hσ0⟩ : ∃ s0, s0 = σ := ⟨_, rfl⟩
  suffices K : AW p l e { frames := F, cells := 0, slots := 0, locals := Lo } s m args below meth c D kA (va_A (cpW kA u w tx σ0) s.heap.size) 3 (ax_Qv below args s D kA (cpW kA u w tx σ0) 0 0 (fun w1 => w1 = cpW kA u w tx σf)) 0 [(0, .ref (u 14)), (1, .int x0), (2, .int x1)] [] (cpW kA u w tx σ) 0 0 by rw [hFe, hLoe, hσ0] at K; exact ax_ls ([(0, .ref (u 14)), (1, .int x0), (2, .int x1)]) [0, 1, 2] rfl K
  have C : ax_C p s m args meth c b_For_reach "ClauseProver$Formulas" 3 none D kA (va_A (cpW kA u w tx σ0) s.heap.size) := by rw [hσ0]; exact C
  have hF : dd + 1 ≤ F := by omega
  have hLo : 48 * dd + 48 ≤ Lo := by omega
  clear hFe hLoe hσ0
  refine ax_aload_n (pc := 0) C d_For_reach_0 rfl 0 rfl ?_
  refine cg_14_5_For_24 (pc := 1) C d_For_reach_1 ?_
  refine cg_18_0_For_75 (pc := 4) C d_For_reach_4 ?_
  refine ax_iload_n (pc := 7) C d_For_reach_7 rfl 1 rfl ?_
  refine ax_bipush (pc := 8) C 7 d_For_reach_8 (by decide +kernel) ?_
  refine ax_imul (pc := 10) C d_For_reach_10 ?_
  refine ax_bipush (pc := 11) C 6 d_For_reach_11 (by decide +kernel) ?_
  refine ax_iadd (pc := 13) C d_For_reach_13 ?_
  refine ax_dup2 (pc := 14) C d_For_reach_14 rfl rfl ?_
  obtain ⟨hb, h⟩ := it_g h
  refine cl_19 (pc := 15) C d_For_reach_15 (bin_in hb) ?_
  refine ax_iload_n (pc := 16) C d_For_reach_16 rfl 2 rfl ?_
  refine ax_ior (pc := 17) C d_For_reach_17 ?_
  obtain ⟨hb, h⟩ := it_g h
  refine cs_19 (pc := 18) C d_For_reach_18 (bin_in hb) ?_
  have h := it_l h
  generalize mA σ 19 (Int32.toNatClampNeg ((((x0 : Int32) * 7) : Int32) + 6)) (((σ.2.1 19 (Int32.toNatClampNeg ((((x0 : Int32) * 7) : Int32) + 6))) : Int32) ||| x1) = σ1 at h ⊢
  cases h
  exact ax_vret (pc := 19) C d_For_reach_19 rfl (Nat.le_refl _) (Nat.le_refl _)
set_option maxHeartbeats 4000000 in
set_option maxRecDepth 100000 in
theorem oC_For_reachParts (l : Launch) (D : va_G) (kA : Nat → ClassId) (u w : Nat → Nat) (tx : Value) (rec : mF) (ih : ∀ t σ xs res, rec t σ xs = some res → cSem l D kA u w tx t σ xs res) (σ : mS) (xs : List Int32) (res : mR) (h : u_2 (kC_For_reachParts rec σ) xs = some res) : sC_For_reachParts l D kA u w tx σ xs res := by
  intro x0 x1 hxs
  subst hxs
  obtain ⟨σf, rf, dd⟩ := res
  have h : (bnd (rec tC_For_get σ [x0, 1]) (fun σ1 r1 => bnd (rec tC_For_get σ1 [x0, 2]) (fun σ2 r2 => bnd (rec tC_For_get σ2 [x0, 0]) (fun σ3 r3 => if (r3 : Int32).toInt < 11 ∨ 17 < (r3 : Int32).toInt then (rec tC_For_reachParts_p180 σ3 [x0, x1, ((((x1 : Int32) >>> (1 &&& 31)) : Int32) ||| ((((x1 : Int32) &&& 1) : Int32) <<< (1 &&& 31))), r1, r2]) else (if (r3 : Int32) = 11 then (bnd (rec tC_For_reach σ3 [r1, ((((x1 : Int32) >>> (1 &&& 31)) : Int32) ||| ((((x1 : Int32) &&& 1) : Int32) <<< (1 &&& 31)))]) (fun σ4 r4 => rec tC_For_reachParts_p180 σ4 [x0, x1, ((((x1 : Int32) >>> (1 &&& 31)) : Int32) ||| ((((x1 : Int32) &&& 1) : Int32) <<< (1 &&& 31))), r1, r2])) else (if (r3 : Int32) = 12 then (bnd (rec tC_For_reach σ3 [r1, x1]) (fun σ5 r5 => bnd (rec tC_For_get σ5 [x0, 0]) (fun σ6 r6 => if r6 = 13 then (rec tC_For_reachParts_p116 σ6 [x0, x1, ((((x1 : Int32) >>> (1 &&& 31)) : Int32) ||| ((((x1 : Int32) &&& 1) : Int32) <<< (1 &&& 31))), r1, r2, 2, x1, r2]) else (rec tC_For_reachParts_p116 σ6 [x0, x1, ((((x1 : Int32) >>> (1 &&& 31)) : Int32) ||| ((((x1 : Int32) &&& 1) : Int32) <<< (1 &&& 31))), r1, r2, 1, x1, r2])))) else (if (r3 : Int32) = 13 then (bnd (rec tC_For_reach σ3 [r1, x1]) (fun σ7 r7 => bnd (rec tC_For_get σ7 [x0, 0]) (fun σ8 r8 => if r8 = 13 then (rec tC_For_reachParts_p116 σ8 [x0, x1, ((((x1 : Int32) >>> (1 &&& 31)) : Int32) ||| ((((x1 : Int32) &&& 1) : Int32) <<< (1 &&& 31))), r1, r2, 2, x1, r2]) else (rec tC_For_reachParts_p116 σ8 [x0, x1, ((((x1 : Int32) >>> (1 &&& 31)) : Int32) ||| ((((x1 : Int32) &&& 1) : Int32) <<< (1 &&& 31))), r1, r2, 1, x1, r2])))) else (if (r3 : Int32) = 14 then (bnd (rec tC_For_reach σ3 [r1, x1]) (fun σ9 r9 => bnd (rec tC_For_reach σ9 [r2, x1]) (fun σ10 r10 => rec tC_For_reachParts_p180 σ10 [x0, x1, ((((x1 : Int32) >>> (1 &&& 31)) : Int32) ||| ((((x1 : Int32) &&& 1) : Int32) <<< (1 &&& 31))), r1, r2]))) else (if (r3 : Int32) = 15 then (bnd (rec tC_For_reach σ3 [r1, x1]) (fun σ11 r11 => bnd (rec tC_For_reach σ11 [r2, x1]) (fun σ12 r12 => rec tC_For_reachParts_p180 σ12 [x0, x1, ((((x1 : Int32) >>> (1 &&& 31)) : Int32) ||| ((((x1 : Int32) &&& 1) : Int32) <<< (1 &&& 31))), r1, r2]))) else (if (r3 : Int32) = 16 then (bnd (rec tC_For_reach σ3 [r1, ((((x1 : Int32) >>> (1 &&& 31)) : Int32) ||| ((((x1 : Int32) &&& 1) : Int32) <<< (1 &&& 31)))]) (fun σ13 r13 => bnd (rec tC_For_reach σ13 [r2, x1]) (fun σ14 r14 => rec tC_For_reachParts_p180 σ14 [x0, x1, ((((x1 : Int32) >>> (1 &&& 31)) : Int32) ||| ((((x1 : Int32) &&& 1) : Int32) <<< (1 &&& 31))), r1, r2]))) else (bnd (rec tC_For_reach σ3 [r1, 3]) (fun σ15 r15 => bnd (rec tC_For_reach σ15 [r2, 3]) (fun σ16 r16 => rec tC_For_reachParts_p180 σ16 [x0, x1, ((((x1 : Int32) >>> (1 &&& 31)) : Int32) ||| ((((x1 : Int32) &&& 1) : Int32) <<< (1 &&& 31))), r1, r2]))))))))))))) = some (σf, rf, dd) := h
  refine ax_Mv.of (by decide +kernel) (Nat.le_of_ble_eq_true rfl) ?_
  intro p e s m args below meth c C hnm
  have C : ax_C p s m args meth c b_For_reachParts "ClauseProver$Formulas" 6 none D kA (va_A (cpW kA u w tx σ) s.heap.size) := C
  obtain ⟨F, hFe⟩ : ∃ F, F = dd + 1 := ⟨_, rfl⟩
  obtain ⟨Lo, hLoe⟩ : ∃ Lo, Lo = 48 * dd + 48 := ⟨_, rfl⟩
  obtain ⟨σ0, hσ0⟩ : ∃ s0, s0 = σ := ⟨_, rfl⟩
  suffices K : AW p l e { frames := F, cells := 0, slots := 0, locals := Lo } s m args below meth c D kA (va_A (cpW kA u w tx σ0) s.heap.size) 6 (ax_Qv below args s D kA (cpW kA u w tx σ0) 0 0 (fun w1 => w1 = cpW kA u w tx σf)) 0 [(0, .ref (u 14)), (1, .int x0), (2, .int x1)] [] (cpW kA u w tx σ) 0 0 by rw [hFe, hLoe, hσ0] at K; exact ax_ls ([(0, .ref (u 14)), (1, .int x0), (2, .int x1)]) [0, 1, 2] rfl K
  have C : ax_C p s m args meth c b_For_reachParts "ClauseProver$Formulas" 6 none D kA (va_A (cpW kA u w tx σ0) s.heap.size) := by rw [hσ0]; exact C
  have hF : dd + 1 ≤ F := by omega
  have hLo : 48 * dd + 48 ≤ Lo := by omega
  clear hFe hLoe hσ0
  refine ax_iload_n (pc := 0) C d_For_reachParts_0 rfl 2 rfl ?_
  refine ax_iconst (pc := 1) C 1 d_For_reachParts_1 (by decide +kernel) ?_
  refine ax_ishr (pc := 2) C d_For_reachParts_2 ?_
  refine ax_iload_n (pc := 3) C d_For_reachParts_3 rfl 2 rfl ?_
  refine ax_iconst (pc := 4) C 1 d_For_reachParts_4 (by decide +kernel) ?_
  refine ax_iand (pc := 5) C d_For_reachParts_5 ?_
  refine ax_iconst (pc := 6) C 1 d_For_reachParts_6 (by decide +kernel) ?_
  refine ax_ishl (pc := 7) C d_For_reachParts_7 ?_
  refine ax_ior (pc := 8) C d_For_reachParts_8 ?_
  refine ax_istore_n (pc := 9) C d_For_reachParts_9 rfl (Nat.le_of_ble_eq_true rfl) ([(3, .int ((((x1 : Int32) >>> (1 &&& 31)) : Int32) ||| ((((x1 : Int32) &&& 1) : Int32) <<< (1 &&& 31)))), (0, .ref (u 14)), (1, .int x0), (2, .int x1)]) rfl ?_
  refine ax_aload_n (pc := 10) C d_For_reachParts_10 rfl 1 rfl ?_
  refine ax_iload_n (pc := 11) C d_For_reachParts_11 rfl 2 rfl ?_
  refine ax_iconst (pc := 12) C 1 d_For_reachParts_12 (by decide +kernel) ?_
  obtain ⟨σ1, r1, d1_1, d2_1, h1, h, hd2, hd1⟩ := it_b h
  have hm : sC_For_get l D kA u w tx σ [x0, 1] (σ1, r1, d1_1) := ih tC_For_get _ _ _ h1
  refine cc_Vi (pc := 13) C (r0 := r1) (σ2 := σ1) (As := [.int x0, .int 1]) (rest := []) (hm _ _ rfl) ml_For_104 14 rfl rfl rfl d_For_reachParts_13 rfl rfl (by dsimp only; omega) (by dsimp only; omega) (Nat.le_of_ble_eq_true rfl) (Nat.le_of_ble_eq_true rfl) (Nat.le_of_ble_eq_true rfl) ?_
  have hF : d2_1 + 1 ≤ F := by omega
  have hLo : 48 * d2_1 + 48 ≤ Lo := by omega
  refine ax_istore (pc := 16) C d_For_reachParts_16 (Nat.le_of_ble_eq_true rfl) ([(4, .int r1), (3, .int ((((x1 : Int32) >>> (1 &&& 31)) : Int32) ||| ((((x1 : Int32) &&& 1) : Int32) <<< (1 &&& 31)))), (0, .ref (u 14)), (1, .int x0), (2, .int x1)]) rfl ?_
  refine ax_aload_n (pc := 18) C d_For_reachParts_18 rfl 2 rfl ?_
  refine ax_iload_n (pc := 19) C d_For_reachParts_19 rfl 3 rfl ?_
  refine ax_iconst (pc := 20) C 2 d_For_reachParts_20 (by decide +kernel) ?_
  obtain ⟨σ2, r2, d1_2, d2_2, h1, h, hd2, hd1⟩ := it_b h
  have hm : sC_For_get l D kA u w tx σ1 [x0, 2] (σ2, r2, d1_2) := ih tC_For_get _ _ _ h1
  refine cc_Vi (pc := 21) C (r0 := r2) (σ2 := σ2) (As := [.int x0, .int 2]) (rest := []) (hm _ _ rfl) ml_For_104 14 rfl rfl rfl d_For_reachParts_21 rfl rfl (by dsimp only; omega) (by dsimp only; omega) (Nat.le_of_ble_eq_true rfl) (Nat.le_of_ble_eq_true rfl) (Nat.le_of_ble_eq_true rfl) ?_
  have hF : d2_2 + 1 ≤ F := by omega
  have hLo : 48 * d2_2 + 48 ≤ Lo := by omega
  refine ax_istore (pc := 24) C d_For_reachParts_24 (Nat.le_of_ble_eq_true rfl) ([(5, .int r2), (4, .int r1), (3, .int ((((x1 : Int32) >>> (1 &&& 31)) : Int32) ||| ((((x1 : Int32) &&& 1) : Int32) <<< (1 &&& 31)))), (0, .ref (u 14)), (1, .int x0), (2, .int x1)]) rfl ?_
  refine ax_aload_n (pc := 26) C d_For_reachParts_26 rfl 3 rfl ?_
  refine ax_iload_n (pc := 27) C d_For_reachParts_27 rfl 4 rfl ?_
  refine ax_iconst (pc := 28) C 0 d_For_reachParts_28 (by decide +kernel) ?_
  obtain ⟨σ3, r3, d1_3, d2_3, h1, h, hd2, hd1⟩ := it_b h
  have hm : sC_For_get l D kA u w tx σ2 [x0, 0] (σ3, r3, d1_3) := ih tC_For_get _ _ _ h1
  refine cc_Vi (pc := 29) C (r0 := r3) (σ2 := σ3) (As := [.int x0, .int 0]) (rest := []) (hm _ _ rfl) ml_For_104 14 rfl rfl rfl d_For_reachParts_29 rfl rfl (by dsimp only; omega) (by dsimp only; omega) (Nat.le_of_ble_eq_true rfl) (Nat.le_of_ble_eq_true rfl) (Nat.le_of_ble_eq_true rfl) ?_
  have hF : d2_3 + 1 ≤ F := by omega
  have hLo : 48 * d2_3 + 48 ≤ Lo := by omega
  by_cases hr : (r3 : Int32).toInt < 11 ∨ 17 < (r3 : Int32).toInt
  · have h := it_t hr h
    refine ax_tableOut (pc := 32) C 180 d_For_reachParts_32 hr (by decide) ?_
    refine ax_ls ([(0, .ref (u 14)), (1, .int x0), (2, .int x1), (3, .int ((((x1 : Int32) >>> (1 &&& 31)) : Int32) ||| ((((x1 : Int32) &&& 1) : Int32) <<< (1 &&& 31)))), (4, .int r1), (5, .int r2)]) [3, 4, 5, 2, 1, 0] rfl ?_
    have hm : sC_For_reachParts_p180 l D kA u w tx σ3 [x0, x1, ((((x1 : Int32) >>> (1 &&& 31)) : Int32) ||| ((((x1 : Int32) &&& 1) : Int32) <<< (1 &&& 31))), r1, r2] (σf, rf, _) := ih tC_For_reachParts_p180 _ _ _ h
    exact hm _ _ _ _ _ rfl p e s m args below meth c F Lo σ0 hF hLo C
  · have h := it_f hr h
    by_cases hv : (r3 : Int32) = 11
    · have h := it_t hv h
      refine ax_tableIn (pc := 32) C 76 d_For_reachParts_32 (by omega) (by omega) (by rw [hv]; rfl) (by decide) ?_
      refine ax_aload_n (pc := 76) C d_For_reachParts_76 rfl 3 rfl ?_
      refine ax_iload (pc := 77) C d_For_reachParts_77 1 rfl ?_
      refine ax_iload_n (pc := 79) C d_For_reachParts_79 rfl 2 rfl ?_
      obtain ⟨σ4, r4, d1_4, d2_4, h1, h, hd2, hd1⟩ := it_b h
      have hm : sC_For_reach l D kA u w tx σ3 [r1, ((((x1 : Int32) >>> (1 &&& 31)) : Int32) ||| ((((x1 : Int32) &&& 1) : Int32) <<< (1 &&& 31)))] (σ4, r4, d1_4) := ih tC_For_reach _ _ _ h1
      refine cc_Vv (pc := 80) C (σ2 := σ4) (As := [.int r1, .int ((((x1 : Int32) >>> (1 &&& 31)) : Int32) ||| ((((x1 : Int32) &&& 1) : Int32) <<< (1 &&& 31)))]) (rest := []) (hm _ _ rfl) ml_For_107 14 rfl rfl rfl d_For_reachParts_80 rfl rfl (by dsimp only; omega) (by dsimp only; omega) (Nat.le_of_ble_eq_true rfl) (Nat.le_of_ble_eq_true rfl) (Nat.le_of_ble_eq_true rfl) ?_
      have hF : d2_4 + 1 ≤ F := by omega
      have hLo : 48 * d2_4 + 48 ≤ Lo := by omega
      refine ax_goto (pc := 83) C 180 d_For_reachParts_83 (by decide) ?_
      refine ax_ls ([(0, .ref (u 14)), (1, .int x0), (2, .int x1), (3, .int ((((x1 : Int32) >>> (1 &&& 31)) : Int32) ||| ((((x1 : Int32) &&& 1) : Int32) <<< (1 &&& 31)))), (4, .int r1), (5, .int r2)]) [3, 4, 5, 2, 1, 0] rfl ?_
      have hm : sC_For_reachParts_p180 l D kA u w tx σ4 [x0, x1, ((((x1 : Int32) >>> (1 &&& 31)) : Int32) ||| ((((x1 : Int32) &&& 1) : Int32) <<< (1 &&& 31))), r1, r2] (σf, rf, _) := ih tC_For_reachParts_p180 _ _ _ h
      exact hm _ _ _ _ _ rfl p e s m args below meth c F Lo σ0 hF hLo C
    · have h := it_f hv h
      have hn11 : ¬ (r3 : Int32).toInt = 11 := fun q => hv (i32q (by rw [q]; rfl))
      by_cases hv : (r3 : Int32) = 12
      · have h := it_t hv h
        refine ax_tableIn (pc := 32) C 86 d_For_reachParts_32 (by omega) (by omega) (by rw [hv]; rfl) (by decide) ?_
        refine ax_aload_n (pc := 86) C d_For_reachParts_86 rfl 3 rfl ?_
        refine ax_iload (pc := 87) C d_For_reachParts_87 1 rfl ?_
        refine ax_iload_n (pc := 89) C d_For_reachParts_89 rfl 5 rfl ?_
        obtain ⟨σ5, r5, d1_5, d2_5, h1, h, hd2, hd1⟩ := it_b h
        have hm : sC_For_reach l D kA u w tx σ3 [r1, x1] (σ5, r5, d1_5) := ih tC_For_reach _ _ _ h1
        refine cc_Vv (pc := 90) C (σ2 := σ5) (As := [.int r1, .int x1]) (rest := []) (hm _ _ rfl) ml_For_107 14 rfl rfl rfl d_For_reachParts_90 rfl rfl (by dsimp only; omega) (by dsimp only; omega) (Nat.le_of_ble_eq_true rfl) (Nat.le_of_ble_eq_true rfl) (Nat.le_of_ble_eq_true rfl) ?_
        have hF : d2_5 + 1 ≤ F := by omega
        have hLo : 48 * d2_5 + 48 ≤ Lo := by omega
        refine ax_aload_n (pc := 93) C d_For_reachParts_93 rfl 3 rfl ?_
        refine cg_14_12_For_45 (pc := 94) C d_For_reachParts_94 ?_
        refine ax_iload (pc := 97) C d_For_reachParts_97 0 rfl ?_
        refine ax_iload_n (pc := 99) C d_For_reachParts_99 rfl 5 rfl ?_
        refine ax_aload_n (pc := 100) C d_For_reachParts_100 rfl 3 rfl ?_
        refine ax_iload_n (pc := 101) C d_For_reachParts_101 rfl 4 rfl ?_
        refine ax_iconst (pc := 102) C 0 d_For_reachParts_102 (by decide +kernel) ?_
        obtain ⟨σ6, r6, d1_6, d2_6, h1, h, hd2, hd1⟩ := it_b h
        have hm : sC_For_get l D kA u w tx σ5 [x0, 0] (σ6, r6, d1_6) := ih tC_For_get _ _ _ h1
        refine cc_Vi (pc := 103) C (r0 := r6) (σ2 := σ6) (As := [.int x0, .int 0]) (rest := [.int x1, .int r2, .ref (u 27)]) (hm _ _ rfl) ml_For_104 14 rfl rfl rfl d_For_reachParts_103 rfl rfl (by dsimp only; omega) (by dsimp only; omega) (Nat.le_of_ble_eq_true rfl) (Nat.le_of_ble_eq_true rfl) (Nat.le_of_ble_eq_true rfl) ?_
        have hF : d2_6 + 1 ≤ F := by omega
        have hLo : 48 * d2_6 + 48 ≤ Lo := by omega
        refine ax_bipush (pc := 106) C 13 d_For_reachParts_106 (by decide +kernel) ?_
        refine ax_icmp_ne (pc := 108) C 115 d_For_reachParts_108 (by decide) (fun hc => ?_) (fun hc => ?_)
        · have h := it_f hc h
          refine ax_iconst (pc := 115) C 1 d_For_reachParts_115 (by decide +kernel) ?_
          refine ax_ls ([(0, .ref (u 14)), (1, .int x0), (2, .int x1), (3, .int ((((x1 : Int32) >>> (1 &&& 31)) : Int32) ||| ((((x1 : Int32) &&& 1) : Int32) <<< (1 &&& 31)))), (4, .int r1), (5, .int r2)]) [3, 4, 5, 2, 1, 0] rfl ?_
          have hm : sC_For_reachParts_p116 l D kA u w tx σ6 [x0, x1, ((((x1 : Int32) >>> (1 &&& 31)) : Int32) ||| ((((x1 : Int32) &&& 1) : Int32) <<< (1 &&& 31))), r1, r2, 1, x1, r2] (σf, rf, _) := ih tC_For_reachParts_p116 _ _ _ h
          exact hm _ _ _ _ _ _ _ _ rfl p e s m args below meth c F Lo σ0 hF hLo C
        · have h := it_t hc h
          refine ax_iconst (pc := 111) C 2 d_For_reachParts_111 (by decide +kernel) ?_
          refine ax_goto (pc := 112) C 116 d_For_reachParts_112 (by decide) ?_
          refine ax_ls ([(0, .ref (u 14)), (1, .int x0), (2, .int x1), (3, .int ((((x1 : Int32) >>> (1 &&& 31)) : Int32) ||| ((((x1 : Int32) &&& 1) : Int32) <<< (1 &&& 31)))), (4, .int r1), (5, .int r2)]) [3, 4, 5, 2, 1, 0] rfl ?_
          have hm : sC_For_reachParts_p116 l D kA u w tx σ6 [x0, x1, ((((x1 : Int32) >>> (1 &&& 31)) : Int32) ||| ((((x1 : Int32) &&& 1) : Int32) <<< (1 &&& 31))), r1, r2, 2, x1, r2] (σf, rf, _) := ih tC_For_reachParts_p116 _ _ _ h
          exact hm _ _ _ _ _ _ _ _ rfl p e s m args below meth c F Lo σ0 hF hLo C
      · have h := it_f hv h
        have hn12 : ¬ (r3 : Int32).toInt = 12 := fun q => hv (i32q (by rw [q]; rfl))
        by_cases hv : (r3 : Int32) = 13
        · have h := it_t hv h
          refine ax_tableIn (pc := 32) C 86 d_For_reachParts_32 (by omega) (by omega) (by rw [hv]; rfl) (by decide) ?_
          refine ax_aload_n (pc := 86) C d_For_reachParts_86 rfl 3 rfl ?_
          refine ax_iload (pc := 87) C d_For_reachParts_87 1 rfl ?_
          refine ax_iload_n (pc := 89) C d_For_reachParts_89 rfl 5 rfl ?_
          obtain ⟨σ7, r7, d1_7, d2_7, h1, h, hd2, hd1⟩ := it_b h
          have hm : sC_For_reach l D kA u w tx σ3 [r1, x1] (σ7, r7, d1_7) := ih tC_For_reach _ _ _ h1
          refine cc_Vv (pc := 90) C (σ2 := σ7) (As := [.int r1, .int x1]) (rest := []) (hm _ _ rfl) ml_For_107 14 rfl rfl rfl d_For_reachParts_90 rfl rfl (by dsimp only; omega) (by dsimp only; omega) (Nat.le_of_ble_eq_true rfl) (Nat.le_of_ble_eq_true rfl) (Nat.le_of_ble_eq_true rfl) ?_
          have hF : d2_7 + 1 ≤ F := by omega
          have hLo : 48 * d2_7 + 48 ≤ Lo := by omega
          refine ax_aload_n (pc := 93) C d_For_reachParts_93 rfl 3 rfl ?_
          refine cg_14_12_For_45 (pc := 94) C d_For_reachParts_94 ?_
          refine ax_iload (pc := 97) C d_For_reachParts_97 0 rfl ?_
          refine ax_iload_n (pc := 99) C d_For_reachParts_99 rfl 5 rfl ?_
          refine ax_aload_n (pc := 100) C d_For_reachParts_100 rfl 3 rfl ?_
          refine ax_iload_n (pc := 101) C d_For_reachParts_101 rfl 4 rfl ?_
          refine ax_iconst (pc := 102) C 0 d_For_reachParts_102 (by decide +kernel) ?_
          obtain ⟨σ8, r8, d1_8, d2_8, h1, h, hd2, hd1⟩ := it_b h
          have hm : sC_For_get l D kA u w tx σ7 [x0, 0] (σ8, r8, d1_8) := ih tC_For_get _ _ _ h1
          refine cc_Vi (pc := 103) C (r0 := r8) (σ2 := σ8) (As := [.int x0, .int 0]) (rest := [.int x1, .int r2, .ref (u 27)]) (hm _ _ rfl) ml_For_104 14 rfl rfl rfl d_For_reachParts_103 rfl rfl (by dsimp only; omega) (by dsimp only; omega) (Nat.le_of_ble_eq_true rfl) (Nat.le_of_ble_eq_true rfl) (Nat.le_of_ble_eq_true rfl) ?_
          have hF : d2_8 + 1 ≤ F := by omega
          have hLo : 48 * d2_8 + 48 ≤ Lo := by omega
          refine ax_bipush (pc := 106) C 13 d_For_reachParts_106 (by decide +kernel) ?_
          refine ax_icmp_ne (pc := 108) C 115 d_For_reachParts_108 (by decide) (fun hc => ?_) (fun hc => ?_)
          · have h := it_f hc h
            refine ax_iconst (pc := 115) C 1 d_For_reachParts_115 (by decide +kernel) ?_
            refine ax_ls ([(0, .ref (u 14)), (1, .int x0), (2, .int x1), (3, .int ((((x1 : Int32) >>> (1 &&& 31)) : Int32) ||| ((((x1 : Int32) &&& 1) : Int32) <<< (1 &&& 31)))), (4, .int r1), (5, .int r2)]) [3, 4, 5, 2, 1, 0] rfl ?_
            have hm : sC_For_reachParts_p116 l D kA u w tx σ8 [x0, x1, ((((x1 : Int32) >>> (1 &&& 31)) : Int32) ||| ((((x1 : Int32) &&& 1) : Int32) <<< (1 &&& 31))), r1, r2, 1, x1, r2] (σf, rf, _) := ih tC_For_reachParts_p116 _ _ _ h
            exact hm _ _ _ _ _ _ _ _ rfl p e s m args below meth c F Lo σ0 hF hLo C
          · have h := it_t hc h
            refine ax_iconst (pc := 111) C 2 d_For_reachParts_111 (by decide +kernel) ?_
            refine ax_goto (pc := 112) C 116 d_For_reachParts_112 (by decide) ?_
            refine ax_ls ([(0, .ref (u 14)), (1, .int x0), (2, .int x1), (3, .int ((((x1 : Int32) >>> (1 &&& 31)) : Int32) ||| ((((x1 : Int32) &&& 1) : Int32) <<< (1 &&& 31)))), (4, .int r1), (5, .int r2)]) [3, 4, 5, 2, 1, 0] rfl ?_
            have hm : sC_For_reachParts_p116 l D kA u w tx σ8 [x0, x1, ((((x1 : Int32) >>> (1 &&& 31)) : Int32) ||| ((((x1 : Int32) &&& 1) : Int32) <<< (1 &&& 31))), r1, r2, 2, x1, r2] (σf, rf, _) := ih tC_For_reachParts_p116 _ _ _ h
            exact hm _ _ _ _ _ _ _ _ rfl p e s m args below meth c F Lo σ0 hF hLo C
        · have h := it_f hv h
          have hn13 : ¬ (r3 : Int32).toInt = 13 := fun q => hv (i32q (by rw [q]; rfl))
          by_cases hv : (r3 : Int32) = 14
          · have h := it_t hv h
            refine ax_tableIn (pc := 32) C 129 d_For_reachParts_32 (by omega) (by omega) (by rw [hv]; rfl) (by decide) ?_
            refine ax_aload_n (pc := 129) C d_For_reachParts_129 rfl 3 rfl ?_
            refine ax_iload (pc := 130) C d_For_reachParts_130 1 rfl ?_
            refine ax_iload_n (pc := 132) C d_For_reachParts_132 rfl 5 rfl ?_
            obtain ⟨σ9, r9, d1_9, d2_9, h1, h, hd2, hd1⟩ := it_b h
            have hm : sC_For_reach l D kA u w tx σ3 [r1, x1] (σ9, r9, d1_9) := ih tC_For_reach _ _ _ h1
            refine cc_Vv (pc := 133) C (σ2 := σ9) (As := [.int r1, .int x1]) (rest := []) (hm _ _ rfl) ml_For_107 14 rfl rfl rfl d_For_reachParts_133 rfl rfl (by dsimp only; omega) (by dsimp only; omega) (Nat.le_of_ble_eq_true rfl) (Nat.le_of_ble_eq_true rfl) (Nat.le_of_ble_eq_true rfl) ?_
            have hF : d2_9 + 1 ≤ F := by omega
            have hLo : 48 * d2_9 + 48 ≤ Lo := by omega
            refine ax_aload_n (pc := 136) C d_For_reachParts_136 rfl 3 rfl ?_
            refine ax_iload (pc := 137) C d_For_reachParts_137 0 rfl ?_
            refine ax_iload_n (pc := 139) C d_For_reachParts_139 rfl 5 rfl ?_
            obtain ⟨σ10, r10, d1_10, d2_10, h1, h, hd2, hd1⟩ := it_b h
            have hm : sC_For_reach l D kA u w tx σ9 [r2, x1] (σ10, r10, d1_10) := ih tC_For_reach _ _ _ h1
            refine cc_Vv (pc := 140) C (σ2 := σ10) (As := [.int r2, .int x1]) (rest := []) (hm _ _ rfl) ml_For_107 14 rfl rfl rfl d_For_reachParts_140 rfl rfl (by dsimp only; omega) (by dsimp only; omega) (Nat.le_of_ble_eq_true rfl) (Nat.le_of_ble_eq_true rfl) (Nat.le_of_ble_eq_true rfl) ?_
            have hF : d2_10 + 1 ≤ F := by omega
            have hLo : 48 * d2_10 + 48 ≤ Lo := by omega
            refine ax_goto (pc := 143) C 180 d_For_reachParts_143 (by decide) ?_
            refine ax_ls ([(0, .ref (u 14)), (1, .int x0), (2, .int x1), (3, .int ((((x1 : Int32) >>> (1 &&& 31)) : Int32) ||| ((((x1 : Int32) &&& 1) : Int32) <<< (1 &&& 31)))), (4, .int r1), (5, .int r2)]) [3, 4, 5, 2, 1, 0] rfl ?_
            have hm : sC_For_reachParts_p180 l D kA u w tx σ10 [x0, x1, ((((x1 : Int32) >>> (1 &&& 31)) : Int32) ||| ((((x1 : Int32) &&& 1) : Int32) <<< (1 &&& 31))), r1, r2] (σf, rf, _) := ih tC_For_reachParts_p180 _ _ _ h
            exact hm _ _ _ _ _ rfl p e s m args below meth c F Lo σ0 hF hLo C
          · have h := it_f hv h
            have hn14 : ¬ (r3 : Int32).toInt = 14 := fun q => hv (i32q (by rw [q]; rfl))
            by_cases hv : (r3 : Int32) = 15
            · have h := it_t hv h
              refine ax_tableIn (pc := 32) C 129 d_For_reachParts_32 (by omega) (by omega) (by rw [hv]; rfl) (by decide) ?_
              refine ax_aload_n (pc := 129) C d_For_reachParts_129 rfl 3 rfl ?_
              refine ax_iload (pc := 130) C d_For_reachParts_130 1 rfl ?_
              refine ax_iload_n (pc := 132) C d_For_reachParts_132 rfl 5 rfl ?_
              obtain ⟨σ11, r11, d1_11, d2_11, h1, h, hd2, hd1⟩ := it_b h
              have hm : sC_For_reach l D kA u w tx σ3 [r1, x1] (σ11, r11, d1_11) := ih tC_For_reach _ _ _ h1
              refine cc_Vv (pc := 133) C (σ2 := σ11) (As := [.int r1, .int x1]) (rest := []) (hm _ _ rfl) ml_For_107 14 rfl rfl rfl d_For_reachParts_133 rfl rfl (by dsimp only; omega) (by dsimp only; omega) (Nat.le_of_ble_eq_true rfl) (Nat.le_of_ble_eq_true rfl) (Nat.le_of_ble_eq_true rfl) ?_
              have hF : d2_11 + 1 ≤ F := by omega
              have hLo : 48 * d2_11 + 48 ≤ Lo := by omega
              refine ax_aload_n (pc := 136) C d_For_reachParts_136 rfl 3 rfl ?_
              refine ax_iload (pc := 137) C d_For_reachParts_137 0 rfl ?_
              refine ax_iload_n (pc := 139) C d_For_reachParts_139 rfl 5 rfl ?_
              obtain ⟨σ12, r12, d1_12, d2_12, h1, h, hd2, hd1⟩ := it_b h
              have hm : sC_For_reach l D kA u w tx σ11 [r2, x1] (σ12, r12, d1_12) := ih tC_For_reach _ _ _ h1
              refine cc_Vv (pc := 140) C (σ2 := σ12) (As := [.int r2, .int x1]) (rest := []) (hm _ _ rfl) ml_For_107 14 rfl rfl rfl d_For_reachParts_140 rfl rfl (by dsimp only; omega) (by dsimp only; omega) (Nat.le_of_ble_eq_true rfl) (Nat.le_of_ble_eq_true rfl) (Nat.le_of_ble_eq_true rfl) ?_
              have hF : d2_12 + 1 ≤ F := by omega
              have hLo : 48 * d2_12 + 48 ≤ Lo := by omega
              refine ax_goto (pc := 143) C 180 d_For_reachParts_143 (by decide) ?_
              refine ax_ls ([(0, .ref (u 14)), (1, .int x0), (2, .int x1), (3, .int ((((x1 : Int32) >>> (1 &&& 31)) : Int32) ||| ((((x1 : Int32) &&& 1) : Int32) <<< (1 &&& 31)))), (4, .int r1), (5, .int r2)]) [3, 4, 5, 2, 1, 0] rfl ?_
              have hm : sC_For_reachParts_p180 l D kA u w tx σ12 [x0, x1, ((((x1 : Int32) >>> (1 &&& 31)) : Int32) ||| ((((x1 : Int32) &&& 1) : Int32) <<< (1 &&& 31))), r1, r2] (σf, rf, _) := ih tC_For_reachParts_p180 _ _ _ h
              exact hm _ _ _ _ _ rfl p e s m args below meth c F Lo σ0 hF hLo C
            · have h := it_f hv h
              have hn15 : ¬ (r3 : Int32).toInt = 15 := fun q => hv (i32q (by rw [q]; rfl))
              by_cases hv : (r3 : Int32) = 16
              · have h := it_t hv h
                refine ax_tableIn (pc := 32) C 146 d_For_reachParts_32 (by omega) (by omega) (by rw [hv]; rfl) (by decide) ?_
                refine ax_aload_n (pc := 146) C d_For_reachParts_146 rfl 3 rfl ?_
                refine ax_iload (pc := 147) C d_For_reachParts_147 1 rfl ?_
                refine ax_iload_n (pc := 149) C d_For_reachParts_149 rfl 2 rfl ?_
                obtain ⟨σ13, r13, d1_13, d2_13, h1, h, hd2, hd1⟩ := it_b h
                have hm : sC_For_reach l D kA u w tx σ3 [r1, ((((x1 : Int32) >>> (1 &&& 31)) : Int32) ||| ((((x1 : Int32) &&& 1) : Int32) <<< (1 &&& 31)))] (σ13, r13, d1_13) := ih tC_For_reach _ _ _ h1
                refine cc_Vv (pc := 150) C (σ2 := σ13) (As := [.int r1, .int ((((x1 : Int32) >>> (1 &&& 31)) : Int32) ||| ((((x1 : Int32) &&& 1) : Int32) <<< (1 &&& 31)))]) (rest := []) (hm _ _ rfl) ml_For_107 14 rfl rfl rfl d_For_reachParts_150 rfl rfl (by dsimp only; omega) (by dsimp only; omega) (Nat.le_of_ble_eq_true rfl) (Nat.le_of_ble_eq_true rfl) (Nat.le_of_ble_eq_true rfl) ?_
                have hF : d2_13 + 1 ≤ F := by omega
                have hLo : 48 * d2_13 + 48 ≤ Lo := by omega
                refine ax_aload_n (pc := 153) C d_For_reachParts_153 rfl 3 rfl ?_
                refine ax_iload (pc := 154) C d_For_reachParts_154 0 rfl ?_
                refine ax_iload_n (pc := 156) C d_For_reachParts_156 rfl 5 rfl ?_
                obtain ⟨σ14, r14, d1_14, d2_14, h1, h, hd2, hd1⟩ := it_b h
                have hm : sC_For_reach l D kA u w tx σ13 [r2, x1] (σ14, r14, d1_14) := ih tC_For_reach _ _ _ h1
                refine cc_Vv (pc := 157) C (σ2 := σ14) (As := [.int r2, .int x1]) (rest := []) (hm _ _ rfl) ml_For_107 14 rfl rfl rfl d_For_reachParts_157 rfl rfl (by dsimp only; omega) (by dsimp only; omega) (Nat.le_of_ble_eq_true rfl) (Nat.le_of_ble_eq_true rfl) (Nat.le_of_ble_eq_true rfl) ?_
                have hF : d2_14 + 1 ≤ F := by omega
                have hLo : 48 * d2_14 + 48 ≤ Lo := by omega
                refine ax_goto (pc := 160) C 180 d_For_reachParts_160 (by decide) ?_
                refine ax_ls ([(0, .ref (u 14)), (1, .int x0), (2, .int x1), (3, .int ((((x1 : Int32) >>> (1 &&& 31)) : Int32) ||| ((((x1 : Int32) &&& 1) : Int32) <<< (1 &&& 31)))), (4, .int r1), (5, .int r2)]) [3, 4, 5, 2, 1, 0] rfl ?_
                have hm : sC_For_reachParts_p180 l D kA u w tx σ14 [x0, x1, ((((x1 : Int32) >>> (1 &&& 31)) : Int32) ||| ((((x1 : Int32) &&& 1) : Int32) <<< (1 &&& 31))), r1, r2] (σf, rf, _) := ih tC_For_reachParts_p180 _ _ _ h
                exact hm _ _ _ _ _ rfl p e s m args below meth c F Lo σ0 hF hLo C
              · have h := it_f hv h
                have hn16 : ¬ (r3 : Int32).toInt = 16 := fun q => hv (i32q (by rw [q]; rfl))
                have hv : (r3 : Int32) = 17 := i32q (by have e9 : (17 : Int32).toInt = 17 := rfl; omega)
                refine ax_tableIn (pc := 32) C 163 d_For_reachParts_32 (by omega) (by omega) (by rw [hv]; rfl) (by decide) ?_
                refine ax_aload_n (pc := 163) C d_For_reachParts_163 rfl 3 rfl ?_
                refine ax_iload (pc := 164) C d_For_reachParts_164 1 rfl ?_
                refine ax_iconst (pc := 166) C 3 d_For_reachParts_166 (by decide +kernel) ?_
                obtain ⟨σ15, r15, d1_15, d2_15, h1, h, hd2, hd1⟩ := it_b h
                have hm : sC_For_reach l D kA u w tx σ3 [r1, 3] (σ15, r15, d1_15) := ih tC_For_reach _ _ _ h1
                refine cc_Vv (pc := 167) C (σ2 := σ15) (As := [.int r1, .int 3]) (rest := []) (hm _ _ rfl) ml_For_107 14 rfl rfl rfl d_For_reachParts_167 rfl rfl (by dsimp only; omega) (by dsimp only; omega) (Nat.le_of_ble_eq_true rfl) (Nat.le_of_ble_eq_true rfl) (Nat.le_of_ble_eq_true rfl) ?_
                have hF : d2_15 + 1 ≤ F := by omega
                have hLo : 48 * d2_15 + 48 ≤ Lo := by omega
                refine ax_aload_n (pc := 170) C d_For_reachParts_170 rfl 3 rfl ?_
                refine ax_iload (pc := 171) C d_For_reachParts_171 0 rfl ?_
                refine ax_iconst (pc := 173) C 3 d_For_reachParts_173 (by decide +kernel) ?_
                obtain ⟨σ16, r16, d1_16, d2_16, h1, h, hd2, hd1⟩ := it_b h
                have hm : sC_For_reach l D kA u w tx σ15 [r2, 3] (σ16, r16, d1_16) := ih tC_For_reach _ _ _ h1
                refine cc_Vv (pc := 174) C (σ2 := σ16) (As := [.int r2, .int 3]) (rest := []) (hm _ _ rfl) ml_For_107 14 rfl rfl rfl d_For_reachParts_174 rfl rfl (by dsimp only; omega) (by dsimp only; omega) (Nat.le_of_ble_eq_true rfl) (Nat.le_of_ble_eq_true rfl) (Nat.le_of_ble_eq_true rfl) ?_
                have hF : d2_16 + 1 ≤ F := by omega
                have hLo : 48 * d2_16 + 48 ≤ Lo := by omega
                refine ax_goto (pc := 177) C 180 d_For_reachParts_177 (by decide) ?_
                refine ax_ls ([(0, .ref (u 14)), (1, .int x0), (2, .int x1), (3, .int ((((x1 : Int32) >>> (1 &&& 31)) : Int32) ||| ((((x1 : Int32) &&& 1) : Int32) <<< (1 &&& 31)))), (4, .int r1), (5, .int r2)]) [3, 4, 5, 2, 1, 0] rfl ?_
                have hm : sC_For_reachParts_p180 l D kA u w tx σ16 [x0, x1, ((((x1 : Int32) >>> (1 &&& 31)) : Int32) ||| ((((x1 : Int32) &&& 1) : Int32) <<< (1 &&& 31))), r1, r2] (σf, rf, _) := ih tC_For_reachParts_p180 _ _ _ h
                exact hm _ _ _ _ _ rfl p e s m args below meth c F Lo σ0 hF hLo C
set_option maxHeartbeats 4000000 in
set_option maxRecDepth 100000 in
theorem oC_For_reachParts_p116 (l : Launch) (D : va_G) (kA : Nat → ClassId) (u w : Nat → Nat) (tx : Value) (rec : mF) (ih : ∀ t σ xs res, rec t σ xs = some res → cSem l D kA u w tx t σ xs res) (σ : mS) (xs : List Int32) (res : mR) (h : u_8 (kC_For_reachParts_p116 rec σ) xs = some res) : sC_For_reachParts_p116 l D kA u w tx σ xs res := by
  intro x0 x1 x2 x3 x4 x5 x6 x7 hxs
  subst hxs
  obtain ⟨σf, rf, dd⟩ := res
  have h : (if ((x6 : Int32) &&& x5) = 0 then (rec tC_For_reachParts_p125 σ [x0, x1, x2, x3, x4, 0, x7]) else (rec tC_For_reachParts_p125 σ [x0, x1, x2, x3, x4, 1, x7])) = some (σf, rf, dd) := h
  intro p e s m args below meth c F Lo σ0 hF hLo C
  dsimp only at hF hLo ⊢
  refine ax_iand (pc := 116) C d_For_reachParts_116 ?_
  refine ax_if_eq (pc := 117) C 124 d_For_reachParts_117 (by decide) (fun hc => ?_) (fun hc => ?_)
  · have h := it_t hc h
    refine ax_iconst (pc := 124) C 0 d_For_reachParts_124 (by decide +kernel) ?_
    refine ax_ls ([(0, .ref (u 14)), (1, .int x0), (2, .int x1), (3, .int x2), (4, .int x3), (5, .int x4)]) [0, 1, 2, 3, 4, 5] rfl ?_
    have hm : sC_For_reachParts_p125 l D kA u w tx σ [x0, x1, x2, x3, x4, 0, x7] (σf, rf, _) := ih tC_For_reachParts_p125 _ _ _ h
    exact hm _ _ _ _ _ _ _ rfl p e s m args below meth c F Lo σ0 hF hLo C
  · have h := it_f hc h
    refine ax_iconst (pc := 120) C 1 d_For_reachParts_120 (by decide +kernel) ?_
    refine ax_goto (pc := 121) C 125 d_For_reachParts_121 (by decide) ?_
    refine ax_ls ([(0, .ref (u 14)), (1, .int x0), (2, .int x1), (3, .int x2), (4, .int x3), (5, .int x4)]) [0, 1, 2, 3, 4, 5] rfl ?_
    have hm : sC_For_reachParts_p125 l D kA u w tx σ [x0, x1, x2, x3, x4, 1, x7] (σf, rf, _) := ih tC_For_reachParts_p125 _ _ _ h
    exact hm _ _ _ _ _ _ _ rfl p e s m args below meth c F Lo σ0 hF hLo C
set_option maxHeartbeats 4000000 in
set_option maxRecDepth 100000 in
theorem oC_For_reachParts_p125 (l : Launch) (D : va_G) (kA : Nat → ClassId) (u w : Nat → Nat) (tx : Value) (rec : mF) (ih : ∀ t σ xs res, rec t σ xs = some res → cSem l D kA u w tx t σ xs res) (σ : mS) (xs : List Int32) (res : mR) (h : u_7 (kC_For_reachParts_p125 rec σ) xs = some res) : sC_For_reachParts_p125 l D kA u w tx σ xs res := by
  intro x0 x1 x2 x3 x4 x5 x6 hxs
  subst hxs
  obtain ⟨σf, rf, dd⟩ := res
  have h : (if bin x6 300 = true then (lt_ (mA σ 27 (Int32.toNatClampNeg x6) (vp_nar .boolean x5)) (fun σ1 => rec tC_For_reachParts_p180 σ1 [x0, x1, x2, x3, x4])) else none) = some (σf, rf, dd) := h
  intro p e s m args below meth c F Lo σ0 hF hLo C
  dsimp only at hF hLo ⊢
  obtain ⟨hb, h⟩ := it_g h
  refine cs_27 (pc := 125) C d_For_reachParts_125 (bin_in hb) ?_
  have h := it_l h
  generalize mA σ 27 (Int32.toNatClampNeg x6) (vp_nar .boolean x5) = σ1 at h ⊢
  refine ax_goto (pc := 126) C 180 d_For_reachParts_126 (by decide) ?_
  refine ax_ls ([(0, .ref (u 14)), (1, .int x0), (2, .int x1), (3, .int x2), (4, .int x3), (5, .int x4)]) [0, 1, 2, 3, 4, 5] rfl ?_
  have hm : sC_For_reachParts_p180 l D kA u w tx σ1 [x0, x1, x2, x3, x4] (σf, rf, _) := ih tC_For_reachParts_p180 _ _ _ h
  exact hm _ _ _ _ _ rfl p e s m args below meth c F Lo σ0 hF hLo C
set_option maxHeartbeats 4000000 in
set_option maxRecDepth 100000 in
theorem oC_For_reachParts_p180 (l : Launch) (D : va_G) (kA : Nat → ClassId) (u w : Nat → Nat) (tx : Value) (rec : mF) (ih : ∀ t σ xs res, rec t σ xs = some res → cSem l D kA u w tx t σ xs res) (σ : mS) (xs : List Int32) (res : mR) (h : u_5 (kC_For_reachParts_p180 rec σ) xs = some res) : sC_For_reachParts_p180 l D kA u w tx σ xs res := by
  intro x0 x1 x2 x3 x4 hxs
  subst hxs
  obtain ⟨σf, rf, dd⟩ := res
  have h : (some (σ, 0, 0)) = some (σf, rf, dd) := h
  intro p e s m args below meth c F Lo σ0 hF hLo C
  dsimp only at hF hLo ⊢
  cases h
  exact ax_vret (pc := 180) C d_For_reachParts_180 rfl (Nat.le_refl _) (Nat.le_refl _)
set_option maxHeartbeats 4000000 in
set_option maxRecDepth 100000 in
theorem oC_For_replaceFree (l : Launch) (D : va_G) (kA : Nat → ClassId) (u w : Nat → Nat) (tx : Value) (rec : mF) (ih : ∀ t σ xs res, rec t σ xs = some res → cSem l D kA u w tx t σ xs res) (σ : mS) (xs : List Int32) (res : mR) (h : u_2 (kC_For_replaceFree rec σ) xs = some res) : sC_For_replaceFree l D kA u w tx σ xs res := by
  intro x0 x1 hxs
  subst hxs
  obtain ⟨σf, rf, dd⟩ := res
  have h : (if bin ((x0 : Int32) + 3) (σ.2.2 21) = true then (rec tC_For_replaceFree_p12 σ [x0, x1, (σ.2.1 21 (Int32.toNatClampNeg ((x0 : Int32) + 3)))]) else none) = some (σf, rf, dd) := h
  refine ax_Mv.of (by decide +kernel) (Nat.le_of_ble_eq_true rfl) ?_
  intro p e s m args below meth c C hnm
  have C : ax_C p s m args meth c b_For_replaceFree "ClauseProver$Formulas" 4 none D kA (va_A (cpW kA u w tx σ) s.heap.size) := C
  obtain ⟨F, hFe⟩ : ∃ F, F = dd + 1 := ⟨_, rfl⟩
  obtain ⟨Lo, hLoe⟩ : ∃ Lo, Lo = 48 * dd + 48 := ⟨_, rfl⟩
  obtain ⟨σ0, hσ0⟩ : ∃ s0, s0 = σ := ⟨_, rfl⟩
  suffices K : AW p l e { frames := F, cells := 0, slots := 0, locals := Lo } s m args below meth c D kA (va_A (cpW kA u w tx σ0) s.heap.size) 4 (ax_Qv below args s D kA (cpW kA u w tx σ0) 0 0 (fun w1 => w1 = cpW kA u w tx σf)) 0 [(0, .ref (u 14)), (1, .int x0), (2, .int x1)] [] (cpW kA u w tx σ) 0 0 by rw [hFe, hLoe, hσ0] at K; exact ax_ls ([(0, .ref (u 14)), (1, .int x0), (2, .int x1)]) [0, 1, 2] rfl K
  have C : ax_C p s m args meth c b_For_replaceFree "ClauseProver$Formulas" 4 none D kA (va_A (cpW kA u w tx σ0) s.heap.size) := by rw [hσ0]; exact C
  have hF : dd + 1 ≤ F := by omega
  have hLo : 48 * dd + 48 ≤ Lo := by omega
  clear hFe hLoe hσ0
  refine ax_aload_n (pc := 0) C d_For_replaceFree_0 rfl 0 rfl ?_
  refine cg_14_6_For_27 (pc := 1) C d_For_replaceFree_1 ?_
  refine cg_20_0_For_75 (pc := 4) C d_For_replaceFree_4 ?_
  refine ax_iload_n (pc := 7) C d_For_replaceFree_7 rfl 1 rfl ?_
  refine ax_iconst (pc := 8) C 3 d_For_replaceFree_8 (by decide +kernel) ?_
  refine ax_iadd (pc := 9) C d_For_replaceFree_9 ?_
  obtain ⟨hb, h⟩ := it_g h
  refine cl_21 (pc := 10) C d_For_replaceFree_10 (bin_in hb) ?_
  refine ax_istore_n (pc := 11) C d_For_replaceFree_11 rfl (Nat.le_of_ble_eq_true rfl) ([(3, .int (σ.2.1 21 (Int32.toNatClampNeg ((x0 : Int32) + 3)))), (0, .ref (u 14)), (1, .int x0), (2, .int x1)]) rfl ?_
  refine ax_ls ([(0, .ref (u 14)), (1, .int x0), (2, .int x1), (3, .int (σ.2.1 21 (Int32.toNatClampNeg ((x0 : Int32) + 3))))]) [1, 2, 3, 0] rfl ?_
  have hm : sC_For_replaceFree_p12 l D kA u w tx σ [x0, x1, (σ.2.1 21 (Int32.toNatClampNeg ((x0 : Int32) + 3)))] (σf, rf, _) := ih tC_For_replaceFree_p12 _ _ _ h
  exact hm _ _ _ rfl p e s m args below meth c F Lo σ0 hF hLo C
set_option maxHeartbeats 4000000 in
set_option maxRecDepth 100000 in
theorem oC_For_replaceFree_p12 (l : Launch) (D : va_G) (kA : Nat → ClassId) (u w : Nat → Nat) (tx : Value) (rec : mF) (ih : ∀ t σ xs res, rec t σ xs = some res → cSem l D kA u w tx t σ xs res) (σ : mS) (xs : List Int32) (res : mR) (h : u_3 (kC_For_replaceFree_p12 rec σ) xs = some res) : sC_For_replaceFree_p12 l D kA u w tx σ xs res := by
  intro x0 x1 x2 hxs
  subst hxs
  obtain ⟨σf, rf, dd⟩ := res
  have h : (if bin ((x0 : Int32) + 4) (σ.2.2 21) = true then (if (σ.2.1 21 (Int32.toNatClampNeg ((x0 : Int32) + 4))) ≤ x2 then (some (σ, 0, 0)) else (if bin x2 300 = true then (if bin (σ.2.1 28 (Int32.toNatClampNeg x2)) 300 = true then (lt_ (mA σ 27 (Int32.toNatClampNeg (σ.2.1 28 (Int32.toNatClampNeg x2))) (vp_nar .boolean x1)) (fun σ1 => rec tC_For_replaceFree_p12 σ1 [x0, x1, (x2 + 1)])) else none) else none)) else none) = some (σf, rf, dd) := h
  intro p e s m args below meth c F Lo σ0 hF hLo C
  dsimp only at hF hLo ⊢
  refine ax_iload_n (pc := 12) C d_For_replaceFree_12 rfl 3 rfl ?_
  refine ax_aload_n (pc := 13) C d_For_replaceFree_13 rfl 0 rfl ?_
  refine cg_14_6_For_27 (pc := 14) C d_For_replaceFree_14 ?_
  refine cg_20_0_For_75 (pc := 17) C d_For_replaceFree_17 ?_
  refine ax_iload_n (pc := 20) C d_For_replaceFree_20 rfl 1 rfl ?_
  refine ax_iconst (pc := 21) C 4 d_For_replaceFree_21 (by decide +kernel) ?_
  refine ax_iadd (pc := 22) C d_For_replaceFree_22 ?_
  obtain ⟨hb, h⟩ := it_g h
  refine cl_21 (pc := 23) C d_For_replaceFree_23 (bin_in hb) ?_
  refine ax_icmp_ge (pc := 24) C 45 d_For_replaceFree_24 (by decide) (fun hc => ?_) (fun hc => ?_)
  · have h := it_t hc h
    cases h
    exact ax_vret (pc := 45) C d_For_replaceFree_45 rfl (Nat.le_refl _) (Nat.le_refl _)
  · have h := it_f hc h
    refine ax_aload_n (pc := 27) C d_For_replaceFree_27 rfl 0 rfl ?_
    refine cg_14_12_For_45 (pc := 28) C d_For_replaceFree_28 ?_
    refine ax_aload_n (pc := 31) C d_For_replaceFree_31 rfl 0 rfl ?_
    refine cg_14_13_For_49 (pc := 32) C d_For_replaceFree_32 ?_
    refine ax_iload_n (pc := 35) C d_For_replaceFree_35 rfl 3 rfl ?_
    obtain ⟨hb, h⟩ := it_g h
    refine cl_28 (pc := 36) C d_For_replaceFree_36 (bin_in hb) ?_
    refine ax_iload_n (pc := 37) C d_For_replaceFree_37 rfl 2 rfl ?_
    obtain ⟨hb, h⟩ := it_g h
    refine cs_27 (pc := 38) C d_For_replaceFree_38 (bin_in hb) ?_
    have h := it_l h
    generalize mA σ 27 (Int32.toNatClampNeg (σ.2.1 28 (Int32.toNatClampNeg x2))) (vp_nar .boolean x1) = σ1 at h ⊢
    refine ax_iinc (pc := 39) C (x2 + 1) d_For_replaceFree_39 3 rfl rfl (Nat.le_of_ble_eq_true rfl) ([(3, .int (x2 + 1)), (0, .ref (u 14)), (1, .int x0), (2, .int x1)]) rfl ?_
    refine ax_goto (pc := 42) C 12 d_For_replaceFree_42 (by decide) ?_
    refine ax_ls ([(0, .ref (u 14)), (1, .int x0), (2, .int x1), (3, .int (x2 + 1))]) [1, 2, 3, 0] rfl ?_
    have hm : sC_For_replaceFree_p12 l D kA u w tx σ1 [x0, x1, (x2 + 1)] (σf, rf, _) := ih tC_For_replaceFree_p12 _ _ _ h
    exact hm _ _ _ rfl p e s m args below meth c F Lo σ0 hF hLo C
set_option maxHeartbeats 4000000 in
set_option maxRecDepth 100000 in
theorem oC_For_variableOf (l : Launch) (D : va_G) (kA : Nat → ClassId) (u w : Nat → Nat) (tx : Value) (rec : mF) (ih : ∀ t σ xs res, rec t σ xs = some res → cSem l D kA u w tx t σ xs res) (σ : mS) (xs : List Int32) (res : mR) (h : u_0 (kC_For_variableOf rec σ) xs = some res) : sC_For_variableOf l D kA u w tx σ xs res := by
  intro hxs htx
  subst hxs
  obtain ⟨σf, rf, dd⟩ := res
  have h : (rec tC_For_variableOf_p7 σ [(σ.1 1403), 0]) = some (σf, rf, dd) := h
  refine ax_Mi.of (by decide +kernel) (Nat.le_of_ble_eq_true rfl) ?_
  intro p e s m args below meth c C hnm
  have C : ax_C p s m args meth c b_For_variableOf "ClauseProver$Formulas" 5 (some .int) D kA (va_A (cpW kA u w tx σ) s.heap.size) := C
  obtain ⟨F, hFe⟩ : ∃ F, F = dd + 1 := ⟨_, rfl⟩
  obtain ⟨Lo, hLoe⟩ : ∃ Lo, Lo = 48 * dd + 48 := ⟨_, rfl⟩
  obtain ⟨σ0, hσ0⟩ : ∃ s0, s0 = σ := ⟨_, rfl⟩
  suffices K : AW p l e { frames := F, cells := 0, slots := 0, locals := Lo } s m args below meth c D kA (va_A (cpW kA u w tx σ0) s.heap.size) 5 (ax_Qi below args s D kA (cpW kA u w tx σ0) 0 0 (fun r w1 => r = rf ∧ w1 = cpW kA u w tx σf)) 0 [(0, .ref (u 14)), (1, .ref (u 32))] [] (cpW kA u w tx σ) 0 0 by rw [hFe, hLoe, hσ0] at K; exact ax_ls ([(0, .ref (u 14)), (1, .ref (u 32))]) [0, 1] rfl K
  have C : ax_C p s m args meth c b_For_variableOf "ClauseProver$Formulas" 5 (some .int) D kA (va_A (cpW kA u w tx σ0) s.heap.size) := by rw [hσ0]; exact C
  have hF : dd + 1 ≤ F := by omega
  have hLo : 48 * dd + 48 ≤ Lo := by omega
  clear hFe hLoe hσ0
  refine ax_aload_n (pc := 0) C d_For_variableOf_0 rfl 0 rfl ?_
  refine cg_14_3_For_69 (pc := 1) C d_For_variableOf_1 ?_
  refine ax_istore_n (pc := 4) C d_For_variableOf_4 rfl (Nat.le_of_ble_eq_true rfl) ([(2, .int (σ.1 1403)), (0, .ref (u 14)), (1, .ref (u 32))]) rfl ?_
  refine ax_iconst (pc := 5) C 0 d_For_variableOf_5 (by decide +kernel) ?_
  refine ax_istore_n (pc := 6) C d_For_variableOf_6 rfl (Nat.le_of_ble_eq_true rfl) ([(3, .int 0), (2, .int (σ.1 1403)), (0, .ref (u 14)), (1, .ref (u 32))]) rfl ?_
  refine ax_ls ([(0, .ref (u 14)), (1, .ref (u 32)), (2, .int (σ.1 1403)), (3, .int 0)]) [2, 3, 1, 0] rfl ?_
  have hm : sC_For_variableOf_p7 l D kA u w tx σ [(σ.1 1403), 0] (σf, rf, _) := ih tC_For_variableOf_p7 _ _ _ h
  exact hm _ _ rfl htx p e s m args below meth c F Lo σ0 hF hLo C
set_option maxHeartbeats 4000000 in
set_option maxRecDepth 100000 in
theorem oC_For_variableOf_p7 (l : Launch) (D : va_G) (kA : Nat → ClassId) (u w : Nat → Nat) (tx : Value) (rec : mF) (ih : ∀ t σ xs res, rec t σ xs = some res → cSem l D kA u w tx t σ xs res) (σ : mS) (xs : List Int32) (res : mR) (h : u_2 (kC_For_variableOf_p7 rec σ) xs = some res) : sC_For_variableOf_p7 l D kA u w tx σ xs res := by
  intro x0 x1 hxs htx
  subst hxs
  obtain ⟨σf, rf, dd⟩ := res
  have h : (if 300 ≤ x1 then (rec tC_For_variableOf_p43 σ [x0, x1]) else (if x0 = (-1) then (rec tC_For_variableOf_p43 σ [x0, x1]) else (bnd (rec tC_For_isWord σ [x0]) (fun σ1 r1 => if r1 = 0 then (if bin x0 300 = true then (rec tC_For_variableOf_p7 σ1 [(σ1.2.1 17 (Int32.toNatClampNeg x0)), (x1 + 1)]) else none) else (some (σ1, x0, 0)))))) = some (σf, rf, dd) := h
  intro p e s m args below meth c F Lo σ0 hF hLo C
  dsimp only at hF hLo ⊢
  refine ax_iload_n (pc := 7) C d_For_variableOf_7 rfl 3 rfl ?_
  refine ax_sipush (pc := 8) C 300 d_For_variableOf_8 (by decide +kernel) ?_
  refine ax_icmp_ge (pc := 11) C 43 d_For_variableOf_11 (by decide) (fun hc => ?_) (fun hc => ?_)
  · have h := it_t hc h
    refine ax_ls ([(0, .ref (u 14)), (1, .ref (u 32)), (2, .int x0), (3, .int x1)]) [0, 1, 2, 3] rfl ?_
    have hm : sC_For_variableOf_p43 l D kA u w tx σ [x0, x1] (σf, rf, _) := ih tC_For_variableOf_p43 _ _ _ h
    exact hm _ _ rfl htx p e s m args below meth c F Lo σ0 hF hLo C
  · have h := it_f hc h
    refine ax_iload_n (pc := 14) C d_For_variableOf_14 rfl 2 rfl ?_
    refine ax_iconst (pc := 15) C (-1) d_For_variableOf_15 (by decide +kernel) ?_
    refine ax_icmp_eq (pc := 16) C 43 d_For_variableOf_16 (by decide) (fun hc => ?_) (fun hc => ?_)
    · have h := it_t hc h
      refine ax_ls ([(0, .ref (u 14)), (1, .ref (u 32)), (2, .int x0), (3, .int x1)]) [0, 1, 2, 3] rfl ?_
      have hm : sC_For_variableOf_p43 l D kA u w tx σ [x0, x1] (σf, rf, _) := ih tC_For_variableOf_p43 _ _ _ h
      exact hm _ _ rfl htx p e s m args below meth c F Lo σ0 hF hLo C
    · have h := it_f hc h
      refine ax_aload_n (pc := 19) C d_For_variableOf_19 rfl 0 rfl ?_
      refine ax_iload_n (pc := 20) C d_For_variableOf_20 rfl 2 rfl ?_
      refine ax_aload_n (pc := 21) C d_For_variableOf_21 rfl 1 rfl ?_
      obtain ⟨σ1, r1, d1_1, d2_1, h1, h, hd2, hd1⟩ := it_b h
      have hm : sC_For_isWord l D kA u w tx σ [x0] (σ1, r1, d1_1) := ih tC_For_isWord _ _ _ h1
      refine cc_Vi (pc := 22) C (r0 := r1) (σ2 := σ1) (As := [.int x0, .ref (u 32)]) (rest := []) (hm _ rfl htx) ml_For_82 14 rfl rfl rfl d_For_variableOf_22 rfl rfl (by dsimp only; omega) (by dsimp only; omega) (Nat.le_of_ble_eq_true rfl) (Nat.le_of_ble_eq_true rfl) (Nat.le_of_ble_eq_true rfl) ?_
      have hF : d2_1 + 1 ≤ F := by omega
      have hLo : 48 * d2_1 + 48 ≤ Lo := by omega
      refine ax_if_eq (pc := 25) C 30 d_For_variableOf_25 (by decide) (fun hc => ?_) (fun hc => ?_)
      · have h := it_t hc h
        refine ax_aload_n (pc := 30) C d_For_variableOf_30 rfl 0 rfl ?_
        refine cg_14_1_For_20 (pc := 31) C d_For_variableOf_31 ?_
        refine ax_iload_n (pc := 34) C d_For_variableOf_34 rfl 2 rfl ?_
        obtain ⟨hb, h⟩ := it_g h
        refine cl_17 (pc := 35) C d_For_variableOf_35 (bin_in hb) ?_
        refine ax_istore_n (pc := 36) C d_For_variableOf_36 rfl (Nat.le_of_ble_eq_true rfl) ([(2, .int (σ1.2.1 17 (Int32.toNatClampNeg x0))), (0, .ref (u 14)), (1, .ref (u 32)), (3, .int x1)]) rfl ?_
        refine ax_iinc (pc := 37) C (x1 + 1) d_For_variableOf_37 3 rfl rfl (Nat.le_of_ble_eq_true rfl) ([(3, .int (x1 + 1)), (2, .int (σ1.2.1 17 (Int32.toNatClampNeg x0))), (0, .ref (u 14)), (1, .ref (u 32))]) rfl ?_
        refine ax_goto (pc := 40) C 7 d_For_variableOf_40 (by decide) ?_
        refine ax_ls ([(0, .ref (u 14)), (1, .ref (u 32)), (2, .int (σ1.2.1 17 (Int32.toNatClampNeg x0))), (3, .int (x1 + 1))]) [2, 3, 1, 0] rfl ?_
        have hm : sC_For_variableOf_p7 l D kA u w tx σ1 [(σ1.2.1 17 (Int32.toNatClampNeg x0)), (x1 + 1)] (σf, rf, _) := ih tC_For_variableOf_p7 _ _ _ h
        exact hm _ _ rfl htx p e s m args below meth c F Lo σ0 hF hLo C
      · have h := it_f hc h
        refine ax_iload_n (pc := 28) C d_For_variableOf_28 rfl 2 rfl ?_
        cases h
        exact ax_iret (pc := 29) C d_For_variableOf_29 ⟨rfl, rfl⟩ (Nat.le_refl _) (Nat.le_refl _)
set_option maxHeartbeats 4000000 in
set_option maxRecDepth 100000 in
theorem oC_For_variableOf_p43 (l : Launch) (D : va_G) (kA : Nat → ClassId) (u w : Nat → Nat) (tx : Value) (rec : mF) (ih : ∀ t σ xs res, rec t σ xs = some res → cSem l D kA u w tx t σ xs res) (σ : mS) (xs : List Int32) (res : mR) (h : u_2 (kC_For_variableOf_p43 rec σ) xs = some res) : sC_For_variableOf_p43 l D kA u w tx σ xs res := by
  intro x0 x1 hxs htx
  subst hxs
  obtain ⟨σf, rf, dd⟩ := res
  have h : (if bin (((((σ.1 2001) : Int32) - 5) : Int32) + 3) (σ.2.2 21) = true then (rec tC_For_variableOf_p66 σ [x0, (((σ.1 2001) : Int32) - 5), (σ.2.1 21 (Int32.toNatClampNeg (((((σ.1 2001) : Int32) - 5) : Int32) + 3)))]) else none) = some (σf, rf, dd) := h
  intro p e s m args below meth c F Lo σ0 hF hLo C
  dsimp only at hF hLo ⊢
  refine ax_aload_n (pc := 43) C d_For_variableOf_43 rfl 0 rfl ?_
  refine cg_14_6_For_27 (pc := 44) C d_For_variableOf_44 ?_
  refine cg_20_1_For_59 (pc := 47) C d_For_variableOf_47 ?_
  refine ax_iconst (pc := 50) C 5 d_For_variableOf_50 (by decide +kernel) ?_
  refine ax_isub (pc := 51) C d_For_variableOf_51 ?_
  refine ax_istore_n (pc := 52) C d_For_variableOf_52 rfl (Nat.le_of_ble_eq_true rfl) ([(3, .int (((σ.1 2001) : Int32) - 5)), (0, .ref (u 14)), (1, .ref (u 32)), (2, .int x0)]) rfl ?_
  refine ax_aload_n (pc := 53) C d_For_variableOf_53 rfl 1 rfl ?_
  refine cg_14_6_For_27 (pc := 54) C d_For_variableOf_54 ?_
  refine cg_20_0_For_75 (pc := 57) C d_For_variableOf_57 ?_
  refine ax_iload_n (pc := 60) C d_For_variableOf_60 rfl 0 rfl ?_
  refine ax_iconst (pc := 61) C 3 d_For_variableOf_61 (by decide +kernel) ?_
  refine ax_iadd (pc := 62) C d_For_variableOf_62 ?_
  obtain ⟨hb, h⟩ := it_g h
  refine cl_21 (pc := 63) C d_For_variableOf_63 (bin_in hb) ?_
  refine ax_istore (pc := 64) C d_For_variableOf_64 (Nat.le_of_ble_eq_true rfl) ([(4, .int (σ.2.1 21 (Int32.toNatClampNeg (((((σ.1 2001) : Int32) - 5) : Int32) + 3)))), (3, .int (((σ.1 2001) : Int32) - 5)), (0, .ref (u 14)), (1, .ref (u 32)), (2, .int x0)]) rfl ?_
  refine ax_ls ([(0, .ref (u 14)), (1, .ref (u 32)), (2, .int x0), (3, .int (((σ.1 2001) : Int32) - 5)), (4, .int (σ.2.1 21 (Int32.toNatClampNeg (((((σ.1 2001) : Int32) - 5) : Int32) + 3))))]) [2, 3, 4, 1, 0] rfl ?_
  have hm : sC_For_variableOf_p66 l D kA u w tx σ [x0, (((σ.1 2001) : Int32) - 5), (σ.2.1 21 (Int32.toNatClampNeg (((((σ.1 2001) : Int32) - 5) : Int32) + 3)))] (σf, rf, _) := ih tC_For_variableOf_p66 _ _ _ h
  exact hm _ _ _ rfl htx p e s m args below meth c F Lo σ0 hF hLo C
set_option maxHeartbeats 4000000 in
set_option maxRecDepth 100000 in
theorem oC_For_variableOf_p66 (l : Launch) (D : va_G) (kA : Nat → ClassId) (u w : Nat → Nat) (tx : Value) (rec : mF) (ih : ∀ t σ xs res, rec t σ xs = some res → cSem l D kA u w tx t σ xs res) (σ : mS) (xs : List Int32) (res : mR) (h : u_3 (kC_For_variableOf_p66 rec σ) xs = some res) : sC_For_variableOf_p66 l D kA u w tx σ xs res := by
  intro x0 x1 x2 hxs htx
  subst hxs
  obtain ⟨σf, rf, dd⟩ := res
  have h : (if (σ.1 1414) ≤ x2 then (bnd (rec tC_For_addVariable σ []) (fun σ1 r1 => if r1 = (-1) then (rec tC_For_variableOf_p177 σ1 [r1, x1, x2]) else (if bin r1 300 = true then (lt_ (mA σ1 17 (Int32.toNatClampNeg r1) (-2)) (fun σ2 => if bin ((x1 : Int32) + 3) (σ2.2.2 21) = true then (if bin r1 300 = true then (lt_ (mA σ2 24 (Int32.toNatClampNeg r1) (((σ2.1 1414) : Int32) - (σ2.2.1 21 (Int32.toNatClampNeg ((x1 : Int32) + 3))))) (fun σ3 => lt_ (mI σ3 1414 (((σ3.1 1414) : Int32) + 1)) (fun σ4 => if bin (σ3.1 1414) 300 = true then (lt_ (mA σ4 28 (Int32.toNatClampNeg (σ3.1 1414)) r1) (fun σ5 => if bin ((x1 : Int32) + 4) (σ5.2.2 21) = true then (lt_ (mA σ5 21 (Int32.toNatClampNeg ((x1 : Int32) + 4)) (σ5.1 1414)) (fun σ6 => rec tC_For_variableOf_p177 σ6 [r1, x1, x2])) else none)) else none))) else none) else none)) else none))) else (if bin x2 300 = true then (bnd (rec tC_For_isWord σ [(σ.2.1 28 (Int32.toNatClampNeg x2))]) (fun σ7 r7 => if r7 = 0 then (rec tC_For_variableOf_p66 σ7 [x0, x1, (x2 + 1)]) else (if bin x2 300 = true then (some (σ7, (σ7.2.1 28 (Int32.toNatClampNeg x2)), 0)) else none))) else none)) = some (σf, rf, dd) := h
  intro p e s m args below meth c F Lo σ0 hF hLo C
  dsimp only at hF hLo ⊢
  refine ax_iload (pc := 66) C d_For_variableOf_66 4 rfl ?_
  refine ax_aload_n (pc := 68) C d_For_variableOf_68 rfl 0 rfl ?_
  refine cg_14_14_For_66 (pc := 69) C d_For_variableOf_69 ?_
  refine ax_icmp_ge (pc := 72) C 104 d_For_variableOf_72 (by decide) (fun hc => ?_) (fun hc => ?_)
  · have h := it_t hc h
    refine ax_aload_n (pc := 104) C d_For_variableOf_104 rfl 0 rfl ?_
    refine ax_aload_n (pc := 105) C d_For_variableOf_105 rfl 1 rfl ?_
    obtain ⟨σ1, r1, d1_1, d2_1, h1, h, hd2, hd1⟩ := it_b h
    have hm : sC_For_addVariable l D kA u w tx σ [] (σ1, r1, d1_1) := ih tC_For_addVariable _ _ _ h1
    refine cc_Vi (pc := 106) C (r0 := r1) (σ2 := σ1) (As := [.ref (u 32)]) (rest := []) (hm rfl) ml_For_78 14 rfl rfl rfl d_For_variableOf_106 rfl rfl (by dsimp only; omega) (by dsimp only; omega) (Nat.le_of_ble_eq_true rfl) (Nat.le_of_ble_eq_true rfl) (Nat.le_of_ble_eq_true rfl) ?_
    have hF : d2_1 + 1 ≤ F := by omega
    have hLo : 48 * d2_1 + 48 ≤ Lo := by omega
    refine ax_istore_n (pc := 109) C d_For_variableOf_109 rfl (Nat.le_of_ble_eq_true rfl) ([(2, .int r1), (0, .ref (u 14)), (1, .ref (u 32)), (3, .int x1), (4, .int x2)]) rfl ?_
    refine ax_iload_n (pc := 110) C d_For_variableOf_110 rfl 0 rfl ?_
    refine ax_iconst (pc := 111) C (-1) d_For_variableOf_111 (by decide +kernel) ?_
    refine ax_icmp_eq (pc := 112) C 177 d_For_variableOf_112 (by decide) (fun hc => ?_) (fun hc => ?_)
    · have h := it_t hc h
      refine ax_ls ([(0, .ref (u 14)), (1, .ref (u 32)), (2, .int r1), (3, .int x1), (4, .int x2)]) [1, 2, 0, 3, 4] rfl ?_
      have hm : sC_For_variableOf_p177 l D kA u w tx σ1 [r1, x1, x2] (σf, rf, _) := ih tC_For_variableOf_p177 _ _ _ h
      exact hm _ _ _ rfl htx p e s m args below meth c F Lo σ0 hF hLo C
    · have h := it_f hc h
      refine ax_aload_n (pc := 115) C d_For_variableOf_115 rfl 1 rfl ?_
      refine cg_14_1_For_20 (pc := 116) C d_For_variableOf_116 ?_
      refine ax_iload_n (pc := 119) C d_For_variableOf_119 rfl 0 rfl ?_
      refine ax_bipush (pc := 120) C (-2) d_For_variableOf_120 (by decide +kernel) ?_
      obtain ⟨hb, h⟩ := it_g h
      refine cs_17 (pc := 122) C d_For_variableOf_122 (bin_in hb) ?_
      have h := it_l h
      generalize mA σ1 17 (Int32.toNatClampNeg r1) (-2) = σ2 at h ⊢
      refine ax_aload_n (pc := 123) C d_For_variableOf_123 rfl 1 rfl ?_
      refine cg_14_9_For_36 (pc := 124) C d_For_variableOf_124 ?_
      refine ax_iload_n (pc := 127) C d_For_variableOf_127 rfl 0 rfl ?_
      refine ax_aload_n (pc := 128) C d_For_variableOf_128 rfl 1 rfl ?_
      refine cg_14_14_For_66 (pc := 129) C d_For_variableOf_129 ?_
      refine ax_aload_n (pc := 132) C d_For_variableOf_132 rfl 1 rfl ?_
      refine cg_14_6_For_27 (pc := 133) C d_For_variableOf_133 ?_
      refine cg_20_0_For_75 (pc := 136) C d_For_variableOf_136 ?_
      refine ax_iload_n (pc := 139) C d_For_variableOf_139 rfl 3 rfl ?_
      refine ax_iconst (pc := 140) C 3 d_For_variableOf_140 (by decide +kernel) ?_
      refine ax_iadd (pc := 141) C d_For_variableOf_141 ?_
      obtain ⟨hb, h⟩ := it_g h
      refine cl_21 (pc := 142) C d_For_variableOf_142 (bin_in hb) ?_
      refine ax_isub (pc := 143) C d_For_variableOf_143 ?_
      obtain ⟨hb, h⟩ := it_g h
      refine cs_24 (pc := 144) C d_For_variableOf_144 (bin_in hb) ?_
      have h := it_l h
      generalize mA σ2 24 (Int32.toNatClampNeg r1) (((σ2.1 1414) : Int32) - (σ2.2.1 21 (Int32.toNatClampNeg ((x1 : Int32) + 3)))) = σ3 at h ⊢
      refine ax_aload_n (pc := 145) C d_For_variableOf_145 rfl 1 rfl ?_
      refine cg_14_13_For_49 (pc := 146) C d_For_variableOf_146 ?_
      refine ax_aload_n (pc := 149) C d_For_variableOf_149 rfl 1 rfl ?_
      refine ax_dup (pc := 150) C d_For_variableOf_150 rfl ?_
      refine cg_14_14_For_66 (pc := 151) C d_For_variableOf_151 ?_
      refine ax_dup_x1 (pc := 154) C d_For_variableOf_154 rfl rfl ?_
      refine ax_iconst (pc := 155) C 1 d_For_variableOf_155 (by decide +kernel) ?_
      refine ax_iadd (pc := 156) C d_For_variableOf_156 ?_
      refine cq_14_14_For_66 (pc := 157) C d_For_variableOf_157 ?_
      have h := it_l h
      generalize mI σ3 1414 (((σ3.1 1414) : Int32) + 1) = σ4 at h ⊢
      refine ax_iload_n (pc := 160) C d_For_variableOf_160 rfl 0 rfl ?_
      obtain ⟨hb, h⟩ := it_g h
      refine cs_28 (pc := 161) C d_For_variableOf_161 (bin_in hb) ?_
      have h := it_l h
      generalize mA σ4 28 (Int32.toNatClampNeg (σ3.1 1414)) r1 = σ5 at h ⊢
      refine ax_aload_n (pc := 162) C d_For_variableOf_162 rfl 1 rfl ?_
      refine cg_14_6_For_27 (pc := 163) C d_For_variableOf_163 ?_
      refine cg_20_0_For_75 (pc := 166) C d_For_variableOf_166 ?_
      refine ax_iload_n (pc := 169) C d_For_variableOf_169 rfl 3 rfl ?_
      refine ax_iconst (pc := 170) C 4 d_For_variableOf_170 (by decide +kernel) ?_
      refine ax_iadd (pc := 171) C d_For_variableOf_171 ?_
      refine ax_aload_n (pc := 172) C d_For_variableOf_172 rfl 1 rfl ?_
      refine cg_14_14_For_66 (pc := 173) C d_For_variableOf_173 ?_
      obtain ⟨hb, h⟩ := it_g h
      refine cs_21 (pc := 176) C d_For_variableOf_176 (bin_in hb) ?_
      have h := it_l h
      generalize mA σ5 21 (Int32.toNatClampNeg ((x1 : Int32) + 4)) (σ5.1 1414) = σ6 at h ⊢
      refine ax_ls ([(0, .ref (u 14)), (1, .ref (u 32)), (2, .int r1), (3, .int x1), (4, .int x2)]) [1, 2, 0, 3, 4] rfl ?_
      have hm : sC_For_variableOf_p177 l D kA u w tx σ6 [r1, x1, x2] (σf, rf, _) := ih tC_For_variableOf_p177 _ _ _ h
      exact hm _ _ _ rfl htx p e s m args below meth c F Lo σ0 hF hLo C
  · have h := it_f hc h
    refine ax_aload_n (pc := 75) C d_For_variableOf_75 rfl 0 rfl ?_
    refine ax_aload_n (pc := 76) C d_For_variableOf_76 rfl 0 rfl ?_
    refine cg_14_13_For_49 (pc := 77) C d_For_variableOf_77 ?_
    refine ax_iload (pc := 80) C d_For_variableOf_80 4 rfl ?_
    obtain ⟨hb, h⟩ := it_g h
    refine cl_28 (pc := 82) C d_For_variableOf_82 (bin_in hb) ?_
    refine ax_aload_n (pc := 83) C d_For_variableOf_83 rfl 1 rfl ?_
    obtain ⟨σ7, r7, d1_7, d2_7, h1, h, hd2, hd1⟩ := it_b h
    have hm : sC_For_isWord l D kA u w tx σ [(σ.2.1 28 (Int32.toNatClampNeg x2))] (σ7, r7, d1_7) := ih tC_For_isWord _ _ _ h1
    refine cc_Vi (pc := 84) C (r0 := r7) (σ2 := σ7) (As := [.int (σ.2.1 28 (Int32.toNatClampNeg x2)), .ref (u 32)]) (rest := []) (hm _ rfl htx) ml_For_82 14 rfl rfl rfl d_For_variableOf_84 rfl rfl (by dsimp only; omega) (by dsimp only; omega) (Nat.le_of_ble_eq_true rfl) (Nat.le_of_ble_eq_true rfl) (Nat.le_of_ble_eq_true rfl) ?_
    have hF : d2_7 + 1 ≤ F := by omega
    have hLo : 48 * d2_7 + 48 ≤ Lo := by omega
    refine ax_if_eq (pc := 87) C 98 d_For_variableOf_87 (by decide) (fun hc => ?_) (fun hc => ?_)
    · have h := it_t hc h
      refine ax_iinc (pc := 98) C (x2 + 1) d_For_variableOf_98 4 rfl rfl (Nat.le_of_ble_eq_true rfl) ([(4, .int (x2 + 1)), (0, .ref (u 14)), (1, .ref (u 32)), (2, .int x0), (3, .int x1)]) rfl ?_
      refine ax_goto (pc := 101) C 66 d_For_variableOf_101 (by decide) ?_
      refine ax_ls ([(0, .ref (u 14)), (1, .ref (u 32)), (2, .int x0), (3, .int x1), (4, .int (x2 + 1))]) [1, 2, 3, 4, 0] rfl ?_
      have hm : sC_For_variableOf_p66 l D kA u w tx σ7 [x0, x1, (x2 + 1)] (σf, rf, _) := ih tC_For_variableOf_p66 _ _ _ h
      exact hm _ _ _ rfl htx p e s m args below meth c F Lo σ0 hF hLo C
    · have h := it_f hc h
      refine ax_aload_n (pc := 90) C d_For_variableOf_90 rfl 0 rfl ?_
      refine cg_14_13_For_49 (pc := 91) C d_For_variableOf_91 ?_
      refine ax_iload (pc := 94) C d_For_variableOf_94 4 rfl ?_
      obtain ⟨hb, h⟩ := it_g h
      refine cl_28 (pc := 96) C d_For_variableOf_96 (bin_in hb) ?_
      cases h
      exact ax_iret (pc := 97) C d_For_variableOf_97 ⟨rfl, rfl⟩ (Nat.le_refl _) (Nat.le_refl _)
set_option maxHeartbeats 4000000 in
set_option maxRecDepth 100000 in
theorem oC_For_variableOf_p177 (l : Launch) (D : va_G) (kA : Nat → ClassId) (u w : Nat → Nat) (tx : Value) (rec : mF) (ih : ∀ t σ xs res, rec t σ xs = some res → cSem l D kA u w tx t σ xs res) (σ : mS) (xs : List Int32) (res : mR) (h : u_3 (kC_For_variableOf_p177 rec σ) xs = some res) : sC_For_variableOf_p177 l D kA u w tx σ xs res := by
  intro x0 x1 x2 hxs htx
  subst hxs
  obtain ⟨σf, rf, dd⟩ := res
  have h : (some (σ, x0, 0)) = some (σf, rf, dd) := h
  intro p e s m args below meth c F Lo σ0 hF hLo C
  dsimp only at hF hLo ⊢
  refine ax_iload_n (pc := 177) C d_For_variableOf_177 rfl 2 rfl ?_
  cases h
  exact ax_iret (pc := 178) C d_For_variableOf_178 ⟨rfl, rfl⟩ (Nat.le_refl _) (Nat.le_refl _)
set_option maxHeartbeats 4000000 in
set_option maxRecDepth 100000 in
theorem oC_For_writeLiteral (l : Launch) (D : va_G) (kA : Nat → ClassId) (u w : Nat → Nat) (tx : Value) (rec : mF) (ih : ∀ t σ xs res, rec t σ xs = some res → cSem l D kA u w tx t σ xs res) (σ : mS) (xs : List Int32) (res : mR) (h : u_3 (kC_For_writeLiteral rec σ) xs = some res) : sC_For_writeLiteral l D kA u w tx σ xs res := by
  intro x0 x1 x2 hxs
  subst hxs
  obtain ⟨σf, rf, dd⟩ := res
  have h : (bnd (rec tC_Dra_openLiteral σ [x0]) (fun σ1 r1 => bnd (rec tC_For_writeTerm σ1 [x1]) (fun σ2 r2 => bnd (rec tC_Dra_openRight σ2 []) (fun σ3 r3 => if x2 = (-1) then (bnd (rec tC_Dra_put σ3 [0]) (fun σ5 r5 => rec tC_For_writeLiteral_p36 σ5 [x0, x1, x2])) else (bnd (rec tC_For_writeTerm σ3 [x2]) (fun σ4 r4 => rec tC_For_writeLiteral_p36 σ4 [x0, x1, x2])))))) = some (σf, rf, dd) := h
  refine ax_Mv.of (by decide +kernel) (Nat.le_of_ble_eq_true rfl) ?_
  intro p e s m args below meth c C hnm
  have C : ax_C p s m args meth c b_For_writeLiteral "ClauseProver$Formulas" 5 none D kA (va_A (cpW kA u w tx σ) s.heap.size) := C
  obtain ⟨F, hFe⟩ : ∃ F, F = dd + 1 := ⟨_, rfl⟩
  obtain ⟨Lo, hLoe⟩ : ∃ Lo, Lo = 48 * dd + 48 := ⟨_, rfl⟩
  obtain ⟨σ0, hσ0⟩ : ∃ s0, s0 = σ := ⟨_, rfl⟩
  suffices K : AW p l e { frames := F, cells := 0, slots := 0, locals := Lo } s m args below meth c D kA (va_A (cpW kA u w tx σ0) s.heap.size) 5 (ax_Qv below args s D kA (cpW kA u w tx σ0) 0 0 (fun w1 => w1 = cpW kA u w tx σf)) 0 [(0, .ref (u 14)), (1, .ref (u 39)), (2, .int x0), (3, .int x1), (4, .int x2)] [] (cpW kA u w tx σ) 0 0 by rw [hFe, hLoe, hσ0] at K; exact ax_ls ([(0, .ref (u 14)), (1, .ref (u 39)), (2, .int x0), (3, .int x1), (4, .int x2)]) [0, 1, 2, 3, 4] rfl K
  have C : ax_C p s m args meth c b_For_writeLiteral "ClauseProver$Formulas" 5 none D kA (va_A (cpW kA u w tx σ0) s.heap.size) := by rw [hσ0]; exact C
  have hF : dd + 1 ≤ F := by omega
  have hLo : 48 * dd + 48 ≤ Lo := by omega
  clear hFe hLoe hσ0
  refine ax_aload_n (pc := 0) C d_For_writeLiteral_0 rfl 1 rfl ?_
  refine ax_iload_n (pc := 1) C d_For_writeLiteral_1 rfl 2 rfl ?_
  obtain ⟨σ1, r1, d1_1, d2_1, h1, h, hd2, hd1⟩ := it_b h
  have hm : sC_Dra_openLiteral l D kA u w tx σ [x0] (σ1, r1, d1_1) := ih tC_Dra_openLiteral _ _ _ h1
  refine cc_Vv (pc := 2) C (σ2 := σ1) (As := [.int x0]) (rest := []) (hm _ rfl) ml_For_176 39 rfl rfl rfl d_For_writeLiteral_2 rfl rfl (by dsimp only; omega) (by dsimp only; omega) (Nat.le_of_ble_eq_true rfl) (Nat.le_of_ble_eq_true rfl) (Nat.le_of_ble_eq_true rfl) ?_
  have hF : d2_1 + 1 ≤ F := by omega
  have hLo : 48 * d2_1 + 48 ≤ Lo := by omega
  refine ax_aload_n (pc := 5) C d_For_writeLiteral_5 rfl 0 rfl ?_
  refine ax_aload_n (pc := 6) C d_For_writeLiteral_6 rfl 1 rfl ?_
  refine ax_iload_n (pc := 7) C d_For_writeLiteral_7 rfl 3 rfl ?_
  obtain ⟨σ2, r2, d1_2, d2_2, h1, h, hd2, hd1⟩ := it_b h
  have hm : sC_For_writeTerm l D kA u w tx σ1 [x1] (σ2, r2, d1_2) := ih tC_For_writeTerm _ _ _ h1
  refine cc_Vv (pc := 8) C (σ2 := σ2) (As := [.ref (u 39), .int x1]) (rest := []) (hm _ rfl) ml_For_180 14 rfl rfl rfl d_For_writeLiteral_8 rfl rfl (by dsimp only; omega) (by dsimp only; omega) (Nat.le_of_ble_eq_true rfl) (Nat.le_of_ble_eq_true rfl) (Nat.le_of_ble_eq_true rfl) ?_
  have hF : d2_2 + 1 ≤ F := by omega
  have hLo : 48 * d2_2 + 48 ≤ Lo := by omega
  refine ax_aload_n (pc := 11) C d_For_writeLiteral_11 rfl 1 rfl ?_
  obtain ⟨σ3, r3, d1_3, d2_3, h1, h, hd2, hd1⟩ := it_b h
  have hm : sC_Dra_openRight l D kA u w tx σ2 [] (σ3, r3, d1_3) := ih tC_Dra_openRight _ _ _ h1
  refine cc_Vv (pc := 12) C (σ2 := σ3) (As := []) (rest := []) (hm rfl) ml_For_184 39 rfl rfl rfl d_For_writeLiteral_12 rfl rfl (by dsimp only; omega) (by dsimp only; omega) (Nat.le_of_ble_eq_true rfl) (Nat.le_of_ble_eq_true rfl) (Nat.le_of_ble_eq_true rfl) ?_
  have hF : d2_3 + 1 ≤ F := by omega
  have hLo : 48 * d2_3 + 48 ≤ Lo := by omega
  refine ax_iload (pc := 15) C d_For_writeLiteral_15 4 rfl ?_
  refine ax_iconst (pc := 17) C (-1) d_For_writeLiteral_17 (by decide +kernel) ?_
  refine ax_icmp_ne (pc := 18) C 29 d_For_writeLiteral_18 (by decide) (fun hc => ?_) (fun hc => ?_)
  · have h := it_f hc h
    refine ax_aload_n (pc := 29) C d_For_writeLiteral_29 rfl 0 rfl ?_
    refine ax_aload_n (pc := 30) C d_For_writeLiteral_30 rfl 1 rfl ?_
    refine ax_iload (pc := 31) C d_For_writeLiteral_31 4 rfl ?_
    obtain ⟨σ4, r4, d1_4, d2_4, h1, h, hd2, hd1⟩ := it_b h
    have hm : sC_For_writeTerm l D kA u w tx σ3 [x2] (σ4, r4, d1_4) := ih tC_For_writeTerm _ _ _ h1
    refine cc_Vv (pc := 33) C (σ2 := σ4) (As := [.ref (u 39), .int x2]) (rest := []) (hm _ rfl) ml_For_180 14 rfl rfl rfl d_For_writeLiteral_33 rfl rfl (by dsimp only; omega) (by dsimp only; omega) (Nat.le_of_ble_eq_true rfl) (Nat.le_of_ble_eq_true rfl) (Nat.le_of_ble_eq_true rfl) ?_
    have hF : d2_4 + 1 ≤ F := by omega
    have hLo : 48 * d2_4 + 48 ≤ Lo := by omega
    refine ax_ls ([(0, .ref (u 14)), (1, .ref (u 39)), (2, .int x0), (3, .int x1), (4, .int x2)]) [0, 1, 2, 3, 4] rfl ?_
    have hm : sC_For_writeLiteral_p36 l D kA u w tx σ4 [x0, x1, x2] (σf, rf, _) := ih tC_For_writeLiteral_p36 _ _ _ h
    exact hm _ _ _ rfl p e s m args below meth c F Lo σ0 hF hLo C
  · have h := it_t hc h
    refine ax_aload_n (pc := 21) C d_For_writeLiteral_21 rfl 1 rfl ?_
    refine ax_iconst (pc := 22) C 0 d_For_writeLiteral_22 (by decide +kernel) ?_
    obtain ⟨σ5, r5, d1_5, d2_5, h1, h, hd2, hd1⟩ := it_b h
    have hm : sC_Dra_put l D kA u w tx σ3 [0] (σ5, r5, d1_5) := ih tC_Dra_put _ _ _ h1
    refine cc_Vv (pc := 23) C (σ2 := σ5) (As := [.int 0]) (rest := []) (hm _ rfl) ml_For_187 39 rfl rfl rfl d_For_writeLiteral_23 rfl rfl (by dsimp only; omega) (by dsimp only; omega) (Nat.le_of_ble_eq_true rfl) (Nat.le_of_ble_eq_true rfl) (Nat.le_of_ble_eq_true rfl) ?_
    have hF : d2_5 + 1 ≤ F := by omega
    have hLo : 48 * d2_5 + 48 ≤ Lo := by omega
    refine ax_goto (pc := 26) C 36 d_For_writeLiteral_26 (by decide) ?_
    refine ax_ls ([(0, .ref (u 14)), (1, .ref (u 39)), (2, .int x0), (3, .int x1), (4, .int x2)]) [0, 1, 2, 3, 4] rfl ?_
    have hm : sC_For_writeLiteral_p36 l D kA u w tx σ5 [x0, x1, x2] (σf, rf, _) := ih tC_For_writeLiteral_p36 _ _ _ h
    exact hm _ _ _ rfl p e s m args below meth c F Lo σ0 hF hLo C
set_option maxHeartbeats 4000000 in
set_option maxRecDepth 100000 in
theorem oC_For_writeLiteral_p36 (l : Launch) (D : va_G) (kA : Nat → ClassId) (u w : Nat → Nat) (tx : Value) (rec : mF) (ih : ∀ t σ xs res, rec t σ xs = some res → cSem l D kA u w tx t σ xs res) (σ : mS) (xs : List Int32) (res : mR) (h : u_3 (kC_For_writeLiteral_p36 rec σ) xs = some res) : sC_For_writeLiteral_p36 l D kA u w tx σ xs res := by
  intro x0 x1 x2 hxs
  subst hxs
  obtain ⟨σf, rf, dd⟩ := res
  have h : (bnd (rec tC_Dra_closeLiteral σ []) (fun σ1 r1 => some (σ1, 0, 0))) = some (σf, rf, dd) := h
  intro p e s m args below meth c F Lo σ0 hF hLo C
  dsimp only at hF hLo ⊢
  refine ax_aload_n (pc := 36) C d_For_writeLiteral_36 rfl 1 rfl ?_
  obtain ⟨σ1, r1, d1_1, d2_1, h1, h, hd2, hd1⟩ := it_b h
  have hm : sC_Dra_closeLiteral l D kA u w tx σ [] (σ1, r1, d1_1) := ih tC_Dra_closeLiteral _ _ _ h1
  refine cc_Vv (pc := 37) C (σ2 := σ1) (As := []) (rest := []) (hm rfl) ml_For_190 39 rfl rfl rfl d_For_writeLiteral_37 rfl rfl (by dsimp only; omega) (by dsimp only; omega) (Nat.le_of_ble_eq_true rfl) (Nat.le_of_ble_eq_true rfl) (Nat.le_of_ble_eq_true rfl) ?_
  have hF : d2_1 + 1 ≤ F := by omega
  have hLo : 48 * d2_1 + 48 ≤ Lo := by omega
  cases h
  exact ax_vret (pc := 40) C d_For_writeLiteral_40 rfl (Nat.le_refl _) (Nat.le_refl _)
set_option maxHeartbeats 4000000 in
set_option maxRecDepth 100000 in
theorem oC_For_writeTerm (l : Launch) (D : va_G) (kA : Nat → ClassId) (u w : Nat → Nat) (tx : Value) (rec : mF) (ih : ∀ t σ xs res, rec t σ xs = some res → cSem l D kA u w tx t σ xs res) (σ : mS) (xs : List Int32) (res : mR) (h : u_1 (kC_For_writeTerm rec σ) xs = some res) : sC_For_writeTerm l D kA u w tx σ xs res := by
  intro x0 hxs
  subst hxs
  obtain ⟨σf, rf, dd⟩ := res
  have h : (bnd (rec tC_Sym_after_16 σ [x0]) (fun σ1 r1 => rec tC_For_writeTerm_p19 σ1 [x0, r1, x0])) = some (σf, rf, dd) := h
  refine ax_Mv.of (by decide +kernel) (Nat.le_of_ble_eq_true rfl) ?_
  intro p e s m args below meth c C hnm
  have C : ax_C p s m args meth c b_For_writeTerm "ClauseProver$Formulas" 5 none D kA (va_A (cpW kA u w tx σ) s.heap.size) := C
  obtain ⟨F, hFe⟩ : ∃ F, F = dd + 1 := ⟨_, rfl⟩
  obtain ⟨Lo, hLoe⟩ : ∃ Lo, Lo = 48 * dd + 48 := ⟨_, rfl⟩
  obtain ⟨σ0, hσ0⟩ : ∃ s0, s0 = σ := ⟨_, rfl⟩
  suffices K : AW p l e { frames := F, cells := 0, slots := 0, locals := Lo } s m args below meth c D kA (va_A (cpW kA u w tx σ0) s.heap.size) 5 (ax_Qv below args s D kA (cpW kA u w tx σ0) 0 0 (fun w1 => w1 = cpW kA u w tx σf)) 0 [(0, .ref (u 14)), (1, .ref (u 39)), (2, .int x0)] [] (cpW kA u w tx σ) 0 0 by rw [hFe, hLoe, hσ0] at K; exact ax_ls ([(0, .ref (u 14)), (1, .ref (u 39)), (2, .int x0)]) [0, 1, 2] rfl K
  have C : ax_C p s m args meth c b_For_writeTerm "ClauseProver$Formulas" 5 none D kA (va_A (cpW kA u w tx σ0) s.heap.size) := by rw [hσ0]; exact C
  have hF : dd + 1 ≤ F := by omega
  have hLo : 48 * dd + 48 ≤ Lo := by omega
  clear hFe hLoe hσ0
  refine ax_aload_n (pc := 0) C d_For_writeTerm_0 rfl 0 rfl ?_
  refine cg_14_4_For_55 (pc := 1) C d_For_writeTerm_1 ?_
  refine ax_aload_n (pc := 4) C d_For_writeTerm_4 rfl 0 rfl ?_
  refine cg_14_0_For_14 (pc := 5) C d_For_writeTerm_5 ?_
  refine cg_15_0_For_75 (pc := 8) C d_For_writeTerm_8 ?_
  refine ax_iload_n (pc := 11) C d_For_writeTerm_11 rfl 2 rfl ?_
  obtain ⟨σ1, r1, d1_1, d2_1, h1, h, hd2, hd1⟩ := it_b h
  have hm : sC_Sym_after_16 l D kA u w tx σ [x0] (σ1, r1, d1_1) := ih tC_Sym_after_16 _ _ _ h1
  refine cc_Vi (pc := 12) C (r0 := r1) (σ2 := σ1) (As := [.ref (w 16), .int x0]) (rest := []) (hm _ rfl) ml_For_193 6 rfl rfl rfl d_For_writeTerm_12 rfl rfl (by dsimp only; omega) (by dsimp only; omega) (Nat.le_of_ble_eq_true rfl) (Nat.le_of_ble_eq_true rfl) (Nat.le_of_ble_eq_true rfl) ?_
  have hF : d2_1 + 1 ≤ F := by omega
  have hLo : 48 * d2_1 + 48 ≤ Lo := by omega
  refine ax_istore_n (pc := 15) C d_For_writeTerm_15 rfl (Nat.le_of_ble_eq_true rfl) ([(3, .int r1), (0, .ref (u 14)), (1, .ref (u 39)), (2, .int x0)]) rfl ?_
  refine ax_iload_n (pc := 16) C d_For_writeTerm_16 rfl 3 rfl ?_
  refine ax_istore (pc := 17) C d_For_writeTerm_17 (Nat.le_of_ble_eq_true rfl) ([(4, .int x0), (3, .int r1), (0, .ref (u 14)), (1, .ref (u 39)), (2, .int x0)]) rfl ?_
  refine ax_ls ([(0, .ref (u 14)), (1, .ref (u 39)), (2, .int x0), (3, .int r1), (4, .int x0)]) [2, 3, 4, 1, 0] rfl ?_
  have hm : sC_For_writeTerm_p19 l D kA u w tx σ1 [x0, r1, x0] (σf, rf, _) := ih tC_For_writeTerm_p19 _ _ _ h
  exact hm _ _ _ rfl p e s m args below meth c F Lo σ0 hF hLo C
set_option maxHeartbeats 4000000 in
set_option maxRecDepth 100000 in
theorem oC_For_writeTerm_p19 (l : Launch) (D : va_G) (kA : Nat → ClassId) (u w : Nat → Nat) (tx : Value) (rec : mF) (ih : ∀ t σ xs res, rec t σ xs = some res → cSem l D kA u w tx t σ xs res) (σ : mS) (xs : List Int32) (res : mR) (h : u_3 (kC_For_writeTerm_p19 rec σ) xs = some res) : sC_For_writeTerm_p19 l D kA u w tx σ xs res := by
  intro x0 x1 x2 hxs
  subst hxs
  obtain ⟨σf, rf, dd⟩ := res
  have h : (if x1 ≤ x2 then (rec tC_For_writeTerm_p86 σ [x0, x1, x2]) else (if (σ.1 3907) = 0 then (if bin x2 (σ.2.2 16) = true then (if 0 ≤ (σ.2.1 16 (Int32.toNatClampNeg x2)) then (if bin x2 (σ.2.2 16) = true then (bnd (rec tC_Dra_put σ [(σ.2.1 16 (Int32.toNatClampNeg x2))]) (fun σ1 r1 => rec tC_For_writeTerm_p80 σ1 [x0, x1, x2])) else none) else (if bin x2 (σ.2.2 16) = true then (bnd (rec tC_For_writeVariable σ [(((σ.2.1 16 (Int32.toNatClampNeg x2)) : Int32) ^^^ (-1)), 0]) (fun σ2 r2 => rec tC_For_writeTerm_p80 σ2 [x0, x1, x2])) else none)) else none) else (rec tC_For_writeTerm_p86 σ [x0, x1, x2]))) = some (σf, rf, dd) := h
  intro p e s m args below meth c F Lo σ0 hF hLo C
  dsimp only at hF hLo ⊢
  refine ax_iload (pc := 19) C d_For_writeTerm_19 4 rfl ?_
  refine ax_iload_n (pc := 21) C d_For_writeTerm_21 rfl 3 rfl ?_
  refine ax_icmp_ge (pc := 22) C 86 d_For_writeTerm_22 (by decide) (fun hc => ?_) (fun hc => ?_)
  · have h := it_t hc h
    refine ax_ls ([(0, .ref (u 14)), (1, .ref (u 39)), (2, .int x0), (3, .int x1), (4, .int x2)]) [0, 1, 2, 3, 4] rfl ?_
    have hm : sC_For_writeTerm_p86 l D kA u w tx σ [x0, x1, x2] (σf, rf, _) := ih tC_For_writeTerm_p86 _ _ _ h
    exact hm _ _ _ rfl p e s m args below meth c F Lo σ0 hF hLo C
  · have h := it_f hc h
    refine ax_aload_n (pc := 25) C d_For_writeTerm_25 rfl 1 rfl ?_
    refine cg_39_7_For_135 (pc := 26) C d_For_writeTerm_26 ?_
    refine ax_if_ne (pc := 29) C 86 d_For_writeTerm_29 (by decide) (fun hc => ?_) (fun hc => ?_)
    · have h := it_f hc h
      refine ax_ls ([(0, .ref (u 14)), (1, .ref (u 39)), (2, .int x0), (3, .int x1), (4, .int x2)]) [0, 1, 2, 3, 4] rfl ?_
      have hm : sC_For_writeTerm_p86 l D kA u w tx σ [x0, x1, x2] (σf, rf, _) := ih tC_For_writeTerm_p86 _ _ _ h
      exact hm _ _ _ rfl p e s m args below meth c F Lo σ0 hF hLo C
    · have h := it_t hc h
      refine ax_aload_n (pc := 32) C d_For_writeTerm_32 rfl 0 rfl ?_
      refine cg_14_0_For_14 (pc := 33) C d_For_writeTerm_33 ?_
      refine cg_15_0_For_75 (pc := 36) C d_For_writeTerm_36 ?_
      refine ax_iload (pc := 39) C d_For_writeTerm_39 4 rfl ?_
      obtain ⟨hb, h⟩ := it_g h
      refine cl_16 (pc := 41) C d_For_writeTerm_41 (bin_in hb) ?_
      refine ax_if_ge (pc := 42) C 66 d_For_writeTerm_42 (by decide) (fun hc => ?_) (fun hc => ?_)
      · have h := it_t hc h
        refine ax_aload_n (pc := 66) C d_For_writeTerm_66 rfl 1 rfl ?_
        refine ax_aload_n (pc := 67) C d_For_writeTerm_67 rfl 0 rfl ?_
        refine cg_14_0_For_14 (pc := 68) C d_For_writeTerm_68 ?_
        refine cg_15_0_For_75 (pc := 71) C d_For_writeTerm_71 ?_
        refine ax_iload (pc := 74) C d_For_writeTerm_74 4 rfl ?_
        obtain ⟨hb, h⟩ := it_g h
        refine cl_16 (pc := 76) C d_For_writeTerm_76 (bin_in hb) ?_
        obtain ⟨σ1, r1, d1_1, d2_1, h1, h, hd2, hd1⟩ := it_b h
        have hm : sC_Dra_put l D kA u w tx σ [(σ.2.1 16 (Int32.toNatClampNeg x2))] (σ1, r1, d1_1) := ih tC_Dra_put _ _ _ h1
        refine cc_Vv (pc := 77) C (σ2 := σ1) (As := [.int (σ.2.1 16 (Int32.toNatClampNeg x2))]) (rest := []) (hm _ rfl) ml_For_187 39 rfl rfl rfl d_For_writeTerm_77 rfl rfl (by dsimp only; omega) (by dsimp only; omega) (Nat.le_of_ble_eq_true rfl) (Nat.le_of_ble_eq_true rfl) (Nat.le_of_ble_eq_true rfl) ?_
        have hF : d2_1 + 1 ≤ F := by omega
        have hLo : 48 * d2_1 + 48 ≤ Lo := by omega
        refine ax_ls ([(0, .ref (u 14)), (1, .ref (u 39)), (2, .int x0), (3, .int x1), (4, .int x2)]) [0, 1, 2, 3, 4] rfl ?_
        have hm : sC_For_writeTerm_p80 l D kA u w tx σ1 [x0, x1, x2] (σf, rf, _) := ih tC_For_writeTerm_p80 _ _ _ h
        exact hm _ _ _ rfl p e s m args below meth c F Lo σ0 hF hLo C
      · have h := it_f hc h
        refine ax_aload_n (pc := 45) C d_For_writeTerm_45 rfl 0 rfl ?_
        refine ax_aload_n (pc := 46) C d_For_writeTerm_46 rfl 1 rfl ?_
        refine ax_aload_n (pc := 47) C d_For_writeTerm_47 rfl 0 rfl ?_
        refine cg_14_0_For_14 (pc := 48) C d_For_writeTerm_48 ?_
        refine cg_15_0_For_75 (pc := 51) C d_For_writeTerm_51 ?_
        refine ax_iload (pc := 54) C d_For_writeTerm_54 4 rfl ?_
        obtain ⟨hb, h⟩ := it_g h
        refine cl_16 (pc := 56) C d_For_writeTerm_56 (bin_in hb) ?_
        refine ax_iconst (pc := 57) C (-1) d_For_writeTerm_57 (by decide +kernel) ?_
        refine ax_ixor (pc := 58) C d_For_writeTerm_58 ?_
        refine ax_iconst (pc := 59) C 0 d_For_writeTerm_59 (by decide +kernel) ?_
        obtain ⟨σ2, r2, d1_2, d2_2, h1, h, hd2, hd1⟩ := it_b h
        have hm : sC_For_writeVariable l D kA u w tx σ [(((σ.2.1 16 (Int32.toNatClampNeg x2)) : Int32) ^^^ (-1)), 0] (σ2, r2, d1_2) := ih tC_For_writeVariable _ _ _ h1
        refine cc_Vv (pc := 60) C (σ2 := σ2) (As := [.ref (u 39), .int (((σ.2.1 16 (Int32.toNatClampNeg x2)) : Int32) ^^^ (-1)), .int 0]) (rest := []) (hm _ _ rfl) ml_For_197 14 rfl rfl rfl d_For_writeTerm_60 rfl rfl (by dsimp only; omega) (by dsimp only; omega) (Nat.le_of_ble_eq_true rfl) (Nat.le_of_ble_eq_true rfl) (Nat.le_of_ble_eq_true rfl) ?_
        have hF : d2_2 + 1 ≤ F := by omega
        have hLo : 48 * d2_2 + 48 ≤ Lo := by omega
        refine ax_goto (pc := 63) C 80 d_For_writeTerm_63 (by decide) ?_
        refine ax_ls ([(0, .ref (u 14)), (1, .ref (u 39)), (2, .int x0), (3, .int x1), (4, .int x2)]) [0, 1, 2, 3, 4] rfl ?_
        have hm : sC_For_writeTerm_p80 l D kA u w tx σ2 [x0, x1, x2] (σf, rf, _) := ih tC_For_writeTerm_p80 _ _ _ h
        exact hm _ _ _ rfl p e s m args below meth c F Lo σ0 hF hLo C
set_option maxHeartbeats 4000000 in
set_option maxRecDepth 100000 in
theorem oC_For_writeTerm_p80 (l : Launch) (D : va_G) (kA : Nat → ClassId) (u w : Nat → Nat) (tx : Value) (rec : mF) (ih : ∀ t σ xs res, rec t σ xs = some res → cSem l D kA u w tx t σ xs res) (σ : mS) (xs : List Int32) (res : mR) (h : u_3 (kC_For_writeTerm_p80 rec σ) xs = some res) : sC_For_writeTerm_p80 l D kA u w tx σ xs res := by
  intro x0 x1 x2 hxs
  subst hxs
  obtain ⟨σf, rf, dd⟩ := res
  have h : (rec tC_For_writeTerm_p19 σ [x0, x1, (x2 + 1)]) = some (σf, rf, dd) := h
  intro p e s m args below meth c F Lo σ0 hF hLo C
  dsimp only at hF hLo ⊢
  refine ax_iinc (pc := 80) C (x2 + 1) d_For_writeTerm_80 4 rfl rfl (Nat.le_of_ble_eq_true rfl) ([(4, .int (x2 + 1)), (0, .ref (u 14)), (1, .ref (u 39)), (2, .int x0), (3, .int x1)]) rfl ?_
  refine ax_goto (pc := 83) C 19 d_For_writeTerm_83 (by decide) ?_
  refine ax_ls ([(0, .ref (u 14)), (1, .ref (u 39)), (2, .int x0), (3, .int x1), (4, .int (x2 + 1))]) [1, 2, 3, 4, 0] rfl ?_
  have hm : sC_For_writeTerm_p19 l D kA u w tx σ [x0, x1, (x2 + 1)] (σf, rf, _) := ih tC_For_writeTerm_p19 _ _ _ h
  exact hm _ _ _ rfl p e s m args below meth c F Lo σ0 hF hLo C
set_option maxHeartbeats 4000000 in
set_option maxRecDepth 100000 in
theorem oC_For_writeTerm_p86 (l : Launch) (D : va_G) (kA : Nat → ClassId) (u w : Nat → Nat) (tx : Value) (rec : mF) (ih : ∀ t σ xs res, rec t σ xs = some res → cSem l D kA u w tx t σ xs res) (σ : mS) (xs : List Int32) (res : mR) (h : u_3 (kC_For_writeTerm_p86 rec σ) xs = some res) : sC_For_writeTerm_p86 l D kA u w tx σ xs res := by
  intro x0 x1 x2 hxs
  subst hxs
  obtain ⟨σf, rf, dd⟩ := res
  have h : (some (σ, 0, 0)) = some (σf, rf, dd) := h
  intro p e s m args below meth c F Lo σ0 hF hLo C
  dsimp only at hF hLo ⊢
  cases h
  exact ax_vret (pc := 86) C d_For_writeTerm_86 rfl (Nat.le_refl _) (Nat.le_refl _)
set_option maxHeartbeats 4000000 in
set_option maxRecDepth 100000 in
theorem oC_For_writeVariable (l : Launch) (D : va_G) (kA : Nat → ClassId) (u w : Nat → Nat) (tx : Value) (rec : mF) (ih : ∀ t σ xs res, rec t σ xs = some res → cSem l D kA u w tx t σ xs res) (σ : mS) (xs : List Int32) (res : mR) (h : u_2 (kC_For_writeVariable rec σ) xs = some res) : sC_For_writeVariable l D kA u w tx σ xs res := by
  intro x0 x1 hxs
  subst hxs
  obtain ⟨σf, rf, dd⟩ := res
  have h : (if bin x0 300 = true then (if (σ.2.1 27 (Int32.toNatClampNeg x0)) = 0 then (bnd (rec tC_Dra_cellOf σ [x0]) (fun σ4 r4 => bnd (rec tC_Dra_put σ4 [r4]) (fun σ5 r5 => some (σ5, 0, 0)))) else (if bin x0 300 = true then (bnd (rec tC_Dra_put σ [(σ.2.1 26 (Int32.toNatClampNeg x0))]) (fun σ1 r1 => bnd (rec tC_For_around σ1 [x0]) (fun σ2 r2 => if x1 ≤ 60 then (rec tC_For_writeVariable_p47 σ2 [x0, x1, r2]) else (lt_ (mI σ2 3907 1) (fun σ3 => rec tC_For_writeVariable_p47 σ3 [x0, x1, r2]))))) else none)) else none) = some (σf, rf, dd) := h
  refine ax_Mv.of (by decide +kernel) (Nat.le_of_ble_eq_true rfl) ?_
  intro p e s m args below meth c C hnm
  have C : ax_C p s m args meth c b_For_writeVariable "ClauseProver$Formulas" 6 none D kA (va_A (cpW kA u w tx σ) s.heap.size) := C
  obtain ⟨F, hFe⟩ : ∃ F, F = dd + 1 := ⟨_, rfl⟩
  obtain ⟨Lo, hLoe⟩ : ∃ Lo, Lo = 48 * dd + 48 := ⟨_, rfl⟩
  obtain ⟨σ0, hσ0⟩ : ∃ s0, s0 = σ := ⟨_, rfl⟩
  suffices K : AW p l e { frames := F, cells := 0, slots := 0, locals := Lo } s m args below meth c D kA (va_A (cpW kA u w tx σ0) s.heap.size) 6 (ax_Qv below args s D kA (cpW kA u w tx σ0) 0 0 (fun w1 => w1 = cpW kA u w tx σf)) 0 [(0, .ref (u 14)), (1, .ref (u 39)), (2, .int x0), (3, .int x1)] [] (cpW kA u w tx σ) 0 0 by rw [hFe, hLoe, hσ0] at K; exact ax_ls ([(0, .ref (u 14)), (1, .ref (u 39)), (2, .int x0), (3, .int x1)]) [0, 1, 2, 3] rfl K
  have C : ax_C p s m args meth c b_For_writeVariable "ClauseProver$Formulas" 6 none D kA (va_A (cpW kA u w tx σ0) s.heap.size) := by rw [hσ0]; exact C
  have hF : dd + 1 ≤ F := by omega
  have hLo : 48 * dd + 48 ≤ Lo := by omega
  clear hFe hLoe hσ0
  refine ax_aload_n (pc := 0) C d_For_writeVariable_0 rfl 0 rfl ?_
  refine cg_14_12_For_45 (pc := 1) C d_For_writeVariable_1 ?_
  refine ax_iload_n (pc := 4) C d_For_writeVariable_4 rfl 2 rfl ?_
  obtain ⟨hb, h⟩ := it_g h
  refine cl_27 (pc := 5) C d_For_writeVariable_5 (bin_in hb) ?_
  refine ax_if_ne (pc := 6) C 19 d_For_writeVariable_6 (by decide) (fun hc => ?_) (fun hc => ?_)
  · have h := it_f hc h
    refine ax_aload_n (pc := 19) C d_For_writeVariable_19 rfl 1 rfl ?_
    refine ax_aload_n (pc := 20) C d_For_writeVariable_20 rfl 0 rfl ?_
    refine cg_14_11_For_42 (pc := 21) C d_For_writeVariable_21 ?_
    refine ax_iload_n (pc := 24) C d_For_writeVariable_24 rfl 2 rfl ?_
    obtain ⟨hb, h⟩ := it_g h
    refine cl_26 (pc := 25) C d_For_writeVariable_25 (bin_in hb) ?_
    obtain ⟨σ1, r1, d1_1, d2_1, h1, h, hd2, hd1⟩ := it_b h
    have hm : sC_Dra_put l D kA u w tx σ [(σ.2.1 26 (Int32.toNatClampNeg x0))] (σ1, r1, d1_1) := ih tC_Dra_put _ _ _ h1
    refine cc_Vv (pc := 26) C (σ2 := σ1) (As := [.int (σ.2.1 26 (Int32.toNatClampNeg x0))]) (rest := []) (hm _ rfl) ml_For_187 39 rfl rfl rfl d_For_writeVariable_26 rfl rfl (by dsimp only; omega) (by dsimp only; omega) (Nat.le_of_ble_eq_true rfl) (Nat.le_of_ble_eq_true rfl) (Nat.le_of_ble_eq_true rfl) ?_
    have hF : d2_1 + 1 ≤ F := by omega
    have hLo : 48 * d2_1 + 48 ≤ Lo := by omega
    refine ax_aload_n (pc := 29) C d_For_writeVariable_29 rfl 0 rfl ?_
    refine ax_iload_n (pc := 30) C d_For_writeVariable_30 rfl 2 rfl ?_
    obtain ⟨σ2, r2, d1_2, d2_2, h1, h, hd2, hd1⟩ := it_b h
    have hm : sC_For_around l D kA u w tx σ1 [x0] (σ2, r2, d1_2) := ih tC_For_around _ _ _ h1
    refine cc_Vi (pc := 31) C (r0 := r2) (σ2 := σ2) (As := [.int x0]) (rest := []) (hm _ rfl) ml_For_118 14 rfl rfl rfl d_For_writeVariable_31 rfl rfl (by dsimp only; omega) (by dsimp only; omega) (Nat.le_of_ble_eq_true rfl) (Nat.le_of_ble_eq_true rfl) (Nat.le_of_ble_eq_true rfl) ?_
    have hF : d2_2 + 1 ≤ F := by omega
    have hLo : 48 * d2_2 + 48 ≤ Lo := by omega
    refine ax_istore (pc := 34) C d_For_writeVariable_34 (Nat.le_of_ble_eq_true rfl) ([(4, .int r2), (0, .ref (u 14)), (1, .ref (u 39)), (2, .int x0), (3, .int x1)]) rfl ?_
    refine ax_iload_n (pc := 36) C d_For_writeVariable_36 rfl 4 rfl ?_
    refine ax_bipush (pc := 37) C 60 d_For_writeVariable_37 (by decide +kernel) ?_
    refine ax_icmp_le (pc := 39) C 47 d_For_writeVariable_39 (by decide) (fun hc => ?_) (fun hc => ?_)
    · have h := it_t hc h
      refine ax_ls ([(0, .ref (u 14)), (1, .ref (u 39)), (2, .int x0), (3, .int x1), (4, .int r2)]) [1, 2, 3, 4, 0] rfl ?_
      have hm : sC_For_writeVariable_p47 l D kA u w tx σ2 [x0, x1, r2] (σf, rf, _) := ih tC_For_writeVariable_p47 _ _ _ h
      exact hm _ _ _ rfl p e s m args below meth c F Lo σ0 hF hLo C
    · have h := it_f hc h
      refine ax_aload_n (pc := 42) C d_For_writeVariable_42 rfl 2 rfl ?_
      refine ax_iconst (pc := 43) C 1 d_For_writeVariable_43 (by decide +kernel) ?_
      refine cq_39_7_For_135 (pc := 44) C (by decide) d_For_writeVariable_44 ?_
      have h := it_l h
      generalize mI σ2 3907 1 = σ3 at h ⊢
      refine ax_ls ([(0, .ref (u 14)), (1, .ref (u 39)), (2, .int x0), (3, .int x1), (4, .int r2)]) [1, 2, 3, 4, 0] rfl ?_
      have hm : sC_For_writeVariable_p47 l D kA u w tx σ3 [x0, x1, r2] (σf, rf, _) := ih tC_For_writeVariable_p47 _ _ _ h
      exact hm _ _ _ rfl p e s m args below meth c F Lo σ0 hF hLo C
  · have h := it_t hc h
    refine ax_aload_n (pc := 9) C d_For_writeVariable_9 rfl 1 rfl ?_
    refine ax_aload_n (pc := 10) C d_For_writeVariable_10 rfl 1 rfl ?_
    refine ax_iload_n (pc := 11) C d_For_writeVariable_11 rfl 2 rfl ?_
    obtain ⟨σ4, r4, d1_4, d2_4, h1, h, hd2, hd1⟩ := it_b h
    have hm : sC_Dra_cellOf l D kA u w tx σ [x0] (σ4, r4, d1_4) := ih tC_Dra_cellOf _ _ _ h1
    refine cc_Vi (pc := 12) C (r0 := r4) (σ2 := σ4) (As := [.int x0]) (rest := [.ref (u 39)]) (hm _ rfl) ml_For_201 39 rfl rfl rfl d_For_writeVariable_12 rfl rfl (by dsimp only; omega) (by dsimp only; omega) (Nat.le_of_ble_eq_true rfl) (Nat.le_of_ble_eq_true rfl) (Nat.le_of_ble_eq_true rfl) ?_
    have hF : d2_4 + 1 ≤ F := by omega
    have hLo : 48 * d2_4 + 48 ≤ Lo := by omega
    obtain ⟨σ5, r5, d1_5, d2_5, h1, h, hd2, hd1⟩ := it_b h
    have hm : sC_Dra_put l D kA u w tx σ4 [r4] (σ5, r5, d1_5) := ih tC_Dra_put _ _ _ h1
    refine cc_Vv (pc := 15) C (σ2 := σ5) (As := [.int r4]) (rest := []) (hm _ rfl) ml_For_187 39 rfl rfl rfl d_For_writeVariable_15 rfl rfl (by dsimp only; omega) (by dsimp only; omega) (Nat.le_of_ble_eq_true rfl) (Nat.le_of_ble_eq_true rfl) (Nat.le_of_ble_eq_true rfl) ?_
    have hF : d2_5 + 1 ≤ F := by omega
    have hLo : 48 * d2_5 + 48 ≤ Lo := by omega
    cases h
    exact ax_vret (pc := 18) C d_For_writeVariable_18 rfl (Nat.le_refl _) (Nat.le_refl _)
set_option maxHeartbeats 4000000 in
set_option maxRecDepth 100000 in
theorem oC_For_writeVariable_p47 (l : Launch) (D : va_G) (kA : Nat → ClassId) (u w : Nat → Nat) (tx : Value) (rec : mF) (ih : ∀ t σ xs res, rec t σ xs = some res → cSem l D kA u w tx t σ xs res) (σ : mS) (xs : List Int32) (res : mR) (h : u_3 (kC_For_writeVariable_p47 rec σ) xs = some res) : sC_For_writeVariable_p47 l D kA u w tx σ xs res := by
  intro x0 x1 x2 hxs
  subst hxs
  obtain ⟨σf, rf, dd⟩ := res
  have h : (rec tC_For_writeVariable_p50 σ [x0, x1, x2, 0]) = some (σf, rf, dd) := h
  intro p e s m args below meth c F Lo σ0 hF hLo C
  dsimp only at hF hLo ⊢
  refine ax_iconst (pc := 47) C 0 d_For_writeVariable_47 (by decide +kernel) ?_
  refine ax_istore (pc := 48) C d_For_writeVariable_48 (Nat.le_of_ble_eq_true rfl) ([(5, .int 0), (0, .ref (u 14)), (1, .ref (u 39)), (2, .int x0), (3, .int x1), (4, .int x2)]) rfl ?_
  refine ax_ls ([(0, .ref (u 14)), (1, .ref (u 39)), (2, .int x0), (3, .int x1), (4, .int x2), (5, .int 0)]) [1, 2, 3, 4, 5, 0] rfl ?_
  have hm : sC_For_writeVariable_p50 l D kA u w tx σ [x0, x1, x2, 0] (σf, rf, _) := ih tC_For_writeVariable_p50 _ _ _ h
  exact hm _ _ _ _ rfl p e s m args below meth c F Lo σ0 hF hLo C
set_option maxHeartbeats 4000000 in
set_option maxRecDepth 100000 in
theorem oC_For_writeVariable_p50 (l : Launch) (D : va_G) (kA : Nat → ClassId) (u w : Nat → Nat) (tx : Value) (rec : mF) (ih : ∀ t σ xs res, rec t σ xs = some res → cSem l D kA u w tx t σ xs res) (σ : mS) (xs : List Int32) (res : mR) (h : u_4 (kC_For_writeVariable_p50 rec σ) xs = some res) : sC_For_writeVariable_p50 l D kA u w tx σ xs res := by
  intro x0 x1 x2 x3 hxs
  subst hxs
  obtain ⟨σf, rf, dd⟩ := res
  have h : (if x2 ≤ x3 then (rec tC_For_writeVariable_p85 σ [x0, x1, x2, x3]) else (if (σ.1 3907) = 0 then (bnd (rec tC_For_aroundAt σ [x0, x3]) (fun σ1 r1 => bnd (rec tC_For_writeVariable σ1 [r1, ((x1 : Int32) + 1)]) (fun σ2 r2 => rec tC_For_writeVariable_p50 σ2 [x0, x1, x2, (x3 + 1)]))) else (rec tC_For_writeVariable_p85 σ [x0, x1, x2, x3]))) = some (σf, rf, dd) := h
  intro p e s m args below meth c F Lo σ0 hF hLo C
  dsimp only at hF hLo ⊢
  refine ax_iload (pc := 50) C d_For_writeVariable_50 5 rfl ?_
  refine ax_iload (pc := 52) C d_For_writeVariable_52 4 rfl ?_
  refine ax_icmp_ge (pc := 54) C 85 d_For_writeVariable_54 (by decide) (fun hc => ?_) (fun hc => ?_)
  · have h := it_t hc h
    refine ax_ls ([(0, .ref (u 14)), (1, .ref (u 39)), (2, .int x0), (3, .int x1), (4, .int x2), (5, .int x3)]) [0, 1, 2, 3, 4, 5] rfl ?_
    have hm : sC_For_writeVariable_p85 l D kA u w tx σ [x0, x1, x2, x3] (σf, rf, _) := ih tC_For_writeVariable_p85 _ _ _ h
    exact hm _ _ _ _ rfl p e s m args below meth c F Lo σ0 hF hLo C
  · have h := it_f hc h
    refine ax_aload_n (pc := 57) C d_For_writeVariable_57 rfl 1 rfl ?_
    refine cg_39_7_For_135 (pc := 58) C d_For_writeVariable_58 ?_
    refine ax_if_ne (pc := 61) C 85 d_For_writeVariable_61 (by decide) (fun hc => ?_) (fun hc => ?_)
    · have h := it_f hc h
      refine ax_ls ([(0, .ref (u 14)), (1, .ref (u 39)), (2, .int x0), (3, .int x1), (4, .int x2), (5, .int x3)]) [0, 1, 2, 3, 4, 5] rfl ?_
      have hm : sC_For_writeVariable_p85 l D kA u w tx σ [x0, x1, x2, x3] (σf, rf, _) := ih tC_For_writeVariable_p85 _ _ _ h
      exact hm _ _ _ _ rfl p e s m args below meth c F Lo σ0 hF hLo C
    · have h := it_t hc h
      refine ax_aload_n (pc := 64) C d_For_writeVariable_64 rfl 0 rfl ?_
      refine ax_aload_n (pc := 65) C d_For_writeVariable_65 rfl 1 rfl ?_
      refine ax_aload_n (pc := 66) C d_For_writeVariable_66 rfl 0 rfl ?_
      refine ax_iload_n (pc := 67) C d_For_writeVariable_67 rfl 2 rfl ?_
      refine ax_iload (pc := 68) C d_For_writeVariable_68 5 rfl ?_
      obtain ⟨σ1, r1, d1_1, d2_1, h1, h, hd2, hd1⟩ := it_b h
      have hm : sC_For_aroundAt l D kA u w tx σ [x0, x3] (σ1, r1, d1_1) := ih tC_For_aroundAt _ _ _ h1
      refine cc_Vi (pc := 70) C (r0 := r1) (σ2 := σ1) (As := [.int x0, .int x3]) (rest := [.ref (u 39), .ref (u 14)]) (hm _ _ rfl) ml_For_204 14 rfl rfl rfl d_For_writeVariable_70 rfl rfl (by dsimp only; omega) (by dsimp only; omega) (Nat.le_of_ble_eq_true rfl) (Nat.le_of_ble_eq_true rfl) (Nat.le_of_ble_eq_true rfl) ?_
      have hF : d2_1 + 1 ≤ F := by omega
      have hLo : 48 * d2_1 + 48 ≤ Lo := by omega
      refine ax_iload_n (pc := 73) C d_For_writeVariable_73 rfl 3 rfl ?_
      refine ax_iconst (pc := 74) C 1 d_For_writeVariable_74 (by decide +kernel) ?_
      refine ax_iadd (pc := 75) C d_For_writeVariable_75 ?_
      obtain ⟨σ2, r2, d1_2, d2_2, h1, h, hd2, hd1⟩ := it_b h
      have hm : sC_For_writeVariable l D kA u w tx σ1 [r1, ((x1 : Int32) + 1)] (σ2, r2, d1_2) := ih tC_For_writeVariable _ _ _ h1
      refine cc_Vv (pc := 76) C (σ2 := σ2) (As := [.ref (u 39), .int r1, .int ((x1 : Int32) + 1)]) (rest := []) (hm _ _ rfl) ml_For_197 14 rfl rfl rfl d_For_writeVariable_76 rfl rfl (by dsimp only; omega) (by dsimp only; omega) (Nat.le_of_ble_eq_true rfl) (Nat.le_of_ble_eq_true rfl) (Nat.le_of_ble_eq_true rfl) ?_
      have hF : d2_2 + 1 ≤ F := by omega
      have hLo : 48 * d2_2 + 48 ≤ Lo := by omega
      refine ax_iinc (pc := 79) C (x3 + 1) d_For_writeVariable_79 5 rfl rfl (Nat.le_of_ble_eq_true rfl) ([(5, .int (x3 + 1)), (0, .ref (u 14)), (1, .ref (u 39)), (2, .int x0), (3, .int x1), (4, .int x2)]) rfl ?_
      refine ax_goto (pc := 82) C 50 d_For_writeVariable_82 (by decide) ?_
      refine ax_ls ([(0, .ref (u 14)), (1, .ref (u 39)), (2, .int x0), (3, .int x1), (4, .int x2), (5, .int (x3 + 1))]) [1, 2, 3, 4, 5, 0] rfl ?_
      have hm : sC_For_writeVariable_p50 l D kA u w tx σ2 [x0, x1, x2, (x3 + 1)] (σf, rf, _) := ih tC_For_writeVariable_p50 _ _ _ h
      exact hm _ _ _ _ rfl p e s m args below meth c F Lo σ0 hF hLo C
set_option maxHeartbeats 4000000 in
set_option maxRecDepth 100000 in
theorem oC_For_writeVariable_p85 (l : Launch) (D : va_G) (kA : Nat → ClassId) (u w : Nat → Nat) (tx : Value) (rec : mF) (ih : ∀ t σ xs res, rec t σ xs = some res → cSem l D kA u w tx t σ xs res) (σ : mS) (xs : List Int32) (res : mR) (h : u_4 (kC_For_writeVariable_p85 rec σ) xs = some res) : sC_For_writeVariable_p85 l D kA u w tx σ xs res := by
  intro x0 x1 x2 x3 hxs
  subst hxs
  obtain ⟨σf, rf, dd⟩ := res
  have h : (some (σ, 0, 0)) = some (σf, rf, dd) := h
  intro p e s m args below meth c F Lo σ0 hF hLo C
  dsimp only at hF hLo ⊢
  cases h
  exact ax_vret (pc := 85) C d_For_writeVariable_85 rfl (Nat.le_refl _) (Nat.le_refl _)
set_option maxHeartbeats 4000000 in
set_option maxRecDepth 100000 in
theorem oC_Mat_coversAll (l : Launch) (D : va_G) (kA : Nat → ClassId) (u w : Nat → Nat) (tx : Value) (rec : mF) (ih : ∀ t σ xs res, rec t σ xs = some res → cSem l D kA u w tx t σ xs res) (σ : mS) (xs : List Int32) (res : mR) (h : u_3 (kC_Mat_coversAll rec σ) xs = some res) : sC_Mat_coversAll l D kA u w tx σ xs res := by
  intro x0 x1 x2 hxs
  subst hxs
  obtain ⟨σf, rf, dd⟩ := res
  have h : (if 0 < x1 then (bnd (rec tC_Sto_fact σ [x2, 8]) (fun σ1 r1 => rec tC_Mat_coversAll_p27 σ1 [x0, x1, x2, (σ.1 6603), r1, 0])) else (some (σ, 1, 0))) = some (σf, rf, dd) := h
  refine ax_Mi.of (by decide +kernel) (Nat.le_of_ble_eq_true rfl) ?_
  intro p e s m args below meth c C hnm
  have C : ax_C p s m args meth c b_Mat_coversAll "ClauseProver$Matcher" 10 (some .boolean) D kA (va_A (cpW kA u w tx σ) s.heap.size) := C
  obtain ⟨F, hFe⟩ : ∃ F, F = dd + 1 := ⟨_, rfl⟩
  obtain ⟨Lo, hLoe⟩ : ∃ Lo, Lo = 48 * dd + 48 := ⟨_, rfl⟩
  obtain ⟨σ0, hσ0⟩ : ∃ s0, s0 = σ := ⟨_, rfl⟩
  suffices K : AW p l e { frames := F, cells := 0, slots := 0, locals := Lo } s m args below meth c D kA (va_A (cpW kA u w tx σ0) s.heap.size) 10 (ax_Qi below args s D kA (cpW kA u w tx σ0) 0 0 (fun r w1 => r = rf ∧ w1 = cpW kA u w tx σf)) 0 [(0, .ref (u 66)), (1, .int x0), (2, .int x1), (3, .int x2)] [] (cpW kA u w tx σ) 0 0 by rw [hFe, hLoe, hσ0] at K; exact ax_ls ([(0, .ref (u 66)), (1, .int x0), (2, .int x1), (3, .int x2)]) [0, 1, 2, 3] rfl K
  have C : ax_C p s m args meth c b_Mat_coversAll "ClauseProver$Matcher" 10 (some .boolean) D kA (va_A (cpW kA u w tx σ0) s.heap.size) := by rw [hσ0]; exact C
  have hF : dd + 1 ≤ F := by omega
  have hLo : 48 * dd + 48 ≤ Lo := by omega
  clear hFe hLoe hσ0
  refine ax_iload_n (pc := 0) C d_Mat_coversAll_0 rfl 2 rfl ?_
  refine ax_if_gt (pc := 1) C 6 d_Mat_coversAll_1 (by decide) (fun hc => ?_) (fun hc => ?_)
  · have h := it_t hc h
    refine ax_aload_n (pc := 6) C d_Mat_coversAll_6 rfl 0 rfl ?_
    refine cg_66_3_Mat_37 (pc := 7) C d_Mat_coversAll_7 ?_
    refine ax_istore (pc := 10) C d_Mat_coversAll_10 (Nat.le_of_ble_eq_true rfl) ([(4, .int (σ.1 6603)), (0, .ref (u 66)), (1, .int x0), (2, .int x1), (3, .int x2)]) rfl ?_
    refine ax_aload_n (pc := 12) C d_Mat_coversAll_12 rfl 1 rfl ?_
    refine cg_66_1_Mat_22 (pc := 13) C d_Mat_coversAll_13 ?_
    refine ax_iload_n (pc := 16) C d_Mat_coversAll_16 rfl 4 rfl ?_
    refine ax_bipush (pc := 17) C 8 d_Mat_coversAll_17 (by decide +kernel) ?_
    obtain ⟨σ1, r1, d1_1, d2_1, h1, h, hd2, hd1⟩ := it_b h
    have hm : sC_Sto_fact l D kA u w tx σ [x2, 8] (σ1, r1, d1_1) := ih tC_Sto_fact _ _ _ h1
    refine cc_Vi (pc := 19) C (r0 := r1) (σ2 := σ1) (As := [.int x2, .int 8]) (rest := []) (hm _ _ rfl) ml_Mat_55 54 rfl rfl rfl d_Mat_coversAll_19 rfl rfl (by dsimp only; omega) (by dsimp only; omega) (Nat.le_of_ble_eq_true rfl) (Nat.le_of_ble_eq_true rfl) (Nat.le_of_ble_eq_true rfl) ?_
    have hF : d2_1 + 1 ≤ F := by omega
    have hLo : 48 * d2_1 + 48 ≤ Lo := by omega
    refine ax_istore (pc := 22) C d_Mat_coversAll_22 (Nat.le_of_ble_eq_true rfl) ([(5, .int r1), (4, .int (σ.1 6603)), (0, .ref (u 66)), (1, .int x0), (2, .int x1), (3, .int x2)]) rfl ?_
    refine ax_iconst (pc := 24) C 0 d_Mat_coversAll_24 (by decide +kernel) ?_
    refine ax_istore (pc := 25) C d_Mat_coversAll_25 (Nat.le_of_ble_eq_true rfl) ([(6, .int 0), (5, .int r1), (4, .int (σ.1 6603)), (0, .ref (u 66)), (1, .int x0), (2, .int x1), (3, .int x2)]) rfl ?_
    refine ax_ls ([(0, .ref (u 66)), (1, .int x0), (2, .int x1), (3, .int x2), (4, .int (σ.1 6603)), (5, .int r1), (6, .int 0)]) [3, 4, 5, 6, 2, 1, 0] rfl ?_
    have hm : sC_Mat_coversAll_p27 l D kA u w tx σ1 [x0, x1, x2, (σ.1 6603), r1, 0] (σf, rf, _) := ih tC_Mat_coversAll_p27 _ _ _ h
    exact hm _ _ _ _ _ _ rfl p e s m args below meth c F Lo σ0 hF hLo C
  · have h := it_f hc h
    refine ax_iconst (pc := 4) C 1 d_Mat_coversAll_4 (by decide +kernel) ?_
    cases h
    exact ax_zret (pc := 5) C d_Mat_coversAll_5 rfl ⟨rfl, rfl⟩ (Nat.le_refl _) (Nat.le_refl _)
set_option maxHeartbeats 4000000 in
set_option maxRecDepth 100000 in
theorem oC_Mat_coversAll_p27 (l : Launch) (D : va_G) (kA : Nat → ClassId) (u w : Nat → Nat) (tx : Value) (rec : mF) (ih : ∀ t σ xs res, rec t σ xs = some res → cSem l D kA u w tx t σ xs res) (σ : mS) (xs : List Int32) (res : mR) (h : u_6 (kC_Mat_coversAll_p27 rec σ) xs = some res) : sC_Mat_coversAll_p27 l D kA u w tx σ xs res := by
  intro x0 x1 x2 x3 x4 x5 hxs
  subst hxs
  obtain ⟨σf, rf, dd⟩ := res
  have h : (bnd (rec tC_Sto_fact σ [x2, 3]) (fun σ1 r1 => if r1 ≤ x5 then (some (σ1, 0, 0)) else (rec tC_Mat_coversAll_p44 σ1 [x0, x1, x2, x3, x4, x5, 0]))) = some (σf, rf, dd) := h
  intro p e s m args below meth c F Lo σ0 hF hLo C
  dsimp only at hF hLo ⊢
  refine ax_iload (pc := 27) C d_Mat_coversAll_27 6 rfl ?_
  refine ax_aload_n (pc := 29) C d_Mat_coversAll_29 rfl 0 rfl ?_
  refine cg_66_1_Mat_22 (pc := 30) C d_Mat_coversAll_30 ?_
  refine ax_iload_n (pc := 33) C d_Mat_coversAll_33 rfl 3 rfl ?_
  refine ax_iconst (pc := 34) C 3 d_Mat_coversAll_34 (by decide +kernel) ?_
  obtain ⟨σ1, r1, d1_1, d2_1, h1, h, hd2, hd1⟩ := it_b h
  have hm : sC_Sto_fact l D kA u w tx σ [x2, 3] (σ1, r1, d1_1) := ih tC_Sto_fact _ _ _ h1
  refine cc_Vi (pc := 35) C (r0 := r1) (σ2 := σ1) (As := [.int x2, .int 3]) (rest := [.int x5]) (hm _ _ rfl) ml_Mat_55 54 rfl rfl rfl d_Mat_coversAll_35 rfl rfl (by dsimp only; omega) (by dsimp only; omega) (Nat.le_of_ble_eq_true rfl) (Nat.le_of_ble_eq_true rfl) (Nat.le_of_ble_eq_true rfl) ?_
  have hF : d2_1 + 1 ≤ F := by omega
  have hLo : 48 * d2_1 + 48 ≤ Lo := by omega
  refine ax_icmp_ge (pc := 38) C 222 d_Mat_coversAll_38 (by decide) (fun hc => ?_) (fun hc => ?_)
  · have h := it_t hc h
    refine ax_iconst (pc := 222) C 0 d_Mat_coversAll_222 (by decide +kernel) ?_
    cases h
    exact ax_zret (pc := 223) C d_Mat_coversAll_223 rfl ⟨rfl, rfl⟩ (Nat.le_refl _) (Nat.le_refl _)
  · have h := it_f hc h
    refine ax_iconst (pc := 41) C 0 d_Mat_coversAll_41 (by decide +kernel) ?_
    refine ax_istore (pc := 42) C d_Mat_coversAll_42 (Nat.le_of_ble_eq_true rfl) ([(7, .int 0), (0, .ref (u 66)), (1, .int x0), (2, .int x1), (3, .int x2), (4, .int x3), (5, .int x4), (6, .int x5)]) rfl ?_
    refine ax_ls ([(0, .ref (u 66)), (1, .int x0), (2, .int x1), (3, .int x2), (4, .int x3), (5, .int x4), (6, .int x5), (7, .int 0)]) [1, 2, 3, 4, 5, 6, 7, 0] rfl ?_
    have hm : sC_Mat_coversAll_p44 l D kA u w tx σ1 [x0, x1, x2, x3, x4, x5, 0] (σf, rf, _) := ih tC_Mat_coversAll_p44 _ _ _ h
    exact hm _ _ _ _ _ _ _ rfl p e s m args below meth c F Lo σ0 hF hLo C
set_option maxHeartbeats 4000000 in
set_option maxRecDepth 100000 in
theorem oC_Mat_coversAll_p44 (l : Launch) (D : va_G) (kA : Nat → ClassId) (u w : Nat → Nat) (tx : Value) (rec : mF) (ih : ∀ t σ xs res, rec t σ xs = some res → cSem l D kA u w tx t σ xs res) (σ : mS) (xs : List Int32) (res : mR) (h : u_7 (kC_Mat_coversAll_p44 rec σ) xs = some res) : sC_Mat_coversAll_p44 l D kA u w tx σ xs res := by
  intro x0 x1 x2 x3 x4 x5 x6 hxs
  subst hxs
  obtain ⟨σf, rf, dd⟩ := res
  have h : (if 2 ≤ x6 then (rec tC_Mat_coversAll_p205 σ [x0, x1, x2, x3, x4, x5, x6]) else (bnd (rec tC_Sto_isPositive σ [x0]) (fun σ1 r1 => bnd (rec tC_Sto_isPositive σ1 [x4]) (fun σ2 r2 => if r1 = r2 then (lt_ (mI σ2 6603 x3) (fun σ3 => bnd (rec tC_Sto_sideAt σ3 [x4, x6]) (fun σ4 r4 => bnd (rec tC_Sto_sideAt σ4 [x4, ((1 : Int32) - x6)]) (fun σ5 r5 => bnd (rec tC_Sto_sideAt σ5 [x0, 0]) (fun σ6 r6 => bnd (rec tC_Sto_sideSize σ6 [x0, 0]) (fun σ7 r7 => bnd (rec tC_Mat_matches_48 σ7 [r6, r7, r4]) (fun σ8 r8 => if r8 = 0 then (rec tC_Mat_coversAll_p199 σ8 [x0, x1, x2, x3, x4, x5, x6, r4, r5]) else (bnd (rec tC_Sto_sideAt σ8 [x0, 1]) (fun σ9 r9 => bnd (rec tC_Sto_sideSize σ9 [x0, 1]) (fun σ10 r10 => bnd (rec tC_Mat_matches_48 σ10 [r9, r10, r5]) (fun σ11 r11 => if r11 = 0 then (rec tC_Mat_coversAll_p199 σ11 [x0, x1, x2, x3, x4, x5, x6, r4, r5]) else (bnd (rec tC_Sto_behind σ11 [x0]) (fun σ12 r12 => bnd (rec tC_Mat_coversAll σ12 [r12, ((x1 : Int32) - 1), x2]) (fun σ13 r13 => if r13 = 0 then (rec tC_Mat_coversAll_p199 σ13 [x0, x1, x2, x3, x4, x5, x6, r4, r5]) else (some (σ13, 1, 0)))))))))))))))) else (rec tC_Mat_coversAll_p205 σ2 [x0, x1, x2, x3, x4, x5, x6]))))) = some (σf, rf, dd) := h
  intro p e s m args below meth c F Lo σ0 hF hLo C
  dsimp only at hF hLo ⊢
  refine ax_iload (pc := 44) C d_Mat_coversAll_44 7 rfl ?_
  refine ax_iconst (pc := 46) C 2 d_Mat_coversAll_46 (by decide +kernel) ?_
  refine ax_icmp_ge (pc := 47) C 205 d_Mat_coversAll_47 (by decide) (fun hc => ?_) (fun hc => ?_)
  · have h := it_t hc h
    refine ax_ls ([(0, .ref (u 66)), (1, .int x0), (2, .int x1), (3, .int x2), (4, .int x3), (5, .int x4), (6, .int x5), (7, .int x6)]) [0, 1, 2, 3, 4, 5, 6, 7] rfl ?_
    have hm : sC_Mat_coversAll_p205 l D kA u w tx σ [x0, x1, x2, x3, x4, x5, x6] (σf, rf, _) := ih tC_Mat_coversAll_p205 _ _ _ h
    exact hm _ _ _ _ _ _ _ rfl p e s m args below meth c F Lo σ0 hF hLo C
  · have h := it_f hc h
    refine ax_aload_n (pc := 50) C d_Mat_coversAll_50 rfl 0 rfl ?_
    refine cg_66_1_Mat_22 (pc := 51) C d_Mat_coversAll_51 ?_
    refine ax_iload_n (pc := 54) C d_Mat_coversAll_54 rfl 1 rfl ?_
    obtain ⟨σ1, r1, d1_1, d2_1, h1, h, hd2, hd1⟩ := it_b h
    have hm : sC_Sto_isPositive l D kA u w tx σ [x0] (σ1, r1, d1_1) := ih tC_Sto_isPositive _ _ _ h1
    refine cc_Vi (pc := 55) C (r0 := r1) (σ2 := σ1) (As := [.int x0]) (rest := []) (hm _ rfl) ml_Mat_110 54 rfl rfl rfl d_Mat_coversAll_55 rfl rfl (by dsimp only; omega) (by dsimp only; omega) (Nat.le_of_ble_eq_true rfl) (Nat.le_of_ble_eq_true rfl) (Nat.le_of_ble_eq_true rfl) ?_
    have hF : d2_1 + 1 ≤ F := by omega
    have hLo : 48 * d2_1 + 48 ≤ Lo := by omega
    refine ax_aload_n (pc := 58) C d_Mat_coversAll_58 rfl 0 rfl ?_
    refine cg_66_1_Mat_22 (pc := 59) C d_Mat_coversAll_59 ?_
    refine ax_iload (pc := 62) C d_Mat_coversAll_62 5 rfl ?_
    obtain ⟨σ2, r2, d1_2, d2_2, h1, h, hd2, hd1⟩ := it_b h
    have hm : sC_Sto_isPositive l D kA u w tx σ1 [x4] (σ2, r2, d1_2) := ih tC_Sto_isPositive _ _ _ h1
    refine cc_Vi (pc := 64) C (r0 := r2) (σ2 := σ2) (As := [.int x4]) (rest := [.int r1]) (hm _ rfl) ml_Mat_110 54 rfl rfl rfl d_Mat_coversAll_64 rfl rfl (by dsimp only; omega) (by dsimp only; omega) (Nat.le_of_ble_eq_true rfl) (Nat.le_of_ble_eq_true rfl) (Nat.le_of_ble_eq_true rfl) ?_
    have hF : d2_2 + 1 ≤ F := by omega
    have hLo : 48 * d2_2 + 48 ≤ Lo := by omega
    refine ax_icmp_ne (pc := 67) C 205 d_Mat_coversAll_67 (by decide) (fun hc => ?_) (fun hc => ?_)
    · have h := it_f hc h
      refine ax_ls ([(0, .ref (u 66)), (1, .int x0), (2, .int x1), (3, .int x2), (4, .int x3), (5, .int x4), (6, .int x5), (7, .int x6)]) [0, 1, 2, 3, 4, 5, 6, 7] rfl ?_
      have hm : sC_Mat_coversAll_p205 l D kA u w tx σ2 [x0, x1, x2, x3, x4, x5, x6] (σf, rf, _) := ih tC_Mat_coversAll_p205 _ _ _ h
      exact hm _ _ _ _ _ _ _ rfl p e s m args below meth c F Lo σ0 hF hLo C
    · have h := it_t hc h
      refine ax_aload_n (pc := 70) C d_Mat_coversAll_70 rfl 0 rfl ?_
      refine ax_iload (pc := 71) C d_Mat_coversAll_71 4 rfl ?_
      refine cq_66_3_Mat_37 (pc := 73) C d_Mat_coversAll_73 ?_
      have h := it_l h
      generalize mI σ2 6603 x3 = σ3 at h ⊢
      refine ax_aload_n (pc := 76) C d_Mat_coversAll_76 rfl 0 rfl ?_
      refine cg_66_1_Mat_22 (pc := 77) C d_Mat_coversAll_77 ?_
      refine ax_iload (pc := 80) C d_Mat_coversAll_80 5 rfl ?_
      refine ax_iload (pc := 82) C d_Mat_coversAll_82 7 rfl ?_
      obtain ⟨σ4, r4, d1_4, d2_4, h1, h, hd2, hd1⟩ := it_b h
      have hm : sC_Sto_sideAt l D kA u w tx σ3 [x4, x6] (σ4, r4, d1_4) := ih tC_Sto_sideAt _ _ _ h1
      refine cc_Vi (pc := 84) C (r0 := r4) (σ2 := σ4) (As := [.int x4, .int x6]) (rest := []) (hm _ _ rfl) ml_Mat_59 54 rfl rfl rfl d_Mat_coversAll_84 rfl rfl (by dsimp only; omega) (by dsimp only; omega) (Nat.le_of_ble_eq_true rfl) (Nat.le_of_ble_eq_true rfl) (Nat.le_of_ble_eq_true rfl) ?_
      have hF : d2_4 + 1 ≤ F := by omega
      have hLo : 48 * d2_4 + 48 ≤ Lo := by omega
      refine ax_istore (pc := 87) C d_Mat_coversAll_87 (Nat.le_of_ble_eq_true rfl) ([(8, .int r4), (0, .ref (u 66)), (1, .int x0), (2, .int x1), (3, .int x2), (4, .int x3), (5, .int x4), (6, .int x5), (7, .int x6)]) rfl ?_
      refine ax_aload_n (pc := 89) C d_Mat_coversAll_89 rfl 1 rfl ?_
      refine cg_66_1_Mat_22 (pc := 90) C d_Mat_coversAll_90 ?_
      refine ax_iload (pc := 93) C d_Mat_coversAll_93 6 rfl ?_
      refine ax_iconst (pc := 95) C 1 d_Mat_coversAll_95 (by decide +kernel) ?_
      refine ax_iload (pc := 96) C d_Mat_coversAll_96 8 rfl ?_
      refine ax_isub (pc := 98) C d_Mat_coversAll_98 ?_
      obtain ⟨σ5, r5, d1_5, d2_5, h1, h, hd2, hd1⟩ := it_b h
      have hm : sC_Sto_sideAt l D kA u w tx σ4 [x4, ((1 : Int32) - x6)] (σ5, r5, d1_5) := ih tC_Sto_sideAt _ _ _ h1
      refine cc_Vi (pc := 99) C (r0 := r5) (σ2 := σ5) (As := [.int x4, .int ((1 : Int32) - x6)]) (rest := []) (hm _ _ rfl) ml_Mat_59 54 rfl rfl rfl d_Mat_coversAll_99 rfl rfl (by dsimp only; omega) (by dsimp only; omega) (Nat.le_of_ble_eq_true rfl) (Nat.le_of_ble_eq_true rfl) (Nat.le_of_ble_eq_true rfl) ?_
      have hF : d2_5 + 1 ≤ F := by omega
      have hLo : 48 * d2_5 + 48 ≤ Lo := by omega
      refine ax_istore (pc := 102) C d_Mat_coversAll_102 (Nat.le_of_ble_eq_true rfl) ([(9, .int r5), (8, .int r4), (0, .ref (u 66)), (1, .int x0), (2, .int x1), (3, .int x2), (4, .int x3), (5, .int x4), (6, .int x5), (7, .int x6)]) rfl ?_
      refine ax_aload_n (pc := 104) C d_Mat_coversAll_104 rfl 2 rfl ?_
      refine ax_aload_n (pc := 105) C d_Mat_coversAll_105 rfl 2 rfl ?_
      refine cg_66_1_Mat_22 (pc := 106) C d_Mat_coversAll_106 ?_
      refine ax_iload_n (pc := 109) C d_Mat_coversAll_109 rfl 3 rfl ?_
      refine ax_iconst (pc := 110) C 0 d_Mat_coversAll_110 (by decide +kernel) ?_
      obtain ⟨σ6, r6, d1_6, d2_6, h1, h, hd2, hd1⟩ := it_b h
      have hm : sC_Sto_sideAt l D kA u w tx σ5 [x0, 0] (σ6, r6, d1_6) := ih tC_Sto_sideAt _ _ _ h1
      refine cc_Vi (pc := 111) C (r0 := r6) (σ2 := σ6) (As := [.int x0, .int 0]) (rest := [.ref (u 66)]) (hm _ _ rfl) ml_Mat_59 54 rfl rfl rfl d_Mat_coversAll_111 rfl rfl (by dsimp only; omega) (by dsimp only; omega) (Nat.le_of_ble_eq_true rfl) (Nat.le_of_ble_eq_true rfl) (Nat.le_of_ble_eq_true rfl) ?_
      have hF : d2_6 + 1 ≤ F := by omega
      have hLo : 48 * d2_6 + 48 ≤ Lo := by omega
      refine ax_aload_n (pc := 114) C d_Mat_coversAll_114 rfl 2 rfl ?_
      refine cg_66_1_Mat_22 (pc := 115) C d_Mat_coversAll_115 ?_
      refine ax_iload_n (pc := 118) C d_Mat_coversAll_118 rfl 3 rfl ?_
      refine ax_iconst (pc := 119) C 0 d_Mat_coversAll_119 (by decide +kernel) ?_
      obtain ⟨σ7, r7, d1_7, d2_7, h1, h, hd2, hd1⟩ := it_b h
      have hm : sC_Sto_sideSize l D kA u w tx σ6 [x0, 0] (σ7, r7, d1_7) := ih tC_Sto_sideSize _ _ _ h1
      refine cc_Vi (pc := 120) C (r0 := r7) (σ2 := σ7) (As := [.int x0, .int 0]) (rest := [.int r6, .ref (u 66)]) (hm _ _ rfl) ml_Mat_62 54 rfl rfl rfl d_Mat_coversAll_120 rfl rfl (by dsimp only; omega) (by dsimp only; omega) (Nat.le_of_ble_eq_true rfl) (Nat.le_of_ble_eq_true rfl) (Nat.le_of_ble_eq_true rfl) ?_
      have hF : d2_7 + 1 ≤ F := by omega
      have hLo : 48 * d2_7 + 48 ≤ Lo := by omega
      refine ax_aload_n (pc := 123) C d_Mat_coversAll_123 rfl 2 rfl ?_
      refine cg_66_1_Mat_22 (pc := 124) C d_Mat_coversAll_124 ?_
      refine cg_54_0_Mat_26 (pc := 127) C d_Mat_coversAll_127 ?_
      refine cg_47_0_Mat_32 (pc := 130) C d_Mat_coversAll_130 ?_
      refine ax_iload (pc := 133) C d_Mat_coversAll_133 1 rfl ?_
      obtain ⟨σ8, r8, d1_8, d2_8, h1, h, hd2, hd1⟩ := it_b h
      have hm : sC_Mat_matches_48 l D kA u w tx σ7 [r6, r7, r4] (σ8, r8, d1_8) := ih tC_Mat_matches_48 _ _ _ h1
      refine cc_Vi (pc := 135) C (r0 := r8) (σ2 := σ8) (As := [.int r6, .int r7, .ref (w 48), .int r4]) (rest := []) (hm _ _ _ rfl) ml_Mat_65 66 rfl rfl rfl d_Mat_coversAll_135 rfl rfl (by dsimp only; omega) (by dsimp only; omega) (Nat.le_of_ble_eq_true rfl) (Nat.le_of_ble_eq_true rfl) (Nat.le_of_ble_eq_true rfl) ?_
      have hF : d2_8 + 1 ≤ F := by omega
      have hLo : 48 * d2_8 + 48 ≤ Lo := by omega
      refine ax_if_eq (pc := 138) C 199 d_Mat_coversAll_138 (by decide) (fun hc => ?_) (fun hc => ?_)
      · have h := it_t hc h
        refine ax_ls ([(0, .ref (u 66)), (1, .int x0), (2, .int x1), (3, .int x2), (4, .int x3), (5, .int x4), (6, .int x5), (7, .int x6), (8, .int r4), (9, .int r5)]) [2, 3, 4, 5, 6, 7, 8, 9, 1, 0] rfl ?_
        have hm : sC_Mat_coversAll_p199 l D kA u w tx σ8 [x0, x1, x2, x3, x4, x5, x6, r4, r5] (σf, rf, _) := ih tC_Mat_coversAll_p199 _ _ _ h
        exact hm _ _ _ _ _ _ _ _ _ rfl p e s m args below meth c F Lo σ0 hF hLo C
      · have h := it_f hc h
        refine ax_aload_n (pc := 141) C d_Mat_coversAll_141 rfl 2 rfl ?_
        refine ax_aload_n (pc := 142) C d_Mat_coversAll_142 rfl 2 rfl ?_
        refine cg_66_1_Mat_22 (pc := 143) C d_Mat_coversAll_143 ?_
        refine ax_iload_n (pc := 146) C d_Mat_coversAll_146 rfl 3 rfl ?_
        refine ax_iconst (pc := 147) C 1 d_Mat_coversAll_147 (by decide +kernel) ?_
        obtain ⟨σ9, r9, d1_9, d2_9, h1, h, hd2, hd1⟩ := it_b h
        have hm : sC_Sto_sideAt l D kA u w tx σ8 [x0, 1] (σ9, r9, d1_9) := ih tC_Sto_sideAt _ _ _ h1
        refine cc_Vi (pc := 148) C (r0 := r9) (σ2 := σ9) (As := [.int x0, .int 1]) (rest := [.ref (u 66)]) (hm _ _ rfl) ml_Mat_59 54 rfl rfl rfl d_Mat_coversAll_148 rfl rfl (by dsimp only; omega) (by dsimp only; omega) (Nat.le_of_ble_eq_true rfl) (Nat.le_of_ble_eq_true rfl) (Nat.le_of_ble_eq_true rfl) ?_
        have hF : d2_9 + 1 ≤ F := by omega
        have hLo : 48 * d2_9 + 48 ≤ Lo := by omega
        refine ax_aload_n (pc := 151) C d_Mat_coversAll_151 rfl 2 rfl ?_
        refine cg_66_1_Mat_22 (pc := 152) C d_Mat_coversAll_152 ?_
        refine ax_iload_n (pc := 155) C d_Mat_coversAll_155 rfl 3 rfl ?_
        refine ax_iconst (pc := 156) C 1 d_Mat_coversAll_156 (by decide +kernel) ?_
        obtain ⟨σ10, r10, d1_10, d2_10, h1, h, hd2, hd1⟩ := it_b h
        have hm : sC_Sto_sideSize l D kA u w tx σ9 [x0, 1] (σ10, r10, d1_10) := ih tC_Sto_sideSize _ _ _ h1
        refine cc_Vi (pc := 157) C (r0 := r10) (σ2 := σ10) (As := [.int x0, .int 1]) (rest := [.int r9, .ref (u 66)]) (hm _ _ rfl) ml_Mat_62 54 rfl rfl rfl d_Mat_coversAll_157 rfl rfl (by dsimp only; omega) (by dsimp only; omega) (Nat.le_of_ble_eq_true rfl) (Nat.le_of_ble_eq_true rfl) (Nat.le_of_ble_eq_true rfl) ?_
        have hF : d2_10 + 1 ≤ F := by omega
        have hLo : 48 * d2_10 + 48 ≤ Lo := by omega
        refine ax_aload_n (pc := 160) C d_Mat_coversAll_160 rfl 2 rfl ?_
        refine cg_66_1_Mat_22 (pc := 161) C d_Mat_coversAll_161 ?_
        refine cg_54_0_Mat_26 (pc := 164) C d_Mat_coversAll_164 ?_
        refine cg_47_0_Mat_32 (pc := 167) C d_Mat_coversAll_167 ?_
        refine ax_iload (pc := 170) C d_Mat_coversAll_170 0 rfl ?_
        obtain ⟨σ11, r11, d1_11, d2_11, h1, h, hd2, hd1⟩ := it_b h
        have hm : sC_Mat_matches_48 l D kA u w tx σ10 [r9, r10, r5] (σ11, r11, d1_11) := ih tC_Mat_matches_48 _ _ _ h1
        refine cc_Vi (pc := 172) C (r0 := r11) (σ2 := σ11) (As := [.int r9, .int r10, .ref (w 48), .int r5]) (rest := []) (hm _ _ _ rfl) ml_Mat_65 66 rfl rfl rfl d_Mat_coversAll_172 rfl rfl (by dsimp only; omega) (by dsimp only; omega) (Nat.le_of_ble_eq_true rfl) (Nat.le_of_ble_eq_true rfl) (Nat.le_of_ble_eq_true rfl) ?_
        have hF : d2_11 + 1 ≤ F := by omega
        have hLo : 48 * d2_11 + 48 ≤ Lo := by omega
        refine ax_if_eq (pc := 175) C 199 d_Mat_coversAll_175 (by decide) (fun hc => ?_) (fun hc => ?_)
        · have h := it_t hc h
          refine ax_ls ([(0, .ref (u 66)), (1, .int x0), (2, .int x1), (3, .int x2), (4, .int x3), (5, .int x4), (6, .int x5), (7, .int x6), (8, .int r4), (9, .int r5)]) [2, 3, 4, 5, 6, 7, 8, 9, 1, 0] rfl ?_
          have hm : sC_Mat_coversAll_p199 l D kA u w tx σ11 [x0, x1, x2, x3, x4, x5, x6, r4, r5] (σf, rf, _) := ih tC_Mat_coversAll_p199 _ _ _ h
          exact hm _ _ _ _ _ _ _ _ _ rfl p e s m args below meth c F Lo σ0 hF hLo C
        · have h := it_f hc h
          refine ax_aload_n (pc := 178) C d_Mat_coversAll_178 rfl 2 rfl ?_
          refine ax_aload_n (pc := 179) C d_Mat_coversAll_179 rfl 2 rfl ?_
          refine cg_66_1_Mat_22 (pc := 180) C d_Mat_coversAll_180 ?_
          refine ax_iload_n (pc := 183) C d_Mat_coversAll_183 rfl 3 rfl ?_
          obtain ⟨σ12, r12, d1_12, d2_12, h1, h, hd2, hd1⟩ := it_b h
          have hm : sC_Sto_behind l D kA u w tx σ11 [x0] (σ12, r12, d1_12) := ih tC_Sto_behind _ _ _ h1
          refine cc_Vi (pc := 184) C (r0 := r12) (σ2 := σ12) (As := [.int x0]) (rest := [.ref (u 66)]) (hm _ rfl) ml_Mat_102 54 rfl rfl rfl d_Mat_coversAll_184 rfl rfl (by dsimp only; omega) (by dsimp only; omega) (Nat.le_of_ble_eq_true rfl) (Nat.le_of_ble_eq_true rfl) (Nat.le_of_ble_eq_true rfl) ?_
          have hF : d2_12 + 1 ≤ F := by omega
          have hLo : 48 * d2_12 + 48 ≤ Lo := by omega
          refine ax_iload_n (pc := 187) C d_Mat_coversAll_187 rfl 4 rfl ?_
          refine ax_iconst (pc := 188) C 1 d_Mat_coversAll_188 (by decide +kernel) ?_
          refine ax_isub (pc := 189) C d_Mat_coversAll_189 ?_
          refine ax_iload_n (pc := 190) C d_Mat_coversAll_190 rfl 5 rfl ?_
          obtain ⟨σ13, r13, d1_13, d2_13, h1, h, hd2, hd1⟩ := it_b h
          have hm : sC_Mat_coversAll l D kA u w tx σ12 [r12, ((x1 : Int32) - 1), x2] (σ13, r13, d1_13) := ih tC_Mat_coversAll _ _ _ h1
          refine cc_Vi (pc := 191) C (r0 := r13) (σ2 := σ13) (As := [.int r12, .int ((x1 : Int32) - 1), .int x2]) (rest := []) (hm _ _ _ rfl) ml_Mat_106 66 rfl rfl rfl d_Mat_coversAll_191 rfl rfl (by dsimp only; omega) (by dsimp only; omega) (Nat.le_of_ble_eq_true rfl) (Nat.le_of_ble_eq_true rfl) (Nat.le_of_ble_eq_true rfl) ?_
          have hF : d2_13 + 1 ≤ F := by omega
          have hLo : 48 * d2_13 + 48 ≤ Lo := by omega
          refine ax_if_eq (pc := 194) C 199 d_Mat_coversAll_194 (by decide) (fun hc => ?_) (fun hc => ?_)
          · have h := it_t hc h
            refine ax_ls ([(0, .ref (u 66)), (1, .int x0), (2, .int x1), (3, .int x2), (4, .int x3), (5, .int x4), (6, .int x5), (7, .int x6), (8, .int r4), (9, .int r5)]) [2, 3, 4, 5, 6, 7, 8, 9, 1, 0] rfl ?_
            have hm : sC_Mat_coversAll_p199 l D kA u w tx σ13 [x0, x1, x2, x3, x4, x5, x6, r4, r5] (σf, rf, _) := ih tC_Mat_coversAll_p199 _ _ _ h
            exact hm _ _ _ _ _ _ _ _ _ rfl p e s m args below meth c F Lo σ0 hF hLo C
          · have h := it_f hc h
            refine ax_iconst (pc := 197) C 1 d_Mat_coversAll_197 (by decide +kernel) ?_
            cases h
            exact ax_zret (pc := 198) C d_Mat_coversAll_198 rfl ⟨rfl, rfl⟩ (Nat.le_refl _) (Nat.le_refl _)
set_option maxHeartbeats 4000000 in
set_option maxRecDepth 100000 in
theorem oC_Mat_coversAll_p199 (l : Launch) (D : va_G) (kA : Nat → ClassId) (u w : Nat → Nat) (tx : Value) (rec : mF) (ih : ∀ t σ xs res, rec t σ xs = some res → cSem l D kA u w tx t σ xs res) (σ : mS) (xs : List Int32) (res : mR) (h : u_9 (kC_Mat_coversAll_p199 rec σ) xs = some res) : sC_Mat_coversAll_p199 l D kA u w tx σ xs res := by
  intro x0 x1 x2 x3 x4 x5 x6 x7 x8 hxs
  subst hxs
  obtain ⟨σf, rf, dd⟩ := res
  have h : (rec tC_Mat_coversAll_p44 σ [x0, x1, x2, x3, x4, x5, (x6 + 1)]) = some (σf, rf, dd) := h
  intro p e s m args below meth c F Lo σ0 hF hLo C
  dsimp only at hF hLo ⊢
  refine ax_iinc (pc := 199) C (x6 + 1) d_Mat_coversAll_199 7 rfl rfl (Nat.le_of_ble_eq_true rfl) ([(7, .int (x6 + 1)), (0, .ref (u 66)), (1, .int x0), (2, .int x1), (3, .int x2), (4, .int x3), (5, .int x4), (6, .int x5), (8, .int x7), (9, .int x8)]) rfl ?_
  refine ax_goto (pc := 202) C 44 d_Mat_coversAll_202 (by decide) ?_
  refine ax_ls ([(0, .ref (u 66)), (1, .int x0), (2, .int x1), (3, .int x2), (4, .int x3), (5, .int x4), (6, .int x5), (7, .int (x6 + 1))]) [1, 2, 3, 4, 5, 6, 7, 0] rfl ?_
  have hm : sC_Mat_coversAll_p44 l D kA u w tx σ [x0, x1, x2, x3, x4, x5, (x6 + 1)] (σf, rf, _) := ih tC_Mat_coversAll_p44 _ _ _ h
  exact hm _ _ _ _ _ _ _ rfl p e s m args below meth c F Lo σ0 hF hLo C
set_option maxHeartbeats 4000000 in
set_option maxRecDepth 100000 in
theorem oC_Mat_coversAll_p205 (l : Launch) (D : va_G) (kA : Nat → ClassId) (u w : Nat → Nat) (tx : Value) (rec : mF) (ih : ∀ t σ xs res, rec t σ xs = some res → cSem l D kA u w tx t σ xs res) (σ : mS) (xs : List Int32) (res : mR) (h : u_7 (kC_Mat_coversAll_p205 rec σ) xs = some res) : sC_Mat_coversAll_p205 l D kA u w tx σ xs res := by
  intro x0 x1 x2 x3 x4 x5 x6 hxs
  subst hxs
  obtain ⟨σf, rf, dd⟩ := res
  have h : (bnd (rec tC_Sto_behind σ [x4]) (fun σ1 r1 => rec tC_Mat_coversAll_p27 σ1 [x0, x1, x2, x3, r1, (x5 + 1)])) = some (σf, rf, dd) := h
  intro p e s m args below meth c F Lo σ0 hF hLo C
  dsimp only at hF hLo ⊢
  refine ax_aload_n (pc := 205) C d_Mat_coversAll_205 rfl 0 rfl ?_
  refine cg_66_1_Mat_22 (pc := 206) C d_Mat_coversAll_206 ?_
  refine ax_iload (pc := 209) C d_Mat_coversAll_209 5 rfl ?_
  obtain ⟨σ1, r1, d1_1, d2_1, h1, h, hd2, hd1⟩ := it_b h
  have hm : sC_Sto_behind l D kA u w tx σ [x4] (σ1, r1, d1_1) := ih tC_Sto_behind _ _ _ h1
  refine cc_Vi (pc := 211) C (r0 := r1) (σ2 := σ1) (As := [.int x4]) (rest := []) (hm _ rfl) ml_Mat_102 54 rfl rfl rfl d_Mat_coversAll_211 rfl rfl (by dsimp only; omega) (by dsimp only; omega) (Nat.le_of_ble_eq_true rfl) (Nat.le_of_ble_eq_true rfl) (Nat.le_of_ble_eq_true rfl) ?_
  have hF : d2_1 + 1 ≤ F := by omega
  have hLo : 48 * d2_1 + 48 ≤ Lo := by omega
  refine ax_istore (pc := 214) C d_Mat_coversAll_214 (Nat.le_of_ble_eq_true rfl) ([(5, .int r1), (0, .ref (u 66)), (1, .int x0), (2, .int x1), (3, .int x2), (4, .int x3), (6, .int x5), (7, .int x6)]) rfl ?_
  refine ax_iinc (pc := 216) C (x5 + 1) d_Mat_coversAll_216 6 rfl rfl (Nat.le_of_ble_eq_true rfl) ([(6, .int (x5 + 1)), (5, .int r1), (0, .ref (u 66)), (1, .int x0), (2, .int x1), (3, .int x2), (4, .int x3), (7, .int x6)]) rfl ?_
  refine ax_goto (pc := 219) C 27 d_Mat_coversAll_219 (by decide) ?_
  refine ax_ls ([(0, .ref (u 66)), (1, .int x0), (2, .int x1), (3, .int x2), (4, .int x3), (5, .int r1), (6, .int (x5 + 1))]) [2, 3, 4, 5, 6, 1, 0] rfl ?_
  have hm : sC_Mat_coversAll_p27 l D kA u w tx σ1 [x0, x1, x2, x3, r1, (x5 + 1)] (σf, rf, _) := ih tC_Mat_coversAll_p27 _ _ _ h
  exact hm _ _ _ _ _ _ rfl p e s m args below meth c F Lo σ0 hF hLo C
set_option maxHeartbeats 4000000 in
set_option maxRecDepth 100000 in
theorem oC_Mat_makeImage_40 (l : Launch) (D : va_G) (kA : Nat → ClassId) (u w : Nat → Nat) (tx : Value) (rec : mF) (ih : ∀ t σ xs res, rec t σ xs = some res → cSem l D kA u w tx t σ xs res) (σ : mS) (xs : List Int32) (res : mR) (h : u_3 (kC_Mat_makeImage_40 rec σ) xs = some res) : sC_Mat_makeImage_40 l D kA u w tx σ xs res := by
  intro x0 x1 x2 hxs
  subst hxs
  obtain ⟨σf, rf, dd⟩ := res
  have h : (lt_ (mI σ 6605 0) (fun σ1 => rec tC_Mat_makeImage_40_p8 σ1 [x0, x1, x2, x0])) = some (σf, rf, dd) := h
  refine ax_Mi.of (by decide +kernel) (Nat.le_of_ble_eq_true rfl) ?_
  intro p e s m args below meth c C hnm
  have C : ax_C p s m args meth c b_Mat_makeImage "ClauseProver$Matcher" 9 (some .boolean) D kA (va_A (cpW kA u w tx σ) s.heap.size) := C
  obtain ⟨F, hFe⟩ : ∃ F, F = dd + 1 := ⟨_, rfl⟩
  obtain ⟨Lo, hLoe⟩ : ∃ Lo, Lo = 48 * dd + 48 := ⟨_, rfl⟩
  obtain ⟨σ0, hσ0⟩ : ∃ s0, s0 = σ := ⟨_, rfl⟩
  suffices K : AW p l e { frames := F, cells := 0, slots := 0, locals := Lo } s m args below meth c D kA (va_A (cpW kA u w tx σ0) s.heap.size) 9 (ax_Qi below args s D kA (cpW kA u w tx σ0) 0 0 (fun r w1 => r = rf ∧ w1 = cpW kA u w tx σf)) 0 [(0, .ref (u 66)), (1, .int x0), (2, .int x1), (3, .ref (u 40)), (4, .int x2)] [] (cpW kA u w tx σ) 0 0 by rw [hFe, hLoe, hσ0] at K; exact ax_ls ([(0, .ref (u 66)), (1, .int x0), (2, .int x1), (3, .ref (u 40)), (4, .int x2)]) [0, 1, 2, 3, 4] rfl K
  have C : ax_C p s m args meth c b_Mat_makeImage "ClauseProver$Matcher" 9 (some .boolean) D kA (va_A (cpW kA u w tx σ0) s.heap.size) := by rw [hσ0]; exact C
  have hF : dd + 1 ≤ F := by omega
  have hLo : 48 * dd + 48 ≤ Lo := by omega
  clear hFe hLoe hσ0
  refine ax_aload_n (pc := 0) C d_Mat_makeImage_0 rfl 0 rfl ?_
  refine ax_iconst (pc := 1) C 0 d_Mat_makeImage_1 (by decide +kernel) ?_
  refine cq_66_5_Mat_75 (pc := 2) C d_Mat_makeImage_2 ?_
  have h := it_l h
  generalize mI σ 6605 0 = σ1 at h ⊢
  refine ax_iload_n (pc := 5) C d_Mat_makeImage_5 rfl 1 rfl ?_
  refine ax_istore (pc := 6) C d_Mat_makeImage_6 (Nat.le_of_ble_eq_true rfl) ([(5, .int x0), (0, .ref (u 66)), (1, .int x0), (2, .int x1), (3, .ref (u 40)), (4, .int x2)]) rfl ?_
  refine ax_ls ([(0, .ref (u 66)), (1, .int x0), (2, .int x1), (3, .ref (u 40)), (4, .int x2), (5, .int x0)]) [1, 2, 3, 4, 5, 0] rfl ?_
  have hm : sC_Mat_makeImage_40_p8 l D kA u w tx σ1 [x0, x1, x2, x0] (σf, rf, _) := ih tC_Mat_makeImage_40_p8 _ _ _ h
  exact hm _ _ _ _ rfl p e s m args below meth c F Lo σ0 hF hLo C
set_option maxHeartbeats 4000000 in
set_option maxRecDepth 100000 in
theorem oC_Mat_makeImage_40_p8 (l : Launch) (D : va_G) (kA : Nat → ClassId) (u w : Nat → Nat) (tx : Value) (rec : mF) (ih : ∀ t σ xs res, rec t σ xs = some res → cSem l D kA u w tx t σ xs res) (σ : mS) (xs : List Int32) (res : mR) (h : u_4 (kC_Mat_makeImage_40_p8 rec σ) xs = some res) : sC_Mat_makeImage_40_p8 l D kA u w tx σ xs res := by
  intro x0 x1 x2 x3 hxs
  subst hxs
  obtain ⟨σf, rf, dd⟩ := res
  have h : (if ((x0 : Int32) + x1) ≤ x3 then (some (σ, 1, 0)) else (if bin x3 (σ.2.2 48) = true then (if 0 ≤ (σ.2.1 48 (Int32.toNatClampNeg x3)) then (rec tC_Mat_makeImage_40_p52 σ [x0, x1, x2, x3, (σ.2.1 48 (Int32.toNatClampNeg x3))]) else (if (((((σ.1 6603) : Int32) >>> ((((σ.2.1 48 (Int32.toNatClampNeg x3)) : Int32) ^^^ (-1)) &&& 31)) : Int32) &&& 1) = 0 then (some (σ, 0, 0)) else (rec tC_Mat_makeImage_40_p52 σ [x0, x1, x2, x3, (σ.2.1 48 (Int32.toNatClampNeg x3))]))) else none)) = some (σf, rf, dd) := h
  intro p e s m args below meth c F Lo σ0 hF hLo C
  dsimp only at hF hLo ⊢
  refine ax_iload (pc := 8) C d_Mat_makeImage_8 5 rfl ?_
  refine ax_iload_n (pc := 10) C d_Mat_makeImage_10 rfl 1 rfl ?_
  refine ax_iload_n (pc := 11) C d_Mat_makeImage_11 rfl 2 rfl ?_
  refine ax_iadd (pc := 12) C d_Mat_makeImage_12 ?_
  refine ax_icmp_ge (pc := 13) C 177 d_Mat_makeImage_13 (by decide) (fun hc => ?_) (fun hc => ?_)
  · have h := it_t hc h
    refine ax_iconst (pc := 177) C 1 d_Mat_makeImage_177 (by decide +kernel) ?_
    cases h
    exact ax_zret (pc := 178) C d_Mat_makeImage_178 rfl ⟨rfl, rfl⟩ (Nat.le_refl _) (Nat.le_refl _)
  · have h := it_f hc h
    refine ax_aload_n (pc := 16) C d_Mat_makeImage_16 rfl 0 rfl ?_
    refine cg_66_1_Mat_22 (pc := 17) C d_Mat_makeImage_17 ?_
    refine cg_54_0_Mat_26 (pc := 20) C d_Mat_makeImage_20 ?_
    refine cg_47_0_Mat_32 (pc := 23) C d_Mat_makeImage_23 ?_
    refine ax_iload (pc := 26) C d_Mat_makeImage_26 5 rfl ?_
    obtain ⟨hb, h⟩ := it_g h
    refine cl_48 (pc := 28) C d_Mat_makeImage_28 (bin_in hb) ?_
    refine ax_istore (pc := 29) C d_Mat_makeImage_29 (Nat.le_of_ble_eq_true rfl) ([(6, .int (σ.2.1 48 (Int32.toNatClampNeg x3))), (0, .ref (u 66)), (1, .int x0), (2, .int x1), (3, .ref (u 40)), (4, .int x2), (5, .int x3)]) rfl ?_
    refine ax_iload (pc := 31) C d_Mat_makeImage_31 0 rfl ?_
    refine ax_if_ge (pc := 33) C 52 d_Mat_makeImage_33 (by decide) (fun hc => ?_) (fun hc => ?_)
    · have h := it_t hc h
      refine ax_ls ([(0, .ref (u 66)), (1, .int x0), (2, .int x1), (3, .ref (u 40)), (4, .int x2), (5, .int x3), (6, .int (σ.2.1 48 (Int32.toNatClampNeg x3)))]) [1, 2, 3, 4, 5, 6, 0] rfl ?_
      have hm : sC_Mat_makeImage_40_p52 l D kA u w tx σ [x0, x1, x2, x3, (σ.2.1 48 (Int32.toNatClampNeg x3))] (σf, rf, _) := ih tC_Mat_makeImage_40_p52 _ _ _ h
      exact hm _ _ _ _ _ rfl p e s m args below meth c F Lo σ0 hF hLo C
    · have h := it_f hc h
      refine ax_aload_n (pc := 36) C d_Mat_makeImage_36 rfl 1 rfl ?_
      refine cg_66_3_Mat_37 (pc := 37) C d_Mat_makeImage_37 ?_
      refine ax_iload (pc := 40) C d_Mat_makeImage_40 0 rfl ?_
      refine ax_iconst (pc := 42) C (-1) d_Mat_makeImage_42 (by decide +kernel) ?_
      refine ax_ixor (pc := 43) C d_Mat_makeImage_43 ?_
      refine ax_ishr (pc := 44) C d_Mat_makeImage_44 ?_
      refine ax_iconst (pc := 45) C 1 d_Mat_makeImage_45 (by decide +kernel) ?_
      refine ax_iand (pc := 46) C d_Mat_makeImage_46 ?_
      refine ax_if_ne (pc := 47) C 52 d_Mat_makeImage_47 (by decide) (fun hc => ?_) (fun hc => ?_)
      · have h := it_f hc h
        refine ax_ls ([(0, .ref (u 66)), (1, .int x0), (2, .int x1), (3, .ref (u 40)), (4, .int x2), (5, .int x3), (6, .int (σ.2.1 48 (Int32.toNatClampNeg x3)))]) [1, 2, 3, 4, 5, 6, 0] rfl ?_
        have hm : sC_Mat_makeImage_40_p52 l D kA u w tx σ [x0, x1, x2, x3, (σ.2.1 48 (Int32.toNatClampNeg x3))] (σf, rf, _) := ih tC_Mat_makeImage_40_p52 _ _ _ h
        exact hm _ _ _ _ _ rfl p e s m args below meth c F Lo σ0 hF hLo C
      · have h := it_t hc h
        refine ax_iconst (pc := 50) C 0 d_Mat_makeImage_50 (by decide +kernel) ?_
        cases h
        exact ax_zret (pc := 51) C d_Mat_makeImage_51 rfl ⟨rfl, rfl⟩ (Nat.le_refl _) (Nat.le_refl _)
set_option maxHeartbeats 4000000 in
set_option maxRecDepth 100000 in
theorem oC_Mat_makeImage_40_p52 (l : Launch) (D : va_G) (kA : Nat → ClassId) (u w : Nat → Nat) (tx : Value) (rec : mF) (ih : ∀ t σ xs res, rec t σ xs = some res → cSem l D kA u w tx t σ xs res) (σ : mS) (xs : List Int32) (res : mR) (h : u_5 (kC_Mat_makeImage_40_p52 rec σ) xs = some res) : sC_Mat_makeImage_40_p52 l D kA u w tx σ xs res := by
  intro x0 x1 x2 x3 x4 hxs
  subst hxs
  obtain ⟨σf, rf, dd⟩ := res
  have h : (if 0 ≤ x4 then (rec tC_Mat_makeImage_40_p70 σ [x0, x1, x2, x3, x4, 0]) else (if bin ((x4 : Int32) ^^^ (-1)) 6 = true then (rec tC_Mat_makeImage_40_p70 σ [x0, x1, x2, x3, x4, (σ.2.1 67 (Int32.toNatClampNeg ((x4 : Int32) ^^^ (-1))))]) else none)) = some (σf, rf, dd) := h
  intro p e s m args below meth c F Lo σ0 hF hLo C
  dsimp only at hF hLo ⊢
  refine ax_iload (pc := 52) C d_Mat_makeImage_52 6 rfl ?_
  refine ax_if_ge (pc := 54) C 69 d_Mat_makeImage_54 (by decide) (fun hc => ?_) (fun hc => ?_)
  · have h := it_t hc h
    refine ax_iconst (pc := 69) C 0 d_Mat_makeImage_69 (by decide +kernel) ?_
    refine ax_ls ([(0, .ref (u 66)), (1, .int x0), (2, .int x1), (3, .ref (u 40)), (4, .int x2), (5, .int x3), (6, .int x4)]) [0, 1, 2, 3, 4, 5, 6] rfl ?_
    have hm : sC_Mat_makeImage_40_p70 l D kA u w tx σ [x0, x1, x2, x3, x4, 0] (σf, rf, _) := ih tC_Mat_makeImage_40_p70 _ _ _ h
    exact hm _ _ _ _ _ _ rfl p e s m args below meth c F Lo σ0 hF hLo C
  · have h := it_f hc h
    refine ax_aload_n (pc := 57) C d_Mat_makeImage_57 rfl 0 rfl ?_
    refine cg_66_2_Mat_9 (pc := 58) C d_Mat_makeImage_58 ?_
    refine ax_iload (pc := 61) C d_Mat_makeImage_61 6 rfl ?_
    refine ax_iconst (pc := 63) C (-1) d_Mat_makeImage_63 (by decide +kernel) ?_
    refine ax_ixor (pc := 64) C d_Mat_makeImage_64 ?_
    obtain ⟨hb, h⟩ := it_g h
    refine cl_67 (pc := 65) C d_Mat_makeImage_65 (bin_in hb) ?_
    refine ax_goto (pc := 66) C 70 d_Mat_makeImage_66 (by decide) ?_
    refine ax_ls ([(0, .ref (u 66)), (1, .int x0), (2, .int x1), (3, .ref (u 40)), (4, .int x2), (5, .int x3), (6, .int x4)]) [0, 1, 2, 3, 4, 5, 6] rfl ?_
    have hm : sC_Mat_makeImage_40_p70 l D kA u w tx σ [x0, x1, x2, x3, x4, (σ.2.1 67 (Int32.toNatClampNeg ((x4 : Int32) ^^^ (-1))))] (σf, rf, _) := ih tC_Mat_makeImage_40_p70 _ _ _ h
    exact hm _ _ _ _ _ _ rfl p e s m args below meth c F Lo σ0 hF hLo C
set_option maxHeartbeats 4000000 in
set_option maxRecDepth 100000 in
theorem oC_Mat_makeImage_40_p70 (l : Launch) (D : va_G) (kA : Nat → ClassId) (u w : Nat → Nat) (tx : Value) (rec : mF) (ih : ∀ t σ xs res, rec t σ xs = some res → cSem l D kA u w tx t σ xs res) (σ : mS) (xs : List Int32) (res : mR) (h : u_6 (kC_Mat_makeImage_40_p70 rec σ) xs = some res) : sC_Mat_makeImage_40_p70 l D kA u w tx σ xs res := by
  intro x0 x1 x2 x3 x4 x5 hxs
  subst hxs
  obtain ⟨σf, rf, dd⟩ := res
  have h : (if 0 ≤ x4 then (rec tC_Mat_makeImage_40_p94 σ [x0, x1, x2, x3, x4, x5, 1]) else (bnd (rec tC_Sym_after_40 σ [x5]) (fun σ1 r1 => rec tC_Mat_makeImage_40_p94 σ1 [x0, x1, x2, x3, x4, x5, ((r1 : Int32) - x5)]))) = some (σf, rf, dd) := h
  intro p e s m args below meth c F Lo σ0 hF hLo C
  dsimp only at hF hLo ⊢
  refine ax_istore (pc := 70) C d_Mat_makeImage_70 (Nat.le_of_ble_eq_true rfl) ([(7, .int x5), (0, .ref (u 66)), (1, .int x0), (2, .int x1), (3, .ref (u 40)), (4, .int x2), (5, .int x3), (6, .int x4)]) rfl ?_
  refine ax_iload (pc := 72) C d_Mat_makeImage_72 7 rfl ?_
  refine ax_if_ge (pc := 74) C 93 d_Mat_makeImage_74 (by decide) (fun hc => ?_) (fun hc => ?_)
  · have h := it_t hc h
    refine ax_iconst (pc := 93) C 1 d_Mat_makeImage_93 (by decide +kernel) ?_
    refine ax_ls ([(0, .ref (u 66)), (1, .int x0), (2, .int x1), (3, .ref (u 40)), (4, .int x2), (5, .int x3), (6, .int x4), (7, .int x5)]) [1, 2, 3, 4, 5, 6, 7, 0] rfl ?_
    have hm : sC_Mat_makeImage_40_p94 l D kA u w tx σ [x0, x1, x2, x3, x4, x5, 1] (σf, rf, _) := ih tC_Mat_makeImage_40_p94 _ _ _ h
    exact hm _ _ _ _ _ _ _ rfl p e s m args below meth c F Lo σ0 hF hLo C
  · have h := it_f hc h
    refine ax_aload_n (pc := 77) C d_Mat_makeImage_77 rfl 1 rfl ?_
    refine cg_66_0_Mat_18 (pc := 78) C d_Mat_makeImage_78 ?_
    refine ax_aload_n (pc := 81) C d_Mat_makeImage_81 rfl 4 rfl ?_
    refine ax_iload (pc := 82) C d_Mat_makeImage_82 0 rfl ?_
    obtain ⟨σ1, r1, d1_1, d2_1, h1, h, hd2, hd1⟩ := it_b h
    have hm : sC_Sym_after_40 l D kA u w tx σ [x5] (σ1, r1, d1_1) := ih tC_Sym_after_40 _ _ _ h1
    refine cc_Vi (pc := 84) C (r0 := r1) (σ2 := σ1) (As := [.ref (u 40), .int x5]) (rest := []) (hm _ rfl) ml_Mat_51 6 rfl rfl rfl d_Mat_makeImage_84 rfl rfl (by dsimp only; omega) (by dsimp only; omega) (Nat.le_of_ble_eq_true rfl) (Nat.le_of_ble_eq_true rfl) (Nat.le_of_ble_eq_true rfl) ?_
    have hF : d2_1 + 1 ≤ F := by omega
    have hLo : 48 * d2_1 + 48 ≤ Lo := by omega
    refine ax_iload (pc := 87) C d_Mat_makeImage_87 0 rfl ?_
    refine ax_isub (pc := 89) C d_Mat_makeImage_89 ?_
    refine ax_goto (pc := 90) C 94 d_Mat_makeImage_90 (by decide) ?_
    refine ax_ls ([(0, .ref (u 66)), (1, .int x0), (2, .int x1), (3, .ref (u 40)), (4, .int x2), (5, .int x3), (6, .int x4), (7, .int x5)]) [1, 2, 3, 4, 5, 6, 7, 0] rfl ?_
    have hm : sC_Mat_makeImage_40_p94 l D kA u w tx σ1 [x0, x1, x2, x3, x4, x5, ((r1 : Int32) - x5)] (σf, rf, _) := ih tC_Mat_makeImage_40_p94 _ _ _ h
    exact hm _ _ _ _ _ _ _ rfl p e s m args below meth c F Lo σ0 hF hLo C
set_option maxHeartbeats 4000000 in
set_option maxRecDepth 100000 in
theorem oC_Mat_makeImage_40_p94 (l : Launch) (D : va_G) (kA : Nat → ClassId) (u w : Nat → Nat) (tx : Value) (rec : mF) (ih : ∀ t σ xs res, rec t σ xs = some res → cSem l D kA u w tx t σ xs res) (σ : mS) (xs : List Int32) (res : mR) (h : u_7 (kC_Mat_makeImage_40_p94 rec σ) xs = some res) : sC_Mat_makeImage_40_p94 l D kA u w tx σ xs res := by
  intro x0 x1 x2 x3 x4 x5 x6 hxs
  subst hxs
  obtain ⟨σf, rf, dd⟩ := res
  have h : (if x2 < (((σ.1 6605) : Int32) + x6) then (rec tC_Mat_makeImage_40_p123 σ [x0, x1, x2, x3, x4, x5, x6]) else (if (((σ.1 6605) : Int32) + x6) ≤ (Int32.ofNat 100) then (if 0 ≤ x4 then (if bin (σ.1 6605) 100 = true then (lt_ (mA σ 68 (Int32.toNatClampNeg (σ.1 6605)) x4) (fun σ1 => rec tC_Mat_makeImage_40_p160 σ1 [x0, x1, x2, x3, x4, x5, x6])) else none) else (if bcp x5 (σ.1 6605) x6 100 100 = true then (lt_ (mCp σ 40 68 (Int32.toNatClampNeg x5) (Int32.toNatClampNeg (σ.1 6605)) (Int32.toNatClampNeg x6)) (fun σ2 => rec tC_Mat_makeImage_40_p160 σ2 [x0, x1, x2, x3, x4, x5, x6])) else none)) else (rec tC_Mat_makeImage_40_p123 σ [x0, x1, x2, x3, x4, x5, x6]))) = some (σf, rf, dd) := h
  intro p e s m args below meth c F Lo σ0 hF hLo C
  dsimp only at hF hLo ⊢
  refine ax_istore (pc := 94) C d_Mat_makeImage_94 (Nat.le_of_ble_eq_true rfl) ([(8, .int x6), (0, .ref (u 66)), (1, .int x0), (2, .int x1), (3, .ref (u 40)), (4, .int x2), (5, .int x3), (6, .int x4), (7, .int x5)]) rfl ?_
  refine ax_aload_n (pc := 96) C d_Mat_makeImage_96 rfl 1 rfl ?_
  refine cg_66_5_Mat_75 (pc := 97) C d_Mat_makeImage_97 ?_
  refine ax_iload (pc := 100) C d_Mat_makeImage_100 0 rfl ?_
  refine ax_iadd (pc := 102) C d_Mat_makeImage_102 ?_
  refine ax_iload (pc := 103) C d_Mat_makeImage_103 5 rfl ?_
  refine ax_icmp_gt (pc := 105) C 123 d_Mat_makeImage_105 (by decide) (fun hc => ?_) (fun hc => ?_)
  · have h := it_t hc h
    refine ax_ls ([(0, .ref (u 66)), (1, .int x0), (2, .int x1), (3, .ref (u 40)), (4, .int x2), (5, .int x3), (6, .int x4), (7, .int x5), (8, .int x6)]) [1, 2, 3, 4, 5, 6, 7, 8, 0] rfl ?_
    have hm : sC_Mat_makeImage_40_p123 l D kA u w tx σ [x0, x1, x2, x3, x4, x5, x6] (σf, rf, _) := ih tC_Mat_makeImage_40_p123 _ _ _ h
    exact hm _ _ _ _ _ _ _ rfl p e s m args below meth c F Lo σ0 hF hLo C
  · have h := it_f hc h
    refine ax_aload_n (pc := 108) C d_Mat_makeImage_108 rfl 1 rfl ?_
    refine cg_66_5_Mat_75 (pc := 109) C d_Mat_makeImage_109 ?_
    refine ax_iload (pc := 112) C d_Mat_makeImage_112 0 rfl ?_
    refine ax_iadd (pc := 114) C d_Mat_makeImage_114 ?_
    refine ax_aload_n (pc := 115) C d_Mat_makeImage_115 rfl 1 rfl ?_
    refine cg_66_4_Mat_15 (pc := 116) C d_Mat_makeImage_116 ?_
    refine cn_68 (pc := 119) C d_Mat_makeImage_119 ?_
    refine ax_icmp_le (pc := 120) C 125 d_Mat_makeImage_120 (by decide) (fun hc => ?_) (fun hc => ?_)
    · have h := it_t hc h
      refine ax_iload (pc := 125) C d_Mat_makeImage_125 7 rfl ?_
      refine ax_if_ge (pc := 127) C 149 d_Mat_makeImage_127 (by decide) (fun hc => ?_) (fun hc => ?_)
      · have h := it_t hc h
        refine ax_aload_n (pc := 149) C d_Mat_makeImage_149 rfl 1 rfl ?_
        refine cg_66_4_Mat_15 (pc := 150) C d_Mat_makeImage_150 ?_
        refine ax_aload_n (pc := 153) C d_Mat_makeImage_153 rfl 1 rfl ?_
        refine cg_66_5_Mat_75 (pc := 154) C d_Mat_makeImage_154 ?_
        refine ax_iload (pc := 157) C d_Mat_makeImage_157 7 rfl ?_
        obtain ⟨hb, h⟩ := it_g h
        refine cs_68 (pc := 159) C d_Mat_makeImage_159 (bin_in hb) ?_
        have h := it_l h
        generalize mA σ 68 (Int32.toNatClampNeg (σ.1 6605)) x4 = σ1 at h ⊢
        refine ax_ls ([(0, .ref (u 66)), (1, .int x0), (2, .int x1), (3, .ref (u 40)), (4, .int x2), (5, .int x3), (6, .int x4), (7, .int x5), (8, .int x6)]) [1, 2, 3, 4, 5, 6, 7, 8, 0] rfl ?_
        have hm : sC_Mat_makeImage_40_p160 l D kA u w tx σ1 [x0, x1, x2, x3, x4, x5, x6] (σf, rf, _) := ih tC_Mat_makeImage_40_p160 _ _ _ h
        exact hm _ _ _ _ _ _ _ rfl p e s m args below meth c F Lo σ0 hF hLo C
      · have h := it_f hc h
        refine ax_aload_n (pc := 130) C d_Mat_makeImage_130 rfl 4 rfl ?_
        refine ax_iload (pc := 131) C d_Mat_makeImage_131 8 rfl ?_
        refine ax_aload_n (pc := 133) C d_Mat_makeImage_133 rfl 1 rfl ?_
        refine cg_66_4_Mat_15 (pc := 134) C d_Mat_makeImage_134 ?_
        refine ax_aload_n (pc := 137) C d_Mat_makeImage_137 rfl 1 rfl ?_
        refine cg_66_5_Mat_75 (pc := 138) C d_Mat_makeImage_138 ?_
        refine ax_iload (pc := 141) C d_Mat_makeImage_141 0 rfl ?_
        obtain ⟨hb, h⟩ := it_g h
        refine ccp_40_68 (pc := 143) C (rest := []) tb_methodLink_1092 tb_native_616 tb_static_615 tb_initialized_20 d_Mat_makeImage_143 hb hF hLo (Nat.le_of_ble_eq_true rfl) ?_
        have h := it_l h
        generalize mCp σ 40 68 (Int32.toNatClampNeg x5) (Int32.toNatClampNeg (σ.1 6605)) (Int32.toNatClampNeg x6) = σ2 at h ⊢
        refine ax_goto (pc := 146) C 160 d_Mat_makeImage_146 (by decide) ?_
        refine ax_ls ([(0, .ref (u 66)), (1, .int x0), (2, .int x1), (3, .ref (u 40)), (4, .int x2), (5, .int x3), (6, .int x4), (7, .int x5), (8, .int x6)]) [1, 2, 3, 4, 5, 6, 7, 8, 0] rfl ?_
        have hm : sC_Mat_makeImage_40_p160 l D kA u w tx σ2 [x0, x1, x2, x3, x4, x5, x6] (σf, rf, _) := ih tC_Mat_makeImage_40_p160 _ _ _ h
        exact hm _ _ _ _ _ _ _ rfl p e s m args below meth c F Lo σ0 hF hLo C
    · have h := it_f hc h
      refine ax_ls ([(0, .ref (u 66)), (1, .int x0), (2, .int x1), (3, .ref (u 40)), (4, .int x2), (5, .int x3), (6, .int x4), (7, .int x5), (8, .int x6)]) [1, 2, 3, 4, 5, 6, 7, 8, 0] rfl ?_
      have hm : sC_Mat_makeImage_40_p123 l D kA u w tx σ [x0, x1, x2, x3, x4, x5, x6] (σf, rf, _) := ih tC_Mat_makeImage_40_p123 _ _ _ h
      exact hm _ _ _ _ _ _ _ rfl p e s m args below meth c F Lo σ0 hF hLo C
set_option maxHeartbeats 4000000 in
set_option maxRecDepth 100000 in
theorem oC_Mat_makeImage_40_p123 (l : Launch) (D : va_G) (kA : Nat → ClassId) (u w : Nat → Nat) (tx : Value) (rec : mF) (ih : ∀ t σ xs res, rec t σ xs = some res → cSem l D kA u w tx t σ xs res) (σ : mS) (xs : List Int32) (res : mR) (h : u_7 (kC_Mat_makeImage_40_p123 rec σ) xs = some res) : sC_Mat_makeImage_40_p123 l D kA u w tx σ xs res := by
  intro x0 x1 x2 x3 x4 x5 x6 hxs
  subst hxs
  obtain ⟨σf, rf, dd⟩ := res
  have h : (some (σ, 0, 0)) = some (σf, rf, dd) := h
  intro p e s m args below meth c F Lo σ0 hF hLo C
  dsimp only at hF hLo ⊢
  refine ax_iconst (pc := 123) C 0 d_Mat_makeImage_123 (by decide +kernel) ?_
  cases h
  exact ax_zret (pc := 124) C d_Mat_makeImage_124 rfl ⟨rfl, rfl⟩ (Nat.le_refl _) (Nat.le_refl _)
set_option maxHeartbeats 4000000 in
set_option maxRecDepth 100000 in
theorem oC_Mat_makeImage_40_p160 (l : Launch) (D : va_G) (kA : Nat → ClassId) (u w : Nat → Nat) (tx : Value) (rec : mF) (ih : ∀ t σ xs res, rec t σ xs = some res → cSem l D kA u w tx t σ xs res) (σ : mS) (xs : List Int32) (res : mR) (h : u_7 (kC_Mat_makeImage_40_p160 rec σ) xs = some res) : sC_Mat_makeImage_40_p160 l D kA u w tx σ xs res := by
  intro x0 x1 x2 x3 x4 x5 x6 hxs
  subst hxs
  obtain ⟨σf, rf, dd⟩ := res
  have h : (lt_ (mI σ 6605 (((σ.1 6605) : Int32) + x6)) (fun σ1 => rec tC_Mat_makeImage_40_p8 σ1 [x0, x1, x2, (x3 + 1)])) = some (σf, rf, dd) := h
  intro p e s m args below meth c F Lo σ0 hF hLo C
  dsimp only at hF hLo ⊢
  refine ax_aload_n (pc := 160) C d_Mat_makeImage_160 rfl 0 rfl ?_
  refine ax_dup (pc := 161) C d_Mat_makeImage_161 rfl ?_
  refine cg_66_5_Mat_75 (pc := 162) C d_Mat_makeImage_162 ?_
  refine ax_iload (pc := 165) C d_Mat_makeImage_165 8 rfl ?_
  refine ax_iadd (pc := 167) C d_Mat_makeImage_167 ?_
  refine cq_66_5_Mat_75 (pc := 168) C d_Mat_makeImage_168 ?_
  have h := it_l h
  generalize mI σ 6605 (((σ.1 6605) : Int32) + x6) = σ1 at h ⊢
  refine ax_iinc (pc := 171) C (x3 + 1) d_Mat_makeImage_171 5 rfl rfl (Nat.le_of_ble_eq_true rfl) ([(5, .int (x3 + 1)), (0, .ref (u 66)), (1, .int x0), (2, .int x1), (3, .ref (u 40)), (4, .int x2), (6, .int x4), (7, .int x5), (8, .int x6)]) rfl ?_
  refine ax_goto (pc := 174) C 8 d_Mat_makeImage_174 (by decide) ?_
  refine ax_ls ([(0, .ref (u 66)), (1, .int x0), (2, .int x1), (3, .ref (u 40)), (4, .int x2), (5, .int (x3 + 1))]) [1, 2, 3, 4, 5, 0] rfl ?_
  have hm : sC_Mat_makeImage_40_p8 l D kA u w tx σ1 [x0, x1, x2, (x3 + 1)] (σf, rf, _) := ih tC_Mat_makeImage_40_p8 _ _ _ h
  exact hm _ _ _ _ rfl p e s m args below meth c F Lo σ0 hF hLo C
set_option maxHeartbeats 4000000 in
set_option maxRecDepth 100000 in
theorem oC_Mat_makeImage_48 (l : Launch) (D : va_G) (kA : Nat → ClassId) (u w : Nat → Nat) (tx : Value) (rec : mF) (ih : ∀ t σ xs res, rec t σ xs = some res → cSem l D kA u w tx t σ xs res) (σ : mS) (xs : List Int32) (res : mR) (h : u_3 (kC_Mat_makeImage_48 rec σ) xs = some res) : sC_Mat_makeImage_48 l D kA u w tx σ xs res := by
  intro x0 x1 x2 hxs
  subst hxs
  obtain ⟨σf, rf, dd⟩ := res
  have h : (lt_ (mI σ 6605 0) (fun σ1 => rec tC_Mat_makeImage_48_p8 σ1 [x0, x1, x2, x0])) = some (σf, rf, dd) := h
  refine ax_Mi.of (by decide +kernel) (Nat.le_of_ble_eq_true rfl) ?_
  intro p e s m args below meth c C hnm
  have C : ax_C p s m args meth c b_Mat_makeImage "ClauseProver$Matcher" 9 (some .boolean) D kA (va_A (cpW kA u w tx σ) s.heap.size) := C
  obtain ⟨F, hFe⟩ : ∃ F, F = dd + 1 := ⟨_, rfl⟩
  obtain ⟨Lo, hLoe⟩ : ∃ Lo, Lo = 48 * dd + 48 := ⟨_, rfl⟩
  obtain ⟨σ0, hσ0⟩ : ∃ s0, s0 = σ := ⟨_, rfl⟩
  suffices K : AW p l e { frames := F, cells := 0, slots := 0, locals := Lo } s m args below meth c D kA (va_A (cpW kA u w tx σ0) s.heap.size) 9 (ax_Qi below args s D kA (cpW kA u w tx σ0) 0 0 (fun r w1 => r = rf ∧ w1 = cpW kA u w tx σf)) 0 [(0, .ref (u 66)), (1, .int x0), (2, .int x1), (3, .ref (w 48)), (4, .int x2)] [] (cpW kA u w tx σ) 0 0 by rw [hFe, hLoe, hσ0] at K; exact ax_ls ([(0, .ref (u 66)), (1, .int x0), (2, .int x1), (3, .ref (w 48)), (4, .int x2)]) [0, 1, 2, 3, 4] rfl K
  have C : ax_C p s m args meth c b_Mat_makeImage "ClauseProver$Matcher" 9 (some .boolean) D kA (va_A (cpW kA u w tx σ0) s.heap.size) := by rw [hσ0]; exact C
  have hF : dd + 1 ≤ F := by omega
  have hLo : 48 * dd + 48 ≤ Lo := by omega
  clear hFe hLoe hσ0
  refine ax_aload_n (pc := 0) C d_Mat_makeImage_0 rfl 0 rfl ?_
  refine ax_iconst (pc := 1) C 0 d_Mat_makeImage_1 (by decide +kernel) ?_
  refine cq_66_5_Mat_75 (pc := 2) C d_Mat_makeImage_2 ?_
  have h := it_l h
  generalize mI σ 6605 0 = σ1 at h ⊢
  refine ax_iload_n (pc := 5) C d_Mat_makeImage_5 rfl 1 rfl ?_
  refine ax_istore (pc := 6) C d_Mat_makeImage_6 (Nat.le_of_ble_eq_true rfl) ([(5, .int x0), (0, .ref (u 66)), (1, .int x0), (2, .int x1), (3, .ref (w 48)), (4, .int x2)]) rfl ?_
  refine ax_ls ([(0, .ref (u 66)), (1, .int x0), (2, .int x1), (3, .ref (w 48)), (4, .int x2), (5, .int x0)]) [1, 2, 3, 4, 5, 0] rfl ?_
  have hm : sC_Mat_makeImage_48_p8 l D kA u w tx σ1 [x0, x1, x2, x0] (σf, rf, _) := ih tC_Mat_makeImage_48_p8 _ _ _ h
  exact hm _ _ _ _ rfl p e s m args below meth c F Lo σ0 hF hLo C
set_option maxHeartbeats 4000000 in
set_option maxRecDepth 100000 in
theorem oC_Mat_makeImage_48_p8 (l : Launch) (D : va_G) (kA : Nat → ClassId) (u w : Nat → Nat) (tx : Value) (rec : mF) (ih : ∀ t σ xs res, rec t σ xs = some res → cSem l D kA u w tx t σ xs res) (σ : mS) (xs : List Int32) (res : mR) (h : u_4 (kC_Mat_makeImage_48_p8 rec σ) xs = some res) : sC_Mat_makeImage_48_p8 l D kA u w tx σ xs res := by
  intro x0 x1 x2 x3 hxs
  subst hxs
  obtain ⟨σf, rf, dd⟩ := res
  have h : (if ((x0 : Int32) + x1) ≤ x3 then (some (σ, 1, 0)) else (if bin x3 (σ.2.2 48) = true then (if 0 ≤ (σ.2.1 48 (Int32.toNatClampNeg x3)) then (rec tC_Mat_makeImage_48_p52 σ [x0, x1, x2, x3, (σ.2.1 48 (Int32.toNatClampNeg x3))]) else (if (((((σ.1 6603) : Int32) >>> ((((σ.2.1 48 (Int32.toNatClampNeg x3)) : Int32) ^^^ (-1)) &&& 31)) : Int32) &&& 1) = 0 then (some (σ, 0, 0)) else (rec tC_Mat_makeImage_48_p52 σ [x0, x1, x2, x3, (σ.2.1 48 (Int32.toNatClampNeg x3))]))) else none)) = some (σf, rf, dd) := h
  intro p e s m args below meth c F Lo σ0 hF hLo C
  dsimp only at hF hLo ⊢
  refine ax_iload (pc := 8) C d_Mat_makeImage_8 5 rfl ?_
  refine ax_iload_n (pc := 10) C d_Mat_makeImage_10 rfl 1 rfl ?_
  refine ax_iload_n (pc := 11) C d_Mat_makeImage_11 rfl 2 rfl ?_
  refine ax_iadd (pc := 12) C d_Mat_makeImage_12 ?_
  refine ax_icmp_ge (pc := 13) C 177 d_Mat_makeImage_13 (by decide) (fun hc => ?_) (fun hc => ?_)
  · have h := it_t hc h
    refine ax_iconst (pc := 177) C 1 d_Mat_makeImage_177 (by decide +kernel) ?_
    cases h
    exact ax_zret (pc := 178) C d_Mat_makeImage_178 rfl ⟨rfl, rfl⟩ (Nat.le_refl _) (Nat.le_refl _)
  · have h := it_f hc h
    refine ax_aload_n (pc := 16) C d_Mat_makeImage_16 rfl 0 rfl ?_
    refine cg_66_1_Mat_22 (pc := 17) C d_Mat_makeImage_17 ?_
    refine cg_54_0_Mat_26 (pc := 20) C d_Mat_makeImage_20 ?_
    refine cg_47_0_Mat_32 (pc := 23) C d_Mat_makeImage_23 ?_
    refine ax_iload (pc := 26) C d_Mat_makeImage_26 5 rfl ?_
    obtain ⟨hb, h⟩ := it_g h
    refine cl_48 (pc := 28) C d_Mat_makeImage_28 (bin_in hb) ?_
    refine ax_istore (pc := 29) C d_Mat_makeImage_29 (Nat.le_of_ble_eq_true rfl) ([(6, .int (σ.2.1 48 (Int32.toNatClampNeg x3))), (0, .ref (u 66)), (1, .int x0), (2, .int x1), (3, .ref (w 48)), (4, .int x2), (5, .int x3)]) rfl ?_
    refine ax_iload (pc := 31) C d_Mat_makeImage_31 0 rfl ?_
    refine ax_if_ge (pc := 33) C 52 d_Mat_makeImage_33 (by decide) (fun hc => ?_) (fun hc => ?_)
    · have h := it_t hc h
      refine ax_ls ([(0, .ref (u 66)), (1, .int x0), (2, .int x1), (3, .ref (w 48)), (4, .int x2), (5, .int x3), (6, .int (σ.2.1 48 (Int32.toNatClampNeg x3)))]) [1, 2, 3, 4, 5, 6, 0] rfl ?_
      have hm : sC_Mat_makeImage_48_p52 l D kA u w tx σ [x0, x1, x2, x3, (σ.2.1 48 (Int32.toNatClampNeg x3))] (σf, rf, _) := ih tC_Mat_makeImage_48_p52 _ _ _ h
      exact hm _ _ _ _ _ rfl p e s m args below meth c F Lo σ0 hF hLo C
    · have h := it_f hc h
      refine ax_aload_n (pc := 36) C d_Mat_makeImage_36 rfl 1 rfl ?_
      refine cg_66_3_Mat_37 (pc := 37) C d_Mat_makeImage_37 ?_
      refine ax_iload (pc := 40) C d_Mat_makeImage_40 0 rfl ?_
      refine ax_iconst (pc := 42) C (-1) d_Mat_makeImage_42 (by decide +kernel) ?_
      refine ax_ixor (pc := 43) C d_Mat_makeImage_43 ?_
      refine ax_ishr (pc := 44) C d_Mat_makeImage_44 ?_
      refine ax_iconst (pc := 45) C 1 d_Mat_makeImage_45 (by decide +kernel) ?_
      refine ax_iand (pc := 46) C d_Mat_makeImage_46 ?_
      refine ax_if_ne (pc := 47) C 52 d_Mat_makeImage_47 (by decide) (fun hc => ?_) (fun hc => ?_)
      · have h := it_f hc h
        refine ax_ls ([(0, .ref (u 66)), (1, .int x0), (2, .int x1), (3, .ref (w 48)), (4, .int x2), (5, .int x3), (6, .int (σ.2.1 48 (Int32.toNatClampNeg x3)))]) [1, 2, 3, 4, 5, 6, 0] rfl ?_
        have hm : sC_Mat_makeImage_48_p52 l D kA u w tx σ [x0, x1, x2, x3, (σ.2.1 48 (Int32.toNatClampNeg x3))] (σf, rf, _) := ih tC_Mat_makeImage_48_p52 _ _ _ h
        exact hm _ _ _ _ _ rfl p e s m args below meth c F Lo σ0 hF hLo C
      · have h := it_t hc h
        refine ax_iconst (pc := 50) C 0 d_Mat_makeImage_50 (by decide +kernel) ?_
        cases h
        exact ax_zret (pc := 51) C d_Mat_makeImage_51 rfl ⟨rfl, rfl⟩ (Nat.le_refl _) (Nat.le_refl _)
set_option maxHeartbeats 4000000 in
set_option maxRecDepth 100000 in
theorem oC_Mat_makeImage_48_p52 (l : Launch) (D : va_G) (kA : Nat → ClassId) (u w : Nat → Nat) (tx : Value) (rec : mF) (ih : ∀ t σ xs res, rec t σ xs = some res → cSem l D kA u w tx t σ xs res) (σ : mS) (xs : List Int32) (res : mR) (h : u_5 (kC_Mat_makeImage_48_p52 rec σ) xs = some res) : sC_Mat_makeImage_48_p52 l D kA u w tx σ xs res := by
  intro x0 x1 x2 x3 x4 hxs
  subst hxs
  obtain ⟨σf, rf, dd⟩ := res
  have h : (if 0 ≤ x4 then (rec tC_Mat_makeImage_48_p70 σ [x0, x1, x2, x3, x4, 0]) else (if bin ((x4 : Int32) ^^^ (-1)) 6 = true then (rec tC_Mat_makeImage_48_p70 σ [x0, x1, x2, x3, x4, (σ.2.1 67 (Int32.toNatClampNeg ((x4 : Int32) ^^^ (-1))))]) else none)) = some (σf, rf, dd) := h
  intro p e s m args below meth c F Lo σ0 hF hLo C
  dsimp only at hF hLo ⊢
  refine ax_iload (pc := 52) C d_Mat_makeImage_52 6 rfl ?_
  refine ax_if_ge (pc := 54) C 69 d_Mat_makeImage_54 (by decide) (fun hc => ?_) (fun hc => ?_)
  · have h := it_t hc h
    refine ax_iconst (pc := 69) C 0 d_Mat_makeImage_69 (by decide +kernel) ?_
    refine ax_ls ([(0, .ref (u 66)), (1, .int x0), (2, .int x1), (3, .ref (w 48)), (4, .int x2), (5, .int x3), (6, .int x4)]) [0, 1, 2, 3, 4, 5, 6] rfl ?_
    have hm : sC_Mat_makeImage_48_p70 l D kA u w tx σ [x0, x1, x2, x3, x4, 0] (σf, rf, _) := ih tC_Mat_makeImage_48_p70 _ _ _ h
    exact hm _ _ _ _ _ _ rfl p e s m args below meth c F Lo σ0 hF hLo C
  · have h := it_f hc h
    refine ax_aload_n (pc := 57) C d_Mat_makeImage_57 rfl 0 rfl ?_
    refine cg_66_2_Mat_9 (pc := 58) C d_Mat_makeImage_58 ?_
    refine ax_iload (pc := 61) C d_Mat_makeImage_61 6 rfl ?_
    refine ax_iconst (pc := 63) C (-1) d_Mat_makeImage_63 (by decide +kernel) ?_
    refine ax_ixor (pc := 64) C d_Mat_makeImage_64 ?_
    obtain ⟨hb, h⟩ := it_g h
    refine cl_67 (pc := 65) C d_Mat_makeImage_65 (bin_in hb) ?_
    refine ax_goto (pc := 66) C 70 d_Mat_makeImage_66 (by decide) ?_
    refine ax_ls ([(0, .ref (u 66)), (1, .int x0), (2, .int x1), (3, .ref (w 48)), (4, .int x2), (5, .int x3), (6, .int x4)]) [0, 1, 2, 3, 4, 5, 6] rfl ?_
    have hm : sC_Mat_makeImage_48_p70 l D kA u w tx σ [x0, x1, x2, x3, x4, (σ.2.1 67 (Int32.toNatClampNeg ((x4 : Int32) ^^^ (-1))))] (σf, rf, _) := ih tC_Mat_makeImage_48_p70 _ _ _ h
    exact hm _ _ _ _ _ _ rfl p e s m args below meth c F Lo σ0 hF hLo C
set_option maxHeartbeats 4000000 in
set_option maxRecDepth 100000 in
theorem oC_Mat_makeImage_48_p70 (l : Launch) (D : va_G) (kA : Nat → ClassId) (u w : Nat → Nat) (tx : Value) (rec : mF) (ih : ∀ t σ xs res, rec t σ xs = some res → cSem l D kA u w tx t σ xs res) (σ : mS) (xs : List Int32) (res : mR) (h : u_6 (kC_Mat_makeImage_48_p70 rec σ) xs = some res) : sC_Mat_makeImage_48_p70 l D kA u w tx σ xs res := by
  intro x0 x1 x2 x3 x4 x5 hxs
  subst hxs
  obtain ⟨σf, rf, dd⟩ := res
  have h : (if 0 ≤ x4 then (rec tC_Mat_makeImage_48_p94 σ [x0, x1, x2, x3, x4, x5, 1]) else (bnd (rec tC_Sym_after_48 σ [x5]) (fun σ1 r1 => rec tC_Mat_makeImage_48_p94 σ1 [x0, x1, x2, x3, x4, x5, ((r1 : Int32) - x5)]))) = some (σf, rf, dd) := h
  intro p e s m args below meth c F Lo σ0 hF hLo C
  dsimp only at hF hLo ⊢
  refine ax_istore (pc := 70) C d_Mat_makeImage_70 (Nat.le_of_ble_eq_true rfl) ([(7, .int x5), (0, .ref (u 66)), (1, .int x0), (2, .int x1), (3, .ref (w 48)), (4, .int x2), (5, .int x3), (6, .int x4)]) rfl ?_
  refine ax_iload (pc := 72) C d_Mat_makeImage_72 7 rfl ?_
  refine ax_if_ge (pc := 74) C 93 d_Mat_makeImage_74 (by decide) (fun hc => ?_) (fun hc => ?_)
  · have h := it_t hc h
    refine ax_iconst (pc := 93) C 1 d_Mat_makeImage_93 (by decide +kernel) ?_
    refine ax_ls ([(0, .ref (u 66)), (1, .int x0), (2, .int x1), (3, .ref (w 48)), (4, .int x2), (5, .int x3), (6, .int x4), (7, .int x5)]) [1, 2, 3, 4, 5, 6, 7, 0] rfl ?_
    have hm : sC_Mat_makeImage_48_p94 l D kA u w tx σ [x0, x1, x2, x3, x4, x5, 1] (σf, rf, _) := ih tC_Mat_makeImage_48_p94 _ _ _ h
    exact hm _ _ _ _ _ _ _ rfl p e s m args below meth c F Lo σ0 hF hLo C
  · have h := it_f hc h
    refine ax_aload_n (pc := 77) C d_Mat_makeImage_77 rfl 1 rfl ?_
    refine cg_66_0_Mat_18 (pc := 78) C d_Mat_makeImage_78 ?_
    refine ax_aload_n (pc := 81) C d_Mat_makeImage_81 rfl 4 rfl ?_
    refine ax_iload (pc := 82) C d_Mat_makeImage_82 0 rfl ?_
    obtain ⟨σ1, r1, d1_1, d2_1, h1, h, hd2, hd1⟩ := it_b h
    have hm : sC_Sym_after_48 l D kA u w tx σ [x5] (σ1, r1, d1_1) := ih tC_Sym_after_48 _ _ _ h1
    refine cc_Vi (pc := 84) C (r0 := r1) (σ2 := σ1) (As := [.ref (w 48), .int x5]) (rest := []) (hm _ rfl) ml_Mat_51 6 rfl rfl rfl d_Mat_makeImage_84 rfl rfl (by dsimp only; omega) (by dsimp only; omega) (Nat.le_of_ble_eq_true rfl) (Nat.le_of_ble_eq_true rfl) (Nat.le_of_ble_eq_true rfl) ?_
    have hF : d2_1 + 1 ≤ F := by omega
    have hLo : 48 * d2_1 + 48 ≤ Lo := by omega
    refine ax_iload (pc := 87) C d_Mat_makeImage_87 0 rfl ?_
    refine ax_isub (pc := 89) C d_Mat_makeImage_89 ?_
    refine ax_goto (pc := 90) C 94 d_Mat_makeImage_90 (by decide) ?_
    refine ax_ls ([(0, .ref (u 66)), (1, .int x0), (2, .int x1), (3, .ref (w 48)), (4, .int x2), (5, .int x3), (6, .int x4), (7, .int x5)]) [1, 2, 3, 4, 5, 6, 7, 0] rfl ?_
    have hm : sC_Mat_makeImage_48_p94 l D kA u w tx σ1 [x0, x1, x2, x3, x4, x5, ((r1 : Int32) - x5)] (σf, rf, _) := ih tC_Mat_makeImage_48_p94 _ _ _ h
    exact hm _ _ _ _ _ _ _ rfl p e s m args below meth c F Lo σ0 hF hLo C
set_option maxHeartbeats 4000000 in
set_option maxRecDepth 100000 in
theorem oC_Mat_makeImage_48_p94 (l : Launch) (D : va_G) (kA : Nat → ClassId) (u w : Nat → Nat) (tx : Value) (rec : mF) (ih : ∀ t σ xs res, rec t σ xs = some res → cSem l D kA u w tx t σ xs res) (σ : mS) (xs : List Int32) (res : mR) (h : u_7 (kC_Mat_makeImage_48_p94 rec σ) xs = some res) : sC_Mat_makeImage_48_p94 l D kA u w tx σ xs res := by
  intro x0 x1 x2 x3 x4 x5 x6 hxs
  subst hxs
  obtain ⟨σf, rf, dd⟩ := res
  have h : (if x2 < (((σ.1 6605) : Int32) + x6) then (rec tC_Mat_makeImage_48_p123 σ [x0, x1, x2, x3, x4, x5, x6]) else (if (((σ.1 6605) : Int32) + x6) ≤ (Int32.ofNat 100) then (if 0 ≤ x4 then (if bin (σ.1 6605) 100 = true then (lt_ (mA σ 68 (Int32.toNatClampNeg (σ.1 6605)) x4) (fun σ1 => rec tC_Mat_makeImage_48_p160 σ1 [x0, x1, x2, x3, x4, x5, x6])) else none) else (if bcp x5 (σ.1 6605) x6 (σ.2.2 48) 100 = true then (lt_ (mCp σ 48 68 (Int32.toNatClampNeg x5) (Int32.toNatClampNeg (σ.1 6605)) (Int32.toNatClampNeg x6)) (fun σ2 => rec tC_Mat_makeImage_48_p160 σ2 [x0, x1, x2, x3, x4, x5, x6])) else none)) else (rec tC_Mat_makeImage_48_p123 σ [x0, x1, x2, x3, x4, x5, x6]))) = some (σf, rf, dd) := h
  intro p e s m args below meth c F Lo σ0 hF hLo C
  dsimp only at hF hLo ⊢
  refine ax_istore (pc := 94) C d_Mat_makeImage_94 (Nat.le_of_ble_eq_true rfl) ([(8, .int x6), (0, .ref (u 66)), (1, .int x0), (2, .int x1), (3, .ref (w 48)), (4, .int x2), (5, .int x3), (6, .int x4), (7, .int x5)]) rfl ?_
  refine ax_aload_n (pc := 96) C d_Mat_makeImage_96 rfl 1 rfl ?_
  refine cg_66_5_Mat_75 (pc := 97) C d_Mat_makeImage_97 ?_
  refine ax_iload (pc := 100) C d_Mat_makeImage_100 0 rfl ?_
  refine ax_iadd (pc := 102) C d_Mat_makeImage_102 ?_
  refine ax_iload (pc := 103) C d_Mat_makeImage_103 5 rfl ?_
  refine ax_icmp_gt (pc := 105) C 123 d_Mat_makeImage_105 (by decide) (fun hc => ?_) (fun hc => ?_)
  · have h := it_t hc h
    refine ax_ls ([(0, .ref (u 66)), (1, .int x0), (2, .int x1), (3, .ref (w 48)), (4, .int x2), (5, .int x3), (6, .int x4), (7, .int x5), (8, .int x6)]) [1, 2, 3, 4, 5, 6, 7, 8, 0] rfl ?_
    have hm : sC_Mat_makeImage_48_p123 l D kA u w tx σ [x0, x1, x2, x3, x4, x5, x6] (σf, rf, _) := ih tC_Mat_makeImage_48_p123 _ _ _ h
    exact hm _ _ _ _ _ _ _ rfl p e s m args below meth c F Lo σ0 hF hLo C
  · have h := it_f hc h
    refine ax_aload_n (pc := 108) C d_Mat_makeImage_108 rfl 1 rfl ?_
    refine cg_66_5_Mat_75 (pc := 109) C d_Mat_makeImage_109 ?_
    refine ax_iload (pc := 112) C d_Mat_makeImage_112 0 rfl ?_
    refine ax_iadd (pc := 114) C d_Mat_makeImage_114 ?_
    refine ax_aload_n (pc := 115) C d_Mat_makeImage_115 rfl 1 rfl ?_
    refine cg_66_4_Mat_15 (pc := 116) C d_Mat_makeImage_116 ?_
    refine cn_68 (pc := 119) C d_Mat_makeImage_119 ?_
    refine ax_icmp_le (pc := 120) C 125 d_Mat_makeImage_120 (by decide) (fun hc => ?_) (fun hc => ?_)
    · have h := it_t hc h
      refine ax_iload (pc := 125) C d_Mat_makeImage_125 7 rfl ?_
      refine ax_if_ge (pc := 127) C 149 d_Mat_makeImage_127 (by decide) (fun hc => ?_) (fun hc => ?_)
      · have h := it_t hc h
        refine ax_aload_n (pc := 149) C d_Mat_makeImage_149 rfl 1 rfl ?_
        refine cg_66_4_Mat_15 (pc := 150) C d_Mat_makeImage_150 ?_
        refine ax_aload_n (pc := 153) C d_Mat_makeImage_153 rfl 1 rfl ?_
        refine cg_66_5_Mat_75 (pc := 154) C d_Mat_makeImage_154 ?_
        refine ax_iload (pc := 157) C d_Mat_makeImage_157 7 rfl ?_
        obtain ⟨hb, h⟩ := it_g h
        refine cs_68 (pc := 159) C d_Mat_makeImage_159 (bin_in hb) ?_
        have h := it_l h
        generalize mA σ 68 (Int32.toNatClampNeg (σ.1 6605)) x4 = σ1 at h ⊢
        refine ax_ls ([(0, .ref (u 66)), (1, .int x0), (2, .int x1), (3, .ref (w 48)), (4, .int x2), (5, .int x3), (6, .int x4), (7, .int x5), (8, .int x6)]) [1, 2, 3, 4, 5, 6, 7, 8, 0] rfl ?_
        have hm : sC_Mat_makeImage_48_p160 l D kA u w tx σ1 [x0, x1, x2, x3, x4, x5, x6] (σf, rf, _) := ih tC_Mat_makeImage_48_p160 _ _ _ h
        exact hm _ _ _ _ _ _ _ rfl p e s m args below meth c F Lo σ0 hF hLo C
      · have h := it_f hc h
        refine ax_aload_n (pc := 130) C d_Mat_makeImage_130 rfl 4 rfl ?_
        refine ax_iload (pc := 131) C d_Mat_makeImage_131 8 rfl ?_
        refine ax_aload_n (pc := 133) C d_Mat_makeImage_133 rfl 1 rfl ?_
        refine cg_66_4_Mat_15 (pc := 134) C d_Mat_makeImage_134 ?_
        refine ax_aload_n (pc := 137) C d_Mat_makeImage_137 rfl 1 rfl ?_
        refine cg_66_5_Mat_75 (pc := 138) C d_Mat_makeImage_138 ?_
        refine ax_iload (pc := 141) C d_Mat_makeImage_141 0 rfl ?_
        obtain ⟨hb, h⟩ := it_g h
        refine ccp_48_68 (pc := 143) C (rest := []) tb_methodLink_1092 tb_native_616 tb_static_615 tb_initialized_20 d_Mat_makeImage_143 hb hF hLo (Nat.le_of_ble_eq_true rfl) ?_
        have h := it_l h
        generalize mCp σ 48 68 (Int32.toNatClampNeg x5) (Int32.toNatClampNeg (σ.1 6605)) (Int32.toNatClampNeg x6) = σ2 at h ⊢
        refine ax_goto (pc := 146) C 160 d_Mat_makeImage_146 (by decide) ?_
        refine ax_ls ([(0, .ref (u 66)), (1, .int x0), (2, .int x1), (3, .ref (w 48)), (4, .int x2), (5, .int x3), (6, .int x4), (7, .int x5), (8, .int x6)]) [1, 2, 3, 4, 5, 6, 7, 8, 0] rfl ?_
        have hm : sC_Mat_makeImage_48_p160 l D kA u w tx σ2 [x0, x1, x2, x3, x4, x5, x6] (σf, rf, _) := ih tC_Mat_makeImage_48_p160 _ _ _ h
        exact hm _ _ _ _ _ _ _ rfl p e s m args below meth c F Lo σ0 hF hLo C
    · have h := it_f hc h
      refine ax_ls ([(0, .ref (u 66)), (1, .int x0), (2, .int x1), (3, .ref (w 48)), (4, .int x2), (5, .int x3), (6, .int x4), (7, .int x5), (8, .int x6)]) [1, 2, 3, 4, 5, 6, 7, 8, 0] rfl ?_
      have hm : sC_Mat_makeImage_48_p123 l D kA u w tx σ [x0, x1, x2, x3, x4, x5, x6] (σf, rf, _) := ih tC_Mat_makeImage_48_p123 _ _ _ h
      exact hm _ _ _ _ _ _ _ rfl p e s m args below meth c F Lo σ0 hF hLo C
set_option maxHeartbeats 4000000 in
set_option maxRecDepth 100000 in
theorem oC_Mat_makeImage_48_p123 (l : Launch) (D : va_G) (kA : Nat → ClassId) (u w : Nat → Nat) (tx : Value) (rec : mF) (ih : ∀ t σ xs res, rec t σ xs = some res → cSem l D kA u w tx t σ xs res) (σ : mS) (xs : List Int32) (res : mR) (h : u_7 (kC_Mat_makeImage_48_p123 rec σ) xs = some res) : sC_Mat_makeImage_48_p123 l D kA u w tx σ xs res := by
  intro x0 x1 x2 x3 x4 x5 x6 hxs
  subst hxs
  obtain ⟨σf, rf, dd⟩ := res
  have h : (some (σ, 0, 0)) = some (σf, rf, dd) := h
  intro p e s m args below meth c F Lo σ0 hF hLo C
  dsimp only at hF hLo ⊢
  refine ax_iconst (pc := 123) C 0 d_Mat_makeImage_123 (by decide +kernel) ?_
  cases h
  exact ax_zret (pc := 124) C d_Mat_makeImage_124 rfl ⟨rfl, rfl⟩ (Nat.le_refl _) (Nat.le_refl _)
set_option maxHeartbeats 4000000 in
set_option maxRecDepth 100000 in
theorem oC_Mat_makeImage_48_p160 (l : Launch) (D : va_G) (kA : Nat → ClassId) (u w : Nat → Nat) (tx : Value) (rec : mF) (ih : ∀ t σ xs res, rec t σ xs = some res → cSem l D kA u w tx t σ xs res) (σ : mS) (xs : List Int32) (res : mR) (h : u_7 (kC_Mat_makeImage_48_p160 rec σ) xs = some res) : sC_Mat_makeImage_48_p160 l D kA u w tx σ xs res := by
  intro x0 x1 x2 x3 x4 x5 x6 hxs
  subst hxs
  obtain ⟨σf, rf, dd⟩ := res
  have h : (lt_ (mI σ 6605 (((σ.1 6605) : Int32) + x6)) (fun σ1 => rec tC_Mat_makeImage_48_p8 σ1 [x0, x1, x2, (x3 + 1)])) = some (σf, rf, dd) := h
  intro p e s m args below meth c F Lo σ0 hF hLo C
  dsimp only at hF hLo ⊢
  refine ax_aload_n (pc := 160) C d_Mat_makeImage_160 rfl 0 rfl ?_
  refine ax_dup (pc := 161) C d_Mat_makeImage_161 rfl ?_
  refine cg_66_5_Mat_75 (pc := 162) C d_Mat_makeImage_162 ?_
  refine ax_iload (pc := 165) C d_Mat_makeImage_165 8 rfl ?_
  refine ax_iadd (pc := 167) C d_Mat_makeImage_167 ?_
  refine cq_66_5_Mat_75 (pc := 168) C d_Mat_makeImage_168 ?_
  have h := it_l h
  generalize mI σ 6605 (((σ.1 6605) : Int32) + x6) = σ1 at h ⊢
  refine ax_iinc (pc := 171) C (x3 + 1) d_Mat_makeImage_171 5 rfl rfl (Nat.le_of_ble_eq_true rfl) ([(5, .int (x3 + 1)), (0, .ref (u 66)), (1, .int x0), (2, .int x1), (3, .ref (w 48)), (4, .int x2), (6, .int x4), (7, .int x5), (8, .int x6)]) rfl ?_
  refine ax_goto (pc := 174) C 8 d_Mat_makeImage_174 (by decide) ?_
  refine ax_ls ([(0, .ref (u 66)), (1, .int x0), (2, .int x1), (3, .ref (w 48)), (4, .int x2), (5, .int (x3 + 1))]) [1, 2, 3, 4, 5, 0] rfl ?_
  have hm : sC_Mat_makeImage_48_p8 l D kA u w tx σ1 [x0, x1, x2, (x3 + 1)] (σf, rf, _) := ih tC_Mat_makeImage_48_p8 _ _ _ h
  exact hm _ _ _ _ rfl p e s m args below meth c F Lo σ0 hF hLo C
set_option maxHeartbeats 4000000 in
set_option maxRecDepth 100000 in
theorem oC_Mat_matches_40 (l : Launch) (D : va_G) (kA : Nat → ClassId) (u w : Nat → Nat) (tx : Value) (rec : mF) (ih : ∀ t σ xs res, rec t σ xs = some res → cSem l D kA u w tx t σ xs res) (σ : mS) (xs : List Int32) (res : mR) (h : u_3 (kC_Mat_matches_40 rec σ) xs = some res) : sC_Mat_matches_40 l D kA u w tx σ xs res := by
  intro x0 x1 x2 hxs
  subst hxs
  obtain ⟨σf, rf, dd⟩ := res
  have h : (rec tC_Mat_matches_40_p19 σ [x0, x1, x2, x2, x0]) = some (σf, rf, dd) := h
  refine ax_Mi.of (by decide +kernel) (Nat.le_of_ble_eq_true rfl) ?_
  intro p e s m args below meth c C hnm
  have C : ax_C p s m args meth c b_Mat_matches "ClauseProver$Matcher" 9 (some .boolean) D kA (va_A (cpW kA u w tx σ) s.heap.size) := C
  obtain ⟨F, hFe⟩ : ∃ F, F = dd + 1 := ⟨_, rfl⟩
  obtain ⟨Lo, hLoe⟩ : ∃ Lo, Lo = 48 * dd + 48 := ⟨_, rfl⟩
  obtain ⟨σ0, hσ0⟩ : ∃ s0, s0 = σ := ⟨_, rfl⟩
  suffices K : AW p l e { frames := F, cells := 0, slots := 0, locals := Lo } s m args below meth c D kA (va_A (cpW kA u w tx σ0) s.heap.size) 9 (ax_Qi below args s D kA (cpW kA u w tx σ0) 0 0 (fun r w1 => r = rf ∧ w1 = cpW kA u w tx σf)) 0 [(0, .ref (u 66)), (1, .int x0), (2, .int x1), (3, .ref (u 40)), (4, .int x2)] [] (cpW kA u w tx σ) 0 0 by rw [hFe, hLoe, hσ0] at K; exact ax_ls ([(0, .ref (u 66)), (1, .int x0), (2, .int x1), (3, .ref (u 40)), (4, .int x2)]) [0, 1, 2, 3, 4] rfl K
  have C : ax_C p s m args meth c b_Mat_matches "ClauseProver$Matcher" 9 (some .boolean) D kA (va_A (cpW kA u w tx σ0) s.heap.size) := by rw [hσ0]; exact C
  have hF : dd + 1 ≤ F := by omega
  have hLo : 48 * dd + 48 ≤ Lo := by omega
  clear hFe hLoe hσ0
  refine ax_aload_n (pc := 0) C d_Mat_matches_0 rfl 0 rfl ?_
  refine cg_66_1_Mat_22 (pc := 1) C d_Mat_matches_1 ?_
  refine cg_54_0_Mat_26 (pc := 4) C d_Mat_matches_4 ?_
  refine cg_47_0_Mat_32 (pc := 7) C d_Mat_matches_7 ?_
  refine ax_astore (pc := 10) C d_Mat_matches_10 (Nat.le_of_ble_eq_true rfl) ([(5, .ref (w 48)), (0, .ref (u 66)), (1, .int x0), (2, .int x1), (3, .ref (u 40)), (4, .int x2)]) rfl ?_
  refine ax_iload (pc := 12) C d_Mat_matches_12 5 rfl ?_
  refine ax_istore (pc := 14) C d_Mat_matches_14 (Nat.le_of_ble_eq_true rfl) ([(6, .int x2), (5, .ref (w 48)), (0, .ref (u 66)), (1, .int x0), (2, .int x1), (3, .ref (u 40)), (4, .int x2)]) rfl ?_
  refine ax_iload_n (pc := 16) C d_Mat_matches_16 rfl 3 rfl ?_
  refine ax_istore (pc := 17) C d_Mat_matches_17 (Nat.le_of_ble_eq_true rfl) ([(7, .int x0), (6, .int x2), (5, .ref (w 48)), (0, .ref (u 66)), (1, .int x0), (2, .int x1), (3, .ref (u 40)), (4, .int x2)]) rfl ?_
  refine ax_ls ([(0, .ref (u 66)), (1, .int x0), (2, .int x1), (3, .ref (u 40)), (4, .int x2), (5, .ref (w 48)), (6, .int x2), (7, .int x0)]) [3, 4, 5, 6, 7, 2, 1, 0] rfl ?_
  have hm : sC_Mat_matches_40_p19 l D kA u w tx σ [x0, x1, x2, x2, x0] (σf, rf, _) := ih tC_Mat_matches_40_p19 _ _ _ h
  exact hm _ _ _ _ _ rfl p e s m args below meth c F Lo σ0 hF hLo C
set_option maxHeartbeats 4000000 in
set_option maxRecDepth 100000 in
theorem oC_Mat_matches_40_p19 (l : Launch) (D : va_G) (kA : Nat → ClassId) (u w : Nat → Nat) (tx : Value) (rec : mF) (ih : ∀ t σ xs res, rec t σ xs = some res → cSem l D kA u w tx t σ xs res) (σ : mS) (xs : List Int32) (res : mR) (h : u_5 (kC_Mat_matches_40_p19 rec σ) xs = some res) : sC_Mat_matches_40_p19 l D kA u w tx σ xs res := by
  intro x0 x1 x2 x3 x4 hxs
  subst hxs
  obtain ⟨σf, rf, dd⟩ := res
  have h : (if ((x0 : Int32) + x1) ≤ x4 then (some (σ, 1, 0)) else (if bin x4 (σ.2.2 48) = true then (if (σ.2.1 48 (Int32.toNatClampNeg x4)) < 0 then (if bin x4 (σ.2.2 48) = true then (if (((((σ.1 6603) : Int32) >>> ((((σ.2.1 48 (Int32.toNatClampNeg x4)) : Int32) ^^^ (-1)) &&& 31)) : Int32) &&& 1) = 0 then (if bin x3 100 = true then (if (σ.2.1 40 (Int32.toNatClampNeg x3)) < 0 then (rec tC_Mat_matches_40_p99 σ [x0, x1, x2, x3, x4, (((σ.2.1 48 (Int32.toNatClampNeg x4)) : Int32) ^^^ (-1))]) else (if bin x3 100 = true then (bnd (rec tC_Sym_isPredicate σ [(σ.2.1 40 (Int32.toNatClampNeg x3))]) (fun σ2 r2 => if r2 = 0 then (rec tC_Mat_matches_40_p99 σ2 [x0, x1, x2, x3, x4, (((σ.2.1 48 (Int32.toNatClampNeg x4)) : Int32) ^^^ (-1))]) else (some (σ2, 0, 0)))) else none)) else none) else (if bin (((σ.2.1 48 (Int32.toNatClampNeg x4)) : Int32) ^^^ (-1)) 6 = true then (bnd (rec tC_Sym_same_40_40 σ [(σ.2.1 67 (Int32.toNatClampNeg (((σ.2.1 48 (Int32.toNatClampNeg x4)) : Int32) ^^^ (-1)))), x3]) (fun σ1 r1 => if r1 = 0 then (some (σ1, 0, 0)) else (rec tC_Mat_matches_40_p147 σ1 [x0, x1, x2, x3, x4, (((σ.2.1 48 (Int32.toNatClampNeg x4)) : Int32) ^^^ (-1))]))) else none)) else none) else (if bin x4 (σ.2.2 48) = true then (if bin x3 100 = true then (if (σ.2.1 48 (Int32.toNatClampNeg x4)) = (σ.2.1 40 (Int32.toNatClampNeg x3)) then (rec tC_Mat_matches_40_p159 σ [x0, x1, x2, (x3 + 1), x4]) else (some (σ, 0, 0))) else none) else none)) else none)) = some (σf, rf, dd) := h
  intro p e s m args below meth c F Lo σ0 hF hLo C
  dsimp only at hF hLo ⊢
  refine ax_iload (pc := 19) C d_Mat_matches_19 7 rfl ?_
  refine ax_iload_n (pc := 21) C d_Mat_matches_21 rfl 1 rfl ?_
  refine ax_iload_n (pc := 22) C d_Mat_matches_22 rfl 2 rfl ?_
  refine ax_iadd (pc := 23) C d_Mat_matches_23 ?_
  refine ax_icmp_ge (pc := 24) C 165 d_Mat_matches_24 (by decide) (fun hc => ?_) (fun hc => ?_)
  · have h := it_t hc h
    refine ax_iconst (pc := 165) C 1 d_Mat_matches_165 (by decide +kernel) ?_
    cases h
    exact ax_zret (pc := 166) C d_Mat_matches_166 rfl ⟨rfl, rfl⟩ (Nat.le_refl _) (Nat.le_refl _)
  · have h := it_f hc h
    refine ax_aload (pc := 27) C d_Mat_matches_27 5 rfl ?_
    refine ax_iload (pc := 29) C d_Mat_matches_29 7 rfl ?_
    obtain ⟨hb, h⟩ := it_g h
    refine cl_48 (pc := 31) C d_Mat_matches_31 (bin_in hb) ?_
    refine ax_if_lt (pc := 32) C 55 d_Mat_matches_32 (by decide) (fun hc => ?_) (fun hc => ?_)
    · have h := it_t hc h
      refine ax_aload (pc := 55) C d_Mat_matches_55 5 rfl ?_
      refine ax_iload (pc := 57) C d_Mat_matches_57 7 rfl ?_
      obtain ⟨hb, h⟩ := it_g h
      refine cl_48 (pc := 59) C d_Mat_matches_59 (bin_in hb) ?_
      refine ax_iconst (pc := 60) C (-1) d_Mat_matches_60 (by decide +kernel) ?_
      refine ax_ixor (pc := 61) C d_Mat_matches_61 ?_
      refine ax_istore (pc := 62) C d_Mat_matches_62 (Nat.le_of_ble_eq_true rfl) ([(8, .int (((σ.2.1 48 (Int32.toNatClampNeg x4)) : Int32) ^^^ (-1))), (0, .ref (u 66)), (1, .int x0), (2, .int x1), (3, .ref (u 40)), (4, .int x2), (5, .ref (w 48)), (6, .int x3), (7, .int x4)]) rfl ?_
      refine ax_aload_n (pc := 64) C d_Mat_matches_64 rfl 1 rfl ?_
      refine cg_66_3_Mat_37 (pc := 65) C d_Mat_matches_65 ?_
      refine ax_iload (pc := 68) C d_Mat_matches_68 0 rfl ?_
      refine ax_ishr (pc := 70) C d_Mat_matches_70 ?_
      refine ax_iconst (pc := 71) C 1 d_Mat_matches_71 (by decide +kernel) ?_
      refine ax_iand (pc := 72) C d_Mat_matches_72 ?_
      refine ax_if_ne (pc := 73) C 124 d_Mat_matches_73 (by decide) (fun hc => ?_) (fun hc => ?_)
      · have h := it_f hc h
        refine ax_aload_n (pc := 124) C d_Mat_matches_124 rfl 1 rfl ?_
        refine cg_66_0_Mat_18 (pc := 125) C d_Mat_matches_125 ?_
        refine ax_aload_n (pc := 128) C d_Mat_matches_128 rfl 4 rfl ?_
        refine ax_aload_n (pc := 129) C d_Mat_matches_129 rfl 1 rfl ?_
        refine cg_66_2_Mat_9 (pc := 130) C d_Mat_matches_130 ?_
        refine ax_iload (pc := 133) C d_Mat_matches_133 0 rfl ?_
        obtain ⟨hb, h⟩ := it_g h
        refine cl_67 (pc := 135) C d_Mat_matches_135 (bin_in hb) ?_
        refine ax_aload_n (pc := 136) C d_Mat_matches_136 rfl 4 rfl ?_
        refine ax_iload (pc := 137) C d_Mat_matches_137 7 rfl ?_
        obtain ⟨σ1, r1, d1_1, d2_1, h1, h, hd2, hd1⟩ := it_b h
        have hm : sC_Sym_same_40_40 l D kA u w tx σ [(σ.2.1 67 (Int32.toNatClampNeg (((σ.2.1 48 (Int32.toNatClampNeg x4)) : Int32) ^^^ (-1)))), x3] (σ1, r1, d1_1) := ih tC_Sym_same_40_40 _ _ _ h1
        refine cc_Vi (pc := 139) C (r0 := r1) (σ2 := σ1) (As := [.ref (u 40), .int (σ.2.1 67 (Int32.toNatClampNeg (((σ.2.1 48 (Int32.toNatClampNeg x4)) : Int32) ^^^ (-1)))), .ref (u 40), .int x3]) (rest := []) (hm _ _ rfl) ml_Mat_47 6 rfl rfl rfl d_Mat_matches_139 rfl rfl (by dsimp only; omega) (by dsimp only; omega) (Nat.le_of_ble_eq_true rfl) (Nat.le_of_ble_eq_true rfl) (Nat.le_of_ble_eq_true rfl) ?_
        have hF : d2_1 + 1 ≤ F := by omega
        have hLo : 48 * d2_1 + 48 ≤ Lo := by omega
        refine ax_if_ne (pc := 142) C 147 d_Mat_matches_142 (by decide) (fun hc => ?_) (fun hc => ?_)
        · have h := it_f hc h
          refine ax_ls ([(0, .ref (u 66)), (1, .int x0), (2, .int x1), (3, .ref (u 40)), (4, .int x2), (5, .ref (w 48)), (6, .int x3), (7, .int x4), (8, .int (((σ.2.1 48 (Int32.toNatClampNeg x4)) : Int32) ^^^ (-1)))]) [1, 2, 3, 4, 5, 6, 7, 8, 0] rfl ?_
          have hm : sC_Mat_matches_40_p147 l D kA u w tx σ1 [x0, x1, x2, x3, x4, (((σ.2.1 48 (Int32.toNatClampNeg x4)) : Int32) ^^^ (-1))] (σf, rf, _) := ih tC_Mat_matches_40_p147 _ _ _ h
          exact hm _ _ _ _ _ _ rfl p e s m args below meth c F Lo σ0 hF hLo C
        · have h := it_t hc h
          refine ax_iconst (pc := 145) C 0 d_Mat_matches_145 (by decide +kernel) ?_
          cases h
          exact ax_zret (pc := 146) C d_Mat_matches_146 rfl ⟨rfl, rfl⟩ (Nat.le_refl _) (Nat.le_refl _)
      · have h := it_t hc h
        refine ax_aload_n (pc := 76) C d_Mat_matches_76 rfl 4 rfl ?_
        refine ax_iload (pc := 77) C d_Mat_matches_77 7 rfl ?_
        obtain ⟨hb, h⟩ := it_g h
        refine cl_40 (pc := 79) C d_Mat_matches_79 (bin_in hb) ?_
        refine ax_if_lt (pc := 80) C 99 d_Mat_matches_80 (by decide) (fun hc => ?_) (fun hc => ?_)
        · have h := it_t hc h
          refine ax_ls ([(0, .ref (u 66)), (1, .int x0), (2, .int x1), (3, .ref (u 40)), (4, .int x2), (5, .ref (w 48)), (6, .int x3), (7, .int x4), (8, .int (((σ.2.1 48 (Int32.toNatClampNeg x4)) : Int32) ^^^ (-1)))]) [1, 2, 3, 4, 5, 6, 7, 8, 0] rfl ?_
          have hm : sC_Mat_matches_40_p99 l D kA u w tx σ [x0, x1, x2, x3, x4, (((σ.2.1 48 (Int32.toNatClampNeg x4)) : Int32) ^^^ (-1))] (σf, rf, _) := ih tC_Mat_matches_40_p99 _ _ _ h
          exact hm _ _ _ _ _ _ rfl p e s m args below meth c F Lo σ0 hF hLo C
        · have h := it_f hc h
          refine ax_aload_n (pc := 83) C d_Mat_matches_83 rfl 1 rfl ?_
          refine cg_66_0_Mat_18 (pc := 84) C d_Mat_matches_84 ?_
          refine ax_aload_n (pc := 87) C d_Mat_matches_87 rfl 4 rfl ?_
          refine ax_iload (pc := 88) C d_Mat_matches_88 7 rfl ?_
          obtain ⟨hb, h⟩ := it_g h
          refine cl_40 (pc := 90) C d_Mat_matches_90 (bin_in hb) ?_
          obtain ⟨σ2, r2, d1_2, d2_2, h1, h, hd2, hd1⟩ := it_b h
          have hm : sC_Sym_isPredicate l D kA u w tx σ [(σ.2.1 40 (Int32.toNatClampNeg x3))] (σ2, r2, d1_2) := ih tC_Sym_isPredicate _ _ _ h1
          refine cc_Vi (pc := 91) C (r0 := r2) (σ2 := σ2) (As := [.int (σ.2.1 40 (Int32.toNatClampNeg x3))]) (rest := []) (hm _ rfl) ml_Mat_41 6 rfl rfl rfl d_Mat_matches_91 rfl rfl (by dsimp only; omega) (by dsimp only; omega) (Nat.le_of_ble_eq_true rfl) (Nat.le_of_ble_eq_true rfl) (Nat.le_of_ble_eq_true rfl) ?_
          have hF : d2_2 + 1 ≤ F := by omega
          have hLo : 48 * d2_2 + 48 ≤ Lo := by omega
          refine ax_if_eq (pc := 94) C 99 d_Mat_matches_94 (by decide) (fun hc => ?_) (fun hc => ?_)
          · have h := it_t hc h
            refine ax_ls ([(0, .ref (u 66)), (1, .int x0), (2, .int x1), (3, .ref (u 40)), (4, .int x2), (5, .ref (w 48)), (6, .int x3), (7, .int x4), (8, .int (((σ.2.1 48 (Int32.toNatClampNeg x4)) : Int32) ^^^ (-1)))]) [1, 2, 3, 4, 5, 6, 7, 8, 0] rfl ?_
            have hm : sC_Mat_matches_40_p99 l D kA u w tx σ2 [x0, x1, x2, x3, x4, (((σ.2.1 48 (Int32.toNatClampNeg x4)) : Int32) ^^^ (-1))] (σf, rf, _) := ih tC_Mat_matches_40_p99 _ _ _ h
            exact hm _ _ _ _ _ _ rfl p e s m args below meth c F Lo σ0 hF hLo C
          · have h := it_f hc h
            refine ax_iconst (pc := 97) C 0 d_Mat_matches_97 (by decide +kernel) ?_
            cases h
            exact ax_zret (pc := 98) C d_Mat_matches_98 rfl ⟨rfl, rfl⟩ (Nat.le_refl _) (Nat.le_refl _)
    · have h := it_f hc h
      refine ax_aload (pc := 35) C d_Mat_matches_35 5 rfl ?_
      refine ax_iload (pc := 37) C d_Mat_matches_37 7 rfl ?_
      obtain ⟨hb, h⟩ := it_g h
      refine cl_48 (pc := 39) C d_Mat_matches_39 (bin_in hb) ?_
      refine ax_aload_n (pc := 40) C d_Mat_matches_40 rfl 3 rfl ?_
      refine ax_iload (pc := 41) C d_Mat_matches_41 6 rfl ?_
      obtain ⟨hb, h⟩ := it_g h
      refine cl_40 (pc := 43) C d_Mat_matches_43 (bin_in hb) ?_
      refine ax_icmp_eq (pc := 44) C 49 d_Mat_matches_44 (by decide) (fun hc => ?_) (fun hc => ?_)
      · have h := it_t hc h
        refine ax_iinc (pc := 49) C (x3 + 1) d_Mat_matches_49 6 rfl rfl (Nat.le_of_ble_eq_true rfl) ([(6, .int (x3 + 1)), (0, .ref (u 66)), (1, .int x0), (2, .int x1), (3, .ref (u 40)), (4, .int x2), (5, .ref (w 48)), (7, .int x4)]) rfl ?_
        refine ax_goto (pc := 52) C 159 d_Mat_matches_52 (by decide) ?_
        refine ax_ls ([(0, .ref (u 66)), (1, .int x0), (2, .int x1), (3, .ref (u 40)), (4, .int x2), (5, .ref (w 48)), (6, .int (x3 + 1)), (7, .int x4)]) [1, 2, 3, 4, 5, 6, 0, 7] rfl ?_
        have hm : sC_Mat_matches_40_p159 l D kA u w tx σ [x0, x1, x2, (x3 + 1), x4] (σf, rf, _) := ih tC_Mat_matches_40_p159 _ _ _ h
        exact hm _ _ _ _ _ rfl p e s m args below meth c F Lo σ0 hF hLo C
      · have h := it_f hc h
        refine ax_iconst (pc := 47) C 0 d_Mat_matches_47 (by decide +kernel) ?_
        cases h
        exact ax_zret (pc := 48) C d_Mat_matches_48 rfl ⟨rfl, rfl⟩ (Nat.le_refl _) (Nat.le_refl _)
