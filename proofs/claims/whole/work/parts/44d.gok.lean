set_option maxHeartbeats 4000000 in
set_option maxRecDepth 100000 in
theorem oG_Par_takeSign_p188 (l : Launch) (D : va_G) (kA : Nat → ClassId) (u : Nat → Nat) (rec : mF) (hG : GM rec) (ihC : ∀ (w : Nat → Nat) (tx : Value) t σ xs res, rec t σ xs = some res → cSem l D kA u w tx t σ xs res) (ih : ∀ t σ xs res, rec t σ xs = some res → gSem l D kA u t σ xs res) (σ : mS) (xs : List Int32) (res : mR) (h : u_2 (kG_Par_takeSign_p188 rec σ) xs = some res) : sG_Par_takeSign_p188 l D kA u σ xs res := by
  intro x0 x1 hxs w tx htx
  subst hxs
  obtain ⟨σf, rf, dd⟩ := res
  have hmn : gle σ σf := qG_Par_takeSign_p188 rec hG σ x0 x1 _ h
  have h : (bnd (rec tG_Par_push σ [x1, (-1)]) (fun σ1 r1 => bnd (rec tC_Wds_advance σ1 []) (fun σ2 r2 => some (σ2, 1, 0)))) = some (σf, rf, dd) := h
  intro p e s m args below meth c F Lo mc ms cells slots σ0 w0 tx0 hF hLo hcq hsq hga C
  dsimp only at hF hLo hcq hsq ⊢
  have hcm : cells ≤ mc := by have := hmn.1; omega
  have hsm : slots ≤ ms := by have := hmn.2; omega
  have hle : True := trivial
  have hm : True := trivial
  refine ax_aload_n (pc := 188) C d_Par_takeSign_188 rfl 0 rfl ?_
  refine ax_iload_n (pc := 189) C d_Par_takeSign_189 rfl 2 rfl ?_
  refine ax_iconst (pc := 190) C (-1) d_Par_takeSign_190 (by decide +kernel) ?_
  replace h := it_b h
  obtain ⟨σ1, r1, d1_1, d2_1, h1, h, hd2, hd1⟩ := h
  replace hle := hG _ _ _ _ (by decide) h1
  dsimp only at hle
  replace hmn : gle σ1 σf := gm_use h (gm_bnd hG (Nat.le_of_ble_eq_true rfl) (fun _ _ => gm_some))
  replace hm : sG_Par_push l D kA u σ [x1, (-1)] (σ1, r1, d1_1) := ih tG_Par_push _ _ _ h1
  refine gc_Vv (pc := 191) C (As := [.int x1, .int (-1)]) (rest := []) (hm _ _ rfl w tx) ml_Par_104 31 rfl rfl rfl d_Par_takeSign_191 rfl rfl (by dsimp only; omega) (by dsimp only; omega) (by have := hmn.1; have := hle.1; dsimp only; omega) (by have := hmn.2; have := hle.2; dsimp only; omega) (Nat.le_of_ble_eq_true rfl) (fun w1 hw => ?_)
  obtain ⟨w1, tx1, hag1, htq1, hwq1⟩ := hw
  dsimp only at hwq1
  subst hwq1
  dsimp only
  replace htq1 := htq1.symm
  subst htq1
  have hga1 : ∀ i, ([19, 34, 36] : List Nat).elem i = false → w1 i = w0 i := fun i hi => (hag1 i (by revert hi; exact el_sub (by decide))).trans (hga i hi)
  have htx1 : tx = .ref (w1 2) := by rw [hag1 2 rfl]; exact htx
  replace hcq : (cells + (σ1.2.2 3001 - σ.2.2 3001)) + σf.2.2 3001 ≤ mc + σ1.2.2 3001 := by have := hmn.1; have := hle.1; omega
  replace hcm : (cells + (σ1.2.2 3001 - σ.2.2 3001)) ≤ mc := by have := hmn.1; have := hle.1; omega
  generalize cells + (σ1.2.2 3001 - σ.2.2 3001) = cells at hcq hcm ⊢
  replace hsq : (slots + (σ1.2.2 3002 - σ.2.2 3002)) + σf.2.2 3002 ≤ ms + σ1.2.2 3002 := by have := hmn.2; have := hle.2; omega
  replace hsm : (slots + (σ1.2.2 3002 - σ.2.2 3002)) ≤ ms := by have := hmn.2; have := hle.2; omega
  generalize slots + (σ1.2.2 3002 - σ.2.2 3002) = slots at hsq hsm ⊢
  replace hF : d2_1 + 3 ≤ F := by omega
  replace hLo : 48 * d2_1 + 144 ≤ Lo := by omega
  refine ax_aload_n (pc := 194) C d_Par_takeSign_194 rfl 0 rfl ?_
  refine cg_31_2_Par_12 (pc := 195) C d_Par_takeSign_195 ?_
  replace h := it_b h
  obtain ⟨σ2, r2, d1_2, d2_2, h1, h, hd2, hd1⟩ := h
  replace hle := hG _ _ _ _ (by decide) h1
  dsimp only at hle
  replace hmn : gle σ2 σf := gm_use h gm_some
  replace hm : sC_Wds_advance l D kA u w1 tx σ1 [] (σ2, r2, d1_2) := ihC _ _ tC_Wds_advance _ _ _ h1
  refine cc_Vv (pc := 198) C (σ2 := σ2) (As := []) (rest := []) (hm rfl htx1) ml_Par_89 32 rfl rfl rfl d_Par_takeSign_198 rfl rfl (by dsimp only; omega) (by dsimp only; omega) hcm hsm (Nat.le_of_ble_eq_true rfl) ?_
  replace hcq : cells + σf.2.2 3001 ≤ mc + σ2.2.2 3001 := by have := hle.1; omega
  replace hsq : slots + σf.2.2 3002 ≤ ms + σ2.2.2 3002 := by have := hle.2; omega
  replace hF : d2_2 + 3 ≤ F := by omega
  replace hLo : 48 * d2_2 + 144 ≤ Lo := by omega
  refine ax_iconst (pc := 201) C 1 d_Par_takeSign_201 (by decide +kernel) ?_
  cases h
  exact ax_zret (pc := 202) C d_Par_takeSign_202 rfl ⟨rfl, w1, tx, hga1, rfl, rfl⟩ hcm hsm
set_option maxHeartbeats 4000000 in
set_option maxRecDepth 100000 in
theorem oG_Par_takeTerm (l : Launch) (D : va_G) (kA : Nat → ClassId) (u : Nat → Nat) (rec : mF) (hG : GM rec) (ihC : ∀ (w : Nat → Nat) (tx : Value) t σ xs res, rec t σ xs = some res → cSem l D kA u w tx t σ xs res) (ih : ∀ t σ xs res, rec t σ xs = some res → gSem l D kA u t σ xs res) (σ : mS) (xs : List Int32) (res : mR) (h : u_1 (kG_Par_takeTerm rec σ) xs = some res) : sG_Par_takeTerm l D kA u σ xs res := by
  intro x0 hxs w tx htx
  subst hxs
  obtain ⟨σf, rf, dd⟩ := res
  have hmn : gle σ σf := qG_Par_takeTerm rec hG σ x0 _ h
  have h : (if x0 ≤ 60 then (bnd (rec tC_Wds_isNow σ [3]) (fun σ1 r1 => if r1 = 0 then (bnd (rec tG_Par_takeName σ1 []) (fun σ2 r2 => bnd (rec tG_Par_takeTerms σ2 [x0]) (fun σ3 r3 => bnd (rec tC_Par_settle σ3 [r2, 2, r3, (σ1.1 3203)]) (fun σ4 r4 => some (σ4, 0, 0))))) else (bnd (rec tG_Par_takeVariable σ1 []) (fun σ5 r5 => some (σ5, 0, 0))))) else (bnd (rec tC_Par_fail σ [3, (σ.1 3203)]) (fun σ6 r6 => some (σ6, 0, 0)))) = some (σf, rf, dd) := h
  refine ax_Mv.of (by decide +kernel) (Nat.le_of_ble_eq_true rfl) ?_
  intro p e s m args below meth c C hnm
  replace C : ax_C p s m args meth c b_Par_takeTerm "ClauseProver$Parser" 5 none D kA (va_A (cpW kA u w tx σ) s.heap.size) := C
  obtain ⟨F, hFe⟩ : ∃ z, z = dd + 3 := ⟨_, rfl⟩
  obtain ⟨Lo, hLoe⟩ : ∃ z, z = 48 * dd + 144 := ⟨_, rfl⟩
  obtain ⟨mc, hmce⟩ : ∃ z, z = σf.2.2 3001 - σ.2.2 3001 := ⟨_, rfl⟩
  obtain ⟨ms, hmse⟩ : ∃ z, z = σf.2.2 3002 - σ.2.2 3002 := ⟨_, rfl⟩
  obtain ⟨σ0, hσ0e⟩ : ∃ z, z = σ := ⟨_, rfl⟩
  obtain ⟨w0, hw0e⟩ : ∃ z, z = w := ⟨_, rfl⟩
  obtain ⟨tx0, htx0e⟩ : ∃ z, z = tx := ⟨_, rfl⟩
  suffices K : ∀ (cells slots : Nat), cells = 0 → slots = 0 → AW p l e { frames := F, cells := mc, slots := ms, locals := Lo } s m args below meth c D kA (va_A (cpW kA u w0 tx0 σ0) s.heap.size) 5 (ax_Qv below args s D kA (cpW kA u w0 tx0 σ0) mc ms (fun w1 => ∃ (w2 : Nat → Nat) (tx2 : Value), (∀ i, ([11, 16] : List Nat).elem i = false → w2 i = w0 i) ∧ tx2 = tx0 ∧ w1 = cpW kA u w2 tx2 σf)) 0 [(0, .ref (u 31)), (1, .int x0)] [] (cpW kA u w tx σ) cells slots by
    have K := K 0 0 rfl rfl
    rw [hFe, hLoe, hmce, hmse, hσ0e, hw0e, htx0e] at K
    exact ax_ls ([(0, .ref (u 31)), (1, .int x0)]) [0, 1] rfl K
  replace C : ax_C p s m args meth c b_Par_takeTerm "ClauseProver$Parser" 5 none D kA (va_A (cpW kA u w0 tx0 σ0) s.heap.size) := by rw [hσ0e, hw0e, htx0e]; exact C
  intro cells slots hc0 hs0
  have hcq : cells + σf.2.2 3001 ≤ mc + σ.2.2 3001 := by have := hmn.1; omega
  have hsq : slots + σf.2.2 3002 ≤ ms + σ.2.2 3002 := by have := hmn.2; omega
  have hga : ∀ i, ([11, 16] : List Nat).elem i = false → w i = w0 i := fun i _ => by rw [hw0e]
  have e9 : tx = tx0 := htx0e.symm
  subst e9
  have hF : dd + 3 ≤ F := by omega
  have hLo : 48 * dd + 144 ≤ Lo := by omega
  have hcm : cells ≤ mc := by have := hmn.1; omega
  have hsm : slots ≤ ms := by have := hmn.2; omega
  have hle : True := trivial
  have hm : True := trivial
  refine ax_iload_n (pc := 0) C d_Par_takeTerm_0 rfl 1 rfl ?_
  refine ax_bipush (pc := 1) C 60 d_Par_takeTerm_1 (by decide +kernel) ?_
  refine ax_icmp_le (pc := 3) C 19 d_Par_takeTerm_3 (by decide) (fun hc => ?_) (fun hc => ?_)
  · replace h := it_t hc h
    refine ax_aload_n (pc := 19) C d_Par_takeTerm_19 rfl 0 rfl ?_
    refine cg_31_2_Par_12 (pc := 20) C d_Par_takeTerm_20 ?_
    refine ax_iconst (pc := 23) C 3 d_Par_takeTerm_23 (by decide +kernel) ?_
    replace h := it_b h
    obtain ⟨σ1, r1, d1_1, d2_1, h1, h, hd2, hd1⟩ := h
    replace hle := hG _ _ _ _ (by decide) h1
    dsimp only at hle
    replace hmn : gle σ1 σf := gm_use h (gm_if (gm_bnd hG (Nat.le_of_ble_eq_true rfl) (fun _ _ => (gm_bnd hG (Nat.le_of_ble_eq_true rfl) (fun _ _ => (gm_bnd hG (Nat.le_of_ble_eq_true rfl) (fun _ _ => gm_some)))))) (gm_bnd hG (Nat.le_of_ble_eq_true rfl) (fun _ _ => gm_some)))
    replace hm : sC_Wds_isNow l D kA u w tx σ [3] (σ1, r1, d1_1) := ihC _ _ tC_Wds_isNow _ _ _ h1
    refine cc_Vi (pc := 24) C (r0 := r1) (σ2 := σ1) (As := [.int 3]) (rest := []) (hm _ rfl) ml_Par_100 32 rfl rfl rfl d_Par_takeTerm_24 rfl rfl (by dsimp only; omega) (by dsimp only; omega) hcm hsm (Nat.le_of_ble_eq_true rfl) ?_
    replace hcq : cells + σf.2.2 3001 ≤ mc + σ1.2.2 3001 := by have := hle.1; omega
    replace hsq : slots + σf.2.2 3002 ≤ ms + σ1.2.2 3002 := by have := hle.2; omega
    replace hF : d2_1 + 3 ≤ F := by omega
    replace hLo : 48 * d2_1 + 144 ≤ Lo := by omega
    refine ax_if_eq (pc := 27) C 35 d_Par_takeTerm_27 (by decide) (fun hc => ?_) (fun hc => ?_)
    · replace h := it_t hc h
      refine ax_aload_n (pc := 35) C d_Par_takeTerm_35 rfl 0 rfl ?_
      refine cg_31_2_Par_12 (pc := 36) C d_Par_takeTerm_36 ?_
      refine cg_32_3_Par_77 (pc := 39) C d_Par_takeTerm_39 ?_
      refine ax_istore_n (pc := 42) C d_Par_takeTerm_42 rfl (Nat.le_of_ble_eq_true rfl) ([(2, .int (σ1.1 3203)), (0, .ref (u 31)), (1, .int x0)]) rfl ?_
      refine ax_aload_n (pc := 43) C d_Par_takeTerm_43 rfl 1 rfl ?_
      replace h := it_b h
      obtain ⟨σ2, r2, d1_2, d2_2, h1, h, hd2, hd1⟩ := h
      replace hle := hG _ _ _ _ (by decide) h1
      dsimp only at hle
      replace hmn : gle σ2 σf := gm_use h (gm_bnd hG (Nat.le_of_ble_eq_true rfl) (fun _ _ => (gm_bnd hG (Nat.le_of_ble_eq_true rfl) (fun _ _ => gm_some))))
      replace hm : sG_Par_takeName l D kA u σ1 [] (σ2, r2, d1_2) := ih tG_Par_takeName _ _ _ h1
      refine gc_Vi (pc := 44) C (As := []) (rest := []) (hm rfl w tx htx) ml_Par_129 31 rfl rfl rfl d_Par_takeTerm_44 rfl rfl (by dsimp only; omega) (by dsimp only; omega) (by have := hmn.1; have := hle.1; dsimp only; omega) (by have := hmn.2; have := hle.2; dsimp only; omega) (Nat.le_of_ble_eq_true rfl) (fun r9 w1 hw => ?_)
      obtain ⟨hrq2, w2, tx2, hag2, htq2, hwq2⟩ := hw
      dsimp only at hwq2 hrq2
      subst hwq2
      replace hrq2 := hrq2.symm
      subst hrq2
      dsimp only
      replace htq2 := htq2.symm
      subst htq2
      have hga2 : ∀ i, ([11, 16] : List Nat).elem i = false → w2 i = w0 i := fun i hi => (hag2 i (by revert hi; exact el_sub (by decide))).trans (hga i hi)
      have htx2 : tx = .ref (w2 2) := by rw [hag2 2 rfl]; exact htx
      replace hcq : (cells + (σ2.2.2 3001 - σ1.2.2 3001)) + σf.2.2 3001 ≤ mc + σ2.2.2 3001 := by have := hmn.1; have := hle.1; omega
      replace hcm : (cells + (σ2.2.2 3001 - σ1.2.2 3001)) ≤ mc := by have := hmn.1; have := hle.1; omega
      generalize cells + (σ2.2.2 3001 - σ1.2.2 3001) = cells at hcq hcm ⊢
      replace hsq : (slots + (σ2.2.2 3002 - σ1.2.2 3002)) + σf.2.2 3002 ≤ ms + σ2.2.2 3002 := by have := hmn.2; have := hle.2; omega
      replace hsm : (slots + (σ2.2.2 3002 - σ1.2.2 3002)) ≤ ms := by have := hmn.2; have := hle.2; omega
      generalize slots + (σ2.2.2 3002 - σ1.2.2 3002) = slots at hsq hsm ⊢
      replace hF : d2_2 + 3 ≤ F := by omega
      replace hLo : 48 * d2_2 + 144 ≤ Lo := by omega
      refine ax_istore_n (pc := 47) C d_Par_takeTerm_47 rfl (Nat.le_of_ble_eq_true rfl) ([(3, .int r2), (2, .int (σ1.1 3203)), (0, .ref (u 31)), (1, .int x0)]) rfl ?_
      refine ax_aload_n (pc := 48) C d_Par_takeTerm_48 rfl 2 rfl ?_
      refine ax_iload_n (pc := 49) C d_Par_takeTerm_49 rfl 3 rfl ?_
      replace h := it_b h
      obtain ⟨σ3, r3, d1_3, d2_3, h1, h, hd2, hd1⟩ := h
      replace hle := hG _ _ _ _ (by decide) h1
      dsimp only at hle
      replace hmn : gle σ3 σf := gm_use h (gm_bnd hG (Nat.le_of_ble_eq_true rfl) (fun _ _ => gm_some))
      replace hm : sG_Par_takeTerms l D kA u σ2 [x0] (σ3, r3, d1_3) := ih tG_Par_takeTerms _ _ _ h1
      refine gc_Vi (pc := 50) C (As := [.int x0]) (rest := []) (hm _ rfl w2 tx htx2) ml_Par_133 31 rfl rfl rfl d_Par_takeTerm_50 rfl rfl (by dsimp only; omega) (by dsimp only; omega) (by have := hmn.1; have := hle.1; dsimp only; omega) (by have := hmn.2; have := hle.2; dsimp only; omega) (Nat.le_of_ble_eq_true rfl) (fun r9 w1 hw => ?_)
      obtain ⟨hrq3, w3, tx3, hag3, htq3, hwq3⟩ := hw
      dsimp only at hwq3 hrq3
      subst hwq3
      replace hrq3 := hrq3.symm
      subst hrq3
      dsimp only
      replace htq3 := htq3.symm
      subst htq3
      have hga3 : ∀ i, ([11, 16] : List Nat).elem i = false → w3 i = w0 i := fun i hi => (hag3 i (by revert hi; exact el_sub (by decide))).trans (hga2 i hi)
      have htx3 : tx = .ref (w3 2) := by rw [hag3 2 rfl]; exact htx2
      replace hcq : (cells + (σ3.2.2 3001 - σ2.2.2 3001)) + σf.2.2 3001 ≤ mc + σ3.2.2 3001 := by have := hmn.1; have := hle.1; omega
      replace hcm : (cells + (σ3.2.2 3001 - σ2.2.2 3001)) ≤ mc := by have := hmn.1; have := hle.1; omega
      generalize cells + (σ3.2.2 3001 - σ2.2.2 3001) = cells at hcq hcm ⊢
      replace hsq : (slots + (σ3.2.2 3002 - σ2.2.2 3002)) + σf.2.2 3002 ≤ ms + σ3.2.2 3002 := by have := hmn.2; have := hle.2; omega
      replace hsm : (slots + (σ3.2.2 3002 - σ2.2.2 3002)) ≤ ms := by have := hmn.2; have := hle.2; omega
      generalize slots + (σ3.2.2 3002 - σ2.2.2 3002) = slots at hsq hsm ⊢
      replace hF : d2_3 + 3 ≤ F := by omega
      replace hLo : 48 * d2_3 + 144 ≤ Lo := by omega
      refine ax_istore (pc := 53) C d_Par_takeTerm_53 (Nat.le_of_ble_eq_true rfl) ([(4, .int r3), (3, .int r2), (2, .int (σ1.1 3203)), (0, .ref (u 31)), (1, .int x0)]) rfl ?_
      refine ax_aload_n (pc := 55) C d_Par_takeTerm_55 rfl 3 rfl ?_
      refine ax_iload_n (pc := 56) C d_Par_takeTerm_56 rfl 1 rfl ?_
      refine ax_iconst (pc := 57) C 2 d_Par_takeTerm_57 (by decide +kernel) ?_
      refine ax_iload (pc := 58) C d_Par_takeTerm_58 0 rfl ?_
      refine ax_iload_n (pc := 60) C d_Par_takeTerm_60 rfl 2 rfl ?_
      replace h := it_b h
      obtain ⟨σ4, r4, d1_4, d2_4, h1, h, hd2, hd1⟩ := h
      replace hle := hG _ _ _ _ (by decide) h1
      dsimp only at hle
      replace hmn : gle σ4 σf := gm_use h gm_some
      replace hm : sC_Par_settle l D kA u w3 tx σ3 [r2, 2, r3, (σ1.1 3203)] (σ4, r4, d1_4) := ihC _ _ tC_Par_settle _ _ _ h1
      refine cc_Vv (pc := 61) C (σ2 := σ4) (As := [.int r2, .int 2, .int r3, .int (σ1.1 3203)]) (rest := []) (hm _ _ _ _ rfl) ml_Par_137 31 rfl rfl rfl d_Par_takeTerm_61 rfl rfl (by dsimp only; omega) (by dsimp only; omega) hcm hsm (Nat.le_of_ble_eq_true rfl) ?_
      replace hcq : cells + σf.2.2 3001 ≤ mc + σ4.2.2 3001 := by have := hle.1; omega
      replace hsq : slots + σf.2.2 3002 ≤ ms + σ4.2.2 3002 := by have := hle.2; omega
      replace hF : d2_4 + 3 ≤ F := by omega
      replace hLo : 48 * d2_4 + 144 ≤ Lo := by omega
      cases h
      exact ax_vret (pc := 64) C d_Par_takeTerm_64 ⟨w3, tx, hga3, rfl, rfl⟩ hcm hsm
    · replace h := it_f hc h
      refine ax_aload_n (pc := 30) C d_Par_takeTerm_30 rfl 0 rfl ?_
      replace h := it_b h
      obtain ⟨σ5, r5, d1_5, d2_5, h1, h, hd2, hd1⟩ := h
      replace hle := hG _ _ _ _ (by decide) h1
      dsimp only at hle
      replace hmn : gle σ5 σf := gm_use h gm_some
      replace hm : sG_Par_takeVariable l D kA u σ1 [] (σ5, r5, d1_5) := ih tG_Par_takeVariable _ _ _ h1
      refine gc_Vv (pc := 31) C (As := []) (rest := []) (hm rfl w tx htx) ml_Par_123 31 rfl rfl rfl d_Par_takeTerm_31 rfl rfl (by dsimp only; omega) (by dsimp only; omega) (by have := hmn.1; have := hle.1; dsimp only; omega) (by have := hmn.2; have := hle.2; dsimp only; omega) (Nat.le_of_ble_eq_true rfl) (fun w1 hw => ?_)
      obtain ⟨w5, tx5, hag5, htq5, hwq5⟩ := hw
      dsimp only at hwq5
      subst hwq5
      dsimp only
      replace htq5 := htq5.symm
      subst htq5
      have hga5 : ∀ i, ([11, 16] : List Nat).elem i = false → w5 i = w0 i := fun i hi => (hag5 i (by revert hi; exact el_sub (by decide))).trans (hga i hi)
      have htx5 : tx = .ref (w5 2) := by rw [hag5 2 rfl]; exact htx
      replace hcq : (cells + (σ5.2.2 3001 - σ1.2.2 3001)) + σf.2.2 3001 ≤ mc + σ5.2.2 3001 := by have := hmn.1; have := hle.1; omega
      replace hcm : (cells + (σ5.2.2 3001 - σ1.2.2 3001)) ≤ mc := by have := hmn.1; have := hle.1; omega
      generalize cells + (σ5.2.2 3001 - σ1.2.2 3001) = cells at hcq hcm ⊢
      replace hsq : (slots + (σ5.2.2 3002 - σ1.2.2 3002)) + σf.2.2 3002 ≤ ms + σ5.2.2 3002 := by have := hmn.2; have := hle.2; omega
      replace hsm : (slots + (σ5.2.2 3002 - σ1.2.2 3002)) ≤ ms := by have := hmn.2; have := hle.2; omega
      generalize slots + (σ5.2.2 3002 - σ1.2.2 3002) = slots at hsq hsm ⊢
      replace hF : d2_5 + 3 ≤ F := by omega
      replace hLo : 48 * d2_5 + 144 ≤ Lo := by omega
      cases h
      exact ax_vret (pc := 34) C d_Par_takeTerm_34 ⟨w5, tx, hga5, rfl, rfl⟩ hcm hsm
  · replace h := it_f hc h
    refine ax_aload_n (pc := 6) C d_Par_takeTerm_6 rfl 0 rfl ?_
    refine ax_iconst (pc := 7) C 3 d_Par_takeTerm_7 (by decide +kernel) ?_
    refine ax_aload_n (pc := 8) C d_Par_takeTerm_8 rfl 0 rfl ?_
    refine cg_31_2_Par_12 (pc := 9) C d_Par_takeTerm_9 ?_
    refine cg_32_3_Par_77 (pc := 12) C d_Par_takeTerm_12 ?_
    replace h := it_b h
    obtain ⟨σ6, r6, d1_6, d2_6, h1, h, hd2, hd1⟩ := h
    replace hle := hG _ _ _ _ (by decide) h1
    dsimp only at hle
    replace hmn : gle σ6 σf := gm_use h gm_some
    replace hm : sC_Par_fail l D kA u w tx σ [3, (σ.1 3203)] (σ6, r6, d1_6) := ihC _ _ tC_Par_fail _ _ _ h1
    refine cc_Vv (pc := 15) C (σ2 := σ6) (As := [.int 3, .int (σ.1 3203)]) (rest := []) (hm _ _ rfl) ml_Par_96 31 rfl rfl rfl d_Par_takeTerm_15 rfl rfl (by dsimp only; omega) (by dsimp only; omega) hcm hsm (Nat.le_of_ble_eq_true rfl) ?_
    replace hcq : cells + σf.2.2 3001 ≤ mc + σ6.2.2 3001 := by have := hle.1; omega
    replace hsq : slots + σf.2.2 3002 ≤ ms + σ6.2.2 3002 := by have := hle.2; omega
    replace hF : d2_6 + 3 ≤ F := by omega
    replace hLo : 48 * d2_6 + 144 ≤ Lo := by omega
    cases h
    exact ax_vret (pc := 18) C d_Par_takeTerm_18 ⟨w, tx, hga, rfl, rfl⟩ hcm hsm
set_option maxHeartbeats 4000000 in
set_option maxRecDepth 100000 in
theorem oG_Par_takeTerms (l : Launch) (D : va_G) (kA : Nat → ClassId) (u : Nat → Nat) (rec : mF) (hG : GM rec) (ihC : ∀ (w : Nat → Nat) (tx : Value) t σ xs res, rec t σ xs = some res → cSem l D kA u w tx t σ xs res) (ih : ∀ t σ xs res, rec t σ xs = some res → gSem l D kA u t σ xs res) (σ : mS) (xs : List Int32) (res : mR) (h : u_1 (kG_Par_takeTerms rec σ) xs = some res) : sG_Par_takeTerms l D kA u σ xs res := by
  intro x0 hxs w tx htx
  subst hxs
  obtain ⟨σf, rf, dd⟩ := res
  have hmn : gle σ σf := qG_Par_takeTerms rec hG σ x0 _ h
  have h : (if (σ.1 3100) = 0 then (bnd (rec tC_Wds_isNow σ [5]) (fun σ1 r1 => if r1 = 0 then (rec tG_Par_takeTerms_p18 σ1 [x0]) else (rec tG_Par_takeTerms_p27 σ1 [x0, 0, 1, 0]))) else (rec tG_Par_takeTerms_p18 σ [x0])) = some (σf, rf, dd) := h
  refine ax_Mi.of (by decide +kernel) (Nat.le_of_ble_eq_true rfl) ?_
  intro p e s m args below meth c C hnm
  replace C : ax_C p s m args meth c b_Par_takeTerms "ClauseProver$Parser" 5 (some .int) D kA (va_A (cpW kA u w tx σ) s.heap.size) := C
  obtain ⟨F, hFe⟩ : ∃ z, z = dd + 3 := ⟨_, rfl⟩
  obtain ⟨Lo, hLoe⟩ : ∃ z, z = 48 * dd + 144 := ⟨_, rfl⟩
  obtain ⟨mc, hmce⟩ : ∃ z, z = σf.2.2 3001 - σ.2.2 3001 := ⟨_, rfl⟩
  obtain ⟨ms, hmse⟩ : ∃ z, z = σf.2.2 3002 - σ.2.2 3002 := ⟨_, rfl⟩
  obtain ⟨σ0, hσ0e⟩ : ∃ z, z = σ := ⟨_, rfl⟩
  obtain ⟨w0, hw0e⟩ : ∃ z, z = w := ⟨_, rfl⟩
  obtain ⟨tx0, htx0e⟩ : ∃ z, z = tx := ⟨_, rfl⟩
  suffices K : ∀ (cells slots : Nat), cells = 0 → slots = 0 → AW p l e { frames := F, cells := mc, slots := ms, locals := Lo } s m args below meth c D kA (va_A (cpW kA u w0 tx0 σ0) s.heap.size) 5 (ax_Qi below args s D kA (cpW kA u w0 tx0 σ0) mc ms (fun r w1 => r = rf ∧ ∃ (w2 : Nat → Nat) (tx2 : Value), (∀ i, ([11, 16] : List Nat).elem i = false → w2 i = w0 i) ∧ tx2 = tx0 ∧ w1 = cpW kA u w2 tx2 σf)) 0 [(0, .ref (u 31)), (1, .int x0)] [] (cpW kA u w tx σ) cells slots by
    have K := K 0 0 rfl rfl
    rw [hFe, hLoe, hmce, hmse, hσ0e, hw0e, htx0e] at K
    exact ax_ls ([(0, .ref (u 31)), (1, .int x0)]) [0, 1] rfl K
  replace C : ax_C p s m args meth c b_Par_takeTerms "ClauseProver$Parser" 5 (some .int) D kA (va_A (cpW kA u w0 tx0 σ0) s.heap.size) := by rw [hσ0e, hw0e, htx0e]; exact C
  intro cells slots hc0 hs0
  have hcq : cells + σf.2.2 3001 ≤ mc + σ.2.2 3001 := by have := hmn.1; omega
  have hsq : slots + σf.2.2 3002 ≤ ms + σ.2.2 3002 := by have := hmn.2; omega
  have hga : ∀ i, ([11, 16] : List Nat).elem i = false → w i = w0 i := fun i _ => by rw [hw0e]
  have e9 : tx = tx0 := htx0e.symm
  subst e9
  have hF : dd + 3 ≤ F := by omega
  have hLo : 48 * dd + 144 ≤ Lo := by omega
  have hcm : cells ≤ mc := by have := hmn.1; omega
  have hsm : slots ≤ ms := by have := hmn.2; omega
  have hle : True := trivial
  have hm : True := trivial
  refine ax_aload_n (pc := 0) C d_Par_takeTerms_0 rfl 0 rfl ?_
  refine cg_31_0_Par_41 (pc := 1) C d_Par_takeTerms_1 ?_
  refine ax_if_ne (pc := 4) C 18 d_Par_takeTerms_4 (by decide) (fun hc => ?_) (fun hc => ?_)
  · replace h := it_f hc h
    refine ax_ls ([(0, .ref (u 31)), (1, .int x0)]) [0, 1] rfl ?_
    replace hm : sG_Par_takeTerms_p18 l D kA u σ [x0] (σf, rf, _) := ih tG_Par_takeTerms_p18 _ _ _ h
    exact hm _ rfl w tx htx p e s m args below meth c F Lo mc ms cells slots σ0 w0 tx hF hLo hcq hsq hga C
  · replace h := it_t hc h
    refine ax_aload_n (pc := 7) C d_Par_takeTerms_7 rfl 0 rfl ?_
    refine cg_31_2_Par_12 (pc := 8) C d_Par_takeTerms_8 ?_
    refine ax_iconst (pc := 11) C 5 d_Par_takeTerms_11 (by decide +kernel) ?_
    replace h := it_b h
    obtain ⟨σ1, r1, d1_1, d2_1, h1, h, hd2, hd1⟩ := h
    replace hle := hG _ _ _ _ (by decide) h1
    dsimp only at hle
    replace hmn : gle σ1 σf := gm_use h (gm_if (gm_tail hG (Nat.le_of_ble_eq_true rfl)) (gm_tail hG (Nat.le_of_ble_eq_true rfl)))
    replace hm : sC_Wds_isNow l D kA u w tx σ [5] (σ1, r1, d1_1) := ihC _ _ tC_Wds_isNow _ _ _ h1
    refine cc_Vi (pc := 12) C (r0 := r1) (σ2 := σ1) (As := [.int 5]) (rest := []) (hm _ rfl) ml_Par_100 32 rfl rfl rfl d_Par_takeTerms_12 rfl rfl (by dsimp only; omega) (by dsimp only; omega) hcm hsm (Nat.le_of_ble_eq_true rfl) ?_
    replace hcq : cells + σf.2.2 3001 ≤ mc + σ1.2.2 3001 := by have := hle.1; omega
    replace hsq : slots + σf.2.2 3002 ≤ ms + σ1.2.2 3002 := by have := hle.2; omega
    replace hF : d2_1 + 3 ≤ F := by omega
    replace hLo : 48 * d2_1 + 144 ≤ Lo := by omega
    refine ax_if_ne (pc := 15) C 20 d_Par_takeTerms_15 (by decide) (fun hc => ?_) (fun hc => ?_)
    · replace h := it_f hc h
      refine ax_iconst (pc := 20) C 0 d_Par_takeTerms_20 (by decide +kernel) ?_
      refine ax_istore_n (pc := 21) C d_Par_takeTerms_21 rfl (Nat.le_of_ble_eq_true rfl) ([(2, .int 0), (0, .ref (u 31)), (1, .int x0)]) rfl ?_
      refine ax_iconst (pc := 22) C 1 d_Par_takeTerms_22 (by decide +kernel) ?_
      refine ax_istore_n (pc := 23) C d_Par_takeTerms_23 rfl (Nat.le_of_ble_eq_true rfl) ([(3, .int 1), (2, .int 0), (0, .ref (u 31)), (1, .int x0)]) rfl ?_
      refine ax_iconst (pc := 24) C 0 d_Par_takeTerms_24 (by decide +kernel) ?_
      refine ax_istore (pc := 25) C d_Par_takeTerms_25 (Nat.le_of_ble_eq_true rfl) ([(4, .int 0), (3, .int 1), (2, .int 0), (0, .ref (u 31)), (1, .int x0)]) rfl ?_
      refine ax_ls ([(0, .ref (u 31)), (1, .int x0), (2, .int 0), (3, .int 1), (4, .int 0)]) [3, 4, 2, 1, 0] rfl ?_
      replace hm : sG_Par_takeTerms_p27 l D kA u σ1 [x0, 0, 1, 0] (σf, rf, _) := ih tG_Par_takeTerms_p27 _ _ _ h
      exact hm _ _ _ _ rfl w tx htx p e s m args below meth c F Lo mc ms cells slots σ0 w0 tx hF hLo hcq hsq hga C
    · replace h := it_t hc h
      refine ax_ls ([(0, .ref (u 31)), (1, .int x0)]) [0, 1] rfl ?_
      replace hm : sG_Par_takeTerms_p18 l D kA u σ1 [x0] (σf, rf, _) := ih tG_Par_takeTerms_p18 _ _ _ h
      exact hm _ rfl w tx htx p e s m args below meth c F Lo mc ms cells slots σ0 w0 tx hF hLo hcq hsq hga C
set_option maxHeartbeats 4000000 in
set_option maxRecDepth 100000 in
theorem oG_Par_takeTerms_p18 (l : Launch) (D : va_G) (kA : Nat → ClassId) (u : Nat → Nat) (rec : mF) (hG : GM rec) (ihC : ∀ (w : Nat → Nat) (tx : Value) t σ xs res, rec t σ xs = some res → cSem l D kA u w tx t σ xs res) (ih : ∀ t σ xs res, rec t σ xs = some res → gSem l D kA u t σ xs res) (σ : mS) (xs : List Int32) (res : mR) (h : u_1 (kG_Par_takeTerms_p18 rec σ) xs = some res) : sG_Par_takeTerms_p18 l D kA u σ xs res := by
  intro x0 hxs w tx htx
  subst hxs
  obtain ⟨σf, rf, dd⟩ := res
  have hmn : gle σ σf := qG_Par_takeTerms_p18 rec hG σ x0 _ h
  have h : (some (σ, 0, 0)) = some (σf, rf, dd) := h
  intro p e s m args below meth c F Lo mc ms cells slots σ0 w0 tx0 hF hLo hcq hsq hga C
  dsimp only at hF hLo hcq hsq ⊢
  have hcm : cells ≤ mc := by have := hmn.1; omega
  have hsm : slots ≤ ms := by have := hmn.2; omega
  have hle : True := trivial
  have hm : True := trivial
  refine ax_iconst (pc := 18) C 0 d_Par_takeTerms_18 (by decide +kernel) ?_
  cases h
  exact ax_iret (pc := 19) C d_Par_takeTerms_19 ⟨rfl, w, tx, hga, rfl, rfl⟩ hcm hsm
set_option maxHeartbeats 4000000 in
set_option maxRecDepth 100000 in
theorem oG_Par_takeTerms_p27 (l : Launch) (D : va_G) (kA : Nat → ClassId) (u : Nat → Nat) (rec : mF) (hG : GM rec) (ihC : ∀ (w : Nat → Nat) (tx : Value) t σ xs res, rec t σ xs = some res → cSem l D kA u w tx t σ xs res) (ih : ∀ t σ xs res, rec t σ xs = some res → gSem l D kA u t σ xs res) (σ : mS) (xs : List Int32) (res : mR) (h : u_4 (kG_Par_takeTerms_p27 rec σ) xs = some res) : sG_Par_takeTerms_p27 l D kA u σ xs res := by
  intro x0 x1 x2 x3 hxs w tx htx
  subst hxs
  obtain ⟨σf, rf, dd⟩ := res
  have hmn : gle σ σf := qG_Par_takeTerms_p27 rec hG σ x0 x1 x2 x3 _ h
  have h : (if 1000000 ≤ x3 then (rec tG_Par_takeTerms_p86 σ [x0, x1, x2, x3]) else (if x2 = 0 then (rec tG_Par_takeTerms_p86 σ [x0, x1, x2, x3]) else (bnd (rec tC_Wds_advance σ []) (fun σ1 r1 => bnd (rec tG_Par_takeTerm σ1 [((x0 : Int32) + 1)]) (fun σ2 r2 => if (σ2.1 3100) = 0 then (bnd (rec tC_Wds_isNow σ2 [7]) (fun σ3 r3 => if r3 = 0 then (rec tG_Par_takeTerms_p78 σ3 [x0, (x1 + 1), x2, x3]) else (rec tG_Par_takeTerms_p79 σ3 [x0, (x1 + 1), x2, x3, 1]))) else (rec tG_Par_takeTerms_p78 σ2 [x0, (x1 + 1), x2, x3])))))) = some (σf, rf, dd) := h
  intro p e s m args below meth c F Lo mc ms cells slots σ0 w0 tx0 hF hLo hcq hsq hga C
  dsimp only at hF hLo hcq hsq ⊢
  have hcm : cells ≤ mc := by have := hmn.1; omega
  have hsm : slots ≤ ms := by have := hmn.2; omega
  have hle : True := trivial
  have hm : True := trivial
  refine ax_iload (pc := 27) C d_Par_takeTerms_27 4 rfl ?_
  refine ax_ldc (pc := 29) C tb_constant_580 d_Par_takeTerms_29 ?_
  refine ax_icmp_ge (pc := 31) C 86 d_Par_takeTerms_31 (by decide) (fun hc => ?_) (fun hc => ?_)
  · replace h := it_t hc h
    refine ax_ls ([(0, .ref (u 31)), (1, .int x0), (2, .int x1), (3, .int x2), (4, .int x3)]) [0, 1, 2, 3, 4] rfl ?_
    replace hm : sG_Par_takeTerms_p86 l D kA u σ [x0, x1, x2, x3] (σf, rf, _) := ih tG_Par_takeTerms_p86 _ _ _ h
    exact hm _ _ _ _ rfl w tx htx p e s m args below meth c F Lo mc ms cells slots σ0 w0 tx0 hF hLo hcq hsq hga C
  · replace h := it_f hc h
    refine ax_iload_n (pc := 34) C d_Par_takeTerms_34 rfl 3 rfl ?_
    refine ax_if_eq (pc := 35) C 86 d_Par_takeTerms_35 (by decide) (fun hc => ?_) (fun hc => ?_)
    · replace h := it_t hc h
      refine ax_ls ([(0, .ref (u 31)), (1, .int x0), (2, .int x1), (3, .int x2), (4, .int x3)]) [0, 1, 2, 3, 4] rfl ?_
      replace hm : sG_Par_takeTerms_p86 l D kA u σ [x0, x1, x2, x3] (σf, rf, _) := ih tG_Par_takeTerms_p86 _ _ _ h
      exact hm _ _ _ _ rfl w tx htx p e s m args below meth c F Lo mc ms cells slots σ0 w0 tx0 hF hLo hcq hsq hga C
    · replace h := it_f hc h
      refine ax_aload_n (pc := 38) C d_Par_takeTerms_38 rfl 0 rfl ?_
      refine cg_31_2_Par_12 (pc := 39) C d_Par_takeTerms_39 ?_
      replace h := it_b h
      obtain ⟨σ1, r1, d1_1, d2_1, h1, h, hd2, hd1⟩ := h
      replace hle := hG _ _ _ _ (by decide) h1
      dsimp only at hle
      replace hmn : gle σ1 σf := gm_use h (gm_bnd hG (Nat.le_of_ble_eq_true rfl) (fun _ _ => (gm_if (gm_bnd hG (Nat.le_of_ble_eq_true rfl) (fun _ _ => (gm_if (gm_tail hG (Nat.le_of_ble_eq_true rfl)) (gm_tail hG (Nat.le_of_ble_eq_true rfl))))) (gm_tail hG (Nat.le_of_ble_eq_true rfl)))))
      replace hm : sC_Wds_advance l D kA u w tx σ [] (σ1, r1, d1_1) := ihC _ _ tC_Wds_advance _ _ _ h1
      refine cc_Vv (pc := 42) C (σ2 := σ1) (As := []) (rest := []) (hm rfl htx) ml_Par_89 32 rfl rfl rfl d_Par_takeTerms_42 rfl rfl (by dsimp only; omega) (by dsimp only; omega) hcm hsm (Nat.le_of_ble_eq_true rfl) ?_
      replace hcq : cells + σf.2.2 3001 ≤ mc + σ1.2.2 3001 := by have := hle.1; omega
      replace hsq : slots + σf.2.2 3002 ≤ ms + σ1.2.2 3002 := by have := hle.2; omega
      replace hF : d2_1 + 3 ≤ F := by omega
      replace hLo : 48 * d2_1 + 144 ≤ Lo := by omega
      refine ax_aload_n (pc := 45) C d_Par_takeTerms_45 rfl 0 rfl ?_
      refine ax_iload_n (pc := 46) C d_Par_takeTerms_46 rfl 1 rfl ?_
      refine ax_iconst (pc := 47) C 1 d_Par_takeTerms_47 (by decide +kernel) ?_
      refine ax_iadd (pc := 48) C d_Par_takeTerms_48 ?_
      replace h := it_b h
      obtain ⟨σ2, r2, d1_2, d2_2, h1, h, hd2, hd1⟩ := h
      replace hle := hG _ _ _ _ (by decide) h1
      dsimp only at hle
      replace hmn : gle σ2 σf := gm_use h (gm_if (gm_bnd hG (Nat.le_of_ble_eq_true rfl) (fun _ _ => (gm_if (gm_tail hG (Nat.le_of_ble_eq_true rfl)) (gm_tail hG (Nat.le_of_ble_eq_true rfl))))) (gm_tail hG (Nat.le_of_ble_eq_true rfl)))
      replace hm : sG_Par_takeTerm l D kA u σ1 [((x0 : Int32) + 1)] (σ2, r2, d1_2) := ih tG_Par_takeTerm _ _ _ h1
      refine gc_Vv (pc := 49) C (As := [.int ((x0 : Int32) + 1)]) (rest := []) (hm _ rfl w tx htx) ml_Par_148 31 rfl rfl rfl d_Par_takeTerms_49 rfl rfl (by dsimp only; omega) (by dsimp only; omega) (by have := hmn.1; have := hle.1; dsimp only; omega) (by have := hmn.2; have := hle.2; dsimp only; omega) (Nat.le_of_ble_eq_true rfl) (fun w1 hw => ?_)
      obtain ⟨w2, tx2, hag2, htq2, hwq2⟩ := hw
      dsimp only at hwq2
      subst hwq2
      dsimp only
      replace htq2 := htq2.symm
      subst htq2
      have hga2 : ∀ i, ([11, 16] : List Nat).elem i = false → w2 i = w0 i := fun i hi => (hag2 i (by revert hi; exact el_sub (by decide))).trans (hga i hi)
      have htx2 : tx = .ref (w2 2) := by rw [hag2 2 rfl]; exact htx
      replace hcq : (cells + (σ2.2.2 3001 - σ1.2.2 3001)) + σf.2.2 3001 ≤ mc + σ2.2.2 3001 := by have := hmn.1; have := hle.1; omega
      replace hcm : (cells + (σ2.2.2 3001 - σ1.2.2 3001)) ≤ mc := by have := hmn.1; have := hle.1; omega
      generalize cells + (σ2.2.2 3001 - σ1.2.2 3001) = cells at hcq hcm ⊢
      replace hsq : (slots + (σ2.2.2 3002 - σ1.2.2 3002)) + σf.2.2 3002 ≤ ms + σ2.2.2 3002 := by have := hmn.2; have := hle.2; omega
      replace hsm : (slots + (σ2.2.2 3002 - σ1.2.2 3002)) ≤ ms := by have := hmn.2; have := hle.2; omega
      generalize slots + (σ2.2.2 3002 - σ1.2.2 3002) = slots at hsq hsm ⊢
      replace hF : d2_2 + 3 ≤ F := by omega
      replace hLo : 48 * d2_2 + 144 ≤ Lo := by omega
      refine ax_iinc (pc := 52) C (x1 + 1) d_Par_takeTerms_52 2 rfl rfl (Nat.le_of_ble_eq_true rfl) ([(2, .int (x1 + 1)), (0, .ref (u 31)), (1, .int x0), (3, .int x2), (4, .int x3)]) rfl ?_
      refine ax_aload_n (pc := 55) C d_Par_takeTerms_55 rfl 1 rfl ?_
      refine cg_31_0_Par_41 (pc := 56) C d_Par_takeTerms_56 ?_
      refine ax_if_ne (pc := 59) C 78 d_Par_takeTerms_59 (by decide) (fun hc => ?_) (fun hc => ?_)
      · replace h := it_f hc h
        refine ax_ls ([(0, .ref (u 31)), (1, .int x0), (2, .int (x1 + 1)), (3, .int x2), (4, .int x3)]) [1, 2, 0, 3, 4] rfl ?_
        replace hm : sG_Par_takeTerms_p78 l D kA u σ2 [x0, (x1 + 1), x2, x3] (σf, rf, _) := ih tG_Par_takeTerms_p78 _ _ _ h
        exact hm _ _ _ _ rfl w2 tx htx2 p e s m args below meth c F Lo mc ms cells slots σ0 w0 tx0 hF hLo hcq hsq hga2 C
      · replace h := it_t hc h
        refine ax_aload_n (pc := 62) C d_Par_takeTerms_62 rfl 1 rfl ?_
        refine cg_31_2_Par_12 (pc := 63) C d_Par_takeTerms_63 ?_
        refine ax_bipush (pc := 66) C 7 d_Par_takeTerms_66 (by decide +kernel) ?_
        replace h := it_b h
        obtain ⟨σ3, r3, d1_3, d2_3, h1, h, hd2, hd1⟩ := h
        replace hle := hG _ _ _ _ (by decide) h1
        dsimp only at hle
        replace hmn : gle σ3 σf := gm_use h (gm_if (gm_tail hG (Nat.le_of_ble_eq_true rfl)) (gm_tail hG (Nat.le_of_ble_eq_true rfl)))
        replace hm : sC_Wds_isNow l D kA u w2 tx σ2 [7] (σ3, r3, d1_3) := ihC _ _ tC_Wds_isNow _ _ _ h1
        refine cc_Vi (pc := 68) C (r0 := r3) (σ2 := σ3) (As := [.int 7]) (rest := []) (hm _ rfl) ml_Par_100 32 rfl rfl rfl d_Par_takeTerms_68 rfl rfl (by dsimp only; omega) (by dsimp only; omega) hcm hsm (Nat.le_of_ble_eq_true rfl) ?_
        replace hcq : cells + σf.2.2 3001 ≤ mc + σ3.2.2 3001 := by have := hle.1; omega
        replace hsq : slots + σf.2.2 3002 ≤ ms + σ3.2.2 3002 := by have := hle.2; omega
        replace hF : d2_3 + 3 ≤ F := by omega
        replace hLo : 48 * d2_3 + 144 ≤ Lo := by omega
        refine ax_if_eq (pc := 71) C 78 d_Par_takeTerms_71 (by decide) (fun hc => ?_) (fun hc => ?_)
        · replace h := it_t hc h
          refine ax_ls ([(0, .ref (u 31)), (1, .int x0), (2, .int (x1 + 1)), (3, .int x2), (4, .int x3)]) [1, 2, 0, 3, 4] rfl ?_
          replace hm : sG_Par_takeTerms_p78 l D kA u σ3 [x0, (x1 + 1), x2, x3] (σf, rf, _) := ih tG_Par_takeTerms_p78 _ _ _ h
          exact hm _ _ _ _ rfl w2 tx htx2 p e s m args below meth c F Lo mc ms cells slots σ0 w0 tx0 hF hLo hcq hsq hga2 C
        · replace h := it_f hc h
          refine ax_iconst (pc := 74) C 1 d_Par_takeTerms_74 (by decide +kernel) ?_
          refine ax_goto (pc := 75) C 79 d_Par_takeTerms_75 (by decide) ?_
          refine ax_ls ([(0, .ref (u 31)), (1, .int x0), (2, .int (x1 + 1)), (3, .int x2), (4, .int x3)]) [1, 2, 0, 3, 4] rfl ?_
          replace hm : sG_Par_takeTerms_p79 l D kA u σ3 [x0, (x1 + 1), x2, x3, 1] (σf, rf, _) := ih tG_Par_takeTerms_p79 _ _ _ h
          exact hm _ _ _ _ _ rfl w2 tx htx2 p e s m args below meth c F Lo mc ms cells slots σ0 w0 tx0 hF hLo hcq hsq hga2 C
set_option maxHeartbeats 4000000 in
set_option maxRecDepth 100000 in
theorem oG_Par_takeTerms_p78 (l : Launch) (D : va_G) (kA : Nat → ClassId) (u : Nat → Nat) (rec : mF) (hG : GM rec) (ihC : ∀ (w : Nat → Nat) (tx : Value) t σ xs res, rec t σ xs = some res → cSem l D kA u w tx t σ xs res) (ih : ∀ t σ xs res, rec t σ xs = some res → gSem l D kA u t σ xs res) (σ : mS) (xs : List Int32) (res : mR) (h : u_4 (kG_Par_takeTerms_p78 rec σ) xs = some res) : sG_Par_takeTerms_p78 l D kA u σ xs res := by
  intro x0 x1 x2 x3 hxs w tx htx
  subst hxs
  obtain ⟨σf, rf, dd⟩ := res
  have hmn : gle σ σf := qG_Par_takeTerms_p78 rec hG σ x0 x1 x2 x3 _ h
  have h : (rec tG_Par_takeTerms_p79 σ [x0, x1, x2, x3, 0]) = some (σf, rf, dd) := h
  intro p e s m args below meth c F Lo mc ms cells slots σ0 w0 tx0 hF hLo hcq hsq hga C
  dsimp only at hF hLo hcq hsq ⊢
  have hcm : cells ≤ mc := by have := hmn.1; omega
  have hsm : slots ≤ ms := by have := hmn.2; omega
  have hle : True := trivial
  have hm : True := trivial
  refine ax_iconst (pc := 78) C 0 d_Par_takeTerms_78 (by decide +kernel) ?_
  refine ax_ls ([(0, .ref (u 31)), (1, .int x0), (2, .int x1), (3, .int x2), (4, .int x3)]) [0, 1, 2, 3, 4] rfl ?_
  replace hm : sG_Par_takeTerms_p79 l D kA u σ [x0, x1, x2, x3, 0] (σf, rf, _) := ih tG_Par_takeTerms_p79 _ _ _ h
  exact hm _ _ _ _ _ rfl w tx htx p e s m args below meth c F Lo mc ms cells slots σ0 w0 tx0 hF hLo hcq hsq hga C
set_option maxHeartbeats 4000000 in
set_option maxRecDepth 100000 in
theorem oG_Par_takeTerms_p79 (l : Launch) (D : va_G) (kA : Nat → ClassId) (u : Nat → Nat) (rec : mF) (hG : GM rec) (ihC : ∀ (w : Nat → Nat) (tx : Value) t σ xs res, rec t σ xs = some res → cSem l D kA u w tx t σ xs res) (ih : ∀ t σ xs res, rec t σ xs = some res → gSem l D kA u t σ xs res) (σ : mS) (xs : List Int32) (res : mR) (h : u_5 (kG_Par_takeTerms_p79 rec σ) xs = some res) : sG_Par_takeTerms_p79 l D kA u σ xs res := by
  intro x0 x1 x2 x3 x4 hxs w tx htx
  subst hxs
  obtain ⟨σf, rf, dd⟩ := res
  have hmn : gle σ σf := qG_Par_takeTerms_p79 rec hG σ x0 x1 x2 x3 x4 _ h
  have h : (rec tG_Par_takeTerms_p27 σ [x0, x1, x4, (x3 + 1)]) = some (σf, rf, dd) := h
  intro p e s m args below meth c F Lo mc ms cells slots σ0 w0 tx0 hF hLo hcq hsq hga C
  dsimp only at hF hLo hcq hsq ⊢
  have hcm : cells ≤ mc := by have := hmn.1; omega
  have hsm : slots ≤ ms := by have := hmn.2; omega
  have hle : True := trivial
  have hm : True := trivial
  refine ax_istore_n (pc := 79) C d_Par_takeTerms_79 rfl (Nat.le_of_ble_eq_true rfl) ([(3, .int x4), (0, .ref (u 31)), (1, .int x0), (2, .int x1), (4, .int x3)]) rfl ?_
  refine ax_iinc (pc := 80) C (x3 + 1) d_Par_takeTerms_80 4 rfl rfl (Nat.le_of_ble_eq_true rfl) ([(4, .int (x3 + 1)), (3, .int x4), (0, .ref (u 31)), (1, .int x0), (2, .int x1)]) rfl ?_
  refine ax_goto (pc := 83) C 27 d_Par_takeTerms_83 (by decide) ?_
  refine ax_ls ([(0, .ref (u 31)), (1, .int x0), (2, .int x1), (3, .int x4), (4, .int (x3 + 1))]) [2, 3, 4, 1, 0] rfl ?_
  replace hm : sG_Par_takeTerms_p27 l D kA u σ [x0, x1, x4, (x3 + 1)] (σf, rf, _) := ih tG_Par_takeTerms_p27 _ _ _ h
  exact hm _ _ _ _ rfl w tx htx p e s m args below meth c F Lo mc ms cells slots σ0 w0 tx0 hF hLo hcq hsq hga C
set_option maxHeartbeats 4000000 in
set_option maxRecDepth 100000 in
theorem oG_Par_takeTerms_p86 (l : Launch) (D : va_G) (kA : Nat → ClassId) (u : Nat → Nat) (rec : mF) (hG : GM rec) (ihC : ∀ (w : Nat → Nat) (tx : Value) t σ xs res, rec t σ xs = some res → cSem l D kA u w tx t σ xs res) (ih : ∀ t σ xs res, rec t σ xs = some res → gSem l D kA u t σ xs res) (σ : mS) (xs : List Int32) (res : mR) (h : u_4 (kG_Par_takeTerms_p86 rec σ) xs = some res) : sG_Par_takeTerms_p86 l D kA u σ xs res := by
  intro x0 x1 x2 x3 hxs w tx htx
  subst hxs
  obtain ⟨σf, rf, dd⟩ := res
  have hmn : gle σ σf := qG_Par_takeTerms_p86 rec hG σ x0 x1 x2 x3 _ h
  have h : (if (σ.1 3100) = 0 then (bnd (rec tC_Wds_isNow σ [6]) (fun σ1 r1 => if r1 = 0 then (bnd (rec tC_Par_refuse σ1 []) (fun σ2 r2 => rec tG_Par_takeTerms_p119 σ2 [x0, x1, x2, x3])) else (bnd (rec tC_Wds_advance σ1 []) (fun σ3 r3 => rec tG_Par_takeTerms_p119 σ3 [x0, x1, x2, x3])))) else (rec tG_Par_takeTerms_p119 σ [x0, x1, x2, x3])) = some (σf, rf, dd) := h
  intro p e s m args below meth c F Lo mc ms cells slots σ0 w0 tx0 hF hLo hcq hsq hga C
  dsimp only at hF hLo hcq hsq ⊢
  have hcm : cells ≤ mc := by have := hmn.1; omega
  have hsm : slots ≤ ms := by have := hmn.2; omega
  have hle : True := trivial
  have hm : True := trivial
  refine ax_aload_n (pc := 86) C d_Par_takeTerms_86 rfl 0 rfl ?_
  refine cg_31_0_Par_41 (pc := 87) C d_Par_takeTerms_87 ?_
  refine ax_if_ne (pc := 90) C 119 d_Par_takeTerms_90 (by decide) (fun hc => ?_) (fun hc => ?_)
  · replace h := it_f hc h
    refine ax_ls ([(0, .ref (u 31)), (1, .int x0), (2, .int x1), (3, .int x2), (4, .int x3)]) [0, 1, 2, 3, 4] rfl ?_
    replace hm : sG_Par_takeTerms_p119 l D kA u σ [x0, x1, x2, x3] (σf, rf, _) := ih tG_Par_takeTerms_p119 _ _ _ h
    exact hm _ _ _ _ rfl w tx htx p e s m args below meth c F Lo mc ms cells slots σ0 w0 tx0 hF hLo hcq hsq hga C
  · replace h := it_t hc h
    refine ax_aload_n (pc := 93) C d_Par_takeTerms_93 rfl 0 rfl ?_
    refine cg_31_2_Par_12 (pc := 94) C d_Par_takeTerms_94 ?_
    refine ax_bipush (pc := 97) C 6 d_Par_takeTerms_97 (by decide +kernel) ?_
    replace h := it_b h
    obtain ⟨σ1, r1, d1_1, d2_1, h1, h, hd2, hd1⟩ := h
    replace hle := hG _ _ _ _ (by decide) h1
    dsimp only at hle
    replace hmn : gle σ1 σf := gm_use h (gm_if (gm_bnd hG (Nat.le_of_ble_eq_true rfl) (fun _ _ => (gm_tail hG (Nat.le_of_ble_eq_true rfl)))) (gm_bnd hG (Nat.le_of_ble_eq_true rfl) (fun _ _ => (gm_tail hG (Nat.le_of_ble_eq_true rfl)))))
    replace hm : sC_Wds_isNow l D kA u w tx σ [6] (σ1, r1, d1_1) := ihC _ _ tC_Wds_isNow _ _ _ h1
    refine cc_Vi (pc := 99) C (r0 := r1) (σ2 := σ1) (As := [.int 6]) (rest := []) (hm _ rfl) ml_Par_100 32 rfl rfl rfl d_Par_takeTerms_99 rfl rfl (by dsimp only; omega) (by dsimp only; omega) hcm hsm (Nat.le_of_ble_eq_true rfl) ?_
    replace hcq : cells + σf.2.2 3001 ≤ mc + σ1.2.2 3001 := by have := hle.1; omega
    replace hsq : slots + σf.2.2 3002 ≤ ms + σ1.2.2 3002 := by have := hle.2; omega
    replace hF : d2_1 + 3 ≤ F := by omega
    replace hLo : 48 * d2_1 + 144 ≤ Lo := by omega
    refine ax_if_eq (pc := 102) C 115 d_Par_takeTerms_102 (by decide) (fun hc => ?_) (fun hc => ?_)
    · replace h := it_t hc h
      refine ax_aload_n (pc := 115) C d_Par_takeTerms_115 rfl 0 rfl ?_
      replace h := it_b h
      obtain ⟨σ2, r2, d1_2, d2_2, h1, h, hd2, hd1⟩ := h
      replace hle := hG _ _ _ _ (by decide) h1
      dsimp only at hle
      replace hmn : gle σ2 σf := gm_use h (gm_tail hG (Nat.le_of_ble_eq_true rfl))
      replace hm : sC_Par_refuse l D kA u w tx σ1 [] (σ2, r2, d1_2) := ihC _ _ tC_Par_refuse _ _ _ h1
      refine cc_Vv (pc := 116) C (σ2 := σ2) (As := []) (rest := []) (hm rfl) ml_Par_117 31 rfl rfl rfl d_Par_takeTerms_116 rfl rfl (by dsimp only; omega) (by dsimp only; omega) hcm hsm (Nat.le_of_ble_eq_true rfl) ?_
      replace hcq : cells + σf.2.2 3001 ≤ mc + σ2.2.2 3001 := by have := hle.1; omega
      replace hsq : slots + σf.2.2 3002 ≤ ms + σ2.2.2 3002 := by have := hle.2; omega
      replace hF : d2_2 + 3 ≤ F := by omega
      replace hLo : 48 * d2_2 + 144 ≤ Lo := by omega
      refine ax_ls ([(0, .ref (u 31)), (1, .int x0), (2, .int x1), (3, .int x2), (4, .int x3)]) [0, 1, 2, 3, 4] rfl ?_
      replace hm : sG_Par_takeTerms_p119 l D kA u σ2 [x0, x1, x2, x3] (σf, rf, _) := ih tG_Par_takeTerms_p119 _ _ _ h
      exact hm _ _ _ _ rfl w tx htx p e s m args below meth c F Lo mc ms cells slots σ0 w0 tx0 hF hLo hcq hsq hga C
    · replace h := it_f hc h
      refine ax_aload_n (pc := 105) C d_Par_takeTerms_105 rfl 0 rfl ?_
      refine cg_31_2_Par_12 (pc := 106) C d_Par_takeTerms_106 ?_
      replace h := it_b h
      obtain ⟨σ3, r3, d1_3, d2_3, h1, h, hd2, hd1⟩ := h
      replace hle := hG _ _ _ _ (by decide) h1
      dsimp only at hle
      replace hmn : gle σ3 σf := gm_use h (gm_tail hG (Nat.le_of_ble_eq_true rfl))
      replace hm : sC_Wds_advance l D kA u w tx σ1 [] (σ3, r3, d1_3) := ihC _ _ tC_Wds_advance _ _ _ h1
      refine cc_Vv (pc := 109) C (σ2 := σ3) (As := []) (rest := []) (hm rfl htx) ml_Par_89 32 rfl rfl rfl d_Par_takeTerms_109 rfl rfl (by dsimp only; omega) (by dsimp only; omega) hcm hsm (Nat.le_of_ble_eq_true rfl) ?_
      replace hcq : cells + σf.2.2 3001 ≤ mc + σ3.2.2 3001 := by have := hle.1; omega
      replace hsq : slots + σf.2.2 3002 ≤ ms + σ3.2.2 3002 := by have := hle.2; omega
      replace hF : d2_3 + 3 ≤ F := by omega
      replace hLo : 48 * d2_3 + 144 ≤ Lo := by omega
      refine ax_goto (pc := 112) C 119 d_Par_takeTerms_112 (by decide) ?_
      refine ax_ls ([(0, .ref (u 31)), (1, .int x0), (2, .int x1), (3, .int x2), (4, .int x3)]) [0, 1, 2, 3, 4] rfl ?_
      replace hm : sG_Par_takeTerms_p119 l D kA u σ3 [x0, x1, x2, x3] (σf, rf, _) := ih tG_Par_takeTerms_p119 _ _ _ h
      exact hm _ _ _ _ rfl w tx htx p e s m args below meth c F Lo mc ms cells slots σ0 w0 tx0 hF hLo hcq hsq hga C
set_option maxHeartbeats 4000000 in
set_option maxRecDepth 100000 in
theorem oG_Par_takeTerms_p119 (l : Launch) (D : va_G) (kA : Nat → ClassId) (u : Nat → Nat) (rec : mF) (hG : GM rec) (ihC : ∀ (w : Nat → Nat) (tx : Value) t σ xs res, rec t σ xs = some res → cSem l D kA u w tx t σ xs res) (ih : ∀ t σ xs res, rec t σ xs = some res → gSem l D kA u t σ xs res) (σ : mS) (xs : List Int32) (res : mR) (h : u_4 (kG_Par_takeTerms_p119 rec σ) xs = some res) : sG_Par_takeTerms_p119 l D kA u σ xs res := by
  intro x0 x1 x2 x3 hxs w tx htx
  subst hxs
  obtain ⟨σf, rf, dd⟩ := res
  have hmn : gle σ σf := qG_Par_takeTerms_p119 rec hG σ x0 x1 x2 x3 _ h
  have h : (some (σ, x1, 0)) = some (σf, rf, dd) := h
  intro p e s m args below meth c F Lo mc ms cells slots σ0 w0 tx0 hF hLo hcq hsq hga C
  dsimp only at hF hLo hcq hsq ⊢
  have hcm : cells ≤ mc := by have := hmn.1; omega
  have hsm : slots ≤ ms := by have := hmn.2; omega
  have hle : True := trivial
  have hm : True := trivial
  refine ax_iload_n (pc := 119) C d_Par_takeTerms_119 rfl 2 rfl ?_
  cases h
  exact ax_iret (pc := 120) C d_Par_takeTerms_120 ⟨rfl, w, tx, hga, rfl, rfl⟩ hcm hsm
set_option maxHeartbeats 4000000 in
set_option maxRecDepth 100000 in
theorem oG_Par_takeVariable (l : Launch) (D : va_G) (kA : Nat → ClassId) (u : Nat → Nat) (rec : mF) (hG : GM rec) (ihC : ∀ (w : Nat → Nat) (tx : Value) t σ xs res, rec t σ xs = some res → cSem l D kA u w tx t σ xs res) (ih : ∀ t σ xs res, rec t σ xs = some res → gSem l D kA u t σ xs res) (σ : mS) (xs : List Int32) (res : mR) (h : u_0 (kG_Par_takeVariable rec σ) xs = some res) : sG_Par_takeVariable l D kA u σ xs res := by
  intro hxs w tx htx
  subst hxs
  obtain ⟨σf, rf, dd⟩ := res
  have hmn : gle σ σf := qG_Par_takeVariable rec hG σ _ h
  have h : (bnd (rec tC_For_variableOf σ []) (fun σ1 r1 => if r1 = (-1) then (bnd (rec tC_Par_fail σ1 [3, (σ1.1 3203)]) (fun σ4 r4 => some (σ4, 0, 0))) else (if rok σ1 1501 16 = true then (lt_ (rAdd σ1 1501 16 ((r1 : Int32) ^^^ (-1))) (fun σ2 => bnd (rec tC_Wds_advance σ2 []) (fun σ3 r3 => some (σ3, 0, 0)))) else none))) = some (σf, rf, dd) := h
  refine ax_Mv.of (by decide +kernel) (Nat.le_of_ble_eq_true rfl) ?_
  intro p e s m args below meth c C hnm
  replace C : ax_C p s m args meth c b_Par_takeVariable "ClauseProver$Parser" 2 none D kA (va_A (cpW kA u w tx σ) s.heap.size) := C
  obtain ⟨F, hFe⟩ : ∃ z, z = dd + 3 := ⟨_, rfl⟩
  obtain ⟨Lo, hLoe⟩ : ∃ z, z = 48 * dd + 144 := ⟨_, rfl⟩
  obtain ⟨mc, hmce⟩ : ∃ z, z = σf.2.2 3001 - σ.2.2 3001 := ⟨_, rfl⟩
  obtain ⟨ms, hmse⟩ : ∃ z, z = σf.2.2 3002 - σ.2.2 3002 := ⟨_, rfl⟩
  obtain ⟨σ0, hσ0e⟩ : ∃ z, z = σ := ⟨_, rfl⟩
  obtain ⟨w0, hw0e⟩ : ∃ z, z = w := ⟨_, rfl⟩
  obtain ⟨tx0, htx0e⟩ : ∃ z, z = tx := ⟨_, rfl⟩
  suffices K : ∀ (cells slots : Nat), cells = 0 → slots = 0 → AW p l e { frames := F, cells := mc, slots := ms, locals := Lo } s m args below meth c D kA (va_A (cpW kA u w0 tx0 σ0) s.heap.size) 2 (ax_Qv below args s D kA (cpW kA u w0 tx0 σ0) mc ms (fun w1 => ∃ (w2 : Nat → Nat) (tx2 : Value), (∀ i, ([16] : List Nat).elem i = false → w2 i = w0 i) ∧ tx2 = tx0 ∧ w1 = cpW kA u w2 tx2 σf)) 0 [(0, .ref (u 31))] [] (cpW kA u w tx σ) cells slots by
    have K := K 0 0 rfl rfl
    rw [hFe, hLoe, hmce, hmse, hσ0e, hw0e, htx0e] at K
    exact ax_ls ([(0, .ref (u 31))]) [0] rfl K
  replace C : ax_C p s m args meth c b_Par_takeVariable "ClauseProver$Parser" 2 none D kA (va_A (cpW kA u w0 tx0 σ0) s.heap.size) := by rw [hσ0e, hw0e, htx0e]; exact C
  intro cells slots hc0 hs0
  have hcq : cells + σf.2.2 3001 ≤ mc + σ.2.2 3001 := by have := hmn.1; omega
  have hsq : slots + σf.2.2 3002 ≤ ms + σ.2.2 3002 := by have := hmn.2; omega
  have hga : ∀ i, ([16] : List Nat).elem i = false → w i = w0 i := fun i _ => by rw [hw0e]
  have e9 : tx = tx0 := htx0e.symm
  subst e9
  have hF : dd + 3 ≤ F := by omega
  have hLo : 48 * dd + 144 ≤ Lo := by omega
  have hcm : cells ≤ mc := by have := hmn.1; omega
  have hsm : slots ≤ ms := by have := hmn.2; omega
  have hle : True := trivial
  have hm : True := trivial
  refine ax_aload_n (pc := 0) C d_Par_takeVariable_0 rfl 0 rfl ?_
  refine cg_31_4_Par_37 (pc := 1) C d_Par_takeVariable_1 ?_
  refine ax_aload_n (pc := 4) C d_Par_takeVariable_4 rfl 0 rfl ?_
  refine cg_31_2_Par_12 (pc := 5) C d_Par_takeVariable_5 ?_
  replace h := it_b h
  obtain ⟨σ1, r1, d1_1, d2_1, h1, h, hd2, hd1⟩ := h
  replace hle := hG _ _ _ _ (by decide) h1
  dsimp only at hle
  replace hmn : gle σ1 σf := gm_use h (gm_if (gm_bnd hG (Nat.le_of_ble_eq_true rfl) (fun _ _ => gm_some)) (gm_if (gm_lt (rAdd_le _ _ _ _) (gm_bnd hG (Nat.le_of_ble_eq_true rfl) (fun _ _ => gm_some))) gm_none))
  replace hm : sC_For_variableOf l D kA u w tx σ [] (σ1, r1, d1_1) := ihC _ _ tC_For_variableOf _ _ _ h1
  refine cc_Vi (pc := 8) C (r0 := r1) (σ2 := σ1) (As := [.ref (u 32)]) (rest := []) (hm rfl htx) ml_Par_156 14 rfl rfl rfl d_Par_takeVariable_8 rfl rfl (by dsimp only; omega) (by dsimp only; omega) hcm hsm (Nat.le_of_ble_eq_true rfl) ?_
  replace hcq : cells + σf.2.2 3001 ≤ mc + σ1.2.2 3001 := by have := hle.1; omega
  replace hsq : slots + σf.2.2 3002 ≤ ms + σ1.2.2 3002 := by have := hle.2; omega
  replace hF : d2_1 + 3 ≤ F := by omega
  replace hLo : 48 * d2_1 + 144 ≤ Lo := by omega
  refine ax_istore_n (pc := 11) C d_Par_takeVariable_11 rfl (Nat.le_of_ble_eq_true rfl) ([(1, .int r1), (0, .ref (u 31))]) rfl ?_
  refine ax_iload_n (pc := 12) C d_Par_takeVariable_12 rfl 0 rfl ?_
  refine ax_iconst (pc := 13) C (-1) d_Par_takeVariable_13 (by decide +kernel) ?_
  refine ax_icmp_ne (pc := 14) C 30 d_Par_takeVariable_14 (by decide) (fun hc => ?_) (fun hc => ?_)
  · replace h := it_f hc h
    refine ax_aload_n (pc := 30) C d_Par_takeVariable_30 rfl 1 rfl ?_
    refine cg_31_4_Par_37 (pc := 31) C d_Par_takeVariable_31 ?_
    refine cg_14_0_Par_120 (pc := 34) C d_Par_takeVariable_34 ?_
    refine ax_iload_n (pc := 37) C d_Par_takeVariable_37 rfl 0 rfl ?_
    refine ax_iconst (pc := 38) C (-1) d_Par_takeVariable_38 (by decide +kernel) ?_
    refine ax_ixor (pc := 39) C d_Par_takeVariable_39 ?_
    replace h := it_g h
    obtain ⟨hb, h⟩ := h
    replace h := it_l h
    replace hle := rAdd_le σ1 1501 16 ((r1 : Int32) ^^^ (-1))
    replace hmn : gle (rAdd σ1 1501 16 ((r1 : Int32) ^^^ (-1))) σf := gm_use h (gm_bnd hG (Nat.le_of_ble_eq_true rfl) (fun _ _ => gm_some))
    refine ca_15 (pc := 40) C (rest := []) ml_Par_145 d_Par_takeVariable_40 hb hF hLo (by have := hmn.1; have := hle.1; omega) (by have := hmn.2; have := hle.2; omega) (Nat.le_of_ble_eq_true rfl) (fun w2 hag2 => ?_)
    generalize rAdd σ1 1501 16 ((r1 : Int32) ^^^ (-1)) = σ2 at h hmn hle ⊢
    have hga2 : ∀ i, ([16] : List Nat).elem i = false → w2 i = w0 i := fun i hi => (hag2 i (by revert hi; exact el_sub (by decide))).trans (hga i hi)
    have htx2 : tx = .ref (w2 2) := by rw [hag2 2 rfl]; exact htx
    replace hcq : (cells + (σ2.2.2 3001 - σ1.2.2 3001)) + σf.2.2 3001 ≤ mc + σ2.2.2 3001 := by have := hmn.1; have := hle.1; omega
    replace hcm : (cells + (σ2.2.2 3001 - σ1.2.2 3001)) ≤ mc := by have := hmn.1; have := hle.1; omega
    generalize cells + (σ2.2.2 3001 - σ1.2.2 3001) = cells at hcq hcm ⊢
    replace hsq : (slots + (σ2.2.2 3002 - σ1.2.2 3002)) + σf.2.2 3002 ≤ ms + σ2.2.2 3002 := by have := hmn.2; have := hle.2; omega
    replace hsm : (slots + (σ2.2.2 3002 - σ1.2.2 3002)) ≤ ms := by have := hmn.2; have := hle.2; omega
    generalize slots + (σ2.2.2 3002 - σ1.2.2 3002) = slots at hsq hsm ⊢
    refine ax_aload_n (pc := 43) C d_Par_takeVariable_43 rfl 1 rfl ?_
    refine cg_31_2_Par_12 (pc := 44) C d_Par_takeVariable_44 ?_
    replace h := it_b h
    obtain ⟨σ3, r3, d1_3, d2_3, h1, h, hd2, hd1⟩ := h
    replace hle := hG _ _ _ _ (by decide) h1
    dsimp only at hle
    replace hmn : gle σ3 σf := gm_use h gm_some
    replace hm : sC_Wds_advance l D kA u w2 tx σ2 [] (σ3, r3, d1_3) := ihC _ _ tC_Wds_advance _ _ _ h1
    refine cc_Vv (pc := 47) C (σ2 := σ3) (As := []) (rest := []) (hm rfl htx2) ml_Par_89 32 rfl rfl rfl d_Par_takeVariable_47 rfl rfl (by dsimp only; omega) (by dsimp only; omega) hcm hsm (Nat.le_of_ble_eq_true rfl) ?_
    replace hcq : cells + σf.2.2 3001 ≤ mc + σ3.2.2 3001 := by have := hle.1; omega
    replace hsq : slots + σf.2.2 3002 ≤ ms + σ3.2.2 3002 := by have := hle.2; omega
    replace hF : d2_3 + 3 ≤ F := by omega
    replace hLo : 48 * d2_3 + 144 ≤ Lo := by omega
    cases h
    exact ax_vret (pc := 50) C d_Par_takeVariable_50 ⟨w2, tx, hga2, rfl, rfl⟩ hcm hsm
  · replace h := it_t hc h
    refine ax_aload_n (pc := 17) C d_Par_takeVariable_17 rfl 1 rfl ?_
    refine ax_iconst (pc := 18) C 3 d_Par_takeVariable_18 (by decide +kernel) ?_
    refine ax_aload_n (pc := 19) C d_Par_takeVariable_19 rfl 1 rfl ?_
    refine cg_31_2_Par_12 (pc := 20) C d_Par_takeVariable_20 ?_
    refine cg_32_3_Par_77 (pc := 23) C d_Par_takeVariable_23 ?_
    replace h := it_b h
    obtain ⟨σ4, r4, d1_4, d2_4, h1, h, hd2, hd1⟩ := h
    replace hle := hG _ _ _ _ (by decide) h1
    dsimp only at hle
    replace hmn : gle σ4 σf := gm_use h gm_some
    replace hm : sC_Par_fail l D kA u w tx σ1 [3, (σ1.1 3203)] (σ4, r4, d1_4) := ihC _ _ tC_Par_fail _ _ _ h1
    refine cc_Vv (pc := 26) C (σ2 := σ4) (As := [.int 3, .int (σ1.1 3203)]) (rest := []) (hm _ _ rfl) ml_Par_96 31 rfl rfl rfl d_Par_takeVariable_26 rfl rfl (by dsimp only; omega) (by dsimp only; omega) hcm hsm (Nat.le_of_ble_eq_true rfl) ?_
    replace hcq : cells + σf.2.2 3001 ≤ mc + σ4.2.2 3001 := by have := hle.1; omega
    replace hsq : slots + σf.2.2 3002 ≤ ms + σ4.2.2 3002 := by have := hle.2; omega
    replace hF : d2_4 + 3 ≤ F := by omega
    replace hLo : 48 * d2_4 + 144 ≤ Lo := by omega
    cases h
    exact ax_vret (pc := 29) C d_Par_takeVariable_29 ⟨w, tx, hga, rfl, rfl⟩ hcm hsm
set_option maxHeartbeats 4000000 in
set_option maxRecDepth 100000 in
theorem oG_Sat_factor (l : Launch) (D : va_G) (kA : Nat → ClassId) (u : Nat → Nat) (rec : mF) (hG : GM rec) (ihC : ∀ (w : Nat → Nat) (tx : Value) t σ xs res, rec t σ xs = some res → cSem l D kA u w tx t σ xs res) (ih : ∀ t σ xs res, rec t σ xs = some res → gSem l D kA u t σ xs res) (σ : mS) (xs : List Int32) (res : mR) (h : u_1 (kG_Sat_factor rec σ) xs = some res) : sG_Sat_factor l D kA u σ xs res := by
  intro x0 hxs w tx
  subst hxs
  obtain ⟨σf, rf, dd⟩ := res
  have hmn : gle σ σf := qG_Sat_factor rec hG σ x0 _ h
  have h : (bnd (rec tC_Sto_fact σ [x0, 3]) (fun σ1 r1 => rec tG_Sat_factor_p12 σ1 [x0, r1, 0])) = some (σf, rf, dd) := h
  refine ax_Mv.of (by decide +kernel) (Nat.le_of_ble_eq_true rfl) ?_
  intro p e s m args below meth c C hnm
  replace C : ax_C p s m args meth c b_Sat_factor "ClauseProver$Saturation" 6 none D kA (va_A (cpW kA u w tx σ) s.heap.size) := C
  obtain ⟨F, hFe⟩ : ∃ z, z = dd + 3 := ⟨_, rfl⟩
  obtain ⟨Lo, hLoe⟩ : ∃ z, z = 48 * dd + 144 := ⟨_, rfl⟩
  obtain ⟨mc, hmce⟩ : ∃ z, z = σf.2.2 3001 - σ.2.2 3001 := ⟨_, rfl⟩
  obtain ⟨ms, hmse⟩ : ∃ z, z = σf.2.2 3002 - σ.2.2 3002 := ⟨_, rfl⟩
  obtain ⟨σ0, hσ0e⟩ : ∃ z, z = σ := ⟨_, rfl⟩
  obtain ⟨w0, hw0e⟩ : ∃ z, z = w := ⟨_, rfl⟩
  obtain ⟨tx0, htx0e⟩ : ∃ z, z = tx := ⟨_, rfl⟩
  suffices K : ∀ (cells slots : Nat), cells = 0 → slots = 0 → AW p l e { frames := F, cells := mc, slots := ms, locals := Lo } s m args below meth c D kA (va_A (cpW kA u w0 tx0 σ0) s.heap.size) 6 (ax_Qv below args s D kA (cpW kA u w0 tx0 σ0) mc ms (fun w1 => ∃ (w2 : Nat → Nat) (tx2 : Value), (∀ i, ([48, 52, 65] : List Nat).elem i = false → w2 i = w0 i) ∧ tx2 = tx0 ∧ w1 = cpW kA u w2 tx2 σf)) 0 [(0, .ref (u 53)), (1, .int x0)] [] (cpW kA u w tx σ) cells slots by
    have K := K 0 0 rfl rfl
    rw [hFe, hLoe, hmce, hmse, hσ0e, hw0e, htx0e] at K
    exact ax_ls ([(0, .ref (u 53)), (1, .int x0)]) [0, 1] rfl K
  replace C : ax_C p s m args meth c b_Sat_factor "ClauseProver$Saturation" 6 none D kA (va_A (cpW kA u w0 tx0 σ0) s.heap.size) := by rw [hσ0e, hw0e, htx0e]; exact C
  intro cells slots hc0 hs0
  have hcq : cells + σf.2.2 3001 ≤ mc + σ.2.2 3001 := by have := hmn.1; omega
  have hsq : slots + σf.2.2 3002 ≤ ms + σ.2.2 3002 := by have := hmn.2; omega
  have hga : ∀ i, ([48, 52, 65] : List Nat).elem i = false → w i = w0 i := fun i _ => by rw [hw0e]
  have e9 : tx = tx0 := htx0e.symm
  subst e9
  have hF : dd + 3 ≤ F := by omega
  have hLo : 48 * dd + 144 ≤ Lo := by omega
  have hcm : cells ≤ mc := by have := hmn.1; omega
  have hsm : slots ≤ ms := by have := hmn.2; omega
  have hle : True := trivial
  have hm : True := trivial
  refine ax_aload_n (pc := 0) C d_Sat_factor_0 rfl 0 rfl ?_
  refine cg_53_9_Sat_27 (pc := 1) C d_Sat_factor_1 ?_
  refine ax_iload_n (pc := 4) C d_Sat_factor_4 rfl 1 rfl ?_
  refine ax_iconst (pc := 5) C 3 d_Sat_factor_5 (by decide +kernel) ?_
  replace h := it_b h
  obtain ⟨σ1, r1, d1_1, d2_1, h1, h, hd2, hd1⟩ := h
  replace hle := hG _ _ _ _ (by decide) h1
  dsimp only at hle
  replace hmn : gle σ1 σf := gm_use h (gm_tail hG (Nat.le_of_ble_eq_true rfl))
  replace hm : sC_Sto_fact l D kA u w tx σ [x0, 3] (σ1, r1, d1_1) := ihC _ _ tC_Sto_fact _ _ _ h1
  refine cc_Vi (pc := 6) C (r0 := r1) (σ2 := σ1) (As := [.int x0, .int 3]) (rest := []) (hm _ _ rfl) ml_Sat_91 54 rfl rfl rfl d_Sat_factor_6 rfl rfl (by dsimp only; omega) (by dsimp only; omega) hcm hsm (Nat.le_of_ble_eq_true rfl) ?_
  replace hcq : cells + σf.2.2 3001 ≤ mc + σ1.2.2 3001 := by have := hle.1; omega
  replace hsq : slots + σf.2.2 3002 ≤ ms + σ1.2.2 3002 := by have := hle.2; omega
  replace hF : d2_1 + 3 ≤ F := by omega
  replace hLo : 48 * d2_1 + 144 ≤ Lo := by omega
  refine ax_istore_n (pc := 9) C d_Sat_factor_9 rfl (Nat.le_of_ble_eq_true rfl) ([(2, .int r1), (0, .ref (u 53)), (1, .int x0)]) rfl ?_
  refine ax_iconst (pc := 10) C 0 d_Sat_factor_10 (by decide +kernel) ?_
  refine ax_istore_n (pc := 11) C d_Sat_factor_11 rfl (Nat.le_of_ble_eq_true rfl) ([(3, .int 0), (2, .int r1), (0, .ref (u 53)), (1, .int x0)]) rfl ?_
  refine ax_ls ([(0, .ref (u 53)), (1, .int x0), (2, .int r1), (3, .int 0)]) [2, 3, 1, 0] rfl ?_
  replace hm : sG_Sat_factor_p12 l D kA u σ1 [x0, r1, 0] (σf, rf, _) := ih tG_Sat_factor_p12 _ _ _ h
  exact hm _ _ _ rfl w tx p e s m args below meth c F Lo mc ms cells slots σ0 w0 tx hF hLo hcq hsq hga C
set_option maxHeartbeats 4000000 in
set_option maxRecDepth 100000 in
theorem oG_Sat_factor_p12 (l : Launch) (D : va_G) (kA : Nat → ClassId) (u : Nat → Nat) (rec : mF) (hG : GM rec) (ihC : ∀ (w : Nat → Nat) (tx : Value) t σ xs res, rec t σ xs = some res → cSem l D kA u w tx t σ xs res) (ih : ∀ t σ xs res, rec t σ xs = some res → gSem l D kA u t σ xs res) (σ : mS) (xs : List Int32) (res : mR) (h : u_3 (kG_Sat_factor_p12 rec σ) xs = some res) : sG_Sat_factor_p12 l D kA u σ xs res := by
  intro x0 x1 x2 hxs w tx
  subst hxs
  obtain ⟨σf, rf, dd⟩ := res
  have hmn : gle σ σf := qG_Sat_factor_p12 rec hG σ x0 x1 x2 _ h
  have h : (if x1 ≤ x2 then (some (σ, 0, 0)) else (bnd (rec tC_Sto_headOf σ [x0, x2]) (fun σ1 r1 => rec tG_Sat_factor_p31 σ1 [x0, x1, x2, r1, 0]))) = some (σf, rf, dd) := h
  intro p e s m args below meth c F Lo mc ms cells slots σ0 w0 tx0 hF hLo hcq hsq hga C
  dsimp only at hF hLo hcq hsq ⊢
  have hcm : cells ≤ mc := by have := hmn.1; omega
  have hsm : slots ≤ ms := by have := hmn.2; omega
  have hle : True := trivial
  have hm : True := trivial
  refine ax_iload_n (pc := 12) C d_Sat_factor_12 rfl 3 rfl ?_
  refine ax_iload_n (pc := 13) C d_Sat_factor_13 rfl 2 rfl ?_
  refine ax_icmp_ge (pc := 14) C 84 d_Sat_factor_14 (by decide) (fun hc => ?_) (fun hc => ?_)
  · replace h := it_t hc h
    cases h
    exact ax_vret (pc := 84) C d_Sat_factor_84 ⟨w, tx, hga, rfl, rfl⟩ hcm hsm
  · replace h := it_f hc h
    refine ax_aload_n (pc := 17) C d_Sat_factor_17 rfl 0 rfl ?_
    refine cg_53_9_Sat_27 (pc := 18) C d_Sat_factor_18 ?_
    refine ax_iload_n (pc := 21) C d_Sat_factor_21 rfl 1 rfl ?_
    refine ax_iload_n (pc := 22) C d_Sat_factor_22 rfl 3 rfl ?_
    replace h := it_b h
    obtain ⟨σ1, r1, d1_1, d2_1, h1, h, hd2, hd1⟩ := h
    replace hle := hG _ _ _ _ (by decide) h1
    dsimp only at hle
    replace hmn : gle σ1 σf := gm_use h (gm_tail hG (Nat.le_of_ble_eq_true rfl))
    replace hm : sC_Sto_headOf l D kA u w tx σ [x0, x2] (σ1, r1, d1_1) := ihC _ _ tC_Sto_headOf _ _ _ h1
    refine cc_Vi (pc := 23) C (r0 := r1) (σ2 := σ1) (As := [.int x0, .int x2]) (rest := []) (hm _ _ rfl) ml_Sat_187 54 rfl rfl rfl d_Sat_factor_23 rfl rfl (by dsimp only; omega) (by dsimp only; omega) hcm hsm (Nat.le_of_ble_eq_true rfl) ?_
    replace hcq : cells + σf.2.2 3001 ≤ mc + σ1.2.2 3001 := by have := hle.1; omega
    replace hsq : slots + σf.2.2 3002 ≤ ms + σ1.2.2 3002 := by have := hle.2; omega
    replace hF : d2_1 + 3 ≤ F := by omega
    replace hLo : 48 * d2_1 + 144 ≤ Lo := by omega
    refine ax_istore (pc := 26) C d_Sat_factor_26 (Nat.le_of_ble_eq_true rfl) ([(4, .int r1), (0, .ref (u 53)), (1, .int x0), (2, .int x1), (3, .int x2)]) rfl ?_
    refine ax_iconst (pc := 28) C 0 d_Sat_factor_28 (by decide +kernel) ?_
    refine ax_istore (pc := 29) C d_Sat_factor_29 (Nat.le_of_ble_eq_true rfl) ([(5, .int 0), (4, .int r1), (0, .ref (u 53)), (1, .int x0), (2, .int x1), (3, .int x2)]) rfl ?_
    refine ax_ls ([(0, .ref (u 53)), (1, .int x0), (2, .int x1), (3, .int x2), (4, .int r1), (5, .int 0)]) [2, 3, 4, 5, 1, 0] rfl ?_
    replace hm : sG_Sat_factor_p31 l D kA u σ1 [x0, x1, x2, r1, 0] (σf, rf, _) := ih tG_Sat_factor_p31 _ _ _ h
    exact hm _ _ _ _ _ rfl w tx p e s m args below meth c F Lo mc ms cells slots σ0 w0 tx0 hF hLo hcq hsq hga C
set_option maxHeartbeats 4000000 in
set_option maxRecDepth 100000 in
theorem oG_Sat_factor_p31 (l : Launch) (D : va_G) (kA : Nat → ClassId) (u : Nat → Nat) (rec : mF) (hG : GM rec) (ihC : ∀ (w : Nat → Nat) (tx : Value) t σ xs res, rec t σ xs = some res → cSem l D kA u w tx t σ xs res) (ih : ∀ t σ xs res, rec t σ xs = some res → gSem l D kA u t σ xs res) (σ : mS) (xs : List Int32) (res : mR) (h : u_5 (kG_Sat_factor_p31 rec σ) xs = some res) : sG_Sat_factor_p31 l D kA u σ xs res := by
  intro x0 x1 x2 x3 x4 hxs w tx
  subst hxs
  obtain ⟨σf, rf, dd⟩ := res
  have hmn : gle σ σf := qG_Sat_factor_p31 rec hG σ x0 x1 x2 x3 x4 _ h
  have h : (if x1 ≤ x4 then (rec tG_Sat_factor_p78 σ [x0, x1, x2, x3, x4]) else (bnd (rec tC_Sto_isEligible σ [x3]) (fun σ1 r1 => if r1 = 0 then (rec tG_Sat_factor_p78 σ1 [x0, x1, x2, x3, x4]) else (if x2 = x4 then (rec tG_Sat_factor_p72 σ1 [x0, x1, x2, x3, x4]) else (bnd (rec tC_Sto_headOf σ1 [x0, x4]) (fun σ2 r2 => bnd (rec tG_Sat_factorTwo σ2 [x0, x3, r2]) (fun σ3 r3 => rec tG_Sat_factor_p72 σ3 [x0, x1, x2, x3, x4]))))))) = some (σf, rf, dd) := h
  intro p e s m args below meth c F Lo mc ms cells slots σ0 w0 tx0 hF hLo hcq hsq hga C
  dsimp only at hF hLo hcq hsq ⊢
  have hcm : cells ≤ mc := by have := hmn.1; omega
  have hsm : slots ≤ ms := by have := hmn.2; omega
  have hle : True := trivial
  have hm : True := trivial
  refine ax_iload (pc := 31) C d_Sat_factor_31 5 rfl ?_
  refine ax_iload_n (pc := 33) C d_Sat_factor_33 rfl 2 rfl ?_
  refine ax_icmp_ge (pc := 34) C 78 d_Sat_factor_34 (by decide) (fun hc => ?_) (fun hc => ?_)
  · replace h := it_t hc h
    refine ax_ls ([(0, .ref (u 53)), (1, .int x0), (2, .int x1), (3, .int x2), (4, .int x3), (5, .int x4)]) [0, 1, 2, 3, 4, 5] rfl ?_
    replace hm : sG_Sat_factor_p78 l D kA u σ [x0, x1, x2, x3, x4] (σf, rf, _) := ih tG_Sat_factor_p78 _ _ _ h
    exact hm _ _ _ _ _ rfl w tx p e s m args below meth c F Lo mc ms cells slots σ0 w0 tx0 hF hLo hcq hsq hga C
  · replace h := it_f hc h
    refine ax_aload_n (pc := 37) C d_Sat_factor_37 rfl 0 rfl ?_
    refine cg_53_9_Sat_27 (pc := 38) C d_Sat_factor_38 ?_
    refine ax_iload (pc := 41) C d_Sat_factor_41 4 rfl ?_
    replace h := it_b h
    obtain ⟨σ1, r1, d1_1, d2_1, h1, h, hd2, hd1⟩ := h
    replace hle := hG _ _ _ _ (by decide) h1
    dsimp only at hle
    replace hmn : gle σ1 σf := gm_use h (gm_if (gm_tail hG (Nat.le_of_ble_eq_true rfl)) (gm_if (gm_tail hG (Nat.le_of_ble_eq_true rfl)) (gm_bnd hG (Nat.le_of_ble_eq_true rfl) (fun _ _ => (gm_bnd hG (Nat.le_of_ble_eq_true rfl) (fun _ _ => (gm_tail hG (Nat.le_of_ble_eq_true rfl))))))))
    replace hm : sC_Sto_isEligible l D kA u w tx σ [x3] (σ1, r1, d1_1) := ihC _ _ tC_Sto_isEligible _ _ _ h1
    refine cc_Vi (pc := 43) C (r0 := r1) (σ2 := σ1) (As := [.int x3]) (rest := []) (hm _ rfl) ml_Sat_190 54 rfl rfl rfl d_Sat_factor_43 rfl rfl (by dsimp only; omega) (by dsimp only; omega) hcm hsm (Nat.le_of_ble_eq_true rfl) ?_
    replace hcq : cells + σf.2.2 3001 ≤ mc + σ1.2.2 3001 := by have := hle.1; omega
    replace hsq : slots + σf.2.2 3002 ≤ ms + σ1.2.2 3002 := by have := hle.2; omega
    replace hF : d2_1 + 3 ≤ F := by omega
    replace hLo : 48 * d2_1 + 144 ≤ Lo := by omega
    refine ax_if_eq (pc := 46) C 78 d_Sat_factor_46 (by decide) (fun hc => ?_) (fun hc => ?_)
    · replace h := it_t hc h
      refine ax_ls ([(0, .ref (u 53)), (1, .int x0), (2, .int x1), (3, .int x2), (4, .int x3), (5, .int x4)]) [0, 1, 2, 3, 4, 5] rfl ?_
      replace hm : sG_Sat_factor_p78 l D kA u σ1 [x0, x1, x2, x3, x4] (σf, rf, _) := ih tG_Sat_factor_p78 _ _ _ h
      exact hm _ _ _ _ _ rfl w tx p e s m args below meth c F Lo mc ms cells slots σ0 w0 tx0 hF hLo hcq hsq hga C
    · replace h := it_f hc h
      refine ax_iload_n (pc := 49) C d_Sat_factor_49 rfl 3 rfl ?_
      refine ax_iload (pc := 50) C d_Sat_factor_50 5 rfl ?_
      refine ax_icmp_eq (pc := 52) C 72 d_Sat_factor_52 (by decide) (fun hc => ?_) (fun hc => ?_)
      · replace h := it_t hc h
        refine ax_ls ([(0, .ref (u 53)), (1, .int x0), (2, .int x1), (3, .int x2), (4, .int x3), (5, .int x4)]) [0, 1, 2, 3, 4, 5] rfl ?_
        replace hm : sG_Sat_factor_p72 l D kA u σ1 [x0, x1, x2, x3, x4] (σf, rf, _) := ih tG_Sat_factor_p72 _ _ _ h
        exact hm _ _ _ _ _ rfl w tx p e s m args below meth c F Lo mc ms cells slots σ0 w0 tx0 hF hLo hcq hsq hga C
      · replace h := it_f hc h
        refine ax_aload_n (pc := 55) C d_Sat_factor_55 rfl 0 rfl ?_
        refine ax_iload_n (pc := 56) C d_Sat_factor_56 rfl 1 rfl ?_
        refine ax_iload (pc := 57) C d_Sat_factor_57 4 rfl ?_
        refine ax_aload_n (pc := 59) C d_Sat_factor_59 rfl 0 rfl ?_
        refine cg_53_9_Sat_27 (pc := 60) C d_Sat_factor_60 ?_
        refine ax_iload_n (pc := 63) C d_Sat_factor_63 rfl 1 rfl ?_
        refine ax_iload (pc := 64) C d_Sat_factor_64 5 rfl ?_
        replace h := it_b h
        obtain ⟨σ2, r2, d1_2, d2_2, h1, h, hd2, hd1⟩ := h
        replace hle := hG _ _ _ _ (by decide) h1
        dsimp only at hle
        replace hmn : gle σ2 σf := gm_use h (gm_bnd hG (Nat.le_of_ble_eq_true rfl) (fun _ _ => (gm_tail hG (Nat.le_of_ble_eq_true rfl))))
        replace hm : sC_Sto_headOf l D kA u w tx σ1 [x0, x4] (σ2, r2, d1_2) := ihC _ _ tC_Sto_headOf _ _ _ h1
        refine cc_Vi (pc := 66) C (r0 := r2) (σ2 := σ2) (As := [.int x0, .int x4]) (rest := [.int x3, .int x0, .ref (u 53)]) (hm _ _ rfl) ml_Sat_187 54 rfl rfl rfl d_Sat_factor_66 rfl rfl (by dsimp only; omega) (by dsimp only; omega) hcm hsm (Nat.le_of_ble_eq_true rfl) ?_
        replace hcq : cells + σf.2.2 3001 ≤ mc + σ2.2.2 3001 := by have := hle.1; omega
        replace hsq : slots + σf.2.2 3002 ≤ ms + σ2.2.2 3002 := by have := hle.2; omega
        replace hF : d2_2 + 3 ≤ F := by omega
        replace hLo : 48 * d2_2 + 144 ≤ Lo := by omega
        replace h := it_b h
        obtain ⟨σ3, r3, d1_3, d2_3, h1, h, hd2, hd1⟩ := h
        replace hle := hG _ _ _ _ (by decide) h1
        dsimp only at hle
        replace hmn : gle σ3 σf := gm_use h (gm_tail hG (Nat.le_of_ble_eq_true rfl))
        replace hm : sG_Sat_factorTwo l D kA u σ2 [x0, x3, r2] (σ3, r3, d1_3) := ih tG_Sat_factorTwo _ _ _ h1
        refine gc_Vv (pc := 69) C (As := [.int x0, .int x3, .int r2]) (rest := []) (hm _ _ _ rfl w tx) ml_Sat_256 53 rfl rfl rfl d_Sat_factor_69 rfl rfl (by dsimp only; omega) (by dsimp only; omega) (by have := hmn.1; have := hle.1; dsimp only; omega) (by have := hmn.2; have := hle.2; dsimp only; omega) (Nat.le_of_ble_eq_true rfl) (fun w1 hw => ?_)
        obtain ⟨w3, tx3, hag3, htq3, hwq3⟩ := hw
        dsimp only at hwq3
        subst hwq3
        dsimp only
        replace htq3 := htq3.symm
        subst htq3
        have hga3 : ∀ i, ([48, 52, 65] : List Nat).elem i = false → w3 i = w0 i := fun i hi => (hag3 i (by revert hi; exact el_sub (by decide))).trans (hga i hi)
        replace hcq : (cells + (σ3.2.2 3001 - σ2.2.2 3001)) + σf.2.2 3001 ≤ mc + σ3.2.2 3001 := by have := hmn.1; have := hle.1; omega
        replace hcm : (cells + (σ3.2.2 3001 - σ2.2.2 3001)) ≤ mc := by have := hmn.1; have := hle.1; omega
        generalize cells + (σ3.2.2 3001 - σ2.2.2 3001) = cells at hcq hcm ⊢
        replace hsq : (slots + (σ3.2.2 3002 - σ2.2.2 3002)) + σf.2.2 3002 ≤ ms + σ3.2.2 3002 := by have := hmn.2; have := hle.2; omega
        replace hsm : (slots + (σ3.2.2 3002 - σ2.2.2 3002)) ≤ ms := by have := hmn.2; have := hle.2; omega
        generalize slots + (σ3.2.2 3002 - σ2.2.2 3002) = slots at hsq hsm ⊢
        replace hF : d2_3 + 3 ≤ F := by omega
        replace hLo : 48 * d2_3 + 144 ≤ Lo := by omega
        refine ax_ls ([(0, .ref (u 53)), (1, .int x0), (2, .int x1), (3, .int x2), (4, .int x3), (5, .int x4)]) [0, 1, 2, 3, 4, 5] rfl ?_
        replace hm : sG_Sat_factor_p72 l D kA u σ3 [x0, x1, x2, x3, x4] (σf, rf, _) := ih tG_Sat_factor_p72 _ _ _ h
        exact hm _ _ _ _ _ rfl w3 tx p e s m args below meth c F Lo mc ms cells slots σ0 w0 tx0 hF hLo hcq hsq hga3 C
set_option maxHeartbeats 4000000 in
set_option maxRecDepth 100000 in
theorem oG_Sat_factor_p72 (l : Launch) (D : va_G) (kA : Nat → ClassId) (u : Nat → Nat) (rec : mF) (hG : GM rec) (ihC : ∀ (w : Nat → Nat) (tx : Value) t σ xs res, rec t σ xs = some res → cSem l D kA u w tx t σ xs res) (ih : ∀ t σ xs res, rec t σ xs = some res → gSem l D kA u t σ xs res) (σ : mS) (xs : List Int32) (res : mR) (h : u_5 (kG_Sat_factor_p72 rec σ) xs = some res) : sG_Sat_factor_p72 l D kA u σ xs res := by
  intro x0 x1 x2 x3 x4 hxs w tx
  subst hxs
  obtain ⟨σf, rf, dd⟩ := res
  have hmn : gle σ σf := qG_Sat_factor_p72 rec hG σ x0 x1 x2 x3 x4 _ h
  have h : (rec tG_Sat_factor_p31 σ [x0, x1, x2, x3, (x4 + 1)]) = some (σf, rf, dd) := h
  intro p e s m args below meth c F Lo mc ms cells slots σ0 w0 tx0 hF hLo hcq hsq hga C
  dsimp only at hF hLo hcq hsq ⊢
  have hcm : cells ≤ mc := by have := hmn.1; omega
  have hsm : slots ≤ ms := by have := hmn.2; omega
  have hle : True := trivial
  have hm : True := trivial
  refine ax_iinc (pc := 72) C (x4 + 1) d_Sat_factor_72 5 rfl rfl (Nat.le_of_ble_eq_true rfl) ([(5, .int (x4 + 1)), (0, .ref (u 53)), (1, .int x0), (2, .int x1), (3, .int x2), (4, .int x3)]) rfl ?_
  refine ax_goto (pc := 75) C 31 d_Sat_factor_75 (by decide) ?_
  refine ax_ls ([(0, .ref (u 53)), (1, .int x0), (2, .int x1), (3, .int x2), (4, .int x3), (5, .int (x4 + 1))]) [1, 2, 3, 4, 5, 0] rfl ?_
  replace hm : sG_Sat_factor_p31 l D kA u σ [x0, x1, x2, x3, (x4 + 1)] (σf, rf, _) := ih tG_Sat_factor_p31 _ _ _ h
  exact hm _ _ _ _ _ rfl w tx p e s m args below meth c F Lo mc ms cells slots σ0 w0 tx0 hF hLo hcq hsq hga C
set_option maxHeartbeats 4000000 in
set_option maxRecDepth 100000 in
theorem oG_Sat_factor_p78 (l : Launch) (D : va_G) (kA : Nat → ClassId) (u : Nat → Nat) (rec : mF) (hG : GM rec) (ihC : ∀ (w : Nat → Nat) (tx : Value) t σ xs res, rec t σ xs = some res → cSem l D kA u w tx t σ xs res) (ih : ∀ t σ xs res, rec t σ xs = some res → gSem l D kA u t σ xs res) (σ : mS) (xs : List Int32) (res : mR) (h : u_5 (kG_Sat_factor_p78 rec σ) xs = some res) : sG_Sat_factor_p78 l D kA u σ xs res := by
  intro x0 x1 x2 x3 x4 hxs w tx
  subst hxs
  obtain ⟨σf, rf, dd⟩ := res
  have hmn : gle σ σf := qG_Sat_factor_p78 rec hG σ x0 x1 x2 x3 x4 _ h
  have h : (rec tG_Sat_factor_p12 σ [x0, x1, (x2 + 1)]) = some (σf, rf, dd) := h
  intro p e s m args below meth c F Lo mc ms cells slots σ0 w0 tx0 hF hLo hcq hsq hga C
  dsimp only at hF hLo hcq hsq ⊢
  have hcm : cells ≤ mc := by have := hmn.1; omega
  have hsm : slots ≤ ms := by have := hmn.2; omega
  have hle : True := trivial
  have hm : True := trivial
  refine ax_iinc (pc := 78) C (x2 + 1) d_Sat_factor_78 3 rfl rfl (Nat.le_of_ble_eq_true rfl) ([(3, .int (x2 + 1)), (0, .ref (u 53)), (1, .int x0), (2, .int x1), (4, .int x3), (5, .int x4)]) rfl ?_
  refine ax_goto (pc := 81) C 12 d_Sat_factor_81 (by decide) ?_
  refine ax_ls ([(0, .ref (u 53)), (1, .int x0), (2, .int x1), (3, .int (x2 + 1))]) [1, 2, 3, 0] rfl ?_
  replace hm : sG_Sat_factor_p12 l D kA u σ [x0, x1, (x2 + 1)] (σf, rf, _) := ih tG_Sat_factor_p12 _ _ _ h
  exact hm _ _ _ rfl w tx p e s m args below meth c F Lo mc ms cells slots σ0 w0 tx0 hF hLo hcq hsq hga C
set_option maxHeartbeats 4000000 in
set_option maxRecDepth 100000 in
theorem oG_Sat_factorTwo (l : Launch) (D : va_G) (kA : Nat → ClassId) (u : Nat → Nat) (rec : mF) (hG : GM rec) (ihC : ∀ (w : Nat → Nat) (tx : Value) t σ xs res, rec t σ xs = some res → cSem l D kA u w tx t σ xs res) (ih : ∀ t σ xs res, rec t σ xs = some res → gSem l D kA u t σ xs res) (σ : mS) (xs : List Int32) (res : mR) (h : u_3 (kG_Sat_factorTwo rec σ) xs = some res) : sG_Sat_factorTwo l D kA u σ xs res := by
  intro x0 x1 x2 hxs w tx
  subst hxs
  obtain ⟨σf, rf, dd⟩ := res
  have hmn : gle σ σf := qG_Sat_factorTwo rec hG σ x0 x1 x2 _ h
  have h : (bnd (rec tC_Sto_fact σ [x0, 8]) (fun σ1 r1 => rec tG_Sat_factorTwo_p15 σ1 [x0, x1, x2, r1, 0])) = some (σf, rf, dd) := h
  refine ax_Mv.of (by decide +kernel) (Nat.le_of_ble_eq_true rfl) ?_
  intro p e s m args below meth c C hnm
  replace C : ax_C p s m args meth c b_Sat_factorTwo "ClauseProver$Saturation" 8 none D kA (va_A (cpW kA u w tx σ) s.heap.size) := C
  obtain ⟨F, hFe⟩ : ∃ z, z = dd + 3 := ⟨_, rfl⟩
  obtain ⟨Lo, hLoe⟩ : ∃ z, z = 48 * dd + 144 := ⟨_, rfl⟩
  obtain ⟨mc, hmce⟩ : ∃ z, z = σf.2.2 3001 - σ.2.2 3001 := ⟨_, rfl⟩
  obtain ⟨ms, hmse⟩ : ∃ z, z = σf.2.2 3002 - σ.2.2 3002 := ⟨_, rfl⟩
  obtain ⟨σ0, hσ0e⟩ : ∃ z, z = σ := ⟨_, rfl⟩
  obtain ⟨w0, hw0e⟩ : ∃ z, z = w := ⟨_, rfl⟩
  obtain ⟨tx0, htx0e⟩ : ∃ z, z = tx := ⟨_, rfl⟩
  suffices K : ∀ (cells slots : Nat), cells = 0 → slots = 0 → AW p l e { frames := F, cells := mc, slots := ms, locals := Lo } s m args below meth c D kA (va_A (cpW kA u w0 tx0 σ0) s.heap.size) 8 (ax_Qv below args s D kA (cpW kA u w0 tx0 σ0) mc ms (fun w1 => ∃ (w2 : Nat → Nat) (tx2 : Value), (∀ i, ([48, 52, 65] : List Nat).elem i = false → w2 i = w0 i) ∧ tx2 = tx0 ∧ w1 = cpW kA u w2 tx2 σf)) 0 [(0, .ref (u 53)), (1, .int x0), (2, .int x1), (3, .int x2)] [] (cpW kA u w tx σ) cells slots by
    have K := K 0 0 rfl rfl
    rw [hFe, hLoe, hmce, hmse, hσ0e, hw0e, htx0e] at K
    exact ax_ls ([(0, .ref (u 53)), (1, .int x0), (2, .int x1), (3, .int x2)]) [0, 1, 2, 3] rfl K
  replace C : ax_C p s m args meth c b_Sat_factorTwo "ClauseProver$Saturation" 8 none D kA (va_A (cpW kA u w0 tx0 σ0) s.heap.size) := by rw [hσ0e, hw0e, htx0e]; exact C
  intro cells slots hc0 hs0
  have hcq : cells + σf.2.2 3001 ≤ mc + σ.2.2 3001 := by have := hmn.1; omega
  have hsq : slots + σf.2.2 3002 ≤ ms + σ.2.2 3002 := by have := hmn.2; omega
  have hga : ∀ i, ([48, 52, 65] : List Nat).elem i = false → w i = w0 i := fun i _ => by rw [hw0e]
  have e9 : tx = tx0 := htx0e.symm
  subst e9
  have hF : dd + 3 ≤ F := by omega
  have hLo : 48 * dd + 144 ≤ Lo := by omega
  have hcm : cells ≤ mc := by have := hmn.1; omega
  have hsm : slots ≤ ms := by have := hmn.2; omega
  have hle : True := trivial
  have hm : True := trivial
  refine ax_aload_n (pc := 0) C d_Sat_factorTwo_0 rfl 0 rfl ?_
  refine cg_53_9_Sat_27 (pc := 1) C d_Sat_factorTwo_1 ?_
  refine ax_iload_n (pc := 4) C d_Sat_factorTwo_4 rfl 1 rfl ?_
  refine ax_bipush (pc := 5) C 8 d_Sat_factorTwo_5 (by decide +kernel) ?_
  replace h := it_b h
  obtain ⟨σ1, r1, d1_1, d2_1, h1, h, hd2, hd1⟩ := h
  replace hle := hG _ _ _ _ (by decide) h1
  dsimp only at hle
  replace hmn : gle σ1 σf := gm_use h (gm_tail hG (Nat.le_of_ble_eq_true rfl))
  replace hm : sC_Sto_fact l D kA u w tx σ [x0, 8] (σ1, r1, d1_1) := ihC _ _ tC_Sto_fact _ _ _ h1
  refine cc_Vi (pc := 7) C (r0 := r1) (σ2 := σ1) (As := [.int x0, .int 8]) (rest := []) (hm _ _ rfl) ml_Sat_91 54 rfl rfl rfl d_Sat_factorTwo_7 rfl rfl (by dsimp only; omega) (by dsimp only; omega) hcm hsm (Nat.le_of_ble_eq_true rfl) ?_
  replace hcq : cells + σf.2.2 3001 ≤ mc + σ1.2.2 3001 := by have := hle.1; omega
  replace hsq : slots + σf.2.2 3002 ≤ ms + σ1.2.2 3002 := by have := hle.2; omega
  replace hF : d2_1 + 3 ≤ F := by omega
  replace hLo : 48 * d2_1 + 144 ≤ Lo := by omega
  refine ax_istore (pc := 10) C d_Sat_factorTwo_10 (Nat.le_of_ble_eq_true rfl) ([(4, .int r1), (0, .ref (u 53)), (1, .int x0), (2, .int x1), (3, .int x2)]) rfl ?_
  refine ax_iconst (pc := 12) C 0 d_Sat_factorTwo_12 (by decide +kernel) ?_
  refine ax_istore (pc := 13) C d_Sat_factorTwo_13 (Nat.le_of_ble_eq_true rfl) ([(5, .int 0), (4, .int r1), (0, .ref (u 53)), (1, .int x0), (2, .int x1), (3, .int x2)]) rfl ?_
  refine ax_ls ([(0, .ref (u 53)), (1, .int x0), (2, .int x1), (3, .int x2), (4, .int r1), (5, .int 0)]) [2, 3, 4, 5, 1, 0] rfl ?_
  replace hm : sG_Sat_factorTwo_p15 l D kA u σ1 [x0, x1, x2, r1, 0] (σf, rf, _) := ih tG_Sat_factorTwo_p15 _ _ _ h
  exact hm _ _ _ _ _ rfl w tx p e s m args below meth c F Lo mc ms cells slots σ0 w0 tx hF hLo hcq hsq hga C
set_option maxHeartbeats 4000000 in
set_option maxRecDepth 100000 in
theorem oG_Sat_factorTwo_p15 (l : Launch) (D : va_G) (kA : Nat → ClassId) (u : Nat → Nat) (rec : mF) (hG : GM rec) (ihC : ∀ (w : Nat → Nat) (tx : Value) t σ xs res, rec t σ xs = some res → cSem l D kA u w tx t σ xs res) (ih : ∀ t σ xs res, rec t σ xs = some res → gSem l D kA u t σ xs res) (σ : mS) (xs : List Int32) (res : mR) (h : u_5 (kG_Sat_factorTwo_p15 rec σ) xs = some res) : sG_Sat_factorTwo_p15 l D kA u σ xs res := by
  intro x0 x1 x2 x3 x4 hxs w tx
  subst hxs
  obtain ⟨σf, rf, dd⟩ := res
  have hmn : gle σ σf := qG_Sat_factorTwo_p15 rec hG σ x0 x1 x2 x3 x4 _ h
  have h : (if 4 ≤ x4 then (rec tG_Sat_factorTwo_p156 σ [x0, x1, x2, x3, x4]) else (if (σ.1 5300) = 0 then (bnd (rec tC_Sto_isUsable σ [x1, ((x4 : Int32) >>> (1 &&& 31))]) (fun σ1 r1 => if r1 = 0 then (rec tG_Sat_factorTwo_p150 σ1 [x0, x1, x2, x3, x4, ((x4 : Int32) >>> (1 &&& 31)), ((x4 : Int32) &&& 1)]) else (bnd (rec tC_Uni_clear σ1 [x3, x3]) (fun σ2 r2 => bnd (rec tC_Sto_sideAt σ2 [x1, ((x4 : Int32) >>> (1 &&& 31))]) (fun σ3 r3 => bnd (rec tC_Sto_sideAt σ3 [x2, ((x4 : Int32) &&& 1)]) (fun σ4 r4 => bnd (rec tG_Uni_unite σ4 [r3, 0, r4, 0, 0]) (fun σ5 r5 => if r5 = 0 then (rec tG_Sat_factorTwo_p150 σ5 [x0, x1, x2, x3, x4, ((x4 : Int32) >>> (1 &&& 31)), ((x4 : Int32) &&& 1)]) else (bnd (rec tC_Dra_clear σ5 []) (fun σ6 r6 => bnd (rec tC_Sat_writeOthers σ6 [x0, x1, x2, 0]) (fun σ7 r7 => bnd (rec tC_Sat_writePair σ7 [0, x1, ((1 : Int32) - ((x4 : Int32) >>> (1 &&& 31))), x2, ((1 : Int32) - ((x4 : Int32) &&& 1))]) (fun σ8 r8 => bnd (rec tC_Sat_writePair σ8 [1, x1, ((x4 : Int32) >>> (1 &&& 31)), x2, ((1 : Int32) - ((x4 : Int32) &&& 1))]) (fun σ9 r9 => bnd (rec tG_Sat_keep σ9 [3, x0, (-1)]) (fun σ10 r10 => rec tG_Sat_factorTwo_p150 σ10 [x0, x1, x2, x3, x4, ((x4 : Int32) >>> (1 &&& 31)), ((x4 : Int32) &&& 1)]))))))))))))) else (rec tG_Sat_factorTwo_p156 σ [x0, x1, x2, x3, x4]))) = some (σf, rf, dd) := h
  intro p e s m args below meth c F Lo mc ms cells slots σ0 w0 tx0 hF hLo hcq hsq hga C
  dsimp only at hF hLo hcq hsq ⊢
  have hcm : cells ≤ mc := by have := hmn.1; omega
  have hsm : slots ≤ ms := by have := hmn.2; omega
  have hle : True := trivial
  have hm : True := trivial
  refine ax_iload (pc := 15) C d_Sat_factorTwo_15 5 rfl ?_
  refine ax_iconst (pc := 17) C 4 d_Sat_factorTwo_17 (by decide +kernel) ?_
  refine ax_icmp_ge (pc := 18) C 156 d_Sat_factorTwo_18 (by decide) (fun hc => ?_) (fun hc => ?_)
  · replace h := it_t hc h
    refine ax_ls ([(0, .ref (u 53)), (1, .int x0), (2, .int x1), (3, .int x2), (4, .int x3), (5, .int x4)]) [0, 1, 2, 3, 4, 5] rfl ?_
    replace hm : sG_Sat_factorTwo_p156 l D kA u σ [x0, x1, x2, x3, x4] (σf, rf, _) := ih tG_Sat_factorTwo_p156 _ _ _ h
    exact hm _ _ _ _ _ rfl w tx p e s m args below meth c F Lo mc ms cells slots σ0 w0 tx0 hF hLo hcq hsq hga C
  · replace h := it_f hc h
    refine ax_aload_n (pc := 21) C d_Sat_factorTwo_21 rfl 0 rfl ?_
    refine cg_53_0_Sat_58 (pc := 22) C d_Sat_factorTwo_22 ?_
    refine ax_if_ne (pc := 25) C 156 d_Sat_factorTwo_25 (by decide) (fun hc => ?_) (fun hc => ?_)
    · replace h := it_f hc h
      refine ax_ls ([(0, .ref (u 53)), (1, .int x0), (2, .int x1), (3, .int x2), (4, .int x3), (5, .int x4)]) [0, 1, 2, 3, 4, 5] rfl ?_
      replace hm : sG_Sat_factorTwo_p156 l D kA u σ [x0, x1, x2, x3, x4] (σf, rf, _) := ih tG_Sat_factorTwo_p156 _ _ _ h
      exact hm _ _ _ _ _ rfl w tx p e s m args below meth c F Lo mc ms cells slots σ0 w0 tx0 hF hLo hcq hsq hga C
    · replace h := it_t hc h
      refine ax_iload (pc := 28) C d_Sat_factorTwo_28 5 rfl ?_
      refine ax_iconst (pc := 30) C 1 d_Sat_factorTwo_30 (by decide +kernel) ?_
      refine ax_ishr (pc := 31) C d_Sat_factorTwo_31 ?_
      refine ax_istore (pc := 32) C d_Sat_factorTwo_32 (Nat.le_of_ble_eq_true rfl) ([(6, .int ((x4 : Int32) >>> (1 &&& 31))), (0, .ref (u 53)), (1, .int x0), (2, .int x1), (3, .int x2), (4, .int x3), (5, .int x4)]) rfl ?_
      refine ax_iload (pc := 34) C d_Sat_factorTwo_34 6 rfl ?_
      refine ax_iconst (pc := 36) C 1 d_Sat_factorTwo_36 (by decide +kernel) ?_
      refine ax_iand (pc := 37) C d_Sat_factorTwo_37 ?_
      refine ax_istore (pc := 38) C d_Sat_factorTwo_38 (Nat.le_of_ble_eq_true rfl) ([(7, .int ((x4 : Int32) &&& 1)), (6, .int ((x4 : Int32) >>> (1 &&& 31))), (0, .ref (u 53)), (1, .int x0), (2, .int x1), (3, .int x2), (4, .int x3), (5, .int x4)]) rfl ?_
      refine ax_aload_n (pc := 40) C d_Sat_factorTwo_40 rfl 2 rfl ?_
      refine cg_53_9_Sat_27 (pc := 41) C d_Sat_factorTwo_41 ?_
      refine ax_iload_n (pc := 44) C d_Sat_factorTwo_44 rfl 4 rfl ?_
      refine ax_iload (pc := 45) C d_Sat_factorTwo_45 1 rfl ?_
      replace h := it_b h
      obtain ⟨σ1, r1, d1_1, d2_1, h1, h, hd2, hd1⟩ := h
      replace hle := hG _ _ _ _ (by decide) h1
      dsimp only at hle
      replace hmn : gle σ1 σf := gm_use h (gm_if (gm_tail hG (Nat.le_of_ble_eq_true rfl)) (gm_bnd hG (Nat.le_of_ble_eq_true rfl) (fun _ _ => (gm_bnd hG (Nat.le_of_ble_eq_true rfl) (fun _ _ => (gm_bnd hG (Nat.le_of_ble_eq_true rfl) (fun _ _ => (gm_bnd hG (Nat.le_of_ble_eq_true rfl) (fun _ _ => (gm_if (gm_tail hG (Nat.le_of_ble_eq_true rfl)) (gm_bnd hG (Nat.le_of_ble_eq_true rfl) (fun _ _ => (gm_bnd hG (Nat.le_of_ble_eq_true rfl) (fun _ _ => (gm_bnd hG (Nat.le_of_ble_eq_true rfl) (fun _ _ => (gm_bnd hG (Nat.le_of_ble_eq_true rfl) (fun _ _ => (gm_bnd hG (Nat.le_of_ble_eq_true rfl) (fun _ _ => (gm_tail hG (Nat.le_of_ble_eq_true rfl))))))))))))))))))))))
      replace hm : sC_Sto_isUsable l D kA u w tx σ [x1, ((x4 : Int32) >>> (1 &&& 31))] (σ1, r1, d1_1) := ihC _ _ tC_Sto_isUsable _ _ _ h1
      refine cc_Vi (pc := 47) C (r0 := r1) (σ2 := σ1) (As := [.int x1, .int ((x4 : Int32) >>> (1 &&& 31))]) (rest := []) (hm _ _ rfl) ml_Sat_193 54 rfl rfl rfl d_Sat_factorTwo_47 rfl rfl (by dsimp only; omega) (by dsimp only; omega) hcm hsm (Nat.le_of_ble_eq_true rfl) ?_
      replace hcq : cells + σf.2.2 3001 ≤ mc + σ1.2.2 3001 := by have := hle.1; omega
      replace hsq : slots + σf.2.2 3002 ≤ ms + σ1.2.2 3002 := by have := hle.2; omega
      replace hF : d2_1 + 3 ≤ F := by omega
      replace hLo : 48 * d2_1 + 144 ≤ Lo := by omega
      refine ax_if_ne (pc := 50) C 56 d_Sat_factorTwo_50 (by decide) (fun hc => ?_) (fun hc => ?_)
      · replace h := it_f hc h
        refine ax_aload_n (pc := 56) C d_Sat_factorTwo_56 rfl 2 rfl ?_
        refine cg_53_11_Sat_45 (pc := 57) C d_Sat_factorTwo_57 ?_
        refine ax_iload (pc := 60) C d_Sat_factorTwo_60 6 rfl ?_
        refine ax_iload (pc := 62) C d_Sat_factorTwo_62 6 rfl ?_
        replace h := it_b h
        obtain ⟨σ2, r2, d1_2, d2_2, h1, h, hd2, hd1⟩ := h
        replace hle := hG _ _ _ _ (by decide) h1
        dsimp only at hle
        replace hmn : gle σ2 σf := gm_use h (gm_bnd hG (Nat.le_of_ble_eq_true rfl) (fun _ _ => (gm_bnd hG (Nat.le_of_ble_eq_true rfl) (fun _ _ => (gm_bnd hG (Nat.le_of_ble_eq_true rfl) (fun _ _ => (gm_if (gm_tail hG (Nat.le_of_ble_eq_true rfl)) (gm_bnd hG (Nat.le_of_ble_eq_true rfl) (fun _ _ => (gm_bnd hG (Nat.le_of_ble_eq_true rfl) (fun _ _ => (gm_bnd hG (Nat.le_of_ble_eq_true rfl) (fun _ _ => (gm_bnd hG (Nat.le_of_ble_eq_true rfl) (fun _ _ => (gm_bnd hG (Nat.le_of_ble_eq_true rfl) (fun _ _ => (gm_tail hG (Nat.le_of_ble_eq_true rfl)))))))))))))))))))
        replace hm : sC_Uni_clear l D kA u w tx σ1 [x3, x3] (σ2, r2, d1_2) := ihC _ _ tC_Uni_clear _ _ _ h1
        refine cc_Vv (pc := 64) C (σ2 := σ2) (As := [.int x3, .int x3]) (rest := []) (hm _ _ rfl) ml_Sat_206 59 rfl rfl rfl d_Sat_factorTwo_64 rfl rfl (by dsimp only; omega) (by dsimp only; omega) hcm hsm (Nat.le_of_ble_eq_true rfl) ?_
        replace hcq : cells + σf.2.2 3001 ≤ mc + σ2.2.2 3001 := by have := hle.1; omega
        replace hsq : slots + σf.2.2 3002 ≤ ms + σ2.2.2 3002 := by have := hle.2; omega
        replace hF : d2_2 + 3 ≤ F := by omega
        replace hLo : 48 * d2_2 + 144 ≤ Lo := by omega
        refine ax_aload_n (pc := 67) C d_Sat_factorTwo_67 rfl 2 rfl ?_
        refine cg_53_11_Sat_45 (pc := 68) C d_Sat_factorTwo_68 ?_
        refine ax_aload_n (pc := 71) C d_Sat_factorTwo_71 rfl 2 rfl ?_
        refine cg_53_9_Sat_27 (pc := 72) C d_Sat_factorTwo_72 ?_
        refine ax_iload_n (pc := 75) C d_Sat_factorTwo_75 rfl 4 rfl ?_
        refine ax_iload (pc := 76) C d_Sat_factorTwo_76 1 rfl ?_
        replace h := it_b h
        obtain ⟨σ3, r3, d1_3, d2_3, h1, h, hd2, hd1⟩ := h
        replace hle := hG _ _ _ _ (by decide) h1
        dsimp only at hle
        replace hmn : gle σ3 σf := gm_use h (gm_bnd hG (Nat.le_of_ble_eq_true rfl) (fun _ _ => (gm_bnd hG (Nat.le_of_ble_eq_true rfl) (fun _ _ => (gm_if (gm_tail hG (Nat.le_of_ble_eq_true rfl)) (gm_bnd hG (Nat.le_of_ble_eq_true rfl) (fun _ _ => (gm_bnd hG (Nat.le_of_ble_eq_true rfl) (fun _ _ => (gm_bnd hG (Nat.le_of_ble_eq_true rfl) (fun _ _ => (gm_bnd hG (Nat.le_of_ble_eq_true rfl) (fun _ _ => (gm_bnd hG (Nat.le_of_ble_eq_true rfl) (fun _ _ => (gm_tail hG (Nat.le_of_ble_eq_true rfl)))))))))))))))))
        replace hm : sC_Sto_sideAt l D kA u w tx σ2 [x1, ((x4 : Int32) >>> (1 &&& 31))] (σ3, r3, d1_3) := ihC _ _ tC_Sto_sideAt _ _ _ h1
        refine cc_Vi (pc := 78) C (r0 := r3) (σ2 := σ3) (As := [.int x1, .int ((x4 : Int32) >>> (1 &&& 31))]) (rest := [.ref (u 59)]) (hm _ _ rfl) ml_Sat_200 54 rfl rfl rfl d_Sat_factorTwo_78 rfl rfl (by dsimp only; omega) (by dsimp only; omega) hcm hsm (Nat.le_of_ble_eq_true rfl) ?_
        replace hcq : cells + σf.2.2 3001 ≤ mc + σ3.2.2 3001 := by have := hle.1; omega
        replace hsq : slots + σf.2.2 3002 ≤ ms + σ3.2.2 3002 := by have := hle.2; omega
        replace hF : d2_3 + 3 ≤ F := by omega
        replace hLo : 48 * d2_3 + 144 ≤ Lo := by omega
        refine ax_iconst (pc := 81) C 0 d_Sat_factorTwo_81 (by decide +kernel) ?_
        refine ax_aload_n (pc := 82) C d_Sat_factorTwo_82 rfl 2 rfl ?_
        refine cg_53_9_Sat_27 (pc := 83) C d_Sat_factorTwo_83 ?_
        refine ax_iload_n (pc := 86) C d_Sat_factorTwo_86 rfl 5 rfl ?_
        refine ax_iload (pc := 87) C d_Sat_factorTwo_87 0 rfl ?_
        replace h := it_b h
        obtain ⟨σ4, r4, d1_4, d2_4, h1, h, hd2, hd1⟩ := h
        replace hle := hG _ _ _ _ (by decide) h1
        dsimp only at hle
        replace hmn : gle σ4 σf := gm_use h (gm_bnd hG (Nat.le_of_ble_eq_true rfl) (fun _ _ => (gm_if (gm_tail hG (Nat.le_of_ble_eq_true rfl)) (gm_bnd hG (Nat.le_of_ble_eq_true rfl) (fun _ _ => (gm_bnd hG (Nat.le_of_ble_eq_true rfl) (fun _ _ => (gm_bnd hG (Nat.le_of_ble_eq_true rfl) (fun _ _ => (gm_bnd hG (Nat.le_of_ble_eq_true rfl) (fun _ _ => (gm_bnd hG (Nat.le_of_ble_eq_true rfl) (fun _ _ => (gm_tail hG (Nat.le_of_ble_eq_true rfl)))))))))))))))
        replace hm : sC_Sto_sideAt l D kA u w tx σ3 [x2, ((x4 : Int32) &&& 1)] (σ4, r4, d1_4) := ihC _ _ tC_Sto_sideAt _ _ _ h1
        refine cc_Vi (pc := 89) C (r0 := r4) (σ2 := σ4) (As := [.int x2, .int ((x4 : Int32) &&& 1)]) (rest := [.int 0, .int r3, .ref (u 59)]) (hm _ _ rfl) ml_Sat_200 54 rfl rfl rfl d_Sat_factorTwo_89 rfl rfl (by dsimp only; omega) (by dsimp only; omega) hcm hsm (Nat.le_of_ble_eq_true rfl) ?_
        replace hcq : cells + σf.2.2 3001 ≤ mc + σ4.2.2 3001 := by have := hle.1; omega
        replace hsq : slots + σf.2.2 3002 ≤ ms + σ4.2.2 3002 := by have := hle.2; omega
        replace hF : d2_4 + 3 ≤ F := by omega
        replace hLo : 48 * d2_4 + 144 ≤ Lo := by omega
        refine ax_iconst (pc := 92) C 0 d_Sat_factorTwo_92 (by decide +kernel) ?_
        refine ax_iconst (pc := 93) C 0 d_Sat_factorTwo_93 (by decide +kernel) ?_
        replace h := it_b h
        obtain ⟨σ5, r5, d1_5, d2_5, h1, h, hd2, hd1⟩ := h
        replace hle := hG _ _ _ _ (by decide) h1
        dsimp only at hle
        replace hmn : gle σ5 σf := gm_use h (gm_if (gm_tail hG (Nat.le_of_ble_eq_true rfl)) (gm_bnd hG (Nat.le_of_ble_eq_true rfl) (fun _ _ => (gm_bnd hG (Nat.le_of_ble_eq_true rfl) (fun _ _ => (gm_bnd hG (Nat.le_of_ble_eq_true rfl) (fun _ _ => (gm_bnd hG (Nat.le_of_ble_eq_true rfl) (fun _ _ => (gm_bnd hG (Nat.le_of_ble_eq_true rfl) (fun _ _ => (gm_tail hG (Nat.le_of_ble_eq_true rfl)))))))))))))
        replace hm : sG_Uni_unite l D kA u σ4 [r3, 0, r4, 0, 0] (σ5, r5, d1_5) := ih tG_Uni_unite _ _ _ h1
        refine gc_VNi (pc := 94) C (As := [.int r3, .int 0, .int r4, .int 0, .int 0]) (rest := []) (hm _ _ _ _ _ rfl w tx) ml_Sat_209 59 rfl rfl rfl d_Sat_factorTwo_94 rfl rfl (by dsimp only; omega) (by dsimp only; omega) (by have := hmn.1; have := hle.1; dsimp only; omega) (by have := hmn.2; have := hle.2; dsimp only; omega) (Nat.le_of_ble_eq_true rfl) (fun r9 w1 hw => ?_)
        obtain ⟨hrq5, w5, tx5, hag5, htq5, hwq5⟩ := hw
        dsimp only at hwq5 hrq5
        subst hwq5
        replace hrq5 := hrq5.symm
        subst hrq5
        dsimp only
        replace htq5 := htq5.symm
        subst htq5
        have hga5 : ∀ i, ([48, 52, 65] : List Nat).elem i = false → w5 i = w0 i := fun i hi => (hag5 i (by revert hi; exact el_sub (by decide))).trans (hga i hi)
        replace hcq : (cells + (σ5.2.2 3001 - σ4.2.2 3001)) + σf.2.2 3001 ≤ mc + σ5.2.2 3001 := by have := hmn.1; have := hle.1; omega
        replace hcm : (cells + (σ5.2.2 3001 - σ4.2.2 3001)) ≤ mc := by have := hmn.1; have := hle.1; omega
        generalize cells + (σ5.2.2 3001 - σ4.2.2 3001) = cells at hcq hcm ⊢
        replace hsq : (slots + (σ5.2.2 3002 - σ4.2.2 3002)) + σf.2.2 3002 ≤ ms + σ5.2.2 3002 := by have := hmn.2; have := hle.2; omega
        replace hsm : (slots + (σ5.2.2 3002 - σ4.2.2 3002)) ≤ ms := by have := hmn.2; have := hle.2; omega
        generalize slots + (σ5.2.2 3002 - σ4.2.2 3002) = slots at hsq hsm ⊢
        replace hF : d2_5 + 3 ≤ F := by omega
        replace hLo : 48 * d2_5 + 144 ≤ Lo := by omega
        refine ax_if_eq (pc := 97) C 150 d_Sat_factorTwo_97 (by decide) (fun hc => ?_) (fun hc => ?_)
        · replace h := it_t hc h
          refine ax_ls ([(0, .ref (u 53)), (1, .int x0), (2, .int x1), (3, .int x2), (4, .int x3), (5, .int x4), (6, .int ((x4 : Int32) >>> (1 &&& 31))), (7, .int ((x4 : Int32) &&& 1))]) [2, 3, 4, 5, 6, 7, 1, 0] rfl ?_
          replace hm : sG_Sat_factorTwo_p150 l D kA u σ5 [x0, x1, x2, x3, x4, ((x4 : Int32) >>> (1 &&& 31)), ((x4 : Int32) &&& 1)] (σf, rf, _) := ih tG_Sat_factorTwo_p150 _ _ _ h
          exact hm _ _ _ _ _ _ _ rfl w5 tx p e s m args below meth c F Lo mc ms cells slots σ0 w0 tx0 hF hLo hcq hsq hga5 C
        · replace h := it_f hc h
          refine ax_aload_n (pc := 100) C d_Sat_factorTwo_100 rfl 2 rfl ?_
          refine cg_53_10_Sat_31 (pc := 101) C d_Sat_factorTwo_101 ?_
          replace h := it_b h
          obtain ⟨σ6, r6, d1_6, d2_6, h1, h, hd2, hd1⟩ := h
          replace hle := hG _ _ _ _ (by decide) h1
          dsimp only at hle
          replace hmn : gle σ6 σf := gm_use h (gm_bnd hG (Nat.le_of_ble_eq_true rfl) (fun _ _ => (gm_bnd hG (Nat.le_of_ble_eq_true rfl) (fun _ _ => (gm_bnd hG (Nat.le_of_ble_eq_true rfl) (fun _ _ => (gm_bnd hG (Nat.le_of_ble_eq_true rfl) (fun _ _ => (gm_tail hG (Nat.le_of_ble_eq_true rfl))))))))))
          replace hm : sC_Dra_clear l D kA u w5 tx σ5 [] (σ6, r6, d1_6) := ihC _ _ tC_Dra_clear _ _ _ h1
          refine cc_Vv (pc := 104) C (σ2 := σ6) (As := []) (rest := []) (hm rfl) ml_Sat_213 39 rfl rfl rfl d_Sat_factorTwo_104 rfl rfl (by dsimp only; omega) (by dsimp only; omega) hcm hsm (Nat.le_of_ble_eq_true rfl) ?_
          replace hcq : cells + σf.2.2 3001 ≤ mc + σ6.2.2 3001 := by have := hle.1; omega
          replace hsq : slots + σf.2.2 3002 ≤ ms + σ6.2.2 3002 := by have := hle.2; omega
          replace hF : d2_6 + 3 ≤ F := by omega
          replace hLo : 48 * d2_6 + 144 ≤ Lo := by omega
          refine ax_aload_n (pc := 107) C d_Sat_factorTwo_107 rfl 2 rfl ?_
          refine ax_iload_n (pc := 108) C d_Sat_factorTwo_108 rfl 3 rfl ?_
          refine ax_iload_n (pc := 109) C d_Sat_factorTwo_109 rfl 4 rfl ?_
          refine ax_iload_n (pc := 110) C d_Sat_factorTwo_110 rfl 5 rfl ?_
          refine ax_iconst (pc := 111) C 0 d_Sat_factorTwo_111 (by decide +kernel) ?_
          replace h := it_b h
          obtain ⟨σ7, r7, d1_7, d2_7, h1, h, hd2, hd1⟩ := h
          replace hle := hG _ _ _ _ (by decide) h1
          dsimp only at hle
          replace hmn : gle σ7 σf := gm_use h (gm_bnd hG (Nat.le_of_ble_eq_true rfl) (fun _ _ => (gm_bnd hG (Nat.le_of_ble_eq_true rfl) (fun _ _ => (gm_bnd hG (Nat.le_of_ble_eq_true rfl) (fun _ _ => (gm_tail hG (Nat.le_of_ble_eq_true rfl))))))))
          replace hm : sC_Sat_writeOthers l D kA u w5 tx σ6 [x0, x1, x2, 0] (σ7, r7, d1_7) := ihC _ _ tC_Sat_writeOthers _ _ _ h1
          refine cc_Vv (pc := 112) C (σ2 := σ7) (As := [.int x0, .int x1, .int x2, .int 0]) (rest := []) (hm _ _ _ _ rfl) ml_Sat_215 53 rfl rfl rfl d_Sat_factorTwo_112 rfl rfl (by dsimp only; omega) (by dsimp only; omega) hcm hsm (Nat.le_of_ble_eq_true rfl) ?_
          replace hcq : cells + σf.2.2 3001 ≤ mc + σ7.2.2 3001 := by have := hle.1; omega
          replace hsq : slots + σf.2.2 3002 ≤ ms + σ7.2.2 3002 := by have := hle.2; omega
          replace hF : d2_7 + 3 ≤ F := by omega
          replace hLo : 48 * d2_7 + 144 ≤ Lo := by omega
          refine ax_aload_n (pc := 115) C d_Sat_factorTwo_115 rfl 2 rfl ?_
          refine ax_iconst (pc := 116) C 0 d_Sat_factorTwo_116 (by decide +kernel) ?_
          refine ax_iload_n (pc := 117) C d_Sat_factorTwo_117 rfl 4 rfl ?_
          refine ax_iconst (pc := 118) C 1 d_Sat_factorTwo_118 (by decide +kernel) ?_
          refine ax_iload (pc := 119) C d_Sat_factorTwo_119 1 rfl ?_
          refine ax_isub (pc := 121) C d_Sat_factorTwo_121 ?_
          refine ax_iload_n (pc := 122) C d_Sat_factorTwo_122 rfl 5 rfl ?_
          refine ax_iconst (pc := 123) C 1 d_Sat_factorTwo_123 (by decide +kernel) ?_
          refine ax_iload (pc := 124) C d_Sat_factorTwo_124 0 rfl ?_
          refine ax_isub (pc := 126) C d_Sat_factorTwo_126 ?_
          replace h := it_b h
          obtain ⟨σ8, r8, d1_8, d2_8, h1, h, hd2, hd1⟩ := h
          replace hle := hG _ _ _ _ (by decide) h1
          dsimp only at hle
          replace hmn : gle σ8 σf := gm_use h (gm_bnd hG (Nat.le_of_ble_eq_true rfl) (fun _ _ => (gm_bnd hG (Nat.le_of_ble_eq_true rfl) (fun _ _ => (gm_tail hG (Nat.le_of_ble_eq_true rfl))))))
          replace hm : sC_Sat_writePair l D kA u w5 tx σ7 [0, x1, ((1 : Int32) - ((x4 : Int32) >>> (1 &&& 31))), x2, ((1 : Int32) - ((x4 : Int32) &&& 1))] (σ8, r8, d1_8) := ihC _ _ tC_Sat_writePair _ _ _ h1
          refine cc_Vv (pc := 127) C (σ2 := σ8) (As := [.int 0, .int x1, .int ((1 : Int32) - ((x4 : Int32) >>> (1 &&& 31))), .int x2, .int ((1 : Int32) - ((x4 : Int32) &&& 1))]) (rest := []) (hm _ _ _ _ _ rfl) ml_Sat_259 53 rfl rfl rfl d_Sat_factorTwo_127 rfl rfl (by dsimp only; omega) (by dsimp only; omega) hcm hsm (Nat.le_of_ble_eq_true rfl) ?_
          replace hcq : cells + σf.2.2 3001 ≤ mc + σ8.2.2 3001 := by have := hle.1; omega
          replace hsq : slots + σf.2.2 3002 ≤ ms + σ8.2.2 3002 := by have := hle.2; omega
          replace hF : d2_8 + 3 ≤ F := by omega
          replace hLo : 48 * d2_8 + 144 ≤ Lo := by omega
          refine ax_aload_n (pc := 130) C d_Sat_factorTwo_130 rfl 2 rfl ?_
          refine ax_iconst (pc := 131) C 1 d_Sat_factorTwo_131 (by decide +kernel) ?_
          refine ax_iload_n (pc := 132) C d_Sat_factorTwo_132 rfl 4 rfl ?_
          refine ax_iload (pc := 133) C d_Sat_factorTwo_133 1 rfl ?_
          refine ax_iload_n (pc := 135) C d_Sat_factorTwo_135 rfl 5 rfl ?_
          refine ax_iconst (pc := 136) C 1 d_Sat_factorTwo_136 (by decide +kernel) ?_
          refine ax_iload (pc := 137) C d_Sat_factorTwo_137 0 rfl ?_
          refine ax_isub (pc := 139) C d_Sat_factorTwo_139 ?_
          replace h := it_b h
          obtain ⟨σ9, r9, d1_9, d2_9, h1, h, hd2, hd1⟩ := h
          replace hle := hG _ _ _ _ (by decide) h1
          dsimp only at hle
          replace hmn : gle σ9 σf := gm_use h (gm_bnd hG (Nat.le_of_ble_eq_true rfl) (fun _ _ => (gm_tail hG (Nat.le_of_ble_eq_true rfl))))
          replace hm : sC_Sat_writePair l D kA u w5 tx σ8 [1, x1, ((x4 : Int32) >>> (1 &&& 31)), x2, ((1 : Int32) - ((x4 : Int32) &&& 1))] (σ9, r9, d1_9) := ihC _ _ tC_Sat_writePair _ _ _ h1
          refine cc_Vv (pc := 140) C (σ2 := σ9) (As := [.int 1, .int x1, .int ((x4 : Int32) >>> (1 &&& 31)), .int x2, .int ((1 : Int32) - ((x4 : Int32) &&& 1))]) (rest := []) (hm _ _ _ _ _ rfl) ml_Sat_259 53 rfl rfl rfl d_Sat_factorTwo_140 rfl rfl (by dsimp only; omega) (by dsimp only; omega) hcm hsm (Nat.le_of_ble_eq_true rfl) ?_
          replace hcq : cells + σf.2.2 3001 ≤ mc + σ9.2.2 3001 := by have := hle.1; omega
          replace hsq : slots + σf.2.2 3002 ≤ ms + σ9.2.2 3002 := by have := hle.2; omega
          replace hF : d2_9 + 3 ≤ F := by omega
          replace hLo : 48 * d2_9 + 144 ≤ Lo := by omega
          refine ax_aload_n (pc := 143) C d_Sat_factorTwo_143 rfl 2 rfl ?_
          refine ax_iconst (pc := 144) C 3 d_Sat_factorTwo_144 (by decide +kernel) ?_
          refine ax_iload_n (pc := 145) C d_Sat_factorTwo_145 rfl 3 rfl ?_
          refine ax_iconst (pc := 146) C (-1) d_Sat_factorTwo_146 (by decide +kernel) ?_
          replace h := it_b h
          obtain ⟨σ10, r10, d1_10, d2_10, h1, h, hd2, hd1⟩ := h
          replace hle := hG _ _ _ _ (by decide) h1
          dsimp only at hle
          replace hmn : gle σ10 σf := gm_use h (gm_tail hG (Nat.le_of_ble_eq_true rfl))
          replace hm : sG_Sat_keep l D kA u σ9 [3, x0, (-1)] (σ10, r10, d1_10) := ih tG_Sat_keep _ _ _ h1
          refine gc_Vv (pc := 147) C (As := [.int 3, .int x0, .int (-1)]) (rest := []) (hm _ _ _ rfl w5 tx) ml_Sat_222 53 rfl rfl rfl d_Sat_factorTwo_147 rfl rfl (by dsimp only; omega) (by dsimp only; omega) (by have := hmn.1; have := hle.1; dsimp only; omega) (by have := hmn.2; have := hle.2; dsimp only; omega) (Nat.le_of_ble_eq_true rfl) (fun w1 hw => ?_)
          obtain ⟨w10, tx10, hag10, htq10, hwq10⟩ := hw
          dsimp only at hwq10
          subst hwq10
          dsimp only
          replace htq10 := htq10.symm
          subst htq10
          have hga10 : ∀ i, ([48, 52, 65] : List Nat).elem i = false → w10 i = w0 i := fun i hi => (hag10 i (by revert hi; exact el_sub (by decide))).trans (hga5 i hi)
          replace hcq : (cells + (σ10.2.2 3001 - σ9.2.2 3001)) + σf.2.2 3001 ≤ mc + σ10.2.2 3001 := by have := hmn.1; have := hle.1; omega
          replace hcm : (cells + (σ10.2.2 3001 - σ9.2.2 3001)) ≤ mc := by have := hmn.1; have := hle.1; omega
          generalize cells + (σ10.2.2 3001 - σ9.2.2 3001) = cells at hcq hcm ⊢
          replace hsq : (slots + (σ10.2.2 3002 - σ9.2.2 3002)) + σf.2.2 3002 ≤ ms + σ10.2.2 3002 := by have := hmn.2; have := hle.2; omega
          replace hsm : (slots + (σ10.2.2 3002 - σ9.2.2 3002)) ≤ ms := by have := hmn.2; have := hle.2; omega
          generalize slots + (σ10.2.2 3002 - σ9.2.2 3002) = slots at hsq hsm ⊢
          replace hF : d2_10 + 3 ≤ F := by omega
          replace hLo : 48 * d2_10 + 144 ≤ Lo := by omega
          refine ax_ls ([(0, .ref (u 53)), (1, .int x0), (2, .int x1), (3, .int x2), (4, .int x3), (5, .int x4), (6, .int ((x4 : Int32) >>> (1 &&& 31))), (7, .int ((x4 : Int32) &&& 1))]) [2, 3, 4, 5, 6, 7, 1, 0] rfl ?_
          replace hm : sG_Sat_factorTwo_p150 l D kA u σ10 [x0, x1, x2, x3, x4, ((x4 : Int32) >>> (1 &&& 31)), ((x4 : Int32) &&& 1)] (σf, rf, _) := ih tG_Sat_factorTwo_p150 _ _ _ h
          exact hm _ _ _ _ _ _ _ rfl w10 tx p e s m args below meth c F Lo mc ms cells slots σ0 w0 tx0 hF hLo hcq hsq hga10 C
      · replace h := it_t hc h
        refine ax_goto (pc := 53) C 150 d_Sat_factorTwo_53 (by decide) ?_
        refine ax_ls ([(0, .ref (u 53)), (1, .int x0), (2, .int x1), (3, .int x2), (4, .int x3), (5, .int x4), (6, .int ((x4 : Int32) >>> (1 &&& 31))), (7, .int ((x4 : Int32) &&& 1))]) [2, 3, 4, 5, 6, 7, 1, 0] rfl ?_
        replace hm : sG_Sat_factorTwo_p150 l D kA u σ1 [x0, x1, x2, x3, x4, ((x4 : Int32) >>> (1 &&& 31)), ((x4 : Int32) &&& 1)] (σf, rf, _) := ih tG_Sat_factorTwo_p150 _ _ _ h
        exact hm _ _ _ _ _ _ _ rfl w tx p e s m args below meth c F Lo mc ms cells slots σ0 w0 tx0 hF hLo hcq hsq hga C
set_option maxHeartbeats 4000000 in
set_option maxRecDepth 100000 in
theorem oG_Sat_factorTwo_p150 (l : Launch) (D : va_G) (kA : Nat → ClassId) (u : Nat → Nat) (rec : mF) (hG : GM rec) (ihC : ∀ (w : Nat → Nat) (tx : Value) t σ xs res, rec t σ xs = some res → cSem l D kA u w tx t σ xs res) (ih : ∀ t σ xs res, rec t σ xs = some res → gSem l D kA u t σ xs res) (σ : mS) (xs : List Int32) (res : mR) (h : u_7 (kG_Sat_factorTwo_p150 rec σ) xs = some res) : sG_Sat_factorTwo_p150 l D kA u σ xs res := by
  intro x0 x1 x2 x3 x4 x5 x6 hxs w tx
  subst hxs
  obtain ⟨σf, rf, dd⟩ := res
  have hmn : gle σ σf := qG_Sat_factorTwo_p150 rec hG σ x0 x1 x2 x3 x4 x5 x6 _ h
  have h : (rec tG_Sat_factorTwo_p15 σ [x0, x1, x2, x3, (x4 + 1)]) = some (σf, rf, dd) := h
  intro p e s m args below meth c F Lo mc ms cells slots σ0 w0 tx0 hF hLo hcq hsq hga C
  dsimp only at hF hLo hcq hsq ⊢
  have hcm : cells ≤ mc := by have := hmn.1; omega
  have hsm : slots ≤ ms := by have := hmn.2; omega
  have hle : True := trivial
  have hm : True := trivial
  refine ax_iinc (pc := 150) C (x4 + 1) d_Sat_factorTwo_150 5 rfl rfl (Nat.le_of_ble_eq_true rfl) ([(5, .int (x4 + 1)), (0, .ref (u 53)), (1, .int x0), (2, .int x1), (3, .int x2), (4, .int x3), (6, .int x5), (7, .int x6)]) rfl ?_
  refine ax_goto (pc := 153) C 15 d_Sat_factorTwo_153 (by decide) ?_
  refine ax_ls ([(0, .ref (u 53)), (1, .int x0), (2, .int x1), (3, .int x2), (4, .int x3), (5, .int (x4 + 1))]) [1, 2, 3, 4, 5, 0] rfl ?_
  replace hm : sG_Sat_factorTwo_p15 l D kA u σ [x0, x1, x2, x3, (x4 + 1)] (σf, rf, _) := ih tG_Sat_factorTwo_p15 _ _ _ h
  exact hm _ _ _ _ _ rfl w tx p e s m args below meth c F Lo mc ms cells slots σ0 w0 tx0 hF hLo hcq hsq hga C
set_option maxHeartbeats 4000000 in
set_option maxRecDepth 100000 in
theorem oG_Sat_factorTwo_p156 (l : Launch) (D : va_G) (kA : Nat → ClassId) (u : Nat → Nat) (rec : mF) (hG : GM rec) (ihC : ∀ (w : Nat → Nat) (tx : Value) t σ xs res, rec t σ xs = some res → cSem l D kA u w tx t σ xs res) (ih : ∀ t σ xs res, rec t σ xs = some res → gSem l D kA u t σ xs res) (σ : mS) (xs : List Int32) (res : mR) (h : u_5 (kG_Sat_factorTwo_p156 rec σ) xs = some res) : sG_Sat_factorTwo_p156 l D kA u σ xs res := by
  intro x0 x1 x2 x3 x4 hxs w tx
  subst hxs
  obtain ⟨σf, rf, dd⟩ := res
  have hmn : gle σ σf := qG_Sat_factorTwo_p156 rec hG σ x0 x1 x2 x3 x4 _ h
  have h : (some (σ, 0, 0)) = some (σf, rf, dd) := h
  intro p e s m args below meth c F Lo mc ms cells slots σ0 w0 tx0 hF hLo hcq hsq hga C
  dsimp only at hF hLo hcq hsq ⊢
  have hcm : cells ≤ mc := by have := hmn.1; omega
  have hsm : slots ≤ ms := by have := hmn.2; omega
  have hle : True := trivial
  have hm : True := trivial
  cases h
  exact ax_vret (pc := 156) C d_Sat_factorTwo_156 ⟨w, tx, hga, rfl, rfl⟩ hcm hsm
set_option maxHeartbeats 4000000 in
set_option maxRecDepth 100000 in
theorem oG_Sat_inferFrom (l : Launch) (D : va_G) (kA : Nat → ClassId) (u : Nat → Nat) (rec : mF) (hG : GM rec) (ihC : ∀ (w : Nat → Nat) (tx : Value) t σ xs res, rec t σ xs = some res → cSem l D kA u w tx t σ xs res) (ih : ∀ t σ xs res, rec t σ xs = some res → gSem l D kA u t σ xs res) (σ : mS) (xs : List Int32) (res : mR) (h : u_1 (kG_Sat_inferFrom rec σ) xs = some res) : sG_Sat_inferFrom l D kA u σ xs res := by
  intro x0 hxs w tx
  subst hxs
  obtain ⟨σf, rf, dd⟩ := res
  have hmn : gle σ σf := qG_Sat_inferFrom rec hG σ x0 _ h
  have h : (rec tG_Sat_inferFrom_p10 σ [x0, (σ.1 5402), 0]) = some (σf, rf, dd) := h
  refine ax_Mv.of (by decide +kernel) (Nat.le_of_ble_eq_true rfl) ?_
  intro p e s m args below meth c C hnm
  replace C : ax_C p s m args meth c b_Sat_inferFrom "ClauseProver$Saturation" 4 none D kA (va_A (cpW kA u w tx σ) s.heap.size) := C
  obtain ⟨F, hFe⟩ : ∃ z, z = dd + 3 := ⟨_, rfl⟩
  obtain ⟨Lo, hLoe⟩ : ∃ z, z = 48 * dd + 144 := ⟨_, rfl⟩
  obtain ⟨mc, hmce⟩ : ∃ z, z = σf.2.2 3001 - σ.2.2 3001 := ⟨_, rfl⟩
  obtain ⟨ms, hmse⟩ : ∃ z, z = σf.2.2 3002 - σ.2.2 3002 := ⟨_, rfl⟩
  obtain ⟨σ0, hσ0e⟩ : ∃ z, z = σ := ⟨_, rfl⟩
  obtain ⟨w0, hw0e⟩ : ∃ z, z = w := ⟨_, rfl⟩
  obtain ⟨tx0, htx0e⟩ : ∃ z, z = tx := ⟨_, rfl⟩
  suffices K : ∀ (cells slots : Nat), cells = 0 → slots = 0 → AW p l e { frames := F, cells := mc, slots := ms, locals := Lo } s m args below meth c D kA (va_A (cpW kA u w0 tx0 σ0) s.heap.size) 4 (ax_Qv below args s D kA (cpW kA u w0 tx0 σ0) mc ms (fun w1 => ∃ (w2 : Nat → Nat) (tx2 : Value), (∀ i, ([48, 52, 65] : List Nat).elem i = false → w2 i = w0 i) ∧ tx2 = tx0 ∧ w1 = cpW kA u w2 tx2 σf)) 0 [(0, .ref (u 53)), (1, .int x0)] [] (cpW kA u w tx σ) cells slots by
    have K := K 0 0 rfl rfl
    rw [hFe, hLoe, hmce, hmse, hσ0e, hw0e, htx0e] at K
    exact ax_ls ([(0, .ref (u 53)), (1, .int x0)]) [0, 1] rfl K
  replace C : ax_C p s m args meth c b_Sat_inferFrom "ClauseProver$Saturation" 4 none D kA (va_A (cpW kA u w0 tx0 σ0) s.heap.size) := by rw [hσ0e, hw0e, htx0e]; exact C
  intro cells slots hc0 hs0
  have hcq : cells + σf.2.2 3001 ≤ mc + σ.2.2 3001 := by have := hmn.1; omega
  have hsq : slots + σf.2.2 3002 ≤ ms + σ.2.2 3002 := by have := hmn.2; omega
  have hga : ∀ i, ([48, 52, 65] : List Nat).elem i = false → w i = w0 i := fun i _ => by rw [hw0e]
  have e9 : tx = tx0 := htx0e.symm
  subst e9
  have hF : dd + 3 ≤ F := by omega
  have hLo : 48 * dd + 144 ≤ Lo := by omega
  have hcm : cells ≤ mc := by have := hmn.1; omega
  have hsm : slots ≤ ms := by have := hmn.2; omega
  have hle : True := trivial
  have hm : True := trivial
  refine ax_aload_n (pc := 0) C d_Sat_inferFrom_0 rfl 0 rfl ?_
  refine cg_53_9_Sat_27 (pc := 1) C d_Sat_inferFrom_1 ?_
  refine cg_54_2_Sat_112 (pc := 4) C d_Sat_inferFrom_4 ?_
  refine ax_istore_n (pc := 7) C d_Sat_inferFrom_7 rfl (Nat.le_of_ble_eq_true rfl) ([(2, .int (σ.1 5402)), (0, .ref (u 53)), (1, .int x0)]) rfl ?_
  refine ax_iconst (pc := 8) C 0 d_Sat_inferFrom_8 (by decide +kernel) ?_
  refine ax_istore_n (pc := 9) C d_Sat_inferFrom_9 rfl (Nat.le_of_ble_eq_true rfl) ([(3, .int 0), (2, .int (σ.1 5402)), (0, .ref (u 53)), (1, .int x0)]) rfl ?_
  refine ax_ls ([(0, .ref (u 53)), (1, .int x0), (2, .int (σ.1 5402)), (3, .int 0)]) [2, 3, 1, 0] rfl ?_
  replace hm : sG_Sat_inferFrom_p10 l D kA u σ [x0, (σ.1 5402), 0] (σf, rf, _) := ih tG_Sat_inferFrom_p10 _ _ _ h
  exact hm _ _ _ rfl w tx p e s m args below meth c F Lo mc ms cells slots σ0 w0 tx hF hLo hcq hsq hga C
set_option maxHeartbeats 4000000 in
set_option maxRecDepth 100000 in
theorem oG_Sat_inferFrom_p10 (l : Launch) (D : va_G) (kA : Nat → ClassId) (u : Nat → Nat) (rec : mF) (hG : GM rec) (ihC : ∀ (w : Nat → Nat) (tx : Value) t σ xs res, rec t σ xs = some res → cSem l D kA u w tx t σ xs res) (ih : ∀ t σ xs res, rec t σ xs = some res → gSem l D kA u t σ xs res) (σ : mS) (xs : List Int32) (res : mR) (h : u_3 (kG_Sat_inferFrom_p10 rec σ) xs = some res) : sG_Sat_inferFrom_p10 l D kA u σ xs res := by
  intro x0 x1 x2 hxs w tx
  subst hxs
  obtain ⟨σf, rf, dd⟩ := res
  have hmn : gle σ σf := qG_Sat_inferFrom_p10 rec hG σ x0 x1 x2 _ h
  have h : (if x1 ≤ x2 then (rec tG_Sat_inferFrom_p53 σ [x0, x1, x2]) else (if (σ.1 5300) = 0 then (bnd (rec tC_Sat_isProcessed σ [x2]) (fun σ1 r1 => if r1 = 0 then (rec tG_Sat_inferFrom_p47 σ1 [x0, x1, x2]) else (bnd (rec tG_Sat_superpose σ1 [x2, x0]) (fun σ2 r2 => if x2 = x0 then (rec tG_Sat_inferFrom_p47 σ2 [x0, x1, x2]) else (bnd (rec tG_Sat_superpose σ2 [x0, x2]) (fun σ3 r3 => rec tG_Sat_inferFrom_p47 σ3 [x0, x1, x2])))))) else (rec tG_Sat_inferFrom_p53 σ [x0, x1, x2]))) = some (σf, rf, dd) := h
  intro p e s m args below meth c F Lo mc ms cells slots σ0 w0 tx0 hF hLo hcq hsq hga C
  dsimp only at hF hLo hcq hsq ⊢
  have hcm : cells ≤ mc := by have := hmn.1; omega
  have hsm : slots ≤ ms := by have := hmn.2; omega
  have hle : True := trivial
  have hm : True := trivial
  refine ax_iload_n (pc := 10) C d_Sat_inferFrom_10 rfl 3 rfl ?_
  refine ax_iload_n (pc := 11) C d_Sat_inferFrom_11 rfl 2 rfl ?_
  refine ax_icmp_ge (pc := 12) C 53 d_Sat_inferFrom_12 (by decide) (fun hc => ?_) (fun hc => ?_)
  · replace h := it_t hc h
    refine ax_ls ([(0, .ref (u 53)), (1, .int x0), (2, .int x1), (3, .int x2)]) [0, 1, 2, 3] rfl ?_
    replace hm : sG_Sat_inferFrom_p53 l D kA u σ [x0, x1, x2] (σf, rf, _) := ih tG_Sat_inferFrom_p53 _ _ _ h
    exact hm _ _ _ rfl w tx p e s m args below meth c F Lo mc ms cells slots σ0 w0 tx0 hF hLo hcq hsq hga C
  · replace h := it_f hc h
    refine ax_aload_n (pc := 15) C d_Sat_inferFrom_15 rfl 0 rfl ?_
    refine cg_53_0_Sat_58 (pc := 16) C d_Sat_inferFrom_16 ?_
    refine ax_if_ne (pc := 19) C 53 d_Sat_inferFrom_19 (by decide) (fun hc => ?_) (fun hc => ?_)
    · replace h := it_f hc h
      refine ax_ls ([(0, .ref (u 53)), (1, .int x0), (2, .int x1), (3, .int x2)]) [0, 1, 2, 3] rfl ?_
      replace hm : sG_Sat_inferFrom_p53 l D kA u σ [x0, x1, x2] (σf, rf, _) := ih tG_Sat_inferFrom_p53 _ _ _ h
      exact hm _ _ _ rfl w tx p e s m args below meth c F Lo mc ms cells slots σ0 w0 tx0 hF hLo hcq hsq hga C
    · replace h := it_t hc h
      refine ax_aload_n (pc := 22) C d_Sat_inferFrom_22 rfl 0 rfl ?_
      refine ax_iload_n (pc := 23) C d_Sat_inferFrom_23 rfl 3 rfl ?_
      replace h := it_b h
      obtain ⟨σ1, r1, d1_1, d2_1, h1, h, hd2, hd1⟩ := h
      replace hle := hG _ _ _ _ (by decide) h1
      dsimp only at hle
      replace hmn : gle σ1 σf := gm_use h (gm_if (gm_tail hG (Nat.le_of_ble_eq_true rfl)) (gm_bnd hG (Nat.le_of_ble_eq_true rfl) (fun _ _ => (gm_if (gm_tail hG (Nat.le_of_ble_eq_true rfl)) (gm_bnd hG (Nat.le_of_ble_eq_true rfl) (fun _ _ => (gm_tail hG (Nat.le_of_ble_eq_true rfl))))))))
      replace hm : sC_Sat_isProcessed l D kA u w tx σ [x2] (σ1, r1, d1_1) := ihC _ _ tC_Sat_isProcessed _ _ _ h1
      refine cc_Vi (pc := 24) C (r0 := r1) (σ2 := σ1) (As := [.int x2]) (rest := []) (hm _ rfl) ml_Sat_142 53 rfl rfl rfl d_Sat_inferFrom_24 rfl rfl (by dsimp only; omega) (by dsimp only; omega) hcm hsm (Nat.le_of_ble_eq_true rfl) ?_
      replace hcq : cells + σf.2.2 3001 ≤ mc + σ1.2.2 3001 := by have := hle.1; omega
      replace hsq : slots + σf.2.2 3002 ≤ ms + σ1.2.2 3002 := by have := hle.2; omega
      replace hF : d2_1 + 3 ≤ F := by omega
      replace hLo : 48 * d2_1 + 144 ≤ Lo := by omega
      refine ax_if_eq (pc := 27) C 47 d_Sat_inferFrom_27 (by decide) (fun hc => ?_) (fun hc => ?_)
      · replace h := it_t hc h
        refine ax_ls ([(0, .ref (u 53)), (1, .int x0), (2, .int x1), (3, .int x2)]) [0, 1, 2, 3] rfl ?_
        replace hm : sG_Sat_inferFrom_p47 l D kA u σ1 [x0, x1, x2] (σf, rf, _) := ih tG_Sat_inferFrom_p47 _ _ _ h
        exact hm _ _ _ rfl w tx p e s m args below meth c F Lo mc ms cells slots σ0 w0 tx0 hF hLo hcq hsq hga C
      · replace h := it_f hc h
        refine ax_aload_n (pc := 30) C d_Sat_inferFrom_30 rfl 0 rfl ?_
        refine ax_iload_n (pc := 31) C d_Sat_inferFrom_31 rfl 3 rfl ?_
        refine ax_iload_n (pc := 32) C d_Sat_inferFrom_32 rfl 1 rfl ?_
        replace h := it_b h
        obtain ⟨σ2, r2, d1_2, d2_2, h1, h, hd2, hd1⟩ := h
        replace hle := hG _ _ _ _ (by decide) h1
        dsimp only at hle
        replace hmn : gle σ2 σf := gm_use h (gm_if (gm_tail hG (Nat.le_of_ble_eq_true rfl)) (gm_bnd hG (Nat.le_of_ble_eq_true rfl) (fun _ _ => (gm_tail hG (Nat.le_of_ble_eq_true rfl)))))
        replace hm : sG_Sat_superpose l D kA u σ1 [x2, x0] (σ2, r2, d1_2) := ih tG_Sat_superpose _ _ _ h1
        refine gc_Vv (pc := 33) C (As := [.int x2, .int x0]) (rest := []) (hm _ _ rfl w tx) ml_Sat_175 53 rfl rfl rfl d_Sat_inferFrom_33 rfl rfl (by dsimp only; omega) (by dsimp only; omega) (by have := hmn.1; have := hle.1; dsimp only; omega) (by have := hmn.2; have := hle.2; dsimp only; omega) (Nat.le_of_ble_eq_true rfl) (fun w1 hw => ?_)
        obtain ⟨w2, tx2, hag2, htq2, hwq2⟩ := hw
        dsimp only at hwq2
        subst hwq2
        dsimp only
        replace htq2 := htq2.symm
        subst htq2
        have hga2 : ∀ i, ([48, 52, 65] : List Nat).elem i = false → w2 i = w0 i := fun i hi => (hag2 i (by revert hi; exact el_sub (by decide))).trans (hga i hi)
        replace hcq : (cells + (σ2.2.2 3001 - σ1.2.2 3001)) + σf.2.2 3001 ≤ mc + σ2.2.2 3001 := by have := hmn.1; have := hle.1; omega
        replace hcm : (cells + (σ2.2.2 3001 - σ1.2.2 3001)) ≤ mc := by have := hmn.1; have := hle.1; omega
        generalize cells + (σ2.2.2 3001 - σ1.2.2 3001) = cells at hcq hcm ⊢
        replace hsq : (slots + (σ2.2.2 3002 - σ1.2.2 3002)) + σf.2.2 3002 ≤ ms + σ2.2.2 3002 := by have := hmn.2; have := hle.2; omega
        replace hsm : (slots + (σ2.2.2 3002 - σ1.2.2 3002)) ≤ ms := by have := hmn.2; have := hle.2; omega
        generalize slots + (σ2.2.2 3002 - σ1.2.2 3002) = slots at hsq hsm ⊢
        replace hF : d2_2 + 3 ≤ F := by omega
        replace hLo : 48 * d2_2 + 144 ≤ Lo := by omega
        refine ax_iload_n (pc := 36) C d_Sat_inferFrom_36 rfl 3 rfl ?_
        refine ax_iload_n (pc := 37) C d_Sat_inferFrom_37 rfl 1 rfl ?_
        refine ax_icmp_eq (pc := 38) C 47 d_Sat_inferFrom_38 (by decide) (fun hc => ?_) (fun hc => ?_)
        · replace h := it_t hc h
          refine ax_ls ([(0, .ref (u 53)), (1, .int x0), (2, .int x1), (3, .int x2)]) [0, 1, 2, 3] rfl ?_
          replace hm : sG_Sat_inferFrom_p47 l D kA u σ2 [x0, x1, x2] (σf, rf, _) := ih tG_Sat_inferFrom_p47 _ _ _ h
          exact hm _ _ _ rfl w2 tx p e s m args below meth c F Lo mc ms cells slots σ0 w0 tx0 hF hLo hcq hsq hga2 C
        · replace h := it_f hc h
          refine ax_aload_n (pc := 41) C d_Sat_inferFrom_41 rfl 0 rfl ?_
          refine ax_iload_n (pc := 42) C d_Sat_inferFrom_42 rfl 1 rfl ?_
          refine ax_iload_n (pc := 43) C d_Sat_inferFrom_43 rfl 3 rfl ?_
          replace h := it_b h
          obtain ⟨σ3, r3, d1_3, d2_3, h1, h, hd2, hd1⟩ := h
          replace hle := hG _ _ _ _ (by decide) h1
          dsimp only at hle
          replace hmn : gle σ3 σf := gm_use h (gm_tail hG (Nat.le_of_ble_eq_true rfl))
          replace hm : sG_Sat_superpose l D kA u σ2 [x0, x2] (σ3, r3, d1_3) := ih tG_Sat_superpose _ _ _ h1
          refine gc_Vv (pc := 44) C (As := [.int x0, .int x2]) (rest := []) (hm _ _ rfl w2 tx) ml_Sat_175 53 rfl rfl rfl d_Sat_inferFrom_44 rfl rfl (by dsimp only; omega) (by dsimp only; omega) (by have := hmn.1; have := hle.1; dsimp only; omega) (by have := hmn.2; have := hle.2; dsimp only; omega) (Nat.le_of_ble_eq_true rfl) (fun w1 hw => ?_)
          obtain ⟨w3, tx3, hag3, htq3, hwq3⟩ := hw
          dsimp only at hwq3
          subst hwq3
          dsimp only
          replace htq3 := htq3.symm
          subst htq3
          have hga3 : ∀ i, ([48, 52, 65] : List Nat).elem i = false → w3 i = w0 i := fun i hi => (hag3 i (by revert hi; exact el_sub (by decide))).trans (hga2 i hi)
          replace hcq : (cells + (σ3.2.2 3001 - σ2.2.2 3001)) + σf.2.2 3001 ≤ mc + σ3.2.2 3001 := by have := hmn.1; have := hle.1; omega
          replace hcm : (cells + (σ3.2.2 3001 - σ2.2.2 3001)) ≤ mc := by have := hmn.1; have := hle.1; omega
          generalize cells + (σ3.2.2 3001 - σ2.2.2 3001) = cells at hcq hcm ⊢
          replace hsq : (slots + (σ3.2.2 3002 - σ2.2.2 3002)) + σf.2.2 3002 ≤ ms + σ3.2.2 3002 := by have := hmn.2; have := hle.2; omega
          replace hsm : (slots + (σ3.2.2 3002 - σ2.2.2 3002)) ≤ ms := by have := hmn.2; have := hle.2; omega
          generalize slots + (σ3.2.2 3002 - σ2.2.2 3002) = slots at hsq hsm ⊢
          replace hF : d2_3 + 3 ≤ F := by omega
          replace hLo : 48 * d2_3 + 144 ≤ Lo := by omega
          refine ax_ls ([(0, .ref (u 53)), (1, .int x0), (2, .int x1), (3, .int x2)]) [0, 1, 2, 3] rfl ?_
          replace hm : sG_Sat_inferFrom_p47 l D kA u σ3 [x0, x1, x2] (σf, rf, _) := ih tG_Sat_inferFrom_p47 _ _ _ h
          exact hm _ _ _ rfl w3 tx p e s m args below meth c F Lo mc ms cells slots σ0 w0 tx0 hF hLo hcq hsq hga3 C
set_option maxHeartbeats 4000000 in
set_option maxRecDepth 100000 in
theorem oG_Sat_inferFrom_p47 (l : Launch) (D : va_G) (kA : Nat → ClassId) (u : Nat → Nat) (rec : mF) (hG : GM rec) (ihC : ∀ (w : Nat → Nat) (tx : Value) t σ xs res, rec t σ xs = some res → cSem l D kA u w tx t σ xs res) (ih : ∀ t σ xs res, rec t σ xs = some res → gSem l D kA u t σ xs res) (σ : mS) (xs : List Int32) (res : mR) (h : u_3 (kG_Sat_inferFrom_p47 rec σ) xs = some res) : sG_Sat_inferFrom_p47 l D kA u σ xs res := by
  intro x0 x1 x2 hxs w tx
  subst hxs
  obtain ⟨σf, rf, dd⟩ := res
  have hmn : gle σ σf := qG_Sat_inferFrom_p47 rec hG σ x0 x1 x2 _ h
  have h : (rec tG_Sat_inferFrom_p10 σ [x0, x1, (x2 + 1)]) = some (σf, rf, dd) := h
  intro p e s m args below meth c F Lo mc ms cells slots σ0 w0 tx0 hF hLo hcq hsq hga C
  dsimp only at hF hLo hcq hsq ⊢
  have hcm : cells ≤ mc := by have := hmn.1; omega
  have hsm : slots ≤ ms := by have := hmn.2; omega
  have hle : True := trivial
  have hm : True := trivial
  refine ax_iinc (pc := 47) C (x2 + 1) d_Sat_inferFrom_47 3 rfl rfl (Nat.le_of_ble_eq_true rfl) ([(3, .int (x2 + 1)), (0, .ref (u 53)), (1, .int x0), (2, .int x1)]) rfl ?_
  refine ax_goto (pc := 50) C 10 d_Sat_inferFrom_50 (by decide) ?_
  refine ax_ls ([(0, .ref (u 53)), (1, .int x0), (2, .int x1), (3, .int (x2 + 1))]) [1, 2, 3, 0] rfl ?_
  replace hm : sG_Sat_inferFrom_p10 l D kA u σ [x0, x1, (x2 + 1)] (σf, rf, _) := ih tG_Sat_inferFrom_p10 _ _ _ h
  exact hm _ _ _ rfl w tx p e s m args below meth c F Lo mc ms cells slots σ0 w0 tx0 hF hLo hcq hsq hga C
set_option maxHeartbeats 4000000 in
set_option maxRecDepth 100000 in
theorem oG_Sat_inferFrom_p53 (l : Launch) (D : va_G) (kA : Nat → ClassId) (u : Nat → Nat) (rec : mF) (hG : GM rec) (ihC : ∀ (w : Nat → Nat) (tx : Value) t σ xs res, rec t σ xs = some res → cSem l D kA u w tx t σ xs res) (ih : ∀ t σ xs res, rec t σ xs = some res → gSem l D kA u t σ xs res) (σ : mS) (xs : List Int32) (res : mR) (h : u_3 (kG_Sat_inferFrom_p53 rec σ) xs = some res) : sG_Sat_inferFrom_p53 l D kA u σ xs res := by
  intro x0 x1 x2 hxs w tx
  subst hxs
  obtain ⟨σf, rf, dd⟩ := res
  have hmn : gle σ σf := qG_Sat_inferFrom_p53 rec hG σ x0 x1 x2 _ h
  have h : (bnd (rec tC_Sto_selectedOf σ [x0]) (fun σ1 r1 => if r1 = (-1) then (bnd (rec tG_Sat_factor σ1 [x0]) (fun σ4 r4 => rec tG_Sat_inferFrom_p86 σ4 [x0, x1, x2])) else (bnd (rec tC_Sto_selectedOf σ1 [x0]) (fun σ2 r2 => bnd (rec tG_Sat_resolve σ2 [x0, r2]) (fun σ3 r3 => rec tG_Sat_inferFrom_p86 σ3 [x0, x1, x2]))))) = some (σf, rf, dd) := h
  intro p e s m args below meth c F Lo mc ms cells slots σ0 w0 tx0 hF hLo hcq hsq hga C
  dsimp only at hF hLo hcq hsq ⊢
  have hcm : cells ≤ mc := by have := hmn.1; omega
  have hsm : slots ≤ ms := by have := hmn.2; omega
  have hle : True := trivial
  have hm : True := trivial
  refine ax_aload_n (pc := 53) C d_Sat_inferFrom_53 rfl 0 rfl ?_
  refine cg_53_9_Sat_27 (pc := 54) C d_Sat_inferFrom_54 ?_
  refine ax_iload_n (pc := 57) C d_Sat_inferFrom_57 rfl 1 rfl ?_
  replace h := it_b h
  obtain ⟨σ1, r1, d1_1, d2_1, h1, h, hd2, hd1⟩ := h
  replace hle := hG _ _ _ _ (by decide) h1
  dsimp only at hle
  replace hmn : gle σ1 σf := gm_use h (gm_if (gm_bnd hG (Nat.le_of_ble_eq_true rfl) (fun _ _ => (gm_tail hG (Nat.le_of_ble_eq_true rfl)))) (gm_bnd hG (Nat.le_of_ble_eq_true rfl) (fun _ _ => (gm_bnd hG (Nat.le_of_ble_eq_true rfl) (fun _ _ => (gm_tail hG (Nat.le_of_ble_eq_true rfl)))))))
  replace hm : sC_Sto_selectedOf l D kA u w tx σ [x0] (σ1, r1, d1_1) := ihC _ _ tC_Sto_selectedOf _ _ _ h1
  refine cc_Vi (pc := 58) C (r0 := r1) (σ2 := σ1) (As := [.int x0]) (rest := []) (hm _ rfl) ml_Sat_178 54 rfl rfl rfl d_Sat_inferFrom_58 rfl rfl (by dsimp only; omega) (by dsimp only; omega) hcm hsm (Nat.le_of_ble_eq_true rfl) ?_
  replace hcq : cells + σf.2.2 3001 ≤ mc + σ1.2.2 3001 := by have := hle.1; omega
  replace hsq : slots + σf.2.2 3002 ≤ ms + σ1.2.2 3002 := by have := hle.2; omega
  replace hF : d2_1 + 3 ≤ F := by omega
  replace hLo : 48 * d2_1 + 144 ≤ Lo := by omega
  refine ax_iconst (pc := 61) C (-1) d_Sat_inferFrom_61 (by decide +kernel) ?_
  refine ax_icmp_ne (pc := 62) C 73 d_Sat_inferFrom_62 (by decide) (fun hc => ?_) (fun hc => ?_)
  · replace h := it_f hc h
    refine ax_aload_n (pc := 73) C d_Sat_inferFrom_73 rfl 0 rfl ?_
    refine ax_iload_n (pc := 74) C d_Sat_inferFrom_74 rfl 1 rfl ?_
    refine ax_aload_n (pc := 75) C d_Sat_inferFrom_75 rfl 0 rfl ?_
    refine cg_53_9_Sat_27 (pc := 76) C d_Sat_inferFrom_76 ?_
    refine ax_iload_n (pc := 79) C d_Sat_inferFrom_79 rfl 1 rfl ?_
    replace h := it_b h
    obtain ⟨σ2, r2, d1_2, d2_2, h1, h, hd2, hd1⟩ := h
    replace hle := hG _ _ _ _ (by decide) h1
    dsimp only at hle
    replace hmn : gle σ2 σf := gm_use h (gm_bnd hG (Nat.le_of_ble_eq_true rfl) (fun _ _ => (gm_tail hG (Nat.le_of_ble_eq_true rfl))))
    replace hm : sC_Sto_selectedOf l D kA u w tx σ1 [x0] (σ2, r2, d1_2) := ihC _ _ tC_Sto_selectedOf _ _ _ h1
    refine cc_Vi (pc := 80) C (r0 := r2) (σ2 := σ2) (As := [.int x0]) (rest := [.int x0, .ref (u 53)]) (hm _ rfl) ml_Sat_178 54 rfl rfl rfl d_Sat_inferFrom_80 rfl rfl (by dsimp only; omega) (by dsimp only; omega) hcm hsm (Nat.le_of_ble_eq_true rfl) ?_
    replace hcq : cells + σf.2.2 3001 ≤ mc + σ2.2.2 3001 := by have := hle.1; omega
    replace hsq : slots + σf.2.2 3002 ≤ ms + σ2.2.2 3002 := by have := hle.2; omega
    replace hF : d2_2 + 3 ≤ F := by omega
    replace hLo : 48 * d2_2 + 144 ≤ Lo := by omega
    replace h := it_b h
    obtain ⟨σ3, r3, d1_3, d2_3, h1, h, hd2, hd1⟩ := h
    replace hle := hG _ _ _ _ (by decide) h1
    dsimp only at hle
    replace hmn : gle σ3 σf := gm_use h (gm_tail hG (Nat.le_of_ble_eq_true rfl))
    replace hm : sG_Sat_resolve l D kA u σ2 [x0, r2] (σ3, r3, d1_3) := ih tG_Sat_resolve _ _ _ h1
    refine gc_Vv (pc := 83) C (As := [.int x0, .int r2]) (rest := []) (hm _ _ rfl w tx) ml_Sat_184 53 rfl rfl rfl d_Sat_inferFrom_83 rfl rfl (by dsimp only; omega) (by dsimp only; omega) (by have := hmn.1; have := hle.1; dsimp only; omega) (by have := hmn.2; have := hle.2; dsimp only; omega) (Nat.le_of_ble_eq_true rfl) (fun w1 hw => ?_)
    obtain ⟨w3, tx3, hag3, htq3, hwq3⟩ := hw
    dsimp only at hwq3
    subst hwq3
    dsimp only
    replace htq3 := htq3.symm
    subst htq3
    have hga3 : ∀ i, ([48, 52, 65] : List Nat).elem i = false → w3 i = w0 i := fun i hi => (hag3 i (by revert hi; exact el_sub (by decide))).trans (hga i hi)
    replace hcq : (cells + (σ3.2.2 3001 - σ2.2.2 3001)) + σf.2.2 3001 ≤ mc + σ3.2.2 3001 := by have := hmn.1; have := hle.1; omega
    replace hcm : (cells + (σ3.2.2 3001 - σ2.2.2 3001)) ≤ mc := by have := hmn.1; have := hle.1; omega
    generalize cells + (σ3.2.2 3001 - σ2.2.2 3001) = cells at hcq hcm ⊢
    replace hsq : (slots + (σ3.2.2 3002 - σ2.2.2 3002)) + σf.2.2 3002 ≤ ms + σ3.2.2 3002 := by have := hmn.2; have := hle.2; omega
    replace hsm : (slots + (σ3.2.2 3002 - σ2.2.2 3002)) ≤ ms := by have := hmn.2; have := hle.2; omega
    generalize slots + (σ3.2.2 3002 - σ2.2.2 3002) = slots at hsq hsm ⊢
    replace hF : d2_3 + 3 ≤ F := by omega
    replace hLo : 48 * d2_3 + 144 ≤ Lo := by omega
    refine ax_ls ([(0, .ref (u 53)), (1, .int x0), (2, .int x1), (3, .int x2)]) [0, 1, 2, 3] rfl ?_
    replace hm : sG_Sat_inferFrom_p86 l D kA u σ3 [x0, x1, x2] (σf, rf, _) := ih tG_Sat_inferFrom_p86 _ _ _ h
    exact hm _ _ _ rfl w3 tx p e s m args below meth c F Lo mc ms cells slots σ0 w0 tx0 hF hLo hcq hsq hga3 C
  · replace h := it_t hc h
    refine ax_aload_n (pc := 65) C d_Sat_inferFrom_65 rfl 0 rfl ?_
    refine ax_iload_n (pc := 66) C d_Sat_inferFrom_66 rfl 1 rfl ?_
    replace h := it_b h
    obtain ⟨σ4, r4, d1_4, d2_4, h1, h, hd2, hd1⟩ := h
    replace hle := hG _ _ _ _ (by decide) h1
    dsimp only at hle
    replace hmn : gle σ4 σf := gm_use h (gm_tail hG (Nat.le_of_ble_eq_true rfl))
    replace hm : sG_Sat_factor l D kA u σ1 [x0] (σ4, r4, d1_4) := ih tG_Sat_factor _ _ _ h1
    refine gc_Vv (pc := 67) C (As := [.int x0]) (rest := []) (hm _ rfl w tx) ml_Sat_181 53 rfl rfl rfl d_Sat_inferFrom_67 rfl rfl (by dsimp only; omega) (by dsimp only; omega) (by have := hmn.1; have := hle.1; dsimp only; omega) (by have := hmn.2; have := hle.2; dsimp only; omega) (Nat.le_of_ble_eq_true rfl) (fun w1 hw => ?_)
    obtain ⟨w4, tx4, hag4, htq4, hwq4⟩ := hw
    dsimp only at hwq4
    subst hwq4
    dsimp only
    replace htq4 := htq4.symm
    subst htq4
    have hga4 : ∀ i, ([48, 52, 65] : List Nat).elem i = false → w4 i = w0 i := fun i hi => (hag4 i (by revert hi; exact el_sub (by decide))).trans (hga i hi)
    replace hcq : (cells + (σ4.2.2 3001 - σ1.2.2 3001)) + σf.2.2 3001 ≤ mc + σ4.2.2 3001 := by have := hmn.1; have := hle.1; omega
    replace hcm : (cells + (σ4.2.2 3001 - σ1.2.2 3001)) ≤ mc := by have := hmn.1; have := hle.1; omega
    generalize cells + (σ4.2.2 3001 - σ1.2.2 3001) = cells at hcq hcm ⊢
    replace hsq : (slots + (σ4.2.2 3002 - σ1.2.2 3002)) + σf.2.2 3002 ≤ ms + σ4.2.2 3002 := by have := hmn.2; have := hle.2; omega
    replace hsm : (slots + (σ4.2.2 3002 - σ1.2.2 3002)) ≤ ms := by have := hmn.2; have := hle.2; omega
    generalize slots + (σ4.2.2 3002 - σ1.2.2 3002) = slots at hsq hsm ⊢
    replace hF : d2_4 + 3 ≤ F := by omega
    replace hLo : 48 * d2_4 + 144 ≤ Lo := by omega
    refine ax_goto (pc := 70) C 86 d_Sat_inferFrom_70 (by decide) ?_
    refine ax_ls ([(0, .ref (u 53)), (1, .int x0), (2, .int x1), (3, .int x2)]) [0, 1, 2, 3] rfl ?_
    replace hm : sG_Sat_inferFrom_p86 l D kA u σ4 [x0, x1, x2] (σf, rf, _) := ih tG_Sat_inferFrom_p86 _ _ _ h
    exact hm _ _ _ rfl w4 tx p e s m args below meth c F Lo mc ms cells slots σ0 w0 tx0 hF hLo hcq hsq hga4 C
set_option maxHeartbeats 4000000 in
set_option maxRecDepth 100000 in
theorem oG_Sat_inferFrom_p86 (l : Launch) (D : va_G) (kA : Nat → ClassId) (u : Nat → Nat) (rec : mF) (hG : GM rec) (ihC : ∀ (w : Nat → Nat) (tx : Value) t σ xs res, rec t σ xs = some res → cSem l D kA u w tx t σ xs res) (ih : ∀ t σ xs res, rec t σ xs = some res → gSem l D kA u t σ xs res) (σ : mS) (xs : List Int32) (res : mR) (h : u_3 (kG_Sat_inferFrom_p86 rec σ) xs = some res) : sG_Sat_inferFrom_p86 l D kA u σ xs res := by
  intro x0 x1 x2 hxs w tx
  subst hxs
  obtain ⟨σf, rf, dd⟩ := res
  have hmn : gle σ σf := qG_Sat_inferFrom_p86 rec hG σ x0 x1 x2 _ h
  have h : (some (σ, 0, 0)) = some (σf, rf, dd) := h
  intro p e s m args below meth c F Lo mc ms cells slots σ0 w0 tx0 hF hLo hcq hsq hga C
  dsimp only at hF hLo hcq hsq ⊢
  have hcm : cells ≤ mc := by have := hmn.1; omega
  have hsm : slots ≤ ms := by have := hmn.2; omega
  have hle : True := trivial
  have hm : True := trivial
  cases h
  exact ax_vret (pc := 86) C d_Sat_inferFrom_86 ⟨w, tx, hga, rfl, rfl⟩ hcm hsm
set_option maxHeartbeats 4000000 in
set_option maxRecDepth 100000 in
theorem oG_Sat_keep (l : Launch) (D : va_G) (kA : Nat → ClassId) (u : Nat → Nat) (rec : mF) (hG : GM rec) (ihC : ∀ (w : Nat → Nat) (tx : Value) t σ xs res, rec t σ xs = some res → cSem l D kA u w tx t σ xs res) (ih : ∀ t σ xs res, rec t σ xs = some res → gSem l D kA u t σ xs res) (σ : mS) (xs : List Int32) (res : mR) (h : u_3 (kG_Sat_keep rec σ) xs = some res) : sG_Sat_keep l D kA u σ xs res := by
  intro x0 x1 x2 hxs w tx
  subst hxs
  obtain ⟨σf, rf, dd⟩ := res
  have hmn : gle σ σf := qG_Sat_keep rec hG σ x0 x1 x2 _ h
  have h : (lt_ (mI σ 5302 (((σ.1 5302) : Int32) + 1)) (fun σ1 => if (σ1.1 3907) = 0 then (bnd (rec tC_Dra_reduce σ1 []) (fun σ2 r2 => bnd (rec tC_Dra_isTautology σ2 []) (fun σ3 r3 => if r3 = 0 then (if (σ3.1 5402) = 2000 then (lt_ (mI σ3 5300 3) (fun σ5 => rec tG_Sat_keep_p97 σ5 [x0, x1, x2])) else (bnd (rec tG_Sto_add σ3 [x0, x1, x2]) (fun σ4 r4 => rec tG_Sat_keep_p97 σ4 [x0, x1, x2]))) else (lt_ (mI σ3 5306 (((σ3.1 5306) : Int32) + 1)) (fun σ6 => rec tG_Sat_keep_p97 σ6 [x0, x1, x2]))))) else (lt_ (mI σ1 5303 (((σ1.1 5303) : Int32) + 1)) (fun σ7 => some (σ7, 0, 0))))) = some (σf, rf, dd) := h
  refine ax_Mv.of (by decide +kernel) (Nat.le_of_ble_eq_true rfl) ?_
  intro p e s m args below meth c C hnm
  replace C : ax_C p s m args meth c b_Sat_keep "ClauseProver$Saturation" 4 none D kA (va_A (cpW kA u w tx σ) s.heap.size) := C
  obtain ⟨F, hFe⟩ : ∃ z, z = dd + 3 := ⟨_, rfl⟩
  obtain ⟨Lo, hLoe⟩ : ∃ z, z = 48 * dd + 144 := ⟨_, rfl⟩
  obtain ⟨mc, hmce⟩ : ∃ z, z = σf.2.2 3001 - σ.2.2 3001 := ⟨_, rfl⟩
  obtain ⟨ms, hmse⟩ : ∃ z, z = σf.2.2 3002 - σ.2.2 3002 := ⟨_, rfl⟩
  obtain ⟨σ0, hσ0e⟩ : ∃ z, z = σ := ⟨_, rfl⟩
  obtain ⟨w0, hw0e⟩ : ∃ z, z = w := ⟨_, rfl⟩
  obtain ⟨tx0, htx0e⟩ : ∃ z, z = tx := ⟨_, rfl⟩
  suffices K : ∀ (cells slots : Nat), cells = 0 → slots = 0 → AW p l e { frames := F, cells := mc, slots := ms, locals := Lo } s m args below meth c D kA (va_A (cpW kA u w0 tx0 σ0) s.heap.size) 4 (ax_Qv below args s D kA (cpW kA u w0 tx0 σ0) mc ms (fun w1 => ∃ (w2 : Nat → Nat) (tx2 : Value), (∀ i, ([48, 52] : List Nat).elem i = false → w2 i = w0 i) ∧ tx2 = tx0 ∧ w1 = cpW kA u w2 tx2 σf)) 0 [(0, .ref (u 53)), (1, .int x0), (2, .int x1), (3, .int x2)] [] (cpW kA u w tx σ) cells slots by
    have K := K 0 0 rfl rfl
    rw [hFe, hLoe, hmce, hmse, hσ0e, hw0e, htx0e] at K
    exact ax_ls ([(0, .ref (u 53)), (1, .int x0), (2, .int x1), (3, .int x2)]) [0, 1, 2, 3] rfl K
  replace C : ax_C p s m args meth c b_Sat_keep "ClauseProver$Saturation" 4 none D kA (va_A (cpW kA u w0 tx0 σ0) s.heap.size) := by rw [hσ0e, hw0e, htx0e]; exact C
  intro cells slots hc0 hs0
  have hcq : cells + σf.2.2 3001 ≤ mc + σ.2.2 3001 := by have := hmn.1; omega
  have hsq : slots + σf.2.2 3002 ≤ ms + σ.2.2 3002 := by have := hmn.2; omega
  have hga : ∀ i, ([48, 52] : List Nat).elem i = false → w i = w0 i := fun i _ => by rw [hw0e]
  have e9 : tx = tx0 := htx0e.symm
  subst e9
  have hF : dd + 3 ≤ F := by omega
  have hLo : 48 * dd + 144 ≤ Lo := by omega
  have hcm : cells ≤ mc := by have := hmn.1; omega
  have hsm : slots ≤ ms := by have := hmn.2; omega
  have hle : True := trivial
  have hm : True := trivial
  refine ax_aload_n (pc := 0) C d_Sat_keep_0 rfl 0 rfl ?_
  refine ax_dup (pc := 1) C d_Sat_keep_1 rfl ?_
  refine cg_53_2_Sat_65 (pc := 2) C d_Sat_keep_2 ?_
  refine ax_iconst (pc := 5) C 1 d_Sat_keep_5 (by decide +kernel) ?_
  refine ax_iadd (pc := 6) C d_Sat_keep_6 ?_
  refine cq_53_2_Sat_65 (pc := 7) C d_Sat_keep_7 ?_
  replace h := it_l h
  replace hcq : cells + σf.2.2 3001 ≤ mc + (mI σ 5302 (((σ.1 5302) : Int32) + 1)).2.2 3001 := hcq
  replace hsq : slots + σf.2.2 3002 ≤ ms + (mI σ 5302 (((σ.1 5302) : Int32) + 1)).2.2 3002 := hsq
  generalize mI σ 5302 (((σ.1 5302) : Int32) + 1) = σ1 at h hcq hsq ⊢
  refine ax_aload_n (pc := 10) C d_Sat_keep_10 rfl 0 rfl ?_
  refine cg_53_10_Sat_31 (pc := 11) C d_Sat_keep_11 ?_
  refine cg_39_7_Sat_252 (pc := 14) C d_Sat_keep_14 ?_
  refine ax_if_eq (pc := 17) C 31 d_Sat_keep_17 (by decide) (fun hc => ?_) (fun hc => ?_)
  · replace h := it_t hc h
    refine ax_aload_n (pc := 31) C d_Sat_keep_31 rfl 0 rfl ?_
    refine cg_53_10_Sat_31 (pc := 32) C d_Sat_keep_32 ?_
    replace h := it_b h
    obtain ⟨σ2, r2, d1_2, d2_2, h1, h, hd2, hd1⟩ := h
    replace hle := hG _ _ _ _ (by decide) h1
    dsimp only at hle
    replace hmn : gle σ2 σf := gm_use h (gm_bnd hG (Nat.le_of_ble_eq_true rfl) (fun _ _ => (gm_if (gm_if (gm_lt ⟨Nat.le_refl _, Nat.le_refl _, rfl⟩ (gm_tail hG (Nat.le_of_ble_eq_true rfl))) (gm_bnd hG (Nat.le_of_ble_eq_true rfl) (fun _ _ => (gm_tail hG (Nat.le_of_ble_eq_true rfl))))) (gm_lt ⟨Nat.le_refl _, Nat.le_refl _, rfl⟩ (gm_tail hG (Nat.le_of_ble_eq_true rfl))))))
    replace hm : sC_Dra_reduce l D kA u w tx σ1 [] (σ2, r2, d1_2) := ihC _ _ tC_Dra_reduce _ _ _ h1
    refine cc_Vv (pc := 35) C (σ2 := σ2) (As := []) (rest := []) (hm rfl) ml_Sat_136 39 rfl rfl rfl d_Sat_keep_35 rfl rfl (by dsimp only; omega) (by dsimp only; omega) hcm hsm (Nat.le_of_ble_eq_true rfl) ?_
    replace hcq : cells + σf.2.2 3001 ≤ mc + σ2.2.2 3001 := by have := hle.1; omega
    replace hsq : slots + σf.2.2 3002 ≤ ms + σ2.2.2 3002 := by have := hle.2; omega
    replace hF : d2_2 + 3 ≤ F := by omega
    replace hLo : 48 * d2_2 + 144 ≤ Lo := by omega
    refine ax_aload_n (pc := 38) C d_Sat_keep_38 rfl 0 rfl ?_
    refine cg_53_10_Sat_31 (pc := 39) C d_Sat_keep_39 ?_
    replace h := it_b h
    obtain ⟨σ3, r3, d1_3, d2_3, h1, h, hd2, hd1⟩ := h
    replace hle := hG _ _ _ _ (by decide) h1
    dsimp only at hle
    replace hmn : gle σ3 σf := gm_use h (gm_if (gm_if (gm_lt ⟨Nat.le_refl _, Nat.le_refl _, rfl⟩ (gm_tail hG (Nat.le_of_ble_eq_true rfl))) (gm_bnd hG (Nat.le_of_ble_eq_true rfl) (fun _ _ => (gm_tail hG (Nat.le_of_ble_eq_true rfl))))) (gm_lt ⟨Nat.le_refl _, Nat.le_refl _, rfl⟩ (gm_tail hG (Nat.le_of_ble_eq_true rfl))))
    replace hm : sC_Dra_isTautology l D kA u w tx σ2 [] (σ3, r3, d1_3) := ihC _ _ tC_Dra_isTautology _ _ _ h1
    refine cc_Vi (pc := 42) C (r0 := r3) (σ2 := σ3) (As := []) (rest := []) (hm rfl) ml_Sat_155 39 rfl rfl rfl d_Sat_keep_42 rfl rfl (by dsimp only; omega) (by dsimp only; omega) hcm hsm (Nat.le_of_ble_eq_true rfl) ?_
    replace hcq : cells + σf.2.2 3001 ≤ mc + σ3.2.2 3001 := by have := hle.1; omega
    replace hsq : slots + σf.2.2 3002 ≤ ms + σ3.2.2 3002 := by have := hle.2; omega
    replace hF : d2_3 + 3 ≤ F := by omega
    replace hLo : 48 * d2_3 + 144 ≤ Lo := by omega
    refine ax_if_eq (pc := 45) C 61 d_Sat_keep_45 (by decide) (fun hc => ?_) (fun hc => ?_)
    · replace h := it_t hc h
      refine ax_aload_n (pc := 61) C d_Sat_keep_61 rfl 0 rfl ?_
      refine cg_53_9_Sat_27 (pc := 62) C d_Sat_keep_62 ?_
      refine cg_54_2_Sat_112 (pc := 65) C d_Sat_keep_65 ?_
      refine ax_sipush (pc := 68) C 2000 d_Sat_keep_68 (by decide +kernel) ?_
      refine ax_icmp_ne (pc := 71) C 82 d_Sat_keep_71 (by decide) (fun hc => ?_) (fun hc => ?_)
      · replace h := it_f hc h
        refine ax_aload_n (pc := 82) C d_Sat_keep_82 rfl 0 rfl ?_
        refine cg_53_9_Sat_27 (pc := 83) C d_Sat_keep_83 ?_
        refine ax_aload_n (pc := 86) C d_Sat_keep_86 rfl 0 rfl ?_
        refine cg_53_10_Sat_31 (pc := 87) C d_Sat_keep_87 ?_
        refine ax_iload_n (pc := 90) C d_Sat_keep_90 rfl 1 rfl ?_
        refine ax_iload_n (pc := 91) C d_Sat_keep_91 rfl 2 rfl ?_
        refine ax_iload_n (pc := 92) C d_Sat_keep_92 rfl 3 rfl ?_
        replace h := it_b h
        obtain ⟨σ4, r4, d1_4, d2_4, h1, h, hd2, hd1⟩ := h
        replace hle := hG _ _ _ _ (by decide) h1
        dsimp only at hle
        replace hmn : gle σ4 σf := gm_use h (gm_tail hG (Nat.le_of_ble_eq_true rfl))
        replace hm : sG_Sto_add l D kA u σ3 [x0, x1, x2] (σ4, r4, d1_4) := ih tG_Sto_add _ _ _ h1
        refine gc_Vi (pc := 93) C (As := [.ref (u 39), .int x0, .int x1, .int x2]) (rest := []) (hm _ _ _ rfl w tx) ml_Sat_159 54 rfl rfl rfl d_Sat_keep_93 rfl rfl (by dsimp only; omega) (by dsimp only; omega) (by have := hmn.1; have := hle.1; dsimp only; omega) (by have := hmn.2; have := hle.2; dsimp only; omega) (Nat.le_of_ble_eq_true rfl) (fun r9 w1 hw => ?_)
        obtain ⟨hrq4, w4, tx4, hag4, htq4, hwq4⟩ := hw
        dsimp only at hwq4 hrq4
        subst hwq4
        replace hrq4 := hrq4.symm
        subst hrq4
        dsimp only
        replace htq4 := htq4.symm
        subst htq4
        have hga4 : ∀ i, ([48, 52] : List Nat).elem i = false → w4 i = w0 i := fun i hi => (hag4 i (by revert hi; exact el_sub (by decide))).trans (hga i hi)
        replace hcq : (cells + (σ4.2.2 3001 - σ3.2.2 3001)) + σf.2.2 3001 ≤ mc + σ4.2.2 3001 := by have := hmn.1; have := hle.1; omega
        replace hcm : (cells + (σ4.2.2 3001 - σ3.2.2 3001)) ≤ mc := by have := hmn.1; have := hle.1; omega
        generalize cells + (σ4.2.2 3001 - σ3.2.2 3001) = cells at hcq hcm ⊢
        replace hsq : (slots + (σ4.2.2 3002 - σ3.2.2 3002)) + σf.2.2 3002 ≤ ms + σ4.2.2 3002 := by have := hmn.2; have := hle.2; omega
        replace hsm : (slots + (σ4.2.2 3002 - σ3.2.2 3002)) ≤ ms := by have := hmn.2; have := hle.2; omega
        generalize slots + (σ4.2.2 3002 - σ3.2.2 3002) = slots at hsq hsm ⊢
        replace hF : d2_4 + 3 ≤ F := by omega
        replace hLo : 48 * d2_4 + 144 ≤ Lo := by omega
        refine ax_pop (pc := 96) C d_Sat_keep_96 rfl ?_
        refine ax_ls ([(0, .ref (u 53)), (1, .int x0), (2, .int x1), (3, .int x2)]) [0, 1, 2, 3] rfl ?_
        replace hm : sG_Sat_keep_p97 l D kA u σ4 [x0, x1, x2] (σf, rf, _) := ih tG_Sat_keep_p97 _ _ _ h
        exact hm _ _ _ rfl w4 tx p e s m args below meth c F Lo mc ms cells slots σ0 w0 tx hF hLo hcq hsq hga4 C
      · replace h := it_t hc h
        refine ax_aload_n (pc := 74) C d_Sat_keep_74 rfl 0 rfl ?_
        refine ax_iconst (pc := 75) C 3 d_Sat_keep_75 (by decide +kernel) ?_
        refine cq_53_0_Sat_58 (pc := 76) C d_Sat_keep_76 ?_
        replace h := it_l h
        replace hcq : cells + σf.2.2 3001 ≤ mc + (mI σ3 5300 3).2.2 3001 := hcq
        replace hsq : slots + σf.2.2 3002 ≤ ms + (mI σ3 5300 3).2.2 3002 := hsq
        generalize mI σ3 5300 3 = σ5 at h hcq hsq ⊢
        refine ax_goto (pc := 79) C 97 d_Sat_keep_79 (by decide) ?_
        refine ax_ls ([(0, .ref (u 53)), (1, .int x0), (2, .int x1), (3, .int x2)]) [0, 1, 2, 3] rfl ?_
        replace hm : sG_Sat_keep_p97 l D kA u σ5 [x0, x1, x2] (σf, rf, _) := ih tG_Sat_keep_p97 _ _ _ h
        exact hm _ _ _ rfl w tx p e s m args below meth c F Lo mc ms cells slots σ0 w0 tx hF hLo hcq hsq hga C
    · replace h := it_f hc h
      refine ax_aload_n (pc := 48) C d_Sat_keep_48 rfl 0 rfl ?_
      refine ax_dup (pc := 49) C d_Sat_keep_49 rfl ?_
      refine cg_53_6_Sat_77 (pc := 50) C d_Sat_keep_50 ?_
      refine ax_iconst (pc := 53) C 1 d_Sat_keep_53 (by decide +kernel) ?_
      refine ax_iadd (pc := 54) C d_Sat_keep_54 ?_
      refine cq_53_6_Sat_77 (pc := 55) C d_Sat_keep_55 ?_
      replace h := it_l h
      replace hcq : cells + σf.2.2 3001 ≤ mc + (mI σ3 5306 (((σ3.1 5306) : Int32) + 1)).2.2 3001 := hcq
      replace hsq : slots + σf.2.2 3002 ≤ ms + (mI σ3 5306 (((σ3.1 5306) : Int32) + 1)).2.2 3002 := hsq
      generalize mI σ3 5306 (((σ3.1 5306) : Int32) + 1) = σ6 at h hcq hsq ⊢
      refine ax_goto (pc := 58) C 97 d_Sat_keep_58 (by decide) ?_
      refine ax_ls ([(0, .ref (u 53)), (1, .int x0), (2, .int x1), (3, .int x2)]) [0, 1, 2, 3] rfl ?_
      replace hm : sG_Sat_keep_p97 l D kA u σ6 [x0, x1, x2] (σf, rf, _) := ih tG_Sat_keep_p97 _ _ _ h
      exact hm _ _ _ rfl w tx p e s m args below meth c F Lo mc ms cells slots σ0 w0 tx hF hLo hcq hsq hga C
  · replace h := it_f hc h
    refine ax_aload_n (pc := 20) C d_Sat_keep_20 rfl 0 rfl ?_
    refine ax_dup (pc := 21) C d_Sat_keep_21 rfl ?_
    refine cg_53_3_Sat_68 (pc := 22) C d_Sat_keep_22 ?_
    refine ax_iconst (pc := 25) C 1 d_Sat_keep_25 (by decide +kernel) ?_
    refine ax_iadd (pc := 26) C d_Sat_keep_26 ?_
    refine cq_53_3_Sat_68 (pc := 27) C d_Sat_keep_27 ?_
    replace h := it_l h
    replace hcq : cells + σf.2.2 3001 ≤ mc + (mI σ1 5303 (((σ1.1 5303) : Int32) + 1)).2.2 3001 := hcq
    replace hsq : slots + σf.2.2 3002 ≤ ms + (mI σ1 5303 (((σ1.1 5303) : Int32) + 1)).2.2 3002 := hsq
    generalize mI σ1 5303 (((σ1.1 5303) : Int32) + 1) = σ7 at h hcq hsq ⊢
    cases h
    exact ax_vret (pc := 30) C d_Sat_keep_30 ⟨w, tx, hga, rfl, rfl⟩ hcm hsm
set_option maxHeartbeats 4000000 in
set_option maxRecDepth 100000 in
theorem oG_Sat_keep_p97 (l : Launch) (D : va_G) (kA : Nat → ClassId) (u : Nat → Nat) (rec : mF) (hG : GM rec) (ihC : ∀ (w : Nat → Nat) (tx : Value) t σ xs res, rec t σ xs = some res → cSem l D kA u w tx t σ xs res) (ih : ∀ t σ xs res, rec t σ xs = some res → gSem l D kA u t σ xs res) (σ : mS) (xs : List Int32) (res : mR) (h : u_3 (kG_Sat_keep_p97 rec σ) xs = some res) : sG_Sat_keep_p97 l D kA u σ xs res := by
  intro x0 x1 x2 hxs w tx
  subst hxs
  obtain ⟨σf, rf, dd⟩ := res
  have hmn : gle σ σf := qG_Sat_keep_p97 rec hG σ x0 x1 x2 _ h
  have h : (some (σ, 0, 0)) = some (σf, rf, dd) := h
  intro p e s m args below meth c F Lo mc ms cells slots σ0 w0 tx0 hF hLo hcq hsq hga C
  dsimp only at hF hLo hcq hsq ⊢
  have hcm : cells ≤ mc := by have := hmn.1; omega
  have hsm : slots ≤ ms := by have := hmn.2; omega
  have hle : True := trivial
  have hm : True := trivial
  cases h
  exact ax_vret (pc := 97) C d_Sat_keep_97 ⟨w, tx, hga, rfl, rfl⟩ hcm hsm
set_option maxHeartbeats 4000000 in
set_option maxRecDepth 100000 in
theorem oG_Sat_keepRewritten (l : Launch) (D : va_G) (kA : Nat → ClassId) (u : Nat → Nat) (rec : mF) (hG : GM rec) (ihC : ∀ (w : Nat → Nat) (tx : Value) t σ xs res, rec t σ xs = some res → cSem l D kA u w tx t σ xs res) (ih : ∀ t σ xs res, rec t σ xs = some res → gSem l D kA u t σ xs res) (σ : mS) (xs : List Int32) (res : mR) (h : u_2 (kG_Sat_keepRewritten rec σ) xs = some res) : sG_Sat_keepRewritten l D kA u σ xs res := by
  intro x0 x1 hxs w tx
  subst hxs
  obtain ⟨σf, rf, dd⟩ := res
  have hmn : gle σ σf := qG_Sat_keepRewritten rec hG σ x0 x1 _ h
  have h : (bnd (rec tC_Dra_isTautology σ []) (fun σ1 r1 => if r1 = 0 then (if (σ1.1 5402) = 2000 then (lt_ (mI σ1 5300 3) (fun σ6 => some (σ6, (-1), 0))) else (bnd (rec tG_Sto_add σ1 [4, x0, (-1)]) (fun σ2 r2 => bnd (rec tC_Sto_setFact σ2 [r2, 6, 2]) (fun σ3 r3 => bnd (rec tC_Sto_setFact σ3 [r2, 7, (((σ3.1 4901) : Int32) - x1)]) (fun σ4 r4 => bnd (rec tC_Sto_setFact σ4 [r2, 9, x1]) (fun σ5 r5 => some (σ5, r2, 0))))))) else (lt_ (mI σ1 5306 (((σ1.1 5306) : Int32) + 1)) (fun σ7 => some (σ7, (-1), 0))))) = some (σf, rf, dd) := h
  refine ax_Mi.of (by decide +kernel) (Nat.le_of_ble_eq_true rfl) ?_
  intro p e s m args below meth c C hnm
  replace C : ax_C p s m args meth c b_Sat_keepRewritten "ClauseProver$Saturation" 4 (some .int) D kA (va_A (cpW kA u w tx σ) s.heap.size) := C
  obtain ⟨F, hFe⟩ : ∃ z, z = dd + 3 := ⟨_, rfl⟩
  obtain ⟨Lo, hLoe⟩ : ∃ z, z = 48 * dd + 144 := ⟨_, rfl⟩
  obtain ⟨mc, hmce⟩ : ∃ z, z = σf.2.2 3001 - σ.2.2 3001 := ⟨_, rfl⟩
  obtain ⟨ms, hmse⟩ : ∃ z, z = σf.2.2 3002 - σ.2.2 3002 := ⟨_, rfl⟩
  obtain ⟨σ0, hσ0e⟩ : ∃ z, z = σ := ⟨_, rfl⟩
  obtain ⟨w0, hw0e⟩ : ∃ z, z = w := ⟨_, rfl⟩
  obtain ⟨tx0, htx0e⟩ : ∃ z, z = tx := ⟨_, rfl⟩
  suffices K : ∀ (cells slots : Nat), cells = 0 → slots = 0 → AW p l e { frames := F, cells := mc, slots := ms, locals := Lo } s m args below meth c D kA (va_A (cpW kA u w0 tx0 σ0) s.heap.size) 4 (ax_Qi below args s D kA (cpW kA u w0 tx0 σ0) mc ms (fun r w1 => r = rf ∧ ∃ (w2 : Nat → Nat) (tx2 : Value), (∀ i, ([48, 52] : List Nat).elem i = false → w2 i = w0 i) ∧ tx2 = tx0 ∧ w1 = cpW kA u w2 tx2 σf)) 0 [(0, .ref (u 53)), (1, .int x0), (2, .int x1)] [] (cpW kA u w tx σ) cells slots by
    have K := K 0 0 rfl rfl
    rw [hFe, hLoe, hmce, hmse, hσ0e, hw0e, htx0e] at K
    exact ax_ls ([(0, .ref (u 53)), (1, .int x0), (2, .int x1)]) [0, 1, 2] rfl K
  replace C : ax_C p s m args meth c b_Sat_keepRewritten "ClauseProver$Saturation" 4 (some .int) D kA (va_A (cpW kA u w0 tx0 σ0) s.heap.size) := by rw [hσ0e, hw0e, htx0e]; exact C
  intro cells slots hc0 hs0
  have hcq : cells + σf.2.2 3001 ≤ mc + σ.2.2 3001 := by have := hmn.1; omega
  have hsq : slots + σf.2.2 3002 ≤ ms + σ.2.2 3002 := by have := hmn.2; omega
  have hga : ∀ i, ([48, 52] : List Nat).elem i = false → w i = w0 i := fun i _ => by rw [hw0e]
  have e9 : tx = tx0 := htx0e.symm
  subst e9
  have hF : dd + 3 ≤ F := by omega
  have hLo : 48 * dd + 144 ≤ Lo := by omega
  have hcm : cells ≤ mc := by have := hmn.1; omega
  have hsm : slots ≤ ms := by have := hmn.2; omega
  have hle : True := trivial
  have hm : True := trivial
  refine ax_aload_n (pc := 0) C d_Sat_keepRewritten_0 rfl 0 rfl ?_
  refine cg_53_10_Sat_31 (pc := 1) C d_Sat_keepRewritten_1 ?_
  replace h := it_b h
  obtain ⟨σ1, r1, d1_1, d2_1, h1, h, hd2, hd1⟩ := h
  replace hle := hG _ _ _ _ (by decide) h1
  dsimp only at hle
  replace hmn : gle σ1 σf := gm_use h (gm_if (gm_if (gm_lt ⟨Nat.le_refl _, Nat.le_refl _, rfl⟩ gm_some) (gm_bnd hG (Nat.le_of_ble_eq_true rfl) (fun _ _ => (gm_bnd hG (Nat.le_of_ble_eq_true rfl) (fun _ _ => (gm_bnd hG (Nat.le_of_ble_eq_true rfl) (fun _ _ => (gm_bnd hG (Nat.le_of_ble_eq_true rfl) (fun _ _ => gm_some))))))))) (gm_lt ⟨Nat.le_refl _, Nat.le_refl _, rfl⟩ gm_some))
  replace hm : sC_Dra_isTautology l D kA u w tx σ [] (σ1, r1, d1_1) := ihC _ _ tC_Dra_isTautology _ _ _ h1
  refine cc_Vi (pc := 4) C (r0 := r1) (σ2 := σ1) (As := []) (rest := []) (hm rfl) ml_Sat_155 39 rfl rfl rfl d_Sat_keepRewritten_4 rfl rfl (by dsimp only; omega) (by dsimp only; omega) hcm hsm (Nat.le_of_ble_eq_true rfl) ?_
  replace hcq : cells + σf.2.2 3001 ≤ mc + σ1.2.2 3001 := by have := hle.1; omega
  replace hsq : slots + σf.2.2 3002 ≤ ms + σ1.2.2 3002 := by have := hle.2; omega
  replace hF : d2_1 + 3 ≤ F := by omega
  replace hLo : 48 * d2_1 + 144 ≤ Lo := by omega
  refine ax_if_eq (pc := 7) C 22 d_Sat_keepRewritten_7 (by decide) (fun hc => ?_) (fun hc => ?_)
  · replace h := it_t hc h
    refine ax_aload_n (pc := 22) C d_Sat_keepRewritten_22 rfl 0 rfl ?_
    refine cg_53_9_Sat_27 (pc := 23) C d_Sat_keepRewritten_23 ?_
    refine cg_54_2_Sat_112 (pc := 26) C d_Sat_keepRewritten_26 ?_
    refine ax_sipush (pc := 29) C 2000 d_Sat_keepRewritten_29 (by decide +kernel) ?_
    refine ax_icmp_ne (pc := 32) C 42 d_Sat_keepRewritten_32 (by decide) (fun hc => ?_) (fun hc => ?_)
    · replace h := it_f hc h
      refine ax_aload_n (pc := 42) C d_Sat_keepRewritten_42 rfl 0 rfl ?_
      refine cg_53_9_Sat_27 (pc := 43) C d_Sat_keepRewritten_43 ?_
      refine ax_aload_n (pc := 46) C d_Sat_keepRewritten_46 rfl 0 rfl ?_
      refine cg_53_10_Sat_31 (pc := 47) C d_Sat_keepRewritten_47 ?_
      refine ax_iconst (pc := 50) C 4 d_Sat_keepRewritten_50 (by decide +kernel) ?_
      refine ax_iload_n (pc := 51) C d_Sat_keepRewritten_51 rfl 1 rfl ?_
      refine ax_iconst (pc := 52) C (-1) d_Sat_keepRewritten_52 (by decide +kernel) ?_
      replace h := it_b h
      obtain ⟨σ2, r2, d1_2, d2_2, h1, h, hd2, hd1⟩ := h
      replace hle := hG _ _ _ _ (by decide) h1
      dsimp only at hle
      replace hmn : gle σ2 σf := gm_use h (gm_bnd hG (Nat.le_of_ble_eq_true rfl) (fun _ _ => (gm_bnd hG (Nat.le_of_ble_eq_true rfl) (fun _ _ => (gm_bnd hG (Nat.le_of_ble_eq_true rfl) (fun _ _ => gm_some))))))
      replace hm : sG_Sto_add l D kA u σ1 [4, x0, (-1)] (σ2, r2, d1_2) := ih tG_Sto_add _ _ _ h1
      refine gc_Vi (pc := 53) C (As := [.ref (u 39), .int 4, .int x0, .int (-1)]) (rest := []) (hm _ _ _ rfl w tx) ml_Sat_159 54 rfl rfl rfl d_Sat_keepRewritten_53 rfl rfl (by dsimp only; omega) (by dsimp only; omega) (by have := hmn.1; have := hle.1; dsimp only; omega) (by have := hmn.2; have := hle.2; dsimp only; omega) (Nat.le_of_ble_eq_true rfl) (fun r9 w1 hw => ?_)
      obtain ⟨hrq2, w2, tx2, hag2, htq2, hwq2⟩ := hw
      dsimp only at hwq2 hrq2
      subst hwq2
      replace hrq2 := hrq2.symm
      subst hrq2
      dsimp only
      replace htq2 := htq2.symm
      subst htq2
      have hga2 : ∀ i, ([48, 52] : List Nat).elem i = false → w2 i = w0 i := fun i hi => (hag2 i (by revert hi; exact el_sub (by decide))).trans (hga i hi)
      replace hcq : (cells + (σ2.2.2 3001 - σ1.2.2 3001)) + σf.2.2 3001 ≤ mc + σ2.2.2 3001 := by have := hmn.1; have := hle.1; omega
      replace hcm : (cells + (σ2.2.2 3001 - σ1.2.2 3001)) ≤ mc := by have := hmn.1; have := hle.1; omega
      generalize cells + (σ2.2.2 3001 - σ1.2.2 3001) = cells at hcq hcm ⊢
      replace hsq : (slots + (σ2.2.2 3002 - σ1.2.2 3002)) + σf.2.2 3002 ≤ ms + σ2.2.2 3002 := by have := hmn.2; have := hle.2; omega
      replace hsm : (slots + (σ2.2.2 3002 - σ1.2.2 3002)) ≤ ms := by have := hmn.2; have := hle.2; omega
      generalize slots + (σ2.2.2 3002 - σ1.2.2 3002) = slots at hsq hsm ⊢
      replace hF : d2_2 + 3 ≤ F := by omega
      replace hLo : 48 * d2_2 + 144 ≤ Lo := by omega
      refine ax_istore_n (pc := 56) C d_Sat_keepRewritten_56 rfl (Nat.le_of_ble_eq_true rfl) ([(3, .int r2), (0, .ref (u 53)), (1, .int x0), (2, .int x1)]) rfl ?_
      refine ax_aload_n (pc := 57) C d_Sat_keepRewritten_57 rfl 1 rfl ?_
      refine cg_53_9_Sat_27 (pc := 58) C d_Sat_keepRewritten_58 ?_
      refine ax_iload_n (pc := 61) C d_Sat_keepRewritten_61 rfl 0 rfl ?_
      refine ax_bipush (pc := 62) C 6 d_Sat_keepRewritten_62 (by decide +kernel) ?_
      refine ax_iconst (pc := 64) C 2 d_Sat_keepRewritten_64 (by decide +kernel) ?_
      replace h := it_b h
      obtain ⟨σ3, r3, d1_3, d2_3, h1, h, hd2, hd1⟩ := h
      replace hle := hG _ _ _ _ (by decide) h1
      dsimp only at hle
      replace hmn : gle σ3 σf := gm_use h (gm_bnd hG (Nat.le_of_ble_eq_true rfl) (fun _ _ => (gm_bnd hG (Nat.le_of_ble_eq_true rfl) (fun _ _ => gm_some))))
      replace hm : sC_Sto_setFact l D kA u w2 tx σ2 [r2, 6, 2] (σ3, r3, d1_3) := ihC _ _ tC_Sto_setFact _ _ _ h1
      refine cc_Vv (pc := 65) C (σ2 := σ3) (As := [.int r2, .int 6, .int 2]) (rest := []) (hm _ _ _ rfl) ml_Sat_87 54 rfl rfl rfl d_Sat_keepRewritten_65 rfl rfl (by dsimp only; omega) (by dsimp only; omega) hcm hsm (Nat.le_of_ble_eq_true rfl) ?_
      replace hcq : cells + σf.2.2 3001 ≤ mc + σ3.2.2 3001 := by have := hle.1; omega
      replace hsq : slots + σf.2.2 3002 ≤ ms + σ3.2.2 3002 := by have := hle.2; omega
      replace hF : d2_3 + 3 ≤ F := by omega
      replace hLo : 48 * d2_3 + 144 ≤ Lo := by omega
      refine ax_aload_n (pc := 68) C d_Sat_keepRewritten_68 rfl 1 rfl ?_
      refine cg_53_9_Sat_27 (pc := 69) C d_Sat_keepRewritten_69 ?_
      refine ax_iload_n (pc := 72) C d_Sat_keepRewritten_72 rfl 0 rfl ?_
      refine ax_bipush (pc := 73) C 7 d_Sat_keepRewritten_73 (by decide +kernel) ?_
      refine ax_aload_n (pc := 75) C d_Sat_keepRewritten_75 rfl 1 rfl ?_
      refine cg_53_9_Sat_27 (pc := 76) C d_Sat_keepRewritten_76 ?_
      refine cg_54_1_Sat_125 (pc := 79) C d_Sat_keepRewritten_79 ?_
      refine cg_49_1_Sat_80 (pc := 82) C d_Sat_keepRewritten_82 ?_
      refine ax_iload_n (pc := 85) C d_Sat_keepRewritten_85 rfl 3 rfl ?_
      refine ax_isub (pc := 86) C d_Sat_keepRewritten_86 ?_
      replace h := it_b h
      obtain ⟨σ4, r4, d1_4, d2_4, h1, h, hd2, hd1⟩ := h
      replace hle := hG _ _ _ _ (by decide) h1
      dsimp only at hle
      replace hmn : gle σ4 σf := gm_use h (gm_bnd hG (Nat.le_of_ble_eq_true rfl) (fun _ _ => gm_some))
      replace hm : sC_Sto_setFact l D kA u w2 tx σ3 [r2, 7, (((σ3.1 4901) : Int32) - x1)] (σ4, r4, d1_4) := ihC _ _ tC_Sto_setFact _ _ _ h1
      refine cc_Vv (pc := 87) C (σ2 := σ4) (As := [.int r2, .int 7, .int (((σ3.1 4901) : Int32) - x1)]) (rest := []) (hm _ _ _ rfl) ml_Sat_87 54 rfl rfl rfl d_Sat_keepRewritten_87 rfl rfl (by dsimp only; omega) (by dsimp only; omega) hcm hsm (Nat.le_of_ble_eq_true rfl) ?_
      replace hcq : cells + σf.2.2 3001 ≤ mc + σ4.2.2 3001 := by have := hle.1; omega
      replace hsq : slots + σf.2.2 3002 ≤ ms + σ4.2.2 3002 := by have := hle.2; omega
      replace hF : d2_4 + 3 ≤ F := by omega
      replace hLo : 48 * d2_4 + 144 ≤ Lo := by omega
      refine ax_aload_n (pc := 90) C d_Sat_keepRewritten_90 rfl 1 rfl ?_
      refine cg_53_9_Sat_27 (pc := 91) C d_Sat_keepRewritten_91 ?_
      refine ax_iload_n (pc := 94) C d_Sat_keepRewritten_94 rfl 0 rfl ?_
      refine ax_bipush (pc := 95) C 9 d_Sat_keepRewritten_95 (by decide +kernel) ?_
      refine ax_iload_n (pc := 97) C d_Sat_keepRewritten_97 rfl 3 rfl ?_
      replace h := it_b h
      obtain ⟨σ5, r5, d1_5, d2_5, h1, h, hd2, hd1⟩ := h
      replace hle := hG _ _ _ _ (by decide) h1
      dsimp only at hle
      replace hmn : gle σ5 σf := gm_use h gm_some
      replace hm : sC_Sto_setFact l D kA u w2 tx σ4 [r2, 9, x1] (σ5, r5, d1_5) := ihC _ _ tC_Sto_setFact _ _ _ h1
      refine cc_Vv (pc := 98) C (σ2 := σ5) (As := [.int r2, .int 9, .int x1]) (rest := []) (hm _ _ _ rfl) ml_Sat_87 54 rfl rfl rfl d_Sat_keepRewritten_98 rfl rfl (by dsimp only; omega) (by dsimp only; omega) hcm hsm (Nat.le_of_ble_eq_true rfl) ?_
      replace hcq : cells + σf.2.2 3001 ≤ mc + σ5.2.2 3001 := by have := hle.1; omega
      replace hsq : slots + σf.2.2 3002 ≤ ms + σ5.2.2 3002 := by have := hle.2; omega
      replace hF : d2_5 + 3 ≤ F := by omega
      replace hLo : 48 * d2_5 + 144 ≤ Lo := by omega
      refine ax_iload_n (pc := 101) C d_Sat_keepRewritten_101 rfl 0 rfl ?_
      cases h
      exact ax_iret (pc := 102) C d_Sat_keepRewritten_102 ⟨rfl, w2, tx, hga2, rfl, rfl⟩ hcm hsm
    · replace h := it_t hc h
      refine ax_aload_n (pc := 35) C d_Sat_keepRewritten_35 rfl 0 rfl ?_
      refine ax_iconst (pc := 36) C 3 d_Sat_keepRewritten_36 (by decide +kernel) ?_
      refine cq_53_0_Sat_58 (pc := 37) C d_Sat_keepRewritten_37 ?_
      replace h := it_l h
      replace hcq : cells + σf.2.2 3001 ≤ mc + (mI σ1 5300 3).2.2 3001 := hcq
      replace hsq : slots + σf.2.2 3002 ≤ ms + (mI σ1 5300 3).2.2 3002 := hsq
      generalize mI σ1 5300 3 = σ6 at h hcq hsq ⊢
      refine ax_iconst (pc := 40) C (-1) d_Sat_keepRewritten_40 (by decide +kernel) ?_
      cases h
      exact ax_iret (pc := 41) C d_Sat_keepRewritten_41 ⟨rfl, w, tx, hga, rfl, rfl⟩ hcm hsm
  · replace h := it_f hc h
    refine ax_aload_n (pc := 10) C d_Sat_keepRewritten_10 rfl 0 rfl ?_
    refine ax_dup (pc := 11) C d_Sat_keepRewritten_11 rfl ?_
    refine cg_53_6_Sat_77 (pc := 12) C d_Sat_keepRewritten_12 ?_
    refine ax_iconst (pc := 15) C 1 d_Sat_keepRewritten_15 (by decide +kernel) ?_
    refine ax_iadd (pc := 16) C d_Sat_keepRewritten_16 ?_
    refine cq_53_6_Sat_77 (pc := 17) C d_Sat_keepRewritten_17 ?_
    replace h := it_l h
    replace hcq : cells + σf.2.2 3001 ≤ mc + (mI σ1 5306 (((σ1.1 5306) : Int32) + 1)).2.2 3001 := hcq
    replace hsq : slots + σf.2.2 3002 ≤ ms + (mI σ1 5306 (((σ1.1 5306) : Int32) + 1)).2.2 3002 := hsq
    generalize mI σ1 5306 (((σ1.1 5306) : Int32) + 1) = σ7 at h hcq hsq ⊢
    refine ax_iconst (pc := 20) C (-1) d_Sat_keepRewritten_20 (by decide +kernel) ?_
    cases h
    exact ax_iret (pc := 21) C d_Sat_keepRewritten_21 ⟨rfl, w, tx, hga, rfl, rfl⟩ hcm hsm
set_option maxHeartbeats 4000000 in
set_option maxRecDepth 100000 in
theorem oG_Sat_listSingles (l : Launch) (D : va_G) (kA : Nat → ClassId) (u : Nat → Nat) (rec : mF) (hG : GM rec) (ihC : ∀ (w : Nat → Nat) (tx : Value) t σ xs res, rec t σ xs = some res → cSem l D kA u w tx t σ xs res) (ih : ∀ t σ xs res, rec t σ xs = some res → gSem l D kA u t σ xs res) (σ : mS) (xs : List Int32) (res : mR) (h : u_0 (kG_Sat_listSingles rec σ) xs = some res) : sG_Sat_listSingles l D kA u σ xs res := by
  intro hxs w tx
  subst hxs
  obtain ⟨σf, rf, dd⟩ := res
  have hmn : gle σ σf := qG_Sat_listSingles rec hG σ _ h
  have h : (lt_ (mI σ 5701 0) (fun σ1 => rec tG_Sat_listSingles_p10 σ1 [0])) = some (σf, rf, dd) := h
  refine ax_Mv.of (by decide +kernel) (Nat.le_of_ble_eq_true rfl) ?_
  intro p e s m args below meth c C hnm
  replace C : ax_C p s m args meth c b_Sat_listSingles "ClauseProver$Saturation" 2 none D kA (va_A (cpW kA u w tx σ) s.heap.size) := C
  obtain ⟨F, hFe⟩ : ∃ z, z = dd + 3 := ⟨_, rfl⟩
  obtain ⟨Lo, hLoe⟩ : ∃ z, z = 48 * dd + 144 := ⟨_, rfl⟩
  obtain ⟨mc, hmce⟩ : ∃ z, z = σf.2.2 3001 - σ.2.2 3001 := ⟨_, rfl⟩
  obtain ⟨ms, hmse⟩ : ∃ z, z = σf.2.2 3002 - σ.2.2 3002 := ⟨_, rfl⟩
  obtain ⟨σ0, hσ0e⟩ : ∃ z, z = σ := ⟨_, rfl⟩
  obtain ⟨w0, hw0e⟩ : ∃ z, z = w := ⟨_, rfl⟩
  obtain ⟨tx0, htx0e⟩ : ∃ z, z = tx := ⟨_, rfl⟩
  suffices K : ∀ (cells slots : Nat), cells = 0 → slots = 0 → AW p l e { frames := F, cells := mc, slots := ms, locals := Lo } s m args below meth c D kA (va_A (cpW kA u w0 tx0 σ0) s.heap.size) 2 (ax_Qv below args s D kA (cpW kA u w0 tx0 σ0) mc ms (fun w1 => ∃ (w2 : Nat → Nat) (tx2 : Value), (∀ i, ([58] : List Nat).elem i = false → w2 i = w0 i) ∧ tx2 = tx0 ∧ w1 = cpW kA u w2 tx2 σf)) 0 [(0, .ref (u 53))] [] (cpW kA u w tx σ) cells slots by
    have K := K 0 0 rfl rfl
    rw [hFe, hLoe, hmce, hmse, hσ0e, hw0e, htx0e] at K
    exact ax_ls ([(0, .ref (u 53))]) [0] rfl K
  replace C : ax_C p s m args meth c b_Sat_listSingles "ClauseProver$Saturation" 2 none D kA (va_A (cpW kA u w0 tx0 σ0) s.heap.size) := by rw [hσ0e, hw0e, htx0e]; exact C
  intro cells slots hc0 hs0
  have hcq : cells + σf.2.2 3001 ≤ mc + σ.2.2 3001 := by have := hmn.1; omega
  have hsq : slots + σf.2.2 3002 ≤ ms + σ.2.2 3002 := by have := hmn.2; omega
  have hga : ∀ i, ([58] : List Nat).elem i = false → w i = w0 i := fun i _ => by rw [hw0e]
  have e9 : tx = tx0 := htx0e.symm
  subst e9
  have hF : dd + 3 ≤ F := by omega
  have hLo : 48 * dd + 144 ≤ Lo := by omega
  have hcm : cells ≤ mc := by have := hmn.1; omega
  have hsm : slots ≤ ms := by have := hmn.2; omega
  have hle : True := trivial
  have hm : True := trivial
  refine ax_aload_n (pc := 0) C d_Sat_listSingles_0 rfl 0 rfl ?_
  refine cg_53_13_Sat_20 (pc := 1) C d_Sat_listSingles_1 ?_
  refine ax_iconst (pc := 4) C 0 d_Sat_listSingles_4 (by decide +kernel) ?_
  refine cq_57_1_Sat_80 (pc := 5) C d_Sat_listSingles_5 ?_
  replace h := it_l h
  replace hcq : cells + σf.2.2 3001 ≤ mc + (mI σ 5701 0).2.2 3001 := hcq
  replace hsq : slots + σf.2.2 3002 ≤ ms + (mI σ 5701 0).2.2 3002 := hsq
  generalize mI σ 5701 0 = σ1 at h hcq hsq ⊢
  refine ax_iconst (pc := 8) C 0 d_Sat_listSingles_8 (by decide +kernel) ?_
  refine ax_istore_n (pc := 9) C d_Sat_listSingles_9 rfl (Nat.le_of_ble_eq_true rfl) ([(1, .int 0), (0, .ref (u 53))]) rfl ?_
  refine ax_ls ([(0, .ref (u 53)), (1, .int 0)]) [1, 0] rfl ?_
  replace hm : sG_Sat_listSingles_p10 l D kA u σ1 [0] (σf, rf, _) := ih tG_Sat_listSingles_p10 _ _ _ h
  exact hm _ rfl w tx p e s m args below meth c F Lo mc ms cells slots σ0 w0 tx hF hLo hcq hsq hga C
set_option maxHeartbeats 4000000 in
set_option maxRecDepth 100000 in
theorem oG_Sat_listSingles_p10 (l : Launch) (D : va_G) (kA : Nat → ClassId) (u : Nat → Nat) (rec : mF) (hG : GM rec) (ihC : ∀ (w : Nat → Nat) (tx : Value) t σ xs res, rec t σ xs = some res → cSem l D kA u w tx t σ xs res) (ih : ∀ t σ xs res, rec t σ xs = some res → gSem l D kA u t σ xs res) (σ : mS) (xs : List Int32) (res : mR) (h : u_1 (kG_Sat_listSingles_p10 rec σ) xs = some res) : sG_Sat_listSingles_p10 l D kA u σ xs res := by
  intro x0 hxs w tx
  subst hxs
  obtain ⟨σf, rf, dd⟩ := res
  have hmn : gle σ σf := qG_Sat_listSingles_p10 rec hG σ x0 _ h
  have h : (if (σ.1 5402) ≤ x0 then (some (σ, 0, 0)) else (bnd (rec tC_Sat_isProcessed σ [x0]) (fun σ1 r1 => if r1 = 0 then (rec tG_Sat_listSingles_p45 σ1 [x0]) else (bnd (rec tC_Sat_isSingle σ1 [x0]) (fun σ2 r2 => if r2 = 0 then (rec tG_Sat_listSingles_p45 σ2 [x0]) else (if rok σ2 5701 58 = true then (lt_ (rAdd σ2 5701 58 x0) (fun σ3 => rec tG_Sat_listSingles_p45 σ3 [x0])) else none)))))) = some (σf, rf, dd) := h
  intro p e s m args below meth c F Lo mc ms cells slots σ0 w0 tx0 hF hLo hcq hsq hga C
  dsimp only at hF hLo hcq hsq ⊢
  have hcm : cells ≤ mc := by have := hmn.1; omega
  have hsm : slots ≤ ms := by have := hmn.2; omega
  have hle : True := trivial
  have hm : True := trivial
  refine ax_iload_n (pc := 10) C d_Sat_listSingles_10 rfl 1 rfl ?_
  refine ax_aload_n (pc := 11) C d_Sat_listSingles_11 rfl 0 rfl ?_
  refine cg_53_9_Sat_27 (pc := 12) C d_Sat_listSingles_12 ?_
  refine cg_54_2_Sat_112 (pc := 15) C d_Sat_listSingles_15 ?_
  refine ax_icmp_ge (pc := 18) C 51 d_Sat_listSingles_18 (by decide) (fun hc => ?_) (fun hc => ?_)
  · replace h := it_t hc h
    cases h
    exact ax_vret (pc := 51) C d_Sat_listSingles_51 ⟨w, tx, hga, rfl, rfl⟩ hcm hsm
  · replace h := it_f hc h
    refine ax_aload_n (pc := 21) C d_Sat_listSingles_21 rfl 0 rfl ?_
    refine ax_iload_n (pc := 22) C d_Sat_listSingles_22 rfl 1 rfl ?_
    replace h := it_b h
    obtain ⟨σ1, r1, d1_1, d2_1, h1, h, hd2, hd1⟩ := h
    replace hle := hG _ _ _ _ (by decide) h1
    dsimp only at hle
    replace hmn : gle σ1 σf := gm_use h (gm_if (gm_tail hG (Nat.le_of_ble_eq_true rfl)) (gm_bnd hG (Nat.le_of_ble_eq_true rfl) (fun _ _ => (gm_if (gm_tail hG (Nat.le_of_ble_eq_true rfl)) (gm_if (gm_lt (rAdd_le _ _ _ _) (gm_tail hG (Nat.le_of_ble_eq_true rfl))) gm_none)))))
    replace hm : sC_Sat_isProcessed l D kA u w tx σ [x0] (σ1, r1, d1_1) := ihC _ _ tC_Sat_isProcessed _ _ _ h1
    refine cc_Vi (pc := 23) C (r0 := r1) (σ2 := σ1) (As := [.int x0]) (rest := []) (hm _ rfl) ml_Sat_142 53 rfl rfl rfl d_Sat_listSingles_23 rfl rfl (by dsimp only; omega) (by dsimp only; omega) hcm hsm (Nat.le_of_ble_eq_true rfl) ?_
    replace hcq : cells + σf.2.2 3001 ≤ mc + σ1.2.2 3001 := by have := hle.1; omega
    replace hsq : slots + σf.2.2 3002 ≤ ms + σ1.2.2 3002 := by have := hle.2; omega
    replace hF : d2_1 + 3 ≤ F := by omega
    replace hLo : 48 * d2_1 + 144 ≤ Lo := by omega
    refine ax_if_eq (pc := 26) C 45 d_Sat_listSingles_26 (by decide) (fun hc => ?_) (fun hc => ?_)
    · replace h := it_t hc h
      refine ax_ls ([(0, .ref (u 53)), (1, .int x0)]) [0, 1] rfl ?_
      replace hm : sG_Sat_listSingles_p45 l D kA u σ1 [x0] (σf, rf, _) := ih tG_Sat_listSingles_p45 _ _ _ h
      exact hm _ rfl w tx p e s m args below meth c F Lo mc ms cells slots σ0 w0 tx0 hF hLo hcq hsq hga C
    · replace h := it_f hc h
      refine ax_aload_n (pc := 29) C d_Sat_listSingles_29 rfl 0 rfl ?_
      refine ax_iload_n (pc := 30) C d_Sat_listSingles_30 rfl 1 rfl ?_
      replace h := it_b h
      obtain ⟨σ2, r2, d1_2, d2_2, h1, h, hd2, hd1⟩ := h
      replace hle := hG _ _ _ _ (by decide) h1
      dsimp only at hle
      replace hmn : gle σ2 σf := gm_use h (gm_if (gm_tail hG (Nat.le_of_ble_eq_true rfl)) (gm_if (gm_lt (rAdd_le _ _ _ _) (gm_tail hG (Nat.le_of_ble_eq_true rfl))) gm_none))
      replace hm : sC_Sat_isSingle l D kA u w tx σ1 [x0] (σ2, r2, d1_2) := ihC _ _ tC_Sat_isSingle _ _ _ h1
      refine cc_Vi (pc := 31) C (r0 := r2) (σ2 := σ2) (As := [.int x0]) (rest := []) (hm _ rfl) ml_Sat_145 53 rfl rfl rfl d_Sat_listSingles_31 rfl rfl (by dsimp only; omega) (by dsimp only; omega) hcm hsm (Nat.le_of_ble_eq_true rfl) ?_
      replace hcq : cells + σf.2.2 3001 ≤ mc + σ2.2.2 3001 := by have := hle.1; omega
      replace hsq : slots + σf.2.2 3002 ≤ ms + σ2.2.2 3002 := by have := hle.2; omega
      replace hF : d2_2 + 3 ≤ F := by omega
      replace hLo : 48 * d2_2 + 144 ≤ Lo := by omega
      refine ax_if_eq (pc := 34) C 45 d_Sat_listSingles_34 (by decide) (fun hc => ?_) (fun hc => ?_)
      · replace h := it_t hc h
        refine ax_ls ([(0, .ref (u 53)), (1, .int x0)]) [0, 1] rfl ?_
        replace hm : sG_Sat_listSingles_p45 l D kA u σ2 [x0] (σf, rf, _) := ih tG_Sat_listSingles_p45 _ _ _ h
        exact hm _ rfl w tx p e s m args below meth c F Lo mc ms cells slots σ0 w0 tx0 hF hLo hcq hsq hga C
      · replace h := it_f hc h
        refine ax_aload_n (pc := 37) C d_Sat_listSingles_37 rfl 0 rfl ?_
        refine cg_53_13_Sat_20 (pc := 38) C d_Sat_listSingles_38 ?_
        refine ax_iload_n (pc := 41) C d_Sat_listSingles_41 rfl 1 rfl ?_
        replace h := it_g h
        obtain ⟨hb, h⟩ := h
        replace h := it_l h
        replace hle := rAdd_le σ2 5701 58 x0
        replace hmn : gle (rAdd σ2 5701 58 x0) σf := gm_use h (gm_tail hG (Nat.le_of_ble_eq_true rfl))
        refine ca_57 (pc := 42) C (rest := []) ml_Sat_148 d_Sat_listSingles_42 hb hF hLo (by have := hmn.1; have := hle.1; omega) (by have := hmn.2; have := hle.2; omega) (Nat.le_of_ble_eq_true rfl) (fun w3 hag3 => ?_)
        generalize rAdd σ2 5701 58 x0 = σ3 at h hmn hle ⊢
        have hga3 : ∀ i, ([58] : List Nat).elem i = false → w3 i = w0 i := fun i hi => (hag3 i (by revert hi; exact el_sub (by decide))).trans (hga i hi)
        replace hcq : (cells + (σ3.2.2 3001 - σ2.2.2 3001)) + σf.2.2 3001 ≤ mc + σ3.2.2 3001 := by have := hmn.1; have := hle.1; omega
        replace hcm : (cells + (σ3.2.2 3001 - σ2.2.2 3001)) ≤ mc := by have := hmn.1; have := hle.1; omega
        generalize cells + (σ3.2.2 3001 - σ2.2.2 3001) = cells at hcq hcm ⊢
        replace hsq : (slots + (σ3.2.2 3002 - σ2.2.2 3002)) + σf.2.2 3002 ≤ ms + σ3.2.2 3002 := by have := hmn.2; have := hle.2; omega
        replace hsm : (slots + (σ3.2.2 3002 - σ2.2.2 3002)) ≤ ms := by have := hmn.2; have := hle.2; omega
        generalize slots + (σ3.2.2 3002 - σ2.2.2 3002) = slots at hsq hsm ⊢
        refine ax_ls ([(0, .ref (u 53)), (1, .int x0)]) [0, 1] rfl ?_
        replace hm : sG_Sat_listSingles_p45 l D kA u σ3 [x0] (σf, rf, _) := ih tG_Sat_listSingles_p45 _ _ _ h
        exact hm _ rfl w3 tx p e s m args below meth c F Lo mc ms cells slots σ0 w0 tx0 hF hLo hcq hsq hga3 C
set_option maxHeartbeats 4000000 in
set_option maxRecDepth 100000 in
theorem oG_Sat_listSingles_p45 (l : Launch) (D : va_G) (kA : Nat → ClassId) (u : Nat → Nat) (rec : mF) (hG : GM rec) (ihC : ∀ (w : Nat → Nat) (tx : Value) t σ xs res, rec t σ xs = some res → cSem l D kA u w tx t σ xs res) (ih : ∀ t σ xs res, rec t σ xs = some res → gSem l D kA u t σ xs res) (σ : mS) (xs : List Int32) (res : mR) (h : u_1 (kG_Sat_listSingles_p45 rec σ) xs = some res) : sG_Sat_listSingles_p45 l D kA u σ xs res := by
  intro x0 hxs w tx
  subst hxs
  obtain ⟨σf, rf, dd⟩ := res
  have hmn : gle σ σf := qG_Sat_listSingles_p45 rec hG σ x0 _ h
  have h : (rec tG_Sat_listSingles_p10 σ [(x0 + 1)]) = some (σf, rf, dd) := h
  intro p e s m args below meth c F Lo mc ms cells slots σ0 w0 tx0 hF hLo hcq hsq hga C
  dsimp only at hF hLo hcq hsq ⊢
  have hcm : cells ≤ mc := by have := hmn.1; omega
  have hsm : slots ≤ ms := by have := hmn.2; omega
  have hle : True := trivial
  have hm : True := trivial
  refine ax_iinc (pc := 45) C (x0 + 1) d_Sat_listSingles_45 1 rfl rfl (Nat.le_of_ble_eq_true rfl) ([(1, .int (x0 + 1)), (0, .ref (u 53))]) rfl ?_
  refine ax_goto (pc := 48) C 10 d_Sat_listSingles_48 (by decide) ?_
  refine ax_ls ([(0, .ref (u 53)), (1, .int (x0 + 1))]) [1, 0] rfl ?_
  replace hm : sG_Sat_listSingles_p10 l D kA u σ [(x0 + 1)] (σf, rf, _) := ih tG_Sat_listSingles_p10 _ _ _ h
  exact hm _ rfl w tx p e s m args below meth c F Lo mc ms cells slots σ0 w0 tx0 hF hLo hcq hsq hga C
set_option maxHeartbeats 4000000 in
set_option maxRecDepth 100000 in
theorem oG_Sat_noteRewriter (l : Launch) (D : va_G) (kA : Nat → ClassId) (u : Nat → Nat) (rec : mF) (hG : GM rec) (ihC : ∀ (w : Nat → Nat) (tx : Value) t σ xs res, rec t σ xs = some res → cSem l D kA u w tx t σ xs res) (ih : ∀ t σ xs res, rec t σ xs = some res → gSem l D kA u t σ xs res) (σ : mS) (xs : List Int32) (res : mR) (h : u_2 (kG_Sat_noteRewriter rec σ) xs = some res) : sG_Sat_noteRewriter l D kA u σ xs res := by
  intro x0 x1 hxs w tx
  subst hxs
  obtain ⟨σf, rf, dd⟩ := res
  have hmn : gle σ σf := qG_Sat_noteRewriter rec hG σ x0 x1 _ h
  have h : (rec tG_Sat_noteRewriter_p2 σ [x0, x1, x0]) = some (σf, rf, dd) := h
  refine ax_Mv.of (by decide +kernel) (Nat.le_of_ble_eq_true rfl) ?_
  intro p e s m args below meth c C hnm
  replace C : ax_C p s m args meth c b_Sat_noteRewriter "ClauseProver$Saturation" 4 none D kA (va_A (cpW kA u w tx σ) s.heap.size) := C
  obtain ⟨F, hFe⟩ : ∃ z, z = dd + 3 := ⟨_, rfl⟩
  obtain ⟨Lo, hLoe⟩ : ∃ z, z = 48 * dd + 144 := ⟨_, rfl⟩
  obtain ⟨mc, hmce⟩ : ∃ z, z = σf.2.2 3001 - σ.2.2 3001 := ⟨_, rfl⟩
  obtain ⟨ms, hmse⟩ : ∃ z, z = σf.2.2 3002 - σ.2.2 3002 := ⟨_, rfl⟩
  obtain ⟨σ0, hσ0e⟩ : ∃ z, z = σ := ⟨_, rfl⟩
  obtain ⟨w0, hw0e⟩ : ∃ z, z = w := ⟨_, rfl⟩
  obtain ⟨tx0, htx0e⟩ : ∃ z, z = tx := ⟨_, rfl⟩
  suffices K : ∀ (cells slots : Nat), cells = 0 → slots = 0 → AW p l e { frames := F, cells := mc, slots := ms, locals := Lo } s m args below meth c D kA (va_A (cpW kA u w0 tx0 σ0) s.heap.size) 4 (ax_Qv below args s D kA (cpW kA u w0 tx0 σ0) mc ms (fun w1 => ∃ (w2 : Nat → Nat) (tx2 : Value), (∀ i, ([50] : List Nat).elem i = false → w2 i = w0 i) ∧ tx2 = tx0 ∧ w1 = cpW kA u w2 tx2 σf)) 0 [(0, .ref (u 53)), (1, .int x0), (2, .int x1)] [] (cpW kA u w tx σ) cells slots by
    have K := K 0 0 rfl rfl
    rw [hFe, hLoe, hmce, hmse, hσ0e, hw0e, htx0e] at K
    exact ax_ls ([(0, .ref (u 53)), (1, .int x0), (2, .int x1)]) [0, 1, 2] rfl K
  replace C : ax_C p s m args meth c b_Sat_noteRewriter "ClauseProver$Saturation" 4 none D kA (va_A (cpW kA u w0 tx0 σ0) s.heap.size) := by rw [hσ0e, hw0e, htx0e]; exact C
  intro cells slots hc0 hs0
  have hcq : cells + σf.2.2 3001 ≤ mc + σ.2.2 3001 := by have := hmn.1; omega
  have hsq : slots + σf.2.2 3002 ≤ ms + σ.2.2 3002 := by have := hmn.2; omega
  have hga : ∀ i, ([50] : List Nat).elem i = false → w i = w0 i := fun i _ => by rw [hw0e]
  have e9 : tx = tx0 := htx0e.symm
  subst e9
  have hF : dd + 3 ≤ F := by omega
  have hLo : 48 * dd + 144 ≤ Lo := by omega
  have hcm : cells ≤ mc := by have := hmn.1; omega
  have hsm : slots ≤ ms := by have := hmn.2; omega
  have hle : True := trivial
  have hm : True := trivial
  refine ax_iload_n (pc := 0) C d_Sat_noteRewriter_0 rfl 1 rfl ?_
  refine ax_istore_n (pc := 1) C d_Sat_noteRewriter_1 rfl (Nat.le_of_ble_eq_true rfl) ([(3, .int x0), (0, .ref (u 53)), (1, .int x0), (2, .int x1)]) rfl ?_
  refine ax_ls ([(0, .ref (u 53)), (1, .int x0), (2, .int x1), (3, .int x0)]) [1, 2, 3, 0] rfl ?_
  replace hm : sG_Sat_noteRewriter_p2 l D kA u σ [x0, x1, x0] (σf, rf, _) := ih tG_Sat_noteRewriter_p2 _ _ _ h
  exact hm _ _ _ rfl w tx p e s m args below meth c F Lo mc ms cells slots σ0 w0 tx hF hLo hcq hsq hga C
set_option maxHeartbeats 4000000 in
set_option maxRecDepth 100000 in
theorem oG_Sat_noteRewriter_p2 (l : Launch) (D : va_G) (kA : Nat → ClassId) (u : Nat → Nat) (rec : mF) (hG : GM rec) (ihC : ∀ (w : Nat → Nat) (tx : Value) t σ xs res, rec t σ xs = some res → cSem l D kA u w tx t σ xs res) (ih : ∀ t σ xs res, rec t σ xs = some res → gSem l D kA u t σ xs res) (σ : mS) (xs : List Int32) (res : mR) (h : u_3 (kG_Sat_noteRewriter_p2 rec σ) xs = some res) : sG_Sat_noteRewriter_p2 l D kA u σ xs res := by
  intro x0 x1 x2 hxs w tx
  subst hxs
  obtain ⟨σf, rf, dd⟩ := res
  have hmn : gle σ σf := qG_Sat_noteRewriter_p2 rec hG σ x0 x1 x2 _ h
  have h : (if (σ.1 4901) ≤ x2 then (if rok σ 4901 50 = true then (lt_ (rAdd σ 4901 50 x1) (fun σ1 => some (σ1, 0, 0))) else none) else (if bin x2 (σ.2.2 50) = true then (if (σ.2.1 50 (Int32.toNatClampNeg x2)) = x1 then (some (σ, 0, 0)) else (rec tG_Sat_noteRewriter_p2 σ [x0, x1, (x2 + 1)])) else none)) = some (σf, rf, dd) := h
  intro p e s m args below meth c F Lo mc ms cells slots σ0 w0 tx0 hF hLo hcq hsq hga C
  dsimp only at hF hLo hcq hsq ⊢
  have hcm : cells ≤ mc := by have := hmn.1; omega
  have hsm : slots ≤ ms := by have := hmn.2; omega
  have hle : True := trivial
  have hm : True := trivial
  refine ax_iload_n (pc := 2) C d_Sat_noteRewriter_2 rfl 3 rfl ?_
  refine ax_aload_n (pc := 3) C d_Sat_noteRewriter_3 rfl 0 rfl ?_
  refine cg_53_9_Sat_27 (pc := 4) C d_Sat_noteRewriter_4 ?_
  refine cg_54_1_Sat_125 (pc := 7) C d_Sat_noteRewriter_7 ?_
  refine cg_49_1_Sat_80 (pc := 10) C d_Sat_noteRewriter_10 ?_
  refine ax_icmp_ge (pc := 13) C 39 d_Sat_noteRewriter_13 (by decide) (fun hc => ?_) (fun hc => ?_)
  · replace h := it_t hc h
    refine ax_aload_n (pc := 39) C d_Sat_noteRewriter_39 rfl 0 rfl ?_
    refine cg_53_9_Sat_27 (pc := 40) C d_Sat_noteRewriter_40 ?_
    refine cg_54_1_Sat_125 (pc := 43) C d_Sat_noteRewriter_43 ?_
    refine ax_iload_n (pc := 46) C d_Sat_noteRewriter_46 rfl 2 rfl ?_
    replace h := it_g h
    obtain ⟨hb, h⟩ := h
    replace h := it_l h
    replace hle := rAdd_le σ 4901 50 x1
    replace hmn : gle (rAdd σ 4901 50 x1) σf := gm_use h gm_some
    refine ca_49 (pc := 47) C (rest := []) ml_Sat_148 d_Sat_noteRewriter_47 hb hF hLo (by have := hmn.1; have := hle.1; omega) (by have := hmn.2; have := hle.2; omega) (Nat.le_of_ble_eq_true rfl) (fun w1 hag1 => ?_)
    generalize rAdd σ 4901 50 x1 = σ1 at h hmn hle ⊢
    have hga1 : ∀ i, ([50] : List Nat).elem i = false → w1 i = w0 i := fun i hi => (hag1 i (by revert hi; exact el_sub (by decide))).trans (hga i hi)
    replace hcq : (cells + (σ1.2.2 3001 - σ.2.2 3001)) + σf.2.2 3001 ≤ mc + σ1.2.2 3001 := by have := hmn.1; have := hle.1; omega
    replace hcm : (cells + (σ1.2.2 3001 - σ.2.2 3001)) ≤ mc := by have := hmn.1; have := hle.1; omega
    generalize cells + (σ1.2.2 3001 - σ.2.2 3001) = cells at hcq hcm ⊢
    replace hsq : (slots + (σ1.2.2 3002 - σ.2.2 3002)) + σf.2.2 3002 ≤ ms + σ1.2.2 3002 := by have := hmn.2; have := hle.2; omega
    replace hsm : (slots + (σ1.2.2 3002 - σ.2.2 3002)) ≤ ms := by have := hmn.2; have := hle.2; omega
    generalize slots + (σ1.2.2 3002 - σ.2.2 3002) = slots at hsq hsm ⊢
    cases h
    exact ax_vret (pc := 50) C d_Sat_noteRewriter_50 ⟨w1, tx, hga1, rfl, rfl⟩ hcm hsm
  · replace h := it_f hc h
    refine ax_aload_n (pc := 16) C d_Sat_noteRewriter_16 rfl 0 rfl ?_
    refine cg_53_9_Sat_27 (pc := 17) C d_Sat_noteRewriter_17 ?_
    refine cg_54_1_Sat_125 (pc := 20) C d_Sat_noteRewriter_20 ?_
    refine cg_49_0_Sat_151 (pc := 23) C d_Sat_noteRewriter_23 ?_
    refine ax_iload_n (pc := 26) C d_Sat_noteRewriter_26 rfl 3 rfl ?_
    replace h := it_g h
    obtain ⟨hb, h⟩ := h
    refine cl_50 (pc := 27) C d_Sat_noteRewriter_27 (bin_in hb) ?_
    refine ax_iload_n (pc := 28) C d_Sat_noteRewriter_28 rfl 2 rfl ?_
    refine ax_icmp_ne (pc := 29) C 33 d_Sat_noteRewriter_29 (by decide) (fun hc => ?_) (fun hc => ?_)
    · replace h := it_f hc h
      refine ax_iinc (pc := 33) C (x2 + 1) d_Sat_noteRewriter_33 3 rfl rfl (Nat.le_of_ble_eq_true rfl) ([(3, .int (x2 + 1)), (0, .ref (u 53)), (1, .int x0), (2, .int x1)]) rfl ?_
      refine ax_goto (pc := 36) C 2 d_Sat_noteRewriter_36 (by decide) ?_
      refine ax_ls ([(0, .ref (u 53)), (1, .int x0), (2, .int x1), (3, .int (x2 + 1))]) [1, 2, 3, 0] rfl ?_
      replace hm : sG_Sat_noteRewriter_p2 l D kA u σ [x0, x1, (x2 + 1)] (σf, rf, _) := ih tG_Sat_noteRewriter_p2 _ _ _ h
      exact hm _ _ _ rfl w tx p e s m args below meth c F Lo mc ms cells slots σ0 w0 tx0 hF hLo hcq hsq hga C
    · replace h := it_t hc h
      cases h
      exact ax_vret (pc := 32) C d_Sat_noteRewriter_32 ⟨w, tx, hga, rfl, rfl⟩ hcm hsm
set_option maxHeartbeats 4000000 in
set_option maxRecDepth 100000 in
theorem oG_Sat_refute (l : Launch) (D : va_G) (kA : Nat → ClassId) (u : Nat → Nat) (rec : mF) (hG : GM rec) (ihC : ∀ (w : Nat → Nat) (tx : Value) t σ xs res, rec t σ xs = some res → cSem l D kA u w tx t σ xs res) (ih : ∀ t σ xs res, rec t σ xs = some res → gSem l D kA u t σ xs res) (σ : mS) (xs : List Int32) (res : mR) (h : u_1 (kG_Sat_refute rec σ) xs = some res) : sG_Sat_refute l D kA u σ xs res := by
  intro x0 hxs w tx
  subst hxs
  obtain ⟨σf, rf, dd⟩ := res
  have hmn : gle σ σf := qG_Sat_refute rec hG σ x0 _ h
  have h : (lt_ (mI σ 5300 1) (fun σ1 => bnd (rec tC_Sat_markProof σ1 [x0]) (fun σ2 r2 => rec tG_Sat_refute_p12 σ2 [x0, x0]))) = some (σf, rf, dd) := h
  refine ax_Mv.of (by decide +kernel) (Nat.le_of_ble_eq_true rfl) ?_
  intro p e s m args below meth c C hnm
  replace C : ax_C p s m args meth c b_Sat_refute "ClauseProver$Saturation" 4 none D kA (va_A (cpW kA u w tx σ) s.heap.size) := C
  obtain ⟨F, hFe⟩ : ∃ z, z = dd + 3 := ⟨_, rfl⟩
  obtain ⟨Lo, hLoe⟩ : ∃ z, z = 48 * dd + 144 := ⟨_, rfl⟩
  obtain ⟨mc, hmce⟩ : ∃ z, z = σf.2.2 3001 - σ.2.2 3001 := ⟨_, rfl⟩
  obtain ⟨ms, hmse⟩ : ∃ z, z = σf.2.2 3002 - σ.2.2 3002 := ⟨_, rfl⟩
  obtain ⟨σ0, hσ0e⟩ : ∃ z, z = σ := ⟨_, rfl⟩
  obtain ⟨w0, hw0e⟩ : ∃ z, z = w := ⟨_, rfl⟩
  obtain ⟨tx0, htx0e⟩ : ∃ z, z = tx := ⟨_, rfl⟩
  suffices K : ∀ (cells slots : Nat), cells = 0 → slots = 0 → AW p l e { frames := F, cells := mc, slots := ms, locals := Lo } s m args below meth c D kA (va_A (cpW kA u w0 tx0 σ0) s.heap.size) 4 (ax_Qv below args s D kA (cpW kA u w0 tx0 σ0) mc ms (fun w1 => ∃ (w2 : Nat → Nat) (tx2 : Value), (∀ i, ([56] : List Nat).elem i = false → w2 i = w0 i) ∧ tx2 = tx0 ∧ w1 = cpW kA u w2 tx2 σf)) 0 [(0, .ref (u 53)), (1, .int x0)] [] (cpW kA u w tx σ) cells slots by
    have K := K 0 0 rfl rfl
    rw [hFe, hLoe, hmce, hmse, hσ0e, hw0e, htx0e] at K
    exact ax_ls ([(0, .ref (u 53)), (1, .int x0)]) [0, 1] rfl K
  replace C : ax_C p s m args meth c b_Sat_refute "ClauseProver$Saturation" 4 none D kA (va_A (cpW kA u w0 tx0 σ0) s.heap.size) := by rw [hσ0e, hw0e, htx0e]; exact C
  intro cells slots hc0 hs0
  have hcq : cells + σf.2.2 3001 ≤ mc + σ.2.2 3001 := by have := hmn.1; omega
  have hsq : slots + σf.2.2 3002 ≤ ms + σ.2.2 3002 := by have := hmn.2; omega
  have hga : ∀ i, ([56] : List Nat).elem i = false → w i = w0 i := fun i _ => by rw [hw0e]
  have e9 : tx = tx0 := htx0e.symm
  subst e9
  have hF : dd + 3 ≤ F := by omega
  have hLo : 48 * dd + 144 ≤ Lo := by omega
  have hcm : cells ≤ mc := by have := hmn.1; omega
  have hsm : slots ≤ ms := by have := hmn.2; omega
  have hle : True := trivial
  have hm : True := trivial
  refine ax_aload_n (pc := 0) C d_Sat_refute_0 rfl 0 rfl ?_
  refine ax_iconst (pc := 1) C 1 d_Sat_refute_1 (by decide +kernel) ?_
  refine cq_53_0_Sat_58 (pc := 2) C d_Sat_refute_2 ?_
  replace h := it_l h
  replace hcq : cells + σf.2.2 3001 ≤ mc + (mI σ 5300 1).2.2 3001 := hcq
  replace hsq : slots + σf.2.2 3002 ≤ ms + (mI σ 5300 1).2.2 3002 := hsq
  generalize mI σ 5300 1 = σ1 at h hcq hsq ⊢
  refine ax_aload_n (pc := 5) C d_Sat_refute_5 rfl 0 rfl ?_
  refine ax_iload_n (pc := 6) C d_Sat_refute_6 rfl 1 rfl ?_
  replace h := it_b h
  obtain ⟨σ2, r2, d1_2, d2_2, h1, h, hd2, hd1⟩ := h
  replace hle := hG _ _ _ _ (by decide) h1
  dsimp only at hle
  replace hmn : gle σ2 σf := gm_use h (gm_tail hG (Nat.le_of_ble_eq_true rfl))
  replace hm : sC_Sat_markProof l D kA u w tx σ1 [x0] (σ2, r2, d1_2) := ihC _ _ tC_Sat_markProof _ _ _ h1
  refine cc_Vv (pc := 7) C (σ2 := σ2) (As := [.int x0]) (rest := []) (hm _ rfl) ml_Sat_162 53 rfl rfl rfl d_Sat_refute_7 rfl rfl (by dsimp only; omega) (by dsimp only; omega) hcm hsm (Nat.le_of_ble_eq_true rfl) ?_
  replace hcq : cells + σf.2.2 3001 ≤ mc + σ2.2.2 3001 := by have := hle.1; omega
  replace hsq : slots + σf.2.2 3002 ≤ ms + σ2.2.2 3002 := by have := hle.2; omega
  replace hF : d2_2 + 3 ≤ F := by omega
  replace hLo : 48 * d2_2 + 144 ≤ Lo := by omega
  refine ax_iload_n (pc := 10) C d_Sat_refute_10 rfl 1 rfl ?_
  refine ax_istore_n (pc := 11) C d_Sat_refute_11 rfl (Nat.le_of_ble_eq_true rfl) ([(2, .int x0), (0, .ref (u 53)), (1, .int x0)]) rfl ?_
  refine ax_ls ([(0, .ref (u 53)), (1, .int x0), (2, .int x0)]) [1, 2, 0] rfl ?_
  replace hm : sG_Sat_refute_p12 l D kA u σ2 [x0, x0] (σf, rf, _) := ih tG_Sat_refute_p12 _ _ _ h
  exact hm _ _ rfl w tx p e s m args below meth c F Lo mc ms cells slots σ0 w0 tx hF hLo hcq hsq hga C
set_option maxHeartbeats 4000000 in
set_option maxRecDepth 100000 in
theorem oG_Sat_refute_p12 (l : Launch) (D : va_G) (kA : Nat → ClassId) (u : Nat → Nat) (rec : mF) (hG : GM rec) (ihC : ∀ (w : Nat → Nat) (tx : Value) t σ xs res, rec t σ xs = some res → cSem l D kA u w tx t σ xs res) (ih : ∀ t σ xs res, rec t σ xs = some res → gSem l D kA u t σ xs res) (σ : mS) (xs : List Int32) (res : mR) (h : u_2 (kG_Sat_refute_p12 rec σ) xs = some res) : sG_Sat_refute_p12 l D kA u σ xs res := by
  intro x0 x1 hxs w tx
  subst hxs
  obtain ⟨σf, rf, dd⟩ := res
  have hmn : gle σ σf := qG_Sat_refute_p12 rec hG σ x0 x1 _ h
  have h : (if x1 < 0 then (rec tG_Sat_refute_p113 σ [x0, 0]) else (bnd (rec tC_Sto_fact σ [x1, 10]) (fun σ1 r1 => if r1 = 1 then (bnd (rec tC_Sto_fact σ1 [x1, 1]) (fun σ2 r2 => bnd (rec tC_Sat_markProof σ2 [r2]) (fun σ3 r3 => bnd (rec tC_Sto_fact σ3 [x1, 2]) (fun σ4 r4 => bnd (rec tC_Sat_markProof σ4 [r4]) (fun σ5 r5 => rec tG_Sat_refute_p58 σ5 [x0, x1, 0]))))) else (rec tG_Sat_refute_p105 σ1 [x0, x1])))) = some (σf, rf, dd) := h
  intro p e s m args below meth c F Lo mc ms cells slots σ0 w0 tx0 hF hLo hcq hsq hga C
  dsimp only at hF hLo hcq hsq ⊢
  have hcm : cells ≤ mc := by have := hmn.1; omega
  have hsm : slots ≤ ms := by have := hmn.2; omega
  have hle : True := trivial
  have hm : True := trivial
  refine ax_iload_n (pc := 12) C d_Sat_refute_12 rfl 2 rfl ?_
  refine ax_if_lt (pc := 13) C 111 d_Sat_refute_13 (by decide) (fun hc => ?_) (fun hc => ?_)
  · replace h := it_t hc h
    refine ax_iconst (pc := 111) C 0 d_Sat_refute_111 (by decide +kernel) ?_
    refine ax_istore_n (pc := 112) C d_Sat_refute_112 rfl (Nat.le_of_ble_eq_true rfl) ([(2, .int 0), (0, .ref (u 53)), (1, .int x0)]) rfl ?_
    refine ax_ls ([(0, .ref (u 53)), (1, .int x0), (2, .int 0)]) [1, 2, 0] rfl ?_
    replace hm : sG_Sat_refute_p113 l D kA u σ [x0, 0] (σf, rf, _) := ih tG_Sat_refute_p113 _ _ _ h
    exact hm _ _ rfl w tx p e s m args below meth c F Lo mc ms cells slots σ0 w0 tx0 hF hLo hcq hsq hga C
  · replace h := it_f hc h
    refine ax_aload_n (pc := 16) C d_Sat_refute_16 rfl 0 rfl ?_
    refine cg_53_9_Sat_27 (pc := 17) C d_Sat_refute_17 ?_
    refine ax_iload_n (pc := 20) C d_Sat_refute_20 rfl 2 rfl ?_
    refine ax_bipush (pc := 21) C 10 d_Sat_refute_21 (by decide +kernel) ?_
    replace h := it_b h
    obtain ⟨σ1, r1, d1_1, d2_1, h1, h, hd2, hd1⟩ := h
    replace hle := hG _ _ _ _ (by decide) h1
    dsimp only at hle
    replace hmn : gle σ1 σf := gm_use h (gm_if (gm_bnd hG (Nat.le_of_ble_eq_true rfl) (fun _ _ => (gm_bnd hG (Nat.le_of_ble_eq_true rfl) (fun _ _ => (gm_bnd hG (Nat.le_of_ble_eq_true rfl) (fun _ _ => (gm_bnd hG (Nat.le_of_ble_eq_true rfl) (fun _ _ => (gm_tail hG (Nat.le_of_ble_eq_true rfl)))))))))) (gm_tail hG (Nat.le_of_ble_eq_true rfl)))
    replace hm : sC_Sto_fact l D kA u w tx σ [x1, 10] (σ1, r1, d1_1) := ihC _ _ tC_Sto_fact _ _ _ h1
    refine cc_Vi (pc := 23) C (r0 := r1) (σ2 := σ1) (As := [.int x1, .int 10]) (rest := []) (hm _ _ rfl) ml_Sat_91 54 rfl rfl rfl d_Sat_refute_23 rfl rfl (by dsimp only; omega) (by dsimp only; omega) hcm hsm (Nat.le_of_ble_eq_true rfl) ?_
    replace hcq : cells + σf.2.2 3001 ≤ mc + σ1.2.2 3001 := by have := hle.1; omega
    replace hsq : slots + σf.2.2 3002 ≤ ms + σ1.2.2 3002 := by have := hle.2; omega
    replace hF : d2_1 + 3 ≤ F := by omega
    replace hLo : 48 * d2_1 + 144 ≤ Lo := by omega
    refine ax_iconst (pc := 26) C 1 d_Sat_refute_26 (by decide +kernel) ?_
    refine ax_icmp_ne (pc := 27) C 105 d_Sat_refute_27 (by decide) (fun hc => ?_) (fun hc => ?_)
    · replace h := it_f hc h
      refine ax_ls ([(0, .ref (u 53)), (1, .int x0), (2, .int x1)]) [0, 1, 2] rfl ?_
      replace hm : sG_Sat_refute_p105 l D kA u σ1 [x0, x1] (σf, rf, _) := ih tG_Sat_refute_p105 _ _ _ h
      exact hm _ _ rfl w tx p e s m args below meth c F Lo mc ms cells slots σ0 w0 tx0 hF hLo hcq hsq hga C
    · replace h := it_t hc h
      refine ax_aload_n (pc := 30) C d_Sat_refute_30 rfl 0 rfl ?_
      refine ax_aload_n (pc := 31) C d_Sat_refute_31 rfl 0 rfl ?_
      refine cg_53_9_Sat_27 (pc := 32) C d_Sat_refute_32 ?_
      refine ax_iload_n (pc := 35) C d_Sat_refute_35 rfl 2 rfl ?_
      refine ax_iconst (pc := 36) C 1 d_Sat_refute_36 (by decide +kernel) ?_
      replace h := it_b h
      obtain ⟨σ2, r2, d1_2, d2_2, h1, h, hd2, hd1⟩ := h
      replace hle := hG _ _ _ _ (by decide) h1
      dsimp only at hle
      replace hmn : gle σ2 σf := gm_use h (gm_bnd hG (Nat.le_of_ble_eq_true rfl) (fun _ _ => (gm_bnd hG (Nat.le_of_ble_eq_true rfl) (fun _ _ => (gm_bnd hG (Nat.le_of_ble_eq_true rfl) (fun _ _ => (gm_tail hG (Nat.le_of_ble_eq_true rfl))))))))
      replace hm : sC_Sto_fact l D kA u w tx σ1 [x1, 1] (σ2, r2, d1_2) := ihC _ _ tC_Sto_fact _ _ _ h1
      refine cc_Vi (pc := 37) C (r0 := r2) (σ2 := σ2) (As := [.int x1, .int 1]) (rest := [.ref (u 53)]) (hm _ _ rfl) ml_Sat_91 54 rfl rfl rfl d_Sat_refute_37 rfl rfl (by dsimp only; omega) (by dsimp only; omega) hcm hsm (Nat.le_of_ble_eq_true rfl) ?_
      replace hcq : cells + σf.2.2 3001 ≤ mc + σ2.2.2 3001 := by have := hle.1; omega
      replace hsq : slots + σf.2.2 3002 ≤ ms + σ2.2.2 3002 := by have := hle.2; omega
      replace hF : d2_2 + 3 ≤ F := by omega
      replace hLo : 48 * d2_2 + 144 ≤ Lo := by omega
      replace h := it_b h
      obtain ⟨σ3, r3, d1_3, d2_3, h1, h, hd2, hd1⟩ := h
      replace hle := hG _ _ _ _ (by decide) h1
      dsimp only at hle
      replace hmn : gle σ3 σf := gm_use h (gm_bnd hG (Nat.le_of_ble_eq_true rfl) (fun _ _ => (gm_bnd hG (Nat.le_of_ble_eq_true rfl) (fun _ _ => (gm_tail hG (Nat.le_of_ble_eq_true rfl))))))
      replace hm : sC_Sat_markProof l D kA u w tx σ2 [r2] (σ3, r3, d1_3) := ihC _ _ tC_Sat_markProof _ _ _ h1
      refine cc_Vv (pc := 40) C (σ2 := σ3) (As := [.int r2]) (rest := []) (hm _ rfl) ml_Sat_162 53 rfl rfl rfl d_Sat_refute_40 rfl rfl (by dsimp only; omega) (by dsimp only; omega) hcm hsm (Nat.le_of_ble_eq_true rfl) ?_
      replace hcq : cells + σf.2.2 3001 ≤ mc + σ3.2.2 3001 := by have := hle.1; omega
      replace hsq : slots + σf.2.2 3002 ≤ ms + σ3.2.2 3002 := by have := hle.2; omega
      replace hF : d2_3 + 3 ≤ F := by omega
      replace hLo : 48 * d2_3 + 144 ≤ Lo := by omega
      refine ax_aload_n (pc := 43) C d_Sat_refute_43 rfl 0 rfl ?_
      refine ax_aload_n (pc := 44) C d_Sat_refute_44 rfl 0 rfl ?_
      refine cg_53_9_Sat_27 (pc := 45) C d_Sat_refute_45 ?_
      refine ax_iload_n (pc := 48) C d_Sat_refute_48 rfl 2 rfl ?_
      refine ax_iconst (pc := 49) C 2 d_Sat_refute_49 (by decide +kernel) ?_
      replace h := it_b h
      obtain ⟨σ4, r4, d1_4, d2_4, h1, h, hd2, hd1⟩ := h
      replace hle := hG _ _ _ _ (by decide) h1
      dsimp only at hle
      replace hmn : gle σ4 σf := gm_use h (gm_bnd hG (Nat.le_of_ble_eq_true rfl) (fun _ _ => (gm_tail hG (Nat.le_of_ble_eq_true rfl))))
      replace hm : sC_Sto_fact l D kA u w tx σ3 [x1, 2] (σ4, r4, d1_4) := ihC _ _ tC_Sto_fact _ _ _ h1
      refine cc_Vi (pc := 50) C (r0 := r4) (σ2 := σ4) (As := [.int x1, .int 2]) (rest := [.ref (u 53)]) (hm _ _ rfl) ml_Sat_91 54 rfl rfl rfl d_Sat_refute_50 rfl rfl (by dsimp only; omega) (by dsimp only; omega) hcm hsm (Nat.le_of_ble_eq_true rfl) ?_
      replace hcq : cells + σf.2.2 3001 ≤ mc + σ4.2.2 3001 := by have := hle.1; omega
      replace hsq : slots + σf.2.2 3002 ≤ ms + σ4.2.2 3002 := by have := hle.2; omega
      replace hF : d2_4 + 3 ≤ F := by omega
      replace hLo : 48 * d2_4 + 144 ≤ Lo := by omega
      replace h := it_b h
      obtain ⟨σ5, r5, d1_5, d2_5, h1, h, hd2, hd1⟩ := h
      replace hle := hG _ _ _ _ (by decide) h1
      dsimp only at hle
      replace hmn : gle σ5 σf := gm_use h (gm_tail hG (Nat.le_of_ble_eq_true rfl))
      replace hm : sC_Sat_markProof l D kA u w tx σ4 [r4] (σ5, r5, d1_5) := ihC _ _ tC_Sat_markProof _ _ _ h1
      refine cc_Vv (pc := 53) C (σ2 := σ5) (As := [.int r4]) (rest := []) (hm _ rfl) ml_Sat_162 53 rfl rfl rfl d_Sat_refute_53 rfl rfl (by dsimp only; omega) (by dsimp only; omega) hcm hsm (Nat.le_of_ble_eq_true rfl) ?_
      replace hcq : cells + σf.2.2 3001 ≤ mc + σ5.2.2 3001 := by have := hle.1; omega
      replace hsq : slots + σf.2.2 3002 ≤ ms + σ5.2.2 3002 := by have := hle.2; omega
      replace hF : d2_5 + 3 ≤ F := by omega
      replace hLo : 48 * d2_5 + 144 ≤ Lo := by omega
      refine ax_iconst (pc := 56) C 0 d_Sat_refute_56 (by decide +kernel) ?_
      refine ax_istore_n (pc := 57) C d_Sat_refute_57 rfl (Nat.le_of_ble_eq_true rfl) ([(3, .int 0), (0, .ref (u 53)), (1, .int x0), (2, .int x1)]) rfl ?_
      refine ax_ls ([(0, .ref (u 53)), (1, .int x0), (2, .int x1), (3, .int 0)]) [1, 2, 3, 0] rfl ?_
      replace hm : sG_Sat_refute_p58 l D kA u σ5 [x0, x1, 0] (σf, rf, _) := ih tG_Sat_refute_p58 _ _ _ h
      exact hm _ _ _ rfl w tx p e s m args below meth c F Lo mc ms cells slots σ0 w0 tx0 hF hLo hcq hsq hga C
set_option maxHeartbeats 4000000 in
set_option maxRecDepth 100000 in
theorem oG_Sat_refute_p58 (l : Launch) (D : va_G) (kA : Nat → ClassId) (u : Nat → Nat) (rec : mF) (hG : GM rec) (ihC : ∀ (w : Nat → Nat) (tx : Value) t σ xs res, rec t σ xs = some res → cSem l D kA u w tx t σ xs res) (ih : ∀ t σ xs res, rec t σ xs = some res → gSem l D kA u t σ xs res) (σ : mS) (xs : List Int32) (res : mR) (h : u_3 (kG_Sat_refute_p58 rec σ) xs = some res) : sG_Sat_refute_p58 l D kA u σ xs res := by
  intro x0 x1 x2 hxs w tx
  subst hxs
  obtain ⟨σf, rf, dd⟩ := res
  have hmn : gle σ σf := qG_Sat_refute_p58 rec hG σ x0 x1 x2 _ h
  have h : (bnd (rec tC_Sto_fact σ [x1, 7]) (fun σ1 r1 => if r1 ≤ x2 then (rec tG_Sat_refute_p105 σ1 [x0, x1]) else (bnd (rec tC_Sto_fact σ1 [x1, 9]) (fun σ2 r2 => if bin ((r2 : Int32) + x2) (σ2.2.2 50) = true then (bnd (rec tC_Sat_markProof σ2 [(σ2.2.1 50 (Int32.toNatClampNeg ((r2 : Int32) + x2)))]) (fun σ3 r3 => rec tG_Sat_refute_p58 σ3 [x0, x1, (x2 + 1)])) else none)))) = some (σf, rf, dd) := h
  intro p e s m args below meth c F Lo mc ms cells slots σ0 w0 tx0 hF hLo hcq hsq hga C
  dsimp only at hF hLo hcq hsq ⊢
  have hcm : cells ≤ mc := by have := hmn.1; omega
  have hsm : slots ≤ ms := by have := hmn.2; omega
  have hle : True := trivial
  have hm : True := trivial
  refine ax_iload_n (pc := 58) C d_Sat_refute_58 rfl 3 rfl ?_
  refine ax_aload_n (pc := 59) C d_Sat_refute_59 rfl 0 rfl ?_
  refine cg_53_9_Sat_27 (pc := 60) C d_Sat_refute_60 ?_
  refine ax_iload_n (pc := 63) C d_Sat_refute_63 rfl 2 rfl ?_
  refine ax_bipush (pc := 64) C 7 d_Sat_refute_64 (by decide +kernel) ?_
  replace h := it_b h
  obtain ⟨σ1, r1, d1_1, d2_1, h1, h, hd2, hd1⟩ := h
  replace hle := hG _ _ _ _ (by decide) h1
  dsimp only at hle
  replace hmn : gle σ1 σf := gm_use h (gm_if (gm_tail hG (Nat.le_of_ble_eq_true rfl)) (gm_bnd hG (Nat.le_of_ble_eq_true rfl) (fun _ _ => (gm_if (gm_bnd hG (Nat.le_of_ble_eq_true rfl) (fun _ _ => (gm_tail hG (Nat.le_of_ble_eq_true rfl)))) gm_none))))
  replace hm : sC_Sto_fact l D kA u w tx σ [x1, 7] (σ1, r1, d1_1) := ihC _ _ tC_Sto_fact _ _ _ h1
  refine cc_Vi (pc := 66) C (r0 := r1) (σ2 := σ1) (As := [.int x1, .int 7]) (rest := [.int x2]) (hm _ _ rfl) ml_Sat_91 54 rfl rfl rfl d_Sat_refute_66 rfl rfl (by dsimp only; omega) (by dsimp only; omega) hcm hsm (Nat.le_of_ble_eq_true rfl) ?_
  replace hcq : cells + σf.2.2 3001 ≤ mc + σ1.2.2 3001 := by have := hle.1; omega
  replace hsq : slots + σf.2.2 3002 ≤ ms + σ1.2.2 3002 := by have := hle.2; omega
  replace hF : d2_1 + 3 ≤ F := by omega
  replace hLo : 48 * d2_1 + 144 ≤ Lo := by omega
  refine ax_icmp_ge (pc := 69) C 105 d_Sat_refute_69 (by decide) (fun hc => ?_) (fun hc => ?_)
  · replace h := it_t hc h
    refine ax_ls ([(0, .ref (u 53)), (1, .int x0), (2, .int x1)]) [0, 1, 2] rfl ?_
    replace hm : sG_Sat_refute_p105 l D kA u σ1 [x0, x1] (σf, rf, _) := ih tG_Sat_refute_p105 _ _ _ h
    exact hm _ _ rfl w tx p e s m args below meth c F Lo mc ms cells slots σ0 w0 tx0 hF hLo hcq hsq hga C
  · replace h := it_f hc h
    refine ax_aload_n (pc := 72) C d_Sat_refute_72 rfl 0 rfl ?_
    refine ax_aload_n (pc := 73) C d_Sat_refute_73 rfl 0 rfl ?_
    refine cg_53_9_Sat_27 (pc := 74) C d_Sat_refute_74 ?_
    refine cg_54_1_Sat_125 (pc := 77) C d_Sat_refute_77 ?_
    refine cg_49_0_Sat_151 (pc := 80) C d_Sat_refute_80 ?_
    refine ax_aload_n (pc := 83) C d_Sat_refute_83 rfl 0 rfl ?_
    refine cg_53_9_Sat_27 (pc := 84) C d_Sat_refute_84 ?_
    refine ax_iload_n (pc := 87) C d_Sat_refute_87 rfl 2 rfl ?_
    refine ax_bipush (pc := 88) C 9 d_Sat_refute_88 (by decide +kernel) ?_
    replace h := it_b h
    obtain ⟨σ2, r2, d1_2, d2_2, h1, h, hd2, hd1⟩ := h
    replace hle := hG _ _ _ _ (by decide) h1
    dsimp only at hle
    replace hmn : gle σ2 σf := gm_use h (gm_if (gm_bnd hG (Nat.le_of_ble_eq_true rfl) (fun _ _ => (gm_tail hG (Nat.le_of_ble_eq_true rfl)))) gm_none)
    replace hm : sC_Sto_fact l D kA u w tx σ1 [x1, 9] (σ2, r2, d1_2) := ihC _ _ tC_Sto_fact _ _ _ h1
    refine cc_Vi (pc := 90) C (r0 := r2) (σ2 := σ2) (As := [.int x1, .int 9]) (rest := [.ref (w 50), .ref (u 53)]) (hm _ _ rfl) ml_Sat_91 54 rfl rfl rfl d_Sat_refute_90 rfl rfl (by dsimp only; omega) (by dsimp only; omega) hcm hsm (Nat.le_of_ble_eq_true rfl) ?_
    replace hcq : cells + σf.2.2 3001 ≤ mc + σ2.2.2 3001 := by have := hle.1; omega
    replace hsq : slots + σf.2.2 3002 ≤ ms + σ2.2.2 3002 := by have := hle.2; omega
    replace hF : d2_2 + 3 ≤ F := by omega
    replace hLo : 48 * d2_2 + 144 ≤ Lo := by omega
    refine ax_iload_n (pc := 93) C d_Sat_refute_93 rfl 3 rfl ?_
    refine ax_iadd (pc := 94) C d_Sat_refute_94 ?_
    replace h := it_g h
    obtain ⟨hb, h⟩ := h
    refine cl_50 (pc := 95) C d_Sat_refute_95 (bin_in hb) ?_
    replace h := it_b h
    obtain ⟨σ3, r3, d1_3, d2_3, h1, h, hd2, hd1⟩ := h
    replace hle := hG _ _ _ _ (by decide) h1
    dsimp only at hle
    replace hmn : gle σ3 σf := gm_use h (gm_tail hG (Nat.le_of_ble_eq_true rfl))
    replace hm : sC_Sat_markProof l D kA u w tx σ2 [(σ2.2.1 50 (Int32.toNatClampNeg ((r2 : Int32) + x2)))] (σ3, r3, d1_3) := ihC _ _ tC_Sat_markProof _ _ _ h1
    refine cc_Vv (pc := 96) C (σ2 := σ3) (As := [.int (σ2.2.1 50 (Int32.toNatClampNeg ((r2 : Int32) + x2)))]) (rest := []) (hm _ rfl) ml_Sat_162 53 rfl rfl rfl d_Sat_refute_96 rfl rfl (by dsimp only; omega) (by dsimp only; omega) hcm hsm (Nat.le_of_ble_eq_true rfl) ?_
    replace hcq : cells + σf.2.2 3001 ≤ mc + σ3.2.2 3001 := by have := hle.1; omega
    replace hsq : slots + σf.2.2 3002 ≤ ms + σ3.2.2 3002 := by have := hle.2; omega
    replace hF : d2_3 + 3 ≤ F := by omega
    replace hLo : 48 * d2_3 + 144 ≤ Lo := by omega
    refine ax_iinc (pc := 99) C (x2 + 1) d_Sat_refute_99 3 rfl rfl (Nat.le_of_ble_eq_true rfl) ([(3, .int (x2 + 1)), (0, .ref (u 53)), (1, .int x0), (2, .int x1)]) rfl ?_
    refine ax_goto (pc := 102) C 58 d_Sat_refute_102 (by decide) ?_
    refine ax_ls ([(0, .ref (u 53)), (1, .int x0), (2, .int x1), (3, .int (x2 + 1))]) [1, 2, 3, 0] rfl ?_
    replace hm : sG_Sat_refute_p58 l D kA u σ3 [x0, x1, (x2 + 1)] (σf, rf, _) := ih tG_Sat_refute_p58 _ _ _ h
    exact hm _ _ _ rfl w tx p e s m args below meth c F Lo mc ms cells slots σ0 w0 tx0 hF hLo hcq hsq hga C
set_option maxHeartbeats 4000000 in
set_option maxRecDepth 100000 in
theorem oG_Sat_refute_p105 (l : Launch) (D : va_G) (kA : Nat → ClassId) (u : Nat → Nat) (rec : mF) (hG : GM rec) (ihC : ∀ (w : Nat → Nat) (tx : Value) t σ xs res, rec t σ xs = some res → cSem l D kA u w tx t σ xs res) (ih : ∀ t σ xs res, rec t σ xs = some res → gSem l D kA u t σ xs res) (σ : mS) (xs : List Int32) (res : mR) (h : u_2 (kG_Sat_refute_p105 rec σ) xs = some res) : sG_Sat_refute_p105 l D kA u σ xs res := by
  intro x0 x1 hxs w tx
  subst hxs
  obtain ⟨σf, rf, dd⟩ := res
  have hmn : gle σ σf := qG_Sat_refute_p105 rec hG σ x0 x1 _ h
  have h : (rec tG_Sat_refute_p12 σ [x0, (x1 + (-1))]) = some (σf, rf, dd) := h
  intro p e s m args below meth c F Lo mc ms cells slots σ0 w0 tx0 hF hLo hcq hsq hga C
  dsimp only at hF hLo hcq hsq ⊢
  have hcm : cells ≤ mc := by have := hmn.1; omega
  have hsm : slots ≤ ms := by have := hmn.2; omega
  have hle : True := trivial
  have hm : True := trivial
  refine ax_iinc (pc := 105) C (x1 + (-1)) d_Sat_refute_105 2 rfl rfl (Nat.le_of_ble_eq_true rfl) ([(2, .int (x1 + (-1))), (0, .ref (u 53)), (1, .int x0)]) rfl ?_
  refine ax_goto (pc := 108) C 12 d_Sat_refute_108 (by decide) ?_
  refine ax_ls ([(0, .ref (u 53)), (1, .int x0), (2, .int (x1 + (-1)))]) [1, 2, 0] rfl ?_
  replace hm : sG_Sat_refute_p12 l D kA u σ [x0, (x1 + (-1))] (σf, rf, _) := ih tG_Sat_refute_p12 _ _ _ h
  exact hm _ _ rfl w tx p e s m args below meth c F Lo mc ms cells slots σ0 w0 tx0 hF hLo hcq hsq hga C
set_option maxHeartbeats 4000000 in
set_option maxRecDepth 100000 in
theorem oG_Sat_refute_p113 (l : Launch) (D : va_G) (kA : Nat → ClassId) (u : Nat → Nat) (rec : mF) (hG : GM rec) (ihC : ∀ (w : Nat → Nat) (tx : Value) t σ xs res, rec t σ xs = some res → cSem l D kA u w tx t σ xs res) (ih : ∀ t σ xs res, rec t σ xs = some res → gSem l D kA u t σ xs res) (σ : mS) (xs : List Int32) (res : mR) (h : u_2 (kG_Sat_refute_p113 rec σ) xs = some res) : sG_Sat_refute_p113 l D kA u σ xs res := by
  intro x0 x1 hxs w tx
  subst hxs
  obtain ⟨σf, rf, dd⟩ := res
  have hmn : gle σ σf := qG_Sat_refute_p113 rec hG σ x0 x1 _ h
  have h : (if x0 < x1 then (some (σ, 0, 0)) else (bnd (rec tC_Sto_fact σ [x1, 10]) (fun σ1 r1 => if r1 = 1 then (if rok σ1 5501 56 = true then (lt_ (rAdd σ1 5501 56 x1) (fun σ2 => rec tG_Sat_refute_p140 σ2 [x0, x1])) else none) else (rec tG_Sat_refute_p140 σ1 [x0, x1])))) = some (σf, rf, dd) := h
  intro p e s m args below meth c F Lo mc ms cells slots σ0 w0 tx0 hF hLo hcq hsq hga C
  dsimp only at hF hLo hcq hsq ⊢
  have hcm : cells ≤ mc := by have := hmn.1; omega
  have hsm : slots ≤ ms := by have := hmn.2; omega
  have hle : True := trivial
  have hm : True := trivial
  refine ax_iload_n (pc := 113) C d_Sat_refute_113 rfl 2 rfl ?_
  refine ax_iload_n (pc := 114) C d_Sat_refute_114 rfl 1 rfl ?_
  refine ax_icmp_gt (pc := 115) C 146 d_Sat_refute_115 (by decide) (fun hc => ?_) (fun hc => ?_)
  · replace h := it_t hc h
    cases h
    exact ax_vret (pc := 146) C d_Sat_refute_146 ⟨w, tx, hga, rfl, rfl⟩ hcm hsm
  · replace h := it_f hc h
    refine ax_aload_n (pc := 118) C d_Sat_refute_118 rfl 0 rfl ?_
    refine cg_53_9_Sat_27 (pc := 119) C d_Sat_refute_119 ?_
    refine ax_iload_n (pc := 122) C d_Sat_refute_122 rfl 2 rfl ?_
    refine ax_bipush (pc := 123) C 10 d_Sat_refute_123 (by decide +kernel) ?_
    replace h := it_b h
    obtain ⟨σ1, r1, d1_1, d2_1, h1, h, hd2, hd1⟩ := h
    replace hle := hG _ _ _ _ (by decide) h1
    dsimp only at hle
    replace hmn : gle σ1 σf := gm_use h (gm_if (gm_if (gm_lt (rAdd_le _ _ _ _) (gm_tail hG (Nat.le_of_ble_eq_true rfl))) gm_none) (gm_tail hG (Nat.le_of_ble_eq_true rfl)))
    replace hm : sC_Sto_fact l D kA u w tx σ [x1, 10] (σ1, r1, d1_1) := ihC _ _ tC_Sto_fact _ _ _ h1
    refine cc_Vi (pc := 125) C (r0 := r1) (σ2 := σ1) (As := [.int x1, .int 10]) (rest := []) (hm _ _ rfl) ml_Sat_91 54 rfl rfl rfl d_Sat_refute_125 rfl rfl (by dsimp only; omega) (by dsimp only; omega) hcm hsm (Nat.le_of_ble_eq_true rfl) ?_
    replace hcq : cells + σf.2.2 3001 ≤ mc + σ1.2.2 3001 := by have := hle.1; omega
    replace hsq : slots + σf.2.2 3002 ≤ ms + σ1.2.2 3002 := by have := hle.2; omega
    replace hF : d2_1 + 3 ≤ F := by omega
    replace hLo : 48 * d2_1 + 144 ≤ Lo := by omega
    refine ax_iconst (pc := 128) C 1 d_Sat_refute_128 (by decide +kernel) ?_
    refine ax_icmp_ne (pc := 129) C 140 d_Sat_refute_129 (by decide) (fun hc => ?_) (fun hc => ?_)
    · replace h := it_f hc h
      refine ax_ls ([(0, .ref (u 53)), (1, .int x0), (2, .int x1)]) [0, 1, 2] rfl ?_
      replace hm : sG_Sat_refute_p140 l D kA u σ1 [x0, x1] (σf, rf, _) := ih tG_Sat_refute_p140 _ _ _ h
      exact hm _ _ rfl w tx p e s m args below meth c F Lo mc ms cells slots σ0 w0 tx0 hF hLo hcq hsq hga C
    · replace h := it_t hc h
      refine ax_aload_n (pc := 132) C d_Sat_refute_132 rfl 0 rfl ?_
      refine cg_53_7_Sat_14 (pc := 133) C d_Sat_refute_133 ?_
      refine ax_iload_n (pc := 136) C d_Sat_refute_136 rfl 2 rfl ?_
      replace h := it_g h
      obtain ⟨hb, h⟩ := h
      replace h := it_l h
      replace hle := rAdd_le σ1 5501 56 x1
      replace hmn : gle (rAdd σ1 5501 56 x1) σf := gm_use h (gm_tail hG (Nat.le_of_ble_eq_true rfl))
      refine ca_55 (pc := 137) C (rest := []) ml_Sat_148 d_Sat_refute_137 hb hF hLo (by have := hmn.1; have := hle.1; omega) (by have := hmn.2; have := hle.2; omega) (Nat.le_of_ble_eq_true rfl) (fun w2 hag2 => ?_)
      generalize rAdd σ1 5501 56 x1 = σ2 at h hmn hle ⊢
      have hga2 : ∀ i, ([56] : List Nat).elem i = false → w2 i = w0 i := fun i hi => (hag2 i (by revert hi; exact el_sub (by decide))).trans (hga i hi)
      replace hcq : (cells + (σ2.2.2 3001 - σ1.2.2 3001)) + σf.2.2 3001 ≤ mc + σ2.2.2 3001 := by have := hmn.1; have := hle.1; omega
      replace hcm : (cells + (σ2.2.2 3001 - σ1.2.2 3001)) ≤ mc := by have := hmn.1; have := hle.1; omega
      generalize cells + (σ2.2.2 3001 - σ1.2.2 3001) = cells at hcq hcm ⊢
      replace hsq : (slots + (σ2.2.2 3002 - σ1.2.2 3002)) + σf.2.2 3002 ≤ ms + σ2.2.2 3002 := by have := hmn.2; have := hle.2; omega
      replace hsm : (slots + (σ2.2.2 3002 - σ1.2.2 3002)) ≤ ms := by have := hmn.2; have := hle.2; omega
      generalize slots + (σ2.2.2 3002 - σ1.2.2 3002) = slots at hsq hsm ⊢
      refine ax_ls ([(0, .ref (u 53)), (1, .int x0), (2, .int x1)]) [0, 1, 2] rfl ?_
      replace hm : sG_Sat_refute_p140 l D kA u σ2 [x0, x1] (σf, rf, _) := ih tG_Sat_refute_p140 _ _ _ h
      exact hm _ _ rfl w2 tx p e s m args below meth c F Lo mc ms cells slots σ0 w0 tx0 hF hLo hcq hsq hga2 C
set_option maxHeartbeats 4000000 in
set_option maxRecDepth 100000 in
theorem oG_Sat_refute_p140 (l : Launch) (D : va_G) (kA : Nat → ClassId) (u : Nat → Nat) (rec : mF) (hG : GM rec) (ihC : ∀ (w : Nat → Nat) (tx : Value) t σ xs res, rec t σ xs = some res → cSem l D kA u w tx t σ xs res) (ih : ∀ t σ xs res, rec t σ xs = some res → gSem l D kA u t σ xs res) (σ : mS) (xs : List Int32) (res : mR) (h : u_2 (kG_Sat_refute_p140 rec σ) xs = some res) : sG_Sat_refute_p140 l D kA u σ xs res := by
  intro x0 x1 hxs w tx
  subst hxs
  obtain ⟨σf, rf, dd⟩ := res
  have hmn : gle σ σf := qG_Sat_refute_p140 rec hG σ x0 x1 _ h
  have h : (rec tG_Sat_refute_p113 σ [x0, (x1 + 1)]) = some (σf, rf, dd) := h
  intro p e s m args below meth c F Lo mc ms cells slots σ0 w0 tx0 hF hLo hcq hsq hga C
  dsimp only at hF hLo hcq hsq ⊢
  have hcm : cells ≤ mc := by have := hmn.1; omega
  have hsm : slots ≤ ms := by have := hmn.2; omega
  have hle : True := trivial
  have hm : True := trivial
  refine ax_iinc (pc := 140) C (x1 + 1) d_Sat_refute_140 2 rfl rfl (Nat.le_of_ble_eq_true rfl) ([(2, .int (x1 + 1)), (0, .ref (u 53)), (1, .int x0)]) rfl ?_
  refine ax_goto (pc := 143) C 113 d_Sat_refute_143 (by decide) ?_
  refine ax_ls ([(0, .ref (u 53)), (1, .int x0), (2, .int (x1 + 1))]) [1, 2, 0] rfl ?_
  replace hm : sG_Sat_refute_p113 l D kA u σ [x0, (x1 + 1)] (σf, rf, _) := ih tG_Sat_refute_p113 _ _ _ h
  exact hm _ _ rfl w tx p e s m args below meth c F Lo mc ms cells slots σ0 w0 tx0 hF hLo hcq hsq hga C
set_option maxHeartbeats 4000000 in
set_option maxRecDepth 100000 in
theorem oG_Sat_resolve (l : Launch) (D : va_G) (kA : Nat → ClassId) (u : Nat → Nat) (rec : mF) (hG : GM rec) (ihC : ∀ (w : Nat → Nat) (tx : Value) t σ xs res, rec t σ xs = some res → cSem l D kA u w tx t σ xs res) (ih : ∀ t σ xs res, rec t σ xs = some res → gSem l D kA u t σ xs res) (σ : mS) (xs : List Int32) (res : mR) (h : u_2 (kG_Sat_resolve rec σ) xs = some res) : sG_Sat_resolve l D kA u σ xs res := by
  intro x0 x1 hxs w tx
  subst hxs
  obtain ⟨σf, rf, dd⟩ := res
  have hmn : gle σ σf := qG_Sat_resolve rec hG σ x0 x1 _ h
  have h : (bnd (rec tC_Sto_fact σ [x0, 8]) (fun σ1 r1 => bnd (rec tC_Uni_clear σ1 [r1, r1]) (fun σ2 r2 => if (σ2.1 5300) = 0 then (bnd (rec tC_Sto_sideAt σ2 [x1, 0]) (fun σ3 r3 => bnd (rec tC_Sto_sideAt σ3 [x1, 1]) (fun σ4 r4 => bnd (rec tG_Uni_unite σ4 [r3, 0, r4, 0, 0]) (fun σ5 r5 => if r5 = 0 then (rec tG_Sat_resolve_p80 σ5 [x0, x1, r1]) else (bnd (rec tC_Dra_clear σ5 []) (fun σ6 r6 => bnd (rec tC_Sat_writeOthers σ6 [x0, x1, (-1), 0]) (fun σ7 r7 => bnd (rec tG_Sat_keep σ7 [2, x0, (-1)]) (fun σ8 r8 => rec tG_Sat_resolve_p80 σ8 [x0, x1, r1])))))))) else (rec tG_Sat_resolve_p80 σ2 [x0, x1, r1])))) = some (σf, rf, dd) := h
  refine ax_Mv.of (by decide +kernel) (Nat.le_of_ble_eq_true rfl) ?_
  intro p e s m args below meth c C hnm
  replace C : ax_C p s m args meth c b_Sat_resolve "ClauseProver$Saturation" 4 none D kA (va_A (cpW kA u w tx σ) s.heap.size) := C
  obtain ⟨F, hFe⟩ : ∃ z, z = dd + 3 := ⟨_, rfl⟩
  obtain ⟨Lo, hLoe⟩ : ∃ z, z = 48 * dd + 144 := ⟨_, rfl⟩
  obtain ⟨mc, hmce⟩ : ∃ z, z = σf.2.2 3001 - σ.2.2 3001 := ⟨_, rfl⟩
  obtain ⟨ms, hmse⟩ : ∃ z, z = σf.2.2 3002 - σ.2.2 3002 := ⟨_, rfl⟩
  obtain ⟨σ0, hσ0e⟩ : ∃ z, z = σ := ⟨_, rfl⟩
  obtain ⟨w0, hw0e⟩ : ∃ z, z = w := ⟨_, rfl⟩
  obtain ⟨tx0, htx0e⟩ : ∃ z, z = tx := ⟨_, rfl⟩
  suffices K : ∀ (cells slots : Nat), cells = 0 → slots = 0 → AW p l e { frames := F, cells := mc, slots := ms, locals := Lo } s m args below meth c D kA (va_A (cpW kA u w0 tx0 σ0) s.heap.size) 4 (ax_Qv below args s D kA (cpW kA u w0 tx0 σ0) mc ms (fun w1 => ∃ (w2 : Nat → Nat) (tx2 : Value), (∀ i, ([48, 52, 65] : List Nat).elem i = false → w2 i = w0 i) ∧ tx2 = tx0 ∧ w1 = cpW kA u w2 tx2 σf)) 0 [(0, .ref (u 53)), (1, .int x0), (2, .int x1)] [] (cpW kA u w tx σ) cells slots by
    have K := K 0 0 rfl rfl
    rw [hFe, hLoe, hmce, hmse, hσ0e, hw0e, htx0e] at K
    exact ax_ls ([(0, .ref (u 53)), (1, .int x0), (2, .int x1)]) [0, 1, 2] rfl K
  replace C : ax_C p s m args meth c b_Sat_resolve "ClauseProver$Saturation" 4 none D kA (va_A (cpW kA u w0 tx0 σ0) s.heap.size) := by rw [hσ0e, hw0e, htx0e]; exact C
  intro cells slots hc0 hs0
  have hcq : cells + σf.2.2 3001 ≤ mc + σ.2.2 3001 := by have := hmn.1; omega
  have hsq : slots + σf.2.2 3002 ≤ ms + σ.2.2 3002 := by have := hmn.2; omega
  have hga : ∀ i, ([48, 52, 65] : List Nat).elem i = false → w i = w0 i := fun i _ => by rw [hw0e]
  have e9 : tx = tx0 := htx0e.symm
  subst e9
  have hF : dd + 3 ≤ F := by omega
  have hLo : 48 * dd + 144 ≤ Lo := by omega
  have hcm : cells ≤ mc := by have := hmn.1; omega
  have hsm : slots ≤ ms := by have := hmn.2; omega
  have hle : True := trivial
  have hm : True := trivial
  refine ax_aload_n (pc := 0) C d_Sat_resolve_0 rfl 0 rfl ?_
  refine cg_53_9_Sat_27 (pc := 1) C d_Sat_resolve_1 ?_
  refine ax_iload_n (pc := 4) C d_Sat_resolve_4 rfl 1 rfl ?_
  refine ax_bipush (pc := 5) C 8 d_Sat_resolve_5 (by decide +kernel) ?_
  replace h := it_b h
  obtain ⟨σ1, r1, d1_1, d2_1, h1, h, hd2, hd1⟩ := h
  replace hle := hG _ _ _ _ (by decide) h1
  dsimp only at hle
  replace hmn : gle σ1 σf := gm_use h (gm_bnd hG (Nat.le_of_ble_eq_true rfl) (fun _ _ => (gm_if (gm_bnd hG (Nat.le_of_ble_eq_true rfl) (fun _ _ => (gm_bnd hG (Nat.le_of_ble_eq_true rfl) (fun _ _ => (gm_bnd hG (Nat.le_of_ble_eq_true rfl) (fun _ _ => (gm_if (gm_tail hG (Nat.le_of_ble_eq_true rfl)) (gm_bnd hG (Nat.le_of_ble_eq_true rfl) (fun _ _ => (gm_bnd hG (Nat.le_of_ble_eq_true rfl) (fun _ _ => (gm_bnd hG (Nat.le_of_ble_eq_true rfl) (fun _ _ => (gm_tail hG (Nat.le_of_ble_eq_true rfl))))))))))))))) (gm_tail hG (Nat.le_of_ble_eq_true rfl)))))
  replace hm : sC_Sto_fact l D kA u w tx σ [x0, 8] (σ1, r1, d1_1) := ihC _ _ tC_Sto_fact _ _ _ h1
  refine cc_Vi (pc := 7) C (r0 := r1) (σ2 := σ1) (As := [.int x0, .int 8]) (rest := []) (hm _ _ rfl) ml_Sat_91 54 rfl rfl rfl d_Sat_resolve_7 rfl rfl (by dsimp only; omega) (by dsimp only; omega) hcm hsm (Nat.le_of_ble_eq_true rfl) ?_
  replace hcq : cells + σf.2.2 3001 ≤ mc + σ1.2.2 3001 := by have := hle.1; omega
  replace hsq : slots + σf.2.2 3002 ≤ ms + σ1.2.2 3002 := by have := hle.2; omega
  replace hF : d2_1 + 3 ≤ F := by omega
  replace hLo : 48 * d2_1 + 144 ≤ Lo := by omega
  refine ax_istore_n (pc := 10) C d_Sat_resolve_10 rfl (Nat.le_of_ble_eq_true rfl) ([(3, .int r1), (0, .ref (u 53)), (1, .int x0), (2, .int x1)]) rfl ?_
  refine ax_aload_n (pc := 11) C d_Sat_resolve_11 rfl 1 rfl ?_
  refine cg_53_11_Sat_45 (pc := 12) C d_Sat_resolve_12 ?_
  refine ax_iload_n (pc := 15) C d_Sat_resolve_15 rfl 0 rfl ?_
  refine ax_iload_n (pc := 16) C d_Sat_resolve_16 rfl 0 rfl ?_
  replace h := it_b h
  obtain ⟨σ2, r2, d1_2, d2_2, h1, h, hd2, hd1⟩ := h
  replace hle := hG _ _ _ _ (by decide) h1
  dsimp only at hle
  replace hmn : gle σ2 σf := gm_use h (gm_if (gm_bnd hG (Nat.le_of_ble_eq_true rfl) (fun _ _ => (gm_bnd hG (Nat.le_of_ble_eq_true rfl) (fun _ _ => (gm_bnd hG (Nat.le_of_ble_eq_true rfl) (fun _ _ => (gm_if (gm_tail hG (Nat.le_of_ble_eq_true rfl)) (gm_bnd hG (Nat.le_of_ble_eq_true rfl) (fun _ _ => (gm_bnd hG (Nat.le_of_ble_eq_true rfl) (fun _ _ => (gm_bnd hG (Nat.le_of_ble_eq_true rfl) (fun _ _ => (gm_tail hG (Nat.le_of_ble_eq_true rfl))))))))))))))) (gm_tail hG (Nat.le_of_ble_eq_true rfl)))
  replace hm : sC_Uni_clear l D kA u w tx σ1 [r1, r1] (σ2, r2, d1_2) := ihC _ _ tC_Uni_clear _ _ _ h1
  refine cc_Vv (pc := 17) C (σ2 := σ2) (As := [.int r1, .int r1]) (rest := []) (hm _ _ rfl) ml_Sat_206 59 rfl rfl rfl d_Sat_resolve_17 rfl rfl (by dsimp only; omega) (by dsimp only; omega) hcm hsm (Nat.le_of_ble_eq_true rfl) ?_
  replace hcq : cells + σf.2.2 3001 ≤ mc + σ2.2.2 3001 := by have := hle.1; omega
  replace hsq : slots + σf.2.2 3002 ≤ ms + σ2.2.2 3002 := by have := hle.2; omega
  replace hF : d2_2 + 3 ≤ F := by omega
  replace hLo : 48 * d2_2 + 144 ≤ Lo := by omega
  refine ax_aload_n (pc := 20) C d_Sat_resolve_20 rfl 1 rfl ?_
  refine cg_53_0_Sat_58 (pc := 21) C d_Sat_resolve_21 ?_
  refine ax_if_ne (pc := 24) C 80 d_Sat_resolve_24 (by decide) (fun hc => ?_) (fun hc => ?_)
  · replace h := it_f hc h
    refine ax_ls ([(0, .ref (u 53)), (1, .int x0), (2, .int x1), (3, .int r1)]) [1, 2, 3, 0] rfl ?_
    replace hm : sG_Sat_resolve_p80 l D kA u σ2 [x0, x1, r1] (σf, rf, _) := ih tG_Sat_resolve_p80 _ _ _ h
    exact hm _ _ _ rfl w tx p e s m args below meth c F Lo mc ms cells slots σ0 w0 tx hF hLo hcq hsq hga C
  · replace h := it_t hc h
    refine ax_aload_n (pc := 27) C d_Sat_resolve_27 rfl 1 rfl ?_
    refine cg_53_11_Sat_45 (pc := 28) C d_Sat_resolve_28 ?_
    refine ax_aload_n (pc := 31) C d_Sat_resolve_31 rfl 1 rfl ?_
    refine cg_53_9_Sat_27 (pc := 32) C d_Sat_resolve_32 ?_
    refine ax_iload_n (pc := 35) C d_Sat_resolve_35 rfl 3 rfl ?_
    refine ax_iconst (pc := 36) C 0 d_Sat_resolve_36 (by decide +kernel) ?_
    replace h := it_b h
    obtain ⟨σ3, r3, d1_3, d2_3, h1, h, hd2, hd1⟩ := h
    replace hle := hG _ _ _ _ (by decide) h1
    dsimp only at hle
    replace hmn : gle σ3 σf := gm_use h (gm_bnd hG (Nat.le_of_ble_eq_true rfl) (fun _ _ => (gm_bnd hG (Nat.le_of_ble_eq_true rfl) (fun _ _ => (gm_if (gm_tail hG (Nat.le_of_ble_eq_true rfl)) (gm_bnd hG (Nat.le_of_ble_eq_true rfl) (fun _ _ => (gm_bnd hG (Nat.le_of_ble_eq_true rfl) (fun _ _ => (gm_bnd hG (Nat.le_of_ble_eq_true rfl) (fun _ _ => (gm_tail hG (Nat.le_of_ble_eq_true rfl)))))))))))))
    replace hm : sC_Sto_sideAt l D kA u w tx σ2 [x1, 0] (σ3, r3, d1_3) := ihC _ _ tC_Sto_sideAt _ _ _ h1
    refine cc_Vi (pc := 37) C (r0 := r3) (σ2 := σ3) (As := [.int x1, .int 0]) (rest := [.ref (u 59)]) (hm _ _ rfl) ml_Sat_200 54 rfl rfl rfl d_Sat_resolve_37 rfl rfl (by dsimp only; omega) (by dsimp only; omega) hcm hsm (Nat.le_of_ble_eq_true rfl) ?_
    replace hcq : cells + σf.2.2 3001 ≤ mc + σ3.2.2 3001 := by have := hle.1; omega
    replace hsq : slots + σf.2.2 3002 ≤ ms + σ3.2.2 3002 := by have := hle.2; omega
    replace hF : d2_3 + 3 ≤ F := by omega
    replace hLo : 48 * d2_3 + 144 ≤ Lo := by omega
    refine ax_iconst (pc := 40) C 0 d_Sat_resolve_40 (by decide +kernel) ?_
    refine ax_aload_n (pc := 41) C d_Sat_resolve_41 rfl 1 rfl ?_
    refine cg_53_9_Sat_27 (pc := 42) C d_Sat_resolve_42 ?_
    refine ax_iload_n (pc := 45) C d_Sat_resolve_45 rfl 3 rfl ?_
    refine ax_iconst (pc := 46) C 1 d_Sat_resolve_46 (by decide +kernel) ?_
    replace h := it_b h
    obtain ⟨σ4, r4, d1_4, d2_4, h1, h, hd2, hd1⟩ := h
    replace hle := hG _ _ _ _ (by decide) h1
    dsimp only at hle
    replace hmn : gle σ4 σf := gm_use h (gm_bnd hG (Nat.le_of_ble_eq_true rfl) (fun _ _ => (gm_if (gm_tail hG (Nat.le_of_ble_eq_true rfl)) (gm_bnd hG (Nat.le_of_ble_eq_true rfl) (fun _ _ => (gm_bnd hG (Nat.le_of_ble_eq_true rfl) (fun _ _ => (gm_bnd hG (Nat.le_of_ble_eq_true rfl) (fun _ _ => (gm_tail hG (Nat.le_of_ble_eq_true rfl)))))))))))
    replace hm : sC_Sto_sideAt l D kA u w tx σ3 [x1, 1] (σ4, r4, d1_4) := ihC _ _ tC_Sto_sideAt _ _ _ h1
    refine cc_Vi (pc := 47) C (r0 := r4) (σ2 := σ4) (As := [.int x1, .int 1]) (rest := [.int 0, .int r3, .ref (u 59)]) (hm _ _ rfl) ml_Sat_200 54 rfl rfl rfl d_Sat_resolve_47 rfl rfl (by dsimp only; omega) (by dsimp only; omega) hcm hsm (Nat.le_of_ble_eq_true rfl) ?_
    replace hcq : cells + σf.2.2 3001 ≤ mc + σ4.2.2 3001 := by have := hle.1; omega
    replace hsq : slots + σf.2.2 3002 ≤ ms + σ4.2.2 3002 := by have := hle.2; omega
    replace hF : d2_4 + 3 ≤ F := by omega
    replace hLo : 48 * d2_4 + 144 ≤ Lo := by omega
    refine ax_iconst (pc := 50) C 0 d_Sat_resolve_50 (by decide +kernel) ?_
    refine ax_iconst (pc := 51) C 0 d_Sat_resolve_51 (by decide +kernel) ?_
    replace h := it_b h
    obtain ⟨σ5, r5, d1_5, d2_5, h1, h, hd2, hd1⟩ := h
    replace hle := hG _ _ _ _ (by decide) h1
    dsimp only at hle
    replace hmn : gle σ5 σf := gm_use h (gm_if (gm_tail hG (Nat.le_of_ble_eq_true rfl)) (gm_bnd hG (Nat.le_of_ble_eq_true rfl) (fun _ _ => (gm_bnd hG (Nat.le_of_ble_eq_true rfl) (fun _ _ => (gm_bnd hG (Nat.le_of_ble_eq_true rfl) (fun _ _ => (gm_tail hG (Nat.le_of_ble_eq_true rfl)))))))))
    replace hm : sG_Uni_unite l D kA u σ4 [r3, 0, r4, 0, 0] (σ5, r5, d1_5) := ih tG_Uni_unite _ _ _ h1
    refine gc_VNi (pc := 52) C (As := [.int r3, .int 0, .int r4, .int 0, .int 0]) (rest := []) (hm _ _ _ _ _ rfl w tx) ml_Sat_209 59 rfl rfl rfl d_Sat_resolve_52 rfl rfl (by dsimp only; omega) (by dsimp only; omega) (by have := hmn.1; have := hle.1; dsimp only; omega) (by have := hmn.2; have := hle.2; dsimp only; omega) (Nat.le_of_ble_eq_true rfl) (fun r9 w1 hw => ?_)
    obtain ⟨hrq5, w5, tx5, hag5, htq5, hwq5⟩ := hw
    dsimp only at hwq5 hrq5
    subst hwq5
    replace hrq5 := hrq5.symm
    subst hrq5
    dsimp only
    replace htq5 := htq5.symm
    subst htq5
    have hga5 : ∀ i, ([48, 52, 65] : List Nat).elem i = false → w5 i = w0 i := fun i hi => (hag5 i (by revert hi; exact el_sub (by decide))).trans (hga i hi)
    replace hcq : (cells + (σ5.2.2 3001 - σ4.2.2 3001)) + σf.2.2 3001 ≤ mc + σ5.2.2 3001 := by have := hmn.1; have := hle.1; omega
    replace hcm : (cells + (σ5.2.2 3001 - σ4.2.2 3001)) ≤ mc := by have := hmn.1; have := hle.1; omega
    generalize cells + (σ5.2.2 3001 - σ4.2.2 3001) = cells at hcq hcm ⊢
    replace hsq : (slots + (σ5.2.2 3002 - σ4.2.2 3002)) + σf.2.2 3002 ≤ ms + σ5.2.2 3002 := by have := hmn.2; have := hle.2; omega
    replace hsm : (slots + (σ5.2.2 3002 - σ4.2.2 3002)) ≤ ms := by have := hmn.2; have := hle.2; omega
    generalize slots + (σ5.2.2 3002 - σ4.2.2 3002) = slots at hsq hsm ⊢
    replace hF : d2_5 + 3 ≤ F := by omega
    replace hLo : 48 * d2_5 + 144 ≤ Lo := by omega
    refine ax_if_eq (pc := 55) C 80 d_Sat_resolve_55 (by decide) (fun hc => ?_) (fun hc => ?_)
    · replace h := it_t hc h
      refine ax_ls ([(0, .ref (u 53)), (1, .int x0), (2, .int x1), (3, .int r1)]) [1, 2, 3, 0] rfl ?_
      replace hm : sG_Sat_resolve_p80 l D kA u σ5 [x0, x1, r1] (σf, rf, _) := ih tG_Sat_resolve_p80 _ _ _ h
      exact hm _ _ _ rfl w5 tx p e s m args below meth c F Lo mc ms cells slots σ0 w0 tx hF hLo hcq hsq hga5 C
    · replace h := it_f hc h
      refine ax_aload_n (pc := 58) C d_Sat_resolve_58 rfl 1 rfl ?_
      refine cg_53_10_Sat_31 (pc := 59) C d_Sat_resolve_59 ?_
      replace h := it_b h
      obtain ⟨σ6, r6, d1_6, d2_6, h1, h, hd2, hd1⟩ := h
      replace hle := hG _ _ _ _ (by decide) h1
      dsimp only at hle
      replace hmn : gle σ6 σf := gm_use h (gm_bnd hG (Nat.le_of_ble_eq_true rfl) (fun _ _ => (gm_bnd hG (Nat.le_of_ble_eq_true rfl) (fun _ _ => (gm_tail hG (Nat.le_of_ble_eq_true rfl))))))
      replace hm : sC_Dra_clear l D kA u w5 tx σ5 [] (σ6, r6, d1_6) := ihC _ _ tC_Dra_clear _ _ _ h1
      refine cc_Vv (pc := 62) C (σ2 := σ6) (As := []) (rest := []) (hm rfl) ml_Sat_213 39 rfl rfl rfl d_Sat_resolve_62 rfl rfl (by dsimp only; omega) (by dsimp only; omega) hcm hsm (Nat.le_of_ble_eq_true rfl) ?_
      replace hcq : cells + σf.2.2 3001 ≤ mc + σ6.2.2 3001 := by have := hle.1; omega
      replace hsq : slots + σf.2.2 3002 ≤ ms + σ6.2.2 3002 := by have := hle.2; omega
      replace hF : d2_6 + 3 ≤ F := by omega
      replace hLo : 48 * d2_6 + 144 ≤ Lo := by omega
      refine ax_aload_n (pc := 65) C d_Sat_resolve_65 rfl 1 rfl ?_
      refine ax_iload_n (pc := 66) C d_Sat_resolve_66 rfl 2 rfl ?_
      refine ax_iload_n (pc := 67) C d_Sat_resolve_67 rfl 3 rfl ?_
      refine ax_iconst (pc := 68) C (-1) d_Sat_resolve_68 (by decide +kernel) ?_
      refine ax_iconst (pc := 69) C 0 d_Sat_resolve_69 (by decide +kernel) ?_
      replace h := it_b h
      obtain ⟨σ7, r7, d1_7, d2_7, h1, h, hd2, hd1⟩ := h
      replace hle := hG _ _ _ _ (by decide) h1
      dsimp only at hle
      replace hmn : gle σ7 σf := gm_use h (gm_bnd hG (Nat.le_of_ble_eq_true rfl) (fun _ _ => (gm_tail hG (Nat.le_of_ble_eq_true rfl))))
      replace hm : sC_Sat_writeOthers l D kA u w5 tx σ6 [x0, x1, (-1), 0] (σ7, r7, d1_7) := ihC _ _ tC_Sat_writeOthers _ _ _ h1
      refine cc_Vv (pc := 70) C (σ2 := σ7) (As := [.int x0, .int x1, .int (-1), .int 0]) (rest := []) (hm _ _ _ _ rfl) ml_Sat_215 53 rfl rfl rfl d_Sat_resolve_70 rfl rfl (by dsimp only; omega) (by dsimp only; omega) hcm hsm (Nat.le_of_ble_eq_true rfl) ?_
      replace hcq : cells + σf.2.2 3001 ≤ mc + σ7.2.2 3001 := by have := hle.1; omega
      replace hsq : slots + σf.2.2 3002 ≤ ms + σ7.2.2 3002 := by have := hle.2; omega
      replace hF : d2_7 + 3 ≤ F := by omega
      replace hLo : 48 * d2_7 + 144 ≤ Lo := by omega
      refine ax_aload_n (pc := 73) C d_Sat_resolve_73 rfl 1 rfl ?_
      refine ax_iconst (pc := 74) C 2 d_Sat_resolve_74 (by decide +kernel) ?_
      refine ax_iload_n (pc := 75) C d_Sat_resolve_75 rfl 2 rfl ?_
      refine ax_iconst (pc := 76) C (-1) d_Sat_resolve_76 (by decide +kernel) ?_
      replace h := it_b h
      obtain ⟨σ8, r8, d1_8, d2_8, h1, h, hd2, hd1⟩ := h
      replace hle := hG _ _ _ _ (by decide) h1
      dsimp only at hle
      replace hmn : gle σ8 σf := gm_use h (gm_tail hG (Nat.le_of_ble_eq_true rfl))
      replace hm : sG_Sat_keep l D kA u σ7 [2, x0, (-1)] (σ8, r8, d1_8) := ih tG_Sat_keep _ _ _ h1
      refine gc_Vv (pc := 77) C (As := [.int 2, .int x0, .int (-1)]) (rest := []) (hm _ _ _ rfl w5 tx) ml_Sat_222 53 rfl rfl rfl d_Sat_resolve_77 rfl rfl (by dsimp only; omega) (by dsimp only; omega) (by have := hmn.1; have := hle.1; dsimp only; omega) (by have := hmn.2; have := hle.2; dsimp only; omega) (Nat.le_of_ble_eq_true rfl) (fun w1 hw => ?_)
      obtain ⟨w8, tx8, hag8, htq8, hwq8⟩ := hw
      dsimp only at hwq8
      subst hwq8
      dsimp only
      replace htq8 := htq8.symm
      subst htq8
      have hga8 : ∀ i, ([48, 52, 65] : List Nat).elem i = false → w8 i = w0 i := fun i hi => (hag8 i (by revert hi; exact el_sub (by decide))).trans (hga5 i hi)
      replace hcq : (cells + (σ8.2.2 3001 - σ7.2.2 3001)) + σf.2.2 3001 ≤ mc + σ8.2.2 3001 := by have := hmn.1; have := hle.1; omega
      replace hcm : (cells + (σ8.2.2 3001 - σ7.2.2 3001)) ≤ mc := by have := hmn.1; have := hle.1; omega
      generalize cells + (σ8.2.2 3001 - σ7.2.2 3001) = cells at hcq hcm ⊢
      replace hsq : (slots + (σ8.2.2 3002 - σ7.2.2 3002)) + σf.2.2 3002 ≤ ms + σ8.2.2 3002 := by have := hmn.2; have := hle.2; omega
      replace hsm : (slots + (σ8.2.2 3002 - σ7.2.2 3002)) ≤ ms := by have := hmn.2; have := hle.2; omega
      generalize slots + (σ8.2.2 3002 - σ7.2.2 3002) = slots at hsq hsm ⊢
      replace hF : d2_8 + 3 ≤ F := by omega
      replace hLo : 48 * d2_8 + 144 ≤ Lo := by omega
      refine ax_ls ([(0, .ref (u 53)), (1, .int x0), (2, .int x1), (3, .int r1)]) [1, 2, 3, 0] rfl ?_
      replace hm : sG_Sat_resolve_p80 l D kA u σ8 [x0, x1, r1] (σf, rf, _) := ih tG_Sat_resolve_p80 _ _ _ h
      exact hm _ _ _ rfl w8 tx p e s m args below meth c F Lo mc ms cells slots σ0 w0 tx hF hLo hcq hsq hga8 C
set_option maxHeartbeats 4000000 in
set_option maxRecDepth 100000 in
theorem oG_Sat_resolve_p80 (l : Launch) (D : va_G) (kA : Nat → ClassId) (u : Nat → Nat) (rec : mF) (hG : GM rec) (ihC : ∀ (w : Nat → Nat) (tx : Value) t σ xs res, rec t σ xs = some res → cSem l D kA u w tx t σ xs res) (ih : ∀ t σ xs res, rec t σ xs = some res → gSem l D kA u t σ xs res) (σ : mS) (xs : List Int32) (res : mR) (h : u_3 (kG_Sat_resolve_p80 rec σ) xs = some res) : sG_Sat_resolve_p80 l D kA u σ xs res := by
  intro x0 x1 x2 hxs w tx
  subst hxs
  obtain ⟨σf, rf, dd⟩ := res
  have hmn : gle σ σf := qG_Sat_resolve_p80 rec hG σ x0 x1 x2 _ h
  have h : (some (σ, 0, 0)) = some (σf, rf, dd) := h
  intro p e s m args below meth c F Lo mc ms cells slots σ0 w0 tx0 hF hLo hcq hsq hga C
  dsimp only at hF hLo hcq hsq ⊢
  have hcm : cells ≤ mc := by have := hmn.1; omega
  have hsm : slots ≤ ms := by have := hmn.2; omega
  have hle : True := trivial
  have hm : True := trivial
  cases h
  exact ax_vret (pc := 80) C d_Sat_resolve_80 ⟨w, tx, hga, rfl, rfl⟩ hcm hsm
set_option maxHeartbeats 4000000 in
set_option maxRecDepth 100000 in
theorem oG_Sat_rewrite (l : Launch) (D : va_G) (kA : Nat → ClassId) (u : Nat → Nat) (rec : mF) (hG : GM rec) (ihC : ∀ (w : Nat → Nat) (tx : Value) t σ xs res, rec t σ xs = some res → cSem l D kA u w tx t σ xs res) (ih : ∀ t σ xs res, rec t σ xs = some res → gSem l D kA u t σ xs res) (σ : mS) (xs : List Int32) (res : mR) (h : u_1 (kG_Sat_rewrite rec σ) xs = some res) : sG_Sat_rewrite l D kA u σ xs res := by
  intro x0 hxs w tx
  subst hxs
  obtain ⟨σf, rf, dd⟩ := res
  have hmn : gle σ σf := qG_Sat_rewrite rec hG σ x0 _ h
  have h : (bnd (rec tG_Sat_listSingles σ []) (fun σ1 r1 => bnd (rec tC_Dra_load σ1 [x0]) (fun σ2 r2 => rec tG_Sat_rewrite_p29 σ2 [x0, (σ2.1 4901), 0]))) = some (σf, rf, dd) := h
  refine ax_Mi.of (by decide +kernel) (Nat.le_of_ble_eq_true rfl) ?_
  intro p e s m args below meth c C hnm
  replace C : ax_C p s m args meth c b_Sat_rewrite "ClauseProver$Saturation" 5 (some .int) D kA (va_A (cpW kA u w tx σ) s.heap.size) := C
  obtain ⟨F, hFe⟩ : ∃ z, z = dd + 3 := ⟨_, rfl⟩
  obtain ⟨Lo, hLoe⟩ : ∃ z, z = 48 * dd + 144 := ⟨_, rfl⟩
  obtain ⟨mc, hmce⟩ : ∃ z, z = σf.2.2 3001 - σ.2.2 3001 := ⟨_, rfl⟩
  obtain ⟨ms, hmse⟩ : ∃ z, z = σf.2.2 3002 - σ.2.2 3002 := ⟨_, rfl⟩
  obtain ⟨σ0, hσ0e⟩ : ∃ z, z = σ := ⟨_, rfl⟩
  obtain ⟨w0, hw0e⟩ : ∃ z, z = w := ⟨_, rfl⟩
  obtain ⟨tx0, htx0e⟩ : ∃ z, z = tx := ⟨_, rfl⟩
  suffices K : ∀ (cells slots : Nat), cells = 0 → slots = 0 → AW p l e { frames := F, cells := mc, slots := ms, locals := Lo } s m args below meth c D kA (va_A (cpW kA u w0 tx0 σ0) s.heap.size) 5 (ax_Qi below args s D kA (cpW kA u w0 tx0 σ0) mc ms (fun r w1 => r = rf ∧ ∃ (w2 : Nat → Nat) (tx2 : Value), (∀ i, ([48, 50, 52, 58] : List Nat).elem i = false → w2 i = w0 i) ∧ tx2 = tx0 ∧ w1 = cpW kA u w2 tx2 σf)) 0 [(0, .ref (u 53)), (1, .int x0)] [] (cpW kA u w tx σ) cells slots by
    have K := K 0 0 rfl rfl
    rw [hFe, hLoe, hmce, hmse, hσ0e, hw0e, htx0e] at K
    exact ax_ls ([(0, .ref (u 53)), (1, .int x0)]) [0, 1] rfl K
  replace C : ax_C p s m args meth c b_Sat_rewrite "ClauseProver$Saturation" 5 (some .int) D kA (va_A (cpW kA u w0 tx0 σ0) s.heap.size) := by rw [hσ0e, hw0e, htx0e]; exact C
  intro cells slots hc0 hs0
  have hcq : cells + σf.2.2 3001 ≤ mc + σ.2.2 3001 := by have := hmn.1; omega
  have hsq : slots + σf.2.2 3002 ≤ ms + σ.2.2 3002 := by have := hmn.2; omega
  have hga : ∀ i, ([48, 50, 52, 58] : List Nat).elem i = false → w i = w0 i := fun i _ => by rw [hw0e]
  have e9 : tx = tx0 := htx0e.symm
  subst e9
  have hF : dd + 3 ≤ F := by omega
  have hLo : 48 * dd + 144 ≤ Lo := by omega
  have hcm : cells ≤ mc := by have := hmn.1; omega
  have hsm : slots ≤ ms := by have := hmn.2; omega
  have hle : True := trivial
  have hm : True := trivial
  refine ax_aload_n (pc := 0) C d_Sat_rewrite_0 rfl 0 rfl ?_
  replace h := it_b h
  obtain ⟨σ1, r1, d1_1, d2_1, h1, h, hd2, hd1⟩ := h
  replace hle := hG _ _ _ _ (by decide) h1
  dsimp only at hle
  replace hmn : gle σ1 σf := gm_use h (gm_bnd hG (Nat.le_of_ble_eq_true rfl) (fun _ _ => (gm_tail hG (Nat.le_of_ble_eq_true rfl))))
  replace hm : sG_Sat_listSingles l D kA u σ [] (σ1, r1, d1_1) := ih tG_Sat_listSingles _ _ _ h1
  refine gc_Vv (pc := 1) C (As := []) (rest := []) (hm rfl w tx) ml_Sat_116 53 rfl rfl rfl d_Sat_rewrite_1 rfl rfl (by dsimp only; omega) (by dsimp only; omega) (by have := hmn.1; have := hle.1; dsimp only; omega) (by have := hmn.2; have := hle.2; dsimp only; omega) (Nat.le_of_ble_eq_true rfl) (fun w1 hw => ?_)
  obtain ⟨w1, tx1, hag1, htq1, hwq1⟩ := hw
  dsimp only at hwq1
  subst hwq1
  dsimp only
  replace htq1 := htq1.symm
  subst htq1
  have hga1 : ∀ i, ([48, 50, 52, 58] : List Nat).elem i = false → w1 i = w0 i := fun i hi => (hag1 i (by revert hi; exact el_sub (by decide))).trans (hga i hi)
  replace hcq : (cells + (σ1.2.2 3001 - σ.2.2 3001)) + σf.2.2 3001 ≤ mc + σ1.2.2 3001 := by have := hmn.1; have := hle.1; omega
  replace hcm : (cells + (σ1.2.2 3001 - σ.2.2 3001)) ≤ mc := by have := hmn.1; have := hle.1; omega
  generalize cells + (σ1.2.2 3001 - σ.2.2 3001) = cells at hcq hcm ⊢
  replace hsq : (slots + (σ1.2.2 3002 - σ.2.2 3002)) + σf.2.2 3002 ≤ ms + σ1.2.2 3002 := by have := hmn.2; have := hle.2; omega
  replace hsm : (slots + (σ1.2.2 3002 - σ.2.2 3002)) ≤ ms := by have := hmn.2; have := hle.2; omega
  generalize slots + (σ1.2.2 3002 - σ.2.2 3002) = slots at hsq hsm ⊢
  replace hF : d2_1 + 3 ≤ F := by omega
  replace hLo : 48 * d2_1 + 144 ≤ Lo := by omega
  refine ax_aload_n (pc := 4) C d_Sat_rewrite_4 rfl 0 rfl ?_
  refine cg_53_10_Sat_31 (pc := 5) C d_Sat_rewrite_5 ?_
  refine ax_aload_n (pc := 8) C d_Sat_rewrite_8 rfl 0 rfl ?_
  refine cg_53_9_Sat_27 (pc := 9) C d_Sat_rewrite_9 ?_
  refine ax_iload_n (pc := 12) C d_Sat_rewrite_12 rfl 1 rfl ?_
  replace h := it_b h
  obtain ⟨σ2, r2, d1_2, d2_2, h1, h, hd2, hd1⟩ := h
  replace hle := hG _ _ _ _ (by decide) h1
  dsimp only at hle
  replace hmn : gle σ2 σf := gm_use h (gm_tail hG (Nat.le_of_ble_eq_true rfl))
  replace hm : sC_Dra_load l D kA u w1 tx σ1 [x0] (σ2, r2, d1_2) := ihC _ _ tC_Dra_load _ _ _ h1
  refine cc_Vv (pc := 13) C (σ2 := σ2) (As := [.ref (u 54), .int x0]) (rest := []) (hm _ rfl) ml_Sat_119 39 rfl rfl rfl d_Sat_rewrite_13 rfl rfl (by dsimp only; omega) (by dsimp only; omega) hcm hsm (Nat.le_of_ble_eq_true rfl) ?_
  replace hcq : cells + σf.2.2 3001 ≤ mc + σ2.2.2 3001 := by have := hle.1; omega
  replace hsq : slots + σf.2.2 3002 ≤ ms + σ2.2.2 3002 := by have := hle.2; omega
  replace hF : d2_2 + 3 ≤ F := by omega
  replace hLo : 48 * d2_2 + 144 ≤ Lo := by omega
  refine ax_aload_n (pc := 16) C d_Sat_rewrite_16 rfl 0 rfl ?_
  refine cg_53_9_Sat_27 (pc := 17) C d_Sat_rewrite_17 ?_
  refine cg_54_1_Sat_125 (pc := 20) C d_Sat_rewrite_20 ?_
  refine cg_49_1_Sat_80 (pc := 23) C d_Sat_rewrite_23 ?_
  refine ax_istore_n (pc := 26) C d_Sat_rewrite_26 rfl (Nat.le_of_ble_eq_true rfl) ([(2, .int (σ2.1 4901)), (0, .ref (u 53)), (1, .int x0)]) rfl ?_
  refine ax_iconst (pc := 27) C 0 d_Sat_rewrite_27 (by decide +kernel) ?_
  refine ax_istore_n (pc := 28) C d_Sat_rewrite_28 rfl (Nat.le_of_ble_eq_true rfl) ([(3, .int 0), (2, .int (σ2.1 4901)), (0, .ref (u 53)), (1, .int x0)]) rfl ?_
  refine ax_ls ([(0, .ref (u 53)), (1, .int x0), (2, .int (σ2.1 4901)), (3, .int 0)]) [2, 3, 1, 0] rfl ?_
  replace hm : sG_Sat_rewrite_p29 l D kA u σ2 [x0, (σ2.1 4901), 0] (σf, rf, _) := ih tG_Sat_rewrite_p29 _ _ _ h
  exact hm _ _ _ rfl w1 tx p e s m args below meth c F Lo mc ms cells slots σ0 w0 tx hF hLo hcq hsq hga1 C
set_option maxHeartbeats 4000000 in
set_option maxRecDepth 100000 in
theorem oG_Sat_rewrite_p29 (l : Launch) (D : va_G) (kA : Nat → ClassId) (u : Nat → Nat) (rec : mF) (hG : GM rec) (ihC : ∀ (w : Nat → Nat) (tx : Value) t σ xs res, rec t σ xs = some res → cSem l D kA u w tx t σ xs res) (ih : ∀ t σ xs res, rec t σ xs = some res → gSem l D kA u t σ xs res) (σ : mS) (xs : List Int32) (res : mR) (h : u_3 (kG_Sat_rewrite_p29 rec σ) xs = some res) : sG_Sat_rewrite_p29 l D kA u σ xs res := by
  intro x0 x1 x2 hxs w tx
  subst hxs
  obtain ⟨σf, rf, dd⟩ := res
  have hmn : gle σ σf := qG_Sat_rewrite_p29 rec hG σ x0 x1 x2 _ h
  have h : (if 60 ≤ x2 then (rec tG_Sat_rewrite_p74 σ [x0, x1, x2]) else (bnd (rec tC_Mat_rewriteFirst_r57 σ []) (fun σ1 r1 => if r1 = (-1) then (rec tG_Sat_rewrite_p74 σ1 [x0, x1, x2]) else (bnd (rec tG_Sat_noteRewriter σ1 [x1, r1]) (fun σ2 r2 => rec tG_Sat_rewrite_p29 σ2 [x0, x1, (x2 + 1)]))))) = some (σf, rf, dd) := h
  intro p e s m args below meth c F Lo mc ms cells slots σ0 w0 tx0 hF hLo hcq hsq hga C
  dsimp only at hF hLo hcq hsq ⊢
  have hcm : cells ≤ mc := by have := hmn.1; omega
  have hsm : slots ≤ ms := by have := hmn.2; omega
  have hle : True := trivial
  have hm : True := trivial
  refine ax_iload_n (pc := 29) C d_Sat_rewrite_29 rfl 3 rfl ?_
  refine ax_bipush (pc := 30) C 60 d_Sat_rewrite_30 (by decide +kernel) ?_
  refine ax_icmp_ge (pc := 32) C 74 d_Sat_rewrite_32 (by decide) (fun hc => ?_) (fun hc => ?_)
  · replace h := it_t hc h
    refine ax_ls ([(0, .ref (u 53)), (1, .int x0), (2, .int x1), (3, .int x2)]) [0, 1, 2, 3] rfl ?_
    replace hm : sG_Sat_rewrite_p74 l D kA u σ [x0, x1, x2] (σf, rf, _) := ih tG_Sat_rewrite_p74 _ _ _ h
    exact hm _ _ _ rfl w tx p e s m args below meth c F Lo mc ms cells slots σ0 w0 tx0 hF hLo hcq hsq hga C
  · replace h := it_f hc h
    refine ax_aload_n (pc := 35) C d_Sat_rewrite_35 rfl 0 rfl ?_
    refine cg_53_12_Sat_54 (pc := 36) C d_Sat_rewrite_36 ?_
    refine ax_aload_n (pc := 39) C d_Sat_rewrite_39 rfl 0 rfl ?_
    refine cg_53_10_Sat_31 (pc := 40) C d_Sat_rewrite_40 ?_
    refine ax_aload_n (pc := 43) C d_Sat_rewrite_43 rfl 0 rfl ?_
    refine cg_53_13_Sat_20 (pc := 44) C d_Sat_rewrite_44 ?_
    replace h := it_b h
    obtain ⟨σ1, r1, d1_1, d2_1, h1, h, hd2, hd1⟩ := h
    replace hle := hG _ _ _ _ (by decide) h1
    dsimp only at hle
    replace hmn : gle σ1 σf := gm_use h (gm_if (gm_tail hG (Nat.le_of_ble_eq_true rfl)) (gm_bnd hG (Nat.le_of_ble_eq_true rfl) (fun _ _ => (gm_tail hG (Nat.le_of_ble_eq_true rfl)))))
    replace hm : sC_Mat_rewriteFirst_r57 l D kA u w tx σ [] (σ1, r1, d1_1) := ihC _ _ tC_Mat_rewriteFirst_r57 _ _ _ h1
    refine cc_Vi (pc := 47) C (r0 := r1) (σ2 := σ1) (As := [.ref (u 39), .ref (u 57)]) (rest := []) (hm rfl) ml_Sat_128 66 rfl rfl rfl d_Sat_rewrite_47 rfl rfl (by dsimp only; omega) (by dsimp only; omega) hcm hsm (Nat.le_of_ble_eq_true rfl) ?_
    replace hcq : cells + σf.2.2 3001 ≤ mc + σ1.2.2 3001 := by have := hle.1; omega
    replace hsq : slots + σf.2.2 3002 ≤ ms + σ1.2.2 3002 := by have := hle.2; omega
    replace hF : d2_1 + 3 ≤ F := by omega
    replace hLo : 48 * d2_1 + 144 ≤ Lo := by omega
    refine ax_istore (pc := 50) C d_Sat_rewrite_50 (Nat.le_of_ble_eq_true rfl) ([(4, .int r1), (0, .ref (u 53)), (1, .int x0), (2, .int x1), (3, .int x2)]) rfl ?_
    refine ax_iload (pc := 52) C d_Sat_rewrite_52 0 rfl ?_
    refine ax_iconst (pc := 54) C (-1) d_Sat_rewrite_54 (by decide +kernel) ?_
    refine ax_icmp_ne (pc := 55) C 61 d_Sat_rewrite_55 (by decide) (fun hc => ?_) (fun hc => ?_)
    · replace h := it_f hc h
      refine ax_aload_n (pc := 61) C d_Sat_rewrite_61 rfl 1 rfl ?_
      refine ax_iload_n (pc := 62) C d_Sat_rewrite_62 rfl 3 rfl ?_
      refine ax_iload (pc := 63) C d_Sat_rewrite_63 0 rfl ?_
      replace h := it_b h
      obtain ⟨σ2, r2, d1_2, d2_2, h1, h, hd2, hd1⟩ := h
      replace hle := hG _ _ _ _ (by decide) h1
      dsimp only at hle
      replace hmn : gle σ2 σf := gm_use h (gm_tail hG (Nat.le_of_ble_eq_true rfl))
      replace hm : sG_Sat_noteRewriter l D kA u σ1 [x1, r1] (σ2, r2, d1_2) := ih tG_Sat_noteRewriter _ _ _ h1
      refine gc_Vv (pc := 65) C (As := [.int x1, .int r1]) (rest := []) (hm _ _ rfl w tx) ml_Sat_132 53 rfl rfl rfl d_Sat_rewrite_65 rfl rfl (by dsimp only; omega) (by dsimp only; omega) (by have := hmn.1; have := hle.1; dsimp only; omega) (by have := hmn.2; have := hle.2; dsimp only; omega) (Nat.le_of_ble_eq_true rfl) (fun w1 hw => ?_)
      obtain ⟨w2, tx2, hag2, htq2, hwq2⟩ := hw
      dsimp only at hwq2
      subst hwq2
      dsimp only
      replace htq2 := htq2.symm
      subst htq2
      have hga2 : ∀ i, ([48, 50, 52, 58] : List Nat).elem i = false → w2 i = w0 i := fun i hi => (hag2 i (by revert hi; exact el_sub (by decide))).trans (hga i hi)
      replace hcq : (cells + (σ2.2.2 3001 - σ1.2.2 3001)) + σf.2.2 3001 ≤ mc + σ2.2.2 3001 := by have := hmn.1; have := hle.1; omega
      replace hcm : (cells + (σ2.2.2 3001 - σ1.2.2 3001)) ≤ mc := by have := hmn.1; have := hle.1; omega
      generalize cells + (σ2.2.2 3001 - σ1.2.2 3001) = cells at hcq hcm ⊢
      replace hsq : (slots + (σ2.2.2 3002 - σ1.2.2 3002)) + σf.2.2 3002 ≤ ms + σ2.2.2 3002 := by have := hmn.2; have := hle.2; omega
      replace hsm : (slots + (σ2.2.2 3002 - σ1.2.2 3002)) ≤ ms := by have := hmn.2; have := hle.2; omega
      generalize slots + (σ2.2.2 3002 - σ1.2.2 3002) = slots at hsq hsm ⊢
      replace hF : d2_2 + 3 ≤ F := by omega
      replace hLo : 48 * d2_2 + 144 ≤ Lo := by omega
      refine ax_iinc (pc := 68) C (x2 + 1) d_Sat_rewrite_68 4 rfl rfl (Nat.le_of_ble_eq_true rfl) ([(3, .int (x2 + 1)), (4, .int r1), (0, .ref (u 53)), (1, .int x0), (2, .int x1)]) rfl ?_
      refine ax_goto (pc := 71) C 29 d_Sat_rewrite_71 (by decide) ?_
      refine ax_ls ([(0, .ref (u 53)), (1, .int x0), (2, .int x1), (3, .int (x2 + 1))]) [2, 3, 4, 0] rfl ?_
      replace hm : sG_Sat_rewrite_p29 l D kA u σ2 [x0, x1, (x2 + 1)] (σf, rf, _) := ih tG_Sat_rewrite_p29 _ _ _ h
      exact hm _ _ _ rfl w2 tx p e s m args below meth c F Lo mc ms cells slots σ0 w0 tx0 hF hLo hcq hsq hga2 C
    · replace h := it_t hc h
      refine ax_goto (pc := 58) C 74 d_Sat_rewrite_58 (by decide) ?_
      refine ax_ls ([(0, .ref (u 53)), (1, .int x0), (2, .int x1), (3, .int x2)]) [1, 2, 3, 4] rfl ?_
      replace hm : sG_Sat_rewrite_p74 l D kA u σ1 [x0, x1, x2] (σf, rf, _) := ih tG_Sat_rewrite_p74 _ _ _ h
      exact hm _ _ _ rfl w tx p e s m args below meth c F Lo mc ms cells slots σ0 w0 tx0 hF hLo hcq hsq hga C
set_option maxHeartbeats 4000000 in
set_option maxRecDepth 100000 in
theorem oG_Sat_rewrite_p74 (l : Launch) (D : va_G) (kA : Nat → ClassId) (u : Nat → Nat) (rec : mF) (hG : GM rec) (ihC : ∀ (w : Nat → Nat) (tx : Value) t σ xs res, rec t σ xs = some res → cSem l D kA u w tx t σ xs res) (ih : ∀ t σ xs res, rec t σ xs = some res → gSem l D kA u t σ xs res) (σ : mS) (xs : List Int32) (res : mR) (h : u_3 (kG_Sat_rewrite_p74 rec σ) xs = some res) : sG_Sat_rewrite_p74 l D kA u σ xs res := by
  intro x0 x1 x2 hxs w tx
  subst hxs
  obtain ⟨σf, rf, dd⟩ := res
  have hmn : gle σ σf := qG_Sat_rewrite_p74 rec hG σ x0 x1 x2 _ h
  have h : (if x2 = 0 then (some (σ, x0, 0)) else (lt_ (mI σ 5305 (((σ.1 5305) : Int32) + x2)) (fun σ1 => bnd (rec tC_Dra_reduce σ1 []) (fun σ2 r2 => bnd (rec tG_Sat_keepRewritten σ2 [x0, x1]) (fun σ3 r3 => if r3 = (-1) then (lt_ (mI σ3 4901 x1) (fun σ4 => rec tG_Sat_rewrite_p122 σ4 [x0, x1, x2, r3])) else (rec tG_Sat_rewrite_p122 σ3 [x0, x1, x2, r3])))))) = some (σf, rf, dd) := h
  intro p e s m args below meth c F Lo mc ms cells slots σ0 w0 tx0 hF hLo hcq hsq hga C
  dsimp only at hF hLo hcq hsq ⊢
  have hcm : cells ≤ mc := by have := hmn.1; omega
  have hsm : slots ≤ ms := by have := hmn.2; omega
  have hle : True := trivial
  have hm : True := trivial
  refine ax_iload_n (pc := 74) C d_Sat_rewrite_74 rfl 3 rfl ?_
  refine ax_if_ne (pc := 75) C 80 d_Sat_rewrite_75 (by decide) (fun hc => ?_) (fun hc => ?_)
  · replace h := it_f hc h
    refine ax_aload_n (pc := 80) C d_Sat_rewrite_80 rfl 0 rfl ?_
    refine ax_dup (pc := 81) C d_Sat_rewrite_81 rfl ?_
    refine cg_53_5_Sat_74 (pc := 82) C d_Sat_rewrite_82 ?_
    refine ax_iload_n (pc := 85) C d_Sat_rewrite_85 rfl 3 rfl ?_
    refine ax_iadd (pc := 86) C d_Sat_rewrite_86 ?_
    refine cq_53_5_Sat_74 (pc := 87) C d_Sat_rewrite_87 ?_
    replace h := it_l h
    replace hcq : cells + σf.2.2 3001 ≤ mc + (mI σ 5305 (((σ.1 5305) : Int32) + x2)).2.2 3001 := hcq
    replace hsq : slots + σf.2.2 3002 ≤ ms + (mI σ 5305 (((σ.1 5305) : Int32) + x2)).2.2 3002 := hsq
    generalize mI σ 5305 (((σ.1 5305) : Int32) + x2) = σ1 at h hcq hsq ⊢
    refine ax_aload_n (pc := 90) C d_Sat_rewrite_90 rfl 0 rfl ?_
    refine cg_53_10_Sat_31 (pc := 91) C d_Sat_rewrite_91 ?_
    replace h := it_b h
    obtain ⟨σ2, r2, d1_2, d2_2, h1, h, hd2, hd1⟩ := h
    replace hle := hG _ _ _ _ (by decide) h1
    dsimp only at hle
    replace hmn : gle σ2 σf := gm_use h (gm_bnd hG (Nat.le_of_ble_eq_true rfl) (fun _ _ => (gm_if (gm_lt ⟨Nat.le_refl _, Nat.le_refl _, rfl⟩ (gm_tail hG (Nat.le_of_ble_eq_true rfl))) (gm_tail hG (Nat.le_of_ble_eq_true rfl)))))
    replace hm : sC_Dra_reduce l D kA u w tx σ1 [] (σ2, r2, d1_2) := ihC _ _ tC_Dra_reduce _ _ _ h1
    refine cc_Vv (pc := 94) C (σ2 := σ2) (As := []) (rest := []) (hm rfl) ml_Sat_136 39 rfl rfl rfl d_Sat_rewrite_94 rfl rfl (by dsimp only; omega) (by dsimp only; omega) hcm hsm (Nat.le_of_ble_eq_true rfl) ?_
    replace hcq : cells + σf.2.2 3001 ≤ mc + σ2.2.2 3001 := by have := hle.1; omega
    replace hsq : slots + σf.2.2 3002 ≤ ms + σ2.2.2 3002 := by have := hle.2; omega
    replace hF : d2_2 + 3 ≤ F := by omega
    replace hLo : 48 * d2_2 + 144 ≤ Lo := by omega
    refine ax_aload_n (pc := 97) C d_Sat_rewrite_97 rfl 0 rfl ?_
    refine ax_iload_n (pc := 98) C d_Sat_rewrite_98 rfl 1 rfl ?_
    refine ax_iload_n (pc := 99) C d_Sat_rewrite_99 rfl 2 rfl ?_
    replace h := it_b h
    obtain ⟨σ3, r3, d1_3, d2_3, h1, h, hd2, hd1⟩ := h
    replace hle := hG _ _ _ _ (by decide) h1
    dsimp only at hle
    replace hmn : gle σ3 σf := gm_use h (gm_if (gm_lt ⟨Nat.le_refl _, Nat.le_refl _, rfl⟩ (gm_tail hG (Nat.le_of_ble_eq_true rfl))) (gm_tail hG (Nat.le_of_ble_eq_true rfl)))
    replace hm : sG_Sat_keepRewritten l D kA u σ2 [x0, x1] (σ3, r3, d1_3) := ih tG_Sat_keepRewritten _ _ _ h1
    refine gc_Vi (pc := 100) C (As := [.int x0, .int x1]) (rest := []) (hm _ _ rfl w tx) ml_Sat_139 53 rfl rfl rfl d_Sat_rewrite_100 rfl rfl (by dsimp only; omega) (by dsimp only; omega) (by have := hmn.1; have := hle.1; dsimp only; omega) (by have := hmn.2; have := hle.2; dsimp only; omega) (Nat.le_of_ble_eq_true rfl) (fun r9 w1 hw => ?_)
    obtain ⟨hrq3, w3, tx3, hag3, htq3, hwq3⟩ := hw
    dsimp only at hwq3 hrq3
    subst hwq3
    replace hrq3 := hrq3.symm
    subst hrq3
    dsimp only
    replace htq3 := htq3.symm
    subst htq3
    have hga3 : ∀ i, ([48, 50, 52, 58] : List Nat).elem i = false → w3 i = w0 i := fun i hi => (hag3 i (by revert hi; exact el_sub (by decide))).trans (hga i hi)
    replace hcq : (cells + (σ3.2.2 3001 - σ2.2.2 3001)) + σf.2.2 3001 ≤ mc + σ3.2.2 3001 := by have := hmn.1; have := hle.1; omega
    replace hcm : (cells + (σ3.2.2 3001 - σ2.2.2 3001)) ≤ mc := by have := hmn.1; have := hle.1; omega
    generalize cells + (σ3.2.2 3001 - σ2.2.2 3001) = cells at hcq hcm ⊢
    replace hsq : (slots + (σ3.2.2 3002 - σ2.2.2 3002)) + σf.2.2 3002 ≤ ms + σ3.2.2 3002 := by have := hmn.2; have := hle.2; omega
    replace hsm : (slots + (σ3.2.2 3002 - σ2.2.2 3002)) ≤ ms := by have := hmn.2; have := hle.2; omega
    generalize slots + (σ3.2.2 3002 - σ2.2.2 3002) = slots at hsq hsm ⊢
    replace hF : d2_3 + 3 ≤ F := by omega
    replace hLo : 48 * d2_3 + 144 ≤ Lo := by omega
    refine ax_istore (pc := 103) C d_Sat_rewrite_103 (Nat.le_of_ble_eq_true rfl) ([(4, .int r3), (0, .ref (u 53)), (1, .int x0), (2, .int x1), (3, .int x2)]) rfl ?_
    refine ax_iload (pc := 105) C d_Sat_rewrite_105 0 rfl ?_
    refine ax_iconst (pc := 107) C (-1) d_Sat_rewrite_107 (by decide +kernel) ?_
    refine ax_icmp_ne (pc := 108) C 122 d_Sat_rewrite_108 (by decide) (fun hc => ?_) (fun hc => ?_)
    · replace h := it_f hc h
      refine ax_ls ([(0, .ref (u 53)), (1, .int x0), (2, .int x1), (3, .int x2), (4, .int r3)]) [1, 2, 3, 4, 0] rfl ?_
      replace hm : sG_Sat_rewrite_p122 l D kA u σ3 [x0, x1, x2, r3] (σf, rf, _) := ih tG_Sat_rewrite_p122 _ _ _ h
      exact hm _ _ _ _ rfl w3 tx p e s m args below meth c F Lo mc ms cells slots σ0 w0 tx0 hF hLo hcq hsq hga3 C
    · replace h := it_t hc h
      refine ax_aload_n (pc := 111) C d_Sat_rewrite_111 rfl 1 rfl ?_
      refine cg_53_9_Sat_27 (pc := 112) C d_Sat_rewrite_112 ?_
      refine cg_54_1_Sat_125 (pc := 115) C d_Sat_rewrite_115 ?_
      refine ax_iload_n (pc := 118) C d_Sat_rewrite_118 rfl 3 rfl ?_
      refine cq_49_1_Sat_80 (pc := 119) C d_Sat_rewrite_119 ?_
      replace h := it_l h
      replace hcq : cells + σf.2.2 3001 ≤ mc + (mI σ3 4901 x1).2.2 3001 := hcq
      replace hsq : slots + σf.2.2 3002 ≤ ms + (mI σ3 4901 x1).2.2 3002 := hsq
      generalize mI σ3 4901 x1 = σ4 at h hcq hsq ⊢
      refine ax_ls ([(0, .ref (u 53)), (1, .int x0), (2, .int x1), (3, .int x2), (4, .int r3)]) [1, 2, 3, 4, 0] rfl ?_
      replace hm : sG_Sat_rewrite_p122 l D kA u σ4 [x0, x1, x2, r3] (σf, rf, _) := ih tG_Sat_rewrite_p122 _ _ _ h
      exact hm _ _ _ _ rfl w3 tx p e s m args below meth c F Lo mc ms cells slots σ0 w0 tx0 hF hLo hcq hsq hga3 C
  · replace h := it_t hc h
    refine ax_iload_n (pc := 78) C d_Sat_rewrite_78 rfl 1 rfl ?_
    cases h
    exact ax_iret (pc := 79) C d_Sat_rewrite_79 ⟨rfl, w, tx, hga, rfl, rfl⟩ hcm hsm
set_option maxHeartbeats 4000000 in
set_option maxRecDepth 100000 in
theorem oG_Sat_rewrite_p122 (l : Launch) (D : va_G) (kA : Nat → ClassId) (u : Nat → Nat) (rec : mF) (hG : GM rec) (ihC : ∀ (w : Nat → Nat) (tx : Value) t σ xs res, rec t σ xs = some res → cSem l D kA u w tx t σ xs res) (ih : ∀ t σ xs res, rec t σ xs = some res → gSem l D kA u t σ xs res) (σ : mS) (xs : List Int32) (res : mR) (h : u_4 (kG_Sat_rewrite_p122 rec σ) xs = some res) : sG_Sat_rewrite_p122 l D kA u σ xs res := by
  intro x0 x1 x2 x3 hxs w tx
  subst hxs
  obtain ⟨σf, rf, dd⟩ := res
  have hmn : gle σ σf := qG_Sat_rewrite_p122 rec hG σ x0 x1 x2 x3 _ h
  have h : (some (σ, x3, 0)) = some (σf, rf, dd) := h
  intro p e s m args below meth c F Lo mc ms cells slots σ0 w0 tx0 hF hLo hcq hsq hga C
  dsimp only at hF hLo hcq hsq ⊢
  have hcm : cells ≤ mc := by have := hmn.1; omega
  have hsm : slots ≤ ms := by have := hmn.2; omega
  have hle : True := trivial
  have hm : True := trivial
  refine ax_iload (pc := 122) C d_Sat_rewrite_122 4 rfl ?_
  cases h
  exact ax_iret (pc := 124) C d_Sat_rewrite_124 ⟨rfl, w, tx, hga, rfl, rfl⟩ hcm hsm
set_option maxHeartbeats 4000000 in
set_option maxRecDepth 100000 in
theorem oG_Sat_superpose (l : Launch) (D : va_G) (kA : Nat → ClassId) (u : Nat → Nat) (rec : mF) (hG : GM rec) (ihC : ∀ (w : Nat → Nat) (tx : Value) t σ xs res, rec t σ xs = some res → cSem l D kA u w tx t σ xs res) (ih : ∀ t σ xs res, rec t σ xs = some res → gSem l D kA u t σ xs res) (σ : mS) (xs : List Int32) (res : mR) (h : u_2 (kG_Sat_superpose rec σ) xs = some res) : sG_Sat_superpose l D kA u σ xs res := by
  intro x0 x1 hxs w tx
  subst hxs
  obtain ⟨σf, rf, dd⟩ := res
  have hmn : gle σ σf := qG_Sat_superpose rec hG σ x0 x1 _ h
  have h : (bnd (rec tC_Sto_fact σ [x0, 3]) (fun σ1 r1 => bnd (rec tC_Sto_fact σ1 [x1, 3]) (fun σ2 r2 => rec tG_Sat_superpose_p28 σ2 [x0, x1, ((2 : Int32) * r1), ((2 : Int32) * r2), 0]))) = some (σf, rf, dd) := h
  refine ax_Mv.of (by decide +kernel) (Nat.le_of_ble_eq_true rfl) ?_
  intro p e s m args below meth c C hnm
  replace C : ax_C p s m args meth c b_Sat_superpose "ClauseProver$Saturation" 10 none D kA (va_A (cpW kA u w tx σ) s.heap.size) := C
  obtain ⟨F, hFe⟩ : ∃ z, z = dd + 3 := ⟨_, rfl⟩
  obtain ⟨Lo, hLoe⟩ : ∃ z, z = 48 * dd + 144 := ⟨_, rfl⟩
  obtain ⟨mc, hmce⟩ : ∃ z, z = σf.2.2 3001 - σ.2.2 3001 := ⟨_, rfl⟩
  obtain ⟨ms, hmse⟩ : ∃ z, z = σf.2.2 3002 - σ.2.2 3002 := ⟨_, rfl⟩
  obtain ⟨σ0, hσ0e⟩ : ∃ z, z = σ := ⟨_, rfl⟩
  obtain ⟨w0, hw0e⟩ : ∃ z, z = w := ⟨_, rfl⟩
  obtain ⟨tx0, htx0e⟩ : ∃ z, z = tx := ⟨_, rfl⟩
  suffices K : ∀ (cells slots : Nat), cells = 0 → slots = 0 → AW p l e { frames := F, cells := mc, slots := ms, locals := Lo } s m args below meth c D kA (va_A (cpW kA u w0 tx0 σ0) s.heap.size) 10 (ax_Qv below args s D kA (cpW kA u w0 tx0 σ0) mc ms (fun w1 => ∃ (w2 : Nat → Nat) (tx2 : Value), (∀ i, ([48, 52, 65] : List Nat).elem i = false → w2 i = w0 i) ∧ tx2 = tx0 ∧ w1 = cpW kA u w2 tx2 σf)) 0 [(0, .ref (u 53)), (1, .int x0), (2, .int x1)] [] (cpW kA u w tx σ) cells slots by
    have K := K 0 0 rfl rfl
    rw [hFe, hLoe, hmce, hmse, hσ0e, hw0e, htx0e] at K
    exact ax_ls ([(0, .ref (u 53)), (1, .int x0), (2, .int x1)]) [0, 1, 2] rfl K
  replace C : ax_C p s m args meth c b_Sat_superpose "ClauseProver$Saturation" 10 none D kA (va_A (cpW kA u w0 tx0 σ0) s.heap.size) := by rw [hσ0e, hw0e, htx0e]; exact C
  intro cells slots hc0 hs0
  have hcq : cells + σf.2.2 3001 ≤ mc + σ.2.2 3001 := by have := hmn.1; omega
  have hsq : slots + σf.2.2 3002 ≤ ms + σ.2.2 3002 := by have := hmn.2; omega
  have hga : ∀ i, ([48, 52, 65] : List Nat).elem i = false → w i = w0 i := fun i _ => by rw [hw0e]
  have e9 : tx = tx0 := htx0e.symm
  subst e9
  have hF : dd + 3 ≤ F := by omega
  have hLo : 48 * dd + 144 ≤ Lo := by omega
  have hcm : cells ≤ mc := by have := hmn.1; omega
  have hsm : slots ≤ ms := by have := hmn.2; omega
  have hle : True := trivial
  have hm : True := trivial
  refine ax_iconst (pc := 0) C 2 d_Sat_superpose_0 (by decide +kernel) ?_
  refine ax_aload_n (pc := 1) C d_Sat_superpose_1 rfl 0 rfl ?_
  refine cg_53_9_Sat_27 (pc := 2) C d_Sat_superpose_2 ?_
  refine ax_iload_n (pc := 5) C d_Sat_superpose_5 rfl 1 rfl ?_
  refine ax_iconst (pc := 6) C 3 d_Sat_superpose_6 (by decide +kernel) ?_
  replace h := it_b h
  obtain ⟨σ1, r1, d1_1, d2_1, h1, h, hd2, hd1⟩ := h
  replace hle := hG _ _ _ _ (by decide) h1
  dsimp only at hle
  replace hmn : gle σ1 σf := gm_use h (gm_bnd hG (Nat.le_of_ble_eq_true rfl) (fun _ _ => (gm_tail hG (Nat.le_of_ble_eq_true rfl))))
  replace hm : sC_Sto_fact l D kA u w tx σ [x0, 3] (σ1, r1, d1_1) := ihC _ _ tC_Sto_fact _ _ _ h1
  refine cc_Vi (pc := 7) C (r0 := r1) (σ2 := σ1) (As := [.int x0, .int 3]) (rest := [.int 2]) (hm _ _ rfl) ml_Sat_91 54 rfl rfl rfl d_Sat_superpose_7 rfl rfl (by dsimp only; omega) (by dsimp only; omega) hcm hsm (Nat.le_of_ble_eq_true rfl) ?_
  replace hcq : cells + σf.2.2 3001 ≤ mc + σ1.2.2 3001 := by have := hle.1; omega
  replace hsq : slots + σf.2.2 3002 ≤ ms + σ1.2.2 3002 := by have := hle.2; omega
  replace hF : d2_1 + 3 ≤ F := by omega
  replace hLo : 48 * d2_1 + 144 ≤ Lo := by omega
  refine ax_imul (pc := 10) C d_Sat_superpose_10 ?_
  refine ax_istore_n (pc := 11) C d_Sat_superpose_11 rfl (Nat.le_of_ble_eq_true rfl) ([(3, .int ((2 : Int32) * r1)), (0, .ref (u 53)), (1, .int x0), (2, .int x1)]) rfl ?_
  refine ax_iconst (pc := 12) C 2 d_Sat_superpose_12 (by decide +kernel) ?_
  refine ax_aload_n (pc := 13) C d_Sat_superpose_13 rfl 1 rfl ?_
  refine cg_53_9_Sat_27 (pc := 14) C d_Sat_superpose_14 ?_
  refine ax_iload_n (pc := 17) C d_Sat_superpose_17 rfl 3 rfl ?_
  refine ax_iconst (pc := 18) C 3 d_Sat_superpose_18 (by decide +kernel) ?_
  replace h := it_b h
  obtain ⟨σ2, r2, d1_2, d2_2, h1, h, hd2, hd1⟩ := h
  replace hle := hG _ _ _ _ (by decide) h1
  dsimp only at hle
  replace hmn : gle σ2 σf := gm_use h (gm_tail hG (Nat.le_of_ble_eq_true rfl))
  replace hm : sC_Sto_fact l D kA u w tx σ1 [x1, 3] (σ2, r2, d1_2) := ihC _ _ tC_Sto_fact _ _ _ h1
  refine cc_Vi (pc := 19) C (r0 := r2) (σ2 := σ2) (As := [.int x1, .int 3]) (rest := [.int 2]) (hm _ _ rfl) ml_Sat_91 54 rfl rfl rfl d_Sat_superpose_19 rfl rfl (by dsimp only; omega) (by dsimp only; omega) hcm hsm (Nat.le_of_ble_eq_true rfl) ?_
  replace hcq : cells + σf.2.2 3001 ≤ mc + σ2.2.2 3001 := by have := hle.1; omega
  replace hsq : slots + σf.2.2 3002 ≤ ms + σ2.2.2 3002 := by have := hle.2; omega
  replace hF : d2_2 + 3 ≤ F := by omega
  replace hLo : 48 * d2_2 + 144 ≤ Lo := by omega
  refine ax_imul (pc := 22) C d_Sat_superpose_22 ?_
  refine ax_istore (pc := 23) C d_Sat_superpose_23 (Nat.le_of_ble_eq_true rfl) ([(4, .int ((2 : Int32) * r2)), (3, .int ((2 : Int32) * r1)), (0, .ref (u 53)), (1, .int x0), (2, .int x1)]) rfl ?_
  refine ax_iconst (pc := 25) C 0 d_Sat_superpose_25 (by decide +kernel) ?_
  refine ax_istore (pc := 26) C d_Sat_superpose_26 (Nat.le_of_ble_eq_true rfl) ([(5, .int 0), (4, .int ((2 : Int32) * r2)), (3, .int ((2 : Int32) * r1)), (0, .ref (u 53)), (1, .int x0), (2, .int x1)]) rfl ?_
  refine ax_ls ([(0, .ref (u 53)), (1, .int x0), (2, .int x1), (3, .int ((2 : Int32) * r1)), (4, .int ((2 : Int32) * r2)), (5, .int 0)]) [3, 4, 5, 2, 1, 0] rfl ?_
  replace hm : sG_Sat_superpose_p28 l D kA u σ2 [x0, x1, ((2 : Int32) * r1), ((2 : Int32) * r2), 0] (σf, rf, _) := ih tG_Sat_superpose_p28 _ _ _ h
  exact hm _ _ _ _ _ rfl w tx p e s m args below meth c F Lo mc ms cells slots σ0 w0 tx hF hLo hcq hsq hga C
set_option maxHeartbeats 4000000 in
set_option maxRecDepth 100000 in
theorem oG_Sat_superpose_p28 (l : Launch) (D : va_G) (kA : Nat → ClassId) (u : Nat → Nat) (rec : mF) (hG : GM rec) (ihC : ∀ (w : Nat → Nat) (tx : Value) t σ xs res, rec t σ xs = some res → cSem l D kA u w tx t σ xs res) (ih : ∀ t σ xs res, rec t σ xs = some res → gSem l D kA u t σ xs res) (σ : mS) (xs : List Int32) (res : mR) (h : u_5 (kG_Sat_superpose_p28 rec σ) xs = some res) : sG_Sat_superpose_p28 l D kA u σ xs res := by
  intro x0 x1 x2 x3 x4 hxs w tx
  subst hxs
  obtain ⟨σf, rf, dd⟩ := res
  have hmn : gle σ σf := qG_Sat_superpose_p28 rec hG σ x0 x1 x2 x3 x4 _ h
  have h : (if x2 ≤ x4 then (some (σ, 0, 0)) else (bnd (rec tC_Sto_headOf σ [x0, ((x4 : Int32) >>> (1 &&& 31))]) (fun σ1 r1 => bnd (rec tC_Sto_isPositive σ1 [r1]) (fun σ2 r2 => if r2 = 0 then (rec tG_Sat_superpose_p92 σ2 [x0, x1, x2, x3, x4, r1]) else (bnd (rec tC_Sto_isEligible σ2 [r1]) (fun σ3 r3 => if r3 = 0 then (rec tG_Sat_superpose_p92 σ3 [x0, x1, x2, x3, x4, r1]) else (bnd (rec tC_Sto_isUsable σ3 [r1, ((x4 : Int32) &&& 1)]) (fun σ4 r4 => if r4 = 0 then (rec tG_Sat_superpose_p92 σ4 [x0, x1, x2, x3, x4, r1]) else (rec tG_Sat_superpose_p93 σ4 [x0, x1, x2, x3, x4, r1, 1]))))))))) = some (σf, rf, dd) := h
  intro p e s m args below meth c F Lo mc ms cells slots σ0 w0 tx0 hF hLo hcq hsq hga C
  dsimp only at hF hLo hcq hsq ⊢
  have hcm : cells ≤ mc := by have := hmn.1; omega
  have hsm : slots ≤ ms := by have := hmn.2; omega
  have hle : True := trivial
  have hm : True := trivial
  refine ax_iload (pc := 28) C d_Sat_superpose_28 5 rfl ?_
  refine ax_iload_n (pc := 30) C d_Sat_superpose_30 rfl 3 rfl ?_
  refine ax_icmp_ge (pc := 31) C 182 d_Sat_superpose_31 (by decide) (fun hc => ?_) (fun hc => ?_)
  · replace h := it_t hc h
    cases h
    exact ax_vret (pc := 182) C d_Sat_superpose_182 ⟨w, tx, hga, rfl, rfl⟩ hcm hsm
  · replace h := it_f hc h
    refine ax_aload_n (pc := 34) C d_Sat_superpose_34 rfl 0 rfl ?_
    refine cg_53_9_Sat_27 (pc := 35) C d_Sat_superpose_35 ?_
    refine ax_iload_n (pc := 38) C d_Sat_superpose_38 rfl 1 rfl ?_
    refine ax_iload (pc := 39) C d_Sat_superpose_39 5 rfl ?_
    refine ax_iconst (pc := 41) C 1 d_Sat_superpose_41 (by decide +kernel) ?_
    refine ax_ishr (pc := 42) C d_Sat_superpose_42 ?_
    replace h := it_b h
    obtain ⟨σ1, r1, d1_1, d2_1, h1, h, hd2, hd1⟩ := h
    replace hle := hG _ _ _ _ (by decide) h1
    dsimp only at hle
    replace hmn : gle σ1 σf := gm_use h (gm_bnd hG (Nat.le_of_ble_eq_true rfl) (fun _ _ => (gm_if (gm_tail hG (Nat.le_of_ble_eq_true rfl)) (gm_bnd hG (Nat.le_of_ble_eq_true rfl) (fun _ _ => (gm_if (gm_tail hG (Nat.le_of_ble_eq_true rfl)) (gm_bnd hG (Nat.le_of_ble_eq_true rfl) (fun _ _ => (gm_if (gm_tail hG (Nat.le_of_ble_eq_true rfl)) (gm_tail hG (Nat.le_of_ble_eq_true rfl)))))))))))
    replace hm : sC_Sto_headOf l D kA u w tx σ [x0, ((x4 : Int32) >>> (1 &&& 31))] (σ1, r1, d1_1) := ihC _ _ tC_Sto_headOf _ _ _ h1
    refine cc_Vi (pc := 43) C (r0 := r1) (σ2 := σ1) (As := [.int x0, .int ((x4 : Int32) >>> (1 &&& 31))]) (rest := []) (hm _ _ rfl) ml_Sat_187 54 rfl rfl rfl d_Sat_superpose_43 rfl rfl (by dsimp only; omega) (by dsimp only; omega) hcm hsm (Nat.le_of_ble_eq_true rfl) ?_
    replace hcq : cells + σf.2.2 3001 ≤ mc + σ1.2.2 3001 := by have := hle.1; omega
    replace hsq : slots + σf.2.2 3002 ≤ ms + σ1.2.2 3002 := by have := hle.2; omega
    replace hF : d2_1 + 3 ≤ F := by omega
    replace hLo : 48 * d2_1 + 144 ≤ Lo := by omega
    refine ax_istore (pc := 46) C d_Sat_superpose_46 (Nat.le_of_ble_eq_true rfl) ([(6, .int r1), (0, .ref (u 53)), (1, .int x0), (2, .int x1), (3, .int x2), (4, .int x3), (5, .int x4)]) rfl ?_
    refine ax_aload_n (pc := 48) C d_Sat_superpose_48 rfl 1 rfl ?_
    refine cg_53_9_Sat_27 (pc := 49) C d_Sat_superpose_49 ?_
    refine ax_iload (pc := 52) C d_Sat_superpose_52 0 rfl ?_
    replace h := it_b h
    obtain ⟨σ2, r2, d1_2, d2_2, h1, h, hd2, hd1⟩ := h
    replace hle := hG _ _ _ _ (by decide) h1
    dsimp only at hle
    replace hmn : gle σ2 σf := gm_use h (gm_if (gm_tail hG (Nat.le_of_ble_eq_true rfl)) (gm_bnd hG (Nat.le_of_ble_eq_true rfl) (fun _ _ => (gm_if (gm_tail hG (Nat.le_of_ble_eq_true rfl)) (gm_bnd hG (Nat.le_of_ble_eq_true rfl) (fun _ _ => (gm_if (gm_tail hG (Nat.le_of_ble_eq_true rfl)) (gm_tail hG (Nat.le_of_ble_eq_true rfl)))))))))
    replace hm : sC_Sto_isPositive l D kA u w tx σ1 [r1] (σ2, r2, d1_2) := ihC _ _ tC_Sto_isPositive _ _ _ h1
    refine cc_Vi (pc := 54) C (r0 := r2) (σ2 := σ2) (As := [.int r1]) (rest := []) (hm _ rfl) ml_Sat_113 54 rfl rfl rfl d_Sat_superpose_54 rfl rfl (by dsimp only; omega) (by dsimp only; omega) hcm hsm (Nat.le_of_ble_eq_true rfl) ?_
    replace hcq : cells + σf.2.2 3001 ≤ mc + σ2.2.2 3001 := by have := hle.1; omega
    replace hsq : slots + σf.2.2 3002 ≤ ms + σ2.2.2 3002 := by have := hle.2; omega
    replace hF : d2_2 + 3 ≤ F := by omega
    replace hLo : 48 * d2_2 + 144 ≤ Lo := by omega
    refine ax_if_eq (pc := 57) C 92 d_Sat_superpose_57 (by decide) (fun hc => ?_) (fun hc => ?_)
    · replace h := it_t hc h
      refine ax_ls ([(0, .ref (u 53)), (1, .int x0), (2, .int x1), (3, .int x2), (4, .int x3), (5, .int x4), (6, .int r1)]) [1, 2, 3, 4, 5, 6, 0] rfl ?_
      replace hm : sG_Sat_superpose_p92 l D kA u σ2 [x0, x1, x2, x3, x4, r1] (σf, rf, _) := ih tG_Sat_superpose_p92 _ _ _ h
      exact hm _ _ _ _ _ _ rfl w tx p e s m args below meth c F Lo mc ms cells slots σ0 w0 tx0 hF hLo hcq hsq hga C
    · replace h := it_f hc h
      refine ax_aload_n (pc := 60) C d_Sat_superpose_60 rfl 1 rfl ?_
      refine cg_53_9_Sat_27 (pc := 61) C d_Sat_superpose_61 ?_
      refine ax_iload (pc := 64) C d_Sat_superpose_64 0 rfl ?_
      replace h := it_b h
      obtain ⟨σ3, r3, d1_3, d2_3, h1, h, hd2, hd1⟩ := h
      replace hle := hG _ _ _ _ (by decide) h1
      dsimp only at hle
      replace hmn : gle σ3 σf := gm_use h (gm_if (gm_tail hG (Nat.le_of_ble_eq_true rfl)) (gm_bnd hG (Nat.le_of_ble_eq_true rfl) (fun _ _ => (gm_if (gm_tail hG (Nat.le_of_ble_eq_true rfl)) (gm_tail hG (Nat.le_of_ble_eq_true rfl))))))
      replace hm : sC_Sto_isEligible l D kA u w tx σ2 [r1] (σ3, r3, d1_3) := ihC _ _ tC_Sto_isEligible _ _ _ h1
      refine cc_Vi (pc := 66) C (r0 := r3) (σ2 := σ3) (As := [.int r1]) (rest := []) (hm _ rfl) ml_Sat_190 54 rfl rfl rfl d_Sat_superpose_66 rfl rfl (by dsimp only; omega) (by dsimp only; omega) hcm hsm (Nat.le_of_ble_eq_true rfl) ?_
      replace hcq : cells + σf.2.2 3001 ≤ mc + σ3.2.2 3001 := by have := hle.1; omega
      replace hsq : slots + σf.2.2 3002 ≤ ms + σ3.2.2 3002 := by have := hle.2; omega
      replace hF : d2_3 + 3 ≤ F := by omega
      replace hLo : 48 * d2_3 + 144 ≤ Lo := by omega
      refine ax_if_eq (pc := 69) C 92 d_Sat_superpose_69 (by decide) (fun hc => ?_) (fun hc => ?_)
      · replace h := it_t hc h
        refine ax_ls ([(0, .ref (u 53)), (1, .int x0), (2, .int x1), (3, .int x2), (4, .int x3), (5, .int x4), (6, .int r1)]) [1, 2, 3, 4, 5, 6, 0] rfl ?_
        replace hm : sG_Sat_superpose_p92 l D kA u σ3 [x0, x1, x2, x3, x4, r1] (σf, rf, _) := ih tG_Sat_superpose_p92 _ _ _ h
        exact hm _ _ _ _ _ _ rfl w tx p e s m args below meth c F Lo mc ms cells slots σ0 w0 tx0 hF hLo hcq hsq hga C
      · replace h := it_f hc h
        refine ax_aload_n (pc := 72) C d_Sat_superpose_72 rfl 1 rfl ?_
        refine cg_53_9_Sat_27 (pc := 73) C d_Sat_superpose_73 ?_
        refine ax_iload (pc := 76) C d_Sat_superpose_76 0 rfl ?_
        refine ax_iload (pc := 78) C d_Sat_superpose_78 6 rfl ?_
        refine ax_iconst (pc := 80) C 1 d_Sat_superpose_80 (by decide +kernel) ?_
        refine ax_iand (pc := 81) C d_Sat_superpose_81 ?_
        replace h := it_b h
        obtain ⟨σ4, r4, d1_4, d2_4, h1, h, hd2, hd1⟩ := h
        replace hle := hG _ _ _ _ (by decide) h1
        dsimp only at hle
        replace hmn : gle σ4 σf := gm_use h (gm_if (gm_tail hG (Nat.le_of_ble_eq_true rfl)) (gm_tail hG (Nat.le_of_ble_eq_true rfl)))
        replace hm : sC_Sto_isUsable l D kA u w tx σ3 [r1, ((x4 : Int32) &&& 1)] (σ4, r4, d1_4) := ihC _ _ tC_Sto_isUsable _ _ _ h1
        refine cc_Vi (pc := 82) C (r0 := r4) (σ2 := σ4) (As := [.int r1, .int ((x4 : Int32) &&& 1)]) (rest := []) (hm _ _ rfl) ml_Sat_193 54 rfl rfl rfl d_Sat_superpose_82 rfl rfl (by dsimp only; omega) (by dsimp only; omega) hcm hsm (Nat.le_of_ble_eq_true rfl) ?_
        replace hcq : cells + σf.2.2 3001 ≤ mc + σ4.2.2 3001 := by have := hle.1; omega
        replace hsq : slots + σf.2.2 3002 ≤ ms + σ4.2.2 3002 := by have := hle.2; omega
        replace hF : d2_4 + 3 ≤ F := by omega
        replace hLo : 48 * d2_4 + 144 ≤ Lo := by omega
        refine ax_if_eq (pc := 85) C 92 d_Sat_superpose_85 (by decide) (fun hc => ?_) (fun hc => ?_)
        · replace h := it_t hc h
          refine ax_ls ([(0, .ref (u 53)), (1, .int x0), (2, .int x1), (3, .int x2), (4, .int x3), (5, .int x4), (6, .int r1)]) [1, 2, 3, 4, 5, 6, 0] rfl ?_
          replace hm : sG_Sat_superpose_p92 l D kA u σ4 [x0, x1, x2, x3, x4, r1] (σf, rf, _) := ih tG_Sat_superpose_p92 _ _ _ h
          exact hm _ _ _ _ _ _ rfl w tx p e s m args below meth c F Lo mc ms cells slots σ0 w0 tx0 hF hLo hcq hsq hga C
        · replace h := it_f hc h
          refine ax_iconst (pc := 88) C 1 d_Sat_superpose_88 (by decide +kernel) ?_
          refine ax_goto (pc := 89) C 93 d_Sat_superpose_89 (by decide) ?_
          refine ax_ls ([(0, .ref (u 53)), (1, .int x0), (2, .int x1), (3, .int x2), (4, .int x3), (5, .int x4), (6, .int r1)]) [1, 2, 3, 4, 5, 6, 0] rfl ?_
          replace hm : sG_Sat_superpose_p93 l D kA u σ4 [x0, x1, x2, x3, x4, r1, 1] (σf, rf, _) := ih tG_Sat_superpose_p93 _ _ _ h
          exact hm _ _ _ _ _ _ _ rfl w tx p e s m args below meth c F Lo mc ms cells slots σ0 w0 tx0 hF hLo hcq hsq hga C
set_option maxHeartbeats 4000000 in
set_option maxRecDepth 100000 in
theorem oG_Sat_superpose_p92 (l : Launch) (D : va_G) (kA : Nat → ClassId) (u : Nat → Nat) (rec : mF) (hG : GM rec) (ihC : ∀ (w : Nat → Nat) (tx : Value) t σ xs res, rec t σ xs = some res → cSem l D kA u w tx t σ xs res) (ih : ∀ t σ xs res, rec t σ xs = some res → gSem l D kA u t σ xs res) (σ : mS) (xs : List Int32) (res : mR) (h : u_6 (kG_Sat_superpose_p92 rec σ) xs = some res) : sG_Sat_superpose_p92 l D kA u σ xs res := by
  intro x0 x1 x2 x3 x4 x5 hxs w tx
  subst hxs
  obtain ⟨σf, rf, dd⟩ := res
  have hmn : gle σ σf := qG_Sat_superpose_p92 rec hG σ x0 x1 x2 x3 x4 x5 _ h
  have h : (rec tG_Sat_superpose_p93 σ [x0, x1, x2, x3, x4, x5, 0]) = some (σf, rf, dd) := h
  intro p e s m args below meth c F Lo mc ms cells slots σ0 w0 tx0 hF hLo hcq hsq hga C
  dsimp only at hF hLo hcq hsq ⊢
  have hcm : cells ≤ mc := by have := hmn.1; omega
  have hsm : slots ≤ ms := by have := hmn.2; omega
  have hle : True := trivial
  have hm : True := trivial
  refine ax_iconst (pc := 92) C 0 d_Sat_superpose_92 (by decide +kernel) ?_
  refine ax_ls ([(0, .ref (u 53)), (1, .int x0), (2, .int x1), (3, .int x2), (4, .int x3), (5, .int x4), (6, .int x5)]) [0, 1, 2, 3, 4, 5, 6] rfl ?_
  replace hm : sG_Sat_superpose_p93 l D kA u σ [x0, x1, x2, x3, x4, x5, 0] (σf, rf, _) := ih tG_Sat_superpose_p93 _ _ _ h
  exact hm _ _ _ _ _ _ _ rfl w tx p e s m args below meth c F Lo mc ms cells slots σ0 w0 tx0 hF hLo hcq hsq hga C
set_option maxHeartbeats 4000000 in
set_option maxRecDepth 100000 in
theorem oG_Sat_superpose_p93 (l : Launch) (D : va_G) (kA : Nat → ClassId) (u : Nat → Nat) (rec : mF) (hG : GM rec) (ihC : ∀ (w : Nat → Nat) (tx : Value) t σ xs res, rec t σ xs = some res → cSem l D kA u w tx t σ xs res) (ih : ∀ t σ xs res, rec t σ xs = some res → gSem l D kA u t σ xs res) (σ : mS) (xs : List Int32) (res : mR) (h : u_7 (kG_Sat_superpose_p93 rec σ) xs = some res) : sG_Sat_superpose_p93 l D kA u σ xs res := by
  intro x0 x1 x2 x3 x4 x5 x6 hxs w tx
  subst hxs
  obtain ⟨σf, rf, dd⟩ := res
  have hmn : gle σ σf := qG_Sat_superpose_p93 rec hG σ x0 x1 x2 x3 x4 x5 x6 _ h
  have h : (rec tG_Sat_superpose_p98 σ [x0, x1, x2, x3, x4, x5, x6, 0]) = some (σf, rf, dd) := h
  intro p e s m args below meth c F Lo mc ms cells slots σ0 w0 tx0 hF hLo hcq hsq hga C
  dsimp only at hF hLo hcq hsq ⊢
  have hcm : cells ≤ mc := by have := hmn.1; omega
  have hsm : slots ≤ ms := by have := hmn.2; omega
  have hle : True := trivial
  have hm : True := trivial
  refine ax_istore (pc := 93) C d_Sat_superpose_93 (Nat.le_of_ble_eq_true rfl) ([(7, .int x6), (0, .ref (u 53)), (1, .int x0), (2, .int x1), (3, .int x2), (4, .int x3), (5, .int x4), (6, .int x5)]) rfl ?_
  refine ax_iconst (pc := 95) C 0 d_Sat_superpose_95 (by decide +kernel) ?_
  refine ax_istore (pc := 96) C d_Sat_superpose_96 (Nat.le_of_ble_eq_true rfl) ([(8, .int 0), (7, .int x6), (0, .ref (u 53)), (1, .int x0), (2, .int x1), (3, .int x2), (4, .int x3), (5, .int x4), (6, .int x5)]) rfl ?_
  refine ax_ls ([(0, .ref (u 53)), (1, .int x0), (2, .int x1), (3, .int x2), (4, .int x3), (5, .int x4), (6, .int x5), (7, .int x6), (8, .int 0)]) [2, 3, 4, 5, 6, 7, 8, 1, 0] rfl ?_
  replace hm : sG_Sat_superpose_p98 l D kA u σ [x0, x1, x2, x3, x4, x5, x6, 0] (σf, rf, _) := ih tG_Sat_superpose_p98 _ _ _ h
  exact hm _ _ _ _ _ _ _ _ rfl w tx p e s m args below meth c F Lo mc ms cells slots σ0 w0 tx0 hF hLo hcq hsq hga C
set_option maxHeartbeats 4000000 in
set_option maxRecDepth 100000 in
theorem oG_Sat_superpose_p98 (l : Launch) (D : va_G) (kA : Nat → ClassId) (u : Nat → Nat) (rec : mF) (hG : GM rec) (ihC : ∀ (w : Nat → Nat) (tx : Value) t σ xs res, rec t σ xs = some res → cSem l D kA u w tx t σ xs res) (ih : ∀ t σ xs res, rec t σ xs = some res → gSem l D kA u t σ xs res) (σ : mS) (xs : List Int32) (res : mR) (h : u_8 (kG_Sat_superpose_p98 rec σ) xs = some res) : sG_Sat_superpose_p98 l D kA u σ xs res := by
  intro x0 x1 x2 x3 x4 x5 x6 x7 hxs w tx
  subst hxs
  obtain ⟨σf, rf, dd⟩ := res
  have hmn : gle σ σf := qG_Sat_superpose_p98 rec hG σ x0 x1 x2 x3 x4 x5 x6 x7 _ h
  have h : (if x3 ≤ x7 then (rec tG_Sat_superpose_p176 σ [x0, x1, x2, x3, x4, x5, x6, x7]) else (if x6 = 0 then (rec tG_Sat_superpose_p176 σ [x0, x1, x2, x3, x4, x5, x6, x7]) else (bnd (rec tC_Sto_headOf σ [x1, ((x7 : Int32) >>> (1 &&& 31))]) (fun σ1 r1 => bnd (rec tC_Sto_isEligible σ1 [r1]) (fun σ2 r2 => if r2 = 0 then (rec tG_Sat_superpose_p170 σ2 [x0, x1, x2, x3, x4, x5, x6, x7, r1]) else (bnd (rec tC_Sto_isUsable σ2 [r1, ((x7 : Int32) &&& 1)]) (fun σ3 r3 => if r3 = 0 then (rec tG_Sat_superpose_p170 σ3 [x0, x1, x2, x3, x4, x5, x6, x7, r1]) else (bnd (rec tG_Sat_superposeInto σ3 [x0, x5, ((x4 : Int32) &&& 1), x1, r1, ((x7 : Int32) &&& 1)]) (fun σ4 r4 => rec tG_Sat_superpose_p170 σ4 [x0, x1, x2, x3, x4, x5, x6, x7, r1]))))))))) = some (σf, rf, dd) := h
  intro p e s m args below meth c F Lo mc ms cells slots σ0 w0 tx0 hF hLo hcq hsq hga C
  dsimp only at hF hLo hcq hsq ⊢
  have hcm : cells ≤ mc := by have := hmn.1; omega
  have hsm : slots ≤ ms := by have := hmn.2; omega
  have hle : True := trivial
  have hm : True := trivial
  refine ax_iload (pc := 98) C d_Sat_superpose_98 8 rfl ?_
  refine ax_iload (pc := 100) C d_Sat_superpose_100 4 rfl ?_
  refine ax_icmp_ge (pc := 102) C 176 d_Sat_superpose_102 (by decide) (fun hc => ?_) (fun hc => ?_)
  · replace h := it_t hc h
    refine ax_ls ([(0, .ref (u 53)), (1, .int x0), (2, .int x1), (3, .int x2), (4, .int x3), (5, .int x4), (6, .int x5), (7, .int x6), (8, .int x7)]) [0, 1, 2, 3, 4, 5, 6, 7, 8] rfl ?_
    replace hm : sG_Sat_superpose_p176 l D kA u σ [x0, x1, x2, x3, x4, x5, x6, x7] (σf, rf, _) := ih tG_Sat_superpose_p176 _ _ _ h
    exact hm _ _ _ _ _ _ _ _ rfl w tx p e s m args below meth c F Lo mc ms cells slots σ0 w0 tx0 hF hLo hcq hsq hga C
  · replace h := it_f hc h
    refine ax_iload (pc := 105) C d_Sat_superpose_105 7 rfl ?_
    refine ax_if_eq (pc := 107) C 176 d_Sat_superpose_107 (by decide) (fun hc => ?_) (fun hc => ?_)
    · replace h := it_t hc h
      refine ax_ls ([(0, .ref (u 53)), (1, .int x0), (2, .int x1), (3, .int x2), (4, .int x3), (5, .int x4), (6, .int x5), (7, .int x6), (8, .int x7)]) [0, 1, 2, 3, 4, 5, 6, 7, 8] rfl ?_
      replace hm : sG_Sat_superpose_p176 l D kA u σ [x0, x1, x2, x3, x4, x5, x6, x7] (σf, rf, _) := ih tG_Sat_superpose_p176 _ _ _ h
      exact hm _ _ _ _ _ _ _ _ rfl w tx p e s m args below meth c F Lo mc ms cells slots σ0 w0 tx0 hF hLo hcq hsq hga C
    · replace h := it_f hc h
      refine ax_aload_n (pc := 110) C d_Sat_superpose_110 rfl 0 rfl ?_
      refine cg_53_9_Sat_27 (pc := 111) C d_Sat_superpose_111 ?_
      refine ax_iload_n (pc := 114) C d_Sat_superpose_114 rfl 2 rfl ?_
      refine ax_iload (pc := 115) C d_Sat_superpose_115 8 rfl ?_
      refine ax_iconst (pc := 117) C 1 d_Sat_superpose_117 (by decide +kernel) ?_
      refine ax_ishr (pc := 118) C d_Sat_superpose_118 ?_
      replace h := it_b h
      obtain ⟨σ1, r1, d1_1, d2_1, h1, h, hd2, hd1⟩ := h
      replace hle := hG _ _ _ _ (by decide) h1
      dsimp only at hle
      replace hmn : gle σ1 σf := gm_use h (gm_bnd hG (Nat.le_of_ble_eq_true rfl) (fun _ _ => (gm_if (gm_tail hG (Nat.le_of_ble_eq_true rfl)) (gm_bnd hG (Nat.le_of_ble_eq_true rfl) (fun _ _ => (gm_if (gm_tail hG (Nat.le_of_ble_eq_true rfl)) (gm_bnd hG (Nat.le_of_ble_eq_true rfl) (fun _ _ => (gm_tail hG (Nat.le_of_ble_eq_true rfl))))))))))
      replace hm : sC_Sto_headOf l D kA u w tx σ [x1, ((x7 : Int32) >>> (1 &&& 31))] (σ1, r1, d1_1) := ihC _ _ tC_Sto_headOf _ _ _ h1
      refine cc_Vi (pc := 119) C (r0 := r1) (σ2 := σ1) (As := [.int x1, .int ((x7 : Int32) >>> (1 &&& 31))]) (rest := []) (hm _ _ rfl) ml_Sat_187 54 rfl rfl rfl d_Sat_superpose_119 rfl rfl (by dsimp only; omega) (by dsimp only; omega) hcm hsm (Nat.le_of_ble_eq_true rfl) ?_
      replace hcq : cells + σf.2.2 3001 ≤ mc + σ1.2.2 3001 := by have := hle.1; omega
      replace hsq : slots + σf.2.2 3002 ≤ ms + σ1.2.2 3002 := by have := hle.2; omega
      replace hF : d2_1 + 3 ≤ F := by omega
      replace hLo : 48 * d2_1 + 144 ≤ Lo := by omega
      refine ax_istore (pc := 122) C d_Sat_superpose_122 (Nat.le_of_ble_eq_true rfl) ([(9, .int r1), (0, .ref (u 53)), (1, .int x0), (2, .int x1), (3, .int x2), (4, .int x3), (5, .int x4), (6, .int x5), (7, .int x6), (8, .int x7)]) rfl ?_
      refine ax_aload_n (pc := 124) C d_Sat_superpose_124 rfl 1 rfl ?_
      refine cg_53_9_Sat_27 (pc := 125) C d_Sat_superpose_125 ?_
      refine ax_iload (pc := 128) C d_Sat_superpose_128 0 rfl ?_
      replace h := it_b h
      obtain ⟨σ2, r2, d1_2, d2_2, h1, h, hd2, hd1⟩ := h
      replace hle := hG _ _ _ _ (by decide) h1
      dsimp only at hle
      replace hmn : gle σ2 σf := gm_use h (gm_if (gm_tail hG (Nat.le_of_ble_eq_true rfl)) (gm_bnd hG (Nat.le_of_ble_eq_true rfl) (fun _ _ => (gm_if (gm_tail hG (Nat.le_of_ble_eq_true rfl)) (gm_bnd hG (Nat.le_of_ble_eq_true rfl) (fun _ _ => (gm_tail hG (Nat.le_of_ble_eq_true rfl))))))))
      replace hm : sC_Sto_isEligible l D kA u w tx σ1 [r1] (σ2, r2, d1_2) := ihC _ _ tC_Sto_isEligible _ _ _ h1
      refine cc_Vi (pc := 130) C (r0 := r2) (σ2 := σ2) (As := [.int r1]) (rest := []) (hm _ rfl) ml_Sat_190 54 rfl rfl rfl d_Sat_superpose_130 rfl rfl (by dsimp only; omega) (by dsimp only; omega) hcm hsm (Nat.le_of_ble_eq_true rfl) ?_
      replace hcq : cells + σf.2.2 3001 ≤ mc + σ2.2.2 3001 := by have := hle.1; omega
      replace hsq : slots + σf.2.2 3002 ≤ ms + σ2.2.2 3002 := by have := hle.2; omega
      replace hF : d2_2 + 3 ≤ F := by omega
      replace hLo : 48 * d2_2 + 144 ≤ Lo := by omega
      refine ax_if_eq (pc := 133) C 170 d_Sat_superpose_133 (by decide) (fun hc => ?_) (fun hc => ?_)
      · replace h := it_t hc h
        refine ax_ls ([(0, .ref (u 53)), (1, .int x0), (2, .int x1), (3, .int x2), (4, .int x3), (5, .int x4), (6, .int x5), (7, .int x6), (8, .int x7), (9, .int r1)]) [1, 2, 3, 4, 5, 6, 7, 8, 9, 0] rfl ?_
        replace hm : sG_Sat_superpose_p170 l D kA u σ2 [x0, x1, x2, x3, x4, x5, x6, x7, r1] (σf, rf, _) := ih tG_Sat_superpose_p170 _ _ _ h
        exact hm _ _ _ _ _ _ _ _ _ rfl w tx p e s m args below meth c F Lo mc ms cells slots σ0 w0 tx0 hF hLo hcq hsq hga C
      · replace h := it_f hc h
        refine ax_aload_n (pc := 136) C d_Sat_superpose_136 rfl 1 rfl ?_
        refine cg_53_9_Sat_27 (pc := 137) C d_Sat_superpose_137 ?_
        refine ax_iload (pc := 140) C d_Sat_superpose_140 0 rfl ?_
        refine ax_iload (pc := 142) C d_Sat_superpose_142 9 rfl ?_
        refine ax_iconst (pc := 144) C 1 d_Sat_superpose_144 (by decide +kernel) ?_
        refine ax_iand (pc := 145) C d_Sat_superpose_145 ?_
        replace h := it_b h
        obtain ⟨σ3, r3, d1_3, d2_3, h1, h, hd2, hd1⟩ := h
        replace hle := hG _ _ _ _ (by decide) h1
        dsimp only at hle
        replace hmn : gle σ3 σf := gm_use h (gm_if (gm_tail hG (Nat.le_of_ble_eq_true rfl)) (gm_bnd hG (Nat.le_of_ble_eq_true rfl) (fun _ _ => (gm_tail hG (Nat.le_of_ble_eq_true rfl)))))
        replace hm : sC_Sto_isUsable l D kA u w tx σ2 [r1, ((x7 : Int32) &&& 1)] (σ3, r3, d1_3) := ihC _ _ tC_Sto_isUsable _ _ _ h1
        refine cc_Vi (pc := 146) C (r0 := r3) (σ2 := σ3) (As := [.int r1, .int ((x7 : Int32) &&& 1)]) (rest := []) (hm _ _ rfl) ml_Sat_193 54 rfl rfl rfl d_Sat_superpose_146 rfl rfl (by dsimp only; omega) (by dsimp only; omega) hcm hsm (Nat.le_of_ble_eq_true rfl) ?_
        replace hcq : cells + σf.2.2 3001 ≤ mc + σ3.2.2 3001 := by have := hle.1; omega
        replace hsq : slots + σf.2.2 3002 ≤ ms + σ3.2.2 3002 := by have := hle.2; omega
        replace hF : d2_3 + 3 ≤ F := by omega
        replace hLo : 48 * d2_3 + 144 ≤ Lo := by omega
        refine ax_if_eq (pc := 149) C 170 d_Sat_superpose_149 (by decide) (fun hc => ?_) (fun hc => ?_)
        · replace h := it_t hc h
          refine ax_ls ([(0, .ref (u 53)), (1, .int x0), (2, .int x1), (3, .int x2), (4, .int x3), (5, .int x4), (6, .int x5), (7, .int x6), (8, .int x7), (9, .int r1)]) [1, 2, 3, 4, 5, 6, 7, 8, 9, 0] rfl ?_
          replace hm : sG_Sat_superpose_p170 l D kA u σ3 [x0, x1, x2, x3, x4, x5, x6, x7, r1] (σf, rf, _) := ih tG_Sat_superpose_p170 _ _ _ h
          exact hm _ _ _ _ _ _ _ _ _ rfl w tx p e s m args below meth c F Lo mc ms cells slots σ0 w0 tx0 hF hLo hcq hsq hga C
        · replace h := it_f hc h
          refine ax_aload_n (pc := 152) C d_Sat_superpose_152 rfl 1 rfl ?_
          refine ax_iload_n (pc := 153) C d_Sat_superpose_153 rfl 2 rfl ?_
          refine ax_iload (pc := 154) C d_Sat_superpose_154 7 rfl ?_
          refine ax_iload (pc := 156) C d_Sat_superpose_156 6 rfl ?_
          refine ax_iconst (pc := 158) C 1 d_Sat_superpose_158 (by decide +kernel) ?_
          refine ax_iand (pc := 159) C d_Sat_superpose_159 ?_
          refine ax_iload_n (pc := 160) C d_Sat_superpose_160 rfl 3 rfl ?_
          refine ax_iload (pc := 161) C d_Sat_superpose_161 0 rfl ?_
          refine ax_iload (pc := 163) C d_Sat_superpose_163 9 rfl ?_
          refine ax_iconst (pc := 165) C 1 d_Sat_superpose_165 (by decide +kernel) ?_
          refine ax_iand (pc := 166) C d_Sat_superpose_166 ?_
          replace h := it_b h
          obtain ⟨σ4, r4, d1_4, d2_4, h1, h, hd2, hd1⟩ := h
          replace hle := hG _ _ _ _ (by decide) h1
          dsimp only at hle
          replace hmn : gle σ4 σf := gm_use h (gm_tail hG (Nat.le_of_ble_eq_true rfl))
          replace hm : sG_Sat_superposeInto l D kA u σ3 [x0, x5, ((x4 : Int32) &&& 1), x1, r1, ((x7 : Int32) &&& 1)] (σ4, r4, d1_4) := ih tG_Sat_superposeInto _ _ _ h1
          refine gc_Vv (pc := 167) C (As := [.int x0, .int x5, .int ((x4 : Int32) &&& 1), .int x1, .int r1, .int ((x7 : Int32) &&& 1)]) (rest := []) (hm _ _ _ _ _ _ rfl w tx) ml_Sat_196 53 rfl rfl rfl d_Sat_superpose_167 rfl rfl (by dsimp only; omega) (by dsimp only; omega) (by have := hmn.1; have := hle.1; dsimp only; omega) (by have := hmn.2; have := hle.2; dsimp only; omega) (Nat.le_of_ble_eq_true rfl) (fun w1 hw => ?_)
          obtain ⟨w4, tx4, hag4, htq4, hwq4⟩ := hw
          dsimp only at hwq4
          subst hwq4
          dsimp only
          replace htq4 := htq4.symm
          subst htq4
          have hga4 : ∀ i, ([48, 52, 65] : List Nat).elem i = false → w4 i = w0 i := fun i hi => (hag4 i (by revert hi; exact el_sub (by decide))).trans (hga i hi)
          replace hcq : (cells + (σ4.2.2 3001 - σ3.2.2 3001)) + σf.2.2 3001 ≤ mc + σ4.2.2 3001 := by have := hmn.1; have := hle.1; omega
          replace hcm : (cells + (σ4.2.2 3001 - σ3.2.2 3001)) ≤ mc := by have := hmn.1; have := hle.1; omega
          generalize cells + (σ4.2.2 3001 - σ3.2.2 3001) = cells at hcq hcm ⊢
          replace hsq : (slots + (σ4.2.2 3002 - σ3.2.2 3002)) + σf.2.2 3002 ≤ ms + σ4.2.2 3002 := by have := hmn.2; have := hle.2; omega
          replace hsm : (slots + (σ4.2.2 3002 - σ3.2.2 3002)) ≤ ms := by have := hmn.2; have := hle.2; omega
          generalize slots + (σ4.2.2 3002 - σ3.2.2 3002) = slots at hsq hsm ⊢
          replace hF : d2_4 + 3 ≤ F := by omega
          replace hLo : 48 * d2_4 + 144 ≤ Lo := by omega
          refine ax_ls ([(0, .ref (u 53)), (1, .int x0), (2, .int x1), (3, .int x2), (4, .int x3), (5, .int x4), (6, .int x5), (7, .int x6), (8, .int x7), (9, .int r1)]) [1, 2, 3, 4, 5, 6, 7, 8, 9, 0] rfl ?_
          replace hm : sG_Sat_superpose_p170 l D kA u σ4 [x0, x1, x2, x3, x4, x5, x6, x7, r1] (σf, rf, _) := ih tG_Sat_superpose_p170 _ _ _ h
          exact hm _ _ _ _ _ _ _ _ _ rfl w4 tx p e s m args below meth c F Lo mc ms cells slots σ0 w0 tx0 hF hLo hcq hsq hga4 C
set_option maxHeartbeats 4000000 in
set_option maxRecDepth 100000 in
theorem oG_Sat_superpose_p170 (l : Launch) (D : va_G) (kA : Nat → ClassId) (u : Nat → Nat) (rec : mF) (hG : GM rec) (ihC : ∀ (w : Nat → Nat) (tx : Value) t σ xs res, rec t σ xs = some res → cSem l D kA u w tx t σ xs res) (ih : ∀ t σ xs res, rec t σ xs = some res → gSem l D kA u t σ xs res) (σ : mS) (xs : List Int32) (res : mR) (h : u_9 (kG_Sat_superpose_p170 rec σ) xs = some res) : sG_Sat_superpose_p170 l D kA u σ xs res := by
  intro x0 x1 x2 x3 x4 x5 x6 x7 x8 hxs w tx
  subst hxs
  obtain ⟨σf, rf, dd⟩ := res
  have hmn : gle σ σf := qG_Sat_superpose_p170 rec hG σ x0 x1 x2 x3 x4 x5 x6 x7 x8 _ h
  have h : (rec tG_Sat_superpose_p98 σ [x0, x1, x2, x3, x4, x5, x6, (x7 + 1)]) = some (σf, rf, dd) := h
  intro p e s m args below meth c F Lo mc ms cells slots σ0 w0 tx0 hF hLo hcq hsq hga C
  dsimp only at hF hLo hcq hsq ⊢
  have hcm : cells ≤ mc := by have := hmn.1; omega
  have hsm : slots ≤ ms := by have := hmn.2; omega
  have hle : True := trivial
  have hm : True := trivial
  refine ax_iinc (pc := 170) C (x7 + 1) d_Sat_superpose_170 8 rfl rfl (Nat.le_of_ble_eq_true rfl) ([(8, .int (x7 + 1)), (0, .ref (u 53)), (1, .int x0), (2, .int x1), (3, .int x2), (4, .int x3), (5, .int x4), (6, .int x5), (7, .int x6), (9, .int x8)]) rfl ?_
  refine ax_goto (pc := 173) C 98 d_Sat_superpose_173 (by decide) ?_
  refine ax_ls ([(0, .ref (u 53)), (1, .int x0), (2, .int x1), (3, .int x2), (4, .int x3), (5, .int x4), (6, .int x5), (7, .int x6), (8, .int (x7 + 1))]) [1, 2, 3, 4, 5, 6, 7, 8, 0] rfl ?_
  replace hm : sG_Sat_superpose_p98 l D kA u σ [x0, x1, x2, x3, x4, x5, x6, (x7 + 1)] (σf, rf, _) := ih tG_Sat_superpose_p98 _ _ _ h
  exact hm _ _ _ _ _ _ _ _ rfl w tx p e s m args below meth c F Lo mc ms cells slots σ0 w0 tx0 hF hLo hcq hsq hga C
set_option maxHeartbeats 4000000 in
set_option maxRecDepth 100000 in
theorem oG_Sat_superpose_p176 (l : Launch) (D : va_G) (kA : Nat → ClassId) (u : Nat → Nat) (rec : mF) (hG : GM rec) (ihC : ∀ (w : Nat → Nat) (tx : Value) t σ xs res, rec t σ xs = some res → cSem l D kA u w tx t σ xs res) (ih : ∀ t σ xs res, rec t σ xs = some res → gSem l D kA u t σ xs res) (σ : mS) (xs : List Int32) (res : mR) (h : u_8 (kG_Sat_superpose_p176 rec σ) xs = some res) : sG_Sat_superpose_p176 l D kA u σ xs res := by
  intro x0 x1 x2 x3 x4 x5 x6 x7 hxs w tx
  subst hxs
  obtain ⟨σf, rf, dd⟩ := res
  have hmn : gle σ σf := qG_Sat_superpose_p176 rec hG σ x0 x1 x2 x3 x4 x5 x6 x7 _ h
  have h : (rec tG_Sat_superpose_p28 σ [x0, x1, x2, x3, (x4 + 1)]) = some (σf, rf, dd) := h
  intro p e s m args below meth c F Lo mc ms cells slots σ0 w0 tx0 hF hLo hcq hsq hga C
  dsimp only at hF hLo hcq hsq ⊢
  have hcm : cells ≤ mc := by have := hmn.1; omega
  have hsm : slots ≤ ms := by have := hmn.2; omega
  have hle : True := trivial
  have hm : True := trivial
  refine ax_iinc (pc := 176) C (x4 + 1) d_Sat_superpose_176 5 rfl rfl (Nat.le_of_ble_eq_true rfl) ([(5, .int (x4 + 1)), (0, .ref (u 53)), (1, .int x0), (2, .int x1), (3, .int x2), (4, .int x3), (6, .int x5), (7, .int x6), (8, .int x7)]) rfl ?_
  refine ax_goto (pc := 179) C 28 d_Sat_superpose_179 (by decide) ?_
  refine ax_ls ([(0, .ref (u 53)), (1, .int x0), (2, .int x1), (3, .int x2), (4, .int x3), (5, .int (x4 + 1))]) [1, 2, 3, 4, 5, 0] rfl ?_
  replace hm : sG_Sat_superpose_p28 l D kA u σ [x0, x1, x2, x3, (x4 + 1)] (σf, rf, _) := ih tG_Sat_superpose_p28 _ _ _ h
  exact hm _ _ _ _ _ rfl w tx p e s m args below meth c F Lo mc ms cells slots σ0 w0 tx0 hF hLo hcq hsq hga C
set_option maxHeartbeats 4000000 in
set_option maxRecDepth 100000 in
theorem oG_Sat_superposeInto (l : Launch) (D : va_G) (kA : Nat → ClassId) (u : Nat → Nat) (rec : mF) (hG : GM rec) (ihC : ∀ (w : Nat → Nat) (tx : Value) t σ xs res, rec t σ xs = some res → cSem l D kA u w tx t σ xs res) (ih : ∀ t σ xs res, rec t σ xs = some res → gSem l D kA u t σ xs res) (σ : mS) (xs : List Int32) (res : mR) (h : u_6 (kG_Sat_superposeInto rec σ) xs = some res) : sG_Sat_superposeInto l D kA u σ xs res := by
  intro x0 x1 x2 x3 x4 x5 hxs w tx
  subst hxs
  obtain ⟨σf, rf, dd⟩ := res
  have hmn : gle σ σf := qG_Sat_superposeInto rec hG σ x0 x1 x2 x3 x4 x5 _ h
  have h : (bnd (rec tC_Sto_sideAt σ [x1, x2]) (fun σ1 r1 => bnd (rec tC_Sto_sideAt σ1 [x4, x5]) (fun σ2 r2 => bnd (rec tC_Sto_sideSize σ2 [x4, x5]) (fun σ3 r3 => rec tG_Sat_superposeInto_p44 σ3 [x0, x1, x2, x3, x4, x5, r1, r2, ((r2 : Int32) + r3), r2])))) = some (σf, rf, dd) := h
  refine ax_Mv.of (by decide +kernel) (Nat.le_of_ble_eq_true rfl) ?_
  intro p e s m args below meth c C hnm
  replace C : ax_C p s m args meth c b_Sat_superposeInto "ClauseProver$Saturation" 13 none D kA (va_A (cpW kA u w tx σ) s.heap.size) := C
  obtain ⟨F, hFe⟩ : ∃ z, z = dd + 3 := ⟨_, rfl⟩
  obtain ⟨Lo, hLoe⟩ : ∃ z, z = 48 * dd + 144 := ⟨_, rfl⟩
  obtain ⟨mc, hmce⟩ : ∃ z, z = σf.2.2 3001 - σ.2.2 3001 := ⟨_, rfl⟩
  obtain ⟨ms, hmse⟩ : ∃ z, z = σf.2.2 3002 - σ.2.2 3002 := ⟨_, rfl⟩
  obtain ⟨σ0, hσ0e⟩ : ∃ z, z = σ := ⟨_, rfl⟩
  obtain ⟨w0, hw0e⟩ : ∃ z, z = w := ⟨_, rfl⟩
  obtain ⟨tx0, htx0e⟩ : ∃ z, z = tx := ⟨_, rfl⟩
  suffices K : ∀ (cells slots : Nat), cells = 0 → slots = 0 → AW p l e { frames := F, cells := mc, slots := ms, locals := Lo } s m args below meth c D kA (va_A (cpW kA u w0 tx0 σ0) s.heap.size) 13 (ax_Qv below args s D kA (cpW kA u w0 tx0 σ0) mc ms (fun w1 => ∃ (w2 : Nat → Nat) (tx2 : Value), (∀ i, ([48, 52, 65] : List Nat).elem i = false → w2 i = w0 i) ∧ tx2 = tx0 ∧ w1 = cpW kA u w2 tx2 σf)) 0 [(0, .ref (u 53)), (1, .int x0), (2, .int x1), (3, .int x2), (4, .int x3), (5, .int x4), (6, .int x5)] [] (cpW kA u w tx σ) cells slots by
    have K := K 0 0 rfl rfl
    rw [hFe, hLoe, hmce, hmse, hσ0e, hw0e, htx0e] at K
    exact ax_ls ([(0, .ref (u 53)), (1, .int x0), (2, .int x1), (3, .int x2), (4, .int x3), (5, .int x4), (6, .int x5)]) [0, 1, 2, 3, 4, 5, 6] rfl K
  replace C : ax_C p s m args meth c b_Sat_superposeInto "ClauseProver$Saturation" 13 none D kA (va_A (cpW kA u w0 tx0 σ0) s.heap.size) := by rw [hσ0e, hw0e, htx0e]; exact C
  intro cells slots hc0 hs0
  have hcq : cells + σf.2.2 3001 ≤ mc + σ.2.2 3001 := by have := hmn.1; omega
  have hsq : slots + σf.2.2 3002 ≤ ms + σ.2.2 3002 := by have := hmn.2; omega
  have hga : ∀ i, ([48, 52, 65] : List Nat).elem i = false → w i = w0 i := fun i _ => by rw [hw0e]
  have e9 : tx = tx0 := htx0e.symm
  subst e9
  have hF : dd + 3 ≤ F := by omega
  have hLo : 48 * dd + 144 ≤ Lo := by omega
  have hcm : cells ≤ mc := by have := hmn.1; omega
  have hsm : slots ≤ ms := by have := hmn.2; omega
  have hle : True := trivial
  have hm : True := trivial
  refine ax_aload_n (pc := 0) C d_Sat_superposeInto_0 rfl 0 rfl ?_
  refine cg_53_9_Sat_27 (pc := 1) C d_Sat_superposeInto_1 ?_
  refine ax_iload_n (pc := 4) C d_Sat_superposeInto_4 rfl 2 rfl ?_
  refine ax_iload_n (pc := 5) C d_Sat_superposeInto_5 rfl 3 rfl ?_
  replace h := it_b h
  obtain ⟨σ1, r1, d1_1, d2_1, h1, h, hd2, hd1⟩ := h
  replace hle := hG _ _ _ _ (by decide) h1
  dsimp only at hle
  replace hmn : gle σ1 σf := gm_use h (gm_bnd hG (Nat.le_of_ble_eq_true rfl) (fun _ _ => (gm_bnd hG (Nat.le_of_ble_eq_true rfl) (fun _ _ => (gm_tail hG (Nat.le_of_ble_eq_true rfl))))))
  replace hm : sC_Sto_sideAt l D kA u w tx σ [x1, x2] (σ1, r1, d1_1) := ihC _ _ tC_Sto_sideAt _ _ _ h1
  refine cc_Vi (pc := 6) C (r0 := r1) (σ2 := σ1) (As := [.int x1, .int x2]) (rest := []) (hm _ _ rfl) ml_Sat_200 54 rfl rfl rfl d_Sat_superposeInto_6 rfl rfl (by dsimp only; omega) (by dsimp only; omega) hcm hsm (Nat.le_of_ble_eq_true rfl) ?_
  replace hcq : cells + σf.2.2 3001 ≤ mc + σ1.2.2 3001 := by have := hle.1; omega
  replace hsq : slots + σf.2.2 3002 ≤ ms + σ1.2.2 3002 := by have := hle.2; omega
  replace hF : d2_1 + 3 ≤ F := by omega
  replace hLo : 48 * d2_1 + 144 ≤ Lo := by omega
  refine ax_istore (pc := 9) C d_Sat_superposeInto_9 (Nat.le_of_ble_eq_true rfl) ([(7, .int r1), (0, .ref (u 53)), (1, .int x0), (2, .int x1), (3, .int x2), (4, .int x3), (5, .int x4), (6, .int x5)]) rfl ?_
  refine ax_aload_n (pc := 11) C d_Sat_superposeInto_11 rfl 1 rfl ?_
  refine cg_53_9_Sat_27 (pc := 12) C d_Sat_superposeInto_12 ?_
  refine ax_iload (pc := 15) C d_Sat_superposeInto_15 6 rfl ?_
  refine ax_iload (pc := 17) C d_Sat_superposeInto_17 7 rfl ?_
  replace h := it_b h
  obtain ⟨σ2, r2, d1_2, d2_2, h1, h, hd2, hd1⟩ := h
  replace hle := hG _ _ _ _ (by decide) h1
  dsimp only at hle
  replace hmn : gle σ2 σf := gm_use h (gm_bnd hG (Nat.le_of_ble_eq_true rfl) (fun _ _ => (gm_tail hG (Nat.le_of_ble_eq_true rfl))))
  replace hm : sC_Sto_sideAt l D kA u w tx σ1 [x4, x5] (σ2, r2, d1_2) := ihC _ _ tC_Sto_sideAt _ _ _ h1
  refine cc_Vi (pc := 19) C (r0 := r2) (σ2 := σ2) (As := [.int x4, .int x5]) (rest := []) (hm _ _ rfl) ml_Sat_200 54 rfl rfl rfl d_Sat_superposeInto_19 rfl rfl (by dsimp only; omega) (by dsimp only; omega) hcm hsm (Nat.le_of_ble_eq_true rfl) ?_
  replace hcq : cells + σf.2.2 3001 ≤ mc + σ2.2.2 3001 := by have := hle.1; omega
  replace hsq : slots + σf.2.2 3002 ≤ ms + σ2.2.2 3002 := by have := hle.2; omega
  replace hF : d2_2 + 3 ≤ F := by omega
  replace hLo : 48 * d2_2 + 144 ≤ Lo := by omega
  refine ax_istore (pc := 22) C d_Sat_superposeInto_22 (Nat.le_of_ble_eq_true rfl) ([(8, .int r2), (7, .int r1), (0, .ref (u 53)), (1, .int x0), (2, .int x1), (3, .int x2), (4, .int x3), (5, .int x4), (6, .int x5)]) rfl ?_
  refine ax_iload (pc := 24) C d_Sat_superposeInto_24 0 rfl ?_
  refine ax_aload_n (pc := 26) C d_Sat_superposeInto_26 rfl 2 rfl ?_
  refine cg_53_9_Sat_27 (pc := 27) C d_Sat_superposeInto_27 ?_
  refine ax_iload (pc := 30) C d_Sat_superposeInto_30 7 rfl ?_
  refine ax_iload (pc := 32) C d_Sat_superposeInto_32 8 rfl ?_
  replace h := it_b h
  obtain ⟨σ3, r3, d1_3, d2_3, h1, h, hd2, hd1⟩ := h
  replace hle := hG _ _ _ _ (by decide) h1
  dsimp only at hle
  replace hmn : gle σ3 σf := gm_use h (gm_tail hG (Nat.le_of_ble_eq_true rfl))
  replace hm : sC_Sto_sideSize l D kA u w tx σ2 [x4, x5] (σ3, r3, d1_3) := ihC _ _ tC_Sto_sideSize _ _ _ h1
  refine cc_Vi (pc := 34) C (r0 := r3) (σ2 := σ3) (As := [.int x4, .int x5]) (rest := [.int r2]) (hm _ _ rfl) ml_Sat_203 54 rfl rfl rfl d_Sat_superposeInto_34 rfl rfl (by dsimp only; omega) (by dsimp only; omega) hcm hsm (Nat.le_of_ble_eq_true rfl) ?_
  replace hcq : cells + σf.2.2 3001 ≤ mc + σ3.2.2 3001 := by have := hle.1; omega
  replace hsq : slots + σf.2.2 3002 ≤ ms + σ3.2.2 3002 := by have := hle.2; omega
  replace hF : d2_3 + 3 ≤ F := by omega
  replace hLo : 48 * d2_3 + 144 ≤ Lo := by omega
  refine ax_iadd (pc := 37) C d_Sat_superposeInto_37 ?_
  refine ax_istore (pc := 38) C d_Sat_superposeInto_38 (Nat.le_of_ble_eq_true rfl) ([(9, .int ((r2 : Int32) + r3)), (8, .int r2), (7, .int r1), (0, .ref (u 53)), (1, .int x0), (2, .int x1), (3, .int x2), (4, .int x3), (5, .int x4), (6, .int x5)]) rfl ?_
  refine ax_iload (pc := 40) C d_Sat_superposeInto_40 1 rfl ?_
  refine ax_istore (pc := 42) C d_Sat_superposeInto_42 (Nat.le_of_ble_eq_true rfl) ([(10, .int r2), (9, .int ((r2 : Int32) + r3)), (8, .int r2), (7, .int r1), (0, .ref (u 53)), (1, .int x0), (2, .int x1), (3, .int x2), (4, .int x3), (5, .int x4), (6, .int x5)]) rfl ?_
  refine ax_ls ([(0, .ref (u 53)), (1, .int x0), (2, .int x1), (3, .int x2), (4, .int x3), (5, .int x4), (6, .int x5), (7, .int r1), (8, .int r2), (9, .int ((r2 : Int32) + r3)), (10, .int r2)]) [4, 5, 6, 7, 8, 9, 10, 3, 2, 1, 0] rfl ?_
  replace hm : sG_Sat_superposeInto_p44 l D kA u σ3 [x0, x1, x2, x3, x4, x5, r1, r2, ((r2 : Int32) + r3), r2] (σf, rf, _) := ih tG_Sat_superposeInto_p44 _ _ _ h
  exact hm _ _ _ _ _ _ _ _ _ _ rfl w tx p e s m args below meth c F Lo mc ms cells slots σ0 w0 tx hF hLo hcq hsq hga C
set_option maxHeartbeats 4000000 in
set_option maxRecDepth 100000 in
theorem oG_Sat_superposeInto_p44 (l : Launch) (D : va_G) (kA : Nat → ClassId) (u : Nat → Nat) (rec : mF) (hG : GM rec) (ihC : ∀ (w : Nat → Nat) (tx : Value) t σ xs res, rec t σ xs = some res → cSem l D kA u w tx t σ xs res) (ih : ∀ t σ xs res, rec t σ xs = some res → gSem l D kA u t σ xs res) (σ : mS) (xs : List Int32) (res : mR) (h : u_10 (kG_Sat_superposeInto_p44 rec σ) xs = some res) : sG_Sat_superposeInto_p44 l D kA u σ xs res := by
  intro x0 x1 x2 x3 x4 x5 x6 x7 x8 x9 hxs w tx
  subst hxs
  obtain ⟨σf, rf, dd⟩ := res
  have hmn : gle σ σf := qG_Sat_superposeInto_p44 rec hG σ x0 x1 x2 x3 x4 x5 x6 x7 x8 x9 _ h
  have h : (if x8 ≤ x9 then (rec tG_Sat_superposeInto_p195 σ [x0, x1, x2, x3, x4, x5, x6, x7, x8, x9]) else (if (σ.1 5300) = 0 then (if bin x6 (σ.2.2 48) = true then (if bin x9 (σ.2.2 48) = true then (if (σ.2.1 48 (Int32.toNatClampNeg x9)) < 0 then (rec tG_Sat_superposeInto_p189 σ [x0, x1, x2, x3, x4, x5, x6, x7, x8, x9, (σ.2.1 48 (Int32.toNatClampNeg x6)), (σ.2.1 48 (Int32.toNatClampNeg x9))]) else (if (σ.2.1 48 (Int32.toNatClampNeg x6)) < 0 then (rec tG_Sat_superposeInto_p108 σ [x0, x1, x2, x3, x4, x5, x6, x7, x8, x9, (σ.2.1 48 (Int32.toNatClampNeg x6)), (σ.2.1 48 (Int32.toNatClampNeg x9))]) else (if (σ.2.1 48 (Int32.toNatClampNeg x6)) = (σ.2.1 48 (Int32.toNatClampNeg x9)) then (rec tG_Sat_superposeInto_p108 σ [x0, x1, x2, x3, x4, x5, x6, x7, x8, x9, (σ.2.1 48 (Int32.toNatClampNeg x6)), (σ.2.1 48 (Int32.toNatClampNeg x9))]) else (rec tG_Sat_superposeInto_p189 σ [x0, x1, x2, x3, x4, x5, x6, x7, x8, x9, (σ.2.1 48 (Int32.toNatClampNeg x6)), (σ.2.1 48 (Int32.toNatClampNeg x9))])))) else none) else none) else (rec tG_Sat_superposeInto_p195 σ [x0, x1, x2, x3, x4, x5, x6, x7, x8, x9]))) = some (σf, rf, dd) := h
  intro p e s m args below meth c F Lo mc ms cells slots σ0 w0 tx0 hF hLo hcq hsq hga C
  dsimp only at hF hLo hcq hsq ⊢
  have hcm : cells ≤ mc := by have := hmn.1; omega
  have hsm : slots ≤ ms := by have := hmn.2; omega
  have hle : True := trivial
  have hm : True := trivial
  refine ax_iload (pc := 44) C d_Sat_superposeInto_44 10 rfl ?_
  refine ax_iload (pc := 46) C d_Sat_superposeInto_46 9 rfl ?_
  refine ax_icmp_ge (pc := 48) C 195 d_Sat_superposeInto_48 (by decide) (fun hc => ?_) (fun hc => ?_)
  · replace h := it_t hc h
    refine ax_ls ([(0, .ref (u 53)), (1, .int x0), (2, .int x1), (3, .int x2), (4, .int x3), (5, .int x4), (6, .int x5), (7, .int x6), (8, .int x7), (9, .int x8), (10, .int x9)]) [0, 1, 2, 3, 4, 5, 6, 7, 8, 9, 10] rfl ?_
    replace hm : sG_Sat_superposeInto_p195 l D kA u σ [x0, x1, x2, x3, x4, x5, x6, x7, x8, x9] (σf, rf, _) := ih tG_Sat_superposeInto_p195 _ _ _ h
    exact hm _ _ _ _ _ _ _ _ _ _ rfl w tx p e s m args below meth c F Lo mc ms cells slots σ0 w0 tx0 hF hLo hcq hsq hga C
  · replace h := it_f hc h
    refine ax_aload_n (pc := 51) C d_Sat_superposeInto_51 rfl 0 rfl ?_
    refine cg_53_0_Sat_58 (pc := 52) C d_Sat_superposeInto_52 ?_
    refine ax_if_ne (pc := 55) C 195 d_Sat_superposeInto_55 (by decide) (fun hc => ?_) (fun hc => ?_)
    · replace h := it_f hc h
      refine ax_ls ([(0, .ref (u 53)), (1, .int x0), (2, .int x1), (3, .int x2), (4, .int x3), (5, .int x4), (6, .int x5), (7, .int x6), (8, .int x7), (9, .int x8), (10, .int x9)]) [0, 1, 2, 3, 4, 5, 6, 7, 8, 9, 10] rfl ?_
      replace hm : sG_Sat_superposeInto_p195 l D kA u σ [x0, x1, x2, x3, x4, x5, x6, x7, x8, x9] (σf, rf, _) := ih tG_Sat_superposeInto_p195 _ _ _ h
      exact hm _ _ _ _ _ _ _ _ _ _ rfl w tx p e s m args below meth c F Lo mc ms cells slots σ0 w0 tx0 hF hLo hcq hsq hga C
    · replace h := it_t hc h
      refine ax_aload_n (pc := 58) C d_Sat_superposeInto_58 rfl 0 rfl ?_
      refine cg_53_9_Sat_27 (pc := 59) C d_Sat_superposeInto_59 ?_
      refine cg_54_0_Sat_37 (pc := 62) C d_Sat_superposeInto_62 ?_
      refine cg_47_0_Sat_151 (pc := 65) C d_Sat_superposeInto_65 ?_
      refine ax_iload (pc := 68) C d_Sat_superposeInto_68 7 rfl ?_
      replace h := it_g h
      obtain ⟨hb, h⟩ := h
      refine cl_48 (pc := 70) C d_Sat_superposeInto_70 (bin_in hb) ?_
      refine ax_istore (pc := 71) C d_Sat_superposeInto_71 (Nat.le_of_ble_eq_true rfl) ([(11, .int (σ.2.1 48 (Int32.toNatClampNeg x6))), (0, .ref (u 53)), (1, .int x0), (2, .int x1), (3, .int x2), (4, .int x3), (5, .int x4), (6, .int x5), (7, .int x6), (8, .int x7), (9, .int x8), (10, .int x9)]) rfl ?_
      refine ax_aload_n (pc := 73) C d_Sat_superposeInto_73 rfl 1 rfl ?_
      refine cg_53_9_Sat_27 (pc := 74) C d_Sat_superposeInto_74 ?_
      refine cg_54_0_Sat_37 (pc := 77) C d_Sat_superposeInto_77 ?_
      refine cg_47_0_Sat_151 (pc := 80) C d_Sat_superposeInto_80 ?_
      refine ax_iload (pc := 83) C d_Sat_superposeInto_83 11 rfl ?_
      replace h := it_g h
      obtain ⟨hb, h⟩ := h
      refine cl_48 (pc := 85) C d_Sat_superposeInto_85 (bin_in hb) ?_
      refine ax_istore (pc := 86) C d_Sat_superposeInto_86 (Nat.le_of_ble_eq_true rfl) ([(12, .int (σ.2.1 48 (Int32.toNatClampNeg x9))), (11, .int (σ.2.1 48 (Int32.toNatClampNeg x6))), (0, .ref (u 53)), (1, .int x0), (2, .int x1), (3, .int x2), (4, .int x3), (5, .int x4), (6, .int x5), (7, .int x6), (8, .int x7), (9, .int x8), (10, .int x9)]) rfl ?_
      refine ax_iload (pc := 88) C d_Sat_superposeInto_88 0 rfl ?_
      refine ax_if_lt (pc := 90) C 189 d_Sat_superposeInto_90 (by decide) (fun hc => ?_) (fun hc => ?_)
      · replace h := it_t hc h
        refine ax_ls ([(0, .ref (u 53)), (1, .int x0), (2, .int x1), (3, .int x2), (4, .int x3), (5, .int x4), (6, .int x5), (7, .int x6), (8, .int x7), (9, .int x8), (10, .int x9), (11, .int (σ.2.1 48 (Int32.toNatClampNeg x6))), (12, .int (σ.2.1 48 (Int32.toNatClampNeg x9)))]) [2, 3, 4, 5, 6, 7, 8, 9, 10, 11, 12, 1, 0] rfl ?_
        replace hm : sG_Sat_superposeInto_p189 l D kA u σ [x0, x1, x2, x3, x4, x5, x6, x7, x8, x9, (σ.2.1 48 (Int32.toNatClampNeg x6)), (σ.2.1 48 (Int32.toNatClampNeg x9))] (σf, rf, _) := ih tG_Sat_superposeInto_p189 _ _ _ h
        exact hm _ _ _ _ _ _ _ _ _ _ _ _ rfl w tx p e s m args below meth c F Lo mc ms cells slots σ0 w0 tx0 hF hLo hcq hsq hga C
      · replace h := it_f hc h
        refine ax_iload (pc := 93) C d_Sat_superposeInto_93 1 rfl ?_
        refine ax_if_lt (pc := 95) C 108 d_Sat_superposeInto_95 (by decide) (fun hc => ?_) (fun hc => ?_)
        · replace h := it_t hc h
          refine ax_ls ([(0, .ref (u 53)), (1, .int x0), (2, .int x1), (3, .int x2), (4, .int x3), (5, .int x4), (6, .int x5), (7, .int x6), (8, .int x7), (9, .int x8), (10, .int x9), (11, .int (σ.2.1 48 (Int32.toNatClampNeg x6))), (12, .int (σ.2.1 48 (Int32.toNatClampNeg x9)))]) [2, 3, 4, 5, 6, 7, 8, 9, 10, 11, 12, 1, 0] rfl ?_
          replace hm : sG_Sat_superposeInto_p108 l D kA u σ [x0, x1, x2, x3, x4, x5, x6, x7, x8, x9, (σ.2.1 48 (Int32.toNatClampNeg x6)), (σ.2.1 48 (Int32.toNatClampNeg x9))] (σf, rf, _) := ih tG_Sat_superposeInto_p108 _ _ _ h
          exact hm _ _ _ _ _ _ _ _ _ _ _ _ rfl w tx p e s m args below meth c F Lo mc ms cells slots σ0 w0 tx0 hF hLo hcq hsq hga C
        · replace h := it_f hc h
          refine ax_iload (pc := 98) C d_Sat_superposeInto_98 1 rfl ?_
          refine ax_iload (pc := 100) C d_Sat_superposeInto_100 0 rfl ?_
          refine ax_icmp_eq (pc := 102) C 108 d_Sat_superposeInto_102 (by decide) (fun hc => ?_) (fun hc => ?_)
          · replace h := it_t hc h
            refine ax_ls ([(0, .ref (u 53)), (1, .int x0), (2, .int x1), (3, .int x2), (4, .int x3), (5, .int x4), (6, .int x5), (7, .int x6), (8, .int x7), (9, .int x8), (10, .int x9), (11, .int (σ.2.1 48 (Int32.toNatClampNeg x6))), (12, .int (σ.2.1 48 (Int32.toNatClampNeg x9)))]) [2, 3, 4, 5, 6, 7, 8, 9, 10, 11, 12, 1, 0] rfl ?_
            replace hm : sG_Sat_superposeInto_p108 l D kA u σ [x0, x1, x2, x3, x4, x5, x6, x7, x8, x9, (σ.2.1 48 (Int32.toNatClampNeg x6)), (σ.2.1 48 (Int32.toNatClampNeg x9))] (σf, rf, _) := ih tG_Sat_superposeInto_p108 _ _ _ h
            exact hm _ _ _ _ _ _ _ _ _ _ _ _ rfl w tx p e s m args below meth c F Lo mc ms cells slots σ0 w0 tx0 hF hLo hcq hsq hga C
          · replace h := it_f hc h
            refine ax_goto (pc := 105) C 189 d_Sat_superposeInto_105 (by decide) ?_
            refine ax_ls ([(0, .ref (u 53)), (1, .int x0), (2, .int x1), (3, .int x2), (4, .int x3), (5, .int x4), (6, .int x5), (7, .int x6), (8, .int x7), (9, .int x8), (10, .int x9), (11, .int (σ.2.1 48 (Int32.toNatClampNeg x6))), (12, .int (σ.2.1 48 (Int32.toNatClampNeg x9)))]) [2, 3, 4, 5, 6, 7, 8, 9, 10, 11, 12, 1, 0] rfl ?_
            replace hm : sG_Sat_superposeInto_p189 l D kA u σ [x0, x1, x2, x3, x4, x5, x6, x7, x8, x9, (σ.2.1 48 (Int32.toNatClampNeg x6)), (σ.2.1 48 (Int32.toNatClampNeg x9))] (σf, rf, _) := ih tG_Sat_superposeInto_p189 _ _ _ h
            exact hm _ _ _ _ _ _ _ _ _ _ _ _ rfl w tx p e s m args below meth c F Lo mc ms cells slots σ0 w0 tx0 hF hLo hcq hsq hga C
set_option maxHeartbeats 4000000 in
set_option maxRecDepth 100000 in
theorem oG_Sat_superposeInto_p108 (l : Launch) (D : va_G) (kA : Nat → ClassId) (u : Nat → Nat) (rec : mF) (hG : GM rec) (ihC : ∀ (w : Nat → Nat) (tx : Value) t σ xs res, rec t σ xs = some res → cSem l D kA u w tx t σ xs res) (ih : ∀ t σ xs res, rec t σ xs = some res → gSem l D kA u t σ xs res) (σ : mS) (xs : List Int32) (res : mR) (h : u_12 (kG_Sat_superposeInto_p108 rec σ) xs = some res) : sG_Sat_superposeInto_p108 l D kA u σ xs res := by
  intro x0 x1 x2 x3 x4 x5 x6 x7 x8 x9 x10 x11 hxs w tx
  subst hxs
  obtain ⟨σf, rf, dd⟩ := res
  have hmn : gle σ σf := qG_Sat_superposeInto_p108 rec hG σ x0 x1 x2 x3 x4 x5 x6 x7 x8 x9 x10 x11 _ h
  have h : (bnd (rec tC_Sto_fact σ [x0, 8]) (fun σ1 r1 => bnd (rec tC_Sto_fact σ1 [x3, 8]) (fun σ2 r2 => bnd (rec tC_Uni_clear σ2 [r1, r2]) (fun σ3 r3 => bnd (rec tG_Uni_unite σ3 [x6, 0, x9, 6, 0]) (fun σ4 r4 => if r4 = 0 then (rec tG_Sat_superposeInto_p189 σ4 [x0, x1, x2, x3, x4, x5, x6, x7, x8, x9, x10, x11]) else (bnd (rec tC_Dra_clear σ4 []) (fun σ5 r5 => bnd (rec tC_Sat_writeOthers σ5 [x0, x1, (-1), 0]) (fun σ6 r6 => bnd (rec tC_Sat_writeReplaced σ6 [x3, x9, x1, ((1 : Int32) - x2)]) (fun σ7 r7 => bnd (rec tG_Sat_keep σ7 [1, x0, x3]) (fun σ8 r8 => rec tG_Sat_superposeInto_p189 σ8 [x0, x1, x2, x3, x4, x5, x6, x7, x8, x9, x10, x11])))))))))) = some (σf, rf, dd) := h
  intro p e s m args below meth c F Lo mc ms cells slots σ0 w0 tx0 hF hLo hcq hsq hga C
  dsimp only at hF hLo hcq hsq ⊢
  have hcm : cells ≤ mc := by have := hmn.1; omega
  have hsm : slots ≤ ms := by have := hmn.2; omega
  have hle : True := trivial
  have hm : True := trivial
  refine ax_aload_n (pc := 108) C d_Sat_superposeInto_108 rfl 0 rfl ?_
  refine cg_53_11_Sat_45 (pc := 109) C d_Sat_superposeInto_109 ?_
  refine ax_aload_n (pc := 112) C d_Sat_superposeInto_112 rfl 0 rfl ?_
  refine cg_53_9_Sat_27 (pc := 113) C d_Sat_superposeInto_113 ?_
  refine ax_iload_n (pc := 116) C d_Sat_superposeInto_116 rfl 1 rfl ?_
  refine ax_bipush (pc := 117) C 8 d_Sat_superposeInto_117 (by decide +kernel) ?_
  replace h := it_b h
  obtain ⟨σ1, r1, d1_1, d2_1, h1, h, hd2, hd1⟩ := h
  replace hle := hG _ _ _ _ (by decide) h1
  dsimp only at hle
  replace hmn : gle σ1 σf := gm_use h (gm_bnd hG (Nat.le_of_ble_eq_true rfl) (fun _ _ => (gm_bnd hG (Nat.le_of_ble_eq_true rfl) (fun _ _ => (gm_bnd hG (Nat.le_of_ble_eq_true rfl) (fun _ _ => (gm_if (gm_tail hG (Nat.le_of_ble_eq_true rfl)) (gm_bnd hG (Nat.le_of_ble_eq_true rfl) (fun _ _ => (gm_bnd hG (Nat.le_of_ble_eq_true rfl) (fun _ _ => (gm_bnd hG (Nat.le_of_ble_eq_true rfl) (fun _ _ => (gm_bnd hG (Nat.le_of_ble_eq_true rfl) (fun _ _ => (gm_tail hG (Nat.le_of_ble_eq_true rfl)))))))))))))))))
  replace hm : sC_Sto_fact l D kA u w tx σ [x0, 8] (σ1, r1, d1_1) := ihC _ _ tC_Sto_fact _ _ _ h1
  refine cc_Vi (pc := 119) C (r0 := r1) (σ2 := σ1) (As := [.int x0, .int 8]) (rest := [.ref (u 59)]) (hm _ _ rfl) ml_Sat_91 54 rfl rfl rfl d_Sat_superposeInto_119 rfl rfl (by dsimp only; omega) (by dsimp only; omega) hcm hsm (Nat.le_of_ble_eq_true rfl) ?_
  replace hcq : cells + σf.2.2 3001 ≤ mc + σ1.2.2 3001 := by have := hle.1; omega
  replace hsq : slots + σf.2.2 3002 ≤ ms + σ1.2.2 3002 := by have := hle.2; omega
  replace hF : d2_1 + 3 ≤ F := by omega
  replace hLo : 48 * d2_1 + 144 ≤ Lo := by omega
  refine ax_aload_n (pc := 122) C d_Sat_superposeInto_122 rfl 0 rfl ?_
  refine cg_53_9_Sat_27 (pc := 123) C d_Sat_superposeInto_123 ?_
  refine ax_iload (pc := 126) C d_Sat_superposeInto_126 4 rfl ?_
  refine ax_bipush (pc := 128) C 8 d_Sat_superposeInto_128 (by decide +kernel) ?_
  replace h := it_b h
  obtain ⟨σ2, r2, d1_2, d2_2, h1, h, hd2, hd1⟩ := h
  replace hle := hG _ _ _ _ (by decide) h1
  dsimp only at hle
  replace hmn : gle σ2 σf := gm_use h (gm_bnd hG (Nat.le_of_ble_eq_true rfl) (fun _ _ => (gm_bnd hG (Nat.le_of_ble_eq_true rfl) (fun _ _ => (gm_if (gm_tail hG (Nat.le_of_ble_eq_true rfl)) (gm_bnd hG (Nat.le_of_ble_eq_true rfl) (fun _ _ => (gm_bnd hG (Nat.le_of_ble_eq_true rfl) (fun _ _ => (gm_bnd hG (Nat.le_of_ble_eq_true rfl) (fun _ _ => (gm_bnd hG (Nat.le_of_ble_eq_true rfl) (fun _ _ => (gm_tail hG (Nat.le_of_ble_eq_true rfl)))))))))))))))
  replace hm : sC_Sto_fact l D kA u w tx σ1 [x3, 8] (σ2, r2, d1_2) := ihC _ _ tC_Sto_fact _ _ _ h1
  refine cc_Vi (pc := 130) C (r0 := r2) (σ2 := σ2) (As := [.int x3, .int 8]) (rest := [.int r1, .ref (u 59)]) (hm _ _ rfl) ml_Sat_91 54 rfl rfl rfl d_Sat_superposeInto_130 rfl rfl (by dsimp only; omega) (by dsimp only; omega) hcm hsm (Nat.le_of_ble_eq_true rfl) ?_
  replace hcq : cells + σf.2.2 3001 ≤ mc + σ2.2.2 3001 := by have := hle.1; omega
  replace hsq : slots + σf.2.2 3002 ≤ ms + σ2.2.2 3002 := by have := hle.2; omega
  replace hF : d2_2 + 3 ≤ F := by omega
  replace hLo : 48 * d2_2 + 144 ≤ Lo := by omega
  replace h := it_b h
  obtain ⟨σ3, r3, d1_3, d2_3, h1, h, hd2, hd1⟩ := h
  replace hle := hG _ _ _ _ (by decide) h1
  dsimp only at hle
  replace hmn : gle σ3 σf := gm_use h (gm_bnd hG (Nat.le_of_ble_eq_true rfl) (fun _ _ => (gm_if (gm_tail hG (Nat.le_of_ble_eq_true rfl)) (gm_bnd hG (Nat.le_of_ble_eq_true rfl) (fun _ _ => (gm_bnd hG (Nat.le_of_ble_eq_true rfl) (fun _ _ => (gm_bnd hG (Nat.le_of_ble_eq_true rfl) (fun _ _ => (gm_bnd hG (Nat.le_of_ble_eq_true rfl) (fun _ _ => (gm_tail hG (Nat.le_of_ble_eq_true rfl)))))))))))))
  replace hm : sC_Uni_clear l D kA u w tx σ2 [r1, r2] (σ3, r3, d1_3) := ihC _ _ tC_Uni_clear _ _ _ h1
  refine cc_Vv (pc := 133) C (σ2 := σ3) (As := [.int r1, .int r2]) (rest := []) (hm _ _ rfl) ml_Sat_206 59 rfl rfl rfl d_Sat_superposeInto_133 rfl rfl (by dsimp only; omega) (by dsimp only; omega) hcm hsm (Nat.le_of_ble_eq_true rfl) ?_
  replace hcq : cells + σf.2.2 3001 ≤ mc + σ3.2.2 3001 := by have := hle.1; omega
  replace hsq : slots + σf.2.2 3002 ≤ ms + σ3.2.2 3002 := by have := hle.2; omega
  replace hF : d2_3 + 3 ≤ F := by omega
  replace hLo : 48 * d2_3 + 144 ≤ Lo := by omega
  refine ax_aload_n (pc := 136) C d_Sat_superposeInto_136 rfl 0 rfl ?_
  refine cg_53_11_Sat_45 (pc := 137) C d_Sat_superposeInto_137 ?_
  refine ax_iload (pc := 140) C d_Sat_superposeInto_140 7 rfl ?_
  refine ax_iconst (pc := 142) C 0 d_Sat_superposeInto_142 (by decide +kernel) ?_
  refine ax_iload (pc := 143) C d_Sat_superposeInto_143 10 rfl ?_
  refine ax_bipush (pc := 145) C 6 d_Sat_superposeInto_145 (by decide +kernel) ?_
  refine ax_iconst (pc := 147) C 0 d_Sat_superposeInto_147 (by decide +kernel) ?_
  replace h := it_b h
  obtain ⟨σ4, r4, d1_4, d2_4, h1, h, hd2, hd1⟩ := h
  replace hle := hG _ _ _ _ (by decide) h1
  dsimp only at hle
  replace hmn : gle σ4 σf := gm_use h (gm_if (gm_tail hG (Nat.le_of_ble_eq_true rfl)) (gm_bnd hG (Nat.le_of_ble_eq_true rfl) (fun _ _ => (gm_bnd hG (Nat.le_of_ble_eq_true rfl) (fun _ _ => (gm_bnd hG (Nat.le_of_ble_eq_true rfl) (fun _ _ => (gm_bnd hG (Nat.le_of_ble_eq_true rfl) (fun _ _ => (gm_tail hG (Nat.le_of_ble_eq_true rfl)))))))))))
  replace hm : sG_Uni_unite l D kA u σ3 [x6, 0, x9, 6, 0] (σ4, r4, d1_4) := ih tG_Uni_unite _ _ _ h1
  refine gc_VNi (pc := 148) C (As := [.int x6, .int 0, .int x9, .int 6, .int 0]) (rest := []) (hm _ _ _ _ _ rfl w tx) ml_Sat_209 59 rfl rfl rfl d_Sat_superposeInto_148 rfl rfl (by dsimp only; omega) (by dsimp only; omega) (by have := hmn.1; have := hle.1; dsimp only; omega) (by have := hmn.2; have := hle.2; dsimp only; omega) (Nat.le_of_ble_eq_true rfl) (fun r9 w1 hw => ?_)
  obtain ⟨hrq4, w4, tx4, hag4, htq4, hwq4⟩ := hw
  dsimp only at hwq4 hrq4
  subst hwq4
  replace hrq4 := hrq4.symm
  subst hrq4
  dsimp only
  replace htq4 := htq4.symm
  subst htq4
  have hga4 : ∀ i, ([48, 52, 65] : List Nat).elem i = false → w4 i = w0 i := fun i hi => (hag4 i (by revert hi; exact el_sub (by decide))).trans (hga i hi)
  replace hcq : (cells + (σ4.2.2 3001 - σ3.2.2 3001)) + σf.2.2 3001 ≤ mc + σ4.2.2 3001 := by have := hmn.1; have := hle.1; omega
  replace hcm : (cells + (σ4.2.2 3001 - σ3.2.2 3001)) ≤ mc := by have := hmn.1; have := hle.1; omega
  generalize cells + (σ4.2.2 3001 - σ3.2.2 3001) = cells at hcq hcm ⊢
  replace hsq : (slots + (σ4.2.2 3002 - σ3.2.2 3002)) + σf.2.2 3002 ≤ ms + σ4.2.2 3002 := by have := hmn.2; have := hle.2; omega
  replace hsm : (slots + (σ4.2.2 3002 - σ3.2.2 3002)) ≤ ms := by have := hmn.2; have := hle.2; omega
  generalize slots + (σ4.2.2 3002 - σ3.2.2 3002) = slots at hsq hsm ⊢
  replace hF : d2_4 + 3 ≤ F := by omega
  replace hLo : 48 * d2_4 + 144 ≤ Lo := by omega
  refine ax_if_eq (pc := 151) C 189 d_Sat_superposeInto_151 (by decide) (fun hc => ?_) (fun hc => ?_)
  · replace h := it_t hc h
    refine ax_ls ([(0, .ref (u 53)), (1, .int x0), (2, .int x1), (3, .int x2), (4, .int x3), (5, .int x4), (6, .int x5), (7, .int x6), (8, .int x7), (9, .int x8), (10, .int x9), (11, .int x10), (12, .int x11)]) [0, 1, 2, 3, 4, 5, 6, 7, 8, 9, 10, 11, 12] rfl ?_
    replace hm : sG_Sat_superposeInto_p189 l D kA u σ4 [x0, x1, x2, x3, x4, x5, x6, x7, x8, x9, x10, x11] (σf, rf, _) := ih tG_Sat_superposeInto_p189 _ _ _ h
    exact hm _ _ _ _ _ _ _ _ _ _ _ _ rfl w4 tx p e s m args below meth c F Lo mc ms cells slots σ0 w0 tx0 hF hLo hcq hsq hga4 C
  · replace h := it_f hc h
    refine ax_aload_n (pc := 154) C d_Sat_superposeInto_154 rfl 0 rfl ?_
    refine cg_53_10_Sat_31 (pc := 155) C d_Sat_superposeInto_155 ?_
    replace h := it_b h
    obtain ⟨σ5, r5, d1_5, d2_5, h1, h, hd2, hd1⟩ := h
    replace hle := hG _ _ _ _ (by decide) h1
    dsimp only at hle
    replace hmn : gle σ5 σf := gm_use h (gm_bnd hG (Nat.le_of_ble_eq_true rfl) (fun _ _ => (gm_bnd hG (Nat.le_of_ble_eq_true rfl) (fun _ _ => (gm_bnd hG (Nat.le_of_ble_eq_true rfl) (fun _ _ => (gm_tail hG (Nat.le_of_ble_eq_true rfl))))))))
    replace hm : sC_Dra_clear l D kA u w4 tx σ4 [] (σ5, r5, d1_5) := ihC _ _ tC_Dra_clear _ _ _ h1
    refine cc_Vv (pc := 158) C (σ2 := σ5) (As := []) (rest := []) (hm rfl) ml_Sat_213 39 rfl rfl rfl d_Sat_superposeInto_158 rfl rfl (by dsimp only; omega) (by dsimp only; omega) hcm hsm (Nat.le_of_ble_eq_true rfl) ?_
    replace hcq : cells + σf.2.2 3001 ≤ mc + σ5.2.2 3001 := by have := hle.1; omega
    replace hsq : slots + σf.2.2 3002 ≤ ms + σ5.2.2 3002 := by have := hle.2; omega
    replace hF : d2_5 + 3 ≤ F := by omega
    replace hLo : 48 * d2_5 + 144 ≤ Lo := by omega
    refine ax_aload_n (pc := 161) C d_Sat_superposeInto_161 rfl 0 rfl ?_
    refine ax_iload_n (pc := 162) C d_Sat_superposeInto_162 rfl 1 rfl ?_
    refine ax_iload_n (pc := 163) C d_Sat_superposeInto_163 rfl 2 rfl ?_
    refine ax_iconst (pc := 164) C (-1) d_Sat_superposeInto_164 (by decide +kernel) ?_
    refine ax_iconst (pc := 165) C 0 d_Sat_superposeInto_165 (by decide +kernel) ?_
    replace h := it_b h
    obtain ⟨σ6, r6, d1_6, d2_6, h1, h, hd2, hd1⟩ := h
    replace hle := hG _ _ _ _ (by decide) h1
    dsimp only at hle
    replace hmn : gle σ6 σf := gm_use h (gm_bnd hG (Nat.le_of_ble_eq_true rfl) (fun _ _ => (gm_bnd hG (Nat.le_of_ble_eq_true rfl) (fun _ _ => (gm_tail hG (Nat.le_of_ble_eq_true rfl))))))
    replace hm : sC_Sat_writeOthers l D kA u w4 tx σ5 [x0, x1, (-1), 0] (σ6, r6, d1_6) := ihC _ _ tC_Sat_writeOthers _ _ _ h1
    refine cc_Vv (pc := 166) C (σ2 := σ6) (As := [.int x0, .int x1, .int (-1), .int 0]) (rest := []) (hm _ _ _ _ rfl) ml_Sat_215 53 rfl rfl rfl d_Sat_superposeInto_166 rfl rfl (by dsimp only; omega) (by dsimp only; omega) hcm hsm (Nat.le_of_ble_eq_true rfl) ?_
    replace hcq : cells + σf.2.2 3001 ≤ mc + σ6.2.2 3001 := by have := hle.1; omega
    replace hsq : slots + σf.2.2 3002 ≤ ms + σ6.2.2 3002 := by have := hle.2; omega
    replace hF : d2_6 + 3 ≤ F := by omega
    replace hLo : 48 * d2_6 + 144 ≤ Lo := by omega
    refine ax_aload_n (pc := 169) C d_Sat_superposeInto_169 rfl 0 rfl ?_
    refine ax_iload (pc := 170) C d_Sat_superposeInto_170 4 rfl ?_
    refine ax_iload (pc := 172) C d_Sat_superposeInto_172 10 rfl ?_
    refine ax_iload_n (pc := 174) C d_Sat_superposeInto_174 rfl 2 rfl ?_
    refine ax_iconst (pc := 175) C 1 d_Sat_superposeInto_175 (by decide +kernel) ?_
    refine ax_iload_n (pc := 176) C d_Sat_superposeInto_176 rfl 3 rfl ?_
    refine ax_isub (pc := 177) C d_Sat_superposeInto_177 ?_
    replace h := it_b h
    obtain ⟨σ7, r7, d1_7, d2_7, h1, h, hd2, hd1⟩ := h
    replace hle := hG _ _ _ _ (by decide) h1
    dsimp only at hle
    replace hmn : gle σ7 σf := gm_use h (gm_bnd hG (Nat.le_of_ble_eq_true rfl) (fun _ _ => (gm_tail hG (Nat.le_of_ble_eq_true rfl))))
    replace hm : sC_Sat_writeReplaced l D kA u w4 tx σ6 [x3, x9, x1, ((1 : Int32) - x2)] (σ7, r7, d1_7) := ihC _ _ tC_Sat_writeReplaced _ _ _ h1
    refine cc_Vv (pc := 178) C (σ2 := σ7) (As := [.int x3, .int x9, .int x1, .int ((1 : Int32) - x2)]) (rest := []) (hm _ _ _ _ rfl) ml_Sat_219 53 rfl rfl rfl d_Sat_superposeInto_178 rfl rfl (by dsimp only; omega) (by dsimp only; omega) hcm hsm (Nat.le_of_ble_eq_true rfl) ?_
    replace hcq : cells + σf.2.2 3001 ≤ mc + σ7.2.2 3001 := by have := hle.1; omega
    replace hsq : slots + σf.2.2 3002 ≤ ms + σ7.2.2 3002 := by have := hle.2; omega
    replace hF : d2_7 + 3 ≤ F := by omega
    replace hLo : 48 * d2_7 + 144 ≤ Lo := by omega
    refine ax_aload_n (pc := 181) C d_Sat_superposeInto_181 rfl 0 rfl ?_
    refine ax_iconst (pc := 182) C 1 d_Sat_superposeInto_182 (by decide +kernel) ?_
    refine ax_iload_n (pc := 183) C d_Sat_superposeInto_183 rfl 1 rfl ?_
    refine ax_iload (pc := 184) C d_Sat_superposeInto_184 4 rfl ?_
    replace h := it_b h
    obtain ⟨σ8, r8, d1_8, d2_8, h1, h, hd2, hd1⟩ := h
    replace hle := hG _ _ _ _ (by decide) h1
    dsimp only at hle
    replace hmn : gle σ8 σf := gm_use h (gm_tail hG (Nat.le_of_ble_eq_true rfl))
    replace hm : sG_Sat_keep l D kA u σ7 [1, x0, x3] (σ8, r8, d1_8) := ih tG_Sat_keep _ _ _ h1
    refine gc_Vv (pc := 186) C (As := [.int 1, .int x0, .int x3]) (rest := []) (hm _ _ _ rfl w4 tx) ml_Sat_222 53 rfl rfl rfl d_Sat_superposeInto_186 rfl rfl (by dsimp only; omega) (by dsimp only; omega) (by have := hmn.1; have := hle.1; dsimp only; omega) (by have := hmn.2; have := hle.2; dsimp only; omega) (Nat.le_of_ble_eq_true rfl) (fun w1 hw => ?_)
    obtain ⟨w8, tx8, hag8, htq8, hwq8⟩ := hw
    dsimp only at hwq8
    subst hwq8
    dsimp only
    replace htq8 := htq8.symm
    subst htq8
    have hga8 : ∀ i, ([48, 52, 65] : List Nat).elem i = false → w8 i = w0 i := fun i hi => (hag8 i (by revert hi; exact el_sub (by decide))).trans (hga4 i hi)
    replace hcq : (cells + (σ8.2.2 3001 - σ7.2.2 3001)) + σf.2.2 3001 ≤ mc + σ8.2.2 3001 := by have := hmn.1; have := hle.1; omega
    replace hcm : (cells + (σ8.2.2 3001 - σ7.2.2 3001)) ≤ mc := by have := hmn.1; have := hle.1; omega
    generalize cells + (σ8.2.2 3001 - σ7.2.2 3001) = cells at hcq hcm ⊢
    replace hsq : (slots + (σ8.2.2 3002 - σ7.2.2 3002)) + σf.2.2 3002 ≤ ms + σ8.2.2 3002 := by have := hmn.2; have := hle.2; omega
    replace hsm : (slots + (σ8.2.2 3002 - σ7.2.2 3002)) ≤ ms := by have := hmn.2; have := hle.2; omega
    generalize slots + (σ8.2.2 3002 - σ7.2.2 3002) = slots at hsq hsm ⊢
    replace hF : d2_8 + 3 ≤ F := by omega
    replace hLo : 48 * d2_8 + 144 ≤ Lo := by omega
    refine ax_ls ([(0, .ref (u 53)), (1, .int x0), (2, .int x1), (3, .int x2), (4, .int x3), (5, .int x4), (6, .int x5), (7, .int x6), (8, .int x7), (9, .int x8), (10, .int x9), (11, .int x10), (12, .int x11)]) [0, 1, 2, 3, 4, 5, 6, 7, 8, 9, 10, 11, 12] rfl ?_
    replace hm : sG_Sat_superposeInto_p189 l D kA u σ8 [x0, x1, x2, x3, x4, x5, x6, x7, x8, x9, x10, x11] (σf, rf, _) := ih tG_Sat_superposeInto_p189 _ _ _ h
    exact hm _ _ _ _ _ _ _ _ _ _ _ _ rfl w8 tx p e s m args below meth c F Lo mc ms cells slots σ0 w0 tx0 hF hLo hcq hsq hga8 C
set_option maxHeartbeats 4000000 in
set_option maxRecDepth 100000 in
theorem oG_Sat_superposeInto_p189 (l : Launch) (D : va_G) (kA : Nat → ClassId) (u : Nat → Nat) (rec : mF) (hG : GM rec) (ihC : ∀ (w : Nat → Nat) (tx : Value) t σ xs res, rec t σ xs = some res → cSem l D kA u w tx t σ xs res) (ih : ∀ t σ xs res, rec t σ xs = some res → gSem l D kA u t σ xs res) (σ : mS) (xs : List Int32) (res : mR) (h : u_12 (kG_Sat_superposeInto_p189 rec σ) xs = some res) : sG_Sat_superposeInto_p189 l D kA u σ xs res := by
  intro x0 x1 x2 x3 x4 x5 x6 x7 x8 x9 x10 x11 hxs w tx
  subst hxs
  obtain ⟨σf, rf, dd⟩ := res
  have hmn : gle σ σf := qG_Sat_superposeInto_p189 rec hG σ x0 x1 x2 x3 x4 x5 x6 x7 x8 x9 x10 x11 _ h
  have h : (rec tG_Sat_superposeInto_p44 σ [x0, x1, x2, x3, x4, x5, x6, x7, x8, (x9 + 1)]) = some (σf, rf, dd) := h
  intro p e s m args below meth c F Lo mc ms cells slots σ0 w0 tx0 hF hLo hcq hsq hga C
  dsimp only at hF hLo hcq hsq ⊢
  have hcm : cells ≤ mc := by have := hmn.1; omega
  have hsm : slots ≤ ms := by have := hmn.2; omega
  have hle : True := trivial
  have hm : True := trivial
  refine ax_iinc (pc := 189) C (x9 + 1) d_Sat_superposeInto_189 10 rfl rfl (Nat.le_of_ble_eq_true rfl) ([(10, .int (x9 + 1)), (0, .ref (u 53)), (1, .int x0), (2, .int x1), (3, .int x2), (4, .int x3), (5, .int x4), (6, .int x5), (7, .int x6), (8, .int x7), (9, .int x8), (11, .int x10), (12, .int x11)]) rfl ?_
  refine ax_goto (pc := 192) C 44 d_Sat_superposeInto_192 (by decide) ?_
  refine ax_ls ([(0, .ref (u 53)), (1, .int x0), (2, .int x1), (3, .int x2), (4, .int x3), (5, .int x4), (6, .int x5), (7, .int x6), (8, .int x7), (9, .int x8), (10, .int (x9 + 1))]) [1, 2, 3, 4, 5, 6, 7, 8, 9, 10, 0] rfl ?_
  replace hm : sG_Sat_superposeInto_p44 l D kA u σ [x0, x1, x2, x3, x4, x5, x6, x7, x8, (x9 + 1)] (σf, rf, _) := ih tG_Sat_superposeInto_p44 _ _ _ h
  exact hm _ _ _ _ _ _ _ _ _ _ rfl w tx p e s m args below meth c F Lo mc ms cells slots σ0 w0 tx0 hF hLo hcq hsq hga C
set_option maxHeartbeats 4000000 in
set_option maxRecDepth 100000 in
theorem oG_Sat_superposeInto_p195 (l : Launch) (D : va_G) (kA : Nat → ClassId) (u : Nat → Nat) (rec : mF) (hG : GM rec) (ihC : ∀ (w : Nat → Nat) (tx : Value) t σ xs res, rec t σ xs = some res → cSem l D kA u w tx t σ xs res) (ih : ∀ t σ xs res, rec t σ xs = some res → gSem l D kA u t σ xs res) (σ : mS) (xs : List Int32) (res : mR) (h : u_10 (kG_Sat_superposeInto_p195 rec σ) xs = some res) : sG_Sat_superposeInto_p195 l D kA u σ xs res := by
  intro x0 x1 x2 x3 x4 x5 x6 x7 x8 x9 hxs w tx
  subst hxs
  obtain ⟨σf, rf, dd⟩ := res
  have hmn : gle σ σf := qG_Sat_superposeInto_p195 rec hG σ x0 x1 x2 x3 x4 x5 x6 x7 x8 x9 _ h
  have h : (some (σ, 0, 0)) = some (σf, rf, dd) := h
  intro p e s m args below meth c F Lo mc ms cells slots σ0 w0 tx0 hF hLo hcq hsq hga C
  dsimp only at hF hLo hcq hsq ⊢
  have hcm : cells ≤ mc := by have := hmn.1; omega
  have hsm : slots ≤ ms := by have := hmn.2; omega
  have hle : True := trivial
  have hm : True := trivial
  cases h
  exact ax_vret (pc := 195) C d_Sat_superposeInto_195 ⟨w, tx, hga, rfl, rfl⟩ hcm hsm
set_option maxHeartbeats 4000000 in
set_option maxRecDepth 100000 in
theorem oG_Sat_takeGiven (l : Launch) (D : va_G) (kA : Nat → ClassId) (u : Nat → Nat) (rec : mF) (hG : GM rec) (ihC : ∀ (w : Nat → Nat) (tx : Value) t σ xs res, rec t σ xs = some res → cSem l D kA u w tx t σ xs res) (ih : ∀ t σ xs res, rec t σ xs = some res → gSem l D kA u t σ xs res) (σ : mS) (xs : List Int32) (res : mR) (h : u_0 (kG_Sat_takeGiven rec σ) xs = some res) : sG_Sat_takeGiven l D kA u σ xs res := by
  intro hxs w tx
  subst hxs
  obtain ⟨σf, rf, dd⟩ := res
  have hmn : gle σ σf := qG_Sat_takeGiven rec hG σ _ h
  have h : (bnd (rec tC_Sat_choose σ []) (fun σ1 r1 => if r1 = (-1) then (lt_ (mI σ1 5300 2) (fun σ6 => some (σ6, (-1), 0))) else (lt_ (mI σ1 5301 (((σ1.1 5301) : Int32) + 1)) (fun σ2 => bnd (rec tC_Sto_setFact σ2 [r1, 6, 2]) (fun σ3 r3 => bnd (rec tC_Sto_fact σ3 [r1, 3]) (fun σ4 r4 => if r4 ≤ 0 then (rec tG_Sat_takeGiven_p56 σ4 [r1]) else (bnd (rec tG_Sat_rewrite σ4 [r1]) (fun σ5 r5 => rec tG_Sat_takeGiven_p56 σ5 [r5])))))))) = some (σf, rf, dd) := h
  refine ax_Mi.of (by decide +kernel) (Nat.le_of_ble_eq_true rfl) ?_
  intro p e s m args below meth c C hnm
  replace C : ax_C p s m args meth c b_Sat_takeGiven "ClauseProver$Saturation" 2 (some .int) D kA (va_A (cpW kA u w tx σ) s.heap.size) := C
  obtain ⟨F, hFe⟩ : ∃ z, z = dd + 3 := ⟨_, rfl⟩
  obtain ⟨Lo, hLoe⟩ : ∃ z, z = 48 * dd + 144 := ⟨_, rfl⟩
  obtain ⟨mc, hmce⟩ : ∃ z, z = σf.2.2 3001 - σ.2.2 3001 := ⟨_, rfl⟩
  obtain ⟨ms, hmse⟩ : ∃ z, z = σf.2.2 3002 - σ.2.2 3002 := ⟨_, rfl⟩
  obtain ⟨σ0, hσ0e⟩ : ∃ z, z = σ := ⟨_, rfl⟩
  obtain ⟨w0, hw0e⟩ : ∃ z, z = w := ⟨_, rfl⟩
  obtain ⟨tx0, htx0e⟩ : ∃ z, z = tx := ⟨_, rfl⟩
  suffices K : ∀ (cells slots : Nat), cells = 0 → slots = 0 → AW p l e { frames := F, cells := mc, slots := ms, locals := Lo } s m args below meth c D kA (va_A (cpW kA u w0 tx0 σ0) s.heap.size) 2 (ax_Qi below args s D kA (cpW kA u w0 tx0 σ0) mc ms (fun r w1 => r = rf ∧ ∃ (w2 : Nat → Nat) (tx2 : Value), (∀ i, ([48, 50, 52, 56, 58] : List Nat).elem i = false → w2 i = w0 i) ∧ tx2 = tx0 ∧ w1 = cpW kA u w2 tx2 σf)) 0 [(0, .ref (u 53))] [] (cpW kA u w tx σ) cells slots by
    have K := K 0 0 rfl rfl
    rw [hFe, hLoe, hmce, hmse, hσ0e, hw0e, htx0e] at K
    exact ax_ls ([(0, .ref (u 53))]) [0] rfl K
  replace C : ax_C p s m args meth c b_Sat_takeGiven "ClauseProver$Saturation" 2 (some .int) D kA (va_A (cpW kA u w0 tx0 σ0) s.heap.size) := by rw [hσ0e, hw0e, htx0e]; exact C
  intro cells slots hc0 hs0
  have hcq : cells + σf.2.2 3001 ≤ mc + σ.2.2 3001 := by have := hmn.1; omega
  have hsq : slots + σf.2.2 3002 ≤ ms + σ.2.2 3002 := by have := hmn.2; omega
  have hga : ∀ i, ([48, 50, 52, 56, 58] : List Nat).elem i = false → w i = w0 i := fun i _ => by rw [hw0e]
  have e9 : tx = tx0 := htx0e.symm
  subst e9
  have hF : dd + 3 ≤ F := by omega
  have hLo : 48 * dd + 144 ≤ Lo := by omega
  have hcm : cells ≤ mc := by have := hmn.1; omega
  have hsm : slots ≤ ms := by have := hmn.2; omega
  have hle : True := trivial
  have hm : True := trivial
  refine ax_aload_n (pc := 0) C d_Sat_takeGiven_0 rfl 0 rfl ?_
  replace h := it_b h
  obtain ⟨σ1, r1, d1_1, d2_1, h1, h, hd2, hd1⟩ := h
  replace hle := hG _ _ _ _ (by decide) h1
  dsimp only at hle
  replace hmn : gle σ1 σf := gm_use h (gm_if (gm_lt ⟨Nat.le_refl _, Nat.le_refl _, rfl⟩ gm_some) (gm_lt ⟨Nat.le_refl _, Nat.le_refl _, rfl⟩ (gm_bnd hG (Nat.le_of_ble_eq_true rfl) (fun _ _ => (gm_bnd hG (Nat.le_of_ble_eq_true rfl) (fun _ _ => (gm_if (gm_tail hG (Nat.le_of_ble_eq_true rfl)) (gm_bnd hG (Nat.le_of_ble_eq_true rfl) (fun _ _ => (gm_tail hG (Nat.le_of_ble_eq_true rfl)))))))))))
  replace hm : sC_Sat_choose l D kA u w tx σ [] (σ1, r1, d1_1) := ihC _ _ tC_Sat_choose _ _ _ h1
  refine cc_Vi (pc := 1) C (r0 := r1) (σ2 := σ1) (As := []) (rest := []) (hm rfl) ml_Sat_83 53 rfl rfl rfl d_Sat_takeGiven_1 rfl rfl (by dsimp only; omega) (by dsimp only; omega) hcm hsm (Nat.le_of_ble_eq_true rfl) ?_
  replace hcq : cells + σf.2.2 3001 ≤ mc + σ1.2.2 3001 := by have := hle.1; omega
  replace hsq : slots + σf.2.2 3002 ≤ ms + σ1.2.2 3002 := by have := hle.2; omega
  replace hF : d2_1 + 3 ≤ F := by omega
  replace hLo : 48 * d2_1 + 144 ≤ Lo := by omega
  refine ax_istore_n (pc := 4) C d_Sat_takeGiven_4 rfl (Nat.le_of_ble_eq_true rfl) ([(1, .int r1), (0, .ref (u 53))]) rfl ?_
  refine ax_iload_n (pc := 5) C d_Sat_takeGiven_5 rfl 0 rfl ?_
  refine ax_iconst (pc := 6) C (-1) d_Sat_takeGiven_6 (by decide +kernel) ?_
  refine ax_icmp_ne (pc := 7) C 17 d_Sat_takeGiven_7 (by decide) (fun hc => ?_) (fun hc => ?_)
  · replace h := it_f hc h
    refine ax_aload_n (pc := 17) C d_Sat_takeGiven_17 rfl 1 rfl ?_
    refine ax_dup (pc := 18) C d_Sat_takeGiven_18 rfl ?_
    refine cg_53_1_Sat_62 (pc := 19) C d_Sat_takeGiven_19 ?_
    refine ax_iconst (pc := 22) C 1 d_Sat_takeGiven_22 (by decide +kernel) ?_
    refine ax_iadd (pc := 23) C d_Sat_takeGiven_23 ?_
    refine cq_53_1_Sat_62 (pc := 24) C d_Sat_takeGiven_24 ?_
    replace h := it_l h
    replace hcq : cells + σf.2.2 3001 ≤ mc + (mI σ1 5301 (((σ1.1 5301) : Int32) + 1)).2.2 3001 := hcq
    replace hsq : slots + σf.2.2 3002 ≤ ms + (mI σ1 5301 (((σ1.1 5301) : Int32) + 1)).2.2 3002 := hsq
    generalize mI σ1 5301 (((σ1.1 5301) : Int32) + 1) = σ2 at h hcq hsq ⊢
    refine ax_aload_n (pc := 27) C d_Sat_takeGiven_27 rfl 1 rfl ?_
    refine cg_53_9_Sat_27 (pc := 28) C d_Sat_takeGiven_28 ?_
    refine ax_iload_n (pc := 31) C d_Sat_takeGiven_31 rfl 0 rfl ?_
    refine ax_bipush (pc := 32) C 6 d_Sat_takeGiven_32 (by decide +kernel) ?_
    refine ax_iconst (pc := 34) C 2 d_Sat_takeGiven_34 (by decide +kernel) ?_
    replace h := it_b h
    obtain ⟨σ3, r3, d1_3, d2_3, h1, h, hd2, hd1⟩ := h
    replace hle := hG _ _ _ _ (by decide) h1
    dsimp only at hle
    replace hmn : gle σ3 σf := gm_use h (gm_bnd hG (Nat.le_of_ble_eq_true rfl) (fun _ _ => (gm_if (gm_tail hG (Nat.le_of_ble_eq_true rfl)) (gm_bnd hG (Nat.le_of_ble_eq_true rfl) (fun _ _ => (gm_tail hG (Nat.le_of_ble_eq_true rfl)))))))
    replace hm : sC_Sto_setFact l D kA u w tx σ2 [r1, 6, 2] (σ3, r3, d1_3) := ihC _ _ tC_Sto_setFact _ _ _ h1
    refine cc_Vv (pc := 35) C (σ2 := σ3) (As := [.int r1, .int 6, .int 2]) (rest := []) (hm _ _ _ rfl) ml_Sat_87 54 rfl rfl rfl d_Sat_takeGiven_35 rfl rfl (by dsimp only; omega) (by dsimp only; omega) hcm hsm (Nat.le_of_ble_eq_true rfl) ?_
    replace hcq : cells + σf.2.2 3001 ≤ mc + σ3.2.2 3001 := by have := hle.1; omega
    replace hsq : slots + σf.2.2 3002 ≤ ms + σ3.2.2 3002 := by have := hle.2; omega
    replace hF : d2_3 + 3 ≤ F := by omega
    replace hLo : 48 * d2_3 + 144 ≤ Lo := by omega
    refine ax_aload_n (pc := 38) C d_Sat_takeGiven_38 rfl 1 rfl ?_
    refine cg_53_9_Sat_27 (pc := 39) C d_Sat_takeGiven_39 ?_
    refine ax_iload_n (pc := 42) C d_Sat_takeGiven_42 rfl 0 rfl ?_
    refine ax_iconst (pc := 43) C 3 d_Sat_takeGiven_43 (by decide +kernel) ?_
    replace h := it_b h
    obtain ⟨σ4, r4, d1_4, d2_4, h1, h, hd2, hd1⟩ := h
    replace hle := hG _ _ _ _ (by decide) h1
    dsimp only at hle
    replace hmn : gle σ4 σf := gm_use h (gm_if (gm_tail hG (Nat.le_of_ble_eq_true rfl)) (gm_bnd hG (Nat.le_of_ble_eq_true rfl) (fun _ _ => (gm_tail hG (Nat.le_of_ble_eq_true rfl)))))
    replace hm : sC_Sto_fact l D kA u w tx σ3 [r1, 3] (σ4, r4, d1_4) := ihC _ _ tC_Sto_fact _ _ _ h1
    refine cc_Vi (pc := 44) C (r0 := r4) (σ2 := σ4) (As := [.int r1, .int 3]) (rest := []) (hm _ _ rfl) ml_Sat_91 54 rfl rfl rfl d_Sat_takeGiven_44 rfl rfl (by dsimp only; omega) (by dsimp only; omega) hcm hsm (Nat.le_of_ble_eq_true rfl) ?_
    replace hcq : cells + σf.2.2 3001 ≤ mc + σ4.2.2 3001 := by have := hle.1; omega
    replace hsq : slots + σf.2.2 3002 ≤ ms + σ4.2.2 3002 := by have := hle.2; omega
    replace hF : d2_4 + 3 ≤ F := by omega
    replace hLo : 48 * d2_4 + 144 ≤ Lo := by omega
    refine ax_if_le (pc := 47) C 56 d_Sat_takeGiven_47 (by decide) (fun hc => ?_) (fun hc => ?_)
    · replace h := it_t hc h
      refine ax_ls ([(0, .ref (u 53)), (1, .int r1)]) [1, 0] rfl ?_
      replace hm : sG_Sat_takeGiven_p56 l D kA u σ4 [r1] (σf, rf, _) := ih tG_Sat_takeGiven_p56 _ _ _ h
      exact hm _ rfl w tx p e s m args below meth c F Lo mc ms cells slots σ0 w0 tx hF hLo hcq hsq hga C
    · replace h := it_f hc h
      refine ax_aload_n (pc := 50) C d_Sat_takeGiven_50 rfl 1 rfl ?_
      refine ax_iload_n (pc := 51) C d_Sat_takeGiven_51 rfl 0 rfl ?_
      replace h := it_b h
      obtain ⟨σ5, r5, d1_5, d2_5, h1, h, hd2, hd1⟩ := h
      replace hle := hG _ _ _ _ (by decide) h1
      dsimp only at hle
      replace hmn : gle σ5 σf := gm_use h (gm_tail hG (Nat.le_of_ble_eq_true rfl))
      replace hm : sG_Sat_rewrite l D kA u σ4 [r1] (σ5, r5, d1_5) := ih tG_Sat_rewrite _ _ _ h1
      refine gc_Vi (pc := 52) C (As := [.int r1]) (rest := []) (hm _ rfl w tx) ml_Sat_95 53 rfl rfl rfl d_Sat_takeGiven_52 rfl rfl (by dsimp only; omega) (by dsimp only; omega) (by have := hmn.1; have := hle.1; dsimp only; omega) (by have := hmn.2; have := hle.2; dsimp only; omega) (Nat.le_of_ble_eq_true rfl) (fun r9 w1 hw => ?_)
      obtain ⟨hrq5, w5, tx5, hag5, htq5, hwq5⟩ := hw
      dsimp only at hwq5 hrq5
      subst hwq5
      replace hrq5 := hrq5.symm
      subst hrq5
      dsimp only
      replace htq5 := htq5.symm
      subst htq5
      have hga5 : ∀ i, ([48, 50, 52, 56, 58] : List Nat).elem i = false → w5 i = w0 i := fun i hi => (hag5 i (by revert hi; exact el_sub (by decide))).trans (hga i hi)
      replace hcq : (cells + (σ5.2.2 3001 - σ4.2.2 3001)) + σf.2.2 3001 ≤ mc + σ5.2.2 3001 := by have := hmn.1; have := hle.1; omega
      replace hcm : (cells + (σ5.2.2 3001 - σ4.2.2 3001)) ≤ mc := by have := hmn.1; have := hle.1; omega
      generalize cells + (σ5.2.2 3001 - σ4.2.2 3001) = cells at hcq hcm ⊢
      replace hsq : (slots + (σ5.2.2 3002 - σ4.2.2 3002)) + σf.2.2 3002 ≤ ms + σ5.2.2 3002 := by have := hmn.2; have := hle.2; omega
      replace hsm : (slots + (σ5.2.2 3002 - σ4.2.2 3002)) ≤ ms := by have := hmn.2; have := hle.2; omega
      generalize slots + (σ5.2.2 3002 - σ4.2.2 3002) = slots at hsq hsm ⊢
      replace hF : d2_5 + 3 ≤ F := by omega
      replace hLo : 48 * d2_5 + 144 ≤ Lo := by omega
      refine ax_istore_n (pc := 55) C d_Sat_takeGiven_55 rfl (Nat.le_of_ble_eq_true rfl) ([(1, .int r5), (0, .ref (u 53))]) rfl ?_
      refine ax_ls ([(0, .ref (u 53)), (1, .int r5)]) [1, 0] rfl ?_
      replace hm : sG_Sat_takeGiven_p56 l D kA u σ5 [r5] (σf, rf, _) := ih tG_Sat_takeGiven_p56 _ _ _ h
      exact hm _ rfl w5 tx p e s m args below meth c F Lo mc ms cells slots σ0 w0 tx hF hLo hcq hsq hga5 C
  · replace h := it_t hc h
    refine ax_aload_n (pc := 10) C d_Sat_takeGiven_10 rfl 1 rfl ?_
    refine ax_iconst (pc := 11) C 2 d_Sat_takeGiven_11 (by decide +kernel) ?_
    refine cq_53_0_Sat_58 (pc := 12) C d_Sat_takeGiven_12 ?_
    replace h := it_l h
    replace hcq : cells + σf.2.2 3001 ≤ mc + (mI σ1 5300 2).2.2 3001 := hcq
    replace hsq : slots + σf.2.2 3002 ≤ ms + (mI σ1 5300 2).2.2 3002 := hsq
    generalize mI σ1 5300 2 = σ6 at h hcq hsq ⊢
    refine ax_iconst (pc := 15) C (-1) d_Sat_takeGiven_15 (by decide +kernel) ?_
    cases h
    exact ax_iret (pc := 16) C d_Sat_takeGiven_16 ⟨rfl, w, tx, hga, rfl, rfl⟩ hcm hsm
set_option maxHeartbeats 4000000 in
set_option maxRecDepth 100000 in
theorem oG_Sat_takeGiven_p56 (l : Launch) (D : va_G) (kA : Nat → ClassId) (u : Nat → Nat) (rec : mF) (hG : GM rec) (ihC : ∀ (w : Nat → Nat) (tx : Value) t σ xs res, rec t σ xs = some res → cSem l D kA u w tx t σ xs res) (ih : ∀ t σ xs res, rec t σ xs = some res → gSem l D kA u t σ xs res) (σ : mS) (xs : List Int32) (res : mR) (h : u_1 (kG_Sat_takeGiven_p56 rec σ) xs = some res) : sG_Sat_takeGiven_p56 l D kA u σ xs res := by
  intro x0 hxs w tx
  subst hxs
  obtain ⟨σf, rf, dd⟩ := res
  have hmn : gle σ σf := qG_Sat_takeGiven_p56 rec hG σ x0 _ h
  have h : (if x0 = (-1) then (some (σ, (-1), 0)) else (bnd (rec tC_Sto_fact σ [x0, 3]) (fun σ1 r1 => if r1 = 0 then (bnd (rec tG_Sat_refute σ1 [x0]) (fun σ7 r7 => some (σ7, (-1), 0))) else (bnd (rec tC_Sat_isSubsumed σ1 [x0]) (fun σ2 r2 => if r2 = 0 then (bnd (rec tC_Sat_clearAway σ2 [x0]) (fun σ3 r3 => bnd (rec tC_Sto_setFact σ3 [x0, 6, 1]) (fun σ4 r4 => bnd (rec tC_Sto_judge σ4 [x0]) (fun σ5 r5 => some (σ5, x0, 0))))) else (lt_ (mI σ2 5304 (((σ2.1 5304) : Int32) + 1)) (fun σ6 => some (σ6, (-1), 0)))))))) = some (σf, rf, dd) := h
  intro p e s m args below meth c F Lo mc ms cells slots σ0 w0 tx0 hF hLo hcq hsq hga C
  dsimp only at hF hLo hcq hsq ⊢
  have hcm : cells ≤ mc := by have := hmn.1; omega
  have hsm : slots ≤ ms := by have := hmn.2; omega
  have hle : True := trivial
  have hm : True := trivial
  refine ax_iload_n (pc := 56) C d_Sat_takeGiven_56 rfl 1 rfl ?_
  refine ax_iconst (pc := 57) C (-1) d_Sat_takeGiven_57 (by decide +kernel) ?_
  refine ax_icmp_ne (pc := 58) C 63 d_Sat_takeGiven_58 (by decide) (fun hc => ?_) (fun hc => ?_)
  · replace h := it_f hc h
    refine ax_aload_n (pc := 63) C d_Sat_takeGiven_63 rfl 0 rfl ?_
    refine cg_53_9_Sat_27 (pc := 64) C d_Sat_takeGiven_64 ?_
    refine ax_iload_n (pc := 67) C d_Sat_takeGiven_67 rfl 1 rfl ?_
    refine ax_iconst (pc := 68) C 3 d_Sat_takeGiven_68 (by decide +kernel) ?_
    replace h := it_b h
    obtain ⟨σ1, r1, d1_1, d2_1, h1, h, hd2, hd1⟩ := h
    replace hle := hG _ _ _ _ (by decide) h1
    dsimp only at hle
    replace hmn : gle σ1 σf := gm_use h (gm_if (gm_bnd hG (Nat.le_of_ble_eq_true rfl) (fun _ _ => gm_some)) (gm_bnd hG (Nat.le_of_ble_eq_true rfl) (fun _ _ => (gm_if (gm_bnd hG (Nat.le_of_ble_eq_true rfl) (fun _ _ => (gm_bnd hG (Nat.le_of_ble_eq_true rfl) (fun _ _ => (gm_bnd hG (Nat.le_of_ble_eq_true rfl) (fun _ _ => gm_some)))))) (gm_lt ⟨Nat.le_refl _, Nat.le_refl _, rfl⟩ gm_some)))))
    replace hm : sC_Sto_fact l D kA u w tx σ [x0, 3] (σ1, r1, d1_1) := ihC _ _ tC_Sto_fact _ _ _ h1
    refine cc_Vi (pc := 69) C (r0 := r1) (σ2 := σ1) (As := [.int x0, .int 3]) (rest := []) (hm _ _ rfl) ml_Sat_91 54 rfl rfl rfl d_Sat_takeGiven_69 rfl rfl (by dsimp only; omega) (by dsimp only; omega) hcm hsm (Nat.le_of_ble_eq_true rfl) ?_
    replace hcq : cells + σf.2.2 3001 ≤ mc + σ1.2.2 3001 := by have := hle.1; omega
    replace hsq : slots + σf.2.2 3002 ≤ ms + σ1.2.2 3002 := by have := hle.2; omega
    replace hF : d2_1 + 3 ≤ F := by omega
    replace hLo : 48 * d2_1 + 144 ≤ Lo := by omega
    refine ax_if_ne (pc := 72) C 82 d_Sat_takeGiven_72 (by decide) (fun hc => ?_) (fun hc => ?_)
    · replace h := it_f hc h
      refine ax_aload_n (pc := 82) C d_Sat_takeGiven_82 rfl 0 rfl ?_
      refine ax_iload_n (pc := 83) C d_Sat_takeGiven_83 rfl 1 rfl ?_
      replace h := it_b h
      obtain ⟨σ2, r2, d1_2, d2_2, h1, h, hd2, hd1⟩ := h
      replace hle := hG _ _ _ _ (by decide) h1
      dsimp only at hle
      replace hmn : gle σ2 σf := gm_use h (gm_if (gm_bnd hG (Nat.le_of_ble_eq_true rfl) (fun _ _ => (gm_bnd hG (Nat.le_of_ble_eq_true rfl) (fun _ _ => (gm_bnd hG (Nat.le_of_ble_eq_true rfl) (fun _ _ => gm_some)))))) (gm_lt ⟨Nat.le_refl _, Nat.le_refl _, rfl⟩ gm_some))
      replace hm : sC_Sat_isSubsumed l D kA u w tx σ1 [x0] (σ2, r2, d1_2) := ihC _ _ tC_Sat_isSubsumed _ _ _ h1
      refine cc_Vi (pc := 84) C (r0 := r2) (σ2 := σ2) (As := [.int x0]) (rest := []) (hm _ rfl) ml_Sat_102 53 rfl rfl rfl d_Sat_takeGiven_84 rfl rfl (by dsimp only; omega) (by dsimp only; omega) hcm hsm (Nat.le_of_ble_eq_true rfl) ?_
      replace hcq : cells + σf.2.2 3001 ≤ mc + σ2.2.2 3001 := by have := hle.1; omega
      replace hsq : slots + σf.2.2 3002 ≤ ms + σ2.2.2 3002 := by have := hle.2; omega
      replace hF : d2_2 + 3 ≤ F := by omega
      replace hLo : 48 * d2_2 + 144 ≤ Lo := by omega
      refine ax_if_eq (pc := 87) C 102 d_Sat_takeGiven_87 (by decide) (fun hc => ?_) (fun hc => ?_)
      · replace h := it_t hc h
        refine ax_aload_n (pc := 102) C d_Sat_takeGiven_102 rfl 0 rfl ?_
        refine ax_iload_n (pc := 103) C d_Sat_takeGiven_103 rfl 1 rfl ?_
        replace h := it_b h
        obtain ⟨σ3, r3, d1_3, d2_3, h1, h, hd2, hd1⟩ := h
        replace hle := hG _ _ _ _ (by decide) h1
        dsimp only at hle
        replace hmn : gle σ3 σf := gm_use h (gm_bnd hG (Nat.le_of_ble_eq_true rfl) (fun _ _ => (gm_bnd hG (Nat.le_of_ble_eq_true rfl) (fun _ _ => gm_some))))
        replace hm : sC_Sat_clearAway l D kA u w tx σ2 [x0] (σ3, r3, d1_3) := ihC _ _ tC_Sat_clearAway _ _ _ h1
        refine cc_Vv (pc := 104) C (σ2 := σ3) (As := [.int x0]) (rest := []) (hm _ rfl) ml_Sat_106 53 rfl rfl rfl d_Sat_takeGiven_104 rfl rfl (by dsimp only; omega) (by dsimp only; omega) hcm hsm (Nat.le_of_ble_eq_true rfl) ?_
        replace hcq : cells + σf.2.2 3001 ≤ mc + σ3.2.2 3001 := by have := hle.1; omega
        replace hsq : slots + σf.2.2 3002 ≤ ms + σ3.2.2 3002 := by have := hle.2; omega
        replace hF : d2_3 + 3 ≤ F := by omega
        replace hLo : 48 * d2_3 + 144 ≤ Lo := by omega
        refine ax_aload_n (pc := 107) C d_Sat_takeGiven_107 rfl 0 rfl ?_
        refine cg_53_9_Sat_27 (pc := 108) C d_Sat_takeGiven_108 ?_
        refine ax_iload_n (pc := 111) C d_Sat_takeGiven_111 rfl 1 rfl ?_
        refine ax_bipush (pc := 112) C 6 d_Sat_takeGiven_112 (by decide +kernel) ?_
        refine ax_iconst (pc := 114) C 1 d_Sat_takeGiven_114 (by decide +kernel) ?_
        replace h := it_b h
        obtain ⟨σ4, r4, d1_4, d2_4, h1, h, hd2, hd1⟩ := h
        replace hle := hG _ _ _ _ (by decide) h1
        dsimp only at hle
        replace hmn : gle σ4 σf := gm_use h (gm_bnd hG (Nat.le_of_ble_eq_true rfl) (fun _ _ => gm_some))
        replace hm : sC_Sto_setFact l D kA u w tx σ3 [x0, 6, 1] (σ4, r4, d1_4) := ihC _ _ tC_Sto_setFact _ _ _ h1
        refine cc_Vv (pc := 115) C (σ2 := σ4) (As := [.int x0, .int 6, .int 1]) (rest := []) (hm _ _ _ rfl) ml_Sat_87 54 rfl rfl rfl d_Sat_takeGiven_115 rfl rfl (by dsimp only; omega) (by dsimp only; omega) hcm hsm (Nat.le_of_ble_eq_true rfl) ?_
        replace hcq : cells + σf.2.2 3001 ≤ mc + σ4.2.2 3001 := by have := hle.1; omega
        replace hsq : slots + σf.2.2 3002 ≤ ms + σ4.2.2 3002 := by have := hle.2; omega
        replace hF : d2_4 + 3 ≤ F := by omega
        replace hLo : 48 * d2_4 + 144 ≤ Lo := by omega
        refine ax_aload_n (pc := 118) C d_Sat_takeGiven_118 rfl 0 rfl ?_
        refine cg_53_9_Sat_27 (pc := 119) C d_Sat_takeGiven_119 ?_
        refine ax_iload_n (pc := 122) C d_Sat_takeGiven_122 rfl 1 rfl ?_
        replace h := it_b h
        obtain ⟨σ5, r5, d1_5, d2_5, h1, h, hd2, hd1⟩ := h
        replace hle := hG _ _ _ _ (by decide) h1
        dsimp only at hle
        replace hmn : gle σ5 σf := gm_use h gm_some
        replace hm : sC_Sto_judge l D kA u w tx σ4 [x0] (σ5, r5, d1_5) := ihC _ _ tC_Sto_judge _ _ _ h1
        refine cc_Vv (pc := 123) C (σ2 := σ5) (As := [.int x0]) (rest := []) (hm _ rfl) ml_Sat_109 54 rfl rfl rfl d_Sat_takeGiven_123 rfl rfl (by dsimp only; omega) (by dsimp only; omega) hcm hsm (Nat.le_of_ble_eq_true rfl) ?_
        replace hcq : cells + σf.2.2 3001 ≤ mc + σ5.2.2 3001 := by have := hle.1; omega
        replace hsq : slots + σf.2.2 3002 ≤ ms + σ5.2.2 3002 := by have := hle.2; omega
        replace hF : d2_5 + 3 ≤ F := by omega
        replace hLo : 48 * d2_5 + 144 ≤ Lo := by omega
        refine ax_iload_n (pc := 126) C d_Sat_takeGiven_126 rfl 1 rfl ?_
        cases h
        exact ax_iret (pc := 127) C d_Sat_takeGiven_127 ⟨rfl, w, tx, hga, rfl, rfl⟩ hcm hsm
      · replace h := it_f hc h
        refine ax_aload_n (pc := 90) C d_Sat_takeGiven_90 rfl 0 rfl ?_
        refine ax_dup (pc := 91) C d_Sat_takeGiven_91 rfl ?_
        refine cg_53_4_Sat_71 (pc := 92) C d_Sat_takeGiven_92 ?_
        refine ax_iconst (pc := 95) C 1 d_Sat_takeGiven_95 (by decide +kernel) ?_
        refine ax_iadd (pc := 96) C d_Sat_takeGiven_96 ?_
        refine cq_53_4_Sat_71 (pc := 97) C d_Sat_takeGiven_97 ?_
        replace h := it_l h
        replace hcq : cells + σf.2.2 3001 ≤ mc + (mI σ2 5304 (((σ2.1 5304) : Int32) + 1)).2.2 3001 := hcq
        replace hsq : slots + σf.2.2 3002 ≤ ms + (mI σ2 5304 (((σ2.1 5304) : Int32) + 1)).2.2 3002 := hsq
        generalize mI σ2 5304 (((σ2.1 5304) : Int32) + 1) = σ6 at h hcq hsq ⊢
        refine ax_iconst (pc := 100) C (-1) d_Sat_takeGiven_100 (by decide +kernel) ?_
        cases h
        exact ax_iret (pc := 101) C d_Sat_takeGiven_101 ⟨rfl, w, tx, hga, rfl, rfl⟩ hcm hsm
    · replace h := it_t hc h
      refine ax_aload_n (pc := 75) C d_Sat_takeGiven_75 rfl 0 rfl ?_
      refine ax_iload_n (pc := 76) C d_Sat_takeGiven_76 rfl 1 rfl ?_
      replace h := it_b h
      obtain ⟨σ7, r7, d1_7, d2_7, h1, h, hd2, hd1⟩ := h
      replace hle := hG _ _ _ _ (by decide) h1
      dsimp only at hle
      replace hmn : gle σ7 σf := gm_use h gm_some
      replace hm : sG_Sat_refute l D kA u σ1 [x0] (σ7, r7, d1_7) := ih tG_Sat_refute _ _ _ h1
      refine gc_Vv (pc := 77) C (As := [.int x0]) (rest := []) (hm _ rfl w tx) ml_Sat_99 53 rfl rfl rfl d_Sat_takeGiven_77 rfl rfl (by dsimp only; omega) (by dsimp only; omega) (by have := hmn.1; have := hle.1; dsimp only; omega) (by have := hmn.2; have := hle.2; dsimp only; omega) (Nat.le_of_ble_eq_true rfl) (fun w1 hw => ?_)
      obtain ⟨w7, tx7, hag7, htq7, hwq7⟩ := hw
      dsimp only at hwq7
      subst hwq7
      dsimp only
      replace htq7 := htq7.symm
      subst htq7
      have hga7 : ∀ i, ([48, 50, 52, 56, 58] : List Nat).elem i = false → w7 i = w0 i := fun i hi => (hag7 i (by revert hi; exact el_sub (by decide))).trans (hga i hi)
      replace hcq : (cells + (σ7.2.2 3001 - σ1.2.2 3001)) + σf.2.2 3001 ≤ mc + σ7.2.2 3001 := by have := hmn.1; have := hle.1; omega
      replace hcm : (cells + (σ7.2.2 3001 - σ1.2.2 3001)) ≤ mc := by have := hmn.1; have := hle.1; omega
      generalize cells + (σ7.2.2 3001 - σ1.2.2 3001) = cells at hcq hcm ⊢
      replace hsq : (slots + (σ7.2.2 3002 - σ1.2.2 3002)) + σf.2.2 3002 ≤ ms + σ7.2.2 3002 := by have := hmn.2; have := hle.2; omega
      replace hsm : (slots + (σ7.2.2 3002 - σ1.2.2 3002)) ≤ ms := by have := hmn.2; have := hle.2; omega
      generalize slots + (σ7.2.2 3002 - σ1.2.2 3002) = slots at hsq hsm ⊢
      replace hF : d2_7 + 3 ≤ F := by omega
      replace hLo : 48 * d2_7 + 144 ≤ Lo := by omega
      refine ax_iconst (pc := 80) C (-1) d_Sat_takeGiven_80 (by decide +kernel) ?_
      cases h
      exact ax_iret (pc := 81) C d_Sat_takeGiven_81 ⟨rfl, w7, tx, hga7, rfl, rfl⟩ hcm hsm
  · replace h := it_t hc h
    refine ax_iconst (pc := 61) C (-1) d_Sat_takeGiven_61 (by decide +kernel) ?_
    cases h
    exact ax_iret (pc := 62) C d_Sat_takeGiven_62 ⟨rfl, w, tx, hga, rfl, rfl⟩ hcm hsm
set_option maxHeartbeats 4000000 in
set_option maxRecDepth 100000 in
theorem oG_Sto_add (l : Launch) (D : va_G) (kA : Nat → ClassId) (u : Nat → Nat) (rec : mF) (hG : GM rec) (ihC : ∀ (w : Nat → Nat) (tx : Value) t σ xs res, rec t σ xs = some res → cSem l D kA u w tx t σ xs res) (ih : ∀ t σ xs res, rec t σ xs = some res → gSem l D kA u t σ xs res) (σ : mS) (xs : List Int32) (res : mR) (h : u_3 (kG_Sto_add rec σ) xs = some res) : sG_Sto_add l D kA u σ xs res := by
  intro x0 x1 x2 hxs w tx
  subst hxs
  obtain ⟨σf, rf, dd⟩ := res
  have hmn : gle σ σf := qG_Sto_add rec hG σ x0 x1 x2 _ h
  have h : (if rok σ 5101 52 = true then (lt_ (rAdd σ 5101 52 x0) (fun σ1 => if rok σ1 5101 52 = true then (lt_ (rAdd σ1 5101 52 x1) (fun σ2 => if rok σ2 5101 52 = true then (lt_ (rAdd σ2 5101 52 x2) (fun σ3 => if rok σ3 5101 52 = true then (lt_ (rAdd σ3 5101 52 (σ3.1 3905)) (fun σ4 => if rok σ4 5101 52 = true then (lt_ (rAdd σ4 5101 52 (σ4.1 3904)) (fun σ5 => if rok σ5 5101 52 = true then (lt_ (rAdd σ5 5101 52 (σ5.1 3906)) (fun σ6 => if rok σ6 5101 52 = true then (lt_ (rAdd σ6 5101 52 0) (fun σ7 => if rok σ7 5101 52 = true then (lt_ (rAdd σ7 5101 52 0) (fun σ8 => if rok σ8 5101 52 = true then (lt_ (rAdd σ8 5101 52 (σ8.1 4701)) (fun σ9 => if rok σ9 5101 52 = true then (lt_ (rAdd σ9 5101 52 (σ9.1 4901)) (fun σ10 => if rok σ10 5101 52 = true then (lt_ (rAdd σ10 5101 52 0) (fun σ11 => rec tG_Sto_add_p113 σ11 [x0, x1, x2, 0])) else none)) else none)) else none)) else none)) else none)) else none)) else none)) else none)) else none)) else none)) else none) = some (σf, rf, dd) := h
  refine ax_Mi.of (by decide +kernel) (Nat.le_of_ble_eq_true rfl) ?_
  intro p e s m args below meth c C hnm
  replace C : ax_C p s m args meth c b_Sto_add "ClauseProver$Store" 7 (some .int) D kA (va_A (cpW kA u w tx σ) s.heap.size) := C
  obtain ⟨F, hFe⟩ : ∃ z, z = dd + 3 := ⟨_, rfl⟩
  obtain ⟨Lo, hLoe⟩ : ∃ z, z = 48 * dd + 144 := ⟨_, rfl⟩
  obtain ⟨mc, hmce⟩ : ∃ z, z = σf.2.2 3001 - σ.2.2 3001 := ⟨_, rfl⟩
  obtain ⟨ms, hmse⟩ : ∃ z, z = σf.2.2 3002 - σ.2.2 3002 := ⟨_, rfl⟩
  obtain ⟨σ0, hσ0e⟩ : ∃ z, z = σ := ⟨_, rfl⟩
  obtain ⟨w0, hw0e⟩ : ∃ z, z = w := ⟨_, rfl⟩
  obtain ⟨tx0, htx0e⟩ : ∃ z, z = tx := ⟨_, rfl⟩
  suffices K : ∀ (cells slots : Nat), cells = 0 → slots = 0 → AW p l e { frames := F, cells := mc, slots := ms, locals := Lo } s m args below meth c D kA (va_A (cpW kA u w0 tx0 σ0) s.heap.size) 7 (ax_Qi below args s D kA (cpW kA u w0 tx0 σ0) mc ms (fun r w1 => r = rf ∧ ∃ (w2 : Nat → Nat) (tx2 : Value), (∀ i, ([48, 52] : List Nat).elem i = false → w2 i = w0 i) ∧ tx2 = tx0 ∧ w1 = cpW kA u w2 tx2 σf)) 0 [(0, .ref (u 54)), (1, .ref (u 39)), (2, .int x0), (3, .int x1), (4, .int x2)] [] (cpW kA u w tx σ) cells slots by
    have K := K 0 0 rfl rfl
    rw [hFe, hLoe, hmce, hmse, hσ0e, hw0e, htx0e] at K
    exact ax_ls ([(0, .ref (u 54)), (1, .ref (u 39)), (2, .int x0), (3, .int x1), (4, .int x2)]) [0, 1, 2, 3, 4] rfl K
  replace C : ax_C p s m args meth c b_Sto_add "ClauseProver$Store" 7 (some .int) D kA (va_A (cpW kA u w0 tx0 σ0) s.heap.size) := by rw [hσ0e, hw0e, htx0e]; exact C
  intro cells slots hc0 hs0
  have hcq : cells + σf.2.2 3001 ≤ mc + σ.2.2 3001 := by have := hmn.1; omega
  have hsq : slots + σf.2.2 3002 ≤ ms + σ.2.2 3002 := by have := hmn.2; omega
  have hga : ∀ i, ([48, 52] : List Nat).elem i = false → w i = w0 i := fun i _ => by rw [hw0e]
  have e9 : tx = tx0 := htx0e.symm
  subst e9
  have hF : dd + 3 ≤ F := by omega
  have hLo : 48 * dd + 144 ≤ Lo := by omega
  have hcm : cells ≤ mc := by have := hmn.1; omega
  have hsm : slots ≤ ms := by have := hmn.2; omega
  have hle : True := trivial
  have hm : True := trivial
  refine ax_aload_n (pc := 0) C d_Sto_add_0 rfl 0 rfl ?_
  refine cg_54_5_Sto_23 (pc := 1) C d_Sto_add_1 ?_
  refine ax_iload_n (pc := 4) C d_Sto_add_4 rfl 2 rfl ?_
  replace h := it_g h
  obtain ⟨hb, h⟩ := h
  replace h := it_l h
  replace hle := rAdd_le σ 5101 52 x0
  replace hmn : gle (rAdd σ 5101 52 x0) σf := gm_use h (gm_if (gm_lt (rAdd_le _ _ _ _) (gm_if (gm_lt (rAdd_le _ _ _ _) (gm_if (gm_lt (rAdd_le _ _ _ _) (gm_if (gm_lt (rAdd_le _ _ _ _) (gm_if (gm_lt (rAdd_le _ _ _ _) (gm_if (gm_lt (rAdd_le _ _ _ _) (gm_if (gm_lt (rAdd_le _ _ _ _) (gm_if (gm_lt (rAdd_le _ _ _ _) (gm_if (gm_lt (rAdd_le _ _ _ _) (gm_if (gm_lt (rAdd_le _ _ _ _) (gm_tail hG (Nat.le_of_ble_eq_true rfl))) gm_none)) gm_none)) gm_none)) gm_none)) gm_none)) gm_none)) gm_none)) gm_none)) gm_none)) gm_none)
  refine ca_51 (pc := 5) C (rest := []) ml_Sto_46 d_Sto_add_5 hb hF hLo (by have := hmn.1; have := hle.1; omega) (by have := hmn.2; have := hle.2; omega) (Nat.le_of_ble_eq_true rfl) (fun w1 hag1 => ?_)
  generalize rAdd σ 5101 52 x0 = σ1 at h hmn hle ⊢
  have hga1 : ∀ i, ([48, 52] : List Nat).elem i = false → w1 i = w0 i := fun i hi => (hag1 i (by revert hi; exact el_sub (by decide))).trans (hga i hi)
  replace hcq : (cells + (σ1.2.2 3001 - σ.2.2 3001)) + σf.2.2 3001 ≤ mc + σ1.2.2 3001 := by have := hmn.1; have := hle.1; omega
  replace hcm : (cells + (σ1.2.2 3001 - σ.2.2 3001)) ≤ mc := by have := hmn.1; have := hle.1; omega
  generalize cells + (σ1.2.2 3001 - σ.2.2 3001) = cells at hcq hcm ⊢
  replace hsq : (slots + (σ1.2.2 3002 - σ.2.2 3002)) + σf.2.2 3002 ≤ ms + σ1.2.2 3002 := by have := hmn.2; have := hle.2; omega
  replace hsm : (slots + (σ1.2.2 3002 - σ.2.2 3002)) ≤ ms := by have := hmn.2; have := hle.2; omega
  generalize slots + (σ1.2.2 3002 - σ.2.2 3002) = slots at hsq hsm ⊢
  refine ax_aload_n (pc := 8) C d_Sto_add_8 rfl 0 rfl ?_
  refine cg_54_5_Sto_23 (pc := 9) C d_Sto_add_9 ?_
  refine ax_iload_n (pc := 12) C d_Sto_add_12 rfl 3 rfl ?_
  replace h := it_g h
  obtain ⟨hb, h⟩ := h
  replace h := it_l h
  replace hle := rAdd_le σ1 5101 52 x1
  replace hmn : gle (rAdd σ1 5101 52 x1) σf := gm_use h (gm_if (gm_lt (rAdd_le _ _ _ _) (gm_if (gm_lt (rAdd_le _ _ _ _) (gm_if (gm_lt (rAdd_le _ _ _ _) (gm_if (gm_lt (rAdd_le _ _ _ _) (gm_if (gm_lt (rAdd_le _ _ _ _) (gm_if (gm_lt (rAdd_le _ _ _ _) (gm_if (gm_lt (rAdd_le _ _ _ _) (gm_if (gm_lt (rAdd_le _ _ _ _) (gm_if (gm_lt (rAdd_le _ _ _ _) (gm_tail hG (Nat.le_of_ble_eq_true rfl))) gm_none)) gm_none)) gm_none)) gm_none)) gm_none)) gm_none)) gm_none)) gm_none)) gm_none)
  refine ca_51 (pc := 13) C (rest := []) ml_Sto_46 d_Sto_add_13 hb hF hLo (by have := hmn.1; have := hle.1; omega) (by have := hmn.2; have := hle.2; omega) (Nat.le_of_ble_eq_true rfl) (fun w2 hag2 => ?_)
  generalize rAdd σ1 5101 52 x1 = σ2 at h hmn hle ⊢
  have hga2 : ∀ i, ([48, 52] : List Nat).elem i = false → w2 i = w0 i := fun i hi => (hag2 i (by revert hi; exact el_sub (by decide))).trans (hga1 i hi)
  replace hcq : (cells + (σ2.2.2 3001 - σ1.2.2 3001)) + σf.2.2 3001 ≤ mc + σ2.2.2 3001 := by have := hmn.1; have := hle.1; omega
  replace hcm : (cells + (σ2.2.2 3001 - σ1.2.2 3001)) ≤ mc := by have := hmn.1; have := hle.1; omega
  generalize cells + (σ2.2.2 3001 - σ1.2.2 3001) = cells at hcq hcm ⊢
  replace hsq : (slots + (σ2.2.2 3002 - σ1.2.2 3002)) + σf.2.2 3002 ≤ ms + σ2.2.2 3002 := by have := hmn.2; have := hle.2; omega
  replace hsm : (slots + (σ2.2.2 3002 - σ1.2.2 3002)) ≤ ms := by have := hmn.2; have := hle.2; omega
  generalize slots + (σ2.2.2 3002 - σ1.2.2 3002) = slots at hsq hsm ⊢
  refine ax_aload_n (pc := 16) C d_Sto_add_16 rfl 0 rfl ?_
  refine cg_54_5_Sto_23 (pc := 17) C d_Sto_add_17 ?_
  refine ax_iload (pc := 20) C d_Sto_add_20 4 rfl ?_
  replace h := it_g h
  obtain ⟨hb, h⟩ := h
  replace h := it_l h
  replace hle := rAdd_le σ2 5101 52 x2
  replace hmn : gle (rAdd σ2 5101 52 x2) σf := gm_use h (gm_if (gm_lt (rAdd_le _ _ _ _) (gm_if (gm_lt (rAdd_le _ _ _ _) (gm_if (gm_lt (rAdd_le _ _ _ _) (gm_if (gm_lt (rAdd_le _ _ _ _) (gm_if (gm_lt (rAdd_le _ _ _ _) (gm_if (gm_lt (rAdd_le _ _ _ _) (gm_if (gm_lt (rAdd_le _ _ _ _) (gm_if (gm_lt (rAdd_le _ _ _ _) (gm_tail hG (Nat.le_of_ble_eq_true rfl))) gm_none)) gm_none)) gm_none)) gm_none)) gm_none)) gm_none)) gm_none)) gm_none)
  refine ca_51 (pc := 22) C (rest := []) ml_Sto_46 d_Sto_add_22 hb hF hLo (by have := hmn.1; have := hle.1; omega) (by have := hmn.2; have := hle.2; omega) (Nat.le_of_ble_eq_true rfl) (fun w3 hag3 => ?_)
  generalize rAdd σ2 5101 52 x2 = σ3 at h hmn hle ⊢
  have hga3 : ∀ i, ([48, 52] : List Nat).elem i = false → w3 i = w0 i := fun i hi => (hag3 i (by revert hi; exact el_sub (by decide))).trans (hga2 i hi)
  replace hcq : (cells + (σ3.2.2 3001 - σ2.2.2 3001)) + σf.2.2 3001 ≤ mc + σ3.2.2 3001 := by have := hmn.1; have := hle.1; omega
  replace hcm : (cells + (σ3.2.2 3001 - σ2.2.2 3001)) ≤ mc := by have := hmn.1; have := hle.1; omega
  generalize cells + (σ3.2.2 3001 - σ2.2.2 3001) = cells at hcq hcm ⊢
  replace hsq : (slots + (σ3.2.2 3002 - σ2.2.2 3002)) + σf.2.2 3002 ≤ ms + σ3.2.2 3002 := by have := hmn.2; have := hle.2; omega
  replace hsm : (slots + (σ3.2.2 3002 - σ2.2.2 3002)) ≤ ms := by have := hmn.2; have := hle.2; omega
  generalize slots + (σ3.2.2 3002 - σ2.2.2 3002) = slots at hsq hsm ⊢
  refine ax_aload_n (pc := 25) C d_Sto_add_25 rfl 0 rfl ?_
  refine cg_54_5_Sto_23 (pc := 26) C d_Sto_add_26 ?_
  refine ax_aload_n (pc := 29) C d_Sto_add_29 rfl 1 rfl ?_
  refine cg_39_5_Sto_49 (pc := 30) C d_Sto_add_30 ?_
  replace h := it_g h
  obtain ⟨hb, h⟩ := h
  replace h := it_l h
  replace hle := rAdd_le σ3 5101 52 (σ3.1 3905)
  replace hmn : gle (rAdd σ3 5101 52 (σ3.1 3905)) σf := gm_use h (gm_if (gm_lt (rAdd_le _ _ _ _) (gm_if (gm_lt (rAdd_le _ _ _ _) (gm_if (gm_lt (rAdd_le _ _ _ _) (gm_if (gm_lt (rAdd_le _ _ _ _) (gm_if (gm_lt (rAdd_le _ _ _ _) (gm_if (gm_lt (rAdd_le _ _ _ _) (gm_if (gm_lt (rAdd_le _ _ _ _) (gm_tail hG (Nat.le_of_ble_eq_true rfl))) gm_none)) gm_none)) gm_none)) gm_none)) gm_none)) gm_none)) gm_none)
  refine ca_51 (pc := 33) C (rest := []) ml_Sto_46 d_Sto_add_33 hb hF hLo (by have := hmn.1; have := hle.1; omega) (by have := hmn.2; have := hle.2; omega) (Nat.le_of_ble_eq_true rfl) (fun w4 hag4 => ?_)
  generalize rAdd σ3 5101 52 (σ3.1 3905) = σ4 at h hmn hle ⊢
  have hga4 : ∀ i, ([48, 52] : List Nat).elem i = false → w4 i = w0 i := fun i hi => (hag4 i (by revert hi; exact el_sub (by decide))).trans (hga3 i hi)
  replace hcq : (cells + (σ4.2.2 3001 - σ3.2.2 3001)) + σf.2.2 3001 ≤ mc + σ4.2.2 3001 := by have := hmn.1; have := hle.1; omega
  replace hcm : (cells + (σ4.2.2 3001 - σ3.2.2 3001)) ≤ mc := by have := hmn.1; have := hle.1; omega
  generalize cells + (σ4.2.2 3001 - σ3.2.2 3001) = cells at hcq hcm ⊢
  replace hsq : (slots + (σ4.2.2 3002 - σ3.2.2 3002)) + σf.2.2 3002 ≤ ms + σ4.2.2 3002 := by have := hmn.2; have := hle.2; omega
  replace hsm : (slots + (σ4.2.2 3002 - σ3.2.2 3002)) ≤ ms := by have := hmn.2; have := hle.2; omega
  generalize slots + (σ4.2.2 3002 - σ3.2.2 3002) = slots at hsq hsm ⊢
  refine ax_aload_n (pc := 36) C d_Sto_add_36 rfl 0 rfl ?_
  refine cg_54_5_Sto_23 (pc := 37) C d_Sto_add_37 ?_
  refine ax_aload_n (pc := 40) C d_Sto_add_40 rfl 1 rfl ?_
  refine cg_39_4_Sto_54 (pc := 41) C d_Sto_add_41 ?_
  replace h := it_g h
  obtain ⟨hb, h⟩ := h
  replace h := it_l h
  replace hle := rAdd_le σ4 5101 52 (σ4.1 3904)
  replace hmn : gle (rAdd σ4 5101 52 (σ4.1 3904)) σf := gm_use h (gm_if (gm_lt (rAdd_le _ _ _ _) (gm_if (gm_lt (rAdd_le _ _ _ _) (gm_if (gm_lt (rAdd_le _ _ _ _) (gm_if (gm_lt (rAdd_le _ _ _ _) (gm_if (gm_lt (rAdd_le _ _ _ _) (gm_if (gm_lt (rAdd_le _ _ _ _) (gm_tail hG (Nat.le_of_ble_eq_true rfl))) gm_none)) gm_none)) gm_none)) gm_none)) gm_none)) gm_none)
  refine ca_51 (pc := 44) C (rest := []) ml_Sto_46 d_Sto_add_44 hb hF hLo (by have := hmn.1; have := hle.1; omega) (by have := hmn.2; have := hle.2; omega) (Nat.le_of_ble_eq_true rfl) (fun w5 hag5 => ?_)
  generalize rAdd σ4 5101 52 (σ4.1 3904) = σ5 at h hmn hle ⊢
  have hga5 : ∀ i, ([48, 52] : List Nat).elem i = false → w5 i = w0 i := fun i hi => (hag5 i (by revert hi; exact el_sub (by decide))).trans (hga4 i hi)
  replace hcq : (cells + (σ5.2.2 3001 - σ4.2.2 3001)) + σf.2.2 3001 ≤ mc + σ5.2.2 3001 := by have := hmn.1; have := hle.1; omega
  replace hcm : (cells + (σ5.2.2 3001 - σ4.2.2 3001)) ≤ mc := by have := hmn.1; have := hle.1; omega
  generalize cells + (σ5.2.2 3001 - σ4.2.2 3001) = cells at hcq hcm ⊢
  replace hsq : (slots + (σ5.2.2 3002 - σ4.2.2 3002)) + σf.2.2 3002 ≤ ms + σ5.2.2 3002 := by have := hmn.2; have := hle.2; omega
  replace hsm : (slots + (σ5.2.2 3002 - σ4.2.2 3002)) ≤ ms := by have := hmn.2; have := hle.2; omega
  generalize slots + (σ5.2.2 3002 - σ4.2.2 3002) = slots at hsq hsm ⊢
  refine ax_aload_n (pc := 47) C d_Sto_add_47 rfl 0 rfl ?_
  refine cg_54_5_Sto_23 (pc := 48) C d_Sto_add_48 ?_
  refine ax_aload_n (pc := 51) C d_Sto_add_51 rfl 1 rfl ?_
  refine cg_39_6_Sto_57 (pc := 52) C d_Sto_add_52 ?_
  replace h := it_g h
  obtain ⟨hb, h⟩ := h
  replace h := it_l h
  replace hle := rAdd_le σ5 5101 52 (σ5.1 3906)
  replace hmn : gle (rAdd σ5 5101 52 (σ5.1 3906)) σf := gm_use h (gm_if (gm_lt (rAdd_le _ _ _ _) (gm_if (gm_lt (rAdd_le _ _ _ _) (gm_if (gm_lt (rAdd_le _ _ _ _) (gm_if (gm_lt (rAdd_le _ _ _ _) (gm_if (gm_lt (rAdd_le _ _ _ _) (gm_tail hG (Nat.le_of_ble_eq_true rfl))) gm_none)) gm_none)) gm_none)) gm_none)) gm_none)
  refine ca_51 (pc := 55) C (rest := []) ml_Sto_46 d_Sto_add_55 hb hF hLo (by have := hmn.1; have := hle.1; omega) (by have := hmn.2; have := hle.2; omega) (Nat.le_of_ble_eq_true rfl) (fun w6 hag6 => ?_)
  generalize rAdd σ5 5101 52 (σ5.1 3906) = σ6 at h hmn hle ⊢
  have hga6 : ∀ i, ([48, 52] : List Nat).elem i = false → w6 i = w0 i := fun i hi => (hag6 i (by revert hi; exact el_sub (by decide))).trans (hga5 i hi)
  replace hcq : (cells + (σ6.2.2 3001 - σ5.2.2 3001)) + σf.2.2 3001 ≤ mc + σ6.2.2 3001 := by have := hmn.1; have := hle.1; omega
  replace hcm : (cells + (σ6.2.2 3001 - σ5.2.2 3001)) ≤ mc := by have := hmn.1; have := hle.1; omega
  generalize cells + (σ6.2.2 3001 - σ5.2.2 3001) = cells at hcq hcm ⊢
  replace hsq : (slots + (σ6.2.2 3002 - σ5.2.2 3002)) + σf.2.2 3002 ≤ ms + σ6.2.2 3002 := by have := hmn.2; have := hle.2; omega
  replace hsm : (slots + (σ6.2.2 3002 - σ5.2.2 3002)) ≤ ms := by have := hmn.2; have := hle.2; omega
  generalize slots + (σ6.2.2 3002 - σ5.2.2 3002) = slots at hsq hsm ⊢
  refine ax_aload_n (pc := 58) C d_Sto_add_58 rfl 0 rfl ?_
  refine cg_54_5_Sto_23 (pc := 59) C d_Sto_add_59 ?_
  refine ax_iconst (pc := 62) C 0 d_Sto_add_62 (by decide +kernel) ?_
  replace h := it_g h
  obtain ⟨hb, h⟩ := h
  replace h := it_l h
  replace hle := rAdd_le σ6 5101 52 0
  replace hmn : gle (rAdd σ6 5101 52 0) σf := gm_use h (gm_if (gm_lt (rAdd_le _ _ _ _) (gm_if (gm_lt (rAdd_le _ _ _ _) (gm_if (gm_lt (rAdd_le _ _ _ _) (gm_if (gm_lt (rAdd_le _ _ _ _) (gm_tail hG (Nat.le_of_ble_eq_true rfl))) gm_none)) gm_none)) gm_none)) gm_none)
  refine ca_51 (pc := 63) C (rest := []) ml_Sto_46 d_Sto_add_63 hb hF hLo (by have := hmn.1; have := hle.1; omega) (by have := hmn.2; have := hle.2; omega) (Nat.le_of_ble_eq_true rfl) (fun w7 hag7 => ?_)
  generalize rAdd σ6 5101 52 0 = σ7 at h hmn hle ⊢
  have hga7 : ∀ i, ([48, 52] : List Nat).elem i = false → w7 i = w0 i := fun i hi => (hag7 i (by revert hi; exact el_sub (by decide))).trans (hga6 i hi)
  replace hcq : (cells + (σ7.2.2 3001 - σ6.2.2 3001)) + σf.2.2 3001 ≤ mc + σ7.2.2 3001 := by have := hmn.1; have := hle.1; omega
  replace hcm : (cells + (σ7.2.2 3001 - σ6.2.2 3001)) ≤ mc := by have := hmn.1; have := hle.1; omega
  generalize cells + (σ7.2.2 3001 - σ6.2.2 3001) = cells at hcq hcm ⊢
  replace hsq : (slots + (σ7.2.2 3002 - σ6.2.2 3002)) + σf.2.2 3002 ≤ ms + σ7.2.2 3002 := by have := hmn.2; have := hle.2; omega
  replace hsm : (slots + (σ7.2.2 3002 - σ6.2.2 3002)) ≤ ms := by have := hmn.2; have := hle.2; omega
  generalize slots + (σ7.2.2 3002 - σ6.2.2 3002) = slots at hsq hsm ⊢
  refine ax_aload_n (pc := 66) C d_Sto_add_66 rfl 0 rfl ?_
  refine cg_54_5_Sto_23 (pc := 67) C d_Sto_add_67 ?_
  refine ax_iconst (pc := 70) C 0 d_Sto_add_70 (by decide +kernel) ?_
  replace h := it_g h
  obtain ⟨hb, h⟩ := h
  replace h := it_l h
  replace hle := rAdd_le σ7 5101 52 0
  replace hmn : gle (rAdd σ7 5101 52 0) σf := gm_use h (gm_if (gm_lt (rAdd_le _ _ _ _) (gm_if (gm_lt (rAdd_le _ _ _ _) (gm_if (gm_lt (rAdd_le _ _ _ _) (gm_tail hG (Nat.le_of_ble_eq_true rfl))) gm_none)) gm_none)) gm_none)
  refine ca_51 (pc := 71) C (rest := []) ml_Sto_46 d_Sto_add_71 hb hF hLo (by have := hmn.1; have := hle.1; omega) (by have := hmn.2; have := hle.2; omega) (Nat.le_of_ble_eq_true rfl) (fun w8 hag8 => ?_)
  generalize rAdd σ7 5101 52 0 = σ8 at h hmn hle ⊢
  have hga8 : ∀ i, ([48, 52] : List Nat).elem i = false → w8 i = w0 i := fun i hi => (hag8 i (by revert hi; exact el_sub (by decide))).trans (hga7 i hi)
  replace hcq : (cells + (σ8.2.2 3001 - σ7.2.2 3001)) + σf.2.2 3001 ≤ mc + σ8.2.2 3001 := by have := hmn.1; have := hle.1; omega
  replace hcm : (cells + (σ8.2.2 3001 - σ7.2.2 3001)) ≤ mc := by have := hmn.1; have := hle.1; omega
  generalize cells + (σ8.2.2 3001 - σ7.2.2 3001) = cells at hcq hcm ⊢
  replace hsq : (slots + (σ8.2.2 3002 - σ7.2.2 3002)) + σf.2.2 3002 ≤ ms + σ8.2.2 3002 := by have := hmn.2; have := hle.2; omega
  replace hsm : (slots + (σ8.2.2 3002 - σ7.2.2 3002)) ≤ ms := by have := hmn.2; have := hle.2; omega
  generalize slots + (σ8.2.2 3002 - σ7.2.2 3002) = slots at hsq hsm ⊢
  refine ax_aload_n (pc := 74) C d_Sto_add_74 rfl 0 rfl ?_
  refine cg_54_5_Sto_23 (pc := 75) C d_Sto_add_75 ?_
  refine ax_aload_n (pc := 78) C d_Sto_add_78 rfl 0 rfl ?_
  refine cg_54_0_Sto_14 (pc := 79) C d_Sto_add_79 ?_
  refine cg_47_1_Sto_30 (pc := 82) C d_Sto_add_82 ?_
  replace h := it_g h
  obtain ⟨hb, h⟩ := h
  replace h := it_l h
  replace hle := rAdd_le σ8 5101 52 (σ8.1 4701)
  replace hmn : gle (rAdd σ8 5101 52 (σ8.1 4701)) σf := gm_use h (gm_if (gm_lt (rAdd_le _ _ _ _) (gm_if (gm_lt (rAdd_le _ _ _ _) (gm_tail hG (Nat.le_of_ble_eq_true rfl))) gm_none)) gm_none)
  refine ca_51 (pc := 85) C (rest := []) ml_Sto_46 d_Sto_add_85 hb hF hLo (by have := hmn.1; have := hle.1; omega) (by have := hmn.2; have := hle.2; omega) (Nat.le_of_ble_eq_true rfl) (fun w9 hag9 => ?_)
  generalize rAdd σ8 5101 52 (σ8.1 4701) = σ9 at h hmn hle ⊢
  have hga9 : ∀ i, ([48, 52] : List Nat).elem i = false → w9 i = w0 i := fun i hi => (hag9 i (by revert hi; exact el_sub (by decide))).trans (hga8 i hi)
  replace hcq : (cells + (σ9.2.2 3001 - σ8.2.2 3001)) + σf.2.2 3001 ≤ mc + σ9.2.2 3001 := by have := hmn.1; have := hle.1; omega
  replace hcm : (cells + (σ9.2.2 3001 - σ8.2.2 3001)) ≤ mc := by have := hmn.1; have := hle.1; omega
  generalize cells + (σ9.2.2 3001 - σ8.2.2 3001) = cells at hcq hcm ⊢
  replace hsq : (slots + (σ9.2.2 3002 - σ8.2.2 3002)) + σf.2.2 3002 ≤ ms + σ9.2.2 3002 := by have := hmn.2; have := hle.2; omega
  replace hsm : (slots + (σ9.2.2 3002 - σ8.2.2 3002)) ≤ ms := by have := hmn.2; have := hle.2; omega
  generalize slots + (σ9.2.2 3002 - σ8.2.2 3002) = slots at hsq hsm ⊢
  refine ax_aload_n (pc := 88) C d_Sto_add_88 rfl 0 rfl ?_
  refine cg_54_5_Sto_23 (pc := 89) C d_Sto_add_89 ?_
  refine ax_aload_n (pc := 92) C d_Sto_add_92 rfl 0 rfl ?_
  refine cg_54_1_Sto_20 (pc := 93) C d_Sto_add_93 ?_
  refine cg_49_1_Sto_30 (pc := 96) C d_Sto_add_96 ?_
  replace h := it_g h
  obtain ⟨hb, h⟩ := h
  replace h := it_l h
  replace hle := rAdd_le σ9 5101 52 (σ9.1 4901)
  replace hmn : gle (rAdd σ9 5101 52 (σ9.1 4901)) σf := gm_use h (gm_if (gm_lt (rAdd_le _ _ _ _) (gm_tail hG (Nat.le_of_ble_eq_true rfl))) gm_none)
  refine ca_51 (pc := 99) C (rest := []) ml_Sto_46 d_Sto_add_99 hb hF hLo (by have := hmn.1; have := hle.1; omega) (by have := hmn.2; have := hle.2; omega) (Nat.le_of_ble_eq_true rfl) (fun w10 hag10 => ?_)
  generalize rAdd σ9 5101 52 (σ9.1 4901) = σ10 at h hmn hle ⊢
  have hga10 : ∀ i, ([48, 52] : List Nat).elem i = false → w10 i = w0 i := fun i hi => (hag10 i (by revert hi; exact el_sub (by decide))).trans (hga9 i hi)
  replace hcq : (cells + (σ10.2.2 3001 - σ9.2.2 3001)) + σf.2.2 3001 ≤ mc + σ10.2.2 3001 := by have := hmn.1; have := hle.1; omega
  replace hcm : (cells + (σ10.2.2 3001 - σ9.2.2 3001)) ≤ mc := by have := hmn.1; have := hle.1; omega
  generalize cells + (σ10.2.2 3001 - σ9.2.2 3001) = cells at hcq hcm ⊢
  replace hsq : (slots + (σ10.2.2 3002 - σ9.2.2 3002)) + σf.2.2 3002 ≤ ms + σ10.2.2 3002 := by have := hmn.2; have := hle.2; omega
  replace hsm : (slots + (σ10.2.2 3002 - σ9.2.2 3002)) ≤ ms := by have := hmn.2; have := hle.2; omega
  generalize slots + (σ10.2.2 3002 - σ9.2.2 3002) = slots at hsq hsm ⊢
  refine ax_aload_n (pc := 102) C d_Sto_add_102 rfl 0 rfl ?_
  refine cg_54_5_Sto_23 (pc := 103) C d_Sto_add_103 ?_
  refine ax_iconst (pc := 106) C 0 d_Sto_add_106 (by decide +kernel) ?_
  replace h := it_g h
  obtain ⟨hb, h⟩ := h
  replace h := it_l h
  replace hle := rAdd_le σ10 5101 52 0
  replace hmn : gle (rAdd σ10 5101 52 0) σf := gm_use h (gm_tail hG (Nat.le_of_ble_eq_true rfl))
  refine ca_51 (pc := 107) C (rest := []) ml_Sto_46 d_Sto_add_107 hb hF hLo (by have := hmn.1; have := hle.1; omega) (by have := hmn.2; have := hle.2; omega) (Nat.le_of_ble_eq_true rfl) (fun w11 hag11 => ?_)
  generalize rAdd σ10 5101 52 0 = σ11 at h hmn hle ⊢
  have hga11 : ∀ i, ([48, 52] : List Nat).elem i = false → w11 i = w0 i := fun i hi => (hag11 i (by revert hi; exact el_sub (by decide))).trans (hga10 i hi)
  replace hcq : (cells + (σ11.2.2 3001 - σ10.2.2 3001)) + σf.2.2 3001 ≤ mc + σ11.2.2 3001 := by have := hmn.1; have := hle.1; omega
  replace hcm : (cells + (σ11.2.2 3001 - σ10.2.2 3001)) ≤ mc := by have := hmn.1; have := hle.1; omega
  generalize cells + (σ11.2.2 3001 - σ10.2.2 3001) = cells at hcq hcm ⊢
  replace hsq : (slots + (σ11.2.2 3002 - σ10.2.2 3002)) + σf.2.2 3002 ≤ ms + σ11.2.2 3002 := by have := hmn.2; have := hle.2; omega
  replace hsm : (slots + (σ11.2.2 3002 - σ10.2.2 3002)) ≤ ms := by have := hmn.2; have := hle.2; omega
  generalize slots + (σ11.2.2 3002 - σ10.2.2 3002) = slots at hsq hsm ⊢
  refine ax_iconst (pc := 110) C 0 d_Sto_add_110 (by decide +kernel) ?_
  refine ax_istore (pc := 111) C d_Sto_add_111 (Nat.le_of_ble_eq_true rfl) ([(5, .int 0), (0, .ref (u 54)), (1, .ref (u 39)), (2, .int x0), (3, .int x1), (4, .int x2)]) rfl ?_
  refine ax_ls ([(0, .ref (u 54)), (1, .ref (u 39)), (2, .int x0), (3, .int x1), (4, .int x2), (5, .int 0)]) [1, 2, 3, 4, 5, 0] rfl ?_
  replace hm : sG_Sto_add_p113 l D kA u σ11 [x0, x1, x2, 0] (σf, rf, _) := ih tG_Sto_add_p113 _ _ _ h
  exact hm _ _ _ _ rfl w11 tx p e s m args below meth c F Lo mc ms cells slots σ0 w0 tx hF hLo hcq hsq hga11 C
set_option maxHeartbeats 4000000 in
set_option maxRecDepth 100000 in
theorem oG_Sto_add_p113 (l : Launch) (D : va_G) (kA : Nat → ClassId) (u : Nat → Nat) (rec : mF) (hG : GM rec) (ihC : ∀ (w : Nat → Nat) (tx : Value) t σ xs res, rec t σ xs = some res → cSem l D kA u w tx t σ xs res) (ih : ∀ t σ xs res, rec t σ xs = some res → gSem l D kA u t σ xs res) (σ : mS) (xs : List Int32) (res : mR) (h : u_4 (kG_Sto_add_p113 rec σ) xs = some res) : sG_Sto_add_p113 l D kA u σ xs res := by
  intro x0 x1 x2 x3 hxs w tx
  subst hxs
  obtain ⟨σf, rf, dd⟩ := res
  have hmn : gle σ σf := qG_Sto_add_p113 rec hG σ x0 x1 x2 x3 _ h
  have h : (if (σ.1 3905) ≤ x3 then (lt_ (mI σ 5402 (((σ.1 5402) : Int32) + 1)) (fun σ1 => some (σ1, (σ.1 5402), 0))) else (if bin x3 8 = true then (if (σ.2.1 43 (Int32.toNatClampNeg x3)) = 0 then (rec tG_Sto_add_p141 σ [x0, x1, x2, x3, 0]) else (rec tG_Sto_add_p141 σ [x0, x1, x2, x3, 1])) else none)) = some (σf, rf, dd) := h
  intro p e s m args below meth c F Lo mc ms cells slots σ0 w0 tx0 hF hLo hcq hsq hga C
  dsimp only at hF hLo hcq hsq ⊢
  have hcm : cells ≤ mc := by have := hmn.1; omega
  have hsm : slots ≤ ms := by have := hmn.2; omega
  have hle : True := trivial
  have hm : True := trivial
  refine ax_iload (pc := 113) C d_Sto_add_113 5 rfl ?_
  refine ax_aload_n (pc := 115) C d_Sto_add_115 rfl 1 rfl ?_
  refine cg_39_5_Sto_49 (pc := 116) C d_Sto_add_116 ?_
  refine ax_icmp_ge (pc := 119) C 255 d_Sto_add_119 (by decide) (fun hc => ?_) (fun hc => ?_)
  · replace h := it_t hc h
    refine ax_aload_n (pc := 255) C d_Sto_add_255 rfl 0 rfl ?_
    refine ax_dup (pc := 256) C d_Sto_add_256 rfl ?_
    refine cg_54_2_Sto_34 (pc := 257) C d_Sto_add_257 ?_
    refine ax_dup_x1 (pc := 260) C d_Sto_add_260 rfl rfl ?_
    refine ax_iconst (pc := 261) C 1 d_Sto_add_261 (by decide +kernel) ?_
    refine ax_iadd (pc := 262) C d_Sto_add_262 ?_
    refine cq_54_2_Sto_34 (pc := 263) C d_Sto_add_263 ?_
    replace h := it_l h
    replace hcq : cells + σf.2.2 3001 ≤ mc + (mI σ 5402 (((σ.1 5402) : Int32) + 1)).2.2 3001 := hcq
    replace hsq : slots + σf.2.2 3002 ≤ ms + (mI σ 5402 (((σ.1 5402) : Int32) + 1)).2.2 3002 := hsq
    generalize mI σ 5402 (((σ.1 5402) : Int32) + 1) = σ1 at h hcq hsq ⊢
    cases h
    exact ax_iret (pc := 266) C d_Sto_add_266 ⟨rfl, w, tx, hga, rfl, rfl⟩ hcm hsm
  · replace h := it_f hc h
    refine ax_aload_n (pc := 122) C d_Sto_add_122 rfl 0 rfl ?_
    refine cg_54_0_Sto_14 (pc := 123) C d_Sto_add_123 ?_
    refine ax_aload_n (pc := 126) C d_Sto_add_126 rfl 1 rfl ?_
    refine cg_39_3_Sto_60 (pc := 127) C d_Sto_add_127 ?_
    refine ax_iload (pc := 130) C d_Sto_add_130 5 rfl ?_
    replace h := it_g h
    obtain ⟨hb, h⟩ := h
    refine cl_43 (pc := 132) C d_Sto_add_132 (bin_in hb) ?_
    refine ax_if_eq (pc := 133) C 140 d_Sto_add_133 (by decide) (fun hc => ?_) (fun hc => ?_)
    · replace h := it_t hc h
      refine ax_iconst (pc := 140) C 0 d_Sto_add_140 (by decide +kernel) ?_
      refine ax_ls ([(0, .ref (u 54)), (1, .ref (u 39)), (2, .int x0), (3, .int x1), (4, .int x2), (5, .int x3)]) [0, 1, 2, 3, 4, 5] rfl ?_
      replace hm : sG_Sto_add_p141 l D kA u σ [x0, x1, x2, x3, 0] (σf, rf, _) := ih tG_Sto_add_p141 _ _ _ h
      exact hm _ _ _ _ _ rfl w tx p e s m args below meth c F Lo mc ms cells slots σ0 w0 tx0 hF hLo hcq hsq hga C
    · replace h := it_f hc h
      refine ax_iconst (pc := 136) C 1 d_Sto_add_136 (by decide +kernel) ?_
      refine ax_goto (pc := 137) C 141 d_Sto_add_137 (by decide) ?_
      refine ax_ls ([(0, .ref (u 54)), (1, .ref (u 39)), (2, .int x0), (3, .int x1), (4, .int x2), (5, .int x3)]) [0, 1, 2, 3, 4, 5] rfl ?_
      replace hm : sG_Sto_add_p141 l D kA u σ [x0, x1, x2, x3, 1] (σf, rf, _) := ih tG_Sto_add_p141 _ _ _ h
      exact hm _ _ _ _ _ rfl w tx p e s m args below meth c F Lo mc ms cells slots σ0 w0 tx0 hF hLo hcq hsq hga C
set_option maxHeartbeats 4000000 in
set_option maxRecDepth 100000 in
theorem oG_Sto_add_p141 (l : Launch) (D : va_G) (kA : Nat → ClassId) (u : Nat → Nat) (rec : mF) (hG : GM rec) (ihC : ∀ (w : Nat → Nat) (tx : Value) t σ xs res, rec t σ xs = some res → cSem l D kA u w tx t σ xs res) (ih : ∀ t σ xs res, rec t σ xs = some res → gSem l D kA u t σ xs res) (σ : mS) (xs : List Int32) (res : mR) (h : u_5 (kG_Sto_add_p141 rec σ) xs = some res) : sG_Sto_add_p141 l D kA u σ xs res := by
  intro x0 x1 x2 x3 x4 hxs w tx
  subst hxs
  obtain ⟨σf, rf, dd⟩ := res
  have hmn : gle σ σf := qG_Sto_add_p141 rec hG σ x0 x1 x2 x3 x4 _ h
  have h : (if rok σ 4701 48 = true then (lt_ (rAdd σ 4701 48 x4) (fun σ1 => if rok σ1 4701 48 = true then (lt_ (rAdd σ1 4701 48 0) (fun σ2 => if rok σ2 4701 48 = true then (lt_ (rAdd σ2 4701 48 0) (fun σ3 => if bin x3 8 = true then (if bin x3 9 = true then (if rok σ3 4701 48 = true then (lt_ (rAdd σ3 4701 48 (((σ3.2.1 42 (Int32.toNatClampNeg x3)) : Int32) - (σ3.2.1 41 (Int32.toNatClampNeg x3)))) (fun σ4 => if bin ((x3 : Int32) + 1) 9 = true then (if bin x3 8 = true then (if rok σ4 4701 48 = true then (lt_ (rAdd σ4 4701 48 (((σ4.2.1 41 (Int32.toNatClampNeg ((x3 : Int32) + 1))) : Int32) - (σ4.2.1 42 (Int32.toNatClampNeg x3)))) (fun σ5 => if bin x3 9 = true then (rec tG_Sto_add_p215 σ5 [x0, x1, x2, x3, (σ5.2.1 41 (Int32.toNatClampNeg x3))]) else none)) else none) else none) else none)) else none) else none) else none)) else none)) else none)) else none) = some (σf, rf, dd) := h
  intro p e s m args below meth c F Lo mc ms cells slots σ0 w0 tx0 hF hLo hcq hsq hga C
  dsimp only at hF hLo hcq hsq ⊢
  have hcm : cells ≤ mc := by have := hmn.1; omega
  have hsm : slots ≤ ms := by have := hmn.2; omega
  have hle : True := trivial
  have hm : True := trivial
  replace h := it_g h
  obtain ⟨hb, h⟩ := h
  replace h := it_l h
  replace hle := rAdd_le σ 4701 48 x4
  replace hmn : gle (rAdd σ 4701 48 x4) σf := gm_use h (gm_if (gm_lt (rAdd_le _ _ _ _) (gm_if (gm_lt (rAdd_le _ _ _ _) (gm_if (gm_if (gm_if (gm_lt (rAdd_le _ _ _ _) (gm_if (gm_if (gm_if (gm_lt (rAdd_le _ _ _ _) (gm_if (gm_tail hG (Nat.le_of_ble_eq_true rfl)) gm_none)) gm_none) gm_none) gm_none)) gm_none) gm_none) gm_none)) gm_none)) gm_none)
  refine ca_47 (pc := 141) C (rest := []) ml_Sto_46 d_Sto_add_141 hb hF hLo (by have := hmn.1; have := hle.1; omega) (by have := hmn.2; have := hle.2; omega) (Nat.le_of_ble_eq_true rfl) (fun w1 hag1 => ?_)
  generalize rAdd σ 4701 48 x4 = σ1 at h hmn hle ⊢
  have hga1 : ∀ i, ([48, 52] : List Nat).elem i = false → w1 i = w0 i := fun i hi => (hag1 i (by revert hi; exact el_sub (by decide))).trans (hga i hi)
  replace hcq : (cells + (σ1.2.2 3001 - σ.2.2 3001)) + σf.2.2 3001 ≤ mc + σ1.2.2 3001 := by have := hmn.1; have := hle.1; omega
  replace hcm : (cells + (σ1.2.2 3001 - σ.2.2 3001)) ≤ mc := by have := hmn.1; have := hle.1; omega
  generalize cells + (σ1.2.2 3001 - σ.2.2 3001) = cells at hcq hcm ⊢
  replace hsq : (slots + (σ1.2.2 3002 - σ.2.2 3002)) + σf.2.2 3002 ≤ ms + σ1.2.2 3002 := by have := hmn.2; have := hle.2; omega
  replace hsm : (slots + (σ1.2.2 3002 - σ.2.2 3002)) ≤ ms := by have := hmn.2; have := hle.2; omega
  generalize slots + (σ1.2.2 3002 - σ.2.2 3002) = slots at hsq hsm ⊢
  refine ax_aload_n (pc := 144) C d_Sto_add_144 rfl 0 rfl ?_
  refine cg_54_0_Sto_14 (pc := 145) C d_Sto_add_145 ?_
  refine ax_iconst (pc := 148) C 0 d_Sto_add_148 (by decide +kernel) ?_
  replace h := it_g h
  obtain ⟨hb, h⟩ := h
  replace h := it_l h
  replace hle := rAdd_le σ1 4701 48 0
  replace hmn : gle (rAdd σ1 4701 48 0) σf := gm_use h (gm_if (gm_lt (rAdd_le _ _ _ _) (gm_if (gm_if (gm_if (gm_lt (rAdd_le _ _ _ _) (gm_if (gm_if (gm_if (gm_lt (rAdd_le _ _ _ _) (gm_if (gm_tail hG (Nat.le_of_ble_eq_true rfl)) gm_none)) gm_none) gm_none) gm_none)) gm_none) gm_none) gm_none)) gm_none)
  refine ca_47 (pc := 149) C (rest := []) ml_Sto_46 d_Sto_add_149 hb hF hLo (by have := hmn.1; have := hle.1; omega) (by have := hmn.2; have := hle.2; omega) (Nat.le_of_ble_eq_true rfl) (fun w2 hag2 => ?_)
  generalize rAdd σ1 4701 48 0 = σ2 at h hmn hle ⊢
  have hga2 : ∀ i, ([48, 52] : List Nat).elem i = false → w2 i = w0 i := fun i hi => (hag2 i (by revert hi; exact el_sub (by decide))).trans (hga1 i hi)
  replace hcq : (cells + (σ2.2.2 3001 - σ1.2.2 3001)) + σf.2.2 3001 ≤ mc + σ2.2.2 3001 := by have := hmn.1; have := hle.1; omega
  replace hcm : (cells + (σ2.2.2 3001 - σ1.2.2 3001)) ≤ mc := by have := hmn.1; have := hle.1; omega
  generalize cells + (σ2.2.2 3001 - σ1.2.2 3001) = cells at hcq hcm ⊢
  replace hsq : (slots + (σ2.2.2 3002 - σ1.2.2 3002)) + σf.2.2 3002 ≤ ms + σ2.2.2 3002 := by have := hmn.2; have := hle.2; omega
  replace hsm : (slots + (σ2.2.2 3002 - σ1.2.2 3002)) ≤ ms := by have := hmn.2; have := hle.2; omega
  generalize slots + (σ2.2.2 3002 - σ1.2.2 3002) = slots at hsq hsm ⊢
  refine ax_aload_n (pc := 152) C d_Sto_add_152 rfl 0 rfl ?_
  refine cg_54_0_Sto_14 (pc := 153) C d_Sto_add_153 ?_
  refine ax_iconst (pc := 156) C 0 d_Sto_add_156 (by decide +kernel) ?_
  replace h := it_g h
  obtain ⟨hb, h⟩ := h
  replace h := it_l h
  replace hle := rAdd_le σ2 4701 48 0
  replace hmn : gle (rAdd σ2 4701 48 0) σf := gm_use h (gm_if (gm_if (gm_if (gm_lt (rAdd_le _ _ _ _) (gm_if (gm_if (gm_if (gm_lt (rAdd_le _ _ _ _) (gm_if (gm_tail hG (Nat.le_of_ble_eq_true rfl)) gm_none)) gm_none) gm_none) gm_none)) gm_none) gm_none) gm_none)
  refine ca_47 (pc := 157) C (rest := []) ml_Sto_46 d_Sto_add_157 hb hF hLo (by have := hmn.1; have := hle.1; omega) (by have := hmn.2; have := hle.2; omega) (Nat.le_of_ble_eq_true rfl) (fun w3 hag3 => ?_)
  generalize rAdd σ2 4701 48 0 = σ3 at h hmn hle ⊢
  have hga3 : ∀ i, ([48, 52] : List Nat).elem i = false → w3 i = w0 i := fun i hi => (hag3 i (by revert hi; exact el_sub (by decide))).trans (hga2 i hi)
  replace hcq : (cells + (σ3.2.2 3001 - σ2.2.2 3001)) + σf.2.2 3001 ≤ mc + σ3.2.2 3001 := by have := hmn.1; have := hle.1; omega
  replace hcm : (cells + (σ3.2.2 3001 - σ2.2.2 3001)) ≤ mc := by have := hmn.1; have := hle.1; omega
  generalize cells + (σ3.2.2 3001 - σ2.2.2 3001) = cells at hcq hcm ⊢
  replace hsq : (slots + (σ3.2.2 3002 - σ2.2.2 3002)) + σf.2.2 3002 ≤ ms + σ3.2.2 3002 := by have := hmn.2; have := hle.2; omega
  replace hsm : (slots + (σ3.2.2 3002 - σ2.2.2 3002)) ≤ ms := by have := hmn.2; have := hle.2; omega
  generalize slots + (σ3.2.2 3002 - σ2.2.2 3002) = slots at hsq hsm ⊢
  refine ax_aload_n (pc := 160) C d_Sto_add_160 rfl 0 rfl ?_
  refine cg_54_0_Sto_14 (pc := 161) C d_Sto_add_161 ?_
  refine ax_aload_n (pc := 164) C d_Sto_add_164 rfl 1 rfl ?_
  refine cg_39_2_Sto_64 (pc := 165) C d_Sto_add_165 ?_
  refine ax_iload (pc := 168) C d_Sto_add_168 5 rfl ?_
  replace h := it_g h
  obtain ⟨hb, h⟩ := h
  refine cl_42 (pc := 170) C d_Sto_add_170 (bin_in hb) ?_
  refine ax_aload_n (pc := 171) C d_Sto_add_171 rfl 1 rfl ?_
  refine cg_39_1_Sto_67 (pc := 172) C d_Sto_add_172 ?_
  refine ax_iload (pc := 175) C d_Sto_add_175 5 rfl ?_
  replace h := it_g h
  obtain ⟨hb, h⟩ := h
  refine cl_41 (pc := 177) C d_Sto_add_177 (bin_in hb) ?_
  refine ax_isub (pc := 178) C d_Sto_add_178 ?_
  replace h := it_g h
  obtain ⟨hb, h⟩ := h
  replace h := it_l h
  replace hle := rAdd_le σ3 4701 48 (((σ3.2.1 42 (Int32.toNatClampNeg x3)) : Int32) - (σ3.2.1 41 (Int32.toNatClampNeg x3)))
  replace hmn : gle (rAdd σ3 4701 48 (((σ3.2.1 42 (Int32.toNatClampNeg x3)) : Int32) - (σ3.2.1 41 (Int32.toNatClampNeg x3)))) σf := gm_use h (gm_if (gm_if (gm_if (gm_lt (rAdd_le _ _ _ _) (gm_if (gm_tail hG (Nat.le_of_ble_eq_true rfl)) gm_none)) gm_none) gm_none) gm_none)
  refine ca_47 (pc := 179) C (rest := []) ml_Sto_46 d_Sto_add_179 hb hF hLo (by have := hmn.1; have := hle.1; omega) (by have := hmn.2; have := hle.2; omega) (Nat.le_of_ble_eq_true rfl) (fun w4 hag4 => ?_)
  generalize rAdd σ3 4701 48 (((σ3.2.1 42 (Int32.toNatClampNeg x3)) : Int32) - (σ3.2.1 41 (Int32.toNatClampNeg x3))) = σ4 at h hmn hle ⊢
  have hga4 : ∀ i, ([48, 52] : List Nat).elem i = false → w4 i = w0 i := fun i hi => (hag4 i (by revert hi; exact el_sub (by decide))).trans (hga3 i hi)
  replace hcq : (cells + (σ4.2.2 3001 - σ3.2.2 3001)) + σf.2.2 3001 ≤ mc + σ4.2.2 3001 := by have := hmn.1; have := hle.1; omega
  replace hcm : (cells + (σ4.2.2 3001 - σ3.2.2 3001)) ≤ mc := by have := hmn.1; have := hle.1; omega
  generalize cells + (σ4.2.2 3001 - σ3.2.2 3001) = cells at hcq hcm ⊢
  replace hsq : (slots + (σ4.2.2 3002 - σ3.2.2 3002)) + σf.2.2 3002 ≤ ms + σ4.2.2 3002 := by have := hmn.2; have := hle.2; omega
  replace hsm : (slots + (σ4.2.2 3002 - σ3.2.2 3002)) ≤ ms := by have := hmn.2; have := hle.2; omega
  generalize slots + (σ4.2.2 3002 - σ3.2.2 3002) = slots at hsq hsm ⊢
  refine ax_aload_n (pc := 182) C d_Sto_add_182 rfl 0 rfl ?_
  refine cg_54_0_Sto_14 (pc := 183) C d_Sto_add_183 ?_
  refine ax_aload_n (pc := 186) C d_Sto_add_186 rfl 1 rfl ?_
  refine cg_39_1_Sto_67 (pc := 187) C d_Sto_add_187 ?_
  refine ax_iload (pc := 190) C d_Sto_add_190 5 rfl ?_
  refine ax_iconst (pc := 192) C 1 d_Sto_add_192 (by decide +kernel) ?_
  refine ax_iadd (pc := 193) C d_Sto_add_193 ?_
  replace h := it_g h
  obtain ⟨hb, h⟩ := h
  refine cl_41 (pc := 194) C d_Sto_add_194 (bin_in hb) ?_
  refine ax_aload_n (pc := 195) C d_Sto_add_195 rfl 1 rfl ?_
  refine cg_39_2_Sto_64 (pc := 196) C d_Sto_add_196 ?_
  refine ax_iload (pc := 199) C d_Sto_add_199 5 rfl ?_
  replace h := it_g h
  obtain ⟨hb, h⟩ := h
  refine cl_42 (pc := 201) C d_Sto_add_201 (bin_in hb) ?_
  refine ax_isub (pc := 202) C d_Sto_add_202 ?_
  replace h := it_g h
  obtain ⟨hb, h⟩ := h
  replace h := it_l h
  replace hle := rAdd_le σ4 4701 48 (((σ4.2.1 41 (Int32.toNatClampNeg ((x3 : Int32) + 1))) : Int32) - (σ4.2.1 42 (Int32.toNatClampNeg x3)))
  replace hmn : gle (rAdd σ4 4701 48 (((σ4.2.1 41 (Int32.toNatClampNeg ((x3 : Int32) + 1))) : Int32) - (σ4.2.1 42 (Int32.toNatClampNeg x3)))) σf := gm_use h (gm_if (gm_tail hG (Nat.le_of_ble_eq_true rfl)) gm_none)
  refine ca_47 (pc := 203) C (rest := []) ml_Sto_46 d_Sto_add_203 hb hF hLo (by have := hmn.1; have := hle.1; omega) (by have := hmn.2; have := hle.2; omega) (Nat.le_of_ble_eq_true rfl) (fun w5 hag5 => ?_)
  generalize rAdd σ4 4701 48 (((σ4.2.1 41 (Int32.toNatClampNeg ((x3 : Int32) + 1))) : Int32) - (σ4.2.1 42 (Int32.toNatClampNeg x3))) = σ5 at h hmn hle ⊢
  have hga5 : ∀ i, ([48, 52] : List Nat).elem i = false → w5 i = w0 i := fun i hi => (hag5 i (by revert hi; exact el_sub (by decide))).trans (hga4 i hi)
  replace hcq : (cells + (σ5.2.2 3001 - σ4.2.2 3001)) + σf.2.2 3001 ≤ mc + σ5.2.2 3001 := by have := hmn.1; have := hle.1; omega
  replace hcm : (cells + (σ5.2.2 3001 - σ4.2.2 3001)) ≤ mc := by have := hmn.1; have := hle.1; omega
  generalize cells + (σ5.2.2 3001 - σ4.2.2 3001) = cells at hcq hcm ⊢
  replace hsq : (slots + (σ5.2.2 3002 - σ4.2.2 3002)) + σf.2.2 3002 ≤ ms + σ5.2.2 3002 := by have := hmn.2; have := hle.2; omega
  replace hsm : (slots + (σ5.2.2 3002 - σ4.2.2 3002)) ≤ ms := by have := hmn.2; have := hle.2; omega
  generalize slots + (σ5.2.2 3002 - σ4.2.2 3002) = slots at hsq hsm ⊢
  refine ax_aload_n (pc := 206) C d_Sto_add_206 rfl 1 rfl ?_
  refine cg_39_1_Sto_67 (pc := 207) C d_Sto_add_207 ?_
  refine ax_iload (pc := 210) C d_Sto_add_210 5 rfl ?_
  replace h := it_g h
  obtain ⟨hb, h⟩ := h
  refine cl_41 (pc := 212) C d_Sto_add_212 (bin_in hb) ?_
  refine ax_istore (pc := 213) C d_Sto_add_213 (Nat.le_of_ble_eq_true rfl) ([(6, .int (σ5.2.1 41 (Int32.toNatClampNeg x3))), (0, .ref (u 54)), (1, .ref (u 39)), (2, .int x0), (3, .int x1), (4, .int x2), (5, .int x3)]) rfl ?_
  refine ax_ls ([(0, .ref (u 54)), (1, .ref (u 39)), (2, .int x0), (3, .int x1), (4, .int x2), (5, .int x3), (6, .int (σ5.2.1 41 (Int32.toNatClampNeg x3)))]) [1, 2, 3, 4, 5, 6, 0] rfl ?_
  replace hm : sG_Sto_add_p215 l D kA u σ5 [x0, x1, x2, x3, (σ5.2.1 41 (Int32.toNatClampNeg x3))] (σf, rf, _) := ih tG_Sto_add_p215 _ _ _ h
  exact hm _ _ _ _ _ rfl w5 tx p e s m args below meth c F Lo mc ms cells slots σ0 w0 tx0 hF hLo hcq hsq hga5 C
set_option maxHeartbeats 4000000 in
set_option maxRecDepth 100000 in
theorem oG_Sto_add_p215 (l : Launch) (D : va_G) (kA : Nat → ClassId) (u : Nat → Nat) (rec : mF) (hG : GM rec) (ihC : ∀ (w : Nat → Nat) (tx : Value) t σ xs res, rec t σ xs = some res → cSem l D kA u w tx t σ xs res) (ih : ∀ t σ xs res, rec t σ xs = some res → gSem l D kA u t σ xs res) (σ : mS) (xs : List Int32) (res : mR) (h : u_5 (kG_Sto_add_p215 rec σ) xs = some res) : sG_Sto_add_p215 l D kA u σ xs res := by
  intro x0 x1 x2 x3 x4 hxs w tx
  subst hxs
  obtain ⟨σf, rf, dd⟩ := res
  have hmn : gle σ σf := qG_Sto_add_p215 rec hG σ x0 x1 x2 x3 x4 _ h
  have h : (if bin ((x3 : Int32) + 1) 9 = true then (if (σ.2.1 41 (Int32.toNatClampNeg ((x3 : Int32) + 1))) ≤ x4 then (rec tG_Sto_add_p113 σ [x0, x1, x2, (x3 + 1)]) else (if bin x4 100 = true then (if rok σ 4701 48 = true then (lt_ (rAdd σ 4701 48 (σ.2.1 40 (Int32.toNatClampNeg x4))) (fun σ1 => rec tG_Sto_add_p215 σ1 [x0, x1, x2, x3, (x4 + 1)])) else none) else none)) else none) = some (σf, rf, dd) := h
  intro p e s m args below meth c F Lo mc ms cells slots σ0 w0 tx0 hF hLo hcq hsq hga C
  dsimp only at hF hLo hcq hsq ⊢
  have hcm : cells ≤ mc := by have := hmn.1; omega
  have hsm : slots ≤ ms := by have := hmn.2; omega
  have hle : True := trivial
  have hm : True := trivial
  refine ax_iload (pc := 215) C d_Sto_add_215 6 rfl ?_
  refine ax_aload_n (pc := 217) C d_Sto_add_217 rfl 1 rfl ?_
  refine cg_39_1_Sto_67 (pc := 218) C d_Sto_add_218 ?_
  refine ax_iload (pc := 221) C d_Sto_add_221 5 rfl ?_
  refine ax_iconst (pc := 223) C 1 d_Sto_add_223 (by decide +kernel) ?_
  refine ax_iadd (pc := 224) C d_Sto_add_224 ?_
  replace h := it_g h
  obtain ⟨hb, h⟩ := h
  refine cl_41 (pc := 225) C d_Sto_add_225 (bin_in hb) ?_
  refine ax_icmp_ge (pc := 226) C 249 d_Sto_add_226 (by decide) (fun hc => ?_) (fun hc => ?_)
  · replace h := it_t hc h
    refine ax_iinc (pc := 249) C (x3 + 1) d_Sto_add_249 5 rfl rfl (Nat.le_of_ble_eq_true rfl) ([(5, .int (x3 + 1)), (0, .ref (u 54)), (1, .ref (u 39)), (2, .int x0), (3, .int x1), (4, .int x2), (6, .int x4)]) rfl ?_
    refine ax_goto (pc := 252) C 113 d_Sto_add_252 (by decide) ?_
    refine ax_ls ([(0, .ref (u 54)), (1, .ref (u 39)), (2, .int x0), (3, .int x1), (4, .int x2), (5, .int (x3 + 1))]) [1, 2, 3, 4, 5, 0] rfl ?_
    replace hm : sG_Sto_add_p113 l D kA u σ [x0, x1, x2, (x3 + 1)] (σf, rf, _) := ih tG_Sto_add_p113 _ _ _ h
    exact hm _ _ _ _ rfl w tx p e s m args below meth c F Lo mc ms cells slots σ0 w0 tx0 hF hLo hcq hsq hga C
  · replace h := it_f hc h
    refine ax_aload_n (pc := 229) C d_Sto_add_229 rfl 0 rfl ?_
    refine cg_54_0_Sto_14 (pc := 230) C d_Sto_add_230 ?_
    refine ax_aload_n (pc := 233) C d_Sto_add_233 rfl 1 rfl ?_
    refine cg_39_0_Sto_70 (pc := 234) C d_Sto_add_234 ?_
    refine ax_iload (pc := 237) C d_Sto_add_237 6 rfl ?_
    replace h := it_g h
    obtain ⟨hb, h⟩ := h
    refine cl_40 (pc := 239) C d_Sto_add_239 (bin_in hb) ?_
    replace h := it_g h
    obtain ⟨hb, h⟩ := h
    replace h := it_l h
    replace hle := rAdd_le σ 4701 48 (σ.2.1 40 (Int32.toNatClampNeg x4))
    replace hmn : gle (rAdd σ 4701 48 (σ.2.1 40 (Int32.toNatClampNeg x4))) σf := gm_use h (gm_tail hG (Nat.le_of_ble_eq_true rfl))
    refine ca_47 (pc := 240) C (rest := []) ml_Sto_46 d_Sto_add_240 hb hF hLo (by have := hmn.1; have := hle.1; omega) (by have := hmn.2; have := hle.2; omega) (Nat.le_of_ble_eq_true rfl) (fun w1 hag1 => ?_)
    generalize rAdd σ 4701 48 (σ.2.1 40 (Int32.toNatClampNeg x4)) = σ1 at h hmn hle ⊢
    have hga1 : ∀ i, ([48, 52] : List Nat).elem i = false → w1 i = w0 i := fun i hi => (hag1 i (by revert hi; exact el_sub (by decide))).trans (hga i hi)
    replace hcq : (cells + (σ1.2.2 3001 - σ.2.2 3001)) + σf.2.2 3001 ≤ mc + σ1.2.2 3001 := by have := hmn.1; have := hle.1; omega
    replace hcm : (cells + (σ1.2.2 3001 - σ.2.2 3001)) ≤ mc := by have := hmn.1; have := hle.1; omega
    generalize cells + (σ1.2.2 3001 - σ.2.2 3001) = cells at hcq hcm ⊢
    replace hsq : (slots + (σ1.2.2 3002 - σ.2.2 3002)) + σf.2.2 3002 ≤ ms + σ1.2.2 3002 := by have := hmn.2; have := hle.2; omega
    replace hsm : (slots + (σ1.2.2 3002 - σ.2.2 3002)) ≤ ms := by have := hmn.2; have := hle.2; omega
    generalize slots + (σ1.2.2 3002 - σ.2.2 3002) = slots at hsq hsm ⊢
    refine ax_iinc (pc := 243) C (x4 + 1) d_Sto_add_243 6 rfl rfl (Nat.le_of_ble_eq_true rfl) ([(6, .int (x4 + 1)), (0, .ref (u 54)), (1, .ref (u 39)), (2, .int x0), (3, .int x1), (4, .int x2), (5, .int x3)]) rfl ?_
    refine ax_goto (pc := 246) C 215 d_Sto_add_246 (by decide) ?_
    refine ax_ls ([(0, .ref (u 54)), (1, .ref (u 39)), (2, .int x0), (3, .int x1), (4, .int x2), (5, .int x3), (6, .int (x4 + 1))]) [1, 2, 3, 4, 5, 6, 0] rfl ?_
    replace hm : sG_Sto_add_p215 l D kA u σ1 [x0, x1, x2, x3, (x4 + 1)] (σf, rf, _) := ih tG_Sto_add_p215 _ _ _ h
    exact hm _ _ _ _ _ rfl w1 tx p e s m args below meth c F Lo mc ms cells slots σ0 w0 tx0 hF hLo hcq hsq hga1 C
set_option maxHeartbeats 4000000 in
set_option maxRecDepth 100000 in
theorem oG_Sym_numberOf (l : Launch) (D : va_G) (kA : Nat → ClassId) (u : Nat → Nat) (rec : mF) (hG : GM rec) (ihC : ∀ (w : Nat → Nat) (tx : Value) t σ xs res, rec t σ xs = some res → cSem l D kA u w tx t σ xs res) (ih : ∀ t σ xs res, rec t σ xs = some res → gSem l D kA u t σ xs res) (σ : mS) (xs : List Int32) (res : mR) (h : u_0 (kG_Sym_numberOf rec σ) xs = some res) : sG_Sym_numberOf l D kA u σ xs res := by
  intro hxs w tx htx
  subst hxs
  obtain ⟨σf, rf, dd⟩ := res
  have hmn : gle σ σf := qG_Sym_numberOf rec hG σ _ h
  have h : (rec tG_Sym_numberOf_p2 σ [1]) = some (σf, rf, dd) := h
  refine ax_Mi.of (by decide +kernel) (Nat.le_of_ble_eq_true rfl) ?_
  intro p e s m args below meth c C hnm
  replace C : ax_C p s m args meth c b_Sym_numberOf "ClauseProver$Symbols" 4 (some .int) D kA (va_A (cpW kA u w tx σ) s.heap.size) := C
  obtain ⟨F, hFe⟩ : ∃ z, z = dd + 3 := ⟨_, rfl⟩
  obtain ⟨Lo, hLoe⟩ : ∃ z, z = 48 * dd + 144 := ⟨_, rfl⟩
  obtain ⟨mc, hmce⟩ : ∃ z, z = σf.2.2 3001 - σ.2.2 3001 := ⟨_, rfl⟩
  obtain ⟨ms, hmse⟩ : ∃ z, z = σf.2.2 3002 - σ.2.2 3002 := ⟨_, rfl⟩
  obtain ⟨σ0, hσ0e⟩ : ∃ z, z = σ := ⟨_, rfl⟩
  obtain ⟨w0, hw0e⟩ : ∃ z, z = w := ⟨_, rfl⟩
  obtain ⟨tx0, htx0e⟩ : ∃ z, z = tx := ⟨_, rfl⟩
  suffices K : ∀ (cells slots : Nat), cells = 0 → slots = 0 → AW p l e { frames := F, cells := mc, slots := ms, locals := Lo } s m args below meth c D kA (va_A (cpW kA u w0 tx0 σ0) s.heap.size) 4 (ax_Qi below args s D kA (cpW kA u w0 tx0 σ0) mc ms (fun r w1 => r = rf ∧ ∃ (w2 : Nat → Nat) (tx2 : Value), (∀ i, ([11] : List Nat).elem i = false → w2 i = w0 i) ∧ tx2 = tx0 ∧ w1 = cpW kA u w2 tx2 σf)) 0 [(0, .ref (u 6)), (1, .ref (u 32))] [] (cpW kA u w tx σ) cells slots by
    have K := K 0 0 rfl rfl
    rw [hFe, hLoe, hmce, hmse, hσ0e, hw0e, htx0e] at K
    exact ax_ls ([(0, .ref (u 6)), (1, .ref (u 32))]) [0, 1] rfl K
  replace C : ax_C p s m args meth c b_Sym_numberOf "ClauseProver$Symbols" 4 (some .int) D kA (va_A (cpW kA u w0 tx0 σ0) s.heap.size) := by rw [hσ0e, hw0e, htx0e]; exact C
  intro cells slots hc0 hs0
  have hcq : cells + σf.2.2 3001 ≤ mc + σ.2.2 3001 := by have := hmn.1; omega
  have hsq : slots + σf.2.2 3002 ≤ ms + σ.2.2 3002 := by have := hmn.2; omega
  have hga : ∀ i, ([11] : List Nat).elem i = false → w i = w0 i := fun i _ => by rw [hw0e]
  have e9 : tx = tx0 := htx0e.symm
  subst e9
  have hF : dd + 3 ≤ F := by omega
  have hLo : 48 * dd + 144 ≤ Lo := by omega
  have hcm : cells ≤ mc := by have := hmn.1; omega
  have hsm : slots ≤ ms := by have := hmn.2; omega
  have hle : True := trivial
  have hm : True := trivial
  refine ax_iconst (pc := 0) C 1 d_Sym_numberOf_0 (by decide +kernel) ?_
  refine ax_istore_n (pc := 1) C d_Sym_numberOf_1 rfl (Nat.le_of_ble_eq_true rfl) ([(2, .int 1), (0, .ref (u 6)), (1, .ref (u 32))]) rfl ?_
  refine ax_ls ([(0, .ref (u 6)), (1, .ref (u 32)), (2, .int 1)]) [1, 2, 0] rfl ?_
  replace hm : sG_Sym_numberOf_p2 l D kA u σ [1] (σf, rf, _) := ih tG_Sym_numberOf_p2 _ _ _ h
  exact hm _ rfl w tx htx p e s m args below meth c F Lo mc ms cells slots σ0 w0 tx hF hLo hcq hsq hga C
set_option maxHeartbeats 4000000 in
set_option maxRecDepth 100000 in
theorem oG_Sym_numberOf_p2 (l : Launch) (D : va_G) (kA : Nat → ClassId) (u : Nat → Nat) (rec : mF) (hG : GM rec) (ihC : ∀ (w : Nat → Nat) (tx : Value) t σ xs res, rec t σ xs = some res → cSem l D kA u w tx t σ xs res) (ih : ∀ t σ xs res, rec t σ xs = some res → gSem l D kA u t σ xs res) (σ : mS) (xs : List Int32) (res : mR) (h : u_1 (kG_Sym_numberOf_p2 rec σ) xs = some res) : sG_Sym_numberOf_p2 l D kA u σ xs res := by
  intro x0 hxs w tx htx
  subst hxs
  obtain ⟨σf, rf, dd⟩ := res
  have hmn : gle σ σf := qG_Sym_numberOf_p2 rec hG σ x0 _ h
  have h : (if (σ.1 604) < x0 then (if (σ.1 604) = 250 then (some (σ, (-1), 0)) else (lt_ (mI σ 604 (((σ.1 604) : Int32) + 1)) (fun σ1 => lt_ (mI σ1 605 (((σ1.1 604) : Int32) + 1)) (fun σ2 => if bin (σ2.1 604) 551 = true then (lt_ (mA σ2 12 (Int32.toNatClampNeg (σ2.1 604)) 0) (fun σ3 => if bin (σ3.1 604) 251 = true then (lt_ (mA σ3 8 (Int32.toNatClampNeg (σ3.1 604)) (σ3.1 1001)) (fun σ4 => if bin (σ4.1 604) 251 = true then (lt_ (mA σ4 9 (Int32.toNatClampNeg (σ4.1 604)) (σ4.1 3204)) (fun σ5 => rec tG_Sym_numberOf_p165 σ5 [0])) else none)) else none)) else none)))) else (rec tG_Sym_numberOf_p12 σ [x0, 0])) = some (σf, rf, dd) := h
  intro p e s m args below meth c F Lo mc ms cells slots σ0 w0 tx0 hF hLo hcq hsq hga C
  dsimp only at hF hLo hcq hsq ⊢
  have hcm : cells ≤ mc := by have := hmn.1; omega
  have hsm : slots ≤ ms := by have := hmn.2; omega
  have hle : True := trivial
  have hm : True := trivial
  refine ax_iload_n (pc := 2) C d_Sym_numberOf_2 rfl 2 rfl ?_
  refine ax_aload_n (pc := 3) C d_Sym_numberOf_3 rfl 0 rfl ?_
  refine cg_6_4_Sym_40 (pc := 4) C d_Sym_numberOf_4 ?_
  refine ax_icmp_gt (pc := 7) C 92 d_Sym_numberOf_7 (by decide) (fun hc => ?_) (fun hc => ?_)
  · replace h := it_t hc h
    refine ax_aload_n (pc := 92) C d_Sym_numberOf_92 rfl 0 rfl ?_
    refine cg_6_4_Sym_40 (pc := 93) C d_Sym_numberOf_93 ?_
    refine ax_sipush (pc := 96) C 250 d_Sym_numberOf_96 (by decide +kernel) ?_
    refine ax_icmp_ne (pc := 99) C 104 d_Sym_numberOf_99 (by decide) (fun hc => ?_) (fun hc => ?_)
    · replace h := it_f hc h
      refine ax_aload_n (pc := 104) C d_Sym_numberOf_104 rfl 0 rfl ?_
      refine ax_dup (pc := 105) C d_Sym_numberOf_105 rfl ?_
      refine cg_6_4_Sym_40 (pc := 106) C d_Sym_numberOf_106 ?_
      refine ax_iconst (pc := 109) C 1 d_Sym_numberOf_109 (by decide +kernel) ?_
      refine ax_iadd (pc := 110) C d_Sym_numberOf_110 ?_
      refine cq_6_4_Sym_40 (pc := 111) C d_Sym_numberOf_111 ?_
      replace h := it_l h
      replace hcq : cells + σf.2.2 3001 ≤ mc + (mI σ 604 (((σ.1 604) : Int32) + 1)).2.2 3001 := hcq
      replace hsq : slots + σf.2.2 3002 ≤ ms + (mI σ 604 (((σ.1 604) : Int32) + 1)).2.2 3002 := hsq
      generalize mI σ 604 (((σ.1 604) : Int32) + 1) = σ1 at h hcq hsq ⊢
      refine ax_aload_n (pc := 114) C d_Sym_numberOf_114 rfl 0 rfl ?_
      refine ax_aload_n (pc := 115) C d_Sym_numberOf_115 rfl 0 rfl ?_
      refine cg_6_4_Sym_40 (pc := 116) C d_Sym_numberOf_116 ?_
      refine ax_iconst (pc := 119) C 1 d_Sym_numberOf_119 (by decide +kernel) ?_
      refine ax_iadd (pc := 120) C d_Sym_numberOf_120 ?_
      refine cq_6_5_Sym_36 (pc := 121) C d_Sym_numberOf_121 ?_
      replace h := it_l h
      replace hcq : cells + σf.2.2 3001 ≤ mc + (mI σ1 605 (((σ1.1 604) : Int32) + 1)).2.2 3001 := hcq
      replace hsq : slots + σf.2.2 3002 ≤ ms + (mI σ1 605 (((σ1.1 604) : Int32) + 1)).2.2 3002 := hsq
      generalize mI σ1 605 (((σ1.1 604) : Int32) + 1) = σ2 at h hcq hsq ⊢
      refine ax_aload_n (pc := 124) C d_Sym_numberOf_124 rfl 0 rfl ?_
      refine cg_6_6_Sym_30 (pc := 125) C d_Sym_numberOf_125 ?_
      refine ax_aload_n (pc := 128) C d_Sym_numberOf_128 rfl 0 rfl ?_
      refine cg_6_4_Sym_40 (pc := 129) C d_Sym_numberOf_129 ?_
      refine ax_iconst (pc := 132) C 0 d_Sym_numberOf_132 (by decide +kernel) ?_
      replace h := it_g h
      obtain ⟨hb, h⟩ := h
      refine cs_12 (pc := 133) C d_Sym_numberOf_133 (bin_in hb) ?_
      replace h := it_l h
      replace hcq : cells + σf.2.2 3001 ≤ mc + (mA σ2 12 (Int32.toNatClampNeg (σ2.1 604)) 0).2.2 3001 := hcq
      replace hsq : slots + σf.2.2 3002 ≤ ms + (mA σ2 12 (Int32.toNatClampNeg (σ2.1 604)) 0).2.2 3002 := hsq
      generalize mA σ2 12 (Int32.toNatClampNeg (σ2.1 604)) 0 = σ3 at h hcq hsq ⊢
      refine ax_aload_n (pc := 134) C d_Sym_numberOf_134 rfl 0 rfl ?_
      refine cg_6_1_Sym_15 (pc := 135) C d_Sym_numberOf_135 ?_
      refine ax_aload_n (pc := 138) C d_Sym_numberOf_138 rfl 0 rfl ?_
      refine cg_6_4_Sym_40 (pc := 139) C d_Sym_numberOf_139 ?_
      refine ax_aload_n (pc := 142) C d_Sym_numberOf_142 rfl 0 rfl ?_
      refine cg_6_3_Sym_26 (pc := 143) C d_Sym_numberOf_143 ?_
      refine cg_10_1_Sym_43 (pc := 146) C d_Sym_numberOf_146 ?_
      replace h := it_g h
      obtain ⟨hb, h⟩ := h
      refine cs_8 (pc := 149) C d_Sym_numberOf_149 (bin_in hb) ?_
      replace h := it_l h
      replace hcq : cells + σf.2.2 3001 ≤ mc + (mA σ3 8 (Int32.toNatClampNeg (σ3.1 604)) (σ3.1 1001)).2.2 3001 := hcq
      replace hsq : slots + σf.2.2 3002 ≤ ms + (mA σ3 8 (Int32.toNatClampNeg (σ3.1 604)) (σ3.1 1001)).2.2 3002 := hsq
      generalize mA σ3 8 (Int32.toNatClampNeg (σ3.1 604)) (σ3.1 1001) = σ4 at h hcq hsq ⊢
      refine ax_aload_n (pc := 150) C d_Sym_numberOf_150 rfl 0 rfl ?_
      refine cg_6_2_Sym_18 (pc := 151) C d_Sym_numberOf_151 ?_
      refine ax_aload_n (pc := 154) C d_Sym_numberOf_154 rfl 0 rfl ?_
      refine cg_6_4_Sym_40 (pc := 155) C d_Sym_numberOf_155 ?_
      refine ax_aload_n (pc := 158) C d_Sym_numberOf_158 rfl 1 rfl ?_
      refine cg_32_4_Sym_44 (pc := 159) C d_Sym_numberOf_159 ?_
      replace h := it_g h
      obtain ⟨hb, h⟩ := h
      refine cs_9 (pc := 162) C d_Sym_numberOf_162 (bin_in hb) ?_
      replace h := it_l h
      replace hcq : cells + σf.2.2 3001 ≤ mc + (mA σ4 9 (Int32.toNatClampNeg (σ4.1 604)) (σ4.1 3204)).2.2 3001 := hcq
      replace hsq : slots + σf.2.2 3002 ≤ ms + (mA σ4 9 (Int32.toNatClampNeg (σ4.1 604)) (σ4.1 3204)).2.2 3002 := hsq
      generalize mA σ4 9 (Int32.toNatClampNeg (σ4.1 604)) (σ4.1 3204) = σ5 at h hcq hsq ⊢
      refine ax_iconst (pc := 163) C 0 d_Sym_numberOf_163 (by decide +kernel) ?_
      refine ax_istore_n (pc := 164) C d_Sym_numberOf_164 rfl (Nat.le_of_ble_eq_true rfl) ([(2, .int 0), (0, .ref (u 6)), (1, .ref (u 32))]) rfl ?_
      refine ax_ls ([(0, .ref (u 6)), (1, .ref (u 32)), (2, .int 0)]) [1, 2, 0] rfl ?_
      replace hm : sG_Sym_numberOf_p165 l D kA u σ5 [0] (σf, rf, _) := ih tG_Sym_numberOf_p165 _ _ _ h
      exact hm _ rfl w tx htx p e s m args below meth c F Lo mc ms cells slots σ0 w0 tx0 hF hLo hcq hsq hga C
    · replace h := it_t hc h
      refine ax_iconst (pc := 102) C (-1) d_Sym_numberOf_102 (by decide +kernel) ?_
      cases h
      exact ax_iret (pc := 103) C d_Sym_numberOf_103 ⟨rfl, w, tx, hga, rfl, rfl⟩ hcm hsm
  · replace h := it_f hc h
    refine ax_iconst (pc := 10) C 0 d_Sym_numberOf_10 (by decide +kernel) ?_
    refine ax_istore_n (pc := 11) C d_Sym_numberOf_11 rfl (Nat.le_of_ble_eq_true rfl) ([(3, .int 0), (0, .ref (u 6)), (1, .ref (u 32)), (2, .int x0)]) rfl ?_
    refine ax_ls ([(0, .ref (u 6)), (1, .ref (u 32)), (2, .int x0), (3, .int 0)]) [1, 2, 3, 0] rfl ?_
    replace hm : sG_Sym_numberOf_p12 l D kA u σ [x0, 0] (σf, rf, _) := ih tG_Sym_numberOf_p12 _ _ _ h
    exact hm _ _ rfl w tx htx p e s m args below meth c F Lo mc ms cells slots σ0 w0 tx0 hF hLo hcq hsq hga C
set_option maxHeartbeats 4000000 in
set_option maxRecDepth 100000 in
theorem oG_Sym_numberOf_p12 (l : Launch) (D : va_G) (kA : Nat → ClassId) (u : Nat → Nat) (rec : mF) (hG : GM rec) (ihC : ∀ (w : Nat → Nat) (tx : Value) t σ xs res, rec t σ xs = some res → cSem l D kA u w tx t σ xs res) (ih : ∀ t σ xs res, rec t σ xs = some res → gSem l D kA u t σ xs res) (σ : mS) (xs : List Int32) (res : mR) (h : u_2 (kG_Sym_numberOf_p12 rec σ) xs = some res) : sG_Sym_numberOf_p12 l D kA u σ xs res := by
  intro x0 x1 hxs w tx htx
  subst hxs
  obtain ⟨σf, rf, dd⟩ := res
  have hmn : gle σ σf := qG_Sym_numberOf_p12 rec hG σ x0 x1 _ h
  have h : (if bin x0 251 = true then (if (σ.2.1 9 (Int32.toNatClampNeg x0)) ≤ x1 then (rec tG_Sym_numberOf_p66 σ [x0, x1]) else (if (σ.1 3204) ≤ x1 then (rec tG_Sym_numberOf_p66 σ [x0, x1]) else (if bin x0 251 = true then (if bin (((σ.2.1 8 (Int32.toNatClampNeg x0)) : Int32) + x1) (σ.2.2 11) = true then (if bin (((σ.1 3203) : Int32) + x1) (σ.2.2 2) = true then (if (σ.2.1 11 (Int32.toNatClampNeg (((σ.2.1 8 (Int32.toNatClampNeg x0)) : Int32) + x1))) = (σ.2.1 2 (Int32.toNatClampNeg (((σ.1 3203) : Int32) + x1))) then (rec tG_Sym_numberOf_p12 σ [x0, (x1 + 1)]) else (rec tG_Sym_numberOf_p66 σ [x0, x1])) else none) else none) else none))) else none) = some (σf, rf, dd) := h
  intro p e s m args below meth c F Lo mc ms cells slots σ0 w0 tx0 hF hLo hcq hsq hga C
  dsimp only at hF hLo hcq hsq ⊢
  have hcm : cells ≤ mc := by have := hmn.1; omega
  have hsm : slots ≤ ms := by have := hmn.2; omega
  have hle : True := trivial
  have hm : True := trivial
  refine ax_iload_n (pc := 12) C d_Sym_numberOf_12 rfl 3 rfl ?_
  refine ax_aload_n (pc := 13) C d_Sym_numberOf_13 rfl 0 rfl ?_
  refine cg_6_2_Sym_18 (pc := 14) C d_Sym_numberOf_14 ?_
  refine ax_iload_n (pc := 17) C d_Sym_numberOf_17 rfl 2 rfl ?_
  replace h := it_g h
  obtain ⟨hb, h⟩ := h
  refine cl_9 (pc := 18) C d_Sym_numberOf_18 (bin_in hb) ?_
  refine ax_icmp_ge (pc := 19) C 66 d_Sym_numberOf_19 (by decide) (fun hc => ?_) (fun hc => ?_)
  · replace h := it_t hc h
    refine ax_ls ([(0, .ref (u 6)), (1, .ref (u 32)), (2, .int x0), (3, .int x1)]) [0, 1, 2, 3] rfl ?_
    replace hm : sG_Sym_numberOf_p66 l D kA u σ [x0, x1] (σf, rf, _) := ih tG_Sym_numberOf_p66 _ _ _ h
    exact hm _ _ rfl w tx htx p e s m args below meth c F Lo mc ms cells slots σ0 w0 tx0 hF hLo hcq hsq hga C
  · replace h := it_f hc h
    refine ax_iload_n (pc := 22) C d_Sym_numberOf_22 rfl 3 rfl ?_
    refine ax_aload_n (pc := 23) C d_Sym_numberOf_23 rfl 1 rfl ?_
    refine cg_32_4_Sym_44 (pc := 24) C d_Sym_numberOf_24 ?_
    refine ax_icmp_ge (pc := 27) C 66 d_Sym_numberOf_27 (by decide) (fun hc => ?_) (fun hc => ?_)
    · replace h := it_t hc h
      refine ax_ls ([(0, .ref (u 6)), (1, .ref (u 32)), (2, .int x0), (3, .int x1)]) [0, 1, 2, 3] rfl ?_
      replace hm : sG_Sym_numberOf_p66 l D kA u σ [x0, x1] (σf, rf, _) := ih tG_Sym_numberOf_p66 _ _ _ h
      exact hm _ _ rfl w tx htx p e s m args below meth c F Lo mc ms cells slots σ0 w0 tx0 hF hLo hcq hsq hga C
    · replace h := it_f hc h
      refine ax_aload_n (pc := 30) C d_Sym_numberOf_30 rfl 0 rfl ?_
      refine cg_6_3_Sym_26 (pc := 31) C d_Sym_numberOf_31 ?_
      refine cg_10_0_Sym_47 (pc := 34) C d_Sym_numberOf_34 ?_
      refine ax_aload_n (pc := 37) C d_Sym_numberOf_37 rfl 0 rfl ?_
      refine cg_6_1_Sym_15 (pc := 38) C d_Sym_numberOf_38 ?_
      refine ax_iload_n (pc := 41) C d_Sym_numberOf_41 rfl 2 rfl ?_
      replace h := it_g h
      obtain ⟨hb, h⟩ := h
      refine cl_8 (pc := 42) C d_Sym_numberOf_42 (bin_in hb) ?_
      refine ax_iload_n (pc := 43) C d_Sym_numberOf_43 rfl 3 rfl ?_
      refine ax_iadd (pc := 44) C d_Sym_numberOf_44 ?_
      replace h := it_g h
      obtain ⟨hb, h⟩ := h
      refine cl_11 (pc := 45) C d_Sym_numberOf_45 (bin_in hb) ?_
      refine ax_aload_n (pc := 46) C d_Sym_numberOf_46 rfl 1 rfl ?_
      refine cg_32_0_Sym_50 (pc := 47) C htx d_Sym_numberOf_47 ?_
      refine ax_aload_n (pc := 50) C d_Sym_numberOf_50 rfl 1 rfl ?_
      refine cg_32_3_Sym_53 (pc := 51) C d_Sym_numberOf_51 ?_
      refine ax_iload_n (pc := 54) C d_Sym_numberOf_54 rfl 3 rfl ?_
      refine ax_iadd (pc := 55) C d_Sym_numberOf_55 ?_
      replace h := it_g h
      obtain ⟨hb, h⟩ := h
      refine cl_2 (pc := 56) C d_Sym_numberOf_56 (bin_in hb) ?_
      refine ax_icmp_ne (pc := 57) C 66 d_Sym_numberOf_57 (by decide) (fun hc => ?_) (fun hc => ?_)
      · replace h := it_f hc h
        refine ax_ls ([(0, .ref (u 6)), (1, .ref (u 32)), (2, .int x0), (3, .int x1)]) [0, 1, 2, 3] rfl ?_
        replace hm : sG_Sym_numberOf_p66 l D kA u σ [x0, x1] (σf, rf, _) := ih tG_Sym_numberOf_p66 _ _ _ h
        exact hm _ _ rfl w tx htx p e s m args below meth c F Lo mc ms cells slots σ0 w0 tx0 hF hLo hcq hsq hga C
      · replace h := it_t hc h
        refine ax_iinc (pc := 60) C (x1 + 1) d_Sym_numberOf_60 3 rfl rfl (Nat.le_of_ble_eq_true rfl) ([(3, .int (x1 + 1)), (0, .ref (u 6)), (1, .ref (u 32)), (2, .int x0)]) rfl ?_
        refine ax_goto (pc := 63) C 12 d_Sym_numberOf_63 (by decide) ?_
        refine ax_ls ([(0, .ref (u 6)), (1, .ref (u 32)), (2, .int x0), (3, .int (x1 + 1))]) [1, 2, 3, 0] rfl ?_
        replace hm : sG_Sym_numberOf_p12 l D kA u σ [x0, (x1 + 1)] (σf, rf, _) := ih tG_Sym_numberOf_p12 _ _ _ h
        exact hm _ _ rfl w tx htx p e s m args below meth c F Lo mc ms cells slots σ0 w0 tx0 hF hLo hcq hsq hga C
set_option maxHeartbeats 4000000 in
set_option maxRecDepth 100000 in
theorem oG_Sym_numberOf_p66 (l : Launch) (D : va_G) (kA : Nat → ClassId) (u : Nat → Nat) (rec : mF) (hG : GM rec) (ihC : ∀ (w : Nat → Nat) (tx : Value) t σ xs res, rec t σ xs = some res → cSem l D kA u w tx t σ xs res) (ih : ∀ t σ xs res, rec t σ xs = some res → gSem l D kA u t σ xs res) (σ : mS) (xs : List Int32) (res : mR) (h : u_2 (kG_Sym_numberOf_p66 rec σ) xs = some res) : sG_Sym_numberOf_p66 l D kA u σ xs res := by
  intro x0 x1 hxs w tx htx
  subst hxs
  obtain ⟨σf, rf, dd⟩ := res
  have hmn : gle σ σf := qG_Sym_numberOf_p66 rec hG σ x0 x1 _ h
  have h : (if bin x0 251 = true then (if x1 = (σ.2.1 9 (Int32.toNatClampNeg x0)) then (if x1 = (σ.1 3204) then (some (σ, x0, 0)) else (rec tG_Sym_numberOf_p86 σ [x0, x1])) else (rec tG_Sym_numberOf_p86 σ [x0, x1])) else none) = some (σf, rf, dd) := h
  intro p e s m args below meth c F Lo mc ms cells slots σ0 w0 tx0 hF hLo hcq hsq hga C
  dsimp only at hF hLo hcq hsq ⊢
  have hcm : cells ≤ mc := by have := hmn.1; omega
  have hsm : slots ≤ ms := by have := hmn.2; omega
  have hle : True := trivial
  have hm : True := trivial
  refine ax_iload_n (pc := 66) C d_Sym_numberOf_66 rfl 3 rfl ?_
  refine ax_aload_n (pc := 67) C d_Sym_numberOf_67 rfl 0 rfl ?_
  refine cg_6_2_Sym_18 (pc := 68) C d_Sym_numberOf_68 ?_
  refine ax_iload_n (pc := 71) C d_Sym_numberOf_71 rfl 2 rfl ?_
  replace h := it_g h
  obtain ⟨hb, h⟩ := h
  refine cl_9 (pc := 72) C d_Sym_numberOf_72 (bin_in hb) ?_
  refine ax_icmp_ne (pc := 73) C 86 d_Sym_numberOf_73 (by decide) (fun hc => ?_) (fun hc => ?_)
  · replace h := it_f hc h
    refine ax_ls ([(0, .ref (u 6)), (1, .ref (u 32)), (2, .int x0), (3, .int x1)]) [0, 1, 2, 3] rfl ?_
    replace hm : sG_Sym_numberOf_p86 l D kA u σ [x0, x1] (σf, rf, _) := ih tG_Sym_numberOf_p86 _ _ _ h
    exact hm _ _ rfl w tx htx p e s m args below meth c F Lo mc ms cells slots σ0 w0 tx0 hF hLo hcq hsq hga C
  · replace h := it_t hc h
    refine ax_iload_n (pc := 76) C d_Sym_numberOf_76 rfl 3 rfl ?_
    refine ax_aload_n (pc := 77) C d_Sym_numberOf_77 rfl 1 rfl ?_
    refine cg_32_4_Sym_44 (pc := 78) C d_Sym_numberOf_78 ?_
    refine ax_icmp_ne (pc := 81) C 86 d_Sym_numberOf_81 (by decide) (fun hc => ?_) (fun hc => ?_)
    · replace h := it_f hc h
      refine ax_ls ([(0, .ref (u 6)), (1, .ref (u 32)), (2, .int x0), (3, .int x1)]) [0, 1, 2, 3] rfl ?_
      replace hm : sG_Sym_numberOf_p86 l D kA u σ [x0, x1] (σf, rf, _) := ih tG_Sym_numberOf_p86 _ _ _ h
      exact hm _ _ rfl w tx htx p e s m args below meth c F Lo mc ms cells slots σ0 w0 tx0 hF hLo hcq hsq hga C
    · replace h := it_t hc h
      refine ax_iload_n (pc := 84) C d_Sym_numberOf_84 rfl 2 rfl ?_
      cases h
      exact ax_iret (pc := 85) C d_Sym_numberOf_85 ⟨rfl, w, tx, hga, rfl, rfl⟩ hcm hsm
set_option maxHeartbeats 4000000 in
set_option maxRecDepth 100000 in
theorem oG_Sym_numberOf_p86 (l : Launch) (D : va_G) (kA : Nat → ClassId) (u : Nat → Nat) (rec : mF) (hG : GM rec) (ihC : ∀ (w : Nat → Nat) (tx : Value) t σ xs res, rec t σ xs = some res → cSem l D kA u w tx t σ xs res) (ih : ∀ t σ xs res, rec t σ xs = some res → gSem l D kA u t σ xs res) (σ : mS) (xs : List Int32) (res : mR) (h : u_2 (kG_Sym_numberOf_p86 rec σ) xs = some res) : sG_Sym_numberOf_p86 l D kA u σ xs res := by
  intro x0 x1 hxs w tx htx
  subst hxs
  obtain ⟨σf, rf, dd⟩ := res
  have hmn : gle σ σf := qG_Sym_numberOf_p86 rec hG σ x0 x1 _ h
  have h : (rec tG_Sym_numberOf_p2 σ [(x0 + 1)]) = some (σf, rf, dd) := h
  intro p e s m args below meth c F Lo mc ms cells slots σ0 w0 tx0 hF hLo hcq hsq hga C
  dsimp only at hF hLo hcq hsq ⊢
  have hcm : cells ≤ mc := by have := hmn.1; omega
  have hsm : slots ≤ ms := by have := hmn.2; omega
  have hle : True := trivial
  have hm : True := trivial
  refine ax_iinc (pc := 86) C (x0 + 1) d_Sym_numberOf_86 2 rfl rfl (Nat.le_of_ble_eq_true rfl) ([(2, .int (x0 + 1)), (0, .ref (u 6)), (1, .ref (u 32)), (3, .int x1)]) rfl ?_
  refine ax_goto (pc := 89) C 2 d_Sym_numberOf_89 (by decide) ?_
  refine ax_ls ([(0, .ref (u 6)), (1, .ref (u 32)), (2, .int (x0 + 1))]) [1, 2, 0] rfl ?_
  replace hm : sG_Sym_numberOf_p2 l D kA u σ [(x0 + 1)] (σf, rf, _) := ih tG_Sym_numberOf_p2 _ _ _ h
  exact hm _ rfl w tx htx p e s m args below meth c F Lo mc ms cells slots σ0 w0 tx0 hF hLo hcq hsq hga C
set_option maxHeartbeats 4000000 in
set_option maxRecDepth 100000 in
theorem oG_Sym_numberOf_p165 (l : Launch) (D : va_G) (kA : Nat → ClassId) (u : Nat → Nat) (rec : mF) (hG : GM rec) (ihC : ∀ (w : Nat → Nat) (tx : Value) t σ xs res, rec t σ xs = some res → cSem l D kA u w tx t σ xs res) (ih : ∀ t σ xs res, rec t σ xs = some res → gSem l D kA u t σ xs res) (σ : mS) (xs : List Int32) (res : mR) (h : u_1 (kG_Sym_numberOf_p165 rec σ) xs = some res) : sG_Sym_numberOf_p165 l D kA u σ xs res := by
  intro x0 hxs w tx htx
  subst hxs
  obtain ⟨σf, rf, dd⟩ := res
  have hmn : gle σ σf := qG_Sym_numberOf_p165 rec hG σ x0 _ h
  have h : (if (σ.1 3204) ≤ x0 then (some (σ, (σ.1 604), 0)) else (if bin (((σ.1 3203) : Int32) + x0) (σ.2.2 2) = true then (if rok σ 1001 11 = true then (lt_ (rAdd σ 1001 11 (σ.2.1 2 (Int32.toNatClampNeg (((σ.1 3203) : Int32) + x0)))) (fun σ1 => rec tG_Sym_numberOf_p165 σ1 [(x0 + 1)])) else none) else none)) = some (σf, rf, dd) := h
  intro p e s m args below meth c F Lo mc ms cells slots σ0 w0 tx0 hF hLo hcq hsq hga C
  dsimp only at hF hLo hcq hsq ⊢
  have hcm : cells ≤ mc := by have := hmn.1; omega
  have hsm : slots ≤ ms := by have := hmn.2; omega
  have hle : True := trivial
  have hm : True := trivial
  refine ax_iload_n (pc := 165) C d_Sym_numberOf_165 rfl 2 rfl ?_
  refine ax_aload_n (pc := 166) C d_Sym_numberOf_166 rfl 1 rfl ?_
  refine cg_32_4_Sym_44 (pc := 167) C d_Sym_numberOf_167 ?_
  refine ax_icmp_ge (pc := 170) C 197 d_Sym_numberOf_170 (by decide) (fun hc => ?_) (fun hc => ?_)
  · replace h := it_t hc h
    refine ax_aload_n (pc := 197) C d_Sym_numberOf_197 rfl 0 rfl ?_
    refine cg_6_4_Sym_40 (pc := 198) C d_Sym_numberOf_198 ?_
    cases h
    exact ax_iret (pc := 201) C d_Sym_numberOf_201 ⟨rfl, w, tx, hga, rfl, rfl⟩ hcm hsm
  · replace h := it_f hc h
    refine ax_aload_n (pc := 173) C d_Sym_numberOf_173 rfl 0 rfl ?_
    refine cg_6_3_Sym_26 (pc := 174) C d_Sym_numberOf_174 ?_
    refine ax_aload_n (pc := 177) C d_Sym_numberOf_177 rfl 1 rfl ?_
    refine cg_32_0_Sym_50 (pc := 178) C htx d_Sym_numberOf_178 ?_
    refine ax_aload_n (pc := 181) C d_Sym_numberOf_181 rfl 1 rfl ?_
    refine cg_32_3_Sym_53 (pc := 182) C d_Sym_numberOf_182 ?_
    refine ax_iload_n (pc := 185) C d_Sym_numberOf_185 rfl 2 rfl ?_
    refine ax_iadd (pc := 186) C d_Sym_numberOf_186 ?_
    replace h := it_g h
    obtain ⟨hb, h⟩ := h
    refine cl_2 (pc := 187) C d_Sym_numberOf_187 (bin_in hb) ?_
    replace h := it_g h
    obtain ⟨hb, h⟩ := h
    replace h := it_l h
    replace hle := rAdd_le σ 1001 11 (σ.2.1 2 (Int32.toNatClampNeg (((σ.1 3203) : Int32) + x0)))
    replace hmn : gle (rAdd σ 1001 11 (σ.2.1 2 (Int32.toNatClampNeg (((σ.1 3203) : Int32) + x0)))) σf := gm_use h (gm_tail hG (Nat.le_of_ble_eq_true rfl))
    refine ca_10 (pc := 188) C (rest := []) ml_Sym_56 d_Sym_numberOf_188 hb hF hLo (by have := hmn.1; have := hle.1; omega) (by have := hmn.2; have := hle.2; omega) (Nat.le_of_ble_eq_true rfl) (fun w1 hag1 => ?_)
    generalize rAdd σ 1001 11 (σ.2.1 2 (Int32.toNatClampNeg (((σ.1 3203) : Int32) + x0))) = σ1 at h hmn hle ⊢
    have hga1 : ∀ i, ([11] : List Nat).elem i = false → w1 i = w0 i := fun i hi => (hag1 i (by revert hi; exact el_sub (by decide))).trans (hga i hi)
    have htx1 : tx = .ref (w1 2) := by rw [hag1 2 rfl]; exact htx
    replace hcq : (cells + (σ1.2.2 3001 - σ.2.2 3001)) + σf.2.2 3001 ≤ mc + σ1.2.2 3001 := by have := hmn.1; have := hle.1; omega
    replace hcm : (cells + (σ1.2.2 3001 - σ.2.2 3001)) ≤ mc := by have := hmn.1; have := hle.1; omega
    generalize cells + (σ1.2.2 3001 - σ.2.2 3001) = cells at hcq hcm ⊢
    replace hsq : (slots + (σ1.2.2 3002 - σ.2.2 3002)) + σf.2.2 3002 ≤ ms + σ1.2.2 3002 := by have := hmn.2; have := hle.2; omega
    replace hsm : (slots + (σ1.2.2 3002 - σ.2.2 3002)) ≤ ms := by have := hmn.2; have := hle.2; omega
    generalize slots + (σ1.2.2 3002 - σ.2.2 3002) = slots at hsq hsm ⊢
    refine ax_iinc (pc := 191) C (x0 + 1) d_Sym_numberOf_191 2 rfl rfl (Nat.le_of_ble_eq_true rfl) ([(2, .int (x0 + 1)), (0, .ref (u 6)), (1, .ref (u 32))]) rfl ?_
    refine ax_goto (pc := 194) C 165 d_Sym_numberOf_194 (by decide) ?_
    refine ax_ls ([(0, .ref (u 6)), (1, .ref (u 32)), (2, .int (x0 + 1))]) [1, 2, 0] rfl ?_
    replace hm : sG_Sym_numberOf_p165 l D kA u σ1 [(x0 + 1)] (σf, rf, _) := ih tG_Sym_numberOf_p165 _ _ _ h
    exact hm _ rfl w1 tx htx1 p e s m args below meth c F Lo mc ms cells slots σ0 w0 tx0 hF hLo hcq hsq hga1 C
set_option maxHeartbeats 4000000 in
set_option maxRecDepth 100000 in
theorem oG_Uni_join (l : Launch) (D : va_G) (kA : Nat → ClassId) (u : Nat → Nat) (rec : mF) (hG : GM rec) (ihC : ∀ (w : Nat → Nat) (tx : Value) t σ xs res, rec t σ xs = some res → cSem l D kA u w tx t σ xs res) (ih : ∀ t σ xs res, rec t σ xs = some res → gSem l D kA u t σ xs res) (σ : mS) (xs : List Int32) (res : mR) (h : u_3 (kG_Uni_join rec σ) xs = some res) : sG_Uni_join l D kA u σ xs res := by
  intro x0 x1 x2 hxs w tx
  subst hxs
  obtain ⟨σf, rf, dd⟩ := res
  have hmn : gle σ σf := qG_Uni_join rec hG σ x0 x1 x2 _ h
  have h : (if bin x1 12 = true then (if (σ.2.1 61 (Int32.toNatClampNeg x1)) = (-1) then (rec tG_Uni_join_p30 σ [x0, x1, x2]) else (if bin x1 12 = true then (if bin x1 12 = true then (bnd (rec tC_Uni_occurs σ [x0, (σ.2.1 61 (Int32.toNatClampNeg x1)), (σ.2.1 62 (Int32.toNatClampNeg x1))]) (fun σ1 r1 => if r1 = 0 then (rec tG_Uni_join_p30 σ1 [x0, x1, x2]) else (rec tG_Uni_join_p60 σ1 [x0, x1, x2]))) else none) else none)) else none) = some (σf, rf, dd) := h
  refine ax_Mi.of (by decide +kernel) (Nat.le_of_ble_eq_true rfl) ?_
  intro p e s m args below meth c C hnm
  replace C : ax_C p s m args meth c b_Uni_join "ClauseProver$Unifier" 7 (some .boolean) D kA (va_A (cpW kA u w tx σ) s.heap.size) := C
  obtain ⟨F, hFe⟩ : ∃ z, z = dd + 3 := ⟨_, rfl⟩
  obtain ⟨Lo, hLoe⟩ : ∃ z, z = 48 * dd + 144 := ⟨_, rfl⟩
  obtain ⟨mc, hmce⟩ : ∃ z, z = σf.2.2 3001 - σ.2.2 3001 := ⟨_, rfl⟩
  obtain ⟨ms, hmse⟩ : ∃ z, z = σf.2.2 3002 - σ.2.2 3002 := ⟨_, rfl⟩
  obtain ⟨σ0, hσ0e⟩ : ∃ z, z = σ := ⟨_, rfl⟩
  obtain ⟨w0, hw0e⟩ : ∃ z, z = w := ⟨_, rfl⟩
  obtain ⟨tx0, htx0e⟩ : ∃ z, z = tx := ⟨_, rfl⟩
  suffices K : ∀ (cells slots : Nat), cells = 0 → slots = 0 → AW p l e { frames := F, cells := mc, slots := ms, locals := Lo } s m args below meth c D kA (va_A (cpW kA u w0 tx0 σ0) s.heap.size) 7 (ax_Qi below args s D kA (cpW kA u w0 tx0 σ0) mc ms (fun r w1 => r = rf ∧ ∃ (w2 : Nat → Nat) (tx2 : Value), (∀ i, ([65] : List Nat).elem i = false → w2 i = w0 i) ∧ tx2 = tx0 ∧ w1 = cpW kA u w2 tx2 σf)) 0 [(0, .ref (u 59)), (1, .int x0), (2, .int x1), (3, .int x2)] [] (cpW kA u w tx σ) cells slots by
    have K := K 0 0 rfl rfl
    rw [hFe, hLoe, hmce, hmse, hσ0e, hw0e, htx0e] at K
    exact ax_ls ([(0, .ref (u 59)), (1, .int x0), (2, .int x1), (3, .int x2)]) [0, 1, 2, 3] rfl K
  replace C : ax_C p s m args meth c b_Uni_join "ClauseProver$Unifier" 7 (some .boolean) D kA (va_A (cpW kA u w0 tx0 σ0) s.heap.size) := by rw [hσ0e, hw0e, htx0e]; exact C
  intro cells slots hc0 hs0
  have hcq : cells + σf.2.2 3001 ≤ mc + σ.2.2 3001 := by have := hmn.1; omega
  have hsq : slots + σf.2.2 3002 ≤ ms + σ.2.2 3002 := by have := hmn.2; omega
  have hga : ∀ i, ([65] : List Nat).elem i = false → w i = w0 i := fun i _ => by rw [hw0e]
  have e9 : tx = tx0 := htx0e.symm
  subst e9
  have hF : dd + 3 ≤ F := by omega
  have hLo : 48 * dd + 144 ≤ Lo := by omega
  have hcm : cells ≤ mc := by have := hmn.1; omega
  have hsm : slots ≤ ms := by have := hmn.2; omega
  have hle : True := trivial
  have hm : True := trivial
  refine ax_aload_n (pc := 0) C d_Uni_join_0 rfl 0 rfl ?_
  refine cg_59_3_Uni_17 (pc := 1) C d_Uni_join_1 ?_
  refine ax_iload_n (pc := 4) C d_Uni_join_4 rfl 2 rfl ?_
  replace h := it_g h
  obtain ⟨hb, h⟩ := h
  refine cl_61 (pc := 5) C d_Uni_join_5 (bin_in hb) ?_
  refine ax_iconst (pc := 6) C (-1) d_Uni_join_6 (by decide +kernel) ?_
  refine ax_icmp_eq (pc := 7) C 30 d_Uni_join_7 (by decide) (fun hc => ?_) (fun hc => ?_)
  · replace h := it_t hc h
    refine ax_ls ([(0, .ref (u 59)), (1, .int x0), (2, .int x1), (3, .int x2)]) [0, 1, 2, 3] rfl ?_
    replace hm : sG_Uni_join_p30 l D kA u σ [x0, x1, x2] (σf, rf, _) := ih tG_Uni_join_p30 _ _ _ h
    exact hm _ _ _ rfl w tx p e s m args below meth c F Lo mc ms cells slots σ0 w0 tx hF hLo hcq hsq hga C
  · replace h := it_f hc h
    refine ax_aload_n (pc := 10) C d_Uni_join_10 rfl 0 rfl ?_
    refine ax_iload_n (pc := 11) C d_Uni_join_11 rfl 1 rfl ?_
    refine ax_aload_n (pc := 12) C d_Uni_join_12 rfl 0 rfl ?_
    refine cg_59_3_Uni_17 (pc := 13) C d_Uni_join_13 ?_
    refine ax_iload_n (pc := 16) C d_Uni_join_16 rfl 2 rfl ?_
    replace h := it_g h
    obtain ⟨hb, h⟩ := h
    refine cl_61 (pc := 17) C d_Uni_join_17 (bin_in hb) ?_
    refine ax_aload_n (pc := 18) C d_Uni_join_18 rfl 0 rfl ?_
    refine cg_59_4_Uni_20 (pc := 19) C d_Uni_join_19 ?_
    refine ax_iload_n (pc := 22) C d_Uni_join_22 rfl 2 rfl ?_
    replace h := it_g h
    obtain ⟨hb, h⟩ := h
    refine cl_62 (pc := 23) C d_Uni_join_23 (bin_in hb) ?_
    replace h := it_b h
    obtain ⟨σ1, r1, d1_1, d2_1, h1, h, hd2, hd1⟩ := h
    replace hle := hG _ _ _ _ (by decide) h1
    dsimp only at hle
    replace hmn : gle σ1 σf := gm_use h (gm_if (gm_tail hG (Nat.le_of_ble_eq_true rfl)) (gm_tail hG (Nat.le_of_ble_eq_true rfl)))
    replace hm : sC_Uni_occurs l D kA u w tx σ [x0, (σ.2.1 61 (Int32.toNatClampNeg x1)), (σ.2.1 62 (Int32.toNatClampNeg x1))] (σ1, r1, d1_1) := ihC _ _ tC_Uni_occurs _ _ _ h1
    refine cc_Vi (pc := 24) C (r0 := r1) (σ2 := σ1) (As := [.int x0, .int (σ.2.1 61 (Int32.toNatClampNeg x1)), .int (σ.2.1 62 (Int32.toNatClampNeg x1))]) (rest := []) (hm _ _ _ rfl) ml_Uni_84 59 rfl rfl rfl d_Uni_join_24 rfl rfl (by dsimp only; omega) (by dsimp only; omega) hcm hsm (Nat.le_of_ble_eq_true rfl) ?_
    replace hcq : cells + σf.2.2 3001 ≤ mc + σ1.2.2 3001 := by have := hle.1; omega
    replace hsq : slots + σf.2.2 3002 ≤ ms + σ1.2.2 3002 := by have := hle.2; omega
    replace hF : d2_1 + 3 ≤ F := by omega
    replace hLo : 48 * d2_1 + 144 ≤ Lo := by omega
    refine ax_if_ne (pc := 27) C 60 d_Uni_join_27 (by decide) (fun hc => ?_) (fun hc => ?_)
    · replace h := it_f hc h
      refine ax_ls ([(0, .ref (u 59)), (1, .int x0), (2, .int x1), (3, .int x2)]) [0, 1, 2, 3] rfl ?_
      replace hm : sG_Uni_join_p60 l D kA u σ1 [x0, x1, x2] (σf, rf, _) := ih tG_Uni_join_p60 _ _ _ h
      exact hm _ _ _ rfl w tx p e s m args below meth c F Lo mc ms cells slots σ0 w0 tx hF hLo hcq hsq hga C
    · replace h := it_t hc h
      refine ax_ls ([(0, .ref (u 59)), (1, .int x0), (2, .int x1), (3, .int x2)]) [0, 1, 2, 3] rfl ?_
      replace hm : sG_Uni_join_p30 l D kA u σ1 [x0, x1, x2] (σf, rf, _) := ih tG_Uni_join_p30 _ _ _ h
      exact hm _ _ _ rfl w tx p e s m args below meth c F Lo mc ms cells slots σ0 w0 tx hF hLo hcq hsq hga C
set_option maxHeartbeats 4000000 in
set_option maxRecDepth 100000 in
theorem oG_Uni_join_p30 (l : Launch) (D : va_G) (kA : Nat → ClassId) (u : Nat → Nat) (rec : mF) (hG : GM rec) (ihC : ∀ (w : Nat → Nat) (tx : Value) t σ xs res, rec t σ xs = some res → cSem l D kA u w tx t σ xs res) (ih : ∀ t σ xs res, rec t σ xs = some res → gSem l D kA u t σ xs res) (σ : mS) (xs : List Int32) (res : mR) (h : u_3 (kG_Uni_join_p30 rec σ) xs = some res) : sG_Uni_join_p30 l D kA u σ xs res := by
  intro x0 x1 x2 hxs w tx
  subst hxs
  obtain ⟨σf, rf, dd⟩ := res
  have hmn : gle σ σf := qG_Uni_join_p30 rec hG σ x0 x1 x2 _ h
  have h : (if bin x0 12 = true then (if (σ.2.1 61 (Int32.toNatClampNeg x0)) = (-1) then (rec tG_Uni_join_p62 σ [x0, x1, x2]) else (if bin x0 12 = true then (if bin x0 12 = true then (bnd (rec tC_Uni_occurs σ [x1, (σ.2.1 61 (Int32.toNatClampNeg x0)), (σ.2.1 62 (Int32.toNatClampNeg x0))]) (fun σ1 r1 => if r1 = 0 then (rec tG_Uni_join_p62 σ1 [x0, x1, x2]) else (rec tG_Uni_join_p60 σ1 [x0, x1, x2]))) else none) else none)) else none) = some (σf, rf, dd) := h
  intro p e s m args below meth c F Lo mc ms cells slots σ0 w0 tx0 hF hLo hcq hsq hga C
  dsimp only at hF hLo hcq hsq ⊢
  have hcm : cells ≤ mc := by have := hmn.1; omega
  have hsm : slots ≤ ms := by have := hmn.2; omega
  have hle : True := trivial
  have hm : True := trivial
  refine ax_aload_n (pc := 30) C d_Uni_join_30 rfl 0 rfl ?_
  refine cg_59_3_Uni_17 (pc := 31) C d_Uni_join_31 ?_
  refine ax_iload_n (pc := 34) C d_Uni_join_34 rfl 1 rfl ?_
  replace h := it_g h
  obtain ⟨hb, h⟩ := h
  refine cl_61 (pc := 35) C d_Uni_join_35 (bin_in hb) ?_
  refine ax_iconst (pc := 36) C (-1) d_Uni_join_36 (by decide +kernel) ?_
  refine ax_icmp_eq (pc := 37) C 62 d_Uni_join_37 (by decide) (fun hc => ?_) (fun hc => ?_)
  · replace h := it_t hc h
    refine ax_ls ([(0, .ref (u 59)), (1, .int x0), (2, .int x1), (3, .int x2)]) [0, 1, 2, 3] rfl ?_
    replace hm : sG_Uni_join_p62 l D kA u σ [x0, x1, x2] (σf, rf, _) := ih tG_Uni_join_p62 _ _ _ h
    exact hm _ _ _ rfl w tx p e s m args below meth c F Lo mc ms cells slots σ0 w0 tx0 hF hLo hcq hsq hga C
  · replace h := it_f hc h
    refine ax_aload_n (pc := 40) C d_Uni_join_40 rfl 0 rfl ?_
    refine ax_iload_n (pc := 41) C d_Uni_join_41 rfl 2 rfl ?_
    refine ax_aload_n (pc := 42) C d_Uni_join_42 rfl 0 rfl ?_
    refine cg_59_3_Uni_17 (pc := 43) C d_Uni_join_43 ?_
    refine ax_iload_n (pc := 46) C d_Uni_join_46 rfl 1 rfl ?_
    replace h := it_g h
    obtain ⟨hb, h⟩ := h
    refine cl_61 (pc := 47) C d_Uni_join_47 (bin_in hb) ?_
    refine ax_aload_n (pc := 48) C d_Uni_join_48 rfl 0 rfl ?_
    refine cg_59_4_Uni_20 (pc := 49) C d_Uni_join_49 ?_
    refine ax_iload_n (pc := 52) C d_Uni_join_52 rfl 1 rfl ?_
    replace h := it_g h
    obtain ⟨hb, h⟩ := h
    refine cl_62 (pc := 53) C d_Uni_join_53 (bin_in hb) ?_
    replace h := it_b h
    obtain ⟨σ1, r1, d1_1, d2_1, h1, h, hd2, hd1⟩ := h
    replace hle := hG _ _ _ _ (by decide) h1
    dsimp only at hle
    replace hmn : gle σ1 σf := gm_use h (gm_if (gm_tail hG (Nat.le_of_ble_eq_true rfl)) (gm_tail hG (Nat.le_of_ble_eq_true rfl)))
    replace hm : sC_Uni_occurs l D kA u w tx σ [x1, (σ.2.1 61 (Int32.toNatClampNeg x0)), (σ.2.1 62 (Int32.toNatClampNeg x0))] (σ1, r1, d1_1) := ihC _ _ tC_Uni_occurs _ _ _ h1
    refine cc_Vi (pc := 54) C (r0 := r1) (σ2 := σ1) (As := [.int x1, .int (σ.2.1 61 (Int32.toNatClampNeg x0)), .int (σ.2.1 62 (Int32.toNatClampNeg x0))]) (rest := []) (hm _ _ _ rfl) ml_Uni_84 59 rfl rfl rfl d_Uni_join_54 rfl rfl (by dsimp only; omega) (by dsimp only; omega) hcm hsm (Nat.le_of_ble_eq_true rfl) ?_
    replace hcq : cells + σf.2.2 3001 ≤ mc + σ1.2.2 3001 := by have := hle.1; omega
    replace hsq : slots + σf.2.2 3002 ≤ ms + σ1.2.2 3002 := by have := hle.2; omega
    replace hF : d2_1 + 3 ≤ F := by omega
    replace hLo : 48 * d2_1 + 144 ≤ Lo := by omega
    refine ax_if_eq (pc := 57) C 62 d_Uni_join_57 (by decide) (fun hc => ?_) (fun hc => ?_)
    · replace h := it_t hc h
      refine ax_ls ([(0, .ref (u 59)), (1, .int x0), (2, .int x1), (3, .int x2)]) [0, 1, 2, 3] rfl ?_
      replace hm : sG_Uni_join_p62 l D kA u σ1 [x0, x1, x2] (σf, rf, _) := ih tG_Uni_join_p62 _ _ _ h
      exact hm _ _ _ rfl w tx p e s m args below meth c F Lo mc ms cells slots σ0 w0 tx0 hF hLo hcq hsq hga C
    · replace h := it_f hc h
      refine ax_ls ([(0, .ref (u 59)), (1, .int x0), (2, .int x1), (3, .int x2)]) [0, 1, 2, 3] rfl ?_
      replace hm : sG_Uni_join_p60 l D kA u σ1 [x0, x1, x2] (σf, rf, _) := ih tG_Uni_join_p60 _ _ _ h
      exact hm _ _ _ rfl w tx p e s m args below meth c F Lo mc ms cells slots σ0 w0 tx0 hF hLo hcq hsq hga C
set_option maxHeartbeats 4000000 in
set_option maxRecDepth 100000 in
theorem oG_Uni_join_p60 (l : Launch) (D : va_G) (kA : Nat → ClassId) (u : Nat → Nat) (rec : mF) (hG : GM rec) (ihC : ∀ (w : Nat → Nat) (tx : Value) t σ xs res, rec t σ xs = some res → cSem l D kA u w tx t σ xs res) (ih : ∀ t σ xs res, rec t σ xs = some res → gSem l D kA u t σ xs res) (σ : mS) (xs : List Int32) (res : mR) (h : u_3 (kG_Uni_join_p60 rec σ) xs = some res) : sG_Uni_join_p60 l D kA u σ xs res := by
  intro x0 x1 x2 hxs w tx
  subst hxs
  obtain ⟨σf, rf, dd⟩ := res
  have hmn : gle σ σf := qG_Uni_join_p60 rec hG σ x0 x1 x2 _ h
  have h : (some (σ, 0, 0)) = some (σf, rf, dd) := h
  intro p e s m args below meth c F Lo mc ms cells slots σ0 w0 tx0 hF hLo hcq hsq hga C
  dsimp only at hF hLo hcq hsq ⊢
  have hcm : cells ≤ mc := by have := hmn.1; omega
  have hsm : slots ≤ ms := by have := hmn.2; omega
  have hle : True := trivial
  have hm : True := trivial
  refine ax_iconst (pc := 60) C 0 d_Uni_join_60 (by decide +kernel) ?_
  cases h
  exact ax_zret (pc := 61) C d_Uni_join_61 rfl ⟨rfl, w, tx, hga, rfl, rfl⟩ hcm hsm
set_option maxHeartbeats 4000000 in
set_option maxRecDepth 100000 in
theorem oG_Uni_join_p62 (l : Launch) (D : va_G) (kA : Nat → ClassId) (u : Nat → Nat) (rec : mF) (hG : GM rec) (ihC : ∀ (w : Nat → Nat) (tx : Value) t σ xs res, rec t σ xs = some res → cSem l D kA u w tx t σ xs res) (ih : ∀ t σ xs res, rec t σ xs = some res → gSem l D kA u t σ xs res) (σ : mS) (xs : List Int32) (res : mR) (h : u_3 (kG_Uni_join_p62 rec σ) xs = some res) : sG_Uni_join_p62 l D kA u σ xs res := by
  intro x0 x1 x2 hxs w tx
  subst hxs
  obtain ⟨σf, rf, dd⟩ := res
  have hmn : gle σ σf := qG_Uni_join_p62 rec hG σ x0 x1 x2 _ h
  have h : (if bin x0 12 = true then (if (σ.2.1 61 (Int32.toNatClampNeg x0)) = (-1) then (rec tG_Uni_join_p77 σ [x0, x1, x2, x0]) else (rec tG_Uni_join_p77 σ [x0, x1, x2, x1])) else none) = some (σf, rf, dd) := h
  intro p e s m args below meth c F Lo mc ms cells slots σ0 w0 tx0 hF hLo hcq hsq hga C
  dsimp only at hF hLo hcq hsq ⊢
  have hcm : cells ≤ mc := by have := hmn.1; omega
  have hsm : slots ≤ ms := by have := hmn.2; omega
  have hle : True := trivial
  have hm : True := trivial
  refine ax_aload_n (pc := 62) C d_Uni_join_62 rfl 0 rfl ?_
  refine cg_59_3_Uni_17 (pc := 63) C d_Uni_join_63 ?_
  refine ax_iload_n (pc := 66) C d_Uni_join_66 rfl 1 rfl ?_
  replace h := it_g h
  obtain ⟨hb, h⟩ := h
  refine cl_61 (pc := 67) C d_Uni_join_67 (bin_in hb) ?_
  refine ax_iconst (pc := 68) C (-1) d_Uni_join_68 (by decide +kernel) ?_
  refine ax_icmp_ne (pc := 69) C 76 d_Uni_join_69 (by decide) (fun hc => ?_) (fun hc => ?_)
  · replace h := it_f hc h
    refine ax_iload_n (pc := 76) C d_Uni_join_76 rfl 2 rfl ?_
    refine ax_ls ([(0, .ref (u 59)), (1, .int x0), (2, .int x1), (3, .int x2)]) [0, 1, 2, 3] rfl ?_
    replace hm : sG_Uni_join_p77 l D kA u σ [x0, x1, x2, x1] (σf, rf, _) := ih tG_Uni_join_p77 _ _ _ h
    exact hm _ _ _ _ rfl w tx p e s m args below meth c F Lo mc ms cells slots σ0 w0 tx0 hF hLo hcq hsq hga C
  · replace h := it_t hc h
    refine ax_iload_n (pc := 72) C d_Uni_join_72 rfl 1 rfl ?_
    refine ax_goto (pc := 73) C 77 d_Uni_join_73 (by decide) ?_
    refine ax_ls ([(0, .ref (u 59)), (1, .int x0), (2, .int x1), (3, .int x2)]) [0, 1, 2, 3] rfl ?_
    replace hm : sG_Uni_join_p77 l D kA u σ [x0, x1, x2, x0] (σf, rf, _) := ih tG_Uni_join_p77 _ _ _ h
    exact hm _ _ _ _ rfl w tx p e s m args below meth c F Lo mc ms cells slots σ0 w0 tx0 hF hLo hcq hsq hga C
set_option maxHeartbeats 4000000 in
set_option maxRecDepth 100000 in
theorem oG_Uni_join_p77 (l : Launch) (D : va_G) (kA : Nat → ClassId) (u : Nat → Nat) (rec : mF) (hG : GM rec) (ihC : ∀ (w : Nat → Nat) (tx : Value) t σ xs res, rec t σ xs = some res → cSem l D kA u w tx t σ xs res) (ih : ∀ t σ xs res, rec t σ xs = some res → gSem l D kA u t σ xs res) (σ : mS) (xs : List Int32) (res : mR) (h : u_4 (kG_Uni_join_p77 rec σ) xs = some res) : sG_Uni_join_p77 l D kA u σ xs res := by
  intro x0 x1 x2 x3 hxs w tx
  subst hxs
  obtain ⟨σf, rf, dd⟩ := res
  have hmn : gle σ σf := qG_Uni_join_p77 rec hG σ x0 x1 x2 x3 _ h
  have h : (rec tG_Uni_join_p90 σ [x0, x1, x2, x3, ((((x0 : Int32) + x1) : Int32) - x3), 0]) = some (σf, rf, dd) := h
  intro p e s m args below meth c F Lo mc ms cells slots σ0 w0 tx0 hF hLo hcq hsq hga C
  dsimp only at hF hLo hcq hsq ⊢
  have hcm : cells ≤ mc := by have := hmn.1; omega
  have hsm : slots ≤ ms := by have := hmn.2; omega
  have hle : True := trivial
  have hm : True := trivial
  refine ax_istore (pc := 77) C d_Uni_join_77 (Nat.le_of_ble_eq_true rfl) ([(4, .int x3), (0, .ref (u 59)), (1, .int x0), (2, .int x1), (3, .int x2)]) rfl ?_
  refine ax_iload_n (pc := 79) C d_Uni_join_79 rfl 2 rfl ?_
  refine ax_iload_n (pc := 80) C d_Uni_join_80 rfl 3 rfl ?_
  refine ax_iadd (pc := 81) C d_Uni_join_81 ?_
  refine ax_iload (pc := 82) C d_Uni_join_82 0 rfl ?_
  refine ax_isub (pc := 84) C d_Uni_join_84 ?_
  refine ax_istore (pc := 85) C d_Uni_join_85 (Nat.le_of_ble_eq_true rfl) ([(5, .int ((((x0 : Int32) + x1) : Int32) - x3)), (4, .int x3), (0, .ref (u 59)), (1, .int x0), (2, .int x1), (3, .int x2)]) rfl ?_
  refine ax_iconst (pc := 87) C 0 d_Uni_join_87 (by decide +kernel) ?_
  refine ax_istore (pc := 88) C d_Uni_join_88 (Nat.le_of_ble_eq_true rfl) ([(6, .int 0), (5, .int ((((x0 : Int32) + x1) : Int32) - x3)), (4, .int x3), (0, .ref (u 59)), (1, .int x0), (2, .int x1), (3, .int x2)]) rfl ?_
  refine ax_ls ([(0, .ref (u 59)), (1, .int x0), (2, .int x1), (3, .int x2), (4, .int x3), (5, .int ((((x0 : Int32) + x1) : Int32) - x3)), (6, .int 0)]) [3, 4, 5, 6, 2, 1, 0] rfl ?_
  replace hm : sG_Uni_join_p90 l D kA u σ [x0, x1, x2, x3, ((((x0 : Int32) + x1) : Int32) - x3), 0] (σf, rf, _) := ih tG_Uni_join_p90 _ _ _ h
  exact hm _ _ _ _ _ _ rfl w tx p e s m args below meth c F Lo mc ms cells slots σ0 w0 tx0 hF hLo hcq hsq hga C
set_option maxHeartbeats 4000000 in
set_option maxRecDepth 100000 in
theorem oG_Uni_join_p90 (l : Launch) (D : va_G) (kA : Nat → ClassId) (u : Nat → Nat) (rec : mF) (hG : GM rec) (ihC : ∀ (w : Nat → Nat) (tx : Value) t σ xs res, rec t σ xs = some res → cSem l D kA u w tx t σ xs res) (ih : ∀ t σ xs res, rec t σ xs = some res → gSem l D kA u t σ xs res) (σ : mS) (xs : List Int32) (res : mR) (h : u_6 (kG_Uni_join_p90 rec σ) xs = some res) : sG_Uni_join_p90 l D kA u σ xs res := by
  intro x0 x1 x2 x3 x4 x5 hxs w tx
  subst hxs
  obtain ⟨σf, rf, dd⟩ := res
  have hmn : gle σ σf := qG_Uni_join_p90 rec hG σ x0 x1 x2 x3 x4 x5 _ h
  have h : (if 12 ≤ x5 then (lt_ (mI σ 5905 (((σ.1 5905) : Int32) &&& ((((1 : Int32) <<< (x3 &&& 31)) : Int32) ^^^ (-1)))) (fun σ1 => if bin x3 12 = true then (if (σ1.2.1 61 (Int32.toNatClampNeg x3)) = (-1) then (rec tG_Uni_join_p198 σ1 [x0, x1, x2, x3, x4, x5]) else (if bin x3 12 = true then (if bin x3 12 = true then (if bin x4 12 = true then (if bin x4 12 = true then (bnd (rec tG_Uni_unite σ1 [(σ1.2.1 61 (Int32.toNatClampNeg x3)), (σ1.2.1 62 (Int32.toNatClampNeg x3)), (σ1.2.1 61 (Int32.toNatClampNeg x4)), (σ1.2.1 62 (Int32.toNatClampNeg x4)), ((x2 : Int32) + 1)]) (fun σ2 r2 => if r2 = 0 then (rec tG_Uni_join_p203 σ2 [x0, x1, x2, x3, x4, x5, 0]) else (rec tG_Uni_join_p198 σ2 [x0, x1, x2, x3, x4, x5]))) else none) else none) else none) else none)) else none)) else (if bin x5 12 = true then (if (σ.2.1 60 (Int32.toNatClampNeg x5)) = x3 then (rec tG_Uni_join_p127 σ [x0, x1, x2, x3, x4, x5, x4, x5]) else (if bin x5 12 = true then (rec tG_Uni_join_p127 σ [x0, x1, x2, x3, x4, x5, (σ.2.1 60 (Int32.toNatClampNeg x5)), x5]) else none)) else none)) = some (σf, rf, dd) := h
  intro p e s m args below meth c F Lo mc ms cells slots σ0 w0 tx0 hF hLo hcq hsq hga C
  dsimp only at hF hLo hcq hsq ⊢
  have hcm : cells ≤ mc := by have := hmn.1; omega
  have hsm : slots ≤ ms := by have := hmn.2; omega
  have hle : True := trivial
  have hm : True := trivial
  refine ax_iload (pc := 90) C d_Uni_join_90 6 rfl ?_
  refine ax_bipush (pc := 92) C 12 d_Uni_join_92 (by decide +kernel) ?_
  refine ax_icmp_ge (pc := 94) C 134 d_Uni_join_94 (by decide) (fun hc => ?_) (fun hc => ?_)
  · replace h := it_t hc h
    refine ax_aload_n (pc := 134) C d_Uni_join_134 rfl 0 rfl ?_
    refine ax_dup (pc := 135) C d_Uni_join_135 rfl ?_
    refine cg_59_5_Uni_43 (pc := 136) C d_Uni_join_136 ?_
    refine ax_iconst (pc := 139) C 1 d_Uni_join_139 (by decide +kernel) ?_
    refine ax_iload (pc := 140) C d_Uni_join_140 4 rfl ?_
    refine ax_ishl (pc := 142) C d_Uni_join_142 ?_
    refine ax_iconst (pc := 143) C (-1) d_Uni_join_143 (by decide +kernel) ?_
    refine ax_ixor (pc := 144) C d_Uni_join_144 ?_
    refine ax_iand (pc := 145) C d_Uni_join_145 ?_
    refine cq_59_5_Uni_43 (pc := 146) C d_Uni_join_146 ?_
    replace h := it_l h
    replace hcq : cells + σf.2.2 3001 ≤ mc + (mI σ 5905 (((σ.1 5905) : Int32) &&& ((((1 : Int32) <<< (x3 &&& 31)) : Int32) ^^^ (-1)))).2.2 3001 := hcq
    replace hsq : slots + σf.2.2 3002 ≤ ms + (mI σ 5905 (((σ.1 5905) : Int32) &&& ((((1 : Int32) <<< (x3 &&& 31)) : Int32) ^^^ (-1)))).2.2 3002 := hsq
    generalize mI σ 5905 (((σ.1 5905) : Int32) &&& ((((1 : Int32) <<< (x3 &&& 31)) : Int32) ^^^ (-1))) = σ1 at h hcq hsq ⊢
    refine ax_aload_n (pc := 149) C d_Uni_join_149 rfl 0 rfl ?_
    refine cg_59_3_Uni_17 (pc := 150) C d_Uni_join_150 ?_
    refine ax_iload (pc := 153) C d_Uni_join_153 4 rfl ?_
    replace h := it_g h
    obtain ⟨hb, h⟩ := h
    refine cl_61 (pc := 155) C d_Uni_join_155 (bin_in hb) ?_
    refine ax_iconst (pc := 156) C (-1) d_Uni_join_156 (by decide +kernel) ?_
    refine ax_icmp_eq (pc := 157) C 198 d_Uni_join_157 (by decide) (fun hc => ?_) (fun hc => ?_)
    · replace h := it_t hc h
      refine ax_ls ([(0, .ref (u 59)), (1, .int x0), (2, .int x1), (3, .int x2), (4, .int x3), (5, .int x4), (6, .int x5)]) [0, 1, 2, 3, 4, 5, 6] rfl ?_
      replace hm : sG_Uni_join_p198 l D kA u σ1 [x0, x1, x2, x3, x4, x5] (σf, rf, _) := ih tG_Uni_join_p198 _ _ _ h
      exact hm _ _ _ _ _ _ rfl w tx p e s m args below meth c F Lo mc ms cells slots σ0 w0 tx0 hF hLo hcq hsq hga C
    · replace h := it_f hc h
      refine ax_aload_n (pc := 160) C d_Uni_join_160 rfl 0 rfl ?_
      refine ax_aload_n (pc := 161) C d_Uni_join_161 rfl 0 rfl ?_
      refine cg_59_3_Uni_17 (pc := 162) C d_Uni_join_162 ?_
      refine ax_iload (pc := 165) C d_Uni_join_165 4 rfl ?_
      replace h := it_g h
      obtain ⟨hb, h⟩ := h
      refine cl_61 (pc := 167) C d_Uni_join_167 (bin_in hb) ?_
      refine ax_aload_n (pc := 168) C d_Uni_join_168 rfl 0 rfl ?_
      refine cg_59_4_Uni_20 (pc := 169) C d_Uni_join_169 ?_
      refine ax_iload (pc := 172) C d_Uni_join_172 4 rfl ?_
      replace h := it_g h
      obtain ⟨hb, h⟩ := h
      refine cl_62 (pc := 174) C d_Uni_join_174 (bin_in hb) ?_
      refine ax_aload_n (pc := 175) C d_Uni_join_175 rfl 0 rfl ?_
      refine cg_59_3_Uni_17 (pc := 176) C d_Uni_join_176 ?_
      refine ax_iload (pc := 179) C d_Uni_join_179 5 rfl ?_
      replace h := it_g h
      obtain ⟨hb, h⟩ := h
      refine cl_61 (pc := 181) C d_Uni_join_181 (bin_in hb) ?_
      refine ax_aload_n (pc := 182) C d_Uni_join_182 rfl 0 rfl ?_
      refine cg_59_4_Uni_20 (pc := 183) C d_Uni_join_183 ?_
      refine ax_iload (pc := 186) C d_Uni_join_186 5 rfl ?_
      replace h := it_g h
      obtain ⟨hb, h⟩ := h
      refine cl_62 (pc := 188) C d_Uni_join_188 (bin_in hb) ?_
      refine ax_iload_n (pc := 189) C d_Uni_join_189 rfl 3 rfl ?_
      refine ax_iconst (pc := 190) C 1 d_Uni_join_190 (by decide +kernel) ?_
      refine ax_iadd (pc := 191) C d_Uni_join_191 ?_
      replace h := it_b h
      obtain ⟨σ2, r2, d1_2, d2_2, h1, h, hd2, hd1⟩ := h
      replace hle := hG _ _ _ _ (by decide) h1
      dsimp only at hle
      replace hmn : gle σ2 σf := gm_use h (gm_if (gm_tail hG (Nat.le_of_ble_eq_true rfl)) (gm_tail hG (Nat.le_of_ble_eq_true rfl)))
      replace hm : sG_Uni_unite l D kA u σ1 [(σ1.2.1 61 (Int32.toNatClampNeg x3)), (σ1.2.1 62 (Int32.toNatClampNeg x3)), (σ1.2.1 61 (Int32.toNatClampNeg x4)), (σ1.2.1 62 (Int32.toNatClampNeg x4)), ((x2 : Int32) + 1)] (σ2, r2, d1_2) := ih tG_Uni_unite _ _ _ h1
      refine gc_Vi (pc := 192) C (As := [.int (σ1.2.1 61 (Int32.toNatClampNeg x3)), .int (σ1.2.1 62 (Int32.toNatClampNeg x3)), .int (σ1.2.1 61 (Int32.toNatClampNeg x4)), .int (σ1.2.1 62 (Int32.toNatClampNeg x4)), .int ((x2 : Int32) + 1)]) (rest := []) (hm _ _ _ _ _ rfl w tx) ml_Uni_90 59 rfl rfl rfl d_Uni_join_192 rfl rfl (by dsimp only; omega) (by dsimp only; omega) (by have := hmn.1; have := hle.1; dsimp only; omega) (by have := hmn.2; have := hle.2; dsimp only; omega) (Nat.le_of_ble_eq_true rfl) (fun r9 w1 hw => ?_)
      obtain ⟨hrq2, w2, tx2, hag2, htq2, hwq2⟩ := hw
      dsimp only at hwq2 hrq2
      subst hwq2
      replace hrq2 := hrq2.symm
      subst hrq2
      dsimp only
      replace htq2 := htq2.symm
      subst htq2
      have hga2 : ∀ i, ([65] : List Nat).elem i = false → w2 i = w0 i := fun i hi => (hag2 i (by revert hi; exact el_sub (by decide))).trans (hga i hi)
      replace hcq : (cells + (σ2.2.2 3001 - σ1.2.2 3001)) + σf.2.2 3001 ≤ mc + σ2.2.2 3001 := by have := hmn.1; have := hle.1; omega
      replace hcm : (cells + (σ2.2.2 3001 - σ1.2.2 3001)) ≤ mc := by have := hmn.1; have := hle.1; omega
      generalize cells + (σ2.2.2 3001 - σ1.2.2 3001) = cells at hcq hcm ⊢
      replace hsq : (slots + (σ2.2.2 3002 - σ1.2.2 3002)) + σf.2.2 3002 ≤ ms + σ2.2.2 3002 := by have := hmn.2; have := hle.2; omega
      replace hsm : (slots + (σ2.2.2 3002 - σ1.2.2 3002)) ≤ ms := by have := hmn.2; have := hle.2; omega
      generalize slots + (σ2.2.2 3002 - σ1.2.2 3002) = slots at hsq hsm ⊢
      replace hF : d2_2 + 3 ≤ F := by omega
      replace hLo : 48 * d2_2 + 144 ≤ Lo := by omega
      refine ax_if_eq (pc := 195) C 202 d_Uni_join_195 (by decide) (fun hc => ?_) (fun hc => ?_)
      · replace h := it_t hc h
        refine ax_iconst (pc := 202) C 0 d_Uni_join_202 (by decide +kernel) ?_
        refine ax_ls ([(0, .ref (u 59)), (1, .int x0), (2, .int x1), (3, .int x2), (4, .int x3), (5, .int x4), (6, .int x5)]) [0, 1, 2, 3, 4, 5, 6] rfl ?_
        replace hm : sG_Uni_join_p203 l D kA u σ2 [x0, x1, x2, x3, x4, x5, 0] (σf, rf, _) := ih tG_Uni_join_p203 _ _ _ h
        exact hm _ _ _ _ _ _ _ rfl w2 tx p e s m args below meth c F Lo mc ms cells slots σ0 w0 tx0 hF hLo hcq hsq hga2 C
      · replace h := it_f hc h
        refine ax_ls ([(0, .ref (u 59)), (1, .int x0), (2, .int x1), (3, .int x2), (4, .int x3), (5, .int x4), (6, .int x5)]) [0, 1, 2, 3, 4, 5, 6] rfl ?_
        replace hm : sG_Uni_join_p198 l D kA u σ2 [x0, x1, x2, x3, x4, x5] (σf, rf, _) := ih tG_Uni_join_p198 _ _ _ h
        exact hm _ _ _ _ _ _ rfl w2 tx p e s m args below meth c F Lo mc ms cells slots σ0 w0 tx0 hF hLo hcq hsq hga2 C
  · replace h := it_f hc h
    refine ax_aload_n (pc := 97) C d_Uni_join_97 rfl 0 rfl ?_
    refine cg_59_2_Uni_13 (pc := 98) C d_Uni_join_98 ?_
    refine ax_iload (pc := 101) C d_Uni_join_101 6 rfl ?_
    refine ax_aload_n (pc := 103) C d_Uni_join_103 rfl 0 rfl ?_
    refine cg_59_2_Uni_13 (pc := 104) C d_Uni_join_104 ?_
    refine ax_iload (pc := 107) C d_Uni_join_107 6 rfl ?_
    replace h := it_g h
    obtain ⟨hb, h⟩ := h
    refine cl_60 (pc := 109) C d_Uni_join_109 (bin_in hb) ?_
    refine ax_iload (pc := 110) C d_Uni_join_110 4 rfl ?_
    refine ax_icmp_ne (pc := 112) C 120 d_Uni_join_112 (by decide) (fun hc => ?_) (fun hc => ?_)
    · replace h := it_f hc h
      refine ax_aload_n (pc := 120) C d_Uni_join_120 rfl 0 rfl ?_
      refine cg_59_2_Uni_13 (pc := 121) C d_Uni_join_121 ?_
      refine ax_iload (pc := 124) C d_Uni_join_124 6 rfl ?_
      replace h := it_g h
      obtain ⟨hb, h⟩ := h
      refine cl_60 (pc := 126) C d_Uni_join_126 (bin_in hb) ?_
      refine ax_ls ([(0, .ref (u 59)), (1, .int x0), (2, .int x1), (3, .int x2), (4, .int x3), (5, .int x4), (6, .int x5)]) [0, 1, 2, 3, 4, 5, 6] rfl ?_
      replace hm : sG_Uni_join_p127 l D kA u σ [x0, x1, x2, x3, x4, x5, (σ.2.1 60 (Int32.toNatClampNeg x5)), x5] (σf, rf, _) := ih tG_Uni_join_p127 _ _ _ h
      exact hm _ _ _ _ _ _ _ _ rfl w tx p e s m args below meth c F Lo mc ms cells slots σ0 w0 tx0 hF hLo hcq hsq hga C
    · replace h := it_t hc h
      refine ax_iload (pc := 115) C d_Uni_join_115 5 rfl ?_
      refine ax_goto (pc := 117) C 127 d_Uni_join_117 (by decide) ?_
      refine ax_ls ([(0, .ref (u 59)), (1, .int x0), (2, .int x1), (3, .int x2), (4, .int x3), (5, .int x4), (6, .int x5)]) [0, 1, 2, 3, 4, 5, 6] rfl ?_
      replace hm : sG_Uni_join_p127 l D kA u σ [x0, x1, x2, x3, x4, x5, x4, x5] (σf, rf, _) := ih tG_Uni_join_p127 _ _ _ h
      exact hm _ _ _ _ _ _ _ _ rfl w tx p e s m args below meth c F Lo mc ms cells slots σ0 w0 tx0 hF hLo hcq hsq hga C
set_option maxHeartbeats 4000000 in
set_option maxRecDepth 100000 in
theorem oG_Uni_join_p127 (l : Launch) (D : va_G) (kA : Nat → ClassId) (u : Nat → Nat) (rec : mF) (hG : GM rec) (ihC : ∀ (w : Nat → Nat) (tx : Value) t σ xs res, rec t σ xs = some res → cSem l D kA u w tx t σ xs res) (ih : ∀ t σ xs res, rec t σ xs = some res → gSem l D kA u t σ xs res) (σ : mS) (xs : List Int32) (res : mR) (h : u_8 (kG_Uni_join_p127 rec σ) xs = some res) : sG_Uni_join_p127 l D kA u σ xs res := by
  intro x0 x1 x2 x3 x4 x5 x6 x7 hxs w tx
  subst hxs
  obtain ⟨σf, rf, dd⟩ := res
  have hmn : gle σ σf := qG_Uni_join_p127 rec hG σ x0 x1 x2 x3 x4 x5 x6 x7 _ h
  have h : (if bin x7 12 = true then (lt_ (mA σ 60 (Int32.toNatClampNeg x7) x6) (fun σ1 => rec tG_Uni_join_p90 σ1 [x0, x1, x2, x3, x4, (x5 + 1)])) else none) = some (σf, rf, dd) := h
  intro p e s m args below meth c F Lo mc ms cells slots σ0 w0 tx0 hF hLo hcq hsq hga C
  dsimp only at hF hLo hcq hsq ⊢
  have hcm : cells ≤ mc := by have := hmn.1; omega
  have hsm : slots ≤ ms := by have := hmn.2; omega
  have hle : True := trivial
  have hm : True := trivial
  replace h := it_g h
  obtain ⟨hb, h⟩ := h
  refine cs_60 (pc := 127) C d_Uni_join_127 (bin_in hb) ?_
  replace h := it_l h
  replace hcq : cells + σf.2.2 3001 ≤ mc + (mA σ 60 (Int32.toNatClampNeg x7) x6).2.2 3001 := hcq
  replace hsq : slots + σf.2.2 3002 ≤ ms + (mA σ 60 (Int32.toNatClampNeg x7) x6).2.2 3002 := hsq
  generalize mA σ 60 (Int32.toNatClampNeg x7) x6 = σ1 at h hcq hsq ⊢
  refine ax_iinc (pc := 128) C (x5 + 1) d_Uni_join_128 6 rfl rfl (Nat.le_of_ble_eq_true rfl) ([(6, .int (x5 + 1)), (0, .ref (u 59)), (1, .int x0), (2, .int x1), (3, .int x2), (4, .int x3), (5, .int x4)]) rfl ?_
  refine ax_goto (pc := 131) C 90 d_Uni_join_131 (by decide) ?_
  refine ax_ls ([(0, .ref (u 59)), (1, .int x0), (2, .int x1), (3, .int x2), (4, .int x3), (5, .int x4), (6, .int (x5 + 1))]) [1, 2, 3, 4, 5, 6, 0] rfl ?_
  replace hm : sG_Uni_join_p90 l D kA u σ1 [x0, x1, x2, x3, x4, (x5 + 1)] (σf, rf, _) := ih tG_Uni_join_p90 _ _ _ h
  exact hm _ _ _ _ _ _ rfl w tx p e s m args below meth c F Lo mc ms cells slots σ0 w0 tx0 hF hLo hcq hsq hga C
set_option maxHeartbeats 4000000 in
set_option maxRecDepth 100000 in
theorem oG_Uni_join_p198 (l : Launch) (D : va_G) (kA : Nat → ClassId) (u : Nat → Nat) (rec : mF) (hG : GM rec) (ihC : ∀ (w : Nat → Nat) (tx : Value) t σ xs res, rec t σ xs = some res → cSem l D kA u w tx t σ xs res) (ih : ∀ t σ xs res, rec t σ xs = some res → gSem l D kA u t σ xs res) (σ : mS) (xs : List Int32) (res : mR) (h : u_6 (kG_Uni_join_p198 rec σ) xs = some res) : sG_Uni_join_p198 l D kA u σ xs res := by
  intro x0 x1 x2 x3 x4 x5 hxs w tx
  subst hxs
  obtain ⟨σf, rf, dd⟩ := res
  have hmn : gle σ σf := qG_Uni_join_p198 rec hG σ x0 x1 x2 x3 x4 x5 _ h
  have h : (rec tG_Uni_join_p203 σ [x0, x1, x2, x3, x4, x5, 1]) = some (σf, rf, dd) := h
  intro p e s m args below meth c F Lo mc ms cells slots σ0 w0 tx0 hF hLo hcq hsq hga C
  dsimp only at hF hLo hcq hsq ⊢
  have hcm : cells ≤ mc := by have := hmn.1; omega
  have hsm : slots ≤ ms := by have := hmn.2; omega
  have hle : True := trivial
  have hm : True := trivial
  refine ax_iconst (pc := 198) C 1 d_Uni_join_198 (by decide +kernel) ?_
  refine ax_goto (pc := 199) C 203 d_Uni_join_199 (by decide) ?_
  refine ax_ls ([(0, .ref (u 59)), (1, .int x0), (2, .int x1), (3, .int x2), (4, .int x3), (5, .int x4), (6, .int x5)]) [0, 1, 2, 3, 4, 5, 6] rfl ?_
  replace hm : sG_Uni_join_p203 l D kA u σ [x0, x1, x2, x3, x4, x5, 1] (σf, rf, _) := ih tG_Uni_join_p203 _ _ _ h
  exact hm _ _ _ _ _ _ _ rfl w tx p e s m args below meth c F Lo mc ms cells slots σ0 w0 tx0 hF hLo hcq hsq hga C
set_option maxHeartbeats 4000000 in
set_option maxRecDepth 100000 in
theorem oG_Uni_join_p203 (l : Launch) (D : va_G) (kA : Nat → ClassId) (u : Nat → Nat) (rec : mF) (hG : GM rec) (ihC : ∀ (w : Nat → Nat) (tx : Value) t σ xs res, rec t σ xs = some res → cSem l D kA u w tx t σ xs res) (ih : ∀ t σ xs res, rec t σ xs = some res → gSem l D kA u t σ xs res) (σ : mS) (xs : List Int32) (res : mR) (h : u_7 (kG_Uni_join_p203 rec σ) xs = some res) : sG_Uni_join_p203 l D kA u σ xs res := by
  intro x0 x1 x2 x3 x4 x5 x6 hxs w tx
  subst hxs
  obtain ⟨σf, rf, dd⟩ := res
  have hmn : gle σ σf := qG_Uni_join_p203 rec hG σ x0 x1 x2 x3 x4 x5 x6 _ h
  have h : (if x6 = 0 ∨ x6 = 1 then some (σ, x6, 0) else none) = some (σf, rf, dd) := h
  intro p e s m args below meth c F Lo mc ms cells slots σ0 w0 tx0 hF hLo hcq hsq hga C
  dsimp only at hF hLo hcq hsq ⊢
  have hcm : cells ≤ mc := by have := hmn.1; omega
  have hsm : slots ≤ ms := by have := hmn.2; omega
  have hle : True := trivial
  have hm : True := trivial
  replace h := it_g h
  obtain ⟨hb, h⟩ := h
  cases h
  exact ax_zret (pc := 203) C d_Uni_join_203 (nb01 hb) ⟨rfl, w, tx, hga, rfl, rfl⟩ hcm hsm
set_option maxHeartbeats 4000000 in
set_option maxRecDepth 100000 in
theorem oG_Uni_meet (l : Launch) (D : va_G) (kA : Nat → ClassId) (u : Nat → Nat) (rec : mF) (hG : GM rec) (ihC : ∀ (w : Nat → Nat) (tx : Value) t σ xs res, rec t σ xs = some res → cSem l D kA u w tx t σ xs res) (ih : ∀ t σ xs res, rec t σ xs = some res → gSem l D kA u t σ xs res) (σ : mS) (xs : List Int32) (res : mR) (h : u_4 (kG_Uni_meet rec σ) xs = some res) : sG_Uni_meet l D kA u σ xs res := by
  intro x0 x1 x2 x3 hxs w tx
  subst hxs
  obtain ⟨σf, rf, dd⟩ := res
  have hmn : gle σ σf := qG_Uni_meet rec hG σ x0 x1 x2 x3 _ h
  have h : (if bin x0 12 = true then (if (σ.2.1 61 (Int32.toNatClampNeg x0)) = (-1) then (if bin x1 (σ.2.2 48) = true then (bnd (rec tC_Sym_isPredicate σ [(σ.2.1 48 (Int32.toNatClampNeg x1))]) (fun σ1 r1 => if r1 = 0 then (bnd (rec tC_Uni_occurs σ1 [x0, x1, x2]) (fun σ2 r2 => if r2 = 0 then (if bin x0 12 = true then (lt_ (mA σ2 61 (Int32.toNatClampNeg x0) x1) (fun σ3 => if bin x0 12 = true then (lt_ (mA σ3 62 (Int32.toNatClampNeg x0) x2) (fun σ4 => lt_ (mI σ4 5905 (((σ4.1 5905) : Int32) ||| ((1 : Int32) <<< (x0 &&& 31)))) (fun σ5 => some (σ5, 1, 0)))) else none)) else none) else (rec tG_Uni_meet_p39 σ2 [x0, x1, x2, x3]))) else (rec tG_Uni_meet_p39 σ1 [x0, x1, x2, x3]))) else none) else (if x2 = 0 then (rec tG_Uni_meet_p78 σ [x0, x1, x2, x3, 0]) else (rec tG_Uni_meet_p78 σ [x0, x1, x2, x3, 1]))) else none) = some (σf, rf, dd) := h
  refine ax_Mi.of (by decide +kernel) (Nat.le_of_ble_eq_true rfl) ?_
  intro p e s m args below meth c C hnm
  replace C : ax_C p s m args meth c b_Uni_meet "ClauseProver$Unifier" 7 (some .boolean) D kA (va_A (cpW kA u w tx σ) s.heap.size) := C
  obtain ⟨F, hFe⟩ : ∃ z, z = dd + 3 := ⟨_, rfl⟩
  obtain ⟨Lo, hLoe⟩ : ∃ z, z = 48 * dd + 144 := ⟨_, rfl⟩
  obtain ⟨mc, hmce⟩ : ∃ z, z = σf.2.2 3001 - σ.2.2 3001 := ⟨_, rfl⟩
  obtain ⟨ms, hmse⟩ : ∃ z, z = σf.2.2 3002 - σ.2.2 3002 := ⟨_, rfl⟩
  obtain ⟨σ0, hσ0e⟩ : ∃ z, z = σ := ⟨_, rfl⟩
  obtain ⟨w0, hw0e⟩ : ∃ z, z = w := ⟨_, rfl⟩
  obtain ⟨tx0, htx0e⟩ : ∃ z, z = tx := ⟨_, rfl⟩
  suffices K : ∀ (cells slots : Nat), cells = 0 → slots = 0 → AW p l e { frames := F, cells := mc, slots := ms, locals := Lo } s m args below meth c D kA (va_A (cpW kA u w0 tx0 σ0) s.heap.size) 7 (ax_Qi below args s D kA (cpW kA u w0 tx0 σ0) mc ms (fun r w1 => r = rf ∧ ∃ (w2 : Nat → Nat) (tx2 : Value), (∀ i, ([65] : List Nat).elem i = false → w2 i = w0 i) ∧ tx2 = tx0 ∧ w1 = cpW kA u w2 tx2 σf)) 0 [(0, .ref (u 59)), (1, .int x0), (2, .int x1), (3, .int x2), (4, .int x3)] [] (cpW kA u w tx σ) cells slots by
    have K := K 0 0 rfl rfl
    rw [hFe, hLoe, hmce, hmse, hσ0e, hw0e, htx0e] at K
    exact ax_ls ([(0, .ref (u 59)), (1, .int x0), (2, .int x1), (3, .int x2), (4, .int x3)]) [0, 1, 2, 3, 4] rfl K
  replace C : ax_C p s m args meth c b_Uni_meet "ClauseProver$Unifier" 7 (some .boolean) D kA (va_A (cpW kA u w0 tx0 σ0) s.heap.size) := by rw [hσ0e, hw0e, htx0e]; exact C
  intro cells slots hc0 hs0
  have hcq : cells + σf.2.2 3001 ≤ mc + σ.2.2 3001 := by have := hmn.1; omega
  have hsq : slots + σf.2.2 3002 ≤ ms + σ.2.2 3002 := by have := hmn.2; omega
  have hga : ∀ i, ([65] : List Nat).elem i = false → w i = w0 i := fun i _ => by rw [hw0e]
  have e9 : tx = tx0 := htx0e.symm
  subst e9
  have hF : dd + 3 ≤ F := by omega
  have hLo : 48 * dd + 144 ≤ Lo := by omega
  have hcm : cells ≤ mc := by have := hmn.1; omega
  have hsm : slots ≤ ms := by have := hmn.2; omega
  have hle : True := trivial
  have hm : True := trivial
  refine ax_aload_n (pc := 0) C d_Uni_meet_0 rfl 0 rfl ?_
  refine cg_59_3_Uni_17 (pc := 1) C d_Uni_meet_1 ?_
  refine ax_iload_n (pc := 4) C d_Uni_meet_4 rfl 1 rfl ?_
  replace h := it_g h
  obtain ⟨hb, h⟩ := h
  refine cl_61 (pc := 5) C d_Uni_meet_5 (bin_in hb) ?_
  refine ax_iconst (pc := 6) C (-1) d_Uni_meet_6 (by decide +kernel) ?_
  refine ax_icmp_ne (pc := 7) C 69 d_Uni_meet_7 (by decide) (fun hc => ?_) (fun hc => ?_)
  · replace h := it_f hc h
    refine ax_iload_n (pc := 69) C d_Uni_meet_69 rfl 3 rfl ?_
    refine ax_if_ne (pc := 70) C 77 d_Uni_meet_70 (by decide) (fun hc => ?_) (fun hc => ?_)
    · replace h := it_f hc h
      refine ax_iconst (pc := 77) C 1 d_Uni_meet_77 (by decide +kernel) ?_
      refine ax_ls ([(0, .ref (u 59)), (1, .int x0), (2, .int x1), (3, .int x2), (4, .int x3)]) [0, 1, 2, 3, 4] rfl ?_
      replace hm : sG_Uni_meet_p78 l D kA u σ [x0, x1, x2, x3, 1] (σf, rf, _) := ih tG_Uni_meet_p78 _ _ _ h
      exact hm _ _ _ _ _ rfl w tx p e s m args below meth c F Lo mc ms cells slots σ0 w0 tx hF hLo hcq hsq hga C
    · replace h := it_t hc h
      refine ax_iconst (pc := 73) C 0 d_Uni_meet_73 (by decide +kernel) ?_
      refine ax_goto (pc := 74) C 78 d_Uni_meet_74 (by decide) ?_
      refine ax_ls ([(0, .ref (u 59)), (1, .int x0), (2, .int x1), (3, .int x2), (4, .int x3)]) [0, 1, 2, 3, 4] rfl ?_
      replace hm : sG_Uni_meet_p78 l D kA u σ [x0, x1, x2, x3, 0] (σf, rf, _) := ih tG_Uni_meet_p78 _ _ _ h
      exact hm _ _ _ _ _ rfl w tx p e s m args below meth c F Lo mc ms cells slots σ0 w0 tx hF hLo hcq hsq hga C
  · replace h := it_t hc h
    refine ax_aload_n (pc := 10) C d_Uni_meet_10 rfl 0 rfl ?_
    refine cg_59_0_Uni_36 (pc := 11) C d_Uni_meet_11 ?_
    refine ax_aload_n (pc := 14) C d_Uni_meet_14 rfl 0 rfl ?_
    refine cg_59_1_Uni_40 (pc := 15) C d_Uni_meet_15 ?_
    refine cg_47_0_Uni_56 (pc := 18) C d_Uni_meet_18 ?_
    refine ax_iload_n (pc := 21) C d_Uni_meet_21 rfl 2 rfl ?_
    replace h := it_g h
    obtain ⟨hb, h⟩ := h
    refine cl_48 (pc := 22) C d_Uni_meet_22 (bin_in hb) ?_
    replace h := it_b h
    obtain ⟨σ1, r1, d1_1, d2_1, h1, h, hd2, hd1⟩ := h
    replace hle := hG _ _ _ _ (by decide) h1
    dsimp only at hle
    replace hmn : gle σ1 σf := gm_use h (gm_if (gm_bnd hG (Nat.le_of_ble_eq_true rfl) (fun _ _ => (gm_if (gm_if (gm_lt ⟨Nat.le_refl _, Nat.le_refl _, rfl⟩ (gm_if (gm_lt ⟨Nat.le_refl _, Nat.le_refl _, rfl⟩ (gm_lt ⟨Nat.le_refl _, Nat.le_refl _, rfl⟩ gm_some)) gm_none)) gm_none) (gm_tail hG (Nat.le_of_ble_eq_true rfl))))) (gm_tail hG (Nat.le_of_ble_eq_true rfl)))
    replace hm : sC_Sym_isPredicate l D kA u w tx σ [(σ.2.1 48 (Int32.toNatClampNeg x1))] (σ1, r1, d1_1) := ihC _ _ tC_Sym_isPredicate _ _ _ h1
    refine cc_Vi (pc := 23) C (r0 := r1) (σ2 := σ1) (As := [.int (σ.2.1 48 (Int32.toNatClampNeg x1))]) (rest := []) (hm _ rfl) ml_Uni_80 6 rfl rfl rfl d_Uni_meet_23 rfl rfl (by dsimp only; omega) (by dsimp only; omega) hcm hsm (Nat.le_of_ble_eq_true rfl) ?_
    replace hcq : cells + σf.2.2 3001 ≤ mc + σ1.2.2 3001 := by have := hle.1; omega
    replace hsq : slots + σf.2.2 3002 ≤ ms + σ1.2.2 3002 := by have := hle.2; omega
    replace hF : d2_1 + 3 ≤ F := by omega
    replace hLo : 48 * d2_1 + 144 ≤ Lo := by omega
    refine ax_if_ne (pc := 26) C 39 d_Uni_meet_26 (by decide) (fun hc => ?_) (fun hc => ?_)
    · replace h := it_f hc h
      refine ax_ls ([(0, .ref (u 59)), (1, .int x0), (2, .int x1), (3, .int x2), (4, .int x3)]) [0, 1, 2, 3, 4] rfl ?_
      replace hm : sG_Uni_meet_p39 l D kA u σ1 [x0, x1, x2, x3] (σf, rf, _) := ih tG_Uni_meet_p39 _ _ _ h
      exact hm _ _ _ _ rfl w tx p e s m args below meth c F Lo mc ms cells slots σ0 w0 tx hF hLo hcq hsq hga C
    · replace h := it_t hc h
      refine ax_aload_n (pc := 29) C d_Uni_meet_29 rfl 0 rfl ?_
      refine ax_iload_n (pc := 30) C d_Uni_meet_30 rfl 1 rfl ?_
      refine ax_iload_n (pc := 31) C d_Uni_meet_31 rfl 2 rfl ?_
      refine ax_iload_n (pc := 32) C d_Uni_meet_32 rfl 3 rfl ?_
      replace h := it_b h
      obtain ⟨σ2, r2, d1_2, d2_2, h1, h, hd2, hd1⟩ := h
      replace hle := hG _ _ _ _ (by decide) h1
      dsimp only at hle
      replace hmn : gle σ2 σf := gm_use h (gm_if (gm_if (gm_lt ⟨Nat.le_refl _, Nat.le_refl _, rfl⟩ (gm_if (gm_lt ⟨Nat.le_refl _, Nat.le_refl _, rfl⟩ (gm_lt ⟨Nat.le_refl _, Nat.le_refl _, rfl⟩ gm_some)) gm_none)) gm_none) (gm_tail hG (Nat.le_of_ble_eq_true rfl)))
      replace hm : sC_Uni_occurs l D kA u w tx σ1 [x0, x1, x2] (σ2, r2, d1_2) := ihC _ _ tC_Uni_occurs _ _ _ h1
      refine cc_Vi (pc := 33) C (r0 := r2) (σ2 := σ2) (As := [.int x0, .int x1, .int x2]) (rest := []) (hm _ _ _ rfl) ml_Uni_84 59 rfl rfl rfl d_Uni_meet_33 rfl rfl (by dsimp only; omega) (by dsimp only; omega) hcm hsm (Nat.le_of_ble_eq_true rfl) ?_
      replace hcq : cells + σf.2.2 3001 ≤ mc + σ2.2.2 3001 := by have := hle.1; omega
      replace hsq : slots + σf.2.2 3002 ≤ ms + σ2.2.2 3002 := by have := hle.2; omega
      replace hF : d2_2 + 3 ≤ F := by omega
      replace hLo : 48 * d2_2 + 144 ≤ Lo := by omega
      refine ax_if_eq (pc := 36) C 41 d_Uni_meet_36 (by decide) (fun hc => ?_) (fun hc => ?_)
      · replace h := it_t hc h
        refine ax_aload_n (pc := 41) C d_Uni_meet_41 rfl 0 rfl ?_
        refine cg_59_3_Uni_17 (pc := 42) C d_Uni_meet_42 ?_
        refine ax_iload_n (pc := 45) C d_Uni_meet_45 rfl 1 rfl ?_
        refine ax_iload_n (pc := 46) C d_Uni_meet_46 rfl 2 rfl ?_
        replace h := it_g h
        obtain ⟨hb, h⟩ := h
        refine cs_61 (pc := 47) C d_Uni_meet_47 (bin_in hb) ?_
        replace h := it_l h
        replace hcq : cells + σf.2.2 3001 ≤ mc + (mA σ2 61 (Int32.toNatClampNeg x0) x1).2.2 3001 := hcq
        replace hsq : slots + σf.2.2 3002 ≤ ms + (mA σ2 61 (Int32.toNatClampNeg x0) x1).2.2 3002 := hsq
        generalize mA σ2 61 (Int32.toNatClampNeg x0) x1 = σ3 at h hcq hsq ⊢
        refine ax_aload_n (pc := 48) C d_Uni_meet_48 rfl 0 rfl ?_
        refine cg_59_4_Uni_20 (pc := 49) C d_Uni_meet_49 ?_
        refine ax_iload_n (pc := 52) C d_Uni_meet_52 rfl 1 rfl ?_
        refine ax_iload_n (pc := 53) C d_Uni_meet_53 rfl 3 rfl ?_
        replace h := it_g h
        obtain ⟨hb, h⟩ := h
        refine cs_62 (pc := 54) C d_Uni_meet_54 (bin_in hb) ?_
        replace h := it_l h
        replace hcq : cells + σf.2.2 3001 ≤ mc + (mA σ3 62 (Int32.toNatClampNeg x0) x2).2.2 3001 := hcq
        replace hsq : slots + σf.2.2 3002 ≤ ms + (mA σ3 62 (Int32.toNatClampNeg x0) x2).2.2 3002 := hsq
        generalize mA σ3 62 (Int32.toNatClampNeg x0) x2 = σ4 at h hcq hsq ⊢
        refine ax_aload_n (pc := 55) C d_Uni_meet_55 rfl 0 rfl ?_
        refine ax_dup (pc := 56) C d_Uni_meet_56 rfl ?_
        refine cg_59_5_Uni_43 (pc := 57) C d_Uni_meet_57 ?_
        refine ax_iconst (pc := 60) C 1 d_Uni_meet_60 (by decide +kernel) ?_
        refine ax_iload_n (pc := 61) C d_Uni_meet_61 rfl 1 rfl ?_
        refine ax_ishl (pc := 62) C d_Uni_meet_62 ?_
        refine ax_ior (pc := 63) C d_Uni_meet_63 ?_
        refine cq_59_5_Uni_43 (pc := 64) C d_Uni_meet_64 ?_
        replace h := it_l h
        replace hcq : cells + σf.2.2 3001 ≤ mc + (mI σ4 5905 (((σ4.1 5905) : Int32) ||| ((1 : Int32) <<< (x0 &&& 31)))).2.2 3001 := hcq
        replace hsq : slots + σf.2.2 3002 ≤ ms + (mI σ4 5905 (((σ4.1 5905) : Int32) ||| ((1 : Int32) <<< (x0 &&& 31)))).2.2 3002 := hsq
        generalize mI σ4 5905 (((σ4.1 5905) : Int32) ||| ((1 : Int32) <<< (x0 &&& 31))) = σ5 at h hcq hsq ⊢
        refine ax_iconst (pc := 67) C 1 d_Uni_meet_67 (by decide +kernel) ?_
        cases h
        exact ax_zret (pc := 68) C d_Uni_meet_68 rfl ⟨rfl, w, tx, hga, rfl, rfl⟩ hcm hsm
      · replace h := it_f hc h
        refine ax_ls ([(0, .ref (u 59)), (1, .int x0), (2, .int x1), (3, .int x2), (4, .int x3)]) [0, 1, 2, 3, 4] rfl ?_
        replace hm : sG_Uni_meet_p39 l D kA u σ2 [x0, x1, x2, x3] (σf, rf, _) := ih tG_Uni_meet_p39 _ _ _ h
        exact hm _ _ _ _ rfl w tx p e s m args below meth c F Lo mc ms cells slots σ0 w0 tx hF hLo hcq hsq hga C
set_option maxHeartbeats 4000000 in
set_option maxRecDepth 100000 in
theorem oG_Uni_meet_p39 (l : Launch) (D : va_G) (kA : Nat → ClassId) (u : Nat → Nat) (rec : mF) (hG : GM rec) (ihC : ∀ (w : Nat → Nat) (tx : Value) t σ xs res, rec t σ xs = some res → cSem l D kA u w tx t σ xs res) (ih : ∀ t σ xs res, rec t σ xs = some res → gSem l D kA u t σ xs res) (σ : mS) (xs : List Int32) (res : mR) (h : u_4 (kG_Uni_meet_p39 rec σ) xs = some res) : sG_Uni_meet_p39 l D kA u σ xs res := by
  intro x0 x1 x2 x3 hxs w tx
  subst hxs
  obtain ⟨σf, rf, dd⟩ := res
  have hmn : gle σ σf := qG_Uni_meet_p39 rec hG σ x0 x1 x2 x3 _ h
  have h : (some (σ, 0, 0)) = some (σf, rf, dd) := h
  intro p e s m args below meth c F Lo mc ms cells slots σ0 w0 tx0 hF hLo hcq hsq hga C
  dsimp only at hF hLo hcq hsq ⊢
  have hcm : cells ≤ mc := by have := hmn.1; omega
  have hsm : slots ≤ ms := by have := hmn.2; omega
  have hle : True := trivial
  have hm : True := trivial
  refine ax_iconst (pc := 39) C 0 d_Uni_meet_39 (by decide +kernel) ?_
  cases h
  exact ax_zret (pc := 40) C d_Uni_meet_40 rfl ⟨rfl, w, tx, hga, rfl, rfl⟩ hcm hsm
set_option maxHeartbeats 4000000 in
set_option maxRecDepth 100000 in
theorem oG_Uni_meet_p78 (l : Launch) (D : va_G) (kA : Nat → ClassId) (u : Nat → Nat) (rec : mF) (hG : GM rec) (ihC : ∀ (w : Nat → Nat) (tx : Value) t σ xs res, rec t σ xs = some res → cSem l D kA u w tx t σ xs res) (ih : ∀ t σ xs res, rec t σ xs = some res → gSem l D kA u t σ xs res) (σ : mS) (xs : List Int32) (res : mR) (h : u_5 (kG_Uni_meet_p78 rec σ) xs = some res) : sG_Uni_meet_p78 l D kA u σ xs res := by
  intro x0 x1 x2 x3 x4 hxs w tx
  subst hxs
  obtain ⟨σf, rf, dd⟩ := res
  have hmn : gle σ σf := qG_Uni_meet_p78 rec hG σ x0 x1 x2 x3 x4 _ h
  have h : (if x2 = 0 then (rec tG_Uni_meet_p107 σ [x0, x1, x2, x3, x4, (σ.1 5906), ((((((((2 : Int32) * x0) : Int32) + x4) : Int32) * 140) : Int32) + x1)]) else (rec tG_Uni_meet_p107 σ [x0, x1, x2, x3, x4, (σ.1 5907), ((((((((2 : Int32) * x0) : Int32) + x4) : Int32) * 140) : Int32) + x1)])) = some (σf, rf, dd) := h
  intro p e s m args below meth c F Lo mc ms cells slots σ0 w0 tx0 hF hLo hcq hsq hga C
  dsimp only at hF hLo hcq hsq ⊢
  have hcm : cells ≤ mc := by have := hmn.1; omega
  have hsm : slots ≤ ms := by have := hmn.2; omega
  have hle : True := trivial
  have hm : True := trivial
  refine ax_istore (pc := 78) C d_Uni_meet_78 (Nat.le_of_ble_eq_true rfl) ([(5, .int x4), (0, .ref (u 59)), (1, .int x0), (2, .int x1), (3, .int x2), (4, .int x3)]) rfl ?_
  refine ax_iconst (pc := 80) C 2 d_Uni_meet_80 (by decide +kernel) ?_
  refine ax_iload_n (pc := 81) C d_Uni_meet_81 rfl 2 rfl ?_
  refine ax_imul (pc := 82) C d_Uni_meet_82 ?_
  refine ax_iload (pc := 83) C d_Uni_meet_83 0 rfl ?_
  refine ax_iadd (pc := 85) C d_Uni_meet_85 ?_
  refine ax_sipush (pc := 86) C 140 d_Uni_meet_86 (by decide +kernel) ?_
  refine ax_imul (pc := 89) C d_Uni_meet_89 ?_
  refine ax_iload_n (pc := 90) C d_Uni_meet_90 rfl 3 rfl ?_
  refine ax_iadd (pc := 91) C d_Uni_meet_91 ?_
  refine ax_iload_n (pc := 92) C d_Uni_meet_92 rfl 4 rfl ?_
  refine ax_if_ne (pc := 93) C 103 d_Uni_meet_93 (by decide) (fun hc => ?_) (fun hc => ?_)
  · replace h := it_f hc h
    refine ax_aload_n (pc := 103) C d_Uni_meet_103 rfl 1 rfl ?_
    refine cg_59_7_Uni_50 (pc := 104) C d_Uni_meet_104 ?_
    refine ax_ls ([(0, .ref (u 59)), (1, .int x0), (2, .int x1), (3, .int x2), (4, .int x3), (5, .int x4)]) [1, 2, 3, 4, 5, 0] rfl ?_
    replace hm : sG_Uni_meet_p107 l D kA u σ [x0, x1, x2, x3, x4, (σ.1 5907), ((((((((2 : Int32) * x0) : Int32) + x4) : Int32) * 140) : Int32) + x1)] (σf, rf, _) := ih tG_Uni_meet_p107 _ _ _ h
    exact hm _ _ _ _ _ _ _ rfl w tx p e s m args below meth c F Lo mc ms cells slots σ0 w0 tx0 hF hLo hcq hsq hga C
  · replace h := it_t hc h
    refine ax_aload_n (pc := 96) C d_Uni_meet_96 rfl 1 rfl ?_
    refine cg_59_6_Uni_47 (pc := 97) C d_Uni_meet_97 ?_
    refine ax_goto (pc := 100) C 107 d_Uni_meet_100 (by decide) ?_
    refine ax_ls ([(0, .ref (u 59)), (1, .int x0), (2, .int x1), (3, .int x2), (4, .int x3), (5, .int x4)]) [1, 2, 3, 4, 5, 0] rfl ?_
    replace hm : sG_Uni_meet_p107 l D kA u σ [x0, x1, x2, x3, x4, (σ.1 5906), ((((((((2 : Int32) * x0) : Int32) + x4) : Int32) * 140) : Int32) + x1)] (σf, rf, _) := ih tG_Uni_meet_p107 _ _ _ h
    exact hm _ _ _ _ _ _ _ rfl w tx p e s m args below meth c F Lo mc ms cells slots σ0 w0 tx0 hF hLo hcq hsq hga C
set_option maxHeartbeats 4000000 in
set_option maxRecDepth 100000 in
theorem oG_Uni_meet_p107 (l : Launch) (D : va_G) (kA : Nat → ClassId) (u : Nat → Nat) (rec : mF) (hG : GM rec) (ihC : ∀ (w : Nat → Nat) (tx : Value) t σ xs res, rec t σ xs = some res → cSem l D kA u w tx t σ xs res) (ih : ∀ t σ xs res, rec t σ xs = some res → gSem l D kA u t σ xs res) (σ : mS) (xs : List Int32) (res : mR) (h : u_7 (kG_Uni_meet_p107 rec σ) xs = some res) : sG_Uni_meet_p107 l D kA u σ xs res := by
  intro x0 x1 x2 x3 x4 x5 x6 hxs w tx
  subst hxs
  obtain ⟨σf, rf, dd⟩ := res
  have hmn : gle σ σf := qG_Uni_meet_p107 rec hG σ x0 x1 x2 x3 x4 x5 x6 _ h
  have h : (if ((x6 : Int32) - x5) < 0 then (rec tG_Uni_meet_p154 σ [x0, x1, x2, x3, x4, ((x6 : Int32) - x5)]) else (if (Int32.ofNat 3360) ≤ ((x6 : Int32) - x5) then (rec tG_Uni_meet_p154 σ [x0, x1, x2, x3, x4, ((x6 : Int32) - x5)]) else (if bin ((x6 : Int32) - x5) 3360 = true then (if (σ.2.1 63 (Int32.toNatClampNeg ((x6 : Int32) - x5))) = 0 then (if bin ((x6 : Int32) - x5) 3360 = true then (lt_ (mA σ 63 (Int32.toNatClampNeg ((x6 : Int32) - x5)) (vp_nar .boolean 1)) (fun σ1 => if rok σ1 6401 65 = true then (lt_ (rAdd σ1 6401 65 ((x6 : Int32) - x5)) (fun σ2 => rec tG_Uni_meet_p154 σ2 [x0, x1, x2, x3, x4, ((x6 : Int32) - x5)])) else none)) else none) else (some (σ, 1, 0))) else none))) = some (σf, rf, dd) := h
  intro p e s m args below meth c F Lo mc ms cells slots σ0 w0 tx0 hF hLo hcq hsq hga C
  dsimp only at hF hLo hcq hsq ⊢
  have hcm : cells ≤ mc := by have := hmn.1; omega
  have hsm : slots ≤ ms := by have := hmn.2; omega
  have hle : True := trivial
  have hm : True := trivial
  refine ax_isub (pc := 107) C d_Uni_meet_107 ?_
  refine ax_istore (pc := 108) C d_Uni_meet_108 (Nat.le_of_ble_eq_true rfl) ([(6, .int ((x6 : Int32) - x5)), (0, .ref (u 59)), (1, .int x0), (2, .int x1), (3, .int x2), (4, .int x3), (5, .int x4)]) rfl ?_
  refine ax_iload (pc := 110) C d_Uni_meet_110 0 rfl ?_
  refine ax_if_lt (pc := 112) C 154 d_Uni_meet_112 (by decide) (fun hc => ?_) (fun hc => ?_)
  · replace h := it_t hc h
    refine ax_ls ([(0, .ref (u 59)), (1, .int x0), (2, .int x1), (3, .int x2), (4, .int x3), (5, .int x4), (6, .int ((x6 : Int32) - x5))]) [1, 2, 3, 4, 5, 6, 0] rfl ?_
    replace hm : sG_Uni_meet_p154 l D kA u σ [x0, x1, x2, x3, x4, ((x6 : Int32) - x5)] (σf, rf, _) := ih tG_Uni_meet_p154 _ _ _ h
    exact hm _ _ _ _ _ _ rfl w tx p e s m args below meth c F Lo mc ms cells slots σ0 w0 tx0 hF hLo hcq hsq hga C
  · replace h := it_f hc h
    refine ax_iload (pc := 115) C d_Uni_meet_115 0 rfl ?_
    refine ax_aload_n (pc := 117) C d_Uni_meet_117 rfl 1 rfl ?_
    refine cg_59_8_Uni_23 (pc := 118) C d_Uni_meet_118 ?_
    refine cn_63 (pc := 121) C d_Uni_meet_121 ?_
    refine ax_icmp_ge (pc := 122) C 154 d_Uni_meet_122 (by decide) (fun hc => ?_) (fun hc => ?_)
    · replace h := it_t hc h
      refine ax_ls ([(0, .ref (u 59)), (1, .int x0), (2, .int x1), (3, .int x2), (4, .int x3), (5, .int x4), (6, .int ((x6 : Int32) - x5))]) [1, 2, 3, 4, 5, 6, 0] rfl ?_
      replace hm : sG_Uni_meet_p154 l D kA u σ [x0, x1, x2, x3, x4, ((x6 : Int32) - x5)] (σf, rf, _) := ih tG_Uni_meet_p154 _ _ _ h
      exact hm _ _ _ _ _ _ rfl w tx p e s m args below meth c F Lo mc ms cells slots σ0 w0 tx0 hF hLo hcq hsq hga C
    · replace h := it_f hc h
      refine ax_aload_n (pc := 125) C d_Uni_meet_125 rfl 1 rfl ?_
      refine cg_59_8_Uni_23 (pc := 126) C d_Uni_meet_126 ?_
      refine ax_iload (pc := 129) C d_Uni_meet_129 0 rfl ?_
      replace h := it_g h
      obtain ⟨hb, h⟩ := h
      refine cl_63 (pc := 131) C d_Uni_meet_131 (bin_in hb) ?_
      refine ax_if_eq (pc := 132) C 137 d_Uni_meet_132 (by decide) (fun hc => ?_) (fun hc => ?_)
      · replace h := it_t hc h
        refine ax_aload_n (pc := 137) C d_Uni_meet_137 rfl 1 rfl ?_
        refine cg_59_8_Uni_23 (pc := 138) C d_Uni_meet_138 ?_
        refine ax_iload (pc := 141) C d_Uni_meet_141 0 rfl ?_
        refine ax_iconst (pc := 143) C 1 d_Uni_meet_143 (by decide +kernel) ?_
        replace h := it_g h
        obtain ⟨hb, h⟩ := h
        refine cs_63 (pc := 144) C d_Uni_meet_144 (bin_in hb) ?_
        replace h := it_l h
        replace hcq : cells + σf.2.2 3001 ≤ mc + (mA σ 63 (Int32.toNatClampNeg ((x6 : Int32) - x5)) (vp_nar .boolean 1)).2.2 3001 := hcq
        replace hsq : slots + σf.2.2 3002 ≤ ms + (mA σ 63 (Int32.toNatClampNeg ((x6 : Int32) - x5)) (vp_nar .boolean 1)).2.2 3002 := hsq
        generalize mA σ 63 (Int32.toNatClampNeg ((x6 : Int32) - x5)) (vp_nar .boolean 1) = σ1 at h hcq hsq ⊢
        refine ax_aload_n (pc := 145) C d_Uni_meet_145 rfl 1 rfl ?_
        refine cg_59_9_Uni_32 (pc := 146) C d_Uni_meet_146 ?_
        refine ax_iload (pc := 149) C d_Uni_meet_149 0 rfl ?_
        replace h := it_g h
        obtain ⟨hb, h⟩ := h
        replace h := it_l h
        replace hle := rAdd_le σ1 6401 65 ((x6 : Int32) - x5)
        replace hmn : gle (rAdd σ1 6401 65 ((x6 : Int32) - x5)) σf := gm_use h (gm_tail hG (Nat.le_of_ble_eq_true rfl))
        refine ca_64 (pc := 151) C (rest := []) ml_Uni_87 d_Uni_meet_151 hb hF hLo (by have := hmn.1; have := hle.1; omega) (by have := hmn.2; have := hle.2; omega) (Nat.le_of_ble_eq_true rfl) (fun w2 hag2 => ?_)
        generalize rAdd σ1 6401 65 ((x6 : Int32) - x5) = σ2 at h hmn hle ⊢
        have hga2 : ∀ i, ([65] : List Nat).elem i = false → w2 i = w0 i := fun i hi => (hag2 i (by revert hi; exact el_sub (by decide))).trans (hga i hi)
        replace hcq : (cells + (σ2.2.2 3001 - σ1.2.2 3001)) + σf.2.2 3001 ≤ mc + σ2.2.2 3001 := by have := hmn.1; have := hle.1; omega
        replace hcm : (cells + (σ2.2.2 3001 - σ1.2.2 3001)) ≤ mc := by have := hmn.1; have := hle.1; omega
        generalize cells + (σ2.2.2 3001 - σ1.2.2 3001) = cells at hcq hcm ⊢
        replace hsq : (slots + (σ2.2.2 3002 - σ1.2.2 3002)) + σf.2.2 3002 ≤ ms + σ2.2.2 3002 := by have := hmn.2; have := hle.2; omega
        replace hsm : (slots + (σ2.2.2 3002 - σ1.2.2 3002)) ≤ ms := by have := hmn.2; have := hle.2; omega
        generalize slots + (σ2.2.2 3002 - σ1.2.2 3002) = slots at hsq hsm ⊢
        refine ax_ls ([(0, .ref (u 59)), (1, .int x0), (2, .int x1), (3, .int x2), (4, .int x3), (5, .int x4), (6, .int ((x6 : Int32) - x5))]) [1, 2, 3, 4, 5, 6, 0] rfl ?_
        replace hm : sG_Uni_meet_p154 l D kA u σ2 [x0, x1, x2, x3, x4, ((x6 : Int32) - x5)] (σf, rf, _) := ih tG_Uni_meet_p154 _ _ _ h
        exact hm _ _ _ _ _ _ rfl w2 tx p e s m args below meth c F Lo mc ms cells slots σ0 w0 tx0 hF hLo hcq hsq hga2 C
      · replace h := it_f hc h
        refine ax_iconst (pc := 135) C 1 d_Uni_meet_135 (by decide +kernel) ?_
        cases h
        exact ax_zret (pc := 136) C d_Uni_meet_136 rfl ⟨rfl, w, tx, hga, rfl, rfl⟩ hcm hsm
set_option maxHeartbeats 4000000 in
set_option maxRecDepth 100000 in
theorem oG_Uni_meet_p154 (l : Launch) (D : va_G) (kA : Nat → ClassId) (u : Nat → Nat) (rec : mF) (hG : GM rec) (ihC : ∀ (w : Nat → Nat) (tx : Value) t σ xs res, rec t σ xs = some res → cSem l D kA u w tx t σ xs res) (ih : ∀ t σ xs res, rec t σ xs = some res → gSem l D kA u t σ xs res) (σ : mS) (xs : List Int32) (res : mR) (h : u_6 (kG_Uni_meet_p154 rec σ) xs = some res) : sG_Uni_meet_p154 l D kA u σ xs res := by
  intro x0 x1 x2 x3 x4 x5 hxs w tx
  subst hxs
  obtain ⟨σf, rf, dd⟩ := res
  have hmn : gle σ σf := qG_Uni_meet_p154 rec hG σ x0 x1 x2 x3 x4 x5 _ h
  have h : (if bin x0 12 = true then (if bin x0 12 = true then (bnd (rec tG_Uni_unite σ [(σ.2.1 61 (Int32.toNatClampNeg x0)), (σ.2.1 62 (Int32.toNatClampNeg x0)), x1, x2, ((x3 : Int32) + 1)]) (fun σ1 r1 => if r1 = 0 ∨ r1 = 1 then some (σ1, r1, 0) else none)) else none) else none) = some (σf, rf, dd) := h
  intro p e s m args below meth c F Lo mc ms cells slots σ0 w0 tx0 hF hLo hcq hsq hga C
  dsimp only at hF hLo hcq hsq ⊢
  have hcm : cells ≤ mc := by have := hmn.1; omega
  have hsm : slots ≤ ms := by have := hmn.2; omega
  have hle : True := trivial
  have hm : True := trivial
  refine ax_aload_n (pc := 154) C d_Uni_meet_154 rfl 0 rfl ?_
  refine ax_aload_n (pc := 155) C d_Uni_meet_155 rfl 0 rfl ?_
  refine cg_59_3_Uni_17 (pc := 156) C d_Uni_meet_156 ?_
  refine ax_iload_n (pc := 159) C d_Uni_meet_159 rfl 1 rfl ?_
  replace h := it_g h
  obtain ⟨hb, h⟩ := h
  refine cl_61 (pc := 160) C d_Uni_meet_160 (bin_in hb) ?_
  refine ax_aload_n (pc := 161) C d_Uni_meet_161 rfl 0 rfl ?_
  refine cg_59_4_Uni_20 (pc := 162) C d_Uni_meet_162 ?_
  refine ax_iload_n (pc := 165) C d_Uni_meet_165 rfl 1 rfl ?_
  replace h := it_g h
  obtain ⟨hb, h⟩ := h
  refine cl_62 (pc := 166) C d_Uni_meet_166 (bin_in hb) ?_
  refine ax_iload_n (pc := 167) C d_Uni_meet_167 rfl 2 rfl ?_
  refine ax_iload_n (pc := 168) C d_Uni_meet_168 rfl 3 rfl ?_
  refine ax_iload (pc := 169) C d_Uni_meet_169 4 rfl ?_
  refine ax_iconst (pc := 171) C 1 d_Uni_meet_171 (by decide +kernel) ?_
  refine ax_iadd (pc := 172) C d_Uni_meet_172 ?_
  replace h := it_b h
  obtain ⟨σ1, r1, d1_1, d2_1, h1, h, hd2, hd1⟩ := h
  replace hle := hG _ _ _ _ (by decide) h1
  dsimp only at hle
  replace hmn : gle σ1 σf := gm_use h (gm_if gm_some gm_none)
  replace hm : sG_Uni_unite l D kA u σ [(σ.2.1 61 (Int32.toNatClampNeg x0)), (σ.2.1 62 (Int32.toNatClampNeg x0)), x1, x2, ((x3 : Int32) + 1)] (σ1, r1, d1_1) := ih tG_Uni_unite _ _ _ h1
  refine gc_Vi (pc := 173) C (As := [.int (σ.2.1 61 (Int32.toNatClampNeg x0)), .int (σ.2.1 62 (Int32.toNatClampNeg x0)), .int x1, .int x2, .int ((x3 : Int32) + 1)]) (rest := []) (hm _ _ _ _ _ rfl w tx) ml_Uni_90 59 rfl rfl rfl d_Uni_meet_173 rfl rfl (by dsimp only; omega) (by dsimp only; omega) (by have := hmn.1; have := hle.1; dsimp only; omega) (by have := hmn.2; have := hle.2; dsimp only; omega) (Nat.le_of_ble_eq_true rfl) (fun r9 w1 hw => ?_)
  obtain ⟨hrq1, w1, tx1, hag1, htq1, hwq1⟩ := hw
  dsimp only at hwq1 hrq1
  subst hwq1
  replace hrq1 := hrq1.symm
  subst hrq1
  dsimp only
  replace htq1 := htq1.symm
  subst htq1
  have hga1 : ∀ i, ([65] : List Nat).elem i = false → w1 i = w0 i := fun i hi => (hag1 i (by revert hi; exact el_sub (by decide))).trans (hga i hi)
  replace hcq : (cells + (σ1.2.2 3001 - σ.2.2 3001)) + σf.2.2 3001 ≤ mc + σ1.2.2 3001 := by have := hmn.1; have := hle.1; omega
  replace hcm : (cells + (σ1.2.2 3001 - σ.2.2 3001)) ≤ mc := by have := hmn.1; have := hle.1; omega
  generalize cells + (σ1.2.2 3001 - σ.2.2 3001) = cells at hcq hcm ⊢
  replace hsq : (slots + (σ1.2.2 3002 - σ.2.2 3002)) + σf.2.2 3002 ≤ ms + σ1.2.2 3002 := by have := hmn.2; have := hle.2; omega
  replace hsm : (slots + (σ1.2.2 3002 - σ.2.2 3002)) ≤ ms := by have := hmn.2; have := hle.2; omega
  generalize slots + (σ1.2.2 3002 - σ.2.2 3002) = slots at hsq hsm ⊢
  replace hF : d2_1 + 3 ≤ F := by omega
  replace hLo : 48 * d2_1 + 144 ≤ Lo := by omega
  replace h := it_g h
  obtain ⟨hb, h⟩ := h
  cases h
  exact ax_zret (pc := 176) C d_Uni_meet_176 (nb01 hb) ⟨rfl, w1, tx, hga1, rfl, rfl⟩ hcm hsm
set_option maxHeartbeats 4000000 in
set_option maxRecDepth 100000 in
theorem oG_Uni_unite (l : Launch) (D : va_G) (kA : Nat → ClassId) (u : Nat → Nat) (rec : mF) (hG : GM rec) (ihC : ∀ (w : Nat → Nat) (tx : Value) t σ xs res, rec t σ xs = some res → cSem l D kA u w tx t σ xs res) (ih : ∀ t σ xs res, rec t σ xs = some res → gSem l D kA u t σ xs res) (σ : mS) (xs : List Int32) (res : mR) (h : u_5 (kG_Uni_unite rec σ) xs = some res) : sG_Uni_unite l D kA u σ xs res := by
  intro x0 x1 x2 x3 x4 hxs w tx
  subst hxs
  obtain ⟨σf, rf, dd⟩ := res
  have hmn : gle σ σf := qG_Uni_unite rec hG σ x0 x1 x2 x3 x4 _ h
  have h : (if x4 ≤ 48 then (rec tG_Uni_unite_p30 σ [x0, x1, x2, x3, x4, x0, x2, 1, 0]) else (some (σ, 0, 0))) = some (σf, rf, dd) := h
  refine ax_Mi.of (by decide +kernel) (Nat.le_of_ble_eq_true rfl) ?_
  intro p e s m args below meth c C hnm
  replace C : ax_C p s m args meth c b_Uni_unite "ClauseProver$Unifier" 11 (some .boolean) D kA (va_A (cpW kA u w tx σ) s.heap.size) := C
  obtain ⟨F, hFe⟩ : ∃ z, z = dd + 3 := ⟨_, rfl⟩
  obtain ⟨Lo, hLoe⟩ : ∃ z, z = 48 * dd + 144 := ⟨_, rfl⟩
  obtain ⟨mc, hmce⟩ : ∃ z, z = σf.2.2 3001 - σ.2.2 3001 := ⟨_, rfl⟩
  obtain ⟨ms, hmse⟩ : ∃ z, z = σf.2.2 3002 - σ.2.2 3002 := ⟨_, rfl⟩
  obtain ⟨σ0, hσ0e⟩ : ∃ z, z = σ := ⟨_, rfl⟩
  obtain ⟨w0, hw0e⟩ : ∃ z, z = w := ⟨_, rfl⟩
  obtain ⟨tx0, htx0e⟩ : ∃ z, z = tx := ⟨_, rfl⟩
  suffices K : ∀ (cells slots : Nat), cells = 0 → slots = 0 → AW p l e { frames := F, cells := mc, slots := ms, locals := Lo } s m args below meth c D kA (va_A (cpW kA u w0 tx0 σ0) s.heap.size) 11 (ax_Qi below args s D kA (cpW kA u w0 tx0 σ0) mc ms (fun r w1 => r = rf ∧ ∃ (w2 : Nat → Nat) (tx2 : Value), (∀ i, ([65] : List Nat).elem i = false → w2 i = w0 i) ∧ tx2 = tx0 ∧ w1 = cpW kA u w2 tx2 σf)) 0 [(0, .ref (u 59)), (1, .int x0), (2, .int x1), (3, .int x2), (4, .int x3), (5, .int x4)] [] (cpW kA u w tx σ) cells slots by
    have K := K 0 0 rfl rfl
    rw [hFe, hLoe, hmce, hmse, hσ0e, hw0e, htx0e] at K
    exact ax_ls ([(0, .ref (u 59)), (1, .int x0), (2, .int x1), (3, .int x2), (4, .int x3), (5, .int x4)]) [0, 1, 2, 3, 4, 5] rfl K
  replace C : ax_C p s m args meth c b_Uni_unite "ClauseProver$Unifier" 11 (some .boolean) D kA (va_A (cpW kA u w0 tx0 σ0) s.heap.size) := by rw [hσ0e, hw0e, htx0e]; exact C
  intro cells slots hc0 hs0
  have hcq : cells + σf.2.2 3001 ≤ mc + σ.2.2 3001 := by have := hmn.1; omega
  have hsq : slots + σf.2.2 3002 ≤ ms + σ.2.2 3002 := by have := hmn.2; omega
  have hga : ∀ i, ([65] : List Nat).elem i = false → w i = w0 i := fun i _ => by rw [hw0e]
  have e9 : tx = tx0 := htx0e.symm
  subst e9
  have hF : dd + 3 ≤ F := by omega
  have hLo : 48 * dd + 144 ≤ Lo := by omega
  have hcm : cells ≤ mc := by have := hmn.1; omega
  have hsm : slots ≤ ms := by have := hmn.2; omega
  have hle : True := trivial
  have hm : True := trivial
  refine ax_iload (pc := 0) C d_Uni_unite_0 5 rfl ?_
  refine ax_bipush (pc := 2) C 48 d_Uni_unite_2 (by decide +kernel) ?_
  refine ax_icmp_le (pc := 4) C 9 d_Uni_unite_4 (by decide) (fun hc => ?_) (fun hc => ?_)
  · replace h := it_t hc h
    refine ax_aload_n (pc := 9) C d_Uni_unite_9 rfl 0 rfl ?_
    refine cg_59_1_Uni_40 (pc := 10) C d_Uni_unite_10 ?_
    refine cg_47_0_Uni_56 (pc := 13) C d_Uni_unite_13 ?_
    refine ax_astore (pc := 16) C d_Uni_unite_16 (Nat.le_of_ble_eq_true rfl) ([(6, .ref (w 48)), (0, .ref (u 59)), (1, .int x0), (2, .int x1), (3, .int x2), (4, .int x3), (5, .int x4)]) rfl ?_
    refine ax_iload_n (pc := 18) C d_Uni_unite_18 rfl 2 rfl ?_
    refine ax_istore (pc := 19) C d_Uni_unite_19 (Nat.le_of_ble_eq_true rfl) ([(7, .int x0), (6, .ref (w 48)), (0, .ref (u 59)), (1, .int x0), (2, .int x1), (3, .int x2), (4, .int x3), (5, .int x4)]) rfl ?_
    refine ax_iload_n (pc := 21) C d_Uni_unite_21 rfl 5 rfl ?_
    refine ax_istore (pc := 22) C d_Uni_unite_22 (Nat.le_of_ble_eq_true rfl) ([(8, .int x2), (7, .int x0), (6, .ref (w 48)), (0, .ref (u 59)), (1, .int x0), (2, .int x1), (3, .int x2), (4, .int x3), (5, .int x4)]) rfl ?_
    refine ax_iconst (pc := 24) C 1 d_Uni_unite_24 (by decide +kernel) ?_
    refine ax_istore (pc := 25) C d_Uni_unite_25 (Nat.le_of_ble_eq_true rfl) ([(9, .int 1), (8, .int x2), (7, .int x0), (6, .ref (w 48)), (0, .ref (u 59)), (1, .int x0), (2, .int x1), (3, .int x2), (4, .int x3), (5, .int x4)]) rfl ?_
    refine ax_iconst (pc := 27) C 0 d_Uni_unite_27 (by decide +kernel) ?_
    refine ax_istore (pc := 28) C d_Uni_unite_28 (Nat.le_of_ble_eq_true rfl) ([(10, .int 0), (9, .int 1), (8, .int x2), (7, .int x0), (6, .ref (w 48)), (0, .ref (u 59)), (1, .int x0), (2, .int x1), (3, .int x2), (4, .int x3), (5, .int x4)]) rfl ?_
    refine ax_ls ([(0, .ref (u 59)), (1, .int x0), (2, .int x1), (3, .int x2), (4, .int x3), (5, .int x4), (6, .ref (w 48)), (7, .int x0), (8, .int x2), (9, .int 1), (10, .int 0)]) [5, 6, 7, 8, 9, 10, 4, 3, 2, 1, 0] rfl ?_
    replace hm : sG_Uni_unite_p30 l D kA u σ [x0, x1, x2, x3, x4, x0, x2, 1, 0] (σf, rf, _) := ih tG_Uni_unite_p30 _ _ _ h
    exact hm _ _ _ _ _ _ _ _ _ rfl w tx p e s m args below meth c F Lo mc ms cells slots σ0 w0 tx hF hLo hcq hsq hga C
  · replace h := it_f hc h
    refine ax_iconst (pc := 7) C 0 d_Uni_unite_7 (by decide +kernel) ?_
    cases h
    exact ax_zret (pc := 8) C d_Uni_unite_8 rfl ⟨rfl, w, tx, hga, rfl, rfl⟩ hcm hsm
set_option maxHeartbeats 4000000 in
set_option maxRecDepth 100000 in
theorem oG_Uni_unite_p30 (l : Launch) (D : va_G) (kA : Nat → ClassId) (u : Nat → Nat) (rec : mF) (hG : GM rec) (ihC : ∀ (w : Nat → Nat) (tx : Value) t σ xs res, rec t σ xs = some res → cSem l D kA u w tx t σ xs res) (ih : ∀ t σ xs res, rec t σ xs = some res → gSem l D kA u t σ xs res) (σ : mS) (xs : List Int32) (res : mR) (h : u_9 (kG_Uni_unite_p30 rec σ) xs = some res) : sG_Uni_unite_p30 l D kA u σ xs res := by
  intro x0 x1 x2 x3 x4 x5 x6 x7 x8 hxs w tx
  subst hxs
  obtain ⟨σf, rf, dd⟩ := res
  have hmn : gle σ σf := qG_Uni_unite_p30 rec hG σ x0 x1 x2 x3 x4 x5 x6 x7 x8 _ h
  have h : (if 100 ≤ x8 then (rec tG_Uni_unite_p155 σ [x0, x1, x2, x3, x4, x5, x6, x7, x8]) else (if x7 ≤ 0 then (rec tG_Uni_unite_p155 σ [x0, x1, x2, x3, x4, x5, x6, x7, x8]) else (if bin x5 (σ.2.2 48) = true then (if (σ.2.1 48 (Int32.toNatClampNeg x5)) < 0 then (rec tG_Uni_unite_p58 σ [x0, x1, x2, x3, x4, x5, x6, x7, x8]) else (if bin x6 (σ.2.2 48) = true then (if 0 ≤ (σ.2.1 48 (Int32.toNatClampNeg x6)) then (if bin x5 (σ.2.2 48) = true then (if bin x6 (σ.2.2 48) = true then (if (σ.2.1 48 (Int32.toNatClampNeg x5)) = (σ.2.1 48 (Int32.toNatClampNeg x6)) then (if bin x5 (σ.2.2 48) = true then (if bin (σ.2.1 48 (Int32.toNatClampNeg x5)) 551 = true then (rec tG_Uni_unite_p149 σ [x0, x1, x2, x3, x4, (x5 + 1), (x6 + 1), ((x7 : Int32) + (((σ.2.1 7 (Int32.toNatClampNeg (σ.2.1 48 (Int32.toNatClampNeg x5)))) : Int32) - 1)), x8]) else none) else none) else (some (σ, 0, 0))) else none) else none) else (rec tG_Uni_unite_p58 σ [x0, x1, x2, x3, x4, x5, x6, x7, x8])) else none)) else none))) = some (σf, rf, dd) := h
  intro p e s m args below meth c F Lo mc ms cells slots σ0 w0 tx0 hF hLo hcq hsq hga C
  dsimp only at hF hLo hcq hsq ⊢
  have hcm : cells ≤ mc := by have := hmn.1; omega
  have hsm : slots ≤ ms := by have := hmn.2; omega
  have hle : True := trivial
  have hm : True := trivial
  refine ax_iload (pc := 30) C d_Uni_unite_30 10 rfl ?_
  refine ax_bipush (pc := 32) C 100 d_Uni_unite_32 (by decide +kernel) ?_
  refine ax_icmp_ge (pc := 34) C 155 d_Uni_unite_34 (by decide) (fun hc => ?_) (fun hc => ?_)
  · replace h := it_t hc h
    refine ax_ls ([(0, .ref (u 59)), (1, .int x0), (2, .int x1), (3, .int x2), (4, .int x3), (5, .int x4), (6, .ref (w 48)), (7, .int x5), (8, .int x6), (9, .int x7), (10, .int x8)]) [0, 1, 2, 3, 4, 5, 6, 7, 8, 9, 10] rfl ?_
    replace hm : sG_Uni_unite_p155 l D kA u σ [x0, x1, x2, x3, x4, x5, x6, x7, x8] (σf, rf, _) := ih tG_Uni_unite_p155 _ _ _ h
    exact hm _ _ _ _ _ _ _ _ _ rfl w tx p e s m args below meth c F Lo mc ms cells slots σ0 w0 tx0 hF hLo hcq hsq hga C
  · replace h := it_f hc h
    refine ax_iload (pc := 37) C d_Uni_unite_37 9 rfl ?_
    refine ax_if_le (pc := 39) C 155 d_Uni_unite_39 (by decide) (fun hc => ?_) (fun hc => ?_)
    · replace h := it_t hc h
      refine ax_ls ([(0, .ref (u 59)), (1, .int x0), (2, .int x1), (3, .int x2), (4, .int x3), (5, .int x4), (6, .ref (w 48)), (7, .int x5), (8, .int x6), (9, .int x7), (10, .int x8)]) [0, 1, 2, 3, 4, 5, 6, 7, 8, 9, 10] rfl ?_
      replace hm : sG_Uni_unite_p155 l D kA u σ [x0, x1, x2, x3, x4, x5, x6, x7, x8] (σf, rf, _) := ih tG_Uni_unite_p155 _ _ _ h
      exact hm _ _ _ _ _ _ _ _ _ rfl w tx p e s m args below meth c F Lo mc ms cells slots σ0 w0 tx0 hF hLo hcq hsq hga C
    · replace h := it_f hc h
      refine ax_aload (pc := 42) C d_Uni_unite_42 6 rfl ?_
      refine ax_iload (pc := 44) C d_Uni_unite_44 7 rfl ?_
      replace h := it_g h
      obtain ⟨hb, h⟩ := h
      refine cl_48 (pc := 46) C d_Uni_unite_46 (bin_in hb) ?_
      refine ax_if_lt (pc := 47) C 58 d_Uni_unite_47 (by decide) (fun hc => ?_) (fun hc => ?_)
      · replace h := it_t hc h
        refine ax_ls ([(0, .ref (u 59)), (1, .int x0), (2, .int x1), (3, .int x2), (4, .int x3), (5, .int x4), (6, .ref (w 48)), (7, .int x5), (8, .int x6), (9, .int x7), (10, .int x8)]) [0, 1, 2, 3, 4, 5, 6, 7, 8, 9, 10] rfl ?_
        replace hm : sG_Uni_unite_p58 l D kA u σ [x0, x1, x2, x3, x4, x5, x6, x7, x8] (σf, rf, _) := ih tG_Uni_unite_p58 _ _ _ h
        exact hm _ _ _ _ _ _ _ _ _ rfl w tx p e s m args below meth c F Lo mc ms cells slots σ0 w0 tx0 hF hLo hcq hsq hga C
      · replace h := it_f hc h
        refine ax_aload (pc := 50) C d_Uni_unite_50 6 rfl ?_
        refine ax_iload (pc := 52) C d_Uni_unite_52 8 rfl ?_
        replace h := it_g h
        obtain ⟨hb, h⟩ := h
        refine cl_48 (pc := 54) C d_Uni_unite_54 (bin_in hb) ?_
        refine ax_if_ge (pc := 55) C 108 d_Uni_unite_55 (by decide) (fun hc => ?_) (fun hc => ?_)
        · replace h := it_t hc h
          refine ax_aload (pc := 108) C d_Uni_unite_108 6 rfl ?_
          refine ax_iload (pc := 110) C d_Uni_unite_110 7 rfl ?_
          replace h := it_g h
          obtain ⟨hb, h⟩ := h
          refine cl_48 (pc := 112) C d_Uni_unite_112 (bin_in hb) ?_
          refine ax_aload (pc := 113) C d_Uni_unite_113 6 rfl ?_
          refine ax_iload (pc := 115) C d_Uni_unite_115 8 rfl ?_
          replace h := it_g h
          obtain ⟨hb, h⟩ := h
          refine cl_48 (pc := 117) C d_Uni_unite_117 (bin_in hb) ?_
          refine ax_icmp_eq (pc := 118) C 123 d_Uni_unite_118 (by decide) (fun hc => ?_) (fun hc => ?_)
          · replace h := it_t hc h
            refine ax_iload (pc := 123) C d_Uni_unite_123 9 rfl ?_
            refine ax_aload_n (pc := 125) C d_Uni_unite_125 rfl 0 rfl ?_
            refine cg_59_0_Uni_36 (pc := 126) C d_Uni_unite_126 ?_
            refine cg_6_0_Uni_69 (pc := 129) C d_Uni_unite_129 ?_
            refine ax_aload (pc := 132) C d_Uni_unite_132 6 rfl ?_
            refine ax_iload (pc := 134) C d_Uni_unite_134 7 rfl ?_
            replace h := it_g h
            obtain ⟨hb, h⟩ := h
            refine cl_48 (pc := 136) C d_Uni_unite_136 (bin_in hb) ?_
            replace h := it_g h
            obtain ⟨hb, h⟩ := h
            refine cl_7 (pc := 137) C d_Uni_unite_137 (bin_in hb) ?_
            refine ax_iconst (pc := 138) C 1 d_Uni_unite_138 (by decide +kernel) ?_
            refine ax_isub (pc := 139) C d_Uni_unite_139 ?_
            refine ax_iadd (pc := 140) C d_Uni_unite_140 ?_
            refine ax_istore (pc := 141) C d_Uni_unite_141 (Nat.le_of_ble_eq_true rfl) ([(9, .int ((x7 : Int32) + (((σ.2.1 7 (Int32.toNatClampNeg (σ.2.1 48 (Int32.toNatClampNeg x5)))) : Int32) - 1))), (0, .ref (u 59)), (1, .int x0), (2, .int x1), (3, .int x2), (4, .int x3), (5, .int x4), (6, .ref (w 48)), (7, .int x5), (8, .int x6), (10, .int x8)]) rfl ?_
            refine ax_iinc (pc := 143) C (x5 + 1) d_Uni_unite_143 8 rfl rfl (Nat.le_of_ble_eq_true rfl) ([(7, .int (x5 + 1)), (9, .int ((x7 : Int32) + (((σ.2.1 7 (Int32.toNatClampNeg (σ.2.1 48 (Int32.toNatClampNeg x5)))) : Int32) - 1))), (0, .ref (u 59)), (1, .int x0), (2, .int x1), (3, .int x2), (4, .int x3), (5, .int x4), (6, .ref (w 48)), (8, .int x6), (10, .int x8)]) rfl ?_
            refine ax_iinc (pc := 146) C (x6 + 1) d_Uni_unite_146 9 rfl rfl (Nat.le_of_ble_eq_true rfl) ([(8, .int (x6 + 1)), (7, .int (x5 + 1)), (9, .int ((x7 : Int32) + (((σ.2.1 7 (Int32.toNatClampNeg (σ.2.1 48 (Int32.toNatClampNeg x5)))) : Int32) - 1))), (0, .ref (u 59)), (1, .int x0), (2, .int x1), (3, .int x2), (4, .int x3), (5, .int x4), (6, .ref (w 48)), (10, .int x8)]) rfl ?_
            refine ax_ls ([(0, .ref (u 59)), (1, .int x0), (2, .int x1), (3, .int x2), (4, .int x3), (5, .int x4), (6, .ref (w 48)), (7, .int (x5 + 1)), (8, .int (x6 + 1)), (9, .int ((x7 : Int32) + (((σ.2.1 7 (Int32.toNatClampNeg (σ.2.1 48 (Int32.toNatClampNeg x5)))) : Int32) - 1))), (10, .int x8)]) [3, 4, 5, 6, 7, 8, 9, 1, 0, 2, 10] rfl ?_
            replace hm : sG_Uni_unite_p149 l D kA u σ [x0, x1, x2, x3, x4, (x5 + 1), (x6 + 1), ((x7 : Int32) + (((σ.2.1 7 (Int32.toNatClampNeg (σ.2.1 48 (Int32.toNatClampNeg x5)))) : Int32) - 1)), x8] (σf, rf, _) := ih tG_Uni_unite_p149 _ _ _ h
            exact hm _ _ _ _ _ _ _ _ _ rfl w tx p e s m args below meth c F Lo mc ms cells slots σ0 w0 tx0 hF hLo hcq hsq hga C
          · replace h := it_f hc h
            refine ax_iconst (pc := 121) C 0 d_Uni_unite_121 (by decide +kernel) ?_
            cases h
            exact ax_zret (pc := 122) C d_Uni_unite_122 rfl ⟨rfl, w, tx, hga, rfl, rfl⟩ hcm hsm
        · replace h := it_f hc h
          refine ax_ls ([(0, .ref (u 59)), (1, .int x0), (2, .int x1), (3, .int x2), (4, .int x3), (5, .int x4), (6, .ref (w 48)), (7, .int x5), (8, .int x6), (9, .int x7), (10, .int x8)]) [0, 1, 2, 3, 4, 5, 6, 7, 8, 9, 10] rfl ?_
          replace hm : sG_Uni_unite_p58 l D kA u σ [x0, x1, x2, x3, x4, x5, x6, x7, x8] (σf, rf, _) := ih tG_Uni_unite_p58 _ _ _ h
          exact hm _ _ _ _ _ _ _ _ _ rfl w tx p e s m args below meth c F Lo mc ms cells slots σ0 w0 tx0 hF hLo hcq hsq hga C
set_option maxHeartbeats 4000000 in
set_option maxRecDepth 100000 in
theorem oG_Uni_unite_p58 (l : Launch) (D : va_G) (kA : Nat → ClassId) (u : Nat → Nat) (rec : mF) (hG : GM rec) (ihC : ∀ (w : Nat → Nat) (tx : Value) t σ xs res, rec t σ xs = some res → cSem l D kA u w tx t σ xs res) (ih : ∀ t σ xs res, rec t σ xs = some res → gSem l D kA u t σ xs res) (σ : mS) (xs : List Int32) (res : mR) (h : u_9 (kG_Uni_unite_p58 rec σ) xs = some res) : sG_Uni_unite_p58 l D kA u σ xs res := by
  intro x0 x1 x2 x3 x4 x5 x6 x7 x8 hxs w tx
  subst hxs
  obtain ⟨σf, rf, dd⟩ := res
  have hmn : gle σ σf := qG_Uni_unite_p58 rec hG σ x0 x1 x2 x3 x4 x5 x6 x7 x8 _ h
  have h : (bnd (rec tG_Uni_uniteVariable σ [x5, x1, x6, x3, x4]) (fun σ1 r1 => if r1 = 0 then (some (σ1, 0, 0)) else (bnd (rec tC_Sym_after_48 σ1 [x5]) (fun σ2 r2 => bnd (rec tC_Sym_after_48 σ2 [x6]) (fun σ3 r3 => rec tG_Uni_unite_p149 σ3 [x0, x1, x2, x3, x4, r2, r3, (x7 + (-1)), x8]))))) = some (σf, rf, dd) := h
  intro p e s m args below meth c F Lo mc ms cells slots σ0 w0 tx0 hF hLo hcq hsq hga C
  dsimp only at hF hLo hcq hsq ⊢
  have hcm : cells ≤ mc := by have := hmn.1; omega
  have hsm : slots ≤ ms := by have := hmn.2; omega
  have hle : True := trivial
  have hm : True := trivial
  refine ax_aload_n (pc := 58) C d_Uni_unite_58 rfl 0 rfl ?_
  refine ax_iload (pc := 59) C d_Uni_unite_59 7 rfl ?_
  refine ax_iload_n (pc := 61) C d_Uni_unite_61 rfl 2 rfl ?_
  refine ax_iload (pc := 62) C d_Uni_unite_62 8 rfl ?_
  refine ax_iload (pc := 64) C d_Uni_unite_64 4 rfl ?_
  refine ax_iload (pc := 66) C d_Uni_unite_66 5 rfl ?_
  replace h := it_b h
  obtain ⟨σ1, r1, d1_1, d2_1, h1, h, hd2, hd1⟩ := h
  replace hle := hG _ _ _ _ (by decide) h1
  dsimp only at hle
  replace hmn : gle σ1 σf := gm_use h (gm_if gm_some (gm_bnd hG (Nat.le_of_ble_eq_true rfl) (fun _ _ => (gm_bnd hG (Nat.le_of_ble_eq_true rfl) (fun _ _ => (gm_tail hG (Nat.le_of_ble_eq_true rfl)))))))
  replace hm : sG_Uni_uniteVariable l D kA u σ [x5, x1, x6, x3, x4] (σ1, r1, d1_1) := ih tG_Uni_uniteVariable _ _ _ h1
  refine gc_Vi (pc := 68) C (As := [.int x5, .int x1, .int x6, .int x3, .int x4]) (rest := []) (hm _ _ _ _ _ rfl w tx) ml_Uni_59 59 rfl rfl rfl d_Uni_unite_68 rfl rfl (by dsimp only; omega) (by dsimp only; omega) (by have := hmn.1; have := hle.1; dsimp only; omega) (by have := hmn.2; have := hle.2; dsimp only; omega) (Nat.le_of_ble_eq_true rfl) (fun r9 w1 hw => ?_)
  obtain ⟨hrq1, w1, tx1, hag1, htq1, hwq1⟩ := hw
  dsimp only at hwq1 hrq1
  subst hwq1
  replace hrq1 := hrq1.symm
  subst hrq1
  dsimp only
  replace htq1 := htq1.symm
  subst htq1
  rw [← hag1 48 rfl]
  have hga1 : ∀ i, ([65] : List Nat).elem i = false → w1 i = w0 i := fun i hi => (hag1 i (by revert hi; exact el_sub (by decide))).trans (hga i hi)
  replace hcq : (cells + (σ1.2.2 3001 - σ.2.2 3001)) + σf.2.2 3001 ≤ mc + σ1.2.2 3001 := by have := hmn.1; have := hle.1; omega
  replace hcm : (cells + (σ1.2.2 3001 - σ.2.2 3001)) ≤ mc := by have := hmn.1; have := hle.1; omega
  generalize cells + (σ1.2.2 3001 - σ.2.2 3001) = cells at hcq hcm ⊢
  replace hsq : (slots + (σ1.2.2 3002 - σ.2.2 3002)) + σf.2.2 3002 ≤ ms + σ1.2.2 3002 := by have := hmn.2; have := hle.2; omega
  replace hsm : (slots + (σ1.2.2 3002 - σ.2.2 3002)) ≤ ms := by have := hmn.2; have := hle.2; omega
  generalize slots + (σ1.2.2 3002 - σ.2.2 3002) = slots at hsq hsm ⊢
  replace hF : d2_1 + 3 ≤ F := by omega
  replace hLo : 48 * d2_1 + 144 ≤ Lo := by omega
  refine ax_if_ne (pc := 71) C 76 d_Uni_unite_71 (by decide) (fun hc => ?_) (fun hc => ?_)
  · replace h := it_f hc h
    refine ax_aload_n (pc := 76) C d_Uni_unite_76 rfl 0 rfl ?_
    refine cg_59_0_Uni_36 (pc := 77) C d_Uni_unite_77 ?_
    refine ax_aload (pc := 80) C d_Uni_unite_80 6 rfl ?_
    refine ax_iload (pc := 82) C d_Uni_unite_82 7 rfl ?_
    replace h := it_b h
    obtain ⟨σ2, r2, d1_2, d2_2, h1, h, hd2, hd1⟩ := h
    replace hle := hG _ _ _ _ (by decide) h1
    dsimp only at hle
    replace hmn : gle σ2 σf := gm_use h (gm_bnd hG (Nat.le_of_ble_eq_true rfl) (fun _ _ => (gm_tail hG (Nat.le_of_ble_eq_true rfl))))
    replace hm : sC_Sym_after_48 l D kA u w1 tx σ1 [x5] (σ2, r2, d1_2) := ihC _ _ tC_Sym_after_48 _ _ _ h1
    refine cc_Vi (pc := 84) C (r0 := r2) (σ2 := σ2) (As := [.ref (w1 48), .int x5]) (rest := []) (hm _ rfl) ml_Uni_63 6 rfl rfl rfl d_Uni_unite_84 rfl rfl (by dsimp only; omega) (by dsimp only; omega) hcm hsm (Nat.le_of_ble_eq_true rfl) ?_
    replace hcq : cells + σf.2.2 3001 ≤ mc + σ2.2.2 3001 := by have := hle.1; omega
    replace hsq : slots + σf.2.2 3002 ≤ ms + σ2.2.2 3002 := by have := hle.2; omega
    replace hF : d2_2 + 3 ≤ F := by omega
    replace hLo : 48 * d2_2 + 144 ≤ Lo := by omega
    refine ax_istore (pc := 87) C d_Uni_unite_87 (Nat.le_of_ble_eq_true rfl) ([(7, .int r2), (0, .ref (u 59)), (1, .int x0), (2, .int x1), (3, .int x2), (4, .int x3), (5, .int x4), (6, .ref (w1 48)), (8, .int x6), (9, .int x7), (10, .int x8)]) rfl ?_
    refine ax_aload_n (pc := 89) C d_Uni_unite_89 rfl 1 rfl ?_
    refine cg_59_0_Uni_36 (pc := 90) C d_Uni_unite_90 ?_
    refine ax_aload (pc := 93) C d_Uni_unite_93 7 rfl ?_
    refine ax_iload (pc := 95) C d_Uni_unite_95 8 rfl ?_
    replace h := it_b h
    obtain ⟨σ3, r3, d1_3, d2_3, h1, h, hd2, hd1⟩ := h
    replace hle := hG _ _ _ _ (by decide) h1
    dsimp only at hle
    replace hmn : gle σ3 σf := gm_use h (gm_tail hG (Nat.le_of_ble_eq_true rfl))
    replace hm : sC_Sym_after_48 l D kA u w1 tx σ2 [x6] (σ3, r3, d1_3) := ihC _ _ tC_Sym_after_48 _ _ _ h1
    refine cc_Vi (pc := 97) C (r0 := r3) (σ2 := σ3) (As := [.ref (w1 48), .int x6]) (rest := []) (hm _ rfl) ml_Uni_63 6 rfl rfl rfl d_Uni_unite_97 rfl rfl (by dsimp only; omega) (by dsimp only; omega) hcm hsm (Nat.le_of_ble_eq_true rfl) ?_
    replace hcq : cells + σf.2.2 3001 ≤ mc + σ3.2.2 3001 := by have := hle.1; omega
    replace hsq : slots + σf.2.2 3002 ≤ ms + σ3.2.2 3002 := by have := hle.2; omega
    replace hF : d2_3 + 3 ≤ F := by omega
    replace hLo : 48 * d2_3 + 144 ≤ Lo := by omega
    refine ax_istore (pc := 100) C d_Uni_unite_100 (Nat.le_of_ble_eq_true rfl) ([(8, .int r3), (7, .int r2), (0, .ref (u 59)), (1, .int x0), (2, .int x1), (3, .int x2), (4, .int x3), (5, .int x4), (6, .ref (w1 48)), (9, .int x7), (10, .int x8)]) rfl ?_
    refine ax_iinc (pc := 102) C (x7 + (-1)) d_Uni_unite_102 9 rfl rfl (Nat.le_of_ble_eq_true rfl) ([(9, .int (x7 + (-1))), (8, .int r3), (7, .int r2), (0, .ref (u 59)), (1, .int x0), (2, .int x1), (3, .int x2), (4, .int x3), (5, .int x4), (6, .ref (w1 48)), (10, .int x8)]) rfl ?_
    refine ax_goto (pc := 105) C 149 d_Uni_unite_105 (by decide) ?_
    refine ax_ls ([(0, .ref (u 59)), (1, .int x0), (2, .int x1), (3, .int x2), (4, .int x3), (5, .int x4), (6, .ref (w1 48)), (7, .int r2), (8, .int r3), (9, .int (x7 + (-1))), (10, .int x8)]) [3, 4, 5, 6, 7, 8, 9, 2, 1, 0, 10] rfl ?_
    replace hm : sG_Uni_unite_p149 l D kA u σ3 [x0, x1, x2, x3, x4, r2, r3, (x7 + (-1)), x8] (σf, rf, _) := ih tG_Uni_unite_p149 _ _ _ h
    exact hm _ _ _ _ _ _ _ _ _ rfl w1 tx p e s m args below meth c F Lo mc ms cells slots σ0 w0 tx0 hF hLo hcq hsq hga1 C
  · replace h := it_t hc h
    refine ax_iconst (pc := 74) C 0 d_Uni_unite_74 (by decide +kernel) ?_
    cases h
    exact ax_zret (pc := 75) C d_Uni_unite_75 rfl ⟨rfl, w1, tx, hga1, rfl, rfl⟩ hcm hsm
set_option maxHeartbeats 4000000 in
set_option maxRecDepth 100000 in
theorem oG_Uni_unite_p149 (l : Launch) (D : va_G) (kA : Nat → ClassId) (u : Nat → Nat) (rec : mF) (hG : GM rec) (ihC : ∀ (w : Nat → Nat) (tx : Value) t σ xs res, rec t σ xs = some res → cSem l D kA u w tx t σ xs res) (ih : ∀ t σ xs res, rec t σ xs = some res → gSem l D kA u t σ xs res) (σ : mS) (xs : List Int32) (res : mR) (h : u_9 (kG_Uni_unite_p149 rec σ) xs = some res) : sG_Uni_unite_p149 l D kA u σ xs res := by
  intro x0 x1 x2 x3 x4 x5 x6 x7 x8 hxs w tx
  subst hxs
  obtain ⟨σf, rf, dd⟩ := res
  have hmn : gle σ σf := qG_Uni_unite_p149 rec hG σ x0 x1 x2 x3 x4 x5 x6 x7 x8 _ h
  have h : (rec tG_Uni_unite_p30 σ [x0, x1, x2, x3, x4, x5, x6, x7, (x8 + 1)]) = some (σf, rf, dd) := h
  intro p e s m args below meth c F Lo mc ms cells slots σ0 w0 tx0 hF hLo hcq hsq hga C
  dsimp only at hF hLo hcq hsq ⊢
  have hcm : cells ≤ mc := by have := hmn.1; omega
  have hsm : slots ≤ ms := by have := hmn.2; omega
  have hle : True := trivial
  have hm : True := trivial
  refine ax_iinc (pc := 149) C (x8 + 1) d_Uni_unite_149 10 rfl rfl (Nat.le_of_ble_eq_true rfl) ([(10, .int (x8 + 1)), (0, .ref (u 59)), (1, .int x0), (2, .int x1), (3, .int x2), (4, .int x3), (5, .int x4), (6, .ref (w 48)), (7, .int x5), (8, .int x6), (9, .int x7)]) rfl ?_
  refine ax_goto (pc := 152) C 30 d_Uni_unite_152 (by decide) ?_
  refine ax_ls ([(0, .ref (u 59)), (1, .int x0), (2, .int x1), (3, .int x2), (4, .int x3), (5, .int x4), (6, .ref (w 48)), (7, .int x5), (8, .int x6), (9, .int x7), (10, .int (x8 + 1))]) [1, 2, 3, 4, 5, 6, 7, 8, 9, 10, 0] rfl ?_
  replace hm : sG_Uni_unite_p30 l D kA u σ [x0, x1, x2, x3, x4, x5, x6, x7, (x8 + 1)] (σf, rf, _) := ih tG_Uni_unite_p30 _ _ _ h
  exact hm _ _ _ _ _ _ _ _ _ rfl w tx p e s m args below meth c F Lo mc ms cells slots σ0 w0 tx0 hF hLo hcq hsq hga C
set_option maxHeartbeats 4000000 in
set_option maxRecDepth 100000 in
theorem oG_Uni_unite_p155 (l : Launch) (D : va_G) (kA : Nat → ClassId) (u : Nat → Nat) (rec : mF) (hG : GM rec) (ihC : ∀ (w : Nat → Nat) (tx : Value) t σ xs res, rec t σ xs = some res → cSem l D kA u w tx t σ xs res) (ih : ∀ t σ xs res, rec t σ xs = some res → gSem l D kA u t σ xs res) (σ : mS) (xs : List Int32) (res : mR) (h : u_9 (kG_Uni_unite_p155 rec σ) xs = some res) : sG_Uni_unite_p155 l D kA u σ xs res := by
  intro x0 x1 x2 x3 x4 x5 x6 x7 x8 hxs w tx
  subst hxs
  obtain ⟨σf, rf, dd⟩ := res
  have hmn : gle σ σf := qG_Uni_unite_p155 rec hG σ x0 x1 x2 x3 x4 x5 x6 x7 x8 _ h
  have h : (some (σ, 1, 0)) = some (σf, rf, dd) := h
  intro p e s m args below meth c F Lo mc ms cells slots σ0 w0 tx0 hF hLo hcq hsq hga C
  dsimp only at hF hLo hcq hsq ⊢
  have hcm : cells ≤ mc := by have := hmn.1; omega
  have hsm : slots ≤ ms := by have := hmn.2; omega
  have hle : True := trivial
  have hm : True := trivial
  refine ax_iconst (pc := 155) C 1 d_Uni_unite_155 (by decide +kernel) ?_
  cases h
  exact ax_zret (pc := 156) C d_Uni_unite_156 rfl ⟨rfl, w, tx, hga, rfl, rfl⟩ hcm hsm
set_option maxHeartbeats 4000000 in
set_option maxRecDepth 100000 in
theorem oG_Uni_uniteVariable (l : Launch) (D : va_G) (kA : Nat → ClassId) (u : Nat → Nat) (rec : mF) (hG : GM rec) (ihC : ∀ (w : Nat → Nat) (tx : Value) t σ xs res, rec t σ xs = some res → cSem l D kA u w tx t σ xs res) (ih : ∀ t σ xs res, rec t σ xs = some res → gSem l D kA u t σ xs res) (σ : mS) (xs : List Int32) (res : mR) (h : u_5 (kG_Uni_uniteVariable rec σ) xs = some res) : sG_Uni_uniteVariable l D kA u σ xs res := by
  intro x0 x1 x2 x3 x4 hxs w tx
  subst hxs
  obtain ⟨σf, rf, dd⟩ := res
  have hmn : gle σ σf := qG_Uni_uniteVariable rec hG σ x0 x1 x2 x3 x4 _ h
  have h : (if bin x0 (σ.2.2 48) = true then (if 0 ≤ (σ.2.1 48 (Int32.toNatClampNeg x0)) then (rec tG_Uni_uniteVariable_p34 σ [x0, x1, x2, x3, x4, (-1)]) else (if bin x0 (σ.2.2 48) = true then (if bin (((((σ.2.1 48 (Int32.toNatClampNeg x0)) : Int32) ^^^ (-1)) : Int32) + x1) 12 = true then (rec tG_Uni_uniteVariable_p34 σ [x0, x1, x2, x3, x4, (σ.2.1 60 (Int32.toNatClampNeg (((((σ.2.1 48 (Int32.toNatClampNeg x0)) : Int32) ^^^ (-1)) : Int32) + x1)))]) else none) else none)) else none) = some (σf, rf, dd) := h
  refine ax_Mi.of (by decide +kernel) (Nat.le_of_ble_eq_true rfl) ?_
  intro p e s m args below meth c C hnm
  replace C : ax_C p s m args meth c b_Uni_uniteVariable "ClauseProver$Unifier" 8 (some .boolean) D kA (va_A (cpW kA u w tx σ) s.heap.size) := C
  obtain ⟨F, hFe⟩ : ∃ z, z = dd + 3 := ⟨_, rfl⟩
  obtain ⟨Lo, hLoe⟩ : ∃ z, z = 48 * dd + 144 := ⟨_, rfl⟩
  obtain ⟨mc, hmce⟩ : ∃ z, z = σf.2.2 3001 - σ.2.2 3001 := ⟨_, rfl⟩
  obtain ⟨ms, hmse⟩ : ∃ z, z = σf.2.2 3002 - σ.2.2 3002 := ⟨_, rfl⟩
  obtain ⟨σ0, hσ0e⟩ : ∃ z, z = σ := ⟨_, rfl⟩
  obtain ⟨w0, hw0e⟩ : ∃ z, z = w := ⟨_, rfl⟩
  obtain ⟨tx0, htx0e⟩ : ∃ z, z = tx := ⟨_, rfl⟩
  suffices K : ∀ (cells slots : Nat), cells = 0 → slots = 0 → AW p l e { frames := F, cells := mc, slots := ms, locals := Lo } s m args below meth c D kA (va_A (cpW kA u w0 tx0 σ0) s.heap.size) 8 (ax_Qi below args s D kA (cpW kA u w0 tx0 σ0) mc ms (fun r w1 => r = rf ∧ ∃ (w2 : Nat → Nat) (tx2 : Value), (∀ i, ([65] : List Nat).elem i = false → w2 i = w0 i) ∧ tx2 = tx0 ∧ w1 = cpW kA u w2 tx2 σf)) 0 [(0, .ref (u 59)), (1, .int x0), (2, .int x1), (3, .int x2), (4, .int x3), (5, .int x4)] [] (cpW kA u w tx σ) cells slots by
    have K := K 0 0 rfl rfl
    rw [hFe, hLoe, hmce, hmse, hσ0e, hw0e, htx0e] at K
    exact ax_ls ([(0, .ref (u 59)), (1, .int x0), (2, .int x1), (3, .int x2), (4, .int x3), (5, .int x4)]) [0, 1, 2, 3, 4, 5] rfl K
  replace C : ax_C p s m args meth c b_Uni_uniteVariable "ClauseProver$Unifier" 8 (some .boolean) D kA (va_A (cpW kA u w0 tx0 σ0) s.heap.size) := by rw [hσ0e, hw0e, htx0e]; exact C
  intro cells slots hc0 hs0
  have hcq : cells + σf.2.2 3001 ≤ mc + σ.2.2 3001 := by have := hmn.1; omega
  have hsq : slots + σf.2.2 3002 ≤ ms + σ.2.2 3002 := by have := hmn.2; omega
  have hga : ∀ i, ([65] : List Nat).elem i = false → w i = w0 i := fun i _ => by rw [hw0e]
  have e9 : tx = tx0 := htx0e.symm
  subst e9
  have hF : dd + 3 ≤ F := by omega
  have hLo : 48 * dd + 144 ≤ Lo := by omega
  have hcm : cells ≤ mc := by have := hmn.1; omega
  have hsm : slots ≤ ms := by have := hmn.2; omega
  have hle : True := trivial
  have hm : True := trivial
  refine ax_aload_n (pc := 0) C d_Uni_uniteVariable_0 rfl 0 rfl ?_
  refine cg_59_1_Uni_40 (pc := 1) C d_Uni_uniteVariable_1 ?_
  refine cg_47_0_Uni_56 (pc := 4) C d_Uni_uniteVariable_4 ?_
  refine ax_iload_n (pc := 7) C d_Uni_uniteVariable_7 rfl 1 rfl ?_
  replace h := it_g h
  obtain ⟨hb, h⟩ := h
  refine cl_48 (pc := 8) C d_Uni_uniteVariable_8 (bin_in hb) ?_
  refine ax_if_ge (pc := 9) C 33 d_Uni_uniteVariable_9 (by decide) (fun hc => ?_) (fun hc => ?_)
  · replace h := it_t hc h
    refine ax_iconst (pc := 33) C (-1) d_Uni_uniteVariable_33 (by decide +kernel) ?_
    refine ax_ls ([(0, .ref (u 59)), (1, .int x0), (2, .int x1), (3, .int x2), (4, .int x3), (5, .int x4)]) [0, 1, 2, 3, 4, 5] rfl ?_
    replace hm : sG_Uni_uniteVariable_p34 l D kA u σ [x0, x1, x2, x3, x4, (-1)] (σf, rf, _) := ih tG_Uni_uniteVariable_p34 _ _ _ h
    exact hm _ _ _ _ _ _ rfl w tx p e s m args below meth c F Lo mc ms cells slots σ0 w0 tx hF hLo hcq hsq hga C
  · replace h := it_f hc h
    refine ax_aload_n (pc := 12) C d_Uni_uniteVariable_12 rfl 0 rfl ?_
    refine cg_59_2_Uni_13 (pc := 13) C d_Uni_uniteVariable_13 ?_
    refine ax_aload_n (pc := 16) C d_Uni_uniteVariable_16 rfl 0 rfl ?_
    refine cg_59_1_Uni_40 (pc := 17) C d_Uni_uniteVariable_17 ?_
    refine cg_47_0_Uni_56 (pc := 20) C d_Uni_uniteVariable_20 ?_
    refine ax_iload_n (pc := 23) C d_Uni_uniteVariable_23 rfl 1 rfl ?_
    replace h := it_g h
    obtain ⟨hb, h⟩ := h
    refine cl_48 (pc := 24) C d_Uni_uniteVariable_24 (bin_in hb) ?_
    refine ax_iconst (pc := 25) C (-1) d_Uni_uniteVariable_25 (by decide +kernel) ?_
    refine ax_ixor (pc := 26) C d_Uni_uniteVariable_26 ?_
    refine ax_iload_n (pc := 27) C d_Uni_uniteVariable_27 rfl 2 rfl ?_
    refine ax_iadd (pc := 28) C d_Uni_uniteVariable_28 ?_
    replace h := it_g h
    obtain ⟨hb, h⟩ := h
    refine cl_60 (pc := 29) C d_Uni_uniteVariable_29 (bin_in hb) ?_
    refine ax_goto (pc := 30) C 34 d_Uni_uniteVariable_30 (by decide) ?_
    refine ax_ls ([(0, .ref (u 59)), (1, .int x0), (2, .int x1), (3, .int x2), (4, .int x3), (5, .int x4)]) [0, 1, 2, 3, 4, 5] rfl ?_
    replace hm : sG_Uni_uniteVariable_p34 l D kA u σ [x0, x1, x2, x3, x4, (σ.2.1 60 (Int32.toNatClampNeg (((((σ.2.1 48 (Int32.toNatClampNeg x0)) : Int32) ^^^ (-1)) : Int32) + x1)))] (σf, rf, _) := ih tG_Uni_uniteVariable_p34 _ _ _ h
    exact hm _ _ _ _ _ _ rfl w tx p e s m args below meth c F Lo mc ms cells slots σ0 w0 tx hF hLo hcq hsq hga C
set_option maxHeartbeats 4000000 in
set_option maxRecDepth 100000 in
theorem oG_Uni_uniteVariable_p34 (l : Launch) (D : va_G) (kA : Nat → ClassId) (u : Nat → Nat) (rec : mF) (hG : GM rec) (ihC : ∀ (w : Nat → Nat) (tx : Value) t σ xs res, rec t σ xs = some res → cSem l D kA u w tx t σ xs res) (ih : ∀ t σ xs res, rec t σ xs = some res → gSem l D kA u t σ xs res) (σ : mS) (xs : List Int32) (res : mR) (h : u_6 (kG_Uni_uniteVariable_p34 rec σ) xs = some res) : sG_Uni_uniteVariable_p34 l D kA u σ xs res := by
  intro x0 x1 x2 x3 x4 x5 hxs w tx
  subst hxs
  obtain ⟨σf, rf, dd⟩ := res
  have hmn : gle σ σf := qG_Uni_uniteVariable_p34 rec hG σ x0 x1 x2 x3 x4 x5 _ h
  have h : (if bin x2 (σ.2.2 48) = true then (if 0 ≤ (σ.2.1 48 (Int32.toNatClampNeg x2)) then (rec tG_Uni_uniteVariable_p71 σ [x0, x1, x2, x3, x4, x5, (-1)]) else (if bin x2 (σ.2.2 48) = true then (if bin (((((σ.2.1 48 (Int32.toNatClampNeg x2)) : Int32) ^^^ (-1)) : Int32) + x3) 12 = true then (rec tG_Uni_uniteVariable_p71 σ [x0, x1, x2, x3, x4, x5, (σ.2.1 60 (Int32.toNatClampNeg (((((σ.2.1 48 (Int32.toNatClampNeg x2)) : Int32) ^^^ (-1)) : Int32) + x3)))]) else none) else none)) else none) = some (σf, rf, dd) := h
  intro p e s m args below meth c F Lo mc ms cells slots σ0 w0 tx0 hF hLo hcq hsq hga C
  dsimp only at hF hLo hcq hsq ⊢
  have hcm : cells ≤ mc := by have := hmn.1; omega
  have hsm : slots ≤ ms := by have := hmn.2; omega
  have hle : True := trivial
  have hm : True := trivial
  refine ax_istore (pc := 34) C d_Uni_uniteVariable_34 (Nat.le_of_ble_eq_true rfl) ([(6, .int x5), (0, .ref (u 59)), (1, .int x0), (2, .int x1), (3, .int x2), (4, .int x3), (5, .int x4)]) rfl ?_
  refine ax_aload_n (pc := 36) C d_Uni_uniteVariable_36 rfl 1 rfl ?_
  refine cg_59_1_Uni_40 (pc := 37) C d_Uni_uniteVariable_37 ?_
  refine cg_47_0_Uni_56 (pc := 40) C d_Uni_uniteVariable_40 ?_
  refine ax_iload_n (pc := 43) C d_Uni_uniteVariable_43 rfl 4 rfl ?_
  replace h := it_g h
  obtain ⟨hb, h⟩ := h
  refine cl_48 (pc := 44) C d_Uni_uniteVariable_44 (bin_in hb) ?_
  refine ax_if_ge (pc := 45) C 70 d_Uni_uniteVariable_45 (by decide) (fun hc => ?_) (fun hc => ?_)
  · replace h := it_t hc h
    refine ax_iconst (pc := 70) C (-1) d_Uni_uniteVariable_70 (by decide +kernel) ?_
    refine ax_ls ([(0, .ref (u 59)), (1, .int x0), (2, .int x1), (3, .int x2), (4, .int x3), (5, .int x4), (6, .int x5)]) [1, 2, 3, 4, 5, 6, 0] rfl ?_
    replace hm : sG_Uni_uniteVariable_p71 l D kA u σ [x0, x1, x2, x3, x4, x5, (-1)] (σf, rf, _) := ih tG_Uni_uniteVariable_p71 _ _ _ h
    exact hm _ _ _ _ _ _ _ rfl w tx p e s m args below meth c F Lo mc ms cells slots σ0 w0 tx0 hF hLo hcq hsq hga C
  · replace h := it_f hc h
    refine ax_aload_n (pc := 48) C d_Uni_uniteVariable_48 rfl 1 rfl ?_
    refine cg_59_2_Uni_13 (pc := 49) C d_Uni_uniteVariable_49 ?_
    refine ax_aload_n (pc := 52) C d_Uni_uniteVariable_52 rfl 1 rfl ?_
    refine cg_59_1_Uni_40 (pc := 53) C d_Uni_uniteVariable_53 ?_
    refine cg_47_0_Uni_56 (pc := 56) C d_Uni_uniteVariable_56 ?_
    refine ax_iload_n (pc := 59) C d_Uni_uniteVariable_59 rfl 4 rfl ?_
    replace h := it_g h
    obtain ⟨hb, h⟩ := h
    refine cl_48 (pc := 60) C d_Uni_uniteVariable_60 (bin_in hb) ?_
    refine ax_iconst (pc := 61) C (-1) d_Uni_uniteVariable_61 (by decide +kernel) ?_
    refine ax_ixor (pc := 62) C d_Uni_uniteVariable_62 ?_
    refine ax_iload (pc := 63) C d_Uni_uniteVariable_63 5 rfl ?_
    refine ax_iadd (pc := 65) C d_Uni_uniteVariable_65 ?_
    replace h := it_g h
    obtain ⟨hb, h⟩ := h
    refine cl_60 (pc := 66) C d_Uni_uniteVariable_66 (bin_in hb) ?_
    refine ax_goto (pc := 67) C 71 d_Uni_uniteVariable_67 (by decide) ?_
    refine ax_ls ([(0, .ref (u 59)), (1, .int x0), (2, .int x1), (3, .int x2), (4, .int x3), (5, .int x4), (6, .int x5)]) [1, 2, 3, 4, 5, 6, 0] rfl ?_
    replace hm : sG_Uni_uniteVariable_p71 l D kA u σ [x0, x1, x2, x3, x4, x5, (σ.2.1 60 (Int32.toNatClampNeg (((((σ.2.1 48 (Int32.toNatClampNeg x2)) : Int32) ^^^ (-1)) : Int32) + x3)))] (σf, rf, _) := ih tG_Uni_uniteVariable_p71 _ _ _ h
    exact hm _ _ _ _ _ _ _ rfl w tx p e s m args below meth c F Lo mc ms cells slots σ0 w0 tx0 hF hLo hcq hsq hga C
set_option maxHeartbeats 4000000 in
set_option maxRecDepth 100000 in
theorem oG_Uni_uniteVariable_p71 (l : Launch) (D : va_G) (kA : Nat → ClassId) (u : Nat → Nat) (rec : mF) (hG : GM rec) (ihC : ∀ (w : Nat → Nat) (tx : Value) t σ xs res, rec t σ xs = some res → cSem l D kA u w tx t σ xs res) (ih : ∀ t σ xs res, rec t σ xs = some res → gSem l D kA u t σ xs res) (σ : mS) (xs : List Int32) (res : mR) (h : u_7 (kG_Uni_uniteVariable_p71 rec σ) xs = some res) : sG_Uni_uniteVariable_p71 l D kA u σ xs res := by
  intro x0 x1 x2 x3 x4 x5 x6 hxs w tx
  subst hxs
  obtain ⟨σf, rf, dd⟩ := res
  have hmn : gle σ σf := qG_Uni_uniteVariable_p71 rec hG σ x0 x1 x2 x3 x4 x5 x6 _ h
  have h : (if x5 = x6 then (some (σ, 1, 0)) else (if x5 = (-1) then (bnd (rec tG_Uni_meet σ [x6, x0, x1, x4]) (fun σ3 r3 => if r3 = 0 ∨ r3 = 1 then some (σ3, r3, 0) else none)) else (if x6 = (-1) then (bnd (rec tG_Uni_meet σ [x5, x2, x3, x4]) (fun σ2 r2 => if r2 = 0 ∨ r2 = 1 then some (σ2, r2, 0) else none)) else (bnd (rec tG_Uni_join σ [x5, x6, x4]) (fun σ1 r1 => if r1 = 0 ∨ r1 = 1 then some (σ1, r1, 0) else none))))) = some (σf, rf, dd) := h
  intro p e s m args below meth c F Lo mc ms cells slots σ0 w0 tx0 hF hLo hcq hsq hga C
  dsimp only at hF hLo hcq hsq ⊢
  have hcm : cells ≤ mc := by have := hmn.1; omega
  have hsm : slots ≤ ms := by have := hmn.2; omega
  have hle : True := trivial
  have hm : True := trivial
  refine ax_istore (pc := 71) C d_Uni_uniteVariable_71 (Nat.le_of_ble_eq_true rfl) ([(7, .int x6), (0, .ref (u 59)), (1, .int x0), (2, .int x1), (3, .int x2), (4, .int x3), (5, .int x4), (6, .int x5)]) rfl ?_
  refine ax_iload (pc := 73) C d_Uni_uniteVariable_73 7 rfl ?_
  refine ax_iload (pc := 75) C d_Uni_uniteVariable_75 0 rfl ?_
  refine ax_icmp_ne (pc := 77) C 82 d_Uni_uniteVariable_77 (by decide) (fun hc => ?_) (fun hc => ?_)
  · replace h := it_f hc h
    refine ax_iload (pc := 82) C d_Uni_uniteVariable_82 7 rfl ?_
    refine ax_iconst (pc := 84) C (-1) d_Uni_uniteVariable_84 (by decide +kernel) ?_
    refine ax_icmp_ne (pc := 85) C 99 d_Uni_uniteVariable_85 (by decide) (fun hc => ?_) (fun hc => ?_)
    · replace h := it_f hc h
      refine ax_iload (pc := 99) C d_Uni_uniteVariable_99 0 rfl ?_
      refine ax_iconst (pc := 101) C (-1) d_Uni_uniteVariable_101 (by decide +kernel) ?_
      refine ax_icmp_ne (pc := 102) C 117 d_Uni_uniteVariable_102 (by decide) (fun hc => ?_) (fun hc => ?_)
      · replace h := it_f hc h
        refine ax_aload_n (pc := 117) C d_Uni_uniteVariable_117 rfl 1 rfl ?_
        refine ax_iload (pc := 118) C d_Uni_uniteVariable_118 7 rfl ?_
        refine ax_iload (pc := 120) C d_Uni_uniteVariable_120 0 rfl ?_
        refine ax_iload (pc := 122) C d_Uni_uniteVariable_122 6 rfl ?_
        replace h := it_b h
        obtain ⟨σ1, r1, d1_1, d2_1, h1, h, hd2, hd1⟩ := h
        replace hle := hG _ _ _ _ (by decide) h1
        dsimp only at hle
        replace hmn : gle σ1 σf := gm_use h (gm_if gm_some gm_none)
        replace hm : sG_Uni_join l D kA u σ [x5, x6, x4] (σ1, r1, d1_1) := ih tG_Uni_join _ _ _ h1
        refine gc_Vi (pc := 124) C (As := [.int x5, .int x6, .int x4]) (rest := []) (hm _ _ _ rfl w tx) ml_Uni_76 59 rfl rfl rfl d_Uni_uniteVariable_124 rfl rfl (by dsimp only; omega) (by dsimp only; omega) (by have := hmn.1; have := hle.1; dsimp only; omega) (by have := hmn.2; have := hle.2; dsimp only; omega) (Nat.le_of_ble_eq_true rfl) (fun r9 w1 hw => ?_)
        obtain ⟨hrq1, w1, tx1, hag1, htq1, hwq1⟩ := hw
        dsimp only at hwq1 hrq1
        subst hwq1
        replace hrq1 := hrq1.symm
        subst hrq1
        dsimp only
        replace htq1 := htq1.symm
        subst htq1
        have hga1 : ∀ i, ([65] : List Nat).elem i = false → w1 i = w0 i := fun i hi => (hag1 i (by revert hi; exact el_sub (by decide))).trans (hga i hi)
        replace hcq : (cells + (σ1.2.2 3001 - σ.2.2 3001)) + σf.2.2 3001 ≤ mc + σ1.2.2 3001 := by have := hmn.1; have := hle.1; omega
        replace hcm : (cells + (σ1.2.2 3001 - σ.2.2 3001)) ≤ mc := by have := hmn.1; have := hle.1; omega
        generalize cells + (σ1.2.2 3001 - σ.2.2 3001) = cells at hcq hcm ⊢
        replace hsq : (slots + (σ1.2.2 3002 - σ.2.2 3002)) + σf.2.2 3002 ≤ ms + σ1.2.2 3002 := by have := hmn.2; have := hle.2; omega
        replace hsm : (slots + (σ1.2.2 3002 - σ.2.2 3002)) ≤ ms := by have := hmn.2; have := hle.2; omega
        generalize slots + (σ1.2.2 3002 - σ.2.2 3002) = slots at hsq hsm ⊢
        replace hF : d2_1 + 3 ≤ F := by omega
        replace hLo : 48 * d2_1 + 144 ≤ Lo := by omega
        replace h := it_g h
        obtain ⟨hb, h⟩ := h
        cases h
        exact ax_zret (pc := 127) C d_Uni_uniteVariable_127 (nb01 hb) ⟨rfl, w1, tx, hga1, rfl, rfl⟩ hcm hsm
      · replace h := it_t hc h
        refine ax_aload_n (pc := 105) C d_Uni_uniteVariable_105 rfl 1 rfl ?_
        refine ax_iload (pc := 106) C d_Uni_uniteVariable_106 7 rfl ?_
        refine ax_iload_n (pc := 108) C d_Uni_uniteVariable_108 rfl 4 rfl ?_
        refine ax_iload (pc := 109) C d_Uni_uniteVariable_109 5 rfl ?_
        refine ax_iload (pc := 111) C d_Uni_uniteVariable_111 6 rfl ?_
        replace h := it_b h
        obtain ⟨σ2, r2, d1_2, d2_2, h1, h, hd2, hd1⟩ := h
        replace hle := hG _ _ _ _ (by decide) h1
        dsimp only at hle
        replace hmn : gle σ2 σf := gm_use h (gm_if gm_some gm_none)
        replace hm : sG_Uni_meet l D kA u σ [x5, x2, x3, x4] (σ2, r2, d1_2) := ih tG_Uni_meet _ _ _ h1
        refine gc_Vi (pc := 113) C (As := [.int x5, .int x2, .int x3, .int x4]) (rest := []) (hm _ _ _ _ rfl w tx) ml_Uni_72 59 rfl rfl rfl d_Uni_uniteVariable_113 rfl rfl (by dsimp only; omega) (by dsimp only; omega) (by have := hmn.1; have := hle.1; dsimp only; omega) (by have := hmn.2; have := hle.2; dsimp only; omega) (Nat.le_of_ble_eq_true rfl) (fun r9 w1 hw => ?_)
        obtain ⟨hrq2, w2, tx2, hag2, htq2, hwq2⟩ := hw
        dsimp only at hwq2 hrq2
        subst hwq2
        replace hrq2 := hrq2.symm
        subst hrq2
        dsimp only
        replace htq2 := htq2.symm
        subst htq2
        have hga2 : ∀ i, ([65] : List Nat).elem i = false → w2 i = w0 i := fun i hi => (hag2 i (by revert hi; exact el_sub (by decide))).trans (hga i hi)
        replace hcq : (cells + (σ2.2.2 3001 - σ.2.2 3001)) + σf.2.2 3001 ≤ mc + σ2.2.2 3001 := by have := hmn.1; have := hle.1; omega
        replace hcm : (cells + (σ2.2.2 3001 - σ.2.2 3001)) ≤ mc := by have := hmn.1; have := hle.1; omega
        generalize cells + (σ2.2.2 3001 - σ.2.2 3001) = cells at hcq hcm ⊢
        replace hsq : (slots + (σ2.2.2 3002 - σ.2.2 3002)) + σf.2.2 3002 ≤ ms + σ2.2.2 3002 := by have := hmn.2; have := hle.2; omega
        replace hsm : (slots + (σ2.2.2 3002 - σ.2.2 3002)) ≤ ms := by have := hmn.2; have := hle.2; omega
        generalize slots + (σ2.2.2 3002 - σ.2.2 3002) = slots at hsq hsm ⊢
        replace hF : d2_2 + 3 ≤ F := by omega
        replace hLo : 48 * d2_2 + 144 ≤ Lo := by omega
        replace h := it_g h
        obtain ⟨hb, h⟩ := h
        cases h
        exact ax_zret (pc := 116) C d_Uni_uniteVariable_116 (nb01 hb) ⟨rfl, w2, tx, hga2, rfl, rfl⟩ hcm hsm
    · replace h := it_t hc h
      refine ax_aload_n (pc := 88) C d_Uni_uniteVariable_88 rfl 1 rfl ?_
      refine ax_iload (pc := 89) C d_Uni_uniteVariable_89 0 rfl ?_
      refine ax_iload_n (pc := 91) C d_Uni_uniteVariable_91 rfl 2 rfl ?_
      refine ax_iload_n (pc := 92) C d_Uni_uniteVariable_92 rfl 3 rfl ?_
      refine ax_iload (pc := 93) C d_Uni_uniteVariable_93 6 rfl ?_
      replace h := it_b h
      obtain ⟨σ3, r3, d1_3, d2_3, h1, h, hd2, hd1⟩ := h
      replace hle := hG _ _ _ _ (by decide) h1
      dsimp only at hle
      replace hmn : gle σ3 σf := gm_use h (gm_if gm_some gm_none)
      replace hm : sG_Uni_meet l D kA u σ [x6, x0, x1, x4] (σ3, r3, d1_3) := ih tG_Uni_meet _ _ _ h1
      refine gc_Vi (pc := 95) C (As := [.int x6, .int x0, .int x1, .int x4]) (rest := []) (hm _ _ _ _ rfl w tx) ml_Uni_72 59 rfl rfl rfl d_Uni_uniteVariable_95 rfl rfl (by dsimp only; omega) (by dsimp only; omega) (by have := hmn.1; have := hle.1; dsimp only; omega) (by have := hmn.2; have := hle.2; dsimp only; omega) (Nat.le_of_ble_eq_true rfl) (fun r9 w1 hw => ?_)
      obtain ⟨hrq3, w3, tx3, hag3, htq3, hwq3⟩ := hw
      dsimp only at hwq3 hrq3
      subst hwq3
      replace hrq3 := hrq3.symm
      subst hrq3
      dsimp only
      replace htq3 := htq3.symm
      subst htq3
      have hga3 : ∀ i, ([65] : List Nat).elem i = false → w3 i = w0 i := fun i hi => (hag3 i (by revert hi; exact el_sub (by decide))).trans (hga i hi)
      replace hcq : (cells + (σ3.2.2 3001 - σ.2.2 3001)) + σf.2.2 3001 ≤ mc + σ3.2.2 3001 := by have := hmn.1; have := hle.1; omega
      replace hcm : (cells + (σ3.2.2 3001 - σ.2.2 3001)) ≤ mc := by have := hmn.1; have := hle.1; omega
      generalize cells + (σ3.2.2 3001 - σ.2.2 3001) = cells at hcq hcm ⊢
      replace hsq : (slots + (σ3.2.2 3002 - σ.2.2 3002)) + σf.2.2 3002 ≤ ms + σ3.2.2 3002 := by have := hmn.2; have := hle.2; omega
      replace hsm : (slots + (σ3.2.2 3002 - σ.2.2 3002)) ≤ ms := by have := hmn.2; have := hle.2; omega
      generalize slots + (σ3.2.2 3002 - σ.2.2 3002) = slots at hsq hsm ⊢
      replace hF : d2_3 + 3 ≤ F := by omega
      replace hLo : 48 * d2_3 + 144 ≤ Lo := by omega
      replace h := it_g h
      obtain ⟨hb, h⟩ := h
      cases h
      exact ax_zret (pc := 98) C d_Uni_uniteVariable_98 (nb01 hb) ⟨rfl, w3, tx, hga3, rfl, rfl⟩ hcm hsm
  · replace h := it_t hc h
    refine ax_iconst (pc := 80) C 1 d_Uni_uniteVariable_80 (by decide +kernel) ?_
    cases h
    exact ax_zret (pc := 81) C d_Uni_uniteVariable_81 rfl ⟨rfl, w, tx, hga, rfl, rfl⟩ hcm hsm
set_option maxHeartbeats 4000000 in
set_option maxRecDepth 100000 in
theorem oG_Wds_open_2 (l : Launch) (D : va_G) (kA : Nat → ClassId) (u : Nat → Nat) (rec : mF) (hG : GM rec) (ihC : ∀ (w : Nat → Nat) (tx : Value) t σ xs res, rec t σ xs = some res → cSem l D kA u w tx t σ xs res) (ih : ∀ t σ xs res, rec t σ xs = some res → gSem l D kA u t σ xs res) (σ : mS) (xs : List Int32) (res : mR) (h : u_1 (kG_Wds_open_2 rec σ) xs = some res) : sG_Wds_open_2 l D kA u σ xs res := by
  intro x0 hxs w tx
  subst hxs
  obtain ⟨σf, rf, dd⟩ := res
  have hmn : gle σ σf := qG_Wds_open_2 rec hG σ x0 _ h
  have h : (lt_ (mI σ 3201 x0) (fun σ1 => lt_ (mI σ1 3206 0) (fun σ2 => lt_ (mI σ2 3207 0) (fun σ3 => bnd (rec tC_Wds_advance σ3 []) (fun σ4 r4 => some (σ4, 0, 0)))))) = some (σf, rf, dd) := h
  refine ax_Mv.of (by decide +kernel) (Nat.le_of_ble_eq_true rfl) ?_
  intro p e s m args below meth c C hnm
  replace C : ax_C p s m args meth c b_Wds_open "ClauseProver$Words" 3 none D kA (va_A (cpW kA u w tx σ) s.heap.size) := C
  obtain ⟨F, hFe⟩ : ∃ z, z = dd + 3 := ⟨_, rfl⟩
  obtain ⟨Lo, hLoe⟩ : ∃ z, z = 48 * dd + 144 := ⟨_, rfl⟩
  obtain ⟨mc, hmce⟩ : ∃ z, z = σf.2.2 3001 - σ.2.2 3001 := ⟨_, rfl⟩
  obtain ⟨ms, hmse⟩ : ∃ z, z = σf.2.2 3002 - σ.2.2 3002 := ⟨_, rfl⟩
  obtain ⟨σ0, hσ0e⟩ : ∃ z, z = σ := ⟨_, rfl⟩
  obtain ⟨w0, hw0e⟩ : ∃ z, z = w := ⟨_, rfl⟩
  obtain ⟨tx0, htx0e⟩ : ∃ z, z = tx := ⟨_, rfl⟩
  suffices K : ∀ (cells slots : Nat), cells = 0 → slots = 0 → AW p l e { frames := F, cells := mc, slots := ms, locals := Lo } s m args below meth c D kA (va_A (cpW kA u w0 tx0 σ0) s.heap.size) 3 (ax_Qv below args s D kA (cpW kA u w0 tx0 σ0) mc ms (fun w1 => ∃ (w2 : Nat → Nat) (tx2 : Value), (∀ i, ([] : List Nat).elem i = false → w2 i = w0 i) ∧ tx2 = .ref (w0 2) ∧ w1 = cpW kA u w2 tx2 σf)) 0 [(0, .ref (u 32)), (1, .ref (w 2)), (2, .int x0)] [] (cpW kA u w tx σ) cells slots by
    have K := K 0 0 rfl rfl
    rw [hFe, hLoe, hmce, hmse, hσ0e, hw0e, htx0e] at K
    exact ax_ls ([(0, .ref (u 32)), (1, .ref (w 2)), (2, .int x0)]) [0, 1, 2] rfl K
  replace C : ax_C p s m args meth c b_Wds_open "ClauseProver$Words" 3 none D kA (va_A (cpW kA u w0 tx0 σ0) s.heap.size) := by rw [hσ0e, hw0e, htx0e]; exact C
  intro cells slots hc0 hs0
  have hcq : cells + σf.2.2 3001 ≤ mc + σ.2.2 3001 := by have := hmn.1; omega
  have hsq : slots + σf.2.2 3002 ≤ ms + σ.2.2 3002 := by have := hmn.2; omega
  have hga : ∀ i, ([] : List Nat).elem i = false → w i = w0 i := fun i _ => by rw [hw0e]
  have hF : dd + 3 ≤ F := by omega
  have hLo : 48 * dd + 144 ≤ Lo := by omega
  have hcm : cells ≤ mc := by have := hmn.1; omega
  have hsm : slots ≤ ms := by have := hmn.2; omega
  have hle : True := trivial
  have hm : True := trivial
  refine ax_aload_n (pc := 0) C d_Wds_open_0 rfl 0 rfl ?_
  refine ax_aload_n (pc := 1) C d_Wds_open_1 rfl 1 rfl ?_
  refine gp_text_Wds_9 (pc := 2) C d_Wds_open_2 ?_
  obtain ⟨tx9, htx9⟩ : ∃ t, t = Value.ref (w 2) := ⟨_, rfl⟩
  rw [← htx9]
  refine ax_aload_n (pc := 5) C d_Wds_open_5 rfl 0 rfl ?_
  refine ax_iload_n (pc := 6) C d_Wds_open_6 rfl 2 rfl ?_
  refine cq_32_1_Wds_15 (pc := 7) C d_Wds_open_7 ?_
  replace h := it_l h
  replace hcq : cells + σf.2.2 3001 ≤ mc + (mI σ 3201 x0).2.2 3001 := hcq
  replace hsq : slots + σf.2.2 3002 ≤ ms + (mI σ 3201 x0).2.2 3002 := hsq
  generalize mI σ 3201 x0 = σ1 at h hcq hsq ⊢
  refine ax_aload_n (pc := 10) C d_Wds_open_10 rfl 0 rfl ?_
  refine ax_iconst (pc := 11) C 0 d_Wds_open_11 (by decide +kernel) ?_
  refine cq_32_6_Wds_19 (pc := 12) C d_Wds_open_12 ?_
  replace h := it_l h
  replace hcq : cells + σf.2.2 3001 ≤ mc + (mI σ1 3206 0).2.2 3001 := hcq
  replace hsq : slots + σf.2.2 3002 ≤ ms + (mI σ1 3206 0).2.2 3002 := hsq
  generalize mI σ1 3206 0 = σ2 at h hcq hsq ⊢
  refine ax_aload_n (pc := 15) C d_Wds_open_15 rfl 0 rfl ?_
  refine ax_iconst (pc := 16) C 0 d_Wds_open_16 (by decide +kernel) ?_
  refine cq_32_7_Wds_22 (pc := 17) C d_Wds_open_17 ?_
  replace h := it_l h
  replace hcq : cells + σf.2.2 3001 ≤ mc + (mI σ2 3207 0).2.2 3001 := hcq
  replace hsq : slots + σf.2.2 3002 ≤ ms + (mI σ2 3207 0).2.2 3002 := hsq
  generalize mI σ2 3207 0 = σ3 at h hcq hsq ⊢
  refine ax_aload_n (pc := 20) C d_Wds_open_20 rfl 0 rfl ?_
  replace h := it_b h
  obtain ⟨σ4, r4, d1_4, d2_4, h1, h, hd2, hd1⟩ := h
  replace hle := hG _ _ _ _ (by decide) h1
  dsimp only at hle
  replace hmn : gle σ4 σf := gm_use h gm_some
  replace hm : sC_Wds_advance l D kA u w tx9 σ3 [] (σ4, r4, d1_4) := ihC _ _ tC_Wds_advance _ _ _ h1
  refine cc_Vv (pc := 21) C (σ2 := σ4) (As := []) (rest := []) (hm rfl htx9) ml_Wds_25 32 rfl rfl rfl d_Wds_open_21 rfl rfl (by dsimp only; omega) (by dsimp only; omega) hcm hsm (Nat.le_of_ble_eq_true rfl) ?_
  replace hcq : cells + σf.2.2 3001 ≤ mc + σ4.2.2 3001 := by have := hle.1; omega
  replace hsq : slots + σf.2.2 3002 ≤ ms + σ4.2.2 3002 := by have := hle.2; omega
  replace hF : d2_4 + 3 ≤ F := by omega
  replace hLo : 48 * d2_4 + 144 ≤ Lo := by omega
  cases h
  exact ax_vret (pc := 24) C d_Wds_open_24 ⟨w, tx9, hga, (by rw [htx9, hga 2 rfl]), rfl⟩ hcm hsm
