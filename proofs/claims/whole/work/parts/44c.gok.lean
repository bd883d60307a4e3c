set_option maxHeartbeats 4000000 in
set_option maxRecDepth 100000 in
theorem oG_CP_addBytes (l : Launch) (D : va_G) (kA : Nat → ClassId) (u : Nat → Nat) (rec : mF) (hG : GM rec) (ihC : ∀ (w : Nat → Nat) (tx : Value) t σ xs res, rec t σ xs = some res → cSem l D kA u w tx t σ xs res) (ih : ∀ t σ xs res, rec t σ xs = some res → gSem l D kA u t σ xs res) (σ : mS) (xs : List Int32) (res : mR) (h : u_1 (kG_CP_addBytes rec σ) xs = some res) : sG_CP_addBytes l D kA u σ xs res := by
  intro x0 hxs w tx
  subst hxs
  obtain ⟨σf, rf, dd⟩ := res
  have hmn : gle σ σf := qG_CP_addBytes rec hG σ x0 _ h
  have h : (rec tG_CP_addBytes_p3 σ [x0, 24]) = some (σf, rf, dd) := h
  refine ax_Mv.of (by decide +kernel) (Nat.le_of_ble_eq_true rfl) ?_
  intro p e s m args below meth c C hnm
  replace C : ax_C p s m args meth c b_CP_addBytes "ClauseProver" 3 none D kA (va_A (cpW kA u w tx σ) s.heap.size) := C
  obtain ⟨F, hFe⟩ : ∃ z, z = dd + 3 := ⟨_, rfl⟩
  obtain ⟨Lo, hLoe⟩ : ∃ z, z = 48 * dd + 144 := ⟨_, rfl⟩
  obtain ⟨mc, hmce⟩ : ∃ z, z = σf.2.2 3001 - σ.2.2 3001 := ⟨_, rfl⟩
  obtain ⟨ms, hmse⟩ : ∃ z, z = σf.2.2 3002 - σ.2.2 3002 := ⟨_, rfl⟩
  obtain ⟨σ0, hσ0e⟩ : ∃ z, z = σ := ⟨_, rfl⟩
  obtain ⟨w0, hw0e⟩ : ∃ z, z = w := ⟨_, rfl⟩
  obtain ⟨tx0, htx0e⟩ : ∃ z, z = tx := ⟨_, rfl⟩
  suffices K : ∀ (cells slots : Nat), cells = 0 → slots = 0 → AW p l e { frames := F, cells := mc, slots := ms, locals := Lo } s m args below meth c D kA (va_A (cpW kA u w0 tx0 σ0) s.heap.size) 3 (ax_Qv below args s D kA (cpW kA u w0 tx0 σ0) mc ms (fun w1 => ∃ (w2 : Nat → Nat) (tx2 : Value), (∀ i, ([2] : List Nat).elem i = false → w2 i = w0 i) ∧ tx2 = tx0 ∧ w1 = cpW kA u w2 tx2 σf)) 0 [(0, .ref (u 0)), (1, .int x0)] [] (cpW kA u w tx σ) cells slots by
    have K := K 0 0 rfl rfl
    rw [hFe, hLoe, hmce, hmse, hσ0e, hw0e, htx0e] at K
    exact ax_ls ([(0, .ref (u 0)), (1, .int x0)]) [0, 1] rfl K
  replace C : ax_C p s m args meth c b_CP_addBytes "ClauseProver" 3 none D kA (va_A (cpW kA u w0 tx0 σ0) s.heap.size) := by rw [hσ0e, hw0e, htx0e]; exact C
  intro cells slots hc0 hs0
  have hcq : cells + σf.2.2 3001 ≤ mc + σ.2.2 3001 := by have := hmn.1; omega
  have hsq : slots + σf.2.2 3002 ≤ ms + σ.2.2 3002 := by have := hmn.2; omega
  have hga : ∀ i, ([2] : List Nat).elem i = false → w i = w0 i := fun i _ => by rw [hw0e]
  have e9 : tx = tx0 := htx0e.symm
  subst e9
  have hF : dd + 3 ≤ F := by omega
  have hLo : 48 * dd + 144 ≤ Lo := by omega
  have hcm : cells ≤ mc := by have := hmn.1; omega
  have hsm : slots ≤ ms := by have := hmn.2; omega
  have hle : True := trivial
  have hm : True := trivial
  refine ax_bipush (pc := 0) C 24 d_CP_addBytes_0 (by decide +kernel) ?_
  refine ax_istore_n (pc := 2) C d_CP_addBytes_2 rfl (Nat.le_of_ble_eq_true rfl) ([(2, .int 24), (0, .ref (u 0)), (1, .int x0)]) rfl ?_
  refine ax_ls ([(0, .ref (u 0)), (1, .int x0), (2, .int 24)]) [1, 2, 0] rfl ?_
  replace hm : sG_CP_addBytes_p3 l D kA u σ [x0, 24] (σf, rf, _) := ih tG_CP_addBytes_p3 _ _ _ h
  exact hm _ _ rfl w tx p e s m args below meth c F Lo mc ms cells slots σ0 w0 tx hF hLo hcq hsq hga C
set_option maxHeartbeats 4000000 in
set_option maxRecDepth 100000 in
theorem oG_CP_addBytes_p3 (l : Launch) (D : va_G) (kA : Nat → ClassId) (u : Nat → Nat) (rec : mF) (hG : GM rec) (ihC : ∀ (w : Nat → Nat) (tx : Value) t σ xs res, rec t σ xs = some res → cSem l D kA u w tx t σ xs res) (ih : ∀ t σ xs res, rec t σ xs = some res → gSem l D kA u t σ xs res) (σ : mS) (xs : List Int32) (res : mR) (h : u_2 (kG_CP_addBytes_p3 rec σ) xs = some res) : sG_CP_addBytes_p3 l D kA u σ xs res := by
  intro x0 x1 hxs w tx
  subst hxs
  obtain ⟨σf, rf, dd⟩ := res
  have hmn : gle σ σf := qG_CP_addBytes_p3 rec hG σ x0 x1 _ h
  have h : (if x1 < 0 then (some (σ, 0, 0)) else (if rok σ 101 2 = true then (lt_ (rAdd σ 101 2 (((((x0 : Int32).toUInt32 >>> ((x1 : Int32).toUInt32 &&& Int32.toUInt32 31)).toInt32) : Int32) &&& 255)) (fun σ1 => rec tG_CP_addBytes_p3 σ1 [x0, (x1 + (-8))])) else none)) = some (σf, rf, dd) := h
  intro p e s m args below meth c F Lo mc ms cells slots σ0 w0 tx0 hF hLo hcq hsq hga C
  dsimp only at hF hLo hcq hsq ⊢
  have hcm : cells ≤ mc := by have := hmn.1; omega
  have hsm : slots ≤ ms := by have := hmn.2; omega
  have hle : True := trivial
  have hm : True := trivial
  refine ax_iload_n (pc := 3) C d_CP_addBytes_3 rfl 2 rfl ?_
  refine ax_if_lt (pc := 4) C 27 d_CP_addBytes_4 (by decide) (fun hc => ?_) (fun hc => ?_)
  · replace h := it_t hc h
    cases h
    exact ax_vret (pc := 27) C d_CP_addBytes_27 ⟨w, tx, hga, rfl, rfl⟩ hcm hsm
  · replace h := it_f hc h
    refine ax_aload_n (pc := 7) C d_CP_addBytes_7 rfl 0 rfl ?_
    refine cg_0_0_CP_14 (pc := 8) C d_CP_addBytes_8 ?_
    refine ax_iload_n (pc := 11) C d_CP_addBytes_11 rfl 1 rfl ?_
    refine ax_iload_n (pc := 12) C d_CP_addBytes_12 rfl 2 rfl ?_
    refine ax_iushr (pc := 13) C (((x0 : Int32).toUInt32 >>> ((x1 : Int32).toUInt32 &&& Int32.toUInt32 31)).toInt32) d_CP_addBytes_13 rfl ?_
    refine ax_sipush (pc := 14) C 255 d_CP_addBytes_14 (by decide +kernel) ?_
    refine ax_iand (pc := 17) C d_CP_addBytes_17 ?_
    replace h := it_g h
    obtain ⟨hb, h⟩ := h
    replace h := it_l h
    replace hle := rAdd_le σ 101 2 (((((x0 : Int32).toUInt32 >>> ((x1 : Int32).toUInt32 &&& Int32.toUInt32 31)).toInt32) : Int32) &&& 255)
    replace hmn : gle (rAdd σ 101 2 (((((x0 : Int32).toUInt32 >>> ((x1 : Int32).toUInt32 &&& Int32.toUInt32 31)).toInt32) : Int32) &&& 255)) σf := gm_use h (gm_tail hG (Nat.le_of_ble_eq_true rfl))
    refine ca_1 (pc := 18) C (rest := []) ml_CP_97 d_CP_addBytes_18 hb hF hLo (by have := hmn.1; have := hle.1; omega) (by have := hmn.2; have := hle.2; omega) (Nat.le_of_ble_eq_true rfl) (fun w1 hag1 => ?_)
    generalize rAdd σ 101 2 (((((x0 : Int32).toUInt32 >>> ((x1 : Int32).toUInt32 &&& Int32.toUInt32 31)).toInt32) : Int32) &&& 255) = σ1 at h hmn hle ⊢
    have hga1 : ∀ i, ([2] : List Nat).elem i = false → w1 i = w0 i := fun i hi => (hag1 i (by revert hi; exact el_sub (by decide))).trans (hga i hi)
    replace hcq : (cells + (σ1.2.2 3001 - σ.2.2 3001)) + σf.2.2 3001 ≤ mc + σ1.2.2 3001 := by have := hmn.1; have := hle.1; omega
    replace hcm : (cells + (σ1.2.2 3001 - σ.2.2 3001)) ≤ mc := by have := hmn.1; have := hle.1; omega
    generalize cells + (σ1.2.2 3001 - σ.2.2 3001) = cells at hcq hcm ⊢
    replace hsq : (slots + (σ1.2.2 3002 - σ.2.2 3002)) + σf.2.2 3002 ≤ ms + σ1.2.2 3002 := by have := hmn.2; have := hle.2; omega
    replace hsm : (slots + (σ1.2.2 3002 - σ.2.2 3002)) ≤ ms := by have := hmn.2; have := hle.2; omega
    generalize slots + (σ1.2.2 3002 - σ.2.2 3002) = slots at hsq hsm ⊢
    refine ax_iinc (pc := 21) C (x1 + (-8)) d_CP_addBytes_21 2 rfl rfl (Nat.le_of_ble_eq_true rfl) ([(2, .int (x1 + (-8))), (0, .ref (u 0)), (1, .int x0)]) rfl ?_
    refine ax_goto (pc := 24) C 3 d_CP_addBytes_24 (by decide) ?_
    refine ax_ls ([(0, .ref (u 0)), (1, .int x0), (2, .int (x1 + (-8)))]) [1, 2, 0] rfl ?_
    replace hm : sG_CP_addBytes_p3 l D kA u σ1 [x0, (x1 + (-8))] (σf, rf, _) := ih tG_CP_addBytes_p3 _ _ _ h
    exact hm _ _ rfl w1 tx p e s m args below meth c F Lo mc ms cells slots σ0 w0 tx0 hF hLo hcq hsq hga1 C
set_option maxHeartbeats 4000000 in
set_option maxRecDepth 100000 in
theorem oG_CP_read (l : Launch) (D : va_G) (kA : Nat → ClassId) (u : Nat → Nat) (rec : mF) (hG : GM rec) (ihC : ∀ (w : Nat → Nat) (tx : Value) t σ xs res, rec t σ xs = some res → cSem l D kA u w tx t σ xs res) (ih : ∀ t σ xs res, rec t σ xs = some res → gSem l D kA u t σ xs res) (σ : mS) (xs : List Int32) (res : mR) (h : u_0 (kG_CP_read rec σ) xs = some res) : sG_CP_read l D kA u σ xs res := by
  intro hxs w tx
  subst hxs
  obtain ⟨σf, rf, dd⟩ := res
  have hmn : gle σ σf := qG_CP_read rec hG σ _ h
  have h : (bnd (rec tC_Sym_clear σ []) (fun σ1 r1 => bnd (rec tC_Sto_clear σ1 []) (fun σ2 r2 => bnd (rec tC_Sat_clear σ2 []) (fun σ3 r3 => bnd (rec tG_Par_parse_2 σ3 [(σ3.1 101)]) (fun σ4 r4 => lt_ (mI σ4 101 0) (fun σ5 => lt_ (mI σ5 10 (σ5.1 3100)) (fun σ6 => lt_ (mI σ6 11 (σ6.1 3101)) (fun σ7 => if (σ7.1 10) = 0 then (bnd (rec tC_For_makeWitnesses σ7 []) (fun σ8 r8 => bnd (rec tG_For_makeClauses σ8 []) (fun σ9 r9 => if r9 = (-1) then (rec tG_CP_read_p113 σ9 [r9, 0]) else (rec tG_CP_read_p113 σ9 [r9, 3])))) else (rec tG_CP_read_p130 σ7 []))))))))) = some (σf, rf, dd) := h
  refine ax_Mi.of (by decide +kernel) (Nat.le_of_ble_eq_true rfl) ?_
  intro p e s m args below meth c C hnm
  replace C : ax_C p s m args meth c b_CP_read "ClauseProver" 2 (some .int) D kA (va_A (cpW kA u w tx σ) s.heap.size) := C
  obtain ⟨F, hFe⟩ : ∃ z, z = dd + 3 := ⟨_, rfl⟩
  obtain ⟨Lo, hLoe⟩ : ∃ z, z = 48 * dd + 144 := ⟨_, rfl⟩
  obtain ⟨mc, hmce⟩ : ∃ z, z = σf.2.2 3001 - σ.2.2 3001 := ⟨_, rfl⟩
  obtain ⟨ms, hmse⟩ : ∃ z, z = σf.2.2 3002 - σ.2.2 3002 := ⟨_, rfl⟩
  obtain ⟨σ0, hσ0e⟩ : ∃ z, z = σ := ⟨_, rfl⟩
  obtain ⟨w0, hw0e⟩ : ∃ z, z = w := ⟨_, rfl⟩
  obtain ⟨tx0, htx0e⟩ : ∃ z, z = tx := ⟨_, rfl⟩
  suffices K : ∀ (cells slots : Nat), cells = 0 → slots = 0 → AW p l e { frames := F, cells := mc, slots := ms, locals := Lo } s m args below meth c D kA (va_A (cpW kA u w0 tx0 σ0) s.heap.size) 2 (ax_Qi below args s D kA (cpW kA u w0 tx0 σ0) mc ms (fun r w1 => r = rf ∧ ∃ (w2 : Nat → Nat) (tx2 : Value), (∀ i, ([11, 16, 19, 21, 30, 34, 36, 38, 48, 52] : List Nat).elem i = false → w2 i = w0 i) ∧ tx2 = .ref (w0 2) ∧ w1 = cpW kA u w2 tx2 σf)) 0 [(0, .ref (u 0))] [] (cpW kA u w tx σ) cells slots by
    have K := K 0 0 rfl rfl
    rw [hFe, hLoe, hmce, hmse, hσ0e, hw0e, htx0e] at K
    exact ax_ls ([(0, .ref (u 0))]) [0] rfl K
  replace C : ax_C p s m args meth c b_CP_read "ClauseProver" 2 (some .int) D kA (va_A (cpW kA u w0 tx0 σ0) s.heap.size) := by rw [hσ0e, hw0e, htx0e]; exact C
  intro cells slots hc0 hs0
  have hcq : cells + σf.2.2 3001 ≤ mc + σ.2.2 3001 := by have := hmn.1; omega
  have hsq : slots + σf.2.2 3002 ≤ ms + σ.2.2 3002 := by have := hmn.2; omega
  have hga : ∀ i, ([11, 16, 19, 21, 30, 34, 36, 38, 48, 52] : List Nat).elem i = false → w i = w0 i := fun i _ => by rw [hw0e]
  have hF : dd + 3 ≤ F := by omega
  have hLo : 48 * dd + 144 ≤ Lo := by omega
  have hcm : cells ≤ mc := by have := hmn.1; omega
  have hsm : slots ≤ ms := by have := hmn.2; omega
  have hle : True := trivial
  have hm : True := trivial
  refine ax_aload_n (pc := 0) C d_CP_read_0 rfl 0 rfl ?_
  refine cg_0_3_CP_28 (pc := 1) C d_CP_read_1 ?_
  replace h := it_b h
  obtain ⟨σ1, r1, d1_1, d2_1, h1, h, hd2, hd1⟩ := h
  replace hle := hG _ _ _ _ (by decide) h1
  dsimp only at hle
  replace hmn : gle σ1 σf := gm_use h (gm_bnd hG (Nat.le_of_ble_eq_true rfl) (fun _ _ => (gm_bnd hG (Nat.le_of_ble_eq_true rfl) (fun _ _ => (gm_bnd hG (Nat.le_of_ble_eq_true rfl) (fun _ _ => (gm_lt ⟨Nat.le_refl _, Nat.le_refl _, rfl⟩ (gm_lt ⟨Nat.le_refl _, Nat.le_refl _, rfl⟩ (gm_lt ⟨Nat.le_refl _, Nat.le_refl _, rfl⟩ (gm_if (gm_bnd hG (Nat.le_of_ble_eq_true rfl) (fun _ _ => (gm_bnd hG (Nat.le_of_ble_eq_true rfl) (fun _ _ => (gm_if (gm_tail hG (Nat.le_of_ble_eq_true rfl)) (gm_tail hG (Nat.le_of_ble_eq_true rfl))))))) (gm_tail hG (Nat.le_of_ble_eq_true rfl))))))))))))
  replace hm : sC_Sym_clear l D kA u w tx σ [] (σ1, r1, d1_1) := ihC _ _ tC_Sym_clear _ _ _ h1
  refine cc_Vv (pc := 4) C (σ2 := σ1) (As := []) (rest := []) (hm rfl) ml_CP_105 6 rfl rfl rfl d_CP_read_4 rfl rfl (by dsimp only; omega) (by dsimp only; omega) hcm hsm (Nat.le_of_ble_eq_true rfl) ?_
  replace hcq : cells + σf.2.2 3001 ≤ mc + σ1.2.2 3001 := by have := hle.1; omega
  replace hsq : slots + σf.2.2 3002 ≤ ms + σ1.2.2 3002 := by have := hle.2; omega
  replace hF : d2_1 + 3 ≤ F := by omega
  replace hLo : 48 * d2_1 + 144 ≤ Lo := by omega
  refine ax_aload_n (pc := 7) C d_CP_read_7 rfl 0 rfl ?_
  refine cg_0_7_CP_60 (pc := 8) C d_CP_read_8 ?_
  replace h := it_b h
  obtain ⟨σ2, r2, d1_2, d2_2, h1, h, hd2, hd1⟩ := h
  replace hle := hG _ _ _ _ (by decide) h1
  dsimp only at hle
  replace hmn : gle σ2 σf := gm_use h (gm_bnd hG (Nat.le_of_ble_eq_true rfl) (fun _ _ => (gm_bnd hG (Nat.le_of_ble_eq_true rfl) (fun _ _ => (gm_lt ⟨Nat.le_refl _, Nat.le_refl _, rfl⟩ (gm_lt ⟨Nat.le_refl _, Nat.le_refl _, rfl⟩ (gm_lt ⟨Nat.le_refl _, Nat.le_refl _, rfl⟩ (gm_if (gm_bnd hG (Nat.le_of_ble_eq_true rfl) (fun _ _ => (gm_bnd hG (Nat.le_of_ble_eq_true rfl) (fun _ _ => (gm_if (gm_tail hG (Nat.le_of_ble_eq_true rfl)) (gm_tail hG (Nat.le_of_ble_eq_true rfl))))))) (gm_tail hG (Nat.le_of_ble_eq_true rfl))))))))))
  replace hm : sC_Sto_clear l D kA u w tx σ1 [] (σ2, r2, d1_2) := ihC _ _ tC_Sto_clear _ _ _ h1
  refine cc_Vv (pc := 11) C (σ2 := σ2) (As := []) (rest := []) (hm rfl) ml_CP_108 54 rfl rfl rfl d_CP_read_11 rfl rfl (by dsimp only; omega) (by dsimp only; omega) hcm hsm (Nat.le_of_ble_eq_true rfl) ?_
  replace hcq : cells + σf.2.2 3001 ≤ mc + σ2.2.2 3001 := by have := hle.1; omega
  replace hsq : slots + σf.2.2 3002 ≤ ms + σ2.2.2 3002 := by have := hle.2; omega
  replace hF : d2_2 + 3 ≤ F := by omega
  replace hLo : 48 * d2_2 + 144 ≤ Lo := by omega
  refine ax_aload_n (pc := 14) C d_CP_read_14 rfl 0 rfl ?_
  refine cg_0_8_CP_69 (pc := 15) C d_CP_read_15 ?_
  replace h := it_b h
  obtain ⟨σ3, r3, d1_3, d2_3, h1, h, hd2, hd1⟩ := h
  replace hle := hG _ _ _ _ (by decide) h1
  dsimp only at hle
  replace hmn : gle σ3 σf := gm_use h (gm_bnd hG (Nat.le_of_ble_eq_true rfl) (fun _ _ => (gm_lt ⟨Nat.le_refl _, Nat.le_refl _, rfl⟩ (gm_lt ⟨Nat.le_refl _, Nat.le_refl _, rfl⟩ (gm_lt ⟨Nat.le_refl _, Nat.le_refl _, rfl⟩ (gm_if (gm_bnd hG (Nat.le_of_ble_eq_true rfl) (fun _ _ => (gm_bnd hG (Nat.le_of_ble_eq_true rfl) (fun _ _ => (gm_if (gm_tail hG (Nat.le_of_ble_eq_true rfl)) (gm_tail hG (Nat.le_of_ble_eq_true rfl))))))) (gm_tail hG (Nat.le_of_ble_eq_true rfl))))))))
  replace hm : sC_Sat_clear l D kA u w tx σ2 [] (σ3, r3, d1_3) := ihC _ _ tC_Sat_clear _ _ _ h1
  refine cc_Vv (pc := 18) C (σ2 := σ3) (As := []) (rest := []) (hm rfl) ml_CP_109 53 rfl rfl rfl d_CP_read_18 rfl rfl (by dsimp only; omega) (by dsimp only; omega) hcm hsm (Nat.le_of_ble_eq_true rfl) ?_
  replace hcq : cells + σf.2.2 3001 ≤ mc + σ3.2.2 3001 := by have := hle.1; omega
  replace hsq : slots + σf.2.2 3002 ≤ ms + σ3.2.2 3002 := by have := hle.2; omega
  replace hF : d2_3 + 3 ≤ F := by omega
  replace hLo : 48 * d2_3 + 144 ≤ Lo := by omega
  refine ax_aload_n (pc := 21) C d_CP_read_21 rfl 0 rfl ?_
  refine cg_0_5_CP_46 (pc := 22) C d_CP_read_22 ?_
  refine ax_aload_n (pc := 25) C d_CP_read_25 rfl 0 rfl ?_
  refine cg_0_0_CP_14 (pc := 26) C d_CP_read_26 ?_
  refine cg_1_0_CP_110 (pc := 29) C d_CP_read_29 ?_
  refine ax_aload_n (pc := 32) C d_CP_read_32 rfl 0 rfl ?_
  refine cg_0_0_CP_14 (pc := 33) C d_CP_read_33 ?_
  refine cg_1_1_CP_82 (pc := 36) C d_CP_read_36 ?_
  replace h := it_b h
  obtain ⟨σ4, r4, d1_4, d2_4, h1, h, hd2, hd1⟩ := h
  replace hle := hG _ _ _ _ (by decide) h1
  dsimp only at hle
  replace hmn : gle σ4 σf := gm_use h (gm_lt ⟨Nat.le_refl _, Nat.le_refl _, rfl⟩ (gm_lt ⟨Nat.le_refl _, Nat.le_refl _, rfl⟩ (gm_lt ⟨Nat.le_refl _, Nat.le_refl _, rfl⟩ (gm_if (gm_bnd hG (Nat.le_of_ble_eq_true rfl) (fun _ _ => (gm_bnd hG (Nat.le_of_ble_eq_true rfl) (fun _ _ => (gm_if (gm_tail hG (Nat.le_of_ble_eq_true rfl)) (gm_tail hG (Nat.le_of_ble_eq_true rfl))))))) (gm_tail hG (Nat.le_of_ble_eq_true rfl))))))
  replace hm : sG_Par_parse_2 l D kA u σ3 [(σ3.1 101)] (σ4, r4, d1_4) := ih tG_Par_parse_2 _ _ _ h1
  refine gc_Vv (pc := 39) C (As := [.ref (w 2), .int (σ3.1 101)]) (rest := []) (hm _ rfl w tx) ml_CP_113 31 rfl rfl rfl d_CP_read_39 rfl rfl (by dsimp only; omega) (by dsimp only; omega) (by have := hmn.1; have := hle.1; dsimp only; omega) (by have := hmn.2; have := hle.2; dsimp only; omega) (Nat.le_of_ble_eq_true rfl) (fun w1 hw => ?_)
  obtain ⟨w4, tx4, hag4, htq4, hwq4⟩ := hw
  dsimp only at hwq4
  subst hwq4
  dsimp only
  have hga4 : ∀ i, ([11, 16, 19, 21, 30, 34, 36, 38, 48, 52] : List Nat).elem i = false → w4 i = w0 i := fun i hi => (hag4 i (by revert hi; exact el_sub (by decide))).trans (hga i hi)
  have htx4 : tx4 = .ref (w4 2) := by rw [htq4, hag4 2 rfl]
  replace hcq : (cells + (σ4.2.2 3001 - σ3.2.2 3001)) + σf.2.2 3001 ≤ mc + σ4.2.2 3001 := by have := hmn.1; have := hle.1; omega
  replace hcm : (cells + (σ4.2.2 3001 - σ3.2.2 3001)) ≤ mc := by have := hmn.1; have := hle.1; omega
  generalize cells + (σ4.2.2 3001 - σ3.2.2 3001) = cells at hcq hcm ⊢
  replace hsq : (slots + (σ4.2.2 3002 - σ3.2.2 3002)) + σf.2.2 3002 ≤ ms + σ4.2.2 3002 := by have := hmn.2; have := hle.2; omega
  replace hsm : (slots + (σ4.2.2 3002 - σ3.2.2 3002)) ≤ ms := by have := hmn.2; have := hle.2; omega
  generalize slots + (σ4.2.2 3002 - σ3.2.2 3002) = slots at hsq hsm ⊢
  replace hF : d2_4 + 3 ≤ F := by omega
  replace hLo : 48 * d2_4 + 144 ≤ Lo := by omega
  refine ax_aload_n (pc := 42) C d_CP_read_42 rfl 0 rfl ?_
  refine cg_0_0_CP_14 (pc := 43) C d_CP_read_43 ?_
  refine ax_iconst (pc := 46) C 0 d_CP_read_46 (by decide +kernel) ?_
  refine cq_1_1_CP_82 (pc := 47) C d_CP_read_47 ?_
  replace h := it_l h
  replace hcq : cells + σf.2.2 3001 ≤ mc + (mI σ4 101 0).2.2 3001 := hcq
  replace hsq : slots + σf.2.2 3002 ≤ ms + (mI σ4 101 0).2.2 3002 := hsq
  generalize mI σ4 101 0 = σ5 at h hcq hsq ⊢
  refine ax_aload_n (pc := 50) C d_CP_read_50 rfl 0 rfl ?_
  refine ax_aload_n (pc := 51) C d_CP_read_51 rfl 0 rfl ?_
  refine cg_0_5_CP_46 (pc := 52) C d_CP_read_52 ?_
  refine cg_31_0_CP_117 (pc := 55) C d_CP_read_55 ?_
  refine cq_0_10_CP_120 (pc := 58) C d_CP_read_58 ?_
  replace h := it_l h
  replace hcq : cells + σf.2.2 3001 ≤ mc + (mI σ5 10 (σ5.1 3100)).2.2 3001 := hcq
  replace hsq : slots + σf.2.2 3002 ≤ ms + (mI σ5 10 (σ5.1 3100)).2.2 3002 := hsq
  generalize mI σ5 10 (σ5.1 3100) = σ6 at h hcq hsq ⊢
  refine ax_aload_n (pc := 61) C d_CP_read_61 rfl 0 rfl ?_
  refine ax_aload_n (pc := 62) C d_CP_read_62 rfl 0 rfl ?_
  refine cg_0_5_CP_46 (pc := 63) C d_CP_read_63 ?_
  refine cg_31_1_CP_123 (pc := 66) C d_CP_read_66 ?_
  refine cq_0_11_CP_126 (pc := 69) C d_CP_read_69 ?_
  replace h := it_l h
  replace hcq : cells + σf.2.2 3001 ≤ mc + (mI σ6 11 (σ6.1 3101)).2.2 3001 := hcq
  replace hsq : slots + σf.2.2 3002 ≤ ms + (mI σ6 11 (σ6.1 3101)).2.2 3002 := hsq
  generalize mI σ6 11 (σ6.1 3101) = σ7 at h hcq hsq ⊢
  refine ax_aload_n (pc := 72) C d_CP_read_72 rfl 0 rfl ?_
  refine cg_0_10_CP_120 (pc := 73) C d_CP_read_73 ?_
  refine ax_if_ne (pc := 76) C 130 d_CP_read_76 (by decide) (fun hc => ?_) (fun hc => ?_)
  · replace h := it_f hc h
    refine ax_ls ([(0, .ref (u 0))]) [0] rfl ?_
    replace hm : sG_CP_read_p130 l D kA u σ7 [] (σf, rf, _) := ih tG_CP_read_p130 _ _ _ h
    exact hm rfl w4 tx4 htx4 p e s m args below meth c F Lo mc ms cells slots σ0 w0 tx0 hF hLo hcq hsq hga4 C
  · replace h := it_t hc h
    refine ax_aload_n (pc := 79) C d_CP_read_79 rfl 0 rfl ?_
    refine cg_0_4_CP_37 (pc := 80) C d_CP_read_80 ?_
    replace h := it_b h
    obtain ⟨σ8, r8, d1_8, d2_8, h1, h, hd2, hd1⟩ := h
    replace hle := hG _ _ _ _ (by decide) h1
    dsimp only at hle
    replace hmn : gle σ8 σf := gm_use h (gm_bnd hG (Nat.le_of_ble_eq_true rfl) (fun _ _ => (gm_if (gm_tail hG (Nat.le_of_ble_eq_true rfl)) (gm_tail hG (Nat.le_of_ble_eq_true rfl)))))
    replace hm : sC_For_makeWitnesses l D kA u w4 tx4 σ7 [] (σ8, r8, d1_8) := ihC _ _ tC_For_makeWitnesses _ _ _ h1
    refine cc_Vv (pc := 83) C (σ2 := σ8) (As := []) (rest := []) (hm rfl) ml_CP_127 14 rfl rfl rfl d_CP_read_83 rfl rfl (by dsimp only; omega) (by dsimp only; omega) hcm hsm (Nat.le_of_ble_eq_true rfl) ?_
    replace hcq : cells + σf.2.2 3001 ≤ mc + σ8.2.2 3001 := by have := hle.1; omega
    replace hsq : slots + σf.2.2 3002 ≤ ms + σ8.2.2 3002 := by have := hle.2; omega
    replace hF : d2_8 + 3 ≤ F := by omega
    replace hLo : 48 * d2_8 + 144 ≤ Lo := by omega
    refine ax_aload_n (pc := 86) C d_CP_read_86 rfl 0 rfl ?_
    refine cg_0_4_CP_37 (pc := 87) C d_CP_read_87 ?_
    refine ax_aload_n (pc := 90) C d_CP_read_90 rfl 0 rfl ?_
    refine cg_0_6_CP_53 (pc := 91) C d_CP_read_91 ?_
    refine ax_aload_n (pc := 94) C d_CP_read_94 rfl 0 rfl ?_
    refine cg_0_7_CP_60 (pc := 95) C d_CP_read_95 ?_
    replace h := it_b h
    obtain ⟨σ9, r9, d1_9, d2_9, h1, h, hd2, hd1⟩ := h
    replace hle := hG _ _ _ _ (by decide) h1
    dsimp only at hle
    replace hmn : gle σ9 σf := gm_use h (gm_if (gm_tail hG (Nat.le_of_ble_eq_true rfl)) (gm_tail hG (Nat.le_of_ble_eq_true rfl)))
    replace hm : sG_For_makeClauses l D kA u σ8 [] (σ9, r9, d1_9) := ih tG_For_makeClauses _ _ _ h1
    refine gc_Vi (pc := 98) C (As := [.ref (u 39), .ref (u 54)]) (rest := []) (hm rfl w4 tx4) ml_CP_130 14 rfl rfl rfl d_CP_read_98 rfl rfl (by dsimp only; omega) (by dsimp only; omega) (by have := hmn.1; have := hle.1; dsimp only; omega) (by have := hmn.2; have := hle.2; dsimp only; omega) (Nat.le_of_ble_eq_true rfl) (fun r9 w1 hw => ?_)
    obtain ⟨hrq9, w9, tx9, hag9, htq9, hwq9⟩ := hw
    dsimp only at hwq9 hrq9
    subst hwq9
    replace hrq9 := hrq9.symm
    subst hrq9
    dsimp only
    replace htq9 := htq9.symm
    subst htq9
    have hga9 : ∀ i, ([11, 16, 19, 21, 30, 34, 36, 38, 48, 52] : List Nat).elem i = false → w9 i = w0 i := fun i hi => (hag9 i (by revert hi; exact el_sub (by decide))).trans (hga4 i hi)
    have htx9 : tx4 = .ref (w9 2) := by rw [hag9 2 rfl]; exact htx4
    replace hcq : (cells + (σ9.2.2 3001 - σ8.2.2 3001)) + σf.2.2 3001 ≤ mc + σ9.2.2 3001 := by have := hmn.1; have := hle.1; omega
    replace hcm : (cells + (σ9.2.2 3001 - σ8.2.2 3001)) ≤ mc := by have := hmn.1; have := hle.1; omega
    generalize cells + (σ9.2.2 3001 - σ8.2.2 3001) = cells at hcq hcm ⊢
    replace hsq : (slots + (σ9.2.2 3002 - σ8.2.2 3002)) + σf.2.2 3002 ≤ ms + σ9.2.2 3002 := by have := hmn.2; have := hle.2; omega
    replace hsm : (slots + (σ9.2.2 3002 - σ8.2.2 3002)) ≤ ms := by have := hmn.2; have := hle.2; omega
    generalize slots + (σ9.2.2 3002 - σ8.2.2 3002) = slots at hsq hsm ⊢
    replace hF : d2_9 + 3 ≤ F := by omega
    replace hLo : 48 * d2_9 + 144 ≤ Lo := by omega
    refine ax_istore_n (pc := 101) C d_CP_read_101 rfl (Nat.le_of_ble_eq_true rfl) ([(1, .int r9), (0, .ref (u 0))]) rfl ?_
    refine ax_aload_n (pc := 102) C d_CP_read_102 rfl 1 rfl ?_
    refine ax_iload_n (pc := 103) C d_CP_read_103 rfl 0 rfl ?_
    refine ax_iconst (pc := 104) C (-1) d_CP_read_104 (by decide +kernel) ?_
    refine ax_icmp_ne (pc := 105) C 112 d_CP_read_105 (by decide) (fun hc => ?_) (fun hc => ?_)
    · replace h := it_f hc h
      refine ax_iconst (pc := 112) C 3 d_CP_read_112 (by decide +kernel) ?_
      refine ax_ls ([(0, .ref (u 0)), (1, .int r9)]) [1, 0] rfl ?_
      replace hm : sG_CP_read_p113 l D kA u σ9 [r9, 3] (σf, rf, _) := ih tG_CP_read_p113 _ _ _ h
      exact hm _ _ rfl w9 tx4 htx9 p e s m args below meth c F Lo mc ms cells slots σ0 w0 tx0 hF hLo hcq hsq hga9 C
    · replace h := it_t hc h
      refine ax_iconst (pc := 108) C 0 d_CP_read_108 (by decide +kernel) ?_
      refine ax_goto (pc := 109) C 113 d_CP_read_109 (by decide) ?_
      refine ax_ls ([(0, .ref (u 0)), (1, .int r9)]) [1, 0] rfl ?_
      replace hm : sG_CP_read_p113 l D kA u σ9 [r9, 0] (σf, rf, _) := ih tG_CP_read_p113 _ _ _ h
      exact hm _ _ rfl w9 tx4 htx9 p e s m args below meth c F Lo mc ms cells slots σ0 w0 tx0 hF hLo hcq hsq hga9 C
set_option maxHeartbeats 4000000 in
set_option maxRecDepth 100000 in
theorem oG_CP_read_p113 (l : Launch) (D : va_G) (kA : Nat → ClassId) (u : Nat → Nat) (rec : mF) (hG : GM rec) (ihC : ∀ (w : Nat → Nat) (tx : Value) t σ xs res, rec t σ xs = some res → cSem l D kA u w tx t σ xs res) (ih : ∀ t σ xs res, rec t σ xs = some res → gSem l D kA u t σ xs res) (σ : mS) (xs : List Int32) (res : mR) (h : u_2 (kG_CP_read_p113 rec σ) xs = some res) : sG_CP_read_p113 l D kA u σ xs res := by
  intro x0 x1 hxs w tx htx
  subst hxs
  obtain ⟨σf, rf, dd⟩ := res
  have hmn : gle σ σf := qG_CP_read_p113 rec hG σ x0 x1 _ h
  have h : (lt_ (mI σ 10 x1) (fun σ1 => if x0 = (-1) then (rec tG_CP_read_p127 σ1 [x0, 0]) else (rec tG_CP_read_p127 σ1 [x0, x0]))) = some (σf, rf, dd) := h
  intro p e s m args below meth c F Lo mc ms cells slots σ0 w0 tx0 hF hLo hcq hsq hga C
  dsimp only at hF hLo hcq hsq ⊢
  have hcm : cells ≤ mc := by have := hmn.1; omega
  have hsm : slots ≤ ms := by have := hmn.2; omega
  have hle : True := trivial
  have hm : True := trivial
  refine cq_0_10_CP_120 (pc := 113) C d_CP_read_113 ?_
  replace h := it_l h
  replace hcq : cells + σf.2.2 3001 ≤ mc + (mI σ 10 x1).2.2 3001 := hcq
  replace hsq : slots + σf.2.2 3002 ≤ ms + (mI σ 10 x1).2.2 3002 := hsq
  generalize mI σ 10 x1 = σ1 at h hcq hsq ⊢
  refine ax_aload_n (pc := 116) C d_CP_read_116 rfl 0 rfl ?_
  refine ax_iload_n (pc := 117) C d_CP_read_117 rfl 1 rfl ?_
  refine ax_iconst (pc := 118) C (-1) d_CP_read_118 (by decide +kernel) ?_
  refine ax_icmp_ne (pc := 119) C 126 d_CP_read_119 (by decide) (fun hc => ?_) (fun hc => ?_)
  · replace h := it_f hc h
    refine ax_iload_n (pc := 126) C d_CP_read_126 rfl 1 rfl ?_
    refine ax_ls ([(0, .ref (u 0)), (1, .int x0)]) [0, 1] rfl ?_
    replace hm : sG_CP_read_p127 l D kA u σ1 [x0, x0] (σf, rf, _) := ih tG_CP_read_p127 _ _ _ h
    exact hm _ _ rfl w tx htx p e s m args below meth c F Lo mc ms cells slots σ0 w0 tx0 hF hLo hcq hsq hga C
  · replace h := it_t hc h
    refine ax_iconst (pc := 122) C 0 d_CP_read_122 (by decide +kernel) ?_
    refine ax_goto (pc := 123) C 127 d_CP_read_123 (by decide) ?_
    refine ax_ls ([(0, .ref (u 0)), (1, .int x0)]) [0, 1] rfl ?_
    replace hm : sG_CP_read_p127 l D kA u σ1 [x0, 0] (σf, rf, _) := ih tG_CP_read_p127 _ _ _ h
    exact hm _ _ rfl w tx htx p e s m args below meth c F Lo mc ms cells slots σ0 w0 tx0 hF hLo hcq hsq hga C
set_option maxHeartbeats 4000000 in
set_option maxRecDepth 100000 in
theorem oG_CP_read_p127 (l : Launch) (D : va_G) (kA : Nat → ClassId) (u : Nat → Nat) (rec : mF) (hG : GM rec) (ihC : ∀ (w : Nat → Nat) (tx : Value) t σ xs res, rec t σ xs = some res → cSem l D kA u w tx t σ xs res) (ih : ∀ t σ xs res, rec t σ xs = some res → gSem l D kA u t σ xs res) (σ : mS) (xs : List Int32) (res : mR) (h : u_2 (kG_CP_read_p127 rec σ) xs = some res) : sG_CP_read_p127 l D kA u σ xs res := by
  intro x0 x1 hxs w tx htx
  subst hxs
  obtain ⟨σf, rf, dd⟩ := res
  have hmn : gle σ σf := qG_CP_read_p127 rec hG σ x0 x1 _ h
  have h : (lt_ (mI σ 11 x1) (fun σ1 => rec tG_CP_read_p130 σ1 [])) = some (σf, rf, dd) := h
  intro p e s m args below meth c F Lo mc ms cells slots σ0 w0 tx0 hF hLo hcq hsq hga C
  dsimp only at hF hLo hcq hsq ⊢
  have hcm : cells ≤ mc := by have := hmn.1; omega
  have hsm : slots ≤ ms := by have := hmn.2; omega
  have hle : True := trivial
  have hm : True := trivial
  refine cq_0_11_CP_126 (pc := 127) C d_CP_read_127 ?_
  replace h := it_l h
  replace hcq : cells + σf.2.2 3001 ≤ mc + (mI σ 11 x1).2.2 3001 := hcq
  replace hsq : slots + σf.2.2 3002 ≤ ms + (mI σ 11 x1).2.2 3002 := hsq
  generalize mI σ 11 x1 = σ1 at h hcq hsq ⊢
  refine ax_ls ([(0, .ref (u 0))]) [0] rfl ?_
  replace hm : sG_CP_read_p130 l D kA u σ1 [] (σf, rf, _) := ih tG_CP_read_p130 _ _ _ h
  exact hm rfl w tx htx p e s m args below meth c F Lo mc ms cells slots σ0 w0 tx0 hF hLo hcq hsq hga C
set_option maxHeartbeats 4000000 in
set_option maxRecDepth 100000 in
theorem oG_CP_read_p130 (l : Launch) (D : va_G) (kA : Nat → ClassId) (u : Nat → Nat) (rec : mF) (hG : GM rec) (ihC : ∀ (w : Nat → Nat) (tx : Value) t σ xs res, rec t σ xs = some res → cSem l D kA u w tx t σ xs res) (ih : ∀ t σ xs res, rec t σ xs = some res → gSem l D kA u t σ xs res) (σ : mS) (xs : List Int32) (res : mR) (h : u_0 (kG_CP_read_p130 rec σ) xs = some res) : sG_CP_read_p130 l D kA u σ xs res := by
  intro hxs w tx htx
  subst hxs
  obtain ⟨σf, rf, dd⟩ := res
  have hmn : gle σ σf := qG_CP_read_p130 rec hG σ _ h
  have h : (if (σ.1 10) = 0 then (lt_ (mI σ 5403 (σ.1 5402)) (fun σ1 => some (σ1, (σ1.1 5402), 0))) else (bnd (rec tC_Sym_clear σ []) (fun σ2 r2 => bnd (rec tC_Sto_clear σ2 []) (fun σ3 r3 => some (σ3, (-1), 0))))) = some (σf, rf, dd) := h
  intro p e s m args below meth c F Lo mc ms cells slots σ0 w0 tx0 hF hLo hcq hsq hga C
  dsimp only at hF hLo hcq hsq ⊢
  have hcm : cells ≤ mc := by have := hmn.1; omega
  have hsm : slots ≤ ms := by have := hmn.2; omega
  have hle : True := trivial
  have hm : True := trivial
  refine ax_aload_n (pc := 130) C d_CP_read_130 rfl 0 rfl ?_
  refine cg_0_10_CP_120 (pc := 131) C d_CP_read_131 ?_
  refine ax_if_eq (pc := 134) C 153 d_CP_read_134 (by decide) (fun hc => ?_) (fun hc => ?_)
  · replace h := it_t hc h
    refine ax_aload_n (pc := 153) C d_CP_read_153 rfl 0 rfl ?_
    refine cg_0_7_CP_60 (pc := 154) C d_CP_read_154 ?_
    refine ax_aload_n (pc := 157) C d_CP_read_157 rfl 0 rfl ?_
    refine cg_0_7_CP_60 (pc := 158) C d_CP_read_158 ?_
    refine cg_54_2_CP_134 (pc := 161) C d_CP_read_161 ?_
    refine cq_54_3_CP_135 (pc := 164) C d_CP_read_164 ?_
    replace h := it_l h
    replace hcq : cells + σf.2.2 3001 ≤ mc + (mI σ 5403 (σ.1 5402)).2.2 3001 := hcq
    replace hsq : slots + σf.2.2 3002 ≤ ms + (mI σ 5403 (σ.1 5402)).2.2 3002 := hsq
    generalize mI σ 5403 (σ.1 5402) = σ1 at h hcq hsq ⊢
    refine ax_aload_n (pc := 167) C d_CP_read_167 rfl 0 rfl ?_
    refine cg_0_7_CP_60 (pc := 168) C d_CP_read_168 ?_
    refine cg_54_2_CP_134 (pc := 171) C d_CP_read_171 ?_
    cases h
    exact ax_iret (pc := 174) C d_CP_read_174 ⟨rfl, w, tx, hga, (by rw [htx, hga 2 rfl]), rfl⟩ hcm hsm
  · replace h := it_f hc h
    refine ax_aload_n (pc := 137) C d_CP_read_137 rfl 0 rfl ?_
    refine cg_0_3_CP_28 (pc := 138) C d_CP_read_138 ?_
    replace h := it_b h
    obtain ⟨σ2, r2, d1_2, d2_2, h1, h, hd2, hd1⟩ := h
    replace hle := hG _ _ _ _ (by decide) h1
    dsimp only at hle
    replace hmn : gle σ2 σf := gm_use h (gm_bnd hG (Nat.le_of_ble_eq_true rfl) (fun _ _ => gm_some))
    replace hm : sC_Sym_clear l D kA u w tx σ [] (σ2, r2, d1_2) := ihC _ _ tC_Sym_clear _ _ _ h1
    refine cc_Vv (pc := 141) C (σ2 := σ2) (As := []) (rest := []) (hm rfl) ml_CP_105 6 rfl rfl rfl d_CP_read_141 rfl rfl (by dsimp only; omega) (by dsimp only; omega) hcm hsm (Nat.le_of_ble_eq_true rfl) ?_
    replace hcq : cells + σf.2.2 3001 ≤ mc + σ2.2.2 3001 := by have := hle.1; omega
    replace hsq : slots + σf.2.2 3002 ≤ ms + σ2.2.2 3002 := by have := hle.2; omega
    replace hF : d2_2 + 3 ≤ F := by omega
    replace hLo : 48 * d2_2 + 144 ≤ Lo := by omega
    refine ax_aload_n (pc := 144) C d_CP_read_144 rfl 0 rfl ?_
    refine cg_0_7_CP_60 (pc := 145) C d_CP_read_145 ?_
    replace h := it_b h
    obtain ⟨σ3, r3, d1_3, d2_3, h1, h, hd2, hd1⟩ := h
    replace hle := hG _ _ _ _ (by decide) h1
    dsimp only at hle
    replace hmn : gle σ3 σf := gm_use h gm_some
    replace hm : sC_Sto_clear l D kA u w tx σ2 [] (σ3, r3, d1_3) := ihC _ _ tC_Sto_clear _ _ _ h1
    refine cc_Vv (pc := 148) C (σ2 := σ3) (As := []) (rest := []) (hm rfl) ml_CP_108 54 rfl rfl rfl d_CP_read_148 rfl rfl (by dsimp only; omega) (by dsimp only; omega) hcm hsm (Nat.le_of_ble_eq_true rfl) ?_
    replace hcq : cells + σf.2.2 3001 ≤ mc + σ3.2.2 3001 := by have := hle.1; omega
    replace hsq : slots + σf.2.2 3002 ≤ ms + σ3.2.2 3002 := by have := hle.2; omega
    replace hF : d2_3 + 3 ≤ F := by omega
    replace hLo : 48 * d2_3 + 144 ≤ Lo := by omega
    refine ax_iconst (pc := 151) C (-1) d_CP_read_151 (by decide +kernel) ?_
    cases h
    exact ax_iret (pc := 152) C d_CP_read_152 ⟨rfl, w, tx, hga, (by rw [htx, hga 2 rfl]), rfl⟩ hcm hsm
set_option maxHeartbeats 4000000 in
set_option maxRecDepth 100000 in
theorem oG_CP_writeNumber (l : Launch) (D : va_G) (kA : Nat → ClassId) (u : Nat → Nat) (rec : mF) (hG : GM rec) (ihC : ∀ (w : Nat → Nat) (tx : Value) t σ xs res, rec t σ xs = some res → cSem l D kA u w tx t σ xs res) (ih : ∀ t σ xs res, rec t σ xs = some res → gSem l D kA u t σ xs res) (σ : mS) (xs : List Int32) (res : mR) (h : u_1 (kG_CP_writeNumber rec σ) xs = some res) : sG_CP_writeNumber l D kA u σ xs res := by
  intro x0 hxs w tx
  subst hxs
  obtain ⟨σf, rf, dd⟩ := res
  have hmn : gle σ σf := qG_CP_writeNumber rec hG σ x0 _ h
  have h : (if x0 < 100 then (if x0 < 10 then (rec tG_CP_writeNumber_p23 σ [x0, 1]) else (rec tG_CP_writeNumber_p23 σ [x0, 10])) else (rec tG_CP_writeNumber_p23 σ [x0, 100])) = some (σf, rf, dd) := h
  refine ax_Mv.of (by decide +kernel) (Nat.le_of_ble_eq_true rfl) ?_
  intro p e s m args below meth c C hnm
  replace C : ax_C p s m args meth c b_CP_writeNumber "ClauseProver" 3 none D kA (va_A (cpW kA u w tx σ) s.heap.size) := C
  obtain ⟨F, hFe⟩ : ∃ z, z = dd + 3 := ⟨_, rfl⟩
  obtain ⟨Lo, hLoe⟩ : ∃ z, z = 48 * dd + 144 := ⟨_, rfl⟩
  obtain ⟨mc, hmce⟩ : ∃ z, z = σf.2.2 3001 - σ.2.2 3001 := ⟨_, rfl⟩
  obtain ⟨ms, hmse⟩ : ∃ z, z = σf.2.2 3002 - σ.2.2 3002 := ⟨_, rfl⟩
  obtain ⟨σ0, hσ0e⟩ : ∃ z, z = σ := ⟨_, rfl⟩
  obtain ⟨w0, hw0e⟩ : ∃ z, z = w := ⟨_, rfl⟩
  obtain ⟨tx0, htx0e⟩ : ∃ z, z = tx := ⟨_, rfl⟩
  suffices K : ∀ (cells slots : Nat), cells = 0 → slots = 0 → AW p l e { frames := F, cells := mc, slots := ms, locals := Lo } s m args below meth c D kA (va_A (cpW kA u w0 tx0 σ0) s.heap.size) 3 (ax_Qv below args s D kA (cpW kA u w0 tx0 σ0) mc ms (fun w1 => ∃ (w2 : Nat → Nat) (tx2 : Value), (∀ i, ([4] : List Nat).elem i = false → w2 i = w0 i) ∧ tx2 = tx0 ∧ w1 = cpW kA u w2 tx2 σf)) 0 [(0, .ref (u 0)), (1, .int x0)] [] (cpW kA u w tx σ) cells slots by
    have K := K 0 0 rfl rfl
    rw [hFe, hLoe, hmce, hmse, hσ0e, hw0e, htx0e] at K
    exact ax_ls ([(0, .ref (u 0)), (1, .int x0)]) [0, 1] rfl K
  replace C : ax_C p s m args meth c b_CP_writeNumber "ClauseProver" 3 none D kA (va_A (cpW kA u w0 tx0 σ0) s.heap.size) := by rw [hσ0e, hw0e, htx0e]; exact C
  intro cells slots hc0 hs0
  have hcq : cells + σf.2.2 3001 ≤ mc + σ.2.2 3001 := by have := hmn.1; omega
  have hsq : slots + σf.2.2 3002 ≤ ms + σ.2.2 3002 := by have := hmn.2; omega
  have hga : ∀ i, ([4] : List Nat).elem i = false → w i = w0 i := fun i _ => by rw [hw0e]
  have e9 : tx = tx0 := htx0e.symm
  subst e9
  have hF : dd + 3 ≤ F := by omega
  have hLo : 48 * dd + 144 ≤ Lo := by omega
  have hcm : cells ≤ mc := by have := hmn.1; omega
  have hsm : slots ≤ ms := by have := hmn.2; omega
  have hle : True := trivial
  have hm : True := trivial
  refine ax_iload_n (pc := 0) C d_CP_writeNumber_0 rfl 1 rfl ?_
  refine ax_bipush (pc := 1) C 100 d_CP_writeNumber_1 (by decide +kernel) ?_
  refine ax_icmp_lt (pc := 3) C 11 d_CP_writeNumber_3 (by decide) (fun hc => ?_) (fun hc => ?_)
  · replace h := it_t hc h
    refine ax_iload_n (pc := 11) C d_CP_writeNumber_11 rfl 1 rfl ?_
    refine ax_bipush (pc := 12) C 10 d_CP_writeNumber_12 (by decide +kernel) ?_
    refine ax_icmp_lt (pc := 14) C 22 d_CP_writeNumber_14 (by decide) (fun hc => ?_) (fun hc => ?_)
    · replace h := it_t hc h
      refine ax_iconst (pc := 22) C 1 d_CP_writeNumber_22 (by decide +kernel) ?_
      refine ax_ls ([(0, .ref (u 0)), (1, .int x0)]) [0, 1] rfl ?_
      replace hm : sG_CP_writeNumber_p23 l D kA u σ [x0, 1] (σf, rf, _) := ih tG_CP_writeNumber_p23 _ _ _ h
      exact hm _ _ rfl w tx p e s m args below meth c F Lo mc ms cells slots σ0 w0 tx hF hLo hcq hsq hga C
    · replace h := it_f hc h
      refine ax_bipush (pc := 17) C 10 d_CP_writeNumber_17 (by decide +kernel) ?_
      refine ax_goto (pc := 19) C 23 d_CP_writeNumber_19 (by decide) ?_
      refine ax_ls ([(0, .ref (u 0)), (1, .int x0)]) [0, 1] rfl ?_
      replace hm : sG_CP_writeNumber_p23 l D kA u σ [x0, 10] (σf, rf, _) := ih tG_CP_writeNumber_p23 _ _ _ h
      exact hm _ _ rfl w tx p e s m args below meth c F Lo mc ms cells slots σ0 w0 tx hF hLo hcq hsq hga C
  · replace h := it_f hc h
    refine ax_bipush (pc := 6) C 100 d_CP_writeNumber_6 (by decide +kernel) ?_
    refine ax_goto (pc := 8) C 23 d_CP_writeNumber_8 (by decide) ?_
    refine ax_ls ([(0, .ref (u 0)), (1, .int x0)]) [0, 1] rfl ?_
    replace hm : sG_CP_writeNumber_p23 l D kA u σ [x0, 100] (σf, rf, _) := ih tG_CP_writeNumber_p23 _ _ _ h
    exact hm _ _ rfl w tx p e s m args below meth c F Lo mc ms cells slots σ0 w0 tx hF hLo hcq hsq hga C
set_option maxHeartbeats 4000000 in
set_option maxRecDepth 100000 in
theorem oG_CP_writeNumber_p23 (l : Launch) (D : va_G) (kA : Nat → ClassId) (u : Nat → Nat) (rec : mF) (hG : GM rec) (ihC : ∀ (w : Nat → Nat) (tx : Value) t σ xs res, rec t σ xs = some res → cSem l D kA u w tx t σ xs res) (ih : ∀ t σ xs res, rec t σ xs = some res → gSem l D kA u t σ xs res) (σ : mS) (xs : List Int32) (res : mR) (h : u_2 (kG_CP_writeNumber_p23 rec σ) xs = some res) : sG_CP_writeNumber_p23 l D kA u σ xs res := by
  intro x0 x1 hxs w tx
  subst hxs
  obtain ⟨σf, rf, dd⟩ := res
  have hmn : gle σ σf := qG_CP_writeNumber_p23 rec hG σ x0 x1 _ h
  have h : (rec tG_CP_writeNumber_p24 σ [x0, x1]) = some (σf, rf, dd) := h
  intro p e s m args below meth c F Lo mc ms cells slots σ0 w0 tx0 hF hLo hcq hsq hga C
  dsimp only at hF hLo hcq hsq ⊢
  have hcm : cells ≤ mc := by have := hmn.1; omega
  have hsm : slots ≤ ms := by have := hmn.2; omega
  have hle : True := trivial
  have hm : True := trivial
  refine ax_istore_n (pc := 23) C d_CP_writeNumber_23 rfl (Nat.le_of_ble_eq_true rfl) ([(2, .int x1), (0, .ref (u 0)), (1, .int x0)]) rfl ?_
  refine ax_ls ([(0, .ref (u 0)), (1, .int x0), (2, .int x1)]) [1, 2, 0] rfl ?_
  replace hm : sG_CP_writeNumber_p24 l D kA u σ [x0, x1] (σf, rf, _) := ih tG_CP_writeNumber_p24 _ _ _ h
  exact hm _ _ rfl w tx p e s m args below meth c F Lo mc ms cells slots σ0 w0 tx0 hF hLo hcq hsq hga C
set_option maxHeartbeats 4000000 in
set_option maxRecDepth 100000 in
theorem oG_CP_writeNumber_p24 (l : Launch) (D : va_G) (kA : Nat → ClassId) (u : Nat → Nat) (rec : mF) (hG : GM rec) (ihC : ∀ (w : Nat → Nat) (tx : Value) t σ xs res, rec t σ xs = some res → cSem l D kA u w tx t σ xs res) (ih : ∀ t σ xs res, rec t σ xs = some res → gSem l D kA u t σ xs res) (σ : mS) (xs : List Int32) (res : mR) (h : u_2 (kG_CP_writeNumber_p24 rec σ) xs = some res) : sG_CP_writeNumber_p24 l D kA u σ xs res := by
  intro x0 x1 hxs w tx
  subst hxs
  obtain ⟨σf, rf, dd⟩ := res
  have hmn : gle σ σf := qG_CP_writeNumber_p24 rec hG σ x0 x1 _ h
  have h : (if x1 ≤ 0 then (some (σ, 0, 0)) else (if x1 = 0 then none else (if (10 : Int32) = 0 then none else (if rok σ 301 4 = true then (lt_ (rAdd σ 301 4 ((48 : Int32) + ((x0 / x1) - (x0 / x1) / 10 * 10))) (fun σ1 => if (10 : Int32) = 0 then none else (rec tG_CP_writeNumber_p24 σ1 [x0, (x1 / 10)]))) else none)))) = some (σf, rf, dd) := h
  intro p e s m args below meth c F Lo mc ms cells slots σ0 w0 tx0 hF hLo hcq hsq hga C
  dsimp only at hF hLo hcq hsq ⊢
  have hcm : cells ≤ mc := by have := hmn.1; omega
  have hsm : slots ≤ ms := by have := hmn.2; omega
  have hle : True := trivial
  have hm : True := trivial
  refine ax_iload_n (pc := 24) C d_CP_writeNumber_24 rfl 2 rfl ?_
  refine ax_if_le (pc := 25) C 52 d_CP_writeNumber_25 (by decide) (fun hc => ?_) (fun hc => ?_)
  · replace h := it_t hc h
    cases h
    exact ax_vret (pc := 52) C d_CP_writeNumber_52 ⟨w, tx, hga, rfl, rfl⟩ hcm hsm
  · replace h := it_f hc h
    refine ax_aload_n (pc := 28) C d_CP_writeNumber_28 rfl 0 rfl ?_
    refine cg_0_1_CP_18 (pc := 29) C d_CP_writeNumber_29 ?_
    refine ax_bipush (pc := 32) C 48 d_CP_writeNumber_32 (by decide +kernel) ?_
    refine ax_iload_n (pc := 34) C d_CP_writeNumber_34 rfl 1 rfl ?_
    refine ax_iload_n (pc := 35) C d_CP_writeNumber_35 rfl 2 rfl ?_
    replace h := it_n h
    obtain ⟨hz, h⟩ := h
    refine ax_idiv (pc := 36) C d_CP_writeNumber_36 hz ?_
    refine ax_bipush (pc := 37) C 10 d_CP_writeNumber_37 (by decide +kernel) ?_
    replace h := it_n h
    obtain ⟨hz, h⟩ := h
    refine ax_irem (pc := 39) C d_CP_writeNumber_39 hz ?_
    refine ax_iadd (pc := 40) C d_CP_writeNumber_40 ?_
    replace h := it_g h
    obtain ⟨hb, h⟩ := h
    replace h := it_l h
    replace hle := rAdd_le σ 301 4 ((48 : Int32) + ((x0 / x1) - (x0 / x1) / 10 * 10))
    replace hmn : gle (rAdd σ 301 4 ((48 : Int32) + ((x0 / x1) - (x0 / x1) / 10 * 10))) σf := gm_use h (gm_if gm_none (gm_tail hG (Nat.le_of_ble_eq_true rfl)))
    refine ca_3 (pc := 41) C (rest := []) ml_CP_97 d_CP_writeNumber_41 hb hF hLo (by have := hmn.1; have := hle.1; omega) (by have := hmn.2; have := hle.2; omega) (Nat.le_of_ble_eq_true rfl) (fun w1 hag1 => ?_)
    generalize rAdd σ 301 4 ((48 : Int32) + ((x0 / x1) - (x0 / x1) / 10 * 10)) = σ1 at h hmn hle ⊢
    have hga1 : ∀ i, ([4] : List Nat).elem i = false → w1 i = w0 i := fun i hi => (hag1 i (by revert hi; exact el_sub (by decide))).trans (hga i hi)
    replace hcq : (cells + (σ1.2.2 3001 - σ.2.2 3001)) + σf.2.2 3001 ≤ mc + σ1.2.2 3001 := by have := hmn.1; have := hle.1; omega
    replace hcm : (cells + (σ1.2.2 3001 - σ.2.2 3001)) ≤ mc := by have := hmn.1; have := hle.1; omega
    generalize cells + (σ1.2.2 3001 - σ.2.2 3001) = cells at hcq hcm ⊢
    replace hsq : (slots + (σ1.2.2 3002 - σ.2.2 3002)) + σf.2.2 3002 ≤ ms + σ1.2.2 3002 := by have := hmn.2; have := hle.2; omega
    replace hsm : (slots + (σ1.2.2 3002 - σ.2.2 3002)) ≤ ms := by have := hmn.2; have := hle.2; omega
    generalize slots + (σ1.2.2 3002 - σ.2.2 3002) = slots at hsq hsm ⊢
    refine ax_iload_n (pc := 44) C d_CP_writeNumber_44 rfl 2 rfl ?_
    refine ax_bipush (pc := 45) C 10 d_CP_writeNumber_45 (by decide +kernel) ?_
    replace h := it_n h
    obtain ⟨hz, h⟩ := h
    refine ax_idiv (pc := 47) C d_CP_writeNumber_47 hz ?_
    refine ax_istore_n (pc := 48) C d_CP_writeNumber_48 rfl (Nat.le_of_ble_eq_true rfl) ([(2, .int (x1 / 10)), (0, .ref (u 0)), (1, .int x0)]) rfl ?_
    refine ax_goto (pc := 49) C 24 d_CP_writeNumber_49 (by decide) ?_
    refine ax_ls ([(0, .ref (u 0)), (1, .int x0), (2, .int (x1 / 10))]) [1, 2, 0] rfl ?_
    replace hm : sG_CP_writeNumber_p24 l D kA u σ1 [x0, (x1 / 10)] (σf, rf, _) := ih tG_CP_writeNumber_p24 _ _ _ h
    exact hm _ _ rfl w1 tx p e s m args below meth c F Lo mc ms cells slots σ0 w0 tx0 hF hLo hcq hsq hga1 C
set_option maxHeartbeats 4000000 in
set_option maxRecDepth 100000 in
theorem oG_For_addNode (l : Launch) (D : va_G) (kA : Nat → ClassId) (u : Nat → Nat) (rec : mF) (hG : GM rec) (ihC : ∀ (w : Nat → Nat) (tx : Value) t σ xs res, rec t σ xs = some res → cSem l D kA u w tx t σ xs res) (ih : ∀ t σ xs res, rec t σ xs = some res → gSem l D kA u t σ xs res) (σ : mS) (xs : List Int32) (res : mR) (h : u_3 (kG_For_addNode rec σ) xs = some res) : sG_For_addNode l D kA u σ xs res := by
  intro x0 x1 x2 hxs w tx
  subst hxs
  obtain ⟨σf, rf, dd⟩ := res
  have hmn : gle σ σf := qG_For_addNode rec hG σ x0 x1 x2 _ h
  have h : (if x0 < 11 then (rec tG_For_addNode_p14 σ [x0, x1, x2, (-1)]) else (rec tG_For_addNode_p14 σ [x0, x1, x2, ((x1 : Int32) * 7)])) = some (σf, rf, dd) := h
  refine ax_Mi.of (by decide +kernel) (Nat.le_of_ble_eq_true rfl) ?_
  intro p e s m args below meth c C hnm
  replace C : ax_C p s m args meth c b_For_addNode "ClauseProver$Formulas" 13 (some .int) D kA (va_A (cpW kA u w tx σ) s.heap.size) := C
  obtain ⟨F, hFe⟩ : ∃ z, z = dd + 3 := ⟨_, rfl⟩
  obtain ⟨Lo, hLoe⟩ : ∃ z, z = 48 * dd + 144 := ⟨_, rfl⟩
  obtain ⟨mc, hmce⟩ : ∃ z, z = σf.2.2 3001 - σ.2.2 3001 := ⟨_, rfl⟩
  obtain ⟨ms, hmse⟩ : ∃ z, z = σf.2.2 3002 - σ.2.2 3002 := ⟨_, rfl⟩
  obtain ⟨σ0, hσ0e⟩ : ∃ z, z = σ := ⟨_, rfl⟩
  obtain ⟨w0, hw0e⟩ : ∃ z, z = w := ⟨_, rfl⟩
  obtain ⟨tx0, htx0e⟩ : ∃ z, z = tx := ⟨_, rfl⟩
  suffices K : ∀ (cells slots : Nat), cells = 0 → slots = 0 → AW p l e { frames := F, cells := mc, slots := ms, locals := Lo } s m args below meth c D kA (va_A (cpW kA u w0 tx0 σ0) s.heap.size) 13 (ax_Qi below args s D kA (cpW kA u w0 tx0 σ0) mc ms (fun r w1 => r = rf ∧ ∃ (w2 : Nat → Nat) (tx2 : Value), (∀ i, ([19] : List Nat).elem i = false → w2 i = w0 i) ∧ tx2 = tx0 ∧ w1 = cpW kA u w2 tx2 σf)) 0 [(0, .ref (u 14)), (1, .int x0), (2, .int x1), (3, .int x2)] [] (cpW kA u w tx σ) cells slots by
    have K := K 0 0 rfl rfl
    rw [hFe, hLoe, hmce, hmse, hσ0e, hw0e, htx0e] at K
    exact ax_ls ([(0, .ref (u 14)), (1, .int x0), (2, .int x1), (3, .int x2)]) [0, 1, 2, 3] rfl K
  replace C : ax_C p s m args meth c b_For_addNode "ClauseProver$Formulas" 13 (some .int) D kA (va_A (cpW kA u w0 tx0 σ0) s.heap.size) := by rw [hσ0e, hw0e, htx0e]; exact C
  intro cells slots hc0 hs0
  have hcq : cells + σf.2.2 3001 ≤ mc + σ.2.2 3001 := by have := hmn.1; omega
  have hsq : slots + σf.2.2 3002 ≤ ms + σ.2.2 3002 := by have := hmn.2; omega
  have hga : ∀ i, ([19] : List Nat).elem i = false → w i = w0 i := fun i _ => by rw [hw0e]
  have e9 : tx = tx0 := htx0e.symm
  subst e9
  have hF : dd + 3 ≤ F := by omega
  have hLo : 48 * dd + 144 ≤ Lo := by omega
  have hcm : cells ≤ mc := by have := hmn.1; omega
  have hsm : slots ≤ ms := by have := hmn.2; omega
  have hle : True := trivial
  have hm : True := trivial
  refine ax_iload_n (pc := 0) C d_For_addNode_0 rfl 1 rfl ?_
  refine ax_bipush (pc := 1) C 11 d_For_addNode_1 (by decide +kernel) ?_
  refine ax_icmp_lt (pc := 3) C 13 d_For_addNode_3 (by decide) (fun hc => ?_) (fun hc => ?_)
  · replace h := it_t hc h
    refine ax_iconst (pc := 13) C (-1) d_For_addNode_13 (by decide +kernel) ?_
    refine ax_ls ([(0, .ref (u 14)), (1, .int x0), (2, .int x1), (3, .int x2)]) [0, 1, 2, 3] rfl ?_
    replace hm : sG_For_addNode_p14 l D kA u σ [x0, x1, x2, (-1)] (σf, rf, _) := ih tG_For_addNode_p14 _ _ _ h
    exact hm _ _ _ _ rfl w tx p e s m args below meth c F Lo mc ms cells slots σ0 w0 tx hF hLo hcq hsq hga C
  · replace h := it_f hc h
    refine ax_iload_n (pc := 6) C d_For_addNode_6 rfl 2 rfl ?_
    refine ax_bipush (pc := 7) C 7 d_For_addNode_7 (by decide +kernel) ?_
    refine ax_imul (pc := 9) C d_For_addNode_9 ?_
    refine ax_goto (pc := 10) C 14 d_For_addNode_10 (by decide) ?_
    refine ax_ls ([(0, .ref (u 14)), (1, .int x0), (2, .int x1), (3, .int x2)]) [0, 1, 2, 3] rfl ?_
    replace hm : sG_For_addNode_p14 l D kA u σ [x0, x1, x2, ((x1 : Int32) * 7)] (σf, rf, _) := ih tG_For_addNode_p14 _ _ _ h
    exact hm _ _ _ _ rfl w tx p e s m args below meth c F Lo mc ms cells slots σ0 w0 tx hF hLo hcq hsq hga C
set_option maxHeartbeats 4000000 in
set_option maxRecDepth 100000 in
theorem oG_For_addNode_p14 (l : Launch) (D : va_G) (kA : Nat → ClassId) (u : Nat → Nat) (rec : mF) (hG : GM rec) (ihC : ∀ (w : Nat → Nat) (tx : Value) t σ xs res, rec t σ xs = some res → cSem l D kA u w tx t σ xs res) (ih : ∀ t σ xs res, rec t σ xs = some res → gSem l D kA u t σ xs res) (σ : mS) (xs : List Int32) (res : mR) (h : u_4 (kG_For_addNode_p14 rec σ) xs = some res) : sG_For_addNode_p14 l D kA u σ xs res := by
  intro x0 x1 x2 x3 hxs w tx
  subst hxs
  obtain ⟨σf, rf, dd⟩ := res
  have hmn : gle σ σf := qG_For_addNode_p14 rec hG σ x0 x1 x2 x3 _ h
  have h : (if x0 < 14 then (rec tG_For_addNode_p30 σ [x0, x1, x2, x3, (-1)]) else (rec tG_For_addNode_p30 σ [x0, x1, x2, x3, ((x2 : Int32) * 7)])) = some (σf, rf, dd) := h
  intro p e s m args below meth c F Lo mc ms cells slots σ0 w0 tx0 hF hLo hcq hsq hga C
  dsimp only at hF hLo hcq hsq ⊢
  have hcm : cells ≤ mc := by have := hmn.1; omega
  have hsm : slots ≤ ms := by have := hmn.2; omega
  have hle : True := trivial
  have hm : True := trivial
  refine ax_istore (pc := 14) C d_For_addNode_14 (Nat.le_of_ble_eq_true rfl) ([(4, .int x3), (0, .ref (u 14)), (1, .int x0), (2, .int x1), (3, .int x2)]) rfl ?_
  refine ax_iload_n (pc := 16) C d_For_addNode_16 rfl 2 rfl ?_
  refine ax_bipush (pc := 17) C 14 d_For_addNode_17 (by decide +kernel) ?_
  refine ax_icmp_lt (pc := 19) C 29 d_For_addNode_19 (by decide) (fun hc => ?_) (fun hc => ?_)
  · replace h := it_t hc h
    refine ax_iconst (pc := 29) C (-1) d_For_addNode_29 (by decide +kernel) ?_
    refine ax_ls ([(0, .ref (u 14)), (1, .int x0), (2, .int x1), (3, .int x2), (4, .int x3)]) [1, 2, 3, 4, 0] rfl ?_
    replace hm : sG_For_addNode_p30 l D kA u σ [x0, x1, x2, x3, (-1)] (σf, rf, _) := ih tG_For_addNode_p30 _ _ _ h
    exact hm _ _ _ _ _ rfl w tx p e s m args below meth c F Lo mc ms cells slots σ0 w0 tx0 hF hLo hcq hsq hga C
  · replace h := it_f hc h
    refine ax_iload_n (pc := 22) C d_For_addNode_22 rfl 4 rfl ?_
    refine ax_bipush (pc := 23) C 7 d_For_addNode_23 (by decide +kernel) ?_
    refine ax_imul (pc := 25) C d_For_addNode_25 ?_
    refine ax_goto (pc := 26) C 30 d_For_addNode_26 (by decide) ?_
    refine ax_ls ([(0, .ref (u 14)), (1, .int x0), (2, .int x1), (3, .int x2), (4, .int x3)]) [1, 2, 3, 4, 0] rfl ?_
    replace hm : sG_For_addNode_p30 l D kA u σ [x0, x1, x2, x3, ((x2 : Int32) * 7)] (σf, rf, _) := ih tG_For_addNode_p30 _ _ _ h
    exact hm _ _ _ _ _ rfl w tx p e s m args below meth c F Lo mc ms cells slots σ0 w0 tx0 hF hLo hcq hsq hga C
set_option maxHeartbeats 4000000 in
set_option maxRecDepth 100000 in
theorem oG_For_addNode_p30 (l : Launch) (D : va_G) (kA : Nat → ClassId) (u : Nat → Nat) (rec : mF) (hG : GM rec) (ihC : ∀ (w : Nat → Nat) (tx : Value) t σ xs res, rec t σ xs = some res → cSem l D kA u w tx t σ xs res) (ih : ∀ t σ xs res, rec t σ xs = some res → gSem l D kA u t σ xs res) (σ : mS) (xs : List Int32) (res : mR) (h : u_5 (kG_For_addNode_p30 rec σ) xs = some res) : sG_For_addNode_p30 l D kA u σ xs res := by
  intro x0 x1 x2 x3 x4 hxs w tx
  subst hxs
  obtain ⟨σf, rf, dd⟩ := res
  have hmn : gle σ σf := qG_For_addNode_p30 rec hG σ x0 x1 x2 x3 x4 _ h
  have h : (if x3 = (-1) then (rec tG_For_addNode_p54 σ [x0, x1, x2, x3, x4, 1]) else (if bin ((x3 : Int32) + 4) (σ.2.2 19) = true then (rec tG_For_addNode_p54 σ [x0, x1, x2, x3, x4, (σ.2.1 19 (Int32.toNatClampNeg ((x3 : Int32) + 4)))]) else none)) = some (σf, rf, dd) := h
  intro p e s m args below meth c F Lo mc ms cells slots σ0 w0 tx0 hF hLo hcq hsq hga C
  dsimp only at hF hLo hcq hsq ⊢
  have hcm : cells ≤ mc := by have := hmn.1; omega
  have hsm : slots ≤ ms := by have := hmn.2; omega
  have hle : True := trivial
  have hm : True := trivial
  refine ax_istore (pc := 30) C d_For_addNode_30 (Nat.le_of_ble_eq_true rfl) ([(5, .int x4), (0, .ref (u 14)), (1, .int x0), (2, .int x1), (3, .int x2), (4, .int x3)]) rfl ?_
  refine ax_iload (pc := 32) C d_For_addNode_32 5 rfl ?_
  refine ax_iconst (pc := 34) C (-1) d_For_addNode_34 (by decide +kernel) ?_
  refine ax_icmp_ne (pc := 35) C 42 d_For_addNode_35 (by decide) (fun hc => ?_) (fun hc => ?_)
  · replace h := it_f hc h
    refine ax_aload_n (pc := 42) C d_For_addNode_42 rfl 1 rfl ?_
    refine cg_14_5_For_24 (pc := 43) C d_For_addNode_43 ?_
    refine cg_18_0_For_75 (pc := 46) C d_For_addNode_46 ?_
    refine ax_iload (pc := 49) C d_For_addNode_49 5 rfl ?_
    refine ax_iconst (pc := 51) C 4 d_For_addNode_51 (by decide +kernel) ?_
    refine ax_iadd (pc := 52) C d_For_addNode_52 ?_
    replace h := it_g h
    obtain ⟨hb, h⟩ := h
    refine cl_19 (pc := 53) C d_For_addNode_53 (bin_in hb) ?_
    refine ax_ls ([(0, .ref (u 14)), (1, .int x0), (2, .int x1), (3, .int x2), (4, .int x3), (5, .int x4)]) [1, 2, 3, 4, 5, 0] rfl ?_
    replace hm : sG_For_addNode_p54 l D kA u σ [x0, x1, x2, x3, x4, (σ.2.1 19 (Int32.toNatClampNeg ((x3 : Int32) + 4)))] (σf, rf, _) := ih tG_For_addNode_p54 _ _ _ h
    exact hm _ _ _ _ _ _ rfl w tx p e s m args below meth c F Lo mc ms cells slots σ0 w0 tx0 hF hLo hcq hsq hga C
  · replace h := it_t hc h
    refine ax_iconst (pc := 38) C 1 d_For_addNode_38 (by decide +kernel) ?_
    refine ax_goto (pc := 39) C 54 d_For_addNode_39 (by decide) ?_
    refine ax_ls ([(0, .ref (u 14)), (1, .int x0), (2, .int x1), (3, .int x2), (4, .int x3), (5, .int x4)]) [1, 2, 3, 4, 5, 0] rfl ?_
    replace hm : sG_For_addNode_p54 l D kA u σ [x0, x1, x2, x3, x4, 1] (σf, rf, _) := ih tG_For_addNode_p54 _ _ _ h
    exact hm _ _ _ _ _ _ rfl w tx p e s m args below meth c F Lo mc ms cells slots σ0 w0 tx0 hF hLo hcq hsq hga C
set_option maxHeartbeats 4000000 in
set_option maxRecDepth 100000 in
theorem oG_For_addNode_p54 (l : Launch) (D : va_G) (kA : Nat → ClassId) (u : Nat → Nat) (rec : mF) (hG : GM rec) (ihC : ∀ (w : Nat → Nat) (tx : Value) t σ xs res, rec t σ xs = some res → cSem l D kA u w tx t σ xs res) (ih : ∀ t σ xs res, rec t σ xs = some res → gSem l D kA u t σ xs res) (σ : mS) (xs : List Int32) (res : mR) (h : u_6 (kG_For_addNode_p54 rec σ) xs = some res) : sG_For_addNode_p54 l D kA u σ xs res := by
  intro x0 x1 x2 x3 x4 x5 hxs w tx
  subst hxs
  obtain ⟨σf, rf, dd⟩ := res
  have hmn : gle σ σf := qG_For_addNode_p54 rec hG σ x0 x1 x2 x3 x4 x5 _ h
  have h : (if x3 = (-1) then (rec tG_For_addNode_p78 σ [x0, x1, x2, x3, x4, x5, 1]) else (if bin ((x3 : Int32) + 5) (σ.2.2 19) = true then (rec tG_For_addNode_p78 σ [x0, x1, x2, x3, x4, x5, (σ.2.1 19 (Int32.toNatClampNeg ((x3 : Int32) + 5)))]) else none)) = some (σf, rf, dd) := h
  intro p e s m args below meth c F Lo mc ms cells slots σ0 w0 tx0 hF hLo hcq hsq hga C
  dsimp only at hF hLo hcq hsq ⊢
  have hcm : cells ≤ mc := by have := hmn.1; omega
  have hsm : slots ≤ ms := by have := hmn.2; omega
  have hle : True := trivial
  have hm : True := trivial
  refine ax_istore (pc := 54) C d_For_addNode_54 (Nat.le_of_ble_eq_true rfl) ([(6, .int x5), (0, .ref (u 14)), (1, .int x0), (2, .int x1), (3, .int x2), (4, .int x3), (5, .int x4)]) rfl ?_
  refine ax_iload (pc := 56) C d_For_addNode_56 5 rfl ?_
  refine ax_iconst (pc := 58) C (-1) d_For_addNode_58 (by decide +kernel) ?_
  refine ax_icmp_ne (pc := 59) C 66 d_For_addNode_59 (by decide) (fun hc => ?_) (fun hc => ?_)
  · replace h := it_f hc h
    refine ax_aload_n (pc := 66) C d_For_addNode_66 rfl 1 rfl ?_
    refine cg_14_5_For_24 (pc := 67) C d_For_addNode_67 ?_
    refine cg_18_0_For_75 (pc := 70) C d_For_addNode_70 ?_
    refine ax_iload (pc := 73) C d_For_addNode_73 5 rfl ?_
    refine ax_iconst (pc := 75) C 5 d_For_addNode_75 (by decide +kernel) ?_
    refine ax_iadd (pc := 76) C d_For_addNode_76 ?_
    replace h := it_g h
    obtain ⟨hb, h⟩ := h
    refine cl_19 (pc := 77) C d_For_addNode_77 (bin_in hb) ?_
    refine ax_ls ([(0, .ref (u 14)), (1, .int x0), (2, .int x1), (3, .int x2), (4, .int x3), (5, .int x4), (6, .int x5)]) [1, 2, 3, 4, 5, 6, 0] rfl ?_
    replace hm : sG_For_addNode_p78 l D kA u σ [x0, x1, x2, x3, x4, x5, (σ.2.1 19 (Int32.toNatClampNeg ((x3 : Int32) + 5)))] (σf, rf, _) := ih tG_For_addNode_p78 _ _ _ h
    exact hm _ _ _ _ _ _ _ rfl w tx p e s m args below meth c F Lo mc ms cells slots σ0 w0 tx0 hF hLo hcq hsq hga C
  · replace h := it_t hc h
    refine ax_iconst (pc := 62) C 1 d_For_addNode_62 (by decide +kernel) ?_
    refine ax_goto (pc := 63) C 78 d_For_addNode_63 (by decide) ?_
    refine ax_ls ([(0, .ref (u 14)), (1, .int x0), (2, .int x1), (3, .int x2), (4, .int x3), (5, .int x4), (6, .int x5)]) [1, 2, 3, 4, 5, 6, 0] rfl ?_
    replace hm : sG_For_addNode_p78 l D kA u σ [x0, x1, x2, x3, x4, x5, 1] (σf, rf, _) := ih tG_For_addNode_p78 _ _ _ h
    exact hm _ _ _ _ _ _ _ rfl w tx p e s m args below meth c F Lo mc ms cells slots σ0 w0 tx0 hF hLo hcq hsq hga C
set_option maxHeartbeats 4000000 in
set_option maxRecDepth 100000 in
theorem oG_For_addNode_p78 (l : Launch) (D : va_G) (kA : Nat → ClassId) (u : Nat → Nat) (rec : mF) (hG : GM rec) (ihC : ∀ (w : Nat → Nat) (tx : Value) t σ xs res, rec t σ xs = some res → cSem l D kA u w tx t σ xs res) (ih : ∀ t σ xs res, rec t σ xs = some res → gSem l D kA u t σ xs res) (σ : mS) (xs : List Int32) (res : mR) (h : u_7 (kG_For_addNode_p78 rec σ) xs = some res) : sG_For_addNode_p78 l D kA u σ xs res := by
  intro x0 x1 x2 x3 x4 x5 x6 hxs w tx
  subst hxs
  obtain ⟨σf, rf, dd⟩ := res
  have hmn : gle σ σf := qG_For_addNode_p78 rec hG σ x0 x1 x2 x3 x4 x5 x6 _ h
  have h : (if x4 = (-1) then (rec tG_For_addNode_p102 σ [x0, x1, x2, x3, x4, x5, x6, 1]) else (if bin ((x4 : Int32) + 4) (σ.2.2 19) = true then (rec tG_For_addNode_p102 σ [x0, x1, x2, x3, x4, x5, x6, (σ.2.1 19 (Int32.toNatClampNeg ((x4 : Int32) + 4)))]) else none)) = some (σf, rf, dd) := h
  intro p e s m args below meth c F Lo mc ms cells slots σ0 w0 tx0 hF hLo hcq hsq hga C
  dsimp only at hF hLo hcq hsq ⊢
  have hcm : cells ≤ mc := by have := hmn.1; omega
  have hsm : slots ≤ ms := by have := hmn.2; omega
  have hle : True := trivial
  have hm : True := trivial
  refine ax_istore (pc := 78) C d_For_addNode_78 (Nat.le_of_ble_eq_true rfl) ([(7, .int x6), (0, .ref (u 14)), (1, .int x0), (2, .int x1), (3, .int x2), (4, .int x3), (5, .int x4), (6, .int x5)]) rfl ?_
  refine ax_iload (pc := 80) C d_For_addNode_80 6 rfl ?_
  refine ax_iconst (pc := 82) C (-1) d_For_addNode_82 (by decide +kernel) ?_
  refine ax_icmp_ne (pc := 83) C 90 d_For_addNode_83 (by decide) (fun hc => ?_) (fun hc => ?_)
  · replace h := it_f hc h
    refine ax_aload_n (pc := 90) C d_For_addNode_90 rfl 1 rfl ?_
    refine cg_14_5_For_24 (pc := 91) C d_For_addNode_91 ?_
    refine cg_18_0_For_75 (pc := 94) C d_For_addNode_94 ?_
    refine ax_iload (pc := 97) C d_For_addNode_97 6 rfl ?_
    refine ax_iconst (pc := 99) C 4 d_For_addNode_99 (by decide +kernel) ?_
    refine ax_iadd (pc := 100) C d_For_addNode_100 ?_
    replace h := it_g h
    obtain ⟨hb, h⟩ := h
    refine cl_19 (pc := 101) C d_For_addNode_101 (bin_in hb) ?_
    refine ax_ls ([(0, .ref (u 14)), (1, .int x0), (2, .int x1), (3, .int x2), (4, .int x3), (5, .int x4), (6, .int x5), (7, .int x6)]) [1, 2, 3, 4, 5, 6, 7, 0] rfl ?_
    replace hm : sG_For_addNode_p102 l D kA u σ [x0, x1, x2, x3, x4, x5, x6, (σ.2.1 19 (Int32.toNatClampNeg ((x4 : Int32) + 4)))] (σf, rf, _) := ih tG_For_addNode_p102 _ _ _ h
    exact hm _ _ _ _ _ _ _ _ rfl w tx p e s m args below meth c F Lo mc ms cells slots σ0 w0 tx0 hF hLo hcq hsq hga C
  · replace h := it_t hc h
    refine ax_iconst (pc := 86) C 1 d_For_addNode_86 (by decide +kernel) ?_
    refine ax_goto (pc := 87) C 102 d_For_addNode_87 (by decide) ?_
    refine ax_ls ([(0, .ref (u 14)), (1, .int x0), (2, .int x1), (3, .int x2), (4, .int x3), (5, .int x4), (6, .int x5), (7, .int x6)]) [1, 2, 3, 4, 5, 6, 7, 0] rfl ?_
    replace hm : sG_For_addNode_p102 l D kA u σ [x0, x1, x2, x3, x4, x5, x6, 1] (σf, rf, _) := ih tG_For_addNode_p102 _ _ _ h
    exact hm _ _ _ _ _ _ _ _ rfl w tx p e s m args below meth c F Lo mc ms cells slots σ0 w0 tx0 hF hLo hcq hsq hga C
set_option maxHeartbeats 4000000 in
set_option maxRecDepth 100000 in
theorem oG_For_addNode_p102 (l : Launch) (D : va_G) (kA : Nat → ClassId) (u : Nat → Nat) (rec : mF) (hG : GM rec) (ihC : ∀ (w : Nat → Nat) (tx : Value) t σ xs res, rec t σ xs = some res → cSem l D kA u w tx t σ xs res) (ih : ∀ t σ xs res, rec t σ xs = some res → gSem l D kA u t σ xs res) (σ : mS) (xs : List Int32) (res : mR) (h : u_8 (kG_For_addNode_p102 rec σ) xs = some res) : sG_For_addNode_p102 l D kA u σ xs res := by
  intro x0 x1 x2 x3 x4 x5 x6 x7 hxs w tx
  subst hxs
  obtain ⟨σf, rf, dd⟩ := res
  have hmn : gle σ σf := qG_For_addNode_p102 rec hG σ x0 x1 x2 x3 x4 x5 x6 x7 _ h
  have h : (if x4 = (-1) then (rec tG_For_addNode_p126 σ [x0, x1, x2, x3, x4, x5, x6, x7, 1]) else (if bin ((x4 : Int32) + 5) (σ.2.2 19) = true then (rec tG_For_addNode_p126 σ [x0, x1, x2, x3, x4, x5, x6, x7, (σ.2.1 19 (Int32.toNatClampNeg ((x4 : Int32) + 5)))]) else none)) = some (σf, rf, dd) := h
  intro p e s m args below meth c F Lo mc ms cells slots σ0 w0 tx0 hF hLo hcq hsq hga C
  dsimp only at hF hLo hcq hsq ⊢
  have hcm : cells ≤ mc := by have := hmn.1; omega
  have hsm : slots ≤ ms := by have := hmn.2; omega
  have hle : True := trivial
  have hm : True := trivial
  refine ax_istore (pc := 102) C d_For_addNode_102 (Nat.le_of_ble_eq_true rfl) ([(8, .int x7), (0, .ref (u 14)), (1, .int x0), (2, .int x1), (3, .int x2), (4, .int x3), (5, .int x4), (6, .int x5), (7, .int x6)]) rfl ?_
  refine ax_iload (pc := 104) C d_For_addNode_104 6 rfl ?_
  refine ax_iconst (pc := 106) C (-1) d_For_addNode_106 (by decide +kernel) ?_
  refine ax_icmp_ne (pc := 107) C 114 d_For_addNode_107 (by decide) (fun hc => ?_) (fun hc => ?_)
  · replace h := it_f hc h
    refine ax_aload_n (pc := 114) C d_For_addNode_114 rfl 1 rfl ?_
    refine cg_14_5_For_24 (pc := 115) C d_For_addNode_115 ?_
    refine cg_18_0_For_75 (pc := 118) C d_For_addNode_118 ?_
    refine ax_iload (pc := 121) C d_For_addNode_121 6 rfl ?_
    refine ax_iconst (pc := 123) C 5 d_For_addNode_123 (by decide +kernel) ?_
    refine ax_iadd (pc := 124) C d_For_addNode_124 ?_
    replace h := it_g h
    obtain ⟨hb, h⟩ := h
    refine cl_19 (pc := 125) C d_For_addNode_125 (bin_in hb) ?_
    refine ax_ls ([(0, .ref (u 14)), (1, .int x0), (2, .int x1), (3, .int x2), (4, .int x3), (5, .int x4), (6, .int x5), (7, .int x6), (8, .int x7)]) [1, 2, 3, 4, 5, 6, 7, 8, 0] rfl ?_
    replace hm : sG_For_addNode_p126 l D kA u σ [x0, x1, x2, x3, x4, x5, x6, x7, (σ.2.1 19 (Int32.toNatClampNeg ((x4 : Int32) + 5)))] (σf, rf, _) := ih tG_For_addNode_p126 _ _ _ h
    exact hm _ _ _ _ _ _ _ _ _ rfl w tx p e s m args below meth c F Lo mc ms cells slots σ0 w0 tx0 hF hLo hcq hsq hga C
  · replace h := it_t hc h
    refine ax_iconst (pc := 110) C 1 d_For_addNode_110 (by decide +kernel) ?_
    refine ax_goto (pc := 111) C 126 d_For_addNode_111 (by decide) ?_
    refine ax_ls ([(0, .ref (u 14)), (1, .int x0), (2, .int x1), (3, .int x2), (4, .int x3), (5, .int x4), (6, .int x5), (7, .int x6), (8, .int x7)]) [1, 2, 3, 4, 5, 6, 7, 8, 0] rfl ?_
    replace hm : sG_For_addNode_p126 l D kA u σ [x0, x1, x2, x3, x4, x5, x6, x7, 1] (σf, rf, _) := ih tG_For_addNode_p126 _ _ _ h
    exact hm _ _ _ _ _ _ _ _ _ rfl w tx p e s m args below meth c F Lo mc ms cells slots σ0 w0 tx0 hF hLo hcq hsq hga C
set_option maxHeartbeats 4000000 in
set_option maxRecDepth 100000 in
theorem oG_For_addNode_p126 (l : Launch) (D : va_G) (kA : Nat → ClassId) (u : Nat → Nat) (rec : mF) (hG : GM rec) (ihC : ∀ (w : Nat → Nat) (tx : Value) t σ xs res, rec t σ xs = some res → cSem l D kA u w tx t σ xs res) (ih : ∀ t σ xs res, rec t σ xs = some res → gSem l D kA u t σ xs res) (σ : mS) (xs : List Int32) (res : mR) (h : u_9 (kG_For_addNode_p126 rec σ) xs = some res) : sG_For_addNode_p126 l D kA u σ xs res := by
  intro x0 x1 x2 x3 x4 x5 x6 x7 x8 hxs w tx
  subst hxs
  obtain ⟨σf, rf, dd⟩ := res
  have hmn : gle σ σf := qG_For_addNode_p126 rec hG σ x0 x1 x2 x3 x4 x5 x6 x7 x8 _ h
  have h : (if (x0 : Int32).toInt < 11 ∨ 17 < (x0 : Int32).toInt then (rec tG_For_addNode_p271 σ [x0, x1, x2, x3, x4, x5, x6, x7, x8, x5, x6]) else (if (x0 : Int32) = 11 then (rec tG_For_addNode_p271 σ [x0, x1, x2, x3, x4, x5, x6, x7, x8, x6, x5]) else (if (x0 : Int32) = 12 then (rec tG_For_addNode_p271 σ [x0, x1, x2, x3, x4, x5, x6, x7, x8, x5, x6]) else (if (x0 : Int32) = 13 then (rec tG_For_addNode_p271 σ [x0, x1, x2, x3, x4, x5, x6, x7, x8, x5, x6]) else (if (x0 : Int32) = 14 then (rec tG_For_addNode_p271 σ [x0, x1, x2, x3, x4, x5, x6, x7, x8, ((x5 : Int32) * x7), ((x6 : Int32) + x8)]) else (if (x0 : Int32) = 15 then (rec tG_For_addNode_p271 σ [x0, x1, x2, x3, x4, x5, x6, x7, x8, ((x5 : Int32) + x7), ((x6 : Int32) * x8)]) else (if (x0 : Int32) = 16 then (rec tG_For_addNode_p271 σ [x0, x1, x2, x3, x4, x5, x6, x7, x8, ((x6 : Int32) + x7), ((x5 : Int32) * x8)]) else (rec tG_For_addNode_p271 σ [x0, x1, x2, x3, x4, x5, x6, x7, x8, ((((x6 : Int32) * x8) : Int32) + ((x5 : Int32) * x7)), ((((x5 : Int32) * x8) : Int32) + ((x7 : Int32) * x6))])))))))) = some (σf, rf, dd) := h
  intro p e s m args below meth c F Lo mc ms cells slots σ0 w0 tx0 hF hLo hcq hsq hga C
  dsimp only at hF hLo hcq hsq ⊢
  have hcm : cells ≤ mc := by have := hmn.1; omega
  have hsm : slots ≤ ms := by have := hmn.2; omega
  have hle : True := trivial
  have hm : True := trivial
  refine ax_istore (pc := 126) C d_For_addNode_126 (Nat.le_of_ble_eq_true rfl) ([(9, .int x8), (0, .ref (u 14)), (1, .int x0), (2, .int x1), (3, .int x2), (4, .int x3), (5, .int x4), (6, .int x5), (7, .int x6), (8, .int x7)]) rfl ?_
  refine ax_iload (pc := 128) C d_For_addNode_128 7 rfl ?_
  refine ax_istore (pc := 130) C d_For_addNode_130 (Nat.le_of_ble_eq_true rfl) ([(10, .int x5), (9, .int x8), (0, .ref (u 14)), (1, .int x0), (2, .int x1), (3, .int x2), (4, .int x3), (5, .int x4), (6, .int x5), (7, .int x6), (8, .int x7)]) rfl ?_
  refine ax_iload (pc := 132) C d_For_addNode_132 9 rfl ?_
  refine ax_istore (pc := 134) C d_For_addNode_134 (Nat.le_of_ble_eq_true rfl) ([(11, .int x6), (10, .int x5), (9, .int x8), (0, .ref (u 14)), (1, .int x0), (2, .int x1), (3, .int x2), (4, .int x3), (5, .int x4), (6, .int x5), (7, .int x6), (8, .int x7)]) rfl ?_
  refine ax_iload_n (pc := 136) C d_For_addNode_136 rfl 4 rfl ?_
  by_cases hr : (x0 : Int32).toInt < 11 ∨ 17 < (x0 : Int32).toInt
  · replace h := it_t hr h
    refine ax_tableOut (pc := 137) C 271 d_For_addNode_137 hr (by decide) ?_
    refine ax_ls ([(0, .ref (u 14)), (1, .int x0), (2, .int x1), (3, .int x2), (4, .int x3), (5, .int x4), (6, .int x5), (7, .int x6), (8, .int x7), (9, .int x8), (10, .int x5), (11, .int x6)]) [3, 4, 5, 6, 7, 8, 9, 10, 11, 2, 1, 0] rfl ?_
    replace hm : sG_For_addNode_p271 l D kA u σ [x0, x1, x2, x3, x4, x5, x6, x7, x8, x5, x6] (σf, rf, _) := ih tG_For_addNode_p271 _ _ _ h
    exact hm _ _ _ _ _ _ _ _ _ _ _ rfl w tx p e s m args below meth c F Lo mc ms cells slots σ0 w0 tx0 hF hLo hcq hsq hga C
  · replace h := it_f hr h
    by_cases hv : (x0 : Int32) = 11
    · replace h := it_t hv h
      refine ax_tableIn (pc := 137) C 180 d_For_addNode_137 (by omega) (by omega) (by rw [hv]; rfl) (by decide) ?_
      refine ax_iload (pc := 180) C d_For_addNode_180 10 rfl ?_
      refine ax_istore (pc := 182) C d_For_addNode_182 (Nat.le_of_ble_eq_true rfl) ([(10, .int x6), (11, .int x6), (9, .int x8), (0, .ref (u 14)), (1, .int x0), (2, .int x1), (3, .int x2), (4, .int x3), (5, .int x4), (6, .int x5), (7, .int x6), (8, .int x7)]) rfl ?_
      refine ax_iload (pc := 184) C d_For_addNode_184 9 rfl ?_
      refine ax_istore (pc := 186) C d_For_addNode_186 (Nat.le_of_ble_eq_true rfl) ([(11, .int x5), (10, .int x6), (9, .int x8), (0, .ref (u 14)), (1, .int x0), (2, .int x1), (3, .int x2), (4, .int x3), (5, .int x4), (6, .int x5), (7, .int x6), (8, .int x7)]) rfl ?_
      refine ax_goto (pc := 188) C 271 d_For_addNode_188 (by decide) ?_
      refine ax_ls ([(0, .ref (u 14)), (1, .int x0), (2, .int x1), (3, .int x2), (4, .int x3), (5, .int x4), (6, .int x5), (7, .int x6), (8, .int x7), (9, .int x8), (10, .int x6), (11, .int x5)]) [3, 4, 5, 6, 7, 8, 9, 10, 11, 2, 1, 0] rfl ?_
      replace hm : sG_For_addNode_p271 l D kA u σ [x0, x1, x2, x3, x4, x5, x6, x7, x8, x6, x5] (σf, rf, _) := ih tG_For_addNode_p271 _ _ _ h
      exact hm _ _ _ _ _ _ _ _ _ _ _ rfl w tx p e s m args below meth c F Lo mc ms cells slots σ0 w0 tx0 hF hLo hcq hsq hga C
    · replace h := it_f hv h
      have hn11 : ¬ (x0 : Int32).toInt = 11 := fun q => hv (i32q (by rw [q]; rfl))
      by_cases hv : (x0 : Int32) = 12
      · replace h := it_t hv h
        refine ax_tableIn (pc := 137) C 271 d_For_addNode_137 (by omega) (by omega) (by rw [hv]; rfl) (by decide) ?_
        refine ax_ls ([(0, .ref (u 14)), (1, .int x0), (2, .int x1), (3, .int x2), (4, .int x3), (5, .int x4), (6, .int x5), (7, .int x6), (8, .int x7), (9, .int x8), (10, .int x5), (11, .int x6)]) [3, 4, 5, 6, 7, 8, 9, 10, 11, 2, 1, 0] rfl ?_
        replace hm : sG_For_addNode_p271 l D kA u σ [x0, x1, x2, x3, x4, x5, x6, x7, x8, x5, x6] (σf, rf, _) := ih tG_For_addNode_p271 _ _ _ h
        exact hm _ _ _ _ _ _ _ _ _ _ _ rfl w tx p e s m args below meth c F Lo mc ms cells slots σ0 w0 tx0 hF hLo hcq hsq hga C
      · replace h := it_f hv h
        have hn12 : ¬ (x0 : Int32).toInt = 12 := fun q => hv (i32q (by rw [q]; rfl))
        by_cases hv : (x0 : Int32) = 13
        · replace h := it_t hv h
          refine ax_tableIn (pc := 137) C 271 d_For_addNode_137 (by omega) (by omega) (by rw [hv]; rfl) (by decide) ?_
          refine ax_ls ([(0, .ref (u 14)), (1, .int x0), (2, .int x1), (3, .int x2), (4, .int x3), (5, .int x4), (6, .int x5), (7, .int x6), (8, .int x7), (9, .int x8), (10, .int x5), (11, .int x6)]) [3, 4, 5, 6, 7, 8, 9, 10, 11, 2, 1, 0] rfl ?_
          replace hm : sG_For_addNode_p271 l D kA u σ [x0, x1, x2, x3, x4, x5, x6, x7, x8, x5, x6] (σf, rf, _) := ih tG_For_addNode_p271 _ _ _ h
          exact hm _ _ _ _ _ _ _ _ _ _ _ rfl w tx p e s m args below meth c F Lo mc ms cells slots σ0 w0 tx0 hF hLo hcq hsq hga C
        · replace h := it_f hv h
          have hn13 : ¬ (x0 : Int32).toInt = 13 := fun q => hv (i32q (by rw [q]; rfl))
          by_cases hv : (x0 : Int32) = 14
          · replace h := it_t hv h
            refine ax_tableIn (pc := 137) C 191 d_For_addNode_137 (by omega) (by omega) (by rw [hv]; rfl) (by decide) ?_
            refine ax_iload (pc := 191) C d_For_addNode_191 9 rfl ?_
            refine ax_iload (pc := 193) C d_For_addNode_193 11 rfl ?_
            refine ax_imul (pc := 195) C d_For_addNode_195 ?_
            refine ax_istore (pc := 196) C d_For_addNode_196 (Nat.le_of_ble_eq_true rfl) ([(10, .int ((x5 : Int32) * x7)), (11, .int x6), (9, .int x8), (0, .ref (u 14)), (1, .int x0), (2, .int x1), (3, .int x2), (4, .int x3), (5, .int x4), (6, .int x5), (7, .int x6), (8, .int x7)]) rfl ?_
            refine ax_iload (pc := 198) C d_For_addNode_198 10 rfl ?_
            refine ax_iload (pc := 200) C d_For_addNode_200 2 rfl ?_
            refine ax_iadd (pc := 202) C d_For_addNode_202 ?_
            refine ax_istore (pc := 203) C d_For_addNode_203 (Nat.le_of_ble_eq_true rfl) ([(11, .int ((x6 : Int32) + x8)), (10, .int ((x5 : Int32) * x7)), (9, .int x8), (0, .ref (u 14)), (1, .int x0), (2, .int x1), (3, .int x2), (4, .int x3), (5, .int x4), (6, .int x5), (7, .int x6), (8, .int x7)]) rfl ?_
            refine ax_goto (pc := 205) C 271 d_For_addNode_205 (by decide) ?_
            refine ax_ls ([(0, .ref (u 14)), (1, .int x0), (2, .int x1), (3, .int x2), (4, .int x3), (5, .int x4), (6, .int x5), (7, .int x6), (8, .int x7), (9, .int x8), (10, .int ((x5 : Int32) * x7)), (11, .int ((x6 : Int32) + x8))]) [3, 4, 5, 6, 7, 8, 9, 10, 11, 2, 1, 0] rfl ?_
            replace hm : sG_For_addNode_p271 l D kA u σ [x0, x1, x2, x3, x4, x5, x6, x7, x8, ((x5 : Int32) * x7), ((x6 : Int32) + x8)] (σf, rf, _) := ih tG_For_addNode_p271 _ _ _ h
            exact hm _ _ _ _ _ _ _ _ _ _ _ rfl w tx p e s m args below meth c F Lo mc ms cells slots σ0 w0 tx0 hF hLo hcq hsq hga C
          · replace h := it_f hv h
            have hn14 : ¬ (x0 : Int32).toInt = 14 := fun q => hv (i32q (by rw [q]; rfl))
            by_cases hv : (x0 : Int32) = 15
            · replace h := it_t hv h
              refine ax_tableIn (pc := 137) C 208 d_For_addNode_137 (by omega) (by omega) (by rw [hv]; rfl) (by decide) ?_
              refine ax_iload (pc := 208) C d_For_addNode_208 9 rfl ?_
              refine ax_iload (pc := 210) C d_For_addNode_210 11 rfl ?_
              refine ax_iadd (pc := 212) C d_For_addNode_212 ?_
              refine ax_istore (pc := 213) C d_For_addNode_213 (Nat.le_of_ble_eq_true rfl) ([(10, .int ((x5 : Int32) + x7)), (11, .int x6), (9, .int x8), (0, .ref (u 14)), (1, .int x0), (2, .int x1), (3, .int x2), (4, .int x3), (5, .int x4), (6, .int x5), (7, .int x6), (8, .int x7)]) rfl ?_
              refine ax_iload (pc := 215) C d_For_addNode_215 10 rfl ?_
              refine ax_iload (pc := 217) C d_For_addNode_217 2 rfl ?_
              refine ax_imul (pc := 219) C d_For_addNode_219 ?_
              refine ax_istore (pc := 220) C d_For_addNode_220 (Nat.le_of_ble_eq_true rfl) ([(11, .int ((x6 : Int32) * x8)), (10, .int ((x5 : Int32) + x7)), (9, .int x8), (0, .ref (u 14)), (1, .int x0), (2, .int x1), (3, .int x2), (4, .int x3), (5, .int x4), (6, .int x5), (7, .int x6), (8, .int x7)]) rfl ?_
              refine ax_goto (pc := 222) C 271 d_For_addNode_222 (by decide) ?_
              refine ax_ls ([(0, .ref (u 14)), (1, .int x0), (2, .int x1), (3, .int x2), (4, .int x3), (5, .int x4), (6, .int x5), (7, .int x6), (8, .int x7), (9, .int x8), (10, .int ((x5 : Int32) + x7)), (11, .int ((x6 : Int32) * x8))]) [3, 4, 5, 6, 7, 8, 9, 10, 11, 2, 1, 0] rfl ?_
              replace hm : sG_For_addNode_p271 l D kA u σ [x0, x1, x2, x3, x4, x5, x6, x7, x8, ((x5 : Int32) + x7), ((x6 : Int32) * x8)] (σf, rf, _) := ih tG_For_addNode_p271 _ _ _ h
              exact hm _ _ _ _ _ _ _ _ _ _ _ rfl w tx p e s m args below meth c F Lo mc ms cells slots σ0 w0 tx0 hF hLo hcq hsq hga C
            · replace h := it_f hv h
              have hn15 : ¬ (x0 : Int32).toInt = 15 := fun q => hv (i32q (by rw [q]; rfl))
              by_cases hv : (x0 : Int32) = 16
              · replace h := it_t hv h
                refine ax_tableIn (pc := 137) C 225 d_For_addNode_137 (by omega) (by omega) (by rw [hv]; rfl) (by decide) ?_
                refine ax_iload (pc := 225) C d_For_addNode_225 10 rfl ?_
                refine ax_iload (pc := 227) C d_For_addNode_227 11 rfl ?_
                refine ax_iadd (pc := 229) C d_For_addNode_229 ?_
                refine ax_istore (pc := 230) C d_For_addNode_230 (Nat.le_of_ble_eq_true rfl) ([(10, .int ((x6 : Int32) + x7)), (11, .int x6), (9, .int x8), (0, .ref (u 14)), (1, .int x0), (2, .int x1), (3, .int x2), (4, .int x3), (5, .int x4), (6, .int x5), (7, .int x6), (8, .int x7)]) rfl ?_
                refine ax_iload (pc := 232) C d_For_addNode_232 9 rfl ?_
                refine ax_iload (pc := 234) C d_For_addNode_234 2 rfl ?_
                refine ax_imul (pc := 236) C d_For_addNode_236 ?_
                refine ax_istore (pc := 237) C d_For_addNode_237 (Nat.le_of_ble_eq_true rfl) ([(11, .int ((x5 : Int32) * x8)), (10, .int ((x6 : Int32) + x7)), (9, .int x8), (0, .ref (u 14)), (1, .int x0), (2, .int x1), (3, .int x2), (4, .int x3), (5, .int x4), (6, .int x5), (7, .int x6), (8, .int x7)]) rfl ?_
                refine ax_goto (pc := 239) C 271 d_For_addNode_239 (by decide) ?_
                refine ax_ls ([(0, .ref (u 14)), (1, .int x0), (2, .int x1), (3, .int x2), (4, .int x3), (5, .int x4), (6, .int x5), (7, .int x6), (8, .int x7), (9, .int x8), (10, .int ((x6 : Int32) + x7)), (11, .int ((x5 : Int32) * x8))]) [3, 4, 5, 6, 7, 8, 9, 10, 11, 2, 1, 0] rfl ?_
                replace hm : sG_For_addNode_p271 l D kA u σ [x0, x1, x2, x3, x4, x5, x6, x7, x8, ((x6 : Int32) + x7), ((x5 : Int32) * x8)] (σf, rf, _) := ih tG_For_addNode_p271 _ _ _ h
                exact hm _ _ _ _ _ _ _ _ _ _ _ rfl w tx p e s m args below meth c F Lo mc ms cells slots σ0 w0 tx0 hF hLo hcq hsq hga C
              · replace h := it_f hv h
                have hn16 : ¬ (x0 : Int32).toInt = 16 := fun q => hv (i32q (by rw [q]; rfl))
                have hv : (x0 : Int32) = 17 := i32q (by have e9 : (17 : Int32).toInt = 17 := rfl; omega)
                refine ax_tableIn (pc := 137) C 242 d_For_addNode_137 (by omega) (by omega) (by rw [hv]; rfl) (by decide) ?_
                refine ax_iload (pc := 242) C d_For_addNode_242 10 rfl ?_
                refine ax_iload (pc := 244) C d_For_addNode_244 2 rfl ?_
                refine ax_imul (pc := 246) C d_For_addNode_246 ?_
                refine ax_iload (pc := 247) C d_For_addNode_247 9 rfl ?_
                refine ax_iload (pc := 249) C d_For_addNode_249 11 rfl ?_
                refine ax_imul (pc := 251) C d_For_addNode_251 ?_
                refine ax_iadd (pc := 252) C d_For_addNode_252 ?_
                refine ax_istore (pc := 253) C d_For_addNode_253 (Nat.le_of_ble_eq_true rfl) ([(10, .int ((((x6 : Int32) * x8) : Int32) + ((x5 : Int32) * x7))), (11, .int x6), (9, .int x8), (0, .ref (u 14)), (1, .int x0), (2, .int x1), (3, .int x2), (4, .int x3), (5, .int x4), (6, .int x5), (7, .int x6), (8, .int x7)]) rfl ?_
                refine ax_iload (pc := 255) C d_For_addNode_255 9 rfl ?_
                refine ax_iload (pc := 257) C d_For_addNode_257 2 rfl ?_
                refine ax_imul (pc := 259) C d_For_addNode_259 ?_
                refine ax_iload (pc := 260) C d_For_addNode_260 11 rfl ?_
                refine ax_iload (pc := 262) C d_For_addNode_262 10 rfl ?_
                refine ax_imul (pc := 264) C d_For_addNode_264 ?_
                refine ax_iadd (pc := 265) C d_For_addNode_265 ?_
                refine ax_istore (pc := 266) C d_For_addNode_266 (Nat.le_of_ble_eq_true rfl) ([(11, .int ((((x5 : Int32) * x8) : Int32) + ((x7 : Int32) * x6))), (10, .int ((((x6 : Int32) * x8) : Int32) + ((x5 : Int32) * x7))), (9, .int x8), (0, .ref (u 14)), (1, .int x0), (2, .int x1), (3, .int x2), (4, .int x3), (5, .int x4), (6, .int x5), (7, .int x6), (8, .int x7)]) rfl ?_
                refine ax_goto (pc := 268) C 271 d_For_addNode_268 (by decide) ?_
                refine ax_ls ([(0, .ref (u 14)), (1, .int x0), (2, .int x1), (3, .int x2), (4, .int x3), (5, .int x4), (6, .int x5), (7, .int x6), (8, .int x7), (9, .int x8), (10, .int ((((x6 : Int32) * x8) : Int32) + ((x5 : Int32) * x7))), (11, .int ((((x5 : Int32) * x8) : Int32) + ((x7 : Int32) * x6)))]) [3, 4, 5, 6, 7, 8, 9, 10, 11, 2, 1, 0] rfl ?_
                replace hm : sG_For_addNode_p271 l D kA u σ [x0, x1, x2, x3, x4, x5, x6, x7, x8, ((((x6 : Int32) * x8) : Int32) + ((x5 : Int32) * x7)), ((((x5 : Int32) * x8) : Int32) + ((x7 : Int32) * x6))] (σf, rf, _) := ih tG_For_addNode_p271 _ _ _ h
                exact hm _ _ _ _ _ _ _ _ _ _ _ rfl w tx p e s m args below meth c F Lo mc ms cells slots σ0 w0 tx0 hF hLo hcq hsq hga C
set_option maxHeartbeats 4000000 in
set_option maxRecDepth 100000 in
theorem oG_For_addNode_p271 (l : Launch) (D : va_G) (kA : Nat → ClassId) (u : Nat → Nat) (rec : mF) (hG : GM rec) (ihC : ∀ (w : Nat → Nat) (tx : Value) t σ xs res, rec t σ xs = some res → cSem l D kA u w tx t σ xs res) (ih : ∀ t σ xs res, rec t σ xs = some res → gSem l D kA u t σ xs res) (σ : mS) (xs : List Int32) (res : mR) (h : u_11 (kG_For_addNode_p271 rec σ) xs = some res) : sG_For_addNode_p271 l D kA u σ xs res := by
  intro x0 x1 x2 x3 x4 x5 x6 x7 x8 x9 x10 hxs w tx
  subst hxs
  obtain ⟨σf, rf, dd⟩ := res
  have hmn : gle σ σf := qG_For_addNode_p271 rec hG σ x0 x1 x2 x3 x4 x5 x6 x7 x8 x9 x10 _ h
  have h : (if x3 = (-1) then (rec tG_For_addNode_p293 σ [x0, x1, x2, x3, x4, x5, x6, x7, x8, x9, x10, 0]) else (if bin ((x3 : Int32) + 3) (σ.2.2 19) = true then (rec tG_For_addNode_p293 σ [x0, x1, x2, x3, x4, x5, x6, x7, x8, x9, x10, (σ.2.1 19 (Int32.toNatClampNeg ((x3 : Int32) + 3)))]) else none)) = some (σf, rf, dd) := h
  intro p e s m args below meth c F Lo mc ms cells slots σ0 w0 tx0 hF hLo hcq hsq hga C
  dsimp only at hF hLo hcq hsq ⊢
  have hcm : cells ≤ mc := by have := hmn.1; omega
  have hsm : slots ≤ ms := by have := hmn.2; omega
  have hle : True := trivial
  have hm : True := trivial
  refine ax_iload (pc := 271) C d_For_addNode_271 4 rfl ?_
  refine ax_iconst (pc := 273) C (-1) d_For_addNode_273 (by decide +kernel) ?_
  refine ax_icmp_ne (pc := 274) C 281 d_For_addNode_274 (by decide) (fun hc => ?_) (fun hc => ?_)
  · replace h := it_f hc h
    refine ax_aload_n (pc := 281) C d_For_addNode_281 rfl 0 rfl ?_
    refine cg_14_5_For_24 (pc := 282) C d_For_addNode_282 ?_
    refine cg_18_0_For_75 (pc := 285) C d_For_addNode_285 ?_
    refine ax_iload (pc := 288) C d_For_addNode_288 4 rfl ?_
    refine ax_iconst (pc := 290) C 3 d_For_addNode_290 (by decide +kernel) ?_
    refine ax_iadd (pc := 291) C d_For_addNode_291 ?_
    replace h := it_g h
    obtain ⟨hb, h⟩ := h
    refine cl_19 (pc := 292) C d_For_addNode_292 (bin_in hb) ?_
    refine ax_ls ([(0, .ref (u 14)), (1, .int x0), (2, .int x1), (3, .int x2), (4, .int x3), (5, .int x4), (6, .int x5), (7, .int x6), (8, .int x7), (9, .int x8), (10, .int x9), (11, .int x10)]) [0, 1, 2, 3, 4, 5, 6, 7, 8, 9, 10, 11] rfl ?_
    replace hm : sG_For_addNode_p293 l D kA u σ [x0, x1, x2, x3, x4, x5, x6, x7, x8, x9, x10, (σ.2.1 19 (Int32.toNatClampNeg ((x3 : Int32) + 3)))] (σf, rf, _) := ih tG_For_addNode_p293 _ _ _ h
    exact hm _ _ _ _ _ _ _ _ _ _ _ _ rfl w tx p e s m args below meth c F Lo mc ms cells slots σ0 w0 tx0 hF hLo hcq hsq hga C
  · replace h := it_t hc h
    refine ax_iconst (pc := 277) C 0 d_For_addNode_277 (by decide +kernel) ?_
    refine ax_goto (pc := 278) C 293 d_For_addNode_278 (by decide) ?_
    refine ax_ls ([(0, .ref (u 14)), (1, .int x0), (2, .int x1), (3, .int x2), (4, .int x3), (5, .int x4), (6, .int x5), (7, .int x6), (8, .int x7), (9, .int x8), (10, .int x9), (11, .int x10)]) [0, 1, 2, 3, 4, 5, 6, 7, 8, 9, 10, 11] rfl ?_
    replace hm : sG_For_addNode_p293 l D kA u σ [x0, x1, x2, x3, x4, x5, x6, x7, x8, x9, x10, 0] (σf, rf, _) := ih tG_For_addNode_p293 _ _ _ h
    exact hm _ _ _ _ _ _ _ _ _ _ _ _ rfl w tx p e s m args below meth c F Lo mc ms cells slots σ0 w0 tx0 hF hLo hcq hsq hga C
set_option maxHeartbeats 4000000 in
set_option maxRecDepth 100000 in
theorem oG_For_addNode_p293 (l : Launch) (D : va_G) (kA : Nat → ClassId) (u : Nat → Nat) (rec : mF) (hG : GM rec) (ihC : ∀ (w : Nat → Nat) (tx : Value) t σ xs res, rec t σ xs = some res → cSem l D kA u w tx t σ xs res) (ih : ∀ t σ xs res, rec t σ xs = some res → gSem l D kA u t σ xs res) (σ : mS) (xs : List Int32) (res : mR) (h : u_12 (kG_For_addNode_p293 rec σ) xs = some res) : sG_For_addNode_p293 l D kA u σ xs res := by
  intro x0 x1 x2 x3 x4 x5 x6 x7 x8 x9 x10 x11 hxs w tx
  subst hxs
  obtain ⟨σf, rf, dd⟩ := res
  have hmn : gle σ σf := qG_For_addNode_p293 rec hG σ x0 x1 x2 x3 x4 x5 x6 x7 x8 x9 x10 x11 _ h
  have h : (if x4 = (-1) then (rec tG_For_addNode_p315 σ [x0, x1, x2, x3, x4, x5, x6, x7, x8, x9, x10, 0, x11]) else (if bin ((x4 : Int32) + 3) (σ.2.2 19) = true then (rec tG_For_addNode_p315 σ [x0, x1, x2, x3, x4, x5, x6, x7, x8, x9, x10, (σ.2.1 19 (Int32.toNatClampNeg ((x4 : Int32) + 3))), x11]) else none)) = some (σf, rf, dd) := h
  intro p e s m args below meth c F Lo mc ms cells slots σ0 w0 tx0 hF hLo hcq hsq hga C
  dsimp only at hF hLo hcq hsq ⊢
  have hcm : cells ≤ mc := by have := hmn.1; omega
  have hsm : slots ≤ ms := by have := hmn.2; omega
  have hle : True := trivial
  have hm : True := trivial
  refine ax_iload (pc := 293) C d_For_addNode_293 5 rfl ?_
  refine ax_iconst (pc := 295) C (-1) d_For_addNode_295 (by decide +kernel) ?_
  refine ax_icmp_ne (pc := 296) C 303 d_For_addNode_296 (by decide) (fun hc => ?_) (fun hc => ?_)
  · replace h := it_f hc h
    refine ax_aload_n (pc := 303) C d_For_addNode_303 rfl 0 rfl ?_
    refine cg_14_5_For_24 (pc := 304) C d_For_addNode_304 ?_
    refine cg_18_0_For_75 (pc := 307) C d_For_addNode_307 ?_
    refine ax_iload (pc := 310) C d_For_addNode_310 5 rfl ?_
    refine ax_iconst (pc := 312) C 3 d_For_addNode_312 (by decide +kernel) ?_
    refine ax_iadd (pc := 313) C d_For_addNode_313 ?_
    replace h := it_g h
    obtain ⟨hb, h⟩ := h
    refine cl_19 (pc := 314) C d_For_addNode_314 (bin_in hb) ?_
    refine ax_ls ([(0, .ref (u 14)), (1, .int x0), (2, .int x1), (3, .int x2), (4, .int x3), (5, .int x4), (6, .int x5), (7, .int x6), (8, .int x7), (9, .int x8), (10, .int x9), (11, .int x10)]) [0, 1, 2, 3, 4, 5, 6, 7, 8, 9, 10, 11] rfl ?_
    replace hm : sG_For_addNode_p315 l D kA u σ [x0, x1, x2, x3, x4, x5, x6, x7, x8, x9, x10, (σ.2.1 19 (Int32.toNatClampNeg ((x4 : Int32) + 3))), x11] (σf, rf, _) := ih tG_For_addNode_p315 _ _ _ h
    exact hm _ _ _ _ _ _ _ _ _ _ _ _ _ rfl w tx p e s m args below meth c F Lo mc ms cells slots σ0 w0 tx0 hF hLo hcq hsq hga C
  · replace h := it_t hc h
    refine ax_iconst (pc := 299) C 0 d_For_addNode_299 (by decide +kernel) ?_
    refine ax_goto (pc := 300) C 315 d_For_addNode_300 (by decide) ?_
    refine ax_ls ([(0, .ref (u 14)), (1, .int x0), (2, .int x1), (3, .int x2), (4, .int x3), (5, .int x4), (6, .int x5), (7, .int x6), (8, .int x7), (9, .int x8), (10, .int x9), (11, .int x10)]) [0, 1, 2, 3, 4, 5, 6, 7, 8, 9, 10, 11] rfl ?_
    replace hm : sG_For_addNode_p315 l D kA u σ [x0, x1, x2, x3, x4, x5, x6, x7, x8, x9, x10, 0, x11] (σf, rf, _) := ih tG_For_addNode_p315 _ _ _ h
    exact hm _ _ _ _ _ _ _ _ _ _ _ _ _ rfl w tx p e s m args below meth c F Lo mc ms cells slots σ0 w0 tx0 hF hLo hcq hsq hga C
set_option maxHeartbeats 4000000 in
set_option maxRecDepth 100000 in
theorem oG_For_addNode_p315 (l : Launch) (D : va_G) (kA : Nat → ClassId) (u : Nat → Nat) (rec : mF) (hG : GM rec) (ihC : ∀ (w : Nat → Nat) (tx : Value) t σ xs res, rec t σ xs = some res → cSem l D kA u w tx t σ xs res) (ih : ∀ t σ xs res, rec t σ xs = some res → gSem l D kA u t σ xs res) (σ : mS) (xs : List Int32) (res : mR) (h : u_13 (kG_For_addNode_p315 rec σ) xs = some res) : sG_For_addNode_p315 l D kA u σ xs res := by
  intro x0 x1 x2 x3 x4 x5 x6 x7 x8 x9 x10 x11 x12 hxs w tx
  subst hxs
  obtain ⟨σf, rf, dd⟩ := res
  have hmn : gle σ σf := qG_For_addNode_p315 rec hG σ x0 x1 x2 x3 x4 x5 x6 x7 x8 x9 x10 x11 x12 _ h
  have h : (if rok σ 1801 19 = true then (lt_ (rAdd σ 1801 19 x0) (fun σ1 => if rok σ1 1801 19 = true then (lt_ (rAdd σ1 1801 19 x1) (fun σ2 => if rok σ2 1801 19 = true then (lt_ (rAdd σ2 1801 19 x2) (fun σ3 => if rok σ3 1801 19 = true then (lt_ (rAdd σ3 1801 19 (((if x12 < x11 then x11 else x12) : Int32) + 1)) (fun σ4 => if rok σ4 1801 19 = true then (lt_ (rAdd σ4 1801 19 (if 201 < x9 then 201 else x9)) (fun σ5 => if rok σ5 1801 19 = true then (lt_ (rAdd σ5 1801 19 (if 201 < x10 then 201 else x10)) (fun σ6 => if rok σ6 1801 19 = true then (lt_ (rAdd σ6 1801 19 0) (fun σ7 => if (7 : Int32) = 0 then none else (some (σ7, ((((σ7.1 1801) / 7) : Int32) - 1), 0)))) else none)) else none)) else none)) else none)) else none)) else none)) else none) = some (σf, rf, dd) := h
  intro p e s m args below meth c F Lo mc ms cells slots σ0 w0 tx0 hF hLo hcq hsq hga C
  dsimp only at hF hLo hcq hsq ⊢
  have hcm : cells ≤ mc := by have := hmn.1; omega
  have hsm : slots ≤ ms := by have := hmn.2; omega
  have hle : True := trivial
  have hm : True := trivial
  refine gx_max (pc := 315) C tb_methodLink_700 tb_static_701 tb_initialized_19 tcm_max d_For_addNode_315 hF hcm hsm (Nat.le_of_ble_eq_true rfl) ?_
  refine ax_istore (pc := 318) C d_For_addNode_318 (Nat.le_of_ble_eq_true rfl) ([(12, .int (if x12 < x11 then x11 else x12)), (0, .ref (u 14)), (1, .int x0), (2, .int x1), (3, .int x2), (4, .int x3), (5, .int x4), (6, .int x5), (7, .int x6), (8, .int x7), (9, .int x8), (10, .int x9), (11, .int x10)]) rfl ?_
  refine ax_aload_n (pc := 320) C d_For_addNode_320 rfl 1 rfl ?_
  refine cg_14_5_For_24 (pc := 321) C d_For_addNode_321 ?_
  refine ax_iload_n (pc := 324) C d_For_addNode_324 rfl 2 rfl ?_
  replace h := it_g h
  obtain ⟨hb, h⟩ := h
  replace h := it_l h
  replace hle := rAdd_le σ 1801 19 x0
  replace hmn : gle (rAdd σ 1801 19 x0) σf := gm_use h (gm_if (gm_lt (rAdd_le _ _ _ _) (gm_if (gm_lt (rAdd_le _ _ _ _) (gm_if (gm_lt (rAdd_le _ _ _ _) (gm_if (gm_lt (rAdd_le _ _ _ _) (gm_if (gm_lt (rAdd_le _ _ _ _) (gm_if (gm_lt (rAdd_le _ _ _ _) (gm_if gm_none gm_some)) gm_none)) gm_none)) gm_none)) gm_none)) gm_none)) gm_none)
  refine ca_18 (pc := 325) C (rest := []) ml_For_72 d_For_addNode_325 hb hF hLo (by have := hmn.1; have := hle.1; omega) (by have := hmn.2; have := hle.2; omega) (Nat.le_of_ble_eq_true rfl) (fun w1 hag1 => ?_)
  generalize rAdd σ 1801 19 x0 = σ1 at h hmn hle ⊢
  have hga1 : ∀ i, ([19] : List Nat).elem i = false → w1 i = w0 i := fun i hi => (hag1 i (by revert hi; exact el_sub (by decide))).trans (hga i hi)
  replace hcq : (cells + (σ1.2.2 3001 - σ.2.2 3001)) + σf.2.2 3001 ≤ mc + σ1.2.2 3001 := by have := hmn.1; have := hle.1; omega
  replace hcm : (cells + (σ1.2.2 3001 - σ.2.2 3001)) ≤ mc := by have := hmn.1; have := hle.1; omega
  generalize cells + (σ1.2.2 3001 - σ.2.2 3001) = cells at hcq hcm ⊢
  replace hsq : (slots + (σ1.2.2 3002 - σ.2.2 3002)) + σf.2.2 3002 ≤ ms + σ1.2.2 3002 := by have := hmn.2; have := hle.2; omega
  replace hsm : (slots + (σ1.2.2 3002 - σ.2.2 3002)) ≤ ms := by have := hmn.2; have := hle.2; omega
  generalize slots + (σ1.2.2 3002 - σ.2.2 3002) = slots at hsq hsm ⊢
  refine ax_aload_n (pc := 328) C d_For_addNode_328 rfl 1 rfl ?_
  refine cg_14_5_For_24 (pc := 329) C d_For_addNode_329 ?_
  refine ax_iload_n (pc := 332) C d_For_addNode_332 rfl 3 rfl ?_
  replace h := it_g h
  obtain ⟨hb, h⟩ := h
  replace h := it_l h
  replace hle := rAdd_le σ1 1801 19 x1
  replace hmn : gle (rAdd σ1 1801 19 x1) σf := gm_use h (gm_if (gm_lt (rAdd_le _ _ _ _) (gm_if (gm_lt (rAdd_le _ _ _ _) (gm_if (gm_lt (rAdd_le _ _ _ _) (gm_if (gm_lt (rAdd_le _ _ _ _) (gm_if (gm_lt (rAdd_le _ _ _ _) (gm_if gm_none gm_some)) gm_none)) gm_none)) gm_none)) gm_none)) gm_none)
  refine ca_18 (pc := 333) C (rest := []) ml_For_72 d_For_addNode_333 hb hF hLo (by have := hmn.1; have := hle.1; omega) (by have := hmn.2; have := hle.2; omega) (Nat.le_of_ble_eq_true rfl) (fun w2 hag2 => ?_)
  generalize rAdd σ1 1801 19 x1 = σ2 at h hmn hle ⊢
  have hga2 : ∀ i, ([19] : List Nat).elem i = false → w2 i = w0 i := fun i hi => (hag2 i (by revert hi; exact el_sub (by decide))).trans (hga1 i hi)
  replace hcq : (cells + (σ2.2.2 3001 - σ1.2.2 3001)) + σf.2.2 3001 ≤ mc + σ2.2.2 3001 := by have := hmn.1; have := hle.1; omega
  replace hcm : (cells + (σ2.2.2 3001 - σ1.2.2 3001)) ≤ mc := by have := hmn.1; have := hle.1; omega
  generalize cells + (σ2.2.2 3001 - σ1.2.2 3001) = cells at hcq hcm ⊢
  replace hsq : (slots + (σ2.2.2 3002 - σ1.2.2 3002)) + σf.2.2 3002 ≤ ms + σ2.2.2 3002 := by have := hmn.2; have := hle.2; omega
  replace hsm : (slots + (σ2.2.2 3002 - σ1.2.2 3002)) ≤ ms := by have := hmn.2; have := hle.2; omega
  generalize slots + (σ2.2.2 3002 - σ1.2.2 3002) = slots at hsq hsm ⊢
  refine ax_aload_n (pc := 336) C d_For_addNode_336 rfl 1 rfl ?_
  refine cg_14_5_For_24 (pc := 337) C d_For_addNode_337 ?_
  refine ax_iload_n (pc := 340) C d_For_addNode_340 rfl 4 rfl ?_
  replace h := it_g h
  obtain ⟨hb, h⟩ := h
  replace h := it_l h
  replace hle := rAdd_le σ2 1801 19 x2
  replace hmn : gle (rAdd σ2 1801 19 x2) σf := gm_use h (gm_if (gm_lt (rAdd_le _ _ _ _) (gm_if (gm_lt (rAdd_le _ _ _ _) (gm_if (gm_lt (rAdd_le _ _ _ _) (gm_if (gm_lt (rAdd_le _ _ _ _) (gm_if gm_none gm_some)) gm_none)) gm_none)) gm_none)) gm_none)
  refine ca_18 (pc := 341) C (rest := []) ml_For_72 d_For_addNode_341 hb hF hLo (by have := hmn.1; have := hle.1; omega) (by have := hmn.2; have := hle.2; omega) (Nat.le_of_ble_eq_true rfl) (fun w3 hag3 => ?_)
  generalize rAdd σ2 1801 19 x2 = σ3 at h hmn hle ⊢
  have hga3 : ∀ i, ([19] : List Nat).elem i = false → w3 i = w0 i := fun i hi => (hag3 i (by revert hi; exact el_sub (by decide))).trans (hga2 i hi)
  replace hcq : (cells + (σ3.2.2 3001 - σ2.2.2 3001)) + σf.2.2 3001 ≤ mc + σ3.2.2 3001 := by have := hmn.1; have := hle.1; omega
  replace hcm : (cells + (σ3.2.2 3001 - σ2.2.2 3001)) ≤ mc := by have := hmn.1; have := hle.1; omega
  generalize cells + (σ3.2.2 3001 - σ2.2.2 3001) = cells at hcq hcm ⊢
  replace hsq : (slots + (σ3.2.2 3002 - σ2.2.2 3002)) + σf.2.2 3002 ≤ ms + σ3.2.2 3002 := by have := hmn.2; have := hle.2; omega
  replace hsm : (slots + (σ3.2.2 3002 - σ2.2.2 3002)) ≤ ms := by have := hmn.2; have := hle.2; omega
  generalize slots + (σ3.2.2 3002 - σ2.2.2 3002) = slots at hsq hsm ⊢
  refine ax_aload_n (pc := 344) C d_For_addNode_344 rfl 1 rfl ?_
  refine cg_14_5_For_24 (pc := 345) C d_For_addNode_345 ?_
  refine ax_iload (pc := 348) C d_For_addNode_348 0 rfl ?_
  refine ax_iconst (pc := 350) C 1 d_For_addNode_350 (by decide +kernel) ?_
  refine ax_iadd (pc := 351) C d_For_addNode_351 ?_
  replace h := it_g h
  obtain ⟨hb, h⟩ := h
  replace h := it_l h
  replace hle := rAdd_le σ3 1801 19 (((if x12 < x11 then x11 else x12) : Int32) + 1)
  replace hmn : gle (rAdd σ3 1801 19 (((if x12 < x11 then x11 else x12) : Int32) + 1)) σf := gm_use h (gm_if (gm_lt (rAdd_le _ _ _ _) (gm_if (gm_lt (rAdd_le _ _ _ _) (gm_if (gm_lt (rAdd_le _ _ _ _) (gm_if gm_none gm_some)) gm_none)) gm_none)) gm_none)
  refine ca_18 (pc := 352) C (rest := []) ml_For_72 d_For_addNode_352 hb hF hLo (by have := hmn.1; have := hle.1; omega) (by have := hmn.2; have := hle.2; omega) (Nat.le_of_ble_eq_true rfl) (fun w4 hag4 => ?_)
  generalize rAdd σ3 1801 19 (((if x12 < x11 then x11 else x12) : Int32) + 1) = σ4 at h hmn hle ⊢
  have hga4 : ∀ i, ([19] : List Nat).elem i = false → w4 i = w0 i := fun i hi => (hag4 i (by revert hi; exact el_sub (by decide))).trans (hga3 i hi)
  replace hcq : (cells + (σ4.2.2 3001 - σ3.2.2 3001)) + σf.2.2 3001 ≤ mc + σ4.2.2 3001 := by have := hmn.1; have := hle.1; omega
  replace hcm : (cells + (σ4.2.2 3001 - σ3.2.2 3001)) ≤ mc := by have := hmn.1; have := hle.1; omega
  generalize cells + (σ4.2.2 3001 - σ3.2.2 3001) = cells at hcq hcm ⊢
  replace hsq : (slots + (σ4.2.2 3002 - σ3.2.2 3002)) + σf.2.2 3002 ≤ ms + σ4.2.2 3002 := by have := hmn.2; have := hle.2; omega
  replace hsm : (slots + (σ4.2.2 3002 - σ3.2.2 3002)) ≤ ms := by have := hmn.2; have := hle.2; omega
  generalize slots + (σ4.2.2 3002 - σ3.2.2 3002) = slots at hsq hsm ⊢
  refine ax_aload_n (pc := 355) C d_For_addNode_355 rfl 1 rfl ?_
  refine cg_14_5_For_24 (pc := 356) C d_For_addNode_356 ?_
  refine ax_iload (pc := 359) C d_For_addNode_359 11 rfl ?_
  refine ax_sipush (pc := 361) C 201 d_For_addNode_361 (by decide +kernel) ?_
  refine gx_min (pc := 364) C tb_methodLink_703 tb_static_612 tb_initialized_19 tcm_min d_For_addNode_364 hF hcm hsm (Nat.le_of_ble_eq_true rfl) ?_
  replace h := it_g h
  obtain ⟨hb, h⟩ := h
  replace h := it_l h
  replace hle := rAdd_le σ4 1801 19 (if 201 < x9 then 201 else x9)
  replace hmn : gle (rAdd σ4 1801 19 (if 201 < x9 then 201 else x9)) σf := gm_use h (gm_if (gm_lt (rAdd_le _ _ _ _) (gm_if (gm_lt (rAdd_le _ _ _ _) (gm_if gm_none gm_some)) gm_none)) gm_none)
  refine ca_18 (pc := 367) C (rest := []) ml_For_72 d_For_addNode_367 hb hF hLo (by have := hmn.1; have := hle.1; omega) (by have := hmn.2; have := hle.2; omega) (Nat.le_of_ble_eq_true rfl) (fun w5 hag5 => ?_)
  generalize rAdd σ4 1801 19 (if 201 < x9 then 201 else x9) = σ5 at h hmn hle ⊢
  have hga5 : ∀ i, ([19] : List Nat).elem i = false → w5 i = w0 i := fun i hi => (hag5 i (by revert hi; exact el_sub (by decide))).trans (hga4 i hi)
  replace hcq : (cells + (σ5.2.2 3001 - σ4.2.2 3001)) + σf.2.2 3001 ≤ mc + σ5.2.2 3001 := by have := hmn.1; have := hle.1; omega
  replace hcm : (cells + (σ5.2.2 3001 - σ4.2.2 3001)) ≤ mc := by have := hmn.1; have := hle.1; omega
  generalize cells + (σ5.2.2 3001 - σ4.2.2 3001) = cells at hcq hcm ⊢
  replace hsq : (slots + (σ5.2.2 3002 - σ4.2.2 3002)) + σf.2.2 3002 ≤ ms + σ5.2.2 3002 := by have := hmn.2; have := hle.2; omega
  replace hsm : (slots + (σ5.2.2 3002 - σ4.2.2 3002)) ≤ ms := by have := hmn.2; have := hle.2; omega
  generalize slots + (σ5.2.2 3002 - σ4.2.2 3002) = slots at hsq hsm ⊢
  refine ax_aload_n (pc := 370) C d_For_addNode_370 rfl 1 rfl ?_
  refine cg_14_5_For_24 (pc := 371) C d_For_addNode_371 ?_
  refine ax_iload (pc := 374) C d_For_addNode_374 12 rfl ?_
  refine ax_sipush (pc := 376) C 201 d_For_addNode_376 (by decide +kernel) ?_
  refine gx_min (pc := 379) C tb_methodLink_703 tb_static_612 tb_initialized_19 tcm_min d_For_addNode_379 hF hcm hsm (Nat.le_of_ble_eq_true rfl) ?_
  replace h := it_g h
  obtain ⟨hb, h⟩ := h
  replace h := it_l h
  replace hle := rAdd_le σ5 1801 19 (if 201 < x10 then 201 else x10)
  replace hmn : gle (rAdd σ5 1801 19 (if 201 < x10 then 201 else x10)) σf := gm_use h (gm_if (gm_lt (rAdd_le _ _ _ _) (gm_if gm_none gm_some)) gm_none)
  refine ca_18 (pc := 382) C (rest := []) ml_For_72 d_For_addNode_382 hb hF hLo (by have := hmn.1; have := hle.1; omega) (by have := hmn.2; have := hle.2; omega) (Nat.le_of_ble_eq_true rfl) (fun w6 hag6 => ?_)
  generalize rAdd σ5 1801 19 (if 201 < x10 then 201 else x10) = σ6 at h hmn hle ⊢
  have hga6 : ∀ i, ([19] : List Nat).elem i = false → w6 i = w0 i := fun i hi => (hag6 i (by revert hi; exact el_sub (by decide))).trans (hga5 i hi)
  replace hcq : (cells + (σ6.2.2 3001 - σ5.2.2 3001)) + σf.2.2 3001 ≤ mc + σ6.2.2 3001 := by have := hmn.1; have := hle.1; omega
  replace hcm : (cells + (σ6.2.2 3001 - σ5.2.2 3001)) ≤ mc := by have := hmn.1; have := hle.1; omega
  generalize cells + (σ6.2.2 3001 - σ5.2.2 3001) = cells at hcq hcm ⊢
  replace hsq : (slots + (σ6.2.2 3002 - σ5.2.2 3002)) + σf.2.2 3002 ≤ ms + σ6.2.2 3002 := by have := hmn.2; have := hle.2; omega
  replace hsm : (slots + (σ6.2.2 3002 - σ5.2.2 3002)) ≤ ms := by have := hmn.2; have := hle.2; omega
  generalize slots + (σ6.2.2 3002 - σ5.2.2 3002) = slots at hsq hsm ⊢
  refine ax_aload_n (pc := 385) C d_For_addNode_385 rfl 1 rfl ?_
  refine cg_14_5_For_24 (pc := 386) C d_For_addNode_386 ?_
  refine ax_iconst (pc := 389) C 0 d_For_addNode_389 (by decide +kernel) ?_
  replace h := it_g h
  obtain ⟨hb, h⟩ := h
  replace h := it_l h
  replace hle := rAdd_le σ6 1801 19 0
  replace hmn : gle (rAdd σ6 1801 19 0) σf := gm_use h (gm_if gm_none gm_some)
  refine ca_18 (pc := 390) C (rest := []) ml_For_72 d_For_addNode_390 hb hF hLo (by have := hmn.1; have := hle.1; omega) (by have := hmn.2; have := hle.2; omega) (Nat.le_of_ble_eq_true rfl) (fun w7 hag7 => ?_)
  generalize rAdd σ6 1801 19 0 = σ7 at h hmn hle ⊢
  have hga7 : ∀ i, ([19] : List Nat).elem i = false → w7 i = w0 i := fun i hi => (hag7 i (by revert hi; exact el_sub (by decide))).trans (hga6 i hi)
  replace hcq : (cells + (σ7.2.2 3001 - σ6.2.2 3001)) + σf.2.2 3001 ≤ mc + σ7.2.2 3001 := by have := hmn.1; have := hle.1; omega
  replace hcm : (cells + (σ7.2.2 3001 - σ6.2.2 3001)) ≤ mc := by have := hmn.1; have := hle.1; omega
  generalize cells + (σ7.2.2 3001 - σ6.2.2 3001) = cells at hcq hcm ⊢
  replace hsq : (slots + (σ7.2.2 3002 - σ6.2.2 3002)) + σf.2.2 3002 ≤ ms + σ7.2.2 3002 := by have := hmn.2; have := hle.2; omega
  replace hsm : (slots + (σ7.2.2 3002 - σ6.2.2 3002)) ≤ ms := by have := hmn.2; have := hle.2; omega
  generalize slots + (σ7.2.2 3002 - σ6.2.2 3002) = slots at hsq hsm ⊢
  refine ax_aload_n (pc := 393) C d_For_addNode_393 rfl 1 rfl ?_
  refine cg_14_5_For_24 (pc := 394) C d_For_addNode_394 ?_
  refine cg_18_1_For_59 (pc := 397) C d_For_addNode_397 ?_
  refine ax_bipush (pc := 400) C 7 d_For_addNode_400 (by decide +kernel) ?_
  replace h := it_n h
  obtain ⟨hz, h⟩ := h
  refine ax_idiv (pc := 402) C d_For_addNode_402 hz ?_
  refine ax_iconst (pc := 403) C 1 d_For_addNode_403 (by decide +kernel) ?_
  refine ax_isub (pc := 404) C d_For_addNode_404 ?_
  cases h
  exact ax_iret (pc := 405) C d_For_addNode_405 ⟨rfl, w7, tx, hga7, rfl, rfl⟩ hcm hsm
set_option maxHeartbeats 4000000 in
set_option maxRecDepth 100000 in
theorem oG_For_equivalent (l : Launch) (D : va_G) (kA : Nat → ClassId) (u : Nat → Nat) (rec : mF) (hG : GM rec) (ihC : ∀ (w : Nat → Nat) (tx : Value) t σ xs res, rec t σ xs = some res → cSem l D kA u w tx t σ xs res) (ih : ∀ t σ xs res, rec t σ xs = some res → gSem l D kA u t σ xs res) (σ : mS) (xs : List Int32) (res : mR) (h : u_4 (kG_For_equivalent rec σ) xs = some res) : sG_For_equivalent l D kA u σ xs res := by
  intro x0 x1 x2 x3 hxs w tx
  subst hxs
  obtain ⟨σf, rf, dd⟩ := res
  have hmn : gle σ σf := qG_For_equivalent rec hG σ x0 x1 x2 x3 _ h
  have h : (if x2 = 0 then (rec tG_For_equivalent_p11 σ [x0, x1, x2, x3, 1, x0]) else (rec tG_For_equivalent_p11 σ [x0, x1, x2, x3, 0, x0])) = some (σf, rf, dd) := h
  refine ax_Mv.of (by decide +kernel) (Nat.le_of_ble_eq_true rfl) ?_
  intro p e s m args below meth c C hnm
  replace C : ax_C p s m args meth c b_For_equivalent "ClauseProver$Formulas" 6 none D kA (va_A (cpW kA u w tx σ) s.heap.size) := C
  obtain ⟨F, hFe⟩ : ∃ z, z = dd + 3 := ⟨_, rfl⟩
  obtain ⟨Lo, hLoe⟩ : ∃ z, z = 48 * dd + 144 := ⟨_, rfl⟩
  obtain ⟨mc, hmce⟩ : ∃ z, z = σf.2.2 3001 - σ.2.2 3001 := ⟨_, rfl⟩
  obtain ⟨ms, hmse⟩ : ∃ z, z = σf.2.2 3002 - σ.2.2 3002 := ⟨_, rfl⟩
  obtain ⟨σ0, hσ0e⟩ : ∃ z, z = σ := ⟨_, rfl⟩
  obtain ⟨w0, hw0e⟩ : ∃ z, z = w := ⟨_, rfl⟩
  obtain ⟨tx0, htx0e⟩ : ∃ z, z = tx := ⟨_, rfl⟩
  suffices K : ∀ (cells slots : Nat), cells = 0 → slots = 0 → AW p l e { frames := F, cells := mc, slots := ms, locals := Lo } s m args below meth c D kA (va_A (cpW kA u w0 tx0 σ0) s.heap.size) 6 (ax_Qv below args s D kA (cpW kA u w0 tx0 σ0) mc ms (fun w1 => ∃ (w2 : Nat → Nat) (tx2 : Value), (∀ i, ([30] : List Nat).elem i = false → w2 i = w0 i) ∧ tx2 = tx0 ∧ w1 = cpW kA u w2 tx2 σf)) 0 [(0, .ref (u 14)), (1, .int x0), (2, .int x1), (3, .int x2), (4, .int x3)] [] (cpW kA u w tx σ) cells slots by
    have K := K 0 0 rfl rfl
    rw [hFe, hLoe, hmce, hmse, hσ0e, hw0e, htx0e] at K
    exact ax_ls ([(0, .ref (u 14)), (1, .int x0), (2, .int x1), (3, .int x2), (4, .int x3)]) [0, 1, 2, 3, 4] rfl K
  replace C : ax_C p s m args meth c b_For_equivalent "ClauseProver$Formulas" 6 none D kA (va_A (cpW kA u w0 tx0 σ0) s.heap.size) := by rw [hσ0e, hw0e, htx0e]; exact C
  intro cells slots hc0 hs0
  have hcq : cells + σf.2.2 3001 ≤ mc + σ.2.2 3001 := by have := hmn.1; omega
  have hsq : slots + σf.2.2 3002 ≤ ms + σ.2.2 3002 := by have := hmn.2; omega
  have hga : ∀ i, ([30] : List Nat).elem i = false → w i = w0 i := fun i _ => by rw [hw0e]
  have e9 : tx = tx0 := htx0e.symm
  subst e9
  have hF : dd + 3 ≤ F := by omega
  have hLo : 48 * dd + 144 ≤ Lo := by omega
  have hcm : cells ≤ mc := by have := hmn.1; omega
  have hsm : slots ≤ ms := by have := hmn.2; omega
  have hle : True := trivial
  have hm : True := trivial
  refine ax_aload_n (pc := 0) C d_For_equivalent_0 rfl 0 rfl ?_
  refine ax_iload_n (pc := 1) C d_For_equivalent_1 rfl 1 rfl ?_
  refine ax_iload_n (pc := 2) C d_For_equivalent_2 rfl 3 rfl ?_
  refine ax_if_ne (pc := 3) C 10 d_For_equivalent_3 (by decide) (fun hc => ?_) (fun hc => ?_)
  · replace h := it_f hc h
    refine ax_iconst (pc := 10) C 0 d_For_equivalent_10 (by decide +kernel) ?_
    refine ax_ls ([(0, .ref (u 14)), (1, .int x0), (2, .int x1), (3, .int x2), (4, .int x3)]) [0, 1, 2, 3, 4] rfl ?_
    replace hm : sG_For_equivalent_p11 l D kA u σ [x0, x1, x2, x3, 0, x0] (σf, rf, _) := ih tG_For_equivalent_p11 _ _ _ h
    exact hm _ _ _ _ _ _ rfl w tx p e s m args below meth c F Lo mc ms cells slots σ0 w0 tx hF hLo hcq hsq hga C
  · replace h := it_t hc h
    refine ax_iconst (pc := 6) C 1 d_For_equivalent_6 (by decide +kernel) ?_
    refine ax_goto (pc := 7) C 11 d_For_equivalent_7 (by decide) ?_
    refine ax_ls ([(0, .ref (u 14)), (1, .int x0), (2, .int x1), (3, .int x2), (4, .int x3)]) [0, 1, 2, 3, 4] rfl ?_
    replace hm : sG_For_equivalent_p11 l D kA u σ [x0, x1, x2, x3, 1, x0] (σf, rf, _) := ih tG_For_equivalent_p11 _ _ _ h
    exact hm _ _ _ _ _ _ rfl w tx p e s m args below meth c F Lo mc ms cells slots σ0 w0 tx hF hLo hcq hsq hga C
set_option maxHeartbeats 4000000 in
set_option maxRecDepth 100000 in
theorem oG_For_equivalent_p11 (l : Launch) (D : va_G) (kA : Nat → ClassId) (u : Nat → Nat) (rec : mF) (hG : GM rec) (ihC : ∀ (w : Nat → Nat) (tx : Value) t σ xs res, rec t σ xs = some res → cSem l D kA u w tx t σ xs res) (ih : ∀ t σ xs res, rec t σ xs = some res → gSem l D kA u t σ xs res) (σ : mS) (xs : List Int32) (res : mR) (h : u_6 (kG_For_equivalent_p11 rec σ) xs = some res) : sG_For_equivalent_p11 l D kA u σ xs res := by
  intro x0 x1 x2 x3 x4 x5 hxs w tx
  subst hxs
  obtain ⟨σf, rf, dd⟩ := res
  have hmn : gle σ σf := qG_For_equivalent_p11 rec hG σ x0 x1 x2 x3 x4 x5 _ h
  have h : (bnd (rec tC_For_clausesOf σ [x5, x4]) (fun σ1 r1 => bnd (rec tC_For_clausesOf σ1 [x1, 1]) (fun σ2 r2 => if ((r1 : Int32) * r2) ≤ x3 then (if x2 = 0 then (bnd (rec tG_For_joined σ2 [0, x0, 0, x1, 0, ((x3 : Int32) - ((r1 : Int32) * r2))]) (fun σ3 r3 => rec tG_For_equivalent_p87 σ3 [x0, x1, x2, x3, ((r1 : Int32) * r2)])) else (bnd (rec tG_For_joined σ2 [0, x1, 0, x0, 1, ((x3 : Int32) - ((r1 : Int32) * r2))]) (fun σ4 r4 => rec tG_For_equivalent_p87 σ4 [x0, x1, x2, x3, ((r1 : Int32) * r2)]))) else (if x2 = 0 then (rec tG_For_equivalent_p42 σ2 [x0, x1, x2, x3, ((r1 : Int32) * r2), 1, x0, 0]) else (rec tG_For_equivalent_p42 σ2 [x0, x1, x2, x3, ((r1 : Int32) * r2), 0, x0, 0]))))) = some (σf, rf, dd) := h
  intro p e s m args below meth c F Lo mc ms cells slots σ0 w0 tx0 hF hLo hcq hsq hga C
  dsimp only at hF hLo hcq hsq ⊢
  have hcm : cells ≤ mc := by have := hmn.1; omega
  have hsm : slots ≤ ms := by have := hmn.2; omega
  have hle : True := trivial
  have hm : True := trivial
  replace h := it_b h
  obtain ⟨σ1, r1, d1_1, d2_1, h1, h, hd2, hd1⟩ := h
  replace hle := hG _ _ _ _ (by decide) h1
  dsimp only at hle
  replace hmn : gle σ1 σf := gm_use h (gm_bnd hG (Nat.le_of_ble_eq_true rfl) (fun _ _ => (gm_if (gm_if (gm_bnd hG (Nat.le_of_ble_eq_true rfl) (fun _ _ => (gm_tail hG (Nat.le_of_ble_eq_true rfl)))) (gm_bnd hG (Nat.le_of_ble_eq_true rfl) (fun _ _ => (gm_tail hG (Nat.le_of_ble_eq_true rfl))))) (gm_if (gm_tail hG (Nat.le_of_ble_eq_true rfl)) (gm_tail hG (Nat.le_of_ble_eq_true rfl))))))
  replace hm : sC_For_clausesOf l D kA u w tx σ [x5, x4] (σ1, r1, d1_1) := ihC _ _ tC_For_clausesOf _ _ _ h1
  refine cc_Vi (pc := 11) C (r0 := r1) (σ2 := σ1) (As := [.int x5, .int x4]) (rest := []) (hm _ _ rfl) ml_For_127 14 rfl rfl rfl d_For_equivalent_11 rfl rfl (by dsimp only; omega) (by dsimp only; omega) hcm hsm (Nat.le_of_ble_eq_true rfl) ?_
  replace hcq : cells + σf.2.2 3001 ≤ mc + σ1.2.2 3001 := by have := hle.1; omega
  replace hsq : slots + σf.2.2 3002 ≤ ms + σ1.2.2 3002 := by have := hle.2; omega
  replace hF : d2_1 + 3 ≤ F := by omega
  replace hLo : 48 * d2_1 + 144 ≤ Lo := by omega
  refine ax_aload_n (pc := 14) C d_For_equivalent_14 rfl 0 rfl ?_
  refine ax_iload_n (pc := 15) C d_For_equivalent_15 rfl 2 rfl ?_
  refine ax_iconst (pc := 16) C 1 d_For_equivalent_16 (by decide +kernel) ?_
  replace h := it_b h
  obtain ⟨σ2, r2, d1_2, d2_2, h1, h, hd2, hd1⟩ := h
  replace hle := hG _ _ _ _ (by decide) h1
  dsimp only at hle
  replace hmn : gle σ2 σf := gm_use h (gm_if (gm_if (gm_bnd hG (Nat.le_of_ble_eq_true rfl) (fun _ _ => (gm_tail hG (Nat.le_of_ble_eq_true rfl)))) (gm_bnd hG (Nat.le_of_ble_eq_true rfl) (fun _ _ => (gm_tail hG (Nat.le_of_ble_eq_true rfl))))) (gm_if (gm_tail hG (Nat.le_of_ble_eq_true rfl)) (gm_tail hG (Nat.le_of_ble_eq_true rfl))))
  replace hm : sC_For_clausesOf l D kA u w tx σ1 [x1, 1] (σ2, r2, d1_2) := ihC _ _ tC_For_clausesOf _ _ _ h1
  refine cc_Vi (pc := 17) C (r0 := r2) (σ2 := σ2) (As := [.int x1, .int 1]) (rest := [.int r1]) (hm _ _ rfl) ml_For_127 14 rfl rfl rfl d_For_equivalent_17 rfl rfl (by dsimp only; omega) (by dsimp only; omega) hcm hsm (Nat.le_of_ble_eq_true rfl) ?_
  replace hcq : cells + σf.2.2 3001 ≤ mc + σ2.2.2 3001 := by have := hle.1; omega
  replace hsq : slots + σf.2.2 3002 ≤ ms + σ2.2.2 3002 := by have := hle.2; omega
  replace hF : d2_2 + 3 ≤ F := by omega
  replace hLo : 48 * d2_2 + 144 ≤ Lo := by omega
  refine ax_imul (pc := 20) C d_For_equivalent_20 ?_
  refine ax_istore (pc := 21) C d_For_equivalent_21 (Nat.le_of_ble_eq_true rfl) ([(5, .int ((r1 : Int32) * r2)), (0, .ref (u 14)), (1, .int x0), (2, .int x1), (3, .int x2), (4, .int x3)]) rfl ?_
  refine ax_iload (pc := 23) C d_For_equivalent_23 5 rfl ?_
  refine ax_iload (pc := 25) C d_For_equivalent_25 0 rfl ?_
  refine ax_icmp_ge (pc := 27) C 52 d_For_equivalent_27 (by decide) (fun hc => ?_) (fun hc => ?_)
  · replace h := it_t hc h
    refine ax_iload_n (pc := 52) C d_For_equivalent_52 rfl 4 rfl ?_
    refine ax_if_eq (pc := 53) C 73 d_For_equivalent_53 (by decide) (fun hc => ?_) (fun hc => ?_)
    · replace h := it_t hc h
      refine ax_aload_n (pc := 73) C d_For_equivalent_73 rfl 1 rfl ?_
      refine ax_iconst (pc := 74) C 0 d_For_equivalent_74 (by decide +kernel) ?_
      refine ax_iload_n (pc := 75) C d_For_equivalent_75 rfl 2 rfl ?_
      refine ax_iconst (pc := 76) C 0 d_For_equivalent_76 (by decide +kernel) ?_
      refine ax_iload_n (pc := 77) C d_For_equivalent_77 rfl 3 rfl ?_
      refine ax_iconst (pc := 78) C 0 d_For_equivalent_78 (by decide +kernel) ?_
      refine ax_iload (pc := 79) C d_For_equivalent_79 5 rfl ?_
      refine ax_iload (pc := 81) C d_For_equivalent_81 0 rfl ?_
      refine ax_isub (pc := 83) C d_For_equivalent_83 ?_
      replace h := it_b h
      obtain ⟨σ3, r3, d1_3, d2_3, h1, h, hd2, hd1⟩ := h
      replace hle := hG _ _ _ _ (by decide) h1
      dsimp only at hle
      replace hmn : gle σ3 σf := gm_use h (gm_tail hG (Nat.le_of_ble_eq_true rfl))
      replace hm : sG_For_joined l D kA u σ2 [0, x0, 0, x1, 0, ((x3 : Int32) - ((r1 : Int32) * r2))] (σ3, r3, d1_3) := ih tG_For_joined _ _ _ h1
      refine gc_Vv (pc := 84) C (As := [.int 0, .int x0, .int 0, .int x1, .int 0, .int ((x3 : Int32) - ((r1 : Int32) * r2))]) (rest := []) (hm _ _ _ _ _ _ rfl w tx) ml_For_164 14 rfl rfl rfl d_For_equivalent_84 rfl rfl (by dsimp only; omega) (by dsimp only; omega) (by have := hmn.1; have := hle.1; dsimp only; omega) (by have := hmn.2; have := hle.2; dsimp only; omega) (Nat.le_of_ble_eq_true rfl) (fun w1 hw => ?_)
      obtain ⟨w3, tx3, hag3, htq3, hwq3⟩ := hw
      dsimp only at hwq3
      subst hwq3
      dsimp only
      replace htq3 := htq3.symm
      subst htq3
      have hga3 : ∀ i, ([30] : List Nat).elem i = false → w3 i = w0 i := fun i hi => (hag3 i (by revert hi; exact el_sub (by decide))).trans (hga i hi)
      replace hcq : (cells + (σ3.2.2 3001 - σ2.2.2 3001)) + σf.2.2 3001 ≤ mc + σ3.2.2 3001 := by have := hmn.1; have := hle.1; omega
      replace hcm : (cells + (σ3.2.2 3001 - σ2.2.2 3001)) ≤ mc := by have := hmn.1; have := hle.1; omega
      generalize cells + (σ3.2.2 3001 - σ2.2.2 3001) = cells at hcq hcm ⊢
      replace hsq : (slots + (σ3.2.2 3002 - σ2.2.2 3002)) + σf.2.2 3002 ≤ ms + σ3.2.2 3002 := by have := hmn.2; have := hle.2; omega
      replace hsm : (slots + (σ3.2.2 3002 - σ2.2.2 3002)) ≤ ms := by have := hmn.2; have := hle.2; omega
      generalize slots + (σ3.2.2 3002 - σ2.2.2 3002) = slots at hsq hsm ⊢
      replace hF : d2_3 + 3 ≤ F := by omega
      replace hLo : 48 * d2_3 + 144 ≤ Lo := by omega
      refine ax_ls ([(0, .ref (u 14)), (1, .int x0), (2, .int x1), (3, .int x2), (4, .int x3), (5, .int ((r1 : Int32) * r2))]) [1, 2, 3, 4, 5, 0] rfl ?_
      replace hm : sG_For_equivalent_p87 l D kA u σ3 [x0, x1, x2, x3, ((r1 : Int32) * r2)] (σf, rf, _) := ih tG_For_equivalent_p87 _ _ _ h
      exact hm _ _ _ _ _ rfl w3 tx p e s m args below meth c F Lo mc ms cells slots σ0 w0 tx0 hF hLo hcq hsq hga3 C
    · replace h := it_f hc h
      refine ax_aload_n (pc := 56) C d_For_equivalent_56 rfl 1 rfl ?_
      refine ax_iconst (pc := 57) C 0 d_For_equivalent_57 (by decide +kernel) ?_
      refine ax_iload_n (pc := 58) C d_For_equivalent_58 rfl 3 rfl ?_
      refine ax_iconst (pc := 59) C 0 d_For_equivalent_59 (by decide +kernel) ?_
      refine ax_iload_n (pc := 60) C d_For_equivalent_60 rfl 2 rfl ?_
      refine ax_iconst (pc := 61) C 1 d_For_equivalent_61 (by decide +kernel) ?_
      refine ax_iload (pc := 62) C d_For_equivalent_62 5 rfl ?_
      refine ax_iload (pc := 64) C d_For_equivalent_64 0 rfl ?_
      refine ax_isub (pc := 66) C d_For_equivalent_66 ?_
      replace h := it_b h
      obtain ⟨σ4, r4, d1_4, d2_4, h1, h, hd2, hd1⟩ := h
      replace hle := hG _ _ _ _ (by decide) h1
      dsimp only at hle
      replace hmn : gle σ4 σf := gm_use h (gm_tail hG (Nat.le_of_ble_eq_true rfl))
      replace hm : sG_For_joined l D kA u σ2 [0, x1, 0, x0, 1, ((x3 : Int32) - ((r1 : Int32) * r2))] (σ4, r4, d1_4) := ih tG_For_joined _ _ _ h1
      refine gc_Vv (pc := 67) C (As := [.int 0, .int x1, .int 0, .int x0, .int 1, .int ((x3 : Int32) - ((r1 : Int32) * r2))]) (rest := []) (hm _ _ _ _ _ _ rfl w tx) ml_For_164 14 rfl rfl rfl d_For_equivalent_67 rfl rfl (by dsimp only; omega) (by dsimp only; omega) (by have := hmn.1; have := hle.1; dsimp only; omega) (by have := hmn.2; have := hle.2; dsimp only; omega) (Nat.le_of_ble_eq_true rfl) (fun w1 hw => ?_)
      obtain ⟨w4, tx4, hag4, htq4, hwq4⟩ := hw
      dsimp only at hwq4
      subst hwq4
      dsimp only
      replace htq4 := htq4.symm
      subst htq4
      have hga4 : ∀ i, ([30] : List Nat).elem i = false → w4 i = w0 i := fun i hi => (hag4 i (by revert hi; exact el_sub (by decide))).trans (hga i hi)
      replace hcq : (cells + (σ4.2.2 3001 - σ2.2.2 3001)) + σf.2.2 3001 ≤ mc + σ4.2.2 3001 := by have := hmn.1; have := hle.1; omega
      replace hcm : (cells + (σ4.2.2 3001 - σ2.2.2 3001)) ≤ mc := by have := hmn.1; have := hle.1; omega
      generalize cells + (σ4.2.2 3001 - σ2.2.2 3001) = cells at hcq hcm ⊢
      replace hsq : (slots + (σ4.2.2 3002 - σ2.2.2 3002)) + σf.2.2 3002 ≤ ms + σ4.2.2 3002 := by have := hmn.2; have := hle.2; omega
      replace hsm : (slots + (σ4.2.2 3002 - σ2.2.2 3002)) ≤ ms := by have := hmn.2; have := hle.2; omega
      generalize slots + (σ4.2.2 3002 - σ2.2.2 3002) = slots at hsq hsm ⊢
      replace hF : d2_4 + 3 ≤ F := by omega
      replace hLo : 48 * d2_4 + 144 ≤ Lo := by omega
      refine ax_goto (pc := 70) C 87 d_For_equivalent_70 (by decide) ?_
      refine ax_ls ([(0, .ref (u 14)), (1, .int x0), (2, .int x1), (3, .int x2), (4, .int x3), (5, .int ((r1 : Int32) * r2))]) [1, 2, 3, 4, 5, 0] rfl ?_
      replace hm : sG_For_equivalent_p87 l D kA u σ4 [x0, x1, x2, x3, ((r1 : Int32) * r2)] (σf, rf, _) := ih tG_For_equivalent_p87 _ _ _ h
      exact hm _ _ _ _ _ rfl w4 tx p e s m args below meth c F Lo mc ms cells slots σ0 w0 tx0 hF hLo hcq hsq hga4 C
  · replace h := it_f hc h
    refine ax_aload_n (pc := 30) C d_For_equivalent_30 rfl 1 rfl ?_
    refine ax_iconst (pc := 31) C 0 d_For_equivalent_31 (by decide +kernel) ?_
    refine ax_iload_n (pc := 32) C d_For_equivalent_32 rfl 2 rfl ?_
    refine ax_iload_n (pc := 33) C d_For_equivalent_33 rfl 4 rfl ?_
    refine ax_if_ne (pc := 34) C 41 d_For_equivalent_34 (by decide) (fun hc => ?_) (fun hc => ?_)
    · replace h := it_f hc h
      refine ax_iconst (pc := 41) C 0 d_For_equivalent_41 (by decide +kernel) ?_
      refine ax_ls ([(0, .ref (u 14)), (1, .int x0), (2, .int x1), (3, .int x2), (4, .int x3), (5, .int ((r1 : Int32) * r2))]) [1, 2, 3, 4, 5, 0] rfl ?_
      replace hm : sG_For_equivalent_p42 l D kA u σ2 [x0, x1, x2, x3, ((r1 : Int32) * r2), 0, x0, 0] (σf, rf, _) := ih tG_For_equivalent_p42 _ _ _ h
      exact hm _ _ _ _ _ _ _ _ rfl w tx p e s m args below meth c F Lo mc ms cells slots σ0 w0 tx0 hF hLo hcq hsq hga C
    · replace h := it_t hc h
      refine ax_iconst (pc := 37) C 1 d_For_equivalent_37 (by decide +kernel) ?_
      refine ax_goto (pc := 38) C 42 d_For_equivalent_38 (by decide) ?_
      refine ax_ls ([(0, .ref (u 14)), (1, .int x0), (2, .int x1), (3, .int x2), (4, .int x3), (5, .int ((r1 : Int32) * r2))]) [1, 2, 3, 4, 5, 0] rfl ?_
      replace hm : sG_For_equivalent_p42 l D kA u σ2 [x0, x1, x2, x3, ((r1 : Int32) * r2), 1, x0, 0] (σf, rf, _) := ih tG_For_equivalent_p42 _ _ _ h
      exact hm _ _ _ _ _ _ _ _ rfl w tx p e s m args below meth c F Lo mc ms cells slots σ0 w0 tx0 hF hLo hcq hsq hga C
set_option maxHeartbeats 4000000 in
set_option maxRecDepth 100000 in
theorem oG_For_equivalent_p42 (l : Launch) (D : va_G) (kA : Nat → ClassId) (u : Nat → Nat) (rec : mF) (hG : GM rec) (ihC : ∀ (w : Nat → Nat) (tx : Value) t σ xs res, rec t σ xs = some res → cSem l D kA u w tx t σ xs res) (ih : ∀ t σ xs res, rec t σ xs = some res → gSem l D kA u t σ xs res) (σ : mS) (xs : List Int32) (res : mR) (h : u_8 (kG_For_equivalent_p42 rec σ) xs = some res) : sG_For_equivalent_p42 l D kA u σ xs res := by
  intro x0 x1 x2 x3 x4 x5 x6 x7 hxs w tx
  subst hxs
  obtain ⟨σf, rf, dd⟩ := res
  have hmn : gle σ σf := qG_For_equivalent_p42 rec hG σ x0 x1 x2 x3 x4 x5 x6 x7 _ h
  have h : (bnd (rec tG_For_joined σ [x7, x6, x5, x1, 1, x3]) (fun σ1 r1 => rec tG_For_equivalent_p87 σ1 [x0, x1, x2, x3, x4])) = some (σf, rf, dd) := h
  intro p e s m args below meth c F Lo mc ms cells slots σ0 w0 tx0 hF hLo hcq hsq hga C
  dsimp only at hF hLo hcq hsq ⊢
  have hcm : cells ≤ mc := by have := hmn.1; omega
  have hsm : slots ≤ ms := by have := hmn.2; omega
  have hle : True := trivial
  have hm : True := trivial
  refine ax_iload_n (pc := 42) C d_For_equivalent_42 rfl 2 rfl ?_
  refine ax_iconst (pc := 43) C 1 d_For_equivalent_43 (by decide +kernel) ?_
  refine ax_iload (pc := 44) C d_For_equivalent_44 4 rfl ?_
  replace h := it_b h
  obtain ⟨σ1, r1, d1_1, d2_1, h1, h, hd2, hd1⟩ := h
  replace hle := hG _ _ _ _ (by decide) h1
  dsimp only at hle
  replace hmn : gle σ1 σf := gm_use h (gm_tail hG (Nat.le_of_ble_eq_true rfl))
  replace hm : sG_For_joined l D kA u σ [x7, x6, x5, x1, 1, x3] (σ1, r1, d1_1) := ih tG_For_joined _ _ _ h1
  refine gc_Vv (pc := 46) C (As := [.int x7, .int x6, .int x5, .int x1, .int 1, .int x3]) (rest := []) (hm _ _ _ _ _ _ rfl w tx) ml_For_164 14 rfl rfl rfl d_For_equivalent_46 rfl rfl (by dsimp only; omega) (by dsimp only; omega) (by have := hmn.1; have := hle.1; dsimp only; omega) (by have := hmn.2; have := hle.2; dsimp only; omega) (Nat.le_of_ble_eq_true rfl) (fun w1 hw => ?_)
  obtain ⟨w1, tx1, hag1, htq1, hwq1⟩ := hw
  dsimp only at hwq1
  subst hwq1
  dsimp only
  replace htq1 := htq1.symm
  subst htq1
  have hga1 : ∀ i, ([30] : List Nat).elem i = false → w1 i = w0 i := fun i hi => (hag1 i (by revert hi; exact el_sub (by decide))).trans (hga i hi)
  replace hcq : (cells + (σ1.2.2 3001 - σ.2.2 3001)) + σf.2.2 3001 ≤ mc + σ1.2.2 3001 := by have := hmn.1; have := hle.1; omega
  replace hcm : (cells + (σ1.2.2 3001 - σ.2.2 3001)) ≤ mc := by have := hmn.1; have := hle.1; omega
  generalize cells + (σ1.2.2 3001 - σ.2.2 3001) = cells at hcq hcm ⊢
  replace hsq : (slots + (σ1.2.2 3002 - σ.2.2 3002)) + σf.2.2 3002 ≤ ms + σ1.2.2 3002 := by have := hmn.2; have := hle.2; omega
  replace hsm : (slots + (σ1.2.2 3002 - σ.2.2 3002)) ≤ ms := by have := hmn.2; have := hle.2; omega
  generalize slots + (σ1.2.2 3002 - σ.2.2 3002) = slots at hsq hsm ⊢
  replace hF : d2_1 + 3 ≤ F := by omega
  replace hLo : 48 * d2_1 + 144 ≤ Lo := by omega
  refine ax_goto (pc := 49) C 87 d_For_equivalent_49 (by decide) ?_
  refine ax_ls ([(0, .ref (u 14)), (1, .int x0), (2, .int x1), (3, .int x2), (4, .int x3), (5, .int x4)]) [0, 1, 2, 3, 4, 5] rfl ?_
  replace hm : sG_For_equivalent_p87 l D kA u σ1 [x0, x1, x2, x3, x4] (σf, rf, _) := ih tG_For_equivalent_p87 _ _ _ h
  exact hm _ _ _ _ _ rfl w1 tx p e s m args below meth c F Lo mc ms cells slots σ0 w0 tx0 hF hLo hcq hsq hga1 C
set_option maxHeartbeats 4000000 in
set_option maxRecDepth 100000 in
theorem oG_For_equivalent_p87 (l : Launch) (D : va_G) (kA : Nat → ClassId) (u : Nat → Nat) (rec : mF) (hG : GM rec) (ihC : ∀ (w : Nat → Nat) (tx : Value) t σ xs res, rec t σ xs = some res → cSem l D kA u w tx t σ xs res) (ih : ∀ t σ xs res, rec t σ xs = some res → gSem l D kA u t σ xs res) (σ : mS) (xs : List Int32) (res : mR) (h : u_5 (kG_For_equivalent_p87 rec σ) xs = some res) : sG_For_equivalent_p87 l D kA u σ xs res := by
  intro x0 x1 x2 x3 x4 hxs w tx
  subst hxs
  obtain ⟨σf, rf, dd⟩ := res
  have hmn : gle σ σf := qG_For_equivalent_p87 rec hG σ x0 x1 x2 x3 x4 _ h
  have h : (some (σ, 0, 0)) = some (σf, rf, dd) := h
  intro p e s m args below meth c F Lo mc ms cells slots σ0 w0 tx0 hF hLo hcq hsq hga C
  dsimp only at hF hLo hcq hsq ⊢
  have hcm : cells ≤ mc := by have := hmn.1; omega
  have hsm : slots ≤ ms := by have := hmn.2; omega
  have hle : True := trivial
  have hm : True := trivial
  cases h
  exact ax_vret (pc := 87) C d_For_equivalent_87 ⟨w, tx, hga, rfl, rfl⟩ hcm hsm
set_option maxHeartbeats 4000000 in
set_option maxRecDepth 100000 in
theorem oG_For_joined (l : Launch) (D : va_G) (kA : Nat → ClassId) (u : Nat → Nat) (rec : mF) (hG : GM rec) (ihC : ∀ (w : Nat → Nat) (tx : Value) t σ xs res, rec t σ xs = some res → cSem l D kA u w tx t σ xs res) (ih : ∀ t σ xs res, rec t σ xs = some res → gSem l D kA u t σ xs res) (σ : mS) (xs : List Int32) (res : mR) (h : u_6 (kG_For_joined rec σ) xs = some res) : sG_For_joined l D kA u σ xs res := by
  intro x0 x1 x2 x3 x4 x5 hxs w tx
  subst hxs
  obtain ⟨σf, rf, dd⟩ := res
  have hmn : gle σ σf := qG_For_joined rec hG σ x0 x1 x2 x3 x4 x5 _ h
  have h : (if x0 = 0 then (rec tG_For_joined_p12 σ [x0, x1, x2, x3, x4, x5, x3, 1]) else (rec tG_For_joined_p12 σ [x0, x1, x2, x3, x4, x5, x1, 1])) = some (σf, rf, dd) := h
  refine ax_Mv.of (by decide +kernel) (Nat.le_of_ble_eq_true rfl) ?_
  intro p e s m args below meth c C hnm
  replace C : ax_C p s m args meth c b_For_joined "ClauseProver$Formulas" 8 none D kA (va_A (cpW kA u w tx σ) s.heap.size) := C
  obtain ⟨F, hFe⟩ : ∃ z, z = dd + 3 := ⟨_, rfl⟩
  obtain ⟨Lo, hLoe⟩ : ∃ z, z = 48 * dd + 144 := ⟨_, rfl⟩
  obtain ⟨mc, hmce⟩ : ∃ z, z = σf.2.2 3001 - σ.2.2 3001 := ⟨_, rfl⟩
  obtain ⟨ms, hmse⟩ : ∃ z, z = σf.2.2 3002 - σ.2.2 3002 := ⟨_, rfl⟩
  obtain ⟨σ0, hσ0e⟩ : ∃ z, z = σ := ⟨_, rfl⟩
  obtain ⟨w0, hw0e⟩ : ∃ z, z = w := ⟨_, rfl⟩
  obtain ⟨tx0, htx0e⟩ : ∃ z, z = tx := ⟨_, rfl⟩
  suffices K : ∀ (cells slots : Nat), cells = 0 → slots = 0 → AW p l e { frames := F, cells := mc, slots := ms, locals := Lo } s m args below meth c D kA (va_A (cpW kA u w0 tx0 σ0) s.heap.size) 8 (ax_Qv below args s D kA (cpW kA u w0 tx0 σ0) mc ms (fun w1 => ∃ (w2 : Nat → Nat) (tx2 : Value), (∀ i, ([30] : List Nat).elem i = false → w2 i = w0 i) ∧ tx2 = tx0 ∧ w1 = cpW kA u w2 tx2 σf)) 0 [(0, .ref (u 14)), (1, .int x0), (2, .int x1), (3, .int x2), (4, .int x3), (5, .int x4), (6, .int x5)] [] (cpW kA u w tx σ) cells slots by
    have K := K 0 0 rfl rfl
    rw [hFe, hLoe, hmce, hmse, hσ0e, hw0e, htx0e] at K
    exact ax_ls ([(0, .ref (u 14)), (1, .int x0), (2, .int x1), (3, .int x2), (4, .int x3), (5, .int x4), (6, .int x5)]) [0, 1, 2, 3, 4, 5, 6] rfl K
  replace C : ax_C p s m args meth c b_For_joined "ClauseProver$Formulas" 8 none D kA (va_A (cpW kA u w0 tx0 σ0) s.heap.size) := by rw [hσ0e, hw0e, htx0e]; exact C
  intro cells slots hc0 hs0
  have hcq : cells + σf.2.2 3001 ≤ mc + σ.2.2 3001 := by have := hmn.1; omega
  have hsq : slots + σf.2.2 3002 ≤ ms + σ.2.2 3002 := by have := hmn.2; omega
  have hga : ∀ i, ([30] : List Nat).elem i = false → w i = w0 i := fun i _ => by rw [hw0e]
  have e9 : tx = tx0 := htx0e.symm
  subst e9
  have hF : dd + 3 ≤ F := by omega
  have hLo : 48 * dd + 144 ≤ Lo := by omega
  have hcm : cells ≤ mc := by have := hmn.1; omega
  have hsm : slots ≤ ms := by have := hmn.2; omega
  have hle : True := trivial
  have hm : True := trivial
  refine ax_iconst (pc := 0) C 1 d_For_joined_0 (by decide +kernel) ?_
  refine ax_aload_n (pc := 1) C d_For_joined_1 rfl 0 rfl ?_
  refine ax_iload_n (pc := 2) C d_For_joined_2 rfl 1 rfl ?_
  refine ax_if_eq (pc := 3) C 10 d_For_joined_3 (by decide) (fun hc => ?_) (fun hc => ?_)
  · replace h := it_t hc h
    refine ax_iload (pc := 10) C d_For_joined_10 4 rfl ?_
    refine ax_ls ([(0, .ref (u 14)), (1, .int x0), (2, .int x1), (3, .int x2), (4, .int x3), (5, .int x4), (6, .int x5)]) [0, 1, 2, 3, 4, 5, 6] rfl ?_
    replace hm : sG_For_joined_p12 l D kA u σ [x0, x1, x2, x3, x4, x5, x3, 1] (σf, rf, _) := ih tG_For_joined_p12 _ _ _ h
    exact hm _ _ _ _ _ _ _ _ rfl w tx p e s m args below meth c F Lo mc ms cells slots σ0 w0 tx hF hLo hcq hsq hga C
  · replace h := it_f hc h
    refine ax_iload_n (pc := 6) C d_For_joined_6 rfl 2 rfl ?_
    refine ax_goto (pc := 7) C 12 d_For_joined_7 (by decide) ?_
    refine ax_ls ([(0, .ref (u 14)), (1, .int x0), (2, .int x1), (3, .int x2), (4, .int x3), (5, .int x4), (6, .int x5)]) [0, 1, 2, 3, 4, 5, 6] rfl ?_
    replace hm : sG_For_joined_p12 l D kA u σ [x0, x1, x2, x3, x4, x5, x1, 1] (σf, rf, _) := ih tG_For_joined_p12 _ _ _ h
    exact hm _ _ _ _ _ _ _ _ rfl w tx p e s m args below meth c F Lo mc ms cells slots σ0 w0 tx hF hLo hcq hsq hga C
set_option maxHeartbeats 4000000 in
set_option maxRecDepth 100000 in
theorem oG_For_joined_p12 (l : Launch) (D : va_G) (kA : Nat → ClassId) (u : Nat → Nat) (rec : mF) (hG : GM rec) (ihC : ∀ (w : Nat → Nat) (tx : Value) t σ xs res, rec t σ xs = some res → cSem l D kA u w tx t σ xs res) (ih : ∀ t σ xs res, rec t σ xs = some res → gSem l D kA u t σ xs res) (σ : mS) (xs : List Int32) (res : mR) (h : u_8 (kG_For_joined_p12 rec σ) xs = some res) : sG_For_joined_p12 l D kA u σ xs res := by
  intro x0 x1 x2 x3 x4 x5 x6 x7 hxs w tx
  subst hxs
  obtain ⟨σf, rf, dd⟩ := res
  have hmn : gle σ σf := qG_For_joined_p12 rec hG σ x0 x1 x2 x3 x4 x5 x6 x7 _ h
  have h : (if x0 = 0 then (rec tG_For_joined_p22 σ [x0, x1, x2, x3, x4, x5, x4, x6, x7]) else (rec tG_For_joined_p22 σ [x0, x1, x2, x3, x4, x5, x2, x6, x7])) = some (σf, rf, dd) := h
  intro p e s m args below meth c F Lo mc ms cells slots σ0 w0 tx0 hF hLo hcq hsq hga C
  dsimp only at hF hLo hcq hsq ⊢
  have hcm : cells ≤ mc := by have := hmn.1; omega
  have hsm : slots ≤ ms := by have := hmn.2; omega
  have hle : True := trivial
  have hm : True := trivial
  refine ax_iload_n (pc := 12) C d_For_joined_12 rfl 1 rfl ?_
  refine ax_if_eq (pc := 13) C 20 d_For_joined_13 (by decide) (fun hc => ?_) (fun hc => ?_)
  · replace h := it_t hc h
    refine ax_iload (pc := 20) C d_For_joined_20 5 rfl ?_
    refine ax_ls ([(0, .ref (u 14)), (1, .int x0), (2, .int x1), (3, .int x2), (4, .int x3), (5, .int x4), (6, .int x5)]) [0, 1, 2, 3, 4, 5, 6] rfl ?_
    replace hm : sG_For_joined_p22 l D kA u σ [x0, x1, x2, x3, x4, x5, x4, x6, x7] (σf, rf, _) := ih tG_For_joined_p22 _ _ _ h
    exact hm _ _ _ _ _ _ _ _ _ rfl w tx p e s m args below meth c F Lo mc ms cells slots σ0 w0 tx0 hF hLo hcq hsq hga C
  · replace h := it_f hc h
    refine ax_iload_n (pc := 16) C d_For_joined_16 rfl 3 rfl ?_
    refine ax_goto (pc := 17) C 22 d_For_joined_17 (by decide) ?_
    refine ax_ls ([(0, .ref (u 14)), (1, .int x0), (2, .int x1), (3, .int x2), (4, .int x3), (5, .int x4), (6, .int x5)]) [0, 1, 2, 3, 4, 5, 6] rfl ?_
    replace hm : sG_For_joined_p22 l D kA u σ [x0, x1, x2, x3, x4, x5, x2, x6, x7] (σf, rf, _) := ih tG_For_joined_p22 _ _ _ h
    exact hm _ _ _ _ _ _ _ _ _ rfl w tx p e s m args below meth c F Lo mc ms cells slots σ0 w0 tx0 hF hLo hcq hsq hga C
set_option maxHeartbeats 4000000 in
set_option maxRecDepth 100000 in
theorem oG_For_joined_p22 (l : Launch) (D : va_G) (kA : Nat → ClassId) (u : Nat → Nat) (rec : mF) (hG : GM rec) (ihC : ∀ (w : Nat → Nat) (tx : Value) t σ xs res, rec t σ xs = some res → cSem l D kA u w tx t σ xs res) (ih : ∀ t σ xs res, rec t σ xs = some res → gSem l D kA u t σ xs res) (σ : mS) (xs : List Int32) (res : mR) (h : u_9 (kG_For_joined_p22 rec σ) xs = some res) : sG_For_joined_p22 l D kA u σ xs res := by
  intro x0 x1 x2 x3 x4 x5 x6 x7 x8 hxs w tx
  subst hxs
  obtain ⟨σf, rf, dd⟩ := res
  have hmn : gle σ σf := qG_For_joined_p22 rec hG σ x0 x1 x2 x3 x4 x5 x6 x7 x8 _ h
  have h : (bnd (rec tC_For_clausesOf σ [x7, x6]) (fun σ1 r1 => if x0 = 0 then (if (if x8 < r1 then r1 else x8) = 0 then none else (bnd (rec tG_For_later σ1 [x3, x4, (x5 - x5 / (if x8 < r1 then r1 else x8) * (if x8 < r1 then r1 else x8))]) (fun σ4 r4 => if (if x8 < r1 then r1 else x8) = 0 then none else (bnd (rec tG_For_later σ4 [x1, x2, (x5 / (if x8 < r1 then r1 else x8))]) (fun σ5 r5 => rec tG_For_joined_p92 σ5 [x0, x1, x2, x3, x4, x5, (if x8 < r1 then r1 else x8)]))))) else (if (if x8 < r1 then r1 else x8) ≤ x5 then (bnd (rec tG_For_later σ1 [x3, x4, ((x5 : Int32) - (if x8 < r1 then r1 else x8))]) (fun σ2 r2 => rec tG_For_joined_p92 σ2 [x0, x1, x2, x3, x4, x5, (if x8 < r1 then r1 else x8)])) else (bnd (rec tG_For_later σ1 [x1, x2, x5]) (fun σ3 r3 => rec tG_For_joined_p92 σ3 [x0, x1, x2, x3, x4, x5, (if x8 < r1 then r1 else x8)]))))) = some (σf, rf, dd) := h
  intro p e s m args below meth c F Lo mc ms cells slots σ0 w0 tx0 hF hLo hcq hsq hga C
  dsimp only at hF hLo hcq hsq ⊢
  have hcm : cells ≤ mc := by have := hmn.1; omega
  have hsm : slots ≤ ms := by have := hmn.2; omega
  have hle : True := trivial
  have hm : True := trivial
  replace h := it_b h
  obtain ⟨σ1, r1, d1_1, d2_1, h1, h, hd2, hd1⟩ := h
  replace hle := hG _ _ _ _ (by decide) h1
  dsimp only at hle
  replace hmn : gle σ1 σf := gm_use h (gm_if (gm_if gm_none (gm_bnd hG (Nat.le_of_ble_eq_true rfl) (fun _ _ => (gm_if gm_none (gm_bnd hG (Nat.le_of_ble_eq_true rfl) (fun _ _ => (gm_tail hG (Nat.le_of_ble_eq_true rfl)))))))) (gm_if (gm_bnd hG (Nat.le_of_ble_eq_true rfl) (fun _ _ => (gm_tail hG (Nat.le_of_ble_eq_true rfl)))) (gm_bnd hG (Nat.le_of_ble_eq_true rfl) (fun _ _ => (gm_tail hG (Nat.le_of_ble_eq_true rfl))))))
  replace hm : sC_For_clausesOf l D kA u w tx σ [x7, x6] (σ1, r1, d1_1) := ihC _ _ tC_For_clausesOf _ _ _ h1
  refine cc_Vi (pc := 22) C (r0 := r1) (σ2 := σ1) (As := [.int x7, .int x6]) (rest := [.int x8]) (hm _ _ rfl) ml_For_127 14 rfl rfl rfl d_For_joined_22 rfl rfl (by dsimp only; omega) (by dsimp only; omega) hcm hsm (Nat.le_of_ble_eq_true rfl) ?_
  replace hcq : cells + σf.2.2 3001 ≤ mc + σ1.2.2 3001 := by have := hle.1; omega
  replace hsq : slots + σf.2.2 3002 ≤ ms + σ1.2.2 3002 := by have := hle.2; omega
  replace hF : d2_1 + 3 ≤ F := by omega
  replace hLo : 48 * d2_1 + 144 ≤ Lo := by omega
  refine gx_max (pc := 25) C tb_methodLink_700 tb_static_701 tb_initialized_19 tcm_max d_For_joined_25 hF hcm hsm (Nat.le_of_ble_eq_true rfl) ?_
  refine ax_istore (pc := 28) C d_For_joined_28 (Nat.le_of_ble_eq_true rfl) ([(7, .int (if x8 < r1 then r1 else x8)), (0, .ref (u 14)), (1, .int x0), (2, .int x1), (3, .int x2), (4, .int x3), (5, .int x4), (6, .int x5)]) rfl ?_
  refine ax_iload_n (pc := 30) C d_For_joined_30 rfl 2 rfl ?_
  refine ax_if_ne (pc := 31) C 61 d_For_joined_31 (by decide) (fun hc => ?_) (fun hc => ?_)
  · replace h := it_f hc h
    refine ax_iload (pc := 61) C d_For_joined_61 7 rfl ?_
    refine ax_iload (pc := 63) C d_For_joined_63 0 rfl ?_
    refine ax_icmp_ge (pc := 65) C 79 d_For_joined_65 (by decide) (fun hc => ?_) (fun hc => ?_)
    · replace h := it_t hc h
      refine ax_aload_n (pc := 79) C d_For_joined_79 rfl 1 rfl ?_
      refine ax_iload (pc := 80) C d_For_joined_80 5 rfl ?_
      refine ax_iload (pc := 82) C d_For_joined_82 6 rfl ?_
      refine ax_iload (pc := 84) C d_For_joined_84 7 rfl ?_
      refine ax_iload (pc := 86) C d_For_joined_86 0 rfl ?_
      refine ax_isub (pc := 88) C d_For_joined_88 ?_
      replace h := it_b h
      obtain ⟨σ2, r2, d1_2, d2_2, h1, h, hd2, hd1⟩ := h
      replace hle := hG _ _ _ _ (by decide) h1
      dsimp only at hle
      replace hmn : gle σ2 σf := gm_use h (gm_tail hG (Nat.le_of_ble_eq_true rfl))
      replace hm : sG_For_later l D kA u σ1 [x3, x4, ((x5 : Int32) - (if x8 < r1 then r1 else x8))] (σ2, r2, d1_2) := ih tG_For_later _ _ _ h1
      refine gc_Vv (pc := 89) C (As := [.int x3, .int x4, .int ((x5 : Int32) - (if x8 < r1 then r1 else x8))]) (rest := []) (hm _ _ _ rfl w tx) ml_For_156 14 rfl rfl rfl d_For_joined_89 rfl rfl (by dsimp only; omega) (by dsimp only; omega) (by have := hmn.1; have := hle.1; dsimp only; omega) (by have := hmn.2; have := hle.2; dsimp only; omega) (Nat.le_of_ble_eq_true rfl) (fun w1 hw => ?_)
      obtain ⟨w2, tx2, hag2, htq2, hwq2⟩ := hw
      dsimp only at hwq2
      subst hwq2
      dsimp only
      replace htq2 := htq2.symm
      subst htq2
      have hga2 : ∀ i, ([30] : List Nat).elem i = false → w2 i = w0 i := fun i hi => (hag2 i (by revert hi; exact el_sub (by decide))).trans (hga i hi)
      replace hcq : (cells + (σ2.2.2 3001 - σ1.2.2 3001)) + σf.2.2 3001 ≤ mc + σ2.2.2 3001 := by have := hmn.1; have := hle.1; omega
      replace hcm : (cells + (σ2.2.2 3001 - σ1.2.2 3001)) ≤ mc := by have := hmn.1; have := hle.1; omega
      generalize cells + (σ2.2.2 3001 - σ1.2.2 3001) = cells at hcq hcm ⊢
      replace hsq : (slots + (σ2.2.2 3002 - σ1.2.2 3002)) + σf.2.2 3002 ≤ ms + σ2.2.2 3002 := by have := hmn.2; have := hle.2; omega
      replace hsm : (slots + (σ2.2.2 3002 - σ1.2.2 3002)) ≤ ms := by have := hmn.2; have := hle.2; omega
      generalize slots + (σ2.2.2 3002 - σ1.2.2 3002) = slots at hsq hsm ⊢
      replace hF : d2_2 + 3 ≤ F := by omega
      replace hLo : 48 * d2_2 + 144 ≤ Lo := by omega
      refine ax_ls ([(0, .ref (u 14)), (1, .int x0), (2, .int x1), (3, .int x2), (4, .int x3), (5, .int x4), (6, .int x5), (7, .int (if x8 < r1 then r1 else x8))]) [1, 2, 3, 4, 5, 6, 7, 0] rfl ?_
      replace hm : sG_For_joined_p92 l D kA u σ2 [x0, x1, x2, x3, x4, x5, (if x8 < r1 then r1 else x8)] (σf, rf, _) := ih tG_For_joined_p92 _ _ _ h
      exact hm _ _ _ _ _ _ _ rfl w2 tx p e s m args below meth c F Lo mc ms cells slots σ0 w0 tx0 hF hLo hcq hsq hga2 C
    · replace h := it_f hc h
      refine ax_aload_n (pc := 68) C d_For_joined_68 rfl 1 rfl ?_
      refine ax_iload_n (pc := 69) C d_For_joined_69 rfl 3 rfl ?_
      refine ax_iload_n (pc := 70) C d_For_joined_70 rfl 4 rfl ?_
      refine ax_iload (pc := 71) C d_For_joined_71 7 rfl ?_
      replace h := it_b h
      obtain ⟨σ3, r3, d1_3, d2_3, h1, h, hd2, hd1⟩ := h
      replace hle := hG _ _ _ _ (by decide) h1
      dsimp only at hle
      replace hmn : gle σ3 σf := gm_use h (gm_tail hG (Nat.le_of_ble_eq_true rfl))
      replace hm : sG_For_later l D kA u σ1 [x1, x2, x5] (σ3, r3, d1_3) := ih tG_For_later _ _ _ h1
      refine gc_Vv (pc := 73) C (As := [.int x1, .int x2, .int x5]) (rest := []) (hm _ _ _ rfl w tx) ml_For_156 14 rfl rfl rfl d_For_joined_73 rfl rfl (by dsimp only; omega) (by dsimp only; omega) (by have := hmn.1; have := hle.1; dsimp only; omega) (by have := hmn.2; have := hle.2; dsimp only; omega) (Nat.le_of_ble_eq_true rfl) (fun w1 hw => ?_)
      obtain ⟨w3, tx3, hag3, htq3, hwq3⟩ := hw
      dsimp only at hwq3
      subst hwq3
      dsimp only
      replace htq3 := htq3.symm
      subst htq3
      have hga3 : ∀ i, ([30] : List Nat).elem i = false → w3 i = w0 i := fun i hi => (hag3 i (by revert hi; exact el_sub (by decide))).trans (hga i hi)
      replace hcq : (cells + (σ3.2.2 3001 - σ1.2.2 3001)) + σf.2.2 3001 ≤ mc + σ3.2.2 3001 := by have := hmn.1; have := hle.1; omega
      replace hcm : (cells + (σ3.2.2 3001 - σ1.2.2 3001)) ≤ mc := by have := hmn.1; have := hle.1; omega
      generalize cells + (σ3.2.2 3001 - σ1.2.2 3001) = cells at hcq hcm ⊢
      replace hsq : (slots + (σ3.2.2 3002 - σ1.2.2 3002)) + σf.2.2 3002 ≤ ms + σ3.2.2 3002 := by have := hmn.2; have := hle.2; omega
      replace hsm : (slots + (σ3.2.2 3002 - σ1.2.2 3002)) ≤ ms := by have := hmn.2; have := hle.2; omega
      generalize slots + (σ3.2.2 3002 - σ1.2.2 3002) = slots at hsq hsm ⊢
      replace hF : d2_3 + 3 ≤ F := by omega
      replace hLo : 48 * d2_3 + 144 ≤ Lo := by omega
      refine ax_goto (pc := 76) C 92 d_For_joined_76 (by decide) ?_
      refine ax_ls ([(0, .ref (u 14)), (1, .int x0), (2, .int x1), (3, .int x2), (4, .int x3), (5, .int x4), (6, .int x5), (7, .int (if x8 < r1 then r1 else x8))]) [1, 2, 3, 4, 5, 6, 7, 0] rfl ?_
      replace hm : sG_For_joined_p92 l D kA u σ3 [x0, x1, x2, x3, x4, x5, (if x8 < r1 then r1 else x8)] (σf, rf, _) := ih tG_For_joined_p92 _ _ _ h
      exact hm _ _ _ _ _ _ _ rfl w3 tx p e s m args below meth c F Lo mc ms cells slots σ0 w0 tx0 hF hLo hcq hsq hga3 C
  · replace h := it_t hc h
    refine ax_aload_n (pc := 34) C d_For_joined_34 rfl 1 rfl ?_
    refine ax_iload (pc := 35) C d_For_joined_35 5 rfl ?_
    refine ax_iload (pc := 37) C d_For_joined_37 6 rfl ?_
    refine ax_iload (pc := 39) C d_For_joined_39 7 rfl ?_
    refine ax_iload (pc := 41) C d_For_joined_41 0 rfl ?_
    replace h := it_n h
    obtain ⟨hz, h⟩ := h
    refine ax_irem (pc := 43) C d_For_joined_43 hz ?_
    replace h := it_b h
    obtain ⟨σ4, r4, d1_4, d2_4, h1, h, hd2, hd1⟩ := h
    replace hle := hG _ _ _ _ (by decide) h1
    dsimp only at hle
    replace hmn : gle σ4 σf := gm_use h (gm_if gm_none (gm_bnd hG (Nat.le_of_ble_eq_true rfl) (fun _ _ => (gm_tail hG (Nat.le_of_ble_eq_true rfl)))))
    replace hm : sG_For_later l D kA u σ1 [x3, x4, (x5 - x5 / (if x8 < r1 then r1 else x8) * (if x8 < r1 then r1 else x8))] (σ4, r4, d1_4) := ih tG_For_later _ _ _ h1
    refine gc_Vv (pc := 44) C (As := [.int x3, .int x4, .int (x5 - x5 / (if x8 < r1 then r1 else x8) * (if x8 < r1 then r1 else x8))]) (rest := []) (hm _ _ _ rfl w tx) ml_For_156 14 rfl rfl rfl d_For_joined_44 rfl rfl (by dsimp only; omega) (by dsimp only; omega) (by have := hmn.1; have := hle.1; dsimp only; omega) (by have := hmn.2; have := hle.2; dsimp only; omega) (Nat.le_of_ble_eq_true rfl) (fun w1 hw => ?_)
    obtain ⟨w4, tx4, hag4, htq4, hwq4⟩ := hw
    dsimp only at hwq4
    subst hwq4
    dsimp only
    replace htq4 := htq4.symm
    subst htq4
    have hga4 : ∀ i, ([30] : List Nat).elem i = false → w4 i = w0 i := fun i hi => (hag4 i (by revert hi; exact el_sub (by decide))).trans (hga i hi)
    replace hcq : (cells + (σ4.2.2 3001 - σ1.2.2 3001)) + σf.2.2 3001 ≤ mc + σ4.2.2 3001 := by have := hmn.1; have := hle.1; omega
    replace hcm : (cells + (σ4.2.2 3001 - σ1.2.2 3001)) ≤ mc := by have := hmn.1; have := hle.1; omega
    generalize cells + (σ4.2.2 3001 - σ1.2.2 3001) = cells at hcq hcm ⊢
    replace hsq : (slots + (σ4.2.2 3002 - σ1.2.2 3002)) + σf.2.2 3002 ≤ ms + σ4.2.2 3002 := by have := hmn.2; have := hle.2; omega
    replace hsm : (slots + (σ4.2.2 3002 - σ1.2.2 3002)) ≤ ms := by have := hmn.2; have := hle.2; omega
    generalize slots + (σ4.2.2 3002 - σ1.2.2 3002) = slots at hsq hsm ⊢
    replace hF : d2_4 + 3 ≤ F := by omega
    replace hLo : 48 * d2_4 + 144 ≤ Lo := by omega
    refine ax_aload_n (pc := 47) C d_For_joined_47 rfl 1 rfl ?_
    refine ax_iload_n (pc := 48) C d_For_joined_48 rfl 3 rfl ?_
    refine ax_iload_n (pc := 49) C d_For_joined_49 rfl 4 rfl ?_
    refine ax_iload (pc := 50) C d_For_joined_50 7 rfl ?_
    refine ax_iload (pc := 52) C d_For_joined_52 0 rfl ?_
    replace h := it_n h
    obtain ⟨hz, h⟩ := h
    refine ax_idiv (pc := 54) C d_For_joined_54 hz ?_
    replace h := it_b h
    obtain ⟨σ5, r5, d1_5, d2_5, h1, h, hd2, hd1⟩ := h
    replace hle := hG _ _ _ _ (by decide) h1
    dsimp only at hle
    replace hmn : gle σ5 σf := gm_use h (gm_tail hG (Nat.le_of_ble_eq_true rfl))
    replace hm : sG_For_later l D kA u σ4 [x1, x2, (x5 / (if x8 < r1 then r1 else x8))] (σ5, r5, d1_5) := ih tG_For_later _ _ _ h1
    refine gc_Vv (pc := 55) C (As := [.int x1, .int x2, .int (x5 / (if x8 < r1 then r1 else x8))]) (rest := []) (hm _ _ _ rfl w4 tx) ml_For_156 14 rfl rfl rfl d_For_joined_55 rfl rfl (by dsimp only; omega) (by dsimp only; omega) (by have := hmn.1; have := hle.1; dsimp only; omega) (by have := hmn.2; have := hle.2; dsimp only; omega) (Nat.le_of_ble_eq_true rfl) (fun w1 hw => ?_)
    obtain ⟨w5, tx5, hag5, htq5, hwq5⟩ := hw
    dsimp only at hwq5
    subst hwq5
    dsimp only
    replace htq5 := htq5.symm
    subst htq5
    have hga5 : ∀ i, ([30] : List Nat).elem i = false → w5 i = w0 i := fun i hi => (hag5 i (by revert hi; exact el_sub (by decide))).trans (hga4 i hi)
    replace hcq : (cells + (σ5.2.2 3001 - σ4.2.2 3001)) + σf.2.2 3001 ≤ mc + σ5.2.2 3001 := by have := hmn.1; have := hle.1; omega
    replace hcm : (cells + (σ5.2.2 3001 - σ4.2.2 3001)) ≤ mc := by have := hmn.1; have := hle.1; omega
    generalize cells + (σ5.2.2 3001 - σ4.2.2 3001) = cells at hcq hcm ⊢
    replace hsq : (slots + (σ5.2.2 3002 - σ4.2.2 3002)) + σf.2.2 3002 ≤ ms + σ5.2.2 3002 := by have := hmn.2; have := hle.2; omega
    replace hsm : (slots + (σ5.2.2 3002 - σ4.2.2 3002)) ≤ ms := by have := hmn.2; have := hle.2; omega
    generalize slots + (σ5.2.2 3002 - σ4.2.2 3002) = slots at hsq hsm ⊢
    replace hF : d2_5 + 3 ≤ F := by omega
    replace hLo : 48 * d2_5 + 144 ≤ Lo := by omega
    refine ax_goto (pc := 58) C 92 d_For_joined_58 (by decide) ?_
    refine ax_ls ([(0, .ref (u 14)), (1, .int x0), (2, .int x1), (3, .int x2), (4, .int x3), (5, .int x4), (6, .int x5), (7, .int (if x8 < r1 then r1 else x8))]) [1, 2, 3, 4, 5, 6, 7, 0] rfl ?_
    replace hm : sG_For_joined_p92 l D kA u σ5 [x0, x1, x2, x3, x4, x5, (if x8 < r1 then r1 else x8)] (σf, rf, _) := ih tG_For_joined_p92 _ _ _ h
    exact hm _ _ _ _ _ _ _ rfl w5 tx p e s m args below meth c F Lo mc ms cells slots σ0 w0 tx0 hF hLo hcq hsq hga5 C
set_option maxHeartbeats 4000000 in
set_option maxRecDepth 100000 in
theorem oG_For_joined_p92 (l : Launch) (D : va_G) (kA : Nat → ClassId) (u : Nat → Nat) (rec : mF) (hG : GM rec) (ihC : ∀ (w : Nat → Nat) (tx : Value) t σ xs res, rec t σ xs = some res → cSem l D kA u w tx t σ xs res) (ih : ∀ t σ xs res, rec t σ xs = some res → gSem l D kA u t σ xs res) (σ : mS) (xs : List Int32) (res : mR) (h : u_7 (kG_For_joined_p92 rec σ) xs = some res) : sG_For_joined_p92 l D kA u σ xs res := by
  intro x0 x1 x2 x3 x4 x5 x6 hxs w tx
  subst hxs
  obtain ⟨σf, rf, dd⟩ := res
  have hmn : gle σ σf := qG_For_joined_p92 rec hG σ x0 x1 x2 x3 x4 x5 x6 _ h
  have h : (some (σ, 0, 0)) = some (σf, rf, dd) := h
  intro p e s m args below meth c F Lo mc ms cells slots σ0 w0 tx0 hF hLo hcq hsq hga C
  dsimp only at hF hLo hcq hsq ⊢
  have hcm : cells ≤ mc := by have := hmn.1; omega
  have hsm : slots ≤ ms := by have := hmn.2; omega
  have hle : True := trivial
  have hm : True := trivial
  cases h
  exact ax_vret (pc := 92) C d_For_joined_92 ⟨w, tx, hga, rfl, rfl⟩ hcm hsm
set_option maxHeartbeats 4000000 in
set_option maxRecDepth 100000 in
theorem oG_For_later (l : Launch) (D : va_G) (kA : Nat → ClassId) (u : Nat → Nat) (rec : mF) (hG : GM rec) (ihC : ∀ (w : Nat → Nat) (tx : Value) t σ xs res, rec t σ xs = some res → cSem l D kA u w tx t σ xs res) (ih : ∀ t σ xs res, rec t σ xs = some res → gSem l D kA u t σ xs res) (σ : mS) (xs : List Int32) (res : mR) (h : u_3 (kG_For_later rec σ) xs = some res) : sG_For_later l D kA u σ xs res := by
  intro x0 x1 x2 hxs w tx
  subst hxs
  obtain ⟨σf, rf, dd⟩ := res
  have hmn : gle σ σf := qG_For_later rec hG σ x0 x1 x2 _ h
  have h : (if rok σ 2901 30 = true then (lt_ (rAdd σ 2901 30 x0) (fun σ1 => if x1 = 0 then (rec tG_For_later_p21 σ1 [x0, x1, x2, 0]) else (rec tG_For_later_p21 σ1 [x0, x1, x2, 1]))) else none) = some (σf, rf, dd) := h
  refine ax_Mv.of (by decide +kernel) (Nat.le_of_ble_eq_true rfl) ?_
  intro p e s m args below meth c C hnm
  replace C : ax_C p s m args meth c b_For_later "ClauseProver$Formulas" 4 none D kA (va_A (cpW kA u w tx σ) s.heap.size) := C
  obtain ⟨F, hFe⟩ : ∃ z, z = dd + 3 := ⟨_, rfl⟩
  obtain ⟨Lo, hLoe⟩ : ∃ z, z = 48 * dd + 144 := ⟨_, rfl⟩
  obtain ⟨mc, hmce⟩ : ∃ z, z = σf.2.2 3001 - σ.2.2 3001 := ⟨_, rfl⟩
  obtain ⟨ms, hmse⟩ : ∃ z, z = σf.2.2 3002 - σ.2.2 3002 := ⟨_, rfl⟩
  obtain ⟨σ0, hσ0e⟩ : ∃ z, z = σ := ⟨_, rfl⟩
  obtain ⟨w0, hw0e⟩ : ∃ z, z = w := ⟨_, rfl⟩
  obtain ⟨tx0, htx0e⟩ : ∃ z, z = tx := ⟨_, rfl⟩
  suffices K : ∀ (cells slots : Nat), cells = 0 → slots = 0 → AW p l e { frames := F, cells := mc, slots := ms, locals := Lo } s m args below meth c D kA (va_A (cpW kA u w0 tx0 σ0) s.heap.size) 4 (ax_Qv below args s D kA (cpW kA u w0 tx0 σ0) mc ms (fun w1 => ∃ (w2 : Nat → Nat) (tx2 : Value), (∀ i, ([30] : List Nat).elem i = false → w2 i = w0 i) ∧ tx2 = tx0 ∧ w1 = cpW kA u w2 tx2 σf)) 0 [(0, .ref (u 14)), (1, .int x0), (2, .int x1), (3, .int x2)] [] (cpW kA u w tx σ) cells slots by
    have K := K 0 0 rfl rfl
    rw [hFe, hLoe, hmce, hmse, hσ0e, hw0e, htx0e] at K
    exact ax_ls ([(0, .ref (u 14)), (1, .int x0), (2, .int x1), (3, .int x2)]) [0, 1, 2, 3] rfl K
  replace C : ax_C p s m args meth c b_For_later "ClauseProver$Formulas" 4 none D kA (va_A (cpW kA u w0 tx0 σ0) s.heap.size) := by rw [hσ0e, hw0e, htx0e]; exact C
  intro cells slots hc0 hs0
  have hcq : cells + σf.2.2 3001 ≤ mc + σ.2.2 3001 := by have := hmn.1; omega
  have hsq : slots + σf.2.2 3002 ≤ ms + σ.2.2 3002 := by have := hmn.2; omega
  have hga : ∀ i, ([30] : List Nat).elem i = false → w i = w0 i := fun i _ => by rw [hw0e]
  have e9 : tx = tx0 := htx0e.symm
  subst e9
  have hF : dd + 3 ≤ F := by omega
  have hLo : 48 * dd + 144 ≤ Lo := by omega
  have hcm : cells ≤ mc := by have := hmn.1; omega
  have hsm : slots ≤ ms := by have := hmn.2; omega
  have hle : True := trivial
  have hm : True := trivial
  refine ax_aload_n (pc := 0) C d_For_later_0 rfl 0 rfl ?_
  refine cg_14_15_For_52 (pc := 1) C d_For_later_1 ?_
  refine ax_iload_n (pc := 4) C d_For_later_4 rfl 1 rfl ?_
  replace h := it_g h
  obtain ⟨hb, h⟩ := h
  replace h := it_l h
  replace hle := rAdd_le σ 2901 30 x0
  replace hmn : gle (rAdd σ 2901 30 x0) σf := gm_use h (gm_if (gm_tail hG (Nat.le_of_ble_eq_true rfl)) (gm_tail hG (Nat.le_of_ble_eq_true rfl)))
  refine ca_29 (pc := 5) C (rest := []) ml_For_72 d_For_later_5 hb hF hLo (by have := hmn.1; have := hle.1; omega) (by have := hmn.2; have := hle.2; omega) (Nat.le_of_ble_eq_true rfl) (fun w1 hag1 => ?_)
  generalize rAdd σ 2901 30 x0 = σ1 at h hmn hle ⊢
  have hga1 : ∀ i, ([30] : List Nat).elem i = false → w1 i = w0 i := fun i hi => (hag1 i (by revert hi; exact el_sub (by decide))).trans (hga i hi)
  replace hcq : (cells + (σ1.2.2 3001 - σ.2.2 3001)) + σf.2.2 3001 ≤ mc + σ1.2.2 3001 := by have := hmn.1; have := hle.1; omega
  replace hcm : (cells + (σ1.2.2 3001 - σ.2.2 3001)) ≤ mc := by have := hmn.1; have := hle.1; omega
  generalize cells + (σ1.2.2 3001 - σ.2.2 3001) = cells at hcq hcm ⊢
  replace hsq : (slots + (σ1.2.2 3002 - σ.2.2 3002)) + σf.2.2 3002 ≤ ms + σ1.2.2 3002 := by have := hmn.2; have := hle.2; omega
  replace hsm : (slots + (σ1.2.2 3002 - σ.2.2 3002)) ≤ ms := by have := hmn.2; have := hle.2; omega
  generalize slots + (σ1.2.2 3002 - σ.2.2 3002) = slots at hsq hsm ⊢
  refine ax_aload_n (pc := 8) C d_For_later_8 rfl 0 rfl ?_
  refine cg_14_15_For_52 (pc := 9) C d_For_later_9 ?_
  refine ax_iload_n (pc := 12) C d_For_later_12 rfl 2 rfl ?_
  refine ax_if_eq (pc := 13) C 20 d_For_later_13 (by decide) (fun hc => ?_) (fun hc => ?_)
  · replace h := it_t hc h
    refine ax_iconst (pc := 20) C 0 d_For_later_20 (by decide +kernel) ?_
    refine ax_ls ([(0, .ref (u 14)), (1, .int x0), (2, .int x1), (3, .int x2)]) [0, 1, 2, 3] rfl ?_
    replace hm : sG_For_later_p21 l D kA u σ1 [x0, x1, x2, 0] (σf, rf, _) := ih tG_For_later_p21 _ _ _ h
    exact hm _ _ _ _ rfl w1 tx p e s m args below meth c F Lo mc ms cells slots σ0 w0 tx hF hLo hcq hsq hga1 C
  · replace h := it_f hc h
    refine ax_iconst (pc := 16) C 1 d_For_later_16 (by decide +kernel) ?_
    refine ax_goto (pc := 17) C 21 d_For_later_17 (by decide) ?_
    refine ax_ls ([(0, .ref (u 14)), (1, .int x0), (2, .int x1), (3, .int x2)]) [0, 1, 2, 3] rfl ?_
    replace hm : sG_For_later_p21 l D kA u σ1 [x0, x1, x2, 1] (σf, rf, _) := ih tG_For_later_p21 _ _ _ h
    exact hm _ _ _ _ rfl w1 tx p e s m args below meth c F Lo mc ms cells slots σ0 w0 tx hF hLo hcq hsq hga1 C
set_option maxHeartbeats 4000000 in
set_option maxRecDepth 100000 in
theorem oG_For_later_p21 (l : Launch) (D : va_G) (kA : Nat → ClassId) (u : Nat → Nat) (rec : mF) (hG : GM rec) (ihC : ∀ (w : Nat → Nat) (tx : Value) t σ xs res, rec t σ xs = some res → cSem l D kA u w tx t σ xs res) (ih : ∀ t σ xs res, rec t σ xs = some res → gSem l D kA u t σ xs res) (σ : mS) (xs : List Int32) (res : mR) (h : u_4 (kG_For_later_p21 rec σ) xs = some res) : sG_For_later_p21 l D kA u σ xs res := by
  intro x0 x1 x2 x3 hxs w tx
  subst hxs
  obtain ⟨σf, rf, dd⟩ := res
  have hmn : gle σ σf := qG_For_later_p21 rec hG σ x0 x1 x2 x3 _ h
  have h : (if rok σ 2901 30 = true then (lt_ (rAdd σ 2901 30 x3) (fun σ1 => if rok σ1 2901 30 = true then (lt_ (rAdd σ1 2901 30 x2) (fun σ2 => some (σ2, 0, 0))) else none)) else none) = some (σf, rf, dd) := h
  intro p e s m args below meth c F Lo mc ms cells slots σ0 w0 tx0 hF hLo hcq hsq hga C
  dsimp only at hF hLo hcq hsq ⊢
  have hcm : cells ≤ mc := by have := hmn.1; omega
  have hsm : slots ≤ ms := by have := hmn.2; omega
  have hle : True := trivial
  have hm : True := trivial
  replace h := it_g h
  obtain ⟨hb, h⟩ := h
  replace h := it_l h
  replace hle := rAdd_le σ 2901 30 x3
  replace hmn : gle (rAdd σ 2901 30 x3) σf := gm_use h (gm_if (gm_lt (rAdd_le _ _ _ _) gm_some) gm_none)
  refine ca_29 (pc := 21) C (rest := []) ml_For_72 d_For_later_21 hb hF hLo (by have := hmn.1; have := hle.1; omega) (by have := hmn.2; have := hle.2; omega) (Nat.le_of_ble_eq_true rfl) (fun w1 hag1 => ?_)
  generalize rAdd σ 2901 30 x3 = σ1 at h hmn hle ⊢
  have hga1 : ∀ i, ([30] : List Nat).elem i = false → w1 i = w0 i := fun i hi => (hag1 i (by revert hi; exact el_sub (by decide))).trans (hga i hi)
  replace hcq : (cells + (σ1.2.2 3001 - σ.2.2 3001)) + σf.2.2 3001 ≤ mc + σ1.2.2 3001 := by have := hmn.1; have := hle.1; omega
  replace hcm : (cells + (σ1.2.2 3001 - σ.2.2 3001)) ≤ mc := by have := hmn.1; have := hle.1; omega
  generalize cells + (σ1.2.2 3001 - σ.2.2 3001) = cells at hcq hcm ⊢
  replace hsq : (slots + (σ1.2.2 3002 - σ.2.2 3002)) + σf.2.2 3002 ≤ ms + σ1.2.2 3002 := by have := hmn.2; have := hle.2; omega
  replace hsm : (slots + (σ1.2.2 3002 - σ.2.2 3002)) ≤ ms := by have := hmn.2; have := hle.2; omega
  generalize slots + (σ1.2.2 3002 - σ.2.2 3002) = slots at hsq hsm ⊢
  refine ax_aload_n (pc := 24) C d_For_later_24 rfl 0 rfl ?_
  refine cg_14_15_For_52 (pc := 25) C d_For_later_25 ?_
  refine ax_iload_n (pc := 28) C d_For_later_28 rfl 3 rfl ?_
  replace h := it_g h
  obtain ⟨hb, h⟩ := h
  replace h := it_l h
  replace hle := rAdd_le σ1 2901 30 x2
  replace hmn : gle (rAdd σ1 2901 30 x2) σf := gm_use h gm_some
  refine ca_29 (pc := 29) C (rest := []) ml_For_72 d_For_later_29 hb hF hLo (by have := hmn.1; have := hle.1; omega) (by have := hmn.2; have := hle.2; omega) (Nat.le_of_ble_eq_true rfl) (fun w2 hag2 => ?_)
  generalize rAdd σ1 2901 30 x2 = σ2 at h hmn hle ⊢
  have hga2 : ∀ i, ([30] : List Nat).elem i = false → w2 i = w0 i := fun i hi => (hag2 i (by revert hi; exact el_sub (by decide))).trans (hga1 i hi)
  replace hcq : (cells + (σ2.2.2 3001 - σ1.2.2 3001)) + σf.2.2 3001 ≤ mc + σ2.2.2 3001 := by have := hmn.1; have := hle.1; omega
  replace hcm : (cells + (σ2.2.2 3001 - σ1.2.2 3001)) ≤ mc := by have := hmn.1; have := hle.1; omega
  generalize cells + (σ2.2.2 3001 - σ1.2.2 3001) = cells at hcq hcm ⊢
  replace hsq : (slots + (σ2.2.2 3002 - σ1.2.2 3002)) + σf.2.2 3002 ≤ ms + σ2.2.2 3002 := by have := hmn.2; have := hle.2; omega
  replace hsm : (slots + (σ2.2.2 3002 - σ1.2.2 3002)) ≤ ms := by have := hmn.2; have := hle.2; omega
  generalize slots + (σ2.2.2 3002 - σ1.2.2 3002) = slots at hsq hsm ⊢
  cases h
  exact ax_vret (pc := 32) C d_For_later_32 ⟨w2, tx, hga2, rfl, rfl⟩ hcm hsm
set_option maxHeartbeats 4000000 in
set_option maxRecDepth 100000 in
theorem oG_For_makeClauses (l : Launch) (D : va_G) (kA : Nat → ClassId) (u : Nat → Nat) (rec : mF) (hG : GM rec) (ihC : ∀ (w : Nat → Nat) (tx : Value) t σ xs res, rec t σ xs = some res → cSem l D kA u w tx t σ xs res) (ih : ∀ t σ xs res, rec t σ xs = some res → gSem l D kA u t σ xs res) (σ : mS) (xs : List Int32) (res : mR) (h : u_0 (kG_For_makeClauses rec σ) xs = some res) : sG_For_makeClauses l D kA u σ xs res := by
  intro hxs w tx
  subst hxs
  obtain ⟨σf, rf, dd⟩ := res
  have hmn : gle σ σf := qG_For_makeClauses rec hG σ _ h
  have h : (rec tG_For_makeClauses_p5 σ [0, 0]) = some (σf, rf, dd) := h
  refine ax_Mi.of (by decide +kernel) (Nat.le_of_ble_eq_true rfl) ?_
  intro p e s m args below meth c C hnm
  replace C : ax_C p s m args meth c b_For_makeClauses "ClauseProver$Formulas" 8 (some .int) D kA (va_A (cpW kA u w tx σ) s.heap.size) := C
  obtain ⟨F, hFe⟩ : ∃ z, z = dd + 3 := ⟨_, rfl⟩
  obtain ⟨Lo, hLoe⟩ : ∃ z, z = 48 * dd + 144 := ⟨_, rfl⟩
  obtain ⟨mc, hmce⟩ : ∃ z, z = σf.2.2 3001 - σ.2.2 3001 := ⟨_, rfl⟩
  obtain ⟨ms, hmse⟩ : ∃ z, z = σf.2.2 3002 - σ.2.2 3002 := ⟨_, rfl⟩
  obtain ⟨σ0, hσ0e⟩ : ∃ z, z = σ := ⟨_, rfl⟩
  obtain ⟨w0, hw0e⟩ : ∃ z, z = w := ⟨_, rfl⟩
  obtain ⟨tx0, htx0e⟩ : ∃ z, z = tx := ⟨_, rfl⟩
  suffices K : ∀ (cells slots : Nat), cells = 0 → slots = 0 → AW p l e { frames := F, cells := mc, slots := ms, locals := Lo } s m args below meth c D kA (va_A (cpW kA u w0 tx0 σ0) s.heap.size) 8 (ax_Qi below args s D kA (cpW kA u w0 tx0 σ0) mc ms (fun r w1 => r = rf ∧ ∃ (w2 : Nat → Nat) (tx2 : Value), (∀ i, ([30, 48, 52] : List Nat).elem i = false → w2 i = w0 i) ∧ tx2 = tx0 ∧ w1 = cpW kA u w2 tx2 σf)) 0 [(0, .ref (u 14)), (1, .ref (u 39)), (2, .ref (u 54))] [] (cpW kA u w tx σ) cells slots by
    have K := K 0 0 rfl rfl
    rw [hFe, hLoe, hmce, hmse, hσ0e, hw0e, htx0e] at K
    exact ax_ls ([(0, .ref (u 14)), (1, .ref (u 39)), (2, .ref (u 54))]) [0, 1, 2] rfl K
  replace C : ax_C p s m args meth c b_For_makeClauses "ClauseProver$Formulas" 8 (some .int) D kA (va_A (cpW kA u w0 tx0 σ0) s.heap.size) := by rw [hσ0e, hw0e, htx0e]; exact C
  intro cells slots hc0 hs0
  have hcq : cells + σf.2.2 3001 ≤ mc + σ.2.2 3001 := by have := hmn.1; omega
  have hsq : slots + σf.2.2 3002 ≤ ms + σ.2.2 3002 := by have := hmn.2; omega
  have hga : ∀ i, ([30, 48, 52] : List Nat).elem i = false → w i = w0 i := fun i _ => by rw [hw0e]
  have e9 : tx = tx0 := htx0e.symm
  subst e9
  have hF : dd + 3 ≤ F := by omega
  have hLo : 48 * dd + 144 ≤ Lo := by omega
  have hcm : cells ≤ mc := by have := hmn.1; omega
  have hsm : slots ≤ ms := by have := hmn.2; omega
  have hle : True := trivial
  have hm : True := trivial
  refine ax_iconst (pc := 0) C 0 d_For_makeClauses_0 (by decide +kernel) ?_
  refine ax_istore_n (pc := 1) C d_For_makeClauses_1 rfl (Nat.le_of_ble_eq_true rfl) ([(3, .int 0), (0, .ref (u 14)), (1, .ref (u 39)), (2, .ref (u 54))]) rfl ?_
  refine ax_iconst (pc := 2) C 0 d_For_makeClauses_2 (by decide +kernel) ?_
  refine ax_istore (pc := 3) C d_For_makeClauses_3 (Nat.le_of_ble_eq_true rfl) ([(4, .int 0), (3, .int 0), (0, .ref (u 14)), (1, .ref (u 39)), (2, .ref (u 54))]) rfl ?_
  refine ax_ls ([(0, .ref (u 14)), (1, .ref (u 39)), (2, .ref (u 54)), (3, .int 0), (4, .int 0)]) [2, 3, 4, 1, 0] rfl ?_
  replace hm : sG_For_makeClauses_p5 l D kA u σ [0, 0] (σf, rf, _) := ih tG_For_makeClauses_p5 _ _ _ h
  exact hm _ _ rfl w tx p e s m args below meth c F Lo mc ms cells slots σ0 w0 tx hF hLo hcq hsq hga C
set_option maxHeartbeats 4000000 in
set_option maxRecDepth 100000 in
theorem oG_For_makeClauses_p5 (l : Launch) (D : va_G) (kA : Nat → ClassId) (u : Nat → Nat) (rec : mF) (hG : GM rec) (ihC : ∀ (w : Nat → Nat) (tx : Value) t σ xs res, rec t σ xs = some res → cSem l D kA u w tx t σ xs res) (ih : ∀ t σ xs res, rec t σ xs = some res → gSem l D kA u t σ xs res) (σ : mS) (xs : List Int32) (res : mR) (h : u_2 (kG_For_makeClauses_p5 rec σ) xs = some res) : sG_For_makeClauses_p5 l D kA u σ xs res := by
  intro x0 x1 hxs w tx
  subst hxs
  obtain ⟨σf, rf, dd⟩ := res
  have hmn : gle σ σf := qG_For_makeClauses_p5 rec hG σ x0 x1 _ h
  have h : (if (σ.1 2001) ≤ x1 then (some (σ, (-1), 0)) else (if bin ((x1 : Int32) + 2) (σ.2.2 21) = true then (if bin ((x1 : Int32) + 1) (σ.2.2 21) = true then (if (σ.2.1 21 (Int32.toNatClampNeg ((x1 : Int32) + 1))) = 0 then (rec tG_For_makeClauses_p51 σ [x0, x1, (σ.2.1 21 (Int32.toNatClampNeg ((x1 : Int32) + 2))), 1]) else (rec tG_For_makeClauses_p51 σ [x0, x1, (σ.2.1 21 (Int32.toNatClampNeg ((x1 : Int32) + 2))), 0])) else none) else none)) = some (σf, rf, dd) := h
  intro p e s m args below meth c F Lo mc ms cells slots σ0 w0 tx0 hF hLo hcq hsq hga C
  dsimp only at hF hLo hcq hsq ⊢
  have hcm : cells ≤ mc := by have := hmn.1; omega
  have hsm : slots ≤ ms := by have := hmn.2; omega
  have hle : True := trivial
  have hm : True := trivial
  refine ax_iload (pc := 5) C d_For_makeClauses_5 4 rfl ?_
  refine ax_aload_n (pc := 7) C d_For_makeClauses_7 rfl 0 rfl ?_
  refine cg_14_6_For_27 (pc := 8) C d_For_makeClauses_8 ?_
  refine cg_20_1_For_59 (pc := 11) C d_For_makeClauses_11 ?_
  refine ax_icmp_ge (pc := 14) C 176 d_For_makeClauses_14 (by decide) (fun hc => ?_) (fun hc => ?_)
  · replace h := it_t hc h
    refine ax_iconst (pc := 176) C (-1) d_For_makeClauses_176 (by decide +kernel) ?_
    cases h
    exact ax_iret (pc := 177) C d_For_makeClauses_177 ⟨rfl, w, tx, hga, rfl, rfl⟩ hcm hsm
  · replace h := it_f hc h
    refine ax_aload_n (pc := 17) C d_For_makeClauses_17 rfl 0 rfl ?_
    refine cg_14_6_For_27 (pc := 18) C d_For_makeClauses_18 ?_
    refine cg_20_0_For_75 (pc := 21) C d_For_makeClauses_21 ?_
    refine ax_iload (pc := 24) C d_For_makeClauses_24 4 rfl ?_
    refine ax_iconst (pc := 26) C 2 d_For_makeClauses_26 (by decide +kernel) ?_
    refine ax_iadd (pc := 27) C d_For_makeClauses_27 ?_
    replace h := it_g h
    obtain ⟨hb, h⟩ := h
    refine cl_21 (pc := 28) C d_For_makeClauses_28 (bin_in hb) ?_
    refine ax_istore (pc := 29) C d_For_makeClauses_29 (Nat.le_of_ble_eq_true rfl) ([(5, .int (σ.2.1 21 (Int32.toNatClampNeg ((x1 : Int32) + 2)))), (0, .ref (u 14)), (1, .ref (u 39)), (2, .ref (u 54)), (3, .int x0), (4, .int x1)]) rfl ?_
    refine ax_aload_n (pc := 31) C d_For_makeClauses_31 rfl 1 rfl ?_
    refine cg_14_6_For_27 (pc := 32) C d_For_makeClauses_32 ?_
    refine cg_20_0_For_75 (pc := 35) C d_For_makeClauses_35 ?_
    refine ax_iload (pc := 38) C d_For_makeClauses_38 5 rfl ?_
    refine ax_iconst (pc := 40) C 1 d_For_makeClauses_40 (by decide +kernel) ?_
    refine ax_iadd (pc := 41) C d_For_makeClauses_41 ?_
    replace h := it_g h
    obtain ⟨hb, h⟩ := h
    refine cl_21 (pc := 42) C d_For_makeClauses_42 (bin_in hb) ?_
    refine ax_if_ne (pc := 43) C 50 d_For_makeClauses_43 (by decide) (fun hc => ?_) (fun hc => ?_)
    · replace h := it_f hc h
      refine ax_iconst (pc := 50) C 0 d_For_makeClauses_50 (by decide +kernel) ?_
      refine ax_ls ([(0, .ref (u 14)), (1, .ref (u 39)), (2, .ref (u 54)), (3, .int x0), (4, .int x1), (5, .int (σ.2.1 21 (Int32.toNatClampNeg ((x1 : Int32) + 2))))]) [1, 2, 3, 4, 5, 0] rfl ?_
      replace hm : sG_For_makeClauses_p51 l D kA u σ [x0, x1, (σ.2.1 21 (Int32.toNatClampNeg ((x1 : Int32) + 2))), 0] (σf, rf, _) := ih tG_For_makeClauses_p51 _ _ _ h
      exact hm _ _ _ _ rfl w tx p e s m args below meth c F Lo mc ms cells slots σ0 w0 tx0 hF hLo hcq hsq hga C
    · replace h := it_t hc h
      refine ax_iconst (pc := 46) C 1 d_For_makeClauses_46 (by decide +kernel) ?_
      refine ax_goto (pc := 47) C 51 d_For_makeClauses_47 (by decide) ?_
      refine ax_ls ([(0, .ref (u 14)), (1, .ref (u 39)), (2, .ref (u 54)), (3, .int x0), (4, .int x1), (5, .int (σ.2.1 21 (Int32.toNatClampNeg ((x1 : Int32) + 2))))]) [1, 2, 3, 4, 5, 0] rfl ?_
      replace hm : sG_For_makeClauses_p51 l D kA u σ [x0, x1, (σ.2.1 21 (Int32.toNatClampNeg ((x1 : Int32) + 2))), 1] (σf, rf, _) := ih tG_For_makeClauses_p51 _ _ _ h
      exact hm _ _ _ _ rfl w tx p e s m args below meth c F Lo mc ms cells slots σ0 w0 tx0 hF hLo hcq hsq hga C
set_option maxHeartbeats 4000000 in
set_option maxRecDepth 100000 in
theorem oG_For_makeClauses_p51 (l : Launch) (D : va_G) (kA : Nat → ClassId) (u : Nat → Nat) (rec : mF) (hG : GM rec) (ihC : ∀ (w : Nat → Nat) (tx : Value) t σ xs res, rec t σ xs = some res → cSem l D kA u w tx t σ xs res) (ih : ∀ t σ xs res, rec t σ xs = some res → gSem l D kA u t σ xs res) (σ : mS) (xs : List Int32) (res : mR) (h : u_4 (kG_For_makeClauses_p51 rec σ) xs = some res) : sG_For_makeClauses_p51 l D kA u σ xs res := by
  intro x0 x1 x2 x3 hxs w tx
  subst hxs
  obtain ⟨σf, rf, dd⟩ := res
  have hmn : gle σ σf := qG_For_makeClauses_p51 rec hG σ x0 x1 x2 x3 _ h
  have h : (bnd (rec tC_For_clausesOf σ [x2, x3]) (fun σ1 r1 => bnd (rec tC_For_get σ1 [x2, 3]) (fun σ2 r2 => if 200 < r2 then (rec tG_For_makeClauses_p84 σ2 [((x0 : Int32) + r1), x1, x2, x3]) else (if ((x0 : Int32) + r1) ≤ 200 then (rec tG_For_makeClauses_p100 σ2 [((x0 : Int32) + r1), x1, x2, x3, 0]) else (rec tG_For_makeClauses_p84 σ2 [((x0 : Int32) + r1), x1, x2, x3]))))) = some (σf, rf, dd) := h
  intro p e s m args below meth c F Lo mc ms cells slots σ0 w0 tx0 hF hLo hcq hsq hga C
  dsimp only at hF hLo hcq hsq ⊢
  have hcm : cells ≤ mc := by have := hmn.1; omega
  have hsm : slots ≤ ms := by have := hmn.2; omega
  have hle : True := trivial
  have hm : True := trivial
  refine ax_istore (pc := 51) C d_For_makeClauses_51 (Nat.le_of_ble_eq_true rfl) ([(6, .int x3), (0, .ref (u 14)), (1, .ref (u 39)), (2, .ref (u 54)), (3, .int x0), (4, .int x1), (5, .int x2)]) rfl ?_
  refine ax_iload_n (pc := 53) C d_For_makeClauses_53 rfl 4 rfl ?_
  refine ax_aload_n (pc := 54) C d_For_makeClauses_54 rfl 1 rfl ?_
  refine ax_iload (pc := 55) C d_For_makeClauses_55 6 rfl ?_
  refine ax_iload (pc := 57) C d_For_makeClauses_57 0 rfl ?_
  replace h := it_b h
  obtain ⟨σ1, r1, d1_1, d2_1, h1, h, hd2, hd1⟩ := h
  replace hle := hG _ _ _ _ (by decide) h1
  dsimp only at hle
  replace hmn : gle σ1 σf := gm_use h (gm_bnd hG (Nat.le_of_ble_eq_true rfl) (fun _ _ => (gm_if (gm_tail hG (Nat.le_of_ble_eq_true rfl)) (gm_if (gm_tail hG (Nat.le_of_ble_eq_true rfl)) (gm_tail hG (Nat.le_of_ble_eq_true rfl))))))
  replace hm : sC_For_clausesOf l D kA u w tx σ [x2, x3] (σ1, r1, d1_1) := ihC _ _ tC_For_clausesOf _ _ _ h1
  refine cc_Vi (pc := 59) C (r0 := r1) (σ2 := σ1) (As := [.int x2, .int x3]) (rest := [.int x0]) (hm _ _ rfl) ml_For_127 14 rfl rfl rfl d_For_makeClauses_59 rfl rfl (by dsimp only; omega) (by dsimp only; omega) hcm hsm (Nat.le_of_ble_eq_true rfl) ?_
  replace hcq : cells + σf.2.2 3001 ≤ mc + σ1.2.2 3001 := by have := hle.1; omega
  replace hsq : slots + σf.2.2 3002 ≤ ms + σ1.2.2 3002 := by have := hle.2; omega
  replace hF : d2_1 + 3 ≤ F := by omega
  replace hLo : 48 * d2_1 + 144 ≤ Lo := by omega
  refine ax_iadd (pc := 62) C d_For_makeClauses_62 ?_
  refine ax_istore_n (pc := 63) C d_For_makeClauses_63 rfl (Nat.le_of_ble_eq_true rfl) ([(3, .int ((x0 : Int32) + r1)), (6, .int x3), (0, .ref (u 14)), (1, .ref (u 39)), (2, .ref (u 54)), (4, .int x1), (5, .int x2)]) rfl ?_
  refine ax_aload_n (pc := 64) C d_For_makeClauses_64 rfl 2 rfl ?_
  refine ax_iload (pc := 65) C d_For_makeClauses_65 6 rfl ?_
  refine ax_iconst (pc := 67) C 3 d_For_makeClauses_67 (by decide +kernel) ?_
  replace h := it_b h
  obtain ⟨σ2, r2, d1_2, d2_2, h1, h, hd2, hd1⟩ := h
  replace hle := hG _ _ _ _ (by decide) h1
  dsimp only at hle
  replace hmn : gle σ2 σf := gm_use h (gm_if (gm_tail hG (Nat.le_of_ble_eq_true rfl)) (gm_if (gm_tail hG (Nat.le_of_ble_eq_true rfl)) (gm_tail hG (Nat.le_of_ble_eq_true rfl))))
  replace hm : sC_For_get l D kA u w tx σ1 [x2, 3] (σ2, r2, d1_2) := ihC _ _ tC_For_get _ _ _ h1
  refine cc_Vi (pc := 68) C (r0 := r2) (σ2 := σ2) (As := [.int x2, .int 3]) (rest := []) (hm _ _ rfl) ml_For_104 14 rfl rfl rfl d_For_makeClauses_68 rfl rfl (by dsimp only; omega) (by dsimp only; omega) hcm hsm (Nat.le_of_ble_eq_true rfl) ?_
  replace hcq : cells + σf.2.2 3001 ≤ mc + σ2.2.2 3001 := by have := hle.1; omega
  replace hsq : slots + σf.2.2 3002 ≤ ms + σ2.2.2 3002 := by have := hle.2; omega
  replace hF : d2_2 + 3 ≤ F := by omega
  replace hLo : 48 * d2_2 + 144 ≤ Lo := by omega
  refine ax_sipush (pc := 71) C 200 d_For_makeClauses_71 (by decide +kernel) ?_
  refine ax_icmp_gt (pc := 74) C 84 d_For_makeClauses_74 (by decide) (fun hc => ?_) (fun hc => ?_)
  · replace h := it_t hc h
    refine ax_ls ([(0, .ref (u 14)), (1, .ref (u 39)), (2, .ref (u 54)), (3, .int ((x0 : Int32) + r1)), (4, .int x1), (5, .int x2), (6, .int x3)]) [2, 3, 4, 0, 5, 6, 1] rfl ?_
    replace hm : sG_For_makeClauses_p84 l D kA u σ2 [((x0 : Int32) + r1), x1, x2, x3] (σf, rf, _) := ih tG_For_makeClauses_p84 _ _ _ h
    exact hm _ _ _ _ rfl w tx p e s m args below meth c F Lo mc ms cells slots σ0 w0 tx0 hF hLo hcq hsq hga C
  · replace h := it_f hc h
    refine ax_iload_n (pc := 77) C d_For_makeClauses_77 rfl 0 rfl ?_
    refine ax_sipush (pc := 78) C 200 d_For_makeClauses_78 (by decide +kernel) ?_
    refine ax_icmp_le (pc := 81) C 97 d_For_makeClauses_81 (by decide) (fun hc => ?_) (fun hc => ?_)
    · replace h := it_t hc h
      refine ax_iconst (pc := 97) C 0 d_For_makeClauses_97 (by decide +kernel) ?_
      refine ax_istore (pc := 98) C d_For_makeClauses_98 (Nat.le_of_ble_eq_true rfl) ([(7, .int 0), (3, .int ((x0 : Int32) + r1)), (6, .int x3), (0, .ref (u 14)), (1, .ref (u 39)), (2, .ref (u 54)), (4, .int x1), (5, .int x2)]) rfl ?_
      refine ax_ls ([(0, .ref (u 14)), (1, .ref (u 39)), (2, .ref (u 54)), (3, .int ((x0 : Int32) + r1)), (4, .int x1), (5, .int x2), (6, .int x3), (7, .int 0)]) [3, 4, 5, 1, 6, 7, 2, 0] rfl ?_
      replace hm : sG_For_makeClauses_p100 l D kA u σ2 [((x0 : Int32) + r1), x1, x2, x3, 0] (σf, rf, _) := ih tG_For_makeClauses_p100 _ _ _ h
      exact hm _ _ _ _ _ rfl w tx p e s m args below meth c F Lo mc ms cells slots σ0 w0 tx0 hF hLo hcq hsq hga C
    · replace h := it_f hc h
      refine ax_ls ([(0, .ref (u 14)), (1, .ref (u 39)), (2, .ref (u 54)), (3, .int ((x0 : Int32) + r1)), (4, .int x1), (5, .int x2), (6, .int x3)]) [2, 3, 4, 0, 5, 6, 1] rfl ?_
      replace hm : sG_For_makeClauses_p84 l D kA u σ2 [((x0 : Int32) + r1), x1, x2, x3] (σf, rf, _) := ih tG_For_makeClauses_p84 _ _ _ h
      exact hm _ _ _ _ rfl w tx p e s m args below meth c F Lo mc ms cells slots σ0 w0 tx0 hF hLo hcq hsq hga C
set_option maxHeartbeats 4000000 in
set_option maxRecDepth 100000 in
theorem oG_For_makeClauses_p84 (l : Launch) (D : va_G) (kA : Nat → ClassId) (u : Nat → Nat) (rec : mF) (hG : GM rec) (ihC : ∀ (w : Nat → Nat) (tx : Value) t σ xs res, rec t σ xs = some res → cSem l D kA u w tx t σ xs res) (ih : ∀ t σ xs res, rec t σ xs = some res → gSem l D kA u t σ xs res) (σ : mS) (xs : List Int32) (res : mR) (h : u_4 (kG_For_makeClauses_p84 rec σ) xs = some res) : sG_For_makeClauses_p84 l D kA u σ xs res := by
  intro x0 x1 x2 x3 hxs w tx
  subst hxs
  obtain ⟨σf, rf, dd⟩ := res
  have hmn : gle σ σf := qG_For_makeClauses_p84 rec hG σ x0 x1 x2 x3 _ h
  have h : (if bin ((x1 : Int32) + 0) (σ.2.2 21) = true then (some (σ, (σ.2.1 21 (Int32.toNatClampNeg ((x1 : Int32) + 0))), 0)) else none) = some (σf, rf, dd) := h
  intro p e s m args below meth c F Lo mc ms cells slots σ0 w0 tx0 hF hLo hcq hsq hga C
  dsimp only at hF hLo hcq hsq ⊢
  have hcm : cells ≤ mc := by have := hmn.1; omega
  have hsm : slots ≤ ms := by have := hmn.2; omega
  have hle : True := trivial
  have hm : True := trivial
  refine ax_aload_n (pc := 84) C d_For_makeClauses_84 rfl 0 rfl ?_
  refine cg_14_6_For_27 (pc := 85) C d_For_makeClauses_85 ?_
  refine cg_20_0_For_75 (pc := 88) C d_For_makeClauses_88 ?_
  refine ax_iload (pc := 91) C d_For_makeClauses_91 4 rfl ?_
  refine ax_iconst (pc := 93) C 0 d_For_makeClauses_93 (by decide +kernel) ?_
  refine ax_iadd (pc := 94) C d_For_makeClauses_94 ?_
  replace h := it_g h
  obtain ⟨hb, h⟩ := h
  refine cl_21 (pc := 95) C d_For_makeClauses_95 (bin_in hb) ?_
  cases h
  exact ax_iret (pc := 96) C d_For_makeClauses_96 ⟨rfl, w, tx, hga, rfl, rfl⟩ hcm hsm
set_option maxHeartbeats 4000000 in
set_option maxRecDepth 100000 in
theorem oG_For_makeClauses_p100 (l : Launch) (D : va_G) (kA : Nat → ClassId) (u : Nat → Nat) (rec : mF) (hG : GM rec) (ihC : ∀ (w : Nat → Nat) (tx : Value) t σ xs res, rec t σ xs = some res → cSem l D kA u w tx t σ xs res) (ih : ∀ t σ xs res, rec t σ xs = some res → gSem l D kA u t σ xs res) (σ : mS) (xs : List Int32) (res : mR) (h : u_5 (kG_For_makeClauses_p100 rec σ) xs = some res) : sG_For_makeClauses_p100 l D kA u σ xs res := by
  intro x0 x1 x2 x3 x4 hxs w tx
  subst hxs
  obtain ⟨σf, rf, dd⟩ := res
  have hmn : gle σ σf := qG_For_makeClauses_p100 rec hG σ x0 x1 x2 x3 x4 _ h
  have h : (bnd (rec tC_For_clausesOf σ [x2, x3]) (fun σ1 r1 => if r1 ≤ x4 then (rec tG_For_makeClauses_p5 σ1 [x0, (x1 + 5)]) else (bnd (rec tG_For_writeClause σ1 [x2, x3, x4]) (fun σ2 r2 => if (σ2.1 3907) = 0 then (bnd (rec tC_Dra_reduce σ2 []) (fun σ3 r3 => bnd (rec tC_Dra_isTautology σ3 []) (fun σ4 r4 => if r4 = 0 then (bnd (rec tG_Sto_add σ4 [0, (-1), (-1)]) (fun σ5 r5 => rec tG_For_makeClauses_p164 σ5 [x0, x1, x2, x3, x4])) else (rec tG_For_makeClauses_p164 σ4 [x0, x1, x2, x3, x4])))) else (if bin ((x1 : Int32) + 0) (σ2.2.2 21) = true then (some (σ2, (σ2.2.1 21 (Int32.toNatClampNeg ((x1 : Int32) + 0))), 0)) else none))))) = some (σf, rf, dd) := h
  intro p e s m args below meth c F Lo mc ms cells slots σ0 w0 tx0 hF hLo hcq hsq hga C
  dsimp only at hF hLo hcq hsq ⊢
  have hcm : cells ≤ mc := by have := hmn.1; omega
  have hsm : slots ≤ ms := by have := hmn.2; omega
  have hle : True := trivial
  have hm : True := trivial
  refine ax_iload (pc := 100) C d_For_makeClauses_100 7 rfl ?_
  refine ax_aload_n (pc := 102) C d_For_makeClauses_102 rfl 0 rfl ?_
  refine ax_iload (pc := 103) C d_For_makeClauses_103 5 rfl ?_
  refine ax_iload (pc := 105) C d_For_makeClauses_105 6 rfl ?_
  replace h := it_b h
  obtain ⟨σ1, r1, d1_1, d2_1, h1, h, hd2, hd1⟩ := h
  replace hle := hG _ _ _ _ (by decide) h1
  dsimp only at hle
  replace hmn : gle σ1 σf := gm_use h (gm_if (gm_tail hG (Nat.le_of_ble_eq_true rfl)) (gm_bnd hG (Nat.le_of_ble_eq_true rfl) (fun _ _ => (gm_if (gm_bnd hG (Nat.le_of_ble_eq_true rfl) (fun _ _ => (gm_bnd hG (Nat.le_of_ble_eq_true rfl) (fun _ _ => (gm_if (gm_bnd hG (Nat.le_of_ble_eq_true rfl) (fun _ _ => (gm_tail hG (Nat.le_of_ble_eq_true rfl)))) (gm_tail hG (Nat.le_of_ble_eq_true rfl))))))) (gm_if gm_some gm_none)))))
  replace hm : sC_For_clausesOf l D kA u w tx σ [x2, x3] (σ1, r1, d1_1) := ihC _ _ tC_For_clausesOf _ _ _ h1
  refine cc_Vi (pc := 107) C (r0 := r1) (σ2 := σ1) (As := [.int x2, .int x3]) (rest := [.int x4]) (hm _ _ rfl) ml_For_127 14 rfl rfl rfl d_For_makeClauses_107 rfl rfl (by dsimp only; omega) (by dsimp only; omega) hcm hsm (Nat.le_of_ble_eq_true rfl) ?_
  replace hcq : cells + σf.2.2 3001 ≤ mc + σ1.2.2 3001 := by have := hle.1; omega
  replace hsq : slots + σf.2.2 3002 ≤ ms + σ1.2.2 3002 := by have := hle.2; omega
  replace hF : d2_1 + 3 ≤ F := by omega
  replace hLo : 48 * d2_1 + 144 ≤ Lo := by omega
  refine ax_icmp_ge (pc := 110) C 170 d_For_makeClauses_110 (by decide) (fun hc => ?_) (fun hc => ?_)
  · replace h := it_t hc h
    refine ax_iinc (pc := 170) C (x1 + 5) d_For_makeClauses_170 4 rfl rfl (Nat.le_of_ble_eq_true rfl) ([(4, .int (x1 + 5)), (0, .ref (u 14)), (1, .ref (u 39)), (2, .ref (u 54)), (3, .int x0), (5, .int x2), (6, .int x3), (7, .int x4)]) rfl ?_
    refine ax_goto (pc := 173) C 5 d_For_makeClauses_173 (by decide) ?_
    refine ax_ls ([(0, .ref (u 14)), (1, .ref (u 39)), (2, .ref (u 54)), (3, .int x0), (4, .int (x1 + 5))]) [1, 2, 3, 4, 0] rfl ?_
    replace hm : sG_For_makeClauses_p5 l D kA u σ1 [x0, (x1 + 5)] (σf, rf, _) := ih tG_For_makeClauses_p5 _ _ _ h
    exact hm _ _ rfl w tx p e s m args below meth c F Lo mc ms cells slots σ0 w0 tx0 hF hLo hcq hsq hga C
  · replace h := it_f hc h
    refine ax_aload_n (pc := 113) C d_For_makeClauses_113 rfl 0 rfl ?_
    refine ax_aload_n (pc := 114) C d_For_makeClauses_114 rfl 1 rfl ?_
    refine ax_iload (pc := 115) C d_For_makeClauses_115 5 rfl ?_
    refine ax_iload (pc := 117) C d_For_makeClauses_117 6 rfl ?_
    refine ax_iload (pc := 119) C d_For_makeClauses_119 7 rfl ?_
    replace h := it_b h
    obtain ⟨σ2, r2, d1_2, d2_2, h1, h, hd2, hd1⟩ := h
    replace hle := hG _ _ _ _ (by decide) h1
    dsimp only at hle
    replace hmn : gle σ2 σf := gm_use h (gm_if (gm_bnd hG (Nat.le_of_ble_eq_true rfl) (fun _ _ => (gm_bnd hG (Nat.le_of_ble_eq_true rfl) (fun _ _ => (gm_if (gm_bnd hG (Nat.le_of_ble_eq_true rfl) (fun _ _ => (gm_tail hG (Nat.le_of_ble_eq_true rfl)))) (gm_tail hG (Nat.le_of_ble_eq_true rfl))))))) (gm_if gm_some gm_none))
    replace hm : sG_For_writeClause l D kA u σ1 [x2, x3, x4] (σ2, r2, d1_2) := ih tG_For_writeClause _ _ _ h1
    refine gc_Vv (pc := 121) C (As := [.ref (u 39), .int x2, .int x3, .int x4]) (rest := []) (hm _ _ _ rfl w tx) ml_For_131 14 rfl rfl rfl d_For_makeClauses_121 rfl rfl (by dsimp only; omega) (by dsimp only; omega) (by have := hmn.1; have := hle.1; dsimp only; omega) (by have := hmn.2; have := hle.2; dsimp only; omega) (Nat.le_of_ble_eq_true rfl) (fun w1 hw => ?_)
    obtain ⟨w2, tx2, hag2, htq2, hwq2⟩ := hw
    dsimp only at hwq2
    subst hwq2
    dsimp only
    replace htq2 := htq2.symm
    subst htq2
    have hga2 : ∀ i, ([30, 48, 52] : List Nat).elem i = false → w2 i = w0 i := fun i hi => (hag2 i (by revert hi; exact el_sub (by decide))).trans (hga i hi)
    replace hcq : (cells + (σ2.2.2 3001 - σ1.2.2 3001)) + σf.2.2 3001 ≤ mc + σ2.2.2 3001 := by have := hmn.1; have := hle.1; omega
    replace hcm : (cells + (σ2.2.2 3001 - σ1.2.2 3001)) ≤ mc := by have := hmn.1; have := hle.1; omega
    generalize cells + (σ2.2.2 3001 - σ1.2.2 3001) = cells at hcq hcm ⊢
    replace hsq : (slots + (σ2.2.2 3002 - σ1.2.2 3002)) + σf.2.2 3002 ≤ ms + σ2.2.2 3002 := by have := hmn.2; have := hle.2; omega
    replace hsm : (slots + (σ2.2.2 3002 - σ1.2.2 3002)) ≤ ms := by have := hmn.2; have := hle.2; omega
    generalize slots + (σ2.2.2 3002 - σ1.2.2 3002) = slots at hsq hsm ⊢
    replace hF : d2_2 + 3 ≤ F := by omega
    replace hLo : 48 * d2_2 + 144 ≤ Lo := by omega
    refine ax_aload_n (pc := 124) C d_For_makeClauses_124 rfl 1 rfl ?_
    refine cg_39_7_For_135 (pc := 125) C d_For_makeClauses_125 ?_
    refine ax_if_eq (pc := 128) C 144 d_For_makeClauses_128 (by decide) (fun hc => ?_) (fun hc => ?_)
    · replace h := it_t hc h
      refine ax_aload_n (pc := 144) C d_For_makeClauses_144 rfl 1 rfl ?_
      replace h := it_b h
      obtain ⟨σ3, r3, d1_3, d2_3, h1, h, hd2, hd1⟩ := h
      replace hle := hG _ _ _ _ (by decide) h1
      dsimp only at hle
      replace hmn : gle σ3 σf := gm_use h (gm_bnd hG (Nat.le_of_ble_eq_true rfl) (fun _ _ => (gm_if (gm_bnd hG (Nat.le_of_ble_eq_true rfl) (fun _ _ => (gm_tail hG (Nat.le_of_ble_eq_true rfl)))) (gm_tail hG (Nat.le_of_ble_eq_true rfl)))))
      replace hm : sC_Dra_reduce l D kA u w2 tx σ2 [] (σ3, r3, d1_3) := ihC _ _ tC_Dra_reduce _ _ _ h1
      refine cc_Vv (pc := 145) C (σ2 := σ3) (As := []) (rest := []) (hm rfl) ml_For_141 39 rfl rfl rfl d_For_makeClauses_145 rfl rfl (by dsimp only; omega) (by dsimp only; omega) hcm hsm (Nat.le_of_ble_eq_true rfl) ?_
      replace hcq : cells + σf.2.2 3001 ≤ mc + σ3.2.2 3001 := by have := hle.1; omega
      replace hsq : slots + σf.2.2 3002 ≤ ms + σ3.2.2 3002 := by have := hle.2; omega
      replace hF : d2_3 + 3 ≤ F := by omega
      replace hLo : 48 * d2_3 + 144 ≤ Lo := by omega
      refine ax_aload_n (pc := 148) C d_For_makeClauses_148 rfl 1 rfl ?_
      replace h := it_b h
      obtain ⟨σ4, r4, d1_4, d2_4, h1, h, hd2, hd1⟩ := h
      replace hle := hG _ _ _ _ (by decide) h1
      dsimp only at hle
      replace hmn : gle σ4 σf := gm_use h (gm_if (gm_bnd hG (Nat.le_of_ble_eq_true rfl) (fun _ _ => (gm_tail hG (Nat.le_of_ble_eq_true rfl)))) (gm_tail hG (Nat.le_of_ble_eq_true rfl)))
      replace hm : sC_Dra_isTautology l D kA u w2 tx σ3 [] (σ4, r4, d1_4) := ihC _ _ tC_Dra_isTautology _ _ _ h1
      refine cc_Vi (pc := 149) C (r0 := r4) (σ2 := σ4) (As := []) (rest := []) (hm rfl) ml_For_144 39 rfl rfl rfl d_For_makeClauses_149 rfl rfl (by dsimp only; omega) (by dsimp only; omega) hcm hsm (Nat.le_of_ble_eq_true rfl) ?_
      replace hcq : cells + σf.2.2 3001 ≤ mc + σ4.2.2 3001 := by have := hle.1; omega
      replace hsq : slots + σf.2.2 3002 ≤ ms + σ4.2.2 3002 := by have := hle.2; omega
      replace hF : d2_4 + 3 ≤ F := by omega
      replace hLo : 48 * d2_4 + 144 ≤ Lo := by omega
      refine ax_if_ne (pc := 152) C 164 d_For_makeClauses_152 (by decide) (fun hc => ?_) (fun hc => ?_)
      · replace h := it_f hc h
        refine ax_ls ([(0, .ref (u 14)), (1, .ref (u 39)), (2, .ref (u 54)), (3, .int x0), (4, .int x1), (5, .int x2), (6, .int x3), (7, .int x4)]) [0, 1, 2, 3, 4, 5, 6, 7] rfl ?_
        replace hm : sG_For_makeClauses_p164 l D kA u σ4 [x0, x1, x2, x3, x4] (σf, rf, _) := ih tG_For_makeClauses_p164 _ _ _ h
        exact hm _ _ _ _ _ rfl w2 tx p e s m args below meth c F Lo mc ms cells slots σ0 w0 tx0 hF hLo hcq hsq hga2 C
      · replace h := it_t hc h
        refine ax_aload_n (pc := 155) C d_For_makeClauses_155 rfl 2 rfl ?_
        refine ax_aload_n (pc := 156) C d_For_makeClauses_156 rfl 1 rfl ?_
        refine ax_iconst (pc := 157) C 0 d_For_makeClauses_157 (by decide +kernel) ?_
        refine ax_iconst (pc := 158) C (-1) d_For_makeClauses_158 (by decide +kernel) ?_
        refine ax_iconst (pc := 159) C (-1) d_For_makeClauses_159 (by decide +kernel) ?_
        replace h := it_b h
        obtain ⟨σ5, r5, d1_5, d2_5, h1, h, hd2, hd1⟩ := h
        replace hle := hG _ _ _ _ (by decide) h1
        dsimp only at hle
        replace hmn : gle σ5 σf := gm_use h (gm_tail hG (Nat.le_of_ble_eq_true rfl))
        replace hm : sG_Sto_add l D kA u σ4 [0, (-1), (-1)] (σ5, r5, d1_5) := ih tG_Sto_add _ _ _ h1
        refine gc_Vi (pc := 160) C (As := [.ref (u 39), .int 0, .int (-1), .int (-1)]) (rest := []) (hm _ _ _ rfl w2 tx) ml_For_148 54 rfl rfl rfl d_For_makeClauses_160 rfl rfl (by dsimp only; omega) (by dsimp only; omega) (by have := hmn.1; have := hle.1; dsimp only; omega) (by have := hmn.2; have := hle.2; dsimp only; omega) (Nat.le_of_ble_eq_true rfl) (fun r9 w1 hw => ?_)
        obtain ⟨hrq5, w5, tx5, hag5, htq5, hwq5⟩ := hw
        dsimp only at hwq5 hrq5
        subst hwq5
        replace hrq5 := hrq5.symm
        subst hrq5
        dsimp only
        replace htq5 := htq5.symm
        subst htq5
        have hga5 : ∀ i, ([30, 48, 52] : List Nat).elem i = false → w5 i = w0 i := fun i hi => (hag5 i (by revert hi; exact el_sub (by decide))).trans (hga2 i hi)
        replace hcq : (cells + (σ5.2.2 3001 - σ4.2.2 3001)) + σf.2.2 3001 ≤ mc + σ5.2.2 3001 := by have := hmn.1; have := hle.1; omega
        replace hcm : (cells + (σ5.2.2 3001 - σ4.2.2 3001)) ≤ mc := by have := hmn.1; have := hle.1; omega
        generalize cells + (σ5.2.2 3001 - σ4.2.2 3001) = cells at hcq hcm ⊢
        replace hsq : (slots + (σ5.2.2 3002 - σ4.2.2 3002)) + σf.2.2 3002 ≤ ms + σ5.2.2 3002 := by have := hmn.2; have := hle.2; omega
        replace hsm : (slots + (σ5.2.2 3002 - σ4.2.2 3002)) ≤ ms := by have := hmn.2; have := hle.2; omega
        generalize slots + (σ5.2.2 3002 - σ4.2.2 3002) = slots at hsq hsm ⊢
        replace hF : d2_5 + 3 ≤ F := by omega
        replace hLo : 48 * d2_5 + 144 ≤ Lo := by omega
        refine ax_pop (pc := 163) C d_For_makeClauses_163 rfl ?_
        refine ax_ls ([(0, .ref (u 14)), (1, .ref (u 39)), (2, .ref (u 54)), (3, .int x0), (4, .int x1), (5, .int x2), (6, .int x3), (7, .int x4)]) [0, 1, 2, 3, 4, 5, 6, 7] rfl ?_
        replace hm : sG_For_makeClauses_p164 l D kA u σ5 [x0, x1, x2, x3, x4] (σf, rf, _) := ih tG_For_makeClauses_p164 _ _ _ h
        exact hm _ _ _ _ _ rfl w5 tx p e s m args below meth c F Lo mc ms cells slots σ0 w0 tx0 hF hLo hcq hsq hga5 C
    · replace h := it_f hc h
      refine ax_aload_n (pc := 131) C d_For_makeClauses_131 rfl 0 rfl ?_
      refine cg_14_6_For_27 (pc := 132) C d_For_makeClauses_132 ?_
      refine cg_20_0_For_75 (pc := 135) C d_For_makeClauses_135 ?_
      refine ax_iload (pc := 138) C d_For_makeClauses_138 4 rfl ?_
      refine ax_iconst (pc := 140) C 0 d_For_makeClauses_140 (by decide +kernel) ?_
      refine ax_iadd (pc := 141) C d_For_makeClauses_141 ?_
      replace h := it_g h
      obtain ⟨hb, h⟩ := h
      refine cl_21 (pc := 142) C d_For_makeClauses_142 (bin_in hb) ?_
      cases h
      exact ax_iret (pc := 143) C d_For_makeClauses_143 ⟨rfl, w2, tx, hga2, rfl, rfl⟩ hcm hsm
set_option maxHeartbeats 4000000 in
set_option maxRecDepth 100000 in
theorem oG_For_makeClauses_p164 (l : Launch) (D : va_G) (kA : Nat → ClassId) (u : Nat → Nat) (rec : mF) (hG : GM rec) (ihC : ∀ (w : Nat → Nat) (tx : Value) t σ xs res, rec t σ xs = some res → cSem l D kA u w tx t σ xs res) (ih : ∀ t σ xs res, rec t σ xs = some res → gSem l D kA u t σ xs res) (σ : mS) (xs : List Int32) (res : mR) (h : u_5 (kG_For_makeClauses_p164 rec σ) xs = some res) : sG_For_makeClauses_p164 l D kA u σ xs res := by
  intro x0 x1 x2 x3 x4 hxs w tx
  subst hxs
  obtain ⟨σf, rf, dd⟩ := res
  have hmn : gle σ σf := qG_For_makeClauses_p164 rec hG σ x0 x1 x2 x3 x4 _ h
  have h : (rec tG_For_makeClauses_p100 σ [x0, x1, x2, x3, (x4 + 1)]) = some (σf, rf, dd) := h
  intro p e s m args below meth c F Lo mc ms cells slots σ0 w0 tx0 hF hLo hcq hsq hga C
  dsimp only at hF hLo hcq hsq ⊢
  have hcm : cells ≤ mc := by have := hmn.1; omega
  have hsm : slots ≤ ms := by have := hmn.2; omega
  have hle : True := trivial
  have hm : True := trivial
  refine ax_iinc (pc := 164) C (x4 + 1) d_For_makeClauses_164 7 rfl rfl (Nat.le_of_ble_eq_true rfl) ([(7, .int (x4 + 1)), (0, .ref (u 14)), (1, .ref (u 39)), (2, .ref (u 54)), (3, .int x0), (4, .int x1), (5, .int x2), (6, .int x3)]) rfl ?_
  refine ax_goto (pc := 167) C 100 d_For_makeClauses_167 (by decide) ?_
  refine ax_ls ([(0, .ref (u 14)), (1, .ref (u 39)), (2, .ref (u 54)), (3, .int x0), (4, .int x1), (5, .int x2), (6, .int x3), (7, .int (x4 + 1))]) [1, 2, 3, 4, 5, 6, 7, 0] rfl ?_
  replace hm : sG_For_makeClauses_p100 l D kA u σ [x0, x1, x2, x3, (x4 + 1)] (σf, rf, _) := ih tG_For_makeClauses_p100 _ _ _ h
  exact hm _ _ _ _ _ rfl w tx p e s m args below meth c F Lo mc ms cells slots σ0 w0 tx0 hF hLo hcq hsq hga C
set_option maxHeartbeats 4000000 in
set_option maxRecDepth 100000 in
theorem oG_For_openSentence (l : Launch) (D : va_G) (kA : Nat → ClassId) (u : Nat → Nat) (rec : mF) (hG : GM rec) (ihC : ∀ (w : Nat → Nat) (tx : Value) t σ xs res, rec t σ xs = some res → cSem l D kA u w tx t σ xs res) (ih : ∀ t σ xs res, rec t σ xs = some res → gSem l D kA u t σ xs res) (σ : mS) (xs : List Int32) (res : mR) (h : u_2 (kG_For_openSentence rec σ) xs = some res) : sG_For_openSentence l D kA u σ xs res := by
  intro x0 x1 hxs w tx
  subst hxs
  obtain ⟨σf, rf, dd⟩ := res
  have hmn : gle σ σf := qG_For_openSentence rec hG σ x0 x1 _ h
  have h : (if rok σ 2001 21 = true then (lt_ (rAdd σ 2001 21 x0) (fun σ1 => if x1 = 0 then (rec tG_For_openSentence_p21 σ1 [x0, x1, 0]) else (rec tG_For_openSentence_p21 σ1 [x0, x1, 1]))) else none) = some (σf, rf, dd) := h
  refine ax_Mv.of (by decide +kernel) (Nat.le_of_ble_eq_true rfl) ?_
  intro p e s m args below meth c C hnm
  replace C : ax_C p s m args meth c b_For_openSentence "ClauseProver$Formulas" 3 none D kA (va_A (cpW kA u w tx σ) s.heap.size) := C
  obtain ⟨F, hFe⟩ : ∃ z, z = dd + 3 := ⟨_, rfl⟩
  obtain ⟨Lo, hLoe⟩ : ∃ z, z = 48 * dd + 144 := ⟨_, rfl⟩
  obtain ⟨mc, hmce⟩ : ∃ z, z = σf.2.2 3001 - σ.2.2 3001 := ⟨_, rfl⟩
  obtain ⟨ms, hmse⟩ : ∃ z, z = σf.2.2 3002 - σ.2.2 3002 := ⟨_, rfl⟩
  obtain ⟨σ0, hσ0e⟩ : ∃ z, z = σ := ⟨_, rfl⟩
  obtain ⟨w0, hw0e⟩ : ∃ z, z = w := ⟨_, rfl⟩
  obtain ⟨tx0, htx0e⟩ : ∃ z, z = tx := ⟨_, rfl⟩
  suffices K : ∀ (cells slots : Nat), cells = 0 → slots = 0 → AW p l e { frames := F, cells := mc, slots := ms, locals := Lo } s m args below meth c D kA (va_A (cpW kA u w0 tx0 σ0) s.heap.size) 3 (ax_Qv below args s D kA (cpW kA u w0 tx0 σ0) mc ms (fun w1 => ∃ (w2 : Nat → Nat) (tx2 : Value), (∀ i, ([21] : List Nat).elem i = false → w2 i = w0 i) ∧ tx2 = tx0 ∧ w1 = cpW kA u w2 tx2 σf)) 0 [(0, .ref (u 14)), (1, .int x0), (2, .int x1)] [] (cpW kA u w tx σ) cells slots by
    have K := K 0 0 rfl rfl
    rw [hFe, hLoe, hmce, hmse, hσ0e, hw0e, htx0e] at K
    exact ax_ls ([(0, .ref (u 14)), (1, .int x0), (2, .int x1)]) [0, 1, 2] rfl K
  replace C : ax_C p s m args meth c b_For_openSentence "ClauseProver$Formulas" 3 none D kA (va_A (cpW kA u w0 tx0 σ0) s.heap.size) := by rw [hσ0e, hw0e, htx0e]; exact C
  intro cells slots hc0 hs0
  have hcq : cells + σf.2.2 3001 ≤ mc + σ.2.2 3001 := by have := hmn.1; omega
  have hsq : slots + σf.2.2 3002 ≤ ms + σ.2.2 3002 := by have := hmn.2; omega
  have hga : ∀ i, ([21] : List Nat).elem i = false → w i = w0 i := fun i _ => by rw [hw0e]
  have e9 : tx = tx0 := htx0e.symm
  subst e9
  have hF : dd + 3 ≤ F := by omega
  have hLo : 48 * dd + 144 ≤ Lo := by omega
  have hcm : cells ≤ mc := by have := hmn.1; omega
  have hsm : slots ≤ ms := by have := hmn.2; omega
  have hle : True := trivial
  have hm : True := trivial
  refine ax_aload_n (pc := 0) C d_For_openSentence_0 rfl 0 rfl ?_
  refine cg_14_6_For_27 (pc := 1) C d_For_openSentence_1 ?_
  refine ax_iload_n (pc := 4) C d_For_openSentence_4 rfl 1 rfl ?_
  replace h := it_g h
  obtain ⟨hb, h⟩ := h
  replace h := it_l h
  replace hle := rAdd_le σ 2001 21 x0
  replace hmn : gle (rAdd σ 2001 21 x0) σf := gm_use h (gm_if (gm_tail hG (Nat.le_of_ble_eq_true rfl)) (gm_tail hG (Nat.le_of_ble_eq_true rfl)))
  refine ca_20 (pc := 5) C (rest := []) ml_For_72 d_For_openSentence_5 hb hF hLo (by have := hmn.1; have := hle.1; omega) (by have := hmn.2; have := hle.2; omega) (Nat.le_of_ble_eq_true rfl) (fun w1 hag1 => ?_)
  generalize rAdd σ 2001 21 x0 = σ1 at h hmn hle ⊢
  have hga1 : ∀ i, ([21] : List Nat).elem i = false → w1 i = w0 i := fun i hi => (hag1 i (by revert hi; exact el_sub (by decide))).trans (hga i hi)
  replace hcq : (cells + (σ1.2.2 3001 - σ.2.2 3001)) + σf.2.2 3001 ≤ mc + σ1.2.2 3001 := by have := hmn.1; have := hle.1; omega
  replace hcm : (cells + (σ1.2.2 3001 - σ.2.2 3001)) ≤ mc := by have := hmn.1; have := hle.1; omega
  generalize cells + (σ1.2.2 3001 - σ.2.2 3001) = cells at hcq hcm ⊢
  replace hsq : (slots + (σ1.2.2 3002 - σ.2.2 3002)) + σf.2.2 3002 ≤ ms + σ1.2.2 3002 := by have := hmn.2; have := hle.2; omega
  replace hsm : (slots + (σ1.2.2 3002 - σ.2.2 3002)) ≤ ms := by have := hmn.2; have := hle.2; omega
  generalize slots + (σ1.2.2 3002 - σ.2.2 3002) = slots at hsq hsm ⊢
  refine ax_aload_n (pc := 8) C d_For_openSentence_8 rfl 0 rfl ?_
  refine cg_14_6_For_27 (pc := 9) C d_For_openSentence_9 ?_
  refine ax_iload_n (pc := 12) C d_For_openSentence_12 rfl 2 rfl ?_
  refine ax_if_eq (pc := 13) C 20 d_For_openSentence_13 (by decide) (fun hc => ?_) (fun hc => ?_)
  · replace h := it_t hc h
    refine ax_iconst (pc := 20) C 0 d_For_openSentence_20 (by decide +kernel) ?_
    refine ax_ls ([(0, .ref (u 14)), (1, .int x0), (2, .int x1)]) [0, 1, 2] rfl ?_
    replace hm : sG_For_openSentence_p21 l D kA u σ1 [x0, x1, 0] (σf, rf, _) := ih tG_For_openSentence_p21 _ _ _ h
    exact hm _ _ _ rfl w1 tx p e s m args below meth c F Lo mc ms cells slots σ0 w0 tx hF hLo hcq hsq hga1 C
  · replace h := it_f hc h
    refine ax_iconst (pc := 16) C 1 d_For_openSentence_16 (by decide +kernel) ?_
    refine ax_goto (pc := 17) C 21 d_For_openSentence_17 (by decide) ?_
    refine ax_ls ([(0, .ref (u 14)), (1, .int x0), (2, .int x1)]) [0, 1, 2] rfl ?_
    replace hm : sG_For_openSentence_p21 l D kA u σ1 [x0, x1, 1] (σf, rf, _) := ih tG_For_openSentence_p21 _ _ _ h
    exact hm _ _ _ rfl w1 tx p e s m args below meth c F Lo mc ms cells slots σ0 w0 tx hF hLo hcq hsq hga1 C
set_option maxHeartbeats 4000000 in
set_option maxRecDepth 100000 in
theorem oG_For_openSentence_p21 (l : Launch) (D : va_G) (kA : Nat → ClassId) (u : Nat → Nat) (rec : mF) (hG : GM rec) (ihC : ∀ (w : Nat → Nat) (tx : Value) t σ xs res, rec t σ xs = some res → cSem l D kA u w tx t σ xs res) (ih : ∀ t σ xs res, rec t σ xs = some res → gSem l D kA u t σ xs res) (σ : mS) (xs : List Int32) (res : mR) (h : u_3 (kG_For_openSentence_p21 rec σ) xs = some res) : sG_For_openSentence_p21 l D kA u σ xs res := by
  intro x0 x1 x2 hxs w tx
  subst hxs
  obtain ⟨σf, rf, dd⟩ := res
  have hmn : gle σ σf := qG_For_openSentence_p21 rec hG σ x0 x1 x2 _ h
  have h : (if rok σ 2001 21 = true then (lt_ (rAdd σ 2001 21 x2) (fun σ1 => if rok σ1 2001 21 = true then (lt_ (rAdd σ1 2001 21 (-1)) (fun σ2 => if rok σ2 2001 21 = true then (lt_ (rAdd σ2 2001 21 (σ2.1 1414)) (fun σ3 => if rok σ3 2001 21 = true then (lt_ (rAdd σ3 2001 21 (σ3.1 1414)) (fun σ4 => lt_ (mI σ4 1403 (-1)) (fun σ5 => some (σ5, 0, 0)))) else none)) else none)) else none)) else none) = some (σf, rf, dd) := h
  intro p e s m args below meth c F Lo mc ms cells slots σ0 w0 tx0 hF hLo hcq hsq hga C
  dsimp only at hF hLo hcq hsq ⊢
  have hcm : cells ≤ mc := by have := hmn.1; omega
  have hsm : slots ≤ ms := by have := hmn.2; omega
  have hle : True := trivial
  have hm : True := trivial
  replace h := it_g h
  obtain ⟨hb, h⟩ := h
  replace h := it_l h
  replace hle := rAdd_le σ 2001 21 x2
  replace hmn : gle (rAdd σ 2001 21 x2) σf := gm_use h (gm_if (gm_lt (rAdd_le _ _ _ _) (gm_if (gm_lt (rAdd_le _ _ _ _) (gm_if (gm_lt (rAdd_le _ _ _ _) (gm_lt ⟨Nat.le_refl _, Nat.le_refl _, rfl⟩ gm_some)) gm_none)) gm_none)) gm_none)
  refine ca_20 (pc := 21) C (rest := []) ml_For_72 d_For_openSentence_21 hb hF hLo (by have := hmn.1; have := hle.1; omega) (by have := hmn.2; have := hle.2; omega) (Nat.le_of_ble_eq_true rfl) (fun w1 hag1 => ?_)
  generalize rAdd σ 2001 21 x2 = σ1 at h hmn hle ⊢
  have hga1 : ∀ i, ([21] : List Nat).elem i = false → w1 i = w0 i := fun i hi => (hag1 i (by revert hi; exact el_sub (by decide))).trans (hga i hi)
  replace hcq : (cells + (σ1.2.2 3001 - σ.2.2 3001)) + σf.2.2 3001 ≤ mc + σ1.2.2 3001 := by have := hmn.1; have := hle.1; omega
  replace hcm : (cells + (σ1.2.2 3001 - σ.2.2 3001)) ≤ mc := by have := hmn.1; have := hle.1; omega
  generalize cells + (σ1.2.2 3001 - σ.2.2 3001) = cells at hcq hcm ⊢
  replace hsq : (slots + (σ1.2.2 3002 - σ.2.2 3002)) + σf.2.2 3002 ≤ ms + σ1.2.2 3002 := by have := hmn.2; have := hle.2; omega
  replace hsm : (slots + (σ1.2.2 3002 - σ.2.2 3002)) ≤ ms := by have := hmn.2; have := hle.2; omega
  generalize slots + (σ1.2.2 3002 - σ.2.2 3002) = slots at hsq hsm ⊢
  refine ax_aload_n (pc := 24) C d_For_openSentence_24 rfl 0 rfl ?_
  refine cg_14_6_For_27 (pc := 25) C d_For_openSentence_25 ?_
  refine ax_iconst (pc := 28) C (-1) d_For_openSentence_28 (by decide +kernel) ?_
  replace h := it_g h
  obtain ⟨hb, h⟩ := h
  replace h := it_l h
  replace hle := rAdd_le σ1 2001 21 (-1)
  replace hmn : gle (rAdd σ1 2001 21 (-1)) σf := gm_use h (gm_if (gm_lt (rAdd_le _ _ _ _) (gm_if (gm_lt (rAdd_le _ _ _ _) (gm_lt ⟨Nat.le_refl _, Nat.le_refl _, rfl⟩ gm_some)) gm_none)) gm_none)
  refine ca_20 (pc := 29) C (rest := []) ml_For_72 d_For_openSentence_29 hb hF hLo (by have := hmn.1; have := hle.1; omega) (by have := hmn.2; have := hle.2; omega) (Nat.le_of_ble_eq_true rfl) (fun w2 hag2 => ?_)
  generalize rAdd σ1 2001 21 (-1) = σ2 at h hmn hle ⊢
  have hga2 : ∀ i, ([21] : List Nat).elem i = false → w2 i = w0 i := fun i hi => (hag2 i (by revert hi; exact el_sub (by decide))).trans (hga1 i hi)
  replace hcq : (cells + (σ2.2.2 3001 - σ1.2.2 3001)) + σf.2.2 3001 ≤ mc + σ2.2.2 3001 := by have := hmn.1; have := hle.1; omega
  replace hcm : (cells + (σ2.2.2 3001 - σ1.2.2 3001)) ≤ mc := by have := hmn.1; have := hle.1; omega
  generalize cells + (σ2.2.2 3001 - σ1.2.2 3001) = cells at hcq hcm ⊢
  replace hsq : (slots + (σ2.2.2 3002 - σ1.2.2 3002)) + σf.2.2 3002 ≤ ms + σ2.2.2 3002 := by have := hmn.2; have := hle.2; omega
  replace hsm : (slots + (σ2.2.2 3002 - σ1.2.2 3002)) ≤ ms := by have := hmn.2; have := hle.2; omega
  generalize slots + (σ2.2.2 3002 - σ1.2.2 3002) = slots at hsq hsm ⊢
  refine ax_aload_n (pc := 32) C d_For_openSentence_32 rfl 0 rfl ?_
  refine cg_14_6_For_27 (pc := 33) C d_For_openSentence_33 ?_
  refine ax_aload_n (pc := 36) C d_For_openSentence_36 rfl 0 rfl ?_
  refine cg_14_14_For_66 (pc := 37) C d_For_openSentence_37 ?_
  replace h := it_g h
  obtain ⟨hb, h⟩ := h
  replace h := it_l h
  replace hle := rAdd_le σ2 2001 21 (σ2.1 1414)
  replace hmn : gle (rAdd σ2 2001 21 (σ2.1 1414)) σf := gm_use h (gm_if (gm_lt (rAdd_le _ _ _ _) (gm_lt ⟨Nat.le_refl _, Nat.le_refl _, rfl⟩ gm_some)) gm_none)
  refine ca_20 (pc := 40) C (rest := []) ml_For_72 d_For_openSentence_40 hb hF hLo (by have := hmn.1; have := hle.1; omega) (by have := hmn.2; have := hle.2; omega) (Nat.le_of_ble_eq_true rfl) (fun w3 hag3 => ?_)
  generalize rAdd σ2 2001 21 (σ2.1 1414) = σ3 at h hmn hle ⊢
  have hga3 : ∀ i, ([21] : List Nat).elem i = false → w3 i = w0 i := fun i hi => (hag3 i (by revert hi; exact el_sub (by decide))).trans (hga2 i hi)
  replace hcq : (cells + (σ3.2.2 3001 - σ2.2.2 3001)) + σf.2.2 3001 ≤ mc + σ3.2.2 3001 := by have := hmn.1; have := hle.1; omega
  replace hcm : (cells + (σ3.2.2 3001 - σ2.2.2 3001)) ≤ mc := by have := hmn.1; have := hle.1; omega
  generalize cells + (σ3.2.2 3001 - σ2.2.2 3001) = cells at hcq hcm ⊢
  replace hsq : (slots + (σ3.2.2 3002 - σ2.2.2 3002)) + σf.2.2 3002 ≤ ms + σ3.2.2 3002 := by have := hmn.2; have := hle.2; omega
  replace hsm : (slots + (σ3.2.2 3002 - σ2.2.2 3002)) ≤ ms := by have := hmn.2; have := hle.2; omega
  generalize slots + (σ3.2.2 3002 - σ2.2.2 3002) = slots at hsq hsm ⊢
  refine ax_aload_n (pc := 43) C d_For_openSentence_43 rfl 0 rfl ?_
  refine cg_14_6_For_27 (pc := 44) C d_For_openSentence_44 ?_
  refine ax_aload_n (pc := 47) C d_For_openSentence_47 rfl 0 rfl ?_
  refine cg_14_14_For_66 (pc := 48) C d_For_openSentence_48 ?_
  replace h := it_g h
  obtain ⟨hb, h⟩ := h
  replace h := it_l h
  replace hle := rAdd_le σ3 2001 21 (σ3.1 1414)
  replace hmn : gle (rAdd σ3 2001 21 (σ3.1 1414)) σf := gm_use h (gm_lt ⟨Nat.le_refl _, Nat.le_refl _, rfl⟩ gm_some)
  refine ca_20 (pc := 51) C (rest := []) ml_For_72 d_For_openSentence_51 hb hF hLo (by have := hmn.1; have := hle.1; omega) (by have := hmn.2; have := hle.2; omega) (Nat.le_of_ble_eq_true rfl) (fun w4 hag4 => ?_)
  generalize rAdd σ3 2001 21 (σ3.1 1414) = σ4 at h hmn hle ⊢
  have hga4 : ∀ i, ([21] : List Nat).elem i = false → w4 i = w0 i := fun i hi => (hag4 i (by revert hi; exact el_sub (by decide))).trans (hga3 i hi)
  replace hcq : (cells + (σ4.2.2 3001 - σ3.2.2 3001)) + σf.2.2 3001 ≤ mc + σ4.2.2 3001 := by have := hmn.1; have := hle.1; omega
  replace hcm : (cells + (σ4.2.2 3001 - σ3.2.2 3001)) ≤ mc := by have := hmn.1; have := hle.1; omega
  generalize cells + (σ4.2.2 3001 - σ3.2.2 3001) = cells at hcq hcm ⊢
  replace hsq : (slots + (σ4.2.2 3002 - σ3.2.2 3002)) + σf.2.2 3002 ≤ ms + σ4.2.2 3002 := by have := hmn.2; have := hle.2; omega
  replace hsm : (slots + (σ4.2.2 3002 - σ3.2.2 3002)) ≤ ms := by have := hmn.2; have := hle.2; omega
  generalize slots + (σ4.2.2 3002 - σ3.2.2 3002) = slots at hsq hsm ⊢
  refine ax_aload_n (pc := 54) C d_For_openSentence_54 rfl 0 rfl ?_
  refine ax_iconst (pc := 55) C (-1) d_For_openSentence_55 (by decide +kernel) ?_
  refine cq_14_3_For_69 (pc := 56) C d_For_openSentence_56 ?_
  replace h := it_l h
  replace hcq : cells + σf.2.2 3001 ≤ mc + (mI σ4 1403 (-1)).2.2 3001 := hcq
  replace hsq : slots + σf.2.2 3002 ≤ ms + (mI σ4 1403 (-1)).2.2 3002 := hsq
  generalize mI σ4 1403 (-1) = σ5 at h hcq hsq ⊢
  cases h
  exact ax_vret (pc := 59) C d_For_openSentence_59 ⟨w4, tx, hga4, rfl, rfl⟩ hcm hsm
set_option maxHeartbeats 4000000 in
set_option maxRecDepth 100000 in
theorem oG_For_writeClause (l : Launch) (D : va_G) (kA : Nat → ClassId) (u : Nat → Nat) (rec : mF) (hG : GM rec) (ihC : ∀ (w : Nat → Nat) (tx : Value) t σ xs res, rec t σ xs = some res → cSem l D kA u w tx t σ xs res) (ih : ∀ t σ xs res, rec t σ xs = some res → gSem l D kA u t σ xs res) (σ : mS) (xs : List Int32) (res : mR) (h : u_3 (kG_For_writeClause rec σ) xs = some res) : sG_For_writeClause l D kA u σ xs res := by
  intro x0 x1 x2 hxs w tx
  subst hxs
  obtain ⟨σf, rf, dd⟩ := res
  have hmn : gle σ σf := qG_For_writeClause rec hG σ x0 x1 x2 _ h
  have h : (bnd (rec tC_Dra_clear σ []) (fun σ1 r1 => lt_ (mI σ1 2901 0) (fun σ2 => bnd (rec tG_For_later σ2 [x0, x1, x2]) (fun σ3 r3 => rec tG_For_writeClause_p23 σ3 [x0, x1, x2, 0])))) = some (σf, rf, dd) := h
  refine ax_Mv.of (by decide +kernel) (Nat.le_of_ble_eq_true rfl) ?_
  intro p e s m args below meth c C hnm
  replace C : ax_C p s m args meth c b_For_writeClause "ClauseProver$Formulas" 8 none D kA (va_A (cpW kA u w tx σ) s.heap.size) := C
  obtain ⟨F, hFe⟩ : ∃ z, z = dd + 3 := ⟨_, rfl⟩
  obtain ⟨Lo, hLoe⟩ : ∃ z, z = 48 * dd + 144 := ⟨_, rfl⟩
  obtain ⟨mc, hmce⟩ : ∃ z, z = σf.2.2 3001 - σ.2.2 3001 := ⟨_, rfl⟩
  obtain ⟨ms, hmse⟩ : ∃ z, z = σf.2.2 3002 - σ.2.2 3002 := ⟨_, rfl⟩
  obtain ⟨σ0, hσ0e⟩ : ∃ z, z = σ := ⟨_, rfl⟩
  obtain ⟨w0, hw0e⟩ : ∃ z, z = w := ⟨_, rfl⟩
  obtain ⟨tx0, htx0e⟩ : ∃ z, z = tx := ⟨_, rfl⟩
  suffices K : ∀ (cells slots : Nat), cells = 0 → slots = 0 → AW p l e { frames := F, cells := mc, slots := ms, locals := Lo } s m args below meth c D kA (va_A (cpW kA u w0 tx0 σ0) s.heap.size) 8 (ax_Qv below args s D kA (cpW kA u w0 tx0 σ0) mc ms (fun w1 => ∃ (w2 : Nat → Nat) (tx2 : Value), (∀ i, ([30] : List Nat).elem i = false → w2 i = w0 i) ∧ tx2 = tx0 ∧ w1 = cpW kA u w2 tx2 σf)) 0 [(0, .ref (u 14)), (1, .ref (u 39)), (2, .int x0), (3, .int x1), (4, .int x2)] [] (cpW kA u w tx σ) cells slots by
    have K := K 0 0 rfl rfl
    rw [hFe, hLoe, hmce, hmse, hσ0e, hw0e, htx0e] at K
    exact ax_ls ([(0, .ref (u 14)), (1, .ref (u 39)), (2, .int x0), (3, .int x1), (4, .int x2)]) [0, 1, 2, 3, 4] rfl K
  replace C : ax_C p s m args meth c b_For_writeClause "ClauseProver$Formulas" 8 none D kA (va_A (cpW kA u w0 tx0 σ0) s.heap.size) := by rw [hσ0e, hw0e, htx0e]; exact C
  intro cells slots hc0 hs0
  have hcq : cells + σf.2.2 3001 ≤ mc + σ.2.2 3001 := by have := hmn.1; omega
  have hsq : slots + σf.2.2 3002 ≤ ms + σ.2.2 3002 := by have := hmn.2; omega
  have hga : ∀ i, ([30] : List Nat).elem i = false → w i = w0 i := fun i _ => by rw [hw0e]
  have e9 : tx = tx0 := htx0e.symm
  subst e9
  have hF : dd + 3 ≤ F := by omega
  have hLo : 48 * dd + 144 ≤ Lo := by omega
  have hcm : cells ≤ mc := by have := hmn.1; omega
  have hsm : slots ≤ ms := by have := hmn.2; omega
  have hle : True := trivial
  have hm : True := trivial
  refine ax_aload_n (pc := 0) C d_For_writeClause_0 rfl 1 rfl ?_
  replace h := it_b h
  obtain ⟨σ1, r1, d1_1, d2_1, h1, h, hd2, hd1⟩ := h
  replace hle := hG _ _ _ _ (by decide) h1
  dsimp only at hle
  replace hmn : gle σ1 σf := gm_use h (gm_lt ⟨Nat.le_refl _, Nat.le_refl _, rfl⟩ (gm_bnd hG (Nat.le_of_ble_eq_true rfl) (fun _ _ => (gm_tail hG (Nat.le_of_ble_eq_true rfl)))))
  replace hm : sC_Dra_clear l D kA u w tx σ [] (σ1, r1, d1_1) := ihC _ _ tC_Dra_clear _ _ _ h1
  refine cc_Vv (pc := 1) C (σ2 := σ1) (As := []) (rest := []) (hm rfl) ml_For_153 39 rfl rfl rfl d_For_writeClause_1 rfl rfl (by dsimp only; omega) (by dsimp only; omega) hcm hsm (Nat.le_of_ble_eq_true rfl) ?_
  replace hcq : cells + σf.2.2 3001 ≤ mc + σ1.2.2 3001 := by have := hle.1; omega
  replace hsq : slots + σf.2.2 3002 ≤ ms + σ1.2.2 3002 := by have := hle.2; omega
  replace hF : d2_1 + 3 ≤ F := by omega
  replace hLo : 48 * d2_1 + 144 ≤ Lo := by omega
  refine ax_aload_n (pc := 4) C d_For_writeClause_4 rfl 0 rfl ?_
  refine cg_14_15_For_52 (pc := 5) C d_For_writeClause_5 ?_
  refine ax_iconst (pc := 8) C 0 d_For_writeClause_8 (by decide +kernel) ?_
  refine cq_29_1_For_59 (pc := 9) C d_For_writeClause_9 ?_
  replace h := it_l h
  replace hcq : cells + σf.2.2 3001 ≤ mc + (mI σ1 2901 0).2.2 3001 := hcq
  replace hsq : slots + σf.2.2 3002 ≤ ms + (mI σ1 2901 0).2.2 3002 := hsq
  generalize mI σ1 2901 0 = σ2 at h hcq hsq ⊢
  refine ax_aload_n (pc := 12) C d_For_writeClause_12 rfl 0 rfl ?_
  refine ax_iload_n (pc := 13) C d_For_writeClause_13 rfl 2 rfl ?_
  refine ax_iload_n (pc := 14) C d_For_writeClause_14 rfl 3 rfl ?_
  refine ax_iload (pc := 15) C d_For_writeClause_15 4 rfl ?_
  replace h := it_b h
  obtain ⟨σ3, r3, d1_3, d2_3, h1, h, hd2, hd1⟩ := h
  replace hle := hG _ _ _ _ (by decide) h1
  dsimp only at hle
  replace hmn : gle σ3 σf := gm_use h (gm_tail hG (Nat.le_of_ble_eq_true rfl))
  replace hm : sG_For_later l D kA u σ2 [x0, x1, x2] (σ3, r3, d1_3) := ih tG_For_later _ _ _ h1
  refine gc_Vv (pc := 17) C (As := [.int x0, .int x1, .int x2]) (rest := []) (hm _ _ _ rfl w tx) ml_For_156 14 rfl rfl rfl d_For_writeClause_17 rfl rfl (by dsimp only; omega) (by dsimp only; omega) (by have := hmn.1; have := hle.1; dsimp only; omega) (by have := hmn.2; have := hle.2; dsimp only; omega) (Nat.le_of_ble_eq_true rfl) (fun w1 hw => ?_)
  obtain ⟨w3, tx3, hag3, htq3, hwq3⟩ := hw
  dsimp only at hwq3
  subst hwq3
  dsimp only
  replace htq3 := htq3.symm
  subst htq3
  have hga3 : ∀ i, ([30] : List Nat).elem i = false → w3 i = w0 i := fun i hi => (hag3 i (by revert hi; exact el_sub (by decide))).trans (hga i hi)
  replace hcq : (cells + (σ3.2.2 3001 - σ2.2.2 3001)) + σf.2.2 3001 ≤ mc + σ3.2.2 3001 := by have := hmn.1; have := hle.1; omega
  replace hcm : (cells + (σ3.2.2 3001 - σ2.2.2 3001)) ≤ mc := by have := hmn.1; have := hle.1; omega
  generalize cells + (σ3.2.2 3001 - σ2.2.2 3001) = cells at hcq hcm ⊢
  replace hsq : (slots + (σ3.2.2 3002 - σ2.2.2 3002)) + σf.2.2 3002 ≤ ms + σ3.2.2 3002 := by have := hmn.2; have := hle.2; omega
  replace hsm : (slots + (σ3.2.2 3002 - σ2.2.2 3002)) ≤ ms := by have := hmn.2; have := hle.2; omega
  generalize slots + (σ3.2.2 3002 - σ2.2.2 3002) = slots at hsq hsm ⊢
  replace hF : d2_3 + 3 ≤ F := by omega
  replace hLo : 48 * d2_3 + 144 ≤ Lo := by omega
  refine ax_iconst (pc := 20) C 0 d_For_writeClause_20 (by decide +kernel) ?_
  refine ax_istore (pc := 21) C d_For_writeClause_21 (Nat.le_of_ble_eq_true rfl) ([(5, .int 0), (0, .ref (u 14)), (1, .ref (u 39)), (2, .int x0), (3, .int x1), (4, .int x2)]) rfl ?_
  refine ax_ls ([(0, .ref (u 14)), (1, .ref (u 39)), (2, .int x0), (3, .int x1), (4, .int x2), (5, .int 0)]) [1, 2, 3, 4, 5, 0] rfl ?_
  replace hm : sG_For_writeClause_p23 l D kA u σ3 [x0, x1, x2, 0] (σf, rf, _) := ih tG_For_writeClause_p23 _ _ _ h
  exact hm _ _ _ _ rfl w3 tx p e s m args below meth c F Lo mc ms cells slots σ0 w0 tx hF hLo hcq hsq hga3 C
set_option maxHeartbeats 4000000 in
set_option maxRecDepth 100000 in
theorem oG_For_writeClause_p23 (l : Launch) (D : va_G) (kA : Nat → ClassId) (u : Nat → Nat) (rec : mF) (hG : GM rec) (ihC : ∀ (w : Nat → Nat) (tx : Value) t σ xs res, rec t σ xs = some res → cSem l D kA u w tx t σ xs res) (ih : ∀ t σ xs res, rec t σ xs = some res → gSem l D kA u t σ xs res) (σ : mS) (xs : List Int32) (res : mR) (h : u_4 (kG_For_writeClause_p23 rec σ) xs = some res) : sG_For_writeClause_p23 l D kA u σ xs res := by
  intro x0 x1 x2 x3 hxs w tx
  subst hxs
  obtain ⟨σf, rf, dd⟩ := res
  have hmn : gle σ σf := qG_For_writeClause_p23 rec hG σ x0 x1 x2 x3 _ h
  have h : (if 1000000 ≤ x3 then (rec tG_For_writeClause_p137 σ [x0, x1, x2, x3]) else (if (σ.1 2901) ≤ 0 then (rec tG_For_writeClause_p137 σ [x0, x1, x2, x3]) else (if (σ.1 3907) = 0 then (lt_ (mI σ 2901 (((σ.1 2901) : Int32) - 3)) (fun σ1 => if bin (σ1.1 2901) (σ1.2.2 30) = true then (if bin (((σ1.1 2901) : Int32) + 1) (σ1.2.2 30) = true then (if (σ1.2.1 30 (Int32.toNatClampNeg (((σ1.1 2901) : Int32) + 1))) = 1 then (rec tG_For_writeClause_p103 σ1 [x0, x1, x2, x3, (σ1.2.1 30 (Int32.toNatClampNeg (σ1.1 2901))), 1]) else (rec tG_For_writeClause_p103 σ1 [x0, x1, x2, x3, (σ1.2.1 30 (Int32.toNatClampNeg (σ1.1 2901))), 0])) else none) else none)) else (rec tG_For_writeClause_p137 σ [x0, x1, x2, x3])))) = some (σf, rf, dd) := h
  intro p e s m args below meth c F Lo mc ms cells slots σ0 w0 tx0 hF hLo hcq hsq hga C
  dsimp only at hF hLo hcq hsq ⊢
  have hcm : cells ≤ mc := by have := hmn.1; omega
  have hsm : slots ≤ ms := by have := hmn.2; omega
  have hle : True := trivial
  have hm : True := trivial
  refine ax_iload (pc := 23) C d_For_writeClause_23 5 rfl ?_
  refine ax_ldc (pc := 25) C tb_constant_791 d_For_writeClause_25 ?_
  refine ax_icmp_ge (pc := 27) C 137 d_For_writeClause_27 (by decide) (fun hc => ?_) (fun hc => ?_)
  · replace h := it_t hc h
    refine ax_ls ([(0, .ref (u 14)), (1, .ref (u 39)), (2, .int x0), (3, .int x1), (4, .int x2), (5, .int x3)]) [0, 1, 2, 3, 4, 5] rfl ?_
    replace hm : sG_For_writeClause_p137 l D kA u σ [x0, x1, x2, x3] (σf, rf, _) := ih tG_For_writeClause_p137 _ _ _ h
    exact hm _ _ _ _ rfl w tx p e s m args below meth c F Lo mc ms cells slots σ0 w0 tx0 hF hLo hcq hsq hga C
  · replace h := it_f hc h
    refine ax_aload_n (pc := 30) C d_For_writeClause_30 rfl 0 rfl ?_
    refine cg_14_15_For_52 (pc := 31) C d_For_writeClause_31 ?_
    refine cg_29_1_For_59 (pc := 34) C d_For_writeClause_34 ?_
    refine ax_if_le (pc := 37) C 137 d_For_writeClause_37 (by decide) (fun hc => ?_) (fun hc => ?_)
    · replace h := it_t hc h
      refine ax_ls ([(0, .ref (u 14)), (1, .ref (u 39)), (2, .int x0), (3, .int x1), (4, .int x2), (5, .int x3)]) [0, 1, 2, 3, 4, 5] rfl ?_
      replace hm : sG_For_writeClause_p137 l D kA u σ [x0, x1, x2, x3] (σf, rf, _) := ih tG_For_writeClause_p137 _ _ _ h
      exact hm _ _ _ _ rfl w tx p e s m args below meth c F Lo mc ms cells slots σ0 w0 tx0 hF hLo hcq hsq hga C
    · replace h := it_f hc h
      refine ax_aload_n (pc := 40) C d_For_writeClause_40 rfl 1 rfl ?_
      refine cg_39_7_For_135 (pc := 41) C d_For_writeClause_41 ?_
      refine ax_if_ne (pc := 44) C 137 d_For_writeClause_44 (by decide) (fun hc => ?_) (fun hc => ?_)
      · replace h := it_f hc h
        refine ax_ls ([(0, .ref (u 14)), (1, .ref (u 39)), (2, .int x0), (3, .int x1), (4, .int x2), (5, .int x3)]) [0, 1, 2, 3, 4, 5] rfl ?_
        replace hm : sG_For_writeClause_p137 l D kA u σ [x0, x1, x2, x3] (σf, rf, _) := ih tG_For_writeClause_p137 _ _ _ h
        exact hm _ _ _ _ rfl w tx p e s m args below meth c F Lo mc ms cells slots σ0 w0 tx0 hF hLo hcq hsq hga C
      · replace h := it_t hc h
        refine ax_aload_n (pc := 47) C d_For_writeClause_47 rfl 0 rfl ?_
        refine cg_14_15_For_52 (pc := 48) C d_For_writeClause_48 ?_
        refine ax_dup (pc := 51) C d_For_writeClause_51 rfl ?_
        refine cg_29_1_For_59 (pc := 52) C d_For_writeClause_52 ?_
        refine ax_iconst (pc := 55) C 3 d_For_writeClause_55 (by decide +kernel) ?_
        refine ax_isub (pc := 56) C d_For_writeClause_56 ?_
        refine cq_29_1_For_59 (pc := 57) C d_For_writeClause_57 ?_
        replace h := it_l h
        replace hcq : cells + σf.2.2 3001 ≤ mc + (mI σ 2901 (((σ.1 2901) : Int32) - 3)).2.2 3001 := hcq
        replace hsq : slots + σf.2.2 3002 ≤ ms + (mI σ 2901 (((σ.1 2901) : Int32) - 3)).2.2 3002 := hsq
        generalize mI σ 2901 (((σ.1 2901) : Int32) - 3) = σ1 at h hcq hsq ⊢
        refine ax_aload_n (pc := 60) C d_For_writeClause_60 rfl 0 rfl ?_
        refine cg_14_15_For_52 (pc := 61) C d_For_writeClause_61 ?_
        refine cg_29_0_For_75 (pc := 64) C d_For_writeClause_64 ?_
        refine ax_aload_n (pc := 67) C d_For_writeClause_67 rfl 0 rfl ?_
        refine cg_14_15_For_52 (pc := 68) C d_For_writeClause_68 ?_
        refine cg_29_1_For_59 (pc := 71) C d_For_writeClause_71 ?_
        replace h := it_g h
        obtain ⟨hb, h⟩ := h
        refine cl_30 (pc := 74) C d_For_writeClause_74 (bin_in hb) ?_
        refine ax_istore (pc := 75) C d_For_writeClause_75 (Nat.le_of_ble_eq_true rfl) ([(6, .int (σ1.2.1 30 (Int32.toNatClampNeg (σ1.1 2901)))), (0, .ref (u 14)), (1, .ref (u 39)), (2, .int x0), (3, .int x1), (4, .int x2), (5, .int x3)]) rfl ?_
        refine ax_aload_n (pc := 77) C d_For_writeClause_77 rfl 1 rfl ?_
        refine cg_14_15_For_52 (pc := 78) C d_For_writeClause_78 ?_
        refine cg_29_0_For_75 (pc := 81) C d_For_writeClause_81 ?_
        refine ax_aload_n (pc := 84) C d_For_writeClause_84 rfl 1 rfl ?_
        refine cg_14_15_For_52 (pc := 85) C d_For_writeClause_85 ?_
        refine cg_29_1_For_59 (pc := 88) C d_For_writeClause_88 ?_
        refine ax_iconst (pc := 91) C 1 d_For_writeClause_91 (by decide +kernel) ?_
        refine ax_iadd (pc := 92) C d_For_writeClause_92 ?_
        replace h := it_g h
        obtain ⟨hb, h⟩ := h
        refine cl_30 (pc := 93) C d_For_writeClause_93 (bin_in hb) ?_
        refine ax_iconst (pc := 94) C 1 d_For_writeClause_94 (by decide +kernel) ?_
        refine ax_icmp_ne (pc := 95) C 102 d_For_writeClause_95 (by decide) (fun hc => ?_) (fun hc => ?_)
        · replace h := it_f hc h
          refine ax_iconst (pc := 102) C 0 d_For_writeClause_102 (by decide +kernel) ?_
          refine ax_ls ([(0, .ref (u 14)), (1, .ref (u 39)), (2, .int x0), (3, .int x1), (4, .int x2), (5, .int x3), (6, .int (σ1.2.1 30 (Int32.toNatClampNeg (σ1.1 2901))))]) [1, 2, 3, 4, 5, 6, 0] rfl ?_
          replace hm : sG_For_writeClause_p103 l D kA u σ1 [x0, x1, x2, x3, (σ1.2.1 30 (Int32.toNatClampNeg (σ1.1 2901))), 0] (σf, rf, _) := ih tG_For_writeClause_p103 _ _ _ h
          exact hm _ _ _ _ _ _ rfl w tx p e s m args below meth c F Lo mc ms cells slots σ0 w0 tx0 hF hLo hcq hsq hga C
        · replace h := it_t hc h
          refine ax_iconst (pc := 98) C 1 d_For_writeClause_98 (by decide +kernel) ?_
          refine ax_goto (pc := 99) C 103 d_For_writeClause_99 (by decide) ?_
          refine ax_ls ([(0, .ref (u 14)), (1, .ref (u 39)), (2, .int x0), (3, .int x1), (4, .int x2), (5, .int x3), (6, .int (σ1.2.1 30 (Int32.toNatClampNeg (σ1.1 2901))))]) [1, 2, 3, 4, 5, 6, 0] rfl ?_
          replace hm : sG_For_writeClause_p103 l D kA u σ1 [x0, x1, x2, x3, (σ1.2.1 30 (Int32.toNatClampNeg (σ1.1 2901))), 1] (σf, rf, _) := ih tG_For_writeClause_p103 _ _ _ h
          exact hm _ _ _ _ _ _ rfl w tx p e s m args below meth c F Lo mc ms cells slots σ0 w0 tx0 hF hLo hcq hsq hga C
set_option maxHeartbeats 4000000 in
set_option maxRecDepth 100000 in
theorem oG_For_writeClause_p103 (l : Launch) (D : va_G) (kA : Nat → ClassId) (u : Nat → Nat) (rec : mF) (hG : GM rec) (ihC : ∀ (w : Nat → Nat) (tx : Value) t σ xs res, rec t σ xs = some res → cSem l D kA u w tx t σ xs res) (ih : ∀ t σ xs res, rec t σ xs = some res → gSem l D kA u t σ xs res) (σ : mS) (xs : List Int32) (res : mR) (h : u_6 (kG_For_writeClause_p103 rec σ) xs = some res) : sG_For_writeClause_p103 l D kA u σ xs res := by
  intro x0 x1 x2 x3 x4 x5 hxs w tx
  subst hxs
  obtain ⟨σf, rf, dd⟩ := res
  have hmn : gle σ σf := qG_For_writeClause_p103 rec hG σ x0 x1 x2 x3 x4 x5 _ h
  have h : (if bin (((σ.1 2901) : Int32) + 2) (σ.2.2 30) = true then (bnd (rec tG_For_writePart σ [x4, x5, (σ.2.1 30 (Int32.toNatClampNeg (((σ.1 2901) : Int32) + 2)))]) (fun σ1 r1 => rec tG_For_writeClause_p23 σ1 [x0, x1, x2, (x3 + 1)])) else none) = some (σf, rf, dd) := h
  intro p e s m args below meth c F Lo mc ms cells slots σ0 w0 tx0 hF hLo hcq hsq hga C
  dsimp only at hF hLo hcq hsq ⊢
  have hcm : cells ≤ mc := by have := hmn.1; omega
  have hsm : slots ≤ ms := by have := hmn.2; omega
  have hle : True := trivial
  have hm : True := trivial
  refine ax_istore (pc := 103) C d_For_writeClause_103 (Nat.le_of_ble_eq_true rfl) ([(7, .int x5), (0, .ref (u 14)), (1, .ref (u 39)), (2, .int x0), (3, .int x1), (4, .int x2), (5, .int x3), (6, .int x4)]) rfl ?_
  refine ax_aload_n (pc := 105) C d_For_writeClause_105 rfl 1 rfl ?_
  refine ax_aload_n (pc := 106) C d_For_writeClause_106 rfl 2 rfl ?_
  refine ax_iload (pc := 107) C d_For_writeClause_107 7 rfl ?_
  refine ax_iload (pc := 109) C d_For_writeClause_109 0 rfl ?_
  refine ax_aload_n (pc := 111) C d_For_writeClause_111 rfl 1 rfl ?_
  refine cg_14_15_For_52 (pc := 112) C d_For_writeClause_112 ?_
  refine cg_29_0_For_75 (pc := 115) C d_For_writeClause_115 ?_
  refine ax_aload_n (pc := 118) C d_For_writeClause_118 rfl 1 rfl ?_
  refine cg_14_15_For_52 (pc := 119) C d_For_writeClause_119 ?_
  refine cg_29_1_For_59 (pc := 122) C d_For_writeClause_122 ?_
  refine ax_iconst (pc := 125) C 2 d_For_writeClause_125 (by decide +kernel) ?_
  refine ax_iadd (pc := 126) C d_For_writeClause_126 ?_
  replace h := it_g h
  obtain ⟨hb, h⟩ := h
  refine cl_30 (pc := 127) C d_For_writeClause_127 (bin_in hb) ?_
  replace h := it_b h
  obtain ⟨σ1, r1, d1_1, d2_1, h1, h, hd2, hd1⟩ := h
  replace hle := hG _ _ _ _ (by decide) h1
  dsimp only at hle
  replace hmn : gle σ1 σf := gm_use h (gm_tail hG (Nat.le_of_ble_eq_true rfl))
  replace hm : sG_For_writePart l D kA u σ [x4, x5, (σ.2.1 30 (Int32.toNatClampNeg (((σ.1 2901) : Int32) + 2)))] (σ1, r1, d1_1) := ih tG_For_writePart _ _ _ h1
  refine gc_Vv (pc := 128) C (As := [.ref (u 39), .int x4, .int x5, .int (σ.2.1 30 (Int32.toNatClampNeg (((σ.1 2901) : Int32) + 2)))]) (rest := []) (hm _ _ _ rfl w tx) ml_For_161 14 rfl rfl rfl d_For_writeClause_128 rfl rfl (by dsimp only; omega) (by dsimp only; omega) (by have := hmn.1; have := hle.1; dsimp only; omega) (by have := hmn.2; have := hle.2; dsimp only; omega) (Nat.le_of_ble_eq_true rfl) (fun w1 hw => ?_)
  obtain ⟨w1, tx1, hag1, htq1, hwq1⟩ := hw
  dsimp only at hwq1
  subst hwq1
  dsimp only
  replace htq1 := htq1.symm
  subst htq1
  have hga1 : ∀ i, ([30] : List Nat).elem i = false → w1 i = w0 i := fun i hi => (hag1 i (by revert hi; exact el_sub (by decide))).trans (hga i hi)
  replace hcq : (cells + (σ1.2.2 3001 - σ.2.2 3001)) + σf.2.2 3001 ≤ mc + σ1.2.2 3001 := by have := hmn.1; have := hle.1; omega
  replace hcm : (cells + (σ1.2.2 3001 - σ.2.2 3001)) ≤ mc := by have := hmn.1; have := hle.1; omega
  generalize cells + (σ1.2.2 3001 - σ.2.2 3001) = cells at hcq hcm ⊢
  replace hsq : (slots + (σ1.2.2 3002 - σ.2.2 3002)) + σf.2.2 3002 ≤ ms + σ1.2.2 3002 := by have := hmn.2; have := hle.2; omega
  replace hsm : (slots + (σ1.2.2 3002 - σ.2.2 3002)) ≤ ms := by have := hmn.2; have := hle.2; omega
  generalize slots + (σ1.2.2 3002 - σ.2.2 3002) = slots at hsq hsm ⊢
  replace hF : d2_1 + 3 ≤ F := by omega
  replace hLo : 48 * d2_1 + 144 ≤ Lo := by omega
  refine ax_iinc (pc := 131) C (x3 + 1) d_For_writeClause_131 6 rfl rfl (Nat.le_of_ble_eq_true rfl) ([(5, .int (x3 + 1)), (7, .int x5), (0, .ref (u 14)), (1, .ref (u 39)), (2, .int x0), (3, .int x1), (4, .int x2), (6, .int x4)]) rfl ?_
  refine ax_goto (pc := 134) C 23 d_For_writeClause_134 (by decide) ?_
  refine ax_ls ([(0, .ref (u 14)), (1, .ref (u 39)), (2, .int x0), (3, .int x1), (4, .int x2), (5, .int (x3 + 1))]) [2, 3, 4, 5, 6, 0] rfl ?_
  replace hm : sG_For_writeClause_p23 l D kA u σ1 [x0, x1, x2, (x3 + 1)] (σf, rf, _) := ih tG_For_writeClause_p23 _ _ _ h
  exact hm _ _ _ _ rfl w1 tx p e s m args below meth c F Lo mc ms cells slots σ0 w0 tx0 hF hLo hcq hsq hga1 C
set_option maxHeartbeats 4000000 in
set_option maxRecDepth 100000 in
theorem oG_For_writeClause_p137 (l : Launch) (D : va_G) (kA : Nat → ClassId) (u : Nat → Nat) (rec : mF) (hG : GM rec) (ihC : ∀ (w : Nat → Nat) (tx : Value) t σ xs res, rec t σ xs = some res → cSem l D kA u w tx t σ xs res) (ih : ∀ t σ xs res, rec t σ xs = some res → gSem l D kA u t σ xs res) (σ : mS) (xs : List Int32) (res : mR) (h : u_4 (kG_For_writeClause_p137 rec σ) xs = some res) : sG_For_writeClause_p137 l D kA u σ xs res := by
  intro x0 x1 x2 x3 hxs w tx
  subst hxs
  obtain ⟨σf, rf, dd⟩ := res
  have hmn : gle σ σf := qG_For_writeClause_p137 rec hG σ x0 x1 x2 x3 _ h
  have h : (some (σ, 0, 0)) = some (σf, rf, dd) := h
  intro p e s m args below meth c F Lo mc ms cells slots σ0 w0 tx0 hF hLo hcq hsq hga C
  dsimp only at hF hLo hcq hsq ⊢
  have hcm : cells ≤ mc := by have := hmn.1; omega
  have hsm : slots ≤ ms := by have := hmn.2; omega
  have hle : True := trivial
  have hm : True := trivial
  cases h
  exact ax_vret (pc := 137) C d_For_writeClause_137 ⟨w, tx, hga, rfl, rfl⟩ hcm hsm
set_option maxHeartbeats 4000000 in
set_option maxRecDepth 100000 in
theorem oG_For_writePart (l : Launch) (D : va_G) (kA : Nat → ClassId) (u : Nat → Nat) (rec : mF) (hG : GM rec) (ihC : ∀ (w : Nat → Nat) (tx : Value) t σ xs res, rec t σ xs = some res → cSem l D kA u w tx t σ xs res) (ih : ∀ t σ xs res, rec t σ xs = some res → gSem l D kA u t σ xs res) (σ : mS) (xs : List Int32) (res : mR) (h : u_3 (kG_For_writePart rec σ) xs = some res) : sG_For_writePart l D kA u σ xs res := by
  intro x0 x1 x2 hxs w tx
  subst hxs
  obtain ⟨σf, rf, dd⟩ := res
  have hmn : gle σ σf := qG_For_writePart rec hG σ x0 x1 x2 _ h
  have h : (bnd (rec tC_For_get σ [x0, 0]) (fun σ1 r1 => bnd (rec tC_For_get σ1 [x0, 1]) (fun σ2 r2 => bnd (rec tC_For_get σ2 [x0, 2]) (fun σ3 r3 => if (r1 : Int32).toInt < 11 ∨ 17 < (r1 : Int32).toInt then (if r1 = 9 then (rec tG_For_writePart_p224 σ3 [x0, x1, x2, r1, r2, r3, 1]) else (rec tG_For_writePart_p224 σ3 [x0, x1, x2, r1, r2, r3, 0])) else (if (r1 : Int32) = 11 then (if x1 = 0 then (rec tG_For_writePart_p80 σ3 [x0, x1, x2, r1, r2, r3, 1, r2]) else (rec tG_For_writePart_p80 σ3 [x0, x1, x2, r1, r2, r3, 0, r2])) else (if (r1 : Int32) = 12 then (if r1 = 13 then (rec tG_For_writePart_p106 σ3 [x0, x1, x2, r1, r2, r3, 1, r3]) else (rec tG_For_writePart_p106 σ3 [x0, x1, x2, r1, r2, r3, 0, r3])) else (if (r1 : Int32) = 13 then (if r1 = 13 then (rec tG_For_writePart_p106 σ3 [x0, x1, x2, r1, r2, r3, 1, r3]) else (rec tG_For_writePart_p106 σ3 [x0, x1, x2, r1, r2, r3, 0, r3])) else (if (r1 : Int32) = 14 then (if r1 = 14 then (rec tG_For_writePart_p141 σ3 [x0, x1, x2, r1, r2, r3, 1]) else (rec tG_For_writePart_p141 σ3 [x0, x1, x2, r1, r2, r3, 0])) else (if (r1 : Int32) = 15 then (if r1 = 14 then (rec tG_For_writePart_p141 σ3 [x0, x1, x2, r1, r2, r3, 1]) else (rec tG_For_writePart_p141 σ3 [x0, x1, x2, r1, r2, r3, 0])) else (if (r1 : Int32) = 16 then (if x1 = 0 then (rec tG_For_writePart_p174 σ3 [x0, x1, x2, r1, r2, r3, 1]) else (rec tG_For_writePart_p174 σ3 [x0, x1, x2, r1, r2, r3, 0])) else (bnd (rec tG_For_equivalent σ3 [r2, r3, x1, x2]) (fun σ4 r4 => rec tG_For_writePart_p240 σ4 [x0, x1, x2, r1, r2, r3])))))))))))) = some (σf, rf, dd) := h
  refine ax_Mv.of (by decide +kernel) (Nat.le_of_ble_eq_true rfl) ?_
  intro p e s m args below meth c C hnm
  replace C : ax_C p s m args meth c b_For_writePart "ClauseProver$Formulas" 8 none D kA (va_A (cpW kA u w tx σ) s.heap.size) := C
  obtain ⟨F, hFe⟩ : ∃ z, z = dd + 3 := ⟨_, rfl⟩
  obtain ⟨Lo, hLoe⟩ : ∃ z, z = 48 * dd + 144 := ⟨_, rfl⟩
  obtain ⟨mc, hmce⟩ : ∃ z, z = σf.2.2 3001 - σ.2.2 3001 := ⟨_, rfl⟩
  obtain ⟨ms, hmse⟩ : ∃ z, z = σf.2.2 3002 - σ.2.2 3002 := ⟨_, rfl⟩
  obtain ⟨σ0, hσ0e⟩ : ∃ z, z = σ := ⟨_, rfl⟩
  obtain ⟨w0, hw0e⟩ : ∃ z, z = w := ⟨_, rfl⟩
  obtain ⟨tx0, htx0e⟩ : ∃ z, z = tx := ⟨_, rfl⟩
  suffices K : ∀ (cells slots : Nat), cells = 0 → slots = 0 → AW p l e { frames := F, cells := mc, slots := ms, locals := Lo } s m args below meth c D kA (va_A (cpW kA u w0 tx0 σ0) s.heap.size) 8 (ax_Qv below args s D kA (cpW kA u w0 tx0 σ0) mc ms (fun w1 => ∃ (w2 : Nat → Nat) (tx2 : Value), (∀ i, ([30] : List Nat).elem i = false → w2 i = w0 i) ∧ tx2 = tx0 ∧ w1 = cpW kA u w2 tx2 σf)) 0 [(0, .ref (u 14)), (1, .ref (u 39)), (2, .int x0), (3, .int x1), (4, .int x2)] [] (cpW kA u w tx σ) cells slots by
    have K := K 0 0 rfl rfl
    rw [hFe, hLoe, hmce, hmse, hσ0e, hw0e, htx0e] at K
    exact ax_ls ([(0, .ref (u 14)), (1, .ref (u 39)), (2, .int x0), (3, .int x1), (4, .int x2)]) [0, 1, 2, 3, 4] rfl K
  replace C : ax_C p s m args meth c b_For_writePart "ClauseProver$Formulas" 8 none D kA (va_A (cpW kA u w0 tx0 σ0) s.heap.size) := by rw [hσ0e, hw0e, htx0e]; exact C
  intro cells slots hc0 hs0
  have hcq : cells + σf.2.2 3001 ≤ mc + σ.2.2 3001 := by have := hmn.1; omega
  have hsq : slots + σf.2.2 3002 ≤ ms + σ.2.2 3002 := by have := hmn.2; omega
  have hga : ∀ i, ([30] : List Nat).elem i = false → w i = w0 i := fun i _ => by rw [hw0e]
  have e9 : tx = tx0 := htx0e.symm
  subst e9
  have hF : dd + 3 ≤ F := by omega
  have hLo : 48 * dd + 144 ≤ Lo := by omega
  have hcm : cells ≤ mc := by have := hmn.1; omega
  have hsm : slots ≤ ms := by have := hmn.2; omega
  have hle : True := trivial
  have hm : True := trivial
  refine ax_aload_n (pc := 0) C d_For_writePart_0 rfl 0 rfl ?_
  refine ax_iload_n (pc := 1) C d_For_writePart_1 rfl 2 rfl ?_
  refine ax_iconst (pc := 2) C 0 d_For_writePart_2 (by decide +kernel) ?_
  replace h := it_b h
  obtain ⟨σ1, r1, d1_1, d2_1, h1, h, hd2, hd1⟩ := h
  replace hle := hG _ _ _ _ (by decide) h1
  dsimp only at hle
  replace hmn : gle σ1 σf := gm_use h (gm_bnd hG (Nat.le_of_ble_eq_true rfl) (fun _ _ => (gm_bnd hG (Nat.le_of_ble_eq_true rfl) (fun _ _ => (gm_if (gm_if (gm_tail hG (Nat.le_of_ble_eq_true rfl)) (gm_tail hG (Nat.le_of_ble_eq_true rfl))) (gm_if (gm_if (gm_tail hG (Nat.le_of_ble_eq_true rfl)) (gm_tail hG (Nat.le_of_ble_eq_true rfl))) (gm_if (gm_if (gm_tail hG (Nat.le_of_ble_eq_true rfl)) (gm_tail hG (Nat.le_of_ble_eq_true rfl))) (gm_if (gm_if (gm_tail hG (Nat.le_of_ble_eq_true rfl)) (gm_tail hG (Nat.le_of_ble_eq_true rfl))) (gm_if (gm_if (gm_tail hG (Nat.le_of_ble_eq_true rfl)) (gm_tail hG (Nat.le_of_ble_eq_true rfl))) (gm_if (gm_if (gm_tail hG (Nat.le_of_ble_eq_true rfl)) (gm_tail hG (Nat.le_of_ble_eq_true rfl))) (gm_if (gm_if (gm_tail hG (Nat.le_of_ble_eq_true rfl)) (gm_tail hG (Nat.le_of_ble_eq_true rfl))) (gm_bnd hG (Nat.le_of_ble_eq_true rfl) (fun _ _ => (gm_tail hG (Nat.le_of_ble_eq_true rfl)))))))))))))))
  replace hm : sC_For_get l D kA u w tx σ [x0, 0] (σ1, r1, d1_1) := ihC _ _ tC_For_get _ _ _ h1
  refine cc_Vi (pc := 3) C (r0 := r1) (σ2 := σ1) (As := [.int x0, .int 0]) (rest := []) (hm _ _ rfl) ml_For_104 14 rfl rfl rfl d_For_writePart_3 rfl rfl (by dsimp only; omega) (by dsimp only; omega) hcm hsm (Nat.le_of_ble_eq_true rfl) ?_
  replace hcq : cells + σf.2.2 3001 ≤ mc + σ1.2.2 3001 := by have := hle.1; omega
  replace hsq : slots + σf.2.2 3002 ≤ ms + σ1.2.2 3002 := by have := hle.2; omega
  replace hF : d2_1 + 3 ≤ F := by omega
  replace hLo : 48 * d2_1 + 144 ≤ Lo := by omega
  refine ax_istore (pc := 6) C d_For_writePart_6 (Nat.le_of_ble_eq_true rfl) ([(5, .int r1), (0, .ref (u 14)), (1, .ref (u 39)), (2, .int x0), (3, .int x1), (4, .int x2)]) rfl ?_
  refine ax_aload_n (pc := 8) C d_For_writePart_8 rfl 1 rfl ?_
  refine ax_iload_n (pc := 9) C d_For_writePart_9 rfl 3 rfl ?_
  refine ax_iconst (pc := 10) C 1 d_For_writePart_10 (by decide +kernel) ?_
  replace h := it_b h
  obtain ⟨σ2, r2, d1_2, d2_2, h1, h, hd2, hd1⟩ := h
  replace hle := hG _ _ _ _ (by decide) h1
  dsimp only at hle
  replace hmn : gle σ2 σf := gm_use h (gm_bnd hG (Nat.le_of_ble_eq_true rfl) (fun _ _ => (gm_if (gm_if (gm_tail hG (Nat.le_of_ble_eq_true rfl)) (gm_tail hG (Nat.le_of_ble_eq_true rfl))) (gm_if (gm_if (gm_tail hG (Nat.le_of_ble_eq_true rfl)) (gm_tail hG (Nat.le_of_ble_eq_true rfl))) (gm_if (gm_if (gm_tail hG (Nat.le_of_ble_eq_true rfl)) (gm_tail hG (Nat.le_of_ble_eq_true rfl))) (gm_if (gm_if (gm_tail hG (Nat.le_of_ble_eq_true rfl)) (gm_tail hG (Nat.le_of_ble_eq_true rfl))) (gm_if (gm_if (gm_tail hG (Nat.le_of_ble_eq_true rfl)) (gm_tail hG (Nat.le_of_ble_eq_true rfl))) (gm_if (gm_if (gm_tail hG (Nat.le_of_ble_eq_true rfl)) (gm_tail hG (Nat.le_of_ble_eq_true rfl))) (gm_if (gm_if (gm_tail hG (Nat.le_of_ble_eq_true rfl)) (gm_tail hG (Nat.le_of_ble_eq_true rfl))) (gm_bnd hG (Nat.le_of_ble_eq_true rfl) (fun _ _ => (gm_tail hG (Nat.le_of_ble_eq_true rfl)))))))))))))
  replace hm : sC_For_get l D kA u w tx σ1 [x0, 1] (σ2, r2, d1_2) := ihC _ _ tC_For_get _ _ _ h1
  refine cc_Vi (pc := 11) C (r0 := r2) (σ2 := σ2) (As := [.int x0, .int 1]) (rest := []) (hm _ _ rfl) ml_For_104 14 rfl rfl rfl d_For_writePart_11 rfl rfl (by dsimp only; omega) (by dsimp only; omega) hcm hsm (Nat.le_of_ble_eq_true rfl) ?_
  replace hcq : cells + σf.2.2 3001 ≤ mc + σ2.2.2 3001 := by have := hle.1; omega
  replace hsq : slots + σf.2.2 3002 ≤ ms + σ2.2.2 3002 := by have := hle.2; omega
  replace hF : d2_2 + 3 ≤ F := by omega
  replace hLo : 48 * d2_2 + 144 ≤ Lo := by omega
  refine ax_istore (pc := 14) C d_For_writePart_14 (Nat.le_of_ble_eq_true rfl) ([(6, .int r2), (5, .int r1), (0, .ref (u 14)), (1, .ref (u 39)), (2, .int x0), (3, .int x1), (4, .int x2)]) rfl ?_
  refine ax_aload_n (pc := 16) C d_For_writePart_16 rfl 2 rfl ?_
  refine ax_iload_n (pc := 17) C d_For_writePart_17 rfl 4 rfl ?_
  refine ax_iconst (pc := 18) C 2 d_For_writePart_18 (by decide +kernel) ?_
  replace h := it_b h
  obtain ⟨σ3, r3, d1_3, d2_3, h1, h, hd2, hd1⟩ := h
  replace hle := hG _ _ _ _ (by decide) h1
  dsimp only at hle
  replace hmn : gle σ3 σf := gm_use h (gm_if (gm_if (gm_tail hG (Nat.le_of_ble_eq_true rfl)) (gm_tail hG (Nat.le_of_ble_eq_true rfl))) (gm_if (gm_if (gm_tail hG (Nat.le_of_ble_eq_true rfl)) (gm_tail hG (Nat.le_of_ble_eq_true rfl))) (gm_if (gm_if (gm_tail hG (Nat.le_of_ble_eq_true rfl)) (gm_tail hG (Nat.le_of_ble_eq_true rfl))) (gm_if (gm_if (gm_tail hG (Nat.le_of_ble_eq_true rfl)) (gm_tail hG (Nat.le_of_ble_eq_true rfl))) (gm_if (gm_if (gm_tail hG (Nat.le_of_ble_eq_true rfl)) (gm_tail hG (Nat.le_of_ble_eq_true rfl))) (gm_if (gm_if (gm_tail hG (Nat.le_of_ble_eq_true rfl)) (gm_tail hG (Nat.le_of_ble_eq_true rfl))) (gm_if (gm_if (gm_tail hG (Nat.le_of_ble_eq_true rfl)) (gm_tail hG (Nat.le_of_ble_eq_true rfl))) (gm_bnd hG (Nat.le_of_ble_eq_true rfl) (fun _ _ => (gm_tail hG (Nat.le_of_ble_eq_true rfl)))))))))))
  replace hm : sC_For_get l D kA u w tx σ2 [x0, 2] (σ3, r3, d1_3) := ihC _ _ tC_For_get _ _ _ h1
  refine cc_Vi (pc := 19) C (r0 := r3) (σ2 := σ3) (As := [.int x0, .int 2]) (rest := []) (hm _ _ rfl) ml_For_104 14 rfl rfl rfl d_For_writePart_19 rfl rfl (by dsimp only; omega) (by dsimp only; omega) hcm hsm (Nat.le_of_ble_eq_true rfl) ?_
  replace hcq : cells + σf.2.2 3001 ≤ mc + σ3.2.2 3001 := by have := hle.1; omega
  replace hsq : slots + σf.2.2 3002 ≤ ms + σ3.2.2 3002 := by have := hle.2; omega
  replace hF : d2_3 + 3 ≤ F := by omega
  replace hLo : 48 * d2_3 + 144 ≤ Lo := by omega
  refine ax_istore (pc := 22) C d_For_writePart_22 (Nat.le_of_ble_eq_true rfl) ([(7, .int r3), (6, .int r2), (5, .int r1), (0, .ref (u 14)), (1, .ref (u 39)), (2, .int x0), (3, .int x1), (4, .int x2)]) rfl ?_
  refine ax_iload (pc := 24) C d_For_writePart_24 2 rfl ?_
  by_cases hr : (r1 : Int32).toInt < 11 ∨ 17 < (r1 : Int32).toInt
  · replace h := it_t hr h
    refine ax_tableOut (pc := 26) C 210 d_For_writePart_26 hr (by decide) ?_
    refine ax_aload_n (pc := 210) C d_For_writePart_210 rfl 3 rfl ?_
    refine ax_aload_n (pc := 211) C d_For_writePart_211 rfl 4 rfl ?_
    refine ax_iload (pc := 212) C d_For_writePart_212 2 rfl ?_
    refine ax_bipush (pc := 214) C 9 d_For_writePart_214 (by decide +kernel) ?_
    refine ax_icmp_ne (pc := 216) C 223 d_For_writePart_216 (by decide) (fun hc => ?_) (fun hc => ?_)
    · replace h := it_f hc h
      refine ax_iconst (pc := 223) C 0 d_For_writePart_223 (by decide +kernel) ?_
      refine ax_ls ([(0, .ref (u 14)), (1, .ref (u 39)), (2, .int x0), (3, .int x1), (4, .int x2), (5, .int r1), (6, .int r2), (7, .int r3)]) [3, 4, 5, 6, 7, 2, 1, 0] rfl ?_
      replace hm : sG_For_writePart_p224 l D kA u σ3 [x0, x1, x2, r1, r2, r3, 0] (σf, rf, _) := ih tG_For_writePart_p224 _ _ _ h
      exact hm _ _ _ _ _ _ _ rfl w tx p e s m args below meth c F Lo mc ms cells slots σ0 w0 tx hF hLo hcq hsq hga C
    · replace h := it_t hc h
      refine ax_iconst (pc := 219) C 1 d_For_writePart_219 (by decide +kernel) ?_
      refine ax_goto (pc := 220) C 224 d_For_writePart_220 (by decide) ?_
      refine ax_ls ([(0, .ref (u 14)), (1, .ref (u 39)), (2, .int x0), (3, .int x1), (4, .int x2), (5, .int r1), (6, .int r2), (7, .int r3)]) [3, 4, 5, 6, 7, 2, 1, 0] rfl ?_
      replace hm : sG_For_writePart_p224 l D kA u σ3 [x0, x1, x2, r1, r2, r3, 1] (σf, rf, _) := ih tG_For_writePart_p224 _ _ _ h
      exact hm _ _ _ _ _ _ _ rfl w tx p e s m args below meth c F Lo mc ms cells slots σ0 w0 tx hF hLo hcq hsq hga C
  · replace h := it_f hr h
    by_cases hv : (r1 : Int32) = 11
    · replace h := it_t hv h
      refine ax_tableIn (pc := 26) C 68 d_For_writePart_26 (by omega) (by omega) (by rw [hv]; rfl) (by decide) ?_
      refine ax_aload_n (pc := 68) C d_For_writePart_68 rfl 3 rfl ?_
      refine ax_iload (pc := 69) C d_For_writePart_69 1 rfl ?_
      refine ax_iload_n (pc := 71) C d_For_writePart_71 rfl 6 rfl ?_
      refine ax_if_ne (pc := 72) C 79 d_For_writePart_72 (by decide) (fun hc => ?_) (fun hc => ?_)
      · replace h := it_f hc h
        refine ax_iconst (pc := 79) C 0 d_For_writePart_79 (by decide +kernel) ?_
        refine ax_ls ([(0, .ref (u 14)), (1, .ref (u 39)), (2, .int x0), (3, .int x1), (4, .int x2), (5, .int r1), (6, .int r2), (7, .int r3)]) [3, 4, 5, 6, 7, 2, 1, 0] rfl ?_
        replace hm : sG_For_writePart_p80 l D kA u σ3 [x0, x1, x2, r1, r2, r3, 0, r2] (σf, rf, _) := ih tG_For_writePart_p80 _ _ _ h
        exact hm _ _ _ _ _ _ _ _ rfl w tx p e s m args below meth c F Lo mc ms cells slots σ0 w0 tx hF hLo hcq hsq hga C
      · replace h := it_t hc h
        refine ax_iconst (pc := 75) C 1 d_For_writePart_75 (by decide +kernel) ?_
        refine ax_goto (pc := 76) C 80 d_For_writePart_76 (by decide) ?_
        refine ax_ls ([(0, .ref (u 14)), (1, .ref (u 39)), (2, .int x0), (3, .int x1), (4, .int x2), (5, .int r1), (6, .int r2), (7, .int r3)]) [3, 4, 5, 6, 7, 2, 1, 0] rfl ?_
        replace hm : sG_For_writePart_p80 l D kA u σ3 [x0, x1, x2, r1, r2, r3, 1, r2] (σf, rf, _) := ih tG_For_writePart_p80 _ _ _ h
        exact hm _ _ _ _ _ _ _ _ rfl w tx p e s m args below meth c F Lo mc ms cells slots σ0 w0 tx hF hLo hcq hsq hga C
    · replace h := it_f hv h
      have hn11 : ¬ (r1 : Int32).toInt = 11 := fun q => hv (i32q (by rw [q]; rfl))
      by_cases hv : (r1 : Int32) = 12
      · replace h := it_t hv h
        refine ax_tableIn (pc := 26) C 88 d_For_writePart_26 (by omega) (by omega) (by rw [hv]; rfl) (by decide) ?_
        refine ax_aload_n (pc := 88) C d_For_writePart_88 rfl 3 rfl ?_
        refine cg_14_12_For_45 (pc := 89) C d_For_writePart_89 ?_
        refine ax_iload (pc := 92) C d_For_writePart_92 0 rfl ?_
        refine ax_iload (pc := 94) C d_For_writePart_94 2 rfl ?_
        refine ax_bipush (pc := 96) C 13 d_For_writePart_96 (by decide +kernel) ?_
        refine ax_icmp_ne (pc := 98) C 105 d_For_writePart_98 (by decide) (fun hc => ?_) (fun hc => ?_)
        · replace h := it_f hc h
          refine ax_iconst (pc := 105) C 0 d_For_writePart_105 (by decide +kernel) ?_
          refine ax_ls ([(0, .ref (u 14)), (1, .ref (u 39)), (2, .int x0), (3, .int x1), (4, .int x2), (5, .int r1), (6, .int r2), (7, .int r3)]) [3, 4, 5, 6, 7, 2, 1, 0] rfl ?_
          replace hm : sG_For_writePart_p106 l D kA u σ3 [x0, x1, x2, r1, r2, r3, 0, r3] (σf, rf, _) := ih tG_For_writePart_p106 _ _ _ h
          exact hm _ _ _ _ _ _ _ _ rfl w tx p e s m args below meth c F Lo mc ms cells slots σ0 w0 tx hF hLo hcq hsq hga C
        · replace h := it_t hc h
          refine ax_iconst (pc := 101) C 1 d_For_writePart_101 (by decide +kernel) ?_
          refine ax_goto (pc := 102) C 106 d_For_writePart_102 (by decide) ?_
          refine ax_ls ([(0, .ref (u 14)), (1, .ref (u 39)), (2, .int x0), (3, .int x1), (4, .int x2), (5, .int r1), (6, .int r2), (7, .int r3)]) [3, 4, 5, 6, 7, 2, 1, 0] rfl ?_
          replace hm : sG_For_writePart_p106 l D kA u σ3 [x0, x1, x2, r1, r2, r3, 1, r3] (σf, rf, _) := ih tG_For_writePart_p106 _ _ _ h
          exact hm _ _ _ _ _ _ _ _ rfl w tx p e s m args below meth c F Lo mc ms cells slots σ0 w0 tx hF hLo hcq hsq hga C
      · replace h := it_f hv h
        have hn12 : ¬ (r1 : Int32).toInt = 12 := fun q => hv (i32q (by rw [q]; rfl))
        by_cases hv : (r1 : Int32) = 13
        · replace h := it_t hv h
          refine ax_tableIn (pc := 26) C 88 d_For_writePart_26 (by omega) (by omega) (by rw [hv]; rfl) (by decide) ?_
          refine ax_aload_n (pc := 88) C d_For_writePart_88 rfl 3 rfl ?_
          refine cg_14_12_For_45 (pc := 89) C d_For_writePart_89 ?_
          refine ax_iload (pc := 92) C d_For_writePart_92 0 rfl ?_
          refine ax_iload (pc := 94) C d_For_writePart_94 2 rfl ?_
          refine ax_bipush (pc := 96) C 13 d_For_writePart_96 (by decide +kernel) ?_
          refine ax_icmp_ne (pc := 98) C 105 d_For_writePart_98 (by decide) (fun hc => ?_) (fun hc => ?_)
          · replace h := it_f hc h
            refine ax_iconst (pc := 105) C 0 d_For_writePart_105 (by decide +kernel) ?_
            refine ax_ls ([(0, .ref (u 14)), (1, .ref (u 39)), (2, .int x0), (3, .int x1), (4, .int x2), (5, .int r1), (6, .int r2), (7, .int r3)]) [3, 4, 5, 6, 7, 2, 1, 0] rfl ?_
            replace hm : sG_For_writePart_p106 l D kA u σ3 [x0, x1, x2, r1, r2, r3, 0, r3] (σf, rf, _) := ih tG_For_writePart_p106 _ _ _ h
            exact hm _ _ _ _ _ _ _ _ rfl w tx p e s m args below meth c F Lo mc ms cells slots σ0 w0 tx hF hLo hcq hsq hga C
          · replace h := it_t hc h
            refine ax_iconst (pc := 101) C 1 d_For_writePart_101 (by decide +kernel) ?_
            refine ax_goto (pc := 102) C 106 d_For_writePart_102 (by decide) ?_
            refine ax_ls ([(0, .ref (u 14)), (1, .ref (u 39)), (2, .int x0), (3, .int x1), (4, .int x2), (5, .int r1), (6, .int r2), (7, .int r3)]) [3, 4, 5, 6, 7, 2, 1, 0] rfl ?_
            replace hm : sG_For_writePart_p106 l D kA u σ3 [x0, x1, x2, r1, r2, r3, 1, r3] (σf, rf, _) := ih tG_For_writePart_p106 _ _ _ h
            exact hm _ _ _ _ _ _ _ _ rfl w tx p e s m args below meth c F Lo mc ms cells slots σ0 w0 tx hF hLo hcq hsq hga C
        · replace h := it_f hv h
          have hn13 : ¬ (r1 : Int32).toInt = 13 := fun q => hv (i32q (by rw [q]; rfl))
          by_cases hv : (r1 : Int32) = 14
          · replace h := it_t hv h
            refine ax_tableIn (pc := 26) C 128 d_For_writePart_26 (by omega) (by omega) (by rw [hv]; rfl) (by decide) ?_
            refine ax_aload_n (pc := 128) C d_For_writePart_128 rfl 3 rfl ?_
            refine ax_iload (pc := 129) C d_For_writePart_129 2 rfl ?_
            refine ax_bipush (pc := 131) C 14 d_For_writePart_131 (by decide +kernel) ?_
            refine ax_icmp_ne (pc := 133) C 140 d_For_writePart_133 (by decide) (fun hc => ?_) (fun hc => ?_)
            · replace h := it_f hc h
              refine ax_iconst (pc := 140) C 0 d_For_writePart_140 (by decide +kernel) ?_
              refine ax_ls ([(0, .ref (u 14)), (1, .ref (u 39)), (2, .int x0), (3, .int x1), (4, .int x2), (5, .int r1), (6, .int r2), (7, .int r3)]) [3, 4, 5, 6, 7, 2, 1, 0] rfl ?_
              replace hm : sG_For_writePart_p141 l D kA u σ3 [x0, x1, x2, r1, r2, r3, 0] (σf, rf, _) := ih tG_For_writePart_p141 _ _ _ h
              exact hm _ _ _ _ _ _ _ rfl w tx p e s m args below meth c F Lo mc ms cells slots σ0 w0 tx hF hLo hcq hsq hga C
            · replace h := it_t hc h
              refine ax_iconst (pc := 136) C 1 d_For_writePart_136 (by decide +kernel) ?_
              refine ax_goto (pc := 137) C 141 d_For_writePart_137 (by decide) ?_
              refine ax_ls ([(0, .ref (u 14)), (1, .ref (u 39)), (2, .int x0), (3, .int x1), (4, .int x2), (5, .int r1), (6, .int r2), (7, .int r3)]) [3, 4, 5, 6, 7, 2, 1, 0] rfl ?_
              replace hm : sG_For_writePart_p141 l D kA u σ3 [x0, x1, x2, r1, r2, r3, 1] (σf, rf, _) := ih tG_For_writePart_p141 _ _ _ h
              exact hm _ _ _ _ _ _ _ rfl w tx p e s m args below meth c F Lo mc ms cells slots σ0 w0 tx hF hLo hcq hsq hga C
          · replace h := it_f hv h
            have hn14 : ¬ (r1 : Int32).toInt = 14 := fun q => hv (i32q (by rw [q]; rfl))
            by_cases hv : (r1 : Int32) = 15
            · replace h := it_t hv h
              refine ax_tableIn (pc := 26) C 128 d_For_writePart_26 (by omega) (by omega) (by rw [hv]; rfl) (by decide) ?_
              refine ax_aload_n (pc := 128) C d_For_writePart_128 rfl 3 rfl ?_
              refine ax_iload (pc := 129) C d_For_writePart_129 2 rfl ?_
              refine ax_bipush (pc := 131) C 14 d_For_writePart_131 (by decide +kernel) ?_
              refine ax_icmp_ne (pc := 133) C 140 d_For_writePart_133 (by decide) (fun hc => ?_) (fun hc => ?_)
              · replace h := it_f hc h
                refine ax_iconst (pc := 140) C 0 d_For_writePart_140 (by decide +kernel) ?_
                refine ax_ls ([(0, .ref (u 14)), (1, .ref (u 39)), (2, .int x0), (3, .int x1), (4, .int x2), (5, .int r1), (6, .int r2), (7, .int r3)]) [3, 4, 5, 6, 7, 2, 1, 0] rfl ?_
                replace hm : sG_For_writePart_p141 l D kA u σ3 [x0, x1, x2, r1, r2, r3, 0] (σf, rf, _) := ih tG_For_writePart_p141 _ _ _ h
                exact hm _ _ _ _ _ _ _ rfl w tx p e s m args below meth c F Lo mc ms cells slots σ0 w0 tx hF hLo hcq hsq hga C
              · replace h := it_t hc h
                refine ax_iconst (pc := 136) C 1 d_For_writePart_136 (by decide +kernel) ?_
                refine ax_goto (pc := 137) C 141 d_For_writePart_137 (by decide) ?_
                refine ax_ls ([(0, .ref (u 14)), (1, .ref (u 39)), (2, .int x0), (3, .int x1), (4, .int x2), (5, .int r1), (6, .int r2), (7, .int r3)]) [3, 4, 5, 6, 7, 2, 1, 0] rfl ?_
                replace hm : sG_For_writePart_p141 l D kA u σ3 [x0, x1, x2, r1, r2, r3, 1] (σf, rf, _) := ih tG_For_writePart_p141 _ _ _ h
                exact hm _ _ _ _ _ _ _ rfl w tx p e s m args below meth c F Lo mc ms cells slots σ0 w0 tx hF hLo hcq hsq hga C
            · replace h := it_f hv h
              have hn15 : ¬ (r1 : Int32).toInt = 15 := fun q => hv (i32q (by rw [q]; rfl))
              by_cases hv : (r1 : Int32) = 16
              · replace h := it_t hv h
                refine ax_tableIn (pc := 26) C 164 d_For_writePart_26 (by omega) (by omega) (by rw [hv]; rfl) (by decide) ?_
                refine ax_aload_n (pc := 164) C d_For_writePart_164 rfl 3 rfl ?_
                refine ax_iload_n (pc := 165) C d_For_writePart_165 rfl 6 rfl ?_
                refine ax_if_ne (pc := 166) C 173 d_For_writePart_166 (by decide) (fun hc => ?_) (fun hc => ?_)
                · replace h := it_f hc h
                  refine ax_iconst (pc := 173) C 0 d_For_writePart_173 (by decide +kernel) ?_
                  refine ax_ls ([(0, .ref (u 14)), (1, .ref (u 39)), (2, .int x0), (3, .int x1), (4, .int x2), (5, .int r1), (6, .int r2), (7, .int r3)]) [3, 4, 5, 6, 7, 2, 1, 0] rfl ?_
                  replace hm : sG_For_writePart_p174 l D kA u σ3 [x0, x1, x2, r1, r2, r3, 0] (σf, rf, _) := ih tG_For_writePart_p174 _ _ _ h
                  exact hm _ _ _ _ _ _ _ rfl w tx p e s m args below meth c F Lo mc ms cells slots σ0 w0 tx hF hLo hcq hsq hga C
                · replace h := it_t hc h
                  refine ax_iconst (pc := 169) C 1 d_For_writePart_169 (by decide +kernel) ?_
                  refine ax_goto (pc := 170) C 174 d_For_writePart_170 (by decide) ?_
                  refine ax_ls ([(0, .ref (u 14)), (1, .ref (u 39)), (2, .int x0), (3, .int x1), (4, .int x2), (5, .int r1), (6, .int r2), (7, .int r3)]) [3, 4, 5, 6, 7, 2, 1, 0] rfl ?_
                  replace hm : sG_For_writePart_p174 l D kA u σ3 [x0, x1, x2, r1, r2, r3, 1] (σf, rf, _) := ih tG_For_writePart_p174 _ _ _ h
                  exact hm _ _ _ _ _ _ _ rfl w tx p e s m args below meth c F Lo mc ms cells slots σ0 w0 tx hF hLo hcq hsq hga C
              · replace h := it_f hv h
                have hn16 : ¬ (r1 : Int32).toInt = 16 := fun q => hv (i32q (by rw [q]; rfl))
                have hv : (r1 : Int32) = 17 := i32q (by have e9 : (17 : Int32).toInt = 17 := rfl; omega)
                refine ax_tableIn (pc := 26) C 196 d_For_writePart_26 (by omega) (by omega) (by rw [hv]; rfl) (by decide) ?_
                refine ax_aload_n (pc := 196) C d_For_writePart_196 rfl 3 rfl ?_
                refine ax_iload (pc := 197) C d_For_writePart_197 1 rfl ?_
                refine ax_iload (pc := 199) C d_For_writePart_199 0 rfl ?_
                refine ax_iload_n (pc := 201) C d_For_writePart_201 rfl 6 rfl ?_
                refine ax_iload (pc := 202) C d_For_writePart_202 7 rfl ?_
                replace h := it_b h
                obtain ⟨σ4, r4, d1_4, d2_4, h1, h, hd2, hd1⟩ := h
                replace hle := hG _ _ _ _ (by decide) h1
                dsimp only at hle
                replace hmn : gle σ4 σf := gm_use h (gm_tail hG (Nat.le_of_ble_eq_true rfl))
                replace hm : sG_For_equivalent l D kA u σ3 [r2, r3, x1, x2] (σ4, r4, d1_4) := ih tG_For_equivalent _ _ _ h1
                refine gc_Vv (pc := 204) C (As := [.int r2, .int r3, .int x1, .int x2]) (rest := []) (hm _ _ _ _ rfl w tx) ml_For_168 14 rfl rfl rfl d_For_writePart_204 rfl rfl (by dsimp only; omega) (by dsimp only; omega) (by have := hmn.1; have := hle.1; dsimp only; omega) (by have := hmn.2; have := hle.2; dsimp only; omega) (Nat.le_of_ble_eq_true rfl) (fun w1 hw => ?_)
                obtain ⟨w4, tx4, hag4, htq4, hwq4⟩ := hw
                dsimp only at hwq4
                subst hwq4
                dsimp only
                replace htq4 := htq4.symm
                subst htq4
                have hga4 : ∀ i, ([30] : List Nat).elem i = false → w4 i = w0 i := fun i hi => (hag4 i (by revert hi; exact el_sub (by decide))).trans (hga i hi)
                replace hcq : (cells + (σ4.2.2 3001 - σ3.2.2 3001)) + σf.2.2 3001 ≤ mc + σ4.2.2 3001 := by have := hmn.1; have := hle.1; omega
                replace hcm : (cells + (σ4.2.2 3001 - σ3.2.2 3001)) ≤ mc := by have := hmn.1; have := hle.1; omega
                generalize cells + (σ4.2.2 3001 - σ3.2.2 3001) = cells at hcq hcm ⊢
                replace hsq : (slots + (σ4.2.2 3002 - σ3.2.2 3002)) + σf.2.2 3002 ≤ ms + σ4.2.2 3002 := by have := hmn.2; have := hle.2; omega
                replace hsm : (slots + (σ4.2.2 3002 - σ3.2.2 3002)) ≤ ms := by have := hmn.2; have := hle.2; omega
                generalize slots + (σ4.2.2 3002 - σ3.2.2 3002) = slots at hsq hsm ⊢
                replace hF : d2_4 + 3 ≤ F := by omega
                replace hLo : 48 * d2_4 + 144 ≤ Lo := by omega
                refine ax_goto (pc := 207) C 240 d_For_writePart_207 (by decide) ?_
                refine ax_ls ([(0, .ref (u 14)), (1, .ref (u 39)), (2, .int x0), (3, .int x1), (4, .int x2), (5, .int r1), (6, .int r2), (7, .int r3)]) [3, 4, 5, 6, 7, 2, 1, 0] rfl ?_
                replace hm : sG_For_writePart_p240 l D kA u σ4 [x0, x1, x2, r1, r2, r3] (σf, rf, _) := ih tG_For_writePart_p240 _ _ _ h
                exact hm _ _ _ _ _ _ rfl w4 tx p e s m args below meth c F Lo mc ms cells slots σ0 w0 tx hF hLo hcq hsq hga4 C
set_option maxHeartbeats 4000000 in
set_option maxRecDepth 100000 in
theorem oG_For_writePart_p80 (l : Launch) (D : va_G) (kA : Nat → ClassId) (u : Nat → Nat) (rec : mF) (hG : GM rec) (ihC : ∀ (w : Nat → Nat) (tx : Value) t σ xs res, rec t σ xs = some res → cSem l D kA u w tx t σ xs res) (ih : ∀ t σ xs res, rec t σ xs = some res → gSem l D kA u t σ xs res) (σ : mS) (xs : List Int32) (res : mR) (h : u_8 (kG_For_writePart_p80 rec σ) xs = some res) : sG_For_writePart_p80 l D kA u σ xs res := by
  intro x0 x1 x2 x3 x4 x5 x6 x7 hxs w tx
  subst hxs
  obtain ⟨σf, rf, dd⟩ := res
  have hmn : gle σ σf := qG_For_writePart_p80 rec hG σ x0 x1 x2 x3 x4 x5 x6 x7 _ h
  have h : (bnd (rec tG_For_later σ [x7, x6, x2]) (fun σ1 r1 => rec tG_For_writePart_p240 σ1 [x0, x1, x2, x3, x4, x5])) = some (σf, rf, dd) := h
  intro p e s m args below meth c F Lo mc ms cells slots σ0 w0 tx0 hF hLo hcq hsq hga C
  dsimp only at hF hLo hcq hsq ⊢
  have hcm : cells ≤ mc := by have := hmn.1; omega
  have hsm : slots ≤ ms := by have := hmn.2; omega
  have hle : True := trivial
  have hm : True := trivial
  refine ax_iload (pc := 80) C d_For_writePart_80 4 rfl ?_
  replace h := it_b h
  obtain ⟨σ1, r1, d1_1, d2_1, h1, h, hd2, hd1⟩ := h
  replace hle := hG _ _ _ _ (by decide) h1
  dsimp only at hle
  replace hmn : gle σ1 σf := gm_use h (gm_tail hG (Nat.le_of_ble_eq_true rfl))
  replace hm : sG_For_later l D kA u σ [x7, x6, x2] (σ1, r1, d1_1) := ih tG_For_later _ _ _ h1
  refine gc_Vv (pc := 82) C (As := [.int x7, .int x6, .int x2]) (rest := []) (hm _ _ _ rfl w tx) ml_For_156 14 rfl rfl rfl d_For_writePart_82 rfl rfl (by dsimp only; omega) (by dsimp only; omega) (by have := hmn.1; have := hle.1; dsimp only; omega) (by have := hmn.2; have := hle.2; dsimp only; omega) (Nat.le_of_ble_eq_true rfl) (fun w1 hw => ?_)
  obtain ⟨w1, tx1, hag1, htq1, hwq1⟩ := hw
  dsimp only at hwq1
  subst hwq1
  dsimp only
  replace htq1 := htq1.symm
  subst htq1
  have hga1 : ∀ i, ([30] : List Nat).elem i = false → w1 i = w0 i := fun i hi => (hag1 i (by revert hi; exact el_sub (by decide))).trans (hga i hi)
  replace hcq : (cells + (σ1.2.2 3001 - σ.2.2 3001)) + σf.2.2 3001 ≤ mc + σ1.2.2 3001 := by have := hmn.1; have := hle.1; omega
  replace hcm : (cells + (σ1.2.2 3001 - σ.2.2 3001)) ≤ mc := by have := hmn.1; have := hle.1; omega
  generalize cells + (σ1.2.2 3001 - σ.2.2 3001) = cells at hcq hcm ⊢
  replace hsq : (slots + (σ1.2.2 3002 - σ.2.2 3002)) + σf.2.2 3002 ≤ ms + σ1.2.2 3002 := by have := hmn.2; have := hle.2; omega
  replace hsm : (slots + (σ1.2.2 3002 - σ.2.2 3002)) ≤ ms := by have := hmn.2; have := hle.2; omega
  generalize slots + (σ1.2.2 3002 - σ.2.2 3002) = slots at hsq hsm ⊢
  replace hF : d2_1 + 3 ≤ F := by omega
  replace hLo : 48 * d2_1 + 144 ≤ Lo := by omega
  refine ax_goto (pc := 85) C 240 d_For_writePart_85 (by decide) ?_
  refine ax_ls ([(0, .ref (u 14)), (1, .ref (u 39)), (2, .int x0), (3, .int x1), (4, .int x2), (5, .int x3), (6, .int x4), (7, .int x5)]) [0, 1, 2, 3, 4, 5, 6, 7] rfl ?_
  replace hm : sG_For_writePart_p240 l D kA u σ1 [x0, x1, x2, x3, x4, x5] (σf, rf, _) := ih tG_For_writePart_p240 _ _ _ h
  exact hm _ _ _ _ _ _ rfl w1 tx p e s m args below meth c F Lo mc ms cells slots σ0 w0 tx0 hF hLo hcq hsq hga1 C
set_option maxHeartbeats 4000000 in
set_option maxRecDepth 100000 in
theorem oG_For_writePart_p106 (l : Launch) (D : va_G) (kA : Nat → ClassId) (u : Nat → Nat) (rec : mF) (hG : GM rec) (ihC : ∀ (w : Nat → Nat) (tx : Value) t σ xs res, rec t σ xs = some res → cSem l D kA u w tx t σ xs res) (ih : ∀ t σ xs res, rec t σ xs = some res → gSem l D kA u t σ xs res) (σ : mS) (xs : List Int32) (res : mR) (h : u_8 (kG_For_writePart_p106 rec σ) xs = some res) : sG_For_writePart_p106 l D kA u σ xs res := by
  intro x0 x1 x2 x3 x4 x5 x6 x7 hxs w tx
  subst hxs
  obtain ⟨σf, rf, dd⟩ := res
  have hmn : gle σ σf := qG_For_writePart_p106 rec hG σ x0 x1 x2 x3 x4 x5 x6 x7 _ h
  have h : (if x6 = x1 then (rec tG_For_writePart_p115 σ [x0, x1, x2, x3, x4, x5, 1, x7]) else (rec tG_For_writePart_p115 σ [x0, x1, x2, x3, x4, x5, 0, x7])) = some (σf, rf, dd) := h
  intro p e s m args below meth c F Lo mc ms cells slots σ0 w0 tx0 hF hLo hcq hsq hga C
  dsimp only at hF hLo hcq hsq ⊢
  have hcm : cells ≤ mc := by have := hmn.1; omega
  have hsm : slots ≤ ms := by have := hmn.2; omega
  have hle : True := trivial
  have hm : True := trivial
  refine ax_iload_n (pc := 106) C d_For_writePart_106 rfl 3 rfl ?_
  refine ax_icmp_ne (pc := 107) C 114 d_For_writePart_107 (by decide) (fun hc => ?_) (fun hc => ?_)
  · replace h := it_f hc h
    refine ax_iconst (pc := 114) C 0 d_For_writePart_114 (by decide +kernel) ?_
    refine ax_ls ([(0, .ref (u 14)), (1, .ref (u 39)), (2, .int x0), (3, .int x1), (4, .int x2), (5, .int x3), (6, .int x4), (7, .int x5)]) [0, 1, 2, 3, 4, 5, 6, 7] rfl ?_
    replace hm : sG_For_writePart_p115 l D kA u σ [x0, x1, x2, x3, x4, x5, 0, x7] (σf, rf, _) := ih tG_For_writePart_p115 _ _ _ h
    exact hm _ _ _ _ _ _ _ _ rfl w tx p e s m args below meth c F Lo mc ms cells slots σ0 w0 tx0 hF hLo hcq hsq hga C
  · replace h := it_t hc h
    refine ax_iconst (pc := 110) C 1 d_For_writePart_110 (by decide +kernel) ?_
    refine ax_goto (pc := 111) C 115 d_For_writePart_111 (by decide) ?_
    refine ax_ls ([(0, .ref (u 14)), (1, .ref (u 39)), (2, .int x0), (3, .int x1), (4, .int x2), (5, .int x3), (6, .int x4), (7, .int x5)]) [0, 1, 2, 3, 4, 5, 6, 7] rfl ?_
    replace hm : sG_For_writePart_p115 l D kA u σ [x0, x1, x2, x3, x4, x5, 1, x7] (σf, rf, _) := ih tG_For_writePart_p115 _ _ _ h
    exact hm _ _ _ _ _ _ _ _ rfl w tx p e s m args below meth c F Lo mc ms cells slots σ0 w0 tx0 hF hLo hcq hsq hga C
set_option maxHeartbeats 4000000 in
set_option maxRecDepth 100000 in
theorem oG_For_writePart_p115 (l : Launch) (D : va_G) (kA : Nat → ClassId) (u : Nat → Nat) (rec : mF) (hG : GM rec) (ihC : ∀ (w : Nat → Nat) (tx : Value) t σ xs res, rec t σ xs = some res → cSem l D kA u w tx t σ xs res) (ih : ∀ t σ xs res, rec t σ xs = some res → gSem l D kA u t σ xs res) (σ : mS) (xs : List Int32) (res : mR) (h : u_8 (kG_For_writePart_p115 rec σ) xs = some res) : sG_For_writePart_p115 l D kA u σ xs res := by
  intro x0 x1 x2 x3 x4 x5 x6 x7 hxs w tx
  subst hxs
  obtain ⟨σf, rf, dd⟩ := res
  have hmn : gle σ σf := qG_For_writePart_p115 rec hG σ x0 x1 x2 x3 x4 x5 x6 x7 _ h
  have h : (if bin x7 300 = true then (lt_ (mA σ 27 (Int32.toNatClampNeg x7) (vp_nar .boolean x6)) (fun σ1 => bnd (rec tG_For_later σ1 [x4, x1, x2]) (fun σ2 r2 => rec tG_For_writePart_p240 σ2 [x0, x1, x2, x3, x4, x5]))) else none) = some (σf, rf, dd) := h
  intro p e s m args below meth c F Lo mc ms cells slots σ0 w0 tx0 hF hLo hcq hsq hga C
  dsimp only at hF hLo hcq hsq ⊢
  have hcm : cells ≤ mc := by have := hmn.1; omega
  have hsm : slots ≤ ms := by have := hmn.2; omega
  have hle : True := trivial
  have hm : True := trivial
  replace h := it_g h
  obtain ⟨hb, h⟩ := h
  refine cs_27 (pc := 115) C d_For_writePart_115 (bin_in hb) ?_
  replace h := it_l h
  replace hcq : cells + σf.2.2 3001 ≤ mc + (mA σ 27 (Int32.toNatClampNeg x7) (vp_nar .boolean x6)).2.2 3001 := hcq
  replace hsq : slots + σf.2.2 3002 ≤ ms + (mA σ 27 (Int32.toNatClampNeg x7) (vp_nar .boolean x6)).2.2 3002 := hsq
  generalize mA σ 27 (Int32.toNatClampNeg x7) (vp_nar .boolean x6) = σ1 at h hcq hsq ⊢
  refine ax_aload_n (pc := 116) C d_For_writePart_116 rfl 0 rfl ?_
  refine ax_iload (pc := 117) C d_For_writePart_117 6 rfl ?_
  refine ax_iload_n (pc := 119) C d_For_writePart_119 rfl 3 rfl ?_
  refine ax_iload (pc := 120) C d_For_writePart_120 4 rfl ?_
  replace h := it_b h
  obtain ⟨σ2, r2, d1_2, d2_2, h1, h, hd2, hd1⟩ := h
  replace hle := hG _ _ _ _ (by decide) h1
  dsimp only at hle
  replace hmn : gle σ2 σf := gm_use h (gm_tail hG (Nat.le_of_ble_eq_true rfl))
  replace hm : sG_For_later l D kA u σ1 [x4, x1, x2] (σ2, r2, d1_2) := ih tG_For_later _ _ _ h1
  refine gc_Vv (pc := 122) C (As := [.int x4, .int x1, .int x2]) (rest := []) (hm _ _ _ rfl w tx) ml_For_156 14 rfl rfl rfl d_For_writePart_122 rfl rfl (by dsimp only; omega) (by dsimp only; omega) (by have := hmn.1; have := hle.1; dsimp only; omega) (by have := hmn.2; have := hle.2; dsimp only; omega) (Nat.le_of_ble_eq_true rfl) (fun w1 hw => ?_)
  obtain ⟨w2, tx2, hag2, htq2, hwq2⟩ := hw
  dsimp only at hwq2
  subst hwq2
  dsimp only
  replace htq2 := htq2.symm
  subst htq2
  have hga2 : ∀ i, ([30] : List Nat).elem i = false → w2 i = w0 i := fun i hi => (hag2 i (by revert hi; exact el_sub (by decide))).trans (hga i hi)
  replace hcq : (cells + (σ2.2.2 3001 - σ1.2.2 3001)) + σf.2.2 3001 ≤ mc + σ2.2.2 3001 := by have := hmn.1; have := hle.1; omega
  replace hcm : (cells + (σ2.2.2 3001 - σ1.2.2 3001)) ≤ mc := by have := hmn.1; have := hle.1; omega
  generalize cells + (σ2.2.2 3001 - σ1.2.2 3001) = cells at hcq hcm ⊢
  replace hsq : (slots + (σ2.2.2 3002 - σ1.2.2 3002)) + σf.2.2 3002 ≤ ms + σ2.2.2 3002 := by have := hmn.2; have := hle.2; omega
  replace hsm : (slots + (σ2.2.2 3002 - σ1.2.2 3002)) ≤ ms := by have := hmn.2; have := hle.2; omega
  generalize slots + (σ2.2.2 3002 - σ1.2.2 3002) = slots at hsq hsm ⊢
  replace hF : d2_2 + 3 ≤ F := by omega
  replace hLo : 48 * d2_2 + 144 ≤ Lo := by omega
  refine ax_goto (pc := 125) C 240 d_For_writePart_125 (by decide) ?_
  refine ax_ls ([(0, .ref (u 14)), (1, .ref (u 39)), (2, .int x0), (3, .int x1), (4, .int x2), (5, .int x3), (6, .int x4), (7, .int x5)]) [0, 1, 2, 3, 4, 5, 6, 7] rfl ?_
  replace hm : sG_For_writePart_p240 l D kA u σ2 [x0, x1, x2, x3, x4, x5] (σf, rf, _) := ih tG_For_writePart_p240 _ _ _ h
  exact hm _ _ _ _ _ _ rfl w2 tx p e s m args below meth c F Lo mc ms cells slots σ0 w0 tx0 hF hLo hcq hsq hga2 C
set_option maxHeartbeats 4000000 in
set_option maxRecDepth 100000 in
theorem oG_For_writePart_p141 (l : Launch) (D : va_G) (kA : Nat → ClassId) (u : Nat → Nat) (rec : mF) (hG : GM rec) (ihC : ∀ (w : Nat → Nat) (tx : Value) t σ xs res, rec t σ xs = some res → cSem l D kA u w tx t σ xs res) (ih : ∀ t σ xs res, rec t σ xs = some res → gSem l D kA u t σ xs res) (σ : mS) (xs : List Int32) (res : mR) (h : u_7 (kG_For_writePart_p141 rec σ) xs = some res) : sG_For_writePart_p141 l D kA u σ xs res := by
  intro x0 x1 x2 x3 x4 x5 x6 hxs w tx
  subst hxs
  obtain ⟨σf, rf, dd⟩ := res
  have hmn : gle σ σf := qG_For_writePart_p141 rec hG σ x0 x1 x2 x3 x4 x5 x6 _ h
  have h : (if x6 = x1 then (rec tG_For_writePart_p150 σ [x0, x1, x2, x3, x4, x5, 1]) else (rec tG_For_writePart_p150 σ [x0, x1, x2, x3, x4, x5, 0])) = some (σf, rf, dd) := h
  intro p e s m args below meth c F Lo mc ms cells slots σ0 w0 tx0 hF hLo hcq hsq hga C
  dsimp only at hF hLo hcq hsq ⊢
  have hcm : cells ≤ mc := by have := hmn.1; omega
  have hsm : slots ≤ ms := by have := hmn.2; omega
  have hle : True := trivial
  have hm : True := trivial
  refine ax_iload_n (pc := 141) C d_For_writePart_141 rfl 3 rfl ?_
  refine ax_icmp_ne (pc := 142) C 149 d_For_writePart_142 (by decide) (fun hc => ?_) (fun hc => ?_)
  · replace h := it_f hc h
    refine ax_iconst (pc := 149) C 0 d_For_writePart_149 (by decide +kernel) ?_
    refine ax_ls ([(0, .ref (u 14)), (1, .ref (u 39)), (2, .int x0), (3, .int x1), (4, .int x2), (5, .int x3), (6, .int x4), (7, .int x5)]) [0, 1, 2, 3, 4, 5, 6, 7] rfl ?_
    replace hm : sG_For_writePart_p150 l D kA u σ [x0, x1, x2, x3, x4, x5, 0] (σf, rf, _) := ih tG_For_writePart_p150 _ _ _ h
    exact hm _ _ _ _ _ _ _ rfl w tx p e s m args below meth c F Lo mc ms cells slots σ0 w0 tx0 hF hLo hcq hsq hga C
  · replace h := it_t hc h
    refine ax_iconst (pc := 145) C 1 d_For_writePart_145 (by decide +kernel) ?_
    refine ax_goto (pc := 146) C 150 d_For_writePart_146 (by decide) ?_
    refine ax_ls ([(0, .ref (u 14)), (1, .ref (u 39)), (2, .int x0), (3, .int x1), (4, .int x2), (5, .int x3), (6, .int x4), (7, .int x5)]) [0, 1, 2, 3, 4, 5, 6, 7] rfl ?_
    replace hm : sG_For_writePart_p150 l D kA u σ [x0, x1, x2, x3, x4, x5, 1] (σf, rf, _) := ih tG_For_writePart_p150 _ _ _ h
    exact hm _ _ _ _ _ _ _ rfl w tx p e s m args below meth c F Lo mc ms cells slots σ0 w0 tx0 hF hLo hcq hsq hga C
set_option maxHeartbeats 4000000 in
set_option maxRecDepth 100000 in
theorem oG_For_writePart_p150 (l : Launch) (D : va_G) (kA : Nat → ClassId) (u : Nat → Nat) (rec : mF) (hG : GM rec) (ihC : ∀ (w : Nat → Nat) (tx : Value) t σ xs res, rec t σ xs = some res → cSem l D kA u w tx t σ xs res) (ih : ∀ t σ xs res, rec t σ xs = some res → gSem l D kA u t σ xs res) (σ : mS) (xs : List Int32) (res : mR) (h : u_7 (kG_For_writePart_p150 rec σ) xs = some res) : sG_For_writePart_p150 l D kA u σ xs res := by
  intro x0 x1 x2 x3 x4 x5 x6 hxs w tx
  subst hxs
  obtain ⟨σf, rf, dd⟩ := res
  have hmn : gle σ σf := qG_For_writePart_p150 rec hG σ x0 x1 x2 x3 x4 x5 x6 _ h
  have h : (bnd (rec tG_For_joined σ [x6, x4, x1, x5, x1, x2]) (fun σ1 r1 => rec tG_For_writePart_p240 σ1 [x0, x1, x2, x3, x4, x5])) = some (σf, rf, dd) := h
  intro p e s m args below meth c F Lo mc ms cells slots σ0 w0 tx0 hF hLo hcq hsq hga C
  dsimp only at hF hLo hcq hsq ⊢
  have hcm : cells ≤ mc := by have := hmn.1; omega
  have hsm : slots ≤ ms := by have := hmn.2; omega
  have hle : True := trivial
  have hm : True := trivial
  refine ax_iload (pc := 150) C d_For_writePart_150 6 rfl ?_
  refine ax_iload_n (pc := 152) C d_For_writePart_152 rfl 3 rfl ?_
  refine ax_iload (pc := 153) C d_For_writePart_153 7 rfl ?_
  refine ax_iload_n (pc := 155) C d_For_writePart_155 rfl 3 rfl ?_
  refine ax_iload (pc := 156) C d_For_writePart_156 4 rfl ?_
  replace h := it_b h
  obtain ⟨σ1, r1, d1_1, d2_1, h1, h, hd2, hd1⟩ := h
  replace hle := hG _ _ _ _ (by decide) h1
  dsimp only at hle
  replace hmn : gle σ1 σf := gm_use h (gm_tail hG (Nat.le_of_ble_eq_true rfl))
  replace hm : sG_For_joined l D kA u σ [x6, x4, x1, x5, x1, x2] (σ1, r1, d1_1) := ih tG_For_joined _ _ _ h1
  refine gc_Vv (pc := 158) C (As := [.int x6, .int x4, .int x1, .int x5, .int x1, .int x2]) (rest := []) (hm _ _ _ _ _ _ rfl w tx) ml_For_164 14 rfl rfl rfl d_For_writePart_158 rfl rfl (by dsimp only; omega) (by dsimp only; omega) (by have := hmn.1; have := hle.1; dsimp only; omega) (by have := hmn.2; have := hle.2; dsimp only; omega) (Nat.le_of_ble_eq_true rfl) (fun w1 hw => ?_)
  obtain ⟨w1, tx1, hag1, htq1, hwq1⟩ := hw
  dsimp only at hwq1
  subst hwq1
  dsimp only
  replace htq1 := htq1.symm
  subst htq1
  have hga1 : ∀ i, ([30] : List Nat).elem i = false → w1 i = w0 i := fun i hi => (hag1 i (by revert hi; exact el_sub (by decide))).trans (hga i hi)
  replace hcq : (cells + (σ1.2.2 3001 - σ.2.2 3001)) + σf.2.2 3001 ≤ mc + σ1.2.2 3001 := by have := hmn.1; have := hle.1; omega
  replace hcm : (cells + (σ1.2.2 3001 - σ.2.2 3001)) ≤ mc := by have := hmn.1; have := hle.1; omega
  generalize cells + (σ1.2.2 3001 - σ.2.2 3001) = cells at hcq hcm ⊢
  replace hsq : (slots + (σ1.2.2 3002 - σ.2.2 3002)) + σf.2.2 3002 ≤ ms + σ1.2.2 3002 := by have := hmn.2; have := hle.2; omega
  replace hsm : (slots + (σ1.2.2 3002 - σ.2.2 3002)) ≤ ms := by have := hmn.2; have := hle.2; omega
  generalize slots + (σ1.2.2 3002 - σ.2.2 3002) = slots at hsq hsm ⊢
  replace hF : d2_1 + 3 ≤ F := by omega
  replace hLo : 48 * d2_1 + 144 ≤ Lo := by omega
  refine ax_goto (pc := 161) C 240 d_For_writePart_161 (by decide) ?_
  refine ax_ls ([(0, .ref (u 14)), (1, .ref (u 39)), (2, .int x0), (3, .int x1), (4, .int x2), (5, .int x3), (6, .int x4), (7, .int x5)]) [0, 1, 2, 3, 4, 5, 6, 7] rfl ?_
  replace hm : sG_For_writePart_p240 l D kA u σ1 [x0, x1, x2, x3, x4, x5] (σf, rf, _) := ih tG_For_writePart_p240 _ _ _ h
  exact hm _ _ _ _ _ _ rfl w1 tx p e s m args below meth c F Lo mc ms cells slots σ0 w0 tx0 hF hLo hcq hsq hga1 C
set_option maxHeartbeats 4000000 in
set_option maxRecDepth 100000 in
theorem oG_For_writePart_p174 (l : Launch) (D : va_G) (kA : Nat → ClassId) (u : Nat → Nat) (rec : mF) (hG : GM rec) (ihC : ∀ (w : Nat → Nat) (tx : Value) t σ xs res, rec t σ xs = some res → cSem l D kA u w tx t σ xs res) (ih : ∀ t σ xs res, rec t σ xs = some res → gSem l D kA u t σ xs res) (σ : mS) (xs : List Int32) (res : mR) (h : u_7 (kG_For_writePart_p174 rec σ) xs = some res) : sG_For_writePart_p174 l D kA u σ xs res := by
  intro x0 x1 x2 x3 x4 x5 x6 hxs w tx
  subst hxs
  obtain ⟨σf, rf, dd⟩ := res
  have hmn : gle σ σf := qG_For_writePart_p174 rec hG σ x0 x1 x2 x3 x4 x5 x6 _ h
  have h : (if x1 = 0 then (rec tG_For_writePart_p185 σ [x0, x1, x2, x3, x4, x5, 1, x4, x6]) else (rec tG_For_writePart_p185 σ [x0, x1, x2, x3, x4, x5, 0, x4, x6])) = some (σf, rf, dd) := h
  intro p e s m args below meth c F Lo mc ms cells slots σ0 w0 tx0 hF hLo hcq hsq hga C
  dsimp only at hF hLo hcq hsq ⊢
  have hcm : cells ≤ mc := by have := hmn.1; omega
  have hsm : slots ≤ ms := by have := hmn.2; omega
  have hle : True := trivial
  have hm : True := trivial
  refine ax_iload (pc := 174) C d_For_writePart_174 6 rfl ?_
  refine ax_iload_n (pc := 176) C d_For_writePart_176 rfl 3 rfl ?_
  refine ax_if_ne (pc := 177) C 184 d_For_writePart_177 (by decide) (fun hc => ?_) (fun hc => ?_)
  · replace h := it_f hc h
    refine ax_iconst (pc := 184) C 0 d_For_writePart_184 (by decide +kernel) ?_
    refine ax_ls ([(0, .ref (u 14)), (1, .ref (u 39)), (2, .int x0), (3, .int x1), (4, .int x2), (5, .int x3), (6, .int x4), (7, .int x5)]) [0, 1, 2, 3, 4, 5, 6, 7] rfl ?_
    replace hm : sG_For_writePart_p185 l D kA u σ [x0, x1, x2, x3, x4, x5, 0, x4, x6] (σf, rf, _) := ih tG_For_writePart_p185 _ _ _ h
    exact hm _ _ _ _ _ _ _ _ _ rfl w tx p e s m args below meth c F Lo mc ms cells slots σ0 w0 tx0 hF hLo hcq hsq hga C
  · replace h := it_t hc h
    refine ax_iconst (pc := 180) C 1 d_For_writePart_180 (by decide +kernel) ?_
    refine ax_goto (pc := 181) C 185 d_For_writePart_181 (by decide) ?_
    refine ax_ls ([(0, .ref (u 14)), (1, .ref (u 39)), (2, .int x0), (3, .int x1), (4, .int x2), (5, .int x3), (6, .int x4), (7, .int x5)]) [0, 1, 2, 3, 4, 5, 6, 7] rfl ?_
    replace hm : sG_For_writePart_p185 l D kA u σ [x0, x1, x2, x3, x4, x5, 1, x4, x6] (σf, rf, _) := ih tG_For_writePart_p185 _ _ _ h
    exact hm _ _ _ _ _ _ _ _ _ rfl w tx p e s m args below meth c F Lo mc ms cells slots σ0 w0 tx0 hF hLo hcq hsq hga C
set_option maxHeartbeats 4000000 in
set_option maxRecDepth 100000 in
theorem oG_For_writePart_p185 (l : Launch) (D : va_G) (kA : Nat → ClassId) (u : Nat → Nat) (rec : mF) (hG : GM rec) (ihC : ∀ (w : Nat → Nat) (tx : Value) t σ xs res, rec t σ xs = some res → cSem l D kA u w tx t σ xs res) (ih : ∀ t σ xs res, rec t σ xs = some res → gSem l D kA u t σ xs res) (σ : mS) (xs : List Int32) (res : mR) (h : u_9 (kG_For_writePart_p185 rec σ) xs = some res) : sG_For_writePart_p185 l D kA u σ xs res := by
  intro x0 x1 x2 x3 x4 x5 x6 x7 x8 hxs w tx
  subst hxs
  obtain ⟨σf, rf, dd⟩ := res
  have hmn : gle σ σf := qG_For_writePart_p185 rec hG σ x0 x1 x2 x3 x4 x5 x6 x7 x8 _ h
  have h : (bnd (rec tG_For_joined σ [x8, x7, x6, x5, x1, x2]) (fun σ1 r1 => rec tG_For_writePart_p240 σ1 [x0, x1, x2, x3, x4, x5])) = some (σf, rf, dd) := h
  intro p e s m args below meth c F Lo mc ms cells slots σ0 w0 tx0 hF hLo hcq hsq hga C
  dsimp only at hF hLo hcq hsq ⊢
  have hcm : cells ≤ mc := by have := hmn.1; omega
  have hsm : slots ≤ ms := by have := hmn.2; omega
  have hle : True := trivial
  have hm : True := trivial
  refine ax_iload (pc := 185) C d_For_writePart_185 7 rfl ?_
  refine ax_iload_n (pc := 187) C d_For_writePart_187 rfl 3 rfl ?_
  refine ax_iload (pc := 188) C d_For_writePart_188 4 rfl ?_
  replace h := it_b h
  obtain ⟨σ1, r1, d1_1, d2_1, h1, h, hd2, hd1⟩ := h
  replace hle := hG _ _ _ _ (by decide) h1
  dsimp only at hle
  replace hmn : gle σ1 σf := gm_use h (gm_tail hG (Nat.le_of_ble_eq_true rfl))
  replace hm : sG_For_joined l D kA u σ [x8, x7, x6, x5, x1, x2] (σ1, r1, d1_1) := ih tG_For_joined _ _ _ h1
  refine gc_Vv (pc := 190) C (As := [.int x8, .int x7, .int x6, .int x5, .int x1, .int x2]) (rest := []) (hm _ _ _ _ _ _ rfl w tx) ml_For_164 14 rfl rfl rfl d_For_writePart_190 rfl rfl (by dsimp only; omega) (by dsimp only; omega) (by have := hmn.1; have := hle.1; dsimp only; omega) (by have := hmn.2; have := hle.2; dsimp only; omega) (Nat.le_of_ble_eq_true rfl) (fun w1 hw => ?_)
  obtain ⟨w1, tx1, hag1, htq1, hwq1⟩ := hw
  dsimp only at hwq1
  subst hwq1
  dsimp only
  replace htq1 := htq1.symm
  subst htq1
  have hga1 : ∀ i, ([30] : List Nat).elem i = false → w1 i = w0 i := fun i hi => (hag1 i (by revert hi; exact el_sub (by decide))).trans (hga i hi)
  replace hcq : (cells + (σ1.2.2 3001 - σ.2.2 3001)) + σf.2.2 3001 ≤ mc + σ1.2.2 3001 := by have := hmn.1; have := hle.1; omega
  replace hcm : (cells + (σ1.2.2 3001 - σ.2.2 3001)) ≤ mc := by have := hmn.1; have := hle.1; omega
  generalize cells + (σ1.2.2 3001 - σ.2.2 3001) = cells at hcq hcm ⊢
  replace hsq : (slots + (σ1.2.2 3002 - σ.2.2 3002)) + σf.2.2 3002 ≤ ms + σ1.2.2 3002 := by have := hmn.2; have := hle.2; omega
  replace hsm : (slots + (σ1.2.2 3002 - σ.2.2 3002)) ≤ ms := by have := hmn.2; have := hle.2; omega
  generalize slots + (σ1.2.2 3002 - σ.2.2 3002) = slots at hsq hsm ⊢
  replace hF : d2_1 + 3 ≤ F := by omega
  replace hLo : 48 * d2_1 + 144 ≤ Lo := by omega
  refine ax_goto (pc := 193) C 240 d_For_writePart_193 (by decide) ?_
  refine ax_ls ([(0, .ref (u 14)), (1, .ref (u 39)), (2, .int x0), (3, .int x1), (4, .int x2), (5, .int x3), (6, .int x4), (7, .int x5)]) [0, 1, 2, 3, 4, 5, 6, 7] rfl ?_
  replace hm : sG_For_writePart_p240 l D kA u σ1 [x0, x1, x2, x3, x4, x5] (σf, rf, _) := ih tG_For_writePart_p240 _ _ _ h
  exact hm _ _ _ _ _ _ rfl w1 tx p e s m args below meth c F Lo mc ms cells slots σ0 w0 tx0 hF hLo hcq hsq hga1 C
set_option maxHeartbeats 4000000 in
set_option maxRecDepth 100000 in
theorem oG_For_writePart_p224 (l : Launch) (D : va_G) (kA : Nat → ClassId) (u : Nat → Nat) (rec : mF) (hG : GM rec) (ihC : ∀ (w : Nat → Nat) (tx : Value) t σ xs res, rec t σ xs = some res → cSem l D kA u w tx t σ xs res) (ih : ∀ t σ xs res, rec t σ xs = some res → gSem l D kA u t σ xs res) (σ : mS) (xs : List Int32) (res : mR) (h : u_7 (kG_For_writePart_p224 rec σ) xs = some res) : sG_For_writePart_p224 l D kA u σ xs res := by
  intro x0 x1 x2 x3 x4 x5 x6 hxs w tx
  subst hxs
  obtain ⟨σf, rf, dd⟩ := res
  have hmn : gle σ σf := qG_For_writePart_p224 rec hG σ x0 x1 x2 x3 x4 x5 x6 _ h
  have h : (if x6 = x1 then (rec tG_For_writePart_p233 σ [x0, x1, x2, x3, x4, x5, 1]) else (rec tG_For_writePart_p233 σ [x0, x1, x2, x3, x4, x5, 0])) = some (σf, rf, dd) := h
  intro p e s m args below meth c F Lo mc ms cells slots σ0 w0 tx0 hF hLo hcq hsq hga C
  dsimp only at hF hLo hcq hsq ⊢
  have hcm : cells ≤ mc := by have := hmn.1; omega
  have hsm : slots ≤ ms := by have := hmn.2; omega
  have hle : True := trivial
  have hm : True := trivial
  refine ax_iload_n (pc := 224) C d_For_writePart_224 rfl 3 rfl ?_
  refine ax_icmp_ne (pc := 225) C 232 d_For_writePart_225 (by decide) (fun hc => ?_) (fun hc => ?_)
  · replace h := it_f hc h
    refine ax_iconst (pc := 232) C 0 d_For_writePart_232 (by decide +kernel) ?_
    refine ax_ls ([(0, .ref (u 14)), (1, .ref (u 39)), (2, .int x0), (3, .int x1), (4, .int x2), (5, .int x3), (6, .int x4), (7, .int x5)]) [0, 1, 2, 3, 4, 5, 6, 7] rfl ?_
    replace hm : sG_For_writePart_p233 l D kA u σ [x0, x1, x2, x3, x4, x5, 0] (σf, rf, _) := ih tG_For_writePart_p233 _ _ _ h
    exact hm _ _ _ _ _ _ _ rfl w tx p e s m args below meth c F Lo mc ms cells slots σ0 w0 tx0 hF hLo hcq hsq hga C
  · replace h := it_t hc h
    refine ax_iconst (pc := 228) C 1 d_For_writePart_228 (by decide +kernel) ?_
    refine ax_goto (pc := 229) C 233 d_For_writePart_229 (by decide) ?_
    refine ax_ls ([(0, .ref (u 14)), (1, .ref (u 39)), (2, .int x0), (3, .int x1), (4, .int x2), (5, .int x3), (6, .int x4), (7, .int x5)]) [0, 1, 2, 3, 4, 5, 6, 7] rfl ?_
    replace hm : sG_For_writePart_p233 l D kA u σ [x0, x1, x2, x3, x4, x5, 1] (σf, rf, _) := ih tG_For_writePart_p233 _ _ _ h
    exact hm _ _ _ _ _ _ _ rfl w tx p e s m args below meth c F Lo mc ms cells slots σ0 w0 tx0 hF hLo hcq hsq hga C
set_option maxHeartbeats 4000000 in
set_option maxRecDepth 100000 in
theorem oG_For_writePart_p233 (l : Launch) (D : va_G) (kA : Nat → ClassId) (u : Nat → Nat) (rec : mF) (hG : GM rec) (ihC : ∀ (w : Nat → Nat) (tx : Value) t σ xs res, rec t σ xs = some res → cSem l D kA u w tx t σ xs res) (ih : ∀ t σ xs res, rec t σ xs = some res → gSem l D kA u t σ xs res) (σ : mS) (xs : List Int32) (res : mR) (h : u_7 (kG_For_writePart_p233 rec σ) xs = some res) : sG_For_writePart_p233 l D kA u σ xs res := by
  intro x0 x1 x2 x3 x4 x5 x6 hxs w tx
  subst hxs
  obtain ⟨σf, rf, dd⟩ := res
  have hmn : gle σ σf := qG_For_writePart_p233 rec hG σ x0 x1 x2 x3 x4 x5 x6 _ h
  have h : (bnd (rec tC_For_writeLiteral σ [x6, x4, x5]) (fun σ1 r1 => rec tG_For_writePart_p240 σ1 [x0, x1, x2, x3, x4, x5])) = some (σf, rf, dd) := h
  intro p e s m args below meth c F Lo mc ms cells slots σ0 w0 tx0 hF hLo hcq hsq hga C
  dsimp only at hF hLo hcq hsq ⊢
  have hcm : cells ≤ mc := by have := hmn.1; omega
  have hsm : slots ≤ ms := by have := hmn.2; omega
  have hle : True := trivial
  have hm : True := trivial
  refine ax_iload (pc := 233) C d_For_writePart_233 6 rfl ?_
  refine ax_iload (pc := 235) C d_For_writePart_235 7 rfl ?_
  replace h := it_b h
  obtain ⟨σ1, r1, d1_1, d2_1, h1, h, hd2, hd1⟩ := h
  replace hle := hG _ _ _ _ (by decide) h1
  dsimp only at hle
  replace hmn : gle σ1 σf := gm_use h (gm_tail hG (Nat.le_of_ble_eq_true rfl))
  replace hm : sC_For_writeLiteral l D kA u w tx σ [x6, x4, x5] (σ1, r1, d1_1) := ihC _ _ tC_For_writeLiteral _ _ _ h1
  refine cc_Vv (pc := 237) C (σ2 := σ1) (As := [.ref (u 39), .int x6, .int x4, .int x5]) (rest := []) (hm _ _ _ rfl) ml_For_172 14 rfl rfl rfl d_For_writePart_237 rfl rfl (by dsimp only; omega) (by dsimp only; omega) hcm hsm (Nat.le_of_ble_eq_true rfl) ?_
  replace hcq : cells + σf.2.2 3001 ≤ mc + σ1.2.2 3001 := by have := hle.1; omega
  replace hsq : slots + σf.2.2 3002 ≤ ms + σ1.2.2 3002 := by have := hle.2; omega
  replace hF : d2_1 + 3 ≤ F := by omega
  replace hLo : 48 * d2_1 + 144 ≤ Lo := by omega
  refine ax_ls ([(0, .ref (u 14)), (1, .ref (u 39)), (2, .int x0), (3, .int x1), (4, .int x2), (5, .int x3), (6, .int x4), (7, .int x5)]) [0, 1, 2, 3, 4, 5, 6, 7] rfl ?_
  replace hm : sG_For_writePart_p240 l D kA u σ1 [x0, x1, x2, x3, x4, x5] (σf, rf, _) := ih tG_For_writePart_p240 _ _ _ h
  exact hm _ _ _ _ _ _ rfl w tx p e s m args below meth c F Lo mc ms cells slots σ0 w0 tx0 hF hLo hcq hsq hga C
set_option maxHeartbeats 4000000 in
set_option maxRecDepth 100000 in
theorem oG_For_writePart_p240 (l : Launch) (D : va_G) (kA : Nat → ClassId) (u : Nat → Nat) (rec : mF) (hG : GM rec) (ihC : ∀ (w : Nat → Nat) (tx : Value) t σ xs res, rec t σ xs = some res → cSem l D kA u w tx t σ xs res) (ih : ∀ t σ xs res, rec t σ xs = some res → gSem l D kA u t σ xs res) (σ : mS) (xs : List Int32) (res : mR) (h : u_6 (kG_For_writePart_p240 rec σ) xs = some res) : sG_For_writePart_p240 l D kA u σ xs res := by
  intro x0 x1 x2 x3 x4 x5 hxs w tx
  subst hxs
  obtain ⟨σf, rf, dd⟩ := res
  have hmn : gle σ σf := qG_For_writePart_p240 rec hG σ x0 x1 x2 x3 x4 x5 _ h
  have h : (some (σ, 0, 0)) = some (σf, rf, dd) := h
  intro p e s m args below meth c F Lo mc ms cells slots σ0 w0 tx0 hF hLo hcq hsq hga C
  dsimp only at hF hLo hcq hsq ⊢
  have hcm : cells ≤ mc := by have := hmn.1; omega
  have hsm : slots ≤ ms := by have := hmn.2; omega
  have hle : True := trivial
  have hm : True := trivial
  cases h
  exact ax_vret (pc := 240) C d_For_writePart_240 ⟨w, tx, hga, rfl, rfl⟩ hcm hsm
set_option maxHeartbeats 4000000 in
set_option maxRecDepth 100000 in
theorem oG_Par_closeBracket (l : Launch) (D : va_G) (kA : Nat → ClassId) (u : Nat → Nat) (rec : mF) (hG : GM rec) (ihC : ∀ (w : Nat → Nat) (tx : Value) t σ xs res, rec t σ xs = some res → cSem l D kA u w tx t σ xs res) (ih : ∀ t σ xs res, rec t σ xs = some res → gSem l D kA u t σ xs res) (σ : mS) (xs : List Int32) (res : mR) (h : u_0 (kG_Par_closeBracket rec σ) xs = some res) : sG_Par_closeBracket l D kA u σ xs res := by
  intro hxs w tx htx
  subst hxs
  obtain ⟨σf, rf, dd⟩ := res
  have hmn : gle σ σf := qG_Par_closeBracket rec hG σ _ h
  have h : (bnd (rec tC_Par_strength σ [12]) (fun σ1 r1 => bnd (rec tG_Par_fold σ1 [r1]) (fun σ2 r2 => if (σ2.1 3301) = 0 then (some (σ2, 0, 0)) else (bnd (rec tC_Par_pop σ2 []) (fun σ3 r3 => bnd (rec tC_Wds_advance σ3 []) (fun σ4 r4 => some (σ4, 1, 0))))))) = some (σf, rf, dd) := h
  refine ax_Mi.of (by decide +kernel) (Nat.le_of_ble_eq_true rfl) ?_
  intro p e s m args below meth c C hnm
  replace C : ax_C p s m args meth c b_Par_closeBracket "ClauseProver$Parser" 1 (some .boolean) D kA (va_A (cpW kA u w tx σ) s.heap.size) := C
  obtain ⟨F, hFe⟩ : ∃ z, z = dd + 3 := ⟨_, rfl⟩
  obtain ⟨Lo, hLoe⟩ : ∃ z, z = 48 * dd + 144 := ⟨_, rfl⟩
  obtain ⟨mc, hmce⟩ : ∃ z, z = σf.2.2 3001 - σ.2.2 3001 := ⟨_, rfl⟩
  obtain ⟨ms, hmse⟩ : ∃ z, z = σf.2.2 3002 - σ.2.2 3002 := ⟨_, rfl⟩
  obtain ⟨σ0, hσ0e⟩ : ∃ z, z = σ := ⟨_, rfl⟩
  obtain ⟨w0, hw0e⟩ : ∃ z, z = w := ⟨_, rfl⟩
  obtain ⟨tx0, htx0e⟩ : ∃ z, z = tx := ⟨_, rfl⟩
  suffices K : ∀ (cells slots : Nat), cells = 0 → slots = 0 → AW p l e { frames := F, cells := mc, slots := ms, locals := Lo } s m args below meth c D kA (va_A (cpW kA u w0 tx0 σ0) s.heap.size) 1 (ax_Qi below args s D kA (cpW kA u w0 tx0 σ0) mc ms (fun r w1 => r = rf ∧ ∃ (w2 : Nat → Nat) (tx2 : Value), (∀ i, ([19] : List Nat).elem i = false → w2 i = w0 i) ∧ tx2 = tx0 ∧ w1 = cpW kA u w2 tx2 σf)) 0 [(0, .ref (u 31))] [] (cpW kA u w tx σ) cells slots by
    have K := K 0 0 rfl rfl
    rw [hFe, hLoe, hmce, hmse, hσ0e, hw0e, htx0e] at K
    exact ax_ls ([(0, .ref (u 31))]) [0] rfl K
  replace C : ax_C p s m args meth c b_Par_closeBracket "ClauseProver$Parser" 1 (some .boolean) D kA (va_A (cpW kA u w0 tx0 σ0) s.heap.size) := by rw [hσ0e, hw0e, htx0e]; exact C
  intro cells slots hc0 hs0
  have hcq : cells + σf.2.2 3001 ≤ mc + σ.2.2 3001 := by have := hmn.1; omega
  have hsq : slots + σf.2.2 3002 ≤ ms + σ.2.2 3002 := by have := hmn.2; omega
  have hga : ∀ i, ([19] : List Nat).elem i = false → w i = w0 i := fun i _ => by rw [hw0e]
  have e9 : tx = tx0 := htx0e.symm
  subst e9
  have hF : dd + 3 ≤ F := by omega
  have hLo : 48 * dd + 144 ≤ Lo := by omega
  have hcm : cells ≤ mc := by have := hmn.1; omega
  have hsm : slots ≤ ms := by have := hmn.2; omega
  have hle : True := trivial
  have hm : True := trivial
  refine ax_aload_n (pc := 0) C d_Par_closeBracket_0 rfl 0 rfl ?_
  refine ax_bipush (pc := 1) C 12 d_Par_closeBracket_1 (by decide +kernel) ?_
  replace h := it_b h
  obtain ⟨σ1, r1, d1_1, d2_1, h1, h, hd2, hd1⟩ := h
  replace hle := hG _ _ _ _ (by decide) h1
  dsimp only at hle
  replace hmn : gle σ1 σf := gm_use h (gm_bnd hG (Nat.le_of_ble_eq_true rfl) (fun _ _ => (gm_if gm_some (gm_bnd hG (Nat.le_of_ble_eq_true rfl) (fun _ _ => (gm_bnd hG (Nat.le_of_ble_eq_true rfl) (fun _ _ => gm_some)))))))
  replace hm : sC_Par_strength l D kA u w tx σ [12] (σ1, r1, d1_1) := ihC _ _ tC_Par_strength _ _ _ h1
  refine cc_Si (pc := 3) C (r0 := r1) (σ2 := σ1) (As := [.int 12]) (rest := [.ref (u 31)]) (hm _ rfl) ml_Par_166 d_Par_closeBracket_3 rfl rfl (by dsimp only; omega) (by dsimp only; omega) hcm hsm (Nat.le_of_ble_eq_true rfl) ?_
  replace hcq : cells + σf.2.2 3001 ≤ mc + σ1.2.2 3001 := by have := hle.1; omega
  replace hsq : slots + σf.2.2 3002 ≤ ms + σ1.2.2 3002 := by have := hle.2; omega
  replace hF : d2_1 + 3 ≤ F := by omega
  replace hLo : 48 * d2_1 + 144 ≤ Lo := by omega
  replace h := it_b h
  obtain ⟨σ2, r2, d1_2, d2_2, h1, h, hd2, hd1⟩ := h
  replace hle := hG _ _ _ _ (by decide) h1
  dsimp only at hle
  replace hmn : gle σ2 σf := gm_use h (gm_if gm_some (gm_bnd hG (Nat.le_of_ble_eq_true rfl) (fun _ _ => (gm_bnd hG (Nat.le_of_ble_eq_true rfl) (fun _ _ => gm_some)))))
  replace hm : sG_Par_fold l D kA u σ1 [r1] (σ2, r2, d1_2) := ih tG_Par_fold _ _ _ h1
  refine gc_Vv (pc := 6) C (As := [.int r1]) (rest := []) (hm _ rfl w tx) ml_Par_169 31 rfl rfl rfl d_Par_closeBracket_6 rfl rfl (by dsimp only; omega) (by dsimp only; omega) (by have := hmn.1; have := hle.1; dsimp only; omega) (by have := hmn.2; have := hle.2; dsimp only; omega) (Nat.le_of_ble_eq_true rfl) (fun w1 hw => ?_)
  obtain ⟨w2, tx2, hag2, htq2, hwq2⟩ := hw
  dsimp only at hwq2
  subst hwq2
  dsimp only
  replace htq2 := htq2.symm
  subst htq2
  have hga2 : ∀ i, ([19] : List Nat).elem i = false → w2 i = w0 i := fun i hi => (hag2 i (by revert hi; exact el_sub (by decide))).trans (hga i hi)
  have htx2 : tx = .ref (w2 2) := by rw [hag2 2 rfl]; exact htx
  replace hcq : (cells + (σ2.2.2 3001 - σ1.2.2 3001)) + σf.2.2 3001 ≤ mc + σ2.2.2 3001 := by have := hmn.1; have := hle.1; omega
  replace hcm : (cells + (σ2.2.2 3001 - σ1.2.2 3001)) ≤ mc := by have := hmn.1; have := hle.1; omega
  generalize cells + (σ2.2.2 3001 - σ1.2.2 3001) = cells at hcq hcm ⊢
  replace hsq : (slots + (σ2.2.2 3002 - σ1.2.2 3002)) + σf.2.2 3002 ≤ ms + σ2.2.2 3002 := by have := hmn.2; have := hle.2; omega
  replace hsm : (slots + (σ2.2.2 3002 - σ1.2.2 3002)) ≤ ms := by have := hmn.2; have := hle.2; omega
  generalize slots + (σ2.2.2 3002 - σ1.2.2 3002) = slots at hsq hsm ⊢
  replace hF : d2_2 + 3 ≤ F := by omega
  replace hLo : 48 * d2_2 + 144 ≤ Lo := by omega
  refine ax_aload_n (pc := 9) C d_Par_closeBracket_9 rfl 0 rfl ?_
  refine cg_31_5_Par_23 (pc := 10) C d_Par_closeBracket_10 ?_
  refine cg_33_1_Par_83 (pc := 13) C d_Par_closeBracket_13 ?_
  refine ax_if_ne (pc := 16) C 21 d_Par_closeBracket_16 (by decide) (fun hc => ?_) (fun hc => ?_)
  · replace h := it_f hc h
    refine ax_aload_n (pc := 21) C d_Par_closeBracket_21 rfl 0 rfl ?_
    replace h := it_b h
    obtain ⟨σ3, r3, d1_3, d2_3, h1, h, hd2, hd1⟩ := h
    replace hle := hG _ _ _ _ (by decide) h1
    dsimp only at hle
    replace hmn : gle σ3 σf := gm_use h (gm_bnd hG (Nat.le_of_ble_eq_true rfl) (fun _ _ => gm_some))
    replace hm : sC_Par_pop l D kA u w2 tx σ2 [] (σ3, r3, d1_3) := ihC _ _ tC_Par_pop _ _ _ h1
    refine cc_Vv (pc := 22) C (σ2 := σ3) (As := []) (rest := []) (hm rfl) ml_Par_178 31 rfl rfl rfl d_Par_closeBracket_22 rfl rfl (by dsimp only; omega) (by dsimp only; omega) hcm hsm (Nat.le_of_ble_eq_true rfl) ?_
    replace hcq : cells + σf.2.2 3001 ≤ mc + σ3.2.2 3001 := by have := hle.1; omega
    replace hsq : slots + σf.2.2 3002 ≤ ms + σ3.2.2 3002 := by have := hle.2; omega
    replace hF : d2_3 + 3 ≤ F := by omega
    replace hLo : 48 * d2_3 + 144 ≤ Lo := by omega
    refine ax_aload_n (pc := 25) C d_Par_closeBracket_25 rfl 0 rfl ?_
    refine cg_31_2_Par_12 (pc := 26) C d_Par_closeBracket_26 ?_
    replace h := it_b h
    obtain ⟨σ4, r4, d1_4, d2_4, h1, h, hd2, hd1⟩ := h
    replace hle := hG _ _ _ _ (by decide) h1
    dsimp only at hle
    replace hmn : gle σ4 σf := gm_use h gm_some
    replace hm : sC_Wds_advance l D kA u w2 tx σ3 [] (σ4, r4, d1_4) := ihC _ _ tC_Wds_advance _ _ _ h1
    refine cc_Vv (pc := 29) C (σ2 := σ4) (As := []) (rest := []) (hm rfl htx2) ml_Par_89 32 rfl rfl rfl d_Par_closeBracket_29 rfl rfl (by dsimp only; omega) (by dsimp only; omega) hcm hsm (Nat.le_of_ble_eq_true rfl) ?_
    replace hcq : cells + σf.2.2 3001 ≤ mc + σ4.2.2 3001 := by have := hle.1; omega
    replace hsq : slots + σf.2.2 3002 ≤ ms + σ4.2.2 3002 := by have := hle.2; omega
    replace hF : d2_4 + 3 ≤ F := by omega
    replace hLo : 48 * d2_4 + 144 ≤ Lo := by omega
    refine ax_iconst (pc := 32) C 1 d_Par_closeBracket_32 (by decide +kernel) ?_
    cases h
    exact ax_zret (pc := 33) C d_Par_closeBracket_33 rfl ⟨rfl, w2, tx, hga2, rfl, rfl⟩ hcm hsm
  · replace h := it_t hc h
    refine ax_iconst (pc := 19) C 0 d_Par_closeBracket_19 (by decide +kernel) ?_
    cases h
    exact ax_zret (pc := 20) C d_Par_closeBracket_20 rfl ⟨rfl, w2, tx, hga2, rfl, rfl⟩ hcm hsm
set_option maxHeartbeats 4000000 in
set_option maxRecDepth 100000 in
theorem oG_Par_closeSentence (l : Launch) (D : va_G) (kA : Nat → ClassId) (u : Nat → Nat) (rec : mF) (hG : GM rec) (ihC : ∀ (w : Nat → Nat) (tx : Value) t σ xs res, rec t σ xs = some res → cSem l D kA u w tx t σ xs res) (ih : ∀ t σ xs res, rec t σ xs = some res → gSem l D kA u t σ xs res) (σ : mS) (xs : List Int32) (res : mR) (h : u_0 (kG_Par_closeSentence rec σ) xs = some res) : sG_Par_closeSentence l D kA u σ xs res := by
  intro hxs w tx htx
  subst hxs
  obtain ⟨σf, rf, dd⟩ := res
  have hmn : gle σ σf := qG_Par_closeSentence rec hG σ _ h
  have h : (bnd (rec tC_Par_strength σ [12]) (fun σ1 r1 => bnd (rec tG_Par_fold σ1 [r1]) (fun σ2 r2 => if 0 < (σ2.1 3301) then (rec tG_Par_closeSentence_p30 σ2 []) else (if (σ2.1 3701) = 1 then (if bin 0 (σ2.2.2 38) = true then (bnd (rec tC_For_closeSentence σ2 [(σ2.2.1 38 (Int32.toNatClampNeg 0))]) (fun σ3 r3 => bnd (rec tC_Wds_advance σ3 []) (fun σ4 r4 => some (σ4, 0, 0)))) else none) else (rec tG_Par_closeSentence_p30 σ2 []))))) = some (σf, rf, dd) := h
  refine ax_Mv.of (by decide +kernel) (Nat.le_of_ble_eq_true rfl) ?_
  intro p e s m args below meth c C hnm
  replace C : ax_C p s m args meth c b_Par_closeSentence "ClauseProver$Parser" 1 none D kA (va_A (cpW kA u w tx σ) s.heap.size) := C
  obtain ⟨F, hFe⟩ : ∃ z, z = dd + 3 := ⟨_, rfl⟩
  obtain ⟨Lo, hLoe⟩ : ∃ z, z = 48 * dd + 144 := ⟨_, rfl⟩
  obtain ⟨mc, hmce⟩ : ∃ z, z = σf.2.2 3001 - σ.2.2 3001 := ⟨_, rfl⟩
  obtain ⟨ms, hmse⟩ : ∃ z, z = σf.2.2 3002 - σ.2.2 3002 := ⟨_, rfl⟩
  obtain ⟨σ0, hσ0e⟩ : ∃ z, z = σ := ⟨_, rfl⟩
  obtain ⟨w0, hw0e⟩ : ∃ z, z = w := ⟨_, rfl⟩
  obtain ⟨tx0, htx0e⟩ : ∃ z, z = tx := ⟨_, rfl⟩
  suffices K : ∀ (cells slots : Nat), cells = 0 → slots = 0 → AW p l e { frames := F, cells := mc, slots := ms, locals := Lo } s m args below meth c D kA (va_A (cpW kA u w0 tx0 σ0) s.heap.size) 1 (ax_Qv below args s D kA (cpW kA u w0 tx0 σ0) mc ms (fun w1 => ∃ (w2 : Nat → Nat) (tx2 : Value), (∀ i, ([19] : List Nat).elem i = false → w2 i = w0 i) ∧ tx2 = tx0 ∧ w1 = cpW kA u w2 tx2 σf)) 0 [(0, .ref (u 31))] [] (cpW kA u w tx σ) cells slots by
    have K := K 0 0 rfl rfl
    rw [hFe, hLoe, hmce, hmse, hσ0e, hw0e, htx0e] at K
    exact ax_ls ([(0, .ref (u 31))]) [0] rfl K
  replace C : ax_C p s m args meth c b_Par_closeSentence "ClauseProver$Parser" 1 none D kA (va_A (cpW kA u w0 tx0 σ0) s.heap.size) := by rw [hσ0e, hw0e, htx0e]; exact C
  intro cells slots hc0 hs0
  have hcq : cells + σf.2.2 3001 ≤ mc + σ.2.2 3001 := by have := hmn.1; omega
  have hsq : slots + σf.2.2 3002 ≤ ms + σ.2.2 3002 := by have := hmn.2; omega
  have hga : ∀ i, ([19] : List Nat).elem i = false → w i = w0 i := fun i _ => by rw [hw0e]
  have e9 : tx = tx0 := htx0e.symm
  subst e9
  have hF : dd + 3 ≤ F := by omega
  have hLo : 48 * dd + 144 ≤ Lo := by omega
  have hcm : cells ≤ mc := by have := hmn.1; omega
  have hsm : slots ≤ ms := by have := hmn.2; omega
  have hle : True := trivial
  have hm : True := trivial
  refine ax_aload_n (pc := 0) C d_Par_closeSentence_0 rfl 0 rfl ?_
  refine ax_bipush (pc := 1) C 12 d_Par_closeSentence_1 (by decide +kernel) ?_
  replace h := it_b h
  obtain ⟨σ1, r1, d1_1, d2_1, h1, h, hd2, hd1⟩ := h
  replace hle := hG _ _ _ _ (by decide) h1
  dsimp only at hle
  replace hmn : gle σ1 σf := gm_use h (gm_bnd hG (Nat.le_of_ble_eq_true rfl) (fun _ _ => (gm_if (gm_tail hG (Nat.le_of_ble_eq_true rfl)) (gm_if (gm_if (gm_bnd hG (Nat.le_of_ble_eq_true rfl) (fun _ _ => (gm_bnd hG (Nat.le_of_ble_eq_true rfl) (fun _ _ => gm_some)))) gm_none) (gm_tail hG (Nat.le_of_ble_eq_true rfl))))))
  replace hm : sC_Par_strength l D kA u w tx σ [12] (σ1, r1, d1_1) := ihC _ _ tC_Par_strength _ _ _ h1
  refine cc_Si (pc := 3) C (r0 := r1) (σ2 := σ1) (As := [.int 12]) (rest := [.ref (u 31)]) (hm _ rfl) ml_Par_166 d_Par_closeSentence_3 rfl rfl (by dsimp only; omega) (by dsimp only; omega) hcm hsm (Nat.le_of_ble_eq_true rfl) ?_
  replace hcq : cells + σf.2.2 3001 ≤ mc + σ1.2.2 3001 := by have := hle.1; omega
  replace hsq : slots + σf.2.2 3002 ≤ ms + σ1.2.2 3002 := by have := hle.2; omega
  replace hF : d2_1 + 3 ≤ F := by omega
  replace hLo : 48 * d2_1 + 144 ≤ Lo := by omega
  replace h := it_b h
  obtain ⟨σ2, r2, d1_2, d2_2, h1, h, hd2, hd1⟩ := h
  replace hle := hG _ _ _ _ (by decide) h1
  dsimp only at hle
  replace hmn : gle σ2 σf := gm_use h (gm_if (gm_tail hG (Nat.le_of_ble_eq_true rfl)) (gm_if (gm_if (gm_bnd hG (Nat.le_of_ble_eq_true rfl) (fun _ _ => (gm_bnd hG (Nat.le_of_ble_eq_true rfl) (fun _ _ => gm_some)))) gm_none) (gm_tail hG (Nat.le_of_ble_eq_true rfl))))
  replace hm : sG_Par_fold l D kA u σ1 [r1] (σ2, r2, d1_2) := ih tG_Par_fold _ _ _ h1
  refine gc_Vv (pc := 6) C (As := [.int r1]) (rest := []) (hm _ rfl w tx) ml_Par_169 31 rfl rfl rfl d_Par_closeSentence_6 rfl rfl (by dsimp only; omega) (by dsimp only; omega) (by have := hmn.1; have := hle.1; dsimp only; omega) (by have := hmn.2; have := hle.2; dsimp only; omega) (Nat.le_of_ble_eq_true rfl) (fun w1 hw => ?_)
  obtain ⟨w2, tx2, hag2, htq2, hwq2⟩ := hw
  dsimp only at hwq2
  subst hwq2
  dsimp only
  replace htq2 := htq2.symm
  subst htq2
  have hga2 : ∀ i, ([19] : List Nat).elem i = false → w2 i = w0 i := fun i hi => (hag2 i (by revert hi; exact el_sub (by decide))).trans (hga i hi)
  have htx2 : tx = .ref (w2 2) := by rw [hag2 2 rfl]; exact htx
  replace hcq : (cells + (σ2.2.2 3001 - σ1.2.2 3001)) + σf.2.2 3001 ≤ mc + σ2.2.2 3001 := by have := hmn.1; have := hle.1; omega
  replace hcm : (cells + (σ2.2.2 3001 - σ1.2.2 3001)) ≤ mc := by have := hmn.1; have := hle.1; omega
  generalize cells + (σ2.2.2 3001 - σ1.2.2 3001) = cells at hcq hcm ⊢
  replace hsq : (slots + (σ2.2.2 3002 - σ1.2.2 3002)) + σf.2.2 3002 ≤ ms + σ2.2.2 3002 := by have := hmn.2; have := hle.2; omega
  replace hsm : (slots + (σ2.2.2 3002 - σ1.2.2 3002)) ≤ ms := by have := hmn.2; have := hle.2; omega
  generalize slots + (σ2.2.2 3002 - σ1.2.2 3002) = slots at hsq hsm ⊢
  replace hF : d2_2 + 3 ≤ F := by omega
  replace hLo : 48 * d2_2 + 144 ≤ Lo := by omega
  refine ax_aload_n (pc := 9) C d_Par_closeSentence_9 rfl 0 rfl ?_
  refine cg_31_5_Par_23 (pc := 10) C d_Par_closeSentence_10 ?_
  refine cg_33_1_Par_83 (pc := 13) C d_Par_closeSentence_13 ?_
  refine ax_if_gt (pc := 16) C 30 d_Par_closeSentence_16 (by decide) (fun hc => ?_) (fun hc => ?_)
  · replace h := it_t hc h
    refine ax_ls ([(0, .ref (u 31))]) [0] rfl ?_
    replace hm : sG_Par_closeSentence_p30 l D kA u σ2 [] (σf, rf, _) := ih tG_Par_closeSentence_p30 _ _ _ h
    exact hm rfl w2 tx htx2 p e s m args below meth c F Lo mc ms cells slots σ0 w0 tx hF hLo hcq hsq hga2 C
  · replace h := it_f hc h
    refine ax_aload_n (pc := 19) C d_Par_closeSentence_19 rfl 0 rfl ?_
    refine cg_31_7_Par_30 (pc := 20) C d_Par_closeSentence_20 ?_
    refine cg_37_1_Par_83 (pc := 23) C d_Par_closeSentence_23 ?_
    refine ax_iconst (pc := 26) C 1 d_Par_closeSentence_26 (by decide +kernel) ?_
    refine ax_icmp_eq (pc := 27) C 35 d_Par_closeSentence_27 (by decide) (fun hc => ?_) (fun hc => ?_)
    · replace h := it_t hc h
      refine ax_aload_n (pc := 35) C d_Par_closeSentence_35 rfl 0 rfl ?_
      refine cg_31_4_Par_37 (pc := 36) C d_Par_closeSentence_36 ?_
      refine ax_aload_n (pc := 39) C d_Par_closeSentence_39 rfl 0 rfl ?_
      refine cg_31_7_Par_30 (pc := 40) C d_Par_closeSentence_40 ?_
      refine cg_37_0_Par_181 (pc := 43) C d_Par_closeSentence_43 ?_
      refine ax_iconst (pc := 46) C 0 d_Par_closeSentence_46 (by decide +kernel) ?_
      replace h := it_g h
      obtain ⟨hb, h⟩ := h
      refine cl_38 (pc := 47) C d_Par_closeSentence_47 (bin_in hb) ?_
      replace h := it_b h
      obtain ⟨σ3, r3, d1_3, d2_3, h1, h, hd2, hd1⟩ := h
      replace hle := hG _ _ _ _ (by decide) h1
      dsimp only at hle
      replace hmn : gle σ3 σf := gm_use h (gm_bnd hG (Nat.le_of_ble_eq_true rfl) (fun _ _ => gm_some))
      replace hm : sC_For_closeSentence l D kA u w2 tx σ2 [(σ2.2.1 38 (Int32.toNatClampNeg 0))] (σ3, r3, d1_3) := ihC _ _ tC_For_closeSentence _ _ _ h1
      refine cc_Vv (pc := 48) C (σ2 := σ3) (As := [.int (σ2.2.1 38 (Int32.toNatClampNeg 0))]) (rest := []) (hm _ rfl) ml_Par_185 14 rfl rfl rfl d_Par_closeSentence_48 rfl rfl (by dsimp only; omega) (by dsimp only; omega) hcm hsm (Nat.le_of_ble_eq_true rfl) ?_
      replace hcq : cells + σf.2.2 3001 ≤ mc + σ3.2.2 3001 := by have := hle.1; omega
      replace hsq : slots + σf.2.2 3002 ≤ ms + σ3.2.2 3002 := by have := hle.2; omega
      replace hF : d2_3 + 3 ≤ F := by omega
      replace hLo : 48 * d2_3 + 144 ≤ Lo := by omega
      refine ax_aload_n (pc := 51) C d_Par_closeSentence_51 rfl 0 rfl ?_
      refine cg_31_2_Par_12 (pc := 52) C d_Par_closeSentence_52 ?_
      replace h := it_b h
      obtain ⟨σ4, r4, d1_4, d2_4, h1, h, hd2, hd1⟩ := h
      replace hle := hG _ _ _ _ (by decide) h1
      dsimp only at hle
      replace hmn : gle σ4 σf := gm_use h gm_some
      replace hm : sC_Wds_advance l D kA u w2 tx σ3 [] (σ4, r4, d1_4) := ihC _ _ tC_Wds_advance _ _ _ h1
      refine cc_Vv (pc := 55) C (σ2 := σ4) (As := []) (rest := []) (hm rfl htx2) ml_Par_89 32 rfl rfl rfl d_Par_closeSentence_55 rfl rfl (by dsimp only; omega) (by dsimp only; omega) hcm hsm (Nat.le_of_ble_eq_true rfl) ?_
      replace hcq : cells + σf.2.2 3001 ≤ mc + σ4.2.2 3001 := by have := hle.1; omega
      replace hsq : slots + σf.2.2 3002 ≤ ms + σ4.2.2 3002 := by have := hle.2; omega
      replace hF : d2_4 + 3 ≤ F := by omega
      replace hLo : 48 * d2_4 + 144 ≤ Lo := by omega
      cases h
      exact ax_vret (pc := 58) C d_Par_closeSentence_58 ⟨w2, tx, hga2, rfl, rfl⟩ hcm hsm
    · replace h := it_f hc h
      refine ax_ls ([(0, .ref (u 31))]) [0] rfl ?_
      replace hm : sG_Par_closeSentence_p30 l D kA u σ2 [] (σf, rf, _) := ih tG_Par_closeSentence_p30 _ _ _ h
      exact hm rfl w2 tx htx2 p e s m args below meth c F Lo mc ms cells slots σ0 w0 tx hF hLo hcq hsq hga2 C
set_option maxHeartbeats 4000000 in
set_option maxRecDepth 100000 in
theorem oG_Par_closeSentence_p30 (l : Launch) (D : va_G) (kA : Nat → ClassId) (u : Nat → Nat) (rec : mF) (hG : GM rec) (ihC : ∀ (w : Nat → Nat) (tx : Value) t σ xs res, rec t σ xs = some res → cSem l D kA u w tx t σ xs res) (ih : ∀ t σ xs res, rec t σ xs = some res → gSem l D kA u t σ xs res) (σ : mS) (xs : List Int32) (res : mR) (h : u_0 (kG_Par_closeSentence_p30 rec σ) xs = some res) : sG_Par_closeSentence_p30 l D kA u σ xs res := by
  intro hxs w tx htx
  subst hxs
  obtain ⟨σf, rf, dd⟩ := res
  have hmn : gle σ σf := qG_Par_closeSentence_p30 rec hG σ _ h
  have h : (bnd (rec tC_Par_refuse σ []) (fun σ1 r1 => some (σ1, 0, 0))) = some (σf, rf, dd) := h
  intro p e s m args below meth c F Lo mc ms cells slots σ0 w0 tx0 hF hLo hcq hsq hga C
  dsimp only at hF hLo hcq hsq ⊢
  have hcm : cells ≤ mc := by have := hmn.1; omega
  have hsm : slots ≤ ms := by have := hmn.2; omega
  have hle : True := trivial
  have hm : True := trivial
  refine ax_aload_n (pc := 30) C d_Par_closeSentence_30 rfl 0 rfl ?_
  replace h := it_b h
  obtain ⟨σ1, r1, d1_1, d2_1, h1, h, hd2, hd1⟩ := h
  replace hle := hG _ _ _ _ (by decide) h1
  dsimp only at hle
  replace hmn : gle σ1 σf := gm_use h gm_some
  replace hm : sC_Par_refuse l D kA u w tx σ [] (σ1, r1, d1_1) := ihC _ _ tC_Par_refuse _ _ _ h1
  refine cc_Vv (pc := 31) C (σ2 := σ1) (As := []) (rest := []) (hm rfl) ml_Par_117 31 rfl rfl rfl d_Par_closeSentence_31 rfl rfl (by dsimp only; omega) (by dsimp only; omega) hcm hsm (Nat.le_of_ble_eq_true rfl) ?_
  replace hcq : cells + σf.2.2 3001 ≤ mc + σ1.2.2 3001 := by have := hle.1; omega
  replace hsq : slots + σf.2.2 3002 ≤ ms + σ1.2.2 3002 := by have := hle.2; omega
  replace hF : d2_1 + 3 ≤ F := by omega
  replace hLo : 48 * d2_1 + 144 ≤ Lo := by omega
  cases h
  exact ax_vret (pc := 34) C d_Par_closeSentence_34 ⟨w, tx, hga, rfl, rfl⟩ hcm hsm
set_option maxHeartbeats 4000000 in
set_option maxRecDepth 100000 in
theorem oG_Par_fold (l : Launch) (D : va_G) (kA : Nat → ClassId) (u : Nat → Nat) (rec : mF) (hG : GM rec) (ihC : ∀ (w : Nat → Nat) (tx : Value) t σ xs res, rec t σ xs = some res → cSem l D kA u w tx t σ xs res) (ih : ∀ t σ xs res, rec t σ xs = some res → gSem l D kA u t σ xs res) (σ : mS) (xs : List Int32) (res : mR) (h : u_1 (kG_Par_fold rec σ) xs = some res) : sG_Par_fold l D kA u σ xs res := by
  intro x0 hxs w tx
  subst hxs
  obtain ⟨σf, rf, dd⟩ := res
  have hmn : gle σ σf := qG_Par_fold rec hG σ x0 _ h
  have h : (rec tG_Par_fold_p2 σ [x0, 0]) = some (σf, rf, dd) := h
  refine ax_Mv.of (by decide +kernel) (Nat.le_of_ble_eq_true rfl) ?_
  intro p e s m args below meth c C hnm
  replace C : ax_C p s m args meth c b_Par_fold "ClauseProver$Parser" 3 none D kA (va_A (cpW kA u w tx σ) s.heap.size) := C
  obtain ⟨F, hFe⟩ : ∃ z, z = dd + 3 := ⟨_, rfl⟩
  obtain ⟨Lo, hLoe⟩ : ∃ z, z = 48 * dd + 144 := ⟨_, rfl⟩
  obtain ⟨mc, hmce⟩ : ∃ z, z = σf.2.2 3001 - σ.2.2 3001 := ⟨_, rfl⟩
  obtain ⟨ms, hmse⟩ : ∃ z, z = σf.2.2 3002 - σ.2.2 3002 := ⟨_, rfl⟩
  obtain ⟨σ0, hσ0e⟩ : ∃ z, z = σ := ⟨_, rfl⟩
  obtain ⟨w0, hw0e⟩ : ∃ z, z = w := ⟨_, rfl⟩
  obtain ⟨tx0, htx0e⟩ : ∃ z, z = tx := ⟨_, rfl⟩
  suffices K : ∀ (cells slots : Nat), cells = 0 → slots = 0 → AW p l e { frames := F, cells := mc, slots := ms, locals := Lo } s m args below meth c D kA (va_A (cpW kA u w0 tx0 σ0) s.heap.size) 3 (ax_Qv below args s D kA (cpW kA u w0 tx0 σ0) mc ms (fun w1 => ∃ (w2 : Nat → Nat) (tx2 : Value), (∀ i, ([19] : List Nat).elem i = false → w2 i = w0 i) ∧ tx2 = tx0 ∧ w1 = cpW kA u w2 tx2 σf)) 0 [(0, .ref (u 31)), (1, .int x0)] [] (cpW kA u w tx σ) cells slots by
    have K := K 0 0 rfl rfl
    rw [hFe, hLoe, hmce, hmse, hσ0e, hw0e, htx0e] at K
    exact ax_ls ([(0, .ref (u 31)), (1, .int x0)]) [0, 1] rfl K
  replace C : ax_C p s m args meth c b_Par_fold "ClauseProver$Parser" 3 none D kA (va_A (cpW kA u w0 tx0 σ0) s.heap.size) := by rw [hσ0e, hw0e, htx0e]; exact C
  intro cells slots hc0 hs0
  have hcq : cells + σf.2.2 3001 ≤ mc + σ.2.2 3001 := by have := hmn.1; omega
  have hsq : slots + σf.2.2 3002 ≤ ms + σ.2.2 3002 := by have := hmn.2; omega
  have hga : ∀ i, ([19] : List Nat).elem i = false → w i = w0 i := fun i _ => by rw [hw0e]
  have e9 : tx = tx0 := htx0e.symm
  subst e9
  have hF : dd + 3 ≤ F := by omega
  have hLo : 48 * dd + 144 ≤ Lo := by omega
  have hcm : cells ≤ mc := by have := hmn.1; omega
  have hsm : slots ≤ ms := by have := hmn.2; omega
  have hle : True := trivial
  have hm : True := trivial
  refine ax_iconst (pc := 0) C 0 d_Par_fold_0 (by decide +kernel) ?_
  refine ax_istore_n (pc := 1) C d_Par_fold_1 rfl (Nat.le_of_ble_eq_true rfl) ([(2, .int 0), (0, .ref (u 31)), (1, .int x0)]) rfl ?_
  refine ax_ls ([(0, .ref (u 31)), (1, .int x0), (2, .int 0)]) [1, 2, 0] rfl ?_
  replace hm : sG_Par_fold_p2 l D kA u σ [x0, 0] (σf, rf, _) := ih tG_Par_fold_p2 _ _ _ h
  exact hm _ _ rfl w tx p e s m args below meth c F Lo mc ms cells slots σ0 w0 tx hF hLo hcq hsq hga C
set_option maxHeartbeats 4000000 in
set_option maxRecDepth 100000 in
theorem oG_Par_fold_p2 (l : Launch) (D : va_G) (kA : Nat → ClassId) (u : Nat → Nat) (rec : mF) (hG : GM rec) (ihC : ∀ (w : Nat → Nat) (tx : Value) t σ xs res, rec t σ xs = some res → cSem l D kA u w tx t σ xs res) (ih : ∀ t σ xs res, rec t σ xs = some res → gSem l D kA u t σ xs res) (σ : mS) (xs : List Int32) (res : mR) (h : u_2 (kG_Par_fold_p2 rec σ) xs = some res) : sG_Par_fold_p2 l D kA u σ xs res := by
  intro x0 x1 hxs w tx
  subst hxs
  obtain ⟨σf, rf, dd⟩ := res
  have hmn : gle σ σf := qG_Par_fold_p2 rec hG σ x0 x1 _ h
  have h : (if 1000000 ≤ x1 then (rec tG_Par_fold_p29 σ [x0, x1]) else (bnd (rec tC_Par_top σ []) (fun σ1 r1 => bnd (rec tC_Par_strength σ1 [r1]) (fun σ2 r2 => if r2 < x0 then (rec tG_Par_fold_p29 σ2 [x0, x1]) else (bnd (rec tG_Par_foldTop σ2 []) (fun σ3 r3 => rec tG_Par_fold_p2 σ3 [x0, (x1 + 1)])))))) = some (σf, rf, dd) := h
  intro p e s m args below meth c F Lo mc ms cells slots σ0 w0 tx0 hF hLo hcq hsq hga C
  dsimp only at hF hLo hcq hsq ⊢
  have hcm : cells ≤ mc := by have := hmn.1; omega
  have hsm : slots ≤ ms := by have := hmn.2; omega
  have hle : True := trivial
  have hm : True := trivial
  refine ax_iload_n (pc := 2) C d_Par_fold_2 rfl 2 rfl ?_
  refine ax_ldc (pc := 3) C tb_constant_580 d_Par_fold_3 ?_
  refine ax_icmp_ge (pc := 5) C 29 d_Par_fold_5 (by decide) (fun hc => ?_) (fun hc => ?_)
  · replace h := it_t hc h
    refine ax_ls ([(0, .ref (u 31)), (1, .int x0), (2, .int x1)]) [0, 1, 2] rfl ?_
    replace hm : sG_Par_fold_p29 l D kA u σ [x0, x1] (σf, rf, _) := ih tG_Par_fold_p29 _ _ _ h
    exact hm _ _ rfl w tx p e s m args below meth c F Lo mc ms cells slots σ0 w0 tx0 hF hLo hcq hsq hga C
  · replace h := it_f hc h
    refine ax_aload_n (pc := 8) C d_Par_fold_8 rfl 0 rfl ?_
    replace h := it_b h
    obtain ⟨σ1, r1, d1_1, d2_1, h1, h, hd2, hd1⟩ := h
    replace hle := hG _ _ _ _ (by decide) h1
    dsimp only at hle
    replace hmn : gle σ1 σf := gm_use h (gm_bnd hG (Nat.le_of_ble_eq_true rfl) (fun _ _ => (gm_if (gm_tail hG (Nat.le_of_ble_eq_true rfl)) (gm_bnd hG (Nat.le_of_ble_eq_true rfl) (fun _ _ => (gm_tail hG (Nat.le_of_ble_eq_true rfl)))))))
    replace hm : sC_Par_top l D kA u w tx σ [] (σ1, r1, d1_1) := ihC _ _ tC_Par_top _ _ _ h1
    refine cc_Vi (pc := 9) C (r0 := r1) (σ2 := σ1) (As := []) (rest := []) (hm rfl) ml_Par_187 31 rfl rfl rfl d_Par_fold_9 rfl rfl (by dsimp only; omega) (by dsimp only; omega) hcm hsm (Nat.le_of_ble_eq_true rfl) ?_
    replace hcq : cells + σf.2.2 3001 ≤ mc + σ1.2.2 3001 := by have := hle.1; omega
    replace hsq : slots + σf.2.2 3002 ≤ ms + σ1.2.2 3002 := by have := hle.2; omega
    replace hF : d2_1 + 3 ≤ F := by omega
    replace hLo : 48 * d2_1 + 144 ≤ Lo := by omega
    replace h := it_b h
    obtain ⟨σ2, r2, d1_2, d2_2, h1, h, hd2, hd1⟩ := h
    replace hle := hG _ _ _ _ (by decide) h1
    dsimp only at hle
    replace hmn : gle σ2 σf := gm_use h (gm_if (gm_tail hG (Nat.le_of_ble_eq_true rfl)) (gm_bnd hG (Nat.le_of_ble_eq_true rfl) (fun _ _ => (gm_tail hG (Nat.le_of_ble_eq_true rfl)))))
    replace hm : sC_Par_strength l D kA u w tx σ1 [r1] (σ2, r2, d1_2) := ihC _ _ tC_Par_strength _ _ _ h1
    refine cc_Si (pc := 12) C (r0 := r2) (σ2 := σ2) (As := [.int r1]) (rest := []) (hm _ rfl) ml_Par_166 d_Par_fold_12 rfl rfl (by dsimp only; omega) (by dsimp only; omega) hcm hsm (Nat.le_of_ble_eq_true rfl) ?_
    replace hcq : cells + σf.2.2 3001 ≤ mc + σ2.2.2 3001 := by have := hle.1; omega
    replace hsq : slots + σf.2.2 3002 ≤ ms + σ2.2.2 3002 := by have := hle.2; omega
    replace hF : d2_2 + 3 ≤ F := by omega
    replace hLo : 48 * d2_2 + 144 ≤ Lo := by omega
    refine ax_iload_n (pc := 15) C d_Par_fold_15 rfl 1 rfl ?_
    refine ax_icmp_lt (pc := 16) C 29 d_Par_fold_16 (by decide) (fun hc => ?_) (fun hc => ?_)
    · replace h := it_t hc h
      refine ax_ls ([(0, .ref (u 31)), (1, .int x0), (2, .int x1)]) [0, 1, 2] rfl ?_
      replace hm : sG_Par_fold_p29 l D kA u σ2 [x0, x1] (σf, rf, _) := ih tG_Par_fold_p29 _ _ _ h
      exact hm _ _ rfl w tx p e s m args below meth c F Lo mc ms cells slots σ0 w0 tx0 hF hLo hcq hsq hga C
    · replace h := it_f hc h
      refine ax_aload_n (pc := 19) C d_Par_fold_19 rfl 0 rfl ?_
      replace h := it_b h
      obtain ⟨σ3, r3, d1_3, d2_3, h1, h, hd2, hd1⟩ := h
      replace hle := hG _ _ _ _ (by decide) h1
      dsimp only at hle
      replace hmn : gle σ3 σf := gm_use h (gm_tail hG (Nat.le_of_ble_eq_true rfl))
      replace hm : sG_Par_foldTop l D kA u σ2 [] (σ3, r3, d1_3) := ih tG_Par_foldTop _ _ _ h1
      refine gc_Vv (pc := 20) C (As := []) (rest := []) (hm rfl w tx) ml_Par_190 31 rfl rfl rfl d_Par_fold_20 rfl rfl (by dsimp only; omega) (by dsimp only; omega) (by have := hmn.1; have := hle.1; dsimp only; omega) (by have := hmn.2; have := hle.2; dsimp only; omega) (Nat.le_of_ble_eq_true rfl) (fun w1 hw => ?_)
      obtain ⟨w3, tx3, hag3, htq3, hwq3⟩ := hw
      dsimp only at hwq3
      subst hwq3
      dsimp only
      replace htq3 := htq3.symm
      subst htq3
      have hga3 : ∀ i, ([19] : List Nat).elem i = false → w3 i = w0 i := fun i hi => (hag3 i (by revert hi; exact el_sub (by decide))).trans (hga i hi)
      replace hcq : (cells + (σ3.2.2 3001 - σ2.2.2 3001)) + σf.2.2 3001 ≤ mc + σ3.2.2 3001 := by have := hmn.1; have := hle.1; omega
      replace hcm : (cells + (σ3.2.2 3001 - σ2.2.2 3001)) ≤ mc := by have := hmn.1; have := hle.1; omega
      generalize cells + (σ3.2.2 3001 - σ2.2.2 3001) = cells at hcq hcm ⊢
      replace hsq : (slots + (σ3.2.2 3002 - σ2.2.2 3002)) + σf.2.2 3002 ≤ ms + σ3.2.2 3002 := by have := hmn.2; have := hle.2; omega
      replace hsm : (slots + (σ3.2.2 3002 - σ2.2.2 3002)) ≤ ms := by have := hmn.2; have := hle.2; omega
      generalize slots + (σ3.2.2 3002 - σ2.2.2 3002) = slots at hsq hsm ⊢
      replace hF : d2_3 + 3 ≤ F := by omega
      replace hLo : 48 * d2_3 + 144 ≤ Lo := by omega
      refine ax_iinc (pc := 23) C (x1 + 1) d_Par_fold_23 2 rfl rfl (Nat.le_of_ble_eq_true rfl) ([(2, .int (x1 + 1)), (0, .ref (u 31)), (1, .int x0)]) rfl ?_
      refine ax_goto (pc := 26) C 2 d_Par_fold_26 (by decide) ?_
      refine ax_ls ([(0, .ref (u 31)), (1, .int x0), (2, .int (x1 + 1))]) [1, 2, 0] rfl ?_
      replace hm : sG_Par_fold_p2 l D kA u σ3 [x0, (x1 + 1)] (σf, rf, _) := ih tG_Par_fold_p2 _ _ _ h
      exact hm _ _ rfl w3 tx p e s m args below meth c F Lo mc ms cells slots σ0 w0 tx0 hF hLo hcq hsq hga3 C
set_option maxHeartbeats 4000000 in
set_option maxRecDepth 100000 in
theorem oG_Par_fold_p29 (l : Launch) (D : va_G) (kA : Nat → ClassId) (u : Nat → Nat) (rec : mF) (hG : GM rec) (ihC : ∀ (w : Nat → Nat) (tx : Value) t σ xs res, rec t σ xs = some res → cSem l D kA u w tx t σ xs res) (ih : ∀ t σ xs res, rec t σ xs = some res → gSem l D kA u t σ xs res) (σ : mS) (xs : List Int32) (res : mR) (h : u_2 (kG_Par_fold_p29 rec σ) xs = some res) : sG_Par_fold_p29 l D kA u σ xs res := by
  intro x0 x1 hxs w tx
  subst hxs
  obtain ⟨σf, rf, dd⟩ := res
  have hmn : gle σ σf := qG_Par_fold_p29 rec hG σ x0 x1 _ h
  have h : (some (σ, 0, 0)) = some (σf, rf, dd) := h
  intro p e s m args below meth c F Lo mc ms cells slots σ0 w0 tx0 hF hLo hcq hsq hga C
  dsimp only at hF hLo hcq hsq ⊢
  have hcm : cells ≤ mc := by have := hmn.1; omega
  have hsm : slots ≤ ms := by have := hmn.2; omega
  have hle : True := trivial
  have hm : True := trivial
  cases h
  exact ax_vret (pc := 29) C d_Par_fold_29 ⟨w, tx, hga, rfl, rfl⟩ hcm hsm
set_option maxHeartbeats 4000000 in
set_option maxRecDepth 100000 in
theorem oG_Par_foldTop (l : Launch) (D : va_G) (kA : Nat → ClassId) (u : Nat → Nat) (rec : mF) (hG : GM rec) (ihC : ∀ (w : Nat → Nat) (tx : Value) t σ xs res, rec t σ xs = some res → cSem l D kA u w tx t σ xs res) (ih : ∀ t σ xs res, rec t σ xs = some res → gSem l D kA u t σ xs res) (σ : mS) (xs : List Int32) (res : mR) (h : u_0 (kG_Par_foldTop rec σ) xs = some res) : sG_Par_foldTop l D kA u σ xs res := by
  intro hxs w tx
  subst hxs
  obtain ⟨σf, rf, dd⟩ := res
  have hmn : gle σ σf := qG_Par_foldTop rec hG σ _ h
  have h : (bnd (rec tC_Par_top σ []) (fun σ1 r1 => if bin (((σ1.1 3701) : Int32) - 1) (σ1.2.2 38) = true then (if r1 = 11 then (bnd (rec tG_For_addNode σ1 [11, (σ1.2.1 38 (Int32.toNatClampNeg (((σ1.1 3701) : Int32) - 1))), (-1)]) (fun σ4 r4 => rec tG_Par_foldTop_p174 σ4 [r1, r4])) else (if r1 = 12 then (rec tG_Par_foldTop_p56 σ1 [r1, (σ1.2.1 38 (Int32.toNatClampNeg (((σ1.1 3701) : Int32) - 1)))]) else (if r1 = 13 then (rec tG_Par_foldTop_p56 σ1 [r1, (σ1.2.1 38 (Int32.toNatClampNeg (((σ1.1 3701) : Int32) - 1)))]) else (lt_ (mI σ1 3701 (((σ1.1 3701) : Int32) - 1)) (fun σ2 => if bin (((σ2.1 3701) : Int32) - 1) (σ2.2.2 38) = true then (bnd (rec tG_For_addNode σ2 [r1, (σ2.2.1 38 (Int32.toNatClampNeg (((σ2.1 3701) : Int32) - 1))), (σ1.2.1 38 (Int32.toNatClampNeg (((σ1.1 3701) : Int32) - 1)))]) (fun σ3 r3 => rec tG_Par_foldTop_p174 σ3 [r1, r3])) else none))))) else none)) = some (σf, rf, dd) := h
  refine ax_Mv.of (by decide +kernel) (Nat.le_of_ble_eq_true rfl) ?_
  intro p e s m args below meth c C hnm
  replace C : ax_C p s m args meth c b_Par_foldTop "ClauseProver$Parser" 5 none D kA (va_A (cpW kA u w tx σ) s.heap.size) := C
  obtain ⟨F, hFe⟩ : ∃ z, z = dd + 3 := ⟨_, rfl⟩
  obtain ⟨Lo, hLoe⟩ : ∃ z, z = 48 * dd + 144 := ⟨_, rfl⟩
  obtain ⟨mc, hmce⟩ : ∃ z, z = σf.2.2 3001 - σ.2.2 3001 := ⟨_, rfl⟩
  obtain ⟨ms, hmse⟩ : ∃ z, z = σf.2.2 3002 - σ.2.2 3002 := ⟨_, rfl⟩
  obtain ⟨σ0, hσ0e⟩ : ∃ z, z = σ := ⟨_, rfl⟩
  obtain ⟨w0, hw0e⟩ : ∃ z, z = w := ⟨_, rfl⟩
  obtain ⟨tx0, htx0e⟩ : ∃ z, z = tx := ⟨_, rfl⟩
  suffices K : ∀ (cells slots : Nat), cells = 0 → slots = 0 → AW p l e { frames := F, cells := mc, slots := ms, locals := Lo } s m args below meth c D kA (va_A (cpW kA u w0 tx0 σ0) s.heap.size) 5 (ax_Qv below args s D kA (cpW kA u w0 tx0 σ0) mc ms (fun w1 => ∃ (w2 : Nat → Nat) (tx2 : Value), (∀ i, ([19] : List Nat).elem i = false → w2 i = w0 i) ∧ tx2 = tx0 ∧ w1 = cpW kA u w2 tx2 σf)) 0 [(0, .ref (u 31))] [] (cpW kA u w tx σ) cells slots by
    have K := K 0 0 rfl rfl
    rw [hFe, hLoe, hmce, hmse, hσ0e, hw0e, htx0e] at K
    exact ax_ls ([(0, .ref (u 31))]) [0] rfl K
  replace C : ax_C p s m args meth c b_Par_foldTop "ClauseProver$Parser" 5 none D kA (va_A (cpW kA u w0 tx0 σ0) s.heap.size) := by rw [hσ0e, hw0e, htx0e]; exact C
  intro cells slots hc0 hs0
  have hcq : cells + σf.2.2 3001 ≤ mc + σ.2.2 3001 := by have := hmn.1; omega
  have hsq : slots + σf.2.2 3002 ≤ ms + σ.2.2 3002 := by have := hmn.2; omega
  have hga : ∀ i, ([19] : List Nat).elem i = false → w i = w0 i := fun i _ => by rw [hw0e]
  have e9 : tx = tx0 := htx0e.symm
  subst e9
  have hF : dd + 3 ≤ F := by omega
  have hLo : 48 * dd + 144 ≤ Lo := by omega
  have hcm : cells ≤ mc := by have := hmn.1; omega
  have hsm : slots ≤ ms := by have := hmn.2; omega
  have hle : True := trivial
  have hm : True := trivial
  refine ax_aload_n (pc := 0) C d_Par_foldTop_0 rfl 0 rfl ?_
  replace h := it_b h
  obtain ⟨σ1, r1, d1_1, d2_1, h1, h, hd2, hd1⟩ := h
  replace hle := hG _ _ _ _ (by decide) h1
  dsimp only at hle
  replace hmn : gle σ1 σf := gm_use h (gm_if (gm_if (gm_bnd hG (Nat.le_of_ble_eq_true rfl) (fun _ _ => (gm_tail hG (Nat.le_of_ble_eq_true rfl)))) (gm_if (gm_tail hG (Nat.le_of_ble_eq_true rfl)) (gm_if (gm_tail hG (Nat.le_of_ble_eq_true rfl)) (gm_lt ⟨Nat.le_refl _, Nat.le_refl _, rfl⟩ (gm_if (gm_bnd hG (Nat.le_of_ble_eq_true rfl) (fun _ _ => (gm_tail hG (Nat.le_of_ble_eq_true rfl)))) gm_none))))) gm_none)
  replace hm : sC_Par_top l D kA u w tx σ [] (σ1, r1, d1_1) := ihC _ _ tC_Par_top _ _ _ h1
  refine cc_Vi (pc := 1) C (r0 := r1) (σ2 := σ1) (As := []) (rest := []) (hm rfl) ml_Par_187 31 rfl rfl rfl d_Par_foldTop_1 rfl rfl (by dsimp only; omega) (by dsimp only; omega) hcm hsm (Nat.le_of_ble_eq_true rfl) ?_
  replace hcq : cells + σf.2.2 3001 ≤ mc + σ1.2.2 3001 := by have := hle.1; omega
  replace hsq : slots + σf.2.2 3002 ≤ ms + σ1.2.2 3002 := by have := hle.2; omega
  replace hF : d2_1 + 3 ≤ F := by omega
  replace hLo : 48 * d2_1 + 144 ≤ Lo := by omega
  refine ax_istore_n (pc := 4) C d_Par_foldTop_4 rfl (Nat.le_of_ble_eq_true rfl) ([(1, .int r1), (0, .ref (u 31))]) rfl ?_
  refine ax_aload_n (pc := 5) C d_Par_foldTop_5 rfl 1 rfl ?_
  refine cg_31_7_Par_30 (pc := 6) C d_Par_foldTop_6 ?_
  refine cg_37_0_Par_181 (pc := 9) C d_Par_foldTop_9 ?_
  refine ax_aload_n (pc := 12) C d_Par_foldTop_12 rfl 1 rfl ?_
  refine cg_31_7_Par_30 (pc := 13) C d_Par_foldTop_13 ?_
  refine cg_37_1_Par_83 (pc := 16) C d_Par_foldTop_16 ?_
  refine ax_iconst (pc := 19) C 1 d_Par_foldTop_19 (by decide +kernel) ?_
  refine ax_isub (pc := 20) C d_Par_foldTop_20 ?_
  replace h := it_g h
  obtain ⟨hb, h⟩ := h
  refine cl_38 (pc := 21) C d_Par_foldTop_21 (bin_in hb) ?_
  refine ax_istore_n (pc := 22) C d_Par_foldTop_22 rfl (Nat.le_of_ble_eq_true rfl) ([(2, .int (σ1.2.1 38 (Int32.toNatClampNeg (((σ1.1 3701) : Int32) - 1)))), (1, .int r1), (0, .ref (u 31))]) rfl ?_
  refine ax_iload_n (pc := 23) C d_Par_foldTop_23 rfl 1 rfl ?_
  refine ax_bipush (pc := 24) C 11 d_Par_foldTop_24 (by decide +kernel) ?_
  refine ax_icmp_ne (pc := 26) C 44 d_Par_foldTop_26 (by decide) (fun hc => ?_) (fun hc => ?_)
  · replace h := it_f hc h
    refine ax_iload_n (pc := 44) C d_Par_foldTop_44 rfl 1 rfl ?_
    refine ax_bipush (pc := 45) C 12 d_Par_foldTop_45 (by decide +kernel) ?_
    refine ax_icmp_eq (pc := 47) C 56 d_Par_foldTop_47 (by decide) (fun hc => ?_) (fun hc => ?_)
    · replace h := it_t hc h
      refine ax_ls ([(0, .ref (u 31)), (1, .int r1), (2, .int (σ1.2.1 38 (Int32.toNatClampNeg (((σ1.1 3701) : Int32) - 1))))]) [2, 1, 0] rfl ?_
      replace hm : sG_Par_foldTop_p56 l D kA u σ1 [r1, (σ1.2.1 38 (Int32.toNatClampNeg (((σ1.1 3701) : Int32) - 1)))] (σf, rf, _) := ih tG_Par_foldTop_p56 _ _ _ h
      exact hm _ _ rfl w tx p e s m args below meth c F Lo mc ms cells slots σ0 w0 tx hF hLo hcq hsq hga C
    · replace h := it_f hc h
      refine ax_iload_n (pc := 50) C d_Par_foldTop_50 rfl 1 rfl ?_
      refine ax_bipush (pc := 51) C 13 d_Par_foldTop_51 (by decide +kernel) ?_
      refine ax_icmp_ne (pc := 53) C 134 d_Par_foldTop_53 (by decide) (fun hc => ?_) (fun hc => ?_)
      · replace h := it_f hc h
        refine ax_aload_n (pc := 134) C d_Par_foldTop_134 rfl 2 rfl ?_
        refine cg_31_7_Par_30 (pc := 135) C d_Par_foldTop_135 ?_
        refine ax_dup (pc := 138) C d_Par_foldTop_138 rfl ?_
        refine cg_37_1_Par_83 (pc := 139) C d_Par_foldTop_139 ?_
        refine ax_iconst (pc := 142) C 1 d_Par_foldTop_142 (by decide +kernel) ?_
        refine ax_isub (pc := 143) C d_Par_foldTop_143 ?_
        refine cq_37_1_Par_83 (pc := 144) C d_Par_foldTop_144 ?_
        replace h := it_l h
        replace hcq : cells + σf.2.2 3001 ≤ mc + (mI σ1 3701 (((σ1.1 3701) : Int32) - 1)).2.2 3001 := hcq
        replace hsq : slots + σf.2.2 3002 ≤ ms + (mI σ1 3701 (((σ1.1 3701) : Int32) - 1)).2.2 3002 := hsq
        generalize mI σ1 3701 (((σ1.1 3701) : Int32) - 1) = σ2 at h hcq hsq ⊢
        refine ax_aload_n (pc := 147) C d_Par_foldTop_147 rfl 2 rfl ?_
        refine cg_31_4_Par_37 (pc := 148) C d_Par_foldTop_148 ?_
        refine ax_iload_n (pc := 151) C d_Par_foldTop_151 rfl 1 rfl ?_
        refine ax_aload_n (pc := 152) C d_Par_foldTop_152 rfl 2 rfl ?_
        refine cg_31_7_Par_30 (pc := 153) C d_Par_foldTop_153 ?_
        refine cg_37_0_Par_181 (pc := 156) C d_Par_foldTop_156 ?_
        refine ax_aload_n (pc := 159) C d_Par_foldTop_159 rfl 2 rfl ?_
        refine cg_31_7_Par_30 (pc := 160) C d_Par_foldTop_160 ?_
        refine cg_37_1_Par_83 (pc := 163) C d_Par_foldTop_163 ?_
        refine ax_iconst (pc := 166) C 1 d_Par_foldTop_166 (by decide +kernel) ?_
        refine ax_isub (pc := 167) C d_Par_foldTop_167 ?_
        replace h := it_g h
        obtain ⟨hb, h⟩ := h
        refine cl_38 (pc := 168) C d_Par_foldTop_168 (bin_in hb) ?_
        refine ax_iload_n (pc := 169) C d_Par_foldTop_169 rfl 0 rfl ?_
        replace h := it_b h
        obtain ⟨σ3, r3, d1_3, d2_3, h1, h, hd2, hd1⟩ := h
        replace hle := hG _ _ _ _ (by decide) h1
        dsimp only at hle
        replace hmn : gle σ3 σf := gm_use h (gm_tail hG (Nat.le_of_ble_eq_true rfl))
        replace hm : sG_For_addNode l D kA u σ2 [r1, (σ2.2.1 38 (Int32.toNatClampNeg (((σ2.1 3701) : Int32) - 1))), (σ1.2.1 38 (Int32.toNatClampNeg (((σ1.1 3701) : Int32) - 1)))] (σ3, r3, d1_3) := ih tG_For_addNode _ _ _ h1
        refine gc_Vi (pc := 170) C (As := [.int r1, .int (σ2.2.1 38 (Int32.toNatClampNeg (((σ2.1 3701) : Int32) - 1))), .int (σ1.2.1 38 (Int32.toNatClampNeg (((σ1.1 3701) : Int32) - 1)))]) (rest := []) (hm _ _ _ rfl w tx) ml_Par_141 14 rfl rfl rfl d_Par_foldTop_170 rfl rfl (by dsimp only; omega) (by dsimp only; omega) (by have := hmn.1; have := hle.1; dsimp only; omega) (by have := hmn.2; have := hle.2; dsimp only; omega) (Nat.le_of_ble_eq_true rfl) (fun r9 w1 hw => ?_)
        obtain ⟨hrq3, w3, tx3, hag3, htq3, hwq3⟩ := hw
        dsimp only at hwq3 hrq3
        subst hwq3
        replace hrq3 := hrq3.symm
        subst hrq3
        dsimp only
        replace htq3 := htq3.symm
        subst htq3
        have hga3 : ∀ i, ([19] : List Nat).elem i = false → w3 i = w0 i := fun i hi => (hag3 i (by revert hi; exact el_sub (by decide))).trans (hga i hi)
        replace hcq : (cells + (σ3.2.2 3001 - σ2.2.2 3001)) + σf.2.2 3001 ≤ mc + σ3.2.2 3001 := by have := hmn.1; have := hle.1; omega
        replace hcm : (cells + (σ3.2.2 3001 - σ2.2.2 3001)) ≤ mc := by have := hmn.1; have := hle.1; omega
        generalize cells + (σ3.2.2 3001 - σ2.2.2 3001) = cells at hcq hcm ⊢
        replace hsq : (slots + (σ3.2.2 3002 - σ2.2.2 3002)) + σf.2.2 3002 ≤ ms + σ3.2.2 3002 := by have := hmn.2; have := hle.2; omega
        replace hsm : (slots + (σ3.2.2 3002 - σ2.2.2 3002)) ≤ ms := by have := hmn.2; have := hle.2; omega
        generalize slots + (σ3.2.2 3002 - σ2.2.2 3002) = slots at hsq hsm ⊢
        replace hF : d2_3 + 3 ≤ F := by omega
        replace hLo : 48 * d2_3 + 144 ≤ Lo := by omega
        refine ax_istore_n (pc := 173) C d_Par_foldTop_173 rfl (Nat.le_of_ble_eq_true rfl) ([(2, .int r3), (1, .int r1), (0, .ref (u 31))]) rfl ?_
        refine ax_ls ([(0, .ref (u 31)), (1, .int r1), (2, .int r3)]) [2, 1, 0] rfl ?_
        replace hm : sG_Par_foldTop_p174 l D kA u σ3 [r1, r3] (σf, rf, _) := ih tG_Par_foldTop_p174 _ _ _ h
        exact hm _ _ rfl w3 tx p e s m args below meth c F Lo mc ms cells slots σ0 w0 tx hF hLo hcq hsq hga3 C
      · replace h := it_t hc h
        refine ax_ls ([(0, .ref (u 31)), (1, .int r1), (2, .int (σ1.2.1 38 (Int32.toNatClampNeg (((σ1.1 3701) : Int32) - 1))))]) [2, 1, 0] rfl ?_
        replace hm : sG_Par_foldTop_p56 l D kA u σ1 [r1, (σ1.2.1 38 (Int32.toNatClampNeg (((σ1.1 3701) : Int32) - 1)))] (σf, rf, _) := ih tG_Par_foldTop_p56 _ _ _ h
        exact hm _ _ rfl w tx p e s m args below meth c F Lo mc ms cells slots σ0 w0 tx hF hLo hcq hsq hga C
  · replace h := it_t hc h
    refine ax_aload_n (pc := 29) C d_Par_foldTop_29 rfl 2 rfl ?_
    refine cg_31_4_Par_37 (pc := 30) C d_Par_foldTop_30 ?_
    refine ax_bipush (pc := 33) C 11 d_Par_foldTop_33 (by decide +kernel) ?_
    refine ax_iload_n (pc := 35) C d_Par_foldTop_35 rfl 0 rfl ?_
    refine ax_iconst (pc := 36) C (-1) d_Par_foldTop_36 (by decide +kernel) ?_
    replace h := it_b h
    obtain ⟨σ4, r4, d1_4, d2_4, h1, h, hd2, hd1⟩ := h
    replace hle := hG _ _ _ _ (by decide) h1
    dsimp only at hle
    replace hmn : gle σ4 σf := gm_use h (gm_tail hG (Nat.le_of_ble_eq_true rfl))
    replace hm : sG_For_addNode l D kA u σ1 [11, (σ1.2.1 38 (Int32.toNatClampNeg (((σ1.1 3701) : Int32) - 1))), (-1)] (σ4, r4, d1_4) := ih tG_For_addNode _ _ _ h1
    refine gc_Vi (pc := 37) C (As := [.int 11, .int (σ1.2.1 38 (Int32.toNatClampNeg (((σ1.1 3701) : Int32) - 1))), .int (-1)]) (rest := []) (hm _ _ _ rfl w tx) ml_Par_141 14 rfl rfl rfl d_Par_foldTop_37 rfl rfl (by dsimp only; omega) (by dsimp only; omega) (by have := hmn.1; have := hle.1; dsimp only; omega) (by have := hmn.2; have := hle.2; dsimp only; omega) (Nat.le_of_ble_eq_true rfl) (fun r9 w1 hw => ?_)
    obtain ⟨hrq4, w4, tx4, hag4, htq4, hwq4⟩ := hw
    dsimp only at hwq4 hrq4
    subst hwq4
    replace hrq4 := hrq4.symm
    subst hrq4
    dsimp only
    replace htq4 := htq4.symm
    subst htq4
    have hga4 : ∀ i, ([19] : List Nat).elem i = false → w4 i = w0 i := fun i hi => (hag4 i (by revert hi; exact el_sub (by decide))).trans (hga i hi)
    replace hcq : (cells + (σ4.2.2 3001 - σ1.2.2 3001)) + σf.2.2 3001 ≤ mc + σ4.2.2 3001 := by have := hmn.1; have := hle.1; omega
    replace hcm : (cells + (σ4.2.2 3001 - σ1.2.2 3001)) ≤ mc := by have := hmn.1; have := hle.1; omega
    generalize cells + (σ4.2.2 3001 - σ1.2.2 3001) = cells at hcq hcm ⊢
    replace hsq : (slots + (σ4.2.2 3002 - σ1.2.2 3002)) + σf.2.2 3002 ≤ ms + σ4.2.2 3002 := by have := hmn.2; have := hle.2; omega
    replace hsm : (slots + (σ4.2.2 3002 - σ1.2.2 3002)) ≤ ms := by have := hmn.2; have := hle.2; omega
    generalize slots + (σ4.2.2 3002 - σ1.2.2 3002) = slots at hsq hsm ⊢
    replace hF : d2_4 + 3 ≤ F := by omega
    replace hLo : 48 * d2_4 + 144 ≤ Lo := by omega
    refine ax_istore_n (pc := 40) C d_Par_foldTop_40 rfl (Nat.le_of_ble_eq_true rfl) ([(2, .int r4), (1, .int r1), (0, .ref (u 31))]) rfl ?_
    refine ax_goto (pc := 41) C 174 d_Par_foldTop_41 (by decide) ?_
    refine ax_ls ([(0, .ref (u 31)), (1, .int r1), (2, .int r4)]) [2, 1, 0] rfl ?_
    replace hm : sG_Par_foldTop_p174 l D kA u σ4 [r1, r4] (σf, rf, _) := ih tG_Par_foldTop_p174 _ _ _ h
    exact hm _ _ rfl w4 tx p e s m args below meth c F Lo mc ms cells slots σ0 w0 tx hF hLo hcq hsq hga4 C
set_option maxHeartbeats 4000000 in
set_option maxRecDepth 100000 in
theorem oG_Par_foldTop_p56 (l : Launch) (D : va_G) (kA : Nat → ClassId) (u : Nat → Nat) (rec : mF) (hG : GM rec) (ihC : ∀ (w : Nat → Nat) (tx : Value) t σ xs res, rec t σ xs = some res → cSem l D kA u w tx t σ xs res) (ih : ∀ t σ xs res, rec t σ xs = some res → gSem l D kA u t σ xs res) (σ : mS) (xs : List Int32) (res : mR) (h : u_2 (kG_Par_foldTop_p56 rec σ) xs = some res) : sG_Par_foldTop_p56 l D kA u σ xs res := by
  intro x0 x1 hxs w tx
  subst hxs
  obtain ⟨σf, rf, dd⟩ := res
  have hmn : gle σ σf := qG_Par_foldTop_p56 rec hG σ x0 x1 _ h
  have h : (rec tG_Par_foldTop_p67 σ [x0, x1, (σ.1 1403), 0]) = some (σf, rf, dd) := h
  intro p e s m args below meth c F Lo mc ms cells slots σ0 w0 tx0 hF hLo hcq hsq hga C
  dsimp only at hF hLo hcq hsq ⊢
  have hcm : cells ≤ mc := by have := hmn.1; omega
  have hsm : slots ≤ ms := by have := hmn.2; omega
  have hle : True := trivial
  have hm : True := trivial
  refine ax_aload_n (pc := 56) C d_Par_foldTop_56 rfl 0 rfl ?_
  refine cg_31_4_Par_37 (pc := 57) C d_Par_foldTop_57 ?_
  refine cg_14_3_Par_196 (pc := 60) C d_Par_foldTop_60 ?_
  refine ax_istore_n (pc := 63) C d_Par_foldTop_63 rfl (Nat.le_of_ble_eq_true rfl) ([(3, .int (σ.1 1403)), (0, .ref (u 31)), (1, .int x0), (2, .int x1)]) rfl ?_
  refine ax_iconst (pc := 64) C 0 d_Par_foldTop_64 (by decide +kernel) ?_
  refine ax_istore (pc := 65) C d_Par_foldTop_65 (Nat.le_of_ble_eq_true rfl) ([(4, .int 0), (3, .int (σ.1 1403)), (0, .ref (u 31)), (1, .int x0), (2, .int x1)]) rfl ?_
  refine ax_ls ([(0, .ref (u 31)), (1, .int x0), (2, .int x1), (3, .int (σ.1 1403)), (4, .int 0)]) [2, 3, 4, 1, 0] rfl ?_
  replace hm : sG_Par_foldTop_p67 l D kA u σ [x0, x1, (σ.1 1403), 0] (σf, rf, _) := ih tG_Par_foldTop_p67 _ _ _ h
  exact hm _ _ _ _ rfl w tx p e s m args below meth c F Lo mc ms cells slots σ0 w0 tx0 hF hLo hcq hsq hga C
set_option maxHeartbeats 4000000 in
set_option maxRecDepth 100000 in
theorem oG_Par_foldTop_p67 (l : Launch) (D : va_G) (kA : Nat → ClassId) (u : Nat → Nat) (rec : mF) (hG : GM rec) (ihC : ∀ (w : Nat → Nat) (tx : Value) t σ xs res, rec t σ xs = some res → cSem l D kA u w tx t σ xs res) (ih : ∀ t σ xs res, rec t σ xs = some res → gSem l D kA u t σ xs res) (σ : mS) (xs : List Int32) (res : mR) (h : u_4 (kG_Par_foldTop_p67 rec σ) xs = some res) : sG_Par_foldTop_p67 l D kA u σ xs res := by
  intro x0 x1 x2 x3 hxs w tx
  subst hxs
  obtain ⟨σf, rf, dd⟩ := res
  have hmn : gle σ σf := qG_Par_foldTop_p67 rec hG σ x0 x1 x2 x3 _ h
  have h : (if 300 ≤ x3 then (rec tG_Par_foldTop_p123 σ [x0, x1, x2, x3]) else (if bin (((σ.1 3501) : Int32) - 1) (σ.2.2 36) = true then (if x2 < (σ.2.1 36 (Int32.toNatClampNeg (((σ.1 3501) : Int32) - 1))) then (rec tG_Par_foldTop_p123 σ [x0, x1, x2, x3]) else (bnd (rec tG_For_addNode σ [x0, x1, x2]) (fun σ1 r1 => if bin x2 300 = true then (rec tG_Par_foldTop_p67 σ1 [x0, r1, (σ1.2.1 17 (Int32.toNatClampNeg x2)), (x3 + 1)]) else none))) else none)) = some (σf, rf, dd) := h
  intro p e s m args below meth c F Lo mc ms cells slots σ0 w0 tx0 hF hLo hcq hsq hga C
  dsimp only at hF hLo hcq hsq ⊢
  have hcm : cells ≤ mc := by have := hmn.1; omega
  have hsm : slots ≤ ms := by have := hmn.2; omega
  have hle : True := trivial
  have hm : True := trivial
  refine ax_iload (pc := 67) C d_Par_foldTop_67 4 rfl ?_
  refine ax_sipush (pc := 69) C 300 d_Par_foldTop_69 (by decide +kernel) ?_
  refine ax_icmp_ge (pc := 72) C 123 d_Par_foldTop_72 (by decide) (fun hc => ?_) (fun hc => ?_)
  · replace h := it_t hc h
    refine ax_ls ([(0, .ref (u 31)), (1, .int x0), (2, .int x1), (3, .int x2), (4, .int x3)]) [0, 1, 2, 3, 4] rfl ?_
    replace hm : sG_Par_foldTop_p123 l D kA u σ [x0, x1, x2, x3] (σf, rf, _) := ih tG_Par_foldTop_p123 _ _ _ h
    exact hm _ _ _ _ rfl w tx p e s m args below meth c F Lo mc ms cells slots σ0 w0 tx0 hF hLo hcq hsq hga C
  · replace h := it_f hc h
    refine ax_iload_n (pc := 75) C d_Par_foldTop_75 rfl 3 rfl ?_
    refine ax_aload_n (pc := 76) C d_Par_foldTop_76 rfl 0 rfl ?_
    refine cg_31_6_Par_27 (pc := 77) C d_Par_foldTop_77 ?_
    refine cg_35_0_Par_181 (pc := 80) C d_Par_foldTop_80 ?_
    refine ax_aload_n (pc := 83) C d_Par_foldTop_83 rfl 0 rfl ?_
    refine cg_31_6_Par_27 (pc := 84) C d_Par_foldTop_84 ?_
    refine cg_35_1_Par_83 (pc := 87) C d_Par_foldTop_87 ?_
    refine ax_iconst (pc := 90) C 1 d_Par_foldTop_90 (by decide +kernel) ?_
    refine ax_isub (pc := 91) C d_Par_foldTop_91 ?_
    replace h := it_g h
    obtain ⟨hb, h⟩ := h
    refine cl_36 (pc := 92) C d_Par_foldTop_92 (bin_in hb) ?_
    refine ax_icmp_lt (pc := 93) C 123 d_Par_foldTop_93 (by decide) (fun hc => ?_) (fun hc => ?_)
    · replace h := it_t hc h
      refine ax_ls ([(0, .ref (u 31)), (1, .int x0), (2, .int x1), (3, .int x2), (4, .int x3)]) [0, 1, 2, 3, 4] rfl ?_
      replace hm : sG_Par_foldTop_p123 l D kA u σ [x0, x1, x2, x3] (σf, rf, _) := ih tG_Par_foldTop_p123 _ _ _ h
      exact hm _ _ _ _ rfl w tx p e s m args below meth c F Lo mc ms cells slots σ0 w0 tx0 hF hLo hcq hsq hga C
    · replace h := it_f hc h
      refine ax_aload_n (pc := 96) C d_Par_foldTop_96 rfl 0 rfl ?_
      refine cg_31_4_Par_37 (pc := 97) C d_Par_foldTop_97 ?_
      refine ax_iload_n (pc := 100) C d_Par_foldTop_100 rfl 1 rfl ?_
      refine ax_iload_n (pc := 101) C d_Par_foldTop_101 rfl 2 rfl ?_
      refine ax_iload_n (pc := 102) C d_Par_foldTop_102 rfl 3 rfl ?_
      replace h := it_b h
      obtain ⟨σ1, r1, d1_1, d2_1, h1, h, hd2, hd1⟩ := h
      replace hle := hG _ _ _ _ (by decide) h1
      dsimp only at hle
      replace hmn : gle σ1 σf := gm_use h (gm_if (gm_tail hG (Nat.le_of_ble_eq_true rfl)) gm_none)
      replace hm : sG_For_addNode l D kA u σ [x0, x1, x2] (σ1, r1, d1_1) := ih tG_For_addNode _ _ _ h1
      refine gc_Vi (pc := 103) C (As := [.int x0, .int x1, .int x2]) (rest := []) (hm _ _ _ rfl w tx) ml_Par_141 14 rfl rfl rfl d_Par_foldTop_103 rfl rfl (by dsimp only; omega) (by dsimp only; omega) (by have := hmn.1; have := hle.1; dsimp only; omega) (by have := hmn.2; have := hle.2; dsimp only; omega) (Nat.le_of_ble_eq_true rfl) (fun r9 w1 hw => ?_)
      obtain ⟨hrq1, w1, tx1, hag1, htq1, hwq1⟩ := hw
      dsimp only at hwq1 hrq1
      subst hwq1
      replace hrq1 := hrq1.symm
      subst hrq1
      dsimp only
      replace htq1 := htq1.symm
      subst htq1
      have hga1 : ∀ i, ([19] : List Nat).elem i = false → w1 i = w0 i := fun i hi => (hag1 i (by revert hi; exact el_sub (by decide))).trans (hga i hi)
      replace hcq : (cells + (σ1.2.2 3001 - σ.2.2 3001)) + σf.2.2 3001 ≤ mc + σ1.2.2 3001 := by have := hmn.1; have := hle.1; omega
      replace hcm : (cells + (σ1.2.2 3001 - σ.2.2 3001)) ≤ mc := by have := hmn.1; have := hle.1; omega
      generalize cells + (σ1.2.2 3001 - σ.2.2 3001) = cells at hcq hcm ⊢
      replace hsq : (slots + (σ1.2.2 3002 - σ.2.2 3002)) + σf.2.2 3002 ≤ ms + σ1.2.2 3002 := by have := hmn.2; have := hle.2; omega
      replace hsm : (slots + (σ1.2.2 3002 - σ.2.2 3002)) ≤ ms := by have := hmn.2; have := hle.2; omega
      generalize slots + (σ1.2.2 3002 - σ.2.2 3002) = slots at hsq hsm ⊢
      replace hF : d2_1 + 3 ≤ F := by omega
      replace hLo : 48 * d2_1 + 144 ≤ Lo := by omega
      refine ax_istore_n (pc := 106) C d_Par_foldTop_106 rfl (Nat.le_of_ble_eq_true rfl) ([(2, .int r1), (0, .ref (u 31)), (1, .int x0), (3, .int x2), (4, .int x3)]) rfl ?_
      refine ax_aload_n (pc := 107) C d_Par_foldTop_107 rfl 1 rfl ?_
      refine cg_31_4_Par_37 (pc := 108) C d_Par_foldTop_108 ?_
      refine cg_14_1_Par_199 (pc := 111) C d_Par_foldTop_111 ?_
      refine ax_iload_n (pc := 114) C d_Par_foldTop_114 rfl 3 rfl ?_
      replace h := it_g h
      obtain ⟨hb, h⟩ := h
      refine cl_17 (pc := 115) C d_Par_foldTop_115 (bin_in hb) ?_
      refine ax_istore_n (pc := 116) C d_Par_foldTop_116 rfl (Nat.le_of_ble_eq_true rfl) ([(3, .int (σ1.2.1 17 (Int32.toNatClampNeg x2))), (2, .int r1), (0, .ref (u 31)), (1, .int x0), (4, .int x3)]) rfl ?_
      refine ax_iinc (pc := 117) C (x3 + 1) d_Par_foldTop_117 4 rfl rfl (Nat.le_of_ble_eq_true rfl) ([(4, .int (x3 + 1)), (3, .int (σ1.2.1 17 (Int32.toNatClampNeg x2))), (2, .int r1), (0, .ref (u 31)), (1, .int x0)]) rfl ?_
      refine ax_goto (pc := 120) C 67 d_Par_foldTop_120 (by decide) ?_
      refine ax_ls ([(0, .ref (u 31)), (1, .int x0), (2, .int r1), (3, .int (σ1.2.1 17 (Int32.toNatClampNeg x2))), (4, .int (x3 + 1))]) [3, 4, 2, 1, 0] rfl ?_
      replace hm : sG_Par_foldTop_p67 l D kA u σ1 [x0, r1, (σ1.2.1 17 (Int32.toNatClampNeg x2)), (x3 + 1)] (σf, rf, _) := ih tG_Par_foldTop_p67 _ _ _ h
      exact hm _ _ _ _ rfl w1 tx p e s m args below meth c F Lo mc ms cells slots σ0 w0 tx0 hF hLo hcq hsq hga1 C
set_option maxHeartbeats 4000000 in
set_option maxRecDepth 100000 in
theorem oG_Par_foldTop_p123 (l : Launch) (D : va_G) (kA : Nat → ClassId) (u : Nat → Nat) (rec : mF) (hG : GM rec) (ihC : ∀ (w : Nat → Nat) (tx : Value) t σ xs res, rec t σ xs = some res → cSem l D kA u w tx t σ xs res) (ih : ∀ t σ xs res, rec t σ xs = some res → gSem l D kA u t σ xs res) (σ : mS) (xs : List Int32) (res : mR) (h : u_4 (kG_Par_foldTop_p123 rec σ) xs = some res) : sG_Par_foldTop_p123 l D kA u σ xs res := by
  intro x0 x1 x2 x3 hxs w tx
  subst hxs
  obtain ⟨σf, rf, dd⟩ := res
  have hmn : gle σ σf := qG_Par_foldTop_p123 rec hG σ x0 x1 x2 x3 _ h
  have h : (lt_ (mI σ 1403 x2) (fun σ1 => rec tG_Par_foldTop_p174 σ1 [x0, x1])) = some (σf, rf, dd) := h
  intro p e s m args below meth c F Lo mc ms cells slots σ0 w0 tx0 hF hLo hcq hsq hga C
  dsimp only at hF hLo hcq hsq ⊢
  have hcm : cells ≤ mc := by have := hmn.1; omega
  have hsm : slots ≤ ms := by have := hmn.2; omega
  have hle : True := trivial
  have hm : True := trivial
  refine ax_aload_n (pc := 123) C d_Par_foldTop_123 rfl 0 rfl ?_
  refine cg_31_4_Par_37 (pc := 124) C d_Par_foldTop_124 ?_
  refine ax_iload_n (pc := 127) C d_Par_foldTop_127 rfl 3 rfl ?_
  refine cq_14_3_Par_196 (pc := 128) C d_Par_foldTop_128 ?_
  replace h := it_l h
  replace hcq : cells + σf.2.2 3001 ≤ mc + (mI σ 1403 x2).2.2 3001 := hcq
  replace hsq : slots + σf.2.2 3002 ≤ ms + (mI σ 1403 x2).2.2 3002 := hsq
  generalize mI σ 1403 x2 = σ1 at h hcq hsq ⊢
  refine ax_goto (pc := 131) C 174 d_Par_foldTop_131 (by decide) ?_
  refine ax_ls ([(0, .ref (u 31)), (1, .int x0), (2, .int x1)]) [0, 1, 2] rfl ?_
  replace hm : sG_Par_foldTop_p174 l D kA u σ1 [x0, x1] (σf, rf, _) := ih tG_Par_foldTop_p174 _ _ _ h
  exact hm _ _ rfl w tx p e s m args below meth c F Lo mc ms cells slots σ0 w0 tx0 hF hLo hcq hsq hga C
set_option maxHeartbeats 4000000 in
set_option maxRecDepth 100000 in
theorem oG_Par_foldTop_p174 (l : Launch) (D : va_G) (kA : Nat → ClassId) (u : Nat → Nat) (rec : mF) (hG : GM rec) (ihC : ∀ (w : Nat → Nat) (tx : Value) t σ xs res, rec t σ xs = some res → cSem l D kA u w tx t σ xs res) (ih : ∀ t σ xs res, rec t σ xs = some res → gSem l D kA u t σ xs res) (σ : mS) (xs : List Int32) (res : mR) (h : u_2 (kG_Par_foldTop_p174 rec σ) xs = some res) : sG_Par_foldTop_p174 l D kA u σ xs res := by
  intro x0 x1 hxs w tx
  subst hxs
  obtain ⟨σf, rf, dd⟩ := res
  have hmn : gle σ σf := qG_Par_foldTop_p174 rec hG σ x0 x1 _ h
  have h : (if bin (((σ.1 3701) : Int32) - 1) (σ.2.2 38) = true then (lt_ (mA σ 38 (Int32.toNatClampNeg (((σ.1 3701) : Int32) - 1)) x1) (fun σ1 => bnd (rec tC_Par_pop σ1 []) (fun σ2 r2 => some (σ2, 0, 0)))) else none) = some (σf, rf, dd) := h
  intro p e s m args below meth c F Lo mc ms cells slots σ0 w0 tx0 hF hLo hcq hsq hga C
  dsimp only at hF hLo hcq hsq ⊢
  have hcm : cells ≤ mc := by have := hmn.1; omega
  have hsm : slots ≤ ms := by have := hmn.2; omega
  have hle : True := trivial
  have hm : True := trivial
  refine ax_aload_n (pc := 174) C d_Par_foldTop_174 rfl 0 rfl ?_
  refine cg_31_7_Par_30 (pc := 175) C d_Par_foldTop_175 ?_
  refine cg_37_0_Par_181 (pc := 178) C d_Par_foldTop_178 ?_
  refine ax_aload_n (pc := 181) C d_Par_foldTop_181 rfl 0 rfl ?_
  refine cg_31_7_Par_30 (pc := 182) C d_Par_foldTop_182 ?_
  refine cg_37_1_Par_83 (pc := 185) C d_Par_foldTop_185 ?_
  refine ax_iconst (pc := 188) C 1 d_Par_foldTop_188 (by decide +kernel) ?_
  refine ax_isub (pc := 189) C d_Par_foldTop_189 ?_
  refine ax_iload_n (pc := 190) C d_Par_foldTop_190 rfl 2 rfl ?_
  replace h := it_g h
  obtain ⟨hb, h⟩ := h
  refine cs_38 (pc := 191) C d_Par_foldTop_191 (bin_in hb) ?_
  replace h := it_l h
  replace hcq : cells + σf.2.2 3001 ≤ mc + (mA σ 38 (Int32.toNatClampNeg (((σ.1 3701) : Int32) - 1)) x1).2.2 3001 := hcq
  replace hsq : slots + σf.2.2 3002 ≤ ms + (mA σ 38 (Int32.toNatClampNeg (((σ.1 3701) : Int32) - 1)) x1).2.2 3002 := hsq
  generalize mA σ 38 (Int32.toNatClampNeg (((σ.1 3701) : Int32) - 1)) x1 = σ1 at h hcq hsq ⊢
  refine ax_aload_n (pc := 192) C d_Par_foldTop_192 rfl 0 rfl ?_
  replace h := it_b h
  obtain ⟨σ2, r2, d1_2, d2_2, h1, h, hd2, hd1⟩ := h
  replace hle := hG _ _ _ _ (by decide) h1
  dsimp only at hle
  replace hmn : gle σ2 σf := gm_use h gm_some
  replace hm : sC_Par_pop l D kA u w tx σ1 [] (σ2, r2, d1_2) := ihC _ _ tC_Par_pop _ _ _ h1
  refine cc_Vv (pc := 193) C (σ2 := σ2) (As := []) (rest := []) (hm rfl) ml_Par_178 31 rfl rfl rfl d_Par_foldTop_193 rfl rfl (by dsimp only; omega) (by dsimp only; omega) hcm hsm (Nat.le_of_ble_eq_true rfl) ?_
  replace hcq : cells + σf.2.2 3001 ≤ mc + σ2.2.2 3001 := by have := hle.1; omega
  replace hsq : slots + σf.2.2 3002 ≤ ms + σ2.2.2 3002 := by have := hle.2; omega
  replace hF : d2_2 + 3 ≤ F := by omega
  replace hLo : 48 * d2_2 + 144 ≤ Lo := by omega
  cases h
  exact ax_vret (pc := 196) C d_Par_foldTop_196 ⟨w, tx, hga, rfl, rfl⟩ hcm hsm
set_option maxHeartbeats 4000000 in
set_option maxRecDepth 100000 in
theorem oG_Par_mayBeEquivalent (l : Launch) (D : va_G) (kA : Nat → ClassId) (u : Nat → Nat) (rec : mF) (hG : GM rec) (ihC : ∀ (w : Nat → Nat) (tx : Value) t σ xs res, rec t σ xs = some res → cSem l D kA u w tx t σ xs res) (ih : ∀ t σ xs res, rec t σ xs = some res → gSem l D kA u t σ xs res) (σ : mS) (xs : List Int32) (res : mR) (h : u_0 (kG_Par_mayBeEquivalent rec σ) xs = some res) : sG_Par_mayBeEquivalent l D kA u σ xs res := by
  intro hxs w tx
  subst hxs
  obtain ⟨σf, rf, dd⟩ := res
  have hmn : gle σ σf := qG_Par_mayBeEquivalent rec hG σ _ h
  have h : (bnd (rec tC_Par_strength σ [16]) (fun σ1 r1 => bnd (rec tG_Par_fold σ1 [r1]) (fun σ2 r2 => rec tG_Par_mayBeEquivalent_p11 σ2 [0]))) = some (σf, rf, dd) := h
  refine ax_Mi.of (by decide +kernel) (Nat.le_of_ble_eq_true rfl) ?_
  intro p e s m args below meth c C hnm
  replace C : ax_C p s m args meth c b_Par_mayBeEquivalent "ClauseProver$Parser" 2 (some .boolean) D kA (va_A (cpW kA u w tx σ) s.heap.size) := C
  obtain ⟨F, hFe⟩ : ∃ z, z = dd + 3 := ⟨_, rfl⟩
  obtain ⟨Lo, hLoe⟩ : ∃ z, z = 48 * dd + 144 := ⟨_, rfl⟩
  obtain ⟨mc, hmce⟩ : ∃ z, z = σf.2.2 3001 - σ.2.2 3001 := ⟨_, rfl⟩
  obtain ⟨ms, hmse⟩ : ∃ z, z = σf.2.2 3002 - σ.2.2 3002 := ⟨_, rfl⟩
  obtain ⟨σ0, hσ0e⟩ : ∃ z, z = σ := ⟨_, rfl⟩
  obtain ⟨w0, hw0e⟩ : ∃ z, z = w := ⟨_, rfl⟩
  obtain ⟨tx0, htx0e⟩ : ∃ z, z = tx := ⟨_, rfl⟩
  suffices K : ∀ (cells slots : Nat), cells = 0 → slots = 0 → AW p l e { frames := F, cells := mc, slots := ms, locals := Lo } s m args below meth c D kA (va_A (cpW kA u w0 tx0 σ0) s.heap.size) 2 (ax_Qi below args s D kA (cpW kA u w0 tx0 σ0) mc ms (fun r w1 => r = rf ∧ ∃ (w2 : Nat → Nat) (tx2 : Value), (∀ i, ([19] : List Nat).elem i = false → w2 i = w0 i) ∧ tx2 = tx0 ∧ w1 = cpW kA u w2 tx2 σf)) 0 [(0, .ref (u 31))] [] (cpW kA u w tx σ) cells slots by
    have K := K 0 0 rfl rfl
    rw [hFe, hLoe, hmce, hmse, hσ0e, hw0e, htx0e] at K
    exact ax_ls ([(0, .ref (u 31))]) [0] rfl K
  replace C : ax_C p s m args meth c b_Par_mayBeEquivalent "ClauseProver$Parser" 2 (some .boolean) D kA (va_A (cpW kA u w0 tx0 σ0) s.heap.size) := by rw [hσ0e, hw0e, htx0e]; exact C
  intro cells slots hc0 hs0
  have hcq : cells + σf.2.2 3001 ≤ mc + σ.2.2 3001 := by have := hmn.1; omega
  have hsq : slots + σf.2.2 3002 ≤ ms + σ.2.2 3002 := by have := hmn.2; omega
  have hga : ∀ i, ([19] : List Nat).elem i = false → w i = w0 i := fun i _ => by rw [hw0e]
  have e9 : tx = tx0 := htx0e.symm
  subst e9
  have hF : dd + 3 ≤ F := by omega
  have hLo : 48 * dd + 144 ≤ Lo := by omega
  have hcm : cells ≤ mc := by have := hmn.1; omega
  have hsm : slots ≤ ms := by have := hmn.2; omega
  have hle : True := trivial
  have hm : True := trivial
  refine ax_aload_n (pc := 0) C d_Par_mayBeEquivalent_0 rfl 0 rfl ?_
  refine ax_bipush (pc := 1) C 16 d_Par_mayBeEquivalent_1 (by decide +kernel) ?_
  replace h := it_b h
  obtain ⟨σ1, r1, d1_1, d2_1, h1, h, hd2, hd1⟩ := h
  replace hle := hG _ _ _ _ (by decide) h1
  dsimp only at hle
  replace hmn : gle σ1 σf := gm_use h (gm_bnd hG (Nat.le_of_ble_eq_true rfl) (fun _ _ => (gm_tail hG (Nat.le_of_ble_eq_true rfl))))
  replace hm : sC_Par_strength l D kA u w tx σ [16] (σ1, r1, d1_1) := ihC _ _ tC_Par_strength _ _ _ h1
  refine cc_Si (pc := 3) C (r0 := r1) (σ2 := σ1) (As := [.int 16]) (rest := [.ref (u 31)]) (hm _ rfl) ml_Par_166 d_Par_mayBeEquivalent_3 rfl rfl (by dsimp only; omega) (by dsimp only; omega) hcm hsm (Nat.le_of_ble_eq_true rfl) ?_
  replace hcq : cells + σf.2.2 3001 ≤ mc + σ1.2.2 3001 := by have := hle.1; omega
  replace hsq : slots + σf.2.2 3002 ≤ ms + σ1.2.2 3002 := by have := hle.2; omega
  replace hF : d2_1 + 3 ≤ F := by omega
  replace hLo : 48 * d2_1 + 144 ≤ Lo := by omega
  replace h := it_b h
  obtain ⟨σ2, r2, d1_2, d2_2, h1, h, hd2, hd1⟩ := h
  replace hle := hG _ _ _ _ (by decide) h1
  dsimp only at hle
  replace hmn : gle σ2 σf := gm_use h (gm_tail hG (Nat.le_of_ble_eq_true rfl))
  replace hm : sG_Par_fold l D kA u σ1 [r1] (σ2, r2, d1_2) := ih tG_Par_fold _ _ _ h1
  refine gc_Vv (pc := 6) C (As := [.int r1]) (rest := []) (hm _ rfl w tx) ml_Par_169 31 rfl rfl rfl d_Par_mayBeEquivalent_6 rfl rfl (by dsimp only; omega) (by dsimp only; omega) (by have := hmn.1; have := hle.1; dsimp only; omega) (by have := hmn.2; have := hle.2; dsimp only; omega) (Nat.le_of_ble_eq_true rfl) (fun w1 hw => ?_)
  obtain ⟨w2, tx2, hag2, htq2, hwq2⟩ := hw
  dsimp only at hwq2
  subst hwq2
  dsimp only
  replace htq2 := htq2.symm
  subst htq2
  have hga2 : ∀ i, ([19] : List Nat).elem i = false → w2 i = w0 i := fun i hi => (hag2 i (by revert hi; exact el_sub (by decide))).trans (hga i hi)
  replace hcq : (cells + (σ2.2.2 3001 - σ1.2.2 3001)) + σf.2.2 3001 ≤ mc + σ2.2.2 3001 := by have := hmn.1; have := hle.1; omega
  replace hcm : (cells + (σ2.2.2 3001 - σ1.2.2 3001)) ≤ mc := by have := hmn.1; have := hle.1; omega
  generalize cells + (σ2.2.2 3001 - σ1.2.2 3001) = cells at hcq hcm ⊢
  replace hsq : (slots + (σ2.2.2 3002 - σ1.2.2 3002)) + σf.2.2 3002 ≤ ms + σ2.2.2 3002 := by have := hmn.2; have := hle.2; omega
  replace hsm : (slots + (σ2.2.2 3002 - σ1.2.2 3002)) ≤ ms := by have := hmn.2; have := hle.2; omega
  generalize slots + (σ2.2.2 3002 - σ1.2.2 3002) = slots at hsq hsm ⊢
  replace hF : d2_2 + 3 ≤ F := by omega
  replace hLo : 48 * d2_2 + 144 ≤ Lo := by omega
  refine ax_iconst (pc := 9) C 0 d_Par_mayBeEquivalent_9 (by decide +kernel) ?_
  refine ax_istore_n (pc := 10) C d_Par_mayBeEquivalent_10 rfl (Nat.le_of_ble_eq_true rfl) ([(1, .int 0), (0, .ref (u 31))]) rfl ?_
  refine ax_ls ([(0, .ref (u 31)), (1, .int 0)]) [1, 0] rfl ?_
  replace hm : sG_Par_mayBeEquivalent_p11 l D kA u σ2 [0] (σf, rf, _) := ih tG_Par_mayBeEquivalent_p11 _ _ _ h
  exact hm _ rfl w2 tx p e s m args below meth c F Lo mc ms cells slots σ0 w0 tx hF hLo hcq hsq hga2 C
set_option maxHeartbeats 4000000 in
set_option maxRecDepth 100000 in
theorem oG_Par_mayBeEquivalent_p11 (l : Launch) (D : va_G) (kA : Nat → ClassId) (u : Nat → Nat) (rec : mF) (hG : GM rec) (ihC : ∀ (w : Nat → Nat) (tx : Value) t σ xs res, rec t σ xs = some res → cSem l D kA u w tx t σ xs res) (ih : ∀ t σ xs res, rec t σ xs = some res → gSem l D kA u t σ xs res) (σ : mS) (xs : List Int32) (res : mR) (h : u_1 (kG_Par_mayBeEquivalent_p11 rec σ) xs = some res) : sG_Par_mayBeEquivalent_p11 l D kA u σ xs res := by
  intro x0 hxs w tx
  subst hxs
  obtain ⟨σf, rf, dd⟩ := res
  have hmn : gle σ σf := qG_Par_mayBeEquivalent_p11 rec hG σ x0 _ h
  have h : (if 1000000 ≤ x0 then (rec tG_Par_mayBeEquivalent_p69 σ [x0]) else (bnd (rec tC_Par_top σ []) (fun σ1 r1 => if r1 = 17 then (bnd (rec tG_Par_foldTop σ1 []) (fun σ2 r2 => bnd (rec tC_Par_top σ2 []) (fun σ3 r3 => if r3 = 12 then (rec tG_Par_mayBeEquivalent_p50 σ3 [x0]) else (bnd (rec tC_Par_top σ3 []) (fun σ4 r4 => if r4 = 13 then (rec tG_Par_mayBeEquivalent_p50 σ4 [x0]) else (some (σ4, 0, 0))))))) else (rec tG_Par_mayBeEquivalent_p69 σ1 [x0])))) = some (σf, rf, dd) := h
  intro p e s m args below meth c F Lo mc ms cells slots σ0 w0 tx0 hF hLo hcq hsq hga C
  dsimp only at hF hLo hcq hsq ⊢
  have hcm : cells ≤ mc := by have := hmn.1; omega
  have hsm : slots ≤ ms := by have := hmn.2; omega
  have hle : True := trivial
  have hm : True := trivial
  refine ax_iload_n (pc := 11) C d_Par_mayBeEquivalent_11 rfl 1 rfl ?_
  refine ax_ldc (pc := 12) C tb_constant_580 d_Par_mayBeEquivalent_12 ?_
  refine ax_icmp_ge (pc := 14) C 69 d_Par_mayBeEquivalent_14 (by decide) (fun hc => ?_) (fun hc => ?_)
  · replace h := it_t hc h
    refine ax_ls ([(0, .ref (u 31)), (1, .int x0)]) [0, 1] rfl ?_
    replace hm : sG_Par_mayBeEquivalent_p69 l D kA u σ [x0] (σf, rf, _) := ih tG_Par_mayBeEquivalent_p69 _ _ _ h
    exact hm _ rfl w tx p e s m args below meth c F Lo mc ms cells slots σ0 w0 tx0 hF hLo hcq hsq hga C
  · replace h := it_f hc h
    refine ax_aload_n (pc := 17) C d_Par_mayBeEquivalent_17 rfl 0 rfl ?_
    replace h := it_b h
    obtain ⟨σ1, r1, d1_1, d2_1, h1, h, hd2, hd1⟩ := h
    replace hle := hG _ _ _ _ (by decide) h1
    dsimp only at hle
    replace hmn : gle σ1 σf := gm_use h (gm_if (gm_bnd hG (Nat.le_of_ble_eq_true rfl) (fun _ _ => (gm_bnd hG (Nat.le_of_ble_eq_true rfl) (fun _ _ => (gm_if (gm_tail hG (Nat.le_of_ble_eq_true rfl)) (gm_bnd hG (Nat.le_of_ble_eq_true rfl) (fun _ _ => (gm_if (gm_tail hG (Nat.le_of_ble_eq_true rfl)) gm_some)))))))) (gm_tail hG (Nat.le_of_ble_eq_true rfl)))
    replace hm : sC_Par_top l D kA u w tx σ [] (σ1, r1, d1_1) := ihC _ _ tC_Par_top _ _ _ h1
    refine cc_Vi (pc := 18) C (r0 := r1) (σ2 := σ1) (As := []) (rest := []) (hm rfl) ml_Par_187 31 rfl rfl rfl d_Par_mayBeEquivalent_18 rfl rfl (by dsimp only; omega) (by dsimp only; omega) hcm hsm (Nat.le_of_ble_eq_true rfl) ?_
    replace hcq : cells + σf.2.2 3001 ≤ mc + σ1.2.2 3001 := by have := hle.1; omega
    replace hsq : slots + σf.2.2 3002 ≤ ms + σ1.2.2 3002 := by have := hle.2; omega
    replace hF : d2_1 + 3 ≤ F := by omega
    replace hLo : 48 * d2_1 + 144 ≤ Lo := by omega
    refine ax_bipush (pc := 21) C 17 d_Par_mayBeEquivalent_21 (by decide +kernel) ?_
    refine ax_icmp_ne (pc := 23) C 69 d_Par_mayBeEquivalent_23 (by decide) (fun hc => ?_) (fun hc => ?_)
    · replace h := it_f hc h
      refine ax_ls ([(0, .ref (u 31)), (1, .int x0)]) [0, 1] rfl ?_
      replace hm : sG_Par_mayBeEquivalent_p69 l D kA u σ1 [x0] (σf, rf, _) := ih tG_Par_mayBeEquivalent_p69 _ _ _ h
      exact hm _ rfl w tx p e s m args below meth c F Lo mc ms cells slots σ0 w0 tx0 hF hLo hcq hsq hga C
    · replace h := it_t hc h
      refine ax_aload_n (pc := 26) C d_Par_mayBeEquivalent_26 rfl 0 rfl ?_
      replace h := it_b h
      obtain ⟨σ2, r2, d1_2, d2_2, h1, h, hd2, hd1⟩ := h
      replace hle := hG _ _ _ _ (by decide) h1
      dsimp only at hle
      replace hmn : gle σ2 σf := gm_use h (gm_bnd hG (Nat.le_of_ble_eq_true rfl) (fun _ _ => (gm_if (gm_tail hG (Nat.le_of_ble_eq_true rfl)) (gm_bnd hG (Nat.le_of_ble_eq_true rfl) (fun _ _ => (gm_if (gm_tail hG (Nat.le_of_ble_eq_true rfl)) gm_some))))))
      replace hm : sG_Par_foldTop l D kA u σ1 [] (σ2, r2, d1_2) := ih tG_Par_foldTop _ _ _ h1
      refine gc_Vv (pc := 27) C (As := []) (rest := []) (hm rfl w tx) ml_Par_190 31 rfl rfl rfl d_Par_mayBeEquivalent_27 rfl rfl (by dsimp only; omega) (by dsimp only; omega) (by have := hmn.1; have := hle.1; dsimp only; omega) (by have := hmn.2; have := hle.2; dsimp only; omega) (Nat.le_of_ble_eq_true rfl) (fun w1 hw => ?_)
      obtain ⟨w2, tx2, hag2, htq2, hwq2⟩ := hw
      dsimp only at hwq2
      subst hwq2
      dsimp only
      replace htq2 := htq2.symm
      subst htq2
      have hga2 : ∀ i, ([19] : List Nat).elem i = false → w2 i = w0 i := fun i hi => (hag2 i (by revert hi; exact el_sub (by decide))).trans (hga i hi)
      replace hcq : (cells + (σ2.2.2 3001 - σ1.2.2 3001)) + σf.2.2 3001 ≤ mc + σ2.2.2 3001 := by have := hmn.1; have := hle.1; omega
      replace hcm : (cells + (σ2.2.2 3001 - σ1.2.2 3001)) ≤ mc := by have := hmn.1; have := hle.1; omega
      generalize cells + (σ2.2.2 3001 - σ1.2.2 3001) = cells at hcq hcm ⊢
      replace hsq : (slots + (σ2.2.2 3002 - σ1.2.2 3002)) + σf.2.2 3002 ≤ ms + σ2.2.2 3002 := by have := hmn.2; have := hle.2; omega
      replace hsm : (slots + (σ2.2.2 3002 - σ1.2.2 3002)) ≤ ms := by have := hmn.2; have := hle.2; omega
      generalize slots + (σ2.2.2 3002 - σ1.2.2 3002) = slots at hsq hsm ⊢
      replace hF : d2_2 + 3 ≤ F := by omega
      replace hLo : 48 * d2_2 + 144 ≤ Lo := by omega
      refine ax_aload_n (pc := 30) C d_Par_mayBeEquivalent_30 rfl 0 rfl ?_
      replace h := it_b h
      obtain ⟨σ3, r3, d1_3, d2_3, h1, h, hd2, hd1⟩ := h
      replace hle := hG _ _ _ _ (by decide) h1
      dsimp only at hle
      replace hmn : gle σ3 σf := gm_use h (gm_if (gm_tail hG (Nat.le_of_ble_eq_true rfl)) (gm_bnd hG (Nat.le_of_ble_eq_true rfl) (fun _ _ => (gm_if (gm_tail hG (Nat.le_of_ble_eq_true rfl)) gm_some))))
      replace hm : sC_Par_top l D kA u w2 tx σ2 [] (σ3, r3, d1_3) := ihC _ _ tC_Par_top _ _ _ h1
      refine cc_Vi (pc := 31) C (r0 := r3) (σ2 := σ3) (As := []) (rest := []) (hm rfl) ml_Par_187 31 rfl rfl rfl d_Par_mayBeEquivalent_31 rfl rfl (by dsimp only; omega) (by dsimp only; omega) hcm hsm (Nat.le_of_ble_eq_true rfl) ?_
      replace hcq : cells + σf.2.2 3001 ≤ mc + σ3.2.2 3001 := by have := hle.1; omega
      replace hsq : slots + σf.2.2 3002 ≤ ms + σ3.2.2 3002 := by have := hle.2; omega
      replace hF : d2_3 + 3 ≤ F := by omega
      replace hLo : 48 * d2_3 + 144 ≤ Lo := by omega
      refine ax_bipush (pc := 34) C 12 d_Par_mayBeEquivalent_34 (by decide +kernel) ?_
      refine ax_icmp_eq (pc := 36) C 50 d_Par_mayBeEquivalent_36 (by decide) (fun hc => ?_) (fun hc => ?_)
      · replace h := it_t hc h
        refine ax_ls ([(0, .ref (u 31)), (1, .int x0)]) [0, 1] rfl ?_
        replace hm : sG_Par_mayBeEquivalent_p50 l D kA u σ3 [x0] (σf, rf, _) := ih tG_Par_mayBeEquivalent_p50 _ _ _ h
        exact hm _ rfl w2 tx p e s m args below meth c F Lo mc ms cells slots σ0 w0 tx0 hF hLo hcq hsq hga2 C
      · replace h := it_f hc h
        refine ax_aload_n (pc := 39) C d_Par_mayBeEquivalent_39 rfl 0 rfl ?_
        replace h := it_b h
        obtain ⟨σ4, r4, d1_4, d2_4, h1, h, hd2, hd1⟩ := h
        replace hle := hG _ _ _ _ (by decide) h1
        dsimp only at hle
        replace hmn : gle σ4 σf := gm_use h (gm_if (gm_tail hG (Nat.le_of_ble_eq_true rfl)) gm_some)
        replace hm : sC_Par_top l D kA u w2 tx σ3 [] (σ4, r4, d1_4) := ihC _ _ tC_Par_top _ _ _ h1
        refine cc_Vi (pc := 40) C (r0 := r4) (σ2 := σ4) (As := []) (rest := []) (hm rfl) ml_Par_187 31 rfl rfl rfl d_Par_mayBeEquivalent_40 rfl rfl (by dsimp only; omega) (by dsimp only; omega) hcm hsm (Nat.le_of_ble_eq_true rfl) ?_
        replace hcq : cells + σf.2.2 3001 ≤ mc + σ4.2.2 3001 := by have := hle.1; omega
        replace hsq : slots + σf.2.2 3002 ≤ ms + σ4.2.2 3002 := by have := hle.2; omega
        replace hF : d2_4 + 3 ≤ F := by omega
        replace hLo : 48 * d2_4 + 144 ≤ Lo := by omega
        refine ax_bipush (pc := 43) C 13 d_Par_mayBeEquivalent_43 (by decide +kernel) ?_
        refine ax_icmp_eq (pc := 45) C 50 d_Par_mayBeEquivalent_45 (by decide) (fun hc => ?_) (fun hc => ?_)
        · replace h := it_t hc h
          refine ax_ls ([(0, .ref (u 31)), (1, .int x0)]) [0, 1] rfl ?_
          replace hm : sG_Par_mayBeEquivalent_p50 l D kA u σ4 [x0] (σf, rf, _) := ih tG_Par_mayBeEquivalent_p50 _ _ _ h
          exact hm _ rfl w2 tx p e s m args below meth c F Lo mc ms cells slots σ0 w0 tx0 hF hLo hcq hsq hga2 C
        · replace h := it_f hc h
          refine ax_iconst (pc := 48) C 0 d_Par_mayBeEquivalent_48 (by decide +kernel) ?_
          cases h
          exact ax_zret (pc := 49) C d_Par_mayBeEquivalent_49 rfl ⟨rfl, w2, tx, hga2, rfl, rfl⟩ hcm hsm
set_option maxHeartbeats 4000000 in
set_option maxRecDepth 100000 in
theorem oG_Par_mayBeEquivalent_p50 (l : Launch) (D : va_G) (kA : Nat → ClassId) (u : Nat → Nat) (rec : mF) (hG : GM rec) (ihC : ∀ (w : Nat → Nat) (tx : Value) t σ xs res, rec t σ xs = some res → cSem l D kA u w tx t σ xs res) (ih : ∀ t σ xs res, rec t σ xs = some res → gSem l D kA u t σ xs res) (σ : mS) (xs : List Int32) (res : mR) (h : u_1 (kG_Par_mayBeEquivalent_p50 rec σ) xs = some res) : sG_Par_mayBeEquivalent_p50 l D kA u σ xs res := by
  intro x0 hxs w tx
  subst hxs
  obtain ⟨σf, rf, dd⟩ := res
  have hmn : gle σ σf := qG_Par_mayBeEquivalent_p50 rec hG σ x0 _ h
  have h : (bnd (rec tG_Par_foldTop σ []) (fun σ1 r1 => bnd (rec tC_Par_strength σ1 [16]) (fun σ2 r2 => bnd (rec tG_Par_fold σ2 [r2]) (fun σ3 r3 => rec tG_Par_mayBeEquivalent_p11 σ3 [(x0 + 1)])))) = some (σf, rf, dd) := h
  intro p e s m args below meth c F Lo mc ms cells slots σ0 w0 tx0 hF hLo hcq hsq hga C
  dsimp only at hF hLo hcq hsq ⊢
  have hcm : cells ≤ mc := by have := hmn.1; omega
  have hsm : slots ≤ ms := by have := hmn.2; omega
  have hle : True := trivial
  have hm : True := trivial
  refine ax_aload_n (pc := 50) C d_Par_mayBeEquivalent_50 rfl 0 rfl ?_
  replace h := it_b h
  obtain ⟨σ1, r1, d1_1, d2_1, h1, h, hd2, hd1⟩ := h
  replace hle := hG _ _ _ _ (by decide) h1
  dsimp only at hle
  replace hmn : gle σ1 σf := gm_use h (gm_bnd hG (Nat.le_of_ble_eq_true rfl) (fun _ _ => (gm_bnd hG (Nat.le_of_ble_eq_true rfl) (fun _ _ => (gm_tail hG (Nat.le_of_ble_eq_true rfl))))))
  replace hm : sG_Par_foldTop l D kA u σ [] (σ1, r1, d1_1) := ih tG_Par_foldTop _ _ _ h1
  refine gc_Vv (pc := 51) C (As := []) (rest := []) (hm rfl w tx) ml_Par_190 31 rfl rfl rfl d_Par_mayBeEquivalent_51 rfl rfl (by dsimp only; omega) (by dsimp only; omega) (by have := hmn.1; have := hle.1; dsimp only; omega) (by have := hmn.2; have := hle.2; dsimp only; omega) (Nat.le_of_ble_eq_true rfl) (fun w1 hw => ?_)
  obtain ⟨w1, tx1, hag1, htq1, hwq1⟩ := hw
  dsimp only at hwq1
  subst hwq1
  dsimp only
  replace htq1 := htq1.symm
  subst htq1
  have hga1 : ∀ i, ([19] : List Nat).elem i = false → w1 i = w0 i := fun i hi => (hag1 i (by revert hi; exact el_sub (by decide))).trans (hga i hi)
  replace hcq : (cells + (σ1.2.2 3001 - σ.2.2 3001)) + σf.2.2 3001 ≤ mc + σ1.2.2 3001 := by have := hmn.1; have := hle.1; omega
  replace hcm : (cells + (σ1.2.2 3001 - σ.2.2 3001)) ≤ mc := by have := hmn.1; have := hle.1; omega
  generalize cells + (σ1.2.2 3001 - σ.2.2 3001) = cells at hcq hcm ⊢
  replace hsq : (slots + (σ1.2.2 3002 - σ.2.2 3002)) + σf.2.2 3002 ≤ ms + σ1.2.2 3002 := by have := hmn.2; have := hle.2; omega
  replace hsm : (slots + (σ1.2.2 3002 - σ.2.2 3002)) ≤ ms := by have := hmn.2; have := hle.2; omega
  generalize slots + (σ1.2.2 3002 - σ.2.2 3002) = slots at hsq hsm ⊢
  replace hF : d2_1 + 3 ≤ F := by omega
  replace hLo : 48 * d2_1 + 144 ≤ Lo := by omega
  refine ax_aload_n (pc := 54) C d_Par_mayBeEquivalent_54 rfl 0 rfl ?_
  refine ax_bipush (pc := 55) C 16 d_Par_mayBeEquivalent_55 (by decide +kernel) ?_
  replace h := it_b h
  obtain ⟨σ2, r2, d1_2, d2_2, h1, h, hd2, hd1⟩ := h
  replace hle := hG _ _ _ _ (by decide) h1
  dsimp only at hle
  replace hmn : gle σ2 σf := gm_use h (gm_bnd hG (Nat.le_of_ble_eq_true rfl) (fun _ _ => (gm_tail hG (Nat.le_of_ble_eq_true rfl))))
  replace hm : sC_Par_strength l D kA u w1 tx σ1 [16] (σ2, r2, d1_2) := ihC _ _ tC_Par_strength _ _ _ h1
  refine cc_Si (pc := 57) C (r0 := r2) (σ2 := σ2) (As := [.int 16]) (rest := [.ref (u 31)]) (hm _ rfl) ml_Par_166 d_Par_mayBeEquivalent_57 rfl rfl (by dsimp only; omega) (by dsimp only; omega) hcm hsm (Nat.le_of_ble_eq_true rfl) ?_
  replace hcq : cells + σf.2.2 3001 ≤ mc + σ2.2.2 3001 := by have := hle.1; omega
  replace hsq : slots + σf.2.2 3002 ≤ ms + σ2.2.2 3002 := by have := hle.2; omega
  replace hF : d2_2 + 3 ≤ F := by omega
  replace hLo : 48 * d2_2 + 144 ≤ Lo := by omega
  replace h := it_b h
  obtain ⟨σ3, r3, d1_3, d2_3, h1, h, hd2, hd1⟩ := h
  replace hle := hG _ _ _ _ (by decide) h1
  dsimp only at hle
  replace hmn : gle σ3 σf := gm_use h (gm_tail hG (Nat.le_of_ble_eq_true rfl))
  replace hm : sG_Par_fold l D kA u σ2 [r2] (σ3, r3, d1_3) := ih tG_Par_fold _ _ _ h1
  refine gc_Vv (pc := 60) C (As := [.int r2]) (rest := []) (hm _ rfl w1 tx) ml_Par_169 31 rfl rfl rfl d_Par_mayBeEquivalent_60 rfl rfl (by dsimp only; omega) (by dsimp only; omega) (by have := hmn.1; have := hle.1; dsimp only; omega) (by have := hmn.2; have := hle.2; dsimp only; omega) (Nat.le_of_ble_eq_true rfl) (fun w1 hw => ?_)
  obtain ⟨w3, tx3, hag3, htq3, hwq3⟩ := hw
  dsimp only at hwq3
  subst hwq3
  dsimp only
  replace htq3 := htq3.symm
  subst htq3
  have hga3 : ∀ i, ([19] : List Nat).elem i = false → w3 i = w0 i := fun i hi => (hag3 i (by revert hi; exact el_sub (by decide))).trans (hga1 i hi)
  replace hcq : (cells + (σ3.2.2 3001 - σ2.2.2 3001)) + σf.2.2 3001 ≤ mc + σ3.2.2 3001 := by have := hmn.1; have := hle.1; omega
  replace hcm : (cells + (σ3.2.2 3001 - σ2.2.2 3001)) ≤ mc := by have := hmn.1; have := hle.1; omega
  generalize cells + (σ3.2.2 3001 - σ2.2.2 3001) = cells at hcq hcm ⊢
  replace hsq : (slots + (σ3.2.2 3002 - σ2.2.2 3002)) + σf.2.2 3002 ≤ ms + σ3.2.2 3002 := by have := hmn.2; have := hle.2; omega
  replace hsm : (slots + (σ3.2.2 3002 - σ2.2.2 3002)) ≤ ms := by have := hmn.2; have := hle.2; omega
  generalize slots + (σ3.2.2 3002 - σ2.2.2 3002) = slots at hsq hsm ⊢
  replace hF : d2_3 + 3 ≤ F := by omega
  replace hLo : 48 * d2_3 + 144 ≤ Lo := by omega
  refine ax_iinc (pc := 63) C (x0 + 1) d_Par_mayBeEquivalent_63 1 rfl rfl (Nat.le_of_ble_eq_true rfl) ([(1, .int (x0 + 1)), (0, .ref (u 31))]) rfl ?_
  refine ax_goto (pc := 66) C 11 d_Par_mayBeEquivalent_66 (by decide) ?_
  refine ax_ls ([(0, .ref (u 31)), (1, .int (x0 + 1))]) [1, 0] rfl ?_
  replace hm : sG_Par_mayBeEquivalent_p11 l D kA u σ3 [(x0 + 1)] (σf, rf, _) := ih tG_Par_mayBeEquivalent_p11 _ _ _ h
  exact hm _ rfl w3 tx p e s m args below meth c F Lo mc ms cells slots σ0 w0 tx0 hF hLo hcq hsq hga3 C
set_option maxHeartbeats 4000000 in
set_option maxRecDepth 100000 in
theorem oG_Par_mayBeEquivalent_p69 (l : Launch) (D : va_G) (kA : Nat → ClassId) (u : Nat → Nat) (rec : mF) (hG : GM rec) (ihC : ∀ (w : Nat → Nat) (tx : Value) t σ xs res, rec t σ xs = some res → cSem l D kA u w tx t σ xs res) (ih : ∀ t σ xs res, rec t σ xs = some res → gSem l D kA u t σ xs res) (σ : mS) (xs : List Int32) (res : mR) (h : u_1 (kG_Par_mayBeEquivalent_p69 rec σ) xs = some res) : sG_Par_mayBeEquivalent_p69 l D kA u σ xs res := by
  intro x0 hxs w tx
  subst hxs
  obtain ⟨σf, rf, dd⟩ := res
  have hmn : gle σ σf := qG_Par_mayBeEquivalent_p69 rec hG σ x0 _ h
  have h : (some (σ, 1, 0)) = some (σf, rf, dd) := h
  intro p e s m args below meth c F Lo mc ms cells slots σ0 w0 tx0 hF hLo hcq hsq hga C
  dsimp only at hF hLo hcq hsq ⊢
  have hcm : cells ≤ mc := by have := hmn.1; omega
  have hsm : slots ≤ ms := by have := hmn.2; omega
  have hle : True := trivial
  have hm : True := trivial
  refine ax_iconst (pc := 69) C 1 d_Par_mayBeEquivalent_69 (by decide +kernel) ?_
  cases h
  exact ax_zret (pc := 70) C d_Par_mayBeEquivalent_70 rfl ⟨rfl, w, tx, hga, rfl, rfl⟩ hcm hsm
set_option maxHeartbeats 4000000 in
set_option maxRecDepth 100000 in
theorem oG_Par_openSentence (l : Launch) (D : va_G) (kA : Nat → ClassId) (u : Nat → Nat) (rec : mF) (hG : GM rec) (ihC : ∀ (w : Nat → Nat) (tx : Value) t σ xs res, rec t σ xs = some res → cSem l D kA u w tx t σ xs res) (ih : ∀ t σ xs res, rec t σ xs = some res → gSem l D kA u t σ xs res) (σ : mS) (xs : List Int32) (res : mR) (h : u_0 (kG_Par_openSentence rec σ) xs = some res) : sG_Par_openSentence l D kA u σ xs res := by
  intro hxs w tx htx
  subst hxs
  obtain ⟨σf, rf, dd⟩ := res
  have hmn : gle σ σf := qG_Par_openSentence rec hG σ _ h
  have h : (bnd (rec tC_Wds_isProve σ []) (fun σ1 r1 => bnd (rec tG_For_openSentence σ1 [(σ1.1 3203), r1]) (fun σ2 r2 => lt_ (mI σ2 3301 0) (fun σ3 => lt_ (mI σ3 3501 0) (fun σ4 => lt_ (mI σ4 3701 0) (fun σ5 => lt_ (mI σ5 3108 0) (fun σ6 => if r1 = 0 then (rec tG_Par_openSentence_p63 σ6 [r1]) else (bnd (rec tC_Wds_advance σ6 []) (fun σ7 r7 => rec tG_Par_openSentence_p63 σ7 [r1]))))))))) = some (σf, rf, dd) := h
  refine ax_Mv.of (by decide +kernel) (Nat.le_of_ble_eq_true rfl) ?_
  intro p e s m args below meth c C hnm
  replace C : ax_C p s m args meth c b_Par_openSentence "ClauseProver$Parser" 2 none D kA (va_A (cpW kA u w tx σ) s.heap.size) := C
  obtain ⟨F, hFe⟩ : ∃ z, z = dd + 3 := ⟨_, rfl⟩
  obtain ⟨Lo, hLoe⟩ : ∃ z, z = 48 * dd + 144 := ⟨_, rfl⟩
  obtain ⟨mc, hmce⟩ : ∃ z, z = σf.2.2 3001 - σ.2.2 3001 := ⟨_, rfl⟩
  obtain ⟨ms, hmse⟩ : ∃ z, z = σf.2.2 3002 - σ.2.2 3002 := ⟨_, rfl⟩
  obtain ⟨σ0, hσ0e⟩ : ∃ z, z = σ := ⟨_, rfl⟩
  obtain ⟨w0, hw0e⟩ : ∃ z, z = w := ⟨_, rfl⟩
  obtain ⟨tx0, htx0e⟩ : ∃ z, z = tx := ⟨_, rfl⟩
  suffices K : ∀ (cells slots : Nat), cells = 0 → slots = 0 → AW p l e { frames := F, cells := mc, slots := ms, locals := Lo } s m args below meth c D kA (va_A (cpW kA u w0 tx0 σ0) s.heap.size) 2 (ax_Qv below args s D kA (cpW kA u w0 tx0 σ0) mc ms (fun w1 => ∃ (w2 : Nat → Nat) (tx2 : Value), (∀ i, ([21] : List Nat).elem i = false → w2 i = w0 i) ∧ tx2 = tx0 ∧ w1 = cpW kA u w2 tx2 σf)) 0 [(0, .ref (u 31))] [] (cpW kA u w tx σ) cells slots by
    have K := K 0 0 rfl rfl
    rw [hFe, hLoe, hmce, hmse, hσ0e, hw0e, htx0e] at K
    exact ax_ls ([(0, .ref (u 31))]) [0] rfl K
  replace C : ax_C p s m args meth c b_Par_openSentence "ClauseProver$Parser" 2 none D kA (va_A (cpW kA u w0 tx0 σ0) s.heap.size) := by rw [hσ0e, hw0e, htx0e]; exact C
  intro cells slots hc0 hs0
  have hcq : cells + σf.2.2 3001 ≤ mc + σ.2.2 3001 := by have := hmn.1; omega
  have hsq : slots + σf.2.2 3002 ≤ ms + σ.2.2 3002 := by have := hmn.2; omega
  have hga : ∀ i, ([21] : List Nat).elem i = false → w i = w0 i := fun i _ => by rw [hw0e]
  have e9 : tx = tx0 := htx0e.symm
  subst e9
  have hF : dd + 3 ≤ F := by omega
  have hLo : 48 * dd + 144 ≤ Lo := by omega
  have hcm : cells ≤ mc := by have := hmn.1; omega
  have hsm : slots ≤ ms := by have := hmn.2; omega
  have hle : True := trivial
  have hm : True := trivial
  refine ax_aload_n (pc := 0) C d_Par_openSentence_0 rfl 0 rfl ?_
  refine cg_31_2_Par_12 (pc := 1) C d_Par_openSentence_1 ?_
  replace h := it_b h
  obtain ⟨σ1, r1, d1_1, d2_1, h1, h, hd2, hd1⟩ := h
  replace hle := hG _ _ _ _ (by decide) h1
  dsimp only at hle
  replace hmn : gle σ1 σf := gm_use h (gm_bnd hG (Nat.le_of_ble_eq_true rfl) (fun _ _ => (gm_lt ⟨Nat.le_refl _, Nat.le_refl _, rfl⟩ (gm_lt ⟨Nat.le_refl _, Nat.le_refl _, rfl⟩ (gm_lt ⟨Nat.le_refl _, Nat.le_refl _, rfl⟩ (gm_lt ⟨Nat.le_refl _, Nat.le_refl _, rfl⟩ (gm_if (gm_tail hG (Nat.le_of_ble_eq_true rfl)) (gm_bnd hG (Nat.le_of_ble_eq_true rfl) (fun _ _ => (gm_tail hG (Nat.le_of_ble_eq_true rfl)))))))))))
  replace hm : sC_Wds_isProve l D kA u w tx σ [] (σ1, r1, d1_1) := ihC _ _ tC_Wds_isProve _ _ _ h1
  refine cc_Vi (pc := 4) C (r0 := r1) (σ2 := σ1) (As := []) (rest := []) (hm rfl htx) ml_Par_74 32 rfl rfl rfl d_Par_openSentence_4 rfl rfl (by dsimp only; omega) (by dsimp only; omega) hcm hsm (Nat.le_of_ble_eq_true rfl) ?_
  replace hcq : cells + σf.2.2 3001 ≤ mc + σ1.2.2 3001 := by have := hle.1; omega
  replace hsq : slots + σf.2.2 3002 ≤ ms + σ1.2.2 3002 := by have := hle.2; omega
  replace hF : d2_1 + 3 ≤ F := by omega
  replace hLo : 48 * d2_1 + 144 ≤ Lo := by omega
  refine ax_istore_n (pc := 7) C d_Par_openSentence_7 rfl (Nat.le_of_ble_eq_true rfl) ([(1, .int r1), (0, .ref (u 31))]) rfl ?_
  refine ax_aload_n (pc := 8) C d_Par_openSentence_8 rfl 1 rfl ?_
  refine cg_31_4_Par_37 (pc := 9) C d_Par_openSentence_9 ?_
  refine ax_aload_n (pc := 12) C d_Par_openSentence_12 rfl 1 rfl ?_
  refine cg_31_2_Par_12 (pc := 13) C d_Par_openSentence_13 ?_
  refine cg_32_3_Par_77 (pc := 16) C d_Par_openSentence_16 ?_
  refine ax_iload_n (pc := 19) C d_Par_openSentence_19 rfl 0 rfl ?_
  replace h := it_b h
  obtain ⟨σ2, r2, d1_2, d2_2, h1, h, hd2, hd1⟩ := h
  replace hle := hG _ _ _ _ (by decide) h1
  dsimp only at hle
  replace hmn : gle σ2 σf := gm_use h (gm_lt ⟨Nat.le_refl _, Nat.le_refl _, rfl⟩ (gm_lt ⟨Nat.le_refl _, Nat.le_refl _, rfl⟩ (gm_lt ⟨Nat.le_refl _, Nat.le_refl _, rfl⟩ (gm_lt ⟨Nat.le_refl _, Nat.le_refl _, rfl⟩ (gm_if (gm_tail hG (Nat.le_of_ble_eq_true rfl)) (gm_bnd hG (Nat.le_of_ble_eq_true rfl) (fun _ _ => (gm_tail hG (Nat.le_of_ble_eq_true rfl)))))))))
  replace hm : sG_For_openSentence l D kA u σ1 [(σ1.1 3203), r1] (σ2, r2, d1_2) := ih tG_For_openSentence _ _ _ h1
  refine gc_Vv (pc := 20) C (As := [.int (σ1.1 3203), .int r1]) (rest := []) (hm _ _ rfl w tx) ml_Par_80 14 rfl rfl rfl d_Par_openSentence_20 rfl rfl (by dsimp only; omega) (by dsimp only; omega) (by have := hmn.1; have := hle.1; dsimp only; omega) (by have := hmn.2; have := hle.2; dsimp only; omega) (Nat.le_of_ble_eq_true rfl) (fun w1 hw => ?_)
  obtain ⟨w2, tx2, hag2, htq2, hwq2⟩ := hw
  dsimp only at hwq2
  subst hwq2
  dsimp only
  replace htq2 := htq2.symm
  subst htq2
  have hga2 : ∀ i, ([21] : List Nat).elem i = false → w2 i = w0 i := fun i hi => (hag2 i (by revert hi; exact el_sub (by decide))).trans (hga i hi)
  have htx2 : tx = .ref (w2 2) := by rw [hag2 2 rfl]; exact htx
  replace hcq : (cells + (σ2.2.2 3001 - σ1.2.2 3001)) + σf.2.2 3001 ≤ mc + σ2.2.2 3001 := by have := hmn.1; have := hle.1; omega
  replace hcm : (cells + (σ2.2.2 3001 - σ1.2.2 3001)) ≤ mc := by have := hmn.1; have := hle.1; omega
  generalize cells + (σ2.2.2 3001 - σ1.2.2 3001) = cells at hcq hcm ⊢
  replace hsq : (slots + (σ2.2.2 3002 - σ1.2.2 3002)) + σf.2.2 3002 ≤ ms + σ2.2.2 3002 := by have := hmn.2; have := hle.2; omega
  replace hsm : (slots + (σ2.2.2 3002 - σ1.2.2 3002)) ≤ ms := by have := hmn.2; have := hle.2; omega
  generalize slots + (σ2.2.2 3002 - σ1.2.2 3002) = slots at hsq hsm ⊢
  replace hF : d2_2 + 3 ≤ F := by omega
  replace hLo : 48 * d2_2 + 144 ≤ Lo := by omega
  refine ax_aload_n (pc := 23) C d_Par_openSentence_23 rfl 1 rfl ?_
  refine cg_31_5_Par_23 (pc := 24) C d_Par_openSentence_24 ?_
  refine ax_iconst (pc := 27) C 0 d_Par_openSentence_27 (by decide +kernel) ?_
  refine cq_33_1_Par_83 (pc := 28) C d_Par_openSentence_28 ?_
  replace h := it_l h
  replace hcq : cells + σf.2.2 3001 ≤ mc + (mI σ2 3301 0).2.2 3001 := hcq
  replace hsq : slots + σf.2.2 3002 ≤ ms + (mI σ2 3301 0).2.2 3002 := hsq
  generalize mI σ2 3301 0 = σ3 at h hcq hsq ⊢
  refine ax_aload_n (pc := 31) C d_Par_openSentence_31 rfl 1 rfl ?_
  refine cg_31_6_Par_27 (pc := 32) C d_Par_openSentence_32 ?_
  refine ax_iconst (pc := 35) C 0 d_Par_openSentence_35 (by decide +kernel) ?_
  refine cq_35_1_Par_83 (pc := 36) C d_Par_openSentence_36 ?_
  replace h := it_l h
  replace hcq : cells + σf.2.2 3001 ≤ mc + (mI σ3 3501 0).2.2 3001 := hcq
  replace hsq : slots + σf.2.2 3002 ≤ ms + (mI σ3 3501 0).2.2 3002 := hsq
  generalize mI σ3 3501 0 = σ4 at h hcq hsq ⊢
  refine ax_aload_n (pc := 39) C d_Par_openSentence_39 rfl 1 rfl ?_
  refine cg_31_7_Par_30 (pc := 40) C d_Par_openSentence_40 ?_
  refine ax_iconst (pc := 43) C 0 d_Par_openSentence_43 (by decide +kernel) ?_
  refine cq_37_1_Par_83 (pc := 44) C d_Par_openSentence_44 ?_
  replace h := it_l h
  replace hcq : cells + σf.2.2 3001 ≤ mc + (mI σ4 3701 0).2.2 3001 := hcq
  replace hsq : slots + σf.2.2 3002 ≤ ms + (mI σ4 3701 0).2.2 3002 := hsq
  generalize mI σ4 3701 0 = σ5 at h hcq hsq ⊢
  refine ax_aload_n (pc := 47) C d_Par_openSentence_47 rfl 1 rfl ?_
  refine ax_iconst (pc := 48) C 0 d_Par_openSentence_48 (by decide +kernel) ?_
  refine cq_31_8_Par_86 (pc := 49) C d_Par_openSentence_49 ?_
  replace h := it_l h
  replace hcq : cells + σf.2.2 3001 ≤ mc + (mI σ5 3108 0).2.2 3001 := hcq
  replace hsq : slots + σf.2.2 3002 ≤ ms + (mI σ5 3108 0).2.2 3002 := hsq
  generalize mI σ5 3108 0 = σ6 at h hcq hsq ⊢
  refine ax_iload_n (pc := 52) C d_Par_openSentence_52 rfl 0 rfl ?_
  refine ax_if_eq (pc := 53) C 63 d_Par_openSentence_53 (by decide) (fun hc => ?_) (fun hc => ?_)
  · replace h := it_t hc h
    refine ax_ls ([(0, .ref (u 31)), (1, .int r1)]) [1, 0] rfl ?_
    replace hm : sG_Par_openSentence_p63 l D kA u σ6 [r1] (σf, rf, _) := ih tG_Par_openSentence_p63 _ _ _ h
    exact hm _ rfl w2 tx htx2 p e s m args below meth c F Lo mc ms cells slots σ0 w0 tx hF hLo hcq hsq hga2 C
  · replace h := it_f hc h
    refine ax_aload_n (pc := 56) C d_Par_openSentence_56 rfl 1 rfl ?_
    refine cg_31_2_Par_12 (pc := 57) C d_Par_openSentence_57 ?_
    replace h := it_b h
    obtain ⟨σ7, r7, d1_7, d2_7, h1, h, hd2, hd1⟩ := h
    replace hle := hG _ _ _ _ (by decide) h1
    dsimp only at hle
    replace hmn : gle σ7 σf := gm_use h (gm_tail hG (Nat.le_of_ble_eq_true rfl))
    replace hm : sC_Wds_advance l D kA u w2 tx σ6 [] (σ7, r7, d1_7) := ihC _ _ tC_Wds_advance _ _ _ h1
    refine cc_Vv (pc := 60) C (σ2 := σ7) (As := []) (rest := []) (hm rfl htx2) ml_Par_89 32 rfl rfl rfl d_Par_openSentence_60 rfl rfl (by dsimp only; omega) (by dsimp only; omega) hcm hsm (Nat.le_of_ble_eq_true rfl) ?_
    replace hcq : cells + σf.2.2 3001 ≤ mc + σ7.2.2 3001 := by have := hle.1; omega
    replace hsq : slots + σf.2.2 3002 ≤ ms + σ7.2.2 3002 := by have := hle.2; omega
    replace hF : d2_7 + 3 ≤ F := by omega
    replace hLo : 48 * d2_7 + 144 ≤ Lo := by omega
    refine ax_ls ([(0, .ref (u 31)), (1, .int r1)]) [1, 0] rfl ?_
    replace hm : sG_Par_openSentence_p63 l D kA u σ7 [r1] (σf, rf, _) := ih tG_Par_openSentence_p63 _ _ _ h
    exact hm _ rfl w2 tx htx2 p e s m args below meth c F Lo mc ms cells slots σ0 w0 tx hF hLo hcq hsq hga2 C
set_option maxHeartbeats 4000000 in
set_option maxRecDepth 100000 in
theorem oG_Par_openSentence_p63 (l : Launch) (D : va_G) (kA : Nat → ClassId) (u : Nat → Nat) (rec : mF) (hG : GM rec) (ihC : ∀ (w : Nat → Nat) (tx : Value) t σ xs res, rec t σ xs = some res → cSem l D kA u w tx t σ xs res) (ih : ∀ t σ xs res, rec t σ xs = some res → gSem l D kA u t σ xs res) (σ : mS) (xs : List Int32) (res : mR) (h : u_1 (kG_Par_openSentence_p63 rec σ) xs = some res) : sG_Par_openSentence_p63 l D kA u σ xs res := by
  intro x0 hxs w tx htx
  subst hxs
  obtain ⟨σf, rf, dd⟩ := res
  have hmn : gle σ σf := qG_Par_openSentence_p63 rec hG σ x0 _ h
  have h : (some (σ, 0, 0)) = some (σf, rf, dd) := h
  intro p e s m args below meth c F Lo mc ms cells slots σ0 w0 tx0 hF hLo hcq hsq hga C
  dsimp only at hF hLo hcq hsq ⊢
  have hcm : cells ≤ mc := by have := hmn.1; omega
  have hsm : slots ≤ ms := by have := hmn.2; omega
  have hle : True := trivial
  have hm : True := trivial
  cases h
  exact ax_vret (pc := 63) C d_Par_openSentence_63 ⟨w, tx, hga, rfl, rfl⟩ hcm hsm
set_option maxHeartbeats 4000000 in
set_option maxRecDepth 100000 in
theorem oG_Par_parse_2 (l : Launch) (D : va_G) (kA : Nat → ClassId) (u : Nat → Nat) (rec : mF) (hG : GM rec) (ihC : ∀ (w : Nat → Nat) (tx : Value) t σ xs res, rec t σ xs = some res → cSem l D kA u w tx t σ xs res) (ih : ∀ t σ xs res, rec t σ xs = some res → gSem l D kA u t σ xs res) (σ : mS) (xs : List Int32) (res : mR) (h : u_1 (kG_Par_parse_2 rec σ) xs = some res) : sG_Par_parse_2 l D kA u σ xs res := by
  intro x0 hxs w tx
  subst hxs
  obtain ⟨σf, rf, dd⟩ := res
  have hmn : gle σ σf := qG_Par_parse_2 rec hG σ x0 _ h
  have h : (lt_ (mI σ 3100 0) (fun σ1 => lt_ (mI σ1 3101 0) (fun σ2 => bnd (rec tC_For_clear σ2 []) (fun σ3 r3 => bnd (rec tG_Wds_open_2 σ3 [x0]) (fun σ4 r4 => rec tG_Par_parse_2_p28 σ4 [x0, 0]))))) = some (σf, rf, dd) := h
  refine ax_Mv.of (by decide +kernel) (Nat.le_of_ble_eq_true rfl) ?_
  intro p e s m args below meth c C hnm
  replace C : ax_C p s m args meth c b_Par_parse "ClauseProver$Parser" 6 none D kA (va_A (cpW kA u w tx σ) s.heap.size) := C
  obtain ⟨F, hFe⟩ : ∃ z, z = dd + 3 := ⟨_, rfl⟩
  obtain ⟨Lo, hLoe⟩ : ∃ z, z = 48 * dd + 144 := ⟨_, rfl⟩
  obtain ⟨mc, hmce⟩ : ∃ z, z = σf.2.2 3001 - σ.2.2 3001 := ⟨_, rfl⟩
  obtain ⟨ms, hmse⟩ : ∃ z, z = σf.2.2 3002 - σ.2.2 3002 := ⟨_, rfl⟩
  obtain ⟨σ0, hσ0e⟩ : ∃ z, z = σ := ⟨_, rfl⟩
  obtain ⟨w0, hw0e⟩ : ∃ z, z = w := ⟨_, rfl⟩
  obtain ⟨tx0, htx0e⟩ : ∃ z, z = tx := ⟨_, rfl⟩
  suffices K : ∀ (cells slots : Nat), cells = 0 → slots = 0 → AW p l e { frames := F, cells := mc, slots := ms, locals := Lo } s m args below meth c D kA (va_A (cpW kA u w0 tx0 σ0) s.heap.size) 6 (ax_Qv below args s D kA (cpW kA u w0 tx0 σ0) mc ms (fun w1 => ∃ (w2 : Nat → Nat) (tx2 : Value), (∀ i, ([11, 16, 19, 21, 34, 36, 38] : List Nat).elem i = false → w2 i = w0 i) ∧ tx2 = .ref (w0 2) ∧ w1 = cpW kA u w2 tx2 σf)) 0 [(0, .ref (u 31)), (1, .ref (w 2)), (2, .int x0)] [] (cpW kA u w tx σ) cells slots by
    have K := K 0 0 rfl rfl
    rw [hFe, hLoe, hmce, hmse, hσ0e, hw0e, htx0e] at K
    exact ax_ls ([(0, .ref (u 31)), (1, .ref (w 2)), (2, .int x0)]) [0, 1, 2] rfl K
  replace C : ax_C p s m args meth c b_Par_parse "ClauseProver$Parser" 6 none D kA (va_A (cpW kA u w0 tx0 σ0) s.heap.size) := by rw [hσ0e, hw0e, htx0e]; exact C
  intro cells slots hc0 hs0
  have hcq : cells + σf.2.2 3001 ≤ mc + σ.2.2 3001 := by have := hmn.1; omega
  have hsq : slots + σf.2.2 3002 ≤ ms + σ.2.2 3002 := by have := hmn.2; omega
  have hga : ∀ i, ([11, 16, 19, 21, 34, 36, 38] : List Nat).elem i = false → w i = w0 i := fun i _ => by rw [hw0e]
  have hF : dd + 3 ≤ F := by omega
  have hLo : 48 * dd + 144 ≤ Lo := by omega
  have hcm : cells ≤ mc := by have := hmn.1; omega
  have hsm : slots ≤ ms := by have := hmn.2; omega
  have hle : True := trivial
  have hm : True := trivial
  refine ax_aload_n (pc := 0) C d_Par_parse_0 rfl 0 rfl ?_
  refine ax_iconst (pc := 1) C 0 d_Par_parse_1 (by decide +kernel) ?_
  refine cq_31_0_Par_41 (pc := 2) C d_Par_parse_2 ?_
  replace h := it_l h
  replace hcq : cells + σf.2.2 3001 ≤ mc + (mI σ 3100 0).2.2 3001 := hcq
  replace hsq : slots + σf.2.2 3002 ≤ ms + (mI σ 3100 0).2.2 3002 := hsq
  generalize mI σ 3100 0 = σ1 at h hcq hsq ⊢
  refine ax_aload_n (pc := 5) C d_Par_parse_5 rfl 0 rfl ?_
  refine ax_iconst (pc := 6) C 0 d_Par_parse_6 (by decide +kernel) ?_
  refine cq_31_1_Par_45 (pc := 7) C d_Par_parse_7 ?_
  replace h := it_l h
  replace hcq : cells + σf.2.2 3001 ≤ mc + (mI σ1 3101 0).2.2 3001 := hcq
  replace hsq : slots + σf.2.2 3002 ≤ ms + (mI σ1 3101 0).2.2 3002 := hsq
  generalize mI σ1 3101 0 = σ2 at h hcq hsq ⊢
  refine ax_aload_n (pc := 10) C d_Par_parse_10 rfl 0 rfl ?_
  refine cg_31_4_Par_37 (pc := 11) C d_Par_parse_11 ?_
  replace h := it_b h
  obtain ⟨σ3, r3, d1_3, d2_3, h1, h, hd2, hd1⟩ := h
  replace hle := hG _ _ _ _ (by decide) h1
  dsimp only at hle
  replace hmn : gle σ3 σf := gm_use h (gm_bnd hG (Nat.le_of_ble_eq_true rfl) (fun _ _ => (gm_tail hG (Nat.le_of_ble_eq_true rfl))))
  replace hm : sC_For_clear l D kA u w tx σ2 [] (σ3, r3, d1_3) := ihC _ _ tC_For_clear _ _ _ h1
  refine cc_Vv (pc := 14) C (σ2 := σ3) (As := []) (rest := []) (hm rfl) ml_Par_48 14 rfl rfl rfl d_Par_parse_14 rfl rfl (by dsimp only; omega) (by dsimp only; omega) hcm hsm (Nat.le_of_ble_eq_true rfl) ?_
  replace hcq : cells + σf.2.2 3001 ≤ mc + σ3.2.2 3001 := by have := hle.1; omega
  replace hsq : slots + σf.2.2 3002 ≤ ms + σ3.2.2 3002 := by have := hle.2; omega
  replace hF : d2_3 + 3 ≤ F := by omega
  replace hLo : 48 * d2_3 + 144 ≤ Lo := by omega
  refine ax_aload_n (pc := 17) C d_Par_parse_17 rfl 0 rfl ?_
  refine cg_31_2_Par_12 (pc := 18) C d_Par_parse_18 ?_
  refine ax_aload_n (pc := 21) C d_Par_parse_21 rfl 1 rfl ?_
  refine ax_iload_n (pc := 22) C d_Par_parse_22 rfl 2 rfl ?_
  replace h := it_b h
  obtain ⟨σ4, r4, d1_4, d2_4, h1, h, hd2, hd1⟩ := h
  replace hle := hG _ _ _ _ (by decide) h1
  dsimp only at hle
  replace hmn : gle σ4 σf := gm_use h (gm_tail hG (Nat.le_of_ble_eq_true rfl))
  replace hm : sG_Wds_open_2 l D kA u σ3 [x0] (σ4, r4, d1_4) := ih tG_Wds_open_2 _ _ _ h1
  refine gc_Vv (pc := 23) C (As := [.ref (w 2), .int x0]) (rest := []) (hm _ rfl w tx) ml_Par_53 32 rfl rfl rfl d_Par_parse_23 rfl rfl (by dsimp only; omega) (by dsimp only; omega) (by have := hmn.1; have := hle.1; dsimp only; omega) (by have := hmn.2; have := hle.2; dsimp only; omega) (Nat.le_of_ble_eq_true rfl) (fun w1 hw => ?_)
  obtain ⟨w4, tx4, hag4, htq4, hwq4⟩ := hw
  dsimp only at hwq4
  subst hwq4
  dsimp only
  rw [← hag4 2 rfl]
  have hga4 : ∀ i, ([11, 16, 19, 21, 34, 36, 38] : List Nat).elem i = false → w4 i = w0 i := fun i hi => (hag4 i (by revert hi; exact el_sub (by decide))).trans (hga i hi)
  have htx4 : tx4 = .ref (w4 2) := by rw [htq4, hag4 2 rfl]
  replace hcq : (cells + (σ4.2.2 3001 - σ3.2.2 3001)) + σf.2.2 3001 ≤ mc + σ4.2.2 3001 := by have := hmn.1; have := hle.1; omega
  replace hcm : (cells + (σ4.2.2 3001 - σ3.2.2 3001)) ≤ mc := by have := hmn.1; have := hle.1; omega
  generalize cells + (σ4.2.2 3001 - σ3.2.2 3001) = cells at hcq hcm ⊢
  replace hsq : (slots + (σ4.2.2 3002 - σ3.2.2 3002)) + σf.2.2 3002 ≤ ms + σ4.2.2 3002 := by have := hmn.2; have := hle.2; omega
  replace hsm : (slots + (σ4.2.2 3002 - σ3.2.2 3002)) ≤ ms := by have := hmn.2; have := hle.2; omega
  generalize slots + (σ4.2.2 3002 - σ3.2.2 3002) = slots at hsq hsm ⊢
  replace hF : d2_4 + 3 ≤ F := by omega
  replace hLo : 48 * d2_4 + 144 ≤ Lo := by omega
  refine ax_iconst (pc := 26) C 0 d_Par_parse_26 (by decide +kernel) ?_
  refine ax_istore_n (pc := 27) C d_Par_parse_27 rfl (Nat.le_of_ble_eq_true rfl) ([(3, .int 0), (0, .ref (u 31)), (1, .ref (w4 2)), (2, .int x0)]) rfl ?_
  refine ax_ls ([(0, .ref (u 31)), (1, .ref (w4 2)), (2, .int x0), (3, .int 0)]) [1, 2, 3, 0] rfl ?_
  replace hm : sG_Par_parse_2_p28 l D kA u σ4 [x0, 0] (σf, rf, _) := ih tG_Par_parse_2_p28 _ _ _ h
  exact hm _ _ rfl w4 tx4 htx4 p e s m args below meth c F Lo mc ms cells slots σ0 w0 tx0 hF hLo hcq hsq hga4 C
set_option maxHeartbeats 4000000 in
set_option maxRecDepth 100000 in
theorem oG_Par_parse_2_p28 (l : Launch) (D : va_G) (kA : Nat → ClassId) (u : Nat → Nat) (rec : mF) (hG : GM rec) (ihC : ∀ (w : Nat → Nat) (tx : Value) t σ xs res, rec t σ xs = some res → cSem l D kA u w tx t σ xs res) (ih : ∀ t σ xs res, rec t σ xs = some res → gSem l D kA u t σ xs res) (σ : mS) (xs : List Int32) (res : mR) (h : u_2 (kG_Par_parse_2_p28 rec σ) xs = some res) : sG_Par_parse_2_p28 l D kA u σ xs res := by
  intro x0 x1 hxs w tx htx
  subst hxs
  obtain ⟨σf, rf, dd⟩ := res
  have hmn : gle σ σf := qG_Par_parse_2_p28 rec hG σ x0 x1 _ h
  have h : (if 1000000 ≤ x1 then (rec tG_Par_parse_2_p114 σ [x0, x1]) else (if (σ.1 3100) = 0 then (if (σ.1 3202) = 0 then (rec tG_Par_parse_2_p114 σ [x0, x1]) else (bnd (rec tG_Par_openSentence σ []) (fun σ1 r1 => rec tG_Par_parse_2_p61 σ1 [x0, x1, 1, 0]))) else (rec tG_Par_parse_2_p114 σ [x0, x1]))) = some (σf, rf, dd) := h
  intro p e s m args below meth c F Lo mc ms cells slots σ0 w0 tx0 hF hLo hcq hsq hga C
  dsimp only at hF hLo hcq hsq ⊢
  have hcm : cells ≤ mc := by have := hmn.1; omega
  have hsm : slots ≤ ms := by have := hmn.2; omega
  have hle : True := trivial
  have hm : True := trivial
  refine ax_iload_n (pc := 28) C d_Par_parse_28 rfl 3 rfl ?_
  refine ax_ldc (pc := 29) C tb_constant_580 d_Par_parse_29 ?_
  refine ax_icmp_ge (pc := 31) C 114 d_Par_parse_31 (by decide) (fun hc => ?_) (fun hc => ?_)
  · replace h := it_t hc h
    refine ax_ls ([(0, .ref (u 31)), (1, .ref (w 2)), (2, .int x0), (3, .int x1)]) [0, 1, 2, 3] rfl ?_
    replace hm : sG_Par_parse_2_p114 l D kA u σ [x0, x1] (σf, rf, _) := ih tG_Par_parse_2_p114 _ _ _ h
    exact hm _ _ rfl w tx htx p e s m args below meth c F Lo mc ms cells slots σ0 w0 tx0 hF hLo hcq hsq hga C
  · replace h := it_f hc h
    refine ax_aload_n (pc := 34) C d_Par_parse_34 rfl 0 rfl ?_
    refine cg_31_0_Par_41 (pc := 35) C d_Par_parse_35 ?_
    refine ax_if_ne (pc := 38) C 114 d_Par_parse_38 (by decide) (fun hc => ?_) (fun hc => ?_)
    · replace h := it_f hc h
      refine ax_ls ([(0, .ref (u 31)), (1, .ref (w 2)), (2, .int x0), (3, .int x1)]) [0, 1, 2, 3] rfl ?_
      replace hm : sG_Par_parse_2_p114 l D kA u σ [x0, x1] (σf, rf, _) := ih tG_Par_parse_2_p114 _ _ _ h
      exact hm _ _ rfl w tx htx p e s m args below meth c F Lo mc ms cells slots σ0 w0 tx0 hF hLo hcq hsq hga C
    · replace h := it_t hc h
      refine ax_aload_n (pc := 41) C d_Par_parse_41 rfl 0 rfl ?_
      refine cg_31_2_Par_12 (pc := 42) C d_Par_parse_42 ?_
      refine cg_32_2_Par_58 (pc := 45) C d_Par_parse_45 ?_
      refine ax_if_eq (pc := 48) C 114 d_Par_parse_48 (by decide) (fun hc => ?_) (fun hc => ?_)
      · replace h := it_t hc h
        refine ax_ls ([(0, .ref (u 31)), (1, .ref (w 2)), (2, .int x0), (3, .int x1)]) [0, 1, 2, 3] rfl ?_
        replace hm : sG_Par_parse_2_p114 l D kA u σ [x0, x1] (σf, rf, _) := ih tG_Par_parse_2_p114 _ _ _ h
        exact hm _ _ rfl w tx htx p e s m args below meth c F Lo mc ms cells slots σ0 w0 tx0 hF hLo hcq hsq hga C
      · replace h := it_f hc h
        refine ax_aload_n (pc := 51) C d_Par_parse_51 rfl 0 rfl ?_
        replace h := it_b h
        obtain ⟨σ1, r1, d1_1, d2_1, h1, h, hd2, hd1⟩ := h
        replace hle := hG _ _ _ _ (by decide) h1
        dsimp only at hle
        replace hmn : gle σ1 σf := gm_use h (gm_tail hG (Nat.le_of_ble_eq_true rfl))
        replace hm : sG_Par_openSentence l D kA u σ [] (σ1, r1, d1_1) := ih tG_Par_openSentence _ _ _ h1
        refine gc_Vv (pc := 52) C (As := []) (rest := []) (hm rfl w tx htx) ml_Par_61 31 rfl rfl rfl d_Par_parse_52 rfl rfl (by dsimp only; omega) (by dsimp only; omega) (by have := hmn.1; have := hle.1; dsimp only; omega) (by have := hmn.2; have := hle.2; dsimp only; omega) (Nat.le_of_ble_eq_true rfl) (fun w1 hw => ?_)
        obtain ⟨w1, tx1, hag1, htq1, hwq1⟩ := hw
        dsimp only at hwq1
        subst hwq1
        dsimp only
        replace htq1 := htq1.symm
        subst htq1
        rw [← hag1 2 rfl]
        have hga1 : ∀ i, ([11, 16, 19, 21, 34, 36, 38] : List Nat).elem i = false → w1 i = w0 i := fun i hi => (hag1 i (by revert hi; exact el_sub (by decide))).trans (hga i hi)
        have htx1 : tx = .ref (w1 2) := by rw [hag1 2 rfl]; exact htx
        replace hcq : (cells + (σ1.2.2 3001 - σ.2.2 3001)) + σf.2.2 3001 ≤ mc + σ1.2.2 3001 := by have := hmn.1; have := hle.1; omega
        replace hcm : (cells + (σ1.2.2 3001 - σ.2.2 3001)) ≤ mc := by have := hmn.1; have := hle.1; omega
        generalize cells + (σ1.2.2 3001 - σ.2.2 3001) = cells at hcq hcm ⊢
        replace hsq : (slots + (σ1.2.2 3002 - σ.2.2 3002)) + σf.2.2 3002 ≤ ms + σ1.2.2 3002 := by have := hmn.2; have := hle.2; omega
        replace hsm : (slots + (σ1.2.2 3002 - σ.2.2 3002)) ≤ ms := by have := hmn.2; have := hle.2; omega
        generalize slots + (σ1.2.2 3002 - σ.2.2 3002) = slots at hsq hsm ⊢
        replace hF : d2_1 + 3 ≤ F := by omega
        replace hLo : 48 * d2_1 + 144 ≤ Lo := by omega
        refine ax_iconst (pc := 55) C 1 d_Par_parse_55 (by decide +kernel) ?_
        refine ax_istore (pc := 56) C d_Par_parse_56 (Nat.le_of_ble_eq_true rfl) ([(4, .int 1), (0, .ref (u 31)), (1, .ref (w1 2)), (2, .int x0), (3, .int x1)]) rfl ?_
        refine ax_iconst (pc := 58) C 0 d_Par_parse_58 (by decide +kernel) ?_
        refine ax_istore (pc := 59) C d_Par_parse_59 (Nat.le_of_ble_eq_true rfl) ([(5, .int 0), (4, .int 1), (0, .ref (u 31)), (1, .ref (w1 2)), (2, .int x0), (3, .int x1)]) rfl ?_
        refine ax_ls ([(0, .ref (u 31)), (1, .ref (w1 2)), (2, .int x0), (3, .int x1), (4, .int 1), (5, .int 0)]) [2, 3, 4, 5, 1, 0] rfl ?_
        replace hm : sG_Par_parse_2_p61 l D kA u σ1 [x0, x1, 1, 0] (σf, rf, _) := ih tG_Par_parse_2_p61 _ _ _ h
        exact hm _ _ _ _ rfl w1 tx htx1 p e s m args below meth c F Lo mc ms cells slots σ0 w0 tx0 hF hLo hcq hsq hga1 C
set_option maxHeartbeats 4000000 in
set_option maxRecDepth 100000 in
theorem oG_Par_parse_2_p61 (l : Launch) (D : va_G) (kA : Nat → ClassId) (u : Nat → Nat) (rec : mF) (hG : GM rec) (ihC : ∀ (w : Nat → Nat) (tx : Value) t σ xs res, rec t σ xs = some res → cSem l D kA u w tx t σ xs res) (ih : ∀ t σ xs res, rec t σ xs = some res → gSem l D kA u t σ xs res) (σ : mS) (xs : List Int32) (res : mR) (h : u_4 (kG_Par_parse_2_p61 rec σ) xs = some res) : sG_Par_parse_2_p61 l D kA u σ xs res := by
  intro x0 x1 x2 x3 hxs w tx htx
  subst hxs
  obtain ⟨σf, rf, dd⟩ := res
  have hmn : gle σ σf := qG_Par_parse_2_p61 rec hG σ x0 x1 x2 x3 _ h
  have h : (if 1000000 ≤ x3 then (rec tG_Par_parse_2_p108 σ [x0, x1, x2, x3]) else (if x2 = 0 then (rec tG_Par_parse_2_p108 σ [x0, x1, x2, x3]) else (bnd (rec tG_Par_takePrefixes σ []) (fun σ1 r1 => bnd (rec tG_Par_takeAtom σ1 []) (fun σ2 r2 => if (σ2.1 3100) = 0 then (bnd (rec tG_Par_takeSign σ2 []) (fun σ3 r3 => if r3 = 0 then (rec tG_Par_parse_2_p99 σ3 [x0, x1, x2, x3]) else (rec tG_Par_parse_2_p100 σ3 [x0, x1, x2, x3, 1]))) else (rec tG_Par_parse_2_p99 σ2 [x0, x1, x2, x3])))))) = some (σf, rf, dd) := h
  intro p e s m args below meth c F Lo mc ms cells slots σ0 w0 tx0 hF hLo hcq hsq hga C
  dsimp only at hF hLo hcq hsq ⊢
  have hcm : cells ≤ mc := by have := hmn.1; omega
  have hsm : slots ≤ ms := by have := hmn.2; omega
  have hle : True := trivial
  have hm : True := trivial
  refine ax_iload (pc := 61) C d_Par_parse_61 5 rfl ?_
  refine ax_ldc (pc := 63) C tb_constant_580 d_Par_parse_63 ?_
  refine ax_icmp_ge (pc := 65) C 108 d_Par_parse_65 (by decide) (fun hc => ?_) (fun hc => ?_)
  · replace h := it_t hc h
    refine ax_ls ([(0, .ref (u 31)), (1, .ref (w 2)), (2, .int x0), (3, .int x1), (4, .int x2), (5, .int x3)]) [0, 1, 2, 3, 4, 5] rfl ?_
    replace hm : sG_Par_parse_2_p108 l D kA u σ [x0, x1, x2, x3] (σf, rf, _) := ih tG_Par_parse_2_p108 _ _ _ h
    exact hm _ _ _ _ rfl w tx htx p e s m args below meth c F Lo mc ms cells slots σ0 w0 tx0 hF hLo hcq hsq hga C
  · replace h := it_f hc h
    refine ax_iload (pc := 68) C d_Par_parse_68 4 rfl ?_
    refine ax_if_eq (pc := 70) C 108 d_Par_parse_70 (by decide) (fun hc => ?_) (fun hc => ?_)
    · replace h := it_t hc h
      refine ax_ls ([(0, .ref (u 31)), (1, .ref (w 2)), (2, .int x0), (3, .int x1), (4, .int x2), (5, .int x3)]) [0, 1, 2, 3, 4, 5] rfl ?_
      replace hm : sG_Par_parse_2_p108 l D kA u σ [x0, x1, x2, x3] (σf, rf, _) := ih tG_Par_parse_2_p108 _ _ _ h
      exact hm _ _ _ _ rfl w tx htx p e s m args below meth c F Lo mc ms cells slots σ0 w0 tx0 hF hLo hcq hsq hga C
    · replace h := it_f hc h
      refine ax_aload_n (pc := 73) C d_Par_parse_73 rfl 0 rfl ?_
      replace h := it_b h
      obtain ⟨σ1, r1, d1_1, d2_1, h1, h, hd2, hd1⟩ := h
      replace hle := hG _ _ _ _ (by decide) h1
      dsimp only at hle
      replace hmn : gle σ1 σf := gm_use h (gm_bnd hG (Nat.le_of_ble_eq_true rfl) (fun _ _ => (gm_if (gm_bnd hG (Nat.le_of_ble_eq_true rfl) (fun _ _ => (gm_if (gm_tail hG (Nat.le_of_ble_eq_true rfl)) (gm_tail hG (Nat.le_of_ble_eq_true rfl))))) (gm_tail hG (Nat.le_of_ble_eq_true rfl)))))
      replace hm : sG_Par_takePrefixes l D kA u σ [] (σ1, r1, d1_1) := ih tG_Par_takePrefixes _ _ _ h1
      refine gc_Vv (pc := 74) C (As := []) (rest := []) (hm rfl w tx htx) ml_Par_64 31 rfl rfl rfl d_Par_parse_74 rfl rfl (by dsimp only; omega) (by dsimp only; omega) (by have := hmn.1; have := hle.1; dsimp only; omega) (by have := hmn.2; have := hle.2; dsimp only; omega) (Nat.le_of_ble_eq_true rfl) (fun w1 hw => ?_)
      obtain ⟨w1, tx1, hag1, htq1, hwq1⟩ := hw
      dsimp only at hwq1
      subst hwq1
      dsimp only
      replace htq1 := htq1.symm
      subst htq1
      rw [← hag1 2 rfl]
      have hga1 : ∀ i, ([11, 16, 19, 21, 34, 36, 38] : List Nat).elem i = false → w1 i = w0 i := fun i hi => (hag1 i (by revert hi; exact el_sub (by decide))).trans (hga i hi)
      have htx1 : tx = .ref (w1 2) := by rw [hag1 2 rfl]; exact htx
      replace hcq : (cells + (σ1.2.2 3001 - σ.2.2 3001)) + σf.2.2 3001 ≤ mc + σ1.2.2 3001 := by have := hmn.1; have := hle.1; omega
      replace hcm : (cells + (σ1.2.2 3001 - σ.2.2 3001)) ≤ mc := by have := hmn.1; have := hle.1; omega
      generalize cells + (σ1.2.2 3001 - σ.2.2 3001) = cells at hcq hcm ⊢
      replace hsq : (slots + (σ1.2.2 3002 - σ.2.2 3002)) + σf.2.2 3002 ≤ ms + σ1.2.2 3002 := by have := hmn.2; have := hle.2; omega
      replace hsm : (slots + (σ1.2.2 3002 - σ.2.2 3002)) ≤ ms := by have := hmn.2; have := hle.2; omega
      generalize slots + (σ1.2.2 3002 - σ.2.2 3002) = slots at hsq hsm ⊢
      replace hF : d2_1 + 3 ≤ F := by omega
      replace hLo : 48 * d2_1 + 144 ≤ Lo := by omega
      refine ax_aload_n (pc := 77) C d_Par_parse_77 rfl 0 rfl ?_
      replace h := it_b h
      obtain ⟨σ2, r2, d1_2, d2_2, h1, h, hd2, hd1⟩ := h
      replace hle := hG _ _ _ _ (by decide) h1
      dsimp only at hle
      replace hmn : gle σ2 σf := gm_use h (gm_if (gm_bnd hG (Nat.le_of_ble_eq_true rfl) (fun _ _ => (gm_if (gm_tail hG (Nat.le_of_ble_eq_true rfl)) (gm_tail hG (Nat.le_of_ble_eq_true rfl))))) (gm_tail hG (Nat.le_of_ble_eq_true rfl)))
      replace hm : sG_Par_takeAtom l D kA u σ1 [] (σ2, r2, d1_2) := ih tG_Par_takeAtom _ _ _ h1
      refine gc_Vv (pc := 78) C (As := []) (rest := []) (hm rfl w1 tx htx1) ml_Par_67 31 rfl rfl rfl d_Par_parse_78 rfl rfl (by dsimp only; omega) (by dsimp only; omega) (by have := hmn.1; have := hle.1; dsimp only; omega) (by have := hmn.2; have := hle.2; dsimp only; omega) (Nat.le_of_ble_eq_true rfl) (fun w1 hw => ?_)
      obtain ⟨w2, tx2, hag2, htq2, hwq2⟩ := hw
      dsimp only at hwq2
      subst hwq2
      dsimp only
      replace htq2 := htq2.symm
      subst htq2
      rw [← hag2 2 rfl]
      have hga2 : ∀ i, ([11, 16, 19, 21, 34, 36, 38] : List Nat).elem i = false → w2 i = w0 i := fun i hi => (hag2 i (by revert hi; exact el_sub (by decide))).trans (hga1 i hi)
      have htx2 : tx = .ref (w2 2) := by rw [hag2 2 rfl]; exact htx1
      replace hcq : (cells + (σ2.2.2 3001 - σ1.2.2 3001)) + σf.2.2 3001 ≤ mc + σ2.2.2 3001 := by have := hmn.1; have := hle.1; omega
      replace hcm : (cells + (σ2.2.2 3001 - σ1.2.2 3001)) ≤ mc := by have := hmn.1; have := hle.1; omega
      generalize cells + (σ2.2.2 3001 - σ1.2.2 3001) = cells at hcq hcm ⊢
      replace hsq : (slots + (σ2.2.2 3002 - σ1.2.2 3002)) + σf.2.2 3002 ≤ ms + σ2.2.2 3002 := by have := hmn.2; have := hle.2; omega
      replace hsm : (slots + (σ2.2.2 3002 - σ1.2.2 3002)) ≤ ms := by have := hmn.2; have := hle.2; omega
      generalize slots + (σ2.2.2 3002 - σ1.2.2 3002) = slots at hsq hsm ⊢
      replace hF : d2_2 + 3 ≤ F := by omega
      replace hLo : 48 * d2_2 + 144 ≤ Lo := by omega
      refine ax_aload_n (pc := 81) C d_Par_parse_81 rfl 0 rfl ?_
      refine cg_31_0_Par_41 (pc := 82) C d_Par_parse_82 ?_
      refine ax_if_ne (pc := 85) C 99 d_Par_parse_85 (by decide) (fun hc => ?_) (fun hc => ?_)
      · replace h := it_f hc h
        refine ax_ls ([(0, .ref (u 31)), (1, .ref (w2 2)), (2, .int x0), (3, .int x1), (4, .int x2), (5, .int x3)]) [0, 1, 2, 3, 4, 5] rfl ?_
        replace hm : sG_Par_parse_2_p99 l D kA u σ2 [x0, x1, x2, x3] (σf, rf, _) := ih tG_Par_parse_2_p99 _ _ _ h
        exact hm _ _ _ _ rfl w2 tx htx2 p e s m args below meth c F Lo mc ms cells slots σ0 w0 tx0 hF hLo hcq hsq hga2 C
      · replace h := it_t hc h
        refine ax_aload_n (pc := 88) C d_Par_parse_88 rfl 0 rfl ?_
        replace h := it_b h
        obtain ⟨σ3, r3, d1_3, d2_3, h1, h, hd2, hd1⟩ := h
        replace hle := hG _ _ _ _ (by decide) h1
        dsimp only at hle
        replace hmn : gle σ3 σf := gm_use h (gm_if (gm_tail hG (Nat.le_of_ble_eq_true rfl)) (gm_tail hG (Nat.le_of_ble_eq_true rfl)))
        replace hm : sG_Par_takeSign l D kA u σ2 [] (σ3, r3, d1_3) := ih tG_Par_takeSign _ _ _ h1
        refine gc_Vi (pc := 89) C (As := []) (rest := []) (hm rfl w2 tx htx2) ml_Par_70 31 rfl rfl rfl d_Par_parse_89 rfl rfl (by dsimp only; omega) (by dsimp only; omega) (by have := hmn.1; have := hle.1; dsimp only; omega) (by have := hmn.2; have := hle.2; dsimp only; omega) (Nat.le_of_ble_eq_true rfl) (fun r9 w1 hw => ?_)
        obtain ⟨hrq3, w3, tx3, hag3, htq3, hwq3⟩ := hw
        dsimp only at hwq3 hrq3
        subst hwq3
        replace hrq3 := hrq3.symm
        subst hrq3
        dsimp only
        replace htq3 := htq3.symm
        subst htq3
        rw [← hag3 2 rfl]
        have hga3 : ∀ i, ([11, 16, 19, 21, 34, 36, 38] : List Nat).elem i = false → w3 i = w0 i := fun i hi => (hag3 i (by revert hi; exact el_sub (by decide))).trans (hga2 i hi)
        have htx3 : tx = .ref (w3 2) := by rw [hag3 2 rfl]; exact htx2
        replace hcq : (cells + (σ3.2.2 3001 - σ2.2.2 3001)) + σf.2.2 3001 ≤ mc + σ3.2.2 3001 := by have := hmn.1; have := hle.1; omega
        replace hcm : (cells + (σ3.2.2 3001 - σ2.2.2 3001)) ≤ mc := by have := hmn.1; have := hle.1; omega
        generalize cells + (σ3.2.2 3001 - σ2.2.2 3001) = cells at hcq hcm ⊢
        replace hsq : (slots + (σ3.2.2 3002 - σ2.2.2 3002)) + σf.2.2 3002 ≤ ms + σ3.2.2 3002 := by have := hmn.2; have := hle.2; omega
        replace hsm : (slots + (σ3.2.2 3002 - σ2.2.2 3002)) ≤ ms := by have := hmn.2; have := hle.2; omega
        generalize slots + (σ3.2.2 3002 - σ2.2.2 3002) = slots at hsq hsm ⊢
        replace hF : d2_3 + 3 ≤ F := by omega
        replace hLo : 48 * d2_3 + 144 ≤ Lo := by omega
        refine ax_if_eq (pc := 92) C 99 d_Par_parse_92 (by decide) (fun hc => ?_) (fun hc => ?_)
        · replace h := it_t hc h
          refine ax_ls ([(0, .ref (u 31)), (1, .ref (w3 2)), (2, .int x0), (3, .int x1), (4, .int x2), (5, .int x3)]) [0, 1, 2, 3, 4, 5] rfl ?_
          replace hm : sG_Par_parse_2_p99 l D kA u σ3 [x0, x1, x2, x3] (σf, rf, _) := ih tG_Par_parse_2_p99 _ _ _ h
          exact hm _ _ _ _ rfl w3 tx htx3 p e s m args below meth c F Lo mc ms cells slots σ0 w0 tx0 hF hLo hcq hsq hga3 C
        · replace h := it_f hc h
          refine ax_iconst (pc := 95) C 1 d_Par_parse_95 (by decide +kernel) ?_
          refine ax_goto (pc := 96) C 100 d_Par_parse_96 (by decide) ?_
          refine ax_ls ([(0, .ref (u 31)), (1, .ref (w3 2)), (2, .int x0), (3, .int x1), (4, .int x2), (5, .int x3)]) [0, 1, 2, 3, 4, 5] rfl ?_
          replace hm : sG_Par_parse_2_p100 l D kA u σ3 [x0, x1, x2, x3, 1] (σf, rf, _) := ih tG_Par_parse_2_p100 _ _ _ h
          exact hm _ _ _ _ _ rfl w3 tx htx3 p e s m args below meth c F Lo mc ms cells slots σ0 w0 tx0 hF hLo hcq hsq hga3 C
set_option maxHeartbeats 4000000 in
set_option maxRecDepth 100000 in
theorem oG_Par_parse_2_p99 (l : Launch) (D : va_G) (kA : Nat → ClassId) (u : Nat → Nat) (rec : mF) (hG : GM rec) (ihC : ∀ (w : Nat → Nat) (tx : Value) t σ xs res, rec t σ xs = some res → cSem l D kA u w tx t σ xs res) (ih : ∀ t σ xs res, rec t σ xs = some res → gSem l D kA u t σ xs res) (σ : mS) (xs : List Int32) (res : mR) (h : u_4 (kG_Par_parse_2_p99 rec σ) xs = some res) : sG_Par_parse_2_p99 l D kA u σ xs res := by
  intro x0 x1 x2 x3 hxs w tx htx
  subst hxs
  obtain ⟨σf, rf, dd⟩ := res
  have hmn : gle σ σf := qG_Par_parse_2_p99 rec hG σ x0 x1 x2 x3 _ h
  have h : (rec tG_Par_parse_2_p100 σ [x0, x1, x2, x3, 0]) = some (σf, rf, dd) := h
  intro p e s m args below meth c F Lo mc ms cells slots σ0 w0 tx0 hF hLo hcq hsq hga C
  dsimp only at hF hLo hcq hsq ⊢
  have hcm : cells ≤ mc := by have := hmn.1; omega
  have hsm : slots ≤ ms := by have := hmn.2; omega
  have hle : True := trivial
  have hm : True := trivial
  refine ax_iconst (pc := 99) C 0 d_Par_parse_99 (by decide +kernel) ?_
  refine ax_ls ([(0, .ref (u 31)), (1, .ref (w 2)), (2, .int x0), (3, .int x1), (4, .int x2), (5, .int x3)]) [0, 1, 2, 3, 4, 5] rfl ?_
  replace hm : sG_Par_parse_2_p100 l D kA u σ [x0, x1, x2, x3, 0] (σf, rf, _) := ih tG_Par_parse_2_p100 _ _ _ h
  exact hm _ _ _ _ _ rfl w tx htx p e s m args below meth c F Lo mc ms cells slots σ0 w0 tx0 hF hLo hcq hsq hga C
set_option maxHeartbeats 4000000 in
set_option maxRecDepth 100000 in
theorem oG_Par_parse_2_p100 (l : Launch) (D : va_G) (kA : Nat → ClassId) (u : Nat → Nat) (rec : mF) (hG : GM rec) (ihC : ∀ (w : Nat → Nat) (tx : Value) t σ xs res, rec t σ xs = some res → cSem l D kA u w tx t σ xs res) (ih : ∀ t σ xs res, rec t σ xs = some res → gSem l D kA u t σ xs res) (σ : mS) (xs : List Int32) (res : mR) (h : u_5 (kG_Par_parse_2_p100 rec σ) xs = some res) : sG_Par_parse_2_p100 l D kA u σ xs res := by
  intro x0 x1 x2 x3 x4 hxs w tx htx
  subst hxs
  obtain ⟨σf, rf, dd⟩ := res
  have hmn : gle σ σf := qG_Par_parse_2_p100 rec hG σ x0 x1 x2 x3 x4 _ h
  have h : (rec tG_Par_parse_2_p61 σ [x0, x1, x4, (x3 + 1)]) = some (σf, rf, dd) := h
  intro p e s m args below meth c F Lo mc ms cells slots σ0 w0 tx0 hF hLo hcq hsq hga C
  dsimp only at hF hLo hcq hsq ⊢
  have hcm : cells ≤ mc := by have := hmn.1; omega
  have hsm : slots ≤ ms := by have := hmn.2; omega
  have hle : True := trivial
  have hm : True := trivial
  refine ax_istore (pc := 100) C d_Par_parse_100 (Nat.le_of_ble_eq_true rfl) ([(4, .int x4), (0, .ref (u 31)), (1, .ref (w 2)), (2, .int x0), (3, .int x1), (5, .int x3)]) rfl ?_
  refine ax_iinc (pc := 102) C (x3 + 1) d_Par_parse_102 5 rfl rfl (Nat.le_of_ble_eq_true rfl) ([(5, .int (x3 + 1)), (4, .int x4), (0, .ref (u 31)), (1, .ref (w 2)), (2, .int x0), (3, .int x1)]) rfl ?_
  refine ax_goto (pc := 105) C 61 d_Par_parse_105 (by decide) ?_
  refine ax_ls ([(0, .ref (u 31)), (1, .ref (w 2)), (2, .int x0), (3, .int x1), (4, .int x4), (5, .int (x3 + 1))]) [2, 3, 4, 5, 1, 0] rfl ?_
  replace hm : sG_Par_parse_2_p61 l D kA u σ [x0, x1, x4, (x3 + 1)] (σf, rf, _) := ih tG_Par_parse_2_p61 _ _ _ h
  exact hm _ _ _ _ rfl w tx htx p e s m args below meth c F Lo mc ms cells slots σ0 w0 tx0 hF hLo hcq hsq hga C
set_option maxHeartbeats 4000000 in
set_option maxRecDepth 100000 in
theorem oG_Par_parse_2_p108 (l : Launch) (D : va_G) (kA : Nat → ClassId) (u : Nat → Nat) (rec : mF) (hG : GM rec) (ihC : ∀ (w : Nat → Nat) (tx : Value) t σ xs res, rec t σ xs = some res → cSem l D kA u w tx t σ xs res) (ih : ∀ t σ xs res, rec t σ xs = some res → gSem l D kA u t σ xs res) (σ : mS) (xs : List Int32) (res : mR) (h : u_4 (kG_Par_parse_2_p108 rec σ) xs = some res) : sG_Par_parse_2_p108 l D kA u σ xs res := by
  intro x0 x1 x2 x3 hxs w tx htx
  subst hxs
  obtain ⟨σf, rf, dd⟩ := res
  have hmn : gle σ σf := qG_Par_parse_2_p108 rec hG σ x0 x1 x2 x3 _ h
  have h : (rec tG_Par_parse_2_p28 σ [x0, (x1 + 1)]) = some (σf, rf, dd) := h
  intro p e s m args below meth c F Lo mc ms cells slots σ0 w0 tx0 hF hLo hcq hsq hga C
  dsimp only at hF hLo hcq hsq ⊢
  have hcm : cells ≤ mc := by have := hmn.1; omega
  have hsm : slots ≤ ms := by have := hmn.2; omega
  have hle : True := trivial
  have hm : True := trivial
  refine ax_iinc (pc := 108) C (x1 + 1) d_Par_parse_108 3 rfl rfl (Nat.le_of_ble_eq_true rfl) ([(3, .int (x1 + 1)), (0, .ref (u 31)), (1, .ref (w 2)), (2, .int x0), (4, .int x2), (5, .int x3)]) rfl ?_
  refine ax_goto (pc := 111) C 28 d_Par_parse_111 (by decide) ?_
  refine ax_ls ([(0, .ref (u 31)), (1, .ref (w 2)), (2, .int x0), (3, .int (x1 + 1))]) [1, 2, 3, 0] rfl ?_
  replace hm : sG_Par_parse_2_p28 l D kA u σ [x0, (x1 + 1)] (σf, rf, _) := ih tG_Par_parse_2_p28 _ _ _ h
  exact hm _ _ rfl w tx htx p e s m args below meth c F Lo mc ms cells slots σ0 w0 tx0 hF hLo hcq hsq hga C
set_option maxHeartbeats 4000000 in
set_option maxRecDepth 100000 in
theorem oG_Par_parse_2_p114 (l : Launch) (D : va_G) (kA : Nat → ClassId) (u : Nat → Nat) (rec : mF) (hG : GM rec) (ihC : ∀ (w : Nat → Nat) (tx : Value) t σ xs res, rec t σ xs = some res → cSem l D kA u w tx t σ xs res) (ih : ∀ t σ xs res, rec t σ xs = some res → gSem l D kA u t σ xs res) (σ : mS) (xs : List Int32) (res : mR) (h : u_2 (kG_Par_parse_2_p114 rec σ) xs = some res) : sG_Par_parse_2_p114 l D kA u σ xs res := by
  intro x0 x1 hxs w tx htx
  subst hxs
  obtain ⟨σf, rf, dd⟩ := res
  have hmn : gle σ σf := qG_Par_parse_2_p114 rec hG σ x0 x1 _ h
  have h : (some (σ, 0, 0)) = some (σf, rf, dd) := h
  intro p e s m args below meth c F Lo mc ms cells slots σ0 w0 tx0 hF hLo hcq hsq hga C
  dsimp only at hF hLo hcq hsq ⊢
  have hcm : cells ≤ mc := by have := hmn.1; omega
  have hsm : slots ≤ ms := by have := hmn.2; omega
  have hle : True := trivial
  have hm : True := trivial
  cases h
  exact ax_vret (pc := 114) C d_Par_parse_114 ⟨w, tx, hga, (by rw [htx, hga 2 rfl]), rfl⟩ hcm hsm
set_option maxHeartbeats 4000000 in
set_option maxRecDepth 100000 in
theorem oG_Par_push (l : Launch) (D : va_G) (kA : Nat → ClassId) (u : Nat → Nat) (rec : mF) (hG : GM rec) (ihC : ∀ (w : Nat → Nat) (tx : Value) t σ xs res, rec t σ xs = some res → cSem l D kA u w tx t σ xs res) (ih : ∀ t σ xs res, rec t σ xs = some res → gSem l D kA u t σ xs res) (σ : mS) (xs : List Int32) (res : mR) (h : u_2 (kG_Par_push rec σ) xs = some res) : sG_Par_push l D kA u σ xs res := by
  intro x0 x1 hxs w tx
  subst hxs
  obtain ⟨σf, rf, dd⟩ := res
  have hmn : gle σ σf := qG_Par_push rec hG σ x0 x1 _ h
  have h : (if rok σ 3301 34 = true then (lt_ (rAdd σ 3301 34 x0) (fun σ1 => if rok σ1 3501 36 = true then (lt_ (rAdd σ1 3501 36 x1) (fun σ2 => bnd (rec tC_Par_isNest σ2 [x0]) (fun σ3 r3 => if r3 = 0 then (rec tG_Par_push_p33 σ3 [x0, x1, 0, (σ2.1 3108)]) else (rec tG_Par_push_p33 σ3 [x0, x1, 1, (σ2.1 3108)])))) else none)) else none) = some (σf, rf, dd) := h
  refine ax_Mv.of (by decide +kernel) (Nat.le_of_ble_eq_true rfl) ?_
  intro p e s m args below meth c C hnm
  replace C : ax_C p s m args meth c b_Par_push "ClauseProver$Parser" 3 none D kA (va_A (cpW kA u w tx σ) s.heap.size) := C
  obtain ⟨F, hFe⟩ : ∃ z, z = dd + 3 := ⟨_, rfl⟩
  obtain ⟨Lo, hLoe⟩ : ∃ z, z = 48 * dd + 144 := ⟨_, rfl⟩
  obtain ⟨mc, hmce⟩ : ∃ z, z = σf.2.2 3001 - σ.2.2 3001 := ⟨_, rfl⟩
  obtain ⟨ms, hmse⟩ : ∃ z, z = σf.2.2 3002 - σ.2.2 3002 := ⟨_, rfl⟩
  obtain ⟨σ0, hσ0e⟩ : ∃ z, z = σ := ⟨_, rfl⟩
  obtain ⟨w0, hw0e⟩ : ∃ z, z = w := ⟨_, rfl⟩
  obtain ⟨tx0, htx0e⟩ : ∃ z, z = tx := ⟨_, rfl⟩
  suffices K : ∀ (cells slots : Nat), cells = 0 → slots = 0 → AW p l e { frames := F, cells := mc, slots := ms, locals := Lo } s m args below meth c D kA (va_A (cpW kA u w0 tx0 σ0) s.heap.size) 3 (ax_Qv below args s D kA (cpW kA u w0 tx0 σ0) mc ms (fun w1 => ∃ (w2 : Nat → Nat) (tx2 : Value), (∀ i, ([34, 36] : List Nat).elem i = false → w2 i = w0 i) ∧ tx2 = tx0 ∧ w1 = cpW kA u w2 tx2 σf)) 0 [(0, .ref (u 31)), (1, .int x0), (2, .int x1)] [] (cpW kA u w tx σ) cells slots by
    have K := K 0 0 rfl rfl
    rw [hFe, hLoe, hmce, hmse, hσ0e, hw0e, htx0e] at K
    exact ax_ls ([(0, .ref (u 31)), (1, .int x0), (2, .int x1)]) [0, 1, 2] rfl K
  replace C : ax_C p s m args meth c b_Par_push "ClauseProver$Parser" 3 none D kA (va_A (cpW kA u w0 tx0 σ0) s.heap.size) := by rw [hσ0e, hw0e, htx0e]; exact C
  intro cells slots hc0 hs0
  have hcq : cells + σf.2.2 3001 ≤ mc + σ.2.2 3001 := by have := hmn.1; omega
  have hsq : slots + σf.2.2 3002 ≤ ms + σ.2.2 3002 := by have := hmn.2; omega
  have hga : ∀ i, ([34, 36] : List Nat).elem i = false → w i = w0 i := fun i _ => by rw [hw0e]
  have e9 : tx = tx0 := htx0e.symm
  subst e9
  have hF : dd + 3 ≤ F := by omega
  have hLo : 48 * dd + 144 ≤ Lo := by omega
  have hcm : cells ≤ mc := by have := hmn.1; omega
  have hsm : slots ≤ ms := by have := hmn.2; omega
  have hle : True := trivial
  have hm : True := trivial
  refine ax_aload_n (pc := 0) C d_Par_push_0 rfl 0 rfl ?_
  refine cg_31_5_Par_23 (pc := 1) C d_Par_push_1 ?_
  refine ax_iload_n (pc := 4) C d_Par_push_4 rfl 1 rfl ?_
  replace h := it_g h
  obtain ⟨hb, h⟩ := h
  replace h := it_l h
  replace hle := rAdd_le σ 3301 34 x0
  replace hmn : gle (rAdd σ 3301 34 x0) σf := gm_use h (gm_if (gm_lt (rAdd_le _ _ _ _) (gm_bnd hG (Nat.le_of_ble_eq_true rfl) (fun _ _ => (gm_if (gm_tail hG (Nat.le_of_ble_eq_true rfl)) (gm_tail hG (Nat.le_of_ble_eq_true rfl)))))) gm_none)
  refine ca_33 (pc := 5) C (rest := []) ml_Par_145 d_Par_push_5 hb hF hLo (by have := hmn.1; have := hle.1; omega) (by have := hmn.2; have := hle.2; omega) (Nat.le_of_ble_eq_true rfl) (fun w1 hag1 => ?_)
  generalize rAdd σ 3301 34 x0 = σ1 at h hmn hle ⊢
  have hga1 : ∀ i, ([34, 36] : List Nat).elem i = false → w1 i = w0 i := fun i hi => (hag1 i (by revert hi; exact el_sub (by decide))).trans (hga i hi)
  replace hcq : (cells + (σ1.2.2 3001 - σ.2.2 3001)) + σf.2.2 3001 ≤ mc + σ1.2.2 3001 := by have := hmn.1; have := hle.1; omega
  replace hcm : (cells + (σ1.2.2 3001 - σ.2.2 3001)) ≤ mc := by have := hmn.1; have := hle.1; omega
  generalize cells + (σ1.2.2 3001 - σ.2.2 3001) = cells at hcq hcm ⊢
  replace hsq : (slots + (σ1.2.2 3002 - σ.2.2 3002)) + σf.2.2 3002 ≤ ms + σ1.2.2 3002 := by have := hmn.2; have := hle.2; omega
  replace hsm : (slots + (σ1.2.2 3002 - σ.2.2 3002)) ≤ ms := by have := hmn.2; have := hle.2; omega
  generalize slots + (σ1.2.2 3002 - σ.2.2 3002) = slots at hsq hsm ⊢
  refine ax_aload_n (pc := 8) C d_Par_push_8 rfl 0 rfl ?_
  refine cg_31_6_Par_27 (pc := 9) C d_Par_push_9 ?_
  refine ax_iload_n (pc := 12) C d_Par_push_12 rfl 2 rfl ?_
  replace h := it_g h
  obtain ⟨hb, h⟩ := h
  replace h := it_l h
  replace hle := rAdd_le σ1 3501 36 x1
  replace hmn : gle (rAdd σ1 3501 36 x1) σf := gm_use h (gm_bnd hG (Nat.le_of_ble_eq_true rfl) (fun _ _ => (gm_if (gm_tail hG (Nat.le_of_ble_eq_true rfl)) (gm_tail hG (Nat.le_of_ble_eq_true rfl)))))
  refine ca_35 (pc := 13) C (rest := []) ml_Par_145 d_Par_push_13 hb hF hLo (by have := hmn.1; have := hle.1; omega) (by have := hmn.2; have := hle.2; omega) (Nat.le_of_ble_eq_true rfl) (fun w2 hag2 => ?_)
  generalize rAdd σ1 3501 36 x1 = σ2 at h hmn hle ⊢
  have hga2 : ∀ i, ([34, 36] : List Nat).elem i = false → w2 i = w0 i := fun i hi => (hag2 i (by revert hi; exact el_sub (by decide))).trans (hga1 i hi)
  replace hcq : (cells + (σ2.2.2 3001 - σ1.2.2 3001)) + σf.2.2 3001 ≤ mc + σ2.2.2 3001 := by have := hmn.1; have := hle.1; omega
  replace hcm : (cells + (σ2.2.2 3001 - σ1.2.2 3001)) ≤ mc := by have := hmn.1; have := hle.1; omega
  generalize cells + (σ2.2.2 3001 - σ1.2.2 3001) = cells at hcq hcm ⊢
  replace hsq : (slots + (σ2.2.2 3002 - σ1.2.2 3002)) + σf.2.2 3002 ≤ ms + σ2.2.2 3002 := by have := hmn.2; have := hle.2; omega
  replace hsm : (slots + (σ2.2.2 3002 - σ1.2.2 3002)) ≤ ms := by have := hmn.2; have := hle.2; omega
  generalize slots + (σ2.2.2 3002 - σ1.2.2 3002) = slots at hsq hsm ⊢
  refine ax_aload_n (pc := 16) C d_Par_push_16 rfl 0 rfl ?_
  refine ax_dup (pc := 17) C d_Par_push_17 rfl ?_
  refine cg_31_8_Par_86 (pc := 18) C d_Par_push_18 ?_
  refine ax_iload_n (pc := 21) C d_Par_push_21 rfl 1 rfl ?_
  replace h := it_b h
  obtain ⟨σ3, r3, d1_3, d2_3, h1, h, hd2, hd1⟩ := h
  replace hle := hG _ _ _ _ (by decide) h1
  dsimp only at hle
  replace hmn : gle σ3 σf := gm_use h (gm_if (gm_tail hG (Nat.le_of_ble_eq_true rfl)) (gm_tail hG (Nat.le_of_ble_eq_true rfl)))
  replace hm : sC_Par_isNest l D kA u w2 tx σ2 [x0] (σ3, r3, d1_3) := ihC _ _ tC_Par_isNest _ _ _ h1
  refine cc_Si (pc := 22) C (r0 := r3) (σ2 := σ3) (As := [.int x0]) (rest := [.int (σ2.1 3108), .ref (u 31)]) (hm _ rfl) ml_Par_193 d_Par_push_22 rfl rfl (by dsimp only; omega) (by dsimp only; omega) hcm hsm (Nat.le_of_ble_eq_true rfl) ?_
  replace hcq : cells + σf.2.2 3001 ≤ mc + σ3.2.2 3001 := by have := hle.1; omega
  replace hsq : slots + σf.2.2 3002 ≤ ms + σ3.2.2 3002 := by have := hle.2; omega
  replace hF : d2_3 + 3 ≤ F := by omega
  replace hLo : 48 * d2_3 + 144 ≤ Lo := by omega
  refine ax_if_eq (pc := 25) C 32 d_Par_push_25 (by decide) (fun hc => ?_) (fun hc => ?_)
  · replace h := it_t hc h
    refine ax_iconst (pc := 32) C 0 d_Par_push_32 (by decide +kernel) ?_
    refine ax_ls ([(0, .ref (u 31)), (1, .int x0), (2, .int x1)]) [0, 1, 2] rfl ?_
    replace hm : sG_Par_push_p33 l D kA u σ3 [x0, x1, 0, (σ2.1 3108)] (σf, rf, _) := ih tG_Par_push_p33 _ _ _ h
    exact hm _ _ _ _ rfl w2 tx p e s m args below meth c F Lo mc ms cells slots σ0 w0 tx hF hLo hcq hsq hga2 C
  · replace h := it_f hc h
    refine ax_iconst (pc := 28) C 1 d_Par_push_28 (by decide +kernel) ?_
    refine ax_goto (pc := 29) C 33 d_Par_push_29 (by decide) ?_
    refine ax_ls ([(0, .ref (u 31)), (1, .int x0), (2, .int x1)]) [0, 1, 2] rfl ?_
    replace hm : sG_Par_push_p33 l D kA u σ3 [x0, x1, 1, (σ2.1 3108)] (σf, rf, _) := ih tG_Par_push_p33 _ _ _ h
    exact hm _ _ _ _ rfl w2 tx p e s m args below meth c F Lo mc ms cells slots σ0 w0 tx hF hLo hcq hsq hga2 C
set_option maxHeartbeats 4000000 in
set_option maxRecDepth 100000 in
theorem oG_Par_push_p33 (l : Launch) (D : va_G) (kA : Nat → ClassId) (u : Nat → Nat) (rec : mF) (hG : GM rec) (ihC : ∀ (w : Nat → Nat) (tx : Value) t σ xs res, rec t σ xs = some res → cSem l D kA u w tx t σ xs res) (ih : ∀ t σ xs res, rec t σ xs = some res → gSem l D kA u t σ xs res) (σ : mS) (xs : List Int32) (res : mR) (h : u_4 (kG_Par_push_p33 rec σ) xs = some res) : sG_Par_push_p33 l D kA u σ xs res := by
  intro x0 x1 x2 x3 hxs w tx
  subst hxs
  obtain ⟨σf, rf, dd⟩ := res
  have hmn : gle σ σf := qG_Par_push_p33 rec hG σ x0 x1 x2 x3 _ h
  have h : (lt_ (mI σ 3108 ((x3 : Int32) + x2)) (fun σ1 => some (σ1, 0, 0))) = some (σf, rf, dd) := h
  intro p e s m args below meth c F Lo mc ms cells slots σ0 w0 tx0 hF hLo hcq hsq hga C
  dsimp only at hF hLo hcq hsq ⊢
  have hcm : cells ≤ mc := by have := hmn.1; omega
  have hsm : slots ≤ ms := by have := hmn.2; omega
  have hle : True := trivial
  have hm : True := trivial
  refine ax_iadd (pc := 33) C d_Par_push_33 ?_
  refine cq_31_8_Par_86 (pc := 34) C d_Par_push_34 ?_
  replace h := it_l h
  replace hcq : cells + σf.2.2 3001 ≤ mc + (mI σ 3108 ((x3 : Int32) + x2)).2.2 3001 := hcq
  replace hsq : slots + σf.2.2 3002 ≤ ms + (mI σ 3108 ((x3 : Int32) + x2)).2.2 3002 := hsq
  generalize mI σ 3108 ((x3 : Int32) + x2) = σ1 at h hcq hsq ⊢
  cases h
  exact ax_vret (pc := 37) C d_Par_push_37 ⟨w, tx, hga, rfl, rfl⟩ hcm hsm
set_option maxHeartbeats 4000000 in
set_option maxRecDepth 100000 in
theorem oG_Par_takeAtom (l : Launch) (D : va_G) (kA : Nat → ClassId) (u : Nat → Nat) (rec : mF) (hG : GM rec) (ihC : ∀ (w : Nat → Nat) (tx : Value) t σ xs res, rec t σ xs = some res → cSem l D kA u w tx t σ xs res) (ih : ∀ t σ xs res, rec t σ xs = some res → gSem l D kA u t σ xs res) (σ : mS) (xs : List Int32) (res : mR) (h : u_0 (kG_Par_takeAtom rec σ) xs = some res) : sG_Par_takeAtom l D kA u σ xs res := by
  intro hxs w tx htx
  subst hxs
  obtain ⟨σf, rf, dd⟩ := res
  have hmn : gle σ σf := qG_Par_takeAtom rec hG σ _ h
  have h : (if (σ.1 3100) = 0 then (bnd (rec tC_Wds_isNow σ [3]) (fun σ1 r1 => if r1 = 0 then (bnd (rec tG_Par_takeName σ1 []) (fun σ2 r2 => bnd (rec tG_Par_takeTerms σ2 [(σ2.1 3108)]) (fun σ3 r3 => if (σ3.1 3100) = 0 then (if (σ3.1 3202) = 9 then (rec tG_Par_takeAtom_p95 σ3 [(σ.1 3203), (σ.1 1501), r2, r3]) else (if (σ3.1 3202) = 10 then (rec tG_Par_takeAtom_p95 σ3 [(σ.1 3203), (σ.1 1501), r2, r3]) else (rec tG_Par_takeAtom_p100 σ3 [(σ.1 3203), (σ.1 1501), r2, r3, 0]))) else (some (σ3, 0, 0))))) else (bnd (rec tG_Par_takeVariable σ1 []) (fun σ4 r4 => bnd (rec tG_Par_takeEquation σ4 [(σ.1 1501)]) (fun σ5 r5 => some (σ5, 0, 0)))))) else (some (σ, 0, 0))) = some (σf, rf, dd) := h
  refine ax_Mv.of (by decide +kernel) (Nat.le_of_ble_eq_true rfl) ?_
  intro p e s m args below meth c C hnm
  replace C : ax_C p s m args meth c b_Par_takeAtom "ClauseProver$Parser" 6 none D kA (va_A (cpW kA u w tx σ) s.heap.size) := C
  obtain ⟨F, hFe⟩ : ∃ z, z = dd + 3 := ⟨_, rfl⟩
  obtain ⟨Lo, hLoe⟩ : ∃ z, z = 48 * dd + 144 := ⟨_, rfl⟩
  obtain ⟨mc, hmce⟩ : ∃ z, z = σf.2.2 3001 - σ.2.2 3001 := ⟨_, rfl⟩
  obtain ⟨ms, hmse⟩ : ∃ z, z = σf.2.2 3002 - σ.2.2 3002 := ⟨_, rfl⟩
  obtain ⟨σ0, hσ0e⟩ : ∃ z, z = σ := ⟨_, rfl⟩
  obtain ⟨w0, hw0e⟩ : ∃ z, z = w := ⟨_, rfl⟩
  obtain ⟨tx0, htx0e⟩ : ∃ z, z = tx := ⟨_, rfl⟩
  suffices K : ∀ (cells slots : Nat), cells = 0 → slots = 0 → AW p l e { frames := F, cells := mc, slots := ms, locals := Lo } s m args below meth c D kA (va_A (cpW kA u w0 tx0 σ0) s.heap.size) 6 (ax_Qv below args s D kA (cpW kA u w0 tx0 σ0) mc ms (fun w1 => ∃ (w2 : Nat → Nat) (tx2 : Value), (∀ i, ([11, 16, 19, 38] : List Nat).elem i = false → w2 i = w0 i) ∧ tx2 = tx0 ∧ w1 = cpW kA u w2 tx2 σf)) 0 [(0, .ref (u 31))] [] (cpW kA u w tx σ) cells slots by
    have K := K 0 0 rfl rfl
    rw [hFe, hLoe, hmce, hmse, hσ0e, hw0e, htx0e] at K
    exact ax_ls ([(0, .ref (u 31))]) [0] rfl K
  replace C : ax_C p s m args meth c b_Par_takeAtom "ClauseProver$Parser" 6 none D kA (va_A (cpW kA u w0 tx0 σ0) s.heap.size) := by rw [hσ0e, hw0e, htx0e]; exact C
  intro cells slots hc0 hs0
  have hcq : cells + σf.2.2 3001 ≤ mc + σ.2.2 3001 := by have := hmn.1; omega
  have hsq : slots + σf.2.2 3002 ≤ ms + σ.2.2 3002 := by have := hmn.2; omega
  have hga : ∀ i, ([11, 16, 19, 38] : List Nat).elem i = false → w i = w0 i := fun i _ => by rw [hw0e]
  have e9 : tx = tx0 := htx0e.symm
  subst e9
  have hF : dd + 3 ≤ F := by omega
  have hLo : 48 * dd + 144 ≤ Lo := by omega
  have hcm : cells ≤ mc := by have := hmn.1; omega
  have hsm : slots ≤ ms := by have := hmn.2; omega
  have hle : True := trivial
  have hm : True := trivial
  refine ax_aload_n (pc := 0) C d_Par_takeAtom_0 rfl 0 rfl ?_
  refine cg_31_0_Par_41 (pc := 1) C d_Par_takeAtom_1 ?_
  refine ax_if_eq (pc := 4) C 8 d_Par_takeAtom_4 (by decide) (fun hc => ?_) (fun hc => ?_)
  · replace h := it_t hc h
    refine ax_aload_n (pc := 8) C d_Par_takeAtom_8 rfl 0 rfl ?_
    refine cg_31_2_Par_12 (pc := 9) C d_Par_takeAtom_9 ?_
    refine cg_32_3_Par_77 (pc := 12) C d_Par_takeAtom_12 ?_
    refine ax_istore_n (pc := 15) C d_Par_takeAtom_15 rfl (Nat.le_of_ble_eq_true rfl) ([(1, .int (σ.1 3203)), (0, .ref (u 31))]) rfl ?_
    refine ax_aload_n (pc := 16) C d_Par_takeAtom_16 rfl 1 rfl ?_
    refine cg_31_4_Par_37 (pc := 17) C d_Par_takeAtom_17 ?_
    refine cg_14_0_Par_120 (pc := 20) C d_Par_takeAtom_20 ?_
    refine cg_15_1_Par_83 (pc := 23) C d_Par_takeAtom_23 ?_
    refine ax_istore_n (pc := 26) C d_Par_takeAtom_26 rfl (Nat.le_of_ble_eq_true rfl) ([(2, .int (σ.1 1501)), (1, .int (σ.1 3203)), (0, .ref (u 31))]) rfl ?_
    refine ax_aload_n (pc := 27) C d_Par_takeAtom_27 rfl 2 rfl ?_
    refine cg_31_2_Par_12 (pc := 28) C d_Par_takeAtom_28 ?_
    refine ax_iconst (pc := 31) C 3 d_Par_takeAtom_31 (by decide +kernel) ?_
    replace h := it_b h
    obtain ⟨σ1, r1, d1_1, d2_1, h1, h, hd2, hd1⟩ := h
    replace hle := hG _ _ _ _ (by decide) h1
    dsimp only at hle
    replace hmn : gle σ1 σf := gm_use h (gm_if (gm_bnd hG (Nat.le_of_ble_eq_true rfl) (fun _ _ => (gm_bnd hG (Nat.le_of_ble_eq_true rfl) (fun _ _ => (gm_if (gm_if (gm_tail hG (Nat.le_of_ble_eq_true rfl)) (gm_if (gm_tail hG (Nat.le_of_ble_eq_true rfl)) (gm_tail hG (Nat.le_of_ble_eq_true rfl)))) gm_some))))) (gm_bnd hG (Nat.le_of_ble_eq_true rfl) (fun _ _ => (gm_bnd hG (Nat.le_of_ble_eq_true rfl) (fun _ _ => gm_some)))))
    replace hm : sC_Wds_isNow l D kA u w tx σ [3] (σ1, r1, d1_1) := ihC _ _ tC_Wds_isNow _ _ _ h1
    refine cc_Vi (pc := 32) C (r0 := r1) (σ2 := σ1) (As := [.int 3]) (rest := []) (hm _ rfl) ml_Par_100 32 rfl rfl rfl d_Par_takeAtom_32 rfl rfl (by dsimp only; omega) (by dsimp only; omega) hcm hsm (Nat.le_of_ble_eq_true rfl) ?_
    replace hcq : cells + σf.2.2 3001 ≤ mc + σ1.2.2 3001 := by have := hle.1; omega
    replace hsq : slots + σf.2.2 3002 ≤ ms + σ1.2.2 3002 := by have := hle.2; omega
    replace hF : d2_1 + 3 ≤ F := by omega
    replace hLo : 48 * d2_1 + 144 ≤ Lo := by omega
    refine ax_if_eq (pc := 35) C 48 d_Par_takeAtom_35 (by decide) (fun hc => ?_) (fun hc => ?_)
    · replace h := it_t hc h
      refine ax_aload_n (pc := 48) C d_Par_takeAtom_48 rfl 2 rfl ?_
      replace h := it_b h
      obtain ⟨σ2, r2, d1_2, d2_2, h1, h, hd2, hd1⟩ := h
      replace hle := hG _ _ _ _ (by decide) h1
      dsimp only at hle
      replace hmn : gle σ2 σf := gm_use h (gm_bnd hG (Nat.le_of_ble_eq_true rfl) (fun _ _ => (gm_if (gm_if (gm_tail hG (Nat.le_of_ble_eq_true rfl)) (gm_if (gm_tail hG (Nat.le_of_ble_eq_true rfl)) (gm_tail hG (Nat.le_of_ble_eq_true rfl)))) gm_some)))
      replace hm : sG_Par_takeName l D kA u σ1 [] (σ2, r2, d1_2) := ih tG_Par_takeName _ _ _ h1
      refine gc_Vi (pc := 49) C (As := []) (rest := []) (hm rfl w tx htx) ml_Par_129 31 rfl rfl rfl d_Par_takeAtom_49 rfl rfl (by dsimp only; omega) (by dsimp only; omega) (by have := hmn.1; have := hle.1; dsimp only; omega) (by have := hmn.2; have := hle.2; dsimp only; omega) (Nat.le_of_ble_eq_true rfl) (fun r9 w1 hw => ?_)
      obtain ⟨hrq2, w2, tx2, hag2, htq2, hwq2⟩ := hw
      dsimp only at hwq2 hrq2
      subst hwq2
      replace hrq2 := hrq2.symm
      subst hrq2
      dsimp only
      replace htq2 := htq2.symm
      subst htq2
      have hga2 : ∀ i, ([11, 16, 19, 38] : List Nat).elem i = false → w2 i = w0 i := fun i hi => (hag2 i (by revert hi; exact el_sub (by decide))).trans (hga i hi)
      have htx2 : tx = .ref (w2 2) := by rw [hag2 2 rfl]; exact htx
      replace hcq : (cells + (σ2.2.2 3001 - σ1.2.2 3001)) + σf.2.2 3001 ≤ mc + σ2.2.2 3001 := by have := hmn.1; have := hle.1; omega
      replace hcm : (cells + (σ2.2.2 3001 - σ1.2.2 3001)) ≤ mc := by have := hmn.1; have := hle.1; omega
      generalize cells + (σ2.2.2 3001 - σ1.2.2 3001) = cells at hcq hcm ⊢
      replace hsq : (slots + (σ2.2.2 3002 - σ1.2.2 3002)) + σf.2.2 3002 ≤ ms + σ2.2.2 3002 := by have := hmn.2; have := hle.2; omega
      replace hsm : (slots + (σ2.2.2 3002 - σ1.2.2 3002)) ≤ ms := by have := hmn.2; have := hle.2; omega
      generalize slots + (σ2.2.2 3002 - σ1.2.2 3002) = slots at hsq hsm ⊢
      replace hF : d2_2 + 3 ≤ F := by omega
      replace hLo : 48 * d2_2 + 144 ≤ Lo := by omega
      refine ax_istore_n (pc := 52) C d_Par_takeAtom_52 rfl (Nat.le_of_ble_eq_true rfl) ([(3, .int r2), (2, .int (σ.1 1501)), (1, .int (σ.1 3203)), (0, .ref (u 31))]) rfl ?_
      refine ax_aload_n (pc := 53) C d_Par_takeAtom_53 rfl 3 rfl ?_
      refine ax_aload_n (pc := 54) C d_Par_takeAtom_54 rfl 3 rfl ?_
      refine cg_31_8_Par_86 (pc := 55) C d_Par_takeAtom_55 ?_
      replace h := it_b h
      obtain ⟨σ3, r3, d1_3, d2_3, h1, h, hd2, hd1⟩ := h
      replace hle := hG _ _ _ _ (by decide) h1
      dsimp only at hle
      replace hmn : gle σ3 σf := gm_use h (gm_if (gm_if (gm_tail hG (Nat.le_of_ble_eq_true rfl)) (gm_if (gm_tail hG (Nat.le_of_ble_eq_true rfl)) (gm_tail hG (Nat.le_of_ble_eq_true rfl)))) gm_some)
      replace hm : sG_Par_takeTerms l D kA u σ2 [(σ2.1 3108)] (σ3, r3, d1_3) := ih tG_Par_takeTerms _ _ _ h1
      refine gc_Vi (pc := 58) C (As := [.int (σ2.1 3108)]) (rest := []) (hm _ rfl w2 tx htx2) ml_Par_133 31 rfl rfl rfl d_Par_takeAtom_58 rfl rfl (by dsimp only; omega) (by dsimp only; omega) (by have := hmn.1; have := hle.1; dsimp only; omega) (by have := hmn.2; have := hle.2; dsimp only; omega) (Nat.le_of_ble_eq_true rfl) (fun r9 w1 hw => ?_)
      obtain ⟨hrq3, w3, tx3, hag3, htq3, hwq3⟩ := hw
      dsimp only at hwq3 hrq3
      subst hwq3
      replace hrq3 := hrq3.symm
      subst hrq3
      dsimp only
      replace htq3 := htq3.symm
      subst htq3
      have hga3 : ∀ i, ([11, 16, 19, 38] : List Nat).elem i = false → w3 i = w0 i := fun i hi => (hag3 i (by revert hi; exact el_sub (by decide))).trans (hga2 i hi)
      have htx3 : tx = .ref (w3 2) := by rw [hag3 2 rfl]; exact htx2
      replace hcq : (cells + (σ3.2.2 3001 - σ2.2.2 3001)) + σf.2.2 3001 ≤ mc + σ3.2.2 3001 := by have := hmn.1; have := hle.1; omega
      replace hcm : (cells + (σ3.2.2 3001 - σ2.2.2 3001)) ≤ mc := by have := hmn.1; have := hle.1; omega
      generalize cells + (σ3.2.2 3001 - σ2.2.2 3001) = cells at hcq hcm ⊢
      replace hsq : (slots + (σ3.2.2 3002 - σ2.2.2 3002)) + σf.2.2 3002 ≤ ms + σ3.2.2 3002 := by have := hmn.2; have := hle.2; omega
      replace hsm : (slots + (σ3.2.2 3002 - σ2.2.2 3002)) ≤ ms := by have := hmn.2; have := hle.2; omega
      generalize slots + (σ3.2.2 3002 - σ2.2.2 3002) = slots at hsq hsm ⊢
      replace hF : d2_3 + 3 ≤ F := by omega
      replace hLo : 48 * d2_3 + 144 ≤ Lo := by omega
      refine ax_istore (pc := 61) C d_Par_takeAtom_61 (Nat.le_of_ble_eq_true rfl) ([(4, .int r3), (3, .int r2), (2, .int (σ.1 1501)), (1, .int (σ.1 3203)), (0, .ref (u 31))]) rfl ?_
      refine ax_aload_n (pc := 63) C d_Par_takeAtom_63 rfl 4 rfl ?_
      refine cg_31_0_Par_41 (pc := 64) C d_Par_takeAtom_64 ?_
      refine ax_if_eq (pc := 67) C 71 d_Par_takeAtom_67 (by decide) (fun hc => ?_) (fun hc => ?_)
      · replace h := it_t hc h
        refine ax_aload_n (pc := 71) C d_Par_takeAtom_71 rfl 4 rfl ?_
        refine cg_31_2_Par_12 (pc := 72) C d_Par_takeAtom_72 ?_
        refine cg_32_2_Par_58 (pc := 75) C d_Par_takeAtom_75 ?_
        refine ax_bipush (pc := 78) C 9 d_Par_takeAtom_78 (by decide +kernel) ?_
        refine ax_icmp_eq (pc := 80) C 95 d_Par_takeAtom_80 (by decide) (fun hc => ?_) (fun hc => ?_)
        · replace h := it_t hc h
          refine ax_ls ([(0, .ref (u 31)), (1, .int (σ.1 3203)), (2, .int (σ.1 1501)), (3, .int r2), (4, .int r3)]) [4, 3, 2, 1, 0] rfl ?_
          replace hm : sG_Par_takeAtom_p95 l D kA u σ3 [(σ.1 3203), (σ.1 1501), r2, r3] (σf, rf, _) := ih tG_Par_takeAtom_p95 _ _ _ h
          exact hm _ _ _ _ rfl w3 tx htx3 p e s m args below meth c F Lo mc ms cells slots σ0 w0 tx hF hLo hcq hsq hga3 C
        · replace h := it_f hc h
          refine ax_aload_n (pc := 83) C d_Par_takeAtom_83 rfl 4 rfl ?_
          refine cg_31_2_Par_12 (pc := 84) C d_Par_takeAtom_84 ?_
          refine cg_32_2_Par_58 (pc := 87) C d_Par_takeAtom_87 ?_
          refine ax_bipush (pc := 90) C 10 d_Par_takeAtom_90 (by decide +kernel) ?_
          refine ax_icmp_ne (pc := 92) C 99 d_Par_takeAtom_92 (by decide) (fun hc => ?_) (fun hc => ?_)
          · replace h := it_f hc h
            refine ax_iconst (pc := 99) C 0 d_Par_takeAtom_99 (by decide +kernel) ?_
            refine ax_ls ([(0, .ref (u 31)), (1, .int (σ.1 3203)), (2, .int (σ.1 1501)), (3, .int r2), (4, .int r3)]) [4, 3, 2, 1, 0] rfl ?_
            replace hm : sG_Par_takeAtom_p100 l D kA u σ3 [(σ.1 3203), (σ.1 1501), r2, r3, 0] (σf, rf, _) := ih tG_Par_takeAtom_p100 _ _ _ h
            exact hm _ _ _ _ _ rfl w3 tx htx3 p e s m args below meth c F Lo mc ms cells slots σ0 w0 tx hF hLo hcq hsq hga3 C
          · replace h := it_t hc h
            refine ax_ls ([(0, .ref (u 31)), (1, .int (σ.1 3203)), (2, .int (σ.1 1501)), (3, .int r2), (4, .int r3)]) [4, 3, 2, 1, 0] rfl ?_
            replace hm : sG_Par_takeAtom_p95 l D kA u σ3 [(σ.1 3203), (σ.1 1501), r2, r3] (σf, rf, _) := ih tG_Par_takeAtom_p95 _ _ _ h
            exact hm _ _ _ _ rfl w3 tx htx3 p e s m args below meth c F Lo mc ms cells slots σ0 w0 tx hF hLo hcq hsq hga3 C
      · replace h := it_f hc h
        cases h
        exact ax_vret (pc := 70) C d_Par_takeAtom_70 ⟨w3, tx, hga3, rfl, rfl⟩ hcm hsm
    · replace h := it_f hc h
      refine ax_aload_n (pc := 38) C d_Par_takeAtom_38 rfl 2 rfl ?_
      replace h := it_b h
      obtain ⟨σ4, r4, d1_4, d2_4, h1, h, hd2, hd1⟩ := h
      replace hle := hG _ _ _ _ (by decide) h1
      dsimp only at hle
      replace hmn : gle σ4 σf := gm_use h (gm_bnd hG (Nat.le_of_ble_eq_true rfl) (fun _ _ => gm_some))
      replace hm : sG_Par_takeVariable l D kA u σ1 [] (σ4, r4, d1_4) := ih tG_Par_takeVariable _ _ _ h1
      refine gc_Vv (pc := 39) C (As := []) (rest := []) (hm rfl w tx htx) ml_Par_123 31 rfl rfl rfl d_Par_takeAtom_39 rfl rfl (by dsimp only; omega) (by dsimp only; omega) (by have := hmn.1; have := hle.1; dsimp only; omega) (by have := hmn.2; have := hle.2; dsimp only; omega) (Nat.le_of_ble_eq_true rfl) (fun w1 hw => ?_)
      obtain ⟨w4, tx4, hag4, htq4, hwq4⟩ := hw
      dsimp only at hwq4
      subst hwq4
      dsimp only
      replace htq4 := htq4.symm
      subst htq4
      have hga4 : ∀ i, ([11, 16, 19, 38] : List Nat).elem i = false → w4 i = w0 i := fun i hi => (hag4 i (by revert hi; exact el_sub (by decide))).trans (hga i hi)
      have htx4 : tx = .ref (w4 2) := by rw [hag4 2 rfl]; exact htx
      replace hcq : (cells + (σ4.2.2 3001 - σ1.2.2 3001)) + σf.2.2 3001 ≤ mc + σ4.2.2 3001 := by have := hmn.1; have := hle.1; omega
      replace hcm : (cells + (σ4.2.2 3001 - σ1.2.2 3001)) ≤ mc := by have := hmn.1; have := hle.1; omega
      generalize cells + (σ4.2.2 3001 - σ1.2.2 3001) = cells at hcq hcm ⊢
      replace hsq : (slots + (σ4.2.2 3002 - σ1.2.2 3002)) + σf.2.2 3002 ≤ ms + σ4.2.2 3002 := by have := hmn.2; have := hle.2; omega
      replace hsm : (slots + (σ4.2.2 3002 - σ1.2.2 3002)) ≤ ms := by have := hmn.2; have := hle.2; omega
      generalize slots + (σ4.2.2 3002 - σ1.2.2 3002) = slots at hsq hsm ⊢
      replace hF : d2_4 + 3 ≤ F := by omega
      replace hLo : 48 * d2_4 + 144 ≤ Lo := by omega
      refine ax_aload_n (pc := 42) C d_Par_takeAtom_42 rfl 2 rfl ?_
      refine ax_iload_n (pc := 43) C d_Par_takeAtom_43 rfl 0 rfl ?_
      replace h := it_b h
      obtain ⟨σ5, r5, d1_5, d2_5, h1, h, hd2, hd1⟩ := h
      replace hle := hG _ _ _ _ (by decide) h1
      dsimp only at hle
      replace hmn : gle σ5 σf := gm_use h gm_some
      replace hm : sG_Par_takeEquation l D kA u σ4 [(σ.1 1501)] (σ5, r5, d1_5) := ih tG_Par_takeEquation _ _ _ h1
      refine gc_Vv (pc := 44) C (As := [.int (σ.1 1501)]) (rest := []) (hm _ rfl w4 tx htx4) ml_Par_126 31 rfl rfl rfl d_Par_takeAtom_44 rfl rfl (by dsimp only; omega) (by dsimp only; omega) (by have := hmn.1; have := hle.1; dsimp only; omega) (by have := hmn.2; have := hle.2; dsimp only; omega) (Nat.le_of_ble_eq_true rfl) (fun w1 hw => ?_)
      obtain ⟨w5, tx5, hag5, htq5, hwq5⟩ := hw
      dsimp only at hwq5
      subst hwq5
      dsimp only
      replace htq5 := htq5.symm
      subst htq5
      have hga5 : ∀ i, ([11, 16, 19, 38] : List Nat).elem i = false → w5 i = w0 i := fun i hi => (hag5 i (by revert hi; exact el_sub (by decide))).trans (hga4 i hi)
      have htx5 : tx = .ref (w5 2) := by rw [hag5 2 rfl]; exact htx4
      replace hcq : (cells + (σ5.2.2 3001 - σ4.2.2 3001)) + σf.2.2 3001 ≤ mc + σ5.2.2 3001 := by have := hmn.1; have := hle.1; omega
      replace hcm : (cells + (σ5.2.2 3001 - σ4.2.2 3001)) ≤ mc := by have := hmn.1; have := hle.1; omega
      generalize cells + (σ5.2.2 3001 - σ4.2.2 3001) = cells at hcq hcm ⊢
      replace hsq : (slots + (σ5.2.2 3002 - σ4.2.2 3002)) + σf.2.2 3002 ≤ ms + σ5.2.2 3002 := by have := hmn.2; have := hle.2; omega
      replace hsm : (slots + (σ5.2.2 3002 - σ4.2.2 3002)) ≤ ms := by have := hmn.2; have := hle.2; omega
      generalize slots + (σ5.2.2 3002 - σ4.2.2 3002) = slots at hsq hsm ⊢
      replace hF : d2_5 + 3 ≤ F := by omega
      replace hLo : 48 * d2_5 + 144 ≤ Lo := by omega
      cases h
      exact ax_vret (pc := 47) C d_Par_takeAtom_47 ⟨w5, tx, hga5, rfl, rfl⟩ hcm hsm
  · replace h := it_f hc h
    cases h
    exact ax_vret (pc := 7) C d_Par_takeAtom_7 ⟨w, tx, hga, rfl, rfl⟩ hcm hsm
set_option maxHeartbeats 4000000 in
set_option maxRecDepth 100000 in
theorem oG_Par_takeAtom_p95 (l : Launch) (D : va_G) (kA : Nat → ClassId) (u : Nat → Nat) (rec : mF) (hG : GM rec) (ihC : ∀ (w : Nat → Nat) (tx : Value) t σ xs res, rec t σ xs = some res → cSem l D kA u w tx t σ xs res) (ih : ∀ t σ xs res, rec t σ xs = some res → gSem l D kA u t σ xs res) (σ : mS) (xs : List Int32) (res : mR) (h : u_4 (kG_Par_takeAtom_p95 rec σ) xs = some res) : sG_Par_takeAtom_p95 l D kA u σ xs res := by
  intro x0 x1 x2 x3 hxs w tx htx
  subst hxs
  obtain ⟨σf, rf, dd⟩ := res
  have hmn : gle σ σf := qG_Par_takeAtom_p95 rec hG σ x0 x1 x2 x3 _ h
  have h : (rec tG_Par_takeAtom_p100 σ [x0, x1, x2, x3, 1]) = some (σf, rf, dd) := h
  intro p e s m args below meth c F Lo mc ms cells slots σ0 w0 tx0 hF hLo hcq hsq hga C
  dsimp only at hF hLo hcq hsq ⊢
  have hcm : cells ≤ mc := by have := hmn.1; omega
  have hsm : slots ≤ ms := by have := hmn.2; omega
  have hle : True := trivial
  have hm : True := trivial
  refine ax_iconst (pc := 95) C 1 d_Par_takeAtom_95 (by decide +kernel) ?_
  refine ax_goto (pc := 96) C 100 d_Par_takeAtom_96 (by decide) ?_
  refine ax_ls ([(0, .ref (u 31)), (1, .int x0), (2, .int x1), (3, .int x2), (4, .int x3)]) [0, 1, 2, 3, 4] rfl ?_
  replace hm : sG_Par_takeAtom_p100 l D kA u σ [x0, x1, x2, x3, 1] (σf, rf, _) := ih tG_Par_takeAtom_p100 _ _ _ h
  exact hm _ _ _ _ _ rfl w tx htx p e s m args below meth c F Lo mc ms cells slots σ0 w0 tx0 hF hLo hcq hsq hga C
set_option maxHeartbeats 4000000 in
set_option maxRecDepth 100000 in
theorem oG_Par_takeAtom_p100 (l : Launch) (D : va_G) (kA : Nat → ClassId) (u : Nat → Nat) (rec : mF) (hG : GM rec) (ihC : ∀ (w : Nat → Nat) (tx : Value) t σ xs res, rec t σ xs = some res → cSem l D kA u w tx t σ xs res) (ih : ∀ t σ xs res, rec t σ xs = some res → gSem l D kA u t σ xs res) (σ : mS) (xs : List Int32) (res : mR) (h : u_5 (kG_Par_takeAtom_p100 rec σ) xs = some res) : sG_Par_takeAtom_p100 l D kA u σ xs res := by
  intro x0 x1 x2 x3 x4 hxs w tx htx
  subst hxs
  obtain ⟨σf, rf, dd⟩ := res
  have hmn : gle σ σf := qG_Par_takeAtom_p100 rec hG σ x0 x1 x2 x3 x4 _ h
  have h : (if x4 = 0 then (rec tG_Par_takeAtom_p114 σ [x0, x1, x2, x3, x4, 1, x2]) else (rec tG_Par_takeAtom_p114 σ [x0, x1, x2, x3, x4, 2, x2])) = some (σf, rf, dd) := h
  intro p e s m args below meth c F Lo mc ms cells slots σ0 w0 tx0 hF hLo hcq hsq hga C
  dsimp only at hF hLo hcq hsq ⊢
  have hcm : cells ≤ mc := by have := hmn.1; omega
  have hsm : slots ≤ ms := by have := hmn.2; omega
  have hle : True := trivial
  have hm : True := trivial
  refine ax_istore (pc := 100) C d_Par_takeAtom_100 (Nat.le_of_ble_eq_true rfl) ([(5, .int x4), (0, .ref (u 31)), (1, .int x0), (2, .int x1), (3, .int x2), (4, .int x3)]) rfl ?_
  refine ax_aload_n (pc := 102) C d_Par_takeAtom_102 rfl 1 rfl ?_
  refine ax_iload_n (pc := 103) C d_Par_takeAtom_103 rfl 4 rfl ?_
  refine ax_iload (pc := 104) C d_Par_takeAtom_104 0 rfl ?_
  refine ax_if_eq (pc := 106) C 113 d_Par_takeAtom_106 (by decide) (fun hc => ?_) (fun hc => ?_)
  · replace h := it_t hc h
    refine ax_iconst (pc := 113) C 1 d_Par_takeAtom_113 (by decide +kernel) ?_
    refine ax_ls ([(0, .ref (u 31)), (1, .int x0), (2, .int x1), (3, .int x2), (4, .int x3), (5, .int x4)]) [1, 2, 3, 4, 5, 0] rfl ?_
    replace hm : sG_Par_takeAtom_p114 l D kA u σ [x0, x1, x2, x3, x4, 1, x2] (σf, rf, _) := ih tG_Par_takeAtom_p114 _ _ _ h
    exact hm _ _ _ _ _ _ _ rfl w tx htx p e s m args below meth c F Lo mc ms cells slots σ0 w0 tx0 hF hLo hcq hsq hga C
  · replace h := it_f hc h
    refine ax_iconst (pc := 109) C 2 d_Par_takeAtom_109 (by decide +kernel) ?_
    refine ax_goto (pc := 110) C 114 d_Par_takeAtom_110 (by decide) ?_
    refine ax_ls ([(0, .ref (u 31)), (1, .int x0), (2, .int x1), (3, .int x2), (4, .int x3), (5, .int x4)]) [1, 2, 3, 4, 5, 0] rfl ?_
    replace hm : sG_Par_takeAtom_p114 l D kA u σ [x0, x1, x2, x3, x4, 2, x2] (σf, rf, _) := ih tG_Par_takeAtom_p114 _ _ _ h
    exact hm _ _ _ _ _ _ _ rfl w tx htx p e s m args below meth c F Lo mc ms cells slots σ0 w0 tx0 hF hLo hcq hsq hga C
set_option maxHeartbeats 4000000 in
set_option maxRecDepth 100000 in
theorem oG_Par_takeAtom_p114 (l : Launch) (D : va_G) (kA : Nat → ClassId) (u : Nat → Nat) (rec : mF) (hG : GM rec) (ihC : ∀ (w : Nat → Nat) (tx : Value) t σ xs res, rec t σ xs = some res → cSem l D kA u w tx t σ xs res) (ih : ∀ t σ xs res, rec t σ xs = some res → gSem l D kA u t σ xs res) (σ : mS) (xs : List Int32) (res : mR) (h : u_7 (kG_Par_takeAtom_p114 rec σ) xs = some res) : sG_Par_takeAtom_p114 l D kA u σ xs res := by
  intro x0 x1 x2 x3 x4 x5 x6 hxs w tx htx
  subst hxs
  obtain ⟨σf, rf, dd⟩ := res
  have hmn : gle σ σf := qG_Par_takeAtom_p114 rec hG σ x0 x1 x2 x3 x4 x5 x6 _ h
  have h : (bnd (rec tC_Par_settle σ [x6, x5, x3, x0]) (fun σ1 r1 => if x4 = 0 then (bnd (rec tG_For_addNode σ1 [9, x1, (-1)]) (fun σ2 r2 => if rok σ2 3701 38 = true then (lt_ (rAdd σ2 3701 38 r2) (fun σ3 => rec tG_Par_takeAtom_p151 σ3 [x0, x1, x2, x3, x4])) else none)) else (bnd (rec tG_Par_takeEquation σ1 [x1]) (fun σ4 r4 => rec tG_Par_takeAtom_p151 σ4 [x0, x1, x2, x3, x4])))) = some (σf, rf, dd) := h
  intro p e s m args below meth c F Lo mc ms cells slots σ0 w0 tx0 hF hLo hcq hsq hga C
  dsimp only at hF hLo hcq hsq ⊢
  have hcm : cells ≤ mc := by have := hmn.1; omega
  have hsm : slots ≤ ms := by have := hmn.2; omega
  have hle : True := trivial
  have hm : True := trivial
  refine ax_iload (pc := 114) C d_Par_takeAtom_114 4 rfl ?_
  refine ax_iload_n (pc := 116) C d_Par_takeAtom_116 rfl 1 rfl ?_
  replace h := it_b h
  obtain ⟨σ1, r1, d1_1, d2_1, h1, h, hd2, hd1⟩ := h
  replace hle := hG _ _ _ _ (by decide) h1
  dsimp only at hle
  replace hmn : gle σ1 σf := gm_use h (gm_if (gm_bnd hG (Nat.le_of_ble_eq_true rfl) (fun _ _ => (gm_if (gm_lt (rAdd_le _ _ _ _) (gm_tail hG (Nat.le_of_ble_eq_true rfl))) gm_none))) (gm_bnd hG (Nat.le_of_ble_eq_true rfl) (fun _ _ => (gm_tail hG (Nat.le_of_ble_eq_true rfl)))))
  replace hm : sC_Par_settle l D kA u w tx σ [x6, x5, x3, x0] (σ1, r1, d1_1) := ihC _ _ tC_Par_settle _ _ _ h1
  refine cc_Vv (pc := 117) C (σ2 := σ1) (As := [.int x6, .int x5, .int x3, .int x0]) (rest := []) (hm _ _ _ _ rfl) ml_Par_137 31 rfl rfl rfl d_Par_takeAtom_117 rfl rfl (by dsimp only; omega) (by dsimp only; omega) hcm hsm (Nat.le_of_ble_eq_true rfl) ?_
  replace hcq : cells + σf.2.2 3001 ≤ mc + σ1.2.2 3001 := by have := hle.1; omega
  replace hsq : slots + σf.2.2 3002 ≤ ms + σ1.2.2 3002 := by have := hle.2; omega
  replace hF : d2_1 + 3 ≤ F := by omega
  replace hLo : 48 * d2_1 + 144 ≤ Lo := by omega
  refine ax_iload (pc := 120) C d_Par_takeAtom_120 5 rfl ?_
  refine ax_if_eq (pc := 122) C 133 d_Par_takeAtom_122 (by decide) (fun hc => ?_) (fun hc => ?_)
  · replace h := it_t hc h
    refine ax_aload_n (pc := 133) C d_Par_takeAtom_133 rfl 0 rfl ?_
    refine cg_31_7_Par_30 (pc := 134) C d_Par_takeAtom_134 ?_
    refine ax_aload_n (pc := 137) C d_Par_takeAtom_137 rfl 0 rfl ?_
    refine cg_31_4_Par_37 (pc := 138) C d_Par_takeAtom_138 ?_
    refine ax_bipush (pc := 141) C 9 d_Par_takeAtom_141 (by decide +kernel) ?_
    refine ax_iload_n (pc := 143) C d_Par_takeAtom_143 rfl 2 rfl ?_
    refine ax_iconst (pc := 144) C (-1) d_Par_takeAtom_144 (by decide +kernel) ?_
    replace h := it_b h
    obtain ⟨σ2, r2, d1_2, d2_2, h1, h, hd2, hd1⟩ := h
    replace hle := hG _ _ _ _ (by decide) h1
    dsimp only at hle
    replace hmn : gle σ2 σf := gm_use h (gm_if (gm_lt (rAdd_le _ _ _ _) (gm_tail hG (Nat.le_of_ble_eq_true rfl))) gm_none)
    replace hm : sG_For_addNode l D kA u σ1 [9, x1, (-1)] (σ2, r2, d1_2) := ih tG_For_addNode _ _ _ h1
    refine gc_Vi (pc := 145) C (As := [.int 9, .int x1, .int (-1)]) (rest := [.ref (u 37)]) (hm _ _ _ rfl w tx) ml_Par_141 14 rfl rfl rfl d_Par_takeAtom_145 rfl rfl (by dsimp only; omega) (by dsimp only; omega) (by have := hmn.1; have := hle.1; dsimp only; omega) (by have := hmn.2; have := hle.2; dsimp only; omega) (Nat.le_of_ble_eq_true rfl) (fun r9 w1 hw => ?_)
    obtain ⟨hrq2, w2, tx2, hag2, htq2, hwq2⟩ := hw
    dsimp only at hwq2 hrq2
    subst hwq2
    replace hrq2 := hrq2.symm
    subst hrq2
    dsimp only
    replace htq2 := htq2.symm
    subst htq2
    have hga2 : ∀ i, ([11, 16, 19, 38] : List Nat).elem i = false → w2 i = w0 i := fun i hi => (hag2 i (by revert hi; exact el_sub (by decide))).trans (hga i hi)
    have htx2 : tx = .ref (w2 2) := by rw [hag2 2 rfl]; exact htx
    replace hcq : (cells + (σ2.2.2 3001 - σ1.2.2 3001)) + σf.2.2 3001 ≤ mc + σ2.2.2 3001 := by have := hmn.1; have := hle.1; omega
    replace hcm : (cells + (σ2.2.2 3001 - σ1.2.2 3001)) ≤ mc := by have := hmn.1; have := hle.1; omega
    generalize cells + (σ2.2.2 3001 - σ1.2.2 3001) = cells at hcq hcm ⊢
    replace hsq : (slots + (σ2.2.2 3002 - σ1.2.2 3002)) + σf.2.2 3002 ≤ ms + σ2.2.2 3002 := by have := hmn.2; have := hle.2; omega
    replace hsm : (slots + (σ2.2.2 3002 - σ1.2.2 3002)) ≤ ms := by have := hmn.2; have := hle.2; omega
    generalize slots + (σ2.2.2 3002 - σ1.2.2 3002) = slots at hsq hsm ⊢
    replace hF : d2_2 + 3 ≤ F := by omega
    replace hLo : 48 * d2_2 + 144 ≤ Lo := by omega
    replace h := it_g h
    obtain ⟨hb, h⟩ := h
    replace h := it_l h
    replace hle := rAdd_le σ2 3701 38 r2
    replace hmn : gle (rAdd σ2 3701 38 r2) σf := gm_use h (gm_tail hG (Nat.le_of_ble_eq_true rfl))
    refine ca_37 (pc := 148) C (rest := []) ml_Par_145 d_Par_takeAtom_148 hb hF hLo (by have := hmn.1; have := hle.1; omega) (by have := hmn.2; have := hle.2; omega) (Nat.le_of_ble_eq_true rfl) (fun w3 hag3 => ?_)
    generalize rAdd σ2 3701 38 r2 = σ3 at h hmn hle ⊢
    have hga3 : ∀ i, ([11, 16, 19, 38] : List Nat).elem i = false → w3 i = w0 i := fun i hi => (hag3 i (by revert hi; exact el_sub (by decide))).trans (hga2 i hi)
    have htx3 : tx = .ref (w3 2) := by rw [hag3 2 rfl]; exact htx2
    replace hcq : (cells + (σ3.2.2 3001 - σ2.2.2 3001)) + σf.2.2 3001 ≤ mc + σ3.2.2 3001 := by have := hmn.1; have := hle.1; omega
    replace hcm : (cells + (σ3.2.2 3001 - σ2.2.2 3001)) ≤ mc := by have := hmn.1; have := hle.1; omega
    generalize cells + (σ3.2.2 3001 - σ2.2.2 3001) = cells at hcq hcm ⊢
    replace hsq : (slots + (σ3.2.2 3002 - σ2.2.2 3002)) + σf.2.2 3002 ≤ ms + σ3.2.2 3002 := by have := hmn.2; have := hle.2; omega
    replace hsm : (slots + (σ3.2.2 3002 - σ2.2.2 3002)) ≤ ms := by have := hmn.2; have := hle.2; omega
    generalize slots + (σ3.2.2 3002 - σ2.2.2 3002) = slots at hsq hsm ⊢
    refine ax_ls ([(0, .ref (u 31)), (1, .int x0), (2, .int x1), (3, .int x2), (4, .int x3), (5, .int x4)]) [0, 1, 2, 3, 4, 5] rfl ?_
    replace hm : sG_Par_takeAtom_p151 l D kA u σ3 [x0, x1, x2, x3, x4] (σf, rf, _) := ih tG_Par_takeAtom_p151 _ _ _ h
    exact hm _ _ _ _ _ rfl w3 tx htx3 p e s m args below meth c F Lo mc ms cells slots σ0 w0 tx0 hF hLo hcq hsq hga3 C
  · replace h := it_f hc h
    refine ax_aload_n (pc := 125) C d_Par_takeAtom_125 rfl 0 rfl ?_
    refine ax_iload_n (pc := 126) C d_Par_takeAtom_126 rfl 2 rfl ?_
    replace h := it_b h
    obtain ⟨σ4, r4, d1_4, d2_4, h1, h, hd2, hd1⟩ := h
    replace hle := hG _ _ _ _ (by decide) h1
    dsimp only at hle
    replace hmn : gle σ4 σf := gm_use h (gm_tail hG (Nat.le_of_ble_eq_true rfl))
    replace hm : sG_Par_takeEquation l D kA u σ1 [x1] (σ4, r4, d1_4) := ih tG_Par_takeEquation _ _ _ h1
    refine gc_Vv (pc := 127) C (As := [.int x1]) (rest := []) (hm _ rfl w tx htx) ml_Par_126 31 rfl rfl rfl d_Par_takeAtom_127 rfl rfl (by dsimp only; omega) (by dsimp only; omega) (by have := hmn.1; have := hle.1; dsimp only; omega) (by have := hmn.2; have := hle.2; dsimp only; omega) (Nat.le_of_ble_eq_true rfl) (fun w1 hw => ?_)
    obtain ⟨w4, tx4, hag4, htq4, hwq4⟩ := hw
    dsimp only at hwq4
    subst hwq4
    dsimp only
    replace htq4 := htq4.symm
    subst htq4
    have hga4 : ∀ i, ([11, 16, 19, 38] : List Nat).elem i = false → w4 i = w0 i := fun i hi => (hag4 i (by revert hi; exact el_sub (by decide))).trans (hga i hi)
    have htx4 : tx = .ref (w4 2) := by rw [hag4 2 rfl]; exact htx
    replace hcq : (cells + (σ4.2.2 3001 - σ1.2.2 3001)) + σf.2.2 3001 ≤ mc + σ4.2.2 3001 := by have := hmn.1; have := hle.1; omega
    replace hcm : (cells + (σ4.2.2 3001 - σ1.2.2 3001)) ≤ mc := by have := hmn.1; have := hle.1; omega
    generalize cells + (σ4.2.2 3001 - σ1.2.2 3001) = cells at hcq hcm ⊢
    replace hsq : (slots + (σ4.2.2 3002 - σ1.2.2 3002)) + σf.2.2 3002 ≤ ms + σ4.2.2 3002 := by have := hmn.2; have := hle.2; omega
    replace hsm : (slots + (σ4.2.2 3002 - σ1.2.2 3002)) ≤ ms := by have := hmn.2; have := hle.2; omega
    generalize slots + (σ4.2.2 3002 - σ1.2.2 3002) = slots at hsq hsm ⊢
    replace hF : d2_4 + 3 ≤ F := by omega
    replace hLo : 48 * d2_4 + 144 ≤ Lo := by omega
    refine ax_goto (pc := 130) C 151 d_Par_takeAtom_130 (by decide) ?_
    refine ax_ls ([(0, .ref (u 31)), (1, .int x0), (2, .int x1), (3, .int x2), (4, .int x3), (5, .int x4)]) [0, 1, 2, 3, 4, 5] rfl ?_
    replace hm : sG_Par_takeAtom_p151 l D kA u σ4 [x0, x1, x2, x3, x4] (σf, rf, _) := ih tG_Par_takeAtom_p151 _ _ _ h
    exact hm _ _ _ _ _ rfl w4 tx htx4 p e s m args below meth c F Lo mc ms cells slots σ0 w0 tx0 hF hLo hcq hsq hga4 C
set_option maxHeartbeats 4000000 in
set_option maxRecDepth 100000 in
theorem oG_Par_takeAtom_p151 (l : Launch) (D : va_G) (kA : Nat → ClassId) (u : Nat → Nat) (rec : mF) (hG : GM rec) (ihC : ∀ (w : Nat → Nat) (tx : Value) t σ xs res, rec t σ xs = some res → cSem l D kA u w tx t σ xs res) (ih : ∀ t σ xs res, rec t σ xs = some res → gSem l D kA u t σ xs res) (σ : mS) (xs : List Int32) (res : mR) (h : u_5 (kG_Par_takeAtom_p151 rec σ) xs = some res) : sG_Par_takeAtom_p151 l D kA u σ xs res := by
  intro x0 x1 x2 x3 x4 hxs w tx htx
  subst hxs
  obtain ⟨σf, rf, dd⟩ := res
  have hmn : gle σ σf := qG_Par_takeAtom_p151 rec hG σ x0 x1 x2 x3 x4 _ h
  have h : (some (σ, 0, 0)) = some (σf, rf, dd) := h
  intro p e s m args below meth c F Lo mc ms cells slots σ0 w0 tx0 hF hLo hcq hsq hga C
  dsimp only at hF hLo hcq hsq ⊢
  have hcm : cells ≤ mc := by have := hmn.1; omega
  have hsm : slots ≤ ms := by have := hmn.2; omega
  have hle : True := trivial
  have hm : True := trivial
  cases h
  exact ax_vret (pc := 151) C d_Par_takeAtom_151 ⟨w, tx, hga, rfl, rfl⟩ hcm hsm
set_option maxHeartbeats 4000000 in
set_option maxRecDepth 100000 in
theorem oG_Par_takeBound (l : Launch) (D : va_G) (kA : Nat → ClassId) (u : Nat → Nat) (rec : mF) (hG : GM rec) (ihC : ∀ (w : Nat → Nat) (tx : Value) t σ xs res, rec t σ xs = some res → cSem l D kA u w tx t σ xs res) (ih : ∀ t σ xs res, rec t σ xs = some res → gSem l D kA u t σ xs res) (σ : mS) (xs : List Int32) (res : mR) (h : u_0 (kG_Par_takeBound rec σ) xs = some res) : sG_Par_takeBound l D kA u σ xs res := by
  intro hxs w tx htx
  subst hxs
  obtain ⟨σf, rf, dd⟩ := res
  have hmn : gle σ σf := qG_Par_takeBound rec hG σ _ h
  have h : (bnd (rec tC_Wds_advance σ []) (fun σ1 r1 => rec tG_Par_takeBound_p25 σ1 [(σ.1 3202), (σ.1 1402), 0])) = some (σf, rf, dd) := h
  refine ax_Mv.of (by decide +kernel) (Nat.le_of_ble_eq_true rfl) ?_
  intro p e s m args below meth c C hnm
  replace C : ax_C p s m args meth c b_Par_takeBound "ClauseProver$Parser" 4 none D kA (va_A (cpW kA u w tx σ) s.heap.size) := C
  obtain ⟨F, hFe⟩ : ∃ z, z = dd + 3 := ⟨_, rfl⟩
  obtain ⟨Lo, hLoe⟩ : ∃ z, z = 48 * dd + 144 := ⟨_, rfl⟩
  obtain ⟨mc, hmce⟩ : ∃ z, z = σf.2.2 3001 - σ.2.2 3001 := ⟨_, rfl⟩
  obtain ⟨ms, hmse⟩ : ∃ z, z = σf.2.2 3002 - σ.2.2 3002 := ⟨_, rfl⟩
  obtain ⟨σ0, hσ0e⟩ : ∃ z, z = σ := ⟨_, rfl⟩
  obtain ⟨w0, hw0e⟩ : ∃ z, z = w := ⟨_, rfl⟩
  obtain ⟨tx0, htx0e⟩ : ∃ z, z = tx := ⟨_, rfl⟩
  suffices K : ∀ (cells slots : Nat), cells = 0 → slots = 0 → AW p l e { frames := F, cells := mc, slots := ms, locals := Lo } s m args below meth c D kA (va_A (cpW kA u w0 tx0 σ0) s.heap.size) 4 (ax_Qv below args s D kA (cpW kA u w0 tx0 σ0) mc ms (fun w1 => ∃ (w2 : Nat → Nat) (tx2 : Value), (∀ i, ([34, 36] : List Nat).elem i = false → w2 i = w0 i) ∧ tx2 = tx0 ∧ w1 = cpW kA u w2 tx2 σf)) 0 [(0, .ref (u 31))] [] (cpW kA u w tx σ) cells slots by
    have K := K 0 0 rfl rfl
    rw [hFe, hLoe, hmce, hmse, hσ0e, hw0e, htx0e] at K
    exact ax_ls ([(0, .ref (u 31))]) [0] rfl K
  replace C : ax_C p s m args meth c b_Par_takeBound "ClauseProver$Parser" 4 none D kA (va_A (cpW kA u w0 tx0 σ0) s.heap.size) := by rw [hσ0e, hw0e, htx0e]; exact C
  intro cells slots hc0 hs0
  have hcq : cells + σf.2.2 3001 ≤ mc + σ.2.2 3001 := by have := hmn.1; omega
  have hsq : slots + σf.2.2 3002 ≤ ms + σ.2.2 3002 := by have := hmn.2; omega
  have hga : ∀ i, ([34, 36] : List Nat).elem i = false → w i = w0 i := fun i _ => by rw [hw0e]
  have e9 : tx = tx0 := htx0e.symm
  subst e9
  have hF : dd + 3 ≤ F := by omega
  have hLo : 48 * dd + 144 ≤ Lo := by omega
  have hcm : cells ≤ mc := by have := hmn.1; omega
  have hsm : slots ≤ ms := by have := hmn.2; omega
  have hle : True := trivial
  have hm : True := trivial
  refine ax_aload_n (pc := 0) C d_Par_takeBound_0 rfl 0 rfl ?_
  refine cg_31_2_Par_12 (pc := 1) C d_Par_takeBound_1 ?_
  refine cg_32_2_Par_58 (pc := 4) C d_Par_takeBound_4 ?_
  refine ax_istore_n (pc := 7) C d_Par_takeBound_7 rfl (Nat.le_of_ble_eq_true rfl) ([(1, .int (σ.1 3202)), (0, .ref (u 31))]) rfl ?_
  refine ax_aload_n (pc := 8) C d_Par_takeBound_8 rfl 1 rfl ?_
  refine cg_31_4_Par_37 (pc := 9) C d_Par_takeBound_9 ?_
  refine cg_14_2_Par_110 (pc := 12) C d_Par_takeBound_12 ?_
  refine ax_istore_n (pc := 15) C d_Par_takeBound_15 rfl (Nat.le_of_ble_eq_true rfl) ([(2, .int (σ.1 1402)), (1, .int (σ.1 3202)), (0, .ref (u 31))]) rfl ?_
  refine ax_aload_n (pc := 16) C d_Par_takeBound_16 rfl 2 rfl ?_
  refine cg_31_2_Par_12 (pc := 17) C d_Par_takeBound_17 ?_
  replace h := it_b h
  obtain ⟨σ1, r1, d1_1, d2_1, h1, h, hd2, hd1⟩ := h
  replace hle := hG _ _ _ _ (by decide) h1
  dsimp only at hle
  replace hmn : gle σ1 σf := gm_use h (gm_tail hG (Nat.le_of_ble_eq_true rfl))
  replace hm : sC_Wds_advance l D kA u w tx σ [] (σ1, r1, d1_1) := ihC _ _ tC_Wds_advance _ _ _ h1
  refine cc_Vv (pc := 20) C (σ2 := σ1) (As := []) (rest := []) (hm rfl htx) ml_Par_89 32 rfl rfl rfl d_Par_takeBound_20 rfl rfl (by dsimp only; omega) (by dsimp only; omega) hcm hsm (Nat.le_of_ble_eq_true rfl) ?_
  replace hcq : cells + σf.2.2 3001 ≤ mc + σ1.2.2 3001 := by have := hle.1; omega
  replace hsq : slots + σf.2.2 3002 ≤ ms + σ1.2.2 3002 := by have := hle.2; omega
  replace hF : d2_1 + 3 ≤ F := by omega
  replace hLo : 48 * d2_1 + 144 ≤ Lo := by omega
  refine ax_iconst (pc := 23) C 0 d_Par_takeBound_23 (by decide +kernel) ?_
  refine ax_istore_n (pc := 24) C d_Par_takeBound_24 rfl (Nat.le_of_ble_eq_true rfl) ([(3, .int 0), (2, .int (σ.1 1402)), (1, .int (σ.1 3202)), (0, .ref (u 31))]) rfl ?_
  refine ax_ls ([(0, .ref (u 31)), (1, .int (σ.1 3202)), (2, .int (σ.1 1402)), (3, .int 0)]) [3, 2, 1, 0] rfl ?_
  replace hm : sG_Par_takeBound_p25 l D kA u σ1 [(σ.1 3202), (σ.1 1402), 0] (σf, rf, _) := ih tG_Par_takeBound_p25 _ _ _ h
  exact hm _ _ _ rfl w tx htx p e s m args below meth c F Lo mc ms cells slots σ0 w0 tx hF hLo hcq hsq hga C
set_option maxHeartbeats 4000000 in
set_option maxRecDepth 100000 in
theorem oG_Par_takeBound_p25 (l : Launch) (D : va_G) (kA : Nat → ClassId) (u : Nat → Nat) (rec : mF) (hG : GM rec) (ihC : ∀ (w : Nat → Nat) (tx : Value) t σ xs res, rec t σ xs = some res → cSem l D kA u w tx t σ xs res) (ih : ∀ t σ xs res, rec t σ xs = some res → gSem l D kA u t σ xs res) (σ : mS) (xs : List Int32) (res : mR) (h : u_3 (kG_Par_takeBound_p25 rec σ) xs = some res) : sG_Par_takeBound_p25 l D kA u σ xs res := by
  intro x0 x1 x2 hxs w tx htx
  subst hxs
  obtain ⟨σf, rf, dd⟩ := res
  have hmn : gle σ σf := qG_Par_takeBound_p25 rec hG σ x0 x1 x2 _ h
  have h : (if 1000000 ≤ x2 then (rec tG_Par_takeBound_p83 σ [x0, x1, x2]) else (bnd (rec tC_Wds_isNow σ [3]) (fun σ1 r1 => if r1 = 0 then (rec tG_Par_takeBound_p83 σ1 [x0, x1, x2]) else (bnd (rec tC_For_bind σ1 []) (fun σ2 r2 => if r2 = (-1) then (bnd (rec tC_Par_fail σ2 [3, (σ2.1 3203)]) (fun σ4 r4 => some (σ4, 0, 0))) else (bnd (rec tC_Wds_advance σ2 []) (fun σ3 r3 => rec tG_Par_takeBound_p25 σ3 [x0, x1, (x2 + 1)]))))))) = some (σf, rf, dd) := h
  intro p e s m args below meth c F Lo mc ms cells slots σ0 w0 tx0 hF hLo hcq hsq hga C
  dsimp only at hF hLo hcq hsq ⊢
  have hcm : cells ≤ mc := by have := hmn.1; omega
  have hsm : slots ≤ ms := by have := hmn.2; omega
  have hle : True := trivial
  have hm : True := trivial
  refine ax_iload_n (pc := 25) C d_Par_takeBound_25 rfl 3 rfl ?_
  refine ax_ldc (pc := 26) C tb_constant_580 d_Par_takeBound_26 ?_
  refine ax_icmp_ge (pc := 28) C 83 d_Par_takeBound_28 (by decide) (fun hc => ?_) (fun hc => ?_)
  · replace h := it_t hc h
    refine ax_ls ([(0, .ref (u 31)), (1, .int x0), (2, .int x1), (3, .int x2)]) [0, 1, 2, 3] rfl ?_
    replace hm : sG_Par_takeBound_p83 l D kA u σ [x0, x1, x2] (σf, rf, _) := ih tG_Par_takeBound_p83 _ _ _ h
    exact hm _ _ _ rfl w tx htx p e s m args below meth c F Lo mc ms cells slots σ0 w0 tx0 hF hLo hcq hsq hga C
  · replace h := it_f hc h
    refine ax_aload_n (pc := 31) C d_Par_takeBound_31 rfl 0 rfl ?_
    refine cg_31_2_Par_12 (pc := 32) C d_Par_takeBound_32 ?_
    refine ax_iconst (pc := 35) C 3 d_Par_takeBound_35 (by decide +kernel) ?_
    replace h := it_b h
    obtain ⟨σ1, r1, d1_1, d2_1, h1, h, hd2, hd1⟩ := h
    replace hle := hG _ _ _ _ (by decide) h1
    dsimp only at hle
    replace hmn : gle σ1 σf := gm_use h (gm_if (gm_tail hG (Nat.le_of_ble_eq_true rfl)) (gm_bnd hG (Nat.le_of_ble_eq_true rfl) (fun _ _ => (gm_if (gm_bnd hG (Nat.le_of_ble_eq_true rfl) (fun _ _ => gm_some)) (gm_bnd hG (Nat.le_of_ble_eq_true rfl) (fun _ _ => (gm_tail hG (Nat.le_of_ble_eq_true rfl))))))))
    replace hm : sC_Wds_isNow l D kA u w tx σ [3] (σ1, r1, d1_1) := ihC _ _ tC_Wds_isNow _ _ _ h1
    refine cc_Vi (pc := 36) C (r0 := r1) (σ2 := σ1) (As := [.int 3]) (rest := []) (hm _ rfl) ml_Par_100 32 rfl rfl rfl d_Par_takeBound_36 rfl rfl (by dsimp only; omega) (by dsimp only; omega) hcm hsm (Nat.le_of_ble_eq_true rfl) ?_
    replace hcq : cells + σf.2.2 3001 ≤ mc + σ1.2.2 3001 := by have := hle.1; omega
    replace hsq : slots + σf.2.2 3002 ≤ ms + σ1.2.2 3002 := by have := hle.2; omega
    replace hF : d2_1 + 3 ≤ F := by omega
    replace hLo : 48 * d2_1 + 144 ≤ Lo := by omega
    refine ax_if_eq (pc := 39) C 83 d_Par_takeBound_39 (by decide) (fun hc => ?_) (fun hc => ?_)
    · replace h := it_t hc h
      refine ax_ls ([(0, .ref (u 31)), (1, .int x0), (2, .int x1), (3, .int x2)]) [0, 1, 2, 3] rfl ?_
      replace hm : sG_Par_takeBound_p83 l D kA u σ1 [x0, x1, x2] (σf, rf, _) := ih tG_Par_takeBound_p83 _ _ _ h
      exact hm _ _ _ rfl w tx htx p e s m args below meth c F Lo mc ms cells slots σ0 w0 tx0 hF hLo hcq hsq hga C
    · replace h := it_f hc h
      refine ax_aload_n (pc := 42) C d_Par_takeBound_42 rfl 0 rfl ?_
      refine cg_31_4_Par_37 (pc := 43) C d_Par_takeBound_43 ?_
      refine ax_aload_n (pc := 46) C d_Par_takeBound_46 rfl 0 rfl ?_
      refine cg_31_2_Par_12 (pc := 47) C d_Par_takeBound_47 ?_
      replace h := it_b h
      obtain ⟨σ2, r2, d1_2, d2_2, h1, h, hd2, hd1⟩ := h
      replace hle := hG _ _ _ _ (by decide) h1
      dsimp only at hle
      replace hmn : gle σ2 σf := gm_use h (gm_if (gm_bnd hG (Nat.le_of_ble_eq_true rfl) (fun _ _ => gm_some)) (gm_bnd hG (Nat.le_of_ble_eq_true rfl) (fun _ _ => (gm_tail hG (Nat.le_of_ble_eq_true rfl)))))
      replace hm : sC_For_bind l D kA u w tx σ1 [] (σ2, r2, d1_2) := ihC _ _ tC_For_bind _ _ _ h1
      refine cc_Vi (pc := 50) C (r0 := r2) (σ2 := σ2) (As := [.ref (u 32)]) (rest := []) (hm rfl) ml_Par_113 14 rfl rfl rfl d_Par_takeBound_50 rfl rfl (by dsimp only; omega) (by dsimp only; omega) hcm hsm (Nat.le_of_ble_eq_true rfl) ?_
      replace hcq : cells + σf.2.2 3001 ≤ mc + σ2.2.2 3001 := by have := hle.1; omega
      replace hsq : slots + σf.2.2 3002 ≤ ms + σ2.2.2 3002 := by have := hle.2; omega
      replace hF : d2_2 + 3 ≤ F := by omega
      replace hLo : 48 * d2_2 + 144 ≤ Lo := by omega
      refine ax_iconst (pc := 53) C (-1) d_Par_takeBound_53 (by decide +kernel) ?_
      refine ax_icmp_ne (pc := 54) C 70 d_Par_takeBound_54 (by decide) (fun hc => ?_) (fun hc => ?_)
      · replace h := it_f hc h
        refine ax_aload_n (pc := 70) C d_Par_takeBound_70 rfl 0 rfl ?_
        refine cg_31_2_Par_12 (pc := 71) C d_Par_takeBound_71 ?_
        replace h := it_b h
        obtain ⟨σ3, r3, d1_3, d2_3, h1, h, hd2, hd1⟩ := h
        replace hle := hG _ _ _ _ (by decide) h1
        dsimp only at hle
        replace hmn : gle σ3 σf := gm_use h (gm_tail hG (Nat.le_of_ble_eq_true rfl))
        replace hm : sC_Wds_advance l D kA u w tx σ2 [] (σ3, r3, d1_3) := ihC _ _ tC_Wds_advance _ _ _ h1
        refine cc_Vv (pc := 74) C (σ2 := σ3) (As := []) (rest := []) (hm rfl htx) ml_Par_89 32 rfl rfl rfl d_Par_takeBound_74 rfl rfl (by dsimp only; omega) (by dsimp only; omega) hcm hsm (Nat.le_of_ble_eq_true rfl) ?_
        replace hcq : cells + σf.2.2 3001 ≤ mc + σ3.2.2 3001 := by have := hle.1; omega
        replace hsq : slots + σf.2.2 3002 ≤ ms + σ3.2.2 3002 := by have := hle.2; omega
        replace hF : d2_3 + 3 ≤ F := by omega
        replace hLo : 48 * d2_3 + 144 ≤ Lo := by omega
        refine ax_iinc (pc := 77) C (x2 + 1) d_Par_takeBound_77 3 rfl rfl (Nat.le_of_ble_eq_true rfl) ([(3, .int (x2 + 1)), (0, .ref (u 31)), (1, .int x0), (2, .int x1)]) rfl ?_
        refine ax_goto (pc := 80) C 25 d_Par_takeBound_80 (by decide) ?_
        refine ax_ls ([(0, .ref (u 31)), (1, .int x0), (2, .int x1), (3, .int (x2 + 1))]) [1, 2, 3, 0] rfl ?_
        replace hm : sG_Par_takeBound_p25 l D kA u σ3 [x0, x1, (x2 + 1)] (σf, rf, _) := ih tG_Par_takeBound_p25 _ _ _ h
        exact hm _ _ _ rfl w tx htx p e s m args below meth c F Lo mc ms cells slots σ0 w0 tx0 hF hLo hcq hsq hga C
      · replace h := it_t hc h
        refine ax_aload_n (pc := 57) C d_Par_takeBound_57 rfl 0 rfl ?_
        refine ax_iconst (pc := 58) C 3 d_Par_takeBound_58 (by decide +kernel) ?_
        refine ax_aload_n (pc := 59) C d_Par_takeBound_59 rfl 0 rfl ?_
        refine cg_31_2_Par_12 (pc := 60) C d_Par_takeBound_60 ?_
        refine cg_32_3_Par_77 (pc := 63) C d_Par_takeBound_63 ?_
        replace h := it_b h
        obtain ⟨σ4, r4, d1_4, d2_4, h1, h, hd2, hd1⟩ := h
        replace hle := hG _ _ _ _ (by decide) h1
        dsimp only at hle
        replace hmn : gle σ4 σf := gm_use h gm_some
        replace hm : sC_Par_fail l D kA u w tx σ2 [3, (σ2.1 3203)] (σ4, r4, d1_4) := ihC _ _ tC_Par_fail _ _ _ h1
        refine cc_Vv (pc := 66) C (σ2 := σ4) (As := [.int 3, .int (σ2.1 3203)]) (rest := []) (hm _ _ rfl) ml_Par_96 31 rfl rfl rfl d_Par_takeBound_66 rfl rfl (by dsimp only; omega) (by dsimp only; omega) hcm hsm (Nat.le_of_ble_eq_true rfl) ?_
        replace hcq : cells + σf.2.2 3001 ≤ mc + σ4.2.2 3001 := by have := hle.1; omega
        replace hsq : slots + σf.2.2 3002 ≤ ms + σ4.2.2 3002 := by have := hle.2; omega
        replace hF : d2_4 + 3 ≤ F := by omega
        replace hLo : 48 * d2_4 + 144 ≤ Lo := by omega
        cases h
        exact ax_vret (pc := 69) C d_Par_takeBound_69 ⟨w, tx, hga, rfl, rfl⟩ hcm hsm
set_option maxHeartbeats 4000000 in
set_option maxRecDepth 100000 in
theorem oG_Par_takeBound_p83 (l : Launch) (D : va_G) (kA : Nat → ClassId) (u : Nat → Nat) (rec : mF) (hG : GM rec) (ihC : ∀ (w : Nat → Nat) (tx : Value) t σ xs res, rec t σ xs = some res → cSem l D kA u w tx t σ xs res) (ih : ∀ t σ xs res, rec t σ xs = some res → gSem l D kA u t σ xs res) (σ : mS) (xs : List Int32) (res : mR) (h : u_3 (kG_Par_takeBound_p83 rec σ) xs = some res) : sG_Par_takeBound_p83 l D kA u σ xs res := by
  intro x0 x1 x2 hxs w tx htx
  subst hxs
  obtain ⟨σf, rf, dd⟩ := res
  have hmn : gle σ σf := qG_Par_takeBound_p83 rec hG σ x0 x1 x2 _ h
  have h : (if (σ.1 1402) = x1 then (rec tG_Par_takeBound_p106 σ [x0, x1, x2]) else (bnd (rec tC_Wds_isNow σ [8]) (fun σ1 r1 => if r1 = 0 then (rec tG_Par_takeBound_p106 σ1 [x0, x1, x2]) else (bnd (rec tG_Par_push σ1 [x0, x1]) (fun σ2 r2 => bnd (rec tC_Wds_advance σ2 []) (fun σ3 r3 => some (σ3, 0, 0))))))) = some (σf, rf, dd) := h
  intro p e s m args below meth c F Lo mc ms cells slots σ0 w0 tx0 hF hLo hcq hsq hga C
  dsimp only at hF hLo hcq hsq ⊢
  have hcm : cells ≤ mc := by have := hmn.1; omega
  have hsm : slots ≤ ms := by have := hmn.2; omega
  have hle : True := trivial
  have hm : True := trivial
  refine ax_aload_n (pc := 83) C d_Par_takeBound_83 rfl 0 rfl ?_
  refine cg_31_4_Par_37 (pc := 84) C d_Par_takeBound_84 ?_
  refine cg_14_2_Par_110 (pc := 87) C d_Par_takeBound_87 ?_
  refine ax_iload_n (pc := 90) C d_Par_takeBound_90 rfl 2 rfl ?_
  refine ax_icmp_eq (pc := 91) C 106 d_Par_takeBound_91 (by decide) (fun hc => ?_) (fun hc => ?_)
  · replace h := it_t hc h
    refine ax_ls ([(0, .ref (u 31)), (1, .int x0), (2, .int x1), (3, .int x2)]) [0, 1, 2, 3] rfl ?_
    replace hm : sG_Par_takeBound_p106 l D kA u σ [x0, x1, x2] (σf, rf, _) := ih tG_Par_takeBound_p106 _ _ _ h
    exact hm _ _ _ rfl w tx htx p e s m args below meth c F Lo mc ms cells slots σ0 w0 tx0 hF hLo hcq hsq hga C
  · replace h := it_f hc h
    refine ax_aload_n (pc := 94) C d_Par_takeBound_94 rfl 0 rfl ?_
    refine cg_31_2_Par_12 (pc := 95) C d_Par_takeBound_95 ?_
    refine ax_bipush (pc := 98) C 8 d_Par_takeBound_98 (by decide +kernel) ?_
    replace h := it_b h
    obtain ⟨σ1, r1, d1_1, d2_1, h1, h, hd2, hd1⟩ := h
    replace hle := hG _ _ _ _ (by decide) h1
    dsimp only at hle
    replace hmn : gle σ1 σf := gm_use h (gm_if (gm_tail hG (Nat.le_of_ble_eq_true rfl)) (gm_bnd hG (Nat.le_of_ble_eq_true rfl) (fun _ _ => (gm_bnd hG (Nat.le_of_ble_eq_true rfl) (fun _ _ => gm_some)))))
    replace hm : sC_Wds_isNow l D kA u w tx σ [8] (σ1, r1, d1_1) := ihC _ _ tC_Wds_isNow _ _ _ h1
    refine cc_Vi (pc := 100) C (r0 := r1) (σ2 := σ1) (As := [.int 8]) (rest := []) (hm _ rfl) ml_Par_100 32 rfl rfl rfl d_Par_takeBound_100 rfl rfl (by dsimp only; omega) (by dsimp only; omega) hcm hsm (Nat.le_of_ble_eq_true rfl) ?_
    replace hcq : cells + σf.2.2 3001 ≤ mc + σ1.2.2 3001 := by have := hle.1; omega
    replace hsq : slots + σf.2.2 3002 ≤ ms + σ1.2.2 3002 := by have := hle.2; omega
    replace hF : d2_1 + 3 ≤ F := by omega
    replace hLo : 48 * d2_1 + 144 ≤ Lo := by omega
    refine ax_if_ne (pc := 103) C 111 d_Par_takeBound_103 (by decide) (fun hc => ?_) (fun hc => ?_)
    · replace h := it_f hc h
      refine ax_aload_n (pc := 111) C d_Par_takeBound_111 rfl 0 rfl ?_
      refine ax_iload_n (pc := 112) C d_Par_takeBound_112 rfl 1 rfl ?_
      refine ax_iload_n (pc := 113) C d_Par_takeBound_113 rfl 2 rfl ?_
      replace h := it_b h
      obtain ⟨σ2, r2, d1_2, d2_2, h1, h, hd2, hd1⟩ := h
      replace hle := hG _ _ _ _ (by decide) h1
      dsimp only at hle
      replace hmn : gle σ2 σf := gm_use h (gm_bnd hG (Nat.le_of_ble_eq_true rfl) (fun _ _ => gm_some))
      replace hm : sG_Par_push l D kA u σ1 [x0, x1] (σ2, r2, d1_2) := ih tG_Par_push _ _ _ h1
      refine gc_Vv (pc := 114) C (As := [.int x0, .int x1]) (rest := []) (hm _ _ rfl w tx) ml_Par_104 31 rfl rfl rfl d_Par_takeBound_114 rfl rfl (by dsimp only; omega) (by dsimp only; omega) (by have := hmn.1; have := hle.1; dsimp only; omega) (by have := hmn.2; have := hle.2; dsimp only; omega) (Nat.le_of_ble_eq_true rfl) (fun w1 hw => ?_)
      obtain ⟨w2, tx2, hag2, htq2, hwq2⟩ := hw
      dsimp only at hwq2
      subst hwq2
      dsimp only
      replace htq2 := htq2.symm
      subst htq2
      have hga2 : ∀ i, ([34, 36] : List Nat).elem i = false → w2 i = w0 i := fun i hi => (hag2 i (by revert hi; exact el_sub (by decide))).trans (hga i hi)
      have htx2 : tx = .ref (w2 2) := by rw [hag2 2 rfl]; exact htx
      replace hcq : (cells + (σ2.2.2 3001 - σ1.2.2 3001)) + σf.2.2 3001 ≤ mc + σ2.2.2 3001 := by have := hmn.1; have := hle.1; omega
      replace hcm : (cells + (σ2.2.2 3001 - σ1.2.2 3001)) ≤ mc := by have := hmn.1; have := hle.1; omega
      generalize cells + (σ2.2.2 3001 - σ1.2.2 3001) = cells at hcq hcm ⊢
      replace hsq : (slots + (σ2.2.2 3002 - σ1.2.2 3002)) + σf.2.2 3002 ≤ ms + σ2.2.2 3002 := by have := hmn.2; have := hle.2; omega
      replace hsm : (slots + (σ2.2.2 3002 - σ1.2.2 3002)) ≤ ms := by have := hmn.2; have := hle.2; omega
      generalize slots + (σ2.2.2 3002 - σ1.2.2 3002) = slots at hsq hsm ⊢
      replace hF : d2_2 + 3 ≤ F := by omega
      replace hLo : 48 * d2_2 + 144 ≤ Lo := by omega
      refine ax_aload_n (pc := 117) C d_Par_takeBound_117 rfl 0 rfl ?_
      refine cg_31_2_Par_12 (pc := 118) C d_Par_takeBound_118 ?_
      replace h := it_b h
      obtain ⟨σ3, r3, d1_3, d2_3, h1, h, hd2, hd1⟩ := h
      replace hle := hG _ _ _ _ (by decide) h1
      dsimp only at hle
      replace hmn : gle σ3 σf := gm_use h gm_some
      replace hm : sC_Wds_advance l D kA u w2 tx σ2 [] (σ3, r3, d1_3) := ihC _ _ tC_Wds_advance _ _ _ h1
      refine cc_Vv (pc := 121) C (σ2 := σ3) (As := []) (rest := []) (hm rfl htx2) ml_Par_89 32 rfl rfl rfl d_Par_takeBound_121 rfl rfl (by dsimp only; omega) (by dsimp only; omega) hcm hsm (Nat.le_of_ble_eq_true rfl) ?_
      replace hcq : cells + σf.2.2 3001 ≤ mc + σ3.2.2 3001 := by have := hle.1; omega
      replace hsq : slots + σf.2.2 3002 ≤ ms + σ3.2.2 3002 := by have := hle.2; omega
      replace hF : d2_3 + 3 ≤ F := by omega
      replace hLo : 48 * d2_3 + 144 ≤ Lo := by omega
      cases h
      exact ax_vret (pc := 124) C d_Par_takeBound_124 ⟨w2, tx, hga2, rfl, rfl⟩ hcm hsm
    · replace h := it_t hc h
      refine ax_ls ([(0, .ref (u 31)), (1, .int x0), (2, .int x1), (3, .int x2)]) [0, 1, 2, 3] rfl ?_
      replace hm : sG_Par_takeBound_p106 l D kA u σ1 [x0, x1, x2] (σf, rf, _) := ih tG_Par_takeBound_p106 _ _ _ h
      exact hm _ _ _ rfl w tx htx p e s m args below meth c F Lo mc ms cells slots σ0 w0 tx0 hF hLo hcq hsq hga C
set_option maxHeartbeats 4000000 in
set_option maxRecDepth 100000 in
theorem oG_Par_takeBound_p106 (l : Launch) (D : va_G) (kA : Nat → ClassId) (u : Nat → Nat) (rec : mF) (hG : GM rec) (ihC : ∀ (w : Nat → Nat) (tx : Value) t σ xs res, rec t σ xs = some res → cSem l D kA u w tx t σ xs res) (ih : ∀ t σ xs res, rec t σ xs = some res → gSem l D kA u t σ xs res) (σ : mS) (xs : List Int32) (res : mR) (h : u_3 (kG_Par_takeBound_p106 rec σ) xs = some res) : sG_Par_takeBound_p106 l D kA u σ xs res := by
  intro x0 x1 x2 hxs w tx htx
  subst hxs
  obtain ⟨σf, rf, dd⟩ := res
  have hmn : gle σ σf := qG_Par_takeBound_p106 rec hG σ x0 x1 x2 _ h
  have h : (bnd (rec tC_Par_refuse σ []) (fun σ1 r1 => some (σ1, 0, 0))) = some (σf, rf, dd) := h
  intro p e s m args below meth c F Lo mc ms cells slots σ0 w0 tx0 hF hLo hcq hsq hga C
  dsimp only at hF hLo hcq hsq ⊢
  have hcm : cells ≤ mc := by have := hmn.1; omega
  have hsm : slots ≤ ms := by have := hmn.2; omega
  have hle : True := trivial
  have hm : True := trivial
  refine ax_aload_n (pc := 106) C d_Par_takeBound_106 rfl 0 rfl ?_
  replace h := it_b h
  obtain ⟨σ1, r1, d1_1, d2_1, h1, h, hd2, hd1⟩ := h
  replace hle := hG _ _ _ _ (by decide) h1
  dsimp only at hle
  replace hmn : gle σ1 σf := gm_use h gm_some
  replace hm : sC_Par_refuse l D kA u w tx σ [] (σ1, r1, d1_1) := ihC _ _ tC_Par_refuse _ _ _ h1
  refine cc_Vv (pc := 107) C (σ2 := σ1) (As := []) (rest := []) (hm rfl) ml_Par_117 31 rfl rfl rfl d_Par_takeBound_107 rfl rfl (by dsimp only; omega) (by dsimp only; omega) hcm hsm (Nat.le_of_ble_eq_true rfl) ?_
  replace hcq : cells + σf.2.2 3001 ≤ mc + σ1.2.2 3001 := by have := hle.1; omega
  replace hsq : slots + σf.2.2 3002 ≤ ms + σ1.2.2 3002 := by have := hle.2; omega
  replace hF : d2_1 + 3 ≤ F := by omega
  replace hLo : 48 * d2_1 + 144 ≤ Lo := by omega
  cases h
  exact ax_vret (pc := 110) C d_Par_takeBound_110 ⟨w, tx, hga, rfl, rfl⟩ hcm hsm
set_option maxHeartbeats 4000000 in
set_option maxRecDepth 100000 in
theorem oG_Par_takeEquation (l : Launch) (D : va_G) (kA : Nat → ClassId) (u : Nat → Nat) (rec : mF) (hG : GM rec) (ihC : ∀ (w : Nat → Nat) (tx : Value) t σ xs res, rec t σ xs = some res → cSem l D kA u w tx t σ xs res) (ih : ∀ t σ xs res, rec t σ xs = some res → gSem l D kA u t σ xs res) (σ : mS) (xs : List Int32) (res : mR) (h : u_1 (kG_Par_takeEquation rec σ) xs = some res) : sG_Par_takeEquation l D kA u σ xs res := by
  intro x0 hxs w tx htx
  subst hxs
  obtain ⟨σf, rf, dd⟩ := res
  have hmn : gle σ σf := qG_Par_takeEquation rec hG σ x0 _ h
  have h : (if (σ.1 3100) = 0 then (bnd (rec tC_Wds_isNow σ [9]) (fun σ1 r1 => if r1 = 0 then (bnd (rec tC_Wds_isNow σ1 [10]) (fun σ2 r2 => if r2 = 0 then (bnd (rec tC_Par_refuse σ2 []) (fun σ3 r3 => some (σ3, 0, 0))) else (rec tG_Par_takeEquation_p45 σ2 [x0, (σ.1 3202)]))) else (rec tG_Par_takeEquation_p45 σ1 [x0, (σ.1 3202)]))) else (some (σ, 0, 0))) = some (σf, rf, dd) := h
  refine ax_Mv.of (by decide +kernel) (Nat.le_of_ble_eq_true rfl) ?_
  intro p e s m args below meth c C hnm
  replace C : ax_C p s m args meth c b_Par_takeEquation "ClauseProver$Parser" 4 none D kA (va_A (cpW kA u w tx σ) s.heap.size) := C
  obtain ⟨F, hFe⟩ : ∃ z, z = dd + 3 := ⟨_, rfl⟩
  obtain ⟨Lo, hLoe⟩ : ∃ z, z = 48 * dd + 144 := ⟨_, rfl⟩
  obtain ⟨mc, hmce⟩ : ∃ z, z = σf.2.2 3001 - σ.2.2 3001 := ⟨_, rfl⟩
  obtain ⟨ms, hmse⟩ : ∃ z, z = σf.2.2 3002 - σ.2.2 3002 := ⟨_, rfl⟩
  obtain ⟨σ0, hσ0e⟩ : ∃ z, z = σ := ⟨_, rfl⟩
  obtain ⟨w0, hw0e⟩ : ∃ z, z = w := ⟨_, rfl⟩
  obtain ⟨tx0, htx0e⟩ : ∃ z, z = tx := ⟨_, rfl⟩
  suffices K : ∀ (cells slots : Nat), cells = 0 → slots = 0 → AW p l e { frames := F, cells := mc, slots := ms, locals := Lo } s m args below meth c D kA (va_A (cpW kA u w0 tx0 σ0) s.heap.size) 4 (ax_Qv below args s D kA (cpW kA u w0 tx0 σ0) mc ms (fun w1 => ∃ (w2 : Nat → Nat) (tx2 : Value), (∀ i, ([11, 16, 19, 38] : List Nat).elem i = false → w2 i = w0 i) ∧ tx2 = tx0 ∧ w1 = cpW kA u w2 tx2 σf)) 0 [(0, .ref (u 31)), (1, .int x0)] [] (cpW kA u w tx σ) cells slots by
    have K := K 0 0 rfl rfl
    rw [hFe, hLoe, hmce, hmse, hσ0e, hw0e, htx0e] at K
    exact ax_ls ([(0, .ref (u 31)), (1, .int x0)]) [0, 1] rfl K
  replace C : ax_C p s m args meth c b_Par_takeEquation "ClauseProver$Parser" 4 none D kA (va_A (cpW kA u w0 tx0 σ0) s.heap.size) := by rw [hσ0e, hw0e, htx0e]; exact C
  intro cells slots hc0 hs0
  have hcq : cells + σf.2.2 3001 ≤ mc + σ.2.2 3001 := by have := hmn.1; omega
  have hsq : slots + σf.2.2 3002 ≤ ms + σ.2.2 3002 := by have := hmn.2; omega
  have hga : ∀ i, ([11, 16, 19, 38] : List Nat).elem i = false → w i = w0 i := fun i _ => by rw [hw0e]
  have e9 : tx = tx0 := htx0e.symm
  subst e9
  have hF : dd + 3 ≤ F := by omega
  have hLo : 48 * dd + 144 ≤ Lo := by omega
  have hcm : cells ≤ mc := by have := hmn.1; omega
  have hsm : slots ≤ ms := by have := hmn.2; omega
  have hle : True := trivial
  have hm : True := trivial
  refine ax_aload_n (pc := 0) C d_Par_takeEquation_0 rfl 0 rfl ?_
  refine cg_31_2_Par_12 (pc := 1) C d_Par_takeEquation_1 ?_
  refine cg_32_2_Par_58 (pc := 4) C d_Par_takeEquation_4 ?_
  refine ax_istore_n (pc := 7) C d_Par_takeEquation_7 rfl (Nat.le_of_ble_eq_true rfl) ([(2, .int (σ.1 3202)), (0, .ref (u 31)), (1, .int x0)]) rfl ?_
  refine ax_aload_n (pc := 8) C d_Par_takeEquation_8 rfl 1 rfl ?_
  refine cg_31_0_Par_41 (pc := 9) C d_Par_takeEquation_9 ?_
  refine ax_if_eq (pc := 12) C 16 d_Par_takeEquation_12 (by decide) (fun hc => ?_) (fun hc => ?_)
  · replace h := it_t hc h
    refine ax_aload_n (pc := 16) C d_Par_takeEquation_16 rfl 1 rfl ?_
    refine cg_31_2_Par_12 (pc := 17) C d_Par_takeEquation_17 ?_
    refine ax_bipush (pc := 20) C 9 d_Par_takeEquation_20 (by decide +kernel) ?_
    replace h := it_b h
    obtain ⟨σ1, r1, d1_1, d2_1, h1, h, hd2, hd1⟩ := h
    replace hle := hG _ _ _ _ (by decide) h1
    dsimp only at hle
    replace hmn : gle σ1 σf := gm_use h (gm_if (gm_bnd hG (Nat.le_of_ble_eq_true rfl) (fun _ _ => (gm_if (gm_bnd hG (Nat.le_of_ble_eq_true rfl) (fun _ _ => gm_some)) (gm_tail hG (Nat.le_of_ble_eq_true rfl))))) (gm_tail hG (Nat.le_of_ble_eq_true rfl)))
    replace hm : sC_Wds_isNow l D kA u w tx σ [9] (σ1, r1, d1_1) := ihC _ _ tC_Wds_isNow _ _ _ h1
    refine cc_Vi (pc := 22) C (r0 := r1) (σ2 := σ1) (As := [.int 9]) (rest := []) (hm _ rfl) ml_Par_100 32 rfl rfl rfl d_Par_takeEquation_22 rfl rfl (by dsimp only; omega) (by dsimp only; omega) hcm hsm (Nat.le_of_ble_eq_true rfl) ?_
    replace hcq : cells + σf.2.2 3001 ≤ mc + σ1.2.2 3001 := by have := hle.1; omega
    replace hsq : slots + σf.2.2 3002 ≤ ms + σ1.2.2 3002 := by have := hle.2; omega
    replace hF : d2_1 + 3 ≤ F := by omega
    replace hLo : 48 * d2_1 + 144 ≤ Lo := by omega
    refine ax_if_ne (pc := 25) C 45 d_Par_takeEquation_25 (by decide) (fun hc => ?_) (fun hc => ?_)
    · replace h := it_f hc h
      refine ax_ls ([(0, .ref (u 31)), (1, .int x0), (2, .int (σ.1 3202))]) [1, 2, 0] rfl ?_
      replace hm : sG_Par_takeEquation_p45 l D kA u σ1 [x0, (σ.1 3202)] (σf, rf, _) := ih tG_Par_takeEquation_p45 _ _ _ h
      exact hm _ _ rfl w tx htx p e s m args below meth c F Lo mc ms cells slots σ0 w0 tx hF hLo hcq hsq hga C
    · replace h := it_t hc h
      refine ax_aload_n (pc := 28) C d_Par_takeEquation_28 rfl 1 rfl ?_
      refine cg_31_2_Par_12 (pc := 29) C d_Par_takeEquation_29 ?_
      refine ax_bipush (pc := 32) C 10 d_Par_takeEquation_32 (by decide +kernel) ?_
      replace h := it_b h
      obtain ⟨σ2, r2, d1_2, d2_2, h1, h, hd2, hd1⟩ := h
      replace hle := hG _ _ _ _ (by decide) h1
      dsimp only at hle
      replace hmn : gle σ2 σf := gm_use h (gm_if (gm_bnd hG (Nat.le_of_ble_eq_true rfl) (fun _ _ => gm_some)) (gm_tail hG (Nat.le_of_ble_eq_true rfl)))
      replace hm : sC_Wds_isNow l D kA u w tx σ1 [10] (σ2, r2, d1_2) := ihC _ _ tC_Wds_isNow _ _ _ h1
      refine cc_Vi (pc := 34) C (r0 := r2) (σ2 := σ2) (As := [.int 10]) (rest := []) (hm _ rfl) ml_Par_100 32 rfl rfl rfl d_Par_takeEquation_34 rfl rfl (by dsimp only; omega) (by dsimp only; omega) hcm hsm (Nat.le_of_ble_eq_true rfl) ?_
      replace hcq : cells + σf.2.2 3001 ≤ mc + σ2.2.2 3001 := by have := hle.1; omega
      replace hsq : slots + σf.2.2 3002 ≤ ms + σ2.2.2 3002 := by have := hle.2; omega
      replace hF : d2_2 + 3 ≤ F := by omega
      replace hLo : 48 * d2_2 + 144 ≤ Lo := by omega
      refine ax_if_ne (pc := 37) C 45 d_Par_takeEquation_37 (by decide) (fun hc => ?_) (fun hc => ?_)
      · replace h := it_f hc h
        refine ax_ls ([(0, .ref (u 31)), (1, .int x0), (2, .int (σ.1 3202))]) [1, 2, 0] rfl ?_
        replace hm : sG_Par_takeEquation_p45 l D kA u σ2 [x0, (σ.1 3202)] (σf, rf, _) := ih tG_Par_takeEquation_p45 _ _ _ h
        exact hm _ _ rfl w tx htx p e s m args below meth c F Lo mc ms cells slots σ0 w0 tx hF hLo hcq hsq hga C
      · replace h := it_t hc h
        refine ax_aload_n (pc := 40) C d_Par_takeEquation_40 rfl 1 rfl ?_
        replace h := it_b h
        obtain ⟨σ3, r3, d1_3, d2_3, h1, h, hd2, hd1⟩ := h
        replace hle := hG _ _ _ _ (by decide) h1
        dsimp only at hle
        replace hmn : gle σ3 σf := gm_use h gm_some
        replace hm : sC_Par_refuse l D kA u w tx σ2 [] (σ3, r3, d1_3) := ihC _ _ tC_Par_refuse _ _ _ h1
        refine cc_Vv (pc := 41) C (σ2 := σ3) (As := []) (rest := []) (hm rfl) ml_Par_117 31 rfl rfl rfl d_Par_takeEquation_41 rfl rfl (by dsimp only; omega) (by dsimp only; omega) hcm hsm (Nat.le_of_ble_eq_true rfl) ?_
        replace hcq : cells + σf.2.2 3001 ≤ mc + σ3.2.2 3001 := by have := hle.1; omega
        replace hsq : slots + σf.2.2 3002 ≤ ms + σ3.2.2 3002 := by have := hle.2; omega
        replace hF : d2_3 + 3 ≤ F := by omega
        replace hLo : 48 * d2_3 + 144 ≤ Lo := by omega
        cases h
        exact ax_vret (pc := 44) C d_Par_takeEquation_44 ⟨w, tx, hga, rfl, rfl⟩ hcm hsm
  · replace h := it_f hc h
    cases h
    exact ax_vret (pc := 15) C d_Par_takeEquation_15 ⟨w, tx, hga, rfl, rfl⟩ hcm hsm
set_option maxHeartbeats 4000000 in
set_option maxRecDepth 100000 in
theorem oG_Par_takeEquation_p45 (l : Launch) (D : va_G) (kA : Nat → ClassId) (u : Nat → Nat) (rec : mF) (hG : GM rec) (ihC : ∀ (w : Nat → Nat) (tx : Value) t σ xs res, rec t σ xs = some res → cSem l D kA u w tx t σ xs res) (ih : ∀ t σ xs res, rec t σ xs = some res → gSem l D kA u t σ xs res) (σ : mS) (xs : List Int32) (res : mR) (h : u_2 (kG_Par_takeEquation_p45 rec σ) xs = some res) : sG_Par_takeEquation_p45 l D kA u σ xs res := by
  intro x0 x1 hxs w tx htx
  subst hxs
  obtain ⟨σf, rf, dd⟩ := res
  have hmn : gle σ σf := qG_Par_takeEquation_p45 rec hG σ x0 x1 _ h
  have h : (bnd (rec tC_Wds_advance σ []) (fun σ1 r1 => bnd (rec tG_Par_takeTerm σ1 [(σ1.1 3108)]) (fun σ2 r2 => bnd (rec tG_For_addNode σ2 [x1, x0, (σ1.1 1501)]) (fun σ3 r3 => if rok σ3 3701 38 = true then (lt_ (rAdd σ3 3701 38 r3) (fun σ4 => some (σ4, 0, 0))) else none)))) = some (σf, rf, dd) := h
  intro p e s m args below meth c F Lo mc ms cells slots σ0 w0 tx0 hF hLo hcq hsq hga C
  dsimp only at hF hLo hcq hsq ⊢
  have hcm : cells ≤ mc := by have := hmn.1; omega
  have hsm : slots ≤ ms := by have := hmn.2; omega
  have hle : True := trivial
  have hm : True := trivial
  refine ax_aload_n (pc := 45) C d_Par_takeEquation_45 rfl 0 rfl ?_
  refine cg_31_2_Par_12 (pc := 46) C d_Par_takeEquation_46 ?_
  replace h := it_b h
  obtain ⟨σ1, r1, d1_1, d2_1, h1, h, hd2, hd1⟩ := h
  replace hle := hG _ _ _ _ (by decide) h1
  dsimp only at hle
  replace hmn : gle σ1 σf := gm_use h (gm_bnd hG (Nat.le_of_ble_eq_true rfl) (fun _ _ => (gm_bnd hG (Nat.le_of_ble_eq_true rfl) (fun _ _ => (gm_if (gm_lt (rAdd_le _ _ _ _) gm_some) gm_none)))))
  replace hm : sC_Wds_advance l D kA u w tx σ [] (σ1, r1, d1_1) := ihC _ _ tC_Wds_advance _ _ _ h1
  refine cc_Vv (pc := 49) C (σ2 := σ1) (As := []) (rest := []) (hm rfl htx) ml_Par_89 32 rfl rfl rfl d_Par_takeEquation_49 rfl rfl (by dsimp only; omega) (by dsimp only; omega) hcm hsm (Nat.le_of_ble_eq_true rfl) ?_
  replace hcq : cells + σf.2.2 3001 ≤ mc + σ1.2.2 3001 := by have := hle.1; omega
  replace hsq : slots + σf.2.2 3002 ≤ ms + σ1.2.2 3002 := by have := hle.2; omega
  replace hF : d2_1 + 3 ≤ F := by omega
  replace hLo : 48 * d2_1 + 144 ≤ Lo := by omega
  refine ax_aload_n (pc := 52) C d_Par_takeEquation_52 rfl 0 rfl ?_
  refine cg_31_4_Par_37 (pc := 53) C d_Par_takeEquation_53 ?_
  refine cg_14_0_Par_120 (pc := 56) C d_Par_takeEquation_56 ?_
  refine cg_15_1_Par_83 (pc := 59) C d_Par_takeEquation_59 ?_
  refine ax_istore_n (pc := 62) C d_Par_takeEquation_62 rfl (Nat.le_of_ble_eq_true rfl) ([(3, .int (σ1.1 1501)), (0, .ref (u 31)), (1, .int x0), (2, .int x1)]) rfl ?_
  refine ax_aload_n (pc := 63) C d_Par_takeEquation_63 rfl 1 rfl ?_
  refine ax_aload_n (pc := 64) C d_Par_takeEquation_64 rfl 1 rfl ?_
  refine cg_31_8_Par_86 (pc := 65) C d_Par_takeEquation_65 ?_
  replace h := it_b h
  obtain ⟨σ2, r2, d1_2, d2_2, h1, h, hd2, hd1⟩ := h
  replace hle := hG _ _ _ _ (by decide) h1
  dsimp only at hle
  replace hmn : gle σ2 σf := gm_use h (gm_bnd hG (Nat.le_of_ble_eq_true rfl) (fun _ _ => (gm_if (gm_lt (rAdd_le _ _ _ _) gm_some) gm_none)))
  replace hm : sG_Par_takeTerm l D kA u σ1 [(σ1.1 3108)] (σ2, r2, d1_2) := ih tG_Par_takeTerm _ _ _ h1
  refine gc_Vv (pc := 68) C (As := [.int (σ1.1 3108)]) (rest := []) (hm _ rfl w tx htx) ml_Par_148 31 rfl rfl rfl d_Par_takeEquation_68 rfl rfl (by dsimp only; omega) (by dsimp only; omega) (by have := hmn.1; have := hle.1; dsimp only; omega) (by have := hmn.2; have := hle.2; dsimp only; omega) (Nat.le_of_ble_eq_true rfl) (fun w1 hw => ?_)
  obtain ⟨w2, tx2, hag2, htq2, hwq2⟩ := hw
  dsimp only at hwq2
  subst hwq2
  dsimp only
  replace htq2 := htq2.symm
  subst htq2
  have hga2 : ∀ i, ([11, 16, 19, 38] : List Nat).elem i = false → w2 i = w0 i := fun i hi => (hag2 i (by revert hi; exact el_sub (by decide))).trans (hga i hi)
  have htx2 : tx = .ref (w2 2) := by rw [hag2 2 rfl]; exact htx
  replace hcq : (cells + (σ2.2.2 3001 - σ1.2.2 3001)) + σf.2.2 3001 ≤ mc + σ2.2.2 3001 := by have := hmn.1; have := hle.1; omega
  replace hcm : (cells + (σ2.2.2 3001 - σ1.2.2 3001)) ≤ mc := by have := hmn.1; have := hle.1; omega
  generalize cells + (σ2.2.2 3001 - σ1.2.2 3001) = cells at hcq hcm ⊢
  replace hsq : (slots + (σ2.2.2 3002 - σ1.2.2 3002)) + σf.2.2 3002 ≤ ms + σ2.2.2 3002 := by have := hmn.2; have := hle.2; omega
  replace hsm : (slots + (σ2.2.2 3002 - σ1.2.2 3002)) ≤ ms := by have := hmn.2; have := hle.2; omega
  generalize slots + (σ2.2.2 3002 - σ1.2.2 3002) = slots at hsq hsm ⊢
  replace hF : d2_2 + 3 ≤ F := by omega
  replace hLo : 48 * d2_2 + 144 ≤ Lo := by omega
  refine ax_aload_n (pc := 71) C d_Par_takeEquation_71 rfl 1 rfl ?_
  refine cg_31_7_Par_30 (pc := 72) C d_Par_takeEquation_72 ?_
  refine ax_aload_n (pc := 75) C d_Par_takeEquation_75 rfl 1 rfl ?_
  refine cg_31_4_Par_37 (pc := 76) C d_Par_takeEquation_76 ?_
  refine ax_iload_n (pc := 79) C d_Par_takeEquation_79 rfl 3 rfl ?_
  refine ax_iload_n (pc := 80) C d_Par_takeEquation_80 rfl 2 rfl ?_
  refine ax_iload_n (pc := 81) C d_Par_takeEquation_81 rfl 0 rfl ?_
  replace h := it_b h
  obtain ⟨σ3, r3, d1_3, d2_3, h1, h, hd2, hd1⟩ := h
  replace hle := hG _ _ _ _ (by decide) h1
  dsimp only at hle
  replace hmn : gle σ3 σf := gm_use h (gm_if (gm_lt (rAdd_le _ _ _ _) gm_some) gm_none)
  replace hm : sG_For_addNode l D kA u σ2 [x1, x0, (σ1.1 1501)] (σ3, r3, d1_3) := ih tG_For_addNode _ _ _ h1
  refine gc_Vi (pc := 82) C (As := [.int x1, .int x0, .int (σ1.1 1501)]) (rest := [.ref (u 37)]) (hm _ _ _ rfl w2 tx) ml_Par_141 14 rfl rfl rfl d_Par_takeEquation_82 rfl rfl (by dsimp only; omega) (by dsimp only; omega) (by have := hmn.1; have := hle.1; dsimp only; omega) (by have := hmn.2; have := hle.2; dsimp only; omega) (Nat.le_of_ble_eq_true rfl) (fun r9 w1 hw => ?_)
  obtain ⟨hrq3, w3, tx3, hag3, htq3, hwq3⟩ := hw
  dsimp only at hwq3 hrq3
  subst hwq3
  replace hrq3 := hrq3.symm
  subst hrq3
  dsimp only
  replace htq3 := htq3.symm
  subst htq3
  have hga3 : ∀ i, ([11, 16, 19, 38] : List Nat).elem i = false → w3 i = w0 i := fun i hi => (hag3 i (by revert hi; exact el_sub (by decide))).trans (hga2 i hi)
  have htx3 : tx = .ref (w3 2) := by rw [hag3 2 rfl]; exact htx2
  replace hcq : (cells + (σ3.2.2 3001 - σ2.2.2 3001)) + σf.2.2 3001 ≤ mc + σ3.2.2 3001 := by have := hmn.1; have := hle.1; omega
  replace hcm : (cells + (σ3.2.2 3001 - σ2.2.2 3001)) ≤ mc := by have := hmn.1; have := hle.1; omega
  generalize cells + (σ3.2.2 3001 - σ2.2.2 3001) = cells at hcq hcm ⊢
  replace hsq : (slots + (σ3.2.2 3002 - σ2.2.2 3002)) + σf.2.2 3002 ≤ ms + σ3.2.2 3002 := by have := hmn.2; have := hle.2; omega
  replace hsm : (slots + (σ3.2.2 3002 - σ2.2.2 3002)) ≤ ms := by have := hmn.2; have := hle.2; omega
  generalize slots + (σ3.2.2 3002 - σ2.2.2 3002) = slots at hsq hsm ⊢
  replace hF : d2_3 + 3 ≤ F := by omega
  replace hLo : 48 * d2_3 + 144 ≤ Lo := by omega
  replace h := it_g h
  obtain ⟨hb, h⟩ := h
  replace h := it_l h
  replace hle := rAdd_le σ3 3701 38 r3
  replace hmn : gle (rAdd σ3 3701 38 r3) σf := gm_use h gm_some
  refine ca_37 (pc := 85) C (rest := []) ml_Par_145 d_Par_takeEquation_85 hb hF hLo (by have := hmn.1; have := hle.1; omega) (by have := hmn.2; have := hle.2; omega) (Nat.le_of_ble_eq_true rfl) (fun w4 hag4 => ?_)
  generalize rAdd σ3 3701 38 r3 = σ4 at h hmn hle ⊢
  have hga4 : ∀ i, ([11, 16, 19, 38] : List Nat).elem i = false → w4 i = w0 i := fun i hi => (hag4 i (by revert hi; exact el_sub (by decide))).trans (hga3 i hi)
  have htx4 : tx = .ref (w4 2) := by rw [hag4 2 rfl]; exact htx3
  replace hcq : (cells + (σ4.2.2 3001 - σ3.2.2 3001)) + σf.2.2 3001 ≤ mc + σ4.2.2 3001 := by have := hmn.1; have := hle.1; omega
  replace hcm : (cells + (σ4.2.2 3001 - σ3.2.2 3001)) ≤ mc := by have := hmn.1; have := hle.1; omega
  generalize cells + (σ4.2.2 3001 - σ3.2.2 3001) = cells at hcq hcm ⊢
  replace hsq : (slots + (σ4.2.2 3002 - σ3.2.2 3002)) + σf.2.2 3002 ≤ ms + σ4.2.2 3002 := by have := hmn.2; have := hle.2; omega
  replace hsm : (slots + (σ4.2.2 3002 - σ3.2.2 3002)) ≤ ms := by have := hmn.2; have := hle.2; omega
  generalize slots + (σ4.2.2 3002 - σ3.2.2 3002) = slots at hsq hsm ⊢
  cases h
  exact ax_vret (pc := 88) C d_Par_takeEquation_88 ⟨w4, tx, hga4, rfl, rfl⟩ hcm hsm
set_option maxHeartbeats 4000000 in
set_option maxRecDepth 100000 in
theorem oG_Par_takeName (l : Launch) (D : va_G) (kA : Nat → ClassId) (u : Nat → Nat) (rec : mF) (hG : GM rec) (ihC : ∀ (w : Nat → Nat) (tx : Value) t σ xs res, rec t σ xs = some res → cSem l D kA u w tx t σ xs res) (ih : ∀ t σ xs res, rec t σ xs = some res → gSem l D kA u t σ xs res) (σ : mS) (xs : List Int32) (res : mR) (h : u_0 (kG_Par_takeName rec σ) xs = some res) : sG_Par_takeName l D kA u σ xs res := by
  intro hxs w tx htx
  subst hxs
  obtain ⟨σf, rf, dd⟩ := res
  have hmn : gle σ σf := qG_Par_takeName rec hG σ _ h
  have h : (bnd (rec tC_Wds_isNow σ [2]) (fun σ1 r1 => if r1 = 0 then (bnd (rec tC_Par_refuse σ1 []) (fun σ6 r6 => some (σ6, (-1), 0))) else (bnd (rec tG_Sym_numberOf σ1 []) (fun σ2 r2 => if r2 = (-1) then (bnd (rec tC_Par_fail σ2 [3, (σ2.1 3203)]) (fun σ5 r5 => some (σ5, (-1), 0))) else (if rok σ2 1501 16 = true then (lt_ (rAdd σ2 1501 16 r2) (fun σ3 => bnd (rec tC_Wds_advance σ3 []) (fun σ4 r4 => some (σ4, r2, 0)))) else none))))) = some (σf, rf, dd) := h
  refine ax_Mi.of (by decide +kernel) (Nat.le_of_ble_eq_true rfl) ?_
  intro p e s m args below meth c C hnm
  replace C : ax_C p s m args meth c b_Par_takeName "ClauseProver$Parser" 2 (some .int) D kA (va_A (cpW kA u w tx σ) s.heap.size) := C
  obtain ⟨F, hFe⟩ : ∃ z, z = dd + 3 := ⟨_, rfl⟩
  obtain ⟨Lo, hLoe⟩ : ∃ z, z = 48 * dd + 144 := ⟨_, rfl⟩
  obtain ⟨mc, hmce⟩ : ∃ z, z = σf.2.2 3001 - σ.2.2 3001 := ⟨_, rfl⟩
  obtain ⟨ms, hmse⟩ : ∃ z, z = σf.2.2 3002 - σ.2.2 3002 := ⟨_, rfl⟩
  obtain ⟨σ0, hσ0e⟩ : ∃ z, z = σ := ⟨_, rfl⟩
  obtain ⟨w0, hw0e⟩ : ∃ z, z = w := ⟨_, rfl⟩
  obtain ⟨tx0, htx0e⟩ : ∃ z, z = tx := ⟨_, rfl⟩
  suffices K : ∀ (cells slots : Nat), cells = 0 → slots = 0 → AW p l e { frames := F, cells := mc, slots := ms, locals := Lo } s m args below meth c D kA (va_A (cpW kA u w0 tx0 σ0) s.heap.size) 2 (ax_Qi below args s D kA (cpW kA u w0 tx0 σ0) mc ms (fun r w1 => r = rf ∧ ∃ (w2 : Nat → Nat) (tx2 : Value), (∀ i, ([11, 16] : List Nat).elem i = false → w2 i = w0 i) ∧ tx2 = tx0 ∧ w1 = cpW kA u w2 tx2 σf)) 0 [(0, .ref (u 31))] [] (cpW kA u w tx σ) cells slots by
    have K := K 0 0 rfl rfl
    rw [hFe, hLoe, hmce, hmse, hσ0e, hw0e, htx0e] at K
    exact ax_ls ([(0, .ref (u 31))]) [0] rfl K
  replace C : ax_C p s m args meth c b_Par_takeName "ClauseProver$Parser" 2 (some .int) D kA (va_A (cpW kA u w0 tx0 σ0) s.heap.size) := by rw [hσ0e, hw0e, htx0e]; exact C
  intro cells slots hc0 hs0
  have hcq : cells + σf.2.2 3001 ≤ mc + σ.2.2 3001 := by have := hmn.1; omega
  have hsq : slots + σf.2.2 3002 ≤ ms + σ.2.2 3002 := by have := hmn.2; omega
  have hga : ∀ i, ([11, 16] : List Nat).elem i = false → w i = w0 i := fun i _ => by rw [hw0e]
  have e9 : tx = tx0 := htx0e.symm
  subst e9
  have hF : dd + 3 ≤ F := by omega
  have hLo : 48 * dd + 144 ≤ Lo := by omega
  have hcm : cells ≤ mc := by have := hmn.1; omega
  have hsm : slots ≤ ms := by have := hmn.2; omega
  have hle : True := trivial
  have hm : True := trivial
  refine ax_aload_n (pc := 0) C d_Par_takeName_0 rfl 0 rfl ?_
  refine cg_31_2_Par_12 (pc := 1) C d_Par_takeName_1 ?_
  refine ax_iconst (pc := 4) C 2 d_Par_takeName_4 (by decide +kernel) ?_
  replace h := it_b h
  obtain ⟨σ1, r1, d1_1, d2_1, h1, h, hd2, hd1⟩ := h
  replace hle := hG _ _ _ _ (by decide) h1
  dsimp only at hle
  replace hmn : gle σ1 σf := gm_use h (gm_if (gm_bnd hG (Nat.le_of_ble_eq_true rfl) (fun _ _ => gm_some)) (gm_bnd hG (Nat.le_of_ble_eq_true rfl) (fun _ _ => (gm_if (gm_bnd hG (Nat.le_of_ble_eq_true rfl) (fun _ _ => gm_some)) (gm_if (gm_lt (rAdd_le _ _ _ _) (gm_bnd hG (Nat.le_of_ble_eq_true rfl) (fun _ _ => gm_some))) gm_none)))))
  replace hm : sC_Wds_isNow l D kA u w tx σ [2] (σ1, r1, d1_1) := ihC _ _ tC_Wds_isNow _ _ _ h1
  refine cc_Vi (pc := 5) C (r0 := r1) (σ2 := σ1) (As := [.int 2]) (rest := []) (hm _ rfl) ml_Par_100 32 rfl rfl rfl d_Par_takeName_5 rfl rfl (by dsimp only; omega) (by dsimp only; omega) hcm hsm (Nat.le_of_ble_eq_true rfl) ?_
  replace hcq : cells + σf.2.2 3001 ≤ mc + σ1.2.2 3001 := by have := hle.1; omega
  replace hsq : slots + σf.2.2 3002 ≤ ms + σ1.2.2 3002 := by have := hle.2; omega
  replace hF : d2_1 + 3 ≤ F := by omega
  replace hLo : 48 * d2_1 + 144 ≤ Lo := by omega
  refine ax_if_ne (pc := 8) C 17 d_Par_takeName_8 (by decide) (fun hc => ?_) (fun hc => ?_)
  · replace h := it_f hc h
    refine ax_aload_n (pc := 17) C d_Par_takeName_17 rfl 0 rfl ?_
    refine cg_31_3_Par_33 (pc := 18) C d_Par_takeName_18 ?_
    refine ax_aload_n (pc := 21) C d_Par_takeName_21 rfl 0 rfl ?_
    refine cg_31_2_Par_12 (pc := 22) C d_Par_takeName_22 ?_
    replace h := it_b h
    obtain ⟨σ2, r2, d1_2, d2_2, h1, h, hd2, hd1⟩ := h
    replace hle := hG _ _ _ _ (by decide) h1
    dsimp only at hle
    replace hmn : gle σ2 σf := gm_use h (gm_if (gm_bnd hG (Nat.le_of_ble_eq_true rfl) (fun _ _ => gm_some)) (gm_if (gm_lt (rAdd_le _ _ _ _) (gm_bnd hG (Nat.le_of_ble_eq_true rfl) (fun _ _ => gm_some))) gm_none))
    replace hm : sG_Sym_numberOf l D kA u σ1 [] (σ2, r2, d1_2) := ih tG_Sym_numberOf _ _ _ h1
    refine gc_Vi (pc := 25) C (As := [.ref (u 32)]) (rest := []) (hm rfl w tx htx) ml_Par_151 6 rfl rfl rfl d_Par_takeName_25 rfl rfl (by dsimp only; omega) (by dsimp only; omega) (by have := hmn.1; have := hle.1; dsimp only; omega) (by have := hmn.2; have := hle.2; dsimp only; omega) (Nat.le_of_ble_eq_true rfl) (fun r9 w1 hw => ?_)
    obtain ⟨hrq2, w2, tx2, hag2, htq2, hwq2⟩ := hw
    dsimp only at hwq2 hrq2
    subst hwq2
    replace hrq2 := hrq2.symm
    subst hrq2
    dsimp only
    replace htq2 := htq2.symm
    subst htq2
    have hga2 : ∀ i, ([11, 16] : List Nat).elem i = false → w2 i = w0 i := fun i hi => (hag2 i (by revert hi; exact el_sub (by decide))).trans (hga i hi)
    have htx2 : tx = .ref (w2 2) := by rw [hag2 2 rfl]; exact htx
    replace hcq : (cells + (σ2.2.2 3001 - σ1.2.2 3001)) + σf.2.2 3001 ≤ mc + σ2.2.2 3001 := by have := hmn.1; have := hle.1; omega
    replace hcm : (cells + (σ2.2.2 3001 - σ1.2.2 3001)) ≤ mc := by have := hmn.1; have := hle.1; omega
    generalize cells + (σ2.2.2 3001 - σ1.2.2 3001) = cells at hcq hcm ⊢
    replace hsq : (slots + (σ2.2.2 3002 - σ1.2.2 3002)) + σf.2.2 3002 ≤ ms + σ2.2.2 3002 := by have := hmn.2; have := hle.2; omega
    replace hsm : (slots + (σ2.2.2 3002 - σ1.2.2 3002)) ≤ ms := by have := hmn.2; have := hle.2; omega
    generalize slots + (σ2.2.2 3002 - σ1.2.2 3002) = slots at hsq hsm ⊢
    replace hF : d2_2 + 3 ≤ F := by omega
    replace hLo : 48 * d2_2 + 144 ≤ Lo := by omega
    refine ax_istore_n (pc := 28) C d_Par_takeName_28 rfl (Nat.le_of_ble_eq_true rfl) ([(1, .int r2), (0, .ref (u 31))]) rfl ?_
    refine ax_iload_n (pc := 29) C d_Par_takeName_29 rfl 0 rfl ?_
    refine ax_iconst (pc := 30) C (-1) d_Par_takeName_30 (by decide +kernel) ?_
    refine ax_icmp_ne (pc := 31) C 48 d_Par_takeName_31 (by decide) (fun hc => ?_) (fun hc => ?_)
    · replace h := it_f hc h
      refine ax_aload_n (pc := 48) C d_Par_takeName_48 rfl 1 rfl ?_
      refine cg_31_4_Par_37 (pc := 49) C d_Par_takeName_49 ?_
      refine cg_14_0_Par_120 (pc := 52) C d_Par_takeName_52 ?_
      refine ax_iload_n (pc := 55) C d_Par_takeName_55 rfl 0 rfl ?_
      replace h := it_g h
      obtain ⟨hb, h⟩ := h
      replace h := it_l h
      replace hle := rAdd_le σ2 1501 16 r2
      replace hmn : gle (rAdd σ2 1501 16 r2) σf := gm_use h (gm_bnd hG (Nat.le_of_ble_eq_true rfl) (fun _ _ => gm_some))
      refine ca_15 (pc := 56) C (rest := []) ml_Par_145 d_Par_takeName_56 hb hF hLo (by have := hmn.1; have := hle.1; omega) (by have := hmn.2; have := hle.2; omega) (Nat.le_of_ble_eq_true rfl) (fun w3 hag3 => ?_)
      generalize rAdd σ2 1501 16 r2 = σ3 at h hmn hle ⊢
      have hga3 : ∀ i, ([11, 16] : List Nat).elem i = false → w3 i = w0 i := fun i hi => (hag3 i (by revert hi; exact el_sub (by decide))).trans (hga2 i hi)
      have htx3 : tx = .ref (w3 2) := by rw [hag3 2 rfl]; exact htx2
      replace hcq : (cells + (σ3.2.2 3001 - σ2.2.2 3001)) + σf.2.2 3001 ≤ mc + σ3.2.2 3001 := by have := hmn.1; have := hle.1; omega
      replace hcm : (cells + (σ3.2.2 3001 - σ2.2.2 3001)) ≤ mc := by have := hmn.1; have := hle.1; omega
      generalize cells + (σ3.2.2 3001 - σ2.2.2 3001) = cells at hcq hcm ⊢
      replace hsq : (slots + (σ3.2.2 3002 - σ2.2.2 3002)) + σf.2.2 3002 ≤ ms + σ3.2.2 3002 := by have := hmn.2; have := hle.2; omega
      replace hsm : (slots + (σ3.2.2 3002 - σ2.2.2 3002)) ≤ ms := by have := hmn.2; have := hle.2; omega
      generalize slots + (σ3.2.2 3002 - σ2.2.2 3002) = slots at hsq hsm ⊢
      refine ax_aload_n (pc := 59) C d_Par_takeName_59 rfl 1 rfl ?_
      refine cg_31_2_Par_12 (pc := 60) C d_Par_takeName_60 ?_
      replace h := it_b h
      obtain ⟨σ4, r4, d1_4, d2_4, h1, h, hd2, hd1⟩ := h
      replace hle := hG _ _ _ _ (by decide) h1
      dsimp only at hle
      replace hmn : gle σ4 σf := gm_use h gm_some
      replace hm : sC_Wds_advance l D kA u w3 tx σ3 [] (σ4, r4, d1_4) := ihC _ _ tC_Wds_advance _ _ _ h1
      refine cc_Vv (pc := 63) C (σ2 := σ4) (As := []) (rest := []) (hm rfl htx3) ml_Par_89 32 rfl rfl rfl d_Par_takeName_63 rfl rfl (by dsimp only; omega) (by dsimp only; omega) hcm hsm (Nat.le_of_ble_eq_true rfl) ?_
      replace hcq : cells + σf.2.2 3001 ≤ mc + σ4.2.2 3001 := by have := hle.1; omega
      replace hsq : slots + σf.2.2 3002 ≤ ms + σ4.2.2 3002 := by have := hle.2; omega
      replace hF : d2_4 + 3 ≤ F := by omega
      replace hLo : 48 * d2_4 + 144 ≤ Lo := by omega
      refine ax_iload_n (pc := 66) C d_Par_takeName_66 rfl 0 rfl ?_
      cases h
      exact ax_iret (pc := 67) C d_Par_takeName_67 ⟨rfl, w3, tx, hga3, rfl, rfl⟩ hcm hsm
    · replace h := it_t hc h
      refine ax_aload_n (pc := 34) C d_Par_takeName_34 rfl 1 rfl ?_
      refine ax_iconst (pc := 35) C 3 d_Par_takeName_35 (by decide +kernel) ?_
      refine ax_aload_n (pc := 36) C d_Par_takeName_36 rfl 1 rfl ?_
      refine cg_31_2_Par_12 (pc := 37) C d_Par_takeName_37 ?_
      refine cg_32_3_Par_77 (pc := 40) C d_Par_takeName_40 ?_
      replace h := it_b h
      obtain ⟨σ5, r5, d1_5, d2_5, h1, h, hd2, hd1⟩ := h
      replace hle := hG _ _ _ _ (by decide) h1
      dsimp only at hle
      replace hmn : gle σ5 σf := gm_use h gm_some
      replace hm : sC_Par_fail l D kA u w2 tx σ2 [3, (σ2.1 3203)] (σ5, r5, d1_5) := ihC _ _ tC_Par_fail _ _ _ h1
      refine cc_Vv (pc := 43) C (σ2 := σ5) (As := [.int 3, .int (σ2.1 3203)]) (rest := []) (hm _ _ rfl) ml_Par_96 31 rfl rfl rfl d_Par_takeName_43 rfl rfl (by dsimp only; omega) (by dsimp only; omega) hcm hsm (Nat.le_of_ble_eq_true rfl) ?_
      replace hcq : cells + σf.2.2 3001 ≤ mc + σ5.2.2 3001 := by have := hle.1; omega
      replace hsq : slots + σf.2.2 3002 ≤ ms + σ5.2.2 3002 := by have := hle.2; omega
      replace hF : d2_5 + 3 ≤ F := by omega
      replace hLo : 48 * d2_5 + 144 ≤ Lo := by omega
      refine ax_iconst (pc := 46) C (-1) d_Par_takeName_46 (by decide +kernel) ?_
      cases h
      exact ax_iret (pc := 47) C d_Par_takeName_47 ⟨rfl, w2, tx, hga2, rfl, rfl⟩ hcm hsm
  · replace h := it_t hc h
    refine ax_aload_n (pc := 11) C d_Par_takeName_11 rfl 0 rfl ?_
    replace h := it_b h
    obtain ⟨σ6, r6, d1_6, d2_6, h1, h, hd2, hd1⟩ := h
    replace hle := hG _ _ _ _ (by decide) h1
    dsimp only at hle
    replace hmn : gle σ6 σf := gm_use h gm_some
    replace hm : sC_Par_refuse l D kA u w tx σ1 [] (σ6, r6, d1_6) := ihC _ _ tC_Par_refuse _ _ _ h1
    refine cc_Vv (pc := 12) C (σ2 := σ6) (As := []) (rest := []) (hm rfl) ml_Par_117 31 rfl rfl rfl d_Par_takeName_12 rfl rfl (by dsimp only; omega) (by dsimp only; omega) hcm hsm (Nat.le_of_ble_eq_true rfl) ?_
    replace hcq : cells + σf.2.2 3001 ≤ mc + σ6.2.2 3001 := by have := hle.1; omega
    replace hsq : slots + σf.2.2 3002 ≤ ms + σ6.2.2 3002 := by have := hle.2; omega
    replace hF : d2_6 + 3 ≤ F := by omega
    replace hLo : 48 * d2_6 + 144 ≤ Lo := by omega
    refine ax_iconst (pc := 15) C (-1) d_Par_takeName_15 (by decide +kernel) ?_
    cases h
    exact ax_iret (pc := 16) C d_Par_takeName_16 ⟨rfl, w, tx, hga, rfl, rfl⟩ hcm hsm
set_option maxHeartbeats 4000000 in
set_option maxRecDepth 100000 in
theorem oG_Par_takePrefixes (l : Launch) (D : va_G) (kA : Nat → ClassId) (u : Nat → Nat) (rec : mF) (hG : GM rec) (ihC : ∀ (w : Nat → Nat) (tx : Value) t σ xs res, rec t σ xs = some res → cSem l D kA u w tx t σ xs res) (ih : ∀ t σ xs res, rec t σ xs = some res → gSem l D kA u t σ xs res) (σ : mS) (xs : List Int32) (res : mR) (h : u_0 (kG_Par_takePrefixes rec σ) xs = some res) : sG_Par_takePrefixes l D kA u σ xs res := by
  intro hxs w tx htx
  subst hxs
  obtain ⟨σf, rf, dd⟩ := res
  have hmn : gle σ σf := qG_Par_takePrefixes rec hG σ _ h
  have h : (rec tG_Par_takePrefixes_p4 σ [1, 0]) = some (σf, rf, dd) := h
  refine ax_Mv.of (by decide +kernel) (Nat.le_of_ble_eq_true rfl) ?_
  intro p e s m args below meth c C hnm
  replace C : ax_C p s m args meth c b_Par_takePrefixes "ClauseProver$Parser" 3 none D kA (va_A (cpW kA u w tx σ) s.heap.size) := C
  obtain ⟨F, hFe⟩ : ∃ z, z = dd + 3 := ⟨_, rfl⟩
  obtain ⟨Lo, hLoe⟩ : ∃ z, z = 48 * dd + 144 := ⟨_, rfl⟩
  obtain ⟨mc, hmce⟩ : ∃ z, z = σf.2.2 3001 - σ.2.2 3001 := ⟨_, rfl⟩
  obtain ⟨ms, hmse⟩ : ∃ z, z = σf.2.2 3002 - σ.2.2 3002 := ⟨_, rfl⟩
  obtain ⟨σ0, hσ0e⟩ : ∃ z, z = σ := ⟨_, rfl⟩
  obtain ⟨w0, hw0e⟩ : ∃ z, z = w := ⟨_, rfl⟩
  obtain ⟨tx0, htx0e⟩ : ∃ z, z = tx := ⟨_, rfl⟩
  suffices K : ∀ (cells slots : Nat), cells = 0 → slots = 0 → AW p l e { frames := F, cells := mc, slots := ms, locals := Lo } s m args below meth c D kA (va_A (cpW kA u w0 tx0 σ0) s.heap.size) 3 (ax_Qv below args s D kA (cpW kA u w0 tx0 σ0) mc ms (fun w1 => ∃ (w2 : Nat → Nat) (tx2 : Value), (∀ i, ([34, 36] : List Nat).elem i = false → w2 i = w0 i) ∧ tx2 = tx0 ∧ w1 = cpW kA u w2 tx2 σf)) 0 [(0, .ref (u 31))] [] (cpW kA u w tx σ) cells slots by
    have K := K 0 0 rfl rfl
    rw [hFe, hLoe, hmce, hmse, hσ0e, hw0e, htx0e] at K
    exact ax_ls ([(0, .ref (u 31))]) [0] rfl K
  replace C : ax_C p s m args meth c b_Par_takePrefixes "ClauseProver$Parser" 3 none D kA (va_A (cpW kA u w0 tx0 σ0) s.heap.size) := by rw [hσ0e, hw0e, htx0e]; exact C
  intro cells slots hc0 hs0
  have hcq : cells + σf.2.2 3001 ≤ mc + σ.2.2 3001 := by have := hmn.1; omega
  have hsq : slots + σf.2.2 3002 ≤ ms + σ.2.2 3002 := by have := hmn.2; omega
  have hga : ∀ i, ([34, 36] : List Nat).elem i = false → w i = w0 i := fun i _ => by rw [hw0e]
  have e9 : tx = tx0 := htx0e.symm
  subst e9
  have hF : dd + 3 ≤ F := by omega
  have hLo : 48 * dd + 144 ≤ Lo := by omega
  have hcm : cells ≤ mc := by have := hmn.1; omega
  have hsm : slots ≤ ms := by have := hmn.2; omega
  have hle : True := trivial
  have hm : True := trivial
  refine ax_iconst (pc := 0) C 1 d_Par_takePrefixes_0 (by decide +kernel) ?_
  refine ax_istore_n (pc := 1) C d_Par_takePrefixes_1 rfl (Nat.le_of_ble_eq_true rfl) ([(1, .int 1), (0, .ref (u 31))]) rfl ?_
  refine ax_iconst (pc := 2) C 0 d_Par_takePrefixes_2 (by decide +kernel) ?_
  refine ax_istore_n (pc := 3) C d_Par_takePrefixes_3 rfl (Nat.le_of_ble_eq_true rfl) ([(2, .int 0), (1, .int 1), (0, .ref (u 31))]) rfl ?_
  refine ax_ls ([(0, .ref (u 31)), (1, .int 1), (2, .int 0)]) [2, 1, 0] rfl ?_
  replace hm : sG_Par_takePrefixes_p4 l D kA u σ [1, 0] (σf, rf, _) := ih tG_Par_takePrefixes_p4 _ _ _ h
  exact hm _ _ rfl w tx htx p e s m args below meth c F Lo mc ms cells slots σ0 w0 tx hF hLo hcq hsq hga C
set_option maxHeartbeats 4000000 in
set_option maxRecDepth 100000 in
theorem oG_Par_takePrefixes_p4 (l : Launch) (D : va_G) (kA : Nat → ClassId) (u : Nat → Nat) (rec : mF) (hG : GM rec) (ihC : ∀ (w : Nat → Nat) (tx : Value) t σ xs res, rec t σ xs = some res → cSem l D kA u w tx t σ xs res) (ih : ∀ t σ xs res, rec t σ xs = some res → gSem l D kA u t σ xs res) (σ : mS) (xs : List Int32) (res : mR) (h : u_2 (kG_Par_takePrefixes_p4 rec σ) xs = some res) : sG_Par_takePrefixes_p4 l D kA u σ xs res := by
  intro x0 x1 hxs w tx htx
  subst hxs
  obtain ⟨σf, rf, dd⟩ := res
  have hmn : gle σ σf := qG_Par_takePrefixes_p4 rec hG σ x0 x1 _ h
  have h : (if 1000000 ≤ x1 then (rec tG_Par_takePrefixes_p129 σ [x0, x1]) else (if x0 = 0 then (rec tG_Par_takePrefixes_p129 σ [x0, x1]) else (if (σ.1 3100) = 0 then (if (σ.1 3108) ≤ 60 then (bnd (rec tC_Wds_isNow σ [11]) (fun σ1 r1 => if r1 = 0 then (bnd (rec tC_Wds_isNow σ1 [5]) (fun σ2 r2 => if r2 = 0 then (bnd (rec tC_Wds_isNow σ2 [12]) (fun σ3 r3 => if r3 = 0 then (bnd (rec tC_Wds_isNow σ3 [13]) (fun σ4 r4 => if r4 = 0 then (rec tG_Par_takePrefixes_p123 σ4 [0, x1]) else (rec tG_Par_takePrefixes_p114 σ4 [x0, x1]))) else (rec tG_Par_takePrefixes_p114 σ3 [x0, x1]))) else (rec tG_Par_takePrefixes_p68 σ2 [x0, x1]))) else (rec tG_Par_takePrefixes_p68 σ1 [x0, x1]))) else (bnd (rec tC_Par_fail σ [3, (σ.1 3203)]) (fun σ5 r5 => rec tG_Par_takePrefixes_p123 σ5 [x0, x1]))) else (rec tG_Par_takePrefixes_p129 σ [x0, x1])))) = some (σf, rf, dd) := h
  intro p e s m args below meth c F Lo mc ms cells slots σ0 w0 tx0 hF hLo hcq hsq hga C
  dsimp only at hF hLo hcq hsq ⊢
  have hcm : cells ≤ mc := by have := hmn.1; omega
  have hsm : slots ≤ ms := by have := hmn.2; omega
  have hle : True := trivial
  have hm : True := trivial
  refine ax_iload_n (pc := 4) C d_Par_takePrefixes_4 rfl 2 rfl ?_
  refine ax_ldc (pc := 5) C tb_constant_580 d_Par_takePrefixes_5 ?_
  refine ax_icmp_ge (pc := 7) C 129 d_Par_takePrefixes_7 (by decide) (fun hc => ?_) (fun hc => ?_)
  · replace h := it_t hc h
    refine ax_ls ([(0, .ref (u 31)), (1, .int x0), (2, .int x1)]) [0, 1, 2] rfl ?_
    replace hm : sG_Par_takePrefixes_p129 l D kA u σ [x0, x1] (σf, rf, _) := ih tG_Par_takePrefixes_p129 _ _ _ h
    exact hm _ _ rfl w tx htx p e s m args below meth c F Lo mc ms cells slots σ0 w0 tx0 hF hLo hcq hsq hga C
  · replace h := it_f hc h
    refine ax_iload_n (pc := 10) C d_Par_takePrefixes_10 rfl 1 rfl ?_
    refine ax_if_eq (pc := 11) C 129 d_Par_takePrefixes_11 (by decide) (fun hc => ?_) (fun hc => ?_)
    · replace h := it_t hc h
      refine ax_ls ([(0, .ref (u 31)), (1, .int x0), (2, .int x1)]) [0, 1, 2] rfl ?_
      replace hm : sG_Par_takePrefixes_p129 l D kA u σ [x0, x1] (σf, rf, _) := ih tG_Par_takePrefixes_p129 _ _ _ h
      exact hm _ _ rfl w tx htx p e s m args below meth c F Lo mc ms cells slots σ0 w0 tx0 hF hLo hcq hsq hga C
    · replace h := it_f hc h
      refine ax_aload_n (pc := 14) C d_Par_takePrefixes_14 rfl 0 rfl ?_
      refine cg_31_0_Par_41 (pc := 15) C d_Par_takePrefixes_15 ?_
      refine ax_if_ne (pc := 18) C 129 d_Par_takePrefixes_18 (by decide) (fun hc => ?_) (fun hc => ?_)
      · replace h := it_f hc h
        refine ax_ls ([(0, .ref (u 31)), (1, .int x0), (2, .int x1)]) [0, 1, 2] rfl ?_
        replace hm : sG_Par_takePrefixes_p129 l D kA u σ [x0, x1] (σf, rf, _) := ih tG_Par_takePrefixes_p129 _ _ _ h
        exact hm _ _ rfl w tx htx p e s m args below meth c F Lo mc ms cells slots σ0 w0 tx0 hF hLo hcq hsq hga C
      · replace h := it_t hc h
        refine ax_aload_n (pc := 21) C d_Par_takePrefixes_21 rfl 0 rfl ?_
        refine cg_31_8_Par_86 (pc := 22) C d_Par_takePrefixes_22 ?_
        refine ax_bipush (pc := 25) C 60 d_Par_takePrefixes_25 (by decide +kernel) ?_
        refine ax_icmp_le (pc := 27) C 45 d_Par_takePrefixes_27 (by decide) (fun hc => ?_) (fun hc => ?_)
        · replace h := it_t hc h
          refine ax_aload_n (pc := 45) C d_Par_takePrefixes_45 rfl 0 rfl ?_
          refine cg_31_2_Par_12 (pc := 46) C d_Par_takePrefixes_46 ?_
          refine ax_bipush (pc := 49) C 11 d_Par_takePrefixes_49 (by decide +kernel) ?_
          replace h := it_b h
          obtain ⟨σ1, r1, d1_1, d2_1, h1, h, hd2, hd1⟩ := h
          replace hle := hG _ _ _ _ (by decide) h1
          dsimp only at hle
          replace hmn : gle σ1 σf := gm_use h (gm_if (gm_bnd hG (Nat.le_of_ble_eq_true rfl) (fun _ _ => (gm_if (gm_bnd hG (Nat.le_of_ble_eq_true rfl) (fun _ _ => (gm_if (gm_bnd hG (Nat.le_of_ble_eq_true rfl) (fun _ _ => (gm_if (gm_tail hG (Nat.le_of_ble_eq_true rfl)) (gm_tail hG (Nat.le_of_ble_eq_true rfl))))) (gm_tail hG (Nat.le_of_ble_eq_true rfl))))) (gm_tail hG (Nat.le_of_ble_eq_true rfl))))) (gm_tail hG (Nat.le_of_ble_eq_true rfl)))
          replace hm : sC_Wds_isNow l D kA u w tx σ [11] (σ1, r1, d1_1) := ihC _ _ tC_Wds_isNow _ _ _ h1
          refine cc_Vi (pc := 51) C (r0 := r1) (σ2 := σ1) (As := [.int 11]) (rest := []) (hm _ rfl) ml_Par_100 32 rfl rfl rfl d_Par_takePrefixes_51 rfl rfl (by dsimp only; omega) (by dsimp only; omega) hcm hsm (Nat.le_of_ble_eq_true rfl) ?_
          replace hcq : cells + σf.2.2 3001 ≤ mc + σ1.2.2 3001 := by have := hle.1; omega
          replace hsq : slots + σf.2.2 3002 ≤ ms + σ1.2.2 3002 := by have := hle.2; omega
          replace hF : d2_1 + 3 ≤ F := by omega
          replace hLo : 48 * d2_1 + 144 ≤ Lo := by omega
          refine ax_if_ne (pc := 54) C 68 d_Par_takePrefixes_54 (by decide) (fun hc => ?_) (fun hc => ?_)
          · replace h := it_f hc h
            refine ax_ls ([(0, .ref (u 31)), (1, .int x0), (2, .int x1)]) [0, 1, 2] rfl ?_
            replace hm : sG_Par_takePrefixes_p68 l D kA u σ1 [x0, x1] (σf, rf, _) := ih tG_Par_takePrefixes_p68 _ _ _ h
            exact hm _ _ rfl w tx htx p e s m args below meth c F Lo mc ms cells slots σ0 w0 tx0 hF hLo hcq hsq hga C
          · replace h := it_t hc h
            refine ax_aload_n (pc := 57) C d_Par_takePrefixes_57 rfl 0 rfl ?_
            refine cg_31_2_Par_12 (pc := 58) C d_Par_takePrefixes_58 ?_
            refine ax_iconst (pc := 61) C 5 d_Par_takePrefixes_61 (by decide +kernel) ?_
            replace h := it_b h
            obtain ⟨σ2, r2, d1_2, d2_2, h1, h, hd2, hd1⟩ := h
            replace hle := hG _ _ _ _ (by decide) h1
            dsimp only at hle
            replace hmn : gle σ2 σf := gm_use h (gm_if (gm_bnd hG (Nat.le_of_ble_eq_true rfl) (fun _ _ => (gm_if (gm_bnd hG (Nat.le_of_ble_eq_true rfl) (fun _ _ => (gm_if (gm_tail hG (Nat.le_of_ble_eq_true rfl)) (gm_tail hG (Nat.le_of_ble_eq_true rfl))))) (gm_tail hG (Nat.le_of_ble_eq_true rfl))))) (gm_tail hG (Nat.le_of_ble_eq_true rfl)))
            replace hm : sC_Wds_isNow l D kA u w tx σ1 [5] (σ2, r2, d1_2) := ihC _ _ tC_Wds_isNow _ _ _ h1
            refine cc_Vi (pc := 62) C (r0 := r2) (σ2 := σ2) (As := [.int 5]) (rest := []) (hm _ rfl) ml_Par_100 32 rfl rfl rfl d_Par_takePrefixes_62 rfl rfl (by dsimp only; omega) (by dsimp only; omega) hcm hsm (Nat.le_of_ble_eq_true rfl) ?_
            replace hcq : cells + σf.2.2 3001 ≤ mc + σ2.2.2 3001 := by have := hle.1; omega
            replace hsq : slots + σf.2.2 3002 ≤ ms + σ2.2.2 3002 := by have := hle.2; omega
            replace hF : d2_2 + 3 ≤ F := by omega
            replace hLo : 48 * d2_2 + 144 ≤ Lo := by omega
            refine ax_if_eq (pc := 65) C 90 d_Par_takePrefixes_65 (by decide) (fun hc => ?_) (fun hc => ?_)
            · replace h := it_t hc h
              refine ax_aload_n (pc := 90) C d_Par_takePrefixes_90 rfl 0 rfl ?_
              refine cg_31_2_Par_12 (pc := 91) C d_Par_takePrefixes_91 ?_
              refine ax_bipush (pc := 94) C 12 d_Par_takePrefixes_94 (by decide +kernel) ?_
              replace h := it_b h
              obtain ⟨σ3, r3, d1_3, d2_3, h1, h, hd2, hd1⟩ := h
              replace hle := hG _ _ _ _ (by decide) h1
              dsimp only at hle
              replace hmn : gle σ3 σf := gm_use h (gm_if (gm_bnd hG (Nat.le_of_ble_eq_true rfl) (fun _ _ => (gm_if (gm_tail hG (Nat.le_of_ble_eq_true rfl)) (gm_tail hG (Nat.le_of_ble_eq_true rfl))))) (gm_tail hG (Nat.le_of_ble_eq_true rfl)))
              replace hm : sC_Wds_isNow l D kA u w tx σ2 [12] (σ3, r3, d1_3) := ihC _ _ tC_Wds_isNow _ _ _ h1
              refine cc_Vi (pc := 96) C (r0 := r3) (σ2 := σ3) (As := [.int 12]) (rest := []) (hm _ rfl) ml_Par_100 32 rfl rfl rfl d_Par_takePrefixes_96 rfl rfl (by dsimp only; omega) (by dsimp only; omega) hcm hsm (Nat.le_of_ble_eq_true rfl) ?_
              replace hcq : cells + σf.2.2 3001 ≤ mc + σ3.2.2 3001 := by have := hle.1; omega
              replace hsq : slots + σf.2.2 3002 ≤ ms + σ3.2.2 3002 := by have := hle.2; omega
              replace hF : d2_3 + 3 ≤ F := by omega
              replace hLo : 48 * d2_3 + 144 ≤ Lo := by omega
              refine ax_if_ne (pc := 99) C 114 d_Par_takePrefixes_99 (by decide) (fun hc => ?_) (fun hc => ?_)
              · replace h := it_f hc h
                refine ax_ls ([(0, .ref (u 31)), (1, .int x0), (2, .int x1)]) [0, 1, 2] rfl ?_
                replace hm : sG_Par_takePrefixes_p114 l D kA u σ3 [x0, x1] (σf, rf, _) := ih tG_Par_takePrefixes_p114 _ _ _ h
                exact hm _ _ rfl w tx htx p e s m args below meth c F Lo mc ms cells slots σ0 w0 tx0 hF hLo hcq hsq hga C
              · replace h := it_t hc h
                refine ax_aload_n (pc := 102) C d_Par_takePrefixes_102 rfl 0 rfl ?_
                refine cg_31_2_Par_12 (pc := 103) C d_Par_takePrefixes_103 ?_
                refine ax_bipush (pc := 106) C 13 d_Par_takePrefixes_106 (by decide +kernel) ?_
                replace h := it_b h
                obtain ⟨σ4, r4, d1_4, d2_4, h1, h, hd2, hd1⟩ := h
                replace hle := hG _ _ _ _ (by decide) h1
                dsimp only at hle
                replace hmn : gle σ4 σf := gm_use h (gm_if (gm_tail hG (Nat.le_of_ble_eq_true rfl)) (gm_tail hG (Nat.le_of_ble_eq_true rfl)))
                replace hm : sC_Wds_isNow l D kA u w tx σ3 [13] (σ4, r4, d1_4) := ihC _ _ tC_Wds_isNow _ _ _ h1
                refine cc_Vi (pc := 108) C (r0 := r4) (σ2 := σ4) (As := [.int 13]) (rest := []) (hm _ rfl) ml_Par_100 32 rfl rfl rfl d_Par_takePrefixes_108 rfl rfl (by dsimp only; omega) (by dsimp only; omega) hcm hsm (Nat.le_of_ble_eq_true rfl) ?_
                replace hcq : cells + σf.2.2 3001 ≤ mc + σ4.2.2 3001 := by have := hle.1; omega
                replace hsq : slots + σf.2.2 3002 ≤ ms + σ4.2.2 3002 := by have := hle.2; omega
                replace hF : d2_4 + 3 ≤ F := by omega
                replace hLo : 48 * d2_4 + 144 ≤ Lo := by omega
                refine ax_if_eq (pc := 111) C 121 d_Par_takePrefixes_111 (by decide) (fun hc => ?_) (fun hc => ?_)
                · replace h := it_t hc h
                  refine ax_iconst (pc := 121) C 0 d_Par_takePrefixes_121 (by decide +kernel) ?_
                  refine ax_istore_n (pc := 122) C d_Par_takePrefixes_122 rfl (Nat.le_of_ble_eq_true rfl) ([(1, .int 0), (0, .ref (u 31)), (2, .int x1)]) rfl ?_
                  refine ax_ls ([(0, .ref (u 31)), (1, .int 0), (2, .int x1)]) [1, 0, 2] rfl ?_
                  replace hm : sG_Par_takePrefixes_p123 l D kA u σ4 [0, x1] (σf, rf, _) := ih tG_Par_takePrefixes_p123 _ _ _ h
                  exact hm _ _ rfl w tx htx p e s m args below meth c F Lo mc ms cells slots σ0 w0 tx0 hF hLo hcq hsq hga C
                · replace h := it_f hc h
                  refine ax_ls ([(0, .ref (u 31)), (1, .int x0), (2, .int x1)]) [0, 1, 2] rfl ?_
                  replace hm : sG_Par_takePrefixes_p114 l D kA u σ4 [x0, x1] (σf, rf, _) := ih tG_Par_takePrefixes_p114 _ _ _ h
                  exact hm _ _ rfl w tx htx p e s m args below meth c F Lo mc ms cells slots σ0 w0 tx0 hF hLo hcq hsq hga C
            · replace h := it_f hc h
              refine ax_ls ([(0, .ref (u 31)), (1, .int x0), (2, .int x1)]) [0, 1, 2] rfl ?_
              replace hm : sG_Par_takePrefixes_p68 l D kA u σ2 [x0, x1] (σf, rf, _) := ih tG_Par_takePrefixes_p68 _ _ _ h
              exact hm _ _ rfl w tx htx p e s m args below meth c F Lo mc ms cells slots σ0 w0 tx0 hF hLo hcq hsq hga C
        · replace h := it_f hc h
          refine ax_aload_n (pc := 30) C d_Par_takePrefixes_30 rfl 0 rfl ?_
          refine ax_iconst (pc := 31) C 3 d_Par_takePrefixes_31 (by decide +kernel) ?_
          refine ax_aload_n (pc := 32) C d_Par_takePrefixes_32 rfl 0 rfl ?_
          refine cg_31_2_Par_12 (pc := 33) C d_Par_takePrefixes_33 ?_
          refine cg_32_3_Par_77 (pc := 36) C d_Par_takePrefixes_36 ?_
          replace h := it_b h
          obtain ⟨σ5, r5, d1_5, d2_5, h1, h, hd2, hd1⟩ := h
          replace hle := hG _ _ _ _ (by decide) h1
          dsimp only at hle
          replace hmn : gle σ5 σf := gm_use h (gm_tail hG (Nat.le_of_ble_eq_true rfl))
          replace hm : sC_Par_fail l D kA u w tx σ [3, (σ.1 3203)] (σ5, r5, d1_5) := ihC _ _ tC_Par_fail _ _ _ h1
          refine cc_Vv (pc := 39) C (σ2 := σ5) (As := [.int 3, .int (σ.1 3203)]) (rest := []) (hm _ _ rfl) ml_Par_96 31 rfl rfl rfl d_Par_takePrefixes_39 rfl rfl (by dsimp only; omega) (by dsimp only; omega) hcm hsm (Nat.le_of_ble_eq_true rfl) ?_
          replace hcq : cells + σf.2.2 3001 ≤ mc + σ5.2.2 3001 := by have := hle.1; omega
          replace hsq : slots + σf.2.2 3002 ≤ ms + σ5.2.2 3002 := by have := hle.2; omega
          replace hF : d2_5 + 3 ≤ F := by omega
          replace hLo : 48 * d2_5 + 144 ≤ Lo := by omega
          refine ax_goto (pc := 42) C 123 d_Par_takePrefixes_42 (by decide) ?_
          refine ax_ls ([(0, .ref (u 31)), (1, .int x0), (2, .int x1)]) [0, 1, 2] rfl ?_
          replace hm : sG_Par_takePrefixes_p123 l D kA u σ5 [x0, x1] (σf, rf, _) := ih tG_Par_takePrefixes_p123 _ _ _ h
          exact hm _ _ rfl w tx htx p e s m args below meth c F Lo mc ms cells slots σ0 w0 tx0 hF hLo hcq hsq hga C
set_option maxHeartbeats 4000000 in
set_option maxRecDepth 100000 in
theorem oG_Par_takePrefixes_p68 (l : Launch) (D : va_G) (kA : Nat → ClassId) (u : Nat → Nat) (rec : mF) (hG : GM rec) (ihC : ∀ (w : Nat → Nat) (tx : Value) t σ xs res, rec t σ xs = some res → cSem l D kA u w tx t σ xs res) (ih : ∀ t σ xs res, rec t σ xs = some res → gSem l D kA u t σ xs res) (σ : mS) (xs : List Int32) (res : mR) (h : u_2 (kG_Par_takePrefixes_p68 rec σ) xs = some res) : sG_Par_takePrefixes_p68 l D kA u σ xs res := by
  intro x0 x1 hxs w tx htx
  subst hxs
  obtain ⟨σf, rf, dd⟩ := res
  have hmn : gle σ σf := qG_Par_takePrefixes_p68 rec hG σ x0 x1 _ h
  have h : (bnd (rec tG_Par_push σ [(σ.1 3202), (-1)]) (fun σ1 r1 => bnd (rec tC_Wds_advance σ1 []) (fun σ2 r2 => rec tG_Par_takePrefixes_p123 σ2 [x0, x1]))) = some (σf, rf, dd) := h
  intro p e s m args below meth c F Lo mc ms cells slots σ0 w0 tx0 hF hLo hcq hsq hga C
  dsimp only at hF hLo hcq hsq ⊢
  have hcm : cells ≤ mc := by have := hmn.1; omega
  have hsm : slots ≤ ms := by have := hmn.2; omega
  have hle : True := trivial
  have hm : True := trivial
  refine ax_aload_n (pc := 68) C d_Par_takePrefixes_68 rfl 0 rfl ?_
  refine ax_aload_n (pc := 69) C d_Par_takePrefixes_69 rfl 0 rfl ?_
  refine cg_31_2_Par_12 (pc := 70) C d_Par_takePrefixes_70 ?_
  refine cg_32_2_Par_58 (pc := 73) C d_Par_takePrefixes_73 ?_
  refine ax_iconst (pc := 76) C (-1) d_Par_takePrefixes_76 (by decide +kernel) ?_
  replace h := it_b h
  obtain ⟨σ1, r1, d1_1, d2_1, h1, h, hd2, hd1⟩ := h
  replace hle := hG _ _ _ _ (by decide) h1
  dsimp only at hle
  replace hmn : gle σ1 σf := gm_use h (gm_bnd hG (Nat.le_of_ble_eq_true rfl) (fun _ _ => (gm_tail hG (Nat.le_of_ble_eq_true rfl))))
  replace hm : sG_Par_push l D kA u σ [(σ.1 3202), (-1)] (σ1, r1, d1_1) := ih tG_Par_push _ _ _ h1
  refine gc_Vv (pc := 77) C (As := [.int (σ.1 3202), .int (-1)]) (rest := []) (hm _ _ rfl w tx) ml_Par_104 31 rfl rfl rfl d_Par_takePrefixes_77 rfl rfl (by dsimp only; omega) (by dsimp only; omega) (by have := hmn.1; have := hle.1; dsimp only; omega) (by have := hmn.2; have := hle.2; dsimp only; omega) (Nat.le_of_ble_eq_true rfl) (fun w1 hw => ?_)
  obtain ⟨w1, tx1, hag1, htq1, hwq1⟩ := hw
  dsimp only at hwq1
  subst hwq1
  dsimp only
  replace htq1 := htq1.symm
  subst htq1
  have hga1 : ∀ i, ([34, 36] : List Nat).elem i = false → w1 i = w0 i := fun i hi => (hag1 i (by revert hi; exact el_sub (by decide))).trans (hga i hi)
  have htx1 : tx = .ref (w1 2) := by rw [hag1 2 rfl]; exact htx
  replace hcq : (cells + (σ1.2.2 3001 - σ.2.2 3001)) + σf.2.2 3001 ≤ mc + σ1.2.2 3001 := by have := hmn.1; have := hle.1; omega
  replace hcm : (cells + (σ1.2.2 3001 - σ.2.2 3001)) ≤ mc := by have := hmn.1; have := hle.1; omega
  generalize cells + (σ1.2.2 3001 - σ.2.2 3001) = cells at hcq hcm ⊢
  replace hsq : (slots + (σ1.2.2 3002 - σ.2.2 3002)) + σf.2.2 3002 ≤ ms + σ1.2.2 3002 := by have := hmn.2; have := hle.2; omega
  replace hsm : (slots + (σ1.2.2 3002 - σ.2.2 3002)) ≤ ms := by have := hmn.2; have := hle.2; omega
  generalize slots + (σ1.2.2 3002 - σ.2.2 3002) = slots at hsq hsm ⊢
  replace hF : d2_1 + 3 ≤ F := by omega
  replace hLo : 48 * d2_1 + 144 ≤ Lo := by omega
  refine ax_aload_n (pc := 80) C d_Par_takePrefixes_80 rfl 0 rfl ?_
  refine cg_31_2_Par_12 (pc := 81) C d_Par_takePrefixes_81 ?_
  replace h := it_b h
  obtain ⟨σ2, r2, d1_2, d2_2, h1, h, hd2, hd1⟩ := h
  replace hle := hG _ _ _ _ (by decide) h1
  dsimp only at hle
  replace hmn : gle σ2 σf := gm_use h (gm_tail hG (Nat.le_of_ble_eq_true rfl))
  replace hm : sC_Wds_advance l D kA u w1 tx σ1 [] (σ2, r2, d1_2) := ihC _ _ tC_Wds_advance _ _ _ h1
  refine cc_Vv (pc := 84) C (σ2 := σ2) (As := []) (rest := []) (hm rfl htx1) ml_Par_89 32 rfl rfl rfl d_Par_takePrefixes_84 rfl rfl (by dsimp only; omega) (by dsimp only; omega) hcm hsm (Nat.le_of_ble_eq_true rfl) ?_
  replace hcq : cells + σf.2.2 3001 ≤ mc + σ2.2.2 3001 := by have := hle.1; omega
  replace hsq : slots + σf.2.2 3002 ≤ ms + σ2.2.2 3002 := by have := hle.2; omega
  replace hF : d2_2 + 3 ≤ F := by omega
  replace hLo : 48 * d2_2 + 144 ≤ Lo := by omega
  refine ax_goto (pc := 87) C 123 d_Par_takePrefixes_87 (by decide) ?_
  refine ax_ls ([(0, .ref (u 31)), (1, .int x0), (2, .int x1)]) [0, 1, 2] rfl ?_
  replace hm : sG_Par_takePrefixes_p123 l D kA u σ2 [x0, x1] (σf, rf, _) := ih tG_Par_takePrefixes_p123 _ _ _ h
  exact hm _ _ rfl w1 tx htx1 p e s m args below meth c F Lo mc ms cells slots σ0 w0 tx0 hF hLo hcq hsq hga1 C
set_option maxHeartbeats 4000000 in
set_option maxRecDepth 100000 in
theorem oG_Par_takePrefixes_p114 (l : Launch) (D : va_G) (kA : Nat → ClassId) (u : Nat → Nat) (rec : mF) (hG : GM rec) (ihC : ∀ (w : Nat → Nat) (tx : Value) t σ xs res, rec t σ xs = some res → cSem l D kA u w tx t σ xs res) (ih : ∀ t σ xs res, rec t σ xs = some res → gSem l D kA u t σ xs res) (σ : mS) (xs : List Int32) (res : mR) (h : u_2 (kG_Par_takePrefixes_p114 rec σ) xs = some res) : sG_Par_takePrefixes_p114 l D kA u σ xs res := by
  intro x0 x1 hxs w tx htx
  subst hxs
  obtain ⟨σf, rf, dd⟩ := res
  have hmn : gle σ σf := qG_Par_takePrefixes_p114 rec hG σ x0 x1 _ h
  have h : (bnd (rec tG_Par_takeBound σ []) (fun σ1 r1 => rec tG_Par_takePrefixes_p123 σ1 [x0, x1])) = some (σf, rf, dd) := h
  intro p e s m args below meth c F Lo mc ms cells slots σ0 w0 tx0 hF hLo hcq hsq hga C
  dsimp only at hF hLo hcq hsq ⊢
  have hcm : cells ≤ mc := by have := hmn.1; omega
  have hsm : slots ≤ ms := by have := hmn.2; omega
  have hle : True := trivial
  have hm : True := trivial
  refine ax_aload_n (pc := 114) C d_Par_takePrefixes_114 rfl 0 rfl ?_
  replace h := it_b h
  obtain ⟨σ1, r1, d1_1, d2_1, h1, h, hd2, hd1⟩ := h
  replace hle := hG _ _ _ _ (by decide) h1
  dsimp only at hle
  replace hmn : gle σ1 σf := gm_use h (gm_tail hG (Nat.le_of_ble_eq_true rfl))
  replace hm : sG_Par_takeBound l D kA u σ [] (σ1, r1, d1_1) := ih tG_Par_takeBound _ _ _ h1
  refine gc_Vv (pc := 115) C (As := []) (rest := []) (hm rfl w tx htx) ml_Par_107 31 rfl rfl rfl d_Par_takePrefixes_115 rfl rfl (by dsimp only; omega) (by dsimp only; omega) (by have := hmn.1; have := hle.1; dsimp only; omega) (by have := hmn.2; have := hle.2; dsimp only; omega) (Nat.le_of_ble_eq_true rfl) (fun w1 hw => ?_)
  obtain ⟨w1, tx1, hag1, htq1, hwq1⟩ := hw
  dsimp only at hwq1
  subst hwq1
  dsimp only
  replace htq1 := htq1.symm
  subst htq1
  have hga1 : ∀ i, ([34, 36] : List Nat).elem i = false → w1 i = w0 i := fun i hi => (hag1 i (by revert hi; exact el_sub (by decide))).trans (hga i hi)
  have htx1 : tx = .ref (w1 2) := by rw [hag1 2 rfl]; exact htx
  replace hcq : (cells + (σ1.2.2 3001 - σ.2.2 3001)) + σf.2.2 3001 ≤ mc + σ1.2.2 3001 := by have := hmn.1; have := hle.1; omega
  replace hcm : (cells + (σ1.2.2 3001 - σ.2.2 3001)) ≤ mc := by have := hmn.1; have := hle.1; omega
  generalize cells + (σ1.2.2 3001 - σ.2.2 3001) = cells at hcq hcm ⊢
  replace hsq : (slots + (σ1.2.2 3002 - σ.2.2 3002)) + σf.2.2 3002 ≤ ms + σ1.2.2 3002 := by have := hmn.2; have := hle.2; omega
  replace hsm : (slots + (σ1.2.2 3002 - σ.2.2 3002)) ≤ ms := by have := hmn.2; have := hle.2; omega
  generalize slots + (σ1.2.2 3002 - σ.2.2 3002) = slots at hsq hsm ⊢
  replace hF : d2_1 + 3 ≤ F := by omega
  replace hLo : 48 * d2_1 + 144 ≤ Lo := by omega
  refine ax_goto (pc := 118) C 123 d_Par_takePrefixes_118 (by decide) ?_
  refine ax_ls ([(0, .ref (u 31)), (1, .int x0), (2, .int x1)]) [0, 1, 2] rfl ?_
  replace hm : sG_Par_takePrefixes_p123 l D kA u σ1 [x0, x1] (σf, rf, _) := ih tG_Par_takePrefixes_p123 _ _ _ h
  exact hm _ _ rfl w1 tx htx1 p e s m args below meth c F Lo mc ms cells slots σ0 w0 tx0 hF hLo hcq hsq hga1 C
set_option maxHeartbeats 4000000 in
set_option maxRecDepth 100000 in
theorem oG_Par_takePrefixes_p123 (l : Launch) (D : va_G) (kA : Nat → ClassId) (u : Nat → Nat) (rec : mF) (hG : GM rec) (ihC : ∀ (w : Nat → Nat) (tx : Value) t σ xs res, rec t σ xs = some res → cSem l D kA u w tx t σ xs res) (ih : ∀ t σ xs res, rec t σ xs = some res → gSem l D kA u t σ xs res) (σ : mS) (xs : List Int32) (res : mR) (h : u_2 (kG_Par_takePrefixes_p123 rec σ) xs = some res) : sG_Par_takePrefixes_p123 l D kA u σ xs res := by
  intro x0 x1 hxs w tx htx
  subst hxs
  obtain ⟨σf, rf, dd⟩ := res
  have hmn : gle σ σf := qG_Par_takePrefixes_p123 rec hG σ x0 x1 _ h
  have h : (rec tG_Par_takePrefixes_p4 σ [x0, (x1 + 1)]) = some (σf, rf, dd) := h
  intro p e s m args below meth c F Lo mc ms cells slots σ0 w0 tx0 hF hLo hcq hsq hga C
  dsimp only at hF hLo hcq hsq ⊢
  have hcm : cells ≤ mc := by have := hmn.1; omega
  have hsm : slots ≤ ms := by have := hmn.2; omega
  have hle : True := trivial
  have hm : True := trivial
  refine ax_iinc (pc := 123) C (x1 + 1) d_Par_takePrefixes_123 2 rfl rfl (Nat.le_of_ble_eq_true rfl) ([(2, .int (x1 + 1)), (0, .ref (u 31)), (1, .int x0)]) rfl ?_
  refine ax_goto (pc := 126) C 4 d_Par_takePrefixes_126 (by decide) ?_
  refine ax_ls ([(0, .ref (u 31)), (1, .int x0), (2, .int (x1 + 1))]) [1, 2, 0] rfl ?_
  replace hm : sG_Par_takePrefixes_p4 l D kA u σ [x0, (x1 + 1)] (σf, rf, _) := ih tG_Par_takePrefixes_p4 _ _ _ h
  exact hm _ _ rfl w tx htx p e s m args below meth c F Lo mc ms cells slots σ0 w0 tx0 hF hLo hcq hsq hga C
set_option maxHeartbeats 4000000 in
set_option maxRecDepth 100000 in
theorem oG_Par_takePrefixes_p129 (l : Launch) (D : va_G) (kA : Nat → ClassId) (u : Nat → Nat) (rec : mF) (hG : GM rec) (ihC : ∀ (w : Nat → Nat) (tx : Value) t σ xs res, rec t σ xs = some res → cSem l D kA u w tx t σ xs res) (ih : ∀ t σ xs res, rec t σ xs = some res → gSem l D kA u t σ xs res) (σ : mS) (xs : List Int32) (res : mR) (h : u_2 (kG_Par_takePrefixes_p129 rec σ) xs = some res) : sG_Par_takePrefixes_p129 l D kA u σ xs res := by
  intro x0 x1 hxs w tx htx
  subst hxs
  obtain ⟨σf, rf, dd⟩ := res
  have hmn : gle σ σf := qG_Par_takePrefixes_p129 rec hG σ x0 x1 _ h
  have h : (some (σ, 0, 0)) = some (σf, rf, dd) := h
  intro p e s m args below meth c F Lo mc ms cells slots σ0 w0 tx0 hF hLo hcq hsq hga C
  dsimp only at hF hLo hcq hsq ⊢
  have hcm : cells ≤ mc := by have := hmn.1; omega
  have hsm : slots ≤ ms := by have := hmn.2; omega
  have hle : True := trivial
  have hm : True := trivial
  cases h
  exact ax_vret (pc := 129) C d_Par_takePrefixes_129 ⟨w, tx, hga, rfl, rfl⟩ hcm hsm
set_option maxHeartbeats 4000000 in
set_option maxRecDepth 100000 in
theorem oG_Par_takeSign (l : Launch) (D : va_G) (kA : Nat → ClassId) (u : Nat → Nat) (rec : mF) (hG : GM rec) (ihC : ∀ (w : Nat → Nat) (tx : Value) t σ xs res, rec t σ xs = some res → cSem l D kA u w tx t σ xs res) (ih : ∀ t σ xs res, rec t σ xs = some res → gSem l D kA u t σ xs res) (σ : mS) (xs : List Int32) (res : mR) (h : u_0 (kG_Par_takeSign rec σ) xs = some res) : sG_Par_takeSign l D kA u σ xs res := by
  intro hxs w tx htx
  subst hxs
  obtain ⟨σf, rf, dd⟩ := res
  have hmn : gle σ σf := qG_Par_takeSign rec hG σ _ h
  have h : (rec tG_Par_takeSign_p4 σ [1, 0]) = some (σf, rf, dd) := h
  refine ax_Mi.of (by decide +kernel) (Nat.le_of_ble_eq_true rfl) ?_
  intro p e s m args below meth c C hnm
  replace C : ax_C p s m args meth c b_Par_takeSign "ClauseProver$Parser" 3 (some .boolean) D kA (va_A (cpW kA u w tx σ) s.heap.size) := C
  obtain ⟨F, hFe⟩ : ∃ z, z = dd + 3 := ⟨_, rfl⟩
  obtain ⟨Lo, hLoe⟩ : ∃ z, z = 48 * dd + 144 := ⟨_, rfl⟩
  obtain ⟨mc, hmce⟩ : ∃ z, z = σf.2.2 3001 - σ.2.2 3001 := ⟨_, rfl⟩
  obtain ⟨ms, hmse⟩ : ∃ z, z = σf.2.2 3002 - σ.2.2 3002 := ⟨_, rfl⟩
  obtain ⟨σ0, hσ0e⟩ : ∃ z, z = σ := ⟨_, rfl⟩
  obtain ⟨w0, hw0e⟩ : ∃ z, z = w := ⟨_, rfl⟩
  obtain ⟨tx0, htx0e⟩ : ∃ z, z = tx := ⟨_, rfl⟩
  suffices K : ∀ (cells slots : Nat), cells = 0 → slots = 0 → AW p l e { frames := F, cells := mc, slots := ms, locals := Lo } s m args below meth c D kA (va_A (cpW kA u w0 tx0 σ0) s.heap.size) 3 (ax_Qi below args s D kA (cpW kA u w0 tx0 σ0) mc ms (fun r w1 => r = rf ∧ ∃ (w2 : Nat → Nat) (tx2 : Value), (∀ i, ([19, 34, 36] : List Nat).elem i = false → w2 i = w0 i) ∧ tx2 = tx0 ∧ w1 = cpW kA u w2 tx2 σf)) 0 [(0, .ref (u 31))] [] (cpW kA u w tx σ) cells slots by
    have K := K 0 0 rfl rfl
    rw [hFe, hLoe, hmce, hmse, hσ0e, hw0e, htx0e] at K
    exact ax_ls ([(0, .ref (u 31))]) [0] rfl K
  replace C : ax_C p s m args meth c b_Par_takeSign "ClauseProver$Parser" 3 (some .boolean) D kA (va_A (cpW kA u w0 tx0 σ0) s.heap.size) := by rw [hσ0e, hw0e, htx0e]; exact C
  intro cells slots hc0 hs0
  have hcq : cells + σf.2.2 3001 ≤ mc + σ.2.2 3001 := by have := hmn.1; omega
  have hsq : slots + σf.2.2 3002 ≤ ms + σ.2.2 3002 := by have := hmn.2; omega
  have hga : ∀ i, ([19, 34, 36] : List Nat).elem i = false → w i = w0 i := fun i _ => by rw [hw0e]
  have e9 : tx = tx0 := htx0e.symm
  subst e9
  have hF : dd + 3 ≤ F := by omega
  have hLo : 48 * dd + 144 ≤ Lo := by omega
  have hcm : cells ≤ mc := by have := hmn.1; omega
  have hsm : slots ≤ ms := by have := hmn.2; omega
  have hle : True := trivial
  have hm : True := trivial
  refine ax_iconst (pc := 0) C 1 d_Par_takeSign_0 (by decide +kernel) ?_
  refine ax_istore_n (pc := 1) C d_Par_takeSign_1 rfl (Nat.le_of_ble_eq_true rfl) ([(1, .int 1), (0, .ref (u 31))]) rfl ?_
  refine ax_iconst (pc := 2) C 0 d_Par_takeSign_2 (by decide +kernel) ?_
  refine ax_istore_n (pc := 3) C d_Par_takeSign_3 rfl (Nat.le_of_ble_eq_true rfl) ([(2, .int 0), (1, .int 1), (0, .ref (u 31))]) rfl ?_
  refine ax_ls ([(0, .ref (u 31)), (1, .int 1), (2, .int 0)]) [2, 1, 0] rfl ?_
  replace hm : sG_Par_takeSign_p4 l D kA u σ [1, 0] (σf, rf, _) := ih tG_Par_takeSign_p4 _ _ _ h
  exact hm _ _ rfl w tx htx p e s m args below meth c F Lo mc ms cells slots σ0 w0 tx hF hLo hcq hsq hga C
set_option maxHeartbeats 4000000 in
set_option maxRecDepth 100000 in
theorem oG_Par_takeSign_p4 (l : Launch) (D : va_G) (kA : Nat → ClassId) (u : Nat → Nat) (rec : mF) (hG : GM rec) (ihC : ∀ (w : Nat → Nat) (tx : Value) t σ xs res, rec t σ xs = some res → cSem l D kA u w tx t σ xs res) (ih : ∀ t σ xs res, rec t σ xs = some res → gSem l D kA u t σ xs res) (σ : mS) (xs : List Int32) (res : mR) (h : u_2 (kG_Par_takeSign_p4 rec σ) xs = some res) : sG_Par_takeSign_p4 l D kA u σ xs res := by
  intro x0 x1 hxs w tx htx
  subst hxs
  obtain ⟨σf, rf, dd⟩ := res
  have hmn : gle σ σf := qG_Par_takeSign_p4 rec hG σ x0 x1 _ h
  have h : (if 1000000 ≤ x1 then (rec tG_Par_takeSign_p45 σ [x0, x1]) else (if x0 = 0 then (rec tG_Par_takeSign_p45 σ [x0, x1]) else (bnd (rec tC_Wds_isNow σ [6]) (fun σ1 r1 => if r1 = 0 then (rec tG_Par_takeSign_p37 σ1 [x0, x1]) else (bnd (rec tG_Par_closeBracket σ1 []) (fun σ2 r2 => if r2 = 0 then (rec tG_Par_takeSign_p37 σ2 [x0, x1]) else (rec tG_Par_takeSign_p38 σ2 [x0, x1, 1]))))))) = some (σf, rf, dd) := h
  intro p e s m args below meth c F Lo mc ms cells slots σ0 w0 tx0 hF hLo hcq hsq hga C
  dsimp only at hF hLo hcq hsq ⊢
  have hcm : cells ≤ mc := by have := hmn.1; omega
  have hsm : slots ≤ ms := by have := hmn.2; omega
  have hle : True := trivial
  have hm : True := trivial
  refine ax_iload_n (pc := 4) C d_Par_takeSign_4 rfl 2 rfl ?_
  refine ax_ldc (pc := 5) C tb_constant_580 d_Par_takeSign_5 ?_
  refine ax_icmp_ge (pc := 7) C 45 d_Par_takeSign_7 (by decide) (fun hc => ?_) (fun hc => ?_)
  · replace h := it_t hc h
    refine ax_ls ([(0, .ref (u 31)), (1, .int x0), (2, .int x1)]) [0, 1, 2] rfl ?_
    replace hm : sG_Par_takeSign_p45 l D kA u σ [x0, x1] (σf, rf, _) := ih tG_Par_takeSign_p45 _ _ _ h
    exact hm _ _ rfl w tx htx p e s m args below meth c F Lo mc ms cells slots σ0 w0 tx0 hF hLo hcq hsq hga C
  · replace h := it_f hc h
    refine ax_iload_n (pc := 10) C d_Par_takeSign_10 rfl 1 rfl ?_
    refine ax_if_eq (pc := 11) C 45 d_Par_takeSign_11 (by decide) (fun hc => ?_) (fun hc => ?_)
    · replace h := it_t hc h
      refine ax_ls ([(0, .ref (u 31)), (1, .int x0), (2, .int x1)]) [0, 1, 2] rfl ?_
      replace hm : sG_Par_takeSign_p45 l D kA u σ [x0, x1] (σf, rf, _) := ih tG_Par_takeSign_p45 _ _ _ h
      exact hm _ _ rfl w tx htx p e s m args below meth c F Lo mc ms cells slots σ0 w0 tx0 hF hLo hcq hsq hga C
    · replace h := it_f hc h
      refine ax_aload_n (pc := 14) C d_Par_takeSign_14 rfl 0 rfl ?_
      refine cg_31_2_Par_12 (pc := 15) C d_Par_takeSign_15 ?_
      refine ax_bipush (pc := 18) C 6 d_Par_takeSign_18 (by decide +kernel) ?_
      replace h := it_b h
      obtain ⟨σ1, r1, d1_1, d2_1, h1, h, hd2, hd1⟩ := h
      replace hle := hG _ _ _ _ (by decide) h1
      dsimp only at hle
      replace hmn : gle σ1 σf := gm_use h (gm_if (gm_tail hG (Nat.le_of_ble_eq_true rfl)) (gm_bnd hG (Nat.le_of_ble_eq_true rfl) (fun _ _ => (gm_if (gm_tail hG (Nat.le_of_ble_eq_true rfl)) (gm_tail hG (Nat.le_of_ble_eq_true rfl))))))
      replace hm : sC_Wds_isNow l D kA u w tx σ [6] (σ1, r1, d1_1) := ihC _ _ tC_Wds_isNow _ _ _ h1
      refine cc_Vi (pc := 20) C (r0 := r1) (σ2 := σ1) (As := [.int 6]) (rest := []) (hm _ rfl) ml_Par_100 32 rfl rfl rfl d_Par_takeSign_20 rfl rfl (by dsimp only; omega) (by dsimp only; omega) hcm hsm (Nat.le_of_ble_eq_true rfl) ?_
      replace hcq : cells + σf.2.2 3001 ≤ mc + σ1.2.2 3001 := by have := hle.1; omega
      replace hsq : slots + σf.2.2 3002 ≤ ms + σ1.2.2 3002 := by have := hle.2; omega
      replace hF : d2_1 + 3 ≤ F := by omega
      replace hLo : 48 * d2_1 + 144 ≤ Lo := by omega
      refine ax_if_eq (pc := 23) C 37 d_Par_takeSign_23 (by decide) (fun hc => ?_) (fun hc => ?_)
      · replace h := it_t hc h
        refine ax_ls ([(0, .ref (u 31)), (1, .int x0), (2, .int x1)]) [0, 1, 2] rfl ?_
        replace hm : sG_Par_takeSign_p37 l D kA u σ1 [x0, x1] (σf, rf, _) := ih tG_Par_takeSign_p37 _ _ _ h
        exact hm _ _ rfl w tx htx p e s m args below meth c F Lo mc ms cells slots σ0 w0 tx0 hF hLo hcq hsq hga C
      · replace h := it_f hc h
        refine ax_aload_n (pc := 26) C d_Par_takeSign_26 rfl 0 rfl ?_
        replace h := it_b h
        obtain ⟨σ2, r2, d1_2, d2_2, h1, h, hd2, hd1⟩ := h
        replace hle := hG _ _ _ _ (by decide) h1
        dsimp only at hle
        replace hmn : gle σ2 σf := gm_use h (gm_if (gm_tail hG (Nat.le_of_ble_eq_true rfl)) (gm_tail hG (Nat.le_of_ble_eq_true rfl)))
        replace hm : sG_Par_closeBracket l D kA u σ1 [] (σ2, r2, d1_2) := ih tG_Par_closeBracket _ _ _ h1
        refine gc_Vi (pc := 27) C (As := []) (rest := []) (hm rfl w tx htx) ml_Par_163 31 rfl rfl rfl d_Par_takeSign_27 rfl rfl (by dsimp only; omega) (by dsimp only; omega) (by have := hmn.1; have := hle.1; dsimp only; omega) (by have := hmn.2; have := hle.2; dsimp only; omega) (Nat.le_of_ble_eq_true rfl) (fun r9 w1 hw => ?_)
        obtain ⟨hrq2, w2, tx2, hag2, htq2, hwq2⟩ := hw
        dsimp only at hwq2 hrq2
        subst hwq2
        replace hrq2 := hrq2.symm
        subst hrq2
        dsimp only
        replace htq2 := htq2.symm
        subst htq2
        have hga2 : ∀ i, ([19, 34, 36] : List Nat).elem i = false → w2 i = w0 i := fun i hi => (hag2 i (by revert hi; exact el_sub (by decide))).trans (hga i hi)
        have htx2 : tx = .ref (w2 2) := by rw [hag2 2 rfl]; exact htx
        replace hcq : (cells + (σ2.2.2 3001 - σ1.2.2 3001)) + σf.2.2 3001 ≤ mc + σ2.2.2 3001 := by have := hmn.1; have := hle.1; omega
        replace hcm : (cells + (σ2.2.2 3001 - σ1.2.2 3001)) ≤ mc := by have := hmn.1; have := hle.1; omega
        generalize cells + (σ2.2.2 3001 - σ1.2.2 3001) = cells at hcq hcm ⊢
        replace hsq : (slots + (σ2.2.2 3002 - σ1.2.2 3002)) + σf.2.2 3002 ≤ ms + σ2.2.2 3002 := by have := hmn.2; have := hle.2; omega
        replace hsm : (slots + (σ2.2.2 3002 - σ1.2.2 3002)) ≤ ms := by have := hmn.2; have := hle.2; omega
        generalize slots + (σ2.2.2 3002 - σ1.2.2 3002) = slots at hsq hsm ⊢
        replace hF : d2_2 + 3 ≤ F := by omega
        replace hLo : 48 * d2_2 + 144 ≤ Lo := by omega
        refine ax_if_eq (pc := 30) C 37 d_Par_takeSign_30 (by decide) (fun hc => ?_) (fun hc => ?_)
        · replace h := it_t hc h
          refine ax_ls ([(0, .ref (u 31)), (1, .int x0), (2, .int x1)]) [0, 1, 2] rfl ?_
          replace hm : sG_Par_takeSign_p37 l D kA u σ2 [x0, x1] (σf, rf, _) := ih tG_Par_takeSign_p37 _ _ _ h
          exact hm _ _ rfl w2 tx htx2 p e s m args below meth c F Lo mc ms cells slots σ0 w0 tx0 hF hLo hcq hsq hga2 C
        · replace h := it_f hc h
          refine ax_iconst (pc := 33) C 1 d_Par_takeSign_33 (by decide +kernel) ?_
          refine ax_goto (pc := 34) C 38 d_Par_takeSign_34 (by decide) ?_
          refine ax_ls ([(0, .ref (u 31)), (1, .int x0), (2, .int x1)]) [0, 1, 2] rfl ?_
          replace hm : sG_Par_takeSign_p38 l D kA u σ2 [x0, x1, 1] (σf, rf, _) := ih tG_Par_takeSign_p38 _ _ _ h
          exact hm _ _ _ rfl w2 tx htx2 p e s m args below meth c F Lo mc ms cells slots σ0 w0 tx0 hF hLo hcq hsq hga2 C
set_option maxHeartbeats 4000000 in
set_option maxRecDepth 100000 in
theorem oG_Par_takeSign_p37 (l : Launch) (D : va_G) (kA : Nat → ClassId) (u : Nat → Nat) (rec : mF) (hG : GM rec) (ihC : ∀ (w : Nat → Nat) (tx : Value) t σ xs res, rec t σ xs = some res → cSem l D kA u w tx t σ xs res) (ih : ∀ t σ xs res, rec t σ xs = some res → gSem l D kA u t σ xs res) (σ : mS) (xs : List Int32) (res : mR) (h : u_2 (kG_Par_takeSign_p37 rec σ) xs = some res) : sG_Par_takeSign_p37 l D kA u σ xs res := by
  intro x0 x1 hxs w tx htx
  subst hxs
  obtain ⟨σf, rf, dd⟩ := res
  have hmn : gle σ σf := qG_Par_takeSign_p37 rec hG σ x0 x1 _ h
  have h : (rec tG_Par_takeSign_p38 σ [x0, x1, 0]) = some (σf, rf, dd) := h
  intro p e s m args below meth c F Lo mc ms cells slots σ0 w0 tx0 hF hLo hcq hsq hga C
  dsimp only at hF hLo hcq hsq ⊢
  have hcm : cells ≤ mc := by have := hmn.1; omega
  have hsm : slots ≤ ms := by have := hmn.2; omega
  have hle : True := trivial
  have hm : True := trivial
  refine ax_iconst (pc := 37) C 0 d_Par_takeSign_37 (by decide +kernel) ?_
  refine ax_ls ([(0, .ref (u 31)), (1, .int x0), (2, .int x1)]) [0, 1, 2] rfl ?_
  replace hm : sG_Par_takeSign_p38 l D kA u σ [x0, x1, 0] (σf, rf, _) := ih tG_Par_takeSign_p38 _ _ _ h
  exact hm _ _ _ rfl w tx htx p e s m args below meth c F Lo mc ms cells slots σ0 w0 tx0 hF hLo hcq hsq hga C
set_option maxHeartbeats 4000000 in
set_option maxRecDepth 100000 in
theorem oG_Par_takeSign_p38 (l : Launch) (D : va_G) (kA : Nat → ClassId) (u : Nat → Nat) (rec : mF) (hG : GM rec) (ihC : ∀ (w : Nat → Nat) (tx : Value) t σ xs res, rec t σ xs = some res → cSem l D kA u w tx t σ xs res) (ih : ∀ t σ xs res, rec t σ xs = some res → gSem l D kA u t σ xs res) (σ : mS) (xs : List Int32) (res : mR) (h : u_3 (kG_Par_takeSign_p38 rec σ) xs = some res) : sG_Par_takeSign_p38 l D kA u σ xs res := by
  intro x0 x1 x2 hxs w tx htx
  subst hxs
  obtain ⟨σf, rf, dd⟩ := res
  have hmn : gle σ σf := qG_Par_takeSign_p38 rec hG σ x0 x1 x2 _ h
  have h : (rec tG_Par_takeSign_p4 σ [x2, (x1 + 1)]) = some (σf, rf, dd) := h
  intro p e s m args below meth c F Lo mc ms cells slots σ0 w0 tx0 hF hLo hcq hsq hga C
  dsimp only at hF hLo hcq hsq ⊢
  have hcm : cells ≤ mc := by have := hmn.1; omega
  have hsm : slots ≤ ms := by have := hmn.2; omega
  have hle : True := trivial
  have hm : True := trivial
  refine ax_istore_n (pc := 38) C d_Par_takeSign_38 rfl (Nat.le_of_ble_eq_true rfl) ([(1, .int x2), (0, .ref (u 31)), (2, .int x1)]) rfl ?_
  refine ax_iinc (pc := 39) C (x1 + 1) d_Par_takeSign_39 2 rfl rfl (Nat.le_of_ble_eq_true rfl) ([(2, .int (x1 + 1)), (1, .int x2), (0, .ref (u 31))]) rfl ?_
  refine ax_goto (pc := 42) C 4 d_Par_takeSign_42 (by decide) ?_
  refine ax_ls ([(0, .ref (u 31)), (1, .int x2), (2, .int (x1 + 1))]) [2, 1, 0] rfl ?_
  replace hm : sG_Par_takeSign_p4 l D kA u σ [x2, (x1 + 1)] (σf, rf, _) := ih tG_Par_takeSign_p4 _ _ _ h
  exact hm _ _ rfl w tx htx p e s m args below meth c F Lo mc ms cells slots σ0 w0 tx0 hF hLo hcq hsq hga C
set_option maxHeartbeats 4000000 in
set_option maxRecDepth 100000 in
theorem oG_Par_takeSign_p45 (l : Launch) (D : va_G) (kA : Nat → ClassId) (u : Nat → Nat) (rec : mF) (hG : GM rec) (ihC : ∀ (w : Nat → Nat) (tx : Value) t σ xs res, rec t σ xs = some res → cSem l D kA u w tx t σ xs res) (ih : ∀ t σ xs res, rec t σ xs = some res → gSem l D kA u t σ xs res) (σ : mS) (xs : List Int32) (res : mR) (h : u_2 (kG_Par_takeSign_p45 rec σ) xs = some res) : sG_Par_takeSign_p45 l D kA u σ xs res := by
  intro x0 x1 hxs w tx htx
  subst hxs
  obtain ⟨σf, rf, dd⟩ := res
  have hmn : gle σ σf := qG_Par_takeSign_p45 rec hG σ x0 x1 _ h
  have h : (if (σ.1 3205) = 0 then (rec tG_Par_takeSign_p66 σ [x0, x1, (σ.1 3202)]) else (rec tG_Par_takeSign_p66 σ [x0, x1, 1])) = some (σf, rf, dd) := h
  intro p e s m args below meth c F Lo mc ms cells slots σ0 w0 tx0 hF hLo hcq hsq hga C
  dsimp only at hF hLo hcq hsq ⊢
  have hcm : cells ≤ mc := by have := hmn.1; omega
  have hsm : slots ≤ ms := by have := hmn.2; omega
  have hle : True := trivial
  have hm : True := trivial
  refine ax_aload_n (pc := 45) C d_Par_takeSign_45 rfl 0 rfl ?_
  refine cg_31_2_Par_12 (pc := 46) C d_Par_takeSign_46 ?_
  refine cg_32_5_Par_92 (pc := 49) C d_Par_takeSign_49 ?_
  refine ax_if_eq (pc := 52) C 59 d_Par_takeSign_52 (by decide) (fun hc => ?_) (fun hc => ?_)
  · replace h := it_t hc h
    refine ax_aload_n (pc := 59) C d_Par_takeSign_59 rfl 0 rfl ?_
    refine cg_31_2_Par_12 (pc := 60) C d_Par_takeSign_60 ?_
    refine cg_32_2_Par_58 (pc := 63) C d_Par_takeSign_63 ?_
    refine ax_ls ([(0, .ref (u 31)), (1, .int x0), (2, .int x1)]) [0, 1, 2] rfl ?_
    replace hm : sG_Par_takeSign_p66 l D kA u σ [x0, x1, (σ.1 3202)] (σf, rf, _) := ih tG_Par_takeSign_p66 _ _ _ h
    exact hm _ _ _ rfl w tx htx p e s m args below meth c F Lo mc ms cells slots σ0 w0 tx0 hF hLo hcq hsq hga C
  · replace h := it_f hc h
    refine ax_iconst (pc := 55) C 1 d_Par_takeSign_55 (by decide +kernel) ?_
    refine ax_goto (pc := 56) C 66 d_Par_takeSign_56 (by decide) ?_
    refine ax_ls ([(0, .ref (u 31)), (1, .int x0), (2, .int x1)]) [0, 1, 2] rfl ?_
    replace hm : sG_Par_takeSign_p66 l D kA u σ [x0, x1, 1] (σf, rf, _) := ih tG_Par_takeSign_p66 _ _ _ h
    exact hm _ _ _ rfl w tx htx p e s m args below meth c F Lo mc ms cells slots σ0 w0 tx0 hF hLo hcq hsq hga C
set_option maxHeartbeats 4000000 in
set_option maxRecDepth 100000 in
theorem oG_Par_takeSign_p66 (l : Launch) (D : va_G) (kA : Nat → ClassId) (u : Nat → Nat) (rec : mF) (hG : GM rec) (ihC : ∀ (w : Nat → Nat) (tx : Value) t σ xs res, rec t σ xs = some res → cSem l D kA u w tx t σ xs res) (ih : ∀ t σ xs res, rec t σ xs = some res → gSem l D kA u t σ xs res) (σ : mS) (xs : List Int32) (res : mR) (h : u_3 (kG_Par_takeSign_p66 rec σ) xs = some res) : sG_Par_takeSign_p66 l D kA u σ xs res := by
  intro x0 x1 x2 hxs w tx htx
  subst hxs
  obtain ⟨σf, rf, dd⟩ := res
  have hmn : gle σ σf := qG_Par_takeSign_p66 rec hG σ x0 x1 x2 _ h
  have h : (if (x2 : Int32).toInt < 4 ∨ 17 < (x2 : Int32).toInt then (bnd (rec tC_Par_refuse σ []) (fun σ1 r1 => some (σ1, 0, 0))) else (if (x2 : Int32) = 4 then (bnd (rec tG_Par_closeSentence σ []) (fun σ2 r2 => some (σ2, 0, 0))) else (if (x2 : Int32) = 5 then (bnd (rec tC_Par_refuse σ []) (fun σ3 r3 => some (σ3, 0, 0))) else (if (x2 : Int32) = 6 then (bnd (rec tC_Par_refuse σ []) (fun σ4 r4 => some (σ4, 0, 0))) else (if (x2 : Int32) = 7 then (bnd (rec tC_Par_refuse σ []) (fun σ5 r5 => some (σ5, 0, 0))) else (if (x2 : Int32) = 8 then (bnd (rec tC_Par_refuse σ []) (fun σ6 r6 => some (σ6, 0, 0))) else (if (x2 : Int32) = 9 then (bnd (rec tC_Par_refuse σ []) (fun σ7 r7 => some (σ7, 0, 0))) else (if (x2 : Int32) = 10 then (bnd (rec tC_Par_refuse σ []) (fun σ8 r8 => some (σ8, 0, 0))) else (if (x2 : Int32) = 11 then (bnd (rec tC_Par_refuse σ []) (fun σ9 r9 => some (σ9, 0, 0))) else (if (x2 : Int32) = 12 then (bnd (rec tC_Par_refuse σ []) (fun σ10 r10 => some (σ10, 0, 0))) else (if (x2 : Int32) = 13 then (bnd (rec tC_Par_refuse σ []) (fun σ11 r11 => some (σ11, 0, 0))) else (if (x2 : Int32) = 14 then (bnd (rec tC_Par_strength σ [x2]) (fun σ12 r12 => bnd (rec tG_Par_fold σ12 [r12]) (fun σ13 r13 => rec tG_Par_takeSign_p188 σ13 [x0, x2]))) else (if (x2 : Int32) = 15 then (bnd (rec tC_Par_strength σ [x2]) (fun σ14 r14 => bnd (rec tG_Par_fold σ14 [r14]) (fun σ15 r15 => rec tG_Par_takeSign_p188 σ15 [x0, x2]))) else (if (x2 : Int32) = 16 then (bnd (rec tC_Par_strength σ [15]) (fun σ16 r16 => bnd (rec tG_Par_fold σ16 [r16]) (fun σ17 r17 => rec tG_Par_takeSign_p188 σ17 [x0, x2]))) else (bnd (rec tG_Par_mayBeEquivalent σ []) (fun σ18 r18 => if r18 = 0 then (bnd (rec tC_Par_refuse σ18 []) (fun σ19 r19 => some (σ19, 0, 0))) else (rec tG_Par_takeSign_p188 σ18 [x0, x2]))))))))))))))))) = some (σf, rf, dd) := h
  intro p e s m args below meth c F Lo mc ms cells slots σ0 w0 tx0 hF hLo hcq hsq hga C
  dsimp only at hF hLo hcq hsq ⊢
  have hcm : cells ≤ mc := by have := hmn.1; omega
  have hsm : slots ≤ ms := by have := hmn.2; omega
  have hle : True := trivial
  have hm : True := trivial
  refine ax_istore_n (pc := 66) C d_Par_takeSign_66 rfl (Nat.le_of_ble_eq_true rfl) ([(2, .int x2), (0, .ref (u 31)), (1, .int x0)]) rfl ?_
  refine ax_iload_n (pc := 67) C d_Par_takeSign_67 rfl 0 rfl ?_
  by_cases hr : (x2 : Int32).toInt < 4 ∨ 17 < (x2 : Int32).toInt
  · replace h := it_t hr h
    refine ax_tableOut (pc := 68) C 182 d_Par_takeSign_68 hr (by decide) ?_
    refine ax_aload_n (pc := 182) C d_Par_takeSign_182 rfl 1 rfl ?_
    replace h := it_b h
    obtain ⟨σ1, r1, d1_1, d2_1, h1, h, hd2, hd1⟩ := h
    replace hle := hG _ _ _ _ (by decide) h1
    dsimp only at hle
    replace hmn : gle σ1 σf := gm_use h gm_some
    replace hm : sC_Par_refuse l D kA u w tx σ [] (σ1, r1, d1_1) := ihC _ _ tC_Par_refuse _ _ _ h1
    refine cc_Vv (pc := 183) C (σ2 := σ1) (As := []) (rest := []) (hm rfl) ml_Par_117 31 rfl rfl rfl d_Par_takeSign_183 rfl rfl (by dsimp only; omega) (by dsimp only; omega) hcm hsm (Nat.le_of_ble_eq_true rfl) ?_
    replace hcq : cells + σf.2.2 3001 ≤ mc + σ1.2.2 3001 := by have := hle.1; omega
    replace hsq : slots + σf.2.2 3002 ≤ ms + σ1.2.2 3002 := by have := hle.2; omega
    replace hF : d2_1 + 3 ≤ F := by omega
    replace hLo : 48 * d2_1 + 144 ≤ Lo := by omega
    refine ax_iconst (pc := 186) C 0 d_Par_takeSign_186 (by decide +kernel) ?_
    cases h
    exact ax_zret (pc := 187) C d_Par_takeSign_187 rfl ⟨rfl, w, tx, hga, rfl, rfl⟩ hcm hsm
  · replace h := it_f hr h
    by_cases hv : (x2 : Int32) = 4
    · replace h := it_t hv h
      refine ax_tableIn (pc := 68) C 176 d_Par_takeSign_68 (by omega) (by omega) (by rw [hv]; rfl) (by decide) ?_
      refine ax_aload_n (pc := 176) C d_Par_takeSign_176 rfl 1 rfl ?_
      replace h := it_b h
      obtain ⟨σ2, r2, d1_2, d2_2, h1, h, hd2, hd1⟩ := h
      replace hle := hG _ _ _ _ (by decide) h1
      dsimp only at hle
      replace hmn : gle σ2 σf := gm_use h gm_some
      replace hm : sG_Par_closeSentence l D kA u σ [] (σ2, r2, d1_2) := ih tG_Par_closeSentence _ _ _ h1
      refine gc_Vv (pc := 177) C (As := []) (rest := []) (hm rfl w tx htx) ml_Par_175 31 rfl rfl rfl d_Par_takeSign_177 rfl rfl (by dsimp only; omega) (by dsimp only; omega) (by have := hmn.1; have := hle.1; dsimp only; omega) (by have := hmn.2; have := hle.2; dsimp only; omega) (Nat.le_of_ble_eq_true rfl) (fun w1 hw => ?_)
      obtain ⟨w2, tx2, hag2, htq2, hwq2⟩ := hw
      dsimp only at hwq2
      subst hwq2
      dsimp only
      replace htq2 := htq2.symm
      subst htq2
      have hga2 : ∀ i, ([19, 34, 36] : List Nat).elem i = false → w2 i = w0 i := fun i hi => (hag2 i (by revert hi; exact el_sub (by decide))).trans (hga i hi)
      have htx2 : tx = .ref (w2 2) := by rw [hag2 2 rfl]; exact htx
      replace hcq : (cells + (σ2.2.2 3001 - σ.2.2 3001)) + σf.2.2 3001 ≤ mc + σ2.2.2 3001 := by have := hmn.1; have := hle.1; omega
      replace hcm : (cells + (σ2.2.2 3001 - σ.2.2 3001)) ≤ mc := by have := hmn.1; have := hle.1; omega
      generalize cells + (σ2.2.2 3001 - σ.2.2 3001) = cells at hcq hcm ⊢
      replace hsq : (slots + (σ2.2.2 3002 - σ.2.2 3002)) + σf.2.2 3002 ≤ ms + σ2.2.2 3002 := by have := hmn.2; have := hle.2; omega
      replace hsm : (slots + (σ2.2.2 3002 - σ.2.2 3002)) ≤ ms := by have := hmn.2; have := hle.2; omega
      generalize slots + (σ2.2.2 3002 - σ.2.2 3002) = slots at hsq hsm ⊢
      replace hF : d2_2 + 3 ≤ F := by omega
      replace hLo : 48 * d2_2 + 144 ≤ Lo := by omega
      refine ax_iconst (pc := 180) C 0 d_Par_takeSign_180 (by decide +kernel) ?_
      cases h
      exact ax_zret (pc := 181) C d_Par_takeSign_181 rfl ⟨rfl, w2, tx, hga2, rfl, rfl⟩ hcm hsm
    · replace h := it_f hv h
      have hn4 : ¬ (x2 : Int32).toInt = 4 := fun q => hv (i32q (by rw [q]; rfl))
      by_cases hv : (x2 : Int32) = 5
      · replace h := it_t hv h
        refine ax_tableIn (pc := 68) C 182 d_Par_takeSign_68 (by omega) (by omega) (by rw [hv]; rfl) (by decide) ?_
        refine ax_aload_n (pc := 182) C d_Par_takeSign_182 rfl 1 rfl ?_
        replace h := it_b h
        obtain ⟨σ3, r3, d1_3, d2_3, h1, h, hd2, hd1⟩ := h
        replace hle := hG _ _ _ _ (by decide) h1
        dsimp only at hle
        replace hmn : gle σ3 σf := gm_use h gm_some
        replace hm : sC_Par_refuse l D kA u w tx σ [] (σ3, r3, d1_3) := ihC _ _ tC_Par_refuse _ _ _ h1
        refine cc_Vv (pc := 183) C (σ2 := σ3) (As := []) (rest := []) (hm rfl) ml_Par_117 31 rfl rfl rfl d_Par_takeSign_183 rfl rfl (by dsimp only; omega) (by dsimp only; omega) hcm hsm (Nat.le_of_ble_eq_true rfl) ?_
        replace hcq : cells + σf.2.2 3001 ≤ mc + σ3.2.2 3001 := by have := hle.1; omega
        replace hsq : slots + σf.2.2 3002 ≤ ms + σ3.2.2 3002 := by have := hle.2; omega
        replace hF : d2_3 + 3 ≤ F := by omega
        replace hLo : 48 * d2_3 + 144 ≤ Lo := by omega
        refine ax_iconst (pc := 186) C 0 d_Par_takeSign_186 (by decide +kernel) ?_
        cases h
        exact ax_zret (pc := 187) C d_Par_takeSign_187 rfl ⟨rfl, w, tx, hga, rfl, rfl⟩ hcm hsm
      · replace h := it_f hv h
        have hn5 : ¬ (x2 : Int32).toInt = 5 := fun q => hv (i32q (by rw [q]; rfl))
        by_cases hv : (x2 : Int32) = 6
        · replace h := it_t hv h
          refine ax_tableIn (pc := 68) C 182 d_Par_takeSign_68 (by omega) (by omega) (by rw [hv]; rfl) (by decide) ?_
          refine ax_aload_n (pc := 182) C d_Par_takeSign_182 rfl 1 rfl ?_
          replace h := it_b h
          obtain ⟨σ4, r4, d1_4, d2_4, h1, h, hd2, hd1⟩ := h
          replace hle := hG _ _ _ _ (by decide) h1
          dsimp only at hle
          replace hmn : gle σ4 σf := gm_use h gm_some
          replace hm : sC_Par_refuse l D kA u w tx σ [] (σ4, r4, d1_4) := ihC _ _ tC_Par_refuse _ _ _ h1
          refine cc_Vv (pc := 183) C (σ2 := σ4) (As := []) (rest := []) (hm rfl) ml_Par_117 31 rfl rfl rfl d_Par_takeSign_183 rfl rfl (by dsimp only; omega) (by dsimp only; omega) hcm hsm (Nat.le_of_ble_eq_true rfl) ?_
          replace hcq : cells + σf.2.2 3001 ≤ mc + σ4.2.2 3001 := by have := hle.1; omega
          replace hsq : slots + σf.2.2 3002 ≤ ms + σ4.2.2 3002 := by have := hle.2; omega
          replace hF : d2_4 + 3 ≤ F := by omega
          replace hLo : 48 * d2_4 + 144 ≤ Lo := by omega
          refine ax_iconst (pc := 186) C 0 d_Par_takeSign_186 (by decide +kernel) ?_
          cases h
          exact ax_zret (pc := 187) C d_Par_takeSign_187 rfl ⟨rfl, w, tx, hga, rfl, rfl⟩ hcm hsm
        · replace h := it_f hv h
          have hn6 : ¬ (x2 : Int32).toInt = 6 := fun q => hv (i32q (by rw [q]; rfl))
          by_cases hv : (x2 : Int32) = 7
          · replace h := it_t hv h
            refine ax_tableIn (pc := 68) C 182 d_Par_takeSign_68 (by omega) (by omega) (by rw [hv]; rfl) (by decide) ?_
            refine ax_aload_n (pc := 182) C d_Par_takeSign_182 rfl 1 rfl ?_
            replace h := it_b h
            obtain ⟨σ5, r5, d1_5, d2_5, h1, h, hd2, hd1⟩ := h
            replace hle := hG _ _ _ _ (by decide) h1
            dsimp only at hle
            replace hmn : gle σ5 σf := gm_use h gm_some
            replace hm : sC_Par_refuse l D kA u w tx σ [] (σ5, r5, d1_5) := ihC _ _ tC_Par_refuse _ _ _ h1
            refine cc_Vv (pc := 183) C (σ2 := σ5) (As := []) (rest := []) (hm rfl) ml_Par_117 31 rfl rfl rfl d_Par_takeSign_183 rfl rfl (by dsimp only; omega) (by dsimp only; omega) hcm hsm (Nat.le_of_ble_eq_true rfl) ?_
            replace hcq : cells + σf.2.2 3001 ≤ mc + σ5.2.2 3001 := by have := hle.1; omega
            replace hsq : slots + σf.2.2 3002 ≤ ms + σ5.2.2 3002 := by have := hle.2; omega
            replace hF : d2_5 + 3 ≤ F := by omega
            replace hLo : 48 * d2_5 + 144 ≤ Lo := by omega
            refine ax_iconst (pc := 186) C 0 d_Par_takeSign_186 (by decide +kernel) ?_
            cases h
            exact ax_zret (pc := 187) C d_Par_takeSign_187 rfl ⟨rfl, w, tx, hga, rfl, rfl⟩ hcm hsm
          · replace h := it_f hv h
            have hn7 : ¬ (x2 : Int32).toInt = 7 := fun q => hv (i32q (by rw [q]; rfl))
            by_cases hv : (x2 : Int32) = 8
            · replace h := it_t hv h
              refine ax_tableIn (pc := 68) C 182 d_Par_takeSign_68 (by omega) (by omega) (by rw [hv]; rfl) (by decide) ?_
              refine ax_aload_n (pc := 182) C d_Par_takeSign_182 rfl 1 rfl ?_
              replace h := it_b h
              obtain ⟨σ6, r6, d1_6, d2_6, h1, h, hd2, hd1⟩ := h
              replace hle := hG _ _ _ _ (by decide) h1
              dsimp only at hle
              replace hmn : gle σ6 σf := gm_use h gm_some
              replace hm : sC_Par_refuse l D kA u w tx σ [] (σ6, r6, d1_6) := ihC _ _ tC_Par_refuse _ _ _ h1
              refine cc_Vv (pc := 183) C (σ2 := σ6) (As := []) (rest := []) (hm rfl) ml_Par_117 31 rfl rfl rfl d_Par_takeSign_183 rfl rfl (by dsimp only; omega) (by dsimp only; omega) hcm hsm (Nat.le_of_ble_eq_true rfl) ?_
              replace hcq : cells + σf.2.2 3001 ≤ mc + σ6.2.2 3001 := by have := hle.1; omega
              replace hsq : slots + σf.2.2 3002 ≤ ms + σ6.2.2 3002 := by have := hle.2; omega
              replace hF : d2_6 + 3 ≤ F := by omega
              replace hLo : 48 * d2_6 + 144 ≤ Lo := by omega
              refine ax_iconst (pc := 186) C 0 d_Par_takeSign_186 (by decide +kernel) ?_
              cases h
              exact ax_zret (pc := 187) C d_Par_takeSign_187 rfl ⟨rfl, w, tx, hga, rfl, rfl⟩ hcm hsm
            · replace h := it_f hv h
              have hn8 : ¬ (x2 : Int32).toInt = 8 := fun q => hv (i32q (by rw [q]; rfl))
              by_cases hv : (x2 : Int32) = 9
              · replace h := it_t hv h
                refine ax_tableIn (pc := 68) C 182 d_Par_takeSign_68 (by omega) (by omega) (by rw [hv]; rfl) (by decide) ?_
                refine ax_aload_n (pc := 182) C d_Par_takeSign_182 rfl 1 rfl ?_
                replace h := it_b h
                obtain ⟨σ7, r7, d1_7, d2_7, h1, h, hd2, hd1⟩ := h
                replace hle := hG _ _ _ _ (by decide) h1
                dsimp only at hle
                replace hmn : gle σ7 σf := gm_use h gm_some
                replace hm : sC_Par_refuse l D kA u w tx σ [] (σ7, r7, d1_7) := ihC _ _ tC_Par_refuse _ _ _ h1
                refine cc_Vv (pc := 183) C (σ2 := σ7) (As := []) (rest := []) (hm rfl) ml_Par_117 31 rfl rfl rfl d_Par_takeSign_183 rfl rfl (by dsimp only; omega) (by dsimp only; omega) hcm hsm (Nat.le_of_ble_eq_true rfl) ?_
                replace hcq : cells + σf.2.2 3001 ≤ mc + σ7.2.2 3001 := by have := hle.1; omega
                replace hsq : slots + σf.2.2 3002 ≤ ms + σ7.2.2 3002 := by have := hle.2; omega
                replace hF : d2_7 + 3 ≤ F := by omega
                replace hLo : 48 * d2_7 + 144 ≤ Lo := by omega
                refine ax_iconst (pc := 186) C 0 d_Par_takeSign_186 (by decide +kernel) ?_
                cases h
                exact ax_zret (pc := 187) C d_Par_takeSign_187 rfl ⟨rfl, w, tx, hga, rfl, rfl⟩ hcm hsm
              · replace h := it_f hv h
                have hn9 : ¬ (x2 : Int32).toInt = 9 := fun q => hv (i32q (by rw [q]; rfl))
                by_cases hv : (x2 : Int32) = 10
                · replace h := it_t hv h
                  refine ax_tableIn (pc := 68) C 182 d_Par_takeSign_68 (by omega) (by omega) (by rw [hv]; rfl) (by decide) ?_
                  refine ax_aload_n (pc := 182) C d_Par_takeSign_182 rfl 1 rfl ?_
                  replace h := it_b h
                  obtain ⟨σ8, r8, d1_8, d2_8, h1, h, hd2, hd1⟩ := h
                  replace hle := hG _ _ _ _ (by decide) h1
                  dsimp only at hle
                  replace hmn : gle σ8 σf := gm_use h gm_some
                  replace hm : sC_Par_refuse l D kA u w tx σ [] (σ8, r8, d1_8) := ihC _ _ tC_Par_refuse _ _ _ h1
                  refine cc_Vv (pc := 183) C (σ2 := σ8) (As := []) (rest := []) (hm rfl) ml_Par_117 31 rfl rfl rfl d_Par_takeSign_183 rfl rfl (by dsimp only; omega) (by dsimp only; omega) hcm hsm (Nat.le_of_ble_eq_true rfl) ?_
                  replace hcq : cells + σf.2.2 3001 ≤ mc + σ8.2.2 3001 := by have := hle.1; omega
                  replace hsq : slots + σf.2.2 3002 ≤ ms + σ8.2.2 3002 := by have := hle.2; omega
                  replace hF : d2_8 + 3 ≤ F := by omega
                  replace hLo : 48 * d2_8 + 144 ≤ Lo := by omega
                  refine ax_iconst (pc := 186) C 0 d_Par_takeSign_186 (by decide +kernel) ?_
                  cases h
                  exact ax_zret (pc := 187) C d_Par_takeSign_187 rfl ⟨rfl, w, tx, hga, rfl, rfl⟩ hcm hsm
                · replace h := it_f hv h
                  have hn10 : ¬ (x2 : Int32).toInt = 10 := fun q => hv (i32q (by rw [q]; rfl))
                  by_cases hv : (x2 : Int32) = 11
                  · replace h := it_t hv h
                    refine ax_tableIn (pc := 68) C 182 d_Par_takeSign_68 (by omega) (by omega) (by rw [hv]; rfl) (by decide) ?_
                    refine ax_aload_n (pc := 182) C d_Par_takeSign_182 rfl 1 rfl ?_
                    replace h := it_b h
                    obtain ⟨σ9, r9, d1_9, d2_9, h1, h, hd2, hd1⟩ := h
                    replace hle := hG _ _ _ _ (by decide) h1
                    dsimp only at hle
                    replace hmn : gle σ9 σf := gm_use h gm_some
                    replace hm : sC_Par_refuse l D kA u w tx σ [] (σ9, r9, d1_9) := ihC _ _ tC_Par_refuse _ _ _ h1
                    refine cc_Vv (pc := 183) C (σ2 := σ9) (As := []) (rest := []) (hm rfl) ml_Par_117 31 rfl rfl rfl d_Par_takeSign_183 rfl rfl (by dsimp only; omega) (by dsimp only; omega) hcm hsm (Nat.le_of_ble_eq_true rfl) ?_
                    replace hcq : cells + σf.2.2 3001 ≤ mc + σ9.2.2 3001 := by have := hle.1; omega
                    replace hsq : slots + σf.2.2 3002 ≤ ms + σ9.2.2 3002 := by have := hle.2; omega
                    replace hF : d2_9 + 3 ≤ F := by omega
                    replace hLo : 48 * d2_9 + 144 ≤ Lo := by omega
                    refine ax_iconst (pc := 186) C 0 d_Par_takeSign_186 (by decide +kernel) ?_
                    cases h
                    exact ax_zret (pc := 187) C d_Par_takeSign_187 rfl ⟨rfl, w, tx, hga, rfl, rfl⟩ hcm hsm
                  · replace h := it_f hv h
                    have hn11 : ¬ (x2 : Int32).toInt = 11 := fun q => hv (i32q (by rw [q]; rfl))
                    by_cases hv : (x2 : Int32) = 12
                    · replace h := it_t hv h
                      refine ax_tableIn (pc := 68) C 182 d_Par_takeSign_68 (by omega) (by omega) (by rw [hv]; rfl) (by decide) ?_
                      refine ax_aload_n (pc := 182) C d_Par_takeSign_182 rfl 1 rfl ?_
                      replace h := it_b h
                      obtain ⟨σ10, r10, d1_10, d2_10, h1, h, hd2, hd1⟩ := h
                      replace hle := hG _ _ _ _ (by decide) h1
                      dsimp only at hle
                      replace hmn : gle σ10 σf := gm_use h gm_some
                      replace hm : sC_Par_refuse l D kA u w tx σ [] (σ10, r10, d1_10) := ihC _ _ tC_Par_refuse _ _ _ h1
                      refine cc_Vv (pc := 183) C (σ2 := σ10) (As := []) (rest := []) (hm rfl) ml_Par_117 31 rfl rfl rfl d_Par_takeSign_183 rfl rfl (by dsimp only; omega) (by dsimp only; omega) hcm hsm (Nat.le_of_ble_eq_true rfl) ?_
                      replace hcq : cells + σf.2.2 3001 ≤ mc + σ10.2.2 3001 := by have := hle.1; omega
                      replace hsq : slots + σf.2.2 3002 ≤ ms + σ10.2.2 3002 := by have := hle.2; omega
                      replace hF : d2_10 + 3 ≤ F := by omega
                      replace hLo : 48 * d2_10 + 144 ≤ Lo := by omega
                      refine ax_iconst (pc := 186) C 0 d_Par_takeSign_186 (by decide +kernel) ?_
                      cases h
                      exact ax_zret (pc := 187) C d_Par_takeSign_187 rfl ⟨rfl, w, tx, hga, rfl, rfl⟩ hcm hsm
                    · replace h := it_f hv h
                      have hn12 : ¬ (x2 : Int32).toInt = 12 := fun q => hv (i32q (by rw [q]; rfl))
                      by_cases hv : (x2 : Int32) = 13
                      · replace h := it_t hv h
                        refine ax_tableIn (pc := 68) C 182 d_Par_takeSign_68 (by omega) (by omega) (by rw [hv]; rfl) (by decide) ?_
                        refine ax_aload_n (pc := 182) C d_Par_takeSign_182 rfl 1 rfl ?_
                        replace h := it_b h
                        obtain ⟨σ11, r11, d1_11, d2_11, h1, h, hd2, hd1⟩ := h
                        replace hle := hG _ _ _ _ (by decide) h1
                        dsimp only at hle
                        replace hmn : gle σ11 σf := gm_use h gm_some
                        replace hm : sC_Par_refuse l D kA u w tx σ [] (σ11, r11, d1_11) := ihC _ _ tC_Par_refuse _ _ _ h1
                        refine cc_Vv (pc := 183) C (σ2 := σ11) (As := []) (rest := []) (hm rfl) ml_Par_117 31 rfl rfl rfl d_Par_takeSign_183 rfl rfl (by dsimp only; omega) (by dsimp only; omega) hcm hsm (Nat.le_of_ble_eq_true rfl) ?_
                        replace hcq : cells + σf.2.2 3001 ≤ mc + σ11.2.2 3001 := by have := hle.1; omega
                        replace hsq : slots + σf.2.2 3002 ≤ ms + σ11.2.2 3002 := by have := hle.2; omega
                        replace hF : d2_11 + 3 ≤ F := by omega
                        replace hLo : 48 * d2_11 + 144 ≤ Lo := by omega
                        refine ax_iconst (pc := 186) C 0 d_Par_takeSign_186 (by decide +kernel) ?_
                        cases h
                        exact ax_zret (pc := 187) C d_Par_takeSign_187 rfl ⟨rfl, w, tx, hga, rfl, rfl⟩ hcm hsm
                      · replace h := it_f hv h
                        have hn13 : ¬ (x2 : Int32).toInt = 13 := fun q => hv (i32q (by rw [q]; rfl))
                        by_cases hv : (x2 : Int32) = 14
                        · replace h := it_t hv h
                          refine ax_tableIn (pc := 68) C 140 d_Par_takeSign_68 (by omega) (by omega) (by rw [hv]; rfl) (by decide) ?_
                          refine ax_aload_n (pc := 140) C d_Par_takeSign_140 rfl 1 rfl ?_
                          refine ax_iload_n (pc := 141) C d_Par_takeSign_141 rfl 0 rfl ?_
                          replace h := it_b h
                          obtain ⟨σ12, r12, d1_12, d2_12, h1, h, hd2, hd1⟩ := h
                          replace hle := hG _ _ _ _ (by decide) h1
                          dsimp only at hle
                          replace hmn : gle σ12 σf := gm_use h (gm_bnd hG (Nat.le_of_ble_eq_true rfl) (fun _ _ => (gm_tail hG (Nat.le_of_ble_eq_true rfl))))
                          replace hm : sC_Par_strength l D kA u w tx σ [x2] (σ12, r12, d1_12) := ihC _ _ tC_Par_strength _ _ _ h1
                          refine cc_Si (pc := 142) C (r0 := r12) (σ2 := σ12) (As := [.int x2]) (rest := [.ref (u 31)]) (hm _ rfl) ml_Par_166 d_Par_takeSign_142 rfl rfl (by dsimp only; omega) (by dsimp only; omega) hcm hsm (Nat.le_of_ble_eq_true rfl) ?_
                          replace hcq : cells + σf.2.2 3001 ≤ mc + σ12.2.2 3001 := by have := hle.1; omega
                          replace hsq : slots + σf.2.2 3002 ≤ ms + σ12.2.2 3002 := by have := hle.2; omega
                          replace hF : d2_12 + 3 ≤ F := by omega
                          replace hLo : 48 * d2_12 + 144 ≤ Lo := by omega
                          replace h := it_b h
                          obtain ⟨σ13, r13, d1_13, d2_13, h1, h, hd2, hd1⟩ := h
                          replace hle := hG _ _ _ _ (by decide) h1
                          dsimp only at hle
                          replace hmn : gle σ13 σf := gm_use h (gm_tail hG (Nat.le_of_ble_eq_true rfl))
                          replace hm : sG_Par_fold l D kA u σ12 [r12] (σ13, r13, d1_13) := ih tG_Par_fold _ _ _ h1
                          refine gc_Vv (pc := 145) C (As := [.int r12]) (rest := []) (hm _ rfl w tx) ml_Par_169 31 rfl rfl rfl d_Par_takeSign_145 rfl rfl (by dsimp only; omega) (by dsimp only; omega) (by have := hmn.1; have := hle.1; dsimp only; omega) (by have := hmn.2; have := hle.2; dsimp only; omega) (Nat.le_of_ble_eq_true rfl) (fun w1 hw => ?_)
                          obtain ⟨w13, tx13, hag13, htq13, hwq13⟩ := hw
                          dsimp only at hwq13
                          subst hwq13
                          dsimp only
                          replace htq13 := htq13.symm
                          subst htq13
                          have hga13 : ∀ i, ([19, 34, 36] : List Nat).elem i = false → w13 i = w0 i := fun i hi => (hag13 i (by revert hi; exact el_sub (by decide))).trans (hga i hi)
                          have htx13 : tx = .ref (w13 2) := by rw [hag13 2 rfl]; exact htx
                          replace hcq : (cells + (σ13.2.2 3001 - σ12.2.2 3001)) + σf.2.2 3001 ≤ mc + σ13.2.2 3001 := by have := hmn.1; have := hle.1; omega
                          replace hcm : (cells + (σ13.2.2 3001 - σ12.2.2 3001)) ≤ mc := by have := hmn.1; have := hle.1; omega
                          generalize cells + (σ13.2.2 3001 - σ12.2.2 3001) = cells at hcq hcm ⊢
                          replace hsq : (slots + (σ13.2.2 3002 - σ12.2.2 3002)) + σf.2.2 3002 ≤ ms + σ13.2.2 3002 := by have := hmn.2; have := hle.2; omega
                          replace hsm : (slots + (σ13.2.2 3002 - σ12.2.2 3002)) ≤ ms := by have := hmn.2; have := hle.2; omega
                          generalize slots + (σ13.2.2 3002 - σ12.2.2 3002) = slots at hsq hsm ⊢
                          replace hF : d2_13 + 3 ≤ F := by omega
                          replace hLo : 48 * d2_13 + 144 ≤ Lo := by omega
                          refine ax_goto (pc := 148) C 188 d_Par_takeSign_148 (by decide) ?_
                          refine ax_ls ([(0, .ref (u 31)), (1, .int x0), (2, .int x2)]) [1, 2, 0] rfl ?_
                          replace hm : sG_Par_takeSign_p188 l D kA u σ13 [x0, x2] (σf, rf, _) := ih tG_Par_takeSign_p188 _ _ _ h
                          exact hm _ _ rfl w13 tx htx13 p e s m args below meth c F Lo mc ms cells slots σ0 w0 tx0 hF hLo hcq hsq hga13 C
                        · replace h := it_f hv h
                          have hn14 : ¬ (x2 : Int32).toInt = 14 := fun q => hv (i32q (by rw [q]; rfl))
                          by_cases hv : (x2 : Int32) = 15
                          · replace h := it_t hv h
                            refine ax_tableIn (pc := 68) C 140 d_Par_takeSign_68 (by omega) (by omega) (by rw [hv]; rfl) (by decide) ?_
                            refine ax_aload_n (pc := 140) C d_Par_takeSign_140 rfl 1 rfl ?_
                            refine ax_iload_n (pc := 141) C d_Par_takeSign_141 rfl 0 rfl ?_
                            replace h := it_b h
                            obtain ⟨σ14, r14, d1_14, d2_14, h1, h, hd2, hd1⟩ := h
                            replace hle := hG _ _ _ _ (by decide) h1
                            dsimp only at hle
                            replace hmn : gle σ14 σf := gm_use h (gm_bnd hG (Nat.le_of_ble_eq_true rfl) (fun _ _ => (gm_tail hG (Nat.le_of_ble_eq_true rfl))))
                            replace hm : sC_Par_strength l D kA u w tx σ [x2] (σ14, r14, d1_14) := ihC _ _ tC_Par_strength _ _ _ h1
                            refine cc_Si (pc := 142) C (r0 := r14) (σ2 := σ14) (As := [.int x2]) (rest := [.ref (u 31)]) (hm _ rfl) ml_Par_166 d_Par_takeSign_142 rfl rfl (by dsimp only; omega) (by dsimp only; omega) hcm hsm (Nat.le_of_ble_eq_true rfl) ?_
                            replace hcq : cells + σf.2.2 3001 ≤ mc + σ14.2.2 3001 := by have := hle.1; omega
                            replace hsq : slots + σf.2.2 3002 ≤ ms + σ14.2.2 3002 := by have := hle.2; omega
                            replace hF : d2_14 + 3 ≤ F := by omega
                            replace hLo : 48 * d2_14 + 144 ≤ Lo := by omega
                            replace h := it_b h
                            obtain ⟨σ15, r15, d1_15, d2_15, h1, h, hd2, hd1⟩ := h
                            replace hle := hG _ _ _ _ (by decide) h1
                            dsimp only at hle
                            replace hmn : gle σ15 σf := gm_use h (gm_tail hG (Nat.le_of_ble_eq_true rfl))
                            replace hm : sG_Par_fold l D kA u σ14 [r14] (σ15, r15, d1_15) := ih tG_Par_fold _ _ _ h1
                            refine gc_Vv (pc := 145) C (As := [.int r14]) (rest := []) (hm _ rfl w tx) ml_Par_169 31 rfl rfl rfl d_Par_takeSign_145 rfl rfl (by dsimp only; omega) (by dsimp only; omega) (by have := hmn.1; have := hle.1; dsimp only; omega) (by have := hmn.2; have := hle.2; dsimp only; omega) (Nat.le_of_ble_eq_true rfl) (fun w1 hw => ?_)
                            obtain ⟨w15, tx15, hag15, htq15, hwq15⟩ := hw
                            dsimp only at hwq15
                            subst hwq15
                            dsimp only
                            replace htq15 := htq15.symm
                            subst htq15
                            have hga15 : ∀ i, ([19, 34, 36] : List Nat).elem i = false → w15 i = w0 i := fun i hi => (hag15 i (by revert hi; exact el_sub (by decide))).trans (hga i hi)
                            have htx15 : tx = .ref (w15 2) := by rw [hag15 2 rfl]; exact htx
                            replace hcq : (cells + (σ15.2.2 3001 - σ14.2.2 3001)) + σf.2.2 3001 ≤ mc + σ15.2.2 3001 := by have := hmn.1; have := hle.1; omega
                            replace hcm : (cells + (σ15.2.2 3001 - σ14.2.2 3001)) ≤ mc := by have := hmn.1; have := hle.1; omega
                            generalize cells + (σ15.2.2 3001 - σ14.2.2 3001) = cells at hcq hcm ⊢
                            replace hsq : (slots + (σ15.2.2 3002 - σ14.2.2 3002)) + σf.2.2 3002 ≤ ms + σ15.2.2 3002 := by have := hmn.2; have := hle.2; omega
                            replace hsm : (slots + (σ15.2.2 3002 - σ14.2.2 3002)) ≤ ms := by have := hmn.2; have := hle.2; omega
                            generalize slots + (σ15.2.2 3002 - σ14.2.2 3002) = slots at hsq hsm ⊢
                            replace hF : d2_15 + 3 ≤ F := by omega
                            replace hLo : 48 * d2_15 + 144 ≤ Lo := by omega
                            refine ax_goto (pc := 148) C 188 d_Par_takeSign_148 (by decide) ?_
                            refine ax_ls ([(0, .ref (u 31)), (1, .int x0), (2, .int x2)]) [1, 2, 0] rfl ?_
                            replace hm : sG_Par_takeSign_p188 l D kA u σ15 [x0, x2] (σf, rf, _) := ih tG_Par_takeSign_p188 _ _ _ h
                            exact hm _ _ rfl w15 tx htx15 p e s m args below meth c F Lo mc ms cells slots σ0 w0 tx0 hF hLo hcq hsq hga15 C
                          · replace h := it_f hv h
                            have hn15 : ¬ (x2 : Int32).toInt = 15 := fun q => hv (i32q (by rw [q]; rfl))
                            by_cases hv : (x2 : Int32) = 16
                            · replace h := it_t hv h
                              refine ax_tableIn (pc := 68) C 151 d_Par_takeSign_68 (by omega) (by omega) (by rw [hv]; rfl) (by decide) ?_
                              refine ax_aload_n (pc := 151) C d_Par_takeSign_151 rfl 1 rfl ?_
                              refine ax_bipush (pc := 152) C 15 d_Par_takeSign_152 (by decide +kernel) ?_
                              replace h := it_b h
                              obtain ⟨σ16, r16, d1_16, d2_16, h1, h, hd2, hd1⟩ := h
                              replace hle := hG _ _ _ _ (by decide) h1
                              dsimp only at hle
                              replace hmn : gle σ16 σf := gm_use h (gm_bnd hG (Nat.le_of_ble_eq_true rfl) (fun _ _ => (gm_tail hG (Nat.le_of_ble_eq_true rfl))))
                              replace hm : sC_Par_strength l D kA u w tx σ [15] (σ16, r16, d1_16) := ihC _ _ tC_Par_strength _ _ _ h1
                              refine cc_Si (pc := 154) C (r0 := r16) (σ2 := σ16) (As := [.int 15]) (rest := [.ref (u 31)]) (hm _ rfl) ml_Par_166 d_Par_takeSign_154 rfl rfl (by dsimp only; omega) (by dsimp only; omega) hcm hsm (Nat.le_of_ble_eq_true rfl) ?_
                              replace hcq : cells + σf.2.2 3001 ≤ mc + σ16.2.2 3001 := by have := hle.1; omega
                              replace hsq : slots + σf.2.2 3002 ≤ ms + σ16.2.2 3002 := by have := hle.2; omega
                              replace hF : d2_16 + 3 ≤ F := by omega
                              replace hLo : 48 * d2_16 + 144 ≤ Lo := by omega
                              replace h := it_b h
                              obtain ⟨σ17, r17, d1_17, d2_17, h1, h, hd2, hd1⟩ := h
                              replace hle := hG _ _ _ _ (by decide) h1
                              dsimp only at hle
                              replace hmn : gle σ17 σf := gm_use h (gm_tail hG (Nat.le_of_ble_eq_true rfl))
                              replace hm : sG_Par_fold l D kA u σ16 [r16] (σ17, r17, d1_17) := ih tG_Par_fold _ _ _ h1
                              refine gc_Vv (pc := 157) C (As := [.int r16]) (rest := []) (hm _ rfl w tx) ml_Par_169 31 rfl rfl rfl d_Par_takeSign_157 rfl rfl (by dsimp only; omega) (by dsimp only; omega) (by have := hmn.1; have := hle.1; dsimp only; omega) (by have := hmn.2; have := hle.2; dsimp only; omega) (Nat.le_of_ble_eq_true rfl) (fun w1 hw => ?_)
                              obtain ⟨w17, tx17, hag17, htq17, hwq17⟩ := hw
                              dsimp only at hwq17
                              subst hwq17
                              dsimp only
                              replace htq17 := htq17.symm
                              subst htq17
                              have hga17 : ∀ i, ([19, 34, 36] : List Nat).elem i = false → w17 i = w0 i := fun i hi => (hag17 i (by revert hi; exact el_sub (by decide))).trans (hga i hi)
                              have htx17 : tx = .ref (w17 2) := by rw [hag17 2 rfl]; exact htx
                              replace hcq : (cells + (σ17.2.2 3001 - σ16.2.2 3001)) + σf.2.2 3001 ≤ mc + σ17.2.2 3001 := by have := hmn.1; have := hle.1; omega
                              replace hcm : (cells + (σ17.2.2 3001 - σ16.2.2 3001)) ≤ mc := by have := hmn.1; have := hle.1; omega
                              generalize cells + (σ17.2.2 3001 - σ16.2.2 3001) = cells at hcq hcm ⊢
                              replace hsq : (slots + (σ17.2.2 3002 - σ16.2.2 3002)) + σf.2.2 3002 ≤ ms + σ17.2.2 3002 := by have := hmn.2; have := hle.2; omega
                              replace hsm : (slots + (σ17.2.2 3002 - σ16.2.2 3002)) ≤ ms := by have := hmn.2; have := hle.2; omega
                              generalize slots + (σ17.2.2 3002 - σ16.2.2 3002) = slots at hsq hsm ⊢
                              replace hF : d2_17 + 3 ≤ F := by omega
                              replace hLo : 48 * d2_17 + 144 ≤ Lo := by omega
                              refine ax_goto (pc := 160) C 188 d_Par_takeSign_160 (by decide) ?_
                              refine ax_ls ([(0, .ref (u 31)), (1, .int x0), (2, .int x2)]) [1, 2, 0] rfl ?_
                              replace hm : sG_Par_takeSign_p188 l D kA u σ17 [x0, x2] (σf, rf, _) := ih tG_Par_takeSign_p188 _ _ _ h
                              exact hm _ _ rfl w17 tx htx17 p e s m args below meth c F Lo mc ms cells slots σ0 w0 tx0 hF hLo hcq hsq hga17 C
                            · replace h := it_f hv h
                              have hn16 : ¬ (x2 : Int32).toInt = 16 := fun q => hv (i32q (by rw [q]; rfl))
                              have hv : (x2 : Int32) = 17 := i32q (by have e9 : (17 : Int32).toInt = 17 := rfl; omega)
                              refine ax_tableIn (pc := 68) C 163 d_Par_takeSign_68 (by omega) (by omega) (by rw [hv]; rfl) (by decide) ?_
                              refine ax_aload_n (pc := 163) C d_Par_takeSign_163 rfl 1 rfl ?_
                              replace h := it_b h
                              obtain ⟨σ18, r18, d1_18, d2_18, h1, h, hd2, hd1⟩ := h
                              replace hle := hG _ _ _ _ (by decide) h1
                              dsimp only at hle
                              replace hmn : gle σ18 σf := gm_use h (gm_if (gm_bnd hG (Nat.le_of_ble_eq_true rfl) (fun _ _ => gm_some)) (gm_tail hG (Nat.le_of_ble_eq_true rfl)))
                              replace hm : sG_Par_mayBeEquivalent l D kA u σ [] (σ18, r18, d1_18) := ih tG_Par_mayBeEquivalent _ _ _ h1
                              refine gc_Vi (pc := 164) C (As := []) (rest := []) (hm rfl w tx) ml_Par_172 31 rfl rfl rfl d_Par_takeSign_164 rfl rfl (by dsimp only; omega) (by dsimp only; omega) (by have := hmn.1; have := hle.1; dsimp only; omega) (by have := hmn.2; have := hle.2; dsimp only; omega) (Nat.le_of_ble_eq_true rfl) (fun r9 w1 hw => ?_)
                              obtain ⟨hrq18, w18, tx18, hag18, htq18, hwq18⟩ := hw
                              dsimp only at hwq18 hrq18
                              subst hwq18
                              replace hrq18 := hrq18.symm
                              subst hrq18
                              dsimp only
                              replace htq18 := htq18.symm
                              subst htq18
                              have hga18 : ∀ i, ([19, 34, 36] : List Nat).elem i = false → w18 i = w0 i := fun i hi => (hag18 i (by revert hi; exact el_sub (by decide))).trans (hga i hi)
                              have htx18 : tx = .ref (w18 2) := by rw [hag18 2 rfl]; exact htx
                              replace hcq : (cells + (σ18.2.2 3001 - σ.2.2 3001)) + σf.2.2 3001 ≤ mc + σ18.2.2 3001 := by have := hmn.1; have := hle.1; omega
                              replace hcm : (cells + (σ18.2.2 3001 - σ.2.2 3001)) ≤ mc := by have := hmn.1; have := hle.1; omega
                              generalize cells + (σ18.2.2 3001 - σ.2.2 3001) = cells at hcq hcm ⊢
                              replace hsq : (slots + (σ18.2.2 3002 - σ.2.2 3002)) + σf.2.2 3002 ≤ ms + σ18.2.2 3002 := by have := hmn.2; have := hle.2; omega
                              replace hsm : (slots + (σ18.2.2 3002 - σ.2.2 3002)) ≤ ms := by have := hmn.2; have := hle.2; omega
                              generalize slots + (σ18.2.2 3002 - σ.2.2 3002) = slots at hsq hsm ⊢
                              replace hF : d2_18 + 3 ≤ F := by omega
                              replace hLo : 48 * d2_18 + 144 ≤ Lo := by omega
                              refine ax_if_ne (pc := 167) C 188 d_Par_takeSign_167 (by decide) (fun hc => ?_) (fun hc => ?_)
                              · replace h := it_f hc h
                                refine ax_ls ([(0, .ref (u 31)), (1, .int x0), (2, .int x2)]) [1, 2, 0] rfl ?_
                                replace hm : sG_Par_takeSign_p188 l D kA u σ18 [x0, x2] (σf, rf, _) := ih tG_Par_takeSign_p188 _ _ _ h
                                exact hm _ _ rfl w18 tx htx18 p e s m args below meth c F Lo mc ms cells slots σ0 w0 tx0 hF hLo hcq hsq hga18 C
                              · replace h := it_t hc h
                                refine ax_aload_n (pc := 170) C d_Par_takeSign_170 rfl 1 rfl ?_
                                replace h := it_b h
                                obtain ⟨σ19, r19, d1_19, d2_19, h1, h, hd2, hd1⟩ := h
                                replace hle := hG _ _ _ _ (by decide) h1
                                dsimp only at hle
                                replace hmn : gle σ19 σf := gm_use h gm_some
                                replace hm : sC_Par_refuse l D kA u w18 tx σ18 [] (σ19, r19, d1_19) := ihC _ _ tC_Par_refuse _ _ _ h1
                                refine cc_Vv (pc := 171) C (σ2 := σ19) (As := []) (rest := []) (hm rfl) ml_Par_117 31 rfl rfl rfl d_Par_takeSign_171 rfl rfl (by dsimp only; omega) (by dsimp only; omega) hcm hsm (Nat.le_of_ble_eq_true rfl) ?_
                                replace hcq : cells + σf.2.2 3001 ≤ mc + σ19.2.2 3001 := by have := hle.1; omega
                                replace hsq : slots + σf.2.2 3002 ≤ ms + σ19.2.2 3002 := by have := hle.2; omega
                                replace hF : d2_19 + 3 ≤ F := by omega
                                replace hLo : 48 * d2_19 + 144 ≤ Lo := by omega
                                refine ax_iconst (pc := 174) C 0 d_Par_takeSign_174 (by decide +kernel) ?_
                                cases h
                                exact ax_zret (pc := 175) C d_Par_takeSign_175 rfl ⟨rfl, w18, tx, hga18, rfl, rfl⟩ hcm hsm
