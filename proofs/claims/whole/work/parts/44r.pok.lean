set_option maxHeartbeats 4000000 in
set_option maxRecDepth 100000 in
theorem oPn_CP_clause (l : Launch) (D : va_G) (kA : Nat → ClassId) (u : Nat → Nat) (rec : mF) (hG : GM rec) (hG2 : GM2 rec) (ihC : ∀ (w : Nat → Nat) (tx : Value) t σ xs res, rec t σ xs = some res → cSem l D kA u w tx t σ xs res) (ih : ∀ t σ xs res, rec t σ xs = some res → gSem l D kA u t σ xs res) (ihP : ∀ t σ xs res, rec t σ xs = some res → pSem l D kA u t σ xs res) (σ : mS) (xs : List Int32) (res : mR) (h : u_2 (kP_CP_clause rec σ) xs = some res) : sPn_CP_clause l D kA u σ xs res := by
  intro x0 x1 hxs w tx h30 hn
  subst hxs
  obtain ⟨σf, rf, dd⟩ := res
  dsimp only at hn
  have hmn : gle2 σ σf := qP_CP_clause rec hG2 σ x0 x1 _ h
  have h : (bnd (rec tC_Sto_has σ [x0]) (fun σ1 r1 => if r1 = 0 then (lt_ (mT σ1 3) (fun σ99 => some (σ99, 0, 0))) else (if x1 < 0 then (rec tP_CP_clause_p31 σ1 [x0, x1]) else (if x1 ≤ 7 then (bnd (rec tC_Sto_fact σ1 [x0, x1]) (fun σ2 r2 => some (σ2, r2, 0))) else (rec tP_CP_clause_p31 σ1 [x0, x1]))))) = some (σf, rf, dd) := h
  refine ax_Mi.of (by decide +kernel) (Nat.le_of_ble_eq_true rfl) ?_
  intro p e s m args below meth c C hnm
  replace C : ax_C p s m args meth c b_CP_clause "ClauseProver" 3 (some .int) D kA (va_A (cpW kA u w tx σ) s.heap.size) := C
  obtain ⟨F, hFe⟩ : ∃ z, z = dd + 3 := ⟨_, rfl⟩
  obtain ⟨Lo, hLoe⟩ : ∃ z, z = 48 * dd + 144 := ⟨_, rfl⟩
  obtain ⟨mc, hmce⟩ : ∃ z, z = σf.2.2 3001 - σ.2.2 3001 := ⟨_, rfl⟩
  obtain ⟨ms, hmse⟩ : ∃ z, z = σf.2.2 3002 - σ.2.2 3002 := ⟨_, rfl⟩
  obtain ⟨σ0, hσ0e⟩ : ∃ z, z = σ := ⟨_, rfl⟩
  obtain ⟨w0, hw0e⟩ : ∃ z, z = w := ⟨_, rfl⟩
  obtain ⟨tx0, htx0e⟩ : ∃ z, z = tx := ⟨_, rfl⟩
  suffices K : ∀ (cells slots : Nat), cells = 0 → slots = 0 → AW p l e { frames := F, cells := mc, slots := ms, locals := Lo } s m args below meth c D kA (va_A (cpW kA u w0 tx0 σ0) s.heap.size) 3 (ax_Qi below args s D kA (cpW kA u w0 tx0 σ0) mc ms (fun r w1 => r = rf ∧ ∃ (w2 : Nat → Nat) (tx2 : Value), (∀ i, ([] : List Nat).elem i = false → w2 i = w0 i) ∧ tx2 = tx0 ∧ w1 = cpW kA u w2 tx2 σf)) 0 [(0, .ref (u 0)), (1, .int x0), (2, .int x1)] [] (cpW kA u w tx σ) cells slots by
    have K := K 0 0 rfl rfl
    rw [hFe, hLoe, hmce, hmse, hσ0e, hw0e, htx0e] at K
    exact ax_ls ([(0, .ref (u 0)), (1, .int x0), (2, .int x1)]) [0, 1, 2] rfl K
  replace C : ax_C p s m args meth c b_CP_clause "ClauseProver" 3 (some .int) D kA (va_A (cpW kA u w0 tx0 σ0) s.heap.size) := by rw [hσ0e, hw0e, htx0e]; exact C
  intro cells slots hc0 hs0
  have hcq : cells + σf.2.2 3001 ≤ mc + σ.2.2 3001 := by have := hmn.1; omega
  have hsq : slots + σf.2.2 3002 ≤ ms + σ.2.2 3002 := by have := hmn.2; omega
  have hga : ∀ i, ([] : List Nat).elem i = false → w i = w0 i := fun i _ => by rw [hw0e]
  have e9 : tx = tx0 := htx0e.symm
  subst e9
  have hF : dd + 3 ≤ F := by omega
  have hLo : 48 * dd + 144 ≤ Lo := by omega
  have hcm : cells ≤ mc := by have := hmn.1; omega
  have hsm : slots ≤ ms := by have := hmn.2; omega
  have hle : True := trivial
  have hm : True := trivial
  refine ax_aload_n (pc := 0) C d_CP_clause_0 rfl 0 rfl ?_
  refine cg_0_7_CP_60 (pc := 1) C d_CP_clause_1 ?_
  refine ax_iload_n (pc := 4) C d_CP_clause_4 rfl 1 rfl ?_
  replace h := it_b h
  obtain ⟨σ1, r1, d1_1, d2_1, h1, h, hd2, hd1⟩ := h
  replace hle := hG _ _ _ _ (by decide) h1
  dsimp only at hle
  replace hmn : gle2 σ1 σf := g2_use h (g2_if (g2_lt (mT_le _ _) g2_some) (g2_if (g2_tail hG2) (g2_if (g2_bnd hG2 (fun _ _ => g2_some)) (g2_tail hG2))))
  replace hm : sC_Sto_has l D kA u w tx σ [x0] (σ1, r1, d1_1) := ihC _ _ tC_Sto_has _ _ _ h1
  refine cc_Vi (pc := 5) C (r0 := r1) (σ2 := σ1) (As := [.int x0]) (rest := []) (hm _ rfl) ml_CP_150 54 rfl rfl rfl d_CP_clause_5 rfl rfl (by dsimp only; omega) (by dsimp only; omega) hcm hsm (Nat.le_of_ble_eq_true rfl) ?_
  replace h30 : σ1.2.2 3000 = 0 := hle.2.2.symm.trans h30
  replace hcq : cells + σf.2.2 3001 ≤ mc + σ1.2.2 3001 := by have := hle.1; omega
  replace hsq : slots + σf.2.2 3002 ≤ ms + σ1.2.2 3002 := by have := hle.2; omega
  replace hF : d2_1 + 3 ≤ F := by omega
  replace hLo : 48 * d2_1 + 144 ≤ Lo := by omega
  refine ax_if_ne (pc := 8) C 21 d_CP_clause_8 (by decide) (fun hc => ?_) (fun hc => ?_)
  · replace h := it_f hc h
    refine ax_iload_n (pc := 21) C d_CP_clause_21 rfl 2 rfl ?_
    refine ax_if_lt (pc := 22) C 31 d_CP_clause_22 (by decide) (fun hc => ?_) (fun hc => ?_)
    · replace h := it_t hc h
      refine ax_ls ([(0, .ref (u 0)), (1, .int x0), (2, .int x1)]) [0, 1, 2] rfl ?_
      replace hm : sPn_CP_clause_p31 l D kA u σ1 [x0, x1] (σf, rf, _) := (ihP tP_CP_clause_p31 _ _ _ h).1
      exact hm _ _ rfl w tx h30 hn p e s m args below meth c F Lo mc ms cells slots σ0 w0 tx hF hLo hcq hsq hga C
    · replace h := it_f hc h
      refine ax_iload_n (pc := 25) C d_CP_clause_25 rfl 2 rfl ?_
      refine ax_bipush (pc := 26) C 7 d_CP_clause_26 (by decide +kernel) ?_
      refine ax_icmp_le (pc := 28) C 41 d_CP_clause_28 (by decide) (fun hc => ?_) (fun hc => ?_)
      · replace h := it_t hc h
        refine ax_aload_n (pc := 41) C d_CP_clause_41 rfl 0 rfl ?_
        refine cg_0_7_CP_60 (pc := 42) C d_CP_clause_42 ?_
        refine ax_iload_n (pc := 45) C d_CP_clause_45 rfl 1 rfl ?_
        refine ax_iload_n (pc := 46) C d_CP_clause_46 rfl 2 rfl ?_
        replace h := it_b h
        obtain ⟨σ2, r2, d1_2, d2_2, h1, h, hd2, hd1⟩ := h
        replace hle := hG _ _ _ _ (by decide) h1
        dsimp only at hle
        replace hmn : gle2 σ2 σf := g2_use h g2_some
        replace hm : sC_Sto_fact l D kA u w tx σ1 [x0, x1] (σ2, r2, d1_2) := ihC _ _ tC_Sto_fact _ _ _ h1
        refine cc_Vi (pc := 47) C (r0 := r2) (σ2 := σ2) (As := [.int x0, .int x1]) (rest := []) (hm _ _ rfl) ml_CP_161 54 rfl rfl rfl d_CP_clause_47 rfl rfl (by dsimp only; omega) (by dsimp only; omega) hcm hsm (Nat.le_of_ble_eq_true rfl) ?_
        replace h30 : σ2.2.2 3000 = 0 := hle.2.2.symm.trans h30
        replace hcq : cells + σf.2.2 3001 ≤ mc + σ2.2.2 3001 := by have := hle.1; omega
        replace hsq : slots + σf.2.2 3002 ≤ ms + σ2.2.2 3002 := by have := hle.2; omega
        replace hF : d2_2 + 3 ≤ F := by omega
        replace hLo : 48 * d2_2 + 144 ≤ Lo := by omega
        cases h
        exact ax_iret (pc := 50) C d_CP_clause_50 ⟨rfl, w, tx, hga, rfl, rfl⟩ hcm hsm
      · replace h := it_f hc h
        refine ax_ls ([(0, .ref (u 0)), (1, .int x0), (2, .int x1)]) [0, 1, 2] rfl ?_
        replace hm : sPn_CP_clause_p31 l D kA u σ1 [x0, x1] (σf, rf, _) := (ihP tP_CP_clause_p31 _ _ _ h).1
        exact hm _ _ rfl w tx h30 hn p e s m args below meth c F Lo mc ms cells slots σ0 w0 tx hF hLo hcq hsq hga C
  · replace h := it_t hc h
    replace h := it_l h
    cases h
    exact absurd hn (by simp [mT, va_up])
set_option maxHeartbeats 4000000 in
set_option maxRecDepth 100000 in
theorem oPx2_CP_clause (l : Launch) (D : va_G) (kA : Nat → ClassId) (u : Nat → Nat) (rec : mF) (hG : GM rec) (hG2 : GM2 rec) (ihC : ∀ (w : Nat → Nat) (tx : Value) t σ xs res, rec t σ xs = some res → cSem l D kA u w tx t σ xs res) (ih : ∀ t σ xs res, rec t σ xs = some res → gSem l D kA u t σ xs res) (ihP : ∀ t σ xs res, rec t σ xs = some res → pSem l D kA u t σ xs res) (σ : mS) (xs : List Int32) (res : mR) (h : u_2 (kP_CP_clause rec σ) xs = some res) : sPx2_CP_clause l D kA u σ xs res := by
  intro x0 x1 hxs w tx h30 hn
  subst hxs
  obtain ⟨σf, rf, dd⟩ := res
  dsimp only at hn
  have hmn : gle2 σ σf := qP_CP_clause rec hG2 σ x0 x1 _ h
  have h : (bnd (rec tC_Sto_has σ [x0]) (fun σ1 r1 => if r1 = 0 then (lt_ (mT σ1 3) (fun σ99 => some (σ99, 0, 0))) else (if x1 < 0 then (rec tP_CP_clause_p31 σ1 [x0, x1]) else (if x1 ≤ 7 then (bnd (rec tC_Sto_fact σ1 [x0, x1]) (fun σ2 r2 => some (σ2, r2, 0))) else (rec tP_CP_clause_p31 σ1 [x0, x1]))))) = some (σf, rf, dd) := h
  intro htr
  refine ax_Mx.of (by decide +kernel) (Nat.le_of_ble_eq_true rfl) ?_
  intro p e s m args below meth c C hadm hex hX hP0
  replace C : ax_C p s m args meth c b_CP_clause "ClauseProver" 3 (some .int) D kA (va_A (cpW kA u w tx σ) s.heap.size) := C
  obtain ⟨F, hFe⟩ : ∃ z, z = dd + 6 := ⟨_, rfl⟩
  obtain ⟨Lo, hLoe⟩ : ∃ z, z = 48 * dd + 144 := ⟨_, rfl⟩
  obtain ⟨mc, hmce⟩ : ∃ z, z = σf.2.2 3001 - σ.2.2 3001 := ⟨_, rfl⟩
  obtain ⟨ms, hmse⟩ : ∃ z, z = σf.2.2 3002 - σ.2.2 3002 := ⟨_, rfl⟩
  obtain ⟨σ0, hσ0e⟩ : ∃ z, z = σ := ⟨_, rfl⟩
  obtain ⟨w0, hw0e⟩ : ∃ z, z = w := ⟨_, rfl⟩
  obtain ⟨tx0, htx0e⟩ : ∃ z, z = tx := ⟨_, rfl⟩
  suffices K : ∀ (cells slots : Nat), cells = 0 → slots = 0 → AW p l e { frames := F, cells := mc, slots := ms, locals := Lo } s m args below meth c D kA (va_A (cpW kA u w0 tx0 σ0) s.heap.size) 3 (ax_QX below s D kA (cpW kA u w0 tx0 σ0) mc ms "java/lang/IllegalArgumentException" (fun w1 => ∃ w2 : Nat → Nat, (∀ i, ([] : List Nat).elem i = false → w2 i = w0 i) ∧ w1 = cpW kA u w2 tx0 σf)) 0 [(0, .ref (u 0)), (1, .int x0), (2, .int x1)] [] (cpW kA u w tx σ) cells slots by
    have K := K 0 0 rfl rfl
    rw [hFe, hLoe, hmce, hmse, hσ0e, hw0e, htx0e] at K
    exact ax_ls ([(0, .ref (u 0)), (1, .int x0), (2, .int x1)]) [0, 1, 2] rfl K
  replace C : ax_C p s m args meth c b_CP_clause "ClauseProver" 3 (some .int) D kA (va_A (cpW kA u w0 tx0 σ0) s.heap.size) := by rw [hσ0e, hw0e, htx0e]; exact C
  replace hX : ax_X (va_A (cpW kA u w0 tx0 σ0) s.heap.size) s s.heap := by rw [hσ0e, hw0e, htx0e]; exact hX
  replace hP0 : va_P D ax_cl (cpW kA u w0 tx0 σ0) s.heap := by rw [hσ0e, hw0e, htx0e]; exact hP0
  intro cells slots hc0 hs0
  have hcq : cells + σf.2.2 3001 ≤ mc + σ.2.2 3001 := by have := hmn.1; omega
  have hsq : slots + σf.2.2 3002 ≤ ms + σ.2.2 3002 := by have := hmn.2; omega
  have hga : ∀ i, ([] : List Nat).elem i = false → w i = w0 i := fun i _ => by rw [hw0e]
  have e9 : tx = tx0 := htx0e.symm
  subst e9
  have hF : dd + 6 ≤ F := by omega
  have hLo : 48 * dd + 144 ≤ Lo := by omega
  have hcm : cells ≤ mc := by have := hmn.1; omega
  have hsm : slots ≤ ms := by have := hmn.2; omega
  have hle : True := trivial
  have hm : True := trivial
  refine ax_aload_n (pc := 0) C d_CP_clause_0 rfl 0 rfl ?_
  refine cg_0_7_CP_60 (pc := 1) C d_CP_clause_1 ?_
  refine ax_iload_n (pc := 4) C d_CP_clause_4 rfl 1 rfl ?_
  replace h := it_b h
  obtain ⟨σ1, r1, d1_1, d2_1, h1, h, hd2, hd1⟩ := h
  replace hle := hG _ _ _ _ (by decide) h1
  dsimp only at hle
  replace hmn : gle2 σ1 σf := g2_use h (g2_if (g2_lt (mT_le _ _) g2_some) (g2_if (g2_tail hG2) (g2_if (g2_bnd hG2 (fun _ _ => g2_some)) (g2_tail hG2))))
  replace hm : sC_Sto_has l D kA u w tx σ [x0] (σ1, r1, d1_1) := ihC _ _ tC_Sto_has _ _ _ h1
  refine cc_Vi (pc := 5) C (r0 := r1) (σ2 := σ1) (As := [.int x0]) (rest := []) (hm _ rfl) ml_CP_150 54 rfl rfl rfl d_CP_clause_5 rfl rfl (by dsimp only; omega) (by dsimp only; omega) hcm hsm (Nat.le_of_ble_eq_true rfl) ?_
  replace h30 : σ1.2.2 3000 = 0 := hle.2.2.symm.trans h30
  replace hcq : cells + σf.2.2 3001 ≤ mc + σ1.2.2 3001 := by have := hle.1; omega
  replace hsq : slots + σf.2.2 3002 ≤ ms + σ1.2.2 3002 := by have := hle.2; omega
  replace hF : d2_1 + 6 ≤ F := by omega
  replace hLo : 48 * d2_1 + 144 ≤ Lo := by omega
  refine ax_if_ne (pc := 8) C 21 d_CP_clause_8 (by decide) (fun hc => ?_) (fun hc => ?_)
  · replace h := it_f hc h
    refine ax_iload_n (pc := 21) C d_CP_clause_21 rfl 2 rfl ?_
    refine ax_if_lt (pc := 22) C 31 d_CP_clause_22 (by decide) (fun hc => ?_) (fun hc => ?_)
    · replace h := it_t hc h
      refine ax_ls ([(0, .ref (u 0)), (1, .int x0), (2, .int x1)]) [0, 1, 2] rfl ?_
      replace hm : sPx2_CP_clause_p31 l D kA u σ1 [x0, x1] (σf, rf, _) := (ihP tP_CP_clause_p31 _ _ _ h).2.1
      exact hm _ _ rfl w tx h30 hn p e s m args below meth c F Lo mc ms cells slots σ0 w0 tx hF hLo hcq hsq hga C hadm htr hex hX hP0
    · replace h := it_f hc h
      refine ax_iload_n (pc := 25) C d_CP_clause_25 rfl 2 rfl ?_
      refine ax_bipush (pc := 26) C 7 d_CP_clause_26 (by decide +kernel) ?_
      refine ax_icmp_le (pc := 28) C 41 d_CP_clause_28 (by decide) (fun hc => ?_) (fun hc => ?_)
      · replace h := it_t hc h
        refine ax_aload_n (pc := 41) C d_CP_clause_41 rfl 0 rfl ?_
        refine cg_0_7_CP_60 (pc := 42) C d_CP_clause_42 ?_
        refine ax_iload_n (pc := 45) C d_CP_clause_45 rfl 1 rfl ?_
        refine ax_iload_n (pc := 46) C d_CP_clause_46 rfl 2 rfl ?_
        replace h := it_b h
        obtain ⟨σ2, r2, d1_2, d2_2, h1, h, hd2, hd1⟩ := h
        replace hle := hG _ _ _ _ (by decide) h1
        dsimp only at hle
        replace hmn : gle2 σ2 σf := g2_use h g2_some
        replace hm : sC_Sto_fact l D kA u w tx σ1 [x0, x1] (σ2, r2, d1_2) := ihC _ _ tC_Sto_fact _ _ _ h1
        refine cc_Vi (pc := 47) C (r0 := r2) (σ2 := σ2) (As := [.int x0, .int x1]) (rest := []) (hm _ _ rfl) ml_CP_161 54 rfl rfl rfl d_CP_clause_47 rfl rfl (by dsimp only; omega) (by dsimp only; omega) hcm hsm (Nat.le_of_ble_eq_true rfl) ?_
        replace h30 : σ2.2.2 3000 = 0 := hle.2.2.symm.trans h30
        replace hcq : cells + σf.2.2 3001 ≤ mc + σ2.2.2 3001 := by have := hle.1; omega
        replace hsq : slots + σf.2.2 3002 ≤ ms + σ2.2.2 3002 := by have := hle.2; omega
        replace hF : d2_2 + 6 ≤ F := by omega
        replace hLo : 48 * d2_2 + 144 ≤ Lo := by omega
        cases h
        exact absurd (h30.symm.trans hn) (by decide)
      · replace h := it_f hc h
        refine ax_ls ([(0, .ref (u 0)), (1, .int x0), (2, .int x1)]) [0, 1, 2] rfl ?_
        replace hm : sPx2_CP_clause_p31 l D kA u σ1 [x0, x1] (σf, rf, _) := (ihP tP_CP_clause_p31 _ _ _ h).2.1
        exact hm _ _ rfl w tx h30 hn p e s m args below meth c F Lo mc ms cells slots σ0 w0 tx hF hLo hcq hsq hga C hadm htr hex hX hP0
  · replace h := it_t hc h
    replace h := it_l h
    cases h
    exact absurd hn (by simp [mT, va_up])
set_option maxHeartbeats 4000000 in
set_option maxRecDepth 100000 in
theorem oPx3_CP_clause (l : Launch) (D : va_G) (kA : Nat → ClassId) (u : Nat → Nat) (rec : mF) (hG : GM rec) (hG2 : GM2 rec) (ihC : ∀ (w : Nat → Nat) (tx : Value) t σ xs res, rec t σ xs = some res → cSem l D kA u w tx t σ xs res) (ih : ∀ t σ xs res, rec t σ xs = some res → gSem l D kA u t σ xs res) (ihP : ∀ t σ xs res, rec t σ xs = some res → pSem l D kA u t σ xs res) (σ : mS) (xs : List Int32) (res : mR) (h : u_2 (kP_CP_clause rec σ) xs = some res) : sPx3_CP_clause l D kA u σ xs res := by
  intro x0 x1 hxs w tx h30 hn
  subst hxs
  obtain ⟨σf, rf, dd⟩ := res
  dsimp only at hn
  have hmn : gle2 σ σf := qP_CP_clause rec hG2 σ x0 x1 _ h
  have h : (bnd (rec tC_Sto_has σ [x0]) (fun σ1 r1 => if r1 = 0 then (lt_ (mT σ1 3) (fun σ99 => some (σ99, 0, 0))) else (if x1 < 0 then (rec tP_CP_clause_p31 σ1 [x0, x1]) else (if x1 ≤ 7 then (bnd (rec tC_Sto_fact σ1 [x0, x1]) (fun σ2 r2 => some (σ2, r2, 0))) else (rec tP_CP_clause_p31 σ1 [x0, x1]))))) = some (σf, rf, dd) := h
  intro htr
  refine ax_Mx.of (by decide +kernel) (Nat.le_of_ble_eq_true rfl) ?_
  intro p e s m args below meth c C hadm hex hX hP0
  replace C : ax_C p s m args meth c b_CP_clause "ClauseProver" 3 (some .int) D kA (va_A (cpW kA u w tx σ) s.heap.size) := C
  obtain ⟨F, hFe⟩ : ∃ z, z = dd + 6 := ⟨_, rfl⟩
  obtain ⟨Lo, hLoe⟩ : ∃ z, z = 48 * dd + 144 := ⟨_, rfl⟩
  obtain ⟨mc, hmce⟩ : ∃ z, z = σf.2.2 3001 - σ.2.2 3001 := ⟨_, rfl⟩
  obtain ⟨ms, hmse⟩ : ∃ z, z = σf.2.2 3002 - σ.2.2 3002 := ⟨_, rfl⟩
  obtain ⟨σ0, hσ0e⟩ : ∃ z, z = σ := ⟨_, rfl⟩
  obtain ⟨w0, hw0e⟩ : ∃ z, z = w := ⟨_, rfl⟩
  obtain ⟨tx0, htx0e⟩ : ∃ z, z = tx := ⟨_, rfl⟩
  suffices K : ∀ (cells slots : Nat), cells = 0 → slots = 0 → AW p l e { frames := F, cells := mc, slots := ms, locals := Lo } s m args below meth c D kA (va_A (cpW kA u w0 tx0 σ0) s.heap.size) 3 (ax_QX below s D kA (cpW kA u w0 tx0 σ0) mc ms "java/util/NoSuchElementException" (fun w1 => ∃ w2 : Nat → Nat, (∀ i, ([] : List Nat).elem i = false → w2 i = w0 i) ∧ w1 = cpW kA u w2 tx0 σf)) 0 [(0, .ref (u 0)), (1, .int x0), (2, .int x1)] [] (cpW kA u w tx σ) cells slots by
    have K := K 0 0 rfl rfl
    rw [hFe, hLoe, hmce, hmse, hσ0e, hw0e, htx0e] at K
    exact ax_ls ([(0, .ref (u 0)), (1, .int x0), (2, .int x1)]) [0, 1, 2] rfl K
  replace C : ax_C p s m args meth c b_CP_clause "ClauseProver" 3 (some .int) D kA (va_A (cpW kA u w0 tx0 σ0) s.heap.size) := by rw [hσ0e, hw0e, htx0e]; exact C
  replace hX : ax_X (va_A (cpW kA u w0 tx0 σ0) s.heap.size) s s.heap := by rw [hσ0e, hw0e, htx0e]; exact hX
  replace hP0 : va_P D ax_cl (cpW kA u w0 tx0 σ0) s.heap := by rw [hσ0e, hw0e, htx0e]; exact hP0
  intro cells slots hc0 hs0
  have hcq : cells + σf.2.2 3001 ≤ mc + σ.2.2 3001 := by have := hmn.1; omega
  have hsq : slots + σf.2.2 3002 ≤ ms + σ.2.2 3002 := by have := hmn.2; omega
  have hga : ∀ i, ([] : List Nat).elem i = false → w i = w0 i := fun i _ => by rw [hw0e]
  have e9 : tx = tx0 := htx0e.symm
  subst e9
  have hF : dd + 6 ≤ F := by omega
  have hLo : 48 * dd + 144 ≤ Lo := by omega
  have hcm : cells ≤ mc := by have := hmn.1; omega
  have hsm : slots ≤ ms := by have := hmn.2; omega
  have hle : True := trivial
  have hm : True := trivial
  refine ax_aload_n (pc := 0) C d_CP_clause_0 rfl 0 rfl ?_
  refine cg_0_7_CP_60 (pc := 1) C d_CP_clause_1 ?_
  refine ax_iload_n (pc := 4) C d_CP_clause_4 rfl 1 rfl ?_
  replace h := it_b h
  obtain ⟨σ1, r1, d1_1, d2_1, h1, h, hd2, hd1⟩ := h
  replace hle := hG _ _ _ _ (by decide) h1
  dsimp only at hle
  replace hmn : gle2 σ1 σf := g2_use h (g2_if (g2_lt (mT_le _ _) g2_some) (g2_if (g2_tail hG2) (g2_if (g2_bnd hG2 (fun _ _ => g2_some)) (g2_tail hG2))))
  replace hm : sC_Sto_has l D kA u w tx σ [x0] (σ1, r1, d1_1) := ihC _ _ tC_Sto_has _ _ _ h1
  refine cc_Vi (pc := 5) C (r0 := r1) (σ2 := σ1) (As := [.int x0]) (rest := []) (hm _ rfl) ml_CP_150 54 rfl rfl rfl d_CP_clause_5 rfl rfl (by dsimp only; omega) (by dsimp only; omega) hcm hsm (Nat.le_of_ble_eq_true rfl) ?_
  replace h30 : σ1.2.2 3000 = 0 := hle.2.2.symm.trans h30
  replace hcq : cells + σf.2.2 3001 ≤ mc + σ1.2.2 3001 := by have := hle.1; omega
  replace hsq : slots + σf.2.2 3002 ≤ ms + σ1.2.2 3002 := by have := hle.2; omega
  replace hF : d2_1 + 6 ≤ F := by omega
  replace hLo : 48 * d2_1 + 144 ≤ Lo := by omega
  refine ax_if_ne (pc := 8) C 21 d_CP_clause_8 (by decide) (fun hc => ?_) (fun hc => ?_)
  · replace h := it_f hc h
    refine ax_iload_n (pc := 21) C d_CP_clause_21 rfl 2 rfl ?_
    refine ax_if_lt (pc := 22) C 31 d_CP_clause_22 (by decide) (fun hc => ?_) (fun hc => ?_)
    · replace h := it_t hc h
      refine ax_ls ([(0, .ref (u 0)), (1, .int x0), (2, .int x1)]) [0, 1, 2] rfl ?_
      replace hm : sPx3_CP_clause_p31 l D kA u σ1 [x0, x1] (σf, rf, _) := (ihP tP_CP_clause_p31 _ _ _ h).2.2
      exact hm _ _ rfl w tx h30 hn p e s m args below meth c F Lo mc ms cells slots σ0 w0 tx hF hLo hcq hsq hga C hadm htr hex hX hP0
    · replace h := it_f hc h
      refine ax_iload_n (pc := 25) C d_CP_clause_25 rfl 2 rfl ?_
      refine ax_bipush (pc := 26) C 7 d_CP_clause_26 (by decide +kernel) ?_
      refine ax_icmp_le (pc := 28) C 41 d_CP_clause_28 (by decide) (fun hc => ?_) (fun hc => ?_)
      · replace h := it_t hc h
        refine ax_aload_n (pc := 41) C d_CP_clause_41 rfl 0 rfl ?_
        refine cg_0_7_CP_60 (pc := 42) C d_CP_clause_42 ?_
        refine ax_iload_n (pc := 45) C d_CP_clause_45 rfl 1 rfl ?_
        refine ax_iload_n (pc := 46) C d_CP_clause_46 rfl 2 rfl ?_
        replace h := it_b h
        obtain ⟨σ2, r2, d1_2, d2_2, h1, h, hd2, hd1⟩ := h
        replace hle := hG _ _ _ _ (by decide) h1
        dsimp only at hle
        replace hmn : gle2 σ2 σf := g2_use h g2_some
        replace hm : sC_Sto_fact l D kA u w tx σ1 [x0, x1] (σ2, r2, d1_2) := ihC _ _ tC_Sto_fact _ _ _ h1
        refine cc_Vi (pc := 47) C (r0 := r2) (σ2 := σ2) (As := [.int x0, .int x1]) (rest := []) (hm _ _ rfl) ml_CP_161 54 rfl rfl rfl d_CP_clause_47 rfl rfl (by dsimp only; omega) (by dsimp only; omega) hcm hsm (Nat.le_of_ble_eq_true rfl) ?_
        replace h30 : σ2.2.2 3000 = 0 := hle.2.2.symm.trans h30
        replace hcq : cells + σf.2.2 3001 ≤ mc + σ2.2.2 3001 := by have := hle.1; omega
        replace hsq : slots + σf.2.2 3002 ≤ ms + σ2.2.2 3002 := by have := hle.2; omega
        replace hF : d2_2 + 6 ≤ F := by omega
        replace hLo : 48 * d2_2 + 144 ≤ Lo := by omega
        cases h
        exact absurd (h30.symm.trans hn) (by decide)
      · replace h := it_f hc h
        refine ax_ls ([(0, .ref (u 0)), (1, .int x0), (2, .int x1)]) [0, 1, 2] rfl ?_
        replace hm : sPx3_CP_clause_p31 l D kA u σ1 [x0, x1] (σf, rf, _) := (ihP tP_CP_clause_p31 _ _ _ h).2.2
        exact hm _ _ rfl w tx h30 hn p e s m args below meth c F Lo mc ms cells slots σ0 w0 tx hF hLo hcq hsq hga C hadm htr hex hX hP0
  · replace h := it_t hc h
    replace h := it_l h
    cases h
    have e1 : (mT σ1 3).2.2 3001 = σ1.2.2 3001 + 1 := rfl
    have e2 : (mT σ1 3).2.2 3002 = σ1.2.2 3002 + 6 := rfl
    rw [e1] at hcq
    rw [e2] at hsq
    refine ax_widen (k := mc - 1) (n := ms - 6) (by omega) (by omega) ?_
    exact ax_throw2 (pc := 11) C hadm htr hex hX hP0 (is := 156) (tx := "no such clause") ta_NSE (by decide +kernel) (by decide) tb_classLink_1290 tb_instantiable_1291 tb_initialized_25 (by decide +kernel) (by decide +kernel) (by decide +kernel) (by decide +kernel) d_CP_clause_11 d_CP_clause_14 d_CP_clause_15 d_CP_clause_17 d_CP_clause_20 (by show 6 ≤ F; omega) (by show 90 ≤ Lo; omega) (by show mc - 1 + 1 ≤ mc; omega) (by show ms - 6 + 6 ≤ ms; omega) (by omega) (by omega) ⟨w, hga, rfl⟩
set_option maxHeartbeats 4000000 in
set_option maxRecDepth 100000 in
theorem oPn_CP_clause_p31 (l : Launch) (D : va_G) (kA : Nat → ClassId) (u : Nat → Nat) (rec : mF) (hG : GM rec) (hG2 : GM2 rec) (ihC : ∀ (w : Nat → Nat) (tx : Value) t σ xs res, rec t σ xs = some res → cSem l D kA u w tx t σ xs res) (ih : ∀ t σ xs res, rec t σ xs = some res → gSem l D kA u t σ xs res) (ihP : ∀ t σ xs res, rec t σ xs = some res → pSem l D kA u t σ xs res) (σ : mS) (xs : List Int32) (res : mR) (h : u_2 (kP_CP_clause_p31 rec σ) xs = some res) : sPn_CP_clause_p31 l D kA u σ xs res := by
  intro x0 x1 hxs w tx h30 hn
  subst hxs
  obtain ⟨σf, rf, dd⟩ := res
  dsimp only at hn
  have hmn : gle2 σ σf := qP_CP_clause_p31 rec hG2 σ x0 x1 _ h
  have h : (lt_ (mT σ 2) (fun σ99 => some (σ99, 0, 0))) = some (σf, rf, dd) := h
  intro p e s m args below meth c F Lo mc ms cells slots σ0 w0 tx0 hF hLo hcq hsq hga C
  dsimp only at hF hLo hcq hsq ⊢
  have hcm : cells ≤ mc := by have := hmn.1; omega
  have hsm : slots ≤ ms := by have := hmn.2; omega
  have hle : True := trivial
  have hm : True := trivial
  replace h := it_l h
  cases h
  exact absurd hn (by simp [mT, va_up])
set_option maxHeartbeats 4000000 in
set_option maxRecDepth 100000 in
theorem oPx2_CP_clause_p31 (l : Launch) (D : va_G) (kA : Nat → ClassId) (u : Nat → Nat) (rec : mF) (hG : GM rec) (hG2 : GM2 rec) (ihC : ∀ (w : Nat → Nat) (tx : Value) t σ xs res, rec t σ xs = some res → cSem l D kA u w tx t σ xs res) (ih : ∀ t σ xs res, rec t σ xs = some res → gSem l D kA u t σ xs res) (ihP : ∀ t σ xs res, rec t σ xs = some res → pSem l D kA u t σ xs res) (σ : mS) (xs : List Int32) (res : mR) (h : u_2 (kP_CP_clause_p31 rec σ) xs = some res) : sPx2_CP_clause_p31 l D kA u σ xs res := by
  intro x0 x1 hxs w tx h30 hn
  subst hxs
  obtain ⟨σf, rf, dd⟩ := res
  dsimp only at hn
  have hmn : gle2 σ σf := qP_CP_clause_p31 rec hG2 σ x0 x1 _ h
  have h : (lt_ (mT σ 2) (fun σ99 => some (σ99, 0, 0))) = some (σf, rf, dd) := h
  intro p e s m args below meth c F Lo mc ms cells slots σ0 w0 tx0 hF hLo hcq hsq hga C hadm htr hex hX hP0
  dsimp only at hF hLo hcq hsq ⊢
  have hcm : cells ≤ mc := by have := hmn.1; omega
  have hsm : slots ≤ ms := by have := hmn.2; omega
  have hle : True := trivial
  have hm : True := trivial
  replace h := it_l h
  cases h
  have e1 : (mT σ 2).2.2 3001 = σ.2.2 3001 + 1 := rfl
  have e2 : (mT σ 2).2.2 3002 = σ.2.2 3002 + 6 := rfl
  rw [e1] at hcq
  rw [e2] at hsq
  refine ax_widen (k := mc - 1) (n := ms - 6) (by omega) (by omega) ?_
  exact ax_throw2 (pc := 31) C hadm htr hex hX hP0 (is := 159) (tx := "no such what") ta_IAE (by decide +kernel) (by decide) tb_classLink_984 tb_instantiable_985 tb_initialized_21 (by decide +kernel) (by decide +kernel) (by decide +kernel) (by decide +kernel) d_CP_clause_31 d_CP_clause_34 d_CP_clause_35 d_CP_clause_37 d_CP_clause_40 (by show 6 ≤ F; omega) (by show 90 ≤ Lo; omega) (by show mc - 1 + 1 ≤ mc; omega) (by show ms - 6 + 6 ≤ ms; omega) (by omega) (by omega) ⟨w, hga, rfl⟩
set_option maxHeartbeats 4000000 in
set_option maxRecDepth 100000 in
theorem oPx3_CP_clause_p31 (l : Launch) (D : va_G) (kA : Nat → ClassId) (u : Nat → Nat) (rec : mF) (hG : GM rec) (hG2 : GM2 rec) (ihC : ∀ (w : Nat → Nat) (tx : Value) t σ xs res, rec t σ xs = some res → cSem l D kA u w tx t σ xs res) (ih : ∀ t σ xs res, rec t σ xs = some res → gSem l D kA u t σ xs res) (ihP : ∀ t σ xs res, rec t σ xs = some res → pSem l D kA u t σ xs res) (σ : mS) (xs : List Int32) (res : mR) (h : u_2 (kP_CP_clause_p31 rec σ) xs = some res) : sPx3_CP_clause_p31 l D kA u σ xs res := by
  intro x0 x1 hxs w tx h30 hn
  subst hxs
  obtain ⟨σf, rf, dd⟩ := res
  dsimp only at hn
  have hmn : gle2 σ σf := qP_CP_clause_p31 rec hG2 σ x0 x1 _ h
  have h : (lt_ (mT σ 2) (fun σ99 => some (σ99, 0, 0))) = some (σf, rf, dd) := h
  intro p e s m args below meth c F Lo mc ms cells slots σ0 w0 tx0 hF hLo hcq hsq hga C hadm htr hex hX hP0
  dsimp only at hF hLo hcq hsq ⊢
  have hcm : cells ≤ mc := by have := hmn.1; omega
  have hsm : slots ≤ ms := by have := hmn.2; omega
  have hle : True := trivial
  have hm : True := trivial
  replace h := it_l h
  cases h
  exact absurd hn (by simp [mT, va_up])
set_option maxHeartbeats 4000000 in
set_option maxRecDepth 100000 in
theorem oPn_CP_end (l : Launch) (D : va_G) (kA : Nat → ClassId) (u : Nat → Nat) (rec : mF) (hG : GM rec) (hG2 : GM2 rec) (ihC : ∀ (w : Nat → Nat) (tx : Value) t σ xs res, rec t σ xs = some res → cSem l D kA u w tx t σ xs res) (ih : ∀ t σ xs res, rec t σ xs = some res → gSem l D kA u t σ xs res) (ihP : ∀ t σ xs res, rec t σ xs = some res → pSem l D kA u t σ xs res) (σ : mS) (xs : List Int32) (res : mR) (h : u_1 (kP_CP_end rec σ) xs = some res) : sPn_CP_end l D kA u σ xs res := by
  intro x0 hxs w tx h30 hn
  subst hxs
  obtain ⟨σf, rf, dd⟩ := res
  dsimp only at hn
  have hmn : gle2 σ σf := qP_CP_end rec hG2 σ x0 _ h
  have h : (if x0 < 0 then (rec tP_CP_end_p15 σ [x0]) else (if x0 ≤ (σ.1 101) then (lt_ (mI σ 101 x0) (fun σ1 => some (σ1, x0, 0))) else (rec tP_CP_end_p15 σ [x0]))) = some (σf, rf, dd) := h
  refine ax_Mi.of (by decide +kernel) (Nat.le_of_ble_eq_true rfl) ?_
  intro p e s m args below meth c C hnm
  replace C : ax_C p s m args meth c b_CP_end "ClauseProver" 2 (some .int) D kA (va_A (cpW kA u w tx σ) s.heap.size) := C
  obtain ⟨F, hFe⟩ : ∃ z, z = dd + 3 := ⟨_, rfl⟩
  obtain ⟨Lo, hLoe⟩ : ∃ z, z = 48 * dd + 144 := ⟨_, rfl⟩
  obtain ⟨mc, hmce⟩ : ∃ z, z = σf.2.2 3001 - σ.2.2 3001 := ⟨_, rfl⟩
  obtain ⟨ms, hmse⟩ : ∃ z, z = σf.2.2 3002 - σ.2.2 3002 := ⟨_, rfl⟩
  obtain ⟨σ0, hσ0e⟩ : ∃ z, z = σ := ⟨_, rfl⟩
  obtain ⟨w0, hw0e⟩ : ∃ z, z = w := ⟨_, rfl⟩
  obtain ⟨tx0, htx0e⟩ : ∃ z, z = tx := ⟨_, rfl⟩
  suffices K : ∀ (cells slots : Nat), cells = 0 → slots = 0 → AW p l e { frames := F, cells := mc, slots := ms, locals := Lo } s m args below meth c D kA (va_A (cpW kA u w0 tx0 σ0) s.heap.size) 2 (ax_Qi below args s D kA (cpW kA u w0 tx0 σ0) mc ms (fun r w1 => r = rf ∧ ∃ (w2 : Nat → Nat) (tx2 : Value), (∀ i, ([] : List Nat).elem i = false → w2 i = w0 i) ∧ tx2 = tx0 ∧ w1 = cpW kA u w2 tx2 σf)) 0 [(0, .ref (u 0)), (1, .int x0)] [] (cpW kA u w tx σ) cells slots by
    have K := K 0 0 rfl rfl
    rw [hFe, hLoe, hmce, hmse, hσ0e, hw0e, htx0e] at K
    exact ax_ls ([(0, .ref (u 0)), (1, .int x0)]) [0, 1] rfl K
  replace C : ax_C p s m args meth c b_CP_end "ClauseProver" 2 (some .int) D kA (va_A (cpW kA u w0 tx0 σ0) s.heap.size) := by rw [hσ0e, hw0e, htx0e]; exact C
  intro cells slots hc0 hs0
  have hcq : cells + σf.2.2 3001 ≤ mc + σ.2.2 3001 := by have := hmn.1; omega
  have hsq : slots + σf.2.2 3002 ≤ ms + σ.2.2 3002 := by have := hmn.2; omega
  have hga : ∀ i, ([] : List Nat).elem i = false → w i = w0 i := fun i _ => by rw [hw0e]
  have e9 : tx = tx0 := htx0e.symm
  subst e9
  have hF : dd + 3 ≤ F := by omega
  have hLo : 48 * dd + 144 ≤ Lo := by omega
  have hcm : cells ≤ mc := by have := hmn.1; omega
  have hsm : slots ≤ ms := by have := hmn.2; omega
  have hle : True := trivial
  have hm : True := trivial
  refine ax_iload_n (pc := 0) C d_CP_end_0 rfl 1 rfl ?_
  refine ax_if_lt (pc := 1) C 15 d_CP_end_1 (by decide) (fun hc => ?_) (fun hc => ?_)
  · replace h := it_t hc h
    refine ax_ls ([(0, .ref (u 0)), (1, .int x0)]) [0, 1] rfl ?_
    replace hm : sPn_CP_end_p15 l D kA u σ [x0] (σf, rf, _) := (ihP tP_CP_end_p15 _ _ _ h).1
    exact hm _ rfl w tx h30 hn p e s m args below meth c F Lo mc ms cells slots σ0 w0 tx hF hLo hcq hsq hga C
  · replace h := it_f hc h
    refine ax_iload_n (pc := 4) C d_CP_end_4 rfl 1 rfl ?_
    refine ax_aload_n (pc := 5) C d_CP_end_5 rfl 0 rfl ?_
    refine cg_0_0_CP_14 (pc := 6) C d_CP_end_6 ?_
    refine cg_1_1_CP_82 (pc := 9) C d_CP_end_9 ?_
    refine ax_icmp_le (pc := 12) C 25 d_CP_end_12 (by decide) (fun hc => ?_) (fun hc => ?_)
    · replace h := it_t hc h
      refine ax_aload_n (pc := 25) C d_CP_end_25 rfl 0 rfl ?_
      refine cg_0_0_CP_14 (pc := 26) C d_CP_end_26 ?_
      refine ax_iload_n (pc := 29) C d_CP_end_29 rfl 1 rfl ?_
      refine cq_1_1_CP_82 (pc := 30) C d_CP_end_30 ?_
      replace h30 : (mI σ 101 x0).2.2 3000 = 0 := h30
      replace h := it_l h
      replace hcq : cells + σf.2.2 3001 ≤ mc + (mI σ 101 x0).2.2 3001 := hcq
      replace hsq : slots + σf.2.2 3002 ≤ ms + (mI σ 101 x0).2.2 3002 := hsq
      generalize mI σ 101 x0 = σ1 at h h30 hcq hsq ⊢
      refine ax_iload_n (pc := 33) C d_CP_end_33 rfl 1 rfl ?_
      cases h
      exact ax_iret (pc := 34) C d_CP_end_34 ⟨rfl, w, tx, hga, rfl, rfl⟩ hcm hsm
    · replace h := it_f hc h
      refine ax_ls ([(0, .ref (u 0)), (1, .int x0)]) [0, 1] rfl ?_
      replace hm : sPn_CP_end_p15 l D kA u σ [x0] (σf, rf, _) := (ihP tP_CP_end_p15 _ _ _ h).1
      exact hm _ rfl w tx h30 hn p e s m args below meth c F Lo mc ms cells slots σ0 w0 tx hF hLo hcq hsq hga C
set_option maxHeartbeats 4000000 in
set_option maxRecDepth 100000 in
theorem oPx2_CP_end (l : Launch) (D : va_G) (kA : Nat → ClassId) (u : Nat → Nat) (rec : mF) (hG : GM rec) (hG2 : GM2 rec) (ihC : ∀ (w : Nat → Nat) (tx : Value) t σ xs res, rec t σ xs = some res → cSem l D kA u w tx t σ xs res) (ih : ∀ t σ xs res, rec t σ xs = some res → gSem l D kA u t σ xs res) (ihP : ∀ t σ xs res, rec t σ xs = some res → pSem l D kA u t σ xs res) (σ : mS) (xs : List Int32) (res : mR) (h : u_1 (kP_CP_end rec σ) xs = some res) : sPx2_CP_end l D kA u σ xs res := by
  intro x0 hxs w tx h30 hn
  subst hxs
  obtain ⟨σf, rf, dd⟩ := res
  dsimp only at hn
  have hmn : gle2 σ σf := qP_CP_end rec hG2 σ x0 _ h
  have h : (if x0 < 0 then (rec tP_CP_end_p15 σ [x0]) else (if x0 ≤ (σ.1 101) then (lt_ (mI σ 101 x0) (fun σ1 => some (σ1, x0, 0))) else (rec tP_CP_end_p15 σ [x0]))) = some (σf, rf, dd) := h
  intro htr
  refine ax_Mx.of (by decide +kernel) (Nat.le_of_ble_eq_true rfl) ?_
  intro p e s m args below meth c C hadm hex hX hP0
  replace C : ax_C p s m args meth c b_CP_end "ClauseProver" 2 (some .int) D kA (va_A (cpW kA u w tx σ) s.heap.size) := C
  obtain ⟨F, hFe⟩ : ∃ z, z = dd + 6 := ⟨_, rfl⟩
  obtain ⟨Lo, hLoe⟩ : ∃ z, z = 48 * dd + 144 := ⟨_, rfl⟩
  obtain ⟨mc, hmce⟩ : ∃ z, z = σf.2.2 3001 - σ.2.2 3001 := ⟨_, rfl⟩
  obtain ⟨ms, hmse⟩ : ∃ z, z = σf.2.2 3002 - σ.2.2 3002 := ⟨_, rfl⟩
  obtain ⟨σ0, hσ0e⟩ : ∃ z, z = σ := ⟨_, rfl⟩
  obtain ⟨w0, hw0e⟩ : ∃ z, z = w := ⟨_, rfl⟩
  obtain ⟨tx0, htx0e⟩ : ∃ z, z = tx := ⟨_, rfl⟩
  suffices K : ∀ (cells slots : Nat), cells = 0 → slots = 0 → AW p l e { frames := F, cells := mc, slots := ms, locals := Lo } s m args below meth c D kA (va_A (cpW kA u w0 tx0 σ0) s.heap.size) 2 (ax_QX below s D kA (cpW kA u w0 tx0 σ0) mc ms "java/lang/IllegalArgumentException" (fun w1 => ∃ w2 : Nat → Nat, (∀ i, ([] : List Nat).elem i = false → w2 i = w0 i) ∧ w1 = cpW kA u w2 tx0 σf)) 0 [(0, .ref (u 0)), (1, .int x0)] [] (cpW kA u w tx σ) cells slots by
    have K := K 0 0 rfl rfl
    rw [hFe, hLoe, hmce, hmse, hσ0e, hw0e, htx0e] at K
    exact ax_ls ([(0, .ref (u 0)), (1, .int x0)]) [0, 1] rfl K
  replace C : ax_C p s m args meth c b_CP_end "ClauseProver" 2 (some .int) D kA (va_A (cpW kA u w0 tx0 σ0) s.heap.size) := by rw [hσ0e, hw0e, htx0e]; exact C
  replace hX : ax_X (va_A (cpW kA u w0 tx0 σ0) s.heap.size) s s.heap := by rw [hσ0e, hw0e, htx0e]; exact hX
  replace hP0 : va_P D ax_cl (cpW kA u w0 tx0 σ0) s.heap := by rw [hσ0e, hw0e, htx0e]; exact hP0
  intro cells slots hc0 hs0
  have hcq : cells + σf.2.2 3001 ≤ mc + σ.2.2 3001 := by have := hmn.1; omega
  have hsq : slots + σf.2.2 3002 ≤ ms + σ.2.2 3002 := by have := hmn.2; omega
  have hga : ∀ i, ([] : List Nat).elem i = false → w i = w0 i := fun i _ => by rw [hw0e]
  have e9 : tx = tx0 := htx0e.symm
  subst e9
  have hF : dd + 6 ≤ F := by omega
  have hLo : 48 * dd + 144 ≤ Lo := by omega
  have hcm : cells ≤ mc := by have := hmn.1; omega
  have hsm : slots ≤ ms := by have := hmn.2; omega
  have hle : True := trivial
  have hm : True := trivial
  refine ax_iload_n (pc := 0) C d_CP_end_0 rfl 1 rfl ?_
  refine ax_if_lt (pc := 1) C 15 d_CP_end_1 (by decide) (fun hc => ?_) (fun hc => ?_)
  · replace h := it_t hc h
    refine ax_ls ([(0, .ref (u 0)), (1, .int x0)]) [0, 1] rfl ?_
    replace hm : sPx2_CP_end_p15 l D kA u σ [x0] (σf, rf, _) := (ihP tP_CP_end_p15 _ _ _ h).2
    exact hm _ rfl w tx h30 hn p e s m args below meth c F Lo mc ms cells slots σ0 w0 tx hF hLo hcq hsq hga C hadm htr hex hX hP0
  · replace h := it_f hc h
    refine ax_iload_n (pc := 4) C d_CP_end_4 rfl 1 rfl ?_
    refine ax_aload_n (pc := 5) C d_CP_end_5 rfl 0 rfl ?_
    refine cg_0_0_CP_14 (pc := 6) C d_CP_end_6 ?_
    refine cg_1_1_CP_82 (pc := 9) C d_CP_end_9 ?_
    refine ax_icmp_le (pc := 12) C 25 d_CP_end_12 (by decide) (fun hc => ?_) (fun hc => ?_)
    · replace h := it_t hc h
      refine ax_aload_n (pc := 25) C d_CP_end_25 rfl 0 rfl ?_
      refine cg_0_0_CP_14 (pc := 26) C d_CP_end_26 ?_
      refine ax_iload_n (pc := 29) C d_CP_end_29 rfl 1 rfl ?_
      refine cq_1_1_CP_82 (pc := 30) C d_CP_end_30 ?_
      replace h30 : (mI σ 101 x0).2.2 3000 = 0 := h30
      replace h := it_l h
      replace hcq : cells + σf.2.2 3001 ≤ mc + (mI σ 101 x0).2.2 3001 := hcq
      replace hsq : slots + σf.2.2 3002 ≤ ms + (mI σ 101 x0).2.2 3002 := hsq
      generalize mI σ 101 x0 = σ1 at h h30 hcq hsq ⊢
      refine ax_iload_n (pc := 33) C d_CP_end_33 rfl 1 rfl ?_
      cases h
      exact absurd (h30.symm.trans hn) (by decide)
    · replace h := it_f hc h
      refine ax_ls ([(0, .ref (u 0)), (1, .int x0)]) [0, 1] rfl ?_
      replace hm : sPx2_CP_end_p15 l D kA u σ [x0] (σf, rf, _) := (ihP tP_CP_end_p15 _ _ _ h).2
      exact hm _ rfl w tx h30 hn p e s m args below meth c F Lo mc ms cells slots σ0 w0 tx hF hLo hcq hsq hga C hadm htr hex hX hP0
set_option maxHeartbeats 4000000 in
set_option maxRecDepth 100000 in
theorem oPn_CP_end_p15 (l : Launch) (D : va_G) (kA : Nat → ClassId) (u : Nat → Nat) (rec : mF) (hG : GM rec) (hG2 : GM2 rec) (ihC : ∀ (w : Nat → Nat) (tx : Value) t σ xs res, rec t σ xs = some res → cSem l D kA u w tx t σ xs res) (ih : ∀ t σ xs res, rec t σ xs = some res → gSem l D kA u t σ xs res) (ihP : ∀ t σ xs res, rec t σ xs = some res → pSem l D kA u t σ xs res) (σ : mS) (xs : List Int32) (res : mR) (h : u_1 (kP_CP_end_p15 rec σ) xs = some res) : sPn_CP_end_p15 l D kA u σ xs res := by
  intro x0 hxs w tx h30 hn
  subst hxs
  obtain ⟨σf, rf, dd⟩ := res
  dsimp only at hn
  have hmn : gle2 σ σf := qP_CP_end_p15 rec hG2 σ x0 _ h
  have h : (lt_ (mT σ 2) (fun σ99 => some (σ99, 0, 0))) = some (σf, rf, dd) := h
  intro p e s m args below meth c F Lo mc ms cells slots σ0 w0 tx0 hF hLo hcq hsq hga C
  dsimp only at hF hLo hcq hsq ⊢
  have hcm : cells ≤ mc := by have := hmn.1; omega
  have hsm : slots ≤ ms := by have := hmn.2; omega
  have hle : True := trivial
  have hm : True := trivial
  replace h := it_l h
  cases h
  exact absurd hn (by simp [mT, va_up])
set_option maxHeartbeats 4000000 in
set_option maxRecDepth 100000 in
theorem oPx2_CP_end_p15 (l : Launch) (D : va_G) (kA : Nat → ClassId) (u : Nat → Nat) (rec : mF) (hG : GM rec) (hG2 : GM2 rec) (ihC : ∀ (w : Nat → Nat) (tx : Value) t σ xs res, rec t σ xs = some res → cSem l D kA u w tx t σ xs res) (ih : ∀ t σ xs res, rec t σ xs = some res → gSem l D kA u t σ xs res) (ihP : ∀ t σ xs res, rec t σ xs = some res → pSem l D kA u t σ xs res) (σ : mS) (xs : List Int32) (res : mR) (h : u_1 (kP_CP_end_p15 rec σ) xs = some res) : sPx2_CP_end_p15 l D kA u σ xs res := by
  intro x0 hxs w tx h30 hn
  subst hxs
  obtain ⟨σf, rf, dd⟩ := res
  dsimp only at hn
  have hmn : gle2 σ σf := qP_CP_end_p15 rec hG2 σ x0 _ h
  have h : (lt_ (mT σ 2) (fun σ99 => some (σ99, 0, 0))) = some (σf, rf, dd) := h
  intro p e s m args below meth c F Lo mc ms cells slots σ0 w0 tx0 hF hLo hcq hsq hga C hadm htr hex hX hP0
  dsimp only at hF hLo hcq hsq ⊢
  have hcm : cells ≤ mc := by have := hmn.1; omega
  have hsm : slots ≤ ms := by have := hmn.2; omega
  have hle : True := trivial
  have hm : True := trivial
  replace h := it_l h
  cases h
  have e1 : (mT σ 2).2.2 3001 = σ.2.2 3001 + 1 := rfl
  have e2 : (mT σ 2).2.2 3002 = σ.2.2 3002 + 6 := rfl
  rw [e1] at hcq
  rw [e2] at hsq
  refine ax_widen (k := mc - 1) (n := ms - 6) (by omega) (by omega) ?_
  exact ax_throw2 (pc := 15) C hadm htr hex hX hP0 (is := 102) (tx := "not within the tape") ta_IAE (by decide +kernel) (by decide) tb_classLink_984 tb_instantiable_985 tb_initialized_21 (by decide +kernel) (by decide +kernel) (by decide +kernel) (by decide +kernel) d_CP_end_15 d_CP_end_18 d_CP_end_19 d_CP_end_21 d_CP_end_24 (by show 6 ≤ F; omega) (by show 90 ≤ Lo; omega) (by show mc - 1 + 1 ≤ mc; omega) (by show ms - 6 + 6 ≤ ms; omega) (by omega) (by omega) ⟨w, hga, rfl⟩
set_option maxHeartbeats 4000000 in
set_option maxRecDepth 100000 in
theorem oPn_CP_feed (l : Launch) (D : va_G) (kA : Nat → ClassId) (u : Nat → Nat) (rec : mF) (hG : GM rec) (hG2 : GM2 rec) (ihC : ∀ (w : Nat → Nat) (tx : Value) t σ xs res, rec t σ xs = some res → cSem l D kA u w tx t σ xs res) (ih : ∀ t σ xs res, rec t σ xs = some res → gSem l D kA u t σ xs res) (ihP : ∀ t σ xs res, rec t σ xs = some res → pSem l D kA u t σ xs res) (σ : mS) (xs : List Int32) (res : mR) (h : u_5 (kP_CP_feed rec σ) xs = some res) : sPn_CP_feed l D kA u σ xs res := by
  intro x0 x1 x2 x3 x4 hxs w tx h30 hn
  subst hxs
  obtain ⟨σf, rf, dd⟩ := res
  dsimp only at hn
  have hmn : gle2 σ σf := qP_CP_feed rec hG2 σ x0 x1 x2 x3 x4 _ h
  have h : (if (((σ.1 101) : Int32) + 20) ≤ 65536 then (bnd (rec tG_CP_addBytes σ [x0]) (fun σ1 r1 => bnd (rec tG_CP_addBytes σ1 [x1]) (fun σ2 r2 => bnd (rec tG_CP_addBytes σ2 [x2]) (fun σ3 r3 => bnd (rec tG_CP_addBytes σ3 [x3]) (fun σ4 r4 => bnd (rec tG_CP_addBytes σ4 [x4]) (fun σ5 r5 => some (σ5, (σ5.1 101), 0))))))) else (lt_ (mT σ 1) (fun σ99 => some (σ99, 0, 0)))) = some (σf, rf, dd) := h
  refine ax_Mi.of (by decide +kernel) (Nat.le_of_ble_eq_true rfl) ?_
  intro p e s m args below meth c C hnm
  replace C : ax_C p s m args meth c b_CP_feed "ClauseProver" 6 (some .int) D kA (va_A (cpW kA u w tx σ) s.heap.size) := C
  obtain ⟨F, hFe⟩ : ∃ z, z = dd + 3 := ⟨_, rfl⟩
  obtain ⟨Lo, hLoe⟩ : ∃ z, z = 48 * dd + 144 := ⟨_, rfl⟩
  obtain ⟨mc, hmce⟩ : ∃ z, z = σf.2.2 3001 - σ.2.2 3001 := ⟨_, rfl⟩
  obtain ⟨ms, hmse⟩ : ∃ z, z = σf.2.2 3002 - σ.2.2 3002 := ⟨_, rfl⟩
  obtain ⟨σ0, hσ0e⟩ : ∃ z, z = σ := ⟨_, rfl⟩
  obtain ⟨w0, hw0e⟩ : ∃ z, z = w := ⟨_, rfl⟩
  obtain ⟨tx0, htx0e⟩ : ∃ z, z = tx := ⟨_, rfl⟩
  suffices K : ∀ (cells slots : Nat), cells = 0 → slots = 0 → AW p l e { frames := F, cells := mc, slots := ms, locals := Lo } s m args below meth c D kA (va_A (cpW kA u w0 tx0 σ0) s.heap.size) 6 (ax_Qi below args s D kA (cpW kA u w0 tx0 σ0) mc ms (fun r w1 => r = rf ∧ ∃ (w2 : Nat → Nat) (tx2 : Value), (∀ i, ([2] : List Nat).elem i = false → w2 i = w0 i) ∧ tx2 = tx0 ∧ w1 = cpW kA u w2 tx2 σf)) 0 [(0, .ref (u 0)), (1, .int x0), (2, .int x1), (3, .int x2), (4, .int x3), (5, .int x4)] [] (cpW kA u w tx σ) cells slots by
    have K := K 0 0 rfl rfl
    rw [hFe, hLoe, hmce, hmse, hσ0e, hw0e, htx0e] at K
    exact ax_ls ([(0, .ref (u 0)), (1, .int x0), (2, .int x1), (3, .int x2), (4, .int x3), (5, .int x4)]) [0, 1, 2, 3, 4, 5] rfl K
  replace C : ax_C p s m args meth c b_CP_feed "ClauseProver" 6 (some .int) D kA (va_A (cpW kA u w0 tx0 σ0) s.heap.size) := by rw [hσ0e, hw0e, htx0e]; exact C
  intro cells slots hc0 hs0
  have hcq : cells + σf.2.2 3001 ≤ mc + σ.2.2 3001 := by have := hmn.1; omega
  have hsq : slots + σf.2.2 3002 ≤ ms + σ.2.2 3002 := by have := hmn.2; omega
  have hga : ∀ i, ([2] : List Nat).elem i = false → w i = w0 i := fun i _ => by rw [hw0e]
  have e9 : tx = tx0 := htx0e.symm
  subst e9
  have hF : dd + 3 ≤ F := by omega
  have hLo : 48 * dd + 144 ≤ Lo := by omega
  have hcm : cells ≤ mc := by have := hmn.1; omega
  have hsm : slots ≤ ms := by have := hmn.2; omega
  have hle : True := trivial
  have hm : True := trivial
  refine ax_aload_n (pc := 0) C d_CP_feed_0 rfl 0 rfl ?_
  refine cg_0_0_CP_14 (pc := 1) C d_CP_feed_1 ?_
  refine cg_1_1_CP_82 (pc := 4) C d_CP_feed_4 ?_
  refine ax_bipush (pc := 7) C 20 d_CP_feed_7 (by decide +kernel) ?_
  refine ax_iadd (pc := 9) C d_CP_feed_9 ?_
  refine ax_ldc (pc := 10) C tb_constant_899 d_CP_feed_10 ?_
  refine ax_icmp_le (pc := 12) C 25 d_CP_feed_12 (by decide) (fun hc => ?_) (fun hc => ?_)
  · replace h := it_t hc h
    refine ax_aload_n (pc := 25) C d_CP_feed_25 rfl 0 rfl ?_
    refine ax_iload_n (pc := 26) C d_CP_feed_26 rfl 1 rfl ?_
    replace h := it_b h
    obtain ⟨σ1, r1, d1_1, d2_1, h1, h, hd2, hd1⟩ := h
    replace hle := hG _ _ _ _ (by decide) h1
    dsimp only at hle
    replace hmn : gle2 σ1 σf := g2_use h (g2_bnd hG2 (fun _ _ => (g2_bnd hG2 (fun _ _ => (g2_bnd hG2 (fun _ _ => (g2_bnd hG2 (fun _ _ => g2_some))))))))
    replace hm : sG_CP_addBytes l D kA u σ [x0] (σ1, r1, d1_1) := ih tG_CP_addBytes _ _ _ h1
    refine gc_Vv (pc := 27) C (As := [.int x0]) (rest := []) (hm _ rfl w tx) ml_CP_94 0 rfl rfl rfl d_CP_feed_27 rfl rfl (by dsimp only; omega) (by dsimp only; omega) (by have := hmn.1; have := hle.1; dsimp only; omega) (by have := hmn.2; have := hle.2; dsimp only; omega) (Nat.le_of_ble_eq_true rfl) (fun w1 hw => ?_)
    obtain ⟨w1, tx1, hag1, htq1, hwq1⟩ := hw
    dsimp only at hwq1
    subst hwq1
    dsimp only
    replace htq1 := htq1.symm
    subst htq1
    have hga1 : ∀ i, ([2] : List Nat).elem i = false → w1 i = w0 i := fun i hi => (hag1 i (by revert hi; exact el_sub (by decide))).trans (hga i hi)
    replace h30 : σ1.2.2 3000 = 0 := hle.2.2.symm.trans h30
    replace hcq : (cells + (σ1.2.2 3001 - σ.2.2 3001)) + σf.2.2 3001 ≤ mc + σ1.2.2 3001 := by have := hmn.1; have := hle.1; omega
    replace hcm : (cells + (σ1.2.2 3001 - σ.2.2 3001)) ≤ mc := by have := hmn.1; have := hle.1; omega
    generalize cells + (σ1.2.2 3001 - σ.2.2 3001) = cells at hcq hcm ⊢
    replace hsq : (slots + (σ1.2.2 3002 - σ.2.2 3002)) + σf.2.2 3002 ≤ ms + σ1.2.2 3002 := by have := hmn.2; have := hle.2; omega
    replace hsm : (slots + (σ1.2.2 3002 - σ.2.2 3002)) ≤ ms := by have := hmn.2; have := hle.2; omega
    generalize slots + (σ1.2.2 3002 - σ.2.2 3002) = slots at hsq hsm ⊢
    replace hF : d2_1 + 3 ≤ F := by omega
    replace hLo : 48 * d2_1 + 144 ≤ Lo := by omega
    refine ax_aload_n (pc := 30) C d_CP_feed_30 rfl 0 rfl ?_
    refine ax_iload_n (pc := 31) C d_CP_feed_31 rfl 2 rfl ?_
    replace h := it_b h
    obtain ⟨σ2, r2, d1_2, d2_2, h1, h, hd2, hd1⟩ := h
    replace hle := hG _ _ _ _ (by decide) h1
    dsimp only at hle
    replace hmn : gle2 σ2 σf := g2_use h (g2_bnd hG2 (fun _ _ => (g2_bnd hG2 (fun _ _ => (g2_bnd hG2 (fun _ _ => g2_some))))))
    replace hm : sG_CP_addBytes l D kA u σ1 [x1] (σ2, r2, d1_2) := ih tG_CP_addBytes _ _ _ h1
    refine gc_Vv (pc := 32) C (As := [.int x1]) (rest := []) (hm _ rfl w1 tx) ml_CP_94 0 rfl rfl rfl d_CP_feed_32 rfl rfl (by dsimp only; omega) (by dsimp only; omega) (by have := hmn.1; have := hle.1; dsimp only; omega) (by have := hmn.2; have := hle.2; dsimp only; omega) (Nat.le_of_ble_eq_true rfl) (fun w1 hw => ?_)
    obtain ⟨w2, tx2, hag2, htq2, hwq2⟩ := hw
    dsimp only at hwq2
    subst hwq2
    dsimp only
    replace htq2 := htq2.symm
    subst htq2
    have hga2 : ∀ i, ([2] : List Nat).elem i = false → w2 i = w0 i := fun i hi => (hag2 i (by revert hi; exact el_sub (by decide))).trans (hga1 i hi)
    replace h30 : σ2.2.2 3000 = 0 := hle.2.2.symm.trans h30
    replace hcq : (cells + (σ2.2.2 3001 - σ1.2.2 3001)) + σf.2.2 3001 ≤ mc + σ2.2.2 3001 := by have := hmn.1; have := hle.1; omega
    replace hcm : (cells + (σ2.2.2 3001 - σ1.2.2 3001)) ≤ mc := by have := hmn.1; have := hle.1; omega
    generalize cells + (σ2.2.2 3001 - σ1.2.2 3001) = cells at hcq hcm ⊢
    replace hsq : (slots + (σ2.2.2 3002 - σ1.2.2 3002)) + σf.2.2 3002 ≤ ms + σ2.2.2 3002 := by have := hmn.2; have := hle.2; omega
    replace hsm : (slots + (σ2.2.2 3002 - σ1.2.2 3002)) ≤ ms := by have := hmn.2; have := hle.2; omega
    generalize slots + (σ2.2.2 3002 - σ1.2.2 3002) = slots at hsq hsm ⊢
    replace hF : d2_2 + 3 ≤ F := by omega
    replace hLo : 48 * d2_2 + 144 ≤ Lo := by omega
    refine ax_aload_n (pc := 35) C d_CP_feed_35 rfl 0 rfl ?_
    refine ax_iload_n (pc := 36) C d_CP_feed_36 rfl 3 rfl ?_
    replace h := it_b h
    obtain ⟨σ3, r3, d1_3, d2_3, h1, h, hd2, hd1⟩ := h
    replace hle := hG _ _ _ _ (by decide) h1
    dsimp only at hle
    replace hmn : gle2 σ3 σf := g2_use h (g2_bnd hG2 (fun _ _ => (g2_bnd hG2 (fun _ _ => g2_some))))
    replace hm : sG_CP_addBytes l D kA u σ2 [x2] (σ3, r3, d1_3) := ih tG_CP_addBytes _ _ _ h1
    refine gc_Vv (pc := 37) C (As := [.int x2]) (rest := []) (hm _ rfl w2 tx) ml_CP_94 0 rfl rfl rfl d_CP_feed_37 rfl rfl (by dsimp only; omega) (by dsimp only; omega) (by have := hmn.1; have := hle.1; dsimp only; omega) (by have := hmn.2; have := hle.2; dsimp only; omega) (Nat.le_of_ble_eq_true rfl) (fun w1 hw => ?_)
    obtain ⟨w3, tx3, hag3, htq3, hwq3⟩ := hw
    dsimp only at hwq3
    subst hwq3
    dsimp only
    replace htq3 := htq3.symm
    subst htq3
    have hga3 : ∀ i, ([2] : List Nat).elem i = false → w3 i = w0 i := fun i hi => (hag3 i (by revert hi; exact el_sub (by decide))).trans (hga2 i hi)
    replace h30 : σ3.2.2 3000 = 0 := hle.2.2.symm.trans h30
    replace hcq : (cells + (σ3.2.2 3001 - σ2.2.2 3001)) + σf.2.2 3001 ≤ mc + σ3.2.2 3001 := by have := hmn.1; have := hle.1; omega
    replace hcm : (cells + (σ3.2.2 3001 - σ2.2.2 3001)) ≤ mc := by have := hmn.1; have := hle.1; omega
    generalize cells + (σ3.2.2 3001 - σ2.2.2 3001) = cells at hcq hcm ⊢
    replace hsq : (slots + (σ3.2.2 3002 - σ2.2.2 3002)) + σf.2.2 3002 ≤ ms + σ3.2.2 3002 := by have := hmn.2; have := hle.2; omega
    replace hsm : (slots + (σ3.2.2 3002 - σ2.2.2 3002)) ≤ ms := by have := hmn.2; have := hle.2; omega
    generalize slots + (σ3.2.2 3002 - σ2.2.2 3002) = slots at hsq hsm ⊢
    replace hF : d2_3 + 3 ≤ F := by omega
    replace hLo : 48 * d2_3 + 144 ≤ Lo := by omega
    refine ax_aload_n (pc := 40) C d_CP_feed_40 rfl 0 rfl ?_
    refine ax_iload (pc := 41) C d_CP_feed_41 4 rfl ?_
    replace h := it_b h
    obtain ⟨σ4, r4, d1_4, d2_4, h1, h, hd2, hd1⟩ := h
    replace hle := hG _ _ _ _ (by decide) h1
    dsimp only at hle
    replace hmn : gle2 σ4 σf := g2_use h (g2_bnd hG2 (fun _ _ => g2_some))
    replace hm : sG_CP_addBytes l D kA u σ3 [x3] (σ4, r4, d1_4) := ih tG_CP_addBytes _ _ _ h1
    refine gc_Vv (pc := 43) C (As := [.int x3]) (rest := []) (hm _ rfl w3 tx) ml_CP_94 0 rfl rfl rfl d_CP_feed_43 rfl rfl (by dsimp only; omega) (by dsimp only; omega) (by have := hmn.1; have := hle.1; dsimp only; omega) (by have := hmn.2; have := hle.2; dsimp only; omega) (Nat.le_of_ble_eq_true rfl) (fun w1 hw => ?_)
    obtain ⟨w4, tx4, hag4, htq4, hwq4⟩ := hw
    dsimp only at hwq4
    subst hwq4
    dsimp only
    replace htq4 := htq4.symm
    subst htq4
    have hga4 : ∀ i, ([2] : List Nat).elem i = false → w4 i = w0 i := fun i hi => (hag4 i (by revert hi; exact el_sub (by decide))).trans (hga3 i hi)
    replace h30 : σ4.2.2 3000 = 0 := hle.2.2.symm.trans h30
    replace hcq : (cells + (σ4.2.2 3001 - σ3.2.2 3001)) + σf.2.2 3001 ≤ mc + σ4.2.2 3001 := by have := hmn.1; have := hle.1; omega
    replace hcm : (cells + (σ4.2.2 3001 - σ3.2.2 3001)) ≤ mc := by have := hmn.1; have := hle.1; omega
    generalize cells + (σ4.2.2 3001 - σ3.2.2 3001) = cells at hcq hcm ⊢
    replace hsq : (slots + (σ4.2.2 3002 - σ3.2.2 3002)) + σf.2.2 3002 ≤ ms + σ4.2.2 3002 := by have := hmn.2; have := hle.2; omega
    replace hsm : (slots + (σ4.2.2 3002 - σ3.2.2 3002)) ≤ ms := by have := hmn.2; have := hle.2; omega
    generalize slots + (σ4.2.2 3002 - σ3.2.2 3002) = slots at hsq hsm ⊢
    replace hF : d2_4 + 3 ≤ F := by omega
    replace hLo : 48 * d2_4 + 144 ≤ Lo := by omega
    refine ax_aload_n (pc := 46) C d_CP_feed_46 rfl 0 rfl ?_
    refine ax_iload (pc := 47) C d_CP_feed_47 5 rfl ?_
    replace h := it_b h
    obtain ⟨σ5, r5, d1_5, d2_5, h1, h, hd2, hd1⟩ := h
    replace hle := hG _ _ _ _ (by decide) h1
    dsimp only at hle
    replace hmn : gle2 σ5 σf := g2_use h g2_some
    replace hm : sG_CP_addBytes l D kA u σ4 [x4] (σ5, r5, d1_5) := ih tG_CP_addBytes _ _ _ h1
    refine gc_Vv (pc := 49) C (As := [.int x4]) (rest := []) (hm _ rfl w4 tx) ml_CP_94 0 rfl rfl rfl d_CP_feed_49 rfl rfl (by dsimp only; omega) (by dsimp only; omega) (by have := hmn.1; have := hle.1; dsimp only; omega) (by have := hmn.2; have := hle.2; dsimp only; omega) (Nat.le_of_ble_eq_true rfl) (fun w1 hw => ?_)
    obtain ⟨w5, tx5, hag5, htq5, hwq5⟩ := hw
    dsimp only at hwq5
    subst hwq5
    dsimp only
    replace htq5 := htq5.symm
    subst htq5
    have hga5 : ∀ i, ([2] : List Nat).elem i = false → w5 i = w0 i := fun i hi => (hag5 i (by revert hi; exact el_sub (by decide))).trans (hga4 i hi)
    replace h30 : σ5.2.2 3000 = 0 := hle.2.2.symm.trans h30
    replace hcq : (cells + (σ5.2.2 3001 - σ4.2.2 3001)) + σf.2.2 3001 ≤ mc + σ5.2.2 3001 := by have := hmn.1; have := hle.1; omega
    replace hcm : (cells + (σ5.2.2 3001 - σ4.2.2 3001)) ≤ mc := by have := hmn.1; have := hle.1; omega
    generalize cells + (σ5.2.2 3001 - σ4.2.2 3001) = cells at hcq hcm ⊢
    replace hsq : (slots + (σ5.2.2 3002 - σ4.2.2 3002)) + σf.2.2 3002 ≤ ms + σ5.2.2 3002 := by have := hmn.2; have := hle.2; omega
    replace hsm : (slots + (σ5.2.2 3002 - σ4.2.2 3002)) ≤ ms := by have := hmn.2; have := hle.2; omega
    generalize slots + (σ5.2.2 3002 - σ4.2.2 3002) = slots at hsq hsm ⊢
    replace hF : d2_5 + 3 ≤ F := by omega
    replace hLo : 48 * d2_5 + 144 ≤ Lo := by omega
    refine ax_aload_n (pc := 52) C d_CP_feed_52 rfl 0 rfl ?_
    refine cg_0_0_CP_14 (pc := 53) C d_CP_feed_53 ?_
    refine cg_1_1_CP_82 (pc := 56) C d_CP_feed_56 ?_
    cases h
    exact ax_iret (pc := 59) C d_CP_feed_59 ⟨rfl, w5, tx, hga5, rfl, rfl⟩ hcm hsm
  · replace h := it_f hc h
    replace h := it_l h
    cases h
    exact absurd hn (by simp [mT, va_up])
set_option maxHeartbeats 4000000 in
set_option maxRecDepth 100000 in
theorem oPx1_CP_feed (l : Launch) (D : va_G) (kA : Nat → ClassId) (u : Nat → Nat) (rec : mF) (hG : GM rec) (hG2 : GM2 rec) (ihC : ∀ (w : Nat → Nat) (tx : Value) t σ xs res, rec t σ xs = some res → cSem l D kA u w tx t σ xs res) (ih : ∀ t σ xs res, rec t σ xs = some res → gSem l D kA u t σ xs res) (ihP : ∀ t σ xs res, rec t σ xs = some res → pSem l D kA u t σ xs res) (σ : mS) (xs : List Int32) (res : mR) (h : u_5 (kP_CP_feed rec σ) xs = some res) : sPx1_CP_feed l D kA u σ xs res := by
  intro x0 x1 x2 x3 x4 hxs w tx h30 hn
  subst hxs
  obtain ⟨σf, rf, dd⟩ := res
  dsimp only at hn
  have hmn : gle2 σ σf := qP_CP_feed rec hG2 σ x0 x1 x2 x3 x4 _ h
  have h : (if (((σ.1 101) : Int32) + 20) ≤ 65536 then (bnd (rec tG_CP_addBytes σ [x0]) (fun σ1 r1 => bnd (rec tG_CP_addBytes σ1 [x1]) (fun σ2 r2 => bnd (rec tG_CP_addBytes σ2 [x2]) (fun σ3 r3 => bnd (rec tG_CP_addBytes σ3 [x3]) (fun σ4 r4 => bnd (rec tG_CP_addBytes σ4 [x4]) (fun σ5 r5 => some (σ5, (σ5.1 101), 0))))))) else (lt_ (mT σ 1) (fun σ99 => some (σ99, 0, 0)))) = some (σf, rf, dd) := h
  intro htr
  refine ax_Mx.of (by decide +kernel) (Nat.le_of_ble_eq_true rfl) ?_
  intro p e s m args below meth c C hadm hex hX hP0
  replace C : ax_C p s m args meth c b_CP_feed "ClauseProver" 6 (some .int) D kA (va_A (cpW kA u w tx σ) s.heap.size) := C
  obtain ⟨F, hFe⟩ : ∃ z, z = dd + 6 := ⟨_, rfl⟩
  obtain ⟨Lo, hLoe⟩ : ∃ z, z = 48 * dd + 144 := ⟨_, rfl⟩
  obtain ⟨mc, hmce⟩ : ∃ z, z = σf.2.2 3001 - σ.2.2 3001 := ⟨_, rfl⟩
  obtain ⟨ms, hmse⟩ : ∃ z, z = σf.2.2 3002 - σ.2.2 3002 := ⟨_, rfl⟩
  obtain ⟨σ0, hσ0e⟩ : ∃ z, z = σ := ⟨_, rfl⟩
  obtain ⟨w0, hw0e⟩ : ∃ z, z = w := ⟨_, rfl⟩
  obtain ⟨tx0, htx0e⟩ : ∃ z, z = tx := ⟨_, rfl⟩
  suffices K : ∀ (cells slots : Nat), cells = 0 → slots = 0 → AW p l e { frames := F, cells := mc, slots := ms, locals := Lo } s m args below meth c D kA (va_A (cpW kA u w0 tx0 σ0) s.heap.size) 6 (ax_QX below s D kA (cpW kA u w0 tx0 σ0) mc ms "java/lang/IllegalStateException" (fun w1 => ∃ w2 : Nat → Nat, (∀ i, ([2] : List Nat).elem i = false → w2 i = w0 i) ∧ w1 = cpW kA u w2 tx0 σf)) 0 [(0, .ref (u 0)), (1, .int x0), (2, .int x1), (3, .int x2), (4, .int x3), (5, .int x4)] [] (cpW kA u w tx σ) cells slots by
    have K := K 0 0 rfl rfl
    rw [hFe, hLoe, hmce, hmse, hσ0e, hw0e, htx0e] at K
    exact ax_ls ([(0, .ref (u 0)), (1, .int x0), (2, .int x1), (3, .int x2), (4, .int x3), (5, .int x4)]) [0, 1, 2, 3, 4, 5] rfl K
  replace C : ax_C p s m args meth c b_CP_feed "ClauseProver" 6 (some .int) D kA (va_A (cpW kA u w0 tx0 σ0) s.heap.size) := by rw [hσ0e, hw0e, htx0e]; exact C
  replace hX : ax_X (va_A (cpW kA u w0 tx0 σ0) s.heap.size) s s.heap := by rw [hσ0e, hw0e, htx0e]; exact hX
  replace hP0 : va_P D ax_cl (cpW kA u w0 tx0 σ0) s.heap := by rw [hσ0e, hw0e, htx0e]; exact hP0
  intro cells slots hc0 hs0
  have hcq : cells + σf.2.2 3001 ≤ mc + σ.2.2 3001 := by have := hmn.1; omega
  have hsq : slots + σf.2.2 3002 ≤ ms + σ.2.2 3002 := by have := hmn.2; omega
  have hga : ∀ i, ([2] : List Nat).elem i = false → w i = w0 i := fun i _ => by rw [hw0e]
  have e9 : tx = tx0 := htx0e.symm
  subst e9
  have hF : dd + 6 ≤ F := by omega
  have hLo : 48 * dd + 144 ≤ Lo := by omega
  have hcm : cells ≤ mc := by have := hmn.1; omega
  have hsm : slots ≤ ms := by have := hmn.2; omega
  have hle : True := trivial
  have hm : True := trivial
  refine ax_aload_n (pc := 0) C d_CP_feed_0 rfl 0 rfl ?_
  refine cg_0_0_CP_14 (pc := 1) C d_CP_feed_1 ?_
  refine cg_1_1_CP_82 (pc := 4) C d_CP_feed_4 ?_
  refine ax_bipush (pc := 7) C 20 d_CP_feed_7 (by decide +kernel) ?_
  refine ax_iadd (pc := 9) C d_CP_feed_9 ?_
  refine ax_ldc (pc := 10) C tb_constant_899 d_CP_feed_10 ?_
  refine ax_icmp_le (pc := 12) C 25 d_CP_feed_12 (by decide) (fun hc => ?_) (fun hc => ?_)
  · replace h := it_t hc h
    refine ax_aload_n (pc := 25) C d_CP_feed_25 rfl 0 rfl ?_
    refine ax_iload_n (pc := 26) C d_CP_feed_26 rfl 1 rfl ?_
    replace h := it_b h
    obtain ⟨σ1, r1, d1_1, d2_1, h1, h, hd2, hd1⟩ := h
    replace hle := hG _ _ _ _ (by decide) h1
    dsimp only at hle
    replace hmn : gle2 σ1 σf := g2_use h (g2_bnd hG2 (fun _ _ => (g2_bnd hG2 (fun _ _ => (g2_bnd hG2 (fun _ _ => (g2_bnd hG2 (fun _ _ => g2_some))))))))
    replace hm : sG_CP_addBytes l D kA u σ [x0] (σ1, r1, d1_1) := ih tG_CP_addBytes _ _ _ h1
    refine gc_Vv (pc := 27) C (As := [.int x0]) (rest := []) (hm _ rfl w tx) ml_CP_94 0 rfl rfl rfl d_CP_feed_27 rfl rfl (by dsimp only; omega) (by dsimp only; omega) (by have := hmn.1; have := hle.1; dsimp only; omega) (by have := hmn.2; have := hle.2; dsimp only; omega) (Nat.le_of_ble_eq_true rfl) (fun w1 hw => ?_)
    obtain ⟨w1, tx1, hag1, htq1, hwq1⟩ := hw
    dsimp only at hwq1
    subst hwq1
    dsimp only
    replace htq1 := htq1.symm
    subst htq1
    have hga1 : ∀ i, ([2] : List Nat).elem i = false → w1 i = w0 i := fun i hi => (hag1 i (by revert hi; exact el_sub (by decide))).trans (hga i hi)
    replace h30 : σ1.2.2 3000 = 0 := hle.2.2.symm.trans h30
    replace hcq : (cells + (σ1.2.2 3001 - σ.2.2 3001)) + σf.2.2 3001 ≤ mc + σ1.2.2 3001 := by have := hmn.1; have := hle.1; omega
    replace hcm : (cells + (σ1.2.2 3001 - σ.2.2 3001)) ≤ mc := by have := hmn.1; have := hle.1; omega
    generalize cells + (σ1.2.2 3001 - σ.2.2 3001) = cells at hcq hcm ⊢
    replace hsq : (slots + (σ1.2.2 3002 - σ.2.2 3002)) + σf.2.2 3002 ≤ ms + σ1.2.2 3002 := by have := hmn.2; have := hle.2; omega
    replace hsm : (slots + (σ1.2.2 3002 - σ.2.2 3002)) ≤ ms := by have := hmn.2; have := hle.2; omega
    generalize slots + (σ1.2.2 3002 - σ.2.2 3002) = slots at hsq hsm ⊢
    replace hF : d2_1 + 6 ≤ F := by omega
    replace hLo : 48 * d2_1 + 144 ≤ Lo := by omega
    refine ax_aload_n (pc := 30) C d_CP_feed_30 rfl 0 rfl ?_
    refine ax_iload_n (pc := 31) C d_CP_feed_31 rfl 2 rfl ?_
    replace h := it_b h
    obtain ⟨σ2, r2, d1_2, d2_2, h1, h, hd2, hd1⟩ := h
    replace hle := hG _ _ _ _ (by decide) h1
    dsimp only at hle
    replace hmn : gle2 σ2 σf := g2_use h (g2_bnd hG2 (fun _ _ => (g2_bnd hG2 (fun _ _ => (g2_bnd hG2 (fun _ _ => g2_some))))))
    replace hm : sG_CP_addBytes l D kA u σ1 [x1] (σ2, r2, d1_2) := ih tG_CP_addBytes _ _ _ h1
    refine gc_Vv (pc := 32) C (As := [.int x1]) (rest := []) (hm _ rfl w1 tx) ml_CP_94 0 rfl rfl rfl d_CP_feed_32 rfl rfl (by dsimp only; omega) (by dsimp only; omega) (by have := hmn.1; have := hle.1; dsimp only; omega) (by have := hmn.2; have := hle.2; dsimp only; omega) (Nat.le_of_ble_eq_true rfl) (fun w1 hw => ?_)
    obtain ⟨w2, tx2, hag2, htq2, hwq2⟩ := hw
    dsimp only at hwq2
    subst hwq2
    dsimp only
    replace htq2 := htq2.symm
    subst htq2
    have hga2 : ∀ i, ([2] : List Nat).elem i = false → w2 i = w0 i := fun i hi => (hag2 i (by revert hi; exact el_sub (by decide))).trans (hga1 i hi)
    replace h30 : σ2.2.2 3000 = 0 := hle.2.2.symm.trans h30
    replace hcq : (cells + (σ2.2.2 3001 - σ1.2.2 3001)) + σf.2.2 3001 ≤ mc + σ2.2.2 3001 := by have := hmn.1; have := hle.1; omega
    replace hcm : (cells + (σ2.2.2 3001 - σ1.2.2 3001)) ≤ mc := by have := hmn.1; have := hle.1; omega
    generalize cells + (σ2.2.2 3001 - σ1.2.2 3001) = cells at hcq hcm ⊢
    replace hsq : (slots + (σ2.2.2 3002 - σ1.2.2 3002)) + σf.2.2 3002 ≤ ms + σ2.2.2 3002 := by have := hmn.2; have := hle.2; omega
    replace hsm : (slots + (σ2.2.2 3002 - σ1.2.2 3002)) ≤ ms := by have := hmn.2; have := hle.2; omega
    generalize slots + (σ2.2.2 3002 - σ1.2.2 3002) = slots at hsq hsm ⊢
    replace hF : d2_2 + 6 ≤ F := by omega
    replace hLo : 48 * d2_2 + 144 ≤ Lo := by omega
    refine ax_aload_n (pc := 35) C d_CP_feed_35 rfl 0 rfl ?_
    refine ax_iload_n (pc := 36) C d_CP_feed_36 rfl 3 rfl ?_
    replace h := it_b h
    obtain ⟨σ3, r3, d1_3, d2_3, h1, h, hd2, hd1⟩ := h
    replace hle := hG _ _ _ _ (by decide) h1
    dsimp only at hle
    replace hmn : gle2 σ3 σf := g2_use h (g2_bnd hG2 (fun _ _ => (g2_bnd hG2 (fun _ _ => g2_some))))
    replace hm : sG_CP_addBytes l D kA u σ2 [x2] (σ3, r3, d1_3) := ih tG_CP_addBytes _ _ _ h1
    refine gc_Vv (pc := 37) C (As := [.int x2]) (rest := []) (hm _ rfl w2 tx) ml_CP_94 0 rfl rfl rfl d_CP_feed_37 rfl rfl (by dsimp only; omega) (by dsimp only; omega) (by have := hmn.1; have := hle.1; dsimp only; omega) (by have := hmn.2; have := hle.2; dsimp only; omega) (Nat.le_of_ble_eq_true rfl) (fun w1 hw => ?_)
    obtain ⟨w3, tx3, hag3, htq3, hwq3⟩ := hw
    dsimp only at hwq3
    subst hwq3
    dsimp only
    replace htq3 := htq3.symm
    subst htq3
    have hga3 : ∀ i, ([2] : List Nat).elem i = false → w3 i = w0 i := fun i hi => (hag3 i (by revert hi; exact el_sub (by decide))).trans (hga2 i hi)
    replace h30 : σ3.2.2 3000 = 0 := hle.2.2.symm.trans h30
    replace hcq : (cells + (σ3.2.2 3001 - σ2.2.2 3001)) + σf.2.2 3001 ≤ mc + σ3.2.2 3001 := by have := hmn.1; have := hle.1; omega
    replace hcm : (cells + (σ3.2.2 3001 - σ2.2.2 3001)) ≤ mc := by have := hmn.1; have := hle.1; omega
    generalize cells + (σ3.2.2 3001 - σ2.2.2 3001) = cells at hcq hcm ⊢
    replace hsq : (slots + (σ3.2.2 3002 - σ2.2.2 3002)) + σf.2.2 3002 ≤ ms + σ3.2.2 3002 := by have := hmn.2; have := hle.2; omega
    replace hsm : (slots + (σ3.2.2 3002 - σ2.2.2 3002)) ≤ ms := by have := hmn.2; have := hle.2; omega
    generalize slots + (σ3.2.2 3002 - σ2.2.2 3002) = slots at hsq hsm ⊢
    replace hF : d2_3 + 6 ≤ F := by omega
    replace hLo : 48 * d2_3 + 144 ≤ Lo := by omega
    refine ax_aload_n (pc := 40) C d_CP_feed_40 rfl 0 rfl ?_
    refine ax_iload (pc := 41) C d_CP_feed_41 4 rfl ?_
    replace h := it_b h
    obtain ⟨σ4, r4, d1_4, d2_4, h1, h, hd2, hd1⟩ := h
    replace hle := hG _ _ _ _ (by decide) h1
    dsimp only at hle
    replace hmn : gle2 σ4 σf := g2_use h (g2_bnd hG2 (fun _ _ => g2_some))
    replace hm : sG_CP_addBytes l D kA u σ3 [x3] (σ4, r4, d1_4) := ih tG_CP_addBytes _ _ _ h1
    refine gc_Vv (pc := 43) C (As := [.int x3]) (rest := []) (hm _ rfl w3 tx) ml_CP_94 0 rfl rfl rfl d_CP_feed_43 rfl rfl (by dsimp only; omega) (by dsimp only; omega) (by have := hmn.1; have := hle.1; dsimp only; omega) (by have := hmn.2; have := hle.2; dsimp only; omega) (Nat.le_of_ble_eq_true rfl) (fun w1 hw => ?_)
    obtain ⟨w4, tx4, hag4, htq4, hwq4⟩ := hw
    dsimp only at hwq4
    subst hwq4
    dsimp only
    replace htq4 := htq4.symm
    subst htq4
    have hga4 : ∀ i, ([2] : List Nat).elem i = false → w4 i = w0 i := fun i hi => (hag4 i (by revert hi; exact el_sub (by decide))).trans (hga3 i hi)
    replace h30 : σ4.2.2 3000 = 0 := hle.2.2.symm.trans h30
    replace hcq : (cells + (σ4.2.2 3001 - σ3.2.2 3001)) + σf.2.2 3001 ≤ mc + σ4.2.2 3001 := by have := hmn.1; have := hle.1; omega
    replace hcm : (cells + (σ4.2.2 3001 - σ3.2.2 3001)) ≤ mc := by have := hmn.1; have := hle.1; omega
    generalize cells + (σ4.2.2 3001 - σ3.2.2 3001) = cells at hcq hcm ⊢
    replace hsq : (slots + (σ4.2.2 3002 - σ3.2.2 3002)) + σf.2.2 3002 ≤ ms + σ4.2.2 3002 := by have := hmn.2; have := hle.2; omega
    replace hsm : (slots + (σ4.2.2 3002 - σ3.2.2 3002)) ≤ ms := by have := hmn.2; have := hle.2; omega
    generalize slots + (σ4.2.2 3002 - σ3.2.2 3002) = slots at hsq hsm ⊢
    replace hF : d2_4 + 6 ≤ F := by omega
    replace hLo : 48 * d2_4 + 144 ≤ Lo := by omega
    refine ax_aload_n (pc := 46) C d_CP_feed_46 rfl 0 rfl ?_
    refine ax_iload (pc := 47) C d_CP_feed_47 5 rfl ?_
    replace h := it_b h
    obtain ⟨σ5, r5, d1_5, d2_5, h1, h, hd2, hd1⟩ := h
    replace hle := hG _ _ _ _ (by decide) h1
    dsimp only at hle
    replace hmn : gle2 σ5 σf := g2_use h g2_some
    replace hm : sG_CP_addBytes l D kA u σ4 [x4] (σ5, r5, d1_5) := ih tG_CP_addBytes _ _ _ h1
    refine gc_Vv (pc := 49) C (As := [.int x4]) (rest := []) (hm _ rfl w4 tx) ml_CP_94 0 rfl rfl rfl d_CP_feed_49 rfl rfl (by dsimp only; omega) (by dsimp only; omega) (by have := hmn.1; have := hle.1; dsimp only; omega) (by have := hmn.2; have := hle.2; dsimp only; omega) (Nat.le_of_ble_eq_true rfl) (fun w1 hw => ?_)
    obtain ⟨w5, tx5, hag5, htq5, hwq5⟩ := hw
    dsimp only at hwq5
    subst hwq5
    dsimp only
    replace htq5 := htq5.symm
    subst htq5
    have hga5 : ∀ i, ([2] : List Nat).elem i = false → w5 i = w0 i := fun i hi => (hag5 i (by revert hi; exact el_sub (by decide))).trans (hga4 i hi)
    replace h30 : σ5.2.2 3000 = 0 := hle.2.2.symm.trans h30
    replace hcq : (cells + (σ5.2.2 3001 - σ4.2.2 3001)) + σf.2.2 3001 ≤ mc + σ5.2.2 3001 := by have := hmn.1; have := hle.1; omega
    replace hcm : (cells + (σ5.2.2 3001 - σ4.2.2 3001)) ≤ mc := by have := hmn.1; have := hle.1; omega
    generalize cells + (σ5.2.2 3001 - σ4.2.2 3001) = cells at hcq hcm ⊢
    replace hsq : (slots + (σ5.2.2 3002 - σ4.2.2 3002)) + σf.2.2 3002 ≤ ms + σ5.2.2 3002 := by have := hmn.2; have := hle.2; omega
    replace hsm : (slots + (σ5.2.2 3002 - σ4.2.2 3002)) ≤ ms := by have := hmn.2; have := hle.2; omega
    generalize slots + (σ5.2.2 3002 - σ4.2.2 3002) = slots at hsq hsm ⊢
    replace hF : d2_5 + 6 ≤ F := by omega
    replace hLo : 48 * d2_5 + 144 ≤ Lo := by omega
    refine ax_aload_n (pc := 52) C d_CP_feed_52 rfl 0 rfl ?_
    refine cg_0_0_CP_14 (pc := 53) C d_CP_feed_53 ?_
    refine cg_1_1_CP_82 (pc := 56) C d_CP_feed_56 ?_
    cases h
    exact absurd (h30.symm.trans hn) (by decide)
  · replace h := it_f hc h
    replace h := it_l h
    cases h
    have e1 : (mT σ 1).2.2 3001 = σ.2.2 3001 + 1 := rfl
    have e2 : (mT σ 1).2.2 3002 = σ.2.2 3002 + 6 := rfl
    rw [e1] at hcq
    rw [e2] at hsq
    refine ax_widen (k := mc - 1) (n := ms - 6) (by omega) (by omega) ?_
    exact ax_throw2 (pc := 15) C hadm htr hex hX hP0 (is := 89) (tx := "no room on the tape") ta_ISE (by decide +kernel) (by decide) tb_classLink_900 tb_instantiable_901 tb_initialized_18 (by decide +kernel) (by decide +kernel) (by decide +kernel) (by decide +kernel) d_CP_feed_15 d_CP_feed_18 d_CP_feed_19 d_CP_feed_21 d_CP_feed_24 (by show 6 ≤ F; omega) (by show 90 ≤ Lo; omega) (by show mc - 1 + 1 ≤ mc; omega) (by show ms - 6 + 6 ≤ ms; omega) (by omega) (by omega) ⟨w, hga, rfl⟩
set_option maxHeartbeats 4000000 in
set_option maxRecDepth 100000 in
theorem oPn_CP_literal (l : Launch) (D : va_G) (kA : Nat → ClassId) (u : Nat → Nat) (rec : mF) (hG : GM rec) (hG2 : GM2 rec) (ihC : ∀ (w : Nat → Nat) (tx : Value) t σ xs res, rec t σ xs = some res → cSem l D kA u w tx t σ xs res) (ih : ∀ t σ xs res, rec t σ xs = some res → gSem l D kA u t σ xs res) (ihP : ∀ t σ xs res, rec t σ xs = some res → pSem l D kA u t σ xs res) (σ : mS) (xs : List Int32) (res : mR) (h : u_3 (kP_CP_literal rec σ) xs = some res) : sPn_CP_literal l D kA u σ xs res := by
  intro x0 x1 x2 hxs w tx h30 hn
  subst hxs
  obtain ⟨σf, rf, dd⟩ := res
  dsimp only at hn
  have hmn : gle2 σ σf := qP_CP_literal rec hG2 σ x0 x1 x2 _ h
  have h : (bnd (rec tC_Sto_has σ [x0]) (fun σ1 r1 => if r1 = 0 then (rec tP_CP_literal_p28 σ1 [x0, x1, x2]) else (if x1 < 0 then (rec tP_CP_literal_p28 σ1 [x0, x1, x2]) else (bnd (rec tC_Sto_fact σ1 [x0, 3]) (fun σ2 r2 => if x1 < r2 then (if x2 < 0 then (rec tP_CP_literal_p47 σ2 [x0, x1, x2]) else (if x2 ≤ 3 then (bnd (rec tC_Sto_judge σ2 [x0]) (fun σ3 r3 => bnd (rec tC_Sto_headOf σ3 [x0, x1]) (fun σ4 r4 => if x2 = 3 then (if bin ((r4 : Int32) + 3) (σ4.2.2 48) = true then (if bin ((r4 : Int32) + 4) (σ4.2.2 48) = true then (some (σ4, (((σ4.2.1 48 (Int32.toNatClampNeg ((r4 : Int32) + 3))) : Int32) + (σ4.2.1 48 (Int32.toNatClampNeg ((r4 : Int32) + 4)))), 0)) else none) else none) else (if x2 = 0 then (rec tP_CP_literal_p131 σ4 [x0, x1, x2, r4, 0, r4]) else (if x2 = 1 then (rec tP_CP_literal_p131 σ4 [x0, x1, x2, r4, 1, r4]) else (rec tP_CP_literal_p131 σ4 [x0, x1, x2, r4, 2, r4])))))) else (rec tP_CP_literal_p47 σ2 [x0, x1, x2]))) else (rec tP_CP_literal_p28 σ2 [x0, x1, x2])))))) = some (σf, rf, dd) := h
  refine ax_Mi.of (by decide +kernel) (Nat.le_of_ble_eq_true rfl) ?_
  intro p e s m args below meth c C hnm
  replace C : ax_C p s m args meth c b_CP_literal "ClauseProver" 6 (some .int) D kA (va_A (cpW kA u w tx σ) s.heap.size) := C
  obtain ⟨F, hFe⟩ : ∃ z, z = dd + 3 := ⟨_, rfl⟩
  obtain ⟨Lo, hLoe⟩ : ∃ z, z = 48 * dd + 144 := ⟨_, rfl⟩
  obtain ⟨mc, hmce⟩ : ∃ z, z = σf.2.2 3001 - σ.2.2 3001 := ⟨_, rfl⟩
  obtain ⟨ms, hmse⟩ : ∃ z, z = σf.2.2 3002 - σ.2.2 3002 := ⟨_, rfl⟩
  obtain ⟨σ0, hσ0e⟩ : ∃ z, z = σ := ⟨_, rfl⟩
  obtain ⟨w0, hw0e⟩ : ∃ z, z = w := ⟨_, rfl⟩
  obtain ⟨tx0, htx0e⟩ : ∃ z, z = tx := ⟨_, rfl⟩
  suffices K : ∀ (cells slots : Nat), cells = 0 → slots = 0 → AW p l e { frames := F, cells := mc, slots := ms, locals := Lo } s m args below meth c D kA (va_A (cpW kA u w0 tx0 σ0) s.heap.size) 6 (ax_Qi below args s D kA (cpW kA u w0 tx0 σ0) mc ms (fun r w1 => r = rf ∧ ∃ (w2 : Nat → Nat) (tx2 : Value), (∀ i, ([] : List Nat).elem i = false → w2 i = w0 i) ∧ tx2 = tx0 ∧ w1 = cpW kA u w2 tx2 σf)) 0 [(0, .ref (u 0)), (1, .int x0), (2, .int x1), (3, .int x2)] [] (cpW kA u w tx σ) cells slots by
    have K := K 0 0 rfl rfl
    rw [hFe, hLoe, hmce, hmse, hσ0e, hw0e, htx0e] at K
    exact ax_ls ([(0, .ref (u 0)), (1, .int x0), (2, .int x1), (3, .int x2)]) [0, 1, 2, 3] rfl K
  replace C : ax_C p s m args meth c b_CP_literal "ClauseProver" 6 (some .int) D kA (va_A (cpW kA u w0 tx0 σ0) s.heap.size) := by rw [hσ0e, hw0e, htx0e]; exact C
  intro cells slots hc0 hs0
  have hcq : cells + σf.2.2 3001 ≤ mc + σ.2.2 3001 := by have := hmn.1; omega
  have hsq : slots + σf.2.2 3002 ≤ ms + σ.2.2 3002 := by have := hmn.2; omega
  have hga : ∀ i, ([] : List Nat).elem i = false → w i = w0 i := fun i _ => by rw [hw0e]
  have e9 : tx = tx0 := htx0e.symm
  subst e9
  have hF : dd + 3 ≤ F := by omega
  have hLo : 48 * dd + 144 ≤ Lo := by omega
  have hcm : cells ≤ mc := by have := hmn.1; omega
  have hsm : slots ≤ ms := by have := hmn.2; omega
  have hle : True := trivial
  have hm : True := trivial
  refine ax_aload_n (pc := 0) C d_CP_literal_0 rfl 0 rfl ?_
  refine cg_0_7_CP_60 (pc := 1) C d_CP_literal_1 ?_
  refine ax_iload_n (pc := 4) C d_CP_literal_4 rfl 1 rfl ?_
  replace h := it_b h
  obtain ⟨σ1, r1, d1_1, d2_1, h1, h, hd2, hd1⟩ := h
  replace hle := hG _ _ _ _ (by decide) h1
  dsimp only at hle
  replace hmn : gle2 σ1 σf := g2_use h (g2_if (g2_tail hG2) (g2_if (g2_tail hG2) (g2_bnd hG2 (fun _ _ => (g2_if (g2_if (g2_tail hG2) (g2_if (g2_bnd hG2 (fun _ _ => (g2_bnd hG2 (fun _ _ => (g2_if (g2_if (g2_if g2_some g2_none) g2_none) (g2_if (g2_tail hG2) (g2_if (g2_tail hG2) (g2_tail hG2)))))))) (g2_tail hG2))) (g2_tail hG2))))))
  replace hm : sC_Sto_has l D kA u w tx σ [x0] (σ1, r1, d1_1) := ihC _ _ tC_Sto_has _ _ _ h1
  refine cc_Vi (pc := 5) C (r0 := r1) (σ2 := σ1) (As := [.int x0]) (rest := []) (hm _ rfl) ml_CP_150 54 rfl rfl rfl d_CP_literal_5 rfl rfl (by dsimp only; omega) (by dsimp only; omega) hcm hsm (Nat.le_of_ble_eq_true rfl) ?_
  replace h30 : σ1.2.2 3000 = 0 := hle.2.2.symm.trans h30
  replace hcq : cells + σf.2.2 3001 ≤ mc + σ1.2.2 3001 := by have := hle.1; omega
  replace hsq : slots + σf.2.2 3002 ≤ ms + σ1.2.2 3002 := by have := hle.2; omega
  replace hF : d2_1 + 3 ≤ F := by omega
  replace hLo : 48 * d2_1 + 144 ≤ Lo := by omega
  refine ax_if_eq (pc := 8) C 28 d_CP_literal_8 (by decide) (fun hc => ?_) (fun hc => ?_)
  · replace h := it_t hc h
    refine ax_ls ([(0, .ref (u 0)), (1, .int x0), (2, .int x1), (3, .int x2)]) [0, 1, 2, 3] rfl ?_
    replace hm : sPn_CP_literal_p28 l D kA u σ1 [x0, x1, x2] (σf, rf, _) := (ihP tP_CP_literal_p28 _ _ _ h).1
    exact hm _ _ _ rfl w tx h30 hn p e s m args below meth c F Lo mc ms cells slots σ0 w0 tx hF hLo hcq hsq hga C
  · replace h := it_f hc h
    refine ax_iload_n (pc := 11) C d_CP_literal_11 rfl 2 rfl ?_
    refine ax_if_lt (pc := 12) C 28 d_CP_literal_12 (by decide) (fun hc => ?_) (fun hc => ?_)
    · replace h := it_t hc h
      refine ax_ls ([(0, .ref (u 0)), (1, .int x0), (2, .int x1), (3, .int x2)]) [0, 1, 2, 3] rfl ?_
      replace hm : sPn_CP_literal_p28 l D kA u σ1 [x0, x1, x2] (σf, rf, _) := (ihP tP_CP_literal_p28 _ _ _ h).1
      exact hm _ _ _ rfl w tx h30 hn p e s m args below meth c F Lo mc ms cells slots σ0 w0 tx hF hLo hcq hsq hga C
    · replace h := it_f hc h
      refine ax_iload_n (pc := 15) C d_CP_literal_15 rfl 2 rfl ?_
      refine ax_aload_n (pc := 16) C d_CP_literal_16 rfl 0 rfl ?_
      refine cg_0_7_CP_60 (pc := 17) C d_CP_literal_17 ?_
      refine ax_iload_n (pc := 20) C d_CP_literal_20 rfl 1 rfl ?_
      refine ax_iconst (pc := 21) C 3 d_CP_literal_21 (by decide +kernel) ?_
      replace h := it_b h
      obtain ⟨σ2, r2, d1_2, d2_2, h1, h, hd2, hd1⟩ := h
      replace hle := hG _ _ _ _ (by decide) h1
      dsimp only at hle
      replace hmn : gle2 σ2 σf := g2_use h (g2_if (g2_if (g2_tail hG2) (g2_if (g2_bnd hG2 (fun _ _ => (g2_bnd hG2 (fun _ _ => (g2_if (g2_if (g2_if g2_some g2_none) g2_none) (g2_if (g2_tail hG2) (g2_if (g2_tail hG2) (g2_tail hG2)))))))) (g2_tail hG2))) (g2_tail hG2))
      replace hm : sC_Sto_fact l D kA u w tx σ1 [x0, 3] (σ2, r2, d1_2) := ihC _ _ tC_Sto_fact _ _ _ h1
      refine cc_Vi (pc := 22) C (r0 := r2) (σ2 := σ2) (As := [.int x0, .int 3]) (rest := [.int x1]) (hm _ _ rfl) ml_CP_161 54 rfl rfl rfl d_CP_literal_22 rfl rfl (by dsimp only; omega) (by dsimp only; omega) hcm hsm (Nat.le_of_ble_eq_true rfl) ?_
      replace h30 : σ2.2.2 3000 = 0 := hle.2.2.symm.trans h30
      replace hcq : cells + σf.2.2 3001 ≤ mc + σ2.2.2 3001 := by have := hle.1; omega
      replace hsq : slots + σf.2.2 3002 ≤ ms + σ2.2.2 3002 := by have := hle.2; omega
      replace hF : d2_2 + 3 ≤ F := by omega
      replace hLo : 48 * d2_2 + 144 ≤ Lo := by omega
      refine ax_icmp_lt (pc := 25) C 38 d_CP_literal_25 (by decide) (fun hc => ?_) (fun hc => ?_)
      · replace h := it_t hc h
        refine ax_iload_n (pc := 38) C d_CP_literal_38 rfl 3 rfl ?_
        refine ax_if_lt (pc := 39) C 47 d_CP_literal_39 (by decide) (fun hc => ?_) (fun hc => ?_)
        · replace h := it_t hc h
          refine ax_ls ([(0, .ref (u 0)), (1, .int x0), (2, .int x1), (3, .int x2)]) [0, 1, 2, 3] rfl ?_
          replace hm : sPn_CP_literal_p47 l D kA u σ2 [x0, x1, x2] (σf, rf, _) := (ihP tP_CP_literal_p47 _ _ _ h).1
          exact hm _ _ _ rfl w tx h30 hn p e s m args below meth c F Lo mc ms cells slots σ0 w0 tx hF hLo hcq hsq hga C
        · replace h := it_f hc h
          refine ax_iload_n (pc := 42) C d_CP_literal_42 rfl 3 rfl ?_
          refine ax_iconst (pc := 43) C 3 d_CP_literal_43 (by decide +kernel) ?_
          refine ax_icmp_le (pc := 44) C 57 d_CP_literal_44 (by decide) (fun hc => ?_) (fun hc => ?_)
          · replace h := it_t hc h
            refine ax_aload_n (pc := 57) C d_CP_literal_57 rfl 0 rfl ?_
            refine cg_0_7_CP_60 (pc := 58) C d_CP_literal_58 ?_
            refine ax_iload_n (pc := 61) C d_CP_literal_61 rfl 1 rfl ?_
            replace h := it_b h
            obtain ⟨σ3, r3, d1_3, d2_3, h1, h, hd2, hd1⟩ := h
            replace hle := hG _ _ _ _ (by decide) h1
            dsimp only at hle
            replace hmn : gle2 σ3 σf := g2_use h (g2_bnd hG2 (fun _ _ => (g2_if (g2_if (g2_if g2_some g2_none) g2_none) (g2_if (g2_tail hG2) (g2_if (g2_tail hG2) (g2_tail hG2))))))
            replace hm : sC_Sto_judge l D kA u w tx σ2 [x0] (σ3, r3, d1_3) := ihC _ _ tC_Sto_judge _ _ _ h1
            refine cc_Vv (pc := 62) C (σ2 := σ3) (As := [.int x0]) (rest := []) (hm _ rfl) ml_CP_172 54 rfl rfl rfl d_CP_literal_62 rfl rfl (by dsimp only; omega) (by dsimp only; omega) hcm hsm (Nat.le_of_ble_eq_true rfl) ?_
            replace h30 : σ3.2.2 3000 = 0 := hle.2.2.symm.trans h30
            replace hcq : cells + σf.2.2 3001 ≤ mc + σ3.2.2 3001 := by have := hle.1; omega
            replace hsq : slots + σf.2.2 3002 ≤ ms + σ3.2.2 3002 := by have := hle.2; omega
            replace hF : d2_3 + 3 ≤ F := by omega
            replace hLo : 48 * d2_3 + 144 ≤ Lo := by omega
            refine ax_aload_n (pc := 65) C d_CP_literal_65 rfl 0 rfl ?_
            refine cg_0_7_CP_60 (pc := 66) C d_CP_literal_66 ?_
            refine ax_iload_n (pc := 69) C d_CP_literal_69 rfl 1 rfl ?_
            refine ax_iload_n (pc := 70) C d_CP_literal_70 rfl 2 rfl ?_
            replace h := it_b h
            obtain ⟨σ4, r4, d1_4, d2_4, h1, h, hd2, hd1⟩ := h
            replace hle := hG _ _ _ _ (by decide) h1
            dsimp only at hle
            replace hmn : gle2 σ4 σf := g2_use h (g2_if (g2_if (g2_if g2_some g2_none) g2_none) (g2_if (g2_tail hG2) (g2_if (g2_tail hG2) (g2_tail hG2))))
            replace hm : sC_Sto_headOf l D kA u w tx σ3 [x0, x1] (σ4, r4, d1_4) := ihC _ _ tC_Sto_headOf _ _ _ h1
            refine cc_Vi (pc := 71) C (r0 := r4) (σ2 := σ4) (As := [.int x0, .int x1]) (rest := []) (hm _ _ rfl) ml_CP_175 54 rfl rfl rfl d_CP_literal_71 rfl rfl (by dsimp only; omega) (by dsimp only; omega) hcm hsm (Nat.le_of_ble_eq_true rfl) ?_
            replace h30 : σ4.2.2 3000 = 0 := hle.2.2.symm.trans h30
            replace hcq : cells + σf.2.2 3001 ≤ mc + σ4.2.2 3001 := by have := hle.1; omega
            replace hsq : slots + σf.2.2 3002 ≤ ms + σ4.2.2 3002 := by have := hle.2; omega
            replace hF : d2_4 + 3 ≤ F := by omega
            replace hLo : 48 * d2_4 + 144 ≤ Lo := by omega
            refine ax_istore (pc := 74) C d_CP_literal_74 (Nat.le_of_ble_eq_true rfl) ([(4, .int r4), (0, .ref (u 0)), (1, .int x0), (2, .int x1), (3, .int x2)]) rfl ?_
            refine ax_aload_n (pc := 76) C d_CP_literal_76 rfl 1 rfl ?_
            refine cg_0_7_CP_60 (pc := 77) C d_CP_literal_77 ?_
            refine cg_54_0_CP_178 (pc := 80) C d_CP_literal_80 ?_
            refine cg_47_0_CP_110 (pc := 83) C d_CP_literal_83 ?_
            refine ax_astore (pc := 86) C d_CP_literal_86 (Nat.le_of_ble_eq_true rfl) ([(5, .ref (w 48)), (4, .int r4), (0, .ref (u 0)), (1, .int x0), (2, .int x1), (3, .int x2)]) rfl ?_
            refine ax_iload_n (pc := 88) C d_CP_literal_88 rfl 5 rfl ?_
            refine ax_iconst (pc := 89) C 3 d_CP_literal_89 (by decide +kernel) ?_
            refine ax_icmp_ne (pc := 90) C 109 d_CP_literal_90 (by decide) (fun hc => ?_) (fun hc => ?_)
            · replace h := it_f hc h
              refine ax_aload (pc := 109) C d_CP_literal_109 0 rfl ?_
              refine ax_iload (pc := 111) C d_CP_literal_111 1 rfl ?_
              refine ax_iload_n (pc := 113) C d_CP_literal_113 rfl 5 rfl ?_
              refine ax_if_ne (pc := 114) C 121 d_CP_literal_114 (by decide) (fun hc => ?_) (fun hc => ?_)
              · replace h := it_f hc h
                refine ax_iload_n (pc := 121) C d_CP_literal_121 rfl 5 rfl ?_
                refine ax_iconst (pc := 122) C 1 d_CP_literal_122 (by decide +kernel) ?_
                refine ax_icmp_ne (pc := 123) C 130 d_CP_literal_123 (by decide) (fun hc => ?_) (fun hc => ?_)
                · replace h := it_f hc h
                  refine ax_iconst (pc := 130) C 2 d_CP_literal_130 (by decide +kernel) ?_
                  refine ax_ls ([(0, .ref (u 0)), (1, .int x0), (2, .int x1), (3, .int x2), (4, .int r4), (5, .ref (w 48))]) [2, 3, 4, 5, 1, 0] rfl ?_
                  replace hm : sPn_CP_literal_p131 l D kA u σ4 [x0, x1, x2, r4, 2, r4] (σf, rf, _) := (ihP tP_CP_literal_p131 _ _ _ h).1
                  exact hm _ _ _ _ _ _ rfl w tx h30 hn p e s m args below meth c F Lo mc ms cells slots σ0 w0 tx hF hLo hcq hsq hga C
                · replace h := it_t hc h
                  refine ax_iconst (pc := 126) C 1 d_CP_literal_126 (by decide +kernel) ?_
                  refine ax_goto (pc := 127) C 131 d_CP_literal_127 (by decide) ?_
                  refine ax_ls ([(0, .ref (u 0)), (1, .int x0), (2, .int x1), (3, .int x2), (4, .int r4), (5, .ref (w 48))]) [2, 3, 4, 5, 1, 0] rfl ?_
                  replace hm : sPn_CP_literal_p131 l D kA u σ4 [x0, x1, x2, r4, 1, r4] (σf, rf, _) := (ihP tP_CP_literal_p131 _ _ _ h).1
                  exact hm _ _ _ _ _ _ rfl w tx h30 hn p e s m args below meth c F Lo mc ms cells slots σ0 w0 tx hF hLo hcq hsq hga C
              · replace h := it_t hc h
                refine ax_iconst (pc := 117) C 0 d_CP_literal_117 (by decide +kernel) ?_
                refine ax_goto (pc := 118) C 131 d_CP_literal_118 (by decide) ?_
                refine ax_ls ([(0, .ref (u 0)), (1, .int x0), (2, .int x1), (3, .int x2), (4, .int r4), (5, .ref (w 48))]) [2, 3, 4, 5, 1, 0] rfl ?_
                replace hm : sPn_CP_literal_p131 l D kA u σ4 [x0, x1, x2, r4, 0, r4] (σf, rf, _) := (ihP tP_CP_literal_p131 _ _ _ h).1
                exact hm _ _ _ _ _ _ rfl w tx h30 hn p e s m args below meth c F Lo mc ms cells slots σ0 w0 tx hF hLo hcq hsq hga C
            · replace h := it_t hc h
              refine ax_aload (pc := 93) C d_CP_literal_93 0 rfl ?_
              refine ax_iload (pc := 95) C d_CP_literal_95 1 rfl ?_
              refine ax_iconst (pc := 97) C 3 d_CP_literal_97 (by decide +kernel) ?_
              refine ax_iadd (pc := 98) C d_CP_literal_98 ?_
              replace h := it_g h
              obtain ⟨hb, h⟩ := h
              refine cl_48 (pc := 99) C d_CP_literal_99 (bin_in hb) ?_
              refine ax_aload (pc := 100) C d_CP_literal_100 0 rfl ?_
              refine ax_iload (pc := 102) C d_CP_literal_102 1 rfl ?_
              refine ax_iconst (pc := 104) C 4 d_CP_literal_104 (by decide +kernel) ?_
              refine ax_iadd (pc := 105) C d_CP_literal_105 ?_
              replace h := it_g h
              obtain ⟨hb, h⟩ := h
              refine cl_48 (pc := 106) C d_CP_literal_106 (bin_in hb) ?_
              refine ax_iadd (pc := 107) C d_CP_literal_107 ?_
              cases h
              exact ax_iret (pc := 108) C d_CP_literal_108 ⟨rfl, w, tx, hga, rfl, rfl⟩ hcm hsm
          · replace h := it_f hc h
            refine ax_ls ([(0, .ref (u 0)), (1, .int x0), (2, .int x1), (3, .int x2)]) [0, 1, 2, 3] rfl ?_
            replace hm : sPn_CP_literal_p47 l D kA u σ2 [x0, x1, x2] (σf, rf, _) := (ihP tP_CP_literal_p47 _ _ _ h).1
            exact hm _ _ _ rfl w tx h30 hn p e s m args below meth c F Lo mc ms cells slots σ0 w0 tx hF hLo hcq hsq hga C
      · replace h := it_f hc h
        refine ax_ls ([(0, .ref (u 0)), (1, .int x0), (2, .int x1), (3, .int x2)]) [0, 1, 2, 3] rfl ?_
        replace hm : sPn_CP_literal_p28 l D kA u σ2 [x0, x1, x2] (σf, rf, _) := (ihP tP_CP_literal_p28 _ _ _ h).1
        exact hm _ _ _ rfl w tx h30 hn p e s m args below meth c F Lo mc ms cells slots σ0 w0 tx hF hLo hcq hsq hga C
set_option maxHeartbeats 4000000 in
set_option maxRecDepth 100000 in
theorem oPx2_CP_literal (l : Launch) (D : va_G) (kA : Nat → ClassId) (u : Nat → Nat) (rec : mF) (hG : GM rec) (hG2 : GM2 rec) (ihC : ∀ (w : Nat → Nat) (tx : Value) t σ xs res, rec t σ xs = some res → cSem l D kA u w tx t σ xs res) (ih : ∀ t σ xs res, rec t σ xs = some res → gSem l D kA u t σ xs res) (ihP : ∀ t σ xs res, rec t σ xs = some res → pSem l D kA u t σ xs res) (σ : mS) (xs : List Int32) (res : mR) (h : u_3 (kP_CP_literal rec σ) xs = some res) : sPx2_CP_literal l D kA u σ xs res := by
  intro x0 x1 x2 hxs w tx h30 hn
  subst hxs
  obtain ⟨σf, rf, dd⟩ := res
  dsimp only at hn
  have hmn : gle2 σ σf := qP_CP_literal rec hG2 σ x0 x1 x2 _ h
  have h : (bnd (rec tC_Sto_has σ [x0]) (fun σ1 r1 => if r1 = 0 then (rec tP_CP_literal_p28 σ1 [x0, x1, x2]) else (if x1 < 0 then (rec tP_CP_literal_p28 σ1 [x0, x1, x2]) else (bnd (rec tC_Sto_fact σ1 [x0, 3]) (fun σ2 r2 => if x1 < r2 then (if x2 < 0 then (rec tP_CP_literal_p47 σ2 [x0, x1, x2]) else (if x2 ≤ 3 then (bnd (rec tC_Sto_judge σ2 [x0]) (fun σ3 r3 => bnd (rec tC_Sto_headOf σ3 [x0, x1]) (fun σ4 r4 => if x2 = 3 then (if bin ((r4 : Int32) + 3) (σ4.2.2 48) = true then (if bin ((r4 : Int32) + 4) (σ4.2.2 48) = true then (some (σ4, (((σ4.2.1 48 (Int32.toNatClampNeg ((r4 : Int32) + 3))) : Int32) + (σ4.2.1 48 (Int32.toNatClampNeg ((r4 : Int32) + 4)))), 0)) else none) else none) else (if x2 = 0 then (rec tP_CP_literal_p131 σ4 [x0, x1, x2, r4, 0, r4]) else (if x2 = 1 then (rec tP_CP_literal_p131 σ4 [x0, x1, x2, r4, 1, r4]) else (rec tP_CP_literal_p131 σ4 [x0, x1, x2, r4, 2, r4])))))) else (rec tP_CP_literal_p47 σ2 [x0, x1, x2]))) else (rec tP_CP_literal_p28 σ2 [x0, x1, x2])))))) = some (σf, rf, dd) := h
  intro htr
  refine ax_Mx.of (by decide +kernel) (Nat.le_of_ble_eq_true rfl) ?_
  intro p e s m args below meth c C hadm hex hX hP0
  replace C : ax_C p s m args meth c b_CP_literal "ClauseProver" 6 (some .int) D kA (va_A (cpW kA u w tx σ) s.heap.size) := C
  obtain ⟨F, hFe⟩ : ∃ z, z = dd + 6 := ⟨_, rfl⟩
  obtain ⟨Lo, hLoe⟩ : ∃ z, z = 48 * dd + 144 := ⟨_, rfl⟩
  obtain ⟨mc, hmce⟩ : ∃ z, z = σf.2.2 3001 - σ.2.2 3001 := ⟨_, rfl⟩
  obtain ⟨ms, hmse⟩ : ∃ z, z = σf.2.2 3002 - σ.2.2 3002 := ⟨_, rfl⟩
  obtain ⟨σ0, hσ0e⟩ : ∃ z, z = σ := ⟨_, rfl⟩
  obtain ⟨w0, hw0e⟩ : ∃ z, z = w := ⟨_, rfl⟩
  obtain ⟨tx0, htx0e⟩ : ∃ z, z = tx := ⟨_, rfl⟩
  suffices K : ∀ (cells slots : Nat), cells = 0 → slots = 0 → AW p l e { frames := F, cells := mc, slots := ms, locals := Lo } s m args below meth c D kA (va_A (cpW kA u w0 tx0 σ0) s.heap.size) 6 (ax_QX below s D kA (cpW kA u w0 tx0 σ0) mc ms "java/lang/IllegalArgumentException" (fun w1 => ∃ w2 : Nat → Nat, (∀ i, ([] : List Nat).elem i = false → w2 i = w0 i) ∧ w1 = cpW kA u w2 tx0 σf)) 0 [(0, .ref (u 0)), (1, .int x0), (2, .int x1), (3, .int x2)] [] (cpW kA u w tx σ) cells slots by
    have K := K 0 0 rfl rfl
    rw [hFe, hLoe, hmce, hmse, hσ0e, hw0e, htx0e] at K
    exact ax_ls ([(0, .ref (u 0)), (1, .int x0), (2, .int x1), (3, .int x2)]) [0, 1, 2, 3] rfl K
  replace C : ax_C p s m args meth c b_CP_literal "ClauseProver" 6 (some .int) D kA (va_A (cpW kA u w0 tx0 σ0) s.heap.size) := by rw [hσ0e, hw0e, htx0e]; exact C
  replace hX : ax_X (va_A (cpW kA u w0 tx0 σ0) s.heap.size) s s.heap := by rw [hσ0e, hw0e, htx0e]; exact hX
  replace hP0 : va_P D ax_cl (cpW kA u w0 tx0 σ0) s.heap := by rw [hσ0e, hw0e, htx0e]; exact hP0
  intro cells slots hc0 hs0
  have hcq : cells + σf.2.2 3001 ≤ mc + σ.2.2 3001 := by have := hmn.1; omega
  have hsq : slots + σf.2.2 3002 ≤ ms + σ.2.2 3002 := by have := hmn.2; omega
  have hga : ∀ i, ([] : List Nat).elem i = false → w i = w0 i := fun i _ => by rw [hw0e]
  have e9 : tx = tx0 := htx0e.symm
  subst e9
  have hF : dd + 6 ≤ F := by omega
  have hLo : 48 * dd + 144 ≤ Lo := by omega
  have hcm : cells ≤ mc := by have := hmn.1; omega
  have hsm : slots ≤ ms := by have := hmn.2; omega
  have hle : True := trivial
  have hm : True := trivial
  refine ax_aload_n (pc := 0) C d_CP_literal_0 rfl 0 rfl ?_
  refine cg_0_7_CP_60 (pc := 1) C d_CP_literal_1 ?_
  refine ax_iload_n (pc := 4) C d_CP_literal_4 rfl 1 rfl ?_
  replace h := it_b h
  obtain ⟨σ1, r1, d1_1, d2_1, h1, h, hd2, hd1⟩ := h
  replace hle := hG _ _ _ _ (by decide) h1
  dsimp only at hle
  replace hmn : gle2 σ1 σf := g2_use h (g2_if (g2_tail hG2) (g2_if (g2_tail hG2) (g2_bnd hG2 (fun _ _ => (g2_if (g2_if (g2_tail hG2) (g2_if (g2_bnd hG2 (fun _ _ => (g2_bnd hG2 (fun _ _ => (g2_if (g2_if (g2_if g2_some g2_none) g2_none) (g2_if (g2_tail hG2) (g2_if (g2_tail hG2) (g2_tail hG2)))))))) (g2_tail hG2))) (g2_tail hG2))))))
  replace hm : sC_Sto_has l D kA u w tx σ [x0] (σ1, r1, d1_1) := ihC _ _ tC_Sto_has _ _ _ h1
  refine cc_Vi (pc := 5) C (r0 := r1) (σ2 := σ1) (As := [.int x0]) (rest := []) (hm _ rfl) ml_CP_150 54 rfl rfl rfl d_CP_literal_5 rfl rfl (by dsimp only; omega) (by dsimp only; omega) hcm hsm (Nat.le_of_ble_eq_true rfl) ?_
  replace h30 : σ1.2.2 3000 = 0 := hle.2.2.symm.trans h30
  replace hcq : cells + σf.2.2 3001 ≤ mc + σ1.2.2 3001 := by have := hle.1; omega
  replace hsq : slots + σf.2.2 3002 ≤ ms + σ1.2.2 3002 := by have := hle.2; omega
  replace hF : d2_1 + 6 ≤ F := by omega
  replace hLo : 48 * d2_1 + 144 ≤ Lo := by omega
  refine ax_if_eq (pc := 8) C 28 d_CP_literal_8 (by decide) (fun hc => ?_) (fun hc => ?_)
  · replace h := it_t hc h
    refine ax_ls ([(0, .ref (u 0)), (1, .int x0), (2, .int x1), (3, .int x2)]) [0, 1, 2, 3] rfl ?_
    replace hm : sPx2_CP_literal_p28 l D kA u σ1 [x0, x1, x2] (σf, rf, _) := (ihP tP_CP_literal_p28 _ _ _ h).2.1
    exact hm _ _ _ rfl w tx h30 hn p e s m args below meth c F Lo mc ms cells slots σ0 w0 tx hF hLo hcq hsq hga C hadm htr hex hX hP0
  · replace h := it_f hc h
    refine ax_iload_n (pc := 11) C d_CP_literal_11 rfl 2 rfl ?_
    refine ax_if_lt (pc := 12) C 28 d_CP_literal_12 (by decide) (fun hc => ?_) (fun hc => ?_)
    · replace h := it_t hc h
      refine ax_ls ([(0, .ref (u 0)), (1, .int x0), (2, .int x1), (3, .int x2)]) [0, 1, 2, 3] rfl ?_
      replace hm : sPx2_CP_literal_p28 l D kA u σ1 [x0, x1, x2] (σf, rf, _) := (ihP tP_CP_literal_p28 _ _ _ h).2.1
      exact hm _ _ _ rfl w tx h30 hn p e s m args below meth c F Lo mc ms cells slots σ0 w0 tx hF hLo hcq hsq hga C hadm htr hex hX hP0
    · replace h := it_f hc h
      refine ax_iload_n (pc := 15) C d_CP_literal_15 rfl 2 rfl ?_
      refine ax_aload_n (pc := 16) C d_CP_literal_16 rfl 0 rfl ?_
      refine cg_0_7_CP_60 (pc := 17) C d_CP_literal_17 ?_
      refine ax_iload_n (pc := 20) C d_CP_literal_20 rfl 1 rfl ?_
      refine ax_iconst (pc := 21) C 3 d_CP_literal_21 (by decide +kernel) ?_
      replace h := it_b h
      obtain ⟨σ2, r2, d1_2, d2_2, h1, h, hd2, hd1⟩ := h
      replace hle := hG _ _ _ _ (by decide) h1
      dsimp only at hle
      replace hmn : gle2 σ2 σf := g2_use h (g2_if (g2_if (g2_tail hG2) (g2_if (g2_bnd hG2 (fun _ _ => (g2_bnd hG2 (fun _ _ => (g2_if (g2_if (g2_if g2_some g2_none) g2_none) (g2_if (g2_tail hG2) (g2_if (g2_tail hG2) (g2_tail hG2)))))))) (g2_tail hG2))) (g2_tail hG2))
      replace hm : sC_Sto_fact l D kA u w tx σ1 [x0, 3] (σ2, r2, d1_2) := ihC _ _ tC_Sto_fact _ _ _ h1
      refine cc_Vi (pc := 22) C (r0 := r2) (σ2 := σ2) (As := [.int x0, .int 3]) (rest := [.int x1]) (hm _ _ rfl) ml_CP_161 54 rfl rfl rfl d_CP_literal_22 rfl rfl (by dsimp only; omega) (by dsimp only; omega) hcm hsm (Nat.le_of_ble_eq_true rfl) ?_
      replace h30 : σ2.2.2 3000 = 0 := hle.2.2.symm.trans h30
      replace hcq : cells + σf.2.2 3001 ≤ mc + σ2.2.2 3001 := by have := hle.1; omega
      replace hsq : slots + σf.2.2 3002 ≤ ms + σ2.2.2 3002 := by have := hle.2; omega
      replace hF : d2_2 + 6 ≤ F := by omega
      replace hLo : 48 * d2_2 + 144 ≤ Lo := by omega
      refine ax_icmp_lt (pc := 25) C 38 d_CP_literal_25 (by decide) (fun hc => ?_) (fun hc => ?_)
      · replace h := it_t hc h
        refine ax_iload_n (pc := 38) C d_CP_literal_38 rfl 3 rfl ?_
        refine ax_if_lt (pc := 39) C 47 d_CP_literal_39 (by decide) (fun hc => ?_) (fun hc => ?_)
        · replace h := it_t hc h
          refine ax_ls ([(0, .ref (u 0)), (1, .int x0), (2, .int x1), (3, .int x2)]) [0, 1, 2, 3] rfl ?_
          replace hm : sPx2_CP_literal_p47 l D kA u σ2 [x0, x1, x2] (σf, rf, _) := (ihP tP_CP_literal_p47 _ _ _ h).2.1
          exact hm _ _ _ rfl w tx h30 hn p e s m args below meth c F Lo mc ms cells slots σ0 w0 tx hF hLo hcq hsq hga C hadm htr hex hX hP0
        · replace h := it_f hc h
          refine ax_iload_n (pc := 42) C d_CP_literal_42 rfl 3 rfl ?_
          refine ax_iconst (pc := 43) C 3 d_CP_literal_43 (by decide +kernel) ?_
          refine ax_icmp_le (pc := 44) C 57 d_CP_literal_44 (by decide) (fun hc => ?_) (fun hc => ?_)
          · replace h := it_t hc h
            refine ax_aload_n (pc := 57) C d_CP_literal_57 rfl 0 rfl ?_
            refine cg_0_7_CP_60 (pc := 58) C d_CP_literal_58 ?_
            refine ax_iload_n (pc := 61) C d_CP_literal_61 rfl 1 rfl ?_
            replace h := it_b h
            obtain ⟨σ3, r3, d1_3, d2_3, h1, h, hd2, hd1⟩ := h
            replace hle := hG _ _ _ _ (by decide) h1
            dsimp only at hle
            replace hmn : gle2 σ3 σf := g2_use h (g2_bnd hG2 (fun _ _ => (g2_if (g2_if (g2_if g2_some g2_none) g2_none) (g2_if (g2_tail hG2) (g2_if (g2_tail hG2) (g2_tail hG2))))))
            replace hm : sC_Sto_judge l D kA u w tx σ2 [x0] (σ3, r3, d1_3) := ihC _ _ tC_Sto_judge _ _ _ h1
            refine cc_Vv (pc := 62) C (σ2 := σ3) (As := [.int x0]) (rest := []) (hm _ rfl) ml_CP_172 54 rfl rfl rfl d_CP_literal_62 rfl rfl (by dsimp only; omega) (by dsimp only; omega) hcm hsm (Nat.le_of_ble_eq_true rfl) ?_
            replace h30 : σ3.2.2 3000 = 0 := hle.2.2.symm.trans h30
            replace hcq : cells + σf.2.2 3001 ≤ mc + σ3.2.2 3001 := by have := hle.1; omega
            replace hsq : slots + σf.2.2 3002 ≤ ms + σ3.2.2 3002 := by have := hle.2; omega
            replace hF : d2_3 + 6 ≤ F := by omega
            replace hLo : 48 * d2_3 + 144 ≤ Lo := by omega
            refine ax_aload_n (pc := 65) C d_CP_literal_65 rfl 0 rfl ?_
            refine cg_0_7_CP_60 (pc := 66) C d_CP_literal_66 ?_
            refine ax_iload_n (pc := 69) C d_CP_literal_69 rfl 1 rfl ?_
            refine ax_iload_n (pc := 70) C d_CP_literal_70 rfl 2 rfl ?_
            replace h := it_b h
            obtain ⟨σ4, r4, d1_4, d2_4, h1, h, hd2, hd1⟩ := h
            replace hle := hG _ _ _ _ (by decide) h1
            dsimp only at hle
            replace hmn : gle2 σ4 σf := g2_use h (g2_if (g2_if (g2_if g2_some g2_none) g2_none) (g2_if (g2_tail hG2) (g2_if (g2_tail hG2) (g2_tail hG2))))
            replace hm : sC_Sto_headOf l D kA u w tx σ3 [x0, x1] (σ4, r4, d1_4) := ihC _ _ tC_Sto_headOf _ _ _ h1
            refine cc_Vi (pc := 71) C (r0 := r4) (σ2 := σ4) (As := [.int x0, .int x1]) (rest := []) (hm _ _ rfl) ml_CP_175 54 rfl rfl rfl d_CP_literal_71 rfl rfl (by dsimp only; omega) (by dsimp only; omega) hcm hsm (Nat.le_of_ble_eq_true rfl) ?_
            replace h30 : σ4.2.2 3000 = 0 := hle.2.2.symm.trans h30
            replace hcq : cells + σf.2.2 3001 ≤ mc + σ4.2.2 3001 := by have := hle.1; omega
            replace hsq : slots + σf.2.2 3002 ≤ ms + σ4.2.2 3002 := by have := hle.2; omega
            replace hF : d2_4 + 6 ≤ F := by omega
            replace hLo : 48 * d2_4 + 144 ≤ Lo := by omega
            refine ax_istore (pc := 74) C d_CP_literal_74 (Nat.le_of_ble_eq_true rfl) ([(4, .int r4), (0, .ref (u 0)), (1, .int x0), (2, .int x1), (3, .int x2)]) rfl ?_
            refine ax_aload_n (pc := 76) C d_CP_literal_76 rfl 1 rfl ?_
            refine cg_0_7_CP_60 (pc := 77) C d_CP_literal_77 ?_
            refine cg_54_0_CP_178 (pc := 80) C d_CP_literal_80 ?_
            refine cg_47_0_CP_110 (pc := 83) C d_CP_literal_83 ?_
            refine ax_astore (pc := 86) C d_CP_literal_86 (Nat.le_of_ble_eq_true rfl) ([(5, .ref (w 48)), (4, .int r4), (0, .ref (u 0)), (1, .int x0), (2, .int x1), (3, .int x2)]) rfl ?_
            refine ax_iload_n (pc := 88) C d_CP_literal_88 rfl 5 rfl ?_
            refine ax_iconst (pc := 89) C 3 d_CP_literal_89 (by decide +kernel) ?_
            refine ax_icmp_ne (pc := 90) C 109 d_CP_literal_90 (by decide) (fun hc => ?_) (fun hc => ?_)
            · replace h := it_f hc h
              refine ax_aload (pc := 109) C d_CP_literal_109 0 rfl ?_
              refine ax_iload (pc := 111) C d_CP_literal_111 1 rfl ?_
              refine ax_iload_n (pc := 113) C d_CP_literal_113 rfl 5 rfl ?_
              refine ax_if_ne (pc := 114) C 121 d_CP_literal_114 (by decide) (fun hc => ?_) (fun hc => ?_)
              · replace h := it_f hc h
                refine ax_iload_n (pc := 121) C d_CP_literal_121 rfl 5 rfl ?_
                refine ax_iconst (pc := 122) C 1 d_CP_literal_122 (by decide +kernel) ?_
                refine ax_icmp_ne (pc := 123) C 130 d_CP_literal_123 (by decide) (fun hc => ?_) (fun hc => ?_)
                · replace h := it_f hc h
                  refine ax_iconst (pc := 130) C 2 d_CP_literal_130 (by decide +kernel) ?_
                  refine ax_ls ([(0, .ref (u 0)), (1, .int x0), (2, .int x1), (3, .int x2), (4, .int r4), (5, .ref (w 48))]) [2, 3, 4, 5, 1, 0] rfl ?_
                  replace hm : sPx2_CP_literal_p131 l D kA u σ4 [x0, x1, x2, r4, 2, r4] (σf, rf, _) := (ihP tP_CP_literal_p131 _ _ _ h).2.1
                  exact hm _ _ _ _ _ _ rfl w tx h30 hn p e s m args below meth c F Lo mc ms cells slots σ0 w0 tx hF hLo hcq hsq hga C hadm htr hex hX hP0
                · replace h := it_t hc h
                  refine ax_iconst (pc := 126) C 1 d_CP_literal_126 (by decide +kernel) ?_
                  refine ax_goto (pc := 127) C 131 d_CP_literal_127 (by decide) ?_
                  refine ax_ls ([(0, .ref (u 0)), (1, .int x0), (2, .int x1), (3, .int x2), (4, .int r4), (5, .ref (w 48))]) [2, 3, 4, 5, 1, 0] rfl ?_
                  replace hm : sPx2_CP_literal_p131 l D kA u σ4 [x0, x1, x2, r4, 1, r4] (σf, rf, _) := (ihP tP_CP_literal_p131 _ _ _ h).2.1
                  exact hm _ _ _ _ _ _ rfl w tx h30 hn p e s m args below meth c F Lo mc ms cells slots σ0 w0 tx hF hLo hcq hsq hga C hadm htr hex hX hP0
              · replace h := it_t hc h
                refine ax_iconst (pc := 117) C 0 d_CP_literal_117 (by decide +kernel) ?_
                refine ax_goto (pc := 118) C 131 d_CP_literal_118 (by decide) ?_
                refine ax_ls ([(0, .ref (u 0)), (1, .int x0), (2, .int x1), (3, .int x2), (4, .int r4), (5, .ref (w 48))]) [2, 3, 4, 5, 1, 0] rfl ?_
                replace hm : sPx2_CP_literal_p131 l D kA u σ4 [x0, x1, x2, r4, 0, r4] (σf, rf, _) := (ihP tP_CP_literal_p131 _ _ _ h).2.1
                exact hm _ _ _ _ _ _ rfl w tx h30 hn p e s m args below meth c F Lo mc ms cells slots σ0 w0 tx hF hLo hcq hsq hga C hadm htr hex hX hP0
            · replace h := it_t hc h
              refine ax_aload (pc := 93) C d_CP_literal_93 0 rfl ?_
              refine ax_iload (pc := 95) C d_CP_literal_95 1 rfl ?_
              refine ax_iconst (pc := 97) C 3 d_CP_literal_97 (by decide +kernel) ?_
              refine ax_iadd (pc := 98) C d_CP_literal_98 ?_
              replace h := it_g h
              obtain ⟨hb, h⟩ := h
              refine cl_48 (pc := 99) C d_CP_literal_99 (bin_in hb) ?_
              refine ax_aload (pc := 100) C d_CP_literal_100 0 rfl ?_
              refine ax_iload (pc := 102) C d_CP_literal_102 1 rfl ?_
              refine ax_iconst (pc := 104) C 4 d_CP_literal_104 (by decide +kernel) ?_
              refine ax_iadd (pc := 105) C d_CP_literal_105 ?_
              replace h := it_g h
              obtain ⟨hb, h⟩ := h
              refine cl_48 (pc := 106) C d_CP_literal_106 (bin_in hb) ?_
              refine ax_iadd (pc := 107) C d_CP_literal_107 ?_
              cases h
              exact absurd (h30.symm.trans hn) (by decide)
          · replace h := it_f hc h
            refine ax_ls ([(0, .ref (u 0)), (1, .int x0), (2, .int x1), (3, .int x2)]) [0, 1, 2, 3] rfl ?_
            replace hm : sPx2_CP_literal_p47 l D kA u σ2 [x0, x1, x2] (σf, rf, _) := (ihP tP_CP_literal_p47 _ _ _ h).2.1
            exact hm _ _ _ rfl w tx h30 hn p e s m args below meth c F Lo mc ms cells slots σ0 w0 tx hF hLo hcq hsq hga C hadm htr hex hX hP0
      · replace h := it_f hc h
        refine ax_ls ([(0, .ref (u 0)), (1, .int x0), (2, .int x1), (3, .int x2)]) [0, 1, 2, 3] rfl ?_
        replace hm : sPx2_CP_literal_p28 l D kA u σ2 [x0, x1, x2] (σf, rf, _) := (ihP tP_CP_literal_p28 _ _ _ h).2.1
        exact hm _ _ _ rfl w tx h30 hn p e s m args below meth c F Lo mc ms cells slots σ0 w0 tx hF hLo hcq hsq hga C hadm htr hex hX hP0
set_option maxHeartbeats 4000000 in
set_option maxRecDepth 100000 in
theorem oPx3_CP_literal (l : Launch) (D : va_G) (kA : Nat → ClassId) (u : Nat → Nat) (rec : mF) (hG : GM rec) (hG2 : GM2 rec) (ihC : ∀ (w : Nat → Nat) (tx : Value) t σ xs res, rec t σ xs = some res → cSem l D kA u w tx t σ xs res) (ih : ∀ t σ xs res, rec t σ xs = some res → gSem l D kA u t σ xs res) (ihP : ∀ t σ xs res, rec t σ xs = some res → pSem l D kA u t σ xs res) (σ : mS) (xs : List Int32) (res : mR) (h : u_3 (kP_CP_literal rec σ) xs = some res) : sPx3_CP_literal l D kA u σ xs res := by
  intro x0 x1 x2 hxs w tx h30 hn
  subst hxs
  obtain ⟨σf, rf, dd⟩ := res
  dsimp only at hn
  have hmn : gle2 σ σf := qP_CP_literal rec hG2 σ x0 x1 x2 _ h
  have h : (bnd (rec tC_Sto_has σ [x0]) (fun σ1 r1 => if r1 = 0 then (rec tP_CP_literal_p28 σ1 [x0, x1, x2]) else (if x1 < 0 then (rec tP_CP_literal_p28 σ1 [x0, x1, x2]) else (bnd (rec tC_Sto_fact σ1 [x0, 3]) (fun σ2 r2 => if x1 < r2 then (if x2 < 0 then (rec tP_CP_literal_p47 σ2 [x0, x1, x2]) else (if x2 ≤ 3 then (bnd (rec tC_Sto_judge σ2 [x0]) (fun σ3 r3 => bnd (rec tC_Sto_headOf σ3 [x0, x1]) (fun σ4 r4 => if x2 = 3 then (if bin ((r4 : Int32) + 3) (σ4.2.2 48) = true then (if bin ((r4 : Int32) + 4) (σ4.2.2 48) = true then (some (σ4, (((σ4.2.1 48 (Int32.toNatClampNeg ((r4 : Int32) + 3))) : Int32) + (σ4.2.1 48 (Int32.toNatClampNeg ((r4 : Int32) + 4)))), 0)) else none) else none) else (if x2 = 0 then (rec tP_CP_literal_p131 σ4 [x0, x1, x2, r4, 0, r4]) else (if x2 = 1 then (rec tP_CP_literal_p131 σ4 [x0, x1, x2, r4, 1, r4]) else (rec tP_CP_literal_p131 σ4 [x0, x1, x2, r4, 2, r4])))))) else (rec tP_CP_literal_p47 σ2 [x0, x1, x2]))) else (rec tP_CP_literal_p28 σ2 [x0, x1, x2])))))) = some (σf, rf, dd) := h
  intro htr
  refine ax_Mx.of (by decide +kernel) (Nat.le_of_ble_eq_true rfl) ?_
  intro p e s m args below meth c C hadm hex hX hP0
  replace C : ax_C p s m args meth c b_CP_literal "ClauseProver" 6 (some .int) D kA (va_A (cpW kA u w tx σ) s.heap.size) := C
  obtain ⟨F, hFe⟩ : ∃ z, z = dd + 6 := ⟨_, rfl⟩
  obtain ⟨Lo, hLoe⟩ : ∃ z, z = 48 * dd + 144 := ⟨_, rfl⟩
  obtain ⟨mc, hmce⟩ : ∃ z, z = σf.2.2 3001 - σ.2.2 3001 := ⟨_, rfl⟩
  obtain ⟨ms, hmse⟩ : ∃ z, z = σf.2.2 3002 - σ.2.2 3002 := ⟨_, rfl⟩
  obtain ⟨σ0, hσ0e⟩ : ∃ z, z = σ := ⟨_, rfl⟩
  obtain ⟨w0, hw0e⟩ : ∃ z, z = w := ⟨_, rfl⟩
  obtain ⟨tx0, htx0e⟩ : ∃ z, z = tx := ⟨_, rfl⟩
  suffices K : ∀ (cells slots : Nat), cells = 0 → slots = 0 → AW p l e { frames := F, cells := mc, slots := ms, locals := Lo } s m args below meth c D kA (va_A (cpW kA u w0 tx0 σ0) s.heap.size) 6 (ax_QX below s D kA (cpW kA u w0 tx0 σ0) mc ms "java/util/NoSuchElementException" (fun w1 => ∃ w2 : Nat → Nat, (∀ i, ([] : List Nat).elem i = false → w2 i = w0 i) ∧ w1 = cpW kA u w2 tx0 σf)) 0 [(0, .ref (u 0)), (1, .int x0), (2, .int x1), (3, .int x2)] [] (cpW kA u w tx σ) cells slots by
    have K := K 0 0 rfl rfl
    rw [hFe, hLoe, hmce, hmse, hσ0e, hw0e, htx0e] at K
    exact ax_ls ([(0, .ref (u 0)), (1, .int x0), (2, .int x1), (3, .int x2)]) [0, 1, 2, 3] rfl K
  replace C : ax_C p s m args meth c b_CP_literal "ClauseProver" 6 (some .int) D kA (va_A (cpW kA u w0 tx0 σ0) s.heap.size) := by rw [hσ0e, hw0e, htx0e]; exact C
  replace hX : ax_X (va_A (cpW kA u w0 tx0 σ0) s.heap.size) s s.heap := by rw [hσ0e, hw0e, htx0e]; exact hX
  replace hP0 : va_P D ax_cl (cpW kA u w0 tx0 σ0) s.heap := by rw [hσ0e, hw0e, htx0e]; exact hP0
  intro cells slots hc0 hs0
  have hcq : cells + σf.2.2 3001 ≤ mc + σ.2.2 3001 := by have := hmn.1; omega
  have hsq : slots + σf.2.2 3002 ≤ ms + σ.2.2 3002 := by have := hmn.2; omega
  have hga : ∀ i, ([] : List Nat).elem i = false → w i = w0 i := fun i _ => by rw [hw0e]
  have e9 : tx = tx0 := htx0e.symm
  subst e9
  have hF : dd + 6 ≤ F := by omega
  have hLo : 48 * dd + 144 ≤ Lo := by omega
  have hcm : cells ≤ mc := by have := hmn.1; omega
  have hsm : slots ≤ ms := by have := hmn.2; omega
  have hle : True := trivial
  have hm : True := trivial
  refine ax_aload_n (pc := 0) C d_CP_literal_0 rfl 0 rfl ?_
  refine cg_0_7_CP_60 (pc := 1) C d_CP_literal_1 ?_
  refine ax_iload_n (pc := 4) C d_CP_literal_4 rfl 1 rfl ?_
  replace h := it_b h
  obtain ⟨σ1, r1, d1_1, d2_1, h1, h, hd2, hd1⟩ := h
  replace hle := hG _ _ _ _ (by decide) h1
  dsimp only at hle
  replace hmn : gle2 σ1 σf := g2_use h (g2_if (g2_tail hG2) (g2_if (g2_tail hG2) (g2_bnd hG2 (fun _ _ => (g2_if (g2_if (g2_tail hG2) (g2_if (g2_bnd hG2 (fun _ _ => (g2_bnd hG2 (fun _ _ => (g2_if (g2_if (g2_if g2_some g2_none) g2_none) (g2_if (g2_tail hG2) (g2_if (g2_tail hG2) (g2_tail hG2)))))))) (g2_tail hG2))) (g2_tail hG2))))))
  replace hm : sC_Sto_has l D kA u w tx σ [x0] (σ1, r1, d1_1) := ihC _ _ tC_Sto_has _ _ _ h1
  refine cc_Vi (pc := 5) C (r0 := r1) (σ2 := σ1) (As := [.int x0]) (rest := []) (hm _ rfl) ml_CP_150 54 rfl rfl rfl d_CP_literal_5 rfl rfl (by dsimp only; omega) (by dsimp only; omega) hcm hsm (Nat.le_of_ble_eq_true rfl) ?_
  replace h30 : σ1.2.2 3000 = 0 := hle.2.2.symm.trans h30
  replace hcq : cells + σf.2.2 3001 ≤ mc + σ1.2.2 3001 := by have := hle.1; omega
  replace hsq : slots + σf.2.2 3002 ≤ ms + σ1.2.2 3002 := by have := hle.2; omega
  replace hF : d2_1 + 6 ≤ F := by omega
  replace hLo : 48 * d2_1 + 144 ≤ Lo := by omega
  refine ax_if_eq (pc := 8) C 28 d_CP_literal_8 (by decide) (fun hc => ?_) (fun hc => ?_)
  · replace h := it_t hc h
    refine ax_ls ([(0, .ref (u 0)), (1, .int x0), (2, .int x1), (3, .int x2)]) [0, 1, 2, 3] rfl ?_
    replace hm : sPx3_CP_literal_p28 l D kA u σ1 [x0, x1, x2] (σf, rf, _) := (ihP tP_CP_literal_p28 _ _ _ h).2.2
    exact hm _ _ _ rfl w tx h30 hn p e s m args below meth c F Lo mc ms cells slots σ0 w0 tx hF hLo hcq hsq hga C hadm htr hex hX hP0
  · replace h := it_f hc h
    refine ax_iload_n (pc := 11) C d_CP_literal_11 rfl 2 rfl ?_
    refine ax_if_lt (pc := 12) C 28 d_CP_literal_12 (by decide) (fun hc => ?_) (fun hc => ?_)
    · replace h := it_t hc h
      refine ax_ls ([(0, .ref (u 0)), (1, .int x0), (2, .int x1), (3, .int x2)]) [0, 1, 2, 3] rfl ?_
      replace hm : sPx3_CP_literal_p28 l D kA u σ1 [x0, x1, x2] (σf, rf, _) := (ihP tP_CP_literal_p28 _ _ _ h).2.2
      exact hm _ _ _ rfl w tx h30 hn p e s m args below meth c F Lo mc ms cells slots σ0 w0 tx hF hLo hcq hsq hga C hadm htr hex hX hP0
    · replace h := it_f hc h
      refine ax_iload_n (pc := 15) C d_CP_literal_15 rfl 2 rfl ?_
      refine ax_aload_n (pc := 16) C d_CP_literal_16 rfl 0 rfl ?_
      refine cg_0_7_CP_60 (pc := 17) C d_CP_literal_17 ?_
      refine ax_iload_n (pc := 20) C d_CP_literal_20 rfl 1 rfl ?_
      refine ax_iconst (pc := 21) C 3 d_CP_literal_21 (by decide +kernel) ?_
      replace h := it_b h
      obtain ⟨σ2, r2, d1_2, d2_2, h1, h, hd2, hd1⟩ := h
      replace hle := hG _ _ _ _ (by decide) h1
      dsimp only at hle
      replace hmn : gle2 σ2 σf := g2_use h (g2_if (g2_if (g2_tail hG2) (g2_if (g2_bnd hG2 (fun _ _ => (g2_bnd hG2 (fun _ _ => (g2_if (g2_if (g2_if g2_some g2_none) g2_none) (g2_if (g2_tail hG2) (g2_if (g2_tail hG2) (g2_tail hG2)))))))) (g2_tail hG2))) (g2_tail hG2))
      replace hm : sC_Sto_fact l D kA u w tx σ1 [x0, 3] (σ2, r2, d1_2) := ihC _ _ tC_Sto_fact _ _ _ h1
      refine cc_Vi (pc := 22) C (r0 := r2) (σ2 := σ2) (As := [.int x0, .int 3]) (rest := [.int x1]) (hm _ _ rfl) ml_CP_161 54 rfl rfl rfl d_CP_literal_22 rfl rfl (by dsimp only; omega) (by dsimp only; omega) hcm hsm (Nat.le_of_ble_eq_true rfl) ?_
      replace h30 : σ2.2.2 3000 = 0 := hle.2.2.symm.trans h30
      replace hcq : cells + σf.2.2 3001 ≤ mc + σ2.2.2 3001 := by have := hle.1; omega
      replace hsq : slots + σf.2.2 3002 ≤ ms + σ2.2.2 3002 := by have := hle.2; omega
      replace hF : d2_2 + 6 ≤ F := by omega
      replace hLo : 48 * d2_2 + 144 ≤ Lo := by omega
      refine ax_icmp_lt (pc := 25) C 38 d_CP_literal_25 (by decide) (fun hc => ?_) (fun hc => ?_)
      · replace h := it_t hc h
        refine ax_iload_n (pc := 38) C d_CP_literal_38 rfl 3 rfl ?_
        refine ax_if_lt (pc := 39) C 47 d_CP_literal_39 (by decide) (fun hc => ?_) (fun hc => ?_)
        · replace h := it_t hc h
          refine ax_ls ([(0, .ref (u 0)), (1, .int x0), (2, .int x1), (3, .int x2)]) [0, 1, 2, 3] rfl ?_
          replace hm : sPx3_CP_literal_p47 l D kA u σ2 [x0, x1, x2] (σf, rf, _) := (ihP tP_CP_literal_p47 _ _ _ h).2.2
          exact hm _ _ _ rfl w tx h30 hn p e s m args below meth c F Lo mc ms cells slots σ0 w0 tx hF hLo hcq hsq hga C hadm htr hex hX hP0
        · replace h := it_f hc h
          refine ax_iload_n (pc := 42) C d_CP_literal_42 rfl 3 rfl ?_
          refine ax_iconst (pc := 43) C 3 d_CP_literal_43 (by decide +kernel) ?_
          refine ax_icmp_le (pc := 44) C 57 d_CP_literal_44 (by decide) (fun hc => ?_) (fun hc => ?_)
          · replace h := it_t hc h
            refine ax_aload_n (pc := 57) C d_CP_literal_57 rfl 0 rfl ?_
            refine cg_0_7_CP_60 (pc := 58) C d_CP_literal_58 ?_
            refine ax_iload_n (pc := 61) C d_CP_literal_61 rfl 1 rfl ?_
            replace h := it_b h
            obtain ⟨σ3, r3, d1_3, d2_3, h1, h, hd2, hd1⟩ := h
            replace hle := hG _ _ _ _ (by decide) h1
            dsimp only at hle
            replace hmn : gle2 σ3 σf := g2_use h (g2_bnd hG2 (fun _ _ => (g2_if (g2_if (g2_if g2_some g2_none) g2_none) (g2_if (g2_tail hG2) (g2_if (g2_tail hG2) (g2_tail hG2))))))
            replace hm : sC_Sto_judge l D kA u w tx σ2 [x0] (σ3, r3, d1_3) := ihC _ _ tC_Sto_judge _ _ _ h1
            refine cc_Vv (pc := 62) C (σ2 := σ3) (As := [.int x0]) (rest := []) (hm _ rfl) ml_CP_172 54 rfl rfl rfl d_CP_literal_62 rfl rfl (by dsimp only; omega) (by dsimp only; omega) hcm hsm (Nat.le_of_ble_eq_true rfl) ?_
            replace h30 : σ3.2.2 3000 = 0 := hle.2.2.symm.trans h30
            replace hcq : cells + σf.2.2 3001 ≤ mc + σ3.2.2 3001 := by have := hle.1; omega
            replace hsq : slots + σf.2.2 3002 ≤ ms + σ3.2.2 3002 := by have := hle.2; omega
            replace hF : d2_3 + 6 ≤ F := by omega
            replace hLo : 48 * d2_3 + 144 ≤ Lo := by omega
            refine ax_aload_n (pc := 65) C d_CP_literal_65 rfl 0 rfl ?_
            refine cg_0_7_CP_60 (pc := 66) C d_CP_literal_66 ?_
            refine ax_iload_n (pc := 69) C d_CP_literal_69 rfl 1 rfl ?_
            refine ax_iload_n (pc := 70) C d_CP_literal_70 rfl 2 rfl ?_
            replace h := it_b h
            obtain ⟨σ4, r4, d1_4, d2_4, h1, h, hd2, hd1⟩ := h
            replace hle := hG _ _ _ _ (by decide) h1
            dsimp only at hle
            replace hmn : gle2 σ4 σf := g2_use h (g2_if (g2_if (g2_if g2_some g2_none) g2_none) (g2_if (g2_tail hG2) (g2_if (g2_tail hG2) (g2_tail hG2))))
            replace hm : sC_Sto_headOf l D kA u w tx σ3 [x0, x1] (σ4, r4, d1_4) := ihC _ _ tC_Sto_headOf _ _ _ h1
            refine cc_Vi (pc := 71) C (r0 := r4) (σ2 := σ4) (As := [.int x0, .int x1]) (rest := []) (hm _ _ rfl) ml_CP_175 54 rfl rfl rfl d_CP_literal_71 rfl rfl (by dsimp only; omega) (by dsimp only; omega) hcm hsm (Nat.le_of_ble_eq_true rfl) ?_
            replace h30 : σ4.2.2 3000 = 0 := hle.2.2.symm.trans h30
            replace hcq : cells + σf.2.2 3001 ≤ mc + σ4.2.2 3001 := by have := hle.1; omega
            replace hsq : slots + σf.2.2 3002 ≤ ms + σ4.2.2 3002 := by have := hle.2; omega
            replace hF : d2_4 + 6 ≤ F := by omega
            replace hLo : 48 * d2_4 + 144 ≤ Lo := by omega
            refine ax_istore (pc := 74) C d_CP_literal_74 (Nat.le_of_ble_eq_true rfl) ([(4, .int r4), (0, .ref (u 0)), (1, .int x0), (2, .int x1), (3, .int x2)]) rfl ?_
            refine ax_aload_n (pc := 76) C d_CP_literal_76 rfl 1 rfl ?_
            refine cg_0_7_CP_60 (pc := 77) C d_CP_literal_77 ?_
            refine cg_54_0_CP_178 (pc := 80) C d_CP_literal_80 ?_
            refine cg_47_0_CP_110 (pc := 83) C d_CP_literal_83 ?_
            refine ax_astore (pc := 86) C d_CP_literal_86 (Nat.le_of_ble_eq_true rfl) ([(5, .ref (w 48)), (4, .int r4), (0, .ref (u 0)), (1, .int x0), (2, .int x1), (3, .int x2)]) rfl ?_
            refine ax_iload_n (pc := 88) C d_CP_literal_88 rfl 5 rfl ?_
            refine ax_iconst (pc := 89) C 3 d_CP_literal_89 (by decide +kernel) ?_
            refine ax_icmp_ne (pc := 90) C 109 d_CP_literal_90 (by decide) (fun hc => ?_) (fun hc => ?_)
            · replace h := it_f hc h
              refine ax_aload (pc := 109) C d_CP_literal_109 0 rfl ?_
              refine ax_iload (pc := 111) C d_CP_literal_111 1 rfl ?_
              refine ax_iload_n (pc := 113) C d_CP_literal_113 rfl 5 rfl ?_
              refine ax_if_ne (pc := 114) C 121 d_CP_literal_114 (by decide) (fun hc => ?_) (fun hc => ?_)
              · replace h := it_f hc h
                refine ax_iload_n (pc := 121) C d_CP_literal_121 rfl 5 rfl ?_
                refine ax_iconst (pc := 122) C 1 d_CP_literal_122 (by decide +kernel) ?_
                refine ax_icmp_ne (pc := 123) C 130 d_CP_literal_123 (by decide) (fun hc => ?_) (fun hc => ?_)
                · replace h := it_f hc h
                  refine ax_iconst (pc := 130) C 2 d_CP_literal_130 (by decide +kernel) ?_
                  refine ax_ls ([(0, .ref (u 0)), (1, .int x0), (2, .int x1), (3, .int x2), (4, .int r4), (5, .ref (w 48))]) [2, 3, 4, 5, 1, 0] rfl ?_
                  replace hm : sPx3_CP_literal_p131 l D kA u σ4 [x0, x1, x2, r4, 2, r4] (σf, rf, _) := (ihP tP_CP_literal_p131 _ _ _ h).2.2
                  exact hm _ _ _ _ _ _ rfl w tx h30 hn p e s m args below meth c F Lo mc ms cells slots σ0 w0 tx hF hLo hcq hsq hga C hadm htr hex hX hP0
                · replace h := it_t hc h
                  refine ax_iconst (pc := 126) C 1 d_CP_literal_126 (by decide +kernel) ?_
                  refine ax_goto (pc := 127) C 131 d_CP_literal_127 (by decide) ?_
                  refine ax_ls ([(0, .ref (u 0)), (1, .int x0), (2, .int x1), (3, .int x2), (4, .int r4), (5, .ref (w 48))]) [2, 3, 4, 5, 1, 0] rfl ?_
                  replace hm : sPx3_CP_literal_p131 l D kA u σ4 [x0, x1, x2, r4, 1, r4] (σf, rf, _) := (ihP tP_CP_literal_p131 _ _ _ h).2.2
                  exact hm _ _ _ _ _ _ rfl w tx h30 hn p e s m args below meth c F Lo mc ms cells slots σ0 w0 tx hF hLo hcq hsq hga C hadm htr hex hX hP0
              · replace h := it_t hc h
                refine ax_iconst (pc := 117) C 0 d_CP_literal_117 (by decide +kernel) ?_
                refine ax_goto (pc := 118) C 131 d_CP_literal_118 (by decide) ?_
                refine ax_ls ([(0, .ref (u 0)), (1, .int x0), (2, .int x1), (3, .int x2), (4, .int r4), (5, .ref (w 48))]) [2, 3, 4, 5, 1, 0] rfl ?_
                replace hm : sPx3_CP_literal_p131 l D kA u σ4 [x0, x1, x2, r4, 0, r4] (σf, rf, _) := (ihP tP_CP_literal_p131 _ _ _ h).2.2
                exact hm _ _ _ _ _ _ rfl w tx h30 hn p e s m args below meth c F Lo mc ms cells slots σ0 w0 tx hF hLo hcq hsq hga C hadm htr hex hX hP0
            · replace h := it_t hc h
              refine ax_aload (pc := 93) C d_CP_literal_93 0 rfl ?_
              refine ax_iload (pc := 95) C d_CP_literal_95 1 rfl ?_
              refine ax_iconst (pc := 97) C 3 d_CP_literal_97 (by decide +kernel) ?_
              refine ax_iadd (pc := 98) C d_CP_literal_98 ?_
              replace h := it_g h
              obtain ⟨hb, h⟩ := h
              refine cl_48 (pc := 99) C d_CP_literal_99 (bin_in hb) ?_
              refine ax_aload (pc := 100) C d_CP_literal_100 0 rfl ?_
              refine ax_iload (pc := 102) C d_CP_literal_102 1 rfl ?_
              refine ax_iconst (pc := 104) C 4 d_CP_literal_104 (by decide +kernel) ?_
              refine ax_iadd (pc := 105) C d_CP_literal_105 ?_
              replace h := it_g h
              obtain ⟨hb, h⟩ := h
              refine cl_48 (pc := 106) C d_CP_literal_106 (bin_in hb) ?_
              refine ax_iadd (pc := 107) C d_CP_literal_107 ?_
              cases h
              exact absurd (h30.symm.trans hn) (by decide)
          · replace h := it_f hc h
            refine ax_ls ([(0, .ref (u 0)), (1, .int x0), (2, .int x1), (3, .int x2)]) [0, 1, 2, 3] rfl ?_
            replace hm : sPx3_CP_literal_p47 l D kA u σ2 [x0, x1, x2] (σf, rf, _) := (ihP tP_CP_literal_p47 _ _ _ h).2.2
            exact hm _ _ _ rfl w tx h30 hn p e s m args below meth c F Lo mc ms cells slots σ0 w0 tx hF hLo hcq hsq hga C hadm htr hex hX hP0
      · replace h := it_f hc h
        refine ax_ls ([(0, .ref (u 0)), (1, .int x0), (2, .int x1), (3, .int x2)]) [0, 1, 2, 3] rfl ?_
        replace hm : sPx3_CP_literal_p28 l D kA u σ2 [x0, x1, x2] (σf, rf, _) := (ihP tP_CP_literal_p28 _ _ _ h).2.2
        exact hm _ _ _ rfl w tx h30 hn p e s m args below meth c F Lo mc ms cells slots σ0 w0 tx hF hLo hcq hsq hga C hadm htr hex hX hP0
set_option maxHeartbeats 4000000 in
set_option maxRecDepth 100000 in
theorem oPn_CP_literal_p28 (l : Launch) (D : va_G) (kA : Nat → ClassId) (u : Nat → Nat) (rec : mF) (hG : GM rec) (hG2 : GM2 rec) (ihC : ∀ (w : Nat → Nat) (tx : Value) t σ xs res, rec t σ xs = some res → cSem l D kA u w tx t σ xs res) (ih : ∀ t σ xs res, rec t σ xs = some res → gSem l D kA u t σ xs res) (ihP : ∀ t σ xs res, rec t σ xs = some res → pSem l D kA u t σ xs res) (σ : mS) (xs : List Int32) (res : mR) (h : u_3 (kP_CP_literal_p28 rec σ) xs = some res) : sPn_CP_literal_p28 l D kA u σ xs res := by
  intro x0 x1 x2 hxs w tx h30 hn
  subst hxs
  obtain ⟨σf, rf, dd⟩ := res
  dsimp only at hn
  have hmn : gle2 σ σf := qP_CP_literal_p28 rec hG2 σ x0 x1 x2 _ h
  have h : (lt_ (mT σ 3) (fun σ99 => some (σ99, 0, 0))) = some (σf, rf, dd) := h
  intro p e s m args below meth c F Lo mc ms cells slots σ0 w0 tx0 hF hLo hcq hsq hga C
  dsimp only at hF hLo hcq hsq ⊢
  have hcm : cells ≤ mc := by have := hmn.1; omega
  have hsm : slots ≤ ms := by have := hmn.2; omega
  have hle : True := trivial
  have hm : True := trivial
  replace h := it_l h
  cases h
  exact absurd hn (by simp [mT, va_up])
set_option maxHeartbeats 4000000 in
set_option maxRecDepth 100000 in
theorem oPx2_CP_literal_p28 (l : Launch) (D : va_G) (kA : Nat → ClassId) (u : Nat → Nat) (rec : mF) (hG : GM rec) (hG2 : GM2 rec) (ihC : ∀ (w : Nat → Nat) (tx : Value) t σ xs res, rec t σ xs = some res → cSem l D kA u w tx t σ xs res) (ih : ∀ t σ xs res, rec t σ xs = some res → gSem l D kA u t σ xs res) (ihP : ∀ t σ xs res, rec t σ xs = some res → pSem l D kA u t σ xs res) (σ : mS) (xs : List Int32) (res : mR) (h : u_3 (kP_CP_literal_p28 rec σ) xs = some res) : sPx2_CP_literal_p28 l D kA u σ xs res := by
  intro x0 x1 x2 hxs w tx h30 hn
  subst hxs
  obtain ⟨σf, rf, dd⟩ := res
  dsimp only at hn
  have hmn : gle2 σ σf := qP_CP_literal_p28 rec hG2 σ x0 x1 x2 _ h
  have h : (lt_ (mT σ 3) (fun σ99 => some (σ99, 0, 0))) = some (σf, rf, dd) := h
  intro p e s m args below meth c F Lo mc ms cells slots σ0 w0 tx0 hF hLo hcq hsq hga C hadm htr hex hX hP0
  dsimp only at hF hLo hcq hsq ⊢
  have hcm : cells ≤ mc := by have := hmn.1; omega
  have hsm : slots ≤ ms := by have := hmn.2; omega
  have hle : True := trivial
  have hm : True := trivial
  replace h := it_l h
  cases h
  exact absurd hn (by simp [mT, va_up])
set_option maxHeartbeats 4000000 in
set_option maxRecDepth 100000 in
theorem oPx3_CP_literal_p28 (l : Launch) (D : va_G) (kA : Nat → ClassId) (u : Nat → Nat) (rec : mF) (hG : GM rec) (hG2 : GM2 rec) (ihC : ∀ (w : Nat → Nat) (tx : Value) t σ xs res, rec t σ xs = some res → cSem l D kA u w tx t σ xs res) (ih : ∀ t σ xs res, rec t σ xs = some res → gSem l D kA u t σ xs res) (ihP : ∀ t σ xs res, rec t σ xs = some res → pSem l D kA u t σ xs res) (σ : mS) (xs : List Int32) (res : mR) (h : u_3 (kP_CP_literal_p28 rec σ) xs = some res) : sPx3_CP_literal_p28 l D kA u σ xs res := by
  intro x0 x1 x2 hxs w tx h30 hn
  subst hxs
  obtain ⟨σf, rf, dd⟩ := res
  dsimp only at hn
  have hmn : gle2 σ σf := qP_CP_literal_p28 rec hG2 σ x0 x1 x2 _ h
  have h : (lt_ (mT σ 3) (fun σ99 => some (σ99, 0, 0))) = some (σf, rf, dd) := h
  intro p e s m args below meth c F Lo mc ms cells slots σ0 w0 tx0 hF hLo hcq hsq hga C hadm htr hex hX hP0
  dsimp only at hF hLo hcq hsq ⊢
  have hcm : cells ≤ mc := by have := hmn.1; omega
  have hsm : slots ≤ ms := by have := hmn.2; omega
  have hle : True := trivial
  have hm : True := trivial
  replace h := it_l h
  cases h
  have e1 : (mT σ 3).2.2 3001 = σ.2.2 3001 + 1 := rfl
  have e2 : (mT σ 3).2.2 3002 = σ.2.2 3002 + 6 := rfl
  rw [e1] at hcq
  rw [e2] at hsq
  refine ax_widen (k := mc - 1) (n := ms - 6) (by omega) (by omega) ?_
  exact ax_throw2 (pc := 28) C hadm htr hex hX hP0 (is := 170) (tx := "no such literal") ta_NSE (by decide +kernel) (by decide) tb_classLink_1290 tb_instantiable_1291 tb_initialized_25 (by decide +kernel) (by decide +kernel) (by decide +kernel) (by decide +kernel) d_CP_literal_28 d_CP_literal_31 d_CP_literal_32 d_CP_literal_34 d_CP_literal_37 (by show 6 ≤ F; omega) (by show 90 ≤ Lo; omega) (by show mc - 1 + 1 ≤ mc; omega) (by show ms - 6 + 6 ≤ ms; omega) (by omega) (by omega) ⟨w, hga, rfl⟩
set_option maxHeartbeats 4000000 in
set_option maxRecDepth 100000 in
theorem oPn_CP_literal_p47 (l : Launch) (D : va_G) (kA : Nat → ClassId) (u : Nat → Nat) (rec : mF) (hG : GM rec) (hG2 : GM2 rec) (ihC : ∀ (w : Nat → Nat) (tx : Value) t σ xs res, rec t σ xs = some res → cSem l D kA u w tx t σ xs res) (ih : ∀ t σ xs res, rec t σ xs = some res → gSem l D kA u t σ xs res) (ihP : ∀ t σ xs res, rec t σ xs = some res → pSem l D kA u t σ xs res) (σ : mS) (xs : List Int32) (res : mR) (h : u_3 (kP_CP_literal_p47 rec σ) xs = some res) : sPn_CP_literal_p47 l D kA u σ xs res := by
  intro x0 x1 x2 hxs w tx h30 hn
  subst hxs
  obtain ⟨σf, rf, dd⟩ := res
  dsimp only at hn
  have hmn : gle2 σ σf := qP_CP_literal_p47 rec hG2 σ x0 x1 x2 _ h
  have h : (lt_ (mT σ 2) (fun σ99 => some (σ99, 0, 0))) = some (σf, rf, dd) := h
  intro p e s m args below meth c F Lo mc ms cells slots σ0 w0 tx0 hF hLo hcq hsq hga C
  dsimp only at hF hLo hcq hsq ⊢
  have hcm : cells ≤ mc := by have := hmn.1; omega
  have hsm : slots ≤ ms := by have := hmn.2; omega
  have hle : True := trivial
  have hm : True := trivial
  replace h := it_l h
  cases h
  exact absurd hn (by simp [mT, va_up])
set_option maxHeartbeats 4000000 in
set_option maxRecDepth 100000 in
theorem oPx2_CP_literal_p47 (l : Launch) (D : va_G) (kA : Nat → ClassId) (u : Nat → Nat) (rec : mF) (hG : GM rec) (hG2 : GM2 rec) (ihC : ∀ (w : Nat → Nat) (tx : Value) t σ xs res, rec t σ xs = some res → cSem l D kA u w tx t σ xs res) (ih : ∀ t σ xs res, rec t σ xs = some res → gSem l D kA u t σ xs res) (ihP : ∀ t σ xs res, rec t σ xs = some res → pSem l D kA u t σ xs res) (σ : mS) (xs : List Int32) (res : mR) (h : u_3 (kP_CP_literal_p47 rec σ) xs = some res) : sPx2_CP_literal_p47 l D kA u σ xs res := by
  intro x0 x1 x2 hxs w tx h30 hn
  subst hxs
  obtain ⟨σf, rf, dd⟩ := res
  dsimp only at hn
  have hmn : gle2 σ σf := qP_CP_literal_p47 rec hG2 σ x0 x1 x2 _ h
  have h : (lt_ (mT σ 2) (fun σ99 => some (σ99, 0, 0))) = some (σf, rf, dd) := h
  intro p e s m args below meth c F Lo mc ms cells slots σ0 w0 tx0 hF hLo hcq hsq hga C hadm htr hex hX hP0
  dsimp only at hF hLo hcq hsq ⊢
  have hcm : cells ≤ mc := by have := hmn.1; omega
  have hsm : slots ≤ ms := by have := hmn.2; omega
  have hle : True := trivial
  have hm : True := trivial
  replace h := it_l h
  cases h
  have e1 : (mT σ 2).2.2 3001 = σ.2.2 3001 + 1 := rfl
  have e2 : (mT σ 2).2.2 3002 = σ.2.2 3002 + 6 := rfl
  rw [e1] at hcq
  rw [e2] at hsq
  refine ax_widen (k := mc - 1) (n := ms - 6) (by omega) (by omega) ?_
  exact ax_throw2 (pc := 47) C hadm htr hex hX hP0 (is := 159) (tx := "no such what") ta_IAE (by decide +kernel) (by decide) tb_classLink_984 tb_instantiable_985 tb_initialized_21 (by decide +kernel) (by decide +kernel) (by decide +kernel) (by decide +kernel) d_CP_literal_47 d_CP_literal_50 d_CP_literal_51 d_CP_literal_53 d_CP_literal_56 (by show 6 ≤ F; omega) (by show 90 ≤ Lo; omega) (by show mc - 1 + 1 ≤ mc; omega) (by show ms - 6 + 6 ≤ ms; omega) (by omega) (by omega) ⟨w, hga, rfl⟩
set_option maxHeartbeats 4000000 in
set_option maxRecDepth 100000 in
theorem oPx3_CP_literal_p47 (l : Launch) (D : va_G) (kA : Nat → ClassId) (u : Nat → Nat) (rec : mF) (hG : GM rec) (hG2 : GM2 rec) (ihC : ∀ (w : Nat → Nat) (tx : Value) t σ xs res, rec t σ xs = some res → cSem l D kA u w tx t σ xs res) (ih : ∀ t σ xs res, rec t σ xs = some res → gSem l D kA u t σ xs res) (ihP : ∀ t σ xs res, rec t σ xs = some res → pSem l D kA u t σ xs res) (σ : mS) (xs : List Int32) (res : mR) (h : u_3 (kP_CP_literal_p47 rec σ) xs = some res) : sPx3_CP_literal_p47 l D kA u σ xs res := by
  intro x0 x1 x2 hxs w tx h30 hn
  subst hxs
  obtain ⟨σf, rf, dd⟩ := res
  dsimp only at hn
  have hmn : gle2 σ σf := qP_CP_literal_p47 rec hG2 σ x0 x1 x2 _ h
  have h : (lt_ (mT σ 2) (fun σ99 => some (σ99, 0, 0))) = some (σf, rf, dd) := h
  intro p e s m args below meth c F Lo mc ms cells slots σ0 w0 tx0 hF hLo hcq hsq hga C hadm htr hex hX hP0
  dsimp only at hF hLo hcq hsq ⊢
  have hcm : cells ≤ mc := by have := hmn.1; omega
  have hsm : slots ≤ ms := by have := hmn.2; omega
  have hle : True := trivial
  have hm : True := trivial
  replace h := it_l h
  cases h
  exact absurd hn (by simp [mT, va_up])
set_option maxHeartbeats 4000000 in
set_option maxRecDepth 100000 in
theorem oPn_CP_literal_p131 (l : Launch) (D : va_G) (kA : Nat → ClassId) (u : Nat → Nat) (rec : mF) (hG : GM rec) (hG2 : GM2 rec) (ihC : ∀ (w : Nat → Nat) (tx : Value) t σ xs res, rec t σ xs = some res → cSem l D kA u w tx t σ xs res) (ih : ∀ t σ xs res, rec t σ xs = some res → gSem l D kA u t σ xs res) (ihP : ∀ t σ xs res, rec t σ xs = some res → pSem l D kA u t σ xs res) (σ : mS) (xs : List Int32) (res : mR) (h : u_6 (kP_CP_literal_p131 rec σ) xs = some res) : sPn_CP_literal_p131 l D kA u σ xs res := by
  intro x0 x1 x2 x3 x4 x5 hxs w tx h30 hn
  subst hxs
  obtain ⟨σf, rf, dd⟩ := res
  dsimp only at hn
  have hmn : gle2 σ σf := qP_CP_literal_p131 rec hG2 σ x0 x1 x2 x3 x4 x5 _ h
  have h : (if bin ((x5 : Int32) + x4) (σ.2.2 48) = true then (some (σ, (σ.2.1 48 (Int32.toNatClampNeg ((x5 : Int32) + x4))), 0)) else none) = some (σf, rf, dd) := h
  intro p e s m args below meth c F Lo mc ms cells slots σ0 w0 tx0 hF hLo hcq hsq hga C
  dsimp only at hF hLo hcq hsq ⊢
  have hcm : cells ≤ mc := by have := hmn.1; omega
  have hsm : slots ≤ ms := by have := hmn.2; omega
  have hle : True := trivial
  have hm : True := trivial
  refine ax_iadd (pc := 131) C d_CP_literal_131 ?_
  replace h := it_g h
  obtain ⟨hb, h⟩ := h
  refine cl_48 (pc := 132) C d_CP_literal_132 (bin_in hb) ?_
  cases h
  exact ax_iret (pc := 133) C d_CP_literal_133 ⟨rfl, w, tx, hga, rfl, rfl⟩ hcm hsm
set_option maxHeartbeats 4000000 in
set_option maxRecDepth 100000 in
theorem oPx2_CP_literal_p131 (l : Launch) (D : va_G) (kA : Nat → ClassId) (u : Nat → Nat) (rec : mF) (hG : GM rec) (hG2 : GM2 rec) (ihC : ∀ (w : Nat → Nat) (tx : Value) t σ xs res, rec t σ xs = some res → cSem l D kA u w tx t σ xs res) (ih : ∀ t σ xs res, rec t σ xs = some res → gSem l D kA u t σ xs res) (ihP : ∀ t σ xs res, rec t σ xs = some res → pSem l D kA u t σ xs res) (σ : mS) (xs : List Int32) (res : mR) (h : u_6 (kP_CP_literal_p131 rec σ) xs = some res) : sPx2_CP_literal_p131 l D kA u σ xs res := by
  intro x0 x1 x2 x3 x4 x5 hxs w tx h30 hn
  subst hxs
  obtain ⟨σf, rf, dd⟩ := res
  dsimp only at hn
  have hmn : gle2 σ σf := qP_CP_literal_p131 rec hG2 σ x0 x1 x2 x3 x4 x5 _ h
  have h : (if bin ((x5 : Int32) + x4) (σ.2.2 48) = true then (some (σ, (σ.2.1 48 (Int32.toNatClampNeg ((x5 : Int32) + x4))), 0)) else none) = some (σf, rf, dd) := h
  intro p e s m args below meth c F Lo mc ms cells slots σ0 w0 tx0 hF hLo hcq hsq hga C hadm htr hex hX hP0
  dsimp only at hF hLo hcq hsq ⊢
  have hcm : cells ≤ mc := by have := hmn.1; omega
  have hsm : slots ≤ ms := by have := hmn.2; omega
  have hle : True := trivial
  have hm : True := trivial
  refine ax_iadd (pc := 131) C d_CP_literal_131 ?_
  replace h := it_g h
  obtain ⟨hb, h⟩ := h
  refine cl_48 (pc := 132) C d_CP_literal_132 (bin_in hb) ?_
  cases h
  exact absurd (h30.symm.trans hn) (by decide)
set_option maxHeartbeats 4000000 in
set_option maxRecDepth 100000 in
theorem oPx3_CP_literal_p131 (l : Launch) (D : va_G) (kA : Nat → ClassId) (u : Nat → Nat) (rec : mF) (hG : GM rec) (hG2 : GM2 rec) (ihC : ∀ (w : Nat → Nat) (tx : Value) t σ xs res, rec t σ xs = some res → cSem l D kA u w tx t σ xs res) (ih : ∀ t σ xs res, rec t σ xs = some res → gSem l D kA u t σ xs res) (ihP : ∀ t σ xs res, rec t σ xs = some res → pSem l D kA u t σ xs res) (σ : mS) (xs : List Int32) (res : mR) (h : u_6 (kP_CP_literal_p131 rec σ) xs = some res) : sPx3_CP_literal_p131 l D kA u σ xs res := by
  intro x0 x1 x2 x3 x4 x5 hxs w tx h30 hn
  subst hxs
  obtain ⟨σf, rf, dd⟩ := res
  dsimp only at hn
  have hmn : gle2 σ σf := qP_CP_literal_p131 rec hG2 σ x0 x1 x2 x3 x4 x5 _ h
  have h : (if bin ((x5 : Int32) + x4) (σ.2.2 48) = true then (some (σ, (σ.2.1 48 (Int32.toNatClampNeg ((x5 : Int32) + x4))), 0)) else none) = some (σf, rf, dd) := h
  intro p e s m args below meth c F Lo mc ms cells slots σ0 w0 tx0 hF hLo hcq hsq hga C hadm htr hex hX hP0
  dsimp only at hF hLo hcq hsq ⊢
  have hcm : cells ≤ mc := by have := hmn.1; omega
  have hsm : slots ≤ ms := by have := hmn.2; omega
  have hle : True := trivial
  have hm : True := trivial
  refine ax_iadd (pc := 131) C d_CP_literal_131 ?_
  replace h := it_g h
  obtain ⟨hb, h⟩ := h
  refine cl_48 (pc := 132) C d_CP_literal_132 (bin_in hb) ?_
  cases h
  exact absurd (h30.symm.trans hn) (by decide)
set_option maxHeartbeats 4000000 in
set_option maxRecDepth 100000 in
theorem oPn_CP_look (l : Launch) (D : va_G) (kA : Nat → ClassId) (u : Nat → Nat) (rec : mF) (hG : GM rec) (hG2 : GM2 rec) (ihC : ∀ (w : Nat → Nat) (tx : Value) t σ xs res, rec t σ xs = some res → cSem l D kA u w tx t σ xs res) (ih : ∀ t σ xs res, rec t σ xs = some res → gSem l D kA u t σ xs res) (ihP : ∀ t σ xs res, rec t σ xs = some res → pSem l D kA u t σ xs res) (σ : mS) (xs : List Int32) (res : mR) (h : u_2 (kP_CP_look rec σ) xs = some res) : sPn_CP_look l D kA u σ xs res := by
  intro x0 x1 hxs w tx h30 hn
  subst hxs
  obtain ⟨σf, rf, dd⟩ := res
  dsimp only at hn
  have hmn : gle2 σ σf := qP_CP_look rec hG2 σ x0 x1 _ h
  have h : (if x1 < 1 then (rec tP_CP_look_p10 σ [x0, x1]) else (if x1 ≤ 3 then (bnd (rec tC_Mod_suitsText σ [x0, x1]) (fun σ1 r1 => if r1 = 0 then (some (σ1, (-1), 0)) else (rec tP_CP_look_p46 σ1 [x0, x1, 0, (σ1.1 5403)]))) else (rec tP_CP_look_p10 σ [x0, x1]))) = some (σf, rf, dd) := h
  refine ax_Mi.of (by decide +kernel) (Nat.le_of_ble_eq_true rfl) ?_
  intro p e s m args below meth c C hnm
  replace C : ax_C p s m args meth c b_CP_look "ClauseProver" 5 (some .int) D kA (va_A (cpW kA u w tx σ) s.heap.size) := C
  obtain ⟨F, hFe⟩ : ∃ z, z = dd + 3 := ⟨_, rfl⟩
  obtain ⟨Lo, hLoe⟩ : ∃ z, z = 48 * dd + 144 := ⟨_, rfl⟩
  obtain ⟨mc, hmce⟩ : ∃ z, z = σf.2.2 3001 - σ.2.2 3001 := ⟨_, rfl⟩
  obtain ⟨ms, hmse⟩ : ∃ z, z = σf.2.2 3002 - σ.2.2 3002 := ⟨_, rfl⟩
  obtain ⟨σ0, hσ0e⟩ : ∃ z, z = σ := ⟨_, rfl⟩
  obtain ⟨w0, hw0e⟩ : ∃ z, z = w := ⟨_, rfl⟩
  obtain ⟨tx0, htx0e⟩ : ∃ z, z = tx := ⟨_, rfl⟩
  suffices K : ∀ (cells slots : Nat), cells = 0 → slots = 0 → AW p l e { frames := F, cells := mc, slots := ms, locals := Lo } s m args below meth c D kA (va_A (cpW kA u w0 tx0 σ0) s.heap.size) 5 (ax_Qi below args s D kA (cpW kA u w0 tx0 σ0) mc ms (fun r w1 => r = rf ∧ ∃ (w2 : Nat → Nat) (tx2 : Value), (∀ i, ([] : List Nat).elem i = false → w2 i = w0 i) ∧ tx2 = tx0 ∧ w1 = cpW kA u w2 tx2 σf)) 0 [(0, .ref (u 0)), (1, .int x0), (2, .int x1)] [] (cpW kA u w tx σ) cells slots by
    have K := K 0 0 rfl rfl
    rw [hFe, hLoe, hmce, hmse, hσ0e, hw0e, htx0e] at K
    exact ax_ls ([(0, .ref (u 0)), (1, .int x0), (2, .int x1)]) [0, 1, 2] rfl K
  replace C : ax_C p s m args meth c b_CP_look "ClauseProver" 5 (some .int) D kA (va_A (cpW kA u w0 tx0 σ0) s.heap.size) := by rw [hσ0e, hw0e, htx0e]; exact C
  intro cells slots hc0 hs0
  have hcq : cells + σf.2.2 3001 ≤ mc + σ.2.2 3001 := by have := hmn.1; omega
  have hsq : slots + σf.2.2 3002 ≤ ms + σ.2.2 3002 := by have := hmn.2; omega
  have hga : ∀ i, ([] : List Nat).elem i = false → w i = w0 i := fun i _ => by rw [hw0e]
  have e9 : tx = tx0 := htx0e.symm
  subst e9
  have hF : dd + 3 ≤ F := by omega
  have hLo : 48 * dd + 144 ≤ Lo := by omega
  have hcm : cells ≤ mc := by have := hmn.1; omega
  have hsm : slots ≤ ms := by have := hmn.2; omega
  have hle : True := trivial
  have hm : True := trivial
  refine ax_iload_n (pc := 0) C d_CP_look_0 rfl 2 rfl ?_
  refine ax_iconst (pc := 1) C 1 d_CP_look_1 (by decide +kernel) ?_
  refine ax_icmp_lt (pc := 2) C 10 d_CP_look_2 (by decide) (fun hc => ?_) (fun hc => ?_)
  · replace h := it_t hc h
    refine ax_ls ([(0, .ref (u 0)), (1, .int x0), (2, .int x1)]) [0, 1, 2] rfl ?_
    replace hm : sPn_CP_look_p10 l D kA u σ [x0, x1] (σf, rf, _) := (ihP tP_CP_look_p10 _ _ _ h).1
    exact hm _ _ rfl w tx h30 hn p e s m args below meth c F Lo mc ms cells slots σ0 w0 tx hF hLo hcq hsq hga C
  · replace h := it_f hc h
    refine ax_iload_n (pc := 5) C d_CP_look_5 rfl 2 rfl ?_
    refine ax_iconst (pc := 6) C 3 d_CP_look_6 (by decide +kernel) ?_
    refine ax_icmp_le (pc := 7) C 21 d_CP_look_7 (by decide) (fun hc => ?_) (fun hc => ?_)
    · replace h := it_t hc h
      refine ax_aload_n (pc := 21) C d_CP_look_21 rfl 0 rfl ?_
      refine cg_0_9_CP_78 (pc := 22) C d_CP_look_22 ?_
      refine ax_iload_n (pc := 25) C d_CP_look_25 rfl 1 rfl ?_
      refine ax_iload_n (pc := 26) C d_CP_look_26 rfl 2 rfl ?_
      replace h := it_b h
      obtain ⟨σ1, r1, d1_1, d2_1, h1, h, hd2, hd1⟩ := h
      replace hle := hG _ _ _ _ (by decide) h1
      dsimp only at hle
      replace hmn : gle2 σ1 σf := g2_use h (g2_if g2_some (g2_tail hG2))
      replace hm : sC_Mod_suitsText l D kA u w tx σ [x0, x1] (σ1, r1, d1_1) := ihC _ _ tC_Mod_suitsText _ _ _ h1
      refine cc_Vi (pc := 27) C (r0 := r1) (σ2 := σ1) (As := [.int x0, .int x1]) (rest := []) (hm _ _ rfl) ml_CP_271 69 rfl rfl rfl d_CP_look_27 rfl rfl (by dsimp only; omega) (by dsimp only; omega) hcm hsm (Nat.le_of_ble_eq_true rfl) ?_
      replace h30 : σ1.2.2 3000 = 0 := hle.2.2.symm.trans h30
      replace hcq : cells + σf.2.2 3001 ≤ mc + σ1.2.2 3001 := by have := hle.1; omega
      replace hsq : slots + σf.2.2 3002 ≤ ms + σ1.2.2 3002 := by have := hle.2; omega
      replace hF : d2_1 + 3 ≤ F := by omega
      replace hLo : 48 * d2_1 + 144 ≤ Lo := by omega
      refine ax_if_ne (pc := 30) C 35 d_CP_look_30 (by decide) (fun hc => ?_) (fun hc => ?_)
      · replace h := it_f hc h
        refine ax_iconst (pc := 35) C 0 d_CP_look_35 (by decide +kernel) ?_
        refine ax_istore_n (pc := 36) C d_CP_look_36 rfl (Nat.le_of_ble_eq_true rfl) ([(3, .int 0), (0, .ref (u 0)), (1, .int x0), (2, .int x1)]) rfl ?_
        refine ax_aload_n (pc := 37) C d_CP_look_37 rfl 1 rfl ?_
        refine cg_0_7_CP_60 (pc := 38) C d_CP_look_38 ?_
        refine cg_54_3_CP_135 (pc := 41) C d_CP_look_41 ?_
        refine ax_istore (pc := 44) C d_CP_look_44 (Nat.le_of_ble_eq_true rfl) ([(4, .int (σ1.1 5403)), (3, .int 0), (0, .ref (u 0)), (1, .int x0), (2, .int x1)]) rfl ?_
        refine ax_ls ([(0, .ref (u 0)), (1, .int x0), (2, .int x1), (3, .int 0), (4, .int (σ1.1 5403))]) [2, 3, 4, 1, 0] rfl ?_
        replace hm : sPn_CP_look_p46 l D kA u σ1 [x0, x1, 0, (σ1.1 5403)] (σf, rf, _) := (ihP tP_CP_look_p46 _ _ _ h).1
        exact hm _ _ _ _ rfl w tx h30 hn p e s m args below meth c F Lo mc ms cells slots σ0 w0 tx hF hLo hcq hsq hga C
      · replace h := it_t hc h
        refine ax_iconst (pc := 33) C (-1) d_CP_look_33 (by decide +kernel) ?_
        cases h
        exact ax_iret (pc := 34) C d_CP_look_34 ⟨rfl, w, tx, hga, rfl, rfl⟩ hcm hsm
    · replace h := it_f hc h
      refine ax_ls ([(0, .ref (u 0)), (1, .int x0), (2, .int x1)]) [0, 1, 2] rfl ?_
      replace hm : sPn_CP_look_p10 l D kA u σ [x0, x1] (σf, rf, _) := (ihP tP_CP_look_p10 _ _ _ h).1
      exact hm _ _ rfl w tx h30 hn p e s m args below meth c F Lo mc ms cells slots σ0 w0 tx hF hLo hcq hsq hga C
set_option maxHeartbeats 4000000 in
set_option maxRecDepth 100000 in
theorem oPx2_CP_look (l : Launch) (D : va_G) (kA : Nat → ClassId) (u : Nat → Nat) (rec : mF) (hG : GM rec) (hG2 : GM2 rec) (ihC : ∀ (w : Nat → Nat) (tx : Value) t σ xs res, rec t σ xs = some res → cSem l D kA u w tx t σ xs res) (ih : ∀ t σ xs res, rec t σ xs = some res → gSem l D kA u t σ xs res) (ihP : ∀ t σ xs res, rec t σ xs = some res → pSem l D kA u t σ xs res) (σ : mS) (xs : List Int32) (res : mR) (h : u_2 (kP_CP_look rec σ) xs = some res) : sPx2_CP_look l D kA u σ xs res := by
  intro x0 x1 hxs w tx h30 hn
  subst hxs
  obtain ⟨σf, rf, dd⟩ := res
  dsimp only at hn
  have hmn : gle2 σ σf := qP_CP_look rec hG2 σ x0 x1 _ h
  have h : (if x1 < 1 then (rec tP_CP_look_p10 σ [x0, x1]) else (if x1 ≤ 3 then (bnd (rec tC_Mod_suitsText σ [x0, x1]) (fun σ1 r1 => if r1 = 0 then (some (σ1, (-1), 0)) else (rec tP_CP_look_p46 σ1 [x0, x1, 0, (σ1.1 5403)]))) else (rec tP_CP_look_p10 σ [x0, x1]))) = some (σf, rf, dd) := h
  intro htr
  refine ax_Mx.of (by decide +kernel) (Nat.le_of_ble_eq_true rfl) ?_
  intro p e s m args below meth c C hadm hex hX hP0
  replace C : ax_C p s m args meth c b_CP_look "ClauseProver" 5 (some .int) D kA (va_A (cpW kA u w tx σ) s.heap.size) := C
  obtain ⟨F, hFe⟩ : ∃ z, z = dd + 6 := ⟨_, rfl⟩
  obtain ⟨Lo, hLoe⟩ : ∃ z, z = 48 * dd + 144 := ⟨_, rfl⟩
  obtain ⟨mc, hmce⟩ : ∃ z, z = σf.2.2 3001 - σ.2.2 3001 := ⟨_, rfl⟩
  obtain ⟨ms, hmse⟩ : ∃ z, z = σf.2.2 3002 - σ.2.2 3002 := ⟨_, rfl⟩
  obtain ⟨σ0, hσ0e⟩ : ∃ z, z = σ := ⟨_, rfl⟩
  obtain ⟨w0, hw0e⟩ : ∃ z, z = w := ⟨_, rfl⟩
  obtain ⟨tx0, htx0e⟩ : ∃ z, z = tx := ⟨_, rfl⟩
  suffices K : ∀ (cells slots : Nat), cells = 0 → slots = 0 → AW p l e { frames := F, cells := mc, slots := ms, locals := Lo } s m args below meth c D kA (va_A (cpW kA u w0 tx0 σ0) s.heap.size) 5 (ax_QX below s D kA (cpW kA u w0 tx0 σ0) mc ms "java/lang/IllegalArgumentException" (fun w1 => ∃ w2 : Nat → Nat, (∀ i, ([] : List Nat).elem i = false → w2 i = w0 i) ∧ w1 = cpW kA u w2 tx0 σf)) 0 [(0, .ref (u 0)), (1, .int x0), (2, .int x1)] [] (cpW kA u w tx σ) cells slots by
    have K := K 0 0 rfl rfl
    rw [hFe, hLoe, hmce, hmse, hσ0e, hw0e, htx0e] at K
    exact ax_ls ([(0, .ref (u 0)), (1, .int x0), (2, .int x1)]) [0, 1, 2] rfl K
  replace C : ax_C p s m args meth c b_CP_look "ClauseProver" 5 (some .int) D kA (va_A (cpW kA u w0 tx0 σ0) s.heap.size) := by rw [hσ0e, hw0e, htx0e]; exact C
  replace hX : ax_X (va_A (cpW kA u w0 tx0 σ0) s.heap.size) s s.heap := by rw [hσ0e, hw0e, htx0e]; exact hX
  replace hP0 : va_P D ax_cl (cpW kA u w0 tx0 σ0) s.heap := by rw [hσ0e, hw0e, htx0e]; exact hP0
  intro cells slots hc0 hs0
  have hcq : cells + σf.2.2 3001 ≤ mc + σ.2.2 3001 := by have := hmn.1; omega
  have hsq : slots + σf.2.2 3002 ≤ ms + σ.2.2 3002 := by have := hmn.2; omega
  have hga : ∀ i, ([] : List Nat).elem i = false → w i = w0 i := fun i _ => by rw [hw0e]
  have e9 : tx = tx0 := htx0e.symm
  subst e9
  have hF : dd + 6 ≤ F := by omega
  have hLo : 48 * dd + 144 ≤ Lo := by omega
  have hcm : cells ≤ mc := by have := hmn.1; omega
  have hsm : slots ≤ ms := by have := hmn.2; omega
  have hle : True := trivial
  have hm : True := trivial
  refine ax_iload_n (pc := 0) C d_CP_look_0 rfl 2 rfl ?_
  refine ax_iconst (pc := 1) C 1 d_CP_look_1 (by decide +kernel) ?_
  refine ax_icmp_lt (pc := 2) C 10 d_CP_look_2 (by decide) (fun hc => ?_) (fun hc => ?_)
  · replace h := it_t hc h
    refine ax_ls ([(0, .ref (u 0)), (1, .int x0), (2, .int x1)]) [0, 1, 2] rfl ?_
    replace hm : sPx2_CP_look_p10 l D kA u σ [x0, x1] (σf, rf, _) := (ihP tP_CP_look_p10 _ _ _ h).2
    exact hm _ _ rfl w tx h30 hn p e s m args below meth c F Lo mc ms cells slots σ0 w0 tx hF hLo hcq hsq hga C hadm htr hex hX hP0
  · replace h := it_f hc h
    refine ax_iload_n (pc := 5) C d_CP_look_5 rfl 2 rfl ?_
    refine ax_iconst (pc := 6) C 3 d_CP_look_6 (by decide +kernel) ?_
    refine ax_icmp_le (pc := 7) C 21 d_CP_look_7 (by decide) (fun hc => ?_) (fun hc => ?_)
    · replace h := it_t hc h
      refine ax_aload_n (pc := 21) C d_CP_look_21 rfl 0 rfl ?_
      refine cg_0_9_CP_78 (pc := 22) C d_CP_look_22 ?_
      refine ax_iload_n (pc := 25) C d_CP_look_25 rfl 1 rfl ?_
      refine ax_iload_n (pc := 26) C d_CP_look_26 rfl 2 rfl ?_
      replace h := it_b h
      obtain ⟨σ1, r1, d1_1, d2_1, h1, h, hd2, hd1⟩ := h
      replace hle := hG _ _ _ _ (by decide) h1
      dsimp only at hle
      replace hmn : gle2 σ1 σf := g2_use h (g2_if g2_some (g2_tail hG2))
      replace hm : sC_Mod_suitsText l D kA u w tx σ [x0, x1] (σ1, r1, d1_1) := ihC _ _ tC_Mod_suitsText _ _ _ h1
      refine cc_Vi (pc := 27) C (r0 := r1) (σ2 := σ1) (As := [.int x0, .int x1]) (rest := []) (hm _ _ rfl) ml_CP_271 69 rfl rfl rfl d_CP_look_27 rfl rfl (by dsimp only; omega) (by dsimp only; omega) hcm hsm (Nat.le_of_ble_eq_true rfl) ?_
      replace h30 : σ1.2.2 3000 = 0 := hle.2.2.symm.trans h30
      replace hcq : cells + σf.2.2 3001 ≤ mc + σ1.2.2 3001 := by have := hle.1; omega
      replace hsq : slots + σf.2.2 3002 ≤ ms + σ1.2.2 3002 := by have := hle.2; omega
      replace hF : d2_1 + 6 ≤ F := by omega
      replace hLo : 48 * d2_1 + 144 ≤ Lo := by omega
      refine ax_if_ne (pc := 30) C 35 d_CP_look_30 (by decide) (fun hc => ?_) (fun hc => ?_)
      · replace h := it_f hc h
        refine ax_iconst (pc := 35) C 0 d_CP_look_35 (by decide +kernel) ?_
        refine ax_istore_n (pc := 36) C d_CP_look_36 rfl (Nat.le_of_ble_eq_true rfl) ([(3, .int 0), (0, .ref (u 0)), (1, .int x0), (2, .int x1)]) rfl ?_
        refine ax_aload_n (pc := 37) C d_CP_look_37 rfl 1 rfl ?_
        refine cg_0_7_CP_60 (pc := 38) C d_CP_look_38 ?_
        refine cg_54_3_CP_135 (pc := 41) C d_CP_look_41 ?_
        refine ax_istore (pc := 44) C d_CP_look_44 (Nat.le_of_ble_eq_true rfl) ([(4, .int (σ1.1 5403)), (3, .int 0), (0, .ref (u 0)), (1, .int x0), (2, .int x1)]) rfl ?_
        refine ax_ls ([(0, .ref (u 0)), (1, .int x0), (2, .int x1), (3, .int 0), (4, .int (σ1.1 5403))]) [2, 3, 4, 1, 0] rfl ?_
        replace hm : sPx2_CP_look_p46 l D kA u σ1 [x0, x1, 0, (σ1.1 5403)] (σf, rf, _) := (ihP tP_CP_look_p46 _ _ _ h).2
        exact hm _ _ _ _ rfl w tx h30 hn p e s m args below meth c F Lo mc ms cells slots σ0 w0 tx hF hLo hcq hsq hga C hadm htr hex hX hP0
      · replace h := it_t hc h
        refine ax_iconst (pc := 33) C (-1) d_CP_look_33 (by decide +kernel) ?_
        cases h
        exact absurd (h30.symm.trans hn) (by decide)
    · replace h := it_f hc h
      refine ax_ls ([(0, .ref (u 0)), (1, .int x0), (2, .int x1)]) [0, 1, 2] rfl ?_
      replace hm : sPx2_CP_look_p10 l D kA u σ [x0, x1] (σf, rf, _) := (ihP tP_CP_look_p10 _ _ _ h).2
      exact hm _ _ rfl w tx h30 hn p e s m args below meth c F Lo mc ms cells slots σ0 w0 tx hF hLo hcq hsq hga C hadm htr hex hX hP0
set_option maxHeartbeats 4000000 in
set_option maxRecDepth 100000 in
theorem oPn_CP_look_p10 (l : Launch) (D : va_G) (kA : Nat → ClassId) (u : Nat → Nat) (rec : mF) (hG : GM rec) (hG2 : GM2 rec) (ihC : ∀ (w : Nat → Nat) (tx : Value) t σ xs res, rec t σ xs = some res → cSem l D kA u w tx t σ xs res) (ih : ∀ t σ xs res, rec t σ xs = some res → gSem l D kA u t σ xs res) (ihP : ∀ t σ xs res, rec t σ xs = some res → pSem l D kA u t σ xs res) (σ : mS) (xs : List Int32) (res : mR) (h : u_2 (kP_CP_look_p10 rec σ) xs = some res) : sPn_CP_look_p10 l D kA u σ xs res := by
  intro x0 x1 hxs w tx h30 hn
  subst hxs
  obtain ⟨σf, rf, dd⟩ := res
  dsimp only at hn
  have hmn : gle2 σ σf := qP_CP_look_p10 rec hG2 σ x0 x1 _ h
  have h : (lt_ (mT σ 2) (fun σ99 => some (σ99, 0, 0))) = some (σf, rf, dd) := h
  intro p e s m args below meth c F Lo mc ms cells slots σ0 w0 tx0 hF hLo hcq hsq hga C
  dsimp only at hF hLo hcq hsq ⊢
  have hcm : cells ≤ mc := by have := hmn.1; omega
  have hsm : slots ≤ ms := by have := hmn.2; omega
  have hle : True := trivial
  have hm : True := trivial
  replace h := it_l h
  cases h
  exact absurd hn (by simp [mT, va_up])
set_option maxHeartbeats 4000000 in
set_option maxRecDepth 100000 in
theorem oPx2_CP_look_p10 (l : Launch) (D : va_G) (kA : Nat → ClassId) (u : Nat → Nat) (rec : mF) (hG : GM rec) (hG2 : GM2 rec) (ihC : ∀ (w : Nat → Nat) (tx : Value) t σ xs res, rec t σ xs = some res → cSem l D kA u w tx t σ xs res) (ih : ∀ t σ xs res, rec t σ xs = some res → gSem l D kA u t σ xs res) (ihP : ∀ t σ xs res, rec t σ xs = some res → pSem l D kA u t σ xs res) (σ : mS) (xs : List Int32) (res : mR) (h : u_2 (kP_CP_look_p10 rec σ) xs = some res) : sPx2_CP_look_p10 l D kA u σ xs res := by
  intro x0 x1 hxs w tx h30 hn
  subst hxs
  obtain ⟨σf, rf, dd⟩ := res
  dsimp only at hn
  have hmn : gle2 σ σf := qP_CP_look_p10 rec hG2 σ x0 x1 _ h
  have h : (lt_ (mT σ 2) (fun σ99 => some (σ99, 0, 0))) = some (σf, rf, dd) := h
  intro p e s m args below meth c F Lo mc ms cells slots σ0 w0 tx0 hF hLo hcq hsq hga C hadm htr hex hX hP0
  dsimp only at hF hLo hcq hsq ⊢
  have hcm : cells ≤ mc := by have := hmn.1; omega
  have hsm : slots ≤ ms := by have := hmn.2; omega
  have hle : True := trivial
  have hm : True := trivial
  replace h := it_l h
  cases h
  have e1 : (mT σ 2).2.2 3001 = σ.2.2 3001 + 1 := rfl
  have e2 : (mT σ 2).2.2 3002 = σ.2.2 3002 + 6 := rfl
  rw [e1] at hcq
  rw [e2] at hsq
  refine ax_widen (k := mc - 1) (n := ms - 6) (by omega) (by omega) ?_
  exact ax_throw3 (pc := 10) C hadm htr hex hX hP0 (is := 269) (tx := "not 1 .. 3 elements") ta_IAE (by decide +kernel) (by decide) tb_classLink_984 tb_instantiable_985 tb_initialized_21 (by decide +kernel) (by decide +kernel) (by decide +kernel) (by decide +kernel) d_CP_look_10 d_CP_look_13 d_CP_look_14 d_CP_look_17 d_CP_look_20 (by show 6 ≤ F; omega) (by show 90 ≤ Lo; omega) (by show mc - 1 + 1 ≤ mc; omega) (by show ms - 6 + 6 ≤ ms; omega) (by omega) (by omega) ⟨w, hga, rfl⟩
set_option maxHeartbeats 4000000 in
set_option maxRecDepth 100000 in
theorem oPn_CP_look_p46 (l : Launch) (D : va_G) (kA : Nat → ClassId) (u : Nat → Nat) (rec : mF) (hG : GM rec) (hG2 : GM2 rec) (ihC : ∀ (w : Nat → Nat) (tx : Value) t σ xs res, rec t σ xs = some res → cSem l D kA u w tx t σ xs res) (ih : ∀ t σ xs res, rec t σ xs = some res → gSem l D kA u t σ xs res) (ihP : ∀ t σ xs res, rec t σ xs = some res → pSem l D kA u t σ xs res) (σ : mS) (xs : List Int32) (res : mR) (h : u_4 (kP_CP_look_p46 rec σ) xs = some res) : sPn_CP_look_p46 l D kA u σ xs res := by
  intro x0 x1 x2 x3 hxs w tx h30 hn
  subst hxs
  obtain ⟨σf, rf, dd⟩ := res
  dsimp only at hn
  have hmn : gle2 σ σf := qP_CP_look_p46 rec hG2 σ x0 x1 x2 x3 _ h
  have h : (if (σ.1 5402) ≤ x3 then (some (σ, x2, 0)) else (bnd (rec tC_Mod_makesTrue σ [x3]) (fun σ1 r1 => if r1 = 0 then (rec tP_CP_look_p73 σ1 [x0, x1, (x2 + 1), x3]) else (rec tP_CP_look_p73 σ1 [x0, x1, x2, x3])))) = some (σf, rf, dd) := h
  intro p e s m args below meth c F Lo mc ms cells slots σ0 w0 tx0 hF hLo hcq hsq hga C
  dsimp only at hF hLo hcq hsq ⊢
  have hcm : cells ≤ mc := by have := hmn.1; omega
  have hsm : slots ≤ ms := by have := hmn.2; omega
  have hle : True := trivial
  have hm : True := trivial
  refine ax_iload (pc := 46) C d_CP_look_46 4 rfl ?_
  refine ax_aload_n (pc := 48) C d_CP_look_48 rfl 0 rfl ?_
  refine cg_0_7_CP_60 (pc := 49) C d_CP_look_49 ?_
  refine cg_54_2_CP_134 (pc := 52) C d_CP_look_52 ?_
  refine ax_icmp_ge (pc := 55) C 79 d_CP_look_55 (by decide) (fun hc => ?_) (fun hc => ?_)
  · replace h := it_t hc h
    refine ax_iload_n (pc := 79) C d_CP_look_79 rfl 3 rfl ?_
    cases h
    exact ax_iret (pc := 80) C d_CP_look_80 ⟨rfl, w, tx, hga, rfl, rfl⟩ hcm hsm
  · replace h := it_f hc h
    refine ax_aload_n (pc := 58) C d_CP_look_58 rfl 0 rfl ?_
    refine cg_0_9_CP_78 (pc := 59) C d_CP_look_59 ?_
    refine ax_iload (pc := 62) C d_CP_look_62 4 rfl ?_
    replace h := it_b h
    obtain ⟨σ1, r1, d1_1, d2_1, h1, h, hd2, hd1⟩ := h
    replace hle := hG _ _ _ _ (by decide) h1
    dsimp only at hle
    replace hmn : gle2 σ1 σf := g2_use h (g2_if (g2_tail hG2) (g2_tail hG2))
    replace hm : sC_Mod_makesTrue l D kA u w tx σ [x3] (σ1, r1, d1_1) := ihC _ _ tC_Mod_makesTrue _ _ _ h1
    refine cc_Vi (pc := 64) C (r0 := r1) (σ2 := σ1) (As := [.int x3]) (rest := []) (hm _ rfl) ml_CP_275 69 rfl rfl rfl d_CP_look_64 rfl rfl (by dsimp only; omega) (by dsimp only; omega) hcm hsm (Nat.le_of_ble_eq_true rfl) ?_
    replace h30 : σ1.2.2 3000 = 0 := hle.2.2.symm.trans h30
    replace hcq : cells + σf.2.2 3001 ≤ mc + σ1.2.2 3001 := by have := hle.1; omega
    replace hsq : slots + σf.2.2 3002 ≤ ms + σ1.2.2 3002 := by have := hle.2; omega
    replace hF : d2_1 + 3 ≤ F := by omega
    replace hLo : 48 * d2_1 + 144 ≤ Lo := by omega
    refine ax_if_ne (pc := 67) C 73 d_CP_look_67 (by decide) (fun hc => ?_) (fun hc => ?_)
    · replace h := it_f hc h
      refine ax_ls ([(0, .ref (u 0)), (1, .int x0), (2, .int x1), (3, .int x2), (4, .int x3)]) [0, 1, 2, 3, 4] rfl ?_
      replace hm : sPn_CP_look_p73 l D kA u σ1 [x0, x1, x2, x3] (σf, rf, _) := (ihP tP_CP_look_p73 _ _ _ h).1
      exact hm _ _ _ _ rfl w tx h30 hn p e s m args below meth c F Lo mc ms cells slots σ0 w0 tx0 hF hLo hcq hsq hga C
    · replace h := it_t hc h
      refine ax_iinc (pc := 70) C (x2 + 1) d_CP_look_70 3 rfl rfl (Nat.le_of_ble_eq_true rfl) ([(3, .int (x2 + 1)), (0, .ref (u 0)), (1, .int x0), (2, .int x1), (4, .int x3)]) rfl ?_
      refine ax_ls ([(0, .ref (u 0)), (1, .int x0), (2, .int x1), (3, .int (x2 + 1)), (4, .int x3)]) [1, 2, 3, 0, 4] rfl ?_
      replace hm : sPn_CP_look_p73 l D kA u σ1 [x0, x1, (x2 + 1), x3] (σf, rf, _) := (ihP tP_CP_look_p73 _ _ _ h).1
      exact hm _ _ _ _ rfl w tx h30 hn p e s m args below meth c F Lo mc ms cells slots σ0 w0 tx0 hF hLo hcq hsq hga C
set_option maxHeartbeats 4000000 in
set_option maxRecDepth 100000 in
theorem oPx2_CP_look_p46 (l : Launch) (D : va_G) (kA : Nat → ClassId) (u : Nat → Nat) (rec : mF) (hG : GM rec) (hG2 : GM2 rec) (ihC : ∀ (w : Nat → Nat) (tx : Value) t σ xs res, rec t σ xs = some res → cSem l D kA u w tx t σ xs res) (ih : ∀ t σ xs res, rec t σ xs = some res → gSem l D kA u t σ xs res) (ihP : ∀ t σ xs res, rec t σ xs = some res → pSem l D kA u t σ xs res) (σ : mS) (xs : List Int32) (res : mR) (h : u_4 (kP_CP_look_p46 rec σ) xs = some res) : sPx2_CP_look_p46 l D kA u σ xs res := by
  intro x0 x1 x2 x3 hxs w tx h30 hn
  subst hxs
  obtain ⟨σf, rf, dd⟩ := res
  dsimp only at hn
  have hmn : gle2 σ σf := qP_CP_look_p46 rec hG2 σ x0 x1 x2 x3 _ h
  have h : (if (σ.1 5402) ≤ x3 then (some (σ, x2, 0)) else (bnd (rec tC_Mod_makesTrue σ [x3]) (fun σ1 r1 => if r1 = 0 then (rec tP_CP_look_p73 σ1 [x0, x1, (x2 + 1), x3]) else (rec tP_CP_look_p73 σ1 [x0, x1, x2, x3])))) = some (σf, rf, dd) := h
  intro p e s m args below meth c F Lo mc ms cells slots σ0 w0 tx0 hF hLo hcq hsq hga C hadm htr hex hX hP0
  dsimp only at hF hLo hcq hsq ⊢
  have hcm : cells ≤ mc := by have := hmn.1; omega
  have hsm : slots ≤ ms := by have := hmn.2; omega
  have hle : True := trivial
  have hm : True := trivial
  refine ax_iload (pc := 46) C d_CP_look_46 4 rfl ?_
  refine ax_aload_n (pc := 48) C d_CP_look_48 rfl 0 rfl ?_
  refine cg_0_7_CP_60 (pc := 49) C d_CP_look_49 ?_
  refine cg_54_2_CP_134 (pc := 52) C d_CP_look_52 ?_
  refine ax_icmp_ge (pc := 55) C 79 d_CP_look_55 (by decide) (fun hc => ?_) (fun hc => ?_)
  · replace h := it_t hc h
    refine ax_iload_n (pc := 79) C d_CP_look_79 rfl 3 rfl ?_
    cases h
    exact absurd (h30.symm.trans hn) (by decide)
  · replace h := it_f hc h
    refine ax_aload_n (pc := 58) C d_CP_look_58 rfl 0 rfl ?_
    refine cg_0_9_CP_78 (pc := 59) C d_CP_look_59 ?_
    refine ax_iload (pc := 62) C d_CP_look_62 4 rfl ?_
    replace h := it_b h
    obtain ⟨σ1, r1, d1_1, d2_1, h1, h, hd2, hd1⟩ := h
    replace hle := hG _ _ _ _ (by decide) h1
    dsimp only at hle
    replace hmn : gle2 σ1 σf := g2_use h (g2_if (g2_tail hG2) (g2_tail hG2))
    replace hm : sC_Mod_makesTrue l D kA u w tx σ [x3] (σ1, r1, d1_1) := ihC _ _ tC_Mod_makesTrue _ _ _ h1
    refine cc_Vi (pc := 64) C (r0 := r1) (σ2 := σ1) (As := [.int x3]) (rest := []) (hm _ rfl) ml_CP_275 69 rfl rfl rfl d_CP_look_64 rfl rfl (by dsimp only; omega) (by dsimp only; omega) hcm hsm (Nat.le_of_ble_eq_true rfl) ?_
    replace h30 : σ1.2.2 3000 = 0 := hle.2.2.symm.trans h30
    replace hcq : cells + σf.2.2 3001 ≤ mc + σ1.2.2 3001 := by have := hle.1; omega
    replace hsq : slots + σf.2.2 3002 ≤ ms + σ1.2.2 3002 := by have := hle.2; omega
    replace hF : d2_1 + 6 ≤ F := by omega
    replace hLo : 48 * d2_1 + 144 ≤ Lo := by omega
    refine ax_if_ne (pc := 67) C 73 d_CP_look_67 (by decide) (fun hc => ?_) (fun hc => ?_)
    · replace h := it_f hc h
      refine ax_ls ([(0, .ref (u 0)), (1, .int x0), (2, .int x1), (3, .int x2), (4, .int x3)]) [0, 1, 2, 3, 4] rfl ?_
      replace hm : sPx2_CP_look_p73 l D kA u σ1 [x0, x1, x2, x3] (σf, rf, _) := (ihP tP_CP_look_p73 _ _ _ h).2
      exact hm _ _ _ _ rfl w tx h30 hn p e s m args below meth c F Lo mc ms cells slots σ0 w0 tx0 hF hLo hcq hsq hga C hadm htr hex hX hP0
    · replace h := it_t hc h
      refine ax_iinc (pc := 70) C (x2 + 1) d_CP_look_70 3 rfl rfl (Nat.le_of_ble_eq_true rfl) ([(3, .int (x2 + 1)), (0, .ref (u 0)), (1, .int x0), (2, .int x1), (4, .int x3)]) rfl ?_
      refine ax_ls ([(0, .ref (u 0)), (1, .int x0), (2, .int x1), (3, .int (x2 + 1)), (4, .int x3)]) [1, 2, 3, 0, 4] rfl ?_
      replace hm : sPx2_CP_look_p73 l D kA u σ1 [x0, x1, (x2 + 1), x3] (σf, rf, _) := (ihP tP_CP_look_p73 _ _ _ h).2
      exact hm _ _ _ _ rfl w tx h30 hn p e s m args below meth c F Lo mc ms cells slots σ0 w0 tx0 hF hLo hcq hsq hga C hadm htr hex hX hP0
set_option maxHeartbeats 4000000 in
set_option maxRecDepth 100000 in
theorem oPn_CP_look_p73 (l : Launch) (D : va_G) (kA : Nat → ClassId) (u : Nat → Nat) (rec : mF) (hG : GM rec) (hG2 : GM2 rec) (ihC : ∀ (w : Nat → Nat) (tx : Value) t σ xs res, rec t σ xs = some res → cSem l D kA u w tx t σ xs res) (ih : ∀ t σ xs res, rec t σ xs = some res → gSem l D kA u t σ xs res) (ihP : ∀ t σ xs res, rec t σ xs = some res → pSem l D kA u t σ xs res) (σ : mS) (xs : List Int32) (res : mR) (h : u_4 (kP_CP_look_p73 rec σ) xs = some res) : sPn_CP_look_p73 l D kA u σ xs res := by
  intro x0 x1 x2 x3 hxs w tx h30 hn
  subst hxs
  obtain ⟨σf, rf, dd⟩ := res
  dsimp only at hn
  have hmn : gle2 σ σf := qP_CP_look_p73 rec hG2 σ x0 x1 x2 x3 _ h
  have h : (rec tP_CP_look_p46 σ [x0, x1, x2, (x3 + 1)]) = some (σf, rf, dd) := h
  intro p e s m args below meth c F Lo mc ms cells slots σ0 w0 tx0 hF hLo hcq hsq hga C
  dsimp only at hF hLo hcq hsq ⊢
  have hcm : cells ≤ mc := by have := hmn.1; omega
  have hsm : slots ≤ ms := by have := hmn.2; omega
  have hle : True := trivial
  have hm : True := trivial
  refine ax_iinc (pc := 73) C (x3 + 1) d_CP_look_73 4 rfl rfl (Nat.le_of_ble_eq_true rfl) ([(4, .int (x3 + 1)), (0, .ref (u 0)), (1, .int x0), (2, .int x1), (3, .int x2)]) rfl ?_
  refine ax_goto (pc := 76) C 46 d_CP_look_76 (by decide) ?_
  refine ax_ls ([(0, .ref (u 0)), (1, .int x0), (2, .int x1), (3, .int x2), (4, .int (x3 + 1))]) [1, 2, 3, 4, 0] rfl ?_
  replace hm : sPn_CP_look_p46 l D kA u σ [x0, x1, x2, (x3 + 1)] (σf, rf, _) := (ihP tP_CP_look_p46 _ _ _ h).1
  exact hm _ _ _ _ rfl w tx h30 hn p e s m args below meth c F Lo mc ms cells slots σ0 w0 tx0 hF hLo hcq hsq hga C
set_option maxHeartbeats 4000000 in
set_option maxRecDepth 100000 in
theorem oPx2_CP_look_p73 (l : Launch) (D : va_G) (kA : Nat → ClassId) (u : Nat → Nat) (rec : mF) (hG : GM rec) (hG2 : GM2 rec) (ihC : ∀ (w : Nat → Nat) (tx : Value) t σ xs res, rec t σ xs = some res → cSem l D kA u w tx t σ xs res) (ih : ∀ t σ xs res, rec t σ xs = some res → gSem l D kA u t σ xs res) (ihP : ∀ t σ xs res, rec t σ xs = some res → pSem l D kA u t σ xs res) (σ : mS) (xs : List Int32) (res : mR) (h : u_4 (kP_CP_look_p73 rec σ) xs = some res) : sPx2_CP_look_p73 l D kA u σ xs res := by
  intro x0 x1 x2 x3 hxs w tx h30 hn
  subst hxs
  obtain ⟨σf, rf, dd⟩ := res
  dsimp only at hn
  have hmn : gle2 σ σf := qP_CP_look_p73 rec hG2 σ x0 x1 x2 x3 _ h
  have h : (rec tP_CP_look_p46 σ [x0, x1, x2, (x3 + 1)]) = some (σf, rf, dd) := h
  intro p e s m args below meth c F Lo mc ms cells slots σ0 w0 tx0 hF hLo hcq hsq hga C hadm htr hex hX hP0
  dsimp only at hF hLo hcq hsq ⊢
  have hcm : cells ≤ mc := by have := hmn.1; omega
  have hsm : slots ≤ ms := by have := hmn.2; omega
  have hle : True := trivial
  have hm : True := trivial
  refine ax_iinc (pc := 73) C (x3 + 1) d_CP_look_73 4 rfl rfl (Nat.le_of_ble_eq_true rfl) ([(4, .int (x3 + 1)), (0, .ref (u 0)), (1, .int x0), (2, .int x1), (3, .int x2)]) rfl ?_
  refine ax_goto (pc := 76) C 46 d_CP_look_76 (by decide) ?_
  refine ax_ls ([(0, .ref (u 0)), (1, .int x0), (2, .int x1), (3, .int x2), (4, .int (x3 + 1))]) [1, 2, 3, 4, 0] rfl ?_
  replace hm : sPx2_CP_look_p46 l D kA u σ [x0, x1, x2, (x3 + 1)] (σf, rf, _) := (ihP tP_CP_look_p46 _ _ _ h).2
  exact hm _ _ _ _ rfl w tx h30 hn p e s m args below meth c F Lo mc ms cells slots σ0 w0 tx0 hF hLo hcq hsq hga C hadm htr hex hX hP0
set_option maxHeartbeats 4000000 in
set_option maxRecDepth 100000 in
theorem oPn_CP_out (l : Launch) (D : va_G) (kA : Nat → ClassId) (u : Nat → Nat) (rec : mF) (hG : GM rec) (hG2 : GM2 rec) (ihC : ∀ (w : Nat → Nat) (tx : Value) t σ xs res, rec t σ xs = some res → cSem l D kA u w tx t σ xs res) (ih : ∀ t σ xs res, rec t σ xs = some res → gSem l D kA u t σ xs res) (ihP : ∀ t σ xs res, rec t σ xs = some res → pSem l D kA u t σ xs res) (σ : mS) (xs : List Int32) (res : mR) (h : u_1 (kP_CP_out rec σ) xs = some res) : sPn_CP_out l D kA u σ xs res := by
  intro x0 hxs w tx h30 hn
  subst hxs
  obtain ⟨σf, rf, dd⟩ := res
  dsimp only at hn
  have hmn : gle2 σ σf := qP_CP_out rec hG2 σ x0 _ h
  have h : (if x0 < 0 then (rec tP_CP_out_p15 σ [x0]) else (if x0 < (σ.1 301) then (if bin x0 (σ.2.2 4) = true then (some (σ, (σ.2.1 4 (Int32.toNatClampNeg x0)), 0)) else none) else (rec tP_CP_out_p15 σ [x0]))) = some (σf, rf, dd) := h
  refine ax_Mi.of (by decide +kernel) (Nat.le_of_ble_eq_true rfl) ?_
  intro p e s m args below meth c C hnm
  replace C : ax_C p s m args meth c b_CP_out "ClauseProver" 2 (some .int) D kA (va_A (cpW kA u w tx σ) s.heap.size) := C
  obtain ⟨F, hFe⟩ : ∃ z, z = dd + 3 := ⟨_, rfl⟩
  obtain ⟨Lo, hLoe⟩ : ∃ z, z = 48 * dd + 144 := ⟨_, rfl⟩
  obtain ⟨mc, hmce⟩ : ∃ z, z = σf.2.2 3001 - σ.2.2 3001 := ⟨_, rfl⟩
  obtain ⟨ms, hmse⟩ : ∃ z, z = σf.2.2 3002 - σ.2.2 3002 := ⟨_, rfl⟩
  obtain ⟨σ0, hσ0e⟩ : ∃ z, z = σ := ⟨_, rfl⟩
  obtain ⟨w0, hw0e⟩ : ∃ z, z = w := ⟨_, rfl⟩
  obtain ⟨tx0, htx0e⟩ : ∃ z, z = tx := ⟨_, rfl⟩
  suffices K : ∀ (cells slots : Nat), cells = 0 → slots = 0 → AW p l e { frames := F, cells := mc, slots := ms, locals := Lo } s m args below meth c D kA (va_A (cpW kA u w0 tx0 σ0) s.heap.size) 2 (ax_Qi below args s D kA (cpW kA u w0 tx0 σ0) mc ms (fun r w1 => r = rf ∧ ∃ (w2 : Nat → Nat) (tx2 : Value), (∀ i, ([] : List Nat).elem i = false → w2 i = w0 i) ∧ tx2 = tx0 ∧ w1 = cpW kA u w2 tx2 σf)) 0 [(0, .ref (u 0)), (1, .int x0)] [] (cpW kA u w tx σ) cells slots by
    have K := K 0 0 rfl rfl
    rw [hFe, hLoe, hmce, hmse, hσ0e, hw0e, htx0e] at K
    exact ax_ls ([(0, .ref (u 0)), (1, .int x0)]) [0, 1] rfl K
  replace C : ax_C p s m args meth c b_CP_out "ClauseProver" 2 (some .int) D kA (va_A (cpW kA u w0 tx0 σ0) s.heap.size) := by rw [hσ0e, hw0e, htx0e]; exact C
  intro cells slots hc0 hs0
  have hcq : cells + σf.2.2 3001 ≤ mc + σ.2.2 3001 := by have := hmn.1; omega
  have hsq : slots + σf.2.2 3002 ≤ ms + σ.2.2 3002 := by have := hmn.2; omega
  have hga : ∀ i, ([] : List Nat).elem i = false → w i = w0 i := fun i _ => by rw [hw0e]
  have e9 : tx = tx0 := htx0e.symm
  subst e9
  have hF : dd + 3 ≤ F := by omega
  have hLo : 48 * dd + 144 ≤ Lo := by omega
  have hcm : cells ≤ mc := by have := hmn.1; omega
  have hsm : slots ≤ ms := by have := hmn.2; omega
  have hle : True := trivial
  have hm : True := trivial
  refine ax_iload_n (pc := 0) C d_CP_out_0 rfl 1 rfl ?_
  refine ax_if_lt (pc := 1) C 15 d_CP_out_1 (by decide) (fun hc => ?_) (fun hc => ?_)
  · replace h := it_t hc h
    refine ax_ls ([(0, .ref (u 0)), (1, .int x0)]) [0, 1] rfl ?_
    replace hm : sPn_CP_out_p15 l D kA u σ [x0] (σf, rf, _) := (ihP tP_CP_out_p15 _ _ _ h).1
    exact hm _ rfl w tx h30 hn p e s m args below meth c F Lo mc ms cells slots σ0 w0 tx hF hLo hcq hsq hga C
  · replace h := it_f hc h
    refine ax_iload_n (pc := 4) C d_CP_out_4 rfl 1 rfl ?_
    refine ax_aload_n (pc := 5) C d_CP_out_5 rfl 0 rfl ?_
    refine cg_0_1_CP_18 (pc := 6) C d_CP_out_6 ?_
    refine cg_3_1_CP_82 (pc := 9) C d_CP_out_9 ?_
    refine ax_icmp_lt (pc := 12) C 25 d_CP_out_12 (by decide) (fun hc => ?_) (fun hc => ?_)
    · replace h := it_t hc h
      refine ax_aload_n (pc := 25) C d_CP_out_25 rfl 0 rfl ?_
      refine cg_0_1_CP_18 (pc := 26) C d_CP_out_26 ?_
      refine cg_3_0_CP_110 (pc := 29) C d_CP_out_29 ?_
      refine ax_iload_n (pc := 32) C d_CP_out_32 rfl 1 rfl ?_
      replace h := it_g h
      obtain ⟨hb, h⟩ := h
      refine cl_4 (pc := 33) C d_CP_out_33 (bin_in hb) ?_
      cases h
      exact ax_iret (pc := 34) C d_CP_out_34 ⟨rfl, w, tx, hga, rfl, rfl⟩ hcm hsm
    · replace h := it_f hc h
      refine ax_ls ([(0, .ref (u 0)), (1, .int x0)]) [0, 1] rfl ?_
      replace hm : sPn_CP_out_p15 l D kA u σ [x0] (σf, rf, _) := (ihP tP_CP_out_p15 _ _ _ h).1
      exact hm _ rfl w tx h30 hn p e s m args below meth c F Lo mc ms cells slots σ0 w0 tx hF hLo hcq hsq hga C
set_option maxHeartbeats 4000000 in
set_option maxRecDepth 100000 in
theorem oPx4_CP_out (l : Launch) (D : va_G) (kA : Nat → ClassId) (u : Nat → Nat) (rec : mF) (hG : GM rec) (hG2 : GM2 rec) (ihC : ∀ (w : Nat → Nat) (tx : Value) t σ xs res, rec t σ xs = some res → cSem l D kA u w tx t σ xs res) (ih : ∀ t σ xs res, rec t σ xs = some res → gSem l D kA u t σ xs res) (ihP : ∀ t σ xs res, rec t σ xs = some res → pSem l D kA u t σ xs res) (σ : mS) (xs : List Int32) (res : mR) (h : u_1 (kP_CP_out rec σ) xs = some res) : sPx4_CP_out l D kA u σ xs res := by
  intro x0 hxs w tx h30 hn
  subst hxs
  obtain ⟨σf, rf, dd⟩ := res
  dsimp only at hn
  have hmn : gle2 σ σf := qP_CP_out rec hG2 σ x0 _ h
  have h : (if x0 < 0 then (rec tP_CP_out_p15 σ [x0]) else (if x0 < (σ.1 301) then (if bin x0 (σ.2.2 4) = true then (some (σ, (σ.2.1 4 (Int32.toNatClampNeg x0)), 0)) else none) else (rec tP_CP_out_p15 σ [x0]))) = some (σf, rf, dd) := h
  intro htr
  refine ax_Mx.of (by decide +kernel) (Nat.le_of_ble_eq_true rfl) ?_
  intro p e s m args below meth c C hadm hex hX hP0
  replace C : ax_C p s m args meth c b_CP_out "ClauseProver" 2 (some .int) D kA (va_A (cpW kA u w tx σ) s.heap.size) := C
  obtain ⟨F, hFe⟩ : ∃ z, z = dd + 6 := ⟨_, rfl⟩
  obtain ⟨Lo, hLoe⟩ : ∃ z, z = 48 * dd + 144 := ⟨_, rfl⟩
  obtain ⟨mc, hmce⟩ : ∃ z, z = σf.2.2 3001 - σ.2.2 3001 := ⟨_, rfl⟩
  obtain ⟨ms, hmse⟩ : ∃ z, z = σf.2.2 3002 - σ.2.2 3002 := ⟨_, rfl⟩
  obtain ⟨σ0, hσ0e⟩ : ∃ z, z = σ := ⟨_, rfl⟩
  obtain ⟨w0, hw0e⟩ : ∃ z, z = w := ⟨_, rfl⟩
  obtain ⟨tx0, htx0e⟩ : ∃ z, z = tx := ⟨_, rfl⟩
  suffices K : ∀ (cells slots : Nat), cells = 0 → slots = 0 → AW p l e { frames := F, cells := mc, slots := ms, locals := Lo } s m args below meth c D kA (va_A (cpW kA u w0 tx0 σ0) s.heap.size) 2 (ax_QX below s D kA (cpW kA u w0 tx0 σ0) mc ms "java/lang/IndexOutOfBoundsException" (fun w1 => ∃ w2 : Nat → Nat, (∀ i, ([] : List Nat).elem i = false → w2 i = w0 i) ∧ w1 = cpW kA u w2 tx0 σf)) 0 [(0, .ref (u 0)), (1, .int x0)] [] (cpW kA u w tx σ) cells slots by
    have K := K 0 0 rfl rfl
    rw [hFe, hLoe, hmce, hmse, hσ0e, hw0e, htx0e] at K
    exact ax_ls ([(0, .ref (u 0)), (1, .int x0)]) [0, 1] rfl K
  replace C : ax_C p s m args meth c b_CP_out "ClauseProver" 2 (some .int) D kA (va_A (cpW kA u w0 tx0 σ0) s.heap.size) := by rw [hσ0e, hw0e, htx0e]; exact C
  replace hX : ax_X (va_A (cpW kA u w0 tx0 σ0) s.heap.size) s s.heap := by rw [hσ0e, hw0e, htx0e]; exact hX
  replace hP0 : va_P D ax_cl (cpW kA u w0 tx0 σ0) s.heap := by rw [hσ0e, hw0e, htx0e]; exact hP0
  intro cells slots hc0 hs0
  have hcq : cells + σf.2.2 3001 ≤ mc + σ.2.2 3001 := by have := hmn.1; omega
  have hsq : slots + σf.2.2 3002 ≤ ms + σ.2.2 3002 := by have := hmn.2; omega
  have hga : ∀ i, ([] : List Nat).elem i = false → w i = w0 i := fun i _ => by rw [hw0e]
  have e9 : tx = tx0 := htx0e.symm
  subst e9
  have hF : dd + 6 ≤ F := by omega
  have hLo : 48 * dd + 144 ≤ Lo := by omega
  have hcm : cells ≤ mc := by have := hmn.1; omega
  have hsm : slots ≤ ms := by have := hmn.2; omega
  have hle : True := trivial
  have hm : True := trivial
  refine ax_iload_n (pc := 0) C d_CP_out_0 rfl 1 rfl ?_
  refine ax_if_lt (pc := 1) C 15 d_CP_out_1 (by decide) (fun hc => ?_) (fun hc => ?_)
  · replace h := it_t hc h
    refine ax_ls ([(0, .ref (u 0)), (1, .int x0)]) [0, 1] rfl ?_
    replace hm : sPx4_CP_out_p15 l D kA u σ [x0] (σf, rf, _) := (ihP tP_CP_out_p15 _ _ _ h).2
    exact hm _ rfl w tx h30 hn p e s m args below meth c F Lo mc ms cells slots σ0 w0 tx hF hLo hcq hsq hga C hadm htr hex hX hP0
  · replace h := it_f hc h
    refine ax_iload_n (pc := 4) C d_CP_out_4 rfl 1 rfl ?_
    refine ax_aload_n (pc := 5) C d_CP_out_5 rfl 0 rfl ?_
    refine cg_0_1_CP_18 (pc := 6) C d_CP_out_6 ?_
    refine cg_3_1_CP_82 (pc := 9) C d_CP_out_9 ?_
    refine ax_icmp_lt (pc := 12) C 25 d_CP_out_12 (by decide) (fun hc => ?_) (fun hc => ?_)
    · replace h := it_t hc h
      refine ax_aload_n (pc := 25) C d_CP_out_25 rfl 0 rfl ?_
      refine cg_0_1_CP_18 (pc := 26) C d_CP_out_26 ?_
      refine cg_3_0_CP_110 (pc := 29) C d_CP_out_29 ?_
      refine ax_iload_n (pc := 32) C d_CP_out_32 rfl 1 rfl ?_
      replace h := it_g h
      obtain ⟨hb, h⟩ := h
      refine cl_4 (pc := 33) C d_CP_out_33 (bin_in hb) ?_
      cases h
      exact absurd (h30.symm.trans hn) (by decide)
    · replace h := it_f hc h
      refine ax_ls ([(0, .ref (u 0)), (1, .int x0)]) [0, 1] rfl ?_
      replace hm : sPx4_CP_out_p15 l D kA u σ [x0] (σf, rf, _) := (ihP tP_CP_out_p15 _ _ _ h).2
      exact hm _ rfl w tx h30 hn p e s m args below meth c F Lo mc ms cells slots σ0 w0 tx hF hLo hcq hsq hga C hadm htr hex hX hP0
set_option maxHeartbeats 4000000 in
set_option maxRecDepth 100000 in
theorem oPn_CP_out_p15 (l : Launch) (D : va_G) (kA : Nat → ClassId) (u : Nat → Nat) (rec : mF) (hG : GM rec) (hG2 : GM2 rec) (ihC : ∀ (w : Nat → Nat) (tx : Value) t σ xs res, rec t σ xs = some res → cSem l D kA u w tx t σ xs res) (ih : ∀ t σ xs res, rec t σ xs = some res → gSem l D kA u t σ xs res) (ihP : ∀ t σ xs res, rec t σ xs = some res → pSem l D kA u t σ xs res) (σ : mS) (xs : List Int32) (res : mR) (h : u_1 (kP_CP_out_p15 rec σ) xs = some res) : sPn_CP_out_p15 l D kA u σ xs res := by
  intro x0 hxs w tx h30 hn
  subst hxs
  obtain ⟨σf, rf, dd⟩ := res
  dsimp only at hn
  have hmn : gle2 σ σf := qP_CP_out_p15 rec hG2 σ x0 _ h
  have h : (lt_ (mT σ 4) (fun σ99 => some (σ99, 0, 0))) = some (σf, rf, dd) := h
  intro p e s m args below meth c F Lo mc ms cells slots σ0 w0 tx0 hF hLo hcq hsq hga C
  dsimp only at hF hLo hcq hsq ⊢
  have hcm : cells ≤ mc := by have := hmn.1; omega
  have hsm : slots ≤ ms := by have := hmn.2; omega
  have hle : True := trivial
  have hm : True := trivial
  replace h := it_l h
  cases h
  exact absurd hn (by simp [mT, va_up])
set_option maxHeartbeats 4000000 in
set_option maxRecDepth 100000 in
theorem oPx4_CP_out_p15 (l : Launch) (D : va_G) (kA : Nat → ClassId) (u : Nat → Nat) (rec : mF) (hG : GM rec) (hG2 : GM2 rec) (ihC : ∀ (w : Nat → Nat) (tx : Value) t σ xs res, rec t σ xs = some res → cSem l D kA u w tx t σ xs res) (ih : ∀ t σ xs res, rec t σ xs = some res → gSem l D kA u t σ xs res) (ihP : ∀ t σ xs res, rec t σ xs = some res → pSem l D kA u t σ xs res) (σ : mS) (xs : List Int32) (res : mR) (h : u_1 (kP_CP_out_p15 rec σ) xs = some res) : sPx4_CP_out_p15 l D kA u σ xs res := by
  intro x0 hxs w tx h30 hn
  subst hxs
  obtain ⟨σf, rf, dd⟩ := res
  dsimp only at hn
  have hmn : gle2 σ σf := qP_CP_out_p15 rec hG2 σ x0 _ h
  have h : (lt_ (mT σ 4) (fun σ99 => some (σ99, 0, 0))) = some (σf, rf, dd) := h
  intro p e s m args below meth c F Lo mc ms cells slots σ0 w0 tx0 hF hLo hcq hsq hga C hadm htr hex hX hP0
  dsimp only at hF hLo hcq hsq ⊢
  have hcm : cells ≤ mc := by have := hmn.1; omega
  have hsm : slots ≤ ms := by have := hmn.2; omega
  have hle : True := trivial
  have hm : True := trivial
  replace h := it_l h
  cases h
  have e1 : (mT σ 4).2.2 3001 = σ.2.2 3001 + 1 := rfl
  have e2 : (mT σ 4).2.2 3002 = σ.2.2 3002 + 6 := rfl
  rw [e1] at hcq
  rw [e2] at hsq
  refine ax_widen (k := mc - 1) (n := ms - 6) (by omega) (by omega) ?_
  exact ax_throw2 (pc := 15) C hadm htr hex hX hP0 (is := 255) (tx := "no such byte") ta_IOB (by decide +kernel) (by decide) tb_classLink_1426 tb_instantiable_1427 tb_initialized_30 (by decide +kernel) (by decide +kernel) (by decide +kernel) (by decide +kernel) d_CP_out_15 d_CP_out_18 d_CP_out_19 d_CP_out_21 d_CP_out_24 (by show 6 ≤ F; omega) (by show 90 ≤ Lo; omega) (by show mc - 1 + 1 ≤ mc; omega) (by show ms - 6 + 6 ≤ ms; omega) (by omega) (by omega) ⟨w, hga, rfl⟩
set_option maxHeartbeats 4000000 in
set_option maxRecDepth 100000 in
theorem oPn_CP_rewrote (l : Launch) (D : va_G) (kA : Nat → ClassId) (u : Nat → Nat) (rec : mF) (hG : GM rec) (hG2 : GM2 rec) (ihC : ∀ (w : Nat → Nat) (tx : Value) t σ xs res, rec t σ xs = some res → cSem l D kA u w tx t σ xs res) (ih : ∀ t σ xs res, rec t σ xs = some res → gSem l D kA u t σ xs res) (ihP : ∀ t σ xs res, rec t σ xs = some res → pSem l D kA u t σ xs res) (σ : mS) (xs : List Int32) (res : mR) (h : u_2 (kP_CP_rewrote rec σ) xs = some res) : sPn_CP_rewrote l D kA u σ xs res := by
  intro x0 x1 hxs w tx h30 hn
  subst hxs
  obtain ⟨σf, rf, dd⟩ := res
  dsimp only at hn
  have hmn : gle2 σ σf := qP_CP_rewrote rec hG2 σ x0 x1 _ h
  have h : (bnd (rec tC_Sto_has σ [x0]) (fun σ1 r1 => if r1 = 0 then (rec tP_CP_rewrote_p29 σ1 [x0, x1]) else (if x1 < 0 then (rec tP_CP_rewrote_p29 σ1 [x0, x1]) else (bnd (rec tC_Sto_fact σ1 [x0, 7]) (fun σ2 r2 => if x1 < r2 then (bnd (rec tC_Sto_fact σ2 [x0, 9]) (fun σ3 r3 => if bin ((r3 : Int32) + x1) (σ3.2.2 50) = true then (some (σ3, (σ3.2.1 50 (Int32.toNatClampNeg ((r3 : Int32) + x1))), 0)) else none)) else (rec tP_CP_rewrote_p29 σ2 [x0, x1])))))) = some (σf, rf, dd) := h
  refine ax_Mi.of (by decide +kernel) (Nat.le_of_ble_eq_true rfl) ?_
  intro p e s m args below meth c C hnm
  replace C : ax_C p s m args meth c b_CP_rewrote "ClauseProver" 3 (some .int) D kA (va_A (cpW kA u w tx σ) s.heap.size) := C
  obtain ⟨F, hFe⟩ : ∃ z, z = dd + 3 := ⟨_, rfl⟩
  obtain ⟨Lo, hLoe⟩ : ∃ z, z = 48 * dd + 144 := ⟨_, rfl⟩
  obtain ⟨mc, hmce⟩ : ∃ z, z = σf.2.2 3001 - σ.2.2 3001 := ⟨_, rfl⟩
  obtain ⟨ms, hmse⟩ : ∃ z, z = σf.2.2 3002 - σ.2.2 3002 := ⟨_, rfl⟩
  obtain ⟨σ0, hσ0e⟩ : ∃ z, z = σ := ⟨_, rfl⟩
  obtain ⟨w0, hw0e⟩ : ∃ z, z = w := ⟨_, rfl⟩
  obtain ⟨tx0, htx0e⟩ : ∃ z, z = tx := ⟨_, rfl⟩
  suffices K : ∀ (cells slots : Nat), cells = 0 → slots = 0 → AW p l e { frames := F, cells := mc, slots := ms, locals := Lo } s m args below meth c D kA (va_A (cpW kA u w0 tx0 σ0) s.heap.size) 3 (ax_Qi below args s D kA (cpW kA u w0 tx0 σ0) mc ms (fun r w1 => r = rf ∧ ∃ (w2 : Nat → Nat) (tx2 : Value), (∀ i, ([] : List Nat).elem i = false → w2 i = w0 i) ∧ tx2 = tx0 ∧ w1 = cpW kA u w2 tx2 σf)) 0 [(0, .ref (u 0)), (1, .int x0), (2, .int x1)] [] (cpW kA u w tx σ) cells slots by
    have K := K 0 0 rfl rfl
    rw [hFe, hLoe, hmce, hmse, hσ0e, hw0e, htx0e] at K
    exact ax_ls ([(0, .ref (u 0)), (1, .int x0), (2, .int x1)]) [0, 1, 2] rfl K
  replace C : ax_C p s m args meth c b_CP_rewrote "ClauseProver" 3 (some .int) D kA (va_A (cpW kA u w0 tx0 σ0) s.heap.size) := by rw [hσ0e, hw0e, htx0e]; exact C
  intro cells slots hc0 hs0
  have hcq : cells + σf.2.2 3001 ≤ mc + σ.2.2 3001 := by have := hmn.1; omega
  have hsq : slots + σf.2.2 3002 ≤ ms + σ.2.2 3002 := by have := hmn.2; omega
  have hga : ∀ i, ([] : List Nat).elem i = false → w i = w0 i := fun i _ => by rw [hw0e]
  have e9 : tx = tx0 := htx0e.symm
  subst e9
  have hF : dd + 3 ≤ F := by omega
  have hLo : 48 * dd + 144 ≤ Lo := by omega
  have hcm : cells ≤ mc := by have := hmn.1; omega
  have hsm : slots ≤ ms := by have := hmn.2; omega
  have hle : True := trivial
  have hm : True := trivial
  refine ax_aload_n (pc := 0) C d_CP_rewrote_0 rfl 0 rfl ?_
  refine cg_0_7_CP_60 (pc := 1) C d_CP_rewrote_1 ?_
  refine ax_iload_n (pc := 4) C d_CP_rewrote_4 rfl 1 rfl ?_
  replace h := it_b h
  obtain ⟨σ1, r1, d1_1, d2_1, h1, h, hd2, hd1⟩ := h
  replace hle := hG _ _ _ _ (by decide) h1
  dsimp only at hle
  replace hmn : gle2 σ1 σf := g2_use h (g2_if (g2_tail hG2) (g2_if (g2_tail hG2) (g2_bnd hG2 (fun _ _ => (g2_if (g2_bnd hG2 (fun _ _ => (g2_if g2_some g2_none))) (g2_tail hG2))))))
  replace hm : sC_Sto_has l D kA u w tx σ [x0] (σ1, r1, d1_1) := ihC _ _ tC_Sto_has _ _ _ h1
  refine cc_Vi (pc := 5) C (r0 := r1) (σ2 := σ1) (As := [.int x0]) (rest := []) (hm _ rfl) ml_CP_150 54 rfl rfl rfl d_CP_rewrote_5 rfl rfl (by dsimp only; omega) (by dsimp only; omega) hcm hsm (Nat.le_of_ble_eq_true rfl) ?_
  replace h30 : σ1.2.2 3000 = 0 := hle.2.2.symm.trans h30
  replace hcq : cells + σf.2.2 3001 ≤ mc + σ1.2.2 3001 := by have := hle.1; omega
  replace hsq : slots + σf.2.2 3002 ≤ ms + σ1.2.2 3002 := by have := hle.2; omega
  replace hF : d2_1 + 3 ≤ F := by omega
  replace hLo : 48 * d2_1 + 144 ≤ Lo := by omega
  refine ax_if_eq (pc := 8) C 29 d_CP_rewrote_8 (by decide) (fun hc => ?_) (fun hc => ?_)
  · replace h := it_t hc h
    refine ax_ls ([(0, .ref (u 0)), (1, .int x0), (2, .int x1)]) [0, 1, 2] rfl ?_
    replace hm : sPn_CP_rewrote_p29 l D kA u σ1 [x0, x1] (σf, rf, _) := (ihP tP_CP_rewrote_p29 _ _ _ h).1
    exact hm _ _ rfl w tx h30 hn p e s m args below meth c F Lo mc ms cells slots σ0 w0 tx hF hLo hcq hsq hga C
  · replace h := it_f hc h
    refine ax_iload_n (pc := 11) C d_CP_rewrote_11 rfl 2 rfl ?_
    refine ax_if_lt (pc := 12) C 29 d_CP_rewrote_12 (by decide) (fun hc => ?_) (fun hc => ?_)
    · replace h := it_t hc h
      refine ax_ls ([(0, .ref (u 0)), (1, .int x0), (2, .int x1)]) [0, 1, 2] rfl ?_
      replace hm : sPn_CP_rewrote_p29 l D kA u σ1 [x0, x1] (σf, rf, _) := (ihP tP_CP_rewrote_p29 _ _ _ h).1
      exact hm _ _ rfl w tx h30 hn p e s m args below meth c F Lo mc ms cells slots σ0 w0 tx hF hLo hcq hsq hga C
    · replace h := it_f hc h
      refine ax_iload_n (pc := 15) C d_CP_rewrote_15 rfl 2 rfl ?_
      refine ax_aload_n (pc := 16) C d_CP_rewrote_16 rfl 0 rfl ?_
      refine cg_0_7_CP_60 (pc := 17) C d_CP_rewrote_17 ?_
      refine ax_iload_n (pc := 20) C d_CP_rewrote_20 rfl 1 rfl ?_
      refine ax_bipush (pc := 21) C 7 d_CP_rewrote_21 (by decide +kernel) ?_
      replace h := it_b h
      obtain ⟨σ2, r2, d1_2, d2_2, h1, h, hd2, hd1⟩ := h
      replace hle := hG _ _ _ _ (by decide) h1
      dsimp only at hle
      replace hmn : gle2 σ2 σf := g2_use h (g2_if (g2_bnd hG2 (fun _ _ => (g2_if g2_some g2_none))) (g2_tail hG2))
      replace hm : sC_Sto_fact l D kA u w tx σ1 [x0, 7] (σ2, r2, d1_2) := ihC _ _ tC_Sto_fact _ _ _ h1
      refine cc_Vi (pc := 23) C (r0 := r2) (σ2 := σ2) (As := [.int x0, .int 7]) (rest := [.int x1]) (hm _ _ rfl) ml_CP_161 54 rfl rfl rfl d_CP_rewrote_23 rfl rfl (by dsimp only; omega) (by dsimp only; omega) hcm hsm (Nat.le_of_ble_eq_true rfl) ?_
      replace h30 : σ2.2.2 3000 = 0 := hle.2.2.symm.trans h30
      replace hcq : cells + σf.2.2 3001 ≤ mc + σ2.2.2 3001 := by have := hle.1; omega
      replace hsq : slots + σf.2.2 3002 ≤ ms + σ2.2.2 3002 := by have := hle.2; omega
      replace hF : d2_2 + 3 ≤ F := by omega
      replace hLo : 48 * d2_2 + 144 ≤ Lo := by omega
      refine ax_icmp_lt (pc := 26) C 39 d_CP_rewrote_26 (by decide) (fun hc => ?_) (fun hc => ?_)
      · replace h := it_t hc h
        refine ax_aload_n (pc := 39) C d_CP_rewrote_39 rfl 0 rfl ?_
        refine cg_0_7_CP_60 (pc := 40) C d_CP_rewrote_40 ?_
        refine cg_54_1_CP_167 (pc := 43) C d_CP_rewrote_43 ?_
        refine cg_49_0_CP_110 (pc := 46) C d_CP_rewrote_46 ?_
        refine ax_aload_n (pc := 49) C d_CP_rewrote_49 rfl 0 rfl ?_
        refine cg_0_7_CP_60 (pc := 50) C d_CP_rewrote_50 ?_
        refine ax_iload_n (pc := 53) C d_CP_rewrote_53 rfl 1 rfl ?_
        refine ax_bipush (pc := 54) C 9 d_CP_rewrote_54 (by decide +kernel) ?_
        replace h := it_b h
        obtain ⟨σ3, r3, d1_3, d2_3, h1, h, hd2, hd1⟩ := h
        replace hle := hG _ _ _ _ (by decide) h1
        dsimp only at hle
        replace hmn : gle2 σ3 σf := g2_use h (g2_if g2_some g2_none)
        replace hm : sC_Sto_fact l D kA u w tx σ2 [x0, 9] (σ3, r3, d1_3) := ihC _ _ tC_Sto_fact _ _ _ h1
        refine cc_Vi (pc := 56) C (r0 := r3) (σ2 := σ3) (As := [.int x0, .int 9]) (rest := [.ref (w 50)]) (hm _ _ rfl) ml_CP_161 54 rfl rfl rfl d_CP_rewrote_56 rfl rfl (by dsimp only; omega) (by dsimp only; omega) hcm hsm (Nat.le_of_ble_eq_true rfl) ?_
        replace h30 : σ3.2.2 3000 = 0 := hle.2.2.symm.trans h30
        replace hcq : cells + σf.2.2 3001 ≤ mc + σ3.2.2 3001 := by have := hle.1; omega
        replace hsq : slots + σf.2.2 3002 ≤ ms + σ3.2.2 3002 := by have := hle.2; omega
        replace hF : d2_3 + 3 ≤ F := by omega
        replace hLo : 48 * d2_3 + 144 ≤ Lo := by omega
        refine ax_iload_n (pc := 59) C d_CP_rewrote_59 rfl 2 rfl ?_
        refine ax_iadd (pc := 60) C d_CP_rewrote_60 ?_
        replace h := it_g h
        obtain ⟨hb, h⟩ := h
        refine cl_50 (pc := 61) C d_CP_rewrote_61 (bin_in hb) ?_
        cases h
        exact ax_iret (pc := 62) C d_CP_rewrote_62 ⟨rfl, w, tx, hga, rfl, rfl⟩ hcm hsm
      · replace h := it_f hc h
        refine ax_ls ([(0, .ref (u 0)), (1, .int x0), (2, .int x1)]) [0, 1, 2] rfl ?_
        replace hm : sPn_CP_rewrote_p29 l D kA u σ2 [x0, x1] (σf, rf, _) := (ihP tP_CP_rewrote_p29 _ _ _ h).1
        exact hm _ _ rfl w tx h30 hn p e s m args below meth c F Lo mc ms cells slots σ0 w0 tx hF hLo hcq hsq hga C
set_option maxHeartbeats 4000000 in
set_option maxRecDepth 100000 in
theorem oPx3_CP_rewrote (l : Launch) (D : va_G) (kA : Nat → ClassId) (u : Nat → Nat) (rec : mF) (hG : GM rec) (hG2 : GM2 rec) (ihC : ∀ (w : Nat → Nat) (tx : Value) t σ xs res, rec t σ xs = some res → cSem l D kA u w tx t σ xs res) (ih : ∀ t σ xs res, rec t σ xs = some res → gSem l D kA u t σ xs res) (ihP : ∀ t σ xs res, rec t σ xs = some res → pSem l D kA u t σ xs res) (σ : mS) (xs : List Int32) (res : mR) (h : u_2 (kP_CP_rewrote rec σ) xs = some res) : sPx3_CP_rewrote l D kA u σ xs res := by
  intro x0 x1 hxs w tx h30 hn
  subst hxs
  obtain ⟨σf, rf, dd⟩ := res
  dsimp only at hn
  have hmn : gle2 σ σf := qP_CP_rewrote rec hG2 σ x0 x1 _ h
  have h : (bnd (rec tC_Sto_has σ [x0]) (fun σ1 r1 => if r1 = 0 then (rec tP_CP_rewrote_p29 σ1 [x0, x1]) else (if x1 < 0 then (rec tP_CP_rewrote_p29 σ1 [x0, x1]) else (bnd (rec tC_Sto_fact σ1 [x0, 7]) (fun σ2 r2 => if x1 < r2 then (bnd (rec tC_Sto_fact σ2 [x0, 9]) (fun σ3 r3 => if bin ((r3 : Int32) + x1) (σ3.2.2 50) = true then (some (σ3, (σ3.2.1 50 (Int32.toNatClampNeg ((r3 : Int32) + x1))), 0)) else none)) else (rec tP_CP_rewrote_p29 σ2 [x0, x1])))))) = some (σf, rf, dd) := h
  intro htr
  refine ax_Mx.of (by decide +kernel) (Nat.le_of_ble_eq_true rfl) ?_
  intro p e s m args below meth c C hadm hex hX hP0
  replace C : ax_C p s m args meth c b_CP_rewrote "ClauseProver" 3 (some .int) D kA (va_A (cpW kA u w tx σ) s.heap.size) := C
  obtain ⟨F, hFe⟩ : ∃ z, z = dd + 6 := ⟨_, rfl⟩
  obtain ⟨Lo, hLoe⟩ : ∃ z, z = 48 * dd + 144 := ⟨_, rfl⟩
  obtain ⟨mc, hmce⟩ : ∃ z, z = σf.2.2 3001 - σ.2.2 3001 := ⟨_, rfl⟩
  obtain ⟨ms, hmse⟩ : ∃ z, z = σf.2.2 3002 - σ.2.2 3002 := ⟨_, rfl⟩
  obtain ⟨σ0, hσ0e⟩ : ∃ z, z = σ := ⟨_, rfl⟩
  obtain ⟨w0, hw0e⟩ : ∃ z, z = w := ⟨_, rfl⟩
  obtain ⟨tx0, htx0e⟩ : ∃ z, z = tx := ⟨_, rfl⟩
  suffices K : ∀ (cells slots : Nat), cells = 0 → slots = 0 → AW p l e { frames := F, cells := mc, slots := ms, locals := Lo } s m args below meth c D kA (va_A (cpW kA u w0 tx0 σ0) s.heap.size) 3 (ax_QX below s D kA (cpW kA u w0 tx0 σ0) mc ms "java/util/NoSuchElementException" (fun w1 => ∃ w2 : Nat → Nat, (∀ i, ([] : List Nat).elem i = false → w2 i = w0 i) ∧ w1 = cpW kA u w2 tx0 σf)) 0 [(0, .ref (u 0)), (1, .int x0), (2, .int x1)] [] (cpW kA u w tx σ) cells slots by
    have K := K 0 0 rfl rfl
    rw [hFe, hLoe, hmce, hmse, hσ0e, hw0e, htx0e] at K
    exact ax_ls ([(0, .ref (u 0)), (1, .int x0), (2, .int x1)]) [0, 1, 2] rfl K
  replace C : ax_C p s m args meth c b_CP_rewrote "ClauseProver" 3 (some .int) D kA (va_A (cpW kA u w0 tx0 σ0) s.heap.size) := by rw [hσ0e, hw0e, htx0e]; exact C
  replace hX : ax_X (va_A (cpW kA u w0 tx0 σ0) s.heap.size) s s.heap := by rw [hσ0e, hw0e, htx0e]; exact hX
  replace hP0 : va_P D ax_cl (cpW kA u w0 tx0 σ0) s.heap := by rw [hσ0e, hw0e, htx0e]; exact hP0
  intro cells slots hc0 hs0
  have hcq : cells + σf.2.2 3001 ≤ mc + σ.2.2 3001 := by have := hmn.1; omega
  have hsq : slots + σf.2.2 3002 ≤ ms + σ.2.2 3002 := by have := hmn.2; omega
  have hga : ∀ i, ([] : List Nat).elem i = false → w i = w0 i := fun i _ => by rw [hw0e]
  have e9 : tx = tx0 := htx0e.symm
  subst e9
  have hF : dd + 6 ≤ F := by omega
  have hLo : 48 * dd + 144 ≤ Lo := by omega
  have hcm : cells ≤ mc := by have := hmn.1; omega
  have hsm : slots ≤ ms := by have := hmn.2; omega
  have hle : True := trivial
  have hm : True := trivial
  refine ax_aload_n (pc := 0) C d_CP_rewrote_0 rfl 0 rfl ?_
  refine cg_0_7_CP_60 (pc := 1) C d_CP_rewrote_1 ?_
  refine ax_iload_n (pc := 4) C d_CP_rewrote_4 rfl 1 rfl ?_
  replace h := it_b h
  obtain ⟨σ1, r1, d1_1, d2_1, h1, h, hd2, hd1⟩ := h
  replace hle := hG _ _ _ _ (by decide) h1
  dsimp only at hle
  replace hmn : gle2 σ1 σf := g2_use h (g2_if (g2_tail hG2) (g2_if (g2_tail hG2) (g2_bnd hG2 (fun _ _ => (g2_if (g2_bnd hG2 (fun _ _ => (g2_if g2_some g2_none))) (g2_tail hG2))))))
  replace hm : sC_Sto_has l D kA u w tx σ [x0] (σ1, r1, d1_1) := ihC _ _ tC_Sto_has _ _ _ h1
  refine cc_Vi (pc := 5) C (r0 := r1) (σ2 := σ1) (As := [.int x0]) (rest := []) (hm _ rfl) ml_CP_150 54 rfl rfl rfl d_CP_rewrote_5 rfl rfl (by dsimp only; omega) (by dsimp only; omega) hcm hsm (Nat.le_of_ble_eq_true rfl) ?_
  replace h30 : σ1.2.2 3000 = 0 := hle.2.2.symm.trans h30
  replace hcq : cells + σf.2.2 3001 ≤ mc + σ1.2.2 3001 := by have := hle.1; omega
  replace hsq : slots + σf.2.2 3002 ≤ ms + σ1.2.2 3002 := by have := hle.2; omega
  replace hF : d2_1 + 6 ≤ F := by omega
  replace hLo : 48 * d2_1 + 144 ≤ Lo := by omega
  refine ax_if_eq (pc := 8) C 29 d_CP_rewrote_8 (by decide) (fun hc => ?_) (fun hc => ?_)
  · replace h := it_t hc h
    refine ax_ls ([(0, .ref (u 0)), (1, .int x0), (2, .int x1)]) [0, 1, 2] rfl ?_
    replace hm : sPx3_CP_rewrote_p29 l D kA u σ1 [x0, x1] (σf, rf, _) := (ihP tP_CP_rewrote_p29 _ _ _ h).2
    exact hm _ _ rfl w tx h30 hn p e s m args below meth c F Lo mc ms cells slots σ0 w0 tx hF hLo hcq hsq hga C hadm htr hex hX hP0
  · replace h := it_f hc h
    refine ax_iload_n (pc := 11) C d_CP_rewrote_11 rfl 2 rfl ?_
    refine ax_if_lt (pc := 12) C 29 d_CP_rewrote_12 (by decide) (fun hc => ?_) (fun hc => ?_)
    · replace h := it_t hc h
      refine ax_ls ([(0, .ref (u 0)), (1, .int x0), (2, .int x1)]) [0, 1, 2] rfl ?_
      replace hm : sPx3_CP_rewrote_p29 l D kA u σ1 [x0, x1] (σf, rf, _) := (ihP tP_CP_rewrote_p29 _ _ _ h).2
      exact hm _ _ rfl w tx h30 hn p e s m args below meth c F Lo mc ms cells slots σ0 w0 tx hF hLo hcq hsq hga C hadm htr hex hX hP0
    · replace h := it_f hc h
      refine ax_iload_n (pc := 15) C d_CP_rewrote_15 rfl 2 rfl ?_
      refine ax_aload_n (pc := 16) C d_CP_rewrote_16 rfl 0 rfl ?_
      refine cg_0_7_CP_60 (pc := 17) C d_CP_rewrote_17 ?_
      refine ax_iload_n (pc := 20) C d_CP_rewrote_20 rfl 1 rfl ?_
      refine ax_bipush (pc := 21) C 7 d_CP_rewrote_21 (by decide +kernel) ?_
      replace h := it_b h
      obtain ⟨σ2, r2, d1_2, d2_2, h1, h, hd2, hd1⟩ := h
      replace hle := hG _ _ _ _ (by decide) h1
      dsimp only at hle
      replace hmn : gle2 σ2 σf := g2_use h (g2_if (g2_bnd hG2 (fun _ _ => (g2_if g2_some g2_none))) (g2_tail hG2))
      replace hm : sC_Sto_fact l D kA u w tx σ1 [x0, 7] (σ2, r2, d1_2) := ihC _ _ tC_Sto_fact _ _ _ h1
      refine cc_Vi (pc := 23) C (r0 := r2) (σ2 := σ2) (As := [.int x0, .int 7]) (rest := [.int x1]) (hm _ _ rfl) ml_CP_161 54 rfl rfl rfl d_CP_rewrote_23 rfl rfl (by dsimp only; omega) (by dsimp only; omega) hcm hsm (Nat.le_of_ble_eq_true rfl) ?_
      replace h30 : σ2.2.2 3000 = 0 := hle.2.2.symm.trans h30
      replace hcq : cells + σf.2.2 3001 ≤ mc + σ2.2.2 3001 := by have := hle.1; omega
      replace hsq : slots + σf.2.2 3002 ≤ ms + σ2.2.2 3002 := by have := hle.2; omega
      replace hF : d2_2 + 6 ≤ F := by omega
      replace hLo : 48 * d2_2 + 144 ≤ Lo := by omega
      refine ax_icmp_lt (pc := 26) C 39 d_CP_rewrote_26 (by decide) (fun hc => ?_) (fun hc => ?_)
      · replace h := it_t hc h
        refine ax_aload_n (pc := 39) C d_CP_rewrote_39 rfl 0 rfl ?_
        refine cg_0_7_CP_60 (pc := 40) C d_CP_rewrote_40 ?_
        refine cg_54_1_CP_167 (pc := 43) C d_CP_rewrote_43 ?_
        refine cg_49_0_CP_110 (pc := 46) C d_CP_rewrote_46 ?_
        refine ax_aload_n (pc := 49) C d_CP_rewrote_49 rfl 0 rfl ?_
        refine cg_0_7_CP_60 (pc := 50) C d_CP_rewrote_50 ?_
        refine ax_iload_n (pc := 53) C d_CP_rewrote_53 rfl 1 rfl ?_
        refine ax_bipush (pc := 54) C 9 d_CP_rewrote_54 (by decide +kernel) ?_
        replace h := it_b h
        obtain ⟨σ3, r3, d1_3, d2_3, h1, h, hd2, hd1⟩ := h
        replace hle := hG _ _ _ _ (by decide) h1
        dsimp only at hle
        replace hmn : gle2 σ3 σf := g2_use h (g2_if g2_some g2_none)
        replace hm : sC_Sto_fact l D kA u w tx σ2 [x0, 9] (σ3, r3, d1_3) := ihC _ _ tC_Sto_fact _ _ _ h1
        refine cc_Vi (pc := 56) C (r0 := r3) (σ2 := σ3) (As := [.int x0, .int 9]) (rest := [.ref (w 50)]) (hm _ _ rfl) ml_CP_161 54 rfl rfl rfl d_CP_rewrote_56 rfl rfl (by dsimp only; omega) (by dsimp only; omega) hcm hsm (Nat.le_of_ble_eq_true rfl) ?_
        replace h30 : σ3.2.2 3000 = 0 := hle.2.2.symm.trans h30
        replace hcq : cells + σf.2.2 3001 ≤ mc + σ3.2.2 3001 := by have := hle.1; omega
        replace hsq : slots + σf.2.2 3002 ≤ ms + σ3.2.2 3002 := by have := hle.2; omega
        replace hF : d2_3 + 6 ≤ F := by omega
        replace hLo : 48 * d2_3 + 144 ≤ Lo := by omega
        refine ax_iload_n (pc := 59) C d_CP_rewrote_59 rfl 2 rfl ?_
        refine ax_iadd (pc := 60) C d_CP_rewrote_60 ?_
        replace h := it_g h
        obtain ⟨hb, h⟩ := h
        refine cl_50 (pc := 61) C d_CP_rewrote_61 (bin_in hb) ?_
        cases h
        exact absurd (h30.symm.trans hn) (by decide)
      · replace h := it_f hc h
        refine ax_ls ([(0, .ref (u 0)), (1, .int x0), (2, .int x1)]) [0, 1, 2] rfl ?_
        replace hm : sPx3_CP_rewrote_p29 l D kA u σ2 [x0, x1] (σf, rf, _) := (ihP tP_CP_rewrote_p29 _ _ _ h).2
        exact hm _ _ rfl w tx h30 hn p e s m args below meth c F Lo mc ms cells slots σ0 w0 tx hF hLo hcq hsq hga C hadm htr hex hX hP0
set_option maxHeartbeats 4000000 in
set_option maxRecDepth 100000 in
theorem oPn_CP_rewrote_p29 (l : Launch) (D : va_G) (kA : Nat → ClassId) (u : Nat → Nat) (rec : mF) (hG : GM rec) (hG2 : GM2 rec) (ihC : ∀ (w : Nat → Nat) (tx : Value) t σ xs res, rec t σ xs = some res → cSem l D kA u w tx t σ xs res) (ih : ∀ t σ xs res, rec t σ xs = some res → gSem l D kA u t σ xs res) (ihP : ∀ t σ xs res, rec t σ xs = some res → pSem l D kA u t σ xs res) (σ : mS) (xs : List Int32) (res : mR) (h : u_2 (kP_CP_rewrote_p29 rec σ) xs = some res) : sPn_CP_rewrote_p29 l D kA u σ xs res := by
  intro x0 x1 hxs w tx h30 hn
  subst hxs
  obtain ⟨σf, rf, dd⟩ := res
  dsimp only at hn
  have hmn : gle2 σ σf := qP_CP_rewrote_p29 rec hG2 σ x0 x1 _ h
  have h : (lt_ (mT σ 3) (fun σ99 => some (σ99, 0, 0))) = some (σf, rf, dd) := h
  intro p e s m args below meth c F Lo mc ms cells slots σ0 w0 tx0 hF hLo hcq hsq hga C
  dsimp only at hF hLo hcq hsq ⊢
  have hcm : cells ≤ mc := by have := hmn.1; omega
  have hsm : slots ≤ ms := by have := hmn.2; omega
  have hle : True := trivial
  have hm : True := trivial
  replace h := it_l h
  cases h
  exact absurd hn (by simp [mT, va_up])
set_option maxHeartbeats 4000000 in
set_option maxRecDepth 100000 in
theorem oPx3_CP_rewrote_p29 (l : Launch) (D : va_G) (kA : Nat → ClassId) (u : Nat → Nat) (rec : mF) (hG : GM rec) (hG2 : GM2 rec) (ihC : ∀ (w : Nat → Nat) (tx : Value) t σ xs res, rec t σ xs = some res → cSem l D kA u w tx t σ xs res) (ih : ∀ t σ xs res, rec t σ xs = some res → gSem l D kA u t σ xs res) (ihP : ∀ t σ xs res, rec t σ xs = some res → pSem l D kA u t σ xs res) (σ : mS) (xs : List Int32) (res : mR) (h : u_2 (kP_CP_rewrote_p29 rec σ) xs = some res) : sPx3_CP_rewrote_p29 l D kA u σ xs res := by
  intro x0 x1 hxs w tx h30 hn
  subst hxs
  obtain ⟨σf, rf, dd⟩ := res
  dsimp only at hn
  have hmn : gle2 σ σf := qP_CP_rewrote_p29 rec hG2 σ x0 x1 _ h
  have h : (lt_ (mT σ 3) (fun σ99 => some (σ99, 0, 0))) = some (σf, rf, dd) := h
  intro p e s m args below meth c F Lo mc ms cells slots σ0 w0 tx0 hF hLo hcq hsq hga C hadm htr hex hX hP0
  dsimp only at hF hLo hcq hsq ⊢
  have hcm : cells ≤ mc := by have := hmn.1; omega
  have hsm : slots ≤ ms := by have := hmn.2; omega
  have hle : True := trivial
  have hm : True := trivial
  replace h := it_l h
  cases h
  have e1 : (mT σ 3).2.2 3001 = σ.2.2 3001 + 1 := rfl
  have e2 : (mT σ 3).2.2 3002 = σ.2.2 3002 + 6 := rfl
  rw [e1] at hcq
  rw [e2] at hsq
  refine ax_widen (k := mc - 1) (n := ms - 6) (by omega) (by omega) ?_
  exact ax_throw2 (pc := 29) C hadm htr hex hX hP0 (is := 165) (tx := "no such clause or rewriter") ta_NSE (by decide +kernel) (by decide) tb_classLink_1290 tb_instantiable_1291 tb_initialized_25 (by decide +kernel) (by decide +kernel) (by decide +kernel) (by decide +kernel) d_CP_rewrote_29 d_CP_rewrote_32 d_CP_rewrote_33 d_CP_rewrote_35 d_CP_rewrote_38 (by show 6 ≤ F; omega) (by show 90 ≤ Lo; omega) (by show mc - 1 + 1 ≤ mc; omega) (by show ms - 6 + 6 ≤ ms; omega) (by omega) (by omega) ⟨w, hga, rfl⟩
set_option maxHeartbeats 4000000 in
set_option maxRecDepth 100000 in
theorem oPn_CP_run (l : Launch) (D : va_G) (kA : Nat → ClassId) (u : Nat → Nat) (rec : mF) (hG : GM rec) (hG2 : GM2 rec) (ihC : ∀ (w : Nat → Nat) (tx : Value) t σ xs res, rec t σ xs = some res → cSem l D kA u w tx t σ xs res) (ih : ∀ t σ xs res, rec t σ xs = some res → gSem l D kA u t σ xs res) (ihP : ∀ t σ xs res, rec t σ xs = some res → pSem l D kA u t σ xs res) (σ : mS) (xs : List Int32) (res : mR) (h : u_1 (kP_CP_run rec σ) xs = some res) : sPn_CP_run l D kA u σ xs res := by
  intro x0 hxs w tx h30 hn
  subst hxs
  obtain ⟨σf, rf, dd⟩ := res
  dsimp only at hn
  have hmn : gle2 σ σf := qP_CP_run rec hG2 σ x0 _ h
  have h : (if x0 < 1 then (rec tP_CP_run_p11 σ [x0]) else (if x0 ≤ 100 then (rec tP_CP_run_p23 σ [x0, 0]) else (rec tP_CP_run_p11 σ [x0]))) = some (σf, rf, dd) := h
  refine ax_Mi.of (by decide +kernel) (Nat.le_of_ble_eq_true rfl) ?_
  intro p e s m args below meth c C hnm
  replace C : ax_C p s m args meth c b_CP_run "ClauseProver" 4 (some .int) D kA (va_A (cpW kA u w tx σ) s.heap.size) := C
  obtain ⟨F, hFe⟩ : ∃ z, z = dd + 3 := ⟨_, rfl⟩
  obtain ⟨Lo, hLoe⟩ : ∃ z, z = 48 * dd + 144 := ⟨_, rfl⟩
  obtain ⟨mc, hmce⟩ : ∃ z, z = σf.2.2 3001 - σ.2.2 3001 := ⟨_, rfl⟩
  obtain ⟨ms, hmse⟩ : ∃ z, z = σf.2.2 3002 - σ.2.2 3002 := ⟨_, rfl⟩
  obtain ⟨σ0, hσ0e⟩ : ∃ z, z = σ := ⟨_, rfl⟩
  obtain ⟨w0, hw0e⟩ : ∃ z, z = w := ⟨_, rfl⟩
  obtain ⟨tx0, htx0e⟩ : ∃ z, z = tx := ⟨_, rfl⟩
  suffices K : ∀ (cells slots : Nat), cells = 0 → slots = 0 → AW p l e { frames := F, cells := mc, slots := ms, locals := Lo } s m args below meth c D kA (va_A (cpW kA u w0 tx0 σ0) s.heap.size) 4 (ax_Qi below args s D kA (cpW kA u w0 tx0 σ0) mc ms (fun r w1 => r = rf ∧ ∃ (w2 : Nat → Nat) (tx2 : Value), (∀ i, ([48, 50, 52, 56, 58, 65] : List Nat).elem i = false → w2 i = w0 i) ∧ tx2 = tx0 ∧ w1 = cpW kA u w2 tx2 σf)) 0 [(0, .ref (u 0)), (1, .int x0)] [] (cpW kA u w tx σ) cells slots by
    have K := K 0 0 rfl rfl
    rw [hFe, hLoe, hmce, hmse, hσ0e, hw0e, htx0e] at K
    exact ax_ls ([(0, .ref (u 0)), (1, .int x0)]) [0, 1] rfl K
  replace C : ax_C p s m args meth c b_CP_run "ClauseProver" 4 (some .int) D kA (va_A (cpW kA u w0 tx0 σ0) s.heap.size) := by rw [hσ0e, hw0e, htx0e]; exact C
  intro cells slots hc0 hs0
  have hcq : cells + σf.2.2 3001 ≤ mc + σ.2.2 3001 := by have := hmn.1; omega
  have hsq : slots + σf.2.2 3002 ≤ ms + σ.2.2 3002 := by have := hmn.2; omega
  have hga : ∀ i, ([48, 50, 52, 56, 58, 65] : List Nat).elem i = false → w i = w0 i := fun i _ => by rw [hw0e]
  have e9 : tx = tx0 := htx0e.symm
  subst e9
  have hF : dd + 3 ≤ F := by omega
  have hLo : 48 * dd + 144 ≤ Lo := by omega
  have hcm : cells ≤ mc := by have := hmn.1; omega
  have hsm : slots ≤ ms := by have := hmn.2; omega
  have hle : True := trivial
  have hm : True := trivial
  refine ax_iload_n (pc := 0) C d_CP_run_0 rfl 1 rfl ?_
  refine ax_iconst (pc := 1) C 1 d_CP_run_1 (by decide +kernel) ?_
  refine ax_icmp_lt (pc := 2) C 11 d_CP_run_2 (by decide) (fun hc => ?_) (fun hc => ?_)
  · replace h := it_t hc h
    refine ax_ls ([(0, .ref (u 0)), (1, .int x0)]) [0, 1] rfl ?_
    replace hm : sPn_CP_run_p11 l D kA u σ [x0] (σf, rf, _) := (ihP tP_CP_run_p11 _ _ _ h).1
    exact hm _ rfl w tx h30 hn p e s m args below meth c F Lo mc ms cells slots σ0 w0 tx hF hLo hcq hsq hga C
  · replace h := it_f hc h
    refine ax_iload_n (pc := 5) C d_CP_run_5 rfl 1 rfl ?_
    refine ax_bipush (pc := 6) C 100 d_CP_run_6 (by decide +kernel) ?_
    refine ax_icmp_le (pc := 8) C 21 d_CP_run_8 (by decide) (fun hc => ?_) (fun hc => ?_)
    · replace h := it_t hc h
      refine ax_iconst (pc := 21) C 0 d_CP_run_21 (by decide +kernel) ?_
      refine ax_istore_n (pc := 22) C d_CP_run_22 rfl (Nat.le_of_ble_eq_true rfl) ([(2, .int 0), (0, .ref (u 0)), (1, .int x0)]) rfl ?_
      refine ax_ls ([(0, .ref (u 0)), (1, .int x0), (2, .int 0)]) [1, 2, 0] rfl ?_
      replace hm : sPn_CP_run_p23 l D kA u σ [x0, 0] (σf, rf, _) := (ihP tP_CP_run_p23 _ _ _ h).1
      exact hm _ _ rfl w tx h30 hn p e s m args below meth c F Lo mc ms cells slots σ0 w0 tx hF hLo hcq hsq hga C
    · replace h := it_f hc h
      refine ax_ls ([(0, .ref (u 0)), (1, .int x0)]) [0, 1] rfl ?_
      replace hm : sPn_CP_run_p11 l D kA u σ [x0] (σf, rf, _) := (ihP tP_CP_run_p11 _ _ _ h).1
      exact hm _ rfl w tx h30 hn p e s m args below meth c F Lo mc ms cells slots σ0 w0 tx hF hLo hcq hsq hga C
set_option maxHeartbeats 4000000 in
set_option maxRecDepth 100000 in
theorem oPx2_CP_run (l : Launch) (D : va_G) (kA : Nat → ClassId) (u : Nat → Nat) (rec : mF) (hG : GM rec) (hG2 : GM2 rec) (ihC : ∀ (w : Nat → Nat) (tx : Value) t σ xs res, rec t σ xs = some res → cSem l D kA u w tx t σ xs res) (ih : ∀ t σ xs res, rec t σ xs = some res → gSem l D kA u t σ xs res) (ihP : ∀ t σ xs res, rec t σ xs = some res → pSem l D kA u t σ xs res) (σ : mS) (xs : List Int32) (res : mR) (h : u_1 (kP_CP_run rec σ) xs = some res) : sPx2_CP_run l D kA u σ xs res := by
  intro x0 hxs w tx h30 hn
  subst hxs
  obtain ⟨σf, rf, dd⟩ := res
  dsimp only at hn
  have hmn : gle2 σ σf := qP_CP_run rec hG2 σ x0 _ h
  have h : (if x0 < 1 then (rec tP_CP_run_p11 σ [x0]) else (if x0 ≤ 100 then (rec tP_CP_run_p23 σ [x0, 0]) else (rec tP_CP_run_p11 σ [x0]))) = some (σf, rf, dd) := h
  intro htr
  refine ax_Mx.of (by decide +kernel) (Nat.le_of_ble_eq_true rfl) ?_
  intro p e s m args below meth c C hadm hex hX hP0
  replace C : ax_C p s m args meth c b_CP_run "ClauseProver" 4 (some .int) D kA (va_A (cpW kA u w tx σ) s.heap.size) := C
  obtain ⟨F, hFe⟩ : ∃ z, z = dd + 6 := ⟨_, rfl⟩
  obtain ⟨Lo, hLoe⟩ : ∃ z, z = 48 * dd + 144 := ⟨_, rfl⟩
  obtain ⟨mc, hmce⟩ : ∃ z, z = σf.2.2 3001 - σ.2.2 3001 := ⟨_, rfl⟩
  obtain ⟨ms, hmse⟩ : ∃ z, z = σf.2.2 3002 - σ.2.2 3002 := ⟨_, rfl⟩
  obtain ⟨σ0, hσ0e⟩ : ∃ z, z = σ := ⟨_, rfl⟩
  obtain ⟨w0, hw0e⟩ : ∃ z, z = w := ⟨_, rfl⟩
  obtain ⟨tx0, htx0e⟩ : ∃ z, z = tx := ⟨_, rfl⟩
  suffices K : ∀ (cells slots : Nat), cells = 0 → slots = 0 → AW p l e { frames := F, cells := mc, slots := ms, locals := Lo } s m args below meth c D kA (va_A (cpW kA u w0 tx0 σ0) s.heap.size) 4 (ax_QX below s D kA (cpW kA u w0 tx0 σ0) mc ms "java/lang/IllegalArgumentException" (fun w1 => ∃ w2 : Nat → Nat, (∀ i, ([48, 50, 52, 56, 58, 65] : List Nat).elem i = false → w2 i = w0 i) ∧ w1 = cpW kA u w2 tx0 σf)) 0 [(0, .ref (u 0)), (1, .int x0)] [] (cpW kA u w tx σ) cells slots by
    have K := K 0 0 rfl rfl
    rw [hFe, hLoe, hmce, hmse, hσ0e, hw0e, htx0e] at K
    exact ax_ls ([(0, .ref (u 0)), (1, .int x0)]) [0, 1] rfl K
  replace C : ax_C p s m args meth c b_CP_run "ClauseProver" 4 (some .int) D kA (va_A (cpW kA u w0 tx0 σ0) s.heap.size) := by rw [hσ0e, hw0e, htx0e]; exact C
  replace hX : ax_X (va_A (cpW kA u w0 tx0 σ0) s.heap.size) s s.heap := by rw [hσ0e, hw0e, htx0e]; exact hX
  replace hP0 : va_P D ax_cl (cpW kA u w0 tx0 σ0) s.heap := by rw [hσ0e, hw0e, htx0e]; exact hP0
  intro cells slots hc0 hs0
  have hcq : cells + σf.2.2 3001 ≤ mc + σ.2.2 3001 := by have := hmn.1; omega
  have hsq : slots + σf.2.2 3002 ≤ ms + σ.2.2 3002 := by have := hmn.2; omega
  have hga : ∀ i, ([48, 50, 52, 56, 58, 65] : List Nat).elem i = false → w i = w0 i := fun i _ => by rw [hw0e]
  have e9 : tx = tx0 := htx0e.symm
  subst e9
  have hF : dd + 6 ≤ F := by omega
  have hLo : 48 * dd + 144 ≤ Lo := by omega
  have hcm : cells ≤ mc := by have := hmn.1; omega
  have hsm : slots ≤ ms := by have := hmn.2; omega
  have hle : True := trivial
  have hm : True := trivial
  refine ax_iload_n (pc := 0) C d_CP_run_0 rfl 1 rfl ?_
  refine ax_iconst (pc := 1) C 1 d_CP_run_1 (by decide +kernel) ?_
  refine ax_icmp_lt (pc := 2) C 11 d_CP_run_2 (by decide) (fun hc => ?_) (fun hc => ?_)
  · replace h := it_t hc h
    refine ax_ls ([(0, .ref (u 0)), (1, .int x0)]) [0, 1] rfl ?_
    replace hm : sPx2_CP_run_p11 l D kA u σ [x0] (σf, rf, _) := (ihP tP_CP_run_p11 _ _ _ h).2
    exact hm _ rfl w tx h30 hn p e s m args below meth c F Lo mc ms cells slots σ0 w0 tx hF hLo hcq hsq hga C hadm htr hex hX hP0
  · replace h := it_f hc h
    refine ax_iload_n (pc := 5) C d_CP_run_5 rfl 1 rfl ?_
    refine ax_bipush (pc := 6) C 100 d_CP_run_6 (by decide +kernel) ?_
    refine ax_icmp_le (pc := 8) C 21 d_CP_run_8 (by decide) (fun hc => ?_) (fun hc => ?_)
    · replace h := it_t hc h
      refine ax_iconst (pc := 21) C 0 d_CP_run_21 (by decide +kernel) ?_
      refine ax_istore_n (pc := 22) C d_CP_run_22 rfl (Nat.le_of_ble_eq_true rfl) ([(2, .int 0), (0, .ref (u 0)), (1, .int x0)]) rfl ?_
      refine ax_ls ([(0, .ref (u 0)), (1, .int x0), (2, .int 0)]) [1, 2, 0] rfl ?_
      replace hm : sPx2_CP_run_p23 l D kA u σ [x0, 0] (σf, rf, _) := (ihP tP_CP_run_p23 _ _ _ h).2
      exact hm _ _ rfl w tx h30 hn p e s m args below meth c F Lo mc ms cells slots σ0 w0 tx hF hLo hcq hsq hga C hadm htr hex hX hP0
    · replace h := it_f hc h
      refine ax_ls ([(0, .ref (u 0)), (1, .int x0)]) [0, 1] rfl ?_
      replace hm : sPx2_CP_run_p11 l D kA u σ [x0] (σf, rf, _) := (ihP tP_CP_run_p11 _ _ _ h).2
      exact hm _ rfl w tx h30 hn p e s m args below meth c F Lo mc ms cells slots σ0 w0 tx hF hLo hcq hsq hga C hadm htr hex hX hP0
set_option maxHeartbeats 4000000 in
set_option maxRecDepth 100000 in
theorem oPn_CP_run_p11 (l : Launch) (D : va_G) (kA : Nat → ClassId) (u : Nat → Nat) (rec : mF) (hG : GM rec) (hG2 : GM2 rec) (ihC : ∀ (w : Nat → Nat) (tx : Value) t σ xs res, rec t σ xs = some res → cSem l D kA u w tx t σ xs res) (ih : ∀ t σ xs res, rec t σ xs = some res → gSem l D kA u t σ xs res) (ihP : ∀ t σ xs res, rec t σ xs = some res → pSem l D kA u t σ xs res) (σ : mS) (xs : List Int32) (res : mR) (h : u_1 (kP_CP_run_p11 rec σ) xs = some res) : sPn_CP_run_p11 l D kA u σ xs res := by
  intro x0 hxs w tx h30 hn
  subst hxs
  obtain ⟨σf, rf, dd⟩ := res
  dsimp only at hn
  have hmn : gle2 σ σf := qP_CP_run_p11 rec hG2 σ x0 _ h
  have h : (lt_ (mT σ 2) (fun σ99 => some (σ99, 0, 0))) = some (σf, rf, dd) := h
  intro p e s m args below meth c F Lo mc ms cells slots σ0 w0 tx0 hF hLo hcq hsq hga C
  dsimp only at hF hLo hcq hsq ⊢
  have hcm : cells ≤ mc := by have := hmn.1; omega
  have hsm : slots ≤ ms := by have := hmn.2; omega
  have hle : True := trivial
  have hm : True := trivial
  replace h := it_l h
  cases h
  exact absurd hn (by simp [mT, va_up])
set_option maxHeartbeats 4000000 in
set_option maxRecDepth 100000 in
theorem oPx2_CP_run_p11 (l : Launch) (D : va_G) (kA : Nat → ClassId) (u : Nat → Nat) (rec : mF) (hG : GM rec) (hG2 : GM2 rec) (ihC : ∀ (w : Nat → Nat) (tx : Value) t σ xs res, rec t σ xs = some res → cSem l D kA u w tx t σ xs res) (ih : ∀ t σ xs res, rec t σ xs = some res → gSem l D kA u t σ xs res) (ihP : ∀ t σ xs res, rec t σ xs = some res → pSem l D kA u t σ xs res) (σ : mS) (xs : List Int32) (res : mR) (h : u_1 (kP_CP_run_p11 rec σ) xs = some res) : sPx2_CP_run_p11 l D kA u σ xs res := by
  intro x0 hxs w tx h30 hn
  subst hxs
  obtain ⟨σf, rf, dd⟩ := res
  dsimp only at hn
  have hmn : gle2 σ σf := qP_CP_run_p11 rec hG2 σ x0 _ h
  have h : (lt_ (mT σ 2) (fun σ99 => some (σ99, 0, 0))) = some (σf, rf, dd) := h
  intro p e s m args below meth c F Lo mc ms cells slots σ0 w0 tx0 hF hLo hcq hsq hga C hadm htr hex hX hP0
  dsimp only at hF hLo hcq hsq ⊢
  have hcm : cells ≤ mc := by have := hmn.1; omega
  have hsm : slots ≤ ms := by have := hmn.2; omega
  have hle : True := trivial
  have hm : True := trivial
  replace h := it_l h
  cases h
  have e1 : (mT σ 2).2.2 3001 = σ.2.2 3001 + 1 := rfl
  have e2 : (mT σ 2).2.2 3002 = σ.2.2 3002 + 6 := rfl
  rw [e1] at hcq
  rw [e2] at hsq
  refine ax_widen (k := mc - 1) (n := ms - 6) (by omega) (by omega) ?_
  exact ax_throw2 (pc := 11) C hadm htr hex hX hP0 (is := 138) (tx := "not 1 .. 100 steps") ta_IAE (by decide +kernel) (by decide) tb_classLink_984 tb_instantiable_985 tb_initialized_21 (by decide +kernel) (by decide +kernel) (by decide +kernel) (by decide +kernel) d_CP_run_11 d_CP_run_14 d_CP_run_15 d_CP_run_17 d_CP_run_20 (by show 6 ≤ F; omega) (by show 90 ≤ Lo; omega) (by show mc - 1 + 1 ≤ mc; omega) (by show ms - 6 + 6 ≤ ms; omega) (by omega) (by omega) ⟨w, hga, rfl⟩
set_option maxHeartbeats 4000000 in
set_option maxRecDepth 100000 in
theorem oPn_CP_run_p23 (l : Launch) (D : va_G) (kA : Nat → ClassId) (u : Nat → Nat) (rec : mF) (hG : GM rec) (hG2 : GM2 rec) (ihC : ∀ (w : Nat → Nat) (tx : Value) t σ xs res, rec t σ xs = some res → cSem l D kA u w tx t σ xs res) (ih : ∀ t σ xs res, rec t σ xs = some res → gSem l D kA u t σ xs res) (ihP : ∀ t σ xs res, rec t σ xs = some res → pSem l D kA u t σ xs res) (σ : mS) (xs : List Int32) (res : mR) (h : u_2 (kP_CP_run_p23 rec σ) xs = some res) : sPn_CP_run_p23 l D kA u σ xs res := by
  intro x0 x1 hxs w tx h30 hn
  subst hxs
  obtain ⟨σf, rf, dd⟩ := res
  dsimp only at hn
  have hmn : gle2 σ σf := qP_CP_run_p23 rec hG2 σ x0 x1 _ h
  have h : (if x0 ≤ x1 then (rec tP_CP_run_p65 σ [x0, x1]) else (if (σ.1 5300) = 0 then (bnd (rec tG_Sat_takeGiven σ []) (fun σ1 r1 => if r1 = (-1) then (rec tP_CP_run_p59 σ1 [x0, x1, r1]) else (bnd (rec tG_Sat_inferFrom σ1 [r1]) (fun σ2 r2 => rec tP_CP_run_p59 σ2 [x0, x1, r1])))) else (rec tP_CP_run_p65 σ [x0, x1]))) = some (σf, rf, dd) := h
  intro p e s m args below meth c F Lo mc ms cells slots σ0 w0 tx0 hF hLo hcq hsq hga C
  dsimp only at hF hLo hcq hsq ⊢
  have hcm : cells ≤ mc := by have := hmn.1; omega
  have hsm : slots ≤ ms := by have := hmn.2; omega
  have hle : True := trivial
  have hm : True := trivial
  refine ax_iload_n (pc := 23) C d_CP_run_23 rfl 2 rfl ?_
  refine ax_iload_n (pc := 24) C d_CP_run_24 rfl 1 rfl ?_
  refine ax_icmp_ge (pc := 25) C 65 d_CP_run_25 (by decide) (fun hc => ?_) (fun hc => ?_)
  · replace h := it_t hc h
    refine ax_ls ([(0, .ref (u 0)), (1, .int x0), (2, .int x1)]) [0, 1, 2] rfl ?_
    replace hm : sPn_CP_run_p65 l D kA u σ [x0, x1] (σf, rf, _) := (ihP tP_CP_run_p65 _ _ _ h).1
    exact hm _ _ rfl w tx h30 hn p e s m args below meth c F Lo mc ms cells slots σ0 w0 tx0 hF hLo hcq hsq hga C
  · replace h := it_f hc h
    refine ax_aload_n (pc := 28) C d_CP_run_28 rfl 0 rfl ?_
    refine cg_0_8_CP_69 (pc := 29) C d_CP_run_29 ?_
    refine cg_53_0_CP_140 (pc := 32) C d_CP_run_32 ?_
    refine ax_if_ne (pc := 35) C 65 d_CP_run_35 (by decide) (fun hc => ?_) (fun hc => ?_)
    · replace h := it_f hc h
      refine ax_ls ([(0, .ref (u 0)), (1, .int x0), (2, .int x1)]) [0, 1, 2] rfl ?_
      replace hm : sPn_CP_run_p65 l D kA u σ [x0, x1] (σf, rf, _) := (ihP tP_CP_run_p65 _ _ _ h).1
      exact hm _ _ rfl w tx h30 hn p e s m args below meth c F Lo mc ms cells slots σ0 w0 tx0 hF hLo hcq hsq hga C
    · replace h := it_t hc h
      refine ax_aload_n (pc := 38) C d_CP_run_38 rfl 0 rfl ?_
      refine cg_0_8_CP_69 (pc := 39) C d_CP_run_39 ?_
      replace h := it_b h
      obtain ⟨σ1, r1, d1_1, d2_1, h1, h, hd2, hd1⟩ := h
      replace hle := hG _ _ _ _ (by decide) h1
      dsimp only at hle
      replace hmn : gle2 σ1 σf := g2_use h (g2_if (g2_tail hG2) (g2_bnd hG2 (fun _ _ => (g2_tail hG2))))
      replace hm : sG_Sat_takeGiven l D kA u σ [] (σ1, r1, d1_1) := ih tG_Sat_takeGiven _ _ _ h1
      refine gc_Vi (pc := 42) C (As := []) (rest := []) (hm rfl w tx) ml_CP_143 53 rfl rfl rfl d_CP_run_42 rfl rfl (by dsimp only; omega) (by dsimp only; omega) (by have := hmn.1; have := hle.1; dsimp only; omega) (by have := hmn.2; have := hle.2; dsimp only; omega) (Nat.le_of_ble_eq_true rfl) (fun r9 w1 hw => ?_)
      obtain ⟨hrq1, w1, tx1, hag1, htq1, hwq1⟩ := hw
      dsimp only at hwq1 hrq1
      subst hwq1
      replace hrq1 := hrq1.symm
      subst hrq1
      dsimp only
      replace htq1 := htq1.symm
      subst htq1
      have hga1 : ∀ i, ([48, 50, 52, 56, 58, 65] : List Nat).elem i = false → w1 i = w0 i := fun i hi => (hag1 i (by revert hi; exact el_sub (by decide))).trans (hga i hi)
      replace h30 : σ1.2.2 3000 = 0 := hle.2.2.symm.trans h30
      replace hcq : (cells + (σ1.2.2 3001 - σ.2.2 3001)) + σf.2.2 3001 ≤ mc + σ1.2.2 3001 := by have := hmn.1; have := hle.1; omega
      replace hcm : (cells + (σ1.2.2 3001 - σ.2.2 3001)) ≤ mc := by have := hmn.1; have := hle.1; omega
      generalize cells + (σ1.2.2 3001 - σ.2.2 3001) = cells at hcq hcm ⊢
      replace hsq : (slots + (σ1.2.2 3002 - σ.2.2 3002)) + σf.2.2 3002 ≤ ms + σ1.2.2 3002 := by have := hmn.2; have := hle.2; omega
      replace hsm : (slots + (σ1.2.2 3002 - σ.2.2 3002)) ≤ ms := by have := hmn.2; have := hle.2; omega
      generalize slots + (σ1.2.2 3002 - σ.2.2 3002) = slots at hsq hsm ⊢
      replace hF : d2_1 + 3 ≤ F := by omega
      replace hLo : 48 * d2_1 + 144 ≤ Lo := by omega
      refine ax_istore_n (pc := 45) C d_CP_run_45 rfl (Nat.le_of_ble_eq_true rfl) ([(3, .int r1), (0, .ref (u 0)), (1, .int x0), (2, .int x1)]) rfl ?_
      refine ax_iload_n (pc := 46) C d_CP_run_46 rfl 0 rfl ?_
      refine ax_iconst (pc := 47) C (-1) d_CP_run_47 (by decide +kernel) ?_
      refine ax_icmp_eq (pc := 48) C 59 d_CP_run_48 (by decide) (fun hc => ?_) (fun hc => ?_)
      · replace h := it_t hc h
        refine ax_ls ([(0, .ref (u 0)), (1, .int x0), (2, .int x1), (3, .int r1)]) [1, 2, 3, 0] rfl ?_
        replace hm : sPn_CP_run_p59 l D kA u σ1 [x0, x1, r1] (σf, rf, _) := (ihP tP_CP_run_p59 _ _ _ h).1
        exact hm _ _ _ rfl w1 tx h30 hn p e s m args below meth c F Lo mc ms cells slots σ0 w0 tx0 hF hLo hcq hsq hga1 C
      · replace h := it_f hc h
        refine ax_aload_n (pc := 51) C d_CP_run_51 rfl 1 rfl ?_
        refine cg_0_8_CP_69 (pc := 52) C d_CP_run_52 ?_
        refine ax_iload_n (pc := 55) C d_CP_run_55 rfl 0 rfl ?_
        replace h := it_b h
        obtain ⟨σ2, r2, d1_2, d2_2, h1, h, hd2, hd1⟩ := h
        replace hle := hG _ _ _ _ (by decide) h1
        dsimp only at hle
        replace hmn : gle2 σ2 σf := g2_use h (g2_tail hG2)
        replace hm : sG_Sat_inferFrom l D kA u σ1 [r1] (σ2, r2, d1_2) := ih tG_Sat_inferFrom _ _ _ h1
        refine gc_Vv (pc := 56) C (As := [.int r1]) (rest := []) (hm _ rfl w1 tx) ml_CP_147 53 rfl rfl rfl d_CP_run_56 rfl rfl (by dsimp only; omega) (by dsimp only; omega) (by have := hmn.1; have := hle.1; dsimp only; omega) (by have := hmn.2; have := hle.2; dsimp only; omega) (Nat.le_of_ble_eq_true rfl) (fun w1 hw => ?_)
        obtain ⟨w2, tx2, hag2, htq2, hwq2⟩ := hw
        dsimp only at hwq2
        subst hwq2
        dsimp only
        replace htq2 := htq2.symm
        subst htq2
        have hga2 : ∀ i, ([48, 50, 52, 56, 58, 65] : List Nat).elem i = false → w2 i = w0 i := fun i hi => (hag2 i (by revert hi; exact el_sub (by decide))).trans (hga1 i hi)
        replace h30 : σ2.2.2 3000 = 0 := hle.2.2.symm.trans h30
        replace hcq : (cells + (σ2.2.2 3001 - σ1.2.2 3001)) + σf.2.2 3001 ≤ mc + σ2.2.2 3001 := by have := hmn.1; have := hle.1; omega
        replace hcm : (cells + (σ2.2.2 3001 - σ1.2.2 3001)) ≤ mc := by have := hmn.1; have := hle.1; omega
        generalize cells + (σ2.2.2 3001 - σ1.2.2 3001) = cells at hcq hcm ⊢
        replace hsq : (slots + (σ2.2.2 3002 - σ1.2.2 3002)) + σf.2.2 3002 ≤ ms + σ2.2.2 3002 := by have := hmn.2; have := hle.2; omega
        replace hsm : (slots + (σ2.2.2 3002 - σ1.2.2 3002)) ≤ ms := by have := hmn.2; have := hle.2; omega
        generalize slots + (σ2.2.2 3002 - σ1.2.2 3002) = slots at hsq hsm ⊢
        replace hF : d2_2 + 3 ≤ F := by omega
        replace hLo : 48 * d2_2 + 144 ≤ Lo := by omega
        refine ax_ls ([(0, .ref (u 0)), (1, .int x0), (2, .int x1), (3, .int r1)]) [1, 2, 3, 0] rfl ?_
        replace hm : sPn_CP_run_p59 l D kA u σ2 [x0, x1, r1] (σf, rf, _) := (ihP tP_CP_run_p59 _ _ _ h).1
        exact hm _ _ _ rfl w2 tx h30 hn p e s m args below meth c F Lo mc ms cells slots σ0 w0 tx0 hF hLo hcq hsq hga2 C
set_option maxHeartbeats 4000000 in
set_option maxRecDepth 100000 in
theorem oPx2_CP_run_p23 (l : Launch) (D : va_G) (kA : Nat → ClassId) (u : Nat → Nat) (rec : mF) (hG : GM rec) (hG2 : GM2 rec) (ihC : ∀ (w : Nat → Nat) (tx : Value) t σ xs res, rec t σ xs = some res → cSem l D kA u w tx t σ xs res) (ih : ∀ t σ xs res, rec t σ xs = some res → gSem l D kA u t σ xs res) (ihP : ∀ t σ xs res, rec t σ xs = some res → pSem l D kA u t σ xs res) (σ : mS) (xs : List Int32) (res : mR) (h : u_2 (kP_CP_run_p23 rec σ) xs = some res) : sPx2_CP_run_p23 l D kA u σ xs res := by
  intro x0 x1 hxs w tx h30 hn
  subst hxs
  obtain ⟨σf, rf, dd⟩ := res
  dsimp only at hn
  have hmn : gle2 σ σf := qP_CP_run_p23 rec hG2 σ x0 x1 _ h
  have h : (if x0 ≤ x1 then (rec tP_CP_run_p65 σ [x0, x1]) else (if (σ.1 5300) = 0 then (bnd (rec tG_Sat_takeGiven σ []) (fun σ1 r1 => if r1 = (-1) then (rec tP_CP_run_p59 σ1 [x0, x1, r1]) else (bnd (rec tG_Sat_inferFrom σ1 [r1]) (fun σ2 r2 => rec tP_CP_run_p59 σ2 [x0, x1, r1])))) else (rec tP_CP_run_p65 σ [x0, x1]))) = some (σf, rf, dd) := h
  intro p e s m args below meth c F Lo mc ms cells slots σ0 w0 tx0 hF hLo hcq hsq hga C hadm htr hex hX hP0
  dsimp only at hF hLo hcq hsq ⊢
  have hcm : cells ≤ mc := by have := hmn.1; omega
  have hsm : slots ≤ ms := by have := hmn.2; omega
  have hle : True := trivial
  have hm : True := trivial
  refine ax_iload_n (pc := 23) C d_CP_run_23 rfl 2 rfl ?_
  refine ax_iload_n (pc := 24) C d_CP_run_24 rfl 1 rfl ?_
  refine ax_icmp_ge (pc := 25) C 65 d_CP_run_25 (by decide) (fun hc => ?_) (fun hc => ?_)
  · replace h := it_t hc h
    refine ax_ls ([(0, .ref (u 0)), (1, .int x0), (2, .int x1)]) [0, 1, 2] rfl ?_
    replace hm : sPx2_CP_run_p65 l D kA u σ [x0, x1] (σf, rf, _) := (ihP tP_CP_run_p65 _ _ _ h).2
    exact hm _ _ rfl w tx h30 hn p e s m args below meth c F Lo mc ms cells slots σ0 w0 tx0 hF hLo hcq hsq hga C hadm htr hex hX hP0
  · replace h := it_f hc h
    refine ax_aload_n (pc := 28) C d_CP_run_28 rfl 0 rfl ?_
    refine cg_0_8_CP_69 (pc := 29) C d_CP_run_29 ?_
    refine cg_53_0_CP_140 (pc := 32) C d_CP_run_32 ?_
    refine ax_if_ne (pc := 35) C 65 d_CP_run_35 (by decide) (fun hc => ?_) (fun hc => ?_)
    · replace h := it_f hc h
      refine ax_ls ([(0, .ref (u 0)), (1, .int x0), (2, .int x1)]) [0, 1, 2] rfl ?_
      replace hm : sPx2_CP_run_p65 l D kA u σ [x0, x1] (σf, rf, _) := (ihP tP_CP_run_p65 _ _ _ h).2
      exact hm _ _ rfl w tx h30 hn p e s m args below meth c F Lo mc ms cells slots σ0 w0 tx0 hF hLo hcq hsq hga C hadm htr hex hX hP0
    · replace h := it_t hc h
      refine ax_aload_n (pc := 38) C d_CP_run_38 rfl 0 rfl ?_
      refine cg_0_8_CP_69 (pc := 39) C d_CP_run_39 ?_
      replace h := it_b h
      obtain ⟨σ1, r1, d1_1, d2_1, h1, h, hd2, hd1⟩ := h
      replace hle := hG _ _ _ _ (by decide) h1
      dsimp only at hle
      replace hmn : gle2 σ1 σf := g2_use h (g2_if (g2_tail hG2) (g2_bnd hG2 (fun _ _ => (g2_tail hG2))))
      replace hm : sG_Sat_takeGiven l D kA u σ [] (σ1, r1, d1_1) := ih tG_Sat_takeGiven _ _ _ h1
      refine gc_Vi (pc := 42) C (As := []) (rest := []) (hm rfl w tx) ml_CP_143 53 rfl rfl rfl d_CP_run_42 rfl rfl (by dsimp only; omega) (by dsimp only; omega) (by have := hmn.1; have := hle.1; dsimp only; omega) (by have := hmn.2; have := hle.2; dsimp only; omega) (Nat.le_of_ble_eq_true rfl) (fun r9 w1 hw => ?_)
      obtain ⟨hrq1, w1, tx1, hag1, htq1, hwq1⟩ := hw
      dsimp only at hwq1 hrq1
      subst hwq1
      replace hrq1 := hrq1.symm
      subst hrq1
      dsimp only
      replace htq1 := htq1.symm
      subst htq1
      have hga1 : ∀ i, ([48, 50, 52, 56, 58, 65] : List Nat).elem i = false → w1 i = w0 i := fun i hi => (hag1 i (by revert hi; exact el_sub (by decide))).trans (hga i hi)
      replace h30 : σ1.2.2 3000 = 0 := hle.2.2.symm.trans h30
      replace hcq : (cells + (σ1.2.2 3001 - σ.2.2 3001)) + σf.2.2 3001 ≤ mc + σ1.2.2 3001 := by have := hmn.1; have := hle.1; omega
      replace hcm : (cells + (σ1.2.2 3001 - σ.2.2 3001)) ≤ mc := by have := hmn.1; have := hle.1; omega
      generalize cells + (σ1.2.2 3001 - σ.2.2 3001) = cells at hcq hcm ⊢
      replace hsq : (slots + (σ1.2.2 3002 - σ.2.2 3002)) + σf.2.2 3002 ≤ ms + σ1.2.2 3002 := by have := hmn.2; have := hle.2; omega
      replace hsm : (slots + (σ1.2.2 3002 - σ.2.2 3002)) ≤ ms := by have := hmn.2; have := hle.2; omega
      generalize slots + (σ1.2.2 3002 - σ.2.2 3002) = slots at hsq hsm ⊢
      replace hF : d2_1 + 6 ≤ F := by omega
      replace hLo : 48 * d2_1 + 144 ≤ Lo := by omega
      refine ax_istore_n (pc := 45) C d_CP_run_45 rfl (Nat.le_of_ble_eq_true rfl) ([(3, .int r1), (0, .ref (u 0)), (1, .int x0), (2, .int x1)]) rfl ?_
      refine ax_iload_n (pc := 46) C d_CP_run_46 rfl 0 rfl ?_
      refine ax_iconst (pc := 47) C (-1) d_CP_run_47 (by decide +kernel) ?_
      refine ax_icmp_eq (pc := 48) C 59 d_CP_run_48 (by decide) (fun hc => ?_) (fun hc => ?_)
      · replace h := it_t hc h
        refine ax_ls ([(0, .ref (u 0)), (1, .int x0), (2, .int x1), (3, .int r1)]) [1, 2, 3, 0] rfl ?_
        replace hm : sPx2_CP_run_p59 l D kA u σ1 [x0, x1, r1] (σf, rf, _) := (ihP tP_CP_run_p59 _ _ _ h).2
        exact hm _ _ _ rfl w1 tx h30 hn p e s m args below meth c F Lo mc ms cells slots σ0 w0 tx0 hF hLo hcq hsq hga1 C hadm htr hex hX hP0
      · replace h := it_f hc h
        refine ax_aload_n (pc := 51) C d_CP_run_51 rfl 1 rfl ?_
        refine cg_0_8_CP_69 (pc := 52) C d_CP_run_52 ?_
        refine ax_iload_n (pc := 55) C d_CP_run_55 rfl 0 rfl ?_
        replace h := it_b h
        obtain ⟨σ2, r2, d1_2, d2_2, h1, h, hd2, hd1⟩ := h
        replace hle := hG _ _ _ _ (by decide) h1
        dsimp only at hle
        replace hmn : gle2 σ2 σf := g2_use h (g2_tail hG2)
        replace hm : sG_Sat_inferFrom l D kA u σ1 [r1] (σ2, r2, d1_2) := ih tG_Sat_inferFrom _ _ _ h1
        refine gc_Vv (pc := 56) C (As := [.int r1]) (rest := []) (hm _ rfl w1 tx) ml_CP_147 53 rfl rfl rfl d_CP_run_56 rfl rfl (by dsimp only; omega) (by dsimp only; omega) (by have := hmn.1; have := hle.1; dsimp only; omega) (by have := hmn.2; have := hle.2; dsimp only; omega) (Nat.le_of_ble_eq_true rfl) (fun w1 hw => ?_)
        obtain ⟨w2, tx2, hag2, htq2, hwq2⟩ := hw
        dsimp only at hwq2
        subst hwq2
        dsimp only
        replace htq2 := htq2.symm
        subst htq2
        have hga2 : ∀ i, ([48, 50, 52, 56, 58, 65] : List Nat).elem i = false → w2 i = w0 i := fun i hi => (hag2 i (by revert hi; exact el_sub (by decide))).trans (hga1 i hi)
        replace h30 : σ2.2.2 3000 = 0 := hle.2.2.symm.trans h30
        replace hcq : (cells + (σ2.2.2 3001 - σ1.2.2 3001)) + σf.2.2 3001 ≤ mc + σ2.2.2 3001 := by have := hmn.1; have := hle.1; omega
        replace hcm : (cells + (σ2.2.2 3001 - σ1.2.2 3001)) ≤ mc := by have := hmn.1; have := hle.1; omega
        generalize cells + (σ2.2.2 3001 - σ1.2.2 3001) = cells at hcq hcm ⊢
        replace hsq : (slots + (σ2.2.2 3002 - σ1.2.2 3002)) + σf.2.2 3002 ≤ ms + σ2.2.2 3002 := by have := hmn.2; have := hle.2; omega
        replace hsm : (slots + (σ2.2.2 3002 - σ1.2.2 3002)) ≤ ms := by have := hmn.2; have := hle.2; omega
        generalize slots + (σ2.2.2 3002 - σ1.2.2 3002) = slots at hsq hsm ⊢
        replace hF : d2_2 + 6 ≤ F := by omega
        replace hLo : 48 * d2_2 + 144 ≤ Lo := by omega
        refine ax_ls ([(0, .ref (u 0)), (1, .int x0), (2, .int x1), (3, .int r1)]) [1, 2, 3, 0] rfl ?_
        replace hm : sPx2_CP_run_p59 l D kA u σ2 [x0, x1, r1] (σf, rf, _) := (ihP tP_CP_run_p59 _ _ _ h).2
        exact hm _ _ _ rfl w2 tx h30 hn p e s m args below meth c F Lo mc ms cells slots σ0 w0 tx0 hF hLo hcq hsq hga2 C hadm htr hex hX hP0
set_option maxHeartbeats 4000000 in
set_option maxRecDepth 100000 in
theorem oPn_CP_run_p59 (l : Launch) (D : va_G) (kA : Nat → ClassId) (u : Nat → Nat) (rec : mF) (hG : GM rec) (hG2 : GM2 rec) (ihC : ∀ (w : Nat → Nat) (tx : Value) t σ xs res, rec t σ xs = some res → cSem l D kA u w tx t σ xs res) (ih : ∀ t σ xs res, rec t σ xs = some res → gSem l D kA u t σ xs res) (ihP : ∀ t σ xs res, rec t σ xs = some res → pSem l D kA u t σ xs res) (σ : mS) (xs : List Int32) (res : mR) (h : u_3 (kP_CP_run_p59 rec σ) xs = some res) : sPn_CP_run_p59 l D kA u σ xs res := by
  intro x0 x1 x2 hxs w tx h30 hn
  subst hxs
  obtain ⟨σf, rf, dd⟩ := res
  dsimp only at hn
  have hmn : gle2 σ σf := qP_CP_run_p59 rec hG2 σ x0 x1 x2 _ h
  have h : (rec tP_CP_run_p23 σ [x0, (x1 + 1)]) = some (σf, rf, dd) := h
  intro p e s m args below meth c F Lo mc ms cells slots σ0 w0 tx0 hF hLo hcq hsq hga C
  dsimp only at hF hLo hcq hsq ⊢
  have hcm : cells ≤ mc := by have := hmn.1; omega
  have hsm : slots ≤ ms := by have := hmn.2; omega
  have hle : True := trivial
  have hm : True := trivial
  refine ax_iinc (pc := 59) C (x1 + 1) d_CP_run_59 2 rfl rfl (Nat.le_of_ble_eq_true rfl) ([(2, .int (x1 + 1)), (0, .ref (u 0)), (1, .int x0), (3, .int x2)]) rfl ?_
  refine ax_goto (pc := 62) C 23 d_CP_run_62 (by decide) ?_
  refine ax_ls ([(0, .ref (u 0)), (1, .int x0), (2, .int (x1 + 1))]) [1, 2, 0] rfl ?_
  replace hm : sPn_CP_run_p23 l D kA u σ [x0, (x1 + 1)] (σf, rf, _) := (ihP tP_CP_run_p23 _ _ _ h).1
  exact hm _ _ rfl w tx h30 hn p e s m args below meth c F Lo mc ms cells slots σ0 w0 tx0 hF hLo hcq hsq hga C
set_option maxHeartbeats 4000000 in
set_option maxRecDepth 100000 in
theorem oPx2_CP_run_p59 (l : Launch) (D : va_G) (kA : Nat → ClassId) (u : Nat → Nat) (rec : mF) (hG : GM rec) (hG2 : GM2 rec) (ihC : ∀ (w : Nat → Nat) (tx : Value) t σ xs res, rec t σ xs = some res → cSem l D kA u w tx t σ xs res) (ih : ∀ t σ xs res, rec t σ xs = some res → gSem l D kA u t σ xs res) (ihP : ∀ t σ xs res, rec t σ xs = some res → pSem l D kA u t σ xs res) (σ : mS) (xs : List Int32) (res : mR) (h : u_3 (kP_CP_run_p59 rec σ) xs = some res) : sPx2_CP_run_p59 l D kA u σ xs res := by
  intro x0 x1 x2 hxs w tx h30 hn
  subst hxs
  obtain ⟨σf, rf, dd⟩ := res
  dsimp only at hn
  have hmn : gle2 σ σf := qP_CP_run_p59 rec hG2 σ x0 x1 x2 _ h
  have h : (rec tP_CP_run_p23 σ [x0, (x1 + 1)]) = some (σf, rf, dd) := h
  intro p e s m args below meth c F Lo mc ms cells slots σ0 w0 tx0 hF hLo hcq hsq hga C hadm htr hex hX hP0
  dsimp only at hF hLo hcq hsq ⊢
  have hcm : cells ≤ mc := by have := hmn.1; omega
  have hsm : slots ≤ ms := by have := hmn.2; omega
  have hle : True := trivial
  have hm : True := trivial
  refine ax_iinc (pc := 59) C (x1 + 1) d_CP_run_59 2 rfl rfl (Nat.le_of_ble_eq_true rfl) ([(2, .int (x1 + 1)), (0, .ref (u 0)), (1, .int x0), (3, .int x2)]) rfl ?_
  refine ax_goto (pc := 62) C 23 d_CP_run_62 (by decide) ?_
  refine ax_ls ([(0, .ref (u 0)), (1, .int x0), (2, .int (x1 + 1))]) [1, 2, 0] rfl ?_
  replace hm : sPx2_CP_run_p23 l D kA u σ [x0, (x1 + 1)] (σf, rf, _) := (ihP tP_CP_run_p23 _ _ _ h).2
  exact hm _ _ rfl w tx h30 hn p e s m args below meth c F Lo mc ms cells slots σ0 w0 tx0 hF hLo hcq hsq hga C hadm htr hex hX hP0
set_option maxHeartbeats 4000000 in
set_option maxRecDepth 100000 in
theorem oPn_CP_run_p65 (l : Launch) (D : va_G) (kA : Nat → ClassId) (u : Nat → Nat) (rec : mF) (hG : GM rec) (hG2 : GM2 rec) (ihC : ∀ (w : Nat → Nat) (tx : Value) t σ xs res, rec t σ xs = some res → cSem l D kA u w tx t σ xs res) (ih : ∀ t σ xs res, rec t σ xs = some res → gSem l D kA u t σ xs res) (ihP : ∀ t σ xs res, rec t σ xs = some res → pSem l D kA u t σ xs res) (σ : mS) (xs : List Int32) (res : mR) (h : u_2 (kP_CP_run_p65 rec σ) xs = some res) : sPn_CP_run_p65 l D kA u σ xs res := by
  intro x0 x1 hxs w tx h30 hn
  subst hxs
  obtain ⟨σf, rf, dd⟩ := res
  dsimp only at hn
  have hmn : gle2 σ σf := qP_CP_run_p65 rec hG2 σ x0 x1 _ h
  have h : (some (σ, (σ.1 5300), 0)) = some (σf, rf, dd) := h
  intro p e s m args below meth c F Lo mc ms cells slots σ0 w0 tx0 hF hLo hcq hsq hga C
  dsimp only at hF hLo hcq hsq ⊢
  have hcm : cells ≤ mc := by have := hmn.1; omega
  have hsm : slots ≤ ms := by have := hmn.2; omega
  have hle : True := trivial
  have hm : True := trivial
  refine ax_aload_n (pc := 65) C d_CP_run_65 rfl 0 rfl ?_
  refine cg_0_8_CP_69 (pc := 66) C d_CP_run_66 ?_
  refine cg_53_0_CP_140 (pc := 69) C d_CP_run_69 ?_
  cases h
  exact ax_iret (pc := 72) C d_CP_run_72 ⟨rfl, w, tx, hga, rfl, rfl⟩ hcm hsm
set_option maxHeartbeats 4000000 in
set_option maxRecDepth 100000 in
theorem oPx2_CP_run_p65 (l : Launch) (D : va_G) (kA : Nat → ClassId) (u : Nat → Nat) (rec : mF) (hG : GM rec) (hG2 : GM2 rec) (ihC : ∀ (w : Nat → Nat) (tx : Value) t σ xs res, rec t σ xs = some res → cSem l D kA u w tx t σ xs res) (ih : ∀ t σ xs res, rec t σ xs = some res → gSem l D kA u t σ xs res) (ihP : ∀ t σ xs res, rec t σ xs = some res → pSem l D kA u t σ xs res) (σ : mS) (xs : List Int32) (res : mR) (h : u_2 (kP_CP_run_p65 rec σ) xs = some res) : sPx2_CP_run_p65 l D kA u σ xs res := by
  intro x0 x1 hxs w tx h30 hn
  subst hxs
  obtain ⟨σf, rf, dd⟩ := res
  dsimp only at hn
  have hmn : gle2 σ σf := qP_CP_run_p65 rec hG2 σ x0 x1 _ h
  have h : (some (σ, (σ.1 5300), 0)) = some (σf, rf, dd) := h
  intro p e s m args below meth c F Lo mc ms cells slots σ0 w0 tx0 hF hLo hcq hsq hga C hadm htr hex hX hP0
  dsimp only at hF hLo hcq hsq ⊢
  have hcm : cells ≤ mc := by have := hmn.1; omega
  have hsm : slots ≤ ms := by have := hmn.2; omega
  have hle : True := trivial
  have hm : True := trivial
  refine ax_aload_n (pc := 65) C d_CP_run_65 rfl 0 rfl ?_
  refine cg_0_8_CP_69 (pc := 66) C d_CP_run_66 ?_
  refine cg_53_0_CP_140 (pc := 69) C d_CP_run_69 ?_
  cases h
  exact absurd (h30.symm.trans hn) (by decide)
set_option maxHeartbeats 4000000 in
set_option maxRecDepth 100000 in
theorem oPn_CP_search (l : Launch) (D : va_G) (kA : Nat → ClassId) (u : Nat → Nat) (rec : mF) (hG : GM rec) (hG2 : GM2 rec) (ihC : ∀ (w : Nat → Nat) (tx : Value) t σ xs res, rec t σ xs = some res → cSem l D kA u w tx t σ xs res) (ih : ∀ t σ xs res, rec t σ xs = some res → gSem l D kA u t σ xs res) (ihP : ∀ t σ xs res, rec t σ xs = some res → pSem l D kA u t σ xs res) (σ : mS) (xs : List Int32) (res : mR) (h : u_3 (kP_CP_search rec σ) xs = some res) : sPn_CP_search l D kA u σ xs res := by
  intro x0 x1 x2 hxs w tx h30 hn
  subst hxs
  obtain ⟨σf, rf, dd⟩ := res
  dsimp only at hn
  have hmn : gle2 σ σf := qP_CP_search rec hG2 σ x0 x1 x2 _ h
  have h : (if x1 < 1 then (rec tP_CP_search_p21 σ [x0, x1, x2]) else (if 3 < x1 then (rec tP_CP_search_p21 σ [x0, x1, x2]) else (if x2 < 1 then (rec tP_CP_search_p21 σ [x0, x1, x2]) else (if x2 ≤ 50 then (rec tP_CP_search_p35 σ [x0, x1, x2, 0]) else (rec tP_CP_search_p21 σ [x0, x1, x2]))))) = some (σf, rf, dd) := h
  refine ax_Mi.of (by decide +kernel) (Nat.le_of_ble_eq_true rfl) ?_
  intro p e s m args below meth c C hnm
  replace C : ax_C p s m args meth c b_CP_search "ClauseProver" 5 (some .int) D kA (va_A (cpW kA u w tx σ) s.heap.size) := C
  obtain ⟨F, hFe⟩ : ∃ z, z = dd + 3 := ⟨_, rfl⟩
  obtain ⟨Lo, hLoe⟩ : ∃ z, z = 48 * dd + 144 := ⟨_, rfl⟩
  obtain ⟨mc, hmce⟩ : ∃ z, z = σf.2.2 3001 - σ.2.2 3001 := ⟨_, rfl⟩
  obtain ⟨ms, hmse⟩ : ∃ z, z = σf.2.2 3002 - σ.2.2 3002 := ⟨_, rfl⟩
  obtain ⟨σ0, hσ0e⟩ : ∃ z, z = σ := ⟨_, rfl⟩
  obtain ⟨w0, hw0e⟩ : ∃ z, z = w := ⟨_, rfl⟩
  obtain ⟨tx0, htx0e⟩ : ∃ z, z = tx := ⟨_, rfl⟩
  suffices K : ∀ (cells slots : Nat), cells = 0 → slots = 0 → AW p l e { frames := F, cells := mc, slots := ms, locals := Lo } s m args below meth c D kA (va_A (cpW kA u w0 tx0 σ0) s.heap.size) 5 (ax_Qi below args s D kA (cpW kA u w0 tx0 σ0) mc ms (fun r w1 => r = rf ∧ ∃ (w2 : Nat → Nat) (tx2 : Value), (∀ i, ([] : List Nat).elem i = false → w2 i = w0 i) ∧ tx2 = tx0 ∧ w1 = cpW kA u w2 tx2 σf)) 0 [(0, .ref (u 0)), (1, .int x0), (2, .int x1), (3, .int x2)] [] (cpW kA u w tx σ) cells slots by
    have K := K 0 0 rfl rfl
    rw [hFe, hLoe, hmce, hmse, hσ0e, hw0e, htx0e] at K
    exact ax_ls ([(0, .ref (u 0)), (1, .int x0), (2, .int x1), (3, .int x2)]) [0, 1, 2, 3] rfl K
  replace C : ax_C p s m args meth c b_CP_search "ClauseProver" 5 (some .int) D kA (va_A (cpW kA u w0 tx0 σ0) s.heap.size) := by rw [hσ0e, hw0e, htx0e]; exact C
  intro cells slots hc0 hs0
  have hcq : cells + σf.2.2 3001 ≤ mc + σ.2.2 3001 := by have := hmn.1; omega
  have hsq : slots + σf.2.2 3002 ≤ ms + σ.2.2 3002 := by have := hmn.2; omega
  have hga : ∀ i, ([] : List Nat).elem i = false → w i = w0 i := fun i _ => by rw [hw0e]
  have e9 : tx = tx0 := htx0e.symm
  subst e9
  have hF : dd + 3 ≤ F := by omega
  have hLo : 48 * dd + 144 ≤ Lo := by omega
  have hcm : cells ≤ mc := by have := hmn.1; omega
  have hsm : slots ≤ ms := by have := hmn.2; omega
  have hle : True := trivial
  have hm : True := trivial
  refine ax_iload_n (pc := 0) C d_CP_search_0 rfl 2 rfl ?_
  refine ax_iconst (pc := 1) C 1 d_CP_search_1 (by decide +kernel) ?_
  refine ax_icmp_lt (pc := 2) C 21 d_CP_search_2 (by decide) (fun hc => ?_) (fun hc => ?_)
  · replace h := it_t hc h
    refine ax_ls ([(0, .ref (u 0)), (1, .int x0), (2, .int x1), (3, .int x2)]) [0, 1, 2, 3] rfl ?_
    replace hm : sPn_CP_search_p21 l D kA u σ [x0, x1, x2] (σf, rf, _) := (ihP tP_CP_search_p21 _ _ _ h).1
    exact hm _ _ _ rfl w tx h30 hn p e s m args below meth c F Lo mc ms cells slots σ0 w0 tx hF hLo hcq hsq hga C
  · replace h := it_f hc h
    refine ax_iload_n (pc := 5) C d_CP_search_5 rfl 2 rfl ?_
    refine ax_iconst (pc := 6) C 3 d_CP_search_6 (by decide +kernel) ?_
    refine ax_icmp_gt (pc := 7) C 21 d_CP_search_7 (by decide) (fun hc => ?_) (fun hc => ?_)
    · replace h := it_t hc h
      refine ax_ls ([(0, .ref (u 0)), (1, .int x0), (2, .int x1), (3, .int x2)]) [0, 1, 2, 3] rfl ?_
      replace hm : sPn_CP_search_p21 l D kA u σ [x0, x1, x2] (σf, rf, _) := (ihP tP_CP_search_p21 _ _ _ h).1
      exact hm _ _ _ rfl w tx h30 hn p e s m args below meth c F Lo mc ms cells slots σ0 w0 tx hF hLo hcq hsq hga C
    · replace h := it_f hc h
      refine ax_iload_n (pc := 10) C d_CP_search_10 rfl 3 rfl ?_
      refine ax_iconst (pc := 11) C 1 d_CP_search_11 (by decide +kernel) ?_
      refine ax_icmp_lt (pc := 12) C 21 d_CP_search_12 (by decide) (fun hc => ?_) (fun hc => ?_)
      · replace h := it_t hc h
        refine ax_ls ([(0, .ref (u 0)), (1, .int x0), (2, .int x1), (3, .int x2)]) [0, 1, 2, 3] rfl ?_
        replace hm : sPn_CP_search_p21 l D kA u σ [x0, x1, x2] (σf, rf, _) := (ihP tP_CP_search_p21 _ _ _ h).1
        exact hm _ _ _ rfl w tx h30 hn p e s m args below meth c F Lo mc ms cells slots σ0 w0 tx hF hLo hcq hsq hga C
      · replace h := it_f hc h
        refine ax_iload_n (pc := 15) C d_CP_search_15 rfl 3 rfl ?_
        refine ax_bipush (pc := 16) C 50 d_CP_search_16 (by decide +kernel) ?_
        refine ax_icmp_le (pc := 18) C 32 d_CP_search_18 (by decide) (fun hc => ?_) (fun hc => ?_)
        · replace h := it_t hc h
          refine ax_iconst (pc := 32) C 0 d_CP_search_32 (by decide +kernel) ?_
          refine ax_istore (pc := 33) C d_CP_search_33 (Nat.le_of_ble_eq_true rfl) ([(4, .int 0), (0, .ref (u 0)), (1, .int x0), (2, .int x1), (3, .int x2)]) rfl ?_
          refine ax_ls ([(0, .ref (u 0)), (1, .int x0), (2, .int x1), (3, .int x2), (4, .int 0)]) [1, 2, 3, 4, 0] rfl ?_
          replace hm : sPn_CP_search_p35 l D kA u σ [x0, x1, x2, 0] (σf, rf, _) := (ihP tP_CP_search_p35 _ _ _ h).1
          exact hm _ _ _ _ rfl w tx h30 hn p e s m args below meth c F Lo mc ms cells slots σ0 w0 tx hF hLo hcq hsq hga C
        · replace h := it_f hc h
          refine ax_ls ([(0, .ref (u 0)), (1, .int x0), (2, .int x1), (3, .int x2)]) [0, 1, 2, 3] rfl ?_
          replace hm : sPn_CP_search_p21 l D kA u σ [x0, x1, x2] (σf, rf, _) := (ihP tP_CP_search_p21 _ _ _ h).1
          exact hm _ _ _ rfl w tx h30 hn p e s m args below meth c F Lo mc ms cells slots σ0 w0 tx hF hLo hcq hsq hga C
set_option maxHeartbeats 4000000 in
set_option maxRecDepth 100000 in
theorem oPx2_CP_search (l : Launch) (D : va_G) (kA : Nat → ClassId) (u : Nat → Nat) (rec : mF) (hG : GM rec) (hG2 : GM2 rec) (ihC : ∀ (w : Nat → Nat) (tx : Value) t σ xs res, rec t σ xs = some res → cSem l D kA u w tx t σ xs res) (ih : ∀ t σ xs res, rec t σ xs = some res → gSem l D kA u t σ xs res) (ihP : ∀ t σ xs res, rec t σ xs = some res → pSem l D kA u t σ xs res) (σ : mS) (xs : List Int32) (res : mR) (h : u_3 (kP_CP_search rec σ) xs = some res) : sPx2_CP_search l D kA u σ xs res := by
  intro x0 x1 x2 hxs w tx h30 hn
  subst hxs
  obtain ⟨σf, rf, dd⟩ := res
  dsimp only at hn
  have hmn : gle2 σ σf := qP_CP_search rec hG2 σ x0 x1 x2 _ h
  have h : (if x1 < 1 then (rec tP_CP_search_p21 σ [x0, x1, x2]) else (if 3 < x1 then (rec tP_CP_search_p21 σ [x0, x1, x2]) else (if x2 < 1 then (rec tP_CP_search_p21 σ [x0, x1, x2]) else (if x2 ≤ 50 then (rec tP_CP_search_p35 σ [x0, x1, x2, 0]) else (rec tP_CP_search_p21 σ [x0, x1, x2]))))) = some (σf, rf, dd) := h
  intro htr
  refine ax_Mx.of (by decide +kernel) (Nat.le_of_ble_eq_true rfl) ?_
  intro p e s m args below meth c C hadm hex hX hP0
  replace C : ax_C p s m args meth c b_CP_search "ClauseProver" 5 (some .int) D kA (va_A (cpW kA u w tx σ) s.heap.size) := C
  obtain ⟨F, hFe⟩ : ∃ z, z = dd + 6 := ⟨_, rfl⟩
  obtain ⟨Lo, hLoe⟩ : ∃ z, z = 48 * dd + 144 := ⟨_, rfl⟩
  obtain ⟨mc, hmce⟩ : ∃ z, z = σf.2.2 3001 - σ.2.2 3001 := ⟨_, rfl⟩
  obtain ⟨ms, hmse⟩ : ∃ z, z = σf.2.2 3002 - σ.2.2 3002 := ⟨_, rfl⟩
  obtain ⟨σ0, hσ0e⟩ : ∃ z, z = σ := ⟨_, rfl⟩
  obtain ⟨w0, hw0e⟩ : ∃ z, z = w := ⟨_, rfl⟩
  obtain ⟨tx0, htx0e⟩ : ∃ z, z = tx := ⟨_, rfl⟩
  suffices K : ∀ (cells slots : Nat), cells = 0 → slots = 0 → AW p l e { frames := F, cells := mc, slots := ms, locals := Lo } s m args below meth c D kA (va_A (cpW kA u w0 tx0 σ0) s.heap.size) 5 (ax_QX below s D kA (cpW kA u w0 tx0 σ0) mc ms "java/lang/IllegalArgumentException" (fun w1 => ∃ w2 : Nat → Nat, (∀ i, ([] : List Nat).elem i = false → w2 i = w0 i) ∧ w1 = cpW kA u w2 tx0 σf)) 0 [(0, .ref (u 0)), (1, .int x0), (2, .int x1), (3, .int x2)] [] (cpW kA u w tx σ) cells slots by
    have K := K 0 0 rfl rfl
    rw [hFe, hLoe, hmce, hmse, hσ0e, hw0e, htx0e] at K
    exact ax_ls ([(0, .ref (u 0)), (1, .int x0), (2, .int x1), (3, .int x2)]) [0, 1, 2, 3] rfl K
  replace C : ax_C p s m args meth c b_CP_search "ClauseProver" 5 (some .int) D kA (va_A (cpW kA u w0 tx0 σ0) s.heap.size) := by rw [hσ0e, hw0e, htx0e]; exact C
  replace hX : ax_X (va_A (cpW kA u w0 tx0 σ0) s.heap.size) s s.heap := by rw [hσ0e, hw0e, htx0e]; exact hX
  replace hP0 : va_P D ax_cl (cpW kA u w0 tx0 σ0) s.heap := by rw [hσ0e, hw0e, htx0e]; exact hP0
  intro cells slots hc0 hs0
  have hcq : cells + σf.2.2 3001 ≤ mc + σ.2.2 3001 := by have := hmn.1; omega
  have hsq : slots + σf.2.2 3002 ≤ ms + σ.2.2 3002 := by have := hmn.2; omega
  have hga : ∀ i, ([] : List Nat).elem i = false → w i = w0 i := fun i _ => by rw [hw0e]
  have e9 : tx = tx0 := htx0e.symm
  subst e9
  have hF : dd + 6 ≤ F := by omega
  have hLo : 48 * dd + 144 ≤ Lo := by omega
  have hcm : cells ≤ mc := by have := hmn.1; omega
  have hsm : slots ≤ ms := by have := hmn.2; omega
  have hle : True := trivial
  have hm : True := trivial
  refine ax_iload_n (pc := 0) C d_CP_search_0 rfl 2 rfl ?_
  refine ax_iconst (pc := 1) C 1 d_CP_search_1 (by decide +kernel) ?_
  refine ax_icmp_lt (pc := 2) C 21 d_CP_search_2 (by decide) (fun hc => ?_) (fun hc => ?_)
  · replace h := it_t hc h
    refine ax_ls ([(0, .ref (u 0)), (1, .int x0), (2, .int x1), (3, .int x2)]) [0, 1, 2, 3] rfl ?_
    replace hm : sPx2_CP_search_p21 l D kA u σ [x0, x1, x2] (σf, rf, _) := (ihP tP_CP_search_p21 _ _ _ h).2
    exact hm _ _ _ rfl w tx h30 hn p e s m args below meth c F Lo mc ms cells slots σ0 w0 tx hF hLo hcq hsq hga C hadm htr hex hX hP0
  · replace h := it_f hc h
    refine ax_iload_n (pc := 5) C d_CP_search_5 rfl 2 rfl ?_
    refine ax_iconst (pc := 6) C 3 d_CP_search_6 (by decide +kernel) ?_
    refine ax_icmp_gt (pc := 7) C 21 d_CP_search_7 (by decide) (fun hc => ?_) (fun hc => ?_)
    · replace h := it_t hc h
      refine ax_ls ([(0, .ref (u 0)), (1, .int x0), (2, .int x1), (3, .int x2)]) [0, 1, 2, 3] rfl ?_
      replace hm : sPx2_CP_search_p21 l D kA u σ [x0, x1, x2] (σf, rf, _) := (ihP tP_CP_search_p21 _ _ _ h).2
      exact hm _ _ _ rfl w tx h30 hn p e s m args below meth c F Lo mc ms cells slots σ0 w0 tx hF hLo hcq hsq hga C hadm htr hex hX hP0
    · replace h := it_f hc h
      refine ax_iload_n (pc := 10) C d_CP_search_10 rfl 3 rfl ?_
      refine ax_iconst (pc := 11) C 1 d_CP_search_11 (by decide +kernel) ?_
      refine ax_icmp_lt (pc := 12) C 21 d_CP_search_12 (by decide) (fun hc => ?_) (fun hc => ?_)
      · replace h := it_t hc h
        refine ax_ls ([(0, .ref (u 0)), (1, .int x0), (2, .int x1), (3, .int x2)]) [0, 1, 2, 3] rfl ?_
        replace hm : sPx2_CP_search_p21 l D kA u σ [x0, x1, x2] (σf, rf, _) := (ihP tP_CP_search_p21 _ _ _ h).2
        exact hm _ _ _ rfl w tx h30 hn p e s m args below meth c F Lo mc ms cells slots σ0 w0 tx hF hLo hcq hsq hga C hadm htr hex hX hP0
      · replace h := it_f hc h
        refine ax_iload_n (pc := 15) C d_CP_search_15 rfl 3 rfl ?_
        refine ax_bipush (pc := 16) C 50 d_CP_search_16 (by decide +kernel) ?_
        refine ax_icmp_le (pc := 18) C 32 d_CP_search_18 (by decide) (fun hc => ?_) (fun hc => ?_)
        · replace h := it_t hc h
          refine ax_iconst (pc := 32) C 0 d_CP_search_32 (by decide +kernel) ?_
          refine ax_istore (pc := 33) C d_CP_search_33 (Nat.le_of_ble_eq_true rfl) ([(4, .int 0), (0, .ref (u 0)), (1, .int x0), (2, .int x1), (3, .int x2)]) rfl ?_
          refine ax_ls ([(0, .ref (u 0)), (1, .int x0), (2, .int x1), (3, .int x2), (4, .int 0)]) [1, 2, 3, 4, 0] rfl ?_
          replace hm : sPx2_CP_search_p35 l D kA u σ [x0, x1, x2, 0] (σf, rf, _) := (ihP tP_CP_search_p35 _ _ _ h).2
          exact hm _ _ _ _ rfl w tx h30 hn p e s m args below meth c F Lo mc ms cells slots σ0 w0 tx hF hLo hcq hsq hga C hadm htr hex hX hP0
        · replace h := it_f hc h
          refine ax_ls ([(0, .ref (u 0)), (1, .int x0), (2, .int x1), (3, .int x2)]) [0, 1, 2, 3] rfl ?_
          replace hm : sPx2_CP_search_p21 l D kA u σ [x0, x1, x2] (σf, rf, _) := (ihP tP_CP_search_p21 _ _ _ h).2
          exact hm _ _ _ rfl w tx h30 hn p e s m args below meth c F Lo mc ms cells slots σ0 w0 tx hF hLo hcq hsq hga C hadm htr hex hX hP0
set_option maxHeartbeats 4000000 in
set_option maxRecDepth 100000 in
theorem oPn_CP_search_p21 (l : Launch) (D : va_G) (kA : Nat → ClassId) (u : Nat → Nat) (rec : mF) (hG : GM rec) (hG2 : GM2 rec) (ihC : ∀ (w : Nat → Nat) (tx : Value) t σ xs res, rec t σ xs = some res → cSem l D kA u w tx t σ xs res) (ih : ∀ t σ xs res, rec t σ xs = some res → gSem l D kA u t σ xs res) (ihP : ∀ t σ xs res, rec t σ xs = some res → pSem l D kA u t σ xs res) (σ : mS) (xs : List Int32) (res : mR) (h : u_3 (kP_CP_search_p21 rec σ) xs = some res) : sPn_CP_search_p21 l D kA u σ xs res := by
  intro x0 x1 x2 hxs w tx h30 hn
  subst hxs
  obtain ⟨σf, rf, dd⟩ := res
  dsimp only at hn
  have hmn : gle2 σ σf := qP_CP_search_p21 rec hG2 σ x0 x1 x2 _ h
  have h : (lt_ (mT σ 2) (fun σ99 => some (σ99, 0, 0))) = some (σf, rf, dd) := h
  intro p e s m args below meth c F Lo mc ms cells slots σ0 w0 tx0 hF hLo hcq hsq hga C
  dsimp only at hF hLo hcq hsq ⊢
  have hcm : cells ≤ mc := by have := hmn.1; omega
  have hsm : slots ≤ ms := by have := hmn.2; omega
  have hle : True := trivial
  have hm : True := trivial
  replace h := it_l h
  cases h
  exact absurd hn (by simp [mT, va_up])
set_option maxHeartbeats 4000000 in
set_option maxRecDepth 100000 in
theorem oPx2_CP_search_p21 (l : Launch) (D : va_G) (kA : Nat → ClassId) (u : Nat → Nat) (rec : mF) (hG : GM rec) (hG2 : GM2 rec) (ihC : ∀ (w : Nat → Nat) (tx : Value) t σ xs res, rec t σ xs = some res → cSem l D kA u w tx t σ xs res) (ih : ∀ t σ xs res, rec t σ xs = some res → gSem l D kA u t σ xs res) (ihP : ∀ t σ xs res, rec t σ xs = some res → pSem l D kA u t σ xs res) (σ : mS) (xs : List Int32) (res : mR) (h : u_3 (kP_CP_search_p21 rec σ) xs = some res) : sPx2_CP_search_p21 l D kA u σ xs res := by
  intro x0 x1 x2 hxs w tx h30 hn
  subst hxs
  obtain ⟨σf, rf, dd⟩ := res
  dsimp only at hn
  have hmn : gle2 σ σf := qP_CP_search_p21 rec hG2 σ x0 x1 x2 _ h
  have h : (lt_ (mT σ 2) (fun σ99 => some (σ99, 0, 0))) = some (σf, rf, dd) := h
  intro p e s m args below meth c F Lo mc ms cells slots σ0 w0 tx0 hF hLo hcq hsq hga C hadm htr hex hX hP0
  dsimp only at hF hLo hcq hsq ⊢
  have hcm : cells ≤ mc := by have := hmn.1; omega
  have hsm : slots ≤ ms := by have := hmn.2; omega
  have hle : True := trivial
  have hm : True := trivial
  replace h := it_l h
  cases h
  have e1 : (mT σ 2).2.2 3001 = σ.2.2 3001 + 1 := rfl
  have e2 : (mT σ 2).2.2 3002 = σ.2.2 3002 + 6 := rfl
  rw [e1] at hcq
  rw [e2] at hsq
  refine ax_widen (k := mc - 1) (n := ms - 6) (by omega) (by omega) ?_
  exact ax_throw3 (pc := 21) C hadm htr hex hX hP0 (is := 278) (tx := "not 1 .. 3 elements or not 1 .. 50 seeds") ta_IAE (by decide +kernel) (by decide) tb_classLink_984 tb_instantiable_985 tb_initialized_21 (by decide +kernel) (by decide +kernel) (by decide +kernel) (by decide +kernel) d_CP_search_21 d_CP_search_24 d_CP_search_25 d_CP_search_28 d_CP_search_31 (by show 6 ≤ F; omega) (by show 90 ≤ Lo; omega) (by show mc - 1 + 1 ≤ mc; omega) (by show ms - 6 + 6 ≤ ms; omega) (by omega) (by omega) ⟨w, hga, rfl⟩
set_option maxHeartbeats 4000000 in
set_option maxRecDepth 100000 in
theorem oPn_CP_search_p35 (l : Launch) (D : va_G) (kA : Nat → ClassId) (u : Nat → Nat) (rec : mF) (hG : GM rec) (hG2 : GM2 rec) (ihC : ∀ (w : Nat → Nat) (tx : Value) t σ xs res, rec t σ xs = some res → cSem l D kA u w tx t σ xs res) (ih : ∀ t σ xs res, rec t σ xs = some res → gSem l D kA u t σ xs res) (ihP : ∀ t σ xs res, rec t σ xs = some res → pSem l D kA u t σ xs res) (σ : mS) (xs : List Int32) (res : mR) (h : u_4 (kP_CP_search_p35 rec σ) xs = some res) : sPn_CP_search_p35 l D kA u σ xs res := by
  intro x0 x1 x2 x3 hxs w tx h30 hn
  subst hxs
  obtain ⟨σf, rf, dd⟩ := res
  dsimp only at hn
  have hmn : gle2 σ σf := qP_CP_search_p35 rec hG2 σ x0 x1 x2 x3 _ h
  have h : (if x2 ≤ x3 then (some (σ, (-1), 0)) else (bnd (rec tC_Mod_suitsText σ [((x0 : Int32) + x3), x1]) (fun σ1 r1 => if r1 = 0 then (rec tP_CP_search_p35 σ1 [x0, x1, x2, (x3 + 1)]) else (some (σ1, x3, 0))))) = some (σf, rf, dd) := h
  intro p e s m args below meth c F Lo mc ms cells slots σ0 w0 tx0 hF hLo hcq hsq hga C
  dsimp only at hF hLo hcq hsq ⊢
  have hcm : cells ≤ mc := by have := hmn.1; omega
  have hsm : slots ≤ ms := by have := hmn.2; omega
  have hle : True := trivial
  have hm : True := trivial
  refine ax_iload (pc := 35) C d_CP_search_35 4 rfl ?_
  refine ax_iload_n (pc := 37) C d_CP_search_37 rfl 3 rfl ?_
  refine ax_icmp_ge (pc := 38) C 65 d_CP_search_38 (by decide) (fun hc => ?_) (fun hc => ?_)
  · replace h := it_t hc h
    refine ax_iconst (pc := 65) C (-1) d_CP_search_65 (by decide +kernel) ?_
    cases h
    exact ax_iret (pc := 66) C d_CP_search_66 ⟨rfl, w, tx, hga, rfl, rfl⟩ hcm hsm
  · replace h := it_f hc h
    refine ax_aload_n (pc := 41) C d_CP_search_41 rfl 0 rfl ?_
    refine cg_0_9_CP_78 (pc := 42) C d_CP_search_42 ?_
    refine ax_iload_n (pc := 45) C d_CP_search_45 rfl 1 rfl ?_
    refine ax_iload (pc := 46) C d_CP_search_46 4 rfl ?_
    refine ax_iadd (pc := 48) C d_CP_search_48 ?_
    refine ax_iload_n (pc := 49) C d_CP_search_49 rfl 2 rfl ?_
    replace h := it_b h
    obtain ⟨σ1, r1, d1_1, d2_1, h1, h, hd2, hd1⟩ := h
    replace hle := hG _ _ _ _ (by decide) h1
    dsimp only at hle
    replace hmn : gle2 σ1 σf := g2_use h (g2_if (g2_tail hG2) g2_some)
    replace hm : sC_Mod_suitsText l D kA u w tx σ [((x0 : Int32) + x3), x1] (σ1, r1, d1_1) := ihC _ _ tC_Mod_suitsText _ _ _ h1
    refine cc_Vi (pc := 50) C (r0 := r1) (σ2 := σ1) (As := [.int ((x0 : Int32) + x3), .int x1]) (rest := []) (hm _ _ rfl) ml_CP_271 69 rfl rfl rfl d_CP_search_50 rfl rfl (by dsimp only; omega) (by dsimp only; omega) hcm hsm (Nat.le_of_ble_eq_true rfl) ?_
    replace h30 : σ1.2.2 3000 = 0 := hle.2.2.symm.trans h30
    replace hcq : cells + σf.2.2 3001 ≤ mc + σ1.2.2 3001 := by have := hle.1; omega
    replace hsq : slots + σf.2.2 3002 ≤ ms + σ1.2.2 3002 := by have := hle.2; omega
    replace hF : d2_1 + 3 ≤ F := by omega
    replace hLo : 48 * d2_1 + 144 ≤ Lo := by omega
    refine ax_if_eq (pc := 53) C 59 d_CP_search_53 (by decide) (fun hc => ?_) (fun hc => ?_)
    · replace h := it_t hc h
      refine ax_iinc (pc := 59) C (x3 + 1) d_CP_search_59 4 rfl rfl (Nat.le_of_ble_eq_true rfl) ([(4, .int (x3 + 1)), (0, .ref (u 0)), (1, .int x0), (2, .int x1), (3, .int x2)]) rfl ?_
      refine ax_goto (pc := 62) C 35 d_CP_search_62 (by decide) ?_
      refine ax_ls ([(0, .ref (u 0)), (1, .int x0), (2, .int x1), (3, .int x2), (4, .int (x3 + 1))]) [1, 2, 3, 4, 0] rfl ?_
      replace hm : sPn_CP_search_p35 l D kA u σ1 [x0, x1, x2, (x3 + 1)] (σf, rf, _) := (ihP tP_CP_search_p35 _ _ _ h).1
      exact hm _ _ _ _ rfl w tx h30 hn p e s m args below meth c F Lo mc ms cells slots σ0 w0 tx0 hF hLo hcq hsq hga C
    · replace h := it_f hc h
      refine ax_iload (pc := 56) C d_CP_search_56 4 rfl ?_
      cases h
      exact ax_iret (pc := 58) C d_CP_search_58 ⟨rfl, w, tx, hga, rfl, rfl⟩ hcm hsm
set_option maxHeartbeats 4000000 in
set_option maxRecDepth 100000 in
theorem oPx2_CP_search_p35 (l : Launch) (D : va_G) (kA : Nat → ClassId) (u : Nat → Nat) (rec : mF) (hG : GM rec) (hG2 : GM2 rec) (ihC : ∀ (w : Nat → Nat) (tx : Value) t σ xs res, rec t σ xs = some res → cSem l D kA u w tx t σ xs res) (ih : ∀ t σ xs res, rec t σ xs = some res → gSem l D kA u t σ xs res) (ihP : ∀ t σ xs res, rec t σ xs = some res → pSem l D kA u t σ xs res) (σ : mS) (xs : List Int32) (res : mR) (h : u_4 (kP_CP_search_p35 rec σ) xs = some res) : sPx2_CP_search_p35 l D kA u σ xs res := by
  intro x0 x1 x2 x3 hxs w tx h30 hn
  subst hxs
  obtain ⟨σf, rf, dd⟩ := res
  dsimp only at hn
  have hmn : gle2 σ σf := qP_CP_search_p35 rec hG2 σ x0 x1 x2 x3 _ h
  have h : (if x2 ≤ x3 then (some (σ, (-1), 0)) else (bnd (rec tC_Mod_suitsText σ [((x0 : Int32) + x3), x1]) (fun σ1 r1 => if r1 = 0 then (rec tP_CP_search_p35 σ1 [x0, x1, x2, (x3 + 1)]) else (some (σ1, x3, 0))))) = some (σf, rf, dd) := h
  intro p e s m args below meth c F Lo mc ms cells slots σ0 w0 tx0 hF hLo hcq hsq hga C hadm htr hex hX hP0
  dsimp only at hF hLo hcq hsq ⊢
  have hcm : cells ≤ mc := by have := hmn.1; omega
  have hsm : slots ≤ ms := by have := hmn.2; omega
  have hle : True := trivial
  have hm : True := trivial
  refine ax_iload (pc := 35) C d_CP_search_35 4 rfl ?_
  refine ax_iload_n (pc := 37) C d_CP_search_37 rfl 3 rfl ?_
  refine ax_icmp_ge (pc := 38) C 65 d_CP_search_38 (by decide) (fun hc => ?_) (fun hc => ?_)
  · replace h := it_t hc h
    refine ax_iconst (pc := 65) C (-1) d_CP_search_65 (by decide +kernel) ?_
    cases h
    exact absurd (h30.symm.trans hn) (by decide)
  · replace h := it_f hc h
    refine ax_aload_n (pc := 41) C d_CP_search_41 rfl 0 rfl ?_
    refine cg_0_9_CP_78 (pc := 42) C d_CP_search_42 ?_
    refine ax_iload_n (pc := 45) C d_CP_search_45 rfl 1 rfl ?_
    refine ax_iload (pc := 46) C d_CP_search_46 4 rfl ?_
    refine ax_iadd (pc := 48) C d_CP_search_48 ?_
    refine ax_iload_n (pc := 49) C d_CP_search_49 rfl 2 rfl ?_
    replace h := it_b h
    obtain ⟨σ1, r1, d1_1, d2_1, h1, h, hd2, hd1⟩ := h
    replace hle := hG _ _ _ _ (by decide) h1
    dsimp only at hle
    replace hmn : gle2 σ1 σf := g2_use h (g2_if (g2_tail hG2) g2_some)
    replace hm : sC_Mod_suitsText l D kA u w tx σ [((x0 : Int32) + x3), x1] (σ1, r1, d1_1) := ihC _ _ tC_Mod_suitsText _ _ _ h1
    refine cc_Vi (pc := 50) C (r0 := r1) (σ2 := σ1) (As := [.int ((x0 : Int32) + x3), .int x1]) (rest := []) (hm _ _ rfl) ml_CP_271 69 rfl rfl rfl d_CP_search_50 rfl rfl (by dsimp only; omega) (by dsimp only; omega) hcm hsm (Nat.le_of_ble_eq_true rfl) ?_
    replace h30 : σ1.2.2 3000 = 0 := hle.2.2.symm.trans h30
    replace hcq : cells + σf.2.2 3001 ≤ mc + σ1.2.2 3001 := by have := hle.1; omega
    replace hsq : slots + σf.2.2 3002 ≤ ms + σ1.2.2 3002 := by have := hle.2; omega
    replace hF : d2_1 + 6 ≤ F := by omega
    replace hLo : 48 * d2_1 + 144 ≤ Lo := by omega
    refine ax_if_eq (pc := 53) C 59 d_CP_search_53 (by decide) (fun hc => ?_) (fun hc => ?_)
    · replace h := it_t hc h
      refine ax_iinc (pc := 59) C (x3 + 1) d_CP_search_59 4 rfl rfl (Nat.le_of_ble_eq_true rfl) ([(4, .int (x3 + 1)), (0, .ref (u 0)), (1, .int x0), (2, .int x1), (3, .int x2)]) rfl ?_
      refine ax_goto (pc := 62) C 35 d_CP_search_62 (by decide) ?_
      refine ax_ls ([(0, .ref (u 0)), (1, .int x0), (2, .int x1), (3, .int x2), (4, .int (x3 + 1))]) [1, 2, 3, 4, 0] rfl ?_
      replace hm : sPx2_CP_search_p35 l D kA u σ1 [x0, x1, x2, (x3 + 1)] (σf, rf, _) := (ihP tP_CP_search_p35 _ _ _ h).2
      exact hm _ _ _ _ rfl w tx h30 hn p e s m args below meth c F Lo mc ms cells slots σ0 w0 tx0 hF hLo hcq hsq hga C hadm htr hex hX hP0
    · replace h := it_f hc h
      refine ax_iload (pc := 56) C d_CP_search_56 4 rfl ?_
      cases h
      exact absurd (h30.symm.trans hn) (by decide)
set_option maxHeartbeats 4000000 in
set_option maxRecDepth 100000 in
theorem oPn_CP_step (l : Launch) (D : va_G) (kA : Nat → ClassId) (u : Nat → Nat) (rec : mF) (hG : GM rec) (hG2 : GM2 rec) (ihC : ∀ (w : Nat → Nat) (tx : Value) t σ xs res, rec t σ xs = some res → cSem l D kA u w tx t σ xs res) (ih : ∀ t σ xs res, rec t σ xs = some res → gSem l D kA u t σ xs res) (ihP : ∀ t σ xs res, rec t σ xs = some res → pSem l D kA u t σ xs res) (σ : mS) (xs : List Int32) (res : mR) (h : u_1 (kP_CP_step rec σ) xs = some res) : sPn_CP_step l D kA u σ xs res := by
  intro x0 hxs w tx h30 hn
  subst hxs
  obtain ⟨σf, rf, dd⟩ := res
  dsimp only at hn
  have hmn : gle2 σ σf := qP_CP_step rec hG2 σ x0 _ h
  have h : (if x0 < 0 then (rec tP_CP_step_p18 σ [x0]) else (if x0 < (σ.1 5501) then (if bin x0 (σ.2.2 56) = true then (some (σ, (σ.2.1 56 (Int32.toNatClampNeg x0)), 0)) else none) else (rec tP_CP_step_p18 σ [x0]))) = some (σf, rf, dd) := h
  refine ax_Mi.of (by decide +kernel) (Nat.le_of_ble_eq_true rfl) ?_
  intro p e s m args below meth c C hnm
  replace C : ax_C p s m args meth c b_CP_step "ClauseProver" 2 (some .int) D kA (va_A (cpW kA u w tx σ) s.heap.size) := C
  obtain ⟨F, hFe⟩ : ∃ z, z = dd + 3 := ⟨_, rfl⟩
  obtain ⟨Lo, hLoe⟩ : ∃ z, z = 48 * dd + 144 := ⟨_, rfl⟩
  obtain ⟨mc, hmce⟩ : ∃ z, z = σf.2.2 3001 - σ.2.2 3001 := ⟨_, rfl⟩
  obtain ⟨ms, hmse⟩ : ∃ z, z = σf.2.2 3002 - σ.2.2 3002 := ⟨_, rfl⟩
  obtain ⟨σ0, hσ0e⟩ : ∃ z, z = σ := ⟨_, rfl⟩
  obtain ⟨w0, hw0e⟩ : ∃ z, z = w := ⟨_, rfl⟩
  obtain ⟨tx0, htx0e⟩ : ∃ z, z = tx := ⟨_, rfl⟩
  suffices K : ∀ (cells slots : Nat), cells = 0 → slots = 0 → AW p l e { frames := F, cells := mc, slots := ms, locals := Lo } s m args below meth c D kA (va_A (cpW kA u w0 tx0 σ0) s.heap.size) 2 (ax_Qi below args s D kA (cpW kA u w0 tx0 σ0) mc ms (fun r w1 => r = rf ∧ ∃ (w2 : Nat → Nat) (tx2 : Value), (∀ i, ([] : List Nat).elem i = false → w2 i = w0 i) ∧ tx2 = tx0 ∧ w1 = cpW kA u w2 tx2 σf)) 0 [(0, .ref (u 0)), (1, .int x0)] [] (cpW kA u w tx σ) cells slots by
    have K := K 0 0 rfl rfl
    rw [hFe, hLoe, hmce, hmse, hσ0e, hw0e, htx0e] at K
    exact ax_ls ([(0, .ref (u 0)), (1, .int x0)]) [0, 1] rfl K
  replace C : ax_C p s m args meth c b_CP_step "ClauseProver" 2 (some .int) D kA (va_A (cpW kA u w0 tx0 σ0) s.heap.size) := by rw [hσ0e, hw0e, htx0e]; exact C
  intro cells slots hc0 hs0
  have hcq : cells + σf.2.2 3001 ≤ mc + σ.2.2 3001 := by have := hmn.1; omega
  have hsq : slots + σf.2.2 3002 ≤ ms + σ.2.2 3002 := by have := hmn.2; omega
  have hga : ∀ i, ([] : List Nat).elem i = false → w i = w0 i := fun i _ => by rw [hw0e]
  have e9 : tx = tx0 := htx0e.symm
  subst e9
  have hF : dd + 3 ≤ F := by omega
  have hLo : 48 * dd + 144 ≤ Lo := by omega
  have hcm : cells ≤ mc := by have := hmn.1; omega
  have hsm : slots ≤ ms := by have := hmn.2; omega
  have hle : True := trivial
  have hm : True := trivial
  refine ax_iload_n (pc := 0) C d_CP_step_0 rfl 1 rfl ?_
  refine ax_if_lt (pc := 1) C 18 d_CP_step_1 (by decide) (fun hc => ?_) (fun hc => ?_)
  · replace h := it_t hc h
    refine ax_ls ([(0, .ref (u 0)), (1, .int x0)]) [0, 1] rfl ?_
    replace hm : sPn_CP_step_p18 l D kA u σ [x0] (σf, rf, _) := (ihP tP_CP_step_p18 _ _ _ h).1
    exact hm _ rfl w tx h30 hn p e s m args below meth c F Lo mc ms cells slots σ0 w0 tx hF hLo hcq hsq hga C
  · replace h := it_f hc h
    refine ax_iload_n (pc := 4) C d_CP_step_4 rfl 1 rfl ?_
    refine ax_aload_n (pc := 5) C d_CP_step_5 rfl 0 rfl ?_
    refine cg_0_8_CP_69 (pc := 6) C d_CP_step_6 ?_
    refine cg_53_7_CP_264 (pc := 9) C d_CP_step_9 ?_
    refine cg_55_1_CP_82 (pc := 12) C d_CP_step_12 ?_
    refine ax_icmp_lt (pc := 15) C 29 d_CP_step_15 (by decide) (fun hc => ?_) (fun hc => ?_)
    · replace h := it_t hc h
      refine ax_aload_n (pc := 29) C d_CP_step_29 rfl 0 rfl ?_
      refine cg_0_8_CP_69 (pc := 30) C d_CP_step_30 ?_
      refine cg_53_7_CP_264 (pc := 33) C d_CP_step_33 ?_
      refine cg_55_0_CP_110 (pc := 36) C d_CP_step_36 ?_
      refine ax_iload_n (pc := 39) C d_CP_step_39 rfl 1 rfl ?_
      replace h := it_g h
      obtain ⟨hb, h⟩ := h
      refine cl_56 (pc := 40) C d_CP_step_40 (bin_in hb) ?_
      cases h
      exact ax_iret (pc := 41) C d_CP_step_41 ⟨rfl, w, tx, hga, rfl, rfl⟩ hcm hsm
    · replace h := it_f hc h
      refine ax_ls ([(0, .ref (u 0)), (1, .int x0)]) [0, 1] rfl ?_
      replace hm : sPn_CP_step_p18 l D kA u σ [x0] (σf, rf, _) := (ihP tP_CP_step_p18 _ _ _ h).1
      exact hm _ rfl w tx h30 hn p e s m args below meth c F Lo mc ms cells slots σ0 w0 tx hF hLo hcq hsq hga C
set_option maxHeartbeats 4000000 in
set_option maxRecDepth 100000 in
theorem oPx4_CP_step (l : Launch) (D : va_G) (kA : Nat → ClassId) (u : Nat → Nat) (rec : mF) (hG : GM rec) (hG2 : GM2 rec) (ihC : ∀ (w : Nat → Nat) (tx : Value) t σ xs res, rec t σ xs = some res → cSem l D kA u w tx t σ xs res) (ih : ∀ t σ xs res, rec t σ xs = some res → gSem l D kA u t σ xs res) (ihP : ∀ t σ xs res, rec t σ xs = some res → pSem l D kA u t σ xs res) (σ : mS) (xs : List Int32) (res : mR) (h : u_1 (kP_CP_step rec σ) xs = some res) : sPx4_CP_step l D kA u σ xs res := by
  intro x0 hxs w tx h30 hn
  subst hxs
  obtain ⟨σf, rf, dd⟩ := res
  dsimp only at hn
  have hmn : gle2 σ σf := qP_CP_step rec hG2 σ x0 _ h
  have h : (if x0 < 0 then (rec tP_CP_step_p18 σ [x0]) else (if x0 < (σ.1 5501) then (if bin x0 (σ.2.2 56) = true then (some (σ, (σ.2.1 56 (Int32.toNatClampNeg x0)), 0)) else none) else (rec tP_CP_step_p18 σ [x0]))) = some (σf, rf, dd) := h
  intro htr
  refine ax_Mx.of (by decide +kernel) (Nat.le_of_ble_eq_true rfl) ?_
  intro p e s m args below meth c C hadm hex hX hP0
  replace C : ax_C p s m args meth c b_CP_step "ClauseProver" 2 (some .int) D kA (va_A (cpW kA u w tx σ) s.heap.size) := C
  obtain ⟨F, hFe⟩ : ∃ z, z = dd + 6 := ⟨_, rfl⟩
  obtain ⟨Lo, hLoe⟩ : ∃ z, z = 48 * dd + 144 := ⟨_, rfl⟩
  obtain ⟨mc, hmce⟩ : ∃ z, z = σf.2.2 3001 - σ.2.2 3001 := ⟨_, rfl⟩
  obtain ⟨ms, hmse⟩ : ∃ z, z = σf.2.2 3002 - σ.2.2 3002 := ⟨_, rfl⟩
  obtain ⟨σ0, hσ0e⟩ : ∃ z, z = σ := ⟨_, rfl⟩
  obtain ⟨w0, hw0e⟩ : ∃ z, z = w := ⟨_, rfl⟩
  obtain ⟨tx0, htx0e⟩ : ∃ z, z = tx := ⟨_, rfl⟩
  suffices K : ∀ (cells slots : Nat), cells = 0 → slots = 0 → AW p l e { frames := F, cells := mc, slots := ms, locals := Lo } s m args below meth c D kA (va_A (cpW kA u w0 tx0 σ0) s.heap.size) 2 (ax_QX below s D kA (cpW kA u w0 tx0 σ0) mc ms "java/lang/IndexOutOfBoundsException" (fun w1 => ∃ w2 : Nat → Nat, (∀ i, ([] : List Nat).elem i = false → w2 i = w0 i) ∧ w1 = cpW kA u w2 tx0 σf)) 0 [(0, .ref (u 0)), (1, .int x0)] [] (cpW kA u w tx σ) cells slots by
    have K := K 0 0 rfl rfl
    rw [hFe, hLoe, hmce, hmse, hσ0e, hw0e, htx0e] at K
    exact ax_ls ([(0, .ref (u 0)), (1, .int x0)]) [0, 1] rfl K
  replace C : ax_C p s m args meth c b_CP_step "ClauseProver" 2 (some .int) D kA (va_A (cpW kA u w0 tx0 σ0) s.heap.size) := by rw [hσ0e, hw0e, htx0e]; exact C
  replace hX : ax_X (va_A (cpW kA u w0 tx0 σ0) s.heap.size) s s.heap := by rw [hσ0e, hw0e, htx0e]; exact hX
  replace hP0 : va_P D ax_cl (cpW kA u w0 tx0 σ0) s.heap := by rw [hσ0e, hw0e, htx0e]; exact hP0
  intro cells slots hc0 hs0
  have hcq : cells + σf.2.2 3001 ≤ mc + σ.2.2 3001 := by have := hmn.1; omega
  have hsq : slots + σf.2.2 3002 ≤ ms + σ.2.2 3002 := by have := hmn.2; omega
  have hga : ∀ i, ([] : List Nat).elem i = false → w i = w0 i := fun i _ => by rw [hw0e]
  have e9 : tx = tx0 := htx0e.symm
  subst e9
  have hF : dd + 6 ≤ F := by omega
  have hLo : 48 * dd + 144 ≤ Lo := by omega
  have hcm : cells ≤ mc := by have := hmn.1; omega
  have hsm : slots ≤ ms := by have := hmn.2; omega
  have hle : True := trivial
  have hm : True := trivial
  refine ax_iload_n (pc := 0) C d_CP_step_0 rfl 1 rfl ?_
  refine ax_if_lt (pc := 1) C 18 d_CP_step_1 (by decide) (fun hc => ?_) (fun hc => ?_)
  · replace h := it_t hc h
    refine ax_ls ([(0, .ref (u 0)), (1, .int x0)]) [0, 1] rfl ?_
    replace hm : sPx4_CP_step_p18 l D kA u σ [x0] (σf, rf, _) := (ihP tP_CP_step_p18 _ _ _ h).2
    exact hm _ rfl w tx h30 hn p e s m args below meth c F Lo mc ms cells slots σ0 w0 tx hF hLo hcq hsq hga C hadm htr hex hX hP0
  · replace h := it_f hc h
    refine ax_iload_n (pc := 4) C d_CP_step_4 rfl 1 rfl ?_
    refine ax_aload_n (pc := 5) C d_CP_step_5 rfl 0 rfl ?_
    refine cg_0_8_CP_69 (pc := 6) C d_CP_step_6 ?_
    refine cg_53_7_CP_264 (pc := 9) C d_CP_step_9 ?_
    refine cg_55_1_CP_82 (pc := 12) C d_CP_step_12 ?_
    refine ax_icmp_lt (pc := 15) C 29 d_CP_step_15 (by decide) (fun hc => ?_) (fun hc => ?_)
    · replace h := it_t hc h
      refine ax_aload_n (pc := 29) C d_CP_step_29 rfl 0 rfl ?_
      refine cg_0_8_CP_69 (pc := 30) C d_CP_step_30 ?_
      refine cg_53_7_CP_264 (pc := 33) C d_CP_step_33 ?_
      refine cg_55_0_CP_110 (pc := 36) C d_CP_step_36 ?_
      refine ax_iload_n (pc := 39) C d_CP_step_39 rfl 1 rfl ?_
      replace h := it_g h
      obtain ⟨hb, h⟩ := h
      refine cl_56 (pc := 40) C d_CP_step_40 (bin_in hb) ?_
      cases h
      exact absurd (h30.symm.trans hn) (by decide)
    · replace h := it_f hc h
      refine ax_ls ([(0, .ref (u 0)), (1, .int x0)]) [0, 1] rfl ?_
      replace hm : sPx4_CP_step_p18 l D kA u σ [x0] (σf, rf, _) := (ihP tP_CP_step_p18 _ _ _ h).2
      exact hm _ rfl w tx h30 hn p e s m args below meth c F Lo mc ms cells slots σ0 w0 tx hF hLo hcq hsq hga C hadm htr hex hX hP0
set_option maxHeartbeats 4000000 in
set_option maxRecDepth 100000 in
theorem oPn_CP_step_p18 (l : Launch) (D : va_G) (kA : Nat → ClassId) (u : Nat → Nat) (rec : mF) (hG : GM rec) (hG2 : GM2 rec) (ihC : ∀ (w : Nat → Nat) (tx : Value) t σ xs res, rec t σ xs = some res → cSem l D kA u w tx t σ xs res) (ih : ∀ t σ xs res, rec t σ xs = some res → gSem l D kA u t σ xs res) (ihP : ∀ t σ xs res, rec t σ xs = some res → pSem l D kA u t σ xs res) (σ : mS) (xs : List Int32) (res : mR) (h : u_1 (kP_CP_step_p18 rec σ) xs = some res) : sPn_CP_step_p18 l D kA u σ xs res := by
  intro x0 hxs w tx h30 hn
  subst hxs
  obtain ⟨σf, rf, dd⟩ := res
  dsimp only at hn
  have hmn : gle2 σ σf := qP_CP_step_p18 rec hG2 σ x0 _ h
  have h : (lt_ (mT σ 4) (fun σ99 => some (σ99, 0, 0))) = some (σf, rf, dd) := h
  intro p e s m args below meth c F Lo mc ms cells slots σ0 w0 tx0 hF hLo hcq hsq hga C
  dsimp only at hF hLo hcq hsq ⊢
  have hcm : cells ≤ mc := by have := hmn.1; omega
  have hsm : slots ≤ ms := by have := hmn.2; omega
  have hle : True := trivial
  have hm : True := trivial
  replace h := it_l h
  cases h
  exact absurd hn (by simp [mT, va_up])
set_option maxHeartbeats 4000000 in
set_option maxRecDepth 100000 in
theorem oPx4_CP_step_p18 (l : Launch) (D : va_G) (kA : Nat → ClassId) (u : Nat → Nat) (rec : mF) (hG : GM rec) (hG2 : GM2 rec) (ihC : ∀ (w : Nat → Nat) (tx : Value) t σ xs res, rec t σ xs = some res → cSem l D kA u w tx t σ xs res) (ih : ∀ t σ xs res, rec t σ xs = some res → gSem l D kA u t σ xs res) (ihP : ∀ t σ xs res, rec t σ xs = some res → pSem l D kA u t σ xs res) (σ : mS) (xs : List Int32) (res : mR) (h : u_1 (kP_CP_step_p18 rec σ) xs = some res) : sPx4_CP_step_p18 l D kA u σ xs res := by
  intro x0 hxs w tx h30 hn
  subst hxs
  obtain ⟨σf, rf, dd⟩ := res
  dsimp only at hn
  have hmn : gle2 σ σf := qP_CP_step_p18 rec hG2 σ x0 _ h
  have h : (lt_ (mT σ 4) (fun σ99 => some (σ99, 0, 0))) = some (σf, rf, dd) := h
  intro p e s m args below meth c F Lo mc ms cells slots σ0 w0 tx0 hF hLo hcq hsq hga C hadm htr hex hX hP0
  dsimp only at hF hLo hcq hsq ⊢
  have hcm : cells ≤ mc := by have := hmn.1; omega
  have hsm : slots ≤ ms := by have := hmn.2; omega
  have hle : True := trivial
  have hm : True := trivial
  replace h := it_l h
  cases h
  have e1 : (mT σ 4).2.2 3001 = σ.2.2 3001 + 1 := rfl
  have e2 : (mT σ 4).2.2 3002 = σ.2.2 3002 + 6 := rfl
  rw [e1] at hcq
  rw [e2] at hsq
  refine ax_widen (k := mc - 1) (n := ms - 6) (by omega) (by omega) ?_
  exact ax_throw3 (pc := 18) C hadm htr hex hX hP0 (is := 267) (tx := "no such clause of the proof") ta_IOB (by decide +kernel) (by decide) tb_classLink_1426 tb_instantiable_1427 tb_initialized_30 (by decide +kernel) (by decide +kernel) (by decide +kernel) (by decide +kernel) d_CP_step_18 d_CP_step_21 d_CP_step_22 d_CP_step_25 d_CP_step_28 (by show 6 ≤ F; omega) (by show 90 ≤ Lo; omega) (by show mc - 1 + 1 ≤ mc; omega) (by show ms - 6 + 6 ≤ ms; omega) (by omega) (by omega) ⟨w, hga, rfl⟩
set_option maxHeartbeats 4000000 in
set_option maxRecDepth 100000 in
theorem oPn_CP_symbol (l : Launch) (D : va_G) (kA : Nat → ClassId) (u : Nat → Nat) (rec : mF) (hG : GM rec) (hG2 : GM2 rec) (ihC : ∀ (w : Nat → Nat) (tx : Value) t σ xs res, rec t σ xs = some res → cSem l D kA u w tx t σ xs res) (ih : ∀ t σ xs res, rec t σ xs = some res → gSem l D kA u t σ xs res) (ihP : ∀ t σ xs res, rec t σ xs = some res → pSem l D kA u t σ xs res) (σ : mS) (xs : List Int32) (res : mR) (h : u_2 (kP_CP_symbol rec σ) xs = some res) : sPn_CP_symbol l D kA u σ xs res := by
  intro x0 x1 hxs w tx h30 hn
  subst hxs
  obtain ⟨σf, rf, dd⟩ := res
  dsimp only at hn
  have hmn : gle2 σ σf := qP_CP_symbol rec hG2 σ x0 x1 _ h
  have h : (if x0 < 0 then (rec tP_CP_symbol_p15 σ [x0, x1]) else (if x0 < (σ.1 605) then (if x1 < 0 then (rec tP_CP_symbol_p35 σ [x0, x1]) else (if x1 ≤ 2 then (if x1 = 0 then (if bin x0 551 = true then (some (σ, (σ.2.1 7 (Int32.toNatClampNeg x0)), 0)) else none) else (if x1 = 1 then (bnd (rec tC_Sym_isPredicate σ [x0]) (fun σ2 r2 => rec tP_CP_symbol_p83 σ2 [x0, x1, r2])) else (bnd (rec tC_Sym_isWitness σ [x0]) (fun σ1 r1 => rec tP_CP_symbol_p83 σ1 [x0, x1, r1])))) else (rec tP_CP_symbol_p35 σ [x0, x1]))) else (rec tP_CP_symbol_p15 σ [x0, x1]))) = some (σf, rf, dd) := h
  refine ax_Mi.of (by decide +kernel) (Nat.le_of_ble_eq_true rfl) ?_
  intro p e s m args below meth c C hnm
  replace C : ax_C p s m args meth c b_CP_symbol "ClauseProver" 4 (some .int) D kA (va_A (cpW kA u w tx σ) s.heap.size) := C
  obtain ⟨F, hFe⟩ : ∃ z, z = dd + 3 := ⟨_, rfl⟩
  obtain ⟨Lo, hLoe⟩ : ∃ z, z = 48 * dd + 144 := ⟨_, rfl⟩
  obtain ⟨mc, hmce⟩ : ∃ z, z = σf.2.2 3001 - σ.2.2 3001 := ⟨_, rfl⟩
  obtain ⟨ms, hmse⟩ : ∃ z, z = σf.2.2 3002 - σ.2.2 3002 := ⟨_, rfl⟩
  obtain ⟨σ0, hσ0e⟩ : ∃ z, z = σ := ⟨_, rfl⟩
  obtain ⟨w0, hw0e⟩ : ∃ z, z = w := ⟨_, rfl⟩
  obtain ⟨tx0, htx0e⟩ : ∃ z, z = tx := ⟨_, rfl⟩
  suffices K : ∀ (cells slots : Nat), cells = 0 → slots = 0 → AW p l e { frames := F, cells := mc, slots := ms, locals := Lo } s m args below meth c D kA (va_A (cpW kA u w0 tx0 σ0) s.heap.size) 4 (ax_Qi below args s D kA (cpW kA u w0 tx0 σ0) mc ms (fun r w1 => r = rf ∧ ∃ (w2 : Nat → Nat) (tx2 : Value), (∀ i, ([] : List Nat).elem i = false → w2 i = w0 i) ∧ tx2 = tx0 ∧ w1 = cpW kA u w2 tx2 σf)) 0 [(0, .ref (u 0)), (1, .int x0), (2, .int x1)] [] (cpW kA u w tx σ) cells slots by
    have K := K 0 0 rfl rfl
    rw [hFe, hLoe, hmce, hmse, hσ0e, hw0e, htx0e] at K
    exact ax_ls ([(0, .ref (u 0)), (1, .int x0), (2, .int x1)]) [0, 1, 2] rfl K
  replace C : ax_C p s m args meth c b_CP_symbol "ClauseProver" 4 (some .int) D kA (va_A (cpW kA u w0 tx0 σ0) s.heap.size) := by rw [hσ0e, hw0e, htx0e]; exact C
  intro cells slots hc0 hs0
  have hcq : cells + σf.2.2 3001 ≤ mc + σ.2.2 3001 := by have := hmn.1; omega
  have hsq : slots + σf.2.2 3002 ≤ ms + σ.2.2 3002 := by have := hmn.2; omega
  have hga : ∀ i, ([] : List Nat).elem i = false → w i = w0 i := fun i _ => by rw [hw0e]
  have e9 : tx = tx0 := htx0e.symm
  subst e9
  have hF : dd + 3 ≤ F := by omega
  have hLo : 48 * dd + 144 ≤ Lo := by omega
  have hcm : cells ≤ mc := by have := hmn.1; omega
  have hsm : slots ≤ ms := by have := hmn.2; omega
  have hle : True := trivial
  have hm : True := trivial
  refine ax_iload_n (pc := 0) C d_CP_symbol_0 rfl 1 rfl ?_
  refine ax_if_lt (pc := 1) C 15 d_CP_symbol_1 (by decide) (fun hc => ?_) (fun hc => ?_)
  · replace h := it_t hc h
    refine ax_ls ([(0, .ref (u 0)), (1, .int x0), (2, .int x1)]) [0, 1, 2] rfl ?_
    replace hm : sPn_CP_symbol_p15 l D kA u σ [x0, x1] (σf, rf, _) := (ihP tP_CP_symbol_p15 _ _ _ h).1
    exact hm _ _ rfl w tx h30 hn p e s m args below meth c F Lo mc ms cells slots σ0 w0 tx hF hLo hcq hsq hga C
  · replace h := it_f hc h
    refine ax_iload_n (pc := 4) C d_CP_symbol_4 rfl 1 rfl ?_
    refine ax_aload_n (pc := 5) C d_CP_symbol_5 rfl 0 rfl ?_
    refine cg_0_3_CP_28 (pc := 6) C d_CP_symbol_6 ?_
    refine cg_6_5_CP_258 (pc := 9) C d_CP_symbol_9 ?_
    refine ax_icmp_lt (pc := 12) C 26 d_CP_symbol_12 (by decide) (fun hc => ?_) (fun hc => ?_)
    · replace h := it_t hc h
      refine ax_iload_n (pc := 26) C d_CP_symbol_26 rfl 2 rfl ?_
      refine ax_if_lt (pc := 27) C 35 d_CP_symbol_27 (by decide) (fun hc => ?_) (fun hc => ?_)
      · replace h := it_t hc h
        refine ax_ls ([(0, .ref (u 0)), (1, .int x0), (2, .int x1)]) [0, 1, 2] rfl ?_
        replace hm : sPn_CP_symbol_p35 l D kA u σ [x0, x1] (σf, rf, _) := (ihP tP_CP_symbol_p35 _ _ _ h).1
        exact hm _ _ rfl w tx h30 hn p e s m args below meth c F Lo mc ms cells slots σ0 w0 tx hF hLo hcq hsq hga C
      · replace h := it_f hc h
        refine ax_iload_n (pc := 30) C d_CP_symbol_30 rfl 2 rfl ?_
        refine ax_iconst (pc := 31) C 2 d_CP_symbol_31 (by decide +kernel) ?_
        refine ax_icmp_le (pc := 32) C 45 d_CP_symbol_32 (by decide) (fun hc => ?_) (fun hc => ?_)
        · replace h := it_t hc h
          refine ax_iload_n (pc := 45) C d_CP_symbol_45 rfl 2 rfl ?_
          refine ax_if_ne (pc := 46) C 59 d_CP_symbol_46 (by decide) (fun hc => ?_) (fun hc => ?_)
          · replace h := it_f hc h
            refine ax_iload_n (pc := 59) C d_CP_symbol_59 rfl 2 rfl ?_
            refine ax_iconst (pc := 60) C 1 d_CP_symbol_60 (by decide +kernel) ?_
            refine ax_icmp_ne (pc := 61) C 75 d_CP_symbol_61 (by decide) (fun hc => ?_) (fun hc => ?_)
            · replace h := it_f hc h
              refine ax_aload_n (pc := 75) C d_CP_symbol_75 rfl 0 rfl ?_
              refine cg_0_3_CP_28 (pc := 76) C d_CP_symbol_76 ?_
              refine ax_iload_n (pc := 79) C d_CP_symbol_79 rfl 1 rfl ?_
              replace h := it_b h
              obtain ⟨σ1, r1, d1_1, d2_1, h1, h, hd2, hd1⟩ := h
              replace hle := hG _ _ _ _ (by decide) h1
              dsimp only at hle
              replace hmn : gle2 σ1 σf := g2_use h (g2_tail hG2)
              replace hm : sC_Sym_isWitness l D kA u w tx σ [x0] (σ1, r1, d1_1) := ihC _ _ tC_Sym_isWitness _ _ _ h1
              refine cc_Vi (pc := 80) C (r0 := r1) (σ2 := σ1) (As := [.int x0]) (rest := []) (hm _ rfl) ml_CP_227 6 rfl rfl rfl d_CP_symbol_80 rfl rfl (by dsimp only; omega) (by dsimp only; omega) hcm hsm (Nat.le_of_ble_eq_true rfl) ?_
              replace h30 : σ1.2.2 3000 = 0 := hle.2.2.symm.trans h30
              replace hcq : cells + σf.2.2 3001 ≤ mc + σ1.2.2 3001 := by have := hle.1; omega
              replace hsq : slots + σf.2.2 3002 ≤ ms + σ1.2.2 3002 := by have := hle.2; omega
              replace hF : d2_1 + 3 ≤ F := by omega
              replace hLo : 48 * d2_1 + 144 ≤ Lo := by omega
              refine ax_ls ([(0, .ref (u 0)), (1, .int x0), (2, .int x1)]) [0, 1, 2] rfl ?_
              replace hm : sPn_CP_symbol_p83 l D kA u σ1 [x0, x1, r1] (σf, rf, _) := (ihP tP_CP_symbol_p83 _ _ _ h).1
              exact hm _ _ _ rfl w tx h30 hn p e s m args below meth c F Lo mc ms cells slots σ0 w0 tx hF hLo hcq hsq hga C
            · replace h := it_t hc h
              refine ax_aload_n (pc := 64) C d_CP_symbol_64 rfl 0 rfl ?_
              refine cg_0_3_CP_28 (pc := 65) C d_CP_symbol_65 ?_
              refine ax_iload_n (pc := 68) C d_CP_symbol_68 rfl 1 rfl ?_
              replace h := it_b h
              obtain ⟨σ2, r2, d1_2, d2_2, h1, h, hd2, hd1⟩ := h
              replace hle := hG _ _ _ _ (by decide) h1
              dsimp only at hle
              replace hmn : gle2 σ2 σf := g2_use h (g2_tail hG2)
              replace hm : sC_Sym_isPredicate l D kA u w tx σ [x0] (σ2, r2, d1_2) := ihC _ _ tC_Sym_isPredicate _ _ _ h1
              refine cc_Vi (pc := 69) C (r0 := r2) (σ2 := σ2) (As := [.int x0]) (rest := []) (hm _ rfl) ml_CP_261 6 rfl rfl rfl d_CP_symbol_69 rfl rfl (by dsimp only; omega) (by dsimp only; omega) hcm hsm (Nat.le_of_ble_eq_true rfl) ?_
              replace h30 : σ2.2.2 3000 = 0 := hle.2.2.symm.trans h30
              replace hcq : cells + σf.2.2 3001 ≤ mc + σ2.2.2 3001 := by have := hle.1; omega
              replace hsq : slots + σf.2.2 3002 ≤ ms + σ2.2.2 3002 := by have := hle.2; omega
              replace hF : d2_2 + 3 ≤ F := by omega
              replace hLo : 48 * d2_2 + 144 ≤ Lo := by omega
              refine ax_goto (pc := 72) C 83 d_CP_symbol_72 (by decide) ?_
              refine ax_ls ([(0, .ref (u 0)), (1, .int x0), (2, .int x1)]) [0, 1, 2] rfl ?_
              replace hm : sPn_CP_symbol_p83 l D kA u σ2 [x0, x1, r2] (σf, rf, _) := (ihP tP_CP_symbol_p83 _ _ _ h).1
              exact hm _ _ _ rfl w tx h30 hn p e s m args below meth c F Lo mc ms cells slots σ0 w0 tx hF hLo hcq hsq hga C
          · replace h := it_t hc h
            refine ax_aload_n (pc := 49) C d_CP_symbol_49 rfl 0 rfl ?_
            refine cg_0_3_CP_28 (pc := 50) C d_CP_symbol_50 ?_
            refine cg_6_0_CP_213 (pc := 53) C d_CP_symbol_53 ?_
            refine ax_iload_n (pc := 56) C d_CP_symbol_56 rfl 1 rfl ?_
            replace h := it_g h
            obtain ⟨hb, h⟩ := h
            refine cl_7 (pc := 57) C d_CP_symbol_57 (bin_in hb) ?_
            cases h
            exact ax_iret (pc := 58) C d_CP_symbol_58 ⟨rfl, w, tx, hga, rfl, rfl⟩ hcm hsm
        · replace h := it_f hc h
          refine ax_ls ([(0, .ref (u 0)), (1, .int x0), (2, .int x1)]) [0, 1, 2] rfl ?_
          replace hm : sPn_CP_symbol_p35 l D kA u σ [x0, x1] (σf, rf, _) := (ihP tP_CP_symbol_p35 _ _ _ h).1
          exact hm _ _ rfl w tx h30 hn p e s m args below meth c F Lo mc ms cells slots σ0 w0 tx hF hLo hcq hsq hga C
    · replace h := it_f hc h
      refine ax_ls ([(0, .ref (u 0)), (1, .int x0), (2, .int x1)]) [0, 1, 2] rfl ?_
      replace hm : sPn_CP_symbol_p15 l D kA u σ [x0, x1] (σf, rf, _) := (ihP tP_CP_symbol_p15 _ _ _ h).1
      exact hm _ _ rfl w tx h30 hn p e s m args below meth c F Lo mc ms cells slots σ0 w0 tx hF hLo hcq hsq hga C
set_option maxHeartbeats 4000000 in
set_option maxRecDepth 100000 in
theorem oPx2_CP_symbol (l : Launch) (D : va_G) (kA : Nat → ClassId) (u : Nat → Nat) (rec : mF) (hG : GM rec) (hG2 : GM2 rec) (ihC : ∀ (w : Nat → Nat) (tx : Value) t σ xs res, rec t σ xs = some res → cSem l D kA u w tx t σ xs res) (ih : ∀ t σ xs res, rec t σ xs = some res → gSem l D kA u t σ xs res) (ihP : ∀ t σ xs res, rec t σ xs = some res → pSem l D kA u t σ xs res) (σ : mS) (xs : List Int32) (res : mR) (h : u_2 (kP_CP_symbol rec σ) xs = some res) : sPx2_CP_symbol l D kA u σ xs res := by
  intro x0 x1 hxs w tx h30 hn
  subst hxs
  obtain ⟨σf, rf, dd⟩ := res
  dsimp only at hn
  have hmn : gle2 σ σf := qP_CP_symbol rec hG2 σ x0 x1 _ h
  have h : (if x0 < 0 then (rec tP_CP_symbol_p15 σ [x0, x1]) else (if x0 < (σ.1 605) then (if x1 < 0 then (rec tP_CP_symbol_p35 σ [x0, x1]) else (if x1 ≤ 2 then (if x1 = 0 then (if bin x0 551 = true then (some (σ, (σ.2.1 7 (Int32.toNatClampNeg x0)), 0)) else none) else (if x1 = 1 then (bnd (rec tC_Sym_isPredicate σ [x0]) (fun σ2 r2 => rec tP_CP_symbol_p83 σ2 [x0, x1, r2])) else (bnd (rec tC_Sym_isWitness σ [x0]) (fun σ1 r1 => rec tP_CP_symbol_p83 σ1 [x0, x1, r1])))) else (rec tP_CP_symbol_p35 σ [x0, x1]))) else (rec tP_CP_symbol_p15 σ [x0, x1]))) = some (σf, rf, dd) := h
  intro htr
  refine ax_Mx.of (by decide +kernel) (Nat.le_of_ble_eq_true rfl) ?_
  intro p e s m args below meth c C hadm hex hX hP0
  replace C : ax_C p s m args meth c b_CP_symbol "ClauseProver" 4 (some .int) D kA (va_A (cpW kA u w tx σ) s.heap.size) := C
  obtain ⟨F, hFe⟩ : ∃ z, z = dd + 6 := ⟨_, rfl⟩
  obtain ⟨Lo, hLoe⟩ : ∃ z, z = 48 * dd + 144 := ⟨_, rfl⟩
  obtain ⟨mc, hmce⟩ : ∃ z, z = σf.2.2 3001 - σ.2.2 3001 := ⟨_, rfl⟩
  obtain ⟨ms, hmse⟩ : ∃ z, z = σf.2.2 3002 - σ.2.2 3002 := ⟨_, rfl⟩
  obtain ⟨σ0, hσ0e⟩ : ∃ z, z = σ := ⟨_, rfl⟩
  obtain ⟨w0, hw0e⟩ : ∃ z, z = w := ⟨_, rfl⟩
  obtain ⟨tx0, htx0e⟩ : ∃ z, z = tx := ⟨_, rfl⟩
  suffices K : ∀ (cells slots : Nat), cells = 0 → slots = 0 → AW p l e { frames := F, cells := mc, slots := ms, locals := Lo } s m args below meth c D kA (va_A (cpW kA u w0 tx0 σ0) s.heap.size) 4 (ax_QX below s D kA (cpW kA u w0 tx0 σ0) mc ms "java/lang/IllegalArgumentException" (fun w1 => ∃ w2 : Nat → Nat, (∀ i, ([] : List Nat).elem i = false → w2 i = w0 i) ∧ w1 = cpW kA u w2 tx0 σf)) 0 [(0, .ref (u 0)), (1, .int x0), (2, .int x1)] [] (cpW kA u w tx σ) cells slots by
    have K := K 0 0 rfl rfl
    rw [hFe, hLoe, hmce, hmse, hσ0e, hw0e, htx0e] at K
    exact ax_ls ([(0, .ref (u 0)), (1, .int x0), (2, .int x1)]) [0, 1, 2] rfl K
  replace C : ax_C p s m args meth c b_CP_symbol "ClauseProver" 4 (some .int) D kA (va_A (cpW kA u w0 tx0 σ0) s.heap.size) := by rw [hσ0e, hw0e, htx0e]; exact C
  replace hX : ax_X (va_A (cpW kA u w0 tx0 σ0) s.heap.size) s s.heap := by rw [hσ0e, hw0e, htx0e]; exact hX
  replace hP0 : va_P D ax_cl (cpW kA u w0 tx0 σ0) s.heap := by rw [hσ0e, hw0e, htx0e]; exact hP0
  intro cells slots hc0 hs0
  have hcq : cells + σf.2.2 3001 ≤ mc + σ.2.2 3001 := by have := hmn.1; omega
  have hsq : slots + σf.2.2 3002 ≤ ms + σ.2.2 3002 := by have := hmn.2; omega
  have hga : ∀ i, ([] : List Nat).elem i = false → w i = w0 i := fun i _ => by rw [hw0e]
  have e9 : tx = tx0 := htx0e.symm
  subst e9
  have hF : dd + 6 ≤ F := by omega
  have hLo : 48 * dd + 144 ≤ Lo := by omega
  have hcm : cells ≤ mc := by have := hmn.1; omega
  have hsm : slots ≤ ms := by have := hmn.2; omega
  have hle : True := trivial
  have hm : True := trivial
  refine ax_iload_n (pc := 0) C d_CP_symbol_0 rfl 1 rfl ?_
  refine ax_if_lt (pc := 1) C 15 d_CP_symbol_1 (by decide) (fun hc => ?_) (fun hc => ?_)
  · replace h := it_t hc h
    refine ax_ls ([(0, .ref (u 0)), (1, .int x0), (2, .int x1)]) [0, 1, 2] rfl ?_
    replace hm : sPx2_CP_symbol_p15 l D kA u σ [x0, x1] (σf, rf, _) := (ihP tP_CP_symbol_p15 _ _ _ h).2.1
    exact hm _ _ rfl w tx h30 hn p e s m args below meth c F Lo mc ms cells slots σ0 w0 tx hF hLo hcq hsq hga C hadm htr hex hX hP0
  · replace h := it_f hc h
    refine ax_iload_n (pc := 4) C d_CP_symbol_4 rfl 1 rfl ?_
    refine ax_aload_n (pc := 5) C d_CP_symbol_5 rfl 0 rfl ?_
    refine cg_0_3_CP_28 (pc := 6) C d_CP_symbol_6 ?_
    refine cg_6_5_CP_258 (pc := 9) C d_CP_symbol_9 ?_
    refine ax_icmp_lt (pc := 12) C 26 d_CP_symbol_12 (by decide) (fun hc => ?_) (fun hc => ?_)
    · replace h := it_t hc h
      refine ax_iload_n (pc := 26) C d_CP_symbol_26 rfl 2 rfl ?_
      refine ax_if_lt (pc := 27) C 35 d_CP_symbol_27 (by decide) (fun hc => ?_) (fun hc => ?_)
      · replace h := it_t hc h
        refine ax_ls ([(0, .ref (u 0)), (1, .int x0), (2, .int x1)]) [0, 1, 2] rfl ?_
        replace hm : sPx2_CP_symbol_p35 l D kA u σ [x0, x1] (σf, rf, _) := (ihP tP_CP_symbol_p35 _ _ _ h).2.1
        exact hm _ _ rfl w tx h30 hn p e s m args below meth c F Lo mc ms cells slots σ0 w0 tx hF hLo hcq hsq hga C hadm htr hex hX hP0
      · replace h := it_f hc h
        refine ax_iload_n (pc := 30) C d_CP_symbol_30 rfl 2 rfl ?_
        refine ax_iconst (pc := 31) C 2 d_CP_symbol_31 (by decide +kernel) ?_
        refine ax_icmp_le (pc := 32) C 45 d_CP_symbol_32 (by decide) (fun hc => ?_) (fun hc => ?_)
        · replace h := it_t hc h
          refine ax_iload_n (pc := 45) C d_CP_symbol_45 rfl 2 rfl ?_
          refine ax_if_ne (pc := 46) C 59 d_CP_symbol_46 (by decide) (fun hc => ?_) (fun hc => ?_)
          · replace h := it_f hc h
            refine ax_iload_n (pc := 59) C d_CP_symbol_59 rfl 2 rfl ?_
            refine ax_iconst (pc := 60) C 1 d_CP_symbol_60 (by decide +kernel) ?_
            refine ax_icmp_ne (pc := 61) C 75 d_CP_symbol_61 (by decide) (fun hc => ?_) (fun hc => ?_)
            · replace h := it_f hc h
              refine ax_aload_n (pc := 75) C d_CP_symbol_75 rfl 0 rfl ?_
              refine cg_0_3_CP_28 (pc := 76) C d_CP_symbol_76 ?_
              refine ax_iload_n (pc := 79) C d_CP_symbol_79 rfl 1 rfl ?_
              replace h := it_b h
              obtain ⟨σ1, r1, d1_1, d2_1, h1, h, hd2, hd1⟩ := h
              replace hle := hG _ _ _ _ (by decide) h1
              dsimp only at hle
              replace hmn : gle2 σ1 σf := g2_use h (g2_tail hG2)
              replace hm : sC_Sym_isWitness l D kA u w tx σ [x0] (σ1, r1, d1_1) := ihC _ _ tC_Sym_isWitness _ _ _ h1
              refine cc_Vi (pc := 80) C (r0 := r1) (σ2 := σ1) (As := [.int x0]) (rest := []) (hm _ rfl) ml_CP_227 6 rfl rfl rfl d_CP_symbol_80 rfl rfl (by dsimp only; omega) (by dsimp only; omega) hcm hsm (Nat.le_of_ble_eq_true rfl) ?_
              replace h30 : σ1.2.2 3000 = 0 := hle.2.2.symm.trans h30
              replace hcq : cells + σf.2.2 3001 ≤ mc + σ1.2.2 3001 := by have := hle.1; omega
              replace hsq : slots + σf.2.2 3002 ≤ ms + σ1.2.2 3002 := by have := hle.2; omega
              replace hF : d2_1 + 6 ≤ F := by omega
              replace hLo : 48 * d2_1 + 144 ≤ Lo := by omega
              refine ax_ls ([(0, .ref (u 0)), (1, .int x0), (2, .int x1)]) [0, 1, 2] rfl ?_
              replace hm : sPx2_CP_symbol_p83 l D kA u σ1 [x0, x1, r1] (σf, rf, _) := (ihP tP_CP_symbol_p83 _ _ _ h).2.1
              exact hm _ _ _ rfl w tx h30 hn p e s m args below meth c F Lo mc ms cells slots σ0 w0 tx hF hLo hcq hsq hga C hadm htr hex hX hP0
            · replace h := it_t hc h
              refine ax_aload_n (pc := 64) C d_CP_symbol_64 rfl 0 rfl ?_
              refine cg_0_3_CP_28 (pc := 65) C d_CP_symbol_65 ?_
              refine ax_iload_n (pc := 68) C d_CP_symbol_68 rfl 1 rfl ?_
              replace h := it_b h
              obtain ⟨σ2, r2, d1_2, d2_2, h1, h, hd2, hd1⟩ := h
              replace hle := hG _ _ _ _ (by decide) h1
              dsimp only at hle
              replace hmn : gle2 σ2 σf := g2_use h (g2_tail hG2)
              replace hm : sC_Sym_isPredicate l D kA u w tx σ [x0] (σ2, r2, d1_2) := ihC _ _ tC_Sym_isPredicate _ _ _ h1
              refine cc_Vi (pc := 69) C (r0 := r2) (σ2 := σ2) (As := [.int x0]) (rest := []) (hm _ rfl) ml_CP_261 6 rfl rfl rfl d_CP_symbol_69 rfl rfl (by dsimp only; omega) (by dsimp only; omega) hcm hsm (Nat.le_of_ble_eq_true rfl) ?_
              replace h30 : σ2.2.2 3000 = 0 := hle.2.2.symm.trans h30
              replace hcq : cells + σf.2.2 3001 ≤ mc + σ2.2.2 3001 := by have := hle.1; omega
              replace hsq : slots + σf.2.2 3002 ≤ ms + σ2.2.2 3002 := by have := hle.2; omega
              replace hF : d2_2 + 6 ≤ F := by omega
              replace hLo : 48 * d2_2 + 144 ≤ Lo := by omega
              refine ax_goto (pc := 72) C 83 d_CP_symbol_72 (by decide) ?_
              refine ax_ls ([(0, .ref (u 0)), (1, .int x0), (2, .int x1)]) [0, 1, 2] rfl ?_
              replace hm : sPx2_CP_symbol_p83 l D kA u σ2 [x0, x1, r2] (σf, rf, _) := (ihP tP_CP_symbol_p83 _ _ _ h).2.1
              exact hm _ _ _ rfl w tx h30 hn p e s m args below meth c F Lo mc ms cells slots σ0 w0 tx hF hLo hcq hsq hga C hadm htr hex hX hP0
          · replace h := it_t hc h
            refine ax_aload_n (pc := 49) C d_CP_symbol_49 rfl 0 rfl ?_
            refine cg_0_3_CP_28 (pc := 50) C d_CP_symbol_50 ?_
            refine cg_6_0_CP_213 (pc := 53) C d_CP_symbol_53 ?_
            refine ax_iload_n (pc := 56) C d_CP_symbol_56 rfl 1 rfl ?_
            replace h := it_g h
            obtain ⟨hb, h⟩ := h
            refine cl_7 (pc := 57) C d_CP_symbol_57 (bin_in hb) ?_
            cases h
            exact absurd (h30.symm.trans hn) (by decide)
        · replace h := it_f hc h
          refine ax_ls ([(0, .ref (u 0)), (1, .int x0), (2, .int x1)]) [0, 1, 2] rfl ?_
          replace hm : sPx2_CP_symbol_p35 l D kA u σ [x0, x1] (σf, rf, _) := (ihP tP_CP_symbol_p35 _ _ _ h).2.1
          exact hm _ _ rfl w tx h30 hn p e s m args below meth c F Lo mc ms cells slots σ0 w0 tx hF hLo hcq hsq hga C hadm htr hex hX hP0
    · replace h := it_f hc h
      refine ax_ls ([(0, .ref (u 0)), (1, .int x0), (2, .int x1)]) [0, 1, 2] rfl ?_
      replace hm : sPx2_CP_symbol_p15 l D kA u σ [x0, x1] (σf, rf, _) := (ihP tP_CP_symbol_p15 _ _ _ h).2.1
      exact hm _ _ rfl w tx h30 hn p e s m args below meth c F Lo mc ms cells slots σ0 w0 tx hF hLo hcq hsq hga C hadm htr hex hX hP0
set_option maxHeartbeats 4000000 in
set_option maxRecDepth 100000 in
theorem oPx3_CP_symbol (l : Launch) (D : va_G) (kA : Nat → ClassId) (u : Nat → Nat) (rec : mF) (hG : GM rec) (hG2 : GM2 rec) (ihC : ∀ (w : Nat → Nat) (tx : Value) t σ xs res, rec t σ xs = some res → cSem l D kA u w tx t σ xs res) (ih : ∀ t σ xs res, rec t σ xs = some res → gSem l D kA u t σ xs res) (ihP : ∀ t σ xs res, rec t σ xs = some res → pSem l D kA u t σ xs res) (σ : mS) (xs : List Int32) (res : mR) (h : u_2 (kP_CP_symbol rec σ) xs = some res) : sPx3_CP_symbol l D kA u σ xs res := by
  intro x0 x1 hxs w tx h30 hn
  subst hxs
  obtain ⟨σf, rf, dd⟩ := res
  dsimp only at hn
  have hmn : gle2 σ σf := qP_CP_symbol rec hG2 σ x0 x1 _ h
  have h : (if x0 < 0 then (rec tP_CP_symbol_p15 σ [x0, x1]) else (if x0 < (σ.1 605) then (if x1 < 0 then (rec tP_CP_symbol_p35 σ [x0, x1]) else (if x1 ≤ 2 then (if x1 = 0 then (if bin x0 551 = true then (some (σ, (σ.2.1 7 (Int32.toNatClampNeg x0)), 0)) else none) else (if x1 = 1 then (bnd (rec tC_Sym_isPredicate σ [x0]) (fun σ2 r2 => rec tP_CP_symbol_p83 σ2 [x0, x1, r2])) else (bnd (rec tC_Sym_isWitness σ [x0]) (fun σ1 r1 => rec tP_CP_symbol_p83 σ1 [x0, x1, r1])))) else (rec tP_CP_symbol_p35 σ [x0, x1]))) else (rec tP_CP_symbol_p15 σ [x0, x1]))) = some (σf, rf, dd) := h
  intro htr
  refine ax_Mx.of (by decide +kernel) (Nat.le_of_ble_eq_true rfl) ?_
  intro p e s m args below meth c C hadm hex hX hP0
  replace C : ax_C p s m args meth c b_CP_symbol "ClauseProver" 4 (some .int) D kA (va_A (cpW kA u w tx σ) s.heap.size) := C
  obtain ⟨F, hFe⟩ : ∃ z, z = dd + 6 := ⟨_, rfl⟩
  obtain ⟨Lo, hLoe⟩ : ∃ z, z = 48 * dd + 144 := ⟨_, rfl⟩
  obtain ⟨mc, hmce⟩ : ∃ z, z = σf.2.2 3001 - σ.2.2 3001 := ⟨_, rfl⟩
  obtain ⟨ms, hmse⟩ : ∃ z, z = σf.2.2 3002 - σ.2.2 3002 := ⟨_, rfl⟩
  obtain ⟨σ0, hσ0e⟩ : ∃ z, z = σ := ⟨_, rfl⟩
  obtain ⟨w0, hw0e⟩ : ∃ z, z = w := ⟨_, rfl⟩
  obtain ⟨tx0, htx0e⟩ : ∃ z, z = tx := ⟨_, rfl⟩
  suffices K : ∀ (cells slots : Nat), cells = 0 → slots = 0 → AW p l e { frames := F, cells := mc, slots := ms, locals := Lo } s m args below meth c D kA (va_A (cpW kA u w0 tx0 σ0) s.heap.size) 4 (ax_QX below s D kA (cpW kA u w0 tx0 σ0) mc ms "java/util/NoSuchElementException" (fun w1 => ∃ w2 : Nat → Nat, (∀ i, ([] : List Nat).elem i = false → w2 i = w0 i) ∧ w1 = cpW kA u w2 tx0 σf)) 0 [(0, .ref (u 0)), (1, .int x0), (2, .int x1)] [] (cpW kA u w tx σ) cells slots by
    have K := K 0 0 rfl rfl
    rw [hFe, hLoe, hmce, hmse, hσ0e, hw0e, htx0e] at K
    exact ax_ls ([(0, .ref (u 0)), (1, .int x0), (2, .int x1)]) [0, 1, 2] rfl K
  replace C : ax_C p s m args meth c b_CP_symbol "ClauseProver" 4 (some .int) D kA (va_A (cpW kA u w0 tx0 σ0) s.heap.size) := by rw [hσ0e, hw0e, htx0e]; exact C
  replace hX : ax_X (va_A (cpW kA u w0 tx0 σ0) s.heap.size) s s.heap := by rw [hσ0e, hw0e, htx0e]; exact hX
  replace hP0 : va_P D ax_cl (cpW kA u w0 tx0 σ0) s.heap := by rw [hσ0e, hw0e, htx0e]; exact hP0
  intro cells slots hc0 hs0
  have hcq : cells + σf.2.2 3001 ≤ mc + σ.2.2 3001 := by have := hmn.1; omega
  have hsq : slots + σf.2.2 3002 ≤ ms + σ.2.2 3002 := by have := hmn.2; omega
  have hga : ∀ i, ([] : List Nat).elem i = false → w i = w0 i := fun i _ => by rw [hw0e]
  have e9 : tx = tx0 := htx0e.symm
  subst e9
  have hF : dd + 6 ≤ F := by omega
  have hLo : 48 * dd + 144 ≤ Lo := by omega
  have hcm : cells ≤ mc := by have := hmn.1; omega
  have hsm : slots ≤ ms := by have := hmn.2; omega
  have hle : True := trivial
  have hm : True := trivial
  refine ax_iload_n (pc := 0) C d_CP_symbol_0 rfl 1 rfl ?_
  refine ax_if_lt (pc := 1) C 15 d_CP_symbol_1 (by decide) (fun hc => ?_) (fun hc => ?_)
  · replace h := it_t hc h
    refine ax_ls ([(0, .ref (u 0)), (1, .int x0), (2, .int x1)]) [0, 1, 2] rfl ?_
    replace hm : sPx3_CP_symbol_p15 l D kA u σ [x0, x1] (σf, rf, _) := (ihP tP_CP_symbol_p15 _ _ _ h).2.2
    exact hm _ _ rfl w tx h30 hn p e s m args below meth c F Lo mc ms cells slots σ0 w0 tx hF hLo hcq hsq hga C hadm htr hex hX hP0
  · replace h := it_f hc h
    refine ax_iload_n (pc := 4) C d_CP_symbol_4 rfl 1 rfl ?_
    refine ax_aload_n (pc := 5) C d_CP_symbol_5 rfl 0 rfl ?_
    refine cg_0_3_CP_28 (pc := 6) C d_CP_symbol_6 ?_
    refine cg_6_5_CP_258 (pc := 9) C d_CP_symbol_9 ?_
    refine ax_icmp_lt (pc := 12) C 26 d_CP_symbol_12 (by decide) (fun hc => ?_) (fun hc => ?_)
    · replace h := it_t hc h
      refine ax_iload_n (pc := 26) C d_CP_symbol_26 rfl 2 rfl ?_
      refine ax_if_lt (pc := 27) C 35 d_CP_symbol_27 (by decide) (fun hc => ?_) (fun hc => ?_)
      · replace h := it_t hc h
        refine ax_ls ([(0, .ref (u 0)), (1, .int x0), (2, .int x1)]) [0, 1, 2] rfl ?_
        replace hm : sPx3_CP_symbol_p35 l D kA u σ [x0, x1] (σf, rf, _) := (ihP tP_CP_symbol_p35 _ _ _ h).2.2
        exact hm _ _ rfl w tx h30 hn p e s m args below meth c F Lo mc ms cells slots σ0 w0 tx hF hLo hcq hsq hga C hadm htr hex hX hP0
      · replace h := it_f hc h
        refine ax_iload_n (pc := 30) C d_CP_symbol_30 rfl 2 rfl ?_
        refine ax_iconst (pc := 31) C 2 d_CP_symbol_31 (by decide +kernel) ?_
        refine ax_icmp_le (pc := 32) C 45 d_CP_symbol_32 (by decide) (fun hc => ?_) (fun hc => ?_)
        · replace h := it_t hc h
          refine ax_iload_n (pc := 45) C d_CP_symbol_45 rfl 2 rfl ?_
          refine ax_if_ne (pc := 46) C 59 d_CP_symbol_46 (by decide) (fun hc => ?_) (fun hc => ?_)
          · replace h := it_f hc h
            refine ax_iload_n (pc := 59) C d_CP_symbol_59 rfl 2 rfl ?_
            refine ax_iconst (pc := 60) C 1 d_CP_symbol_60 (by decide +kernel) ?_
            refine ax_icmp_ne (pc := 61) C 75 d_CP_symbol_61 (by decide) (fun hc => ?_) (fun hc => ?_)
            · replace h := it_f hc h
              refine ax_aload_n (pc := 75) C d_CP_symbol_75 rfl 0 rfl ?_
              refine cg_0_3_CP_28 (pc := 76) C d_CP_symbol_76 ?_
              refine ax_iload_n (pc := 79) C d_CP_symbol_79 rfl 1 rfl ?_
              replace h := it_b h
              obtain ⟨σ1, r1, d1_1, d2_1, h1, h, hd2, hd1⟩ := h
              replace hle := hG _ _ _ _ (by decide) h1
              dsimp only at hle
              replace hmn : gle2 σ1 σf := g2_use h (g2_tail hG2)
              replace hm : sC_Sym_isWitness l D kA u w tx σ [x0] (σ1, r1, d1_1) := ihC _ _ tC_Sym_isWitness _ _ _ h1
              refine cc_Vi (pc := 80) C (r0 := r1) (σ2 := σ1) (As := [.int x0]) (rest := []) (hm _ rfl) ml_CP_227 6 rfl rfl rfl d_CP_symbol_80 rfl rfl (by dsimp only; omega) (by dsimp only; omega) hcm hsm (Nat.le_of_ble_eq_true rfl) ?_
              replace h30 : σ1.2.2 3000 = 0 := hle.2.2.symm.trans h30
              replace hcq : cells + σf.2.2 3001 ≤ mc + σ1.2.2 3001 := by have := hle.1; omega
              replace hsq : slots + σf.2.2 3002 ≤ ms + σ1.2.2 3002 := by have := hle.2; omega
              replace hF : d2_1 + 6 ≤ F := by omega
              replace hLo : 48 * d2_1 + 144 ≤ Lo := by omega
              refine ax_ls ([(0, .ref (u 0)), (1, .int x0), (2, .int x1)]) [0, 1, 2] rfl ?_
              replace hm : sPx3_CP_symbol_p83 l D kA u σ1 [x0, x1, r1] (σf, rf, _) := (ihP tP_CP_symbol_p83 _ _ _ h).2.2
              exact hm _ _ _ rfl w tx h30 hn p e s m args below meth c F Lo mc ms cells slots σ0 w0 tx hF hLo hcq hsq hga C hadm htr hex hX hP0
            · replace h := it_t hc h
              refine ax_aload_n (pc := 64) C d_CP_symbol_64 rfl 0 rfl ?_
              refine cg_0_3_CP_28 (pc := 65) C d_CP_symbol_65 ?_
              refine ax_iload_n (pc := 68) C d_CP_symbol_68 rfl 1 rfl ?_
              replace h := it_b h
              obtain ⟨σ2, r2, d1_2, d2_2, h1, h, hd2, hd1⟩ := h
              replace hle := hG _ _ _ _ (by decide) h1
              dsimp only at hle
              replace hmn : gle2 σ2 σf := g2_use h (g2_tail hG2)
              replace hm : sC_Sym_isPredicate l D kA u w tx σ [x0] (σ2, r2, d1_2) := ihC _ _ tC_Sym_isPredicate _ _ _ h1
              refine cc_Vi (pc := 69) C (r0 := r2) (σ2 := σ2) (As := [.int x0]) (rest := []) (hm _ rfl) ml_CP_261 6 rfl rfl rfl d_CP_symbol_69 rfl rfl (by dsimp only; omega) (by dsimp only; omega) hcm hsm (Nat.le_of_ble_eq_true rfl) ?_
              replace h30 : σ2.2.2 3000 = 0 := hle.2.2.symm.trans h30
              replace hcq : cells + σf.2.2 3001 ≤ mc + σ2.2.2 3001 := by have := hle.1; omega
              replace hsq : slots + σf.2.2 3002 ≤ ms + σ2.2.2 3002 := by have := hle.2; omega
              replace hF : d2_2 + 6 ≤ F := by omega
              replace hLo : 48 * d2_2 + 144 ≤ Lo := by omega
              refine ax_goto (pc := 72) C 83 d_CP_symbol_72 (by decide) ?_
              refine ax_ls ([(0, .ref (u 0)), (1, .int x0), (2, .int x1)]) [0, 1, 2] rfl ?_
              replace hm : sPx3_CP_symbol_p83 l D kA u σ2 [x0, x1, r2] (σf, rf, _) := (ihP tP_CP_symbol_p83 _ _ _ h).2.2
              exact hm _ _ _ rfl w tx h30 hn p e s m args below meth c F Lo mc ms cells slots σ0 w0 tx hF hLo hcq hsq hga C hadm htr hex hX hP0
          · replace h := it_t hc h
            refine ax_aload_n (pc := 49) C d_CP_symbol_49 rfl 0 rfl ?_
            refine cg_0_3_CP_28 (pc := 50) C d_CP_symbol_50 ?_
            refine cg_6_0_CP_213 (pc := 53) C d_CP_symbol_53 ?_
            refine ax_iload_n (pc := 56) C d_CP_symbol_56 rfl 1 rfl ?_
            replace h := it_g h
            obtain ⟨hb, h⟩ := h
            refine cl_7 (pc := 57) C d_CP_symbol_57 (bin_in hb) ?_
            cases h
            exact absurd (h30.symm.trans hn) (by decide)
        · replace h := it_f hc h
          refine ax_ls ([(0, .ref (u 0)), (1, .int x0), (2, .int x1)]) [0, 1, 2] rfl ?_
          replace hm : sPx3_CP_symbol_p35 l D kA u σ [x0, x1] (σf, rf, _) := (ihP tP_CP_symbol_p35 _ _ _ h).2.2
          exact hm _ _ rfl w tx h30 hn p e s m args below meth c F Lo mc ms cells slots σ0 w0 tx hF hLo hcq hsq hga C hadm htr hex hX hP0
    · replace h := it_f hc h
      refine ax_ls ([(0, .ref (u 0)), (1, .int x0), (2, .int x1)]) [0, 1, 2] rfl ?_
      replace hm : sPx3_CP_symbol_p15 l D kA u σ [x0, x1] (σf, rf, _) := (ihP tP_CP_symbol_p15 _ _ _ h).2.2
      exact hm _ _ rfl w tx h30 hn p e s m args below meth c F Lo mc ms cells slots σ0 w0 tx hF hLo hcq hsq hga C hadm htr hex hX hP0
set_option maxHeartbeats 4000000 in
set_option maxRecDepth 100000 in
theorem oPn_CP_symbol_p15 (l : Launch) (D : va_G) (kA : Nat → ClassId) (u : Nat → Nat) (rec : mF) (hG : GM rec) (hG2 : GM2 rec) (ihC : ∀ (w : Nat → Nat) (tx : Value) t σ xs res, rec t σ xs = some res → cSem l D kA u w tx t σ xs res) (ih : ∀ t σ xs res, rec t σ xs = some res → gSem l D kA u t σ xs res) (ihP : ∀ t σ xs res, rec t σ xs = some res → pSem l D kA u t σ xs res) (σ : mS) (xs : List Int32) (res : mR) (h : u_2 (kP_CP_symbol_p15 rec σ) xs = some res) : sPn_CP_symbol_p15 l D kA u σ xs res := by
  intro x0 x1 hxs w tx h30 hn
  subst hxs
  obtain ⟨σf, rf, dd⟩ := res
  dsimp only at hn
  have hmn : gle2 σ σf := qP_CP_symbol_p15 rec hG2 σ x0 x1 _ h
  have h : (lt_ (mT σ 3) (fun σ99 => some (σ99, 0, 0))) = some (σf, rf, dd) := h
  intro p e s m args below meth c F Lo mc ms cells slots σ0 w0 tx0 hF hLo hcq hsq hga C
  dsimp only at hF hLo hcq hsq ⊢
  have hcm : cells ≤ mc := by have := hmn.1; omega
  have hsm : slots ≤ ms := by have := hmn.2; omega
  have hle : True := trivial
  have hm : True := trivial
  replace h := it_l h
  cases h
  exact absurd hn (by simp [mT, va_up])
set_option maxHeartbeats 4000000 in
set_option maxRecDepth 100000 in
theorem oPx2_CP_symbol_p15 (l : Launch) (D : va_G) (kA : Nat → ClassId) (u : Nat → Nat) (rec : mF) (hG : GM rec) (hG2 : GM2 rec) (ihC : ∀ (w : Nat → Nat) (tx : Value) t σ xs res, rec t σ xs = some res → cSem l D kA u w tx t σ xs res) (ih : ∀ t σ xs res, rec t σ xs = some res → gSem l D kA u t σ xs res) (ihP : ∀ t σ xs res, rec t σ xs = some res → pSem l D kA u t σ xs res) (σ : mS) (xs : List Int32) (res : mR) (h : u_2 (kP_CP_symbol_p15 rec σ) xs = some res) : sPx2_CP_symbol_p15 l D kA u σ xs res := by
  intro x0 x1 hxs w tx h30 hn
  subst hxs
  obtain ⟨σf, rf, dd⟩ := res
  dsimp only at hn
  have hmn : gle2 σ σf := qP_CP_symbol_p15 rec hG2 σ x0 x1 _ h
  have h : (lt_ (mT σ 3) (fun σ99 => some (σ99, 0, 0))) = some (σf, rf, dd) := h
  intro p e s m args below meth c F Lo mc ms cells slots σ0 w0 tx0 hF hLo hcq hsq hga C hadm htr hex hX hP0
  dsimp only at hF hLo hcq hsq ⊢
  have hcm : cells ≤ mc := by have := hmn.1; omega
  have hsm : slots ≤ ms := by have := hmn.2; omega
  have hle : True := trivial
  have hm : True := trivial
  replace h := it_l h
  cases h
  exact absurd hn (by simp [mT, va_up])
set_option maxHeartbeats 4000000 in
set_option maxRecDepth 100000 in
theorem oPx3_CP_symbol_p15 (l : Launch) (D : va_G) (kA : Nat → ClassId) (u : Nat → Nat) (rec : mF) (hG : GM rec) (hG2 : GM2 rec) (ihC : ∀ (w : Nat → Nat) (tx : Value) t σ xs res, rec t σ xs = some res → cSem l D kA u w tx t σ xs res) (ih : ∀ t σ xs res, rec t σ xs = some res → gSem l D kA u t σ xs res) (ihP : ∀ t σ xs res, rec t σ xs = some res → pSem l D kA u t σ xs res) (σ : mS) (xs : List Int32) (res : mR) (h : u_2 (kP_CP_symbol_p15 rec σ) xs = some res) : sPx3_CP_symbol_p15 l D kA u σ xs res := by
  intro x0 x1 hxs w tx h30 hn
  subst hxs
  obtain ⟨σf, rf, dd⟩ := res
  dsimp only at hn
  have hmn : gle2 σ σf := qP_CP_symbol_p15 rec hG2 σ x0 x1 _ h
  have h : (lt_ (mT σ 3) (fun σ99 => some (σ99, 0, 0))) = some (σf, rf, dd) := h
  intro p e s m args below meth c F Lo mc ms cells slots σ0 w0 tx0 hF hLo hcq hsq hga C hadm htr hex hX hP0
  dsimp only at hF hLo hcq hsq ⊢
  have hcm : cells ≤ mc := by have := hmn.1; omega
  have hsm : slots ≤ ms := by have := hmn.2; omega
  have hle : True := trivial
  have hm : True := trivial
  replace h := it_l h
  cases h
  have e1 : (mT σ 3).2.2 3001 = σ.2.2 3001 + 1 := rfl
  have e2 : (mT σ 3).2.2 3002 = σ.2.2 3002 + 6 := rfl
  rw [e1] at hcq
  rw [e2] at hsq
  refine ax_widen (k := mc - 1) (n := ms - 6) (by omega) (by omega) ?_
  exact ax_throw3 (pc := 15) C hadm htr hex hX hP0 (is := 259) (tx := "no such symbol") ta_NSE (by decide +kernel) (by decide) tb_classLink_1290 tb_instantiable_1291 tb_initialized_25 (by decide +kernel) (by decide +kernel) (by decide +kernel) (by decide +kernel) d_CP_symbol_15 d_CP_symbol_18 d_CP_symbol_19 d_CP_symbol_22 d_CP_symbol_25 (by show 6 ≤ F; omega) (by show 90 ≤ Lo; omega) (by show mc - 1 + 1 ≤ mc; omega) (by show ms - 6 + 6 ≤ ms; omega) (by omega) (by omega) ⟨w, hga, rfl⟩
set_option maxHeartbeats 4000000 in
set_option maxRecDepth 100000 in
theorem oPn_CP_symbol_p35 (l : Launch) (D : va_G) (kA : Nat → ClassId) (u : Nat → Nat) (rec : mF) (hG : GM rec) (hG2 : GM2 rec) (ihC : ∀ (w : Nat → Nat) (tx : Value) t σ xs res, rec t σ xs = some res → cSem l D kA u w tx t σ xs res) (ih : ∀ t σ xs res, rec t σ xs = some res → gSem l D kA u t σ xs res) (ihP : ∀ t σ xs res, rec t σ xs = some res → pSem l D kA u t σ xs res) (σ : mS) (xs : List Int32) (res : mR) (h : u_2 (kP_CP_symbol_p35 rec σ) xs = some res) : sPn_CP_symbol_p35 l D kA u σ xs res := by
  intro x0 x1 hxs w tx h30 hn
  subst hxs
  obtain ⟨σf, rf, dd⟩ := res
  dsimp only at hn
  have hmn : gle2 σ σf := qP_CP_symbol_p35 rec hG2 σ x0 x1 _ h
  have h : (lt_ (mT σ 2) (fun σ99 => some (σ99, 0, 0))) = some (σf, rf, dd) := h
  intro p e s m args below meth c F Lo mc ms cells slots σ0 w0 tx0 hF hLo hcq hsq hga C
  dsimp only at hF hLo hcq hsq ⊢
  have hcm : cells ≤ mc := by have := hmn.1; omega
  have hsm : slots ≤ ms := by have := hmn.2; omega
  have hle : True := trivial
  have hm : True := trivial
  replace h := it_l h
  cases h
  exact absurd hn (by simp [mT, va_up])
set_option maxHeartbeats 4000000 in
set_option maxRecDepth 100000 in
theorem oPx2_CP_symbol_p35 (l : Launch) (D : va_G) (kA : Nat → ClassId) (u : Nat → Nat) (rec : mF) (hG : GM rec) (hG2 : GM2 rec) (ihC : ∀ (w : Nat → Nat) (tx : Value) t σ xs res, rec t σ xs = some res → cSem l D kA u w tx t σ xs res) (ih : ∀ t σ xs res, rec t σ xs = some res → gSem l D kA u t σ xs res) (ihP : ∀ t σ xs res, rec t σ xs = some res → pSem l D kA u t σ xs res) (σ : mS) (xs : List Int32) (res : mR) (h : u_2 (kP_CP_symbol_p35 rec σ) xs = some res) : sPx2_CP_symbol_p35 l D kA u σ xs res := by
  intro x0 x1 hxs w tx h30 hn
  subst hxs
  obtain ⟨σf, rf, dd⟩ := res
  dsimp only at hn
  have hmn : gle2 σ σf := qP_CP_symbol_p35 rec hG2 σ x0 x1 _ h
  have h : (lt_ (mT σ 2) (fun σ99 => some (σ99, 0, 0))) = some (σf, rf, dd) := h
  intro p e s m args below meth c F Lo mc ms cells slots σ0 w0 tx0 hF hLo hcq hsq hga C hadm htr hex hX hP0
  dsimp only at hF hLo hcq hsq ⊢
  have hcm : cells ≤ mc := by have := hmn.1; omega
  have hsm : slots ≤ ms := by have := hmn.2; omega
  have hle : True := trivial
  have hm : True := trivial
  replace h := it_l h
  cases h
  have e1 : (mT σ 2).2.2 3001 = σ.2.2 3001 + 1 := rfl
  have e2 : (mT σ 2).2.2 3002 = σ.2.2 3002 + 6 := rfl
  rw [e1] at hcq
  rw [e2] at hsq
  refine ax_widen (k := mc - 1) (n := ms - 6) (by omega) (by omega) ?_
  exact ax_throw2 (pc := 35) C hadm htr hex hX hP0 (is := 159) (tx := "no such what") ta_IAE (by decide +kernel) (by decide) tb_classLink_984 tb_instantiable_985 tb_initialized_21 (by decide +kernel) (by decide +kernel) (by decide +kernel) (by decide +kernel) d_CP_symbol_35 d_CP_symbol_38 d_CP_symbol_39 d_CP_symbol_41 d_CP_symbol_44 (by show 6 ≤ F; omega) (by show 90 ≤ Lo; omega) (by show mc - 1 + 1 ≤ mc; omega) (by show ms - 6 + 6 ≤ ms; omega) (by omega) (by omega) ⟨w, hga, rfl⟩
set_option maxHeartbeats 4000000 in
set_option maxRecDepth 100000 in
theorem oPx3_CP_symbol_p35 (l : Launch) (D : va_G) (kA : Nat → ClassId) (u : Nat → Nat) (rec : mF) (hG : GM rec) (hG2 : GM2 rec) (ihC : ∀ (w : Nat → Nat) (tx : Value) t σ xs res, rec t σ xs = some res → cSem l D kA u w tx t σ xs res) (ih : ∀ t σ xs res, rec t σ xs = some res → gSem l D kA u t σ xs res) (ihP : ∀ t σ xs res, rec t σ xs = some res → pSem l D kA u t σ xs res) (σ : mS) (xs : List Int32) (res : mR) (h : u_2 (kP_CP_symbol_p35 rec σ) xs = some res) : sPx3_CP_symbol_p35 l D kA u σ xs res := by
  intro x0 x1 hxs w tx h30 hn
  subst hxs
  obtain ⟨σf, rf, dd⟩ := res
  dsimp only at hn
  have hmn : gle2 σ σf := qP_CP_symbol_p35 rec hG2 σ x0 x1 _ h
  have h : (lt_ (mT σ 2) (fun σ99 => some (σ99, 0, 0))) = some (σf, rf, dd) := h
  intro p e s m args below meth c F Lo mc ms cells slots σ0 w0 tx0 hF hLo hcq hsq hga C hadm htr hex hX hP0
  dsimp only at hF hLo hcq hsq ⊢
  have hcm : cells ≤ mc := by have := hmn.1; omega
  have hsm : slots ≤ ms := by have := hmn.2; omega
  have hle : True := trivial
  have hm : True := trivial
  replace h := it_l h
  cases h
  exact absurd hn (by simp [mT, va_up])
set_option maxHeartbeats 4000000 in
set_option maxRecDepth 100000 in
theorem oPn_CP_symbol_p83 (l : Launch) (D : va_G) (kA : Nat → ClassId) (u : Nat → Nat) (rec : mF) (hG : GM rec) (hG2 : GM2 rec) (ihC : ∀ (w : Nat → Nat) (tx : Value) t σ xs res, rec t σ xs = some res → cSem l D kA u w tx t σ xs res) (ih : ∀ t σ xs res, rec t σ xs = some res → gSem l D kA u t σ xs res) (ihP : ∀ t σ xs res, rec t σ xs = some res → pSem l D kA u t σ xs res) (σ : mS) (xs : List Int32) (res : mR) (h : u_3 (kP_CP_symbol_p83 rec σ) xs = some res) : sPn_CP_symbol_p83 l D kA u σ xs res := by
  intro x0 x1 x2 hxs w tx h30 hn
  subst hxs
  obtain ⟨σf, rf, dd⟩ := res
  dsimp only at hn
  have hmn : gle2 σ σf := qP_CP_symbol_p83 rec hG2 σ x0 x1 x2 _ h
  have h : (if x2 = 0 then (rec tP_CP_symbol_p93 σ [x0, x1, x2, 0]) else (rec tP_CP_symbol_p93 σ [x0, x1, x2, 1])) = some (σf, rf, dd) := h
  intro p e s m args below meth c F Lo mc ms cells slots σ0 w0 tx0 hF hLo hcq hsq hga C
  dsimp only at hF hLo hcq hsq ⊢
  have hcm : cells ≤ mc := by have := hmn.1; omega
  have hsm : slots ≤ ms := by have := hmn.2; omega
  have hle : True := trivial
  have hm : True := trivial
  refine ax_istore_n (pc := 83) C d_CP_symbol_83 rfl (Nat.le_of_ble_eq_true rfl) ([(3, .int x2), (0, .ref (u 0)), (1, .int x0), (2, .int x1)]) rfl ?_
  refine ax_iload_n (pc := 84) C d_CP_symbol_84 rfl 0 rfl ?_
  refine ax_if_eq (pc := 85) C 92 d_CP_symbol_85 (by decide) (fun hc => ?_) (fun hc => ?_)
  · replace h := it_t hc h
    refine ax_iconst (pc := 92) C 0 d_CP_symbol_92 (by decide +kernel) ?_
    refine ax_ls ([(0, .ref (u 0)), (1, .int x0), (2, .int x1), (3, .int x2)]) [1, 2, 3, 0] rfl ?_
    replace hm : sPn_CP_symbol_p93 l D kA u σ [x0, x1, x2, 0] (σf, rf, _) := (ihP tP_CP_symbol_p93 _ _ _ h).1
    exact hm _ _ _ _ rfl w tx h30 hn p e s m args below meth c F Lo mc ms cells slots σ0 w0 tx0 hF hLo hcq hsq hga C
  · replace h := it_f hc h
    refine ax_iconst (pc := 88) C 1 d_CP_symbol_88 (by decide +kernel) ?_
    refine ax_goto (pc := 89) C 93 d_CP_symbol_89 (by decide) ?_
    refine ax_ls ([(0, .ref (u 0)), (1, .int x0), (2, .int x1), (3, .int x2)]) [1, 2, 3, 0] rfl ?_
    replace hm : sPn_CP_symbol_p93 l D kA u σ [x0, x1, x2, 1] (σf, rf, _) := (ihP tP_CP_symbol_p93 _ _ _ h).1
    exact hm _ _ _ _ rfl w tx h30 hn p e s m args below meth c F Lo mc ms cells slots σ0 w0 tx0 hF hLo hcq hsq hga C
set_option maxHeartbeats 4000000 in
set_option maxRecDepth 100000 in
theorem oPx2_CP_symbol_p83 (l : Launch) (D : va_G) (kA : Nat → ClassId) (u : Nat → Nat) (rec : mF) (hG : GM rec) (hG2 : GM2 rec) (ihC : ∀ (w : Nat → Nat) (tx : Value) t σ xs res, rec t σ xs = some res → cSem l D kA u w tx t σ xs res) (ih : ∀ t σ xs res, rec t σ xs = some res → gSem l D kA u t σ xs res) (ihP : ∀ t σ xs res, rec t σ xs = some res → pSem l D kA u t σ xs res) (σ : mS) (xs : List Int32) (res : mR) (h : u_3 (kP_CP_symbol_p83 rec σ) xs = some res) : sPx2_CP_symbol_p83 l D kA u σ xs res := by
  intro x0 x1 x2 hxs w tx h30 hn
  subst hxs
  obtain ⟨σf, rf, dd⟩ := res
  dsimp only at hn
  have hmn : gle2 σ σf := qP_CP_symbol_p83 rec hG2 σ x0 x1 x2 _ h
  have h : (if x2 = 0 then (rec tP_CP_symbol_p93 σ [x0, x1, x2, 0]) else (rec tP_CP_symbol_p93 σ [x0, x1, x2, 1])) = some (σf, rf, dd) := h
  intro p e s m args below meth c F Lo mc ms cells slots σ0 w0 tx0 hF hLo hcq hsq hga C hadm htr hex hX hP0
  dsimp only at hF hLo hcq hsq ⊢
  have hcm : cells ≤ mc := by have := hmn.1; omega
  have hsm : slots ≤ ms := by have := hmn.2; omega
  have hle : True := trivial
  have hm : True := trivial
  refine ax_istore_n (pc := 83) C d_CP_symbol_83 rfl (Nat.le_of_ble_eq_true rfl) ([(3, .int x2), (0, .ref (u 0)), (1, .int x0), (2, .int x1)]) rfl ?_
  refine ax_iload_n (pc := 84) C d_CP_symbol_84 rfl 0 rfl ?_
  refine ax_if_eq (pc := 85) C 92 d_CP_symbol_85 (by decide) (fun hc => ?_) (fun hc => ?_)
  · replace h := it_t hc h
    refine ax_iconst (pc := 92) C 0 d_CP_symbol_92 (by decide +kernel) ?_
    refine ax_ls ([(0, .ref (u 0)), (1, .int x0), (2, .int x1), (3, .int x2)]) [1, 2, 3, 0] rfl ?_
    replace hm : sPx2_CP_symbol_p93 l D kA u σ [x0, x1, x2, 0] (σf, rf, _) := (ihP tP_CP_symbol_p93 _ _ _ h).2.1
    exact hm _ _ _ _ rfl w tx h30 hn p e s m args below meth c F Lo mc ms cells slots σ0 w0 tx0 hF hLo hcq hsq hga C hadm htr hex hX hP0
  · replace h := it_f hc h
    refine ax_iconst (pc := 88) C 1 d_CP_symbol_88 (by decide +kernel) ?_
    refine ax_goto (pc := 89) C 93 d_CP_symbol_89 (by decide) ?_
    refine ax_ls ([(0, .ref (u 0)), (1, .int x0), (2, .int x1), (3, .int x2)]) [1, 2, 3, 0] rfl ?_
    replace hm : sPx2_CP_symbol_p93 l D kA u σ [x0, x1, x2, 1] (σf, rf, _) := (ihP tP_CP_symbol_p93 _ _ _ h).2.1
    exact hm _ _ _ _ rfl w tx h30 hn p e s m args below meth c F Lo mc ms cells slots σ0 w0 tx0 hF hLo hcq hsq hga C hadm htr hex hX hP0
set_option maxHeartbeats 4000000 in
set_option maxRecDepth 100000 in
theorem oPx3_CP_symbol_p83 (l : Launch) (D : va_G) (kA : Nat → ClassId) (u : Nat → Nat) (rec : mF) (hG : GM rec) (hG2 : GM2 rec) (ihC : ∀ (w : Nat → Nat) (tx : Value) t σ xs res, rec t σ xs = some res → cSem l D kA u w tx t σ xs res) (ih : ∀ t σ xs res, rec t σ xs = some res → gSem l D kA u t σ xs res) (ihP : ∀ t σ xs res, rec t σ xs = some res → pSem l D kA u t σ xs res) (σ : mS) (xs : List Int32) (res : mR) (h : u_3 (kP_CP_symbol_p83 rec σ) xs = some res) : sPx3_CP_symbol_p83 l D kA u σ xs res := by
  intro x0 x1 x2 hxs w tx h30 hn
  subst hxs
  obtain ⟨σf, rf, dd⟩ := res
  dsimp only at hn
  have hmn : gle2 σ σf := qP_CP_symbol_p83 rec hG2 σ x0 x1 x2 _ h
  have h : (if x2 = 0 then (rec tP_CP_symbol_p93 σ [x0, x1, x2, 0]) else (rec tP_CP_symbol_p93 σ [x0, x1, x2, 1])) = some (σf, rf, dd) := h
  intro p e s m args below meth c F Lo mc ms cells slots σ0 w0 tx0 hF hLo hcq hsq hga C hadm htr hex hX hP0
  dsimp only at hF hLo hcq hsq ⊢
  have hcm : cells ≤ mc := by have := hmn.1; omega
  have hsm : slots ≤ ms := by have := hmn.2; omega
  have hle : True := trivial
  have hm : True := trivial
  refine ax_istore_n (pc := 83) C d_CP_symbol_83 rfl (Nat.le_of_ble_eq_true rfl) ([(3, .int x2), (0, .ref (u 0)), (1, .int x0), (2, .int x1)]) rfl ?_
  refine ax_iload_n (pc := 84) C d_CP_symbol_84 rfl 0 rfl ?_
  refine ax_if_eq (pc := 85) C 92 d_CP_symbol_85 (by decide) (fun hc => ?_) (fun hc => ?_)
  · replace h := it_t hc h
    refine ax_iconst (pc := 92) C 0 d_CP_symbol_92 (by decide +kernel) ?_
    refine ax_ls ([(0, .ref (u 0)), (1, .int x0), (2, .int x1), (3, .int x2)]) [1, 2, 3, 0] rfl ?_
    replace hm : sPx3_CP_symbol_p93 l D kA u σ [x0, x1, x2, 0] (σf, rf, _) := (ihP tP_CP_symbol_p93 _ _ _ h).2.2
    exact hm _ _ _ _ rfl w tx h30 hn p e s m args below meth c F Lo mc ms cells slots σ0 w0 tx0 hF hLo hcq hsq hga C hadm htr hex hX hP0
  · replace h := it_f hc h
    refine ax_iconst (pc := 88) C 1 d_CP_symbol_88 (by decide +kernel) ?_
    refine ax_goto (pc := 89) C 93 d_CP_symbol_89 (by decide) ?_
    refine ax_ls ([(0, .ref (u 0)), (1, .int x0), (2, .int x1), (3, .int x2)]) [1, 2, 3, 0] rfl ?_
    replace hm : sPx3_CP_symbol_p93 l D kA u σ [x0, x1, x2, 1] (σf, rf, _) := (ihP tP_CP_symbol_p93 _ _ _ h).2.2
    exact hm _ _ _ _ rfl w tx h30 hn p e s m args below meth c F Lo mc ms cells slots σ0 w0 tx0 hF hLo hcq hsq hga C hadm htr hex hX hP0
set_option maxHeartbeats 4000000 in
set_option maxRecDepth 100000 in
theorem oPn_CP_symbol_p93 (l : Launch) (D : va_G) (kA : Nat → ClassId) (u : Nat → Nat) (rec : mF) (hG : GM rec) (hG2 : GM2 rec) (ihC : ∀ (w : Nat → Nat) (tx : Value) t σ xs res, rec t σ xs = some res → cSem l D kA u w tx t σ xs res) (ih : ∀ t σ xs res, rec t σ xs = some res → gSem l D kA u t σ xs res) (ihP : ∀ t σ xs res, rec t σ xs = some res → pSem l D kA u t σ xs res) (σ : mS) (xs : List Int32) (res : mR) (h : u_4 (kP_CP_symbol_p93 rec σ) xs = some res) : sPn_CP_symbol_p93 l D kA u σ xs res := by
  intro x0 x1 x2 x3 hxs w tx h30 hn
  subst hxs
  obtain ⟨σf, rf, dd⟩ := res
  dsimp only at hn
  have hmn : gle2 σ σf := qP_CP_symbol_p93 rec hG2 σ x0 x1 x2 x3 _ h
  have h : (some (σ, x3, 0)) = some (σf, rf, dd) := h
  intro p e s m args below meth c F Lo mc ms cells slots σ0 w0 tx0 hF hLo hcq hsq hga C
  dsimp only at hF hLo hcq hsq ⊢
  have hcm : cells ≤ mc := by have := hmn.1; omega
  have hsm : slots ≤ ms := by have := hmn.2; omega
  have hle : True := trivial
  have hm : True := trivial
  cases h
  exact ax_iret (pc := 93) C d_CP_symbol_93 ⟨rfl, w, tx, hga, rfl, rfl⟩ hcm hsm
set_option maxHeartbeats 4000000 in
set_option maxRecDepth 100000 in
theorem oPx2_CP_symbol_p93 (l : Launch) (D : va_G) (kA : Nat → ClassId) (u : Nat → Nat) (rec : mF) (hG : GM rec) (hG2 : GM2 rec) (ihC : ∀ (w : Nat → Nat) (tx : Value) t σ xs res, rec t σ xs = some res → cSem l D kA u w tx t σ xs res) (ih : ∀ t σ xs res, rec t σ xs = some res → gSem l D kA u t σ xs res) (ihP : ∀ t σ xs res, rec t σ xs = some res → pSem l D kA u t σ xs res) (σ : mS) (xs : List Int32) (res : mR) (h : u_4 (kP_CP_symbol_p93 rec σ) xs = some res) : sPx2_CP_symbol_p93 l D kA u σ xs res := by
  intro x0 x1 x2 x3 hxs w tx h30 hn
  subst hxs
  obtain ⟨σf, rf, dd⟩ := res
  dsimp only at hn
  have hmn : gle2 σ σf := qP_CP_symbol_p93 rec hG2 σ x0 x1 x2 x3 _ h
  have h : (some (σ, x3, 0)) = some (σf, rf, dd) := h
  intro p e s m args below meth c F Lo mc ms cells slots σ0 w0 tx0 hF hLo hcq hsq hga C hadm htr hex hX hP0
  dsimp only at hF hLo hcq hsq ⊢
  have hcm : cells ≤ mc := by have := hmn.1; omega
  have hsm : slots ≤ ms := by have := hmn.2; omega
  have hle : True := trivial
  have hm : True := trivial
  cases h
  exact absurd (h30.symm.trans hn) (by decide)
set_option maxHeartbeats 4000000 in
set_option maxRecDepth 100000 in
theorem oPx3_CP_symbol_p93 (l : Launch) (D : va_G) (kA : Nat → ClassId) (u : Nat → Nat) (rec : mF) (hG : GM rec) (hG2 : GM2 rec) (ihC : ∀ (w : Nat → Nat) (tx : Value) t σ xs res, rec t σ xs = some res → cSem l D kA u w tx t σ xs res) (ih : ∀ t σ xs res, rec t σ xs = some res → gSem l D kA u t σ xs res) (ihP : ∀ t σ xs res, rec t σ xs = some res → pSem l D kA u t σ xs res) (σ : mS) (xs : List Int32) (res : mR) (h : u_4 (kP_CP_symbol_p93 rec σ) xs = some res) : sPx3_CP_symbol_p93 l D kA u σ xs res := by
  intro x0 x1 x2 x3 hxs w tx h30 hn
  subst hxs
  obtain ⟨σf, rf, dd⟩ := res
  dsimp only at hn
  have hmn : gle2 σ σf := qP_CP_symbol_p93 rec hG2 σ x0 x1 x2 x3 _ h
  have h : (some (σ, x3, 0)) = some (σf, rf, dd) := h
  intro p e s m args below meth c F Lo mc ms cells slots σ0 w0 tx0 hF hLo hcq hsq hga C hadm htr hex hX hP0
  dsimp only at hF hLo hcq hsq ⊢
  have hcm : cells ≤ mc := by have := hmn.1; omega
  have hsm : slots ≤ ms := by have := hmn.2; omega
  have hle : True := trivial
  have hm : True := trivial
  cases h
  exact absurd (h30.symm.trans hn) (by decide)
