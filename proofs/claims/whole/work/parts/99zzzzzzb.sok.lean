set_option maxHeartbeats 4000000 in
set_option maxRecDepth 100000 in
theorem oS_refuse (l : Launch) (D : va_G) (kA : Nat → ClassId) (z : Nat) (rec : mF) (hG : GMs rec) (ih : ∀ t σ xs res, rec t σ xs = some res → sSem l D kA z t σ xs res) (σ : mS) (xs : List Int32) (res : mR) (h : u_2 (kS_refuse rec σ) xs = some res) : sS_refuse l D kA z σ xs res := by
  intro x0 x1 hxs v
  subst hxs
  obtain ⟨σf, rf, dd⟩ := res
  have hmn : gle σ σf := qS_refuse rec hG σ x0 x1 _ h
  have h : (if x1 = 0 then (rec tS_refuse_9 σ [x0, x1]) else (lt_ (mI σ 4 x0) (fun σ1 => rec tS_refuse_9 σ1 [x0, x1]))) = some (σf, rf, dd) := h
  refine ax_Mi.of (by decide +kernel) (Nat.le_of_ble_eq_true rfl) ?_
  intro p e s m args below meth c C hnm
  replace C : ax_C p s m args meth c b_MM_refuse "ClauseProverModel" 3 (some .boolean) D kA (va_A (mmW kA z v σ) s.heap.size) := C
  obtain ⟨F, hFe⟩ : ∃ z9, z9 = dd + 3 := ⟨_, rfl⟩
  obtain ⟨Lo, hLoe⟩ : ∃ z9, z9 = 48 * dd + 144 := ⟨_, rfl⟩
  obtain ⟨mc, hmce⟩ : ∃ z9, z9 = σf.2.2 3001 - σ.2.2 3001 := ⟨_, rfl⟩
  obtain ⟨ms, hmse⟩ : ∃ z9, z9 = σf.2.2 3002 - σ.2.2 3002 := ⟨_, rfl⟩
  obtain ⟨σ0, hσ0e⟩ : ∃ z9, z9 = σ := ⟨_, rfl⟩
  obtain ⟨v0, hv0e⟩ : ∃ z9, z9 = v := ⟨_, rfl⟩
  suffices K : ∀ (cells slots : Nat), cells = 0 → slots = 0 → AW p l e { frames := F, cells := mc, slots := ms, locals := Lo } s m args below meth c D kA (va_A (mmW kA z v0 σ0) s.heap.size) 3 (ax_Qi below args s D kA (mmW kA z v0 σ0) mc ms (fun r w1 => r = rf ∧ ∃ v2 : Nat → Nat, (∀ i, i ≠ 1 → v2 i = v0 i) ∧ w1 = mmW kA z v2 σf)) 0 [(0, .ref z), (1, .int x0), (2, .int x1)] [] (mmW kA z v σ) cells slots by
    have K := K 0 0 rfl rfl
    rw [hFe, hLoe, hmce, hmse, hσ0e, hv0e] at K
    exact ax_ls ([(0, .ref z), (1, .int x0), (2, .int x1)]) [0, 1, 2] rfl K
  replace C : ax_C p s m args meth c b_MM_refuse "ClauseProverModel" 3 (some .boolean) D kA (va_A (mmW kA z v0 σ0) s.heap.size) := by rw [hσ0e, hv0e]; exact C
  intro cells slots hc0 hs0
  have hcq : cells + σf.2.2 3001 ≤ mc + σ.2.2 3001 := by have := hmn.1; omega
  have hsq : slots + σf.2.2 3002 ≤ ms + σ.2.2 3002 := by have := hmn.2.1; omega
  have hga : ∀ i, i ≠ 1 → v i = v0 i := fun i _ => by rw [hv0e]
  have hF : dd + 3 ≤ F := by omega
  have hLo : 48 * dd + 144 ≤ Lo := by omega
  have hcm : cells ≤ mc := by have := hmn.1; omega
  have hsm : slots ≤ ms := by have := hmn.2.1; omega
  have hle : True := trivial
  have hm : True := trivial
  refine ax_iload_n (pc := 0) C d_MM_refuse_0 rfl 2 rfl ?_
  refine ax_if_eq (pc := 1) C 9 d_MM_refuse_1 (by decide) (fun hc => ?_) (fun hc => ?_)
  · replace h := it_t hc h
    refine ax_ls ([(0, .ref z), (1, .int x0), (2, .int x1)]) [0, 1, 2] rfl ?_
    replace hm : sS_refuse_9 l D kA z σ [x0, x1] (σf, rf, _) := ih tS_refuse_9 _ _ _ h
    exact hm _ _ rfl v p e s m args below meth c F Lo mc ms cells slots σ0 v0 hF hLo hcq hsq hga C
  · replace h := it_f hc h
    refine ax_aload_n (pc := 4) C d_MM_refuse_4 rfl 0 rfl ?_
    refine ax_iload_n (pc := 5) C d_MM_refuse_5 rfl 1 rfl ?_
    refine mp_24 (pc := 6) C d_MM_refuse_6 ?_
    replace h := it_l h
    replace hcq : cells + σf.2.2 3001 ≤ mc + (mI σ 4 x0).2.2 3001 := hcq
    replace hsq : slots + σf.2.2 3002 ≤ ms + (mI σ 4 x0).2.2 3002 := hsq
    generalize mI σ 4 x0 = σ1 at h hcq hsq ⊢
    refine ax_ls ([(0, .ref z), (1, .int x0), (2, .int x1)]) [0, 1, 2] rfl ?_
    replace hm : sS_refuse_9 l D kA z σ1 [x0, x1] (σf, rf, _) := ih tS_refuse_9 _ _ _ h
    exact hm _ _ rfl v p e s m args below meth c F Lo mc ms cells slots σ0 v0 hF hLo hcq hsq hga C
set_option maxHeartbeats 4000000 in
set_option maxRecDepth 100000 in
theorem oS_refuse_9 (l : Launch) (D : va_G) (kA : Nat → ClassId) (z : Nat) (rec : mF) (hG : GMs rec) (ih : ∀ t σ xs res, rec t σ xs = some res → sSem l D kA z t σ xs res) (σ : mS) (xs : List Int32) (res : mR) (h : u_2 (kS_refuse_9 rec σ) xs = some res) : sS_refuse_9 l D kA z σ xs res := by
  intro x0 x1 hxs v
  subst hxs
  obtain ⟨σf, rf, dd⟩ := res
  have hmn : gle σ σf := qS_refuse_9 rec hG σ x0 x1 _ h
  have h : (if x1 = 0 ∨ x1 = 1 then some (σ, x1, 0) else none) = some (σf, rf, dd) := h
  intro p e s m args below meth c F Lo mc ms cells slots σ0 v0 hF hLo hcq hsq hga C
  dsimp only at hF hLo hcq hsq ⊢
  have hcm : cells ≤ mc := by have := hmn.1; omega
  have hsm : slots ≤ ms := by have := hmn.2.1; omega
  have hle : True := trivial
  have hm : True := trivial
  refine ax_iload_n (pc := 9) C d_MM_refuse_9 rfl 2 rfl ?_
  replace h := it_g h
  obtain ⟨hb, h⟩ := h
  cases h
  exact ax_zret (pc := 10) C d_MM_refuse_10 (nb01 hb) ⟨rfl, v, hga, rfl⟩ hcm hsm
set_option maxHeartbeats 4000000 in
set_option maxRecDepth 100000 in
theorem oS_none (l : Launch) (D : va_G) (kA : Nat → ClassId) (z : Nat) (rec : mF) (hG : GMs rec) (ih : ∀ t σ xs res, rec t σ xs = some res → sSem l D kA z t σ xs res) (σ : mS) (xs : List Int32) (res : mR) (h : u_1 (kS_none rec σ) xs = some res) : sS_none l D kA z σ xs res := by
  intro x0 hxs v
  subst hxs
  obtain ⟨σf, rf, dd⟩ := res
  have hmn : gle σ σf := qS_none rec hG σ x0 _ h
  have h : (lt_ (mI σ 4 0) (fun σ1 => if x0 < 0 then (rec tS_none_19 σ1 [x0, 1]) else (if x0 < (σ1.1 84) then (rec tS_none_24 σ1 [x0, 0, 1]) else (rec tS_none_19 σ1 [x0, 1])))) = some (σf, rf, dd) := h
  refine ax_Mi.of (by decide +kernel) (Nat.le_of_ble_eq_true rfl) ?_
  intro p e s m args below meth c C hnm
  replace C : ax_C p s m args meth c b_MM_none "ClauseProverModel" 2 (some .boolean) D kA (va_A (mmW kA z v σ) s.heap.size) := C
  obtain ⟨F, hFe⟩ : ∃ z9, z9 = dd + 3 := ⟨_, rfl⟩
  obtain ⟨Lo, hLoe⟩ : ∃ z9, z9 = 48 * dd + 144 := ⟨_, rfl⟩
  obtain ⟨mc, hmce⟩ : ∃ z9, z9 = σf.2.2 3001 - σ.2.2 3001 := ⟨_, rfl⟩
  obtain ⟨ms, hmse⟩ : ∃ z9, z9 = σf.2.2 3002 - σ.2.2 3002 := ⟨_, rfl⟩
  obtain ⟨σ0, hσ0e⟩ : ∃ z9, z9 = σ := ⟨_, rfl⟩
  obtain ⟨v0, hv0e⟩ : ∃ z9, z9 = v := ⟨_, rfl⟩
  suffices K : ∀ (cells slots : Nat), cells = 0 → slots = 0 → AW p l e { frames := F, cells := mc, slots := ms, locals := Lo } s m args below meth c D kA (va_A (mmW kA z v0 σ0) s.heap.size) 2 (ax_Qi below args s D kA (mmW kA z v0 σ0) mc ms (fun r w1 => r = rf ∧ ∃ v2 : Nat → Nat, (∀ i, i ≠ 1 → v2 i = v0 i) ∧ w1 = mmW kA z v2 σf)) 0 [(0, .ref z), (1, .int x0)] [] (mmW kA z v σ) cells slots by
    have K := K 0 0 rfl rfl
    rw [hFe, hLoe, hmce, hmse, hσ0e, hv0e] at K
    exact ax_ls ([(0, .ref z), (1, .int x0)]) [0, 1] rfl K
  replace C : ax_C p s m args meth c b_MM_none "ClauseProverModel" 2 (some .boolean) D kA (va_A (mmW kA z v0 σ0) s.heap.size) := by rw [hσ0e, hv0e]; exact C
  intro cells slots hc0 hs0
  have hcq : cells + σf.2.2 3001 ≤ mc + σ.2.2 3001 := by have := hmn.1; omega
  have hsq : slots + σf.2.2 3002 ≤ ms + σ.2.2 3002 := by have := hmn.2.1; omega
  have hga : ∀ i, i ≠ 1 → v i = v0 i := fun i _ => by rw [hv0e]
  have hF : dd + 3 ≤ F := by omega
  have hLo : 48 * dd + 144 ≤ Lo := by omega
  have hcm : cells ≤ mc := by have := hmn.1; omega
  have hsm : slots ≤ ms := by have := hmn.2.1; omega
  have hle : True := trivial
  have hm : True := trivial
  refine ax_aload_n (pc := 0) C d_MM_none_0 rfl 0 rfl ?_
  refine ax_iconst (pc := 1) C 0 d_MM_none_1 (by decide +kernel) ?_
  refine mp_24 (pc := 2) C d_MM_none_2 ?_
  replace h := it_l h
  replace hcq : cells + σf.2.2 3001 ≤ mc + (mI σ 4 0).2.2 3001 := hcq
  replace hsq : slots + σf.2.2 3002 ≤ ms + (mI σ 4 0).2.2 3002 := hsq
  generalize mI σ 4 0 = σ1 at h hcq hsq ⊢
  refine ax_aload_n (pc := 5) C d_MM_none_5 rfl 0 rfl ?_
  refine ax_iconst (pc := 6) C 1 d_MM_none_6 (by decide +kernel) ?_
  refine ax_iload_n (pc := 7) C d_MM_none_7 rfl 1 rfl ?_
  refine ax_if_lt (pc := 8) C 19 d_MM_none_8 (by decide) (fun hc => ?_) (fun hc => ?_)
  · replace h := it_t hc h
    refine ax_ls ([(0, .ref z), (1, .int x0)]) [0, 1] rfl ?_
    replace hm : sS_none_19 l D kA z σ1 [x0, 1] (σf, rf, _) := ih tS_none_19 _ _ _ h
    exact hm _ _ rfl v p e s m args below meth c F Lo mc ms cells slots σ0 v0 hF hLo hcq hsq hga C
  · replace h := it_f hc h
    refine ax_iload_n (pc := 11) C d_MM_none_11 rfl 1 rfl ?_
    refine ax_aload_n (pc := 12) C d_MM_none_12 rfl 0 rfl ?_
    refine mg_269 (pc := 13) C d_MM_none_13 ?_
    refine ax_icmp_lt (pc := 16) C 23 d_MM_none_16 (by decide) (fun hc => ?_) (fun hc => ?_)
    · replace h := it_t hc h
      refine ax_iconst (pc := 23) C 0 d_MM_none_23 (by decide +kernel) ?_
      refine ax_ls ([(0, .ref z), (1, .int x0)]) [0, 1] rfl ?_
      replace hm : sS_none_24 l D kA z σ1 [x0, 0, 1] (σf, rf, _) := ih tS_none_24 _ _ _ h
      exact hm _ _ _ rfl v p e s m args below meth c F Lo mc ms cells slots σ0 v0 hF hLo hcq hsq hga C
    · replace h := it_f hc h
      refine ax_ls ([(0, .ref z), (1, .int x0)]) [0, 1] rfl ?_
      replace hm : sS_none_19 l D kA z σ1 [x0, 1] (σf, rf, _) := ih tS_none_19 _ _ _ h
      exact hm _ _ rfl v p e s m args below meth c F Lo mc ms cells slots σ0 v0 hF hLo hcq hsq hga C
set_option maxHeartbeats 4000000 in
set_option maxRecDepth 100000 in
theorem oS_none_19 (l : Launch) (D : va_G) (kA : Nat → ClassId) (z : Nat) (rec : mF) (hG : GMs rec) (ih : ∀ t σ xs res, rec t σ xs = some res → sSem l D kA z t σ xs res) (σ : mS) (xs : List Int32) (res : mR) (h : u_2 (kS_none_19 rec σ) xs = some res) : sS_none_19 l D kA z σ xs res := by
  intro x0 x1 hxs v
  subst hxs
  obtain ⟨σf, rf, dd⟩ := res
  have hmn : gle σ σf := qS_none_19 rec hG σ x0 x1 _ h
  have h : (rec tS_none_24 σ [x0, 1, x1]) = some (σf, rf, dd) := h
  intro p e s m args below meth c F Lo mc ms cells slots σ0 v0 hF hLo hcq hsq hga C
  dsimp only at hF hLo hcq hsq ⊢
  have hcm : cells ≤ mc := by have := hmn.1; omega
  have hsm : slots ≤ ms := by have := hmn.2.1; omega
  have hle : True := trivial
  have hm : True := trivial
  refine ax_iconst (pc := 19) C 1 d_MM_none_19 (by decide +kernel) ?_
  refine ax_goto (pc := 20) C 24 d_MM_none_20 (by decide) ?_
  refine ax_ls ([(0, .ref z), (1, .int x0)]) [0, 1] rfl ?_
  replace hm : sS_none_24 l D kA z σ [x0, 1, x1] (σf, rf, _) := ih tS_none_24 _ _ _ h
  exact hm _ _ _ rfl v p e s m args below meth c F Lo mc ms cells slots σ0 v0 hF hLo hcq hsq hga C
set_option maxHeartbeats 4000000 in
set_option maxRecDepth 100000 in
theorem oS_none_24 (l : Launch) (D : va_G) (kA : Nat → ClassId) (z : Nat) (rec : mF) (hG : GMs rec) (ih : ∀ t σ xs res, rec t σ xs = some res → sSem l D kA z t σ xs res) (σ : mS) (xs : List Int32) (res : mR) (h : u_3 (kS_none_24 rec σ) xs = some res) : sS_none_24 l D kA z σ xs res := by
  intro x0 x1 x2 hxs v
  subst hxs
  obtain ⟨σf, rf, dd⟩ := res
  have hmn : gle σ σf := qS_none_24 rec hG σ x0 x1 x2 _ h
  have h : (bnd (rec tS_refuse σ [x2, x1]) (fun σ1 r1 => if r1 = 0 ∨ r1 = 1 then some (σ1, r1, 0) else none)) = some (σf, rf, dd) := h
  intro p e s m args below meth c F Lo mc ms cells slots σ0 v0 hF hLo hcq hsq hga C
  dsimp only at hF hLo hcq hsq ⊢
  have hcm : cells ≤ mc := by have := hmn.1; omega
  have hsm : slots ≤ ms := by have := hmn.2.1; omega
  have hle : True := trivial
  have hm : True := trivial
  replace h := it_b h
  obtain ⟨σ1, r1, d1_1, d2_1, h1, h, hd2, hd1⟩ := h
  replace hle := hG _ _ _ _ h1
  dsimp only at hle
  replace hmn : gle σ1 σf := gm_use h (gm_if gm_some gm_none)
  replace hm : sS_refuse l D kA z σ [x2, x1] (σ1, r1, d1_1) := ih tS_refuse _ _ _ h1
  refine gcS_i (pc := 24) C (As := [.int x2, .int x1]) (rest := []) (hm _ _ rfl v) ml_MM_401 d_MM_none_24 rfl rfl (by dsimp only; omega) (by dsimp only; omega) (by have := hmn.1; have := hle.1; dsimp only; omega) (by have := hmn.2.1; have := hle.2.1; dsimp only; omega) (Nat.le_of_ble_eq_true rfl) (fun r9 w1 hw => ?_)
  obtain ⟨hrq1, v1, hag1, hwq1⟩ := hw
  dsimp only at hwq1 hrq1
  subst hwq1
  replace hrq1 := hrq1.symm
  subst hrq1
  dsimp only
  have hga1 : ∀ i, i ≠ 1 → v1 i = v0 i := fun i hi => (hag1 i hi).trans (hga i hi)
  replace hcq : (cells + (σ1.2.2 3001 - σ.2.2 3001)) + σf.2.2 3001 ≤ mc + σ1.2.2 3001 := by have := hmn.1; have := hle.1; omega
  replace hcm : (cells + (σ1.2.2 3001 - σ.2.2 3001)) ≤ mc := by have := hmn.1; have := hle.1; omega
  generalize cells + (σ1.2.2 3001 - σ.2.2 3001) = cells at hcq hcm ⊢
  replace hsq : (slots + (σ1.2.2 3002 - σ.2.2 3002)) + σf.2.2 3002 ≤ ms + σ1.2.2 3002 := by have := hmn.2.1; have := hle.2.1; omega
  replace hsm : (slots + (σ1.2.2 3002 - σ.2.2 3002)) ≤ ms := by have := hmn.2.1; have := hle.2.1; omega
  generalize slots + (σ1.2.2 3002 - σ.2.2 3002) = slots at hsq hsm ⊢
  replace hF : d2_1 + 3 ≤ F := by omega
  replace hLo : 48 * d2_1 + 144 ≤ Lo := by omega
  replace h := it_g h
  obtain ⟨hb, h⟩ := h
  cases h
  exact ax_zret (pc := 27) C d_MM_none_27 (nb01 hb) ⟨rfl, v1, hga1, rfl⟩ hcm hsm
set_option maxHeartbeats 4000000 in
set_option maxRecDepth 100000 in
theorem oS_isPredicate (l : Launch) (D : va_G) (kA : Nat → ClassId) (z : Nat) (rec : mF) (hG : GMs rec) (ih : ∀ t σ xs res, rec t σ xs = some res → sSem l D kA z t σ xs res) (σ : mS) (xs : List Int32) (res : mR) (h : u_1 (kS_isPredicate rec σ) xs = some res) : sS_isPredicate l D kA z σ xs res := by
  intro x0 hxs v
  subst hxs
  obtain ⟨σf, rf, dd⟩ := res
  have hmn : gle σ σf := qS_isPredicate rec hG σ x0 _ h
  have h : (if bin x0 420000 = true then (if (σ.2.1 43 (Int32.toNatClampNeg x0)) < 0 then (rec tS_isPredicate_27 σ [x0]) else (if bin x0 420000 = true then (if bin (σ.2.1 43 (Int32.toNatClampNeg x0)) 900 = true then (if (σ.2.1 49 (Int32.toNatClampNeg (σ.2.1 43 (Int32.toNatClampNeg x0)))) = 0 then (rec tS_isPredicate_27 σ [x0]) else (rec tS_isPredicate_28 σ [x0, 1])) else none) else none)) else none) = some (σf, rf, dd) := h
  refine ax_Mi.of (by decide +kernel) (Nat.le_of_ble_eq_true rfl) ?_
  intro p e s m args below meth c C hnm
  replace C : ax_C p s m args meth c b_MM_isPredicate "ClauseProverModel" 2 (some .boolean) D kA (va_A (mmW kA z v σ) s.heap.size) := C
  obtain ⟨F, hFe⟩ : ∃ z9, z9 = dd + 3 := ⟨_, rfl⟩
  obtain ⟨Lo, hLoe⟩ : ∃ z9, z9 = 48 * dd + 144 := ⟨_, rfl⟩
  obtain ⟨mc, hmce⟩ : ∃ z9, z9 = σf.2.2 3001 - σ.2.2 3001 := ⟨_, rfl⟩
  obtain ⟨ms, hmse⟩ : ∃ z9, z9 = σf.2.2 3002 - σ.2.2 3002 := ⟨_, rfl⟩
  obtain ⟨σ0, hσ0e⟩ : ∃ z9, z9 = σ := ⟨_, rfl⟩
  obtain ⟨v0, hv0e⟩ : ∃ z9, z9 = v := ⟨_, rfl⟩
  suffices K : ∀ (cells slots : Nat), cells = 0 → slots = 0 → AW p l e { frames := F, cells := mc, slots := ms, locals := Lo } s m args below meth c D kA (va_A (mmW kA z v0 σ0) s.heap.size) 2 (ax_Qi below args s D kA (mmW kA z v0 σ0) mc ms (fun r w1 => r = rf ∧ ∃ v2 : Nat → Nat, (∀ i, i ≠ 1 → v2 i = v0 i) ∧ w1 = mmW kA z v2 σf)) 0 [(0, .ref z), (1, .int x0)] [] (mmW kA z v σ) cells slots by
    have K := K 0 0 rfl rfl
    rw [hFe, hLoe, hmce, hmse, hσ0e, hv0e] at K
    exact ax_ls ([(0, .ref z), (1, .int x0)]) [0, 1] rfl K
  replace C : ax_C p s m args meth c b_MM_isPredicate "ClauseProverModel" 2 (some .boolean) D kA (va_A (mmW kA z v0 σ0) s.heap.size) := by rw [hσ0e, hv0e]; exact C
  intro cells slots hc0 hs0
  have hcq : cells + σf.2.2 3001 ≤ mc + σ.2.2 3001 := by have := hmn.1; omega
  have hsq : slots + σf.2.2 3002 ≤ ms + σ.2.2 3002 := by have := hmn.2.1; omega
  have hga : ∀ i, i ≠ 1 → v i = v0 i := fun i _ => by rw [hv0e]
  have hF : dd + 3 ≤ F := by omega
  have hLo : 48 * dd + 144 ≤ Lo := by omega
  have hcm : cells ≤ mc := by have := hmn.1; omega
  have hsm : slots ≤ ms := by have := hmn.2.1; omega
  have hle : True := trivial
  have hm : True := trivial
  refine ax_aload_n (pc := 0) C d_MM_isPredicate_0 rfl 0 rfl ?_
  refine mg_145 (pc := 1) C d_MM_isPredicate_1 ?_
  refine ax_iload_n (pc := 4) C d_MM_isPredicate_4 rfl 1 rfl ?_
  replace h := it_g h
  obtain ⟨hb, h⟩ := h
  refine ml_43 (pc := 5) C d_MM_isPredicate_5 (bin_in hb) ?_
  refine ax_if_lt (pc := 6) C 27 d_MM_isPredicate_6 (by decide) (fun hc => ?_) (fun hc => ?_)
  · replace h := it_t hc h
    refine ax_ls ([(0, .ref z), (1, .int x0)]) [0, 1] rfl ?_
    replace hm : sS_isPredicate_27 l D kA z σ [x0] (σf, rf, _) := ih tS_isPredicate_27 _ _ _ h
    exact hm _ rfl v p e s m args below meth c F Lo mc ms cells slots σ0 v0 hF hLo hcq hsq hga C
  · replace h := it_f hc h
    refine ax_aload_n (pc := 9) C d_MM_isPredicate_9 rfl 0 rfl ?_
    refine mg_163 (pc := 10) C d_MM_isPredicate_10 ?_
    refine ax_aload_n (pc := 13) C d_MM_isPredicate_13 rfl 0 rfl ?_
    refine mg_145 (pc := 14) C d_MM_isPredicate_14 ?_
    refine ax_iload_n (pc := 17) C d_MM_isPredicate_17 rfl 1 rfl ?_
    replace h := it_g h
    obtain ⟨hb, h⟩ := h
    refine ml_43 (pc := 18) C d_MM_isPredicate_18 (bin_in hb) ?_
    replace h := it_g h
    obtain ⟨hb, h⟩ := h
    refine ml_49 (pc := 19) C d_MM_isPredicate_19 (bin_in hb) ?_
    refine ax_if_eq (pc := 20) C 27 d_MM_isPredicate_20 (by decide) (fun hc => ?_) (fun hc => ?_)
    · replace h := it_t hc h
      refine ax_ls ([(0, .ref z), (1, .int x0)]) [0, 1] rfl ?_
      replace hm : sS_isPredicate_27 l D kA z σ [x0] (σf, rf, _) := ih tS_isPredicate_27 _ _ _ h
      exact hm _ rfl v p e s m args below meth c F Lo mc ms cells slots σ0 v0 hF hLo hcq hsq hga C
    · replace h := it_f hc h
      refine ax_iconst (pc := 23) C 1 d_MM_isPredicate_23 (by decide +kernel) ?_
      refine ax_goto (pc := 24) C 28 d_MM_isPredicate_24 (by decide) ?_
      refine ax_ls ([(0, .ref z), (1, .int x0)]) [0, 1] rfl ?_
      replace hm : sS_isPredicate_28 l D kA z σ [x0, 1] (σf, rf, _) := ih tS_isPredicate_28 _ _ _ h
      exact hm _ _ rfl v p e s m args below meth c F Lo mc ms cells slots σ0 v0 hF hLo hcq hsq hga C
set_option maxHeartbeats 4000000 in
set_option maxRecDepth 100000 in
theorem oS_isPredicate_27 (l : Launch) (D : va_G) (kA : Nat → ClassId) (z : Nat) (rec : mF) (hG : GMs rec) (ih : ∀ t σ xs res, rec t σ xs = some res → sSem l D kA z t σ xs res) (σ : mS) (xs : List Int32) (res : mR) (h : u_1 (kS_isPredicate_27 rec σ) xs = some res) : sS_isPredicate_27 l D kA z σ xs res := by
  intro x0 hxs v
  subst hxs
  obtain ⟨σf, rf, dd⟩ := res
  have hmn : gle σ σf := qS_isPredicate_27 rec hG σ x0 _ h
  have h : (rec tS_isPredicate_28 σ [x0, 0]) = some (σf, rf, dd) := h
  intro p e s m args below meth c F Lo mc ms cells slots σ0 v0 hF hLo hcq hsq hga C
  dsimp only at hF hLo hcq hsq ⊢
  have hcm : cells ≤ mc := by have := hmn.1; omega
  have hsm : slots ≤ ms := by have := hmn.2.1; omega
  have hle : True := trivial
  have hm : True := trivial
  refine ax_iconst (pc := 27) C 0 d_MM_isPredicate_27 (by decide +kernel) ?_
  refine ax_ls ([(0, .ref z), (1, .int x0)]) [0, 1] rfl ?_
  replace hm : sS_isPredicate_28 l D kA z σ [x0, 0] (σf, rf, _) := ih tS_isPredicate_28 _ _ _ h
  exact hm _ _ rfl v p e s m args below meth c F Lo mc ms cells slots σ0 v0 hF hLo hcq hsq hga C
set_option maxHeartbeats 4000000 in
set_option maxRecDepth 100000 in
theorem oS_isPredicate_28 (l : Launch) (D : va_G) (kA : Nat → ClassId) (z : Nat) (rec : mF) (hG : GMs rec) (ih : ∀ t σ xs res, rec t σ xs = some res → sSem l D kA z t σ xs res) (σ : mS) (xs : List Int32) (res : mR) (h : u_2 (kS_isPredicate_28 rec σ) xs = some res) : sS_isPredicate_28 l D kA z σ xs res := by
  intro x0 x1 hxs v
  subst hxs
  obtain ⟨σf, rf, dd⟩ := res
  have hmn : gle σ σf := qS_isPredicate_28 rec hG σ x0 x1 _ h
  have h : (if x1 = 0 ∨ x1 = 1 then some (σ, x1, 0) else none) = some (σf, rf, dd) := h
  intro p e s m args below meth c F Lo mc ms cells slots σ0 v0 hF hLo hcq hsq hga C
  dsimp only at hF hLo hcq hsq ⊢
  have hcm : cells ≤ mc := by have := hmn.1; omega
  have hsm : slots ≤ ms := by have := hmn.2.1; omega
  have hle : True := trivial
  have hm : True := trivial
  replace h := it_g h
  obtain ⟨hb, h⟩ := h
  cases h
  exact ax_zret (pc := 28) C d_MM_isPredicate_28 (nb01 hb) ⟨rfl, v, hga, rfl⟩ hcm hsm
set_option maxHeartbeats 4000000 in
set_option maxRecDepth 100000 in
theorem oS_sayNumber (l : Launch) (D : va_G) (kA : Nat → ClassId) (z : Nat) (rec : mF) (hG : GMs rec) (ih : ∀ t σ xs res, rec t σ xs = some res → sSem l D kA z t σ xs res) (σ : mS) (xs : List Int32) (res : mR) (h : u_1 (kS_sayNumber rec σ) xs = some res) : sS_sayNumber l D kA z σ xs res := by
  intro x0 hxs v
  subst hxs
  obtain ⟨σf, rf, dd⟩ := res
  have hmn : gle σ σf := qS_sayNumber rec hG σ x0 _ h
  have h : (if x0 ≤ 9 then (rec tS_sayNumber_14 σ [x0]) else (if (10 : Int32) = 0 then none else (bnd (rec tS_sayNumber σ [(x0 / 10)]) (fun σ1 r1 => rec tS_sayNumber_14 σ1 [x0])))) = some (σf, rf, dd) := h
  refine ax_Mv.of (by decide +kernel) (Nat.le_of_ble_eq_true rfl) ?_
  intro p e s m args below meth c C hnm
  replace C : ax_C p s m args meth c b_MM_sayNumber "ClauseProverModel" 2 none D kA (va_A (mmW kA z v σ) s.heap.size) := C
  obtain ⟨F, hFe⟩ : ∃ z9, z9 = dd + 3 := ⟨_, rfl⟩
  obtain ⟨Lo, hLoe⟩ : ∃ z9, z9 = 48 * dd + 144 := ⟨_, rfl⟩
  obtain ⟨mc, hmce⟩ : ∃ z9, z9 = σf.2.2 3001 - σ.2.2 3001 := ⟨_, rfl⟩
  obtain ⟨ms, hmse⟩ : ∃ z9, z9 = σf.2.2 3002 - σ.2.2 3002 := ⟨_, rfl⟩
  obtain ⟨σ0, hσ0e⟩ : ∃ z9, z9 = σ := ⟨_, rfl⟩
  obtain ⟨v0, hv0e⟩ : ∃ z9, z9 = v := ⟨_, rfl⟩
  suffices K : ∀ (cells slots : Nat), cells = 0 → slots = 0 → AW p l e { frames := F, cells := mc, slots := ms, locals := Lo } s m args below meth c D kA (va_A (mmW kA z v0 σ0) s.heap.size) 2 (ax_Qv below args s D kA (mmW kA z v0 σ0) mc ms (fun w1 => ∃ v2 : Nat → Nat, (∀ i, i ≠ 1 → v2 i = v0 i) ∧ w1 = mmW kA z v2 σf)) 0 [(0, .ref z), (1, .int x0)] [] (mmW kA z v σ) cells slots by
    have K := K 0 0 rfl rfl
    rw [hFe, hLoe, hmce, hmse, hσ0e, hv0e] at K
    exact ax_ls ([(0, .ref z), (1, .int x0)]) [0, 1] rfl K
  replace C : ax_C p s m args meth c b_MM_sayNumber "ClauseProverModel" 2 none D kA (va_A (mmW kA z v0 σ0) s.heap.size) := by rw [hσ0e, hv0e]; exact C
  intro cells slots hc0 hs0
  have hcq : cells + σf.2.2 3001 ≤ mc + σ.2.2 3001 := by have := hmn.1; omega
  have hsq : slots + σf.2.2 3002 ≤ ms + σ.2.2 3002 := by have := hmn.2.1; omega
  have hga : ∀ i, i ≠ 1 → v i = v0 i := fun i _ => by rw [hv0e]
  have hF : dd + 3 ≤ F := by omega
  have hLo : 48 * dd + 144 ≤ Lo := by omega
  have hcm : cells ≤ mc := by have := hmn.1; omega
  have hsm : slots ≤ ms := by have := hmn.2.1; omega
  have hle : True := trivial
  have hm : True := trivial
  refine ax_iload_n (pc := 0) C d_MM_sayNumber_0 rfl 1 rfl ?_
  refine ax_bipush (pc := 1) C 9 d_MM_sayNumber_1 (by decide +kernel) ?_
  refine ax_icmp_le (pc := 3) C 14 d_MM_sayNumber_3 (by decide) (fun hc => ?_) (fun hc => ?_)
  · replace h := it_t hc h
    refine ax_ls ([(0, .ref z), (1, .int x0)]) [0, 1] rfl ?_
    replace hm : sS_sayNumber_14 l D kA z σ [x0] (σf, rf, _) := ih tS_sayNumber_14 _ _ _ h
    exact hm _ rfl v p e s m args below meth c F Lo mc ms cells slots σ0 v0 hF hLo hcq hsq hga C
  · replace h := it_f hc h
    refine ax_aload_n (pc := 6) C d_MM_sayNumber_6 rfl 0 rfl ?_
    refine ax_iload_n (pc := 7) C d_MM_sayNumber_7 rfl 1 rfl ?_
    refine ax_bipush (pc := 8) C 10 d_MM_sayNumber_8 (by decide +kernel) ?_
    replace h := it_n h
    obtain ⟨hz, h⟩ := h
    refine ax_idiv (pc := 10) C d_MM_sayNumber_10 hz ?_
    replace h := it_b h
    obtain ⟨σ1, r1, d1_1, d2_1, h1, h, hd2, hd1⟩ := h
    replace hle := hG _ _ _ _ h1
    dsimp only at hle
    replace hmn : gle σ1 σf := gm_use h (gs_tail hG)
    replace hm : sS_sayNumber l D kA z σ [(x0 / 10)] (σ1, r1, d1_1) := ih tS_sayNumber _ _ _ h1
    refine gcS_v (pc := 11) C (As := [.int (x0 / 10)]) (rest := []) (hm _ rfl v) ml_MM_762 d_MM_sayNumber_11 rfl rfl (by dsimp only; omega) (by dsimp only; omega) (by have := hmn.1; have := hle.1; dsimp only; omega) (by have := hmn.2.1; have := hle.2.1; dsimp only; omega) (Nat.le_of_ble_eq_true rfl) (fun w1 hw => ?_)
    obtain ⟨v1, hag1, hwq1⟩ := hw
    dsimp only at hwq1
    subst hwq1
    dsimp only
    have hga1 : ∀ i, i ≠ 1 → v1 i = v0 i := fun i hi => (hag1 i hi).trans (hga i hi)
    replace hcq : (cells + (σ1.2.2 3001 - σ.2.2 3001)) + σf.2.2 3001 ≤ mc + σ1.2.2 3001 := by have := hmn.1; have := hle.1; omega
    replace hcm : (cells + (σ1.2.2 3001 - σ.2.2 3001)) ≤ mc := by have := hmn.1; have := hle.1; omega
    generalize cells + (σ1.2.2 3001 - σ.2.2 3001) = cells at hcq hcm ⊢
    replace hsq : (slots + (σ1.2.2 3002 - σ.2.2 3002)) + σf.2.2 3002 ≤ ms + σ1.2.2 3002 := by have := hmn.2.1; have := hle.2.1; omega
    replace hsm : (slots + (σ1.2.2 3002 - σ.2.2 3002)) ≤ ms := by have := hmn.2.1; have := hle.2.1; omega
    generalize slots + (σ1.2.2 3002 - σ.2.2 3002) = slots at hsq hsm ⊢
    replace hF : d2_1 + 3 ≤ F := by omega
    replace hLo : 48 * d2_1 + 144 ≤ Lo := by omega
    refine ax_ls ([(0, .ref z), (1, .int x0)]) [0, 1] rfl ?_
    replace hm : sS_sayNumber_14 l D kA z σ1 [x0] (σf, rf, _) := ih tS_sayNumber_14 _ _ _ h
    exact hm _ rfl v1 p e s m args below meth c F Lo mc ms cells slots σ0 v0 hF hLo hcq hsq hga1 C
set_option maxHeartbeats 4000000 in
set_option maxRecDepth 100000 in
theorem oS_sayNumber_14 (l : Launch) (D : va_G) (kA : Nat → ClassId) (z : Nat) (rec : mF) (hG : GMs rec) (ih : ∀ t σ xs res, rec t σ xs = some res → sSem l D kA z t σ xs res) (σ : mS) (xs : List Int32) (res : mR) (h : u_1 (kS_sayNumber_14 rec σ) xs = some res) : sS_sayNumber_14 l D kA z σ xs res := by
  intro x0 hxs v
  subst hxs
  obtain ⟨σf, rf, dd⟩ := res
  have hmn : gle σ σf := qS_sayNumber_14 rec hG σ x0 _ h
  have h : (if (10 : Int32) = 0 then none else (if sok σ = true then (lt_ (mSay σ ((48 : Int32) + (x0 - x0 / 10 * 10))) (fun σ1 => some (σ1, 0, 0))) else none)) = some (σf, rf, dd) := h
  intro p e s m args below meth c F Lo mc ms cells slots σ0 v0 hF hLo hcq hsq hga C
  dsimp only at hF hLo hcq hsq ⊢
  have hcm : cells ≤ mc := by have := hmn.1; omega
  have hsm : slots ≤ ms := by have := hmn.2.1; omega
  have hle : True := trivial
  have hm : True := trivial
  refine ax_aload_n (pc := 14) C d_MM_sayNumber_14 rfl 0 rfl ?_
  refine ax_bipush (pc := 15) C 48 d_MM_sayNumber_15 (by decide +kernel) ?_
  refine ax_iload_n (pc := 17) C d_MM_sayNumber_17 rfl 1 rfl ?_
  refine ax_bipush (pc := 18) C 10 d_MM_sayNumber_18 (by decide +kernel) ?_
  replace h := it_n h
  obtain ⟨hz, h⟩ := h
  refine ax_irem (pc := 20) C d_MM_sayNumber_20 hz ?_
  refine ax_iadd (pc := 21) C d_MM_sayNumber_21 ?_
  replace h := it_g h
  obtain ⟨hb, h⟩ := h
  replace h := it_l h
  replace hle := mSay_le σ ((48 : Int32) + (x0 - x0 / 10 * 10))
  replace hmn : gle (mSay σ ((48 : Int32) + (x0 - x0 / 10 * 10))) σf := gm_use h gm_some
  refine ma_say (pc := 22) C (rest := []) ml_MM_765 d_MM_sayNumber_22 hb hF hLo (by have := hmn.1; have := hle.1; omega) (by have := hmn.2.1; have := hle.2.1; omega) (Nat.le_of_ble_eq_true rfl) (fun v1 hag1 => ?_)
  generalize mSay σ ((48 : Int32) + (x0 - x0 / 10 * 10)) = σ1 at h hmn hle ⊢
  have hga1 : ∀ i, i ≠ 1 → v1 i = v0 i := fun i hi => (hag1 i hi).trans (hga i hi)
  replace hcq : (cells + (σ1.2.2 3001 - σ.2.2 3001)) + σf.2.2 3001 ≤ mc + σ1.2.2 3001 := by have := hmn.1; have := hle.1; omega
  replace hcm : (cells + (σ1.2.2 3001 - σ.2.2 3001)) ≤ mc := by have := hmn.1; have := hle.1; omega
  generalize cells + (σ1.2.2 3001 - σ.2.2 3001) = cells at hcq hcm ⊢
  replace hsq : (slots + (σ1.2.2 3002 - σ.2.2 3002)) + σf.2.2 3002 ≤ ms + σ1.2.2 3002 := by have := hmn.2.1; have := hle.2.1; omega
  replace hsm : (slots + (σ1.2.2 3002 - σ.2.2 3002)) ≤ ms := by have := hmn.2.1; have := hle.2.1; omega
  generalize slots + (σ1.2.2 3002 - σ.2.2 3002) = slots at hsq hsm ⊢
  cases h
  exact ax_vret (pc := 25) C d_MM_sayNumber_25 ⟨v1, hga1, rfl⟩ hcm hsm
set_option maxHeartbeats 4000000 in
set_option maxRecDepth 100000 in
theorem oS_sayTerm (l : Launch) (D : va_G) (kA : Nat → ClassId) (z : Nat) (rec : mF) (hG : GMs rec) (ih : ∀ t σ xs res, rec t σ xs = some res → sSem l D kA z t σ xs res) (σ : mS) (xs : List Int32) (res : mR) (h : u_1 (kS_sayTerm rec σ) xs = some res) : sS_sayTerm l D kA z σ xs res := by
  intro x0 hxs v
  subst hxs
  obtain ⟨σf, rf, dd⟩ := res
  have hmn : gle σ σf := qS_sayTerm rec hG σ x0 _ h
  have h : (if bin x0 420000 = true then (if 0 ≤ (σ.2.1 43 (Int32.toNatClampNeg x0)) then (if bin x0 420000 = true then (if (σ.2.1 43 (Int32.toNatClampNeg x0)) ≤ (σ.1 20) then (rec tS_sayTerm_69 σ [x0, 0]) else (if sok σ = true then (lt_ (mSay σ 119) (fun σ1 => if bin x0 420000 = true then (bnd (rec tS_sayNumber σ1 [(((((σ1.2.1 43 (Int32.toNatClampNeg x0)) : Int32) - (σ1.1 20)) : Int32) - 1)]) (fun σ2 r2 => rec tS_sayTerm_112 σ2 [x0])) else none)) else none)) else none) else (if sok σ = true then (lt_ (mSay σ 88) (fun σ3 => if bin x0 420000 = true then (bnd (rec tS_sayNumber σ3 [(((-1) : Int32) - (σ3.2.1 43 (Int32.toNatClampNeg x0)))]) (fun σ4 r4 => some (σ4, 0, 0))) else none)) else none)) else none) = some (σf, rf, dd) := h
  refine ax_Mv.of (by decide +kernel) (Nat.le_of_ble_eq_true rfl) ?_
  intro p e s m args below meth c C hnm
  replace C : ax_C p s m args meth c b_MM_sayTerm "ClauseProverModel" 4 none D kA (va_A (mmW kA z v σ) s.heap.size) := C
  obtain ⟨F, hFe⟩ : ∃ z9, z9 = dd + 3 := ⟨_, rfl⟩
  obtain ⟨Lo, hLoe⟩ : ∃ z9, z9 = 48 * dd + 144 := ⟨_, rfl⟩
  obtain ⟨mc, hmce⟩ : ∃ z9, z9 = σf.2.2 3001 - σ.2.2 3001 := ⟨_, rfl⟩
  obtain ⟨ms, hmse⟩ : ∃ z9, z9 = σf.2.2 3002 - σ.2.2 3002 := ⟨_, rfl⟩
  obtain ⟨σ0, hσ0e⟩ : ∃ z9, z9 = σ := ⟨_, rfl⟩
  obtain ⟨v0, hv0e⟩ : ∃ z9, z9 = v := ⟨_, rfl⟩
  suffices K : ∀ (cells slots : Nat), cells = 0 → slots = 0 → AW p l e { frames := F, cells := mc, slots := ms, locals := Lo } s m args below meth c D kA (va_A (mmW kA z v0 σ0) s.heap.size) 4 (ax_Qv below args s D kA (mmW kA z v0 σ0) mc ms (fun w1 => ∃ v2 : Nat → Nat, (∀ i, i ≠ 1 → v2 i = v0 i) ∧ w1 = mmW kA z v2 σf)) 0 [(0, .ref z), (1, .int x0)] [] (mmW kA z v σ) cells slots by
    have K := K 0 0 rfl rfl
    rw [hFe, hLoe, hmce, hmse, hσ0e, hv0e] at K
    exact ax_ls ([(0, .ref z), (1, .int x0)]) [0, 1] rfl K
  replace C : ax_C p s m args meth c b_MM_sayTerm "ClauseProverModel" 4 none D kA (va_A (mmW kA z v0 σ0) s.heap.size) := by rw [hσ0e, hv0e]; exact C
  intro cells slots hc0 hs0
  have hcq : cells + σf.2.2 3001 ≤ mc + σ.2.2 3001 := by have := hmn.1; omega
  have hsq : slots + σf.2.2 3002 ≤ ms + σ.2.2 3002 := by have := hmn.2.1; omega
  have hga : ∀ i, i ≠ 1 → v i = v0 i := fun i _ => by rw [hv0e]
  have hF : dd + 3 ≤ F := by omega
  have hLo : 48 * dd + 144 ≤ Lo := by omega
  have hcm : cells ≤ mc := by have := hmn.1; omega
  have hsm : slots ≤ ms := by have := hmn.2.1; omega
  have hle : True := trivial
  have hm : True := trivial
  refine ax_aload_n (pc := 0) C d_MM_sayTerm_0 rfl 0 rfl ?_
  refine mg_145 (pc := 1) C d_MM_sayTerm_1 ?_
  refine ax_iload_n (pc := 4) C d_MM_sayTerm_4 rfl 1 rfl ?_
  replace h := it_g h
  obtain ⟨hb, h⟩ := h
  refine ml_43 (pc := 5) C d_MM_sayTerm_5 (bin_in hb) ?_
  refine ax_if_ge (pc := 6) C 28 d_MM_sayTerm_6 (by decide) (fun hc => ?_) (fun hc => ?_)
  · replace h := it_t hc h
    refine ax_aload_n (pc := 28) C d_MM_sayTerm_28 rfl 0 rfl ?_
    refine mg_145 (pc := 29) C d_MM_sayTerm_29 ?_
    refine ax_iload_n (pc := 32) C d_MM_sayTerm_32 rfl 1 rfl ?_
    replace h := it_g h
    obtain ⟨hb, h⟩ := h
    refine ml_43 (pc := 33) C d_MM_sayTerm_33 (bin_in hb) ?_
    refine ax_aload_n (pc := 34) C d_MM_sayTerm_34 rfl 0 rfl ?_
    refine mg_74 (pc := 35) C d_MM_sayTerm_35 ?_
    refine ax_icmp_le (pc := 38) C 67 d_MM_sayTerm_38 (by decide) (fun hc => ?_) (fun hc => ?_)
    · replace h := it_t hc h
      refine ax_iconst (pc := 67) C 0 d_MM_sayTerm_67 (by decide +kernel) ?_
      refine ax_istore_n (pc := 68) C d_MM_sayTerm_68 rfl (Nat.le_of_ble_eq_true rfl) ([(2, .int 0), (0, .ref z), (1, .int x0)]) rfl ?_
      refine ax_ls ([(0, .ref z), (1, .int x0), (2, .int 0)]) [1, 2, 0] rfl ?_
      replace hm : sS_sayTerm_69 l D kA z σ [x0, 0] (σf, rf, _) := ih tS_sayTerm_69 _ _ _ h
      exact hm _ _ rfl v p e s m args below meth c F Lo mc ms cells slots σ0 v0 hF hLo hcq hsq hga C
    · replace h := it_f hc h
      refine ax_aload_n (pc := 41) C d_MM_sayTerm_41 rfl 0 rfl ?_
      refine ax_bipush (pc := 42) C 119 d_MM_sayTerm_42 (by decide +kernel) ?_
      replace h := it_g h
      obtain ⟨hb, h⟩ := h
      replace h := it_l h
      replace hle := mSay_le σ 119
      replace hmn : gle (mSay σ 119) σf := gm_use h (gm_if (gs_bnd hG (fun _ _ => (gs_tail hG))) gm_none)
      refine ma_say (pc := 44) C (rest := []) ml_MM_765 d_MM_sayTerm_44 hb hF hLo (by have := hmn.1; have := hle.1; omega) (by have := hmn.2.1; have := hle.2.1; omega) (Nat.le_of_ble_eq_true rfl) (fun v1 hag1 => ?_)
      generalize mSay σ 119 = σ1 at h hmn hle ⊢
      have hga1 : ∀ i, i ≠ 1 → v1 i = v0 i := fun i hi => (hag1 i hi).trans (hga i hi)
      replace hcq : (cells + (σ1.2.2 3001 - σ.2.2 3001)) + σf.2.2 3001 ≤ mc + σ1.2.2 3001 := by have := hmn.1; have := hle.1; omega
      replace hcm : (cells + (σ1.2.2 3001 - σ.2.2 3001)) ≤ mc := by have := hmn.1; have := hle.1; omega
      generalize cells + (σ1.2.2 3001 - σ.2.2 3001) = cells at hcq hcm ⊢
      replace hsq : (slots + (σ1.2.2 3002 - σ.2.2 3002)) + σf.2.2 3002 ≤ ms + σ1.2.2 3002 := by have := hmn.2.1; have := hle.2.1; omega
      replace hsm : (slots + (σ1.2.2 3002 - σ.2.2 3002)) ≤ ms := by have := hmn.2.1; have := hle.2.1; omega
      generalize slots + (σ1.2.2 3002 - σ.2.2 3002) = slots at hsq hsm ⊢
      refine ax_aload_n (pc := 47) C d_MM_sayTerm_47 rfl 0 rfl ?_
      refine ax_aload_n (pc := 48) C d_MM_sayTerm_48 rfl 0 rfl ?_
      refine mg_145 (pc := 49) C d_MM_sayTerm_49 ?_
      refine ax_iload_n (pc := 52) C d_MM_sayTerm_52 rfl 1 rfl ?_
      replace h := it_g h
      obtain ⟨hb, h⟩ := h
      refine ml_43 (pc := 53) C d_MM_sayTerm_53 (bin_in hb) ?_
      refine ax_aload_n (pc := 54) C d_MM_sayTerm_54 rfl 0 rfl ?_
      refine mg_74 (pc := 55) C d_MM_sayTerm_55 ?_
      refine ax_isub (pc := 58) C d_MM_sayTerm_58 ?_
      refine ax_iconst (pc := 59) C 1 d_MM_sayTerm_59 (by decide +kernel) ?_
      refine ax_isub (pc := 60) C d_MM_sayTerm_60 ?_
      replace h := it_b h
      obtain ⟨σ2, r2, d1_2, d2_2, h1, h, hd2, hd1⟩ := h
      replace hle := hG _ _ _ _ h1
      dsimp only at hle
      replace hmn : gle σ2 σf := gm_use h (gs_tail hG)
      replace hm : sS_sayNumber l D kA z σ1 [(((((σ1.2.1 43 (Int32.toNatClampNeg x0)) : Int32) - (σ1.1 20)) : Int32) - 1)] (σ2, r2, d1_2) := ih tS_sayNumber _ _ _ h1
      refine gcS_v (pc := 61) C (As := [.int (((((σ1.2.1 43 (Int32.toNatClampNeg x0)) : Int32) - (σ1.1 20)) : Int32) - 1)]) (rest := []) (hm _ rfl v1) ml_MM_762 d_MM_sayTerm_61 rfl rfl (by dsimp only; omega) (by dsimp only; omega) (by have := hmn.1; have := hle.1; dsimp only; omega) (by have := hmn.2.1; have := hle.2.1; dsimp only; omega) (Nat.le_of_ble_eq_true rfl) (fun w1 hw => ?_)
      obtain ⟨v2, hag2, hwq2⟩ := hw
      dsimp only at hwq2
      subst hwq2
      dsimp only
      have hga2 : ∀ i, i ≠ 1 → v2 i = v0 i := fun i hi => (hag2 i hi).trans (hga1 i hi)
      replace hcq : (cells + (σ2.2.2 3001 - σ1.2.2 3001)) + σf.2.2 3001 ≤ mc + σ2.2.2 3001 := by have := hmn.1; have := hle.1; omega
      replace hcm : (cells + (σ2.2.2 3001 - σ1.2.2 3001)) ≤ mc := by have := hmn.1; have := hle.1; omega
      generalize cells + (σ2.2.2 3001 - σ1.2.2 3001) = cells at hcq hcm ⊢
      replace hsq : (slots + (σ2.2.2 3002 - σ1.2.2 3002)) + σf.2.2 3002 ≤ ms + σ2.2.2 3002 := by have := hmn.2.1; have := hle.2.1; omega
      replace hsm : (slots + (σ2.2.2 3002 - σ1.2.2 3002)) ≤ ms := by have := hmn.2.1; have := hle.2.1; omega
      generalize slots + (σ2.2.2 3002 - σ1.2.2 3002) = slots at hsq hsm ⊢
      replace hF : d2_2 + 3 ≤ F := by omega
      replace hLo : 48 * d2_2 + 144 ≤ Lo := by omega
      refine ax_goto (pc := 64) C 112 d_MM_sayTerm_64 (by decide) ?_
      refine ax_ls ([(0, .ref z), (1, .int x0)]) [0, 1] rfl ?_
      replace hm : sS_sayTerm_112 l D kA z σ2 [x0] (σf, rf, _) := ih tS_sayTerm_112 _ _ _ h
      exact hm _ rfl v2 p e s m args below meth c F Lo mc ms cells slots σ0 v0 hF hLo hcq hsq hga2 C
  · replace h := it_f hc h
    refine ax_aload_n (pc := 9) C d_MM_sayTerm_9 rfl 0 rfl ?_
    refine ax_bipush (pc := 10) C 88 d_MM_sayTerm_10 (by decide +kernel) ?_
    replace h := it_g h
    obtain ⟨hb, h⟩ := h
    replace h := it_l h
    replace hle := mSay_le σ 88
    replace hmn : gle (mSay σ 88) σf := gm_use h (gm_if (gs_bnd hG (fun _ _ => gm_some)) gm_none)
    refine ma_say (pc := 12) C (rest := []) ml_MM_765 d_MM_sayTerm_12 hb hF hLo (by have := hmn.1; have := hle.1; omega) (by have := hmn.2.1; have := hle.2.1; omega) (Nat.le_of_ble_eq_true rfl) (fun v3 hag3 => ?_)
    generalize mSay σ 88 = σ3 at h hmn hle ⊢
    have hga3 : ∀ i, i ≠ 1 → v3 i = v0 i := fun i hi => (hag3 i hi).trans (hga i hi)
    replace hcq : (cells + (σ3.2.2 3001 - σ.2.2 3001)) + σf.2.2 3001 ≤ mc + σ3.2.2 3001 := by have := hmn.1; have := hle.1; omega
    replace hcm : (cells + (σ3.2.2 3001 - σ.2.2 3001)) ≤ mc := by have := hmn.1; have := hle.1; omega
    generalize cells + (σ3.2.2 3001 - σ.2.2 3001) = cells at hcq hcm ⊢
    replace hsq : (slots + (σ3.2.2 3002 - σ.2.2 3002)) + σf.2.2 3002 ≤ ms + σ3.2.2 3002 := by have := hmn.2.1; have := hle.2.1; omega
    replace hsm : (slots + (σ3.2.2 3002 - σ.2.2 3002)) ≤ ms := by have := hmn.2.1; have := hle.2.1; omega
    generalize slots + (σ3.2.2 3002 - σ.2.2 3002) = slots at hsq hsm ⊢
    refine ax_aload_n (pc := 15) C d_MM_sayTerm_15 rfl 0 rfl ?_
    refine ax_iconst (pc := 16) C (-1) d_MM_sayTerm_16 (by decide +kernel) ?_
    refine ax_aload_n (pc := 17) C d_MM_sayTerm_17 rfl 0 rfl ?_
    refine mg_145 (pc := 18) C d_MM_sayTerm_18 ?_
    refine ax_iload_n (pc := 21) C d_MM_sayTerm_21 rfl 1 rfl ?_
    replace h := it_g h
    obtain ⟨hb, h⟩ := h
    refine ml_43 (pc := 22) C d_MM_sayTerm_22 (bin_in hb) ?_
    refine ax_isub (pc := 23) C d_MM_sayTerm_23 ?_
    replace h := it_b h
    obtain ⟨σ4, r4, d1_4, d2_4, h1, h, hd2, hd1⟩ := h
    replace hle := hG _ _ _ _ h1
    dsimp only at hle
    replace hmn : gle σ4 σf := gm_use h gm_some
    replace hm : sS_sayNumber l D kA z σ3 [(((-1) : Int32) - (σ3.2.1 43 (Int32.toNatClampNeg x0)))] (σ4, r4, d1_4) := ih tS_sayNumber _ _ _ h1
    refine gcS_v (pc := 24) C (As := [.int (((-1) : Int32) - (σ3.2.1 43 (Int32.toNatClampNeg x0)))]) (rest := []) (hm _ rfl v3) ml_MM_762 d_MM_sayTerm_24 rfl rfl (by dsimp only; omega) (by dsimp only; omega) (by have := hmn.1; have := hle.1; dsimp only; omega) (by have := hmn.2.1; have := hle.2.1; dsimp only; omega) (Nat.le_of_ble_eq_true rfl) (fun w1 hw => ?_)
    obtain ⟨v4, hag4, hwq4⟩ := hw
    dsimp only at hwq4
    subst hwq4
    dsimp only
    have hga4 : ∀ i, i ≠ 1 → v4 i = v0 i := fun i hi => (hag4 i hi).trans (hga3 i hi)
    replace hcq : (cells + (σ4.2.2 3001 - σ3.2.2 3001)) + σf.2.2 3001 ≤ mc + σ4.2.2 3001 := by have := hmn.1; have := hle.1; omega
    replace hcm : (cells + (σ4.2.2 3001 - σ3.2.2 3001)) ≤ mc := by have := hmn.1; have := hle.1; omega
    generalize cells + (σ4.2.2 3001 - σ3.2.2 3001) = cells at hcq hcm ⊢
    replace hsq : (slots + (σ4.2.2 3002 - σ3.2.2 3002)) + σf.2.2 3002 ≤ ms + σ4.2.2 3002 := by have := hmn.2.1; have := hle.2.1; omega
    replace hsm : (slots + (σ4.2.2 3002 - σ3.2.2 3002)) ≤ ms := by have := hmn.2.1; have := hle.2.1; omega
    generalize slots + (σ4.2.2 3002 - σ3.2.2 3002) = slots at hsq hsm ⊢
    replace hF : d2_4 + 3 ≤ F := by omega
    replace hLo : 48 * d2_4 + 144 ≤ Lo := by omega
    cases h
    exact ax_vret (pc := 27) C d_MM_sayTerm_27 ⟨v4, hga4, rfl⟩ hcm hsm
set_option maxHeartbeats 4000000 in
set_option maxRecDepth 100000 in
theorem oS_sayTerm_69 (l : Launch) (D : va_G) (kA : Nat → ClassId) (z : Nat) (rec : mF) (hG : GMs rec) (ih : ∀ t σ xs res, rec t σ xs = some res → sSem l D kA z t σ xs res) (σ : mS) (xs : List Int32) (res : mR) (h : u_2 (kS_sayTerm_69 rec σ) xs = some res) : sS_sayTerm_69 l D kA z σ xs res := by
  intro x0 x1 hxs v
  subst hxs
  obtain ⟨σf, rf, dd⟩ := res
  have hmn : gle σ σf := qS_sayTerm_69 rec hG σ x0 x1 _ h
  have h : (if bin x0 420000 = true then (if bin (σ.2.1 43 (Int32.toNatClampNeg x0)) 900 = true then (if (σ.2.1 14 (Int32.toNatClampNeg (σ.2.1 43 (Int32.toNatClampNeg x0)))) ≤ x1 then (rec tS_sayTerm_112 σ [x0]) else (if bin x0 420000 = true then (if bin (σ.2.1 43 (Int32.toNatClampNeg x0)) 900 = true then (if bin (((σ.2.1 13 (Int32.toNatClampNeg (σ.2.1 43 (Int32.toNatClampNeg x0)))) : Int32) + x1) 9000 = true then (if sok σ = true then (lt_ (mSay σ (σ.2.1 17 (Int32.toNatClampNeg (((σ.2.1 13 (Int32.toNatClampNeg (σ.2.1 43 (Int32.toNatClampNeg x0)))) : Int32) + x1)))) (fun σ1 => rec tS_sayTerm_69 σ1 [x0, (x1 + 1)])) else none) else none) else none) else none)) else none) else none) = some (σf, rf, dd) := h
  intro p e s m args below meth c F Lo mc ms cells slots σ0 v0 hF hLo hcq hsq hga C
  dsimp only at hF hLo hcq hsq ⊢
  have hcm : cells ≤ mc := by have := hmn.1; omega
  have hsm : slots ≤ ms := by have := hmn.2.1; omega
  have hle : True := trivial
  have hm : True := trivial
  refine ax_iload_n (pc := 69) C d_MM_sayTerm_69 rfl 2 rfl ?_
  refine ax_aload_n (pc := 70) C d_MM_sayTerm_70 rfl 0 rfl ?_
  refine mg_56 (pc := 71) C d_MM_sayTerm_71 ?_
  refine ax_aload_n (pc := 74) C d_MM_sayTerm_74 rfl 0 rfl ?_
  refine mg_145 (pc := 75) C d_MM_sayTerm_75 ?_
  refine ax_iload_n (pc := 78) C d_MM_sayTerm_78 rfl 1 rfl ?_
  replace h := it_g h
  obtain ⟨hb, h⟩ := h
  refine ml_43 (pc := 79) C d_MM_sayTerm_79 (bin_in hb) ?_
  replace h := it_g h
  obtain ⟨hb, h⟩ := h
  refine ml_14 (pc := 80) C d_MM_sayTerm_80 (bin_in hb) ?_
  refine ax_icmp_ge (pc := 81) C 112 d_MM_sayTerm_81 (by decide) (fun hc => ?_) (fun hc => ?_)
  · replace h := it_t hc h
    refine ax_ls ([(0, .ref z), (1, .int x0)]) [0, 1] rfl ?_
    replace hm : sS_sayTerm_112 l D kA z σ [x0] (σf, rf, _) := ih tS_sayTerm_112 _ _ _ h
    exact hm _ rfl v p e s m args below meth c F Lo mc ms cells slots σ0 v0 hF hLo hcq hsq hga C
  · replace h := it_f hc h
    refine ax_aload_n (pc := 84) C d_MM_sayTerm_84 rfl 0 rfl ?_
    refine ax_aload_n (pc := 85) C d_MM_sayTerm_85 rfl 0 rfl ?_
    refine mg_65 (pc := 86) C d_MM_sayTerm_86 ?_
    refine ax_aload_n (pc := 89) C d_MM_sayTerm_89 rfl 0 rfl ?_
    refine mg_52 (pc := 90) C d_MM_sayTerm_90 ?_
    refine ax_aload_n (pc := 93) C d_MM_sayTerm_93 rfl 0 rfl ?_
    refine mg_145 (pc := 94) C d_MM_sayTerm_94 ?_
    refine ax_iload_n (pc := 97) C d_MM_sayTerm_97 rfl 1 rfl ?_
    replace h := it_g h
    obtain ⟨hb, h⟩ := h
    refine ml_43 (pc := 98) C d_MM_sayTerm_98 (bin_in hb) ?_
    replace h := it_g h
    obtain ⟨hb, h⟩ := h
    refine ml_13 (pc := 99) C d_MM_sayTerm_99 (bin_in hb) ?_
    refine ax_iload_n (pc := 100) C d_MM_sayTerm_100 rfl 2 rfl ?_
    refine ax_iadd (pc := 101) C d_MM_sayTerm_101 ?_
    replace h := it_g h
    obtain ⟨hb, h⟩ := h
    refine ml_17 (pc := 102) C d_MM_sayTerm_102 (bin_in hb) ?_
    replace h := it_g h
    obtain ⟨hb, h⟩ := h
    replace h := it_l h
    replace hle := mSay_le σ (σ.2.1 17 (Int32.toNatClampNeg (((σ.2.1 13 (Int32.toNatClampNeg (σ.2.1 43 (Int32.toNatClampNeg x0)))) : Int32) + x1)))
    replace hmn : gle (mSay σ (σ.2.1 17 (Int32.toNatClampNeg (((σ.2.1 13 (Int32.toNatClampNeg (σ.2.1 43 (Int32.toNatClampNeg x0)))) : Int32) + x1)))) σf := gm_use h (gs_tail hG)
    refine ma_say (pc := 103) C (rest := []) ml_MM_765 d_MM_sayTerm_103 hb hF hLo (by have := hmn.1; have := hle.1; omega) (by have := hmn.2.1; have := hle.2.1; omega) (Nat.le_of_ble_eq_true rfl) (fun v1 hag1 => ?_)
    generalize mSay σ (σ.2.1 17 (Int32.toNatClampNeg (((σ.2.1 13 (Int32.toNatClampNeg (σ.2.1 43 (Int32.toNatClampNeg x0)))) : Int32) + x1))) = σ1 at h hmn hle ⊢
    have hga1 : ∀ i, i ≠ 1 → v1 i = v0 i := fun i hi => (hag1 i hi).trans (hga i hi)
    replace hcq : (cells + (σ1.2.2 3001 - σ.2.2 3001)) + σf.2.2 3001 ≤ mc + σ1.2.2 3001 := by have := hmn.1; have := hle.1; omega
    replace hcm : (cells + (σ1.2.2 3001 - σ.2.2 3001)) ≤ mc := by have := hmn.1; have := hle.1; omega
    generalize cells + (σ1.2.2 3001 - σ.2.2 3001) = cells at hcq hcm ⊢
    replace hsq : (slots + (σ1.2.2 3002 - σ.2.2 3002)) + σf.2.2 3002 ≤ ms + σ1.2.2 3002 := by have := hmn.2.1; have := hle.2.1; omega
    replace hsm : (slots + (σ1.2.2 3002 - σ.2.2 3002)) ≤ ms := by have := hmn.2.1; have := hle.2.1; omega
    generalize slots + (σ1.2.2 3002 - σ.2.2 3002) = slots at hsq hsm ⊢
    refine ax_iinc (pc := 106) C (x1 + 1) d_MM_sayTerm_106 2 rfl rfl (Nat.le_of_ble_eq_true rfl) ([(2, .int (x1 + 1)), (0, .ref z), (1, .int x0)]) rfl ?_
    refine ax_goto (pc := 109) C 69 d_MM_sayTerm_109 (by decide) ?_
    refine ax_ls ([(0, .ref z), (1, .int x0), (2, .int (x1 + 1))]) [1, 2, 0] rfl ?_
    replace hm : sS_sayTerm_69 l D kA z σ1 [x0, (x1 + 1)] (σf, rf, _) := ih tS_sayTerm_69 _ _ _ h
    exact hm _ _ rfl v1 p e s m args below meth c F Lo mc ms cells slots σ0 v0 hF hLo hcq hsq hga1 C
set_option maxHeartbeats 4000000 in
set_option maxRecDepth 100000 in
theorem oS_sayTerm_112 (l : Launch) (D : va_G) (kA : Nat → ClassId) (z : Nat) (rec : mF) (hG : GMs rec) (ih : ∀ t σ xs res, rec t σ xs = some res → sSem l D kA z t σ xs res) (σ : mS) (xs : List Int32) (res : mR) (h : u_1 (kS_sayTerm_112 rec σ) xs = some res) : sS_sayTerm_112 l D kA z σ xs res := by
  intro x0 hxs v
  subst hxs
  obtain ⟨σf, rf, dd⟩ := res
  have hmn : gle σ σf := qS_sayTerm_112 rec hG σ x0 _ h
  have h : (if bin x0 420000 = true then (if 0 ≤ (σ.2.1 44 (Int32.toNatClampNeg x0)) then (if bin x0 420000 = true then (rec tS_sayTerm_132 σ [x0, 40, (σ.2.1 44 (Int32.toNatClampNeg x0))]) else none) else (some (σ, 0, 0))) else none) = some (σf, rf, dd) := h
  intro p e s m args below meth c F Lo mc ms cells slots σ0 v0 hF hLo hcq hsq hga C
  dsimp only at hF hLo hcq hsq ⊢
  have hcm : cells ≤ mc := by have := hmn.1; omega
  have hsm : slots ≤ ms := by have := hmn.2.1; omega
  have hle : True := trivial
  have hm : True := trivial
  refine ax_aload_n (pc := 112) C d_MM_sayTerm_112 rfl 0 rfl ?_
  refine mg_148 (pc := 113) C d_MM_sayTerm_113 ?_
  refine ax_iload_n (pc := 116) C d_MM_sayTerm_116 rfl 1 rfl ?_
  replace h := it_g h
  obtain ⟨hb, h⟩ := h
  refine ml_44 (pc := 117) C d_MM_sayTerm_117 (bin_in hb) ?_
  refine ax_if_ge (pc := 118) C 122 d_MM_sayTerm_118 (by decide) (fun hc => ?_) (fun hc => ?_)
  · replace h := it_t hc h
    refine ax_bipush (pc := 122) C 40 d_MM_sayTerm_122 (by decide +kernel) ?_
    refine ax_istore_n (pc := 124) C d_MM_sayTerm_124 rfl (Nat.le_of_ble_eq_true rfl) ([(2, .int 40), (0, .ref z), (1, .int x0)]) rfl ?_
    refine ax_aload_n (pc := 125) C d_MM_sayTerm_125 rfl 1 rfl ?_
    refine mg_148 (pc := 126) C d_MM_sayTerm_126 ?_
    refine ax_iload_n (pc := 129) C d_MM_sayTerm_129 rfl 2 rfl ?_
    replace h := it_g h
    obtain ⟨hb, h⟩ := h
    refine ml_44 (pc := 130) C d_MM_sayTerm_130 (bin_in hb) ?_
    refine ax_istore_n (pc := 131) C d_MM_sayTerm_131 rfl (Nat.le_of_ble_eq_true rfl) ([(3, .int (σ.2.1 44 (Int32.toNatClampNeg x0))), (2, .int 40), (0, .ref z), (1, .int x0)]) rfl ?_
    refine ax_ls ([(0, .ref z), (1, .int x0), (2, .int 40), (3, .int (σ.2.1 44 (Int32.toNatClampNeg x0)))]) [2, 3, 1, 0] rfl ?_
    replace hm : sS_sayTerm_132 l D kA z σ [x0, 40, (σ.2.1 44 (Int32.toNatClampNeg x0))] (σf, rf, _) := ih tS_sayTerm_132 _ _ _ h
    exact hm _ _ _ rfl v p e s m args below meth c F Lo mc ms cells slots σ0 v0 hF hLo hcq hsq hga C
  · replace h := it_f hc h
    cases h
    exact ax_vret (pc := 121) C d_MM_sayTerm_121 ⟨v, hga, rfl⟩ hcm hsm
set_option maxHeartbeats 4000000 in
set_option maxRecDepth 100000 in
theorem oS_sayTerm_132 (l : Launch) (D : va_G) (kA : Nat → ClassId) (z : Nat) (rec : mF) (hG : GMs rec) (ih : ∀ t σ xs res, rec t σ xs = some res → sSem l D kA z t σ xs res) (σ : mS) (xs : List Int32) (res : mR) (h : u_3 (kS_sayTerm_132 rec σ) xs = some res) : sS_sayTerm_132 l D kA z σ xs res := by
  intro x0 x1 x2 hxs v
  subst hxs
  obtain ⟨σf, rf, dd⟩ := res
  have hmn : gle σ σf := qS_sayTerm_132 rec hG σ x0 x1 x2 _ h
  have h : (if x2 < 0 then (if sok σ = true then (lt_ (mSay σ 41) (fun σ1 => some (σ1, 0, 0))) else none) else (if sok σ = true then (lt_ (mSay σ x1) (fun σ2 => bnd (rec tS_sayTerm σ2 [x2]) (fun σ3 r3 => if bin x2 420000 = true then (rec tS_sayTerm_132 σ3 [x0, 44, (σ3.2.1 45 (Int32.toNatClampNeg x2))]) else none))) else none)) = some (σf, rf, dd) := h
  intro p e s m args below meth c F Lo mc ms cells slots σ0 v0 hF hLo hcq hsq hga C
  dsimp only at hF hLo hcq hsq ⊢
  have hcm : cells ≤ mc := by have := hmn.1; omega
  have hsm : slots ≤ ms := by have := hmn.2.1; omega
  have hle : True := trivial
  have hm : True := trivial
  refine ax_iload_n (pc := 132) C d_MM_sayTerm_132 rfl 3 rfl ?_
  refine ax_if_lt (pc := 133) C 159 d_MM_sayTerm_133 (by decide) (fun hc => ?_) (fun hc => ?_)
  · replace h := it_t hc h
    refine ax_aload_n (pc := 159) C d_MM_sayTerm_159 rfl 0 rfl ?_
    refine ax_bipush (pc := 160) C 41 d_MM_sayTerm_160 (by decide +kernel) ?_
    replace h := it_g h
    obtain ⟨hb, h⟩ := h
    replace h := it_l h
    replace hle := mSay_le σ 41
    replace hmn : gle (mSay σ 41) σf := gm_use h gm_some
    refine ma_say (pc := 162) C (rest := []) ml_MM_765 d_MM_sayTerm_162 hb hF hLo (by have := hmn.1; have := hle.1; omega) (by have := hmn.2.1; have := hle.2.1; omega) (Nat.le_of_ble_eq_true rfl) (fun v1 hag1 => ?_)
    generalize mSay σ 41 = σ1 at h hmn hle ⊢
    have hga1 : ∀ i, i ≠ 1 → v1 i = v0 i := fun i hi => (hag1 i hi).trans (hga i hi)
    replace hcq : (cells + (σ1.2.2 3001 - σ.2.2 3001)) + σf.2.2 3001 ≤ mc + σ1.2.2 3001 := by have := hmn.1; have := hle.1; omega
    replace hcm : (cells + (σ1.2.2 3001 - σ.2.2 3001)) ≤ mc := by have := hmn.1; have := hle.1; omega
    generalize cells + (σ1.2.2 3001 - σ.2.2 3001) = cells at hcq hcm ⊢
    replace hsq : (slots + (σ1.2.2 3002 - σ.2.2 3002)) + σf.2.2 3002 ≤ ms + σ1.2.2 3002 := by have := hmn.2.1; have := hle.2.1; omega
    replace hsm : (slots + (σ1.2.2 3002 - σ.2.2 3002)) ≤ ms := by have := hmn.2.1; have := hle.2.1; omega
    generalize slots + (σ1.2.2 3002 - σ.2.2 3002) = slots at hsq hsm ⊢
    cases h
    exact ax_vret (pc := 165) C d_MM_sayTerm_165 ⟨v1, hga1, rfl⟩ hcm hsm
  · replace h := it_f hc h
    refine ax_aload_n (pc := 136) C d_MM_sayTerm_136 rfl 0 rfl ?_
    refine ax_iload_n (pc := 137) C d_MM_sayTerm_137 rfl 2 rfl ?_
    replace h := it_g h
    obtain ⟨hb, h⟩ := h
    replace h := it_l h
    replace hle := mSay_le σ x1
    replace hmn : gle (mSay σ x1) σf := gm_use h (gs_bnd hG (fun _ _ => (gm_if (gs_tail hG) gm_none)))
    refine ma_say (pc := 138) C (rest := []) ml_MM_765 d_MM_sayTerm_138 hb hF hLo (by have := hmn.1; have := hle.1; omega) (by have := hmn.2.1; have := hle.2.1; omega) (Nat.le_of_ble_eq_true rfl) (fun v2 hag2 => ?_)
    generalize mSay σ x1 = σ2 at h hmn hle ⊢
    have hga2 : ∀ i, i ≠ 1 → v2 i = v0 i := fun i hi => (hag2 i hi).trans (hga i hi)
    replace hcq : (cells + (σ2.2.2 3001 - σ.2.2 3001)) + σf.2.2 3001 ≤ mc + σ2.2.2 3001 := by have := hmn.1; have := hle.1; omega
    replace hcm : (cells + (σ2.2.2 3001 - σ.2.2 3001)) ≤ mc := by have := hmn.1; have := hle.1; omega
    generalize cells + (σ2.2.2 3001 - σ.2.2 3001) = cells at hcq hcm ⊢
    replace hsq : (slots + (σ2.2.2 3002 - σ.2.2 3002)) + σf.2.2 3002 ≤ ms + σ2.2.2 3002 := by have := hmn.2.1; have := hle.2.1; omega
    replace hsm : (slots + (σ2.2.2 3002 - σ.2.2 3002)) ≤ ms := by have := hmn.2.1; have := hle.2.1; omega
    generalize slots + (σ2.2.2 3002 - σ.2.2 3002) = slots at hsq hsm ⊢
    refine ax_aload_n (pc := 141) C d_MM_sayTerm_141 rfl 0 rfl ?_
    refine ax_iload_n (pc := 142) C d_MM_sayTerm_142 rfl 3 rfl ?_
    replace h := it_b h
    obtain ⟨σ3, r3, d1_3, d2_3, h1, h, hd2, hd1⟩ := h
    replace hle := hG _ _ _ _ h1
    dsimp only at hle
    replace hmn : gle σ3 σf := gm_use h (gm_if (gs_tail hG) gm_none)
    replace hm : sS_sayTerm l D kA z σ2 [x2] (σ3, r3, d1_3) := ih tS_sayTerm _ _ _ h1
    refine gcS_v (pc := 143) C (As := [.int x2]) (rest := []) (hm _ rfl v2) ml_MM_768 d_MM_sayTerm_143 rfl rfl (by dsimp only; omega) (by dsimp only; omega) (by have := hmn.1; have := hle.1; dsimp only; omega) (by have := hmn.2.1; have := hle.2.1; dsimp only; omega) (Nat.le_of_ble_eq_true rfl) (fun w1 hw => ?_)
    obtain ⟨v3, hag3, hwq3⟩ := hw
    dsimp only at hwq3
    subst hwq3
    dsimp only
    have hga3 : ∀ i, i ≠ 1 → v3 i = v0 i := fun i hi => (hag3 i hi).trans (hga2 i hi)
    replace hcq : (cells + (σ3.2.2 3001 - σ2.2.2 3001)) + σf.2.2 3001 ≤ mc + σ3.2.2 3001 := by have := hmn.1; have := hle.1; omega
    replace hcm : (cells + (σ3.2.2 3001 - σ2.2.2 3001)) ≤ mc := by have := hmn.1; have := hle.1; omega
    generalize cells + (σ3.2.2 3001 - σ2.2.2 3001) = cells at hcq hcm ⊢
    replace hsq : (slots + (σ3.2.2 3002 - σ2.2.2 3002)) + σf.2.2 3002 ≤ ms + σ3.2.2 3002 := by have := hmn.2.1; have := hle.2.1; omega
    replace hsm : (slots + (σ3.2.2 3002 - σ2.2.2 3002)) ≤ ms := by have := hmn.2.1; have := hle.2.1; omega
    generalize slots + (σ3.2.2 3002 - σ2.2.2 3002) = slots at hsq hsm ⊢
    replace hF : d2_3 + 3 ≤ F := by omega
    replace hLo : 48 * d2_3 + 144 ≤ Lo := by omega
    refine ax_bipush (pc := 146) C 44 d_MM_sayTerm_146 (by decide +kernel) ?_
    refine ax_istore_n (pc := 148) C d_MM_sayTerm_148 rfl (Nat.le_of_ble_eq_true rfl) ([(2, .int 44), (0, .ref z), (1, .int x0), (3, .int x2)]) rfl ?_
    refine ax_aload_n (pc := 149) C d_MM_sayTerm_149 rfl 1 rfl ?_
    refine mg_151 (pc := 150) C d_MM_sayTerm_150 ?_
    refine ax_iload_n (pc := 153) C d_MM_sayTerm_153 rfl 3 rfl ?_
    replace h := it_g h
    obtain ⟨hb, h⟩ := h
    refine ml_45 (pc := 154) C d_MM_sayTerm_154 (bin_in hb) ?_
    refine ax_istore_n (pc := 155) C d_MM_sayTerm_155 rfl (Nat.le_of_ble_eq_true rfl) ([(3, .int (σ3.2.1 45 (Int32.toNatClampNeg x2))), (2, .int 44), (0, .ref z), (1, .int x0)]) rfl ?_
    refine ax_goto (pc := 156) C 132 d_MM_sayTerm_156 (by decide) ?_
    refine ax_ls ([(0, .ref z), (1, .int x0), (2, .int 44), (3, .int (σ3.2.1 45 (Int32.toNatClampNeg x2)))]) [2, 3, 1, 0] rfl ?_
    replace hm : sS_sayTerm_132 l D kA z σ3 [x0, 44, (σ3.2.1 45 (Int32.toNatClampNeg x2))] (σf, rf, _) := ih tS_sayTerm_132 _ _ _ h
    exact hm _ _ _ rfl v3 p e s m args below meth c F Lo mc ms cells slots σ0 v0 hF hLo hcq hsq hga3 C
set_option maxHeartbeats 4000000 in
set_option maxRecDepth 100000 in
theorem oS_sayLiteral (l : Launch) (D : va_G) (kA : Nat → ClassId) (z : Nat) (rec : mF) (hG : GMs rec) (ih : ∀ t σ xs res, rec t σ xs = some res → sSem l D kA z t σ xs res) (σ : mS) (xs : List Int32) (res : mR) (h : u_1 (kS_sayLiteral rec σ) xs = some res) : sS_sayLiteral l D kA z σ xs res := by
  intro x0 hxs v
  subst hxs
  obtain ⟨σf, rf, dd⟩ := res
  have hmn : gle σ σf := qS_sayLiteral rec hG σ x0 _ h
  have h : (if bin x0 16100 = true then (bnd (rec tS_isPredicate σ [(σ.2.1 66 (Int32.toNatClampNeg x0))]) (fun σ1 r1 => if r1 = 0 then (rec tS_sayLiteral_36 σ1 [x0]) else (if bin x0 16100 = true then (if bin (σ1.2.1 66 (Int32.toNatClampNeg x0)) 420000 = true then (if (σ1.2.1 43 (Int32.toNatClampNeg (σ1.2.1 66 (Int32.toNatClampNeg x0)))) ≤ 0 then (rec tS_sayLiteral_36 σ1 [x0]) else (if bin x0 16100 = true then (rec tS_sayLiteral_73 σ1 [x0, (σ1.2.1 66 (Int32.toNatClampNeg x0))]) else none)) else none) else none))) else none) = some (σf, rf, dd) := h
  refine ax_Mv.of (by decide +kernel) (Nat.le_of_ble_eq_true rfl) ?_
  intro p e s m args below meth c C hnm
  replace C : ax_C p s m args meth c b_MM_sayLiteral "ClauseProverModel" 3 none D kA (va_A (mmW kA z v σ) s.heap.size) := C
  obtain ⟨F, hFe⟩ : ∃ z9, z9 = dd + 3 := ⟨_, rfl⟩
  obtain ⟨Lo, hLoe⟩ : ∃ z9, z9 = 48 * dd + 144 := ⟨_, rfl⟩
  obtain ⟨mc, hmce⟩ : ∃ z9, z9 = σf.2.2 3001 - σ.2.2 3001 := ⟨_, rfl⟩
  obtain ⟨ms, hmse⟩ : ∃ z9, z9 = σf.2.2 3002 - σ.2.2 3002 := ⟨_, rfl⟩
  obtain ⟨σ0, hσ0e⟩ : ∃ z9, z9 = σ := ⟨_, rfl⟩
  obtain ⟨v0, hv0e⟩ : ∃ z9, z9 = v := ⟨_, rfl⟩
  suffices K : ∀ (cells slots : Nat), cells = 0 → slots = 0 → AW p l e { frames := F, cells := mc, slots := ms, locals := Lo } s m args below meth c D kA (va_A (mmW kA z v0 σ0) s.heap.size) 3 (ax_Qv below args s D kA (mmW kA z v0 σ0) mc ms (fun w1 => ∃ v2 : Nat → Nat, (∀ i, i ≠ 1 → v2 i = v0 i) ∧ w1 = mmW kA z v2 σf)) 0 [(0, .ref z), (1, .int x0)] [] (mmW kA z v σ) cells slots by
    have K := K 0 0 rfl rfl
    rw [hFe, hLoe, hmce, hmse, hσ0e, hv0e] at K
    exact ax_ls ([(0, .ref z), (1, .int x0)]) [0, 1] rfl K
  replace C : ax_C p s m args meth c b_MM_sayLiteral "ClauseProverModel" 3 none D kA (va_A (mmW kA z v0 σ0) s.heap.size) := by rw [hσ0e, hv0e]; exact C
  intro cells slots hc0 hs0
  have hcq : cells + σf.2.2 3001 ≤ mc + σ.2.2 3001 := by have := hmn.1; omega
  have hsq : slots + σf.2.2 3002 ≤ ms + σ.2.2 3002 := by have := hmn.2.1; omega
  have hga : ∀ i, i ≠ 1 → v i = v0 i := fun i _ => by rw [hv0e]
  have hF : dd + 3 ≤ F := by omega
  have hLo : 48 * dd + 144 ≤ Lo := by omega
  have hcm : cells ≤ mc := by have := hmn.1; omega
  have hsm : slots ≤ ms := by have := hmn.2.1; omega
  have hle : True := trivial
  have hm : True := trivial
  refine ax_aload_n (pc := 0) C d_MM_sayLiteral_0 rfl 0 rfl ?_
  refine ax_aload_n (pc := 1) C d_MM_sayLiteral_1 rfl 0 rfl ?_
  refine mg_214 (pc := 2) C d_MM_sayLiteral_2 ?_
  refine ax_iload_n (pc := 5) C d_MM_sayLiteral_5 rfl 1 rfl ?_
  replace h := it_g h
  obtain ⟨hb, h⟩ := h
  refine ml_66 (pc := 6) C d_MM_sayLiteral_6 (bin_in hb) ?_
  replace h := it_b h
  obtain ⟨σ1, r1, d1_1, d2_1, h1, h, hd2, hd1⟩ := h
  replace hle := hG _ _ _ _ h1
  dsimp only at hle
  replace hmn : gle σ1 σf := gm_use h (gm_if (gs_tail hG) (gm_if (gm_if (gm_if (gs_tail hG) (gm_if (gs_tail hG) gm_none)) gm_none) gm_none))
  replace hm : sS_isPredicate l D kA z σ [(σ.2.1 66 (Int32.toNatClampNeg x0))] (σ1, r1, d1_1) := ih tS_isPredicate _ _ _ h1
  refine gcS_i (pc := 7) C (As := [.int (σ.2.1 66 (Int32.toNatClampNeg x0))]) (rest := []) (hm _ rfl v) ml_MM_617 d_MM_sayLiteral_7 rfl rfl (by dsimp only; omega) (by dsimp only; omega) (by have := hmn.1; have := hle.1; dsimp only; omega) (by have := hmn.2.1; have := hle.2.1; dsimp only; omega) (Nat.le_of_ble_eq_true rfl) (fun r9 w1 hw => ?_)
  obtain ⟨hrq1, v1, hag1, hwq1⟩ := hw
  dsimp only at hwq1 hrq1
  subst hwq1
  replace hrq1 := hrq1.symm
  subst hrq1
  dsimp only
  have hga1 : ∀ i, i ≠ 1 → v1 i = v0 i := fun i hi => (hag1 i hi).trans (hga i hi)
  replace hcq : (cells + (σ1.2.2 3001 - σ.2.2 3001)) + σf.2.2 3001 ≤ mc + σ1.2.2 3001 := by have := hmn.1; have := hle.1; omega
  replace hcm : (cells + (σ1.2.2 3001 - σ.2.2 3001)) ≤ mc := by have := hmn.1; have := hle.1; omega
  generalize cells + (σ1.2.2 3001 - σ.2.2 3001) = cells at hcq hcm ⊢
  replace hsq : (slots + (σ1.2.2 3002 - σ.2.2 3002)) + σf.2.2 3002 ≤ ms + σ1.2.2 3002 := by have := hmn.2.1; have := hle.2.1; omega
  replace hsm : (slots + (σ1.2.2 3002 - σ.2.2 3002)) ≤ ms := by have := hmn.2.1; have := hle.2.1; omega
  generalize slots + (σ1.2.2 3002 - σ.2.2 3002) = slots at hsq hsm ⊢
  replace hF : d2_1 + 3 ≤ F := by omega
  replace hLo : 48 * d2_1 + 144 ≤ Lo := by omega
  refine ax_if_eq (pc := 10) C 36 d_MM_sayLiteral_10 (by decide) (fun hc => ?_) (fun hc => ?_)
  · replace h := it_t hc h
    refine ax_ls ([(0, .ref z), (1, .int x0)]) [0, 1] rfl ?_
    replace hm : sS_sayLiteral_36 l D kA z σ1 [x0] (σf, rf, _) := ih tS_sayLiteral_36 _ _ _ h
    exact hm _ rfl v1 p e s m args below meth c F Lo mc ms cells slots σ0 v0 hF hLo hcq hsq hga1 C
  · replace h := it_f hc h
    refine ax_aload_n (pc := 13) C d_MM_sayLiteral_13 rfl 0 rfl ?_
    refine mg_145 (pc := 14) C d_MM_sayLiteral_14 ?_
    refine ax_aload_n (pc := 17) C d_MM_sayLiteral_17 rfl 0 rfl ?_
    refine mg_214 (pc := 18) C d_MM_sayLiteral_18 ?_
    refine ax_iload_n (pc := 21) C d_MM_sayLiteral_21 rfl 1 rfl ?_
    replace h := it_g h
    obtain ⟨hb, h⟩ := h
    refine ml_66 (pc := 22) C d_MM_sayLiteral_22 (bin_in hb) ?_
    replace h := it_g h
    obtain ⟨hb, h⟩ := h
    refine ml_43 (pc := 23) C d_MM_sayLiteral_23 (bin_in hb) ?_
    refine ax_if_le (pc := 24) C 36 d_MM_sayLiteral_24 (by decide) (fun hc => ?_) (fun hc => ?_)
    · replace h := it_t hc h
      refine ax_ls ([(0, .ref z), (1, .int x0)]) [0, 1] rfl ?_
      replace hm : sS_sayLiteral_36 l D kA z σ1 [x0] (σf, rf, _) := ih tS_sayLiteral_36 _ _ _ h
      exact hm _ rfl v1 p e s m args below meth c F Lo mc ms cells slots σ0 v0 hF hLo hcq hsq hga1 C
    · replace h := it_f hc h
      refine ax_aload_n (pc := 27) C d_MM_sayLiteral_27 rfl 0 rfl ?_
      refine mg_214 (pc := 28) C d_MM_sayLiteral_28 ?_
      refine ax_iload_n (pc := 31) C d_MM_sayLiteral_31 rfl 1 rfl ?_
      replace h := it_g h
      obtain ⟨hb, h⟩ := h
      refine ml_66 (pc := 32) C d_MM_sayLiteral_32 (bin_in hb) ?_
      refine ax_goto (pc := 33) C 73 d_MM_sayLiteral_33 (by decide) ?_
      refine ax_ls ([(0, .ref z), (1, .int x0)]) [0, 1] rfl ?_
      replace hm : sS_sayLiteral_73 l D kA z σ1 [x0, (σ1.2.1 66 (Int32.toNatClampNeg x0))] (σf, rf, _) := ih tS_sayLiteral_73 _ _ _ h
      exact hm _ _ rfl v1 p e s m args below meth c F Lo mc ms cells slots σ0 v0 hF hLo hcq hsq hga1 C
set_option maxHeartbeats 4000000 in
set_option maxRecDepth 100000 in
theorem oS_sayLiteral_36 (l : Launch) (D : va_G) (kA : Nat → ClassId) (z : Nat) (rec : mF) (hG : GMs rec) (ih : ∀ t σ xs res, rec t σ xs = some res → sSem l D kA z t σ xs res) (σ : mS) (xs : List Int32) (res : mR) (h : u_1 (kS_sayLiteral_36 rec σ) xs = some res) : sS_sayLiteral_36 l D kA z σ xs res := by
  intro x0 hxs v
  subst hxs
  obtain ⟨σf, rf, dd⟩ := res
  have hmn : gle σ σf := qS_sayLiteral_36 rec hG σ x0 _ h
  have h : (if bin x0 16100 = true then (bnd (rec tS_isPredicate σ [(σ.2.1 67 (Int32.toNatClampNeg x0))]) (fun σ1 r1 => if r1 = 0 then (rec tS_sayLiteral_72 σ1 [x0]) else (if bin x0 16100 = true then (if bin (σ1.2.1 67 (Int32.toNatClampNeg x0)) 420000 = true then (if (σ1.2.1 43 (Int32.toNatClampNeg (σ1.2.1 67 (Int32.toNatClampNeg x0)))) ≤ 0 then (rec tS_sayLiteral_72 σ1 [x0]) else (if bin x0 16100 = true then (rec tS_sayLiteral_73 σ1 [x0, (σ1.2.1 67 (Int32.toNatClampNeg x0))]) else none)) else none) else none))) else none) = some (σf, rf, dd) := h
  intro p e s m args below meth c F Lo mc ms cells slots σ0 v0 hF hLo hcq hsq hga C
  dsimp only at hF hLo hcq hsq ⊢
  have hcm : cells ≤ mc := by have := hmn.1; omega
  have hsm : slots ≤ ms := by have := hmn.2.1; omega
  have hle : True := trivial
  have hm : True := trivial
  refine ax_aload_n (pc := 36) C d_MM_sayLiteral_36 rfl 0 rfl ?_
  refine ax_aload_n (pc := 37) C d_MM_sayLiteral_37 rfl 0 rfl ?_
  refine mg_217 (pc := 38) C d_MM_sayLiteral_38 ?_
  refine ax_iload_n (pc := 41) C d_MM_sayLiteral_41 rfl 1 rfl ?_
  replace h := it_g h
  obtain ⟨hb, h⟩ := h
  refine ml_67 (pc := 42) C d_MM_sayLiteral_42 (bin_in hb) ?_
  replace h := it_b h
  obtain ⟨σ1, r1, d1_1, d2_1, h1, h, hd2, hd1⟩ := h
  replace hle := hG _ _ _ _ h1
  dsimp only at hle
  replace hmn : gle σ1 σf := gm_use h (gm_if (gs_tail hG) (gm_if (gm_if (gm_if (gs_tail hG) (gm_if (gs_tail hG) gm_none)) gm_none) gm_none))
  replace hm : sS_isPredicate l D kA z σ [(σ.2.1 67 (Int32.toNatClampNeg x0))] (σ1, r1, d1_1) := ih tS_isPredicate _ _ _ h1
  refine gcS_i (pc := 43) C (As := [.int (σ.2.1 67 (Int32.toNatClampNeg x0))]) (rest := []) (hm _ rfl v) ml_MM_617 d_MM_sayLiteral_43 rfl rfl (by dsimp only; omega) (by dsimp only; omega) (by have := hmn.1; have := hle.1; dsimp only; omega) (by have := hmn.2.1; have := hle.2.1; dsimp only; omega) (Nat.le_of_ble_eq_true rfl) (fun r9 w1 hw => ?_)
  obtain ⟨hrq1, v1, hag1, hwq1⟩ := hw
  dsimp only at hwq1 hrq1
  subst hwq1
  replace hrq1 := hrq1.symm
  subst hrq1
  dsimp only
  have hga1 : ∀ i, i ≠ 1 → v1 i = v0 i := fun i hi => (hag1 i hi).trans (hga i hi)
  replace hcq : (cells + (σ1.2.2 3001 - σ.2.2 3001)) + σf.2.2 3001 ≤ mc + σ1.2.2 3001 := by have := hmn.1; have := hle.1; omega
  replace hcm : (cells + (σ1.2.2 3001 - σ.2.2 3001)) ≤ mc := by have := hmn.1; have := hle.1; omega
  generalize cells + (σ1.2.2 3001 - σ.2.2 3001) = cells at hcq hcm ⊢
  replace hsq : (slots + (σ1.2.2 3002 - σ.2.2 3002)) + σf.2.2 3002 ≤ ms + σ1.2.2 3002 := by have := hmn.2.1; have := hle.2.1; omega
  replace hsm : (slots + (σ1.2.2 3002 - σ.2.2 3002)) ≤ ms := by have := hmn.2.1; have := hle.2.1; omega
  generalize slots + (σ1.2.2 3002 - σ.2.2 3002) = slots at hsq hsm ⊢
  replace hF : d2_1 + 3 ≤ F := by omega
  replace hLo : 48 * d2_1 + 144 ≤ Lo := by omega
  refine ax_if_eq (pc := 46) C 72 d_MM_sayLiteral_46 (by decide) (fun hc => ?_) (fun hc => ?_)
  · replace h := it_t hc h
    refine ax_ls ([(0, .ref z), (1, .int x0)]) [0, 1] rfl ?_
    replace hm : sS_sayLiteral_72 l D kA z σ1 [x0] (σf, rf, _) := ih tS_sayLiteral_72 _ _ _ h
    exact hm _ rfl v1 p e s m args below meth c F Lo mc ms cells slots σ0 v0 hF hLo hcq hsq hga1 C
  · replace h := it_f hc h
    refine ax_aload_n (pc := 49) C d_MM_sayLiteral_49 rfl 0 rfl ?_
    refine mg_145 (pc := 50) C d_MM_sayLiteral_50 ?_
    refine ax_aload_n (pc := 53) C d_MM_sayLiteral_53 rfl 0 rfl ?_
    refine mg_217 (pc := 54) C d_MM_sayLiteral_54 ?_
    refine ax_iload_n (pc := 57) C d_MM_sayLiteral_57 rfl 1 rfl ?_
    replace h := it_g h
    obtain ⟨hb, h⟩ := h
    refine ml_67 (pc := 58) C d_MM_sayLiteral_58 (bin_in hb) ?_
    replace h := it_g h
    obtain ⟨hb, h⟩ := h
    refine ml_43 (pc := 59) C d_MM_sayLiteral_59 (bin_in hb) ?_
    refine ax_if_le (pc := 60) C 72 d_MM_sayLiteral_60 (by decide) (fun hc => ?_) (fun hc => ?_)
    · replace h := it_t hc h
      refine ax_ls ([(0, .ref z), (1, .int x0)]) [0, 1] rfl ?_
      replace hm : sS_sayLiteral_72 l D kA z σ1 [x0] (σf, rf, _) := ih tS_sayLiteral_72 _ _ _ h
      exact hm _ rfl v1 p e s m args below meth c F Lo mc ms cells slots σ0 v0 hF hLo hcq hsq hga1 C
    · replace h := it_f hc h
      refine ax_aload_n (pc := 63) C d_MM_sayLiteral_63 rfl 0 rfl ?_
      refine mg_217 (pc := 64) C d_MM_sayLiteral_64 ?_
      refine ax_iload_n (pc := 67) C d_MM_sayLiteral_67 rfl 1 rfl ?_
      replace h := it_g h
      obtain ⟨hb, h⟩ := h
      refine ml_67 (pc := 68) C d_MM_sayLiteral_68 (bin_in hb) ?_
      refine ax_goto (pc := 69) C 73 d_MM_sayLiteral_69 (by decide) ?_
      refine ax_ls ([(0, .ref z), (1, .int x0)]) [0, 1] rfl ?_
      replace hm : sS_sayLiteral_73 l D kA z σ1 [x0, (σ1.2.1 67 (Int32.toNatClampNeg x0))] (σf, rf, _) := ih tS_sayLiteral_73 _ _ _ h
      exact hm _ _ rfl v1 p e s m args below meth c F Lo mc ms cells slots σ0 v0 hF hLo hcq hsq hga1 C
set_option maxHeartbeats 4000000 in
set_option maxRecDepth 100000 in
theorem oS_sayLiteral_72 (l : Launch) (D : va_G) (kA : Nat → ClassId) (z : Nat) (rec : mF) (hG : GMs rec) (ih : ∀ t σ xs res, rec t σ xs = some res → sSem l D kA z t σ xs res) (σ : mS) (xs : List Int32) (res : mR) (h : u_1 (kS_sayLiteral_72 rec σ) xs = some res) : sS_sayLiteral_72 l D kA z σ xs res := by
  intro x0 hxs v
  subst hxs
  obtain ⟨σf, rf, dd⟩ := res
  have hmn : gle σ σf := qS_sayLiteral_72 rec hG σ x0 _ h
  have h : (rec tS_sayLiteral_73 σ [x0, (-1)]) = some (σf, rf, dd) := h
  intro p e s m args below meth c F Lo mc ms cells slots σ0 v0 hF hLo hcq hsq hga C
  dsimp only at hF hLo hcq hsq ⊢
  have hcm : cells ≤ mc := by have := hmn.1; omega
  have hsm : slots ≤ ms := by have := hmn.2.1; omega
  have hle : True := trivial
  have hm : True := trivial
  refine ax_iconst (pc := 72) C (-1) d_MM_sayLiteral_72 (by decide +kernel) ?_
  refine ax_ls ([(0, .ref z), (1, .int x0)]) [0, 1] rfl ?_
  replace hm : sS_sayLiteral_73 l D kA z σ [x0, (-1)] (σf, rf, _) := ih tS_sayLiteral_73 _ _ _ h
  exact hm _ _ rfl v p e s m args below meth c F Lo mc ms cells slots σ0 v0 hF hLo hcq hsq hga C
set_option maxHeartbeats 4000000 in
set_option maxRecDepth 100000 in
theorem oS_sayLiteral_73 (l : Launch) (D : va_G) (kA : Nat → ClassId) (z : Nat) (rec : mF) (hG : GMs rec) (ih : ∀ t σ xs res, rec t σ xs = some res → sSem l D kA z t σ xs res) (σ : mS) (xs : List Int32) (res : mR) (h : u_2 (kS_sayLiteral_73 rec σ) xs = some res) : sS_sayLiteral_73 l D kA z σ xs res := by
  intro x0 x1 hxs v
  subst hxs
  obtain ⟨σf, rf, dd⟩ := res
  have hmn : gle σ σf := qS_sayLiteral_73 rec hG σ x0 x1 _ h
  have h : (if x1 < 0 then (if bin x0 16100 = true then (bnd (rec tS_sayTerm σ [(σ.2.1 66 (Int32.toNatClampNeg x0))]) (fun σ1 r1 => if sok σ1 = true then (lt_ (mSay σ1 32) (fun σ2 => if bin x0 16100 = true then (if (σ2.2.1 68 (Int32.toNatClampNeg x0)) = 0 then (if sok σ2 = true then (lt_ (mSay σ2 33) (fun σ3 => rec tS_sayLiteral_130 σ3 [x0, x1])) else none) else (rec tS_sayLiteral_130 σ2 [x0, x1])) else none)) else none)) else none) else (if bin x0 16100 = true then (if (σ.2.1 68 (Int32.toNatClampNeg x0)) = 0 then (if sok σ = true then (lt_ (mSay σ 126) (fun σ4 => rec tS_sayLiteral_93 σ4 [x0, x1])) else none) else (rec tS_sayLiteral_93 σ [x0, x1])) else none)) = some (σf, rf, dd) := h
  intro p e s m args below meth c F Lo mc ms cells slots σ0 v0 hF hLo hcq hsq hga C
  dsimp only at hF hLo hcq hsq ⊢
  have hcm : cells ≤ mc := by have := hmn.1; omega
  have hsm : slots ≤ ms := by have := hmn.2.1; omega
  have hle : True := trivial
  have hm : True := trivial
  refine ax_istore_n (pc := 73) C d_MM_sayLiteral_73 rfl (Nat.le_of_ble_eq_true rfl) ([(2, .int x1), (0, .ref z), (1, .int x0)]) rfl ?_
  refine ax_iload_n (pc := 74) C d_MM_sayLiteral_74 rfl 0 rfl ?_
  refine ax_if_lt (pc := 75) C 99 d_MM_sayLiteral_75 (by decide) (fun hc => ?_) (fun hc => ?_)
  · replace h := it_t hc h
    refine ax_aload_n (pc := 99) C d_MM_sayLiteral_99 rfl 1 rfl ?_
    refine ax_aload_n (pc := 100) C d_MM_sayLiteral_100 rfl 1 rfl ?_
    refine mg_214 (pc := 101) C d_MM_sayLiteral_101 ?_
    refine ax_iload_n (pc := 104) C d_MM_sayLiteral_104 rfl 2 rfl ?_
    replace h := it_g h
    obtain ⟨hb, h⟩ := h
    refine ml_66 (pc := 105) C d_MM_sayLiteral_105 (bin_in hb) ?_
    replace h := it_b h
    obtain ⟨σ1, r1, d1_1, d2_1, h1, h, hd2, hd1⟩ := h
    replace hle := hG _ _ _ _ h1
    dsimp only at hle
    replace hmn : gle σ1 σf := gm_use h (gm_if (gm_lt (mSay_le _ _) (gm_if (gm_if (gm_if (gm_lt (mSay_le _ _) (gs_tail hG)) gm_none) (gs_tail hG)) gm_none)) gm_none)
    replace hm : sS_sayTerm l D kA z σ [(σ.2.1 66 (Int32.toNatClampNeg x0))] (σ1, r1, d1_1) := ih tS_sayTerm _ _ _ h1
    refine gcS_v (pc := 106) C (As := [.int (σ.2.1 66 (Int32.toNatClampNeg x0))]) (rest := []) (hm _ rfl v) ml_MM_768 d_MM_sayLiteral_106 rfl rfl (by dsimp only; omega) (by dsimp only; omega) (by have := hmn.1; have := hle.1; dsimp only; omega) (by have := hmn.2.1; have := hle.2.1; dsimp only; omega) (Nat.le_of_ble_eq_true rfl) (fun w1 hw => ?_)
    obtain ⟨v1, hag1, hwq1⟩ := hw
    dsimp only at hwq1
    subst hwq1
    dsimp only
    have hga1 : ∀ i, i ≠ 1 → v1 i = v0 i := fun i hi => (hag1 i hi).trans (hga i hi)
    replace hcq : (cells + (σ1.2.2 3001 - σ.2.2 3001)) + σf.2.2 3001 ≤ mc + σ1.2.2 3001 := by have := hmn.1; have := hle.1; omega
    replace hcm : (cells + (σ1.2.2 3001 - σ.2.2 3001)) ≤ mc := by have := hmn.1; have := hle.1; omega
    generalize cells + (σ1.2.2 3001 - σ.2.2 3001) = cells at hcq hcm ⊢
    replace hsq : (slots + (σ1.2.2 3002 - σ.2.2 3002)) + σf.2.2 3002 ≤ ms + σ1.2.2 3002 := by have := hmn.2.1; have := hle.2.1; omega
    replace hsm : (slots + (σ1.2.2 3002 - σ.2.2 3002)) ≤ ms := by have := hmn.2.1; have := hle.2.1; omega
    generalize slots + (σ1.2.2 3002 - σ.2.2 3002) = slots at hsq hsm ⊢
    replace hF : d2_1 + 3 ≤ F := by omega
    replace hLo : 48 * d2_1 + 144 ≤ Lo := by omega
    refine ax_aload_n (pc := 109) C d_MM_sayLiteral_109 rfl 1 rfl ?_
    refine ax_bipush (pc := 110) C 32 d_MM_sayLiteral_110 (by decide +kernel) ?_
    replace h := it_g h
    obtain ⟨hb, h⟩ := h
    replace h := it_l h
    replace hle := mSay_le σ1 32
    replace hmn : gle (mSay σ1 32) σf := gm_use h (gm_if (gm_if (gm_if (gm_lt (mSay_le _ _) (gs_tail hG)) gm_none) (gs_tail hG)) gm_none)
    refine ma_say (pc := 112) C (rest := []) ml_MM_765 d_MM_sayLiteral_112 hb hF hLo (by have := hmn.1; have := hle.1; omega) (by have := hmn.2.1; have := hle.2.1; omega) (Nat.le_of_ble_eq_true rfl) (fun v2 hag2 => ?_)
    generalize mSay σ1 32 = σ2 at h hmn hle ⊢
    have hga2 : ∀ i, i ≠ 1 → v2 i = v0 i := fun i hi => (hag2 i hi).trans (hga1 i hi)
    replace hcq : (cells + (σ2.2.2 3001 - σ1.2.2 3001)) + σf.2.2 3001 ≤ mc + σ2.2.2 3001 := by have := hmn.1; have := hle.1; omega
    replace hcm : (cells + (σ2.2.2 3001 - σ1.2.2 3001)) ≤ mc := by have := hmn.1; have := hle.1; omega
    generalize cells + (σ2.2.2 3001 - σ1.2.2 3001) = cells at hcq hcm ⊢
    replace hsq : (slots + (σ2.2.2 3002 - σ1.2.2 3002)) + σf.2.2 3002 ≤ ms + σ2.2.2 3002 := by have := hmn.2.1; have := hle.2.1; omega
    replace hsm : (slots + (σ2.2.2 3002 - σ1.2.2 3002)) ≤ ms := by have := hmn.2.1; have := hle.2.1; omega
    generalize slots + (σ2.2.2 3002 - σ1.2.2 3002) = slots at hsq hsm ⊢
    refine ax_aload_n (pc := 115) C d_MM_sayLiteral_115 rfl 1 rfl ?_
    refine mg_220 (pc := 116) C d_MM_sayLiteral_116 ?_
    refine ax_iload_n (pc := 119) C d_MM_sayLiteral_119 rfl 2 rfl ?_
    replace h := it_g h
    obtain ⟨hb, h⟩ := h
    refine ml_68 (pc := 120) C d_MM_sayLiteral_120 (bin_in hb) ?_
    refine ax_if_ne (pc := 121) C 130 d_MM_sayLiteral_121 (by decide) (fun hc => ?_) (fun hc => ?_)
    · replace h := it_f hc h
      refine ax_ls ([(0, .ref z), (1, .int x0), (2, .int x1)]) [1, 2, 0] rfl ?_
      replace hm : sS_sayLiteral_130 l D kA z σ2 [x0, x1] (σf, rf, _) := ih tS_sayLiteral_130 _ _ _ h
      exact hm _ _ rfl v2 p e s m args below meth c F Lo mc ms cells slots σ0 v0 hF hLo hcq hsq hga2 C
    · replace h := it_t hc h
      refine ax_aload_n (pc := 124) C d_MM_sayLiteral_124 rfl 1 rfl ?_
      refine ax_bipush (pc := 125) C 33 d_MM_sayLiteral_125 (by decide +kernel) ?_
      replace h := it_g h
      obtain ⟨hb, h⟩ := h
      replace h := it_l h
      replace hle := mSay_le σ2 33
      replace hmn : gle (mSay σ2 33) σf := gm_use h (gs_tail hG)
      refine ma_say (pc := 127) C (rest := []) ml_MM_765 d_MM_sayLiteral_127 hb hF hLo (by have := hmn.1; have := hle.1; omega) (by have := hmn.2.1; have := hle.2.1; omega) (Nat.le_of_ble_eq_true rfl) (fun v3 hag3 => ?_)
      generalize mSay σ2 33 = σ3 at h hmn hle ⊢
      have hga3 : ∀ i, i ≠ 1 → v3 i = v0 i := fun i hi => (hag3 i hi).trans (hga2 i hi)
      replace hcq : (cells + (σ3.2.2 3001 - σ2.2.2 3001)) + σf.2.2 3001 ≤ mc + σ3.2.2 3001 := by have := hmn.1; have := hle.1; omega
      replace hcm : (cells + (σ3.2.2 3001 - σ2.2.2 3001)) ≤ mc := by have := hmn.1; have := hle.1; omega
      generalize cells + (σ3.2.2 3001 - σ2.2.2 3001) = cells at hcq hcm ⊢
      replace hsq : (slots + (σ3.2.2 3002 - σ2.2.2 3002)) + σf.2.2 3002 ≤ ms + σ3.2.2 3002 := by have := hmn.2.1; have := hle.2.1; omega
      replace hsm : (slots + (σ3.2.2 3002 - σ2.2.2 3002)) ≤ ms := by have := hmn.2.1; have := hle.2.1; omega
      generalize slots + (σ3.2.2 3002 - σ2.2.2 3002) = slots at hsq hsm ⊢
      refine ax_ls ([(0, .ref z), (1, .int x0), (2, .int x1)]) [1, 2, 0] rfl ?_
      replace hm : sS_sayLiteral_130 l D kA z σ3 [x0, x1] (σf, rf, _) := ih tS_sayLiteral_130 _ _ _ h
      exact hm _ _ rfl v3 p e s m args below meth c F Lo mc ms cells slots σ0 v0 hF hLo hcq hsq hga3 C
  · replace h := it_f hc h
    refine ax_aload_n (pc := 78) C d_MM_sayLiteral_78 rfl 1 rfl ?_
    refine mg_220 (pc := 79) C d_MM_sayLiteral_79 ?_
    refine ax_iload_n (pc := 82) C d_MM_sayLiteral_82 rfl 2 rfl ?_
    replace h := it_g h
    obtain ⟨hb, h⟩ := h
    refine ml_68 (pc := 83) C d_MM_sayLiteral_83 (bin_in hb) ?_
    refine ax_if_ne (pc := 84) C 93 d_MM_sayLiteral_84 (by decide) (fun hc => ?_) (fun hc => ?_)
    · replace h := it_f hc h
      refine ax_ls ([(0, .ref z), (1, .int x0), (2, .int x1)]) [1, 2, 0] rfl ?_
      replace hm : sS_sayLiteral_93 l D kA z σ [x0, x1] (σf, rf, _) := ih tS_sayLiteral_93 _ _ _ h
      exact hm _ _ rfl v p e s m args below meth c F Lo mc ms cells slots σ0 v0 hF hLo hcq hsq hga C
    · replace h := it_t hc h
      refine ax_aload_n (pc := 87) C d_MM_sayLiteral_87 rfl 1 rfl ?_
      refine ax_bipush (pc := 88) C 126 d_MM_sayLiteral_88 (by decide +kernel) ?_
      replace h := it_g h
      obtain ⟨hb, h⟩ := h
      replace h := it_l h
      replace hle := mSay_le σ 126
      replace hmn : gle (mSay σ 126) σf := gm_use h (gs_tail hG)
      refine ma_say (pc := 90) C (rest := []) ml_MM_765 d_MM_sayLiteral_90 hb hF hLo (by have := hmn.1; have := hle.1; omega) (by have := hmn.2.1; have := hle.2.1; omega) (Nat.le_of_ble_eq_true rfl) (fun v4 hag4 => ?_)
      generalize mSay σ 126 = σ4 at h hmn hle ⊢
      have hga4 : ∀ i, i ≠ 1 → v4 i = v0 i := fun i hi => (hag4 i hi).trans (hga i hi)
      replace hcq : (cells + (σ4.2.2 3001 - σ.2.2 3001)) + σf.2.2 3001 ≤ mc + σ4.2.2 3001 := by have := hmn.1; have := hle.1; omega
      replace hcm : (cells + (σ4.2.2 3001 - σ.2.2 3001)) ≤ mc := by have := hmn.1; have := hle.1; omega
      generalize cells + (σ4.2.2 3001 - σ.2.2 3001) = cells at hcq hcm ⊢
      replace hsq : (slots + (σ4.2.2 3002 - σ.2.2 3002)) + σf.2.2 3002 ≤ ms + σ4.2.2 3002 := by have := hmn.2.1; have := hle.2.1; omega
      replace hsm : (slots + (σ4.2.2 3002 - σ.2.2 3002)) ≤ ms := by have := hmn.2.1; have := hle.2.1; omega
      generalize slots + (σ4.2.2 3002 - σ.2.2 3002) = slots at hsq hsm ⊢
      refine ax_ls ([(0, .ref z), (1, .int x0), (2, .int x1)]) [1, 2, 0] rfl ?_
      replace hm : sS_sayLiteral_93 l D kA z σ4 [x0, x1] (σf, rf, _) := ih tS_sayLiteral_93 _ _ _ h
      exact hm _ _ rfl v4 p e s m args below meth c F Lo mc ms cells slots σ0 v0 hF hLo hcq hsq hga4 C
set_option maxHeartbeats 4000000 in
set_option maxRecDepth 100000 in
theorem oS_sayLiteral_93 (l : Launch) (D : va_G) (kA : Nat → ClassId) (z : Nat) (rec : mF) (hG : GMs rec) (ih : ∀ t σ xs res, rec t σ xs = some res → sSem l D kA z t σ xs res) (σ : mS) (xs : List Int32) (res : mR) (h : u_2 (kS_sayLiteral_93 rec σ) xs = some res) : sS_sayLiteral_93 l D kA z σ xs res := by
  intro x0 x1 hxs v
  subst hxs
  obtain ⟨σf, rf, dd⟩ := res
  have hmn : gle σ σf := qS_sayLiteral_93 rec hG σ x0 x1 _ h
  have h : (bnd (rec tS_sayTerm σ [x1]) (fun σ1 r1 => some (σ1, 0, 0))) = some (σf, rf, dd) := h
  intro p e s m args below meth c F Lo mc ms cells slots σ0 v0 hF hLo hcq hsq hga C
  dsimp only at hF hLo hcq hsq ⊢
  have hcm : cells ≤ mc := by have := hmn.1; omega
  have hsm : slots ≤ ms := by have := hmn.2.1; omega
  have hle : True := trivial
  have hm : True := trivial
  refine ax_aload_n (pc := 93) C d_MM_sayLiteral_93 rfl 0 rfl ?_
  refine ax_iload_n (pc := 94) C d_MM_sayLiteral_94 rfl 2 rfl ?_
  replace h := it_b h
  obtain ⟨σ1, r1, d1_1, d2_1, h1, h, hd2, hd1⟩ := h
  replace hle := hG _ _ _ _ h1
  dsimp only at hle
  replace hmn : gle σ1 σf := gm_use h gm_some
  replace hm : sS_sayTerm l D kA z σ [x1] (σ1, r1, d1_1) := ih tS_sayTerm _ _ _ h1
  refine gcS_v (pc := 95) C (As := [.int x1]) (rest := []) (hm _ rfl v) ml_MM_768 d_MM_sayLiteral_95 rfl rfl (by dsimp only; omega) (by dsimp only; omega) (by have := hmn.1; have := hle.1; dsimp only; omega) (by have := hmn.2.1; have := hle.2.1; dsimp only; omega) (Nat.le_of_ble_eq_true rfl) (fun w1 hw => ?_)
  obtain ⟨v1, hag1, hwq1⟩ := hw
  dsimp only at hwq1
  subst hwq1
  dsimp only
  have hga1 : ∀ i, i ≠ 1 → v1 i = v0 i := fun i hi => (hag1 i hi).trans (hga i hi)
  replace hcq : (cells + (σ1.2.2 3001 - σ.2.2 3001)) + σf.2.2 3001 ≤ mc + σ1.2.2 3001 := by have := hmn.1; have := hle.1; omega
  replace hcm : (cells + (σ1.2.2 3001 - σ.2.2 3001)) ≤ mc := by have := hmn.1; have := hle.1; omega
  generalize cells + (σ1.2.2 3001 - σ.2.2 3001) = cells at hcq hcm ⊢
  replace hsq : (slots + (σ1.2.2 3002 - σ.2.2 3002)) + σf.2.2 3002 ≤ ms + σ1.2.2 3002 := by have := hmn.2.1; have := hle.2.1; omega
  replace hsm : (slots + (σ1.2.2 3002 - σ.2.2 3002)) ≤ ms := by have := hmn.2.1; have := hle.2.1; omega
  generalize slots + (σ1.2.2 3002 - σ.2.2 3002) = slots at hsq hsm ⊢
  replace hF : d2_1 + 3 ≤ F := by omega
  replace hLo : 48 * d2_1 + 144 ≤ Lo := by omega
  cases h
  exact ax_vret (pc := 98) C d_MM_sayLiteral_98 ⟨v1, hga1, rfl⟩ hcm hsm
set_option maxHeartbeats 4000000 in
set_option maxRecDepth 100000 in
theorem oS_sayLiteral_130 (l : Launch) (D : va_G) (kA : Nat → ClassId) (z : Nat) (rec : mF) (hG : GMs rec) (ih : ∀ t σ xs res, rec t σ xs = some res → sSem l D kA z t σ xs res) (σ : mS) (xs : List Int32) (res : mR) (h : u_2 (kS_sayLiteral_130 rec σ) xs = some res) : sS_sayLiteral_130 l D kA z σ xs res := by
  intro x0 x1 hxs v
  subst hxs
  obtain ⟨σf, rf, dd⟩ := res
  have hmn : gle σ σf := qS_sayLiteral_130 rec hG σ x0 x1 _ h
  have h : (if sok σ = true then (lt_ (mSay σ 61) (fun σ1 => if sok σ1 = true then (lt_ (mSay σ1 32) (fun σ2 => if bin x0 16100 = true then (bnd (rec tS_sayTerm σ2 [(σ2.2.1 67 (Int32.toNatClampNeg x0))]) (fun σ3 r3 => some (σ3, 0, 0))) else none)) else none)) else none) = some (σf, rf, dd) := h
  intro p e s m args below meth c F Lo mc ms cells slots σ0 v0 hF hLo hcq hsq hga C
  dsimp only at hF hLo hcq hsq ⊢
  have hcm : cells ≤ mc := by have := hmn.1; omega
  have hsm : slots ≤ ms := by have := hmn.2.1; omega
  have hle : True := trivial
  have hm : True := trivial
  refine ax_aload_n (pc := 130) C d_MM_sayLiteral_130 rfl 0 rfl ?_
  refine ax_bipush (pc := 131) C 61 d_MM_sayLiteral_131 (by decide +kernel) ?_
  replace h := it_g h
  obtain ⟨hb, h⟩ := h
  replace h := it_l h
  replace hle := mSay_le σ 61
  replace hmn : gle (mSay σ 61) σf := gm_use h (gm_if (gm_lt (mSay_le _ _) (gm_if (gs_bnd hG (fun _ _ => gm_some)) gm_none)) gm_none)
  refine ma_say (pc := 133) C (rest := []) ml_MM_765 d_MM_sayLiteral_133 hb hF hLo (by have := hmn.1; have := hle.1; omega) (by have := hmn.2.1; have := hle.2.1; omega) (Nat.le_of_ble_eq_true rfl) (fun v1 hag1 => ?_)
  generalize mSay σ 61 = σ1 at h hmn hle ⊢
  have hga1 : ∀ i, i ≠ 1 → v1 i = v0 i := fun i hi => (hag1 i hi).trans (hga i hi)
  replace hcq : (cells + (σ1.2.2 3001 - σ.2.2 3001)) + σf.2.2 3001 ≤ mc + σ1.2.2 3001 := by have := hmn.1; have := hle.1; omega
  replace hcm : (cells + (σ1.2.2 3001 - σ.2.2 3001)) ≤ mc := by have := hmn.1; have := hle.1; omega
  generalize cells + (σ1.2.2 3001 - σ.2.2 3001) = cells at hcq hcm ⊢
  replace hsq : (slots + (σ1.2.2 3002 - σ.2.2 3002)) + σf.2.2 3002 ≤ ms + σ1.2.2 3002 := by have := hmn.2.1; have := hle.2.1; omega
  replace hsm : (slots + (σ1.2.2 3002 - σ.2.2 3002)) ≤ ms := by have := hmn.2.1; have := hle.2.1; omega
  generalize slots + (σ1.2.2 3002 - σ.2.2 3002) = slots at hsq hsm ⊢
  refine ax_aload_n (pc := 136) C d_MM_sayLiteral_136 rfl 0 rfl ?_
  refine ax_bipush (pc := 137) C 32 d_MM_sayLiteral_137 (by decide +kernel) ?_
  replace h := it_g h
  obtain ⟨hb, h⟩ := h
  replace h := it_l h
  replace hle := mSay_le σ1 32
  replace hmn : gle (mSay σ1 32) σf := gm_use h (gm_if (gs_bnd hG (fun _ _ => gm_some)) gm_none)
  refine ma_say (pc := 139) C (rest := []) ml_MM_765 d_MM_sayLiteral_139 hb hF hLo (by have := hmn.1; have := hle.1; omega) (by have := hmn.2.1; have := hle.2.1; omega) (Nat.le_of_ble_eq_true rfl) (fun v2 hag2 => ?_)
  generalize mSay σ1 32 = σ2 at h hmn hle ⊢
  have hga2 : ∀ i, i ≠ 1 → v2 i = v0 i := fun i hi => (hag2 i hi).trans (hga1 i hi)
  replace hcq : (cells + (σ2.2.2 3001 - σ1.2.2 3001)) + σf.2.2 3001 ≤ mc + σ2.2.2 3001 := by have := hmn.1; have := hle.1; omega
  replace hcm : (cells + (σ2.2.2 3001 - σ1.2.2 3001)) ≤ mc := by have := hmn.1; have := hle.1; omega
  generalize cells + (σ2.2.2 3001 - σ1.2.2 3001) = cells at hcq hcm ⊢
  replace hsq : (slots + (σ2.2.2 3002 - σ1.2.2 3002)) + σf.2.2 3002 ≤ ms + σ2.2.2 3002 := by have := hmn.2.1; have := hle.2.1; omega
  replace hsm : (slots + (σ2.2.2 3002 - σ1.2.2 3002)) ≤ ms := by have := hmn.2.1; have := hle.2.1; omega
  generalize slots + (σ2.2.2 3002 - σ1.2.2 3002) = slots at hsq hsm ⊢
  refine ax_aload_n (pc := 142) C d_MM_sayLiteral_142 rfl 0 rfl ?_
  refine ax_aload_n (pc := 143) C d_MM_sayLiteral_143 rfl 0 rfl ?_
  refine mg_217 (pc := 144) C d_MM_sayLiteral_144 ?_
  refine ax_iload_n (pc := 147) C d_MM_sayLiteral_147 rfl 1 rfl ?_
  replace h := it_g h
  obtain ⟨hb, h⟩ := h
  refine ml_67 (pc := 148) C d_MM_sayLiteral_148 (bin_in hb) ?_
  replace h := it_b h
  obtain ⟨σ3, r3, d1_3, d2_3, h1, h, hd2, hd1⟩ := h
  replace hle := hG _ _ _ _ h1
  dsimp only at hle
  replace hmn : gle σ3 σf := gm_use h gm_some
  replace hm : sS_sayTerm l D kA z σ2 [(σ2.2.1 67 (Int32.toNatClampNeg x0))] (σ3, r3, d1_3) := ih tS_sayTerm _ _ _ h1
  refine gcS_v (pc := 149) C (As := [.int (σ2.2.1 67 (Int32.toNatClampNeg x0))]) (rest := []) (hm _ rfl v2) ml_MM_768 d_MM_sayLiteral_149 rfl rfl (by dsimp only; omega) (by dsimp only; omega) (by have := hmn.1; have := hle.1; dsimp only; omega) (by have := hmn.2.1; have := hle.2.1; dsimp only; omega) (Nat.le_of_ble_eq_true rfl) (fun w1 hw => ?_)
  obtain ⟨v3, hag3, hwq3⟩ := hw
  dsimp only at hwq3
  subst hwq3
  dsimp only
  have hga3 : ∀ i, i ≠ 1 → v3 i = v0 i := fun i hi => (hag3 i hi).trans (hga2 i hi)
  replace hcq : (cells + (σ3.2.2 3001 - σ2.2.2 3001)) + σf.2.2 3001 ≤ mc + σ3.2.2 3001 := by have := hmn.1; have := hle.1; omega
  replace hcm : (cells + (σ3.2.2 3001 - σ2.2.2 3001)) ≤ mc := by have := hmn.1; have := hle.1; omega
  generalize cells + (σ3.2.2 3001 - σ2.2.2 3001) = cells at hcq hcm ⊢
  replace hsq : (slots + (σ3.2.2 3002 - σ2.2.2 3002)) + σf.2.2 3002 ≤ ms + σ3.2.2 3002 := by have := hmn.2.1; have := hle.2.1; omega
  replace hsm : (slots + (σ3.2.2 3002 - σ2.2.2 3002)) ≤ ms := by have := hmn.2.1; have := hle.2.1; omega
  generalize slots + (σ3.2.2 3002 - σ2.2.2 3002) = slots at hsq hsm ⊢
  replace hF : d2_3 + 3 ≤ F := by omega
  replace hLo : 48 * d2_3 + 144 ≤ Lo := by omega
  cases h
  exact ax_vret (pc := 152) C d_MM_sayLiteral_152 ⟨v3, hga3, rfl⟩ hcm hsm
set_option maxHeartbeats 4000000 in
set_option maxRecDepth 100000 in
theorem oS_show (l : Launch) (D : va_G) (kA : Nat → ClassId) (z : Nat) (rec : mF) (hG : GMs rec) (ih : ∀ t σ xs res, rec t σ xs = some res → sSem l D kA z t σ xs res) (σ : mS) (xs : List Int32) (res : mR) (h : u_1 (kS_show rec σ) xs = some res) : sS_show l D kA z σ xs res := by
  intro x0 hxs v
  subst hxs
  obtain ⟨σf, rf, dd⟩ := res
  have hmn : gle σ σf := qS_show rec hG σ x0 _ h
  have h : (bnd (rec tS_none σ [x0]) (fun σ1 r1 => if r1 = 0 then (lt_ (mI σ1 3 0) (fun σ2 => if bin x0 2001 = true then (rec tS_show_22 σ2 [x0, (σ2.2.1 73 (Int32.toNatClampNeg x0))]) else none)) else (some (σ1, 0, 0)))) = some (σf, rf, dd) := h
  refine ax_Mi.of (by decide +kernel) (Nat.le_of_ble_eq_true rfl) ?_
  intro p e s m args below meth c C hnm
  replace C : ax_C p s m args meth c b_MM_show "ClauseProverModel" 3 (some .int) D kA (va_A (mmW kA z v σ) s.heap.size) := C
  obtain ⟨F, hFe⟩ : ∃ z9, z9 = dd + 3 := ⟨_, rfl⟩
  obtain ⟨Lo, hLoe⟩ : ∃ z9, z9 = 48 * dd + 144 := ⟨_, rfl⟩
  obtain ⟨mc, hmce⟩ : ∃ z9, z9 = σf.2.2 3001 - σ.2.2 3001 := ⟨_, rfl⟩
  obtain ⟨ms, hmse⟩ : ∃ z9, z9 = σf.2.2 3002 - σ.2.2 3002 := ⟨_, rfl⟩
  obtain ⟨σ0, hσ0e⟩ : ∃ z9, z9 = σ := ⟨_, rfl⟩
  obtain ⟨v0, hv0e⟩ : ∃ z9, z9 = v := ⟨_, rfl⟩
  suffices K : ∀ (cells slots : Nat), cells = 0 → slots = 0 → AW p l e { frames := F, cells := mc, slots := ms, locals := Lo } s m args below meth c D kA (va_A (mmW kA z v0 σ0) s.heap.size) 3 (ax_Qi below args s D kA (mmW kA z v0 σ0) mc ms (fun r w1 => r = rf ∧ ∃ v2 : Nat → Nat, (∀ i, i ≠ 1 → v2 i = v0 i) ∧ w1 = mmW kA z v2 σf)) 0 [(0, .ref z), (1, .int x0)] [] (mmW kA z v σ) cells slots by
    have K := K 0 0 rfl rfl
    rw [hFe, hLoe, hmce, hmse, hσ0e, hv0e] at K
    exact ax_ls ([(0, .ref z), (1, .int x0)]) [0, 1] rfl K
  replace C : ax_C p s m args meth c b_MM_show "ClauseProverModel" 3 (some .int) D kA (va_A (mmW kA z v0 σ0) s.heap.size) := by rw [hσ0e, hv0e]; exact C
  intro cells slots hc0 hs0
  have hcq : cells + σf.2.2 3001 ≤ mc + σ.2.2 3001 := by have := hmn.1; omega
  have hsq : slots + σf.2.2 3002 ≤ ms + σ.2.2 3002 := by have := hmn.2.1; omega
  have hga : ∀ i, i ≠ 1 → v i = v0 i := fun i _ => by rw [hv0e]
  have hF : dd + 3 ≤ F := by omega
  have hLo : 48 * dd + 144 ≤ Lo := by omega
  have hcm : cells ≤ mc := by have := hmn.1; omega
  have hsm : slots ≤ ms := by have := hmn.2.1; omega
  have hle : True := trivial
  have hm : True := trivial
  refine ax_aload_n (pc := 0) C d_MM_show_0 rfl 0 rfl ?_
  refine ax_iload_n (pc := 1) C d_MM_show_1 rfl 1 rfl ?_
  replace h := it_b h
  obtain ⟨σ1, r1, d1_1, d2_1, h1, h, hd2, hd1⟩ := h
  replace hle := hG _ _ _ _ h1
  dsimp only at hle
  replace hmn : gle σ1 σf := gm_use h (gm_if (gm_lt ⟨Nat.le_refl _, Nat.le_refl _, rfl⟩ (gm_if (gs_tail hG) gm_none)) gm_some)
  replace hm : sS_none l D kA z σ [x0] (σ1, r1, d1_1) := ih tS_none _ _ _ h1
  refine gcS_i (pc := 2) C (As := [.int x0]) (rest := []) (hm _ rfl v) ml_MM_759 d_MM_show_2 rfl rfl (by dsimp only; omega) (by dsimp only; omega) (by have := hmn.1; have := hle.1; dsimp only; omega) (by have := hmn.2.1; have := hle.2.1; dsimp only; omega) (Nat.le_of_ble_eq_true rfl) (fun r9 w1 hw => ?_)
  obtain ⟨hrq1, v1, hag1, hwq1⟩ := hw
  dsimp only at hwq1 hrq1
  subst hwq1
  replace hrq1 := hrq1.symm
  subst hrq1
  dsimp only
  have hga1 : ∀ i, i ≠ 1 → v1 i = v0 i := fun i hi => (hag1 i hi).trans (hga i hi)
  replace hcq : (cells + (σ1.2.2 3001 - σ.2.2 3001)) + σf.2.2 3001 ≤ mc + σ1.2.2 3001 := by have := hmn.1; have := hle.1; omega
  replace hcm : (cells + (σ1.2.2 3001 - σ.2.2 3001)) ≤ mc := by have := hmn.1; have := hle.1; omega
  generalize cells + (σ1.2.2 3001 - σ.2.2 3001) = cells at hcq hcm ⊢
  replace hsq : (slots + (σ1.2.2 3002 - σ.2.2 3002)) + σf.2.2 3002 ≤ ms + σ1.2.2 3002 := by have := hmn.2.1; have := hle.2.1; omega
  replace hsm : (slots + (σ1.2.2 3002 - σ.2.2 3002)) ≤ ms := by have := hmn.2.1; have := hle.2.1; omega
  generalize slots + (σ1.2.2 3002 - σ.2.2 3002) = slots at hsq hsm ⊢
  replace hF : d2_1 + 3 ≤ F := by omega
  replace hLo : 48 * d2_1 + 144 ≤ Lo := by omega
  refine ax_if_eq (pc := 5) C 10 d_MM_show_5 (by decide) (fun hc => ?_) (fun hc => ?_)
  · replace h := it_t hc h
    refine ax_aload_n (pc := 10) C d_MM_show_10 rfl 0 rfl ?_
    refine ax_iconst (pc := 11) C 0 d_MM_show_11 (by decide +kernel) ?_
    refine mp_21 (pc := 12) C d_MM_show_12 ?_
    replace h := it_l h
    replace hcq : cells + σf.2.2 3001 ≤ mc + (mI σ1 3 0).2.2 3001 := hcq
    replace hsq : slots + σf.2.2 3002 ≤ ms + (mI σ1 3 0).2.2 3002 := hsq
    generalize mI σ1 3 0 = σ2 at h hcq hsq ⊢
    refine ax_aload_n (pc := 15) C d_MM_show_15 rfl 0 rfl ?_
    refine mg_235 (pc := 16) C d_MM_show_16 ?_
    refine ax_iload_n (pc := 19) C d_MM_show_19 rfl 1 rfl ?_
    replace h := it_g h
    obtain ⟨hb, h⟩ := h
    refine ml_73 (pc := 20) C d_MM_show_20 (bin_in hb) ?_
    refine ax_istore_n (pc := 21) C d_MM_show_21 rfl (Nat.le_of_ble_eq_true rfl) ([(2, .int (σ2.2.1 73 (Int32.toNatClampNeg x0))), (0, .ref z), (1, .int x0)]) rfl ?_
    refine ax_ls ([(0, .ref z), (1, .int x0), (2, .int (σ2.2.1 73 (Int32.toNatClampNeg x0)))]) [1, 2, 0] rfl ?_
    replace hm : sS_show_22 l D kA z σ2 [x0, (σ2.2.1 73 (Int32.toNatClampNeg x0))] (σf, rf, _) := ih tS_show_22 _ _ _ h
    exact hm _ _ rfl v1 p e s m args below meth c F Lo mc ms cells slots σ0 v0 hF hLo hcq hsq hga1 C
  · replace h := it_f hc h
    refine ax_iconst (pc := 8) C 0 d_MM_show_8 (by decide +kernel) ?_
    cases h
    exact ax_iret (pc := 9) C d_MM_show_9 ⟨rfl, v1, hga1, rfl⟩ hcm hsm
set_option maxHeartbeats 4000000 in
set_option maxRecDepth 100000 in
theorem oS_show_22 (l : Launch) (D : va_G) (kA : Nat → ClassId) (z : Nat) (rec : mF) (hG : GMs rec) (ih : ∀ t σ xs res, rec t σ xs = some res → sSem l D kA z t σ xs res) (σ : mS) (xs : List Int32) (res : mR) (h : u_2 (kS_show_22 rec σ) xs = some res) : sS_show_22 l D kA z σ xs res := by
  intro x0 x1 hxs v
  subst hxs
  obtain ⟨σf, rf, dd⟩ := res
  have hmn : gle σ σf := qS_show_22 rec hG σ x0 x1 _ h
  have h : (if bin x0 2001 = true then (if bin x0 2001 = true then (if (((σ.2.1 73 (Int32.toNatClampNeg x0)) : Int32) + (σ.2.1 74 (Int32.toNatClampNeg x0))) ≤ x1 then (if bin x0 2001 = true then (if (σ.2.1 74 (Int32.toNatClampNeg x0)) = 0 then (if sok σ = true then (lt_ (mSay σ 102) (fun σ1 => if sok σ1 = true then (lt_ (mSay σ1 97) (fun σ2 => if sok σ2 = true then (lt_ (mSay σ2 108) (fun σ3 => if sok σ3 = true then (lt_ (mSay σ3 115) (fun σ4 => if sok σ4 = true then (lt_ (mSay σ4 101) (fun σ5 => rec tS_show_117 σ5 [x0, x1])) else none)) else none)) else none)) else none)) else none) else (rec tS_show_117 σ [x0, x1])) else none) else (if bin x0 2001 = true then (if x1 ≤ (σ.2.1 73 (Int32.toNatClampNeg x0)) then (rec tS_show_67 σ [x0, x1]) else (if sok σ = true then (lt_ (mSay σ 32) (fun σ6 => if sok σ6 = true then (lt_ (mSay σ6 124) (fun σ7 => if sok σ7 = true then (lt_ (mSay σ7 32) (fun σ8 => rec tS_show_67 σ8 [x0, x1])) else none)) else none)) else none)) else none)) else none) else none) = some (σf, rf, dd) := h
  intro p e s m args below meth c F Lo mc ms cells slots σ0 v0 hF hLo hcq hsq hga C
  dsimp only at hF hLo hcq hsq ⊢
  have hcm : cells ≤ mc := by have := hmn.1; omega
  have hsm : slots ≤ ms := by have := hmn.2.1; omega
  have hle : True := trivial
  have hm : True := trivial
  refine ax_iload_n (pc := 22) C d_MM_show_22 rfl 2 rfl ?_
  refine ax_aload_n (pc := 23) C d_MM_show_23 rfl 0 rfl ?_
  refine mg_235 (pc := 24) C d_MM_show_24 ?_
  refine ax_iload_n (pc := 27) C d_MM_show_27 rfl 1 rfl ?_
  replace h := it_g h
  obtain ⟨hb, h⟩ := h
  refine ml_73 (pc := 28) C d_MM_show_28 (bin_in hb) ?_
  refine ax_aload_n (pc := 29) C d_MM_show_29 rfl 0 rfl ?_
  refine mg_238 (pc := 30) C d_MM_show_30 ?_
  refine ax_iload_n (pc := 33) C d_MM_show_33 rfl 1 rfl ?_
  replace h := it_g h
  obtain ⟨hb, h⟩ := h
  refine ml_74 (pc := 34) C d_MM_show_34 (bin_in hb) ?_
  refine ax_iadd (pc := 35) C d_MM_show_35 ?_
  refine ax_icmp_ge (pc := 36) C 78 d_MM_show_36 (by decide) (fun hc => ?_) (fun hc => ?_)
  · replace h := it_t hc h
    refine ax_aload_n (pc := 78) C d_MM_show_78 rfl 0 rfl ?_
    refine mg_238 (pc := 79) C d_MM_show_79 ?_
    refine ax_iload_n (pc := 82) C d_MM_show_82 rfl 1 rfl ?_
    replace h := it_g h
    obtain ⟨hb, h⟩ := h
    refine ml_74 (pc := 83) C d_MM_show_83 (bin_in hb) ?_
    refine ax_if_ne (pc := 84) C 117 d_MM_show_84 (by decide) (fun hc => ?_) (fun hc => ?_)
    · replace h := it_f hc h
      refine ax_ls ([(0, .ref z), (1, .int x0), (2, .int x1)]) [0, 1, 2] rfl ?_
      replace hm : sS_show_117 l D kA z σ [x0, x1] (σf, rf, _) := ih tS_show_117 _ _ _ h
      exact hm _ _ rfl v p e s m args below meth c F Lo mc ms cells slots σ0 v0 hF hLo hcq hsq hga C
    · replace h := it_t hc h
      refine ax_aload_n (pc := 87) C d_MM_show_87 rfl 0 rfl ?_
      refine ax_bipush (pc := 88) C 102 d_MM_show_88 (by decide +kernel) ?_
      replace h := it_g h
      obtain ⟨hb, h⟩ := h
      replace h := it_l h
      replace hle := mSay_le σ 102
      replace hmn : gle (mSay σ 102) σf := gm_use h (gm_if (gm_lt (mSay_le _ _) (gm_if (gm_lt (mSay_le _ _) (gm_if (gm_lt (mSay_le _ _) (gm_if (gm_lt (mSay_le _ _) (gs_tail hG)) gm_none)) gm_none)) gm_none)) gm_none)
      refine ma_say (pc := 90) C (rest := []) ml_MM_765 d_MM_show_90 hb hF hLo (by have := hmn.1; have := hle.1; omega) (by have := hmn.2.1; have := hle.2.1; omega) (Nat.le_of_ble_eq_true rfl) (fun v1 hag1 => ?_)
      generalize mSay σ 102 = σ1 at h hmn hle ⊢
      have hga1 : ∀ i, i ≠ 1 → v1 i = v0 i := fun i hi => (hag1 i hi).trans (hga i hi)
      replace hcq : (cells + (σ1.2.2 3001 - σ.2.2 3001)) + σf.2.2 3001 ≤ mc + σ1.2.2 3001 := by have := hmn.1; have := hle.1; omega
      replace hcm : (cells + (σ1.2.2 3001 - σ.2.2 3001)) ≤ mc := by have := hmn.1; have := hle.1; omega
      generalize cells + (σ1.2.2 3001 - σ.2.2 3001) = cells at hcq hcm ⊢
      replace hsq : (slots + (σ1.2.2 3002 - σ.2.2 3002)) + σf.2.2 3002 ≤ ms + σ1.2.2 3002 := by have := hmn.2.1; have := hle.2.1; omega
      replace hsm : (slots + (σ1.2.2 3002 - σ.2.2 3002)) ≤ ms := by have := hmn.2.1; have := hle.2.1; omega
      generalize slots + (σ1.2.2 3002 - σ.2.2 3002) = slots at hsq hsm ⊢
      refine ax_aload_n (pc := 93) C d_MM_show_93 rfl 0 rfl ?_
      refine ax_bipush (pc := 94) C 97 d_MM_show_94 (by decide +kernel) ?_
      replace h := it_g h
      obtain ⟨hb, h⟩ := h
      replace h := it_l h
      replace hle := mSay_le σ1 97
      replace hmn : gle (mSay σ1 97) σf := gm_use h (gm_if (gm_lt (mSay_le _ _) (gm_if (gm_lt (mSay_le _ _) (gm_if (gm_lt (mSay_le _ _) (gs_tail hG)) gm_none)) gm_none)) gm_none)
      refine ma_say (pc := 96) C (rest := []) ml_MM_765 d_MM_show_96 hb hF hLo (by have := hmn.1; have := hle.1; omega) (by have := hmn.2.1; have := hle.2.1; omega) (Nat.le_of_ble_eq_true rfl) (fun v2 hag2 => ?_)
      generalize mSay σ1 97 = σ2 at h hmn hle ⊢
      have hga2 : ∀ i, i ≠ 1 → v2 i = v0 i := fun i hi => (hag2 i hi).trans (hga1 i hi)
      replace hcq : (cells + (σ2.2.2 3001 - σ1.2.2 3001)) + σf.2.2 3001 ≤ mc + σ2.2.2 3001 := by have := hmn.1; have := hle.1; omega
      replace hcm : (cells + (σ2.2.2 3001 - σ1.2.2 3001)) ≤ mc := by have := hmn.1; have := hle.1; omega
      generalize cells + (σ2.2.2 3001 - σ1.2.2 3001) = cells at hcq hcm ⊢
      replace hsq : (slots + (σ2.2.2 3002 - σ1.2.2 3002)) + σf.2.2 3002 ≤ ms + σ2.2.2 3002 := by have := hmn.2.1; have := hle.2.1; omega
      replace hsm : (slots + (σ2.2.2 3002 - σ1.2.2 3002)) ≤ ms := by have := hmn.2.1; have := hle.2.1; omega
      generalize slots + (σ2.2.2 3002 - σ1.2.2 3002) = slots at hsq hsm ⊢
      refine ax_aload_n (pc := 99) C d_MM_show_99 rfl 0 rfl ?_
      refine ax_bipush (pc := 100) C 108 d_MM_show_100 (by decide +kernel) ?_
      replace h := it_g h
      obtain ⟨hb, h⟩ := h
      replace h := it_l h
      replace hle := mSay_le σ2 108
      replace hmn : gle (mSay σ2 108) σf := gm_use h (gm_if (gm_lt (mSay_le _ _) (gm_if (gm_lt (mSay_le _ _) (gs_tail hG)) gm_none)) gm_none)
      refine ma_say (pc := 102) C (rest := []) ml_MM_765 d_MM_show_102 hb hF hLo (by have := hmn.1; have := hle.1; omega) (by have := hmn.2.1; have := hle.2.1; omega) (Nat.le_of_ble_eq_true rfl) (fun v3 hag3 => ?_)
      generalize mSay σ2 108 = σ3 at h hmn hle ⊢
      have hga3 : ∀ i, i ≠ 1 → v3 i = v0 i := fun i hi => (hag3 i hi).trans (hga2 i hi)
      replace hcq : (cells + (σ3.2.2 3001 - σ2.2.2 3001)) + σf.2.2 3001 ≤ mc + σ3.2.2 3001 := by have := hmn.1; have := hle.1; omega
      replace hcm : (cells + (σ3.2.2 3001 - σ2.2.2 3001)) ≤ mc := by have := hmn.1; have := hle.1; omega
      generalize cells + (σ3.2.2 3001 - σ2.2.2 3001) = cells at hcq hcm ⊢
      replace hsq : (slots + (σ3.2.2 3002 - σ2.2.2 3002)) + σf.2.2 3002 ≤ ms + σ3.2.2 3002 := by have := hmn.2.1; have := hle.2.1; omega
      replace hsm : (slots + (σ3.2.2 3002 - σ2.2.2 3002)) ≤ ms := by have := hmn.2.1; have := hle.2.1; omega
      generalize slots + (σ3.2.2 3002 - σ2.2.2 3002) = slots at hsq hsm ⊢
      refine ax_aload_n (pc := 105) C d_MM_show_105 rfl 0 rfl ?_
      refine ax_bipush (pc := 106) C 115 d_MM_show_106 (by decide +kernel) ?_
      replace h := it_g h
      obtain ⟨hb, h⟩ := h
      replace h := it_l h
      replace hle := mSay_le σ3 115
      replace hmn : gle (mSay σ3 115) σf := gm_use h (gm_if (gm_lt (mSay_le _ _) (gs_tail hG)) gm_none)
      refine ma_say (pc := 108) C (rest := []) ml_MM_765 d_MM_show_108 hb hF hLo (by have := hmn.1; have := hle.1; omega) (by have := hmn.2.1; have := hle.2.1; omega) (Nat.le_of_ble_eq_true rfl) (fun v4 hag4 => ?_)
      generalize mSay σ3 115 = σ4 at h hmn hle ⊢
      have hga4 : ∀ i, i ≠ 1 → v4 i = v0 i := fun i hi => (hag4 i hi).trans (hga3 i hi)
      replace hcq : (cells + (σ4.2.2 3001 - σ3.2.2 3001)) + σf.2.2 3001 ≤ mc + σ4.2.2 3001 := by have := hmn.1; have := hle.1; omega
      replace hcm : (cells + (σ4.2.2 3001 - σ3.2.2 3001)) ≤ mc := by have := hmn.1; have := hle.1; omega
      generalize cells + (σ4.2.2 3001 - σ3.2.2 3001) = cells at hcq hcm ⊢
      replace hsq : (slots + (σ4.2.2 3002 - σ3.2.2 3002)) + σf.2.2 3002 ≤ ms + σ4.2.2 3002 := by have := hmn.2.1; have := hle.2.1; omega
      replace hsm : (slots + (σ4.2.2 3002 - σ3.2.2 3002)) ≤ ms := by have := hmn.2.1; have := hle.2.1; omega
      generalize slots + (σ4.2.2 3002 - σ3.2.2 3002) = slots at hsq hsm ⊢
      refine ax_aload_n (pc := 111) C d_MM_show_111 rfl 0 rfl ?_
      refine ax_bipush (pc := 112) C 101 d_MM_show_112 (by decide +kernel) ?_
      replace h := it_g h
      obtain ⟨hb, h⟩ := h
      replace h := it_l h
      replace hle := mSay_le σ4 101
      replace hmn : gle (mSay σ4 101) σf := gm_use h (gs_tail hG)
      refine ma_say (pc := 114) C (rest := []) ml_MM_765 d_MM_show_114 hb hF hLo (by have := hmn.1; have := hle.1; omega) (by have := hmn.2.1; have := hle.2.1; omega) (Nat.le_of_ble_eq_true rfl) (fun v5 hag5 => ?_)
      generalize mSay σ4 101 = σ5 at h hmn hle ⊢
      have hga5 : ∀ i, i ≠ 1 → v5 i = v0 i := fun i hi => (hag5 i hi).trans (hga4 i hi)
      replace hcq : (cells + (σ5.2.2 3001 - σ4.2.2 3001)) + σf.2.2 3001 ≤ mc + σ5.2.2 3001 := by have := hmn.1; have := hle.1; omega
      replace hcm : (cells + (σ5.2.2 3001 - σ4.2.2 3001)) ≤ mc := by have := hmn.1; have := hle.1; omega
      generalize cells + (σ5.2.2 3001 - σ4.2.2 3001) = cells at hcq hcm ⊢
      replace hsq : (slots + (σ5.2.2 3002 - σ4.2.2 3002)) + σf.2.2 3002 ≤ ms + σ5.2.2 3002 := by have := hmn.2.1; have := hle.2.1; omega
      replace hsm : (slots + (σ5.2.2 3002 - σ4.2.2 3002)) ≤ ms := by have := hmn.2.1; have := hle.2.1; omega
      generalize slots + (σ5.2.2 3002 - σ4.2.2 3002) = slots at hsq hsm ⊢
      refine ax_ls ([(0, .ref z), (1, .int x0), (2, .int x1)]) [0, 1, 2] rfl ?_
      replace hm : sS_show_117 l D kA z σ5 [x0, x1] (σf, rf, _) := ih tS_show_117 _ _ _ h
      exact hm _ _ rfl v5 p e s m args below meth c F Lo mc ms cells slots σ0 v0 hF hLo hcq hsq hga5 C
  · replace h := it_f hc h
    refine ax_iload_n (pc := 39) C d_MM_show_39 rfl 2 rfl ?_
    refine ax_aload_n (pc := 40) C d_MM_show_40 rfl 0 rfl ?_
    refine mg_235 (pc := 41) C d_MM_show_41 ?_
    refine ax_iload_n (pc := 44) C d_MM_show_44 rfl 1 rfl ?_
    replace h := it_g h
    obtain ⟨hb, h⟩ := h
    refine ml_73 (pc := 45) C d_MM_show_45 (bin_in hb) ?_
    refine ax_icmp_le (pc := 46) C 67 d_MM_show_46 (by decide) (fun hc => ?_) (fun hc => ?_)
    · replace h := it_t hc h
      refine ax_ls ([(0, .ref z), (1, .int x0), (2, .int x1)]) [0, 1, 2] rfl ?_
      replace hm : sS_show_67 l D kA z σ [x0, x1] (σf, rf, _) := ih tS_show_67 _ _ _ h
      exact hm _ _ rfl v p e s m args below meth c F Lo mc ms cells slots σ0 v0 hF hLo hcq hsq hga C
    · replace h := it_f hc h
      refine ax_aload_n (pc := 49) C d_MM_show_49 rfl 0 rfl ?_
      refine ax_bipush (pc := 50) C 32 d_MM_show_50 (by decide +kernel) ?_
      replace h := it_g h
      obtain ⟨hb, h⟩ := h
      replace h := it_l h
      replace hle := mSay_le σ 32
      replace hmn : gle (mSay σ 32) σf := gm_use h (gm_if (gm_lt (mSay_le _ _) (gm_if (gm_lt (mSay_le _ _) (gs_tail hG)) gm_none)) gm_none)
      refine ma_say (pc := 52) C (rest := []) ml_MM_765 d_MM_show_52 hb hF hLo (by have := hmn.1; have := hle.1; omega) (by have := hmn.2.1; have := hle.2.1; omega) (Nat.le_of_ble_eq_true rfl) (fun v6 hag6 => ?_)
      generalize mSay σ 32 = σ6 at h hmn hle ⊢
      have hga6 : ∀ i, i ≠ 1 → v6 i = v0 i := fun i hi => (hag6 i hi).trans (hga i hi)
      replace hcq : (cells + (σ6.2.2 3001 - σ.2.2 3001)) + σf.2.2 3001 ≤ mc + σ6.2.2 3001 := by have := hmn.1; have := hle.1; omega
      replace hcm : (cells + (σ6.2.2 3001 - σ.2.2 3001)) ≤ mc := by have := hmn.1; have := hle.1; omega
      generalize cells + (σ6.2.2 3001 - σ.2.2 3001) = cells at hcq hcm ⊢
      replace hsq : (slots + (σ6.2.2 3002 - σ.2.2 3002)) + σf.2.2 3002 ≤ ms + σ6.2.2 3002 := by have := hmn.2.1; have := hle.2.1; omega
      replace hsm : (slots + (σ6.2.2 3002 - σ.2.2 3002)) ≤ ms := by have := hmn.2.1; have := hle.2.1; omega
      generalize slots + (σ6.2.2 3002 - σ.2.2 3002) = slots at hsq hsm ⊢
      refine ax_aload_n (pc := 55) C d_MM_show_55 rfl 0 rfl ?_
      refine ax_bipush (pc := 56) C 124 d_MM_show_56 (by decide +kernel) ?_
      replace h := it_g h
      obtain ⟨hb, h⟩ := h
      replace h := it_l h
      replace hle := mSay_le σ6 124
      replace hmn : gle (mSay σ6 124) σf := gm_use h (gm_if (gm_lt (mSay_le _ _) (gs_tail hG)) gm_none)
      refine ma_say (pc := 58) C (rest := []) ml_MM_765 d_MM_show_58 hb hF hLo (by have := hmn.1; have := hle.1; omega) (by have := hmn.2.1; have := hle.2.1; omega) (Nat.le_of_ble_eq_true rfl) (fun v7 hag7 => ?_)
      generalize mSay σ6 124 = σ7 at h hmn hle ⊢
      have hga7 : ∀ i, i ≠ 1 → v7 i = v0 i := fun i hi => (hag7 i hi).trans (hga6 i hi)
      replace hcq : (cells + (σ7.2.2 3001 - σ6.2.2 3001)) + σf.2.2 3001 ≤ mc + σ7.2.2 3001 := by have := hmn.1; have := hle.1; omega
      replace hcm : (cells + (σ7.2.2 3001 - σ6.2.2 3001)) ≤ mc := by have := hmn.1; have := hle.1; omega
      generalize cells + (σ7.2.2 3001 - σ6.2.2 3001) = cells at hcq hcm ⊢
      replace hsq : (slots + (σ7.2.2 3002 - σ6.2.2 3002)) + σf.2.2 3002 ≤ ms + σ7.2.2 3002 := by have := hmn.2.1; have := hle.2.1; omega
      replace hsm : (slots + (σ7.2.2 3002 - σ6.2.2 3002)) ≤ ms := by have := hmn.2.1; have := hle.2.1; omega
      generalize slots + (σ7.2.2 3002 - σ6.2.2 3002) = slots at hsq hsm ⊢
      refine ax_aload_n (pc := 61) C d_MM_show_61 rfl 0 rfl ?_
      refine ax_bipush (pc := 62) C 32 d_MM_show_62 (by decide +kernel) ?_
      replace h := it_g h
      obtain ⟨hb, h⟩ := h
      replace h := it_l h
      replace hle := mSay_le σ7 32
      replace hmn : gle (mSay σ7 32) σf := gm_use h (gs_tail hG)
      refine ma_say (pc := 64) C (rest := []) ml_MM_765 d_MM_show_64 hb hF hLo (by have := hmn.1; have := hle.1; omega) (by have := hmn.2.1; have := hle.2.1; omega) (Nat.le_of_ble_eq_true rfl) (fun v8 hag8 => ?_)
      generalize mSay σ7 32 = σ8 at h hmn hle ⊢
      have hga8 : ∀ i, i ≠ 1 → v8 i = v0 i := fun i hi => (hag8 i hi).trans (hga7 i hi)
      replace hcq : (cells + (σ8.2.2 3001 - σ7.2.2 3001)) + σf.2.2 3001 ≤ mc + σ8.2.2 3001 := by have := hmn.1; have := hle.1; omega
      replace hcm : (cells + (σ8.2.2 3001 - σ7.2.2 3001)) ≤ mc := by have := hmn.1; have := hle.1; omega
      generalize cells + (σ8.2.2 3001 - σ7.2.2 3001) = cells at hcq hcm ⊢
      replace hsq : (slots + (σ8.2.2 3002 - σ7.2.2 3002)) + σf.2.2 3002 ≤ ms + σ8.2.2 3002 := by have := hmn.2.1; have := hle.2.1; omega
      replace hsm : (slots + (σ8.2.2 3002 - σ7.2.2 3002)) ≤ ms := by have := hmn.2.1; have := hle.2.1; omega
      generalize slots + (σ8.2.2 3002 - σ7.2.2 3002) = slots at hsq hsm ⊢
      refine ax_ls ([(0, .ref z), (1, .int x0), (2, .int x1)]) [0, 1, 2] rfl ?_
      replace hm : sS_show_67 l D kA z σ8 [x0, x1] (σf, rf, _) := ih tS_show_67 _ _ _ h
      exact hm _ _ rfl v8 p e s m args below meth c F Lo mc ms cells slots σ0 v0 hF hLo hcq hsq hga8 C
set_option maxHeartbeats 4000000 in
set_option maxRecDepth 100000 in
theorem oS_show_67 (l : Launch) (D : va_G) (kA : Nat → ClassId) (z : Nat) (rec : mF) (hG : GMs rec) (ih : ∀ t σ xs res, rec t σ xs = some res → sSem l D kA z t σ xs res) (σ : mS) (xs : List Int32) (res : mR) (h : u_2 (kS_show_67 rec σ) xs = some res) : sS_show_67 l D kA z σ xs res := by
  intro x0 x1 hxs v
  subst hxs
  obtain ⟨σf, rf, dd⟩ := res
  have hmn : gle σ σf := qS_show_67 rec hG σ x0 x1 _ h
  have h : (bnd (rec tS_sayLiteral σ [x1]) (fun σ1 r1 => rec tS_show_22 σ1 [x0, (x1 + 1)])) = some (σf, rf, dd) := h
  intro p e s m args below meth c F Lo mc ms cells slots σ0 v0 hF hLo hcq hsq hga C
  dsimp only at hF hLo hcq hsq ⊢
  have hcm : cells ≤ mc := by have := hmn.1; omega
  have hsm : slots ≤ ms := by have := hmn.2.1; omega
  have hle : True := trivial
  have hm : True := trivial
  refine ax_aload_n (pc := 67) C d_MM_show_67 rfl 0 rfl ?_
  refine ax_iload_n (pc := 68) C d_MM_show_68 rfl 2 rfl ?_
  replace h := it_b h
  obtain ⟨σ1, r1, d1_1, d2_1, h1, h, hd2, hd1⟩ := h
  replace hle := hG _ _ _ _ h1
  dsimp only at hle
  replace hmn : gle σ1 σf := gm_use h (gs_tail hG)
  replace hm : sS_sayLiteral l D kA z σ [x1] (σ1, r1, d1_1) := ih tS_sayLiteral _ _ _ h1
  refine gcS_v (pc := 69) C (As := [.int x1]) (rest := []) (hm _ rfl v) ml_MM_771 d_MM_show_69 rfl rfl (by dsimp only; omega) (by dsimp only; omega) (by have := hmn.1; have := hle.1; dsimp only; omega) (by have := hmn.2.1; have := hle.2.1; dsimp only; omega) (Nat.le_of_ble_eq_true rfl) (fun w1 hw => ?_)
  obtain ⟨v1, hag1, hwq1⟩ := hw
  dsimp only at hwq1
  subst hwq1
  dsimp only
  have hga1 : ∀ i, i ≠ 1 → v1 i = v0 i := fun i hi => (hag1 i hi).trans (hga i hi)
  replace hcq : (cells + (σ1.2.2 3001 - σ.2.2 3001)) + σf.2.2 3001 ≤ mc + σ1.2.2 3001 := by have := hmn.1; have := hle.1; omega
  replace hcm : (cells + (σ1.2.2 3001 - σ.2.2 3001)) ≤ mc := by have := hmn.1; have := hle.1; omega
  generalize cells + (σ1.2.2 3001 - σ.2.2 3001) = cells at hcq hcm ⊢
  replace hsq : (slots + (σ1.2.2 3002 - σ.2.2 3002)) + σf.2.2 3002 ≤ ms + σ1.2.2 3002 := by have := hmn.2.1; have := hle.2.1; omega
  replace hsm : (slots + (σ1.2.2 3002 - σ.2.2 3002)) ≤ ms := by have := hmn.2.1; have := hle.2.1; omega
  generalize slots + (σ1.2.2 3002 - σ.2.2 3002) = slots at hsq hsm ⊢
  replace hF : d2_1 + 3 ≤ F := by omega
  replace hLo : 48 * d2_1 + 144 ≤ Lo := by omega
  refine ax_iinc (pc := 72) C (x1 + 1) d_MM_show_72 2 rfl rfl (Nat.le_of_ble_eq_true rfl) ([(2, .int (x1 + 1)), (0, .ref z), (1, .int x0)]) rfl ?_
  refine ax_goto (pc := 75) C 22 d_MM_show_75 (by decide) ?_
  refine ax_ls ([(0, .ref z), (1, .int x0), (2, .int (x1 + 1))]) [1, 2, 0] rfl ?_
  replace hm : sS_show_22 l D kA z σ1 [x0, (x1 + 1)] (σf, rf, _) := ih tS_show_22 _ _ _ h
  exact hm _ _ rfl v1 p e s m args below meth c F Lo mc ms cells slots σ0 v0 hF hLo hcq hsq hga1 C
set_option maxHeartbeats 4000000 in
set_option maxRecDepth 100000 in
theorem oS_show_117 (l : Launch) (D : va_G) (kA : Nat → ClassId) (z : Nat) (rec : mF) (hG : GMs rec) (ih : ∀ t σ xs res, rec t σ xs = some res → sSem l D kA z t σ xs res) (σ : mS) (xs : List Int32) (res : mR) (h : u_2 (kS_show_117 rec σ) xs = some res) : sS_show_117 l D kA z σ xs res := by
  intro x0 x1 hxs v
  subst hxs
  obtain ⟨σf, rf, dd⟩ := res
  have hmn : gle σ σf := qS_show_117 rec hG σ x0 x1 _ h
  have h : (some (σ, (σ.1 3), 0)) = some (σf, rf, dd) := h
  intro p e s m args below meth c F Lo mc ms cells slots σ0 v0 hF hLo hcq hsq hga C
  dsimp only at hF hLo hcq hsq ⊢
  have hcm : cells ≤ mc := by have := hmn.1; omega
  have hsm : slots ≤ ms := by have := hmn.2.1; omega
  have hle : True := trivial
  have hm : True := trivial
  refine ax_aload_n (pc := 117) C d_MM_show_117 rfl 0 rfl ?_
  refine mg_21 (pc := 118) C d_MM_show_118 ?_
  cases h
  exact ax_iret (pc := 121) C d_MM_show_121 ⟨rfl, v, hga, rfl⟩ hcm hsm
