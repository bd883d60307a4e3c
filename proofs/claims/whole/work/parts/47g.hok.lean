set_option maxHeartbeats 4000000 in
set_option maxRecDepth 100000 in
theorem oH_CP_writeNumber (l : Launch) (D : va_G) (kA : Nat → ClassId) (adK adV : Nat → Nat) (u : Nat → Nat) (rec : mF) (hG : GMh rec) (ih : ∀ t σ xs res, rec t σ xs = some res → hSem l D kA adK adV u t σ xs res) (σ : mS) (xs : List Int32) (res : mR) (h : u_1 (kH_CP_writeNumber rec σ) xs = some res) : sH_CP_writeNumber l D kA adK adV u σ xs res := by
  intro x0 hxs w tx
  subst hxs
  obtain ⟨σf, rf, dd⟩ := res
  have hmn : gle σ σf := qH_CP_writeNumber rec hG σ x0 _ h
  have h : (if x0 < 100 then (if x0 < 10 then (rec tH_CP_writeNumber_p23 σ [x0, 1]) else (rec tH_CP_writeNumber_p23 σ [x0, 10])) else (rec tH_CP_writeNumber_p23 σ [x0, 100])) = some (σf, rf, dd) := h
  refine ax_MvY.of (by decide +kernel) (Nat.le_of_ble_eq_true rfl) ?_
  intro p e s m args below meth c C hnm hX
  replace C : ax_C p s m args meth c b_CP_writeNumber "ClauseProver" 3 none D kA (va_A (cpW kA u w tx σ) s.heap.size) := C
  obtain ⟨F, hFe⟩ : ∃ z, z = dd + 12 := ⟨_, rfl⟩
  obtain ⟨Lo, hLoe⟩ : ∃ z, z = 48 * dd + 480 := ⟨_, rfl⟩
  obtain ⟨mc, hmce⟩ : ∃ z, z = σf.2.2 3001 - σ.2.2 3001 := ⟨_, rfl⟩
  obtain ⟨ms, hmse⟩ : ∃ z, z = σf.2.2 3002 - σ.2.2 3002 := ⟨_, rfl⟩
  obtain ⟨σ0, hσ0e⟩ : ∃ z, z = σ := ⟨_, rfl⟩
  obtain ⟨w0, hw0e⟩ : ∃ z, z = w := ⟨_, rfl⟩
  obtain ⟨tx0, htx0e⟩ : ∃ z, z = tx := ⟨_, rfl⟩
  suffices K : ∀ (cells slots : Nat), cells = 0 → slots = 0 → AW p l e { frames := F, cells := mc, slots := ms, locals := Lo } s m args below meth c D kA (va_A (cpW kA u w0 tx0 σ0) s.heap.size) 3 (ax_Qv below args s D kA (cpW kA u w0 tx0 σ0) mc ms (fun w1 => ∃ (w2 : Nat → Nat) (tx2 : Value), (∀ i, ([4] : List Nat).elem i = false → w2 i = w0 i) ∧ tx2 = tx0 ∧ w1 = cpW kA u w2 tx2 σf)) 0 [(0, .ref (u 0)), (1, .int x0)] [] (cpW kA u w tx σ) cells slots by
    have K := K 0 0 rfl rfl
    rw [hFe, hLoe, hmce, hmse, hσ0e, hw0e, htx0e] at K
    exact ax_ls ([(0, .ref (u 0)), (1, .int x0)]) [0, 1] rfl K
  replace C : ax_C p s m args meth c b_CP_writeNumber "ClauseProver" 3 none D kA (va_A (cpW kA u w0 tx0 σ0) s.heap.size) := by rw [hσ0e, hw0e, htx0e]; exact C
  replace hX : SX adK adV (va_A (cpW kA u w0 tx0 σ0) s.heap.size) s s.heap := by rw [hσ0e, hw0e, htx0e]; exact hX
  intro cells slots hc0 hs0
  have hcq : cells + σf.2.2 3001 ≤ mc + σ.2.2 3001 := by have := hmn.1; omega
  have hsq : slots + σf.2.2 3002 ≤ ms + σ.2.2 3002 := by have := hmn.2; omega
  have hga : ∀ i, ([4] : List Nat).elem i = false → w i = w0 i := fun i _ => by rw [hw0e]
  have e9 : tx = tx0 := htx0e.symm
  subst e9
  have hF : dd + 12 ≤ F := by omega
  have hLo : 48 * dd + 480 ≤ Lo := by omega
  have hcm : cells ≤ mc := by have := hmn.1; omega
  have hsm : slots ≤ ms := by have := hmn.2; omega
  have hle : True := trivial
  have hm : True := trivial
  refine ax_iload_n (pc := 0) C d_CP_writeNumber_0 rfl 1 rfl ?_
  refine ax_bipush (pc := 1) C 100 d_CP_writeNumber_1 (by decide +kernel) ?_
  refine ax_icmp_lt (pc := 3) C 11 d_CP_writeNumber_3 (by decide) (fun hc => ?_) (fun hc => ?_)
  · replace h := it_t hc h
    refine ax_iload_n (pc := 11) C d_CP_writeNumber_11 rfl 1 rfl ?_
    refine ax_bipush (pc := 12) C 10 d_CP_writeNumber_12 (by decide +kernel) ?_
    refine ax_icmp_lt (pc := 14) C 22 d_CP_writeNumber_14 (by decide) (fun hc => ?_) (fun hc => ?_)
    · replace h := it_t hc h
      refine ax_iconst (pc := 22) C 1 d_CP_writeNumber_22 (by decide +kernel) ?_
      refine ax_ls ([(0, .ref (u 0)), (1, .int x0)]) [0, 1] rfl ?_
      replace hm : sH_CP_writeNumber_p23 l D kA adK adV u σ [x0, 1] (σf, rf, _) := ih tH_CP_writeNumber_p23 _ _ _ h
      exact hm _ _ rfl w tx p e s m args below meth c F Lo mc ms cells slots σ0 w0 tx hF hLo hcq hsq hga C hX
    · replace h := it_f hc h
      refine ax_bipush (pc := 17) C 10 d_CP_writeNumber_17 (by decide +kernel) ?_
      refine ax_goto (pc := 19) C 23 d_CP_writeNumber_19 (by decide) ?_
      refine ax_ls ([(0, .ref (u 0)), (1, .int x0)]) [0, 1] rfl ?_
      replace hm : sH_CP_writeNumber_p23 l D kA adK adV u σ [x0, 10] (σf, rf, _) := ih tH_CP_writeNumber_p23 _ _ _ h
      exact hm _ _ rfl w tx p e s m args below meth c F Lo mc ms cells slots σ0 w0 tx hF hLo hcq hsq hga C hX
  · replace h := it_f hc h
    refine ax_bipush (pc := 6) C 100 d_CP_writeNumber_6 (by decide +kernel) ?_
    refine ax_goto (pc := 8) C 23 d_CP_writeNumber_8 (by decide) ?_
    refine ax_ls ([(0, .ref (u 0)), (1, .int x0)]) [0, 1] rfl ?_
    replace hm : sH_CP_writeNumber_p23 l D kA adK adV u σ [x0, 100] (σf, rf, _) := ih tH_CP_writeNumber_p23 _ _ _ h
    exact hm _ _ rfl w tx p e s m args below meth c F Lo mc ms cells slots σ0 w0 tx hF hLo hcq hsq hga C hX
set_option maxHeartbeats 4000000 in
set_option maxRecDepth 100000 in
theorem oH_CP_writeNumber_p23 (l : Launch) (D : va_G) (kA : Nat → ClassId) (adK adV : Nat → Nat) (u : Nat → Nat) (rec : mF) (hG : GMh rec) (ih : ∀ t σ xs res, rec t σ xs = some res → hSem l D kA adK adV u t σ xs res) (σ : mS) (xs : List Int32) (res : mR) (h : u_2 (kH_CP_writeNumber_p23 rec σ) xs = some res) : sH_CP_writeNumber_p23 l D kA adK adV u σ xs res := by
  intro x0 x1 hxs w tx
  subst hxs
  obtain ⟨σf, rf, dd⟩ := res
  have hmn : gle σ σf := qH_CP_writeNumber_p23 rec hG σ x0 x1 _ h
  have h : (rec tH_CP_writeNumber_p24 σ [x0, x1]) = some (σf, rf, dd) := h
  intro p e s m args below meth c F Lo mc ms cells slots σ0 w0 tx0 hF hLo hcq hsq hga C hX
  dsimp only at hF hLo hcq hsq ⊢
  have hcm : cells ≤ mc := by have := hmn.1; omega
  have hsm : slots ≤ ms := by have := hmn.2; omega
  have hle : True := trivial
  have hm : True := trivial
  refine ax_istore_n (pc := 23) C d_CP_writeNumber_23 rfl (Nat.le_of_ble_eq_true rfl) ([(2, .int x1), (0, .ref (u 0)), (1, .int x0)]) rfl ?_
  refine ax_ls ([(0, .ref (u 0)), (1, .int x0), (2, .int x1)]) [1, 2, 0] rfl ?_
  replace hm : sH_CP_writeNumber_p24 l D kA adK adV u σ [x0, x1] (σf, rf, _) := ih tH_CP_writeNumber_p24 _ _ _ h
  exact hm _ _ rfl w tx p e s m args below meth c F Lo mc ms cells slots σ0 w0 tx0 hF hLo hcq hsq hga C hX
set_option maxHeartbeats 4000000 in
set_option maxRecDepth 100000 in
theorem oH_CP_writeNumber_p24 (l : Launch) (D : va_G) (kA : Nat → ClassId) (adK adV : Nat → Nat) (u : Nat → Nat) (rec : mF) (hG : GMh rec) (ih : ∀ t σ xs res, rec t σ xs = some res → hSem l D kA adK adV u t σ xs res) (σ : mS) (xs : List Int32) (res : mR) (h : u_2 (kH_CP_writeNumber_p24 rec σ) xs = some res) : sH_CP_writeNumber_p24 l D kA adK adV u σ xs res := by
  intro x0 x1 hxs w tx
  subst hxs
  obtain ⟨σf, rf, dd⟩ := res
  have hmn : gle σ σf := qH_CP_writeNumber_p24 rec hG σ x0 x1 _ h
  have h : (if x1 ≤ 0 then (some (σ, 0, 0)) else (if x1 = 0 then none else (if (10 : Int32) = 0 then none else (if rok σ 301 4 = true then (lt_ (rAdd σ 301 4 ((48 : Int32) + ((x0 / x1) - (x0 / x1) / 10 * 10))) (fun σ1 => if (10 : Int32) = 0 then none else (rec tH_CP_writeNumber_p24 σ1 [x0, (x1 / 10)]))) else none)))) = some (σf, rf, dd) := h
  intro p e s m args below meth c F Lo mc ms cells slots σ0 w0 tx0 hF hLo hcq hsq hga C hX
  dsimp only at hF hLo hcq hsq ⊢
  have hcm : cells ≤ mc := by have := hmn.1; omega
  have hsm : slots ≤ ms := by have := hmn.2; omega
  have hle : True := trivial
  have hm : True := trivial
  refine ax_iload_n (pc := 24) C d_CP_writeNumber_24 rfl 2 rfl ?_
  refine ax_if_le (pc := 25) C 52 d_CP_writeNumber_25 (by decide) (fun hc => ?_) (fun hc => ?_)
  · replace h := it_t hc h
    cases h
    exact ax_vret (pc := 52) C d_CP_writeNumber_52 ⟨w, tx, hga, rfl, rfl⟩ hcm hsm
  · replace h := it_f hc h
    refine ax_aload_n (pc := 28) C d_CP_writeNumber_28 rfl 0 rfl ?_
    refine cg_0_1_CP_18 (pc := 29) C d_CP_writeNumber_29 ?_
    refine ax_bipush (pc := 32) C 48 d_CP_writeNumber_32 (by decide +kernel) ?_
    refine ax_iload_n (pc := 34) C d_CP_writeNumber_34 rfl 1 rfl ?_
    refine ax_iload_n (pc := 35) C d_CP_writeNumber_35 rfl 2 rfl ?_
    replace h := it_n h
    obtain ⟨hz, h⟩ := h
    refine ax_idiv (pc := 36) C d_CP_writeNumber_36 hz ?_
    refine ax_bipush (pc := 37) C 10 d_CP_writeNumber_37 (by decide +kernel) ?_
    replace h := it_n h
    obtain ⟨hz, h⟩ := h
    refine ax_irem (pc := 39) C d_CP_writeNumber_39 hz ?_
    refine ax_iadd (pc := 40) C d_CP_writeNumber_40 ?_
    replace h := it_g h
    obtain ⟨hb, h⟩ := h
    replace h := it_l h
    replace hle := rAdd_le σ 301 4 ((48 : Int32) + ((x0 / x1) - (x0 / x1) / 10 * 10))
    replace hmn : gle (rAdd σ 301 4 ((48 : Int32) + ((x0 / x1) - (x0 / x1) / 10 * 10))) σf := gm_use h (gm_if gm_none (gh_tail hG))
    refine ca_3 (pc := 41) C (d := 0) (rest := []) ml_CP_97 d_CP_writeNumber_41 hb (by omega) (by omega) (by have := hmn.1; have := hle.1; omega) (by have := hmn.2; have := hle.2; omega) (Nat.le_of_ble_eq_true rfl) (fun w1 hag1 => ?_)
    generalize rAdd σ 301 4 ((48 : Int32) + ((x0 / x1) - (x0 / x1) / 10 * 10)) = σ1 at h hmn hle ⊢
    have hga1 : ∀ i, ([4] : List Nat).elem i = false → w1 i = w0 i := fun i hi => (hag1 i (by revert hi; exact el_sub (by decide))).trans (hga i hi)
    replace hcq : (cells + (σ1.2.2 3001 - σ.2.2 3001)) + σf.2.2 3001 ≤ mc + σ1.2.2 3001 := by have := hmn.1; have := hle.1; omega
    replace hcm : (cells + (σ1.2.2 3001 - σ.2.2 3001)) ≤ mc := by have := hmn.1; have := hle.1; omega
    generalize cells + (σ1.2.2 3001 - σ.2.2 3001) = cells at hcq hcm ⊢
    replace hsq : (slots + (σ1.2.2 3002 - σ.2.2 3002)) + σf.2.2 3002 ≤ ms + σ1.2.2 3002 := by have := hmn.2; have := hle.2; omega
    replace hsm : (slots + (σ1.2.2 3002 - σ.2.2 3002)) ≤ ms := by have := hmn.2; have := hle.2; omega
    generalize slots + (σ1.2.2 3002 - σ.2.2 3002) = slots at hsq hsm ⊢
    refine ax_iload_n (pc := 44) C d_CP_writeNumber_44 rfl 2 rfl ?_
    refine ax_bipush (pc := 45) C 10 d_CP_writeNumber_45 (by decide +kernel) ?_
    replace h := it_n h
    obtain ⟨hz, h⟩ := h
    refine ax_idiv (pc := 47) C d_CP_writeNumber_47 hz ?_
    refine ax_istore_n (pc := 48) C d_CP_writeNumber_48 rfl (Nat.le_of_ble_eq_true rfl) ([(2, .int (x1 / 10)), (0, .ref (u 0)), (1, .int x0)]) rfl ?_
    refine ax_goto (pc := 49) C 24 d_CP_writeNumber_49 (by decide) ?_
    refine ax_ls ([(0, .ref (u 0)), (1, .int x0), (2, .int (x1 / 10))]) [1, 2, 0] rfl ?_
    replace hm : sH_CP_writeNumber_p24 l D kA adK adV u σ1 [x0, (x1 / 10)] (σf, rf, _) := ih tH_CP_writeNumber_p24 _ _ _ h
    exact hm _ _ rfl w1 tx p e s m args below meth c F Lo mc ms cells slots σ0 w0 tx0 hF hLo hcq hsq hga1 C hX
set_option maxHeartbeats 4000000 in
set_option maxRecDepth 100000 in
theorem oH_Sym_isWitness (l : Launch) (D : va_G) (kA : Nat → ClassId) (adK adV : Nat → Nat) (u : Nat → Nat) (rec : mF) (hG : GMh rec) (ih : ∀ t σ xs res, rec t σ xs = some res → hSem l D kA adK adV u t σ xs res) (σ : mS) (xs : List Int32) (res : mR) (h : u_1 (kH_Sym_isWitness rec σ) xs = some res) : sH_Sym_isWitness l D kA adK adV u σ xs res := by
  intro x0 hxs w tx
  subst hxs
  obtain ⟨σf, rf, dd⟩ := res
  have hmn : gle σ σf := qH_Sym_isWitness rec hG σ x0 _ h
  have h : (if x0 ≤ (σ.1 604) then (rec tH_Sym_isWitness_p13 σ [x0, 0]) else (rec tH_Sym_isWitness_p13 σ [x0, 1])) = some (σf, rf, dd) := h
  refine ax_MiY.of (by decide +kernel) (Nat.le_of_ble_eq_true rfl) ?_
  intro p e s m args below meth c C hnm hX
  replace C : ax_C p s m args meth c b_Sym_isWitness "ClauseProver$Symbols" 2 (some .boolean) D kA (va_A (cpW kA u w tx σ) s.heap.size) := C
  obtain ⟨F, hFe⟩ : ∃ z, z = dd + 12 := ⟨_, rfl⟩
  obtain ⟨Lo, hLoe⟩ : ∃ z, z = 48 * dd + 480 := ⟨_, rfl⟩
  obtain ⟨mc, hmce⟩ : ∃ z, z = σf.2.2 3001 - σ.2.2 3001 := ⟨_, rfl⟩
  obtain ⟨ms, hmse⟩ : ∃ z, z = σf.2.2 3002 - σ.2.2 3002 := ⟨_, rfl⟩
  obtain ⟨σ0, hσ0e⟩ : ∃ z, z = σ := ⟨_, rfl⟩
  obtain ⟨w0, hw0e⟩ : ∃ z, z = w := ⟨_, rfl⟩
  obtain ⟨tx0, htx0e⟩ : ∃ z, z = tx := ⟨_, rfl⟩
  suffices K : ∀ (cells slots : Nat), cells = 0 → slots = 0 → AW p l e { frames := F, cells := mc, slots := ms, locals := Lo } s m args below meth c D kA (va_A (cpW kA u w0 tx0 σ0) s.heap.size) 2 (ax_Qi below args s D kA (cpW kA u w0 tx0 σ0) mc ms (fun r w1 => r = rf ∧ ∃ (w2 : Nat → Nat) (tx2 : Value), (∀ i, ([] : List Nat).elem i = false → w2 i = w0 i) ∧ tx2 = tx0 ∧ w1 = cpW kA u w2 tx2 σf)) 0 [(0, .ref (u 6)), (1, .int x0)] [] (cpW kA u w tx σ) cells slots by
    have K := K 0 0 rfl rfl
    rw [hFe, hLoe, hmce, hmse, hσ0e, hw0e, htx0e] at K
    exact ax_ls ([(0, .ref (u 6)), (1, .int x0)]) [0, 1] rfl K
  replace C : ax_C p s m args meth c b_Sym_isWitness "ClauseProver$Symbols" 2 (some .boolean) D kA (va_A (cpW kA u w0 tx0 σ0) s.heap.size) := by rw [hσ0e, hw0e, htx0e]; exact C
  replace hX : SX adK adV (va_A (cpW kA u w0 tx0 σ0) s.heap.size) s s.heap := by rw [hσ0e, hw0e, htx0e]; exact hX
  intro cells slots hc0 hs0
  have hcq : cells + σf.2.2 3001 ≤ mc + σ.2.2 3001 := by have := hmn.1; omega
  have hsq : slots + σf.2.2 3002 ≤ ms + σ.2.2 3002 := by have := hmn.2; omega
  have hga : ∀ i, ([] : List Nat).elem i = false → w i = w0 i := fun i _ => by rw [hw0e]
  have e9 : tx = tx0 := htx0e.symm
  subst e9
  have hF : dd + 12 ≤ F := by omega
  have hLo : 48 * dd + 480 ≤ Lo := by omega
  have hcm : cells ≤ mc := by have := hmn.1; omega
  have hsm : slots ≤ ms := by have := hmn.2; omega
  have hle : True := trivial
  have hm : True := trivial
  refine ax_iload_n (pc := 0) C d_Sym_isWitness_0 rfl 1 rfl ?_
  refine ax_aload_n (pc := 1) C d_Sym_isWitness_1 rfl 0 rfl ?_
  refine cg_6_4_Sym_40 (pc := 2) C d_Sym_isWitness_2 ?_
  refine ax_icmp_le (pc := 5) C 12 d_Sym_isWitness_5 (by decide) (fun hc => ?_) (fun hc => ?_)
  · replace h := it_t hc h
    refine ax_iconst (pc := 12) C 0 d_Sym_isWitness_12 (by decide +kernel) ?_
    refine ax_ls ([(0, .ref (u 6)), (1, .int x0)]) [0, 1] rfl ?_
    replace hm : sH_Sym_isWitness_p13 l D kA adK adV u σ [x0, 0] (σf, rf, _) := ih tH_Sym_isWitness_p13 _ _ _ h
    exact hm _ _ rfl w tx p e s m args below meth c F Lo mc ms cells slots σ0 w0 tx hF hLo hcq hsq hga C hX
  · replace h := it_f hc h
    refine ax_iconst (pc := 8) C 1 d_Sym_isWitness_8 (by decide +kernel) ?_
    refine ax_goto (pc := 9) C 13 d_Sym_isWitness_9 (by decide) ?_
    refine ax_ls ([(0, .ref (u 6)), (1, .int x0)]) [0, 1] rfl ?_
    replace hm : sH_Sym_isWitness_p13 l D kA adK adV u σ [x0, 1] (σf, rf, _) := ih tH_Sym_isWitness_p13 _ _ _ h
    exact hm _ _ rfl w tx p e s m args below meth c F Lo mc ms cells slots σ0 w0 tx hF hLo hcq hsq hga C hX
set_option maxHeartbeats 4000000 in
set_option maxRecDepth 100000 in
theorem oH_Sym_isWitness_p13 (l : Launch) (D : va_G) (kA : Nat → ClassId) (adK adV : Nat → Nat) (u : Nat → Nat) (rec : mF) (hG : GMh rec) (ih : ∀ t σ xs res, rec t σ xs = some res → hSem l D kA adK adV u t σ xs res) (σ : mS) (xs : List Int32) (res : mR) (h : u_2 (kH_Sym_isWitness_p13 rec σ) xs = some res) : sH_Sym_isWitness_p13 l D kA adK adV u σ xs res := by
  intro x0 x1 hxs w tx
  subst hxs
  obtain ⟨σf, rf, dd⟩ := res
  have hmn : gle σ σf := qH_Sym_isWitness_p13 rec hG σ x0 x1 _ h
  have h : (if x1 = 0 ∨ x1 = 1 then some (σ, x1, 0) else none) = some (σf, rf, dd) := h
  intro p e s m args below meth c F Lo mc ms cells slots σ0 w0 tx0 hF hLo hcq hsq hga C hX
  dsimp only at hF hLo hcq hsq ⊢
  have hcm : cells ≤ mc := by have := hmn.1; omega
  have hsm : slots ≤ ms := by have := hmn.2; omega
  have hle : True := trivial
  have hm : True := trivial
  replace h := it_g h
  obtain ⟨hb, h⟩ := h
  cases h
  exact ax_zret (pc := 13) C d_Sym_isWitness_13 (nb01 hb) ⟨rfl, w, tx, hga, rfl, rfl⟩ hcm hsm
set_option maxHeartbeats 4000000 in
set_option maxRecDepth 100000 in
theorem oH_CP_writeWord (l : Launch) (D : va_G) (kA : Nat → ClassId) (adK adV : Nat → Nat) (u : Nat → Nat) (rec : mF) (hG : GMh rec) (ih : ∀ t σ xs res, rec t σ xs = some res → hSem l D kA adK adV u t σ xs res) (σ : mS) (xs : List Int32) (res : mR) (h : u_1 (kH_CP_writeWord rec σ) xs = some res) : sH_CP_writeWord l D kA adK adV u σ xs res := by
  intro x0 hxs w tx
  subst hxs
  obtain ⟨σf, rf, dd⟩ := res
  have hmn : gle σ σf := qH_CP_writeWord rec hG σ x0 _ h
  have h : (if 0 ≤ x0 then (bnd (rec tH_Sym_isWitness σ [x0]) (fun σ1 r1 => if r1 = 0 then (if x0 = 0 then (rec tH_CP_writeWord_p109 σ1 [x0]) else (rec tH_CP_writeWord_p61 σ1 [x0, 0])) else (if rok σ1 301 4 = true then (lt_ (rAdd σ1 301 4 119) (fun σ2 => bnd (rec tH_CP_writeNumber σ2 [((((x0 : Int32) - (σ2.1 604)) : Int32) - 1)]) (fun σ3 r3 => rec tH_CP_writeWord_p109 σ3 [x0]))) else none))) else (if rok σ 301 4 = true then (lt_ (rAdd σ 301 4 88) (fun σ4 => bnd (rec tH_CP_writeNumber σ4 [((x0 : Int32) ^^^ (-1))]) (fun σ5 r5 => rec tH_CP_writeWord_p109 σ5 [x0]))) else none)) = some (σf, rf, dd) := h
  refine ax_MvY.of (by decide +kernel) (Nat.le_of_ble_eq_true rfl) ?_
  intro p e s m args below meth c C hnm hX
  replace C : ax_C p s m args meth c b_CP_writeWord "ClauseProver" 3 none D kA (va_A (cpW kA u w tx σ) s.heap.size) := C
  obtain ⟨F, hFe⟩ : ∃ z, z = dd + 12 := ⟨_, rfl⟩
  obtain ⟨Lo, hLoe⟩ : ∃ z, z = 48 * dd + 480 := ⟨_, rfl⟩
  obtain ⟨mc, hmce⟩ : ∃ z, z = σf.2.2 3001 - σ.2.2 3001 := ⟨_, rfl⟩
  obtain ⟨ms, hmse⟩ : ∃ z, z = σf.2.2 3002 - σ.2.2 3002 := ⟨_, rfl⟩
  obtain ⟨σ0, hσ0e⟩ : ∃ z, z = σ := ⟨_, rfl⟩
  obtain ⟨w0, hw0e⟩ : ∃ z, z = w := ⟨_, rfl⟩
  obtain ⟨tx0, htx0e⟩ : ∃ z, z = tx := ⟨_, rfl⟩
  suffices K : ∀ (cells slots : Nat), cells = 0 → slots = 0 → AW p l e { frames := F, cells := mc, slots := ms, locals := Lo } s m args below meth c D kA (va_A (cpW kA u w0 tx0 σ0) s.heap.size) 3 (ax_Qv below args s D kA (cpW kA u w0 tx0 σ0) mc ms (fun w1 => ∃ (w2 : Nat → Nat) (tx2 : Value), (∀ i, ([4] : List Nat).elem i = false → w2 i = w0 i) ∧ tx2 = tx0 ∧ w1 = cpW kA u w2 tx2 σf)) 0 [(0, .ref (u 0)), (1, .int x0)] [] (cpW kA u w tx σ) cells slots by
    have K := K 0 0 rfl rfl
    rw [hFe, hLoe, hmce, hmse, hσ0e, hw0e, htx0e] at K
    exact ax_ls ([(0, .ref (u 0)), (1, .int x0)]) [0, 1] rfl K
  replace C : ax_C p s m args meth c b_CP_writeWord "ClauseProver" 3 none D kA (va_A (cpW kA u w0 tx0 σ0) s.heap.size) := by rw [hσ0e, hw0e, htx0e]; exact C
  replace hX : SX adK adV (va_A (cpW kA u w0 tx0 σ0) s.heap.size) s s.heap := by rw [hσ0e, hw0e, htx0e]; exact hX
  intro cells slots hc0 hs0
  have hcq : cells + σf.2.2 3001 ≤ mc + σ.2.2 3001 := by have := hmn.1; omega
  have hsq : slots + σf.2.2 3002 ≤ ms + σ.2.2 3002 := by have := hmn.2; omega
  have hga : ∀ i, ([4] : List Nat).elem i = false → w i = w0 i := fun i _ => by rw [hw0e]
  have e9 : tx = tx0 := htx0e.symm
  subst e9
  have hF : dd + 12 ≤ F := by omega
  have hLo : 48 * dd + 480 ≤ Lo := by omega
  have hcm : cells ≤ mc := by have := hmn.1; omega
  have hsm : slots ≤ ms := by have := hmn.2; omega
  have hle : True := trivial
  have hm : True := trivial
  refine ax_iload_n (pc := 0) C d_CP_writeWord_0 rfl 1 rfl ?_
  refine ax_if_ge (pc := 1) C 20 d_CP_writeWord_1 (by decide) (fun hc => ?_) (fun hc => ?_)
  · replace h := it_t hc h
    refine ax_aload_n (pc := 20) C d_CP_writeWord_20 rfl 0 rfl ?_
    refine cg_0_3_CP_28 (pc := 21) C d_CP_writeWord_21 ?_
    refine ax_iload_n (pc := 24) C d_CP_writeWord_24 rfl 1 rfl ?_
    replace h := it_b h
    obtain ⟨σ1, r1, d1_1, d2_1, h1, h, hd2, hd1⟩ := h
    replace hle := hG _ _ _ _ h1
    dsimp only at hle
    replace hmn : gle σ1 σf := gm_use h (gm_if (gm_if (gh_tail hG) (gh_tail hG)) (gm_if (gm_lt (rAdd_le _ _ _ _) (gh_bnd hG (fun _ _ => (gh_tail hG)))) gm_none))
    replace hm : sH_Sym_isWitness l D kA adK adV u σ [x0] (σ1, r1, d1_1) := ih tH_Sym_isWitness _ _ _ h1
    refine gh_Vi (pc := 25) C hX (As := [.int x0]) (rest := []) (hm _ rfl w tx) ml_CP_227 6 rfl rfl rfl d_CP_writeWord_25 rfl rfl (by dsimp only; omega) (by dsimp only; omega) (by have := hmn.1; have := hle.1; dsimp only; omega) (by have := hmn.2; have := hle.2; dsimp only; omega) (Nat.le_of_ble_eq_true rfl) (fun r9 w1 hw => ?_)
    obtain ⟨hrq1, w1, tx1, hag1, htq1, hwq1⟩ := hw
    dsimp only at hwq1 hrq1
    subst hwq1
    replace hrq1 := hrq1.symm
    subst hrq1
    dsimp only
    replace htq1 := htq1.symm
    subst htq1
    have hga1 : ∀ i, ([4] : List Nat).elem i = false → w1 i = w0 i := fun i hi => (hag1 i (by revert hi; exact el_sub (by decide))).trans (hga i hi)
    replace hcq : (cells + (σ1.2.2 3001 - σ.2.2 3001)) + σf.2.2 3001 ≤ mc + σ1.2.2 3001 := by have := hmn.1; have := hle.1; omega
    replace hcm : (cells + (σ1.2.2 3001 - σ.2.2 3001)) ≤ mc := by have := hmn.1; have := hle.1; omega
    generalize cells + (σ1.2.2 3001 - σ.2.2 3001) = cells at hcq hcm ⊢
    replace hsq : (slots + (σ1.2.2 3002 - σ.2.2 3002)) + σf.2.2 3002 ≤ ms + σ1.2.2 3002 := by have := hmn.2; have := hle.2; omega
    replace hsm : (slots + (σ1.2.2 3002 - σ.2.2 3002)) ≤ ms := by have := hmn.2; have := hle.2; omega
    generalize slots + (σ1.2.2 3002 - σ.2.2 3002) = slots at hsq hsm ⊢
    replace hF : d2_1 + 12 ≤ F := by omega
    replace hLo : 48 * d2_1 + 480 ≤ Lo := by omega
    refine ax_if_eq (pc := 28) C 55 d_CP_writeWord_28 (by decide) (fun hc => ?_) (fun hc => ?_)
    · replace h := it_t hc h
      refine ax_iload_n (pc := 55) C d_CP_writeWord_55 rfl 1 rfl ?_
      refine ax_if_eq (pc := 56) C 109 d_CP_writeWord_56 (by decide) (fun hc => ?_) (fun hc => ?_)
      · replace h := it_t hc h
        refine ax_ls ([(0, .ref (u 0)), (1, .int x0)]) [0, 1] rfl ?_
        replace hm : sH_CP_writeWord_p109 l D kA adK adV u σ1 [x0] (σf, rf, _) := ih tH_CP_writeWord_p109 _ _ _ h
        exact hm _ rfl w1 tx p e s m args below meth c F Lo mc ms cells slots σ0 w0 tx hF hLo hcq hsq hga1 C hX
      · replace h := it_f hc h
        refine ax_iconst (pc := 59) C 0 d_CP_writeWord_59 (by decide +kernel) ?_
        refine ax_istore_n (pc := 60) C d_CP_writeWord_60 rfl (Nat.le_of_ble_eq_true rfl) ([(2, .int 0), (0, .ref (u 0)), (1, .int x0)]) rfl ?_
        refine ax_ls ([(0, .ref (u 0)), (1, .int x0), (2, .int 0)]) [1, 2, 0] rfl ?_
        replace hm : sH_CP_writeWord_p61 l D kA adK adV u σ1 [x0, 0] (σf, rf, _) := ih tH_CP_writeWord_p61 _ _ _ h
        exact hm _ _ rfl w1 tx p e s m args below meth c F Lo mc ms cells slots σ0 w0 tx hF hLo hcq hsq hga1 C hX
    · replace h := it_f hc h
      refine ax_aload_n (pc := 31) C d_CP_writeWord_31 rfl 0 rfl ?_
      refine ax_ldcS (pc := 32) C hX rfl (i := 10) (by decide) rfl d_CP_writeWord_32 ?_
      replace h := it_g h
      obtain ⟨hb2, h⟩ := h
      replace h := it_l h
      have ht2 : tkL σ1 (stB.getD 10 []) = true := (show tkL σ1 [119] = true from (tkL_c hb2 rfl))
      have hmt2 : mTx σ1 (stB.getD 10 []) = (rAdd σ1 301 4 119) := rfl
      have hM2 := c_wtext l D kA (adK := adK) (adV := adV) (u := u) (w := w1) (tx := tx) (i := 10) (by decide) ht2
      rw [hmt2] at hM2
      replace hle := mTx_le (stB.getD 10 []) σ1
      rw [hmt2] at hle
      replace hmn : gle (rAdd σ1 301 4 119) σf := gm_use h (gh_bnd hG (fun _ _ => (gh_tail hG)))
      clear ht2 hmt2
      refine gh_Vv (pc := 34) C hX (As := [.ref (adK 10)]) (rest := []) hM2 ml_CP_183 0 rfl rfl rfl d_CP_writeWord_34 rfl rfl (by dsimp only; omega) (by dsimp only; omega) (by have := hmn.1; have := hle.1; dsimp only; omega) (by have := hmn.2; have := hle.2; dsimp only; omega) (Nat.le_of_ble_eq_true rfl) (fun w1 hw => ?_)
      obtain ⟨w2, hag2, hwq2⟩ := hw
      subst hwq2
      clear hM2
      generalize (rAdd σ1 301 4 119) = σ2 at h hmn hle ⊢
      have hga2 : ∀ i, ([4] : List Nat).elem i = false → w2 i = w0 i := fun i hi => (hag2 i (by revert hi; exact el_sub (by decide))).trans (hga1 i hi)
      replace hcq : (cells + (σ2.2.2 3001 - σ1.2.2 3001)) + σf.2.2 3001 ≤ mc + σ2.2.2 3001 := by have := hmn.1; have := hle.1; omega
      replace hcm : (cells + (σ2.2.2 3001 - σ1.2.2 3001)) ≤ mc := by have := hmn.1; have := hle.1; omega
      generalize cells + (σ2.2.2 3001 - σ1.2.2 3001) = cells at hcq hcm ⊢
      replace hsq : (slots + (σ2.2.2 3002 - σ1.2.2 3002)) + σf.2.2 3002 ≤ ms + σ2.2.2 3002 := by have := hmn.2; have := hle.2; omega
      replace hsm : (slots + (σ2.2.2 3002 - σ1.2.2 3002)) ≤ ms := by have := hmn.2; have := hle.2; omega
      generalize slots + (σ2.2.2 3002 - σ1.2.2 3002) = slots at hsq hsm ⊢
      refine ax_aload_n (pc := 37) C d_CP_writeWord_37 rfl 0 rfl ?_
      refine ax_iload_n (pc := 38) C d_CP_writeWord_38 rfl 1 rfl ?_
      refine ax_aload_n (pc := 39) C d_CP_writeWord_39 rfl 0 rfl ?_
      refine cg_0_3_CP_28 (pc := 40) C d_CP_writeWord_40 ?_
      refine cg_6_4_CP_232 (pc := 43) C d_CP_writeWord_43 ?_
      refine ax_isub (pc := 46) C d_CP_writeWord_46 ?_
      refine ax_iconst (pc := 47) C 1 d_CP_writeWord_47 (by decide +kernel) ?_
      refine ax_isub (pc := 48) C d_CP_writeWord_48 ?_
      replace h := it_b h
      obtain ⟨σ3, r3, d1_3, d2_3, h1, h, hd2, hd1⟩ := h
      replace hle := hG _ _ _ _ h1
      dsimp only at hle
      replace hmn : gle σ3 σf := gm_use h (gh_tail hG)
      replace hm : sH_CP_writeNumber l D kA adK adV u σ2 [((((x0 : Int32) - (σ2.1 604)) : Int32) - 1)] (σ3, r3, d1_3) := ih tH_CP_writeNumber _ _ _ h1
      refine gh_Vv (pc := 49) C hX (As := [.int ((((x0 : Int32) - (σ2.1 604)) : Int32) - 1)]) (rest := []) (hm _ rfl w2 tx) ml_CP_224 0 rfl rfl rfl d_CP_writeWord_49 rfl rfl (by dsimp only; omega) (by dsimp only; omega) (by have := hmn.1; have := hle.1; dsimp only; omega) (by have := hmn.2; have := hle.2; dsimp only; omega) (Nat.le_of_ble_eq_true rfl) (fun w1 hw => ?_)
      obtain ⟨w3, tx3, hag3, htq3, hwq3⟩ := hw
      dsimp only at hwq3
      subst hwq3
      dsimp only
      replace htq3 := htq3.symm
      subst htq3
      have hga3 : ∀ i, ([4] : List Nat).elem i = false → w3 i = w0 i := fun i hi => (hag3 i (by revert hi; exact el_sub (by decide))).trans (hga2 i hi)
      replace hcq : (cells + (σ3.2.2 3001 - σ2.2.2 3001)) + σf.2.2 3001 ≤ mc + σ3.2.2 3001 := by have := hmn.1; have := hle.1; omega
      replace hcm : (cells + (σ3.2.2 3001 - σ2.2.2 3001)) ≤ mc := by have := hmn.1; have := hle.1; omega
      generalize cells + (σ3.2.2 3001 - σ2.2.2 3001) = cells at hcq hcm ⊢
      replace hsq : (slots + (σ3.2.2 3002 - σ2.2.2 3002)) + σf.2.2 3002 ≤ ms + σ3.2.2 3002 := by have := hmn.2; have := hle.2; omega
      replace hsm : (slots + (σ3.2.2 3002 - σ2.2.2 3002)) ≤ ms := by have := hmn.2; have := hle.2; omega
      generalize slots + (σ3.2.2 3002 - σ2.2.2 3002) = slots at hsq hsm ⊢
      replace hF : d2_3 + 12 ≤ F := by omega
      replace hLo : 48 * d2_3 + 480 ≤ Lo := by omega
      refine ax_goto (pc := 52) C 109 d_CP_writeWord_52 (by decide) ?_
      refine ax_ls ([(0, .ref (u 0)), (1, .int x0)]) [0, 1] rfl ?_
      replace hm : sH_CP_writeWord_p109 l D kA adK adV u σ3 [x0] (σf, rf, _) := ih tH_CP_writeWord_p109 _ _ _ h
      exact hm _ rfl w3 tx p e s m args below meth c F Lo mc ms cells slots σ0 w0 tx hF hLo hcq hsq hga3 C hX
  · replace h := it_f hc h
    refine ax_aload_n (pc := 4) C d_CP_writeWord_4 rfl 0 rfl ?_
    refine ax_ldcS (pc := 5) C hX rfl (i := 9) (by decide) rfl d_CP_writeWord_5 ?_
    replace h := it_g h
    obtain ⟨hb4, h⟩ := h
    replace h := it_l h
    have ht4 : tkL σ (stB.getD 9 []) = true := (show tkL σ [88] = true from (tkL_c hb4 rfl))
    have hmt4 : mTx σ (stB.getD 9 []) = (rAdd σ 301 4 88) := rfl
    have hM4 := c_wtext l D kA (adK := adK) (adV := adV) (u := u) (w := w) (tx := tx) (i := 9) (by decide) ht4
    rw [hmt4] at hM4
    replace hle := mTx_le (stB.getD 9 []) σ
    rw [hmt4] at hle
    replace hmn : gle (rAdd σ 301 4 88) σf := gm_use h (gh_bnd hG (fun _ _ => (gh_tail hG)))
    clear ht4 hmt4
    refine gh_Vv (pc := 7) C hX (As := [.ref (adK 9)]) (rest := []) hM4 ml_CP_183 0 rfl rfl rfl d_CP_writeWord_7 rfl rfl (by dsimp only; omega) (by dsimp only; omega) (by have := hmn.1; have := hle.1; dsimp only; omega) (by have := hmn.2; have := hle.2; dsimp only; omega) (Nat.le_of_ble_eq_true rfl) (fun w1 hw => ?_)
    obtain ⟨w4, hag4, hwq4⟩ := hw
    subst hwq4
    clear hM4
    generalize (rAdd σ 301 4 88) = σ4 at h hmn hle ⊢
    have hga4 : ∀ i, ([4] : List Nat).elem i = false → w4 i = w0 i := fun i hi => (hag4 i (by revert hi; exact el_sub (by decide))).trans (hga i hi)
    replace hcq : (cells + (σ4.2.2 3001 - σ.2.2 3001)) + σf.2.2 3001 ≤ mc + σ4.2.2 3001 := by have := hmn.1; have := hle.1; omega
    replace hcm : (cells + (σ4.2.2 3001 - σ.2.2 3001)) ≤ mc := by have := hmn.1; have := hle.1; omega
    generalize cells + (σ4.2.2 3001 - σ.2.2 3001) = cells at hcq hcm ⊢
    replace hsq : (slots + (σ4.2.2 3002 - σ.2.2 3002)) + σf.2.2 3002 ≤ ms + σ4.2.2 3002 := by have := hmn.2; have := hle.2; omega
    replace hsm : (slots + (σ4.2.2 3002 - σ.2.2 3002)) ≤ ms := by have := hmn.2; have := hle.2; omega
    generalize slots + (σ4.2.2 3002 - σ.2.2 3002) = slots at hsq hsm ⊢
    refine ax_aload_n (pc := 10) C d_CP_writeWord_10 rfl 0 rfl ?_
    refine ax_iload_n (pc := 11) C d_CP_writeWord_11 rfl 1 rfl ?_
    refine ax_iconst (pc := 12) C (-1) d_CP_writeWord_12 (by decide +kernel) ?_
    refine ax_ixor (pc := 13) C d_CP_writeWord_13 ?_
    replace h := it_b h
    obtain ⟨σ5, r5, d1_5, d2_5, h1, h, hd2, hd1⟩ := h
    replace hle := hG _ _ _ _ h1
    dsimp only at hle
    replace hmn : gle σ5 σf := gm_use h (gh_tail hG)
    replace hm : sH_CP_writeNumber l D kA adK adV u σ4 [((x0 : Int32) ^^^ (-1))] (σ5, r5, d1_5) := ih tH_CP_writeNumber _ _ _ h1
    refine gh_Vv (pc := 14) C hX (As := [.int ((x0 : Int32) ^^^ (-1))]) (rest := []) (hm _ rfl w4 tx) ml_CP_224 0 rfl rfl rfl d_CP_writeWord_14 rfl rfl (by dsimp only; omega) (by dsimp only; omega) (by have := hmn.1; have := hle.1; dsimp only; omega) (by have := hmn.2; have := hle.2; dsimp only; omega) (Nat.le_of_ble_eq_true rfl) (fun w1 hw => ?_)
    obtain ⟨w5, tx5, hag5, htq5, hwq5⟩ := hw
    dsimp only at hwq5
    subst hwq5
    dsimp only
    replace htq5 := htq5.symm
    subst htq5
    have hga5 : ∀ i, ([4] : List Nat).elem i = false → w5 i = w0 i := fun i hi => (hag5 i (by revert hi; exact el_sub (by decide))).trans (hga4 i hi)
    replace hcq : (cells + (σ5.2.2 3001 - σ4.2.2 3001)) + σf.2.2 3001 ≤ mc + σ5.2.2 3001 := by have := hmn.1; have := hle.1; omega
    replace hcm : (cells + (σ5.2.2 3001 - σ4.2.2 3001)) ≤ mc := by have := hmn.1; have := hle.1; omega
    generalize cells + (σ5.2.2 3001 - σ4.2.2 3001) = cells at hcq hcm ⊢
    replace hsq : (slots + (σ5.2.2 3002 - σ4.2.2 3002)) + σf.2.2 3002 ≤ ms + σ5.2.2 3002 := by have := hmn.2; have := hle.2; omega
    replace hsm : (slots + (σ5.2.2 3002 - σ4.2.2 3002)) ≤ ms := by have := hmn.2; have := hle.2; omega
    generalize slots + (σ5.2.2 3002 - σ4.2.2 3002) = slots at hsq hsm ⊢
    replace hF : d2_5 + 12 ≤ F := by omega
    replace hLo : 48 * d2_5 + 480 ≤ Lo := by omega
    refine ax_goto (pc := 17) C 109 d_CP_writeWord_17 (by decide) ?_
    refine ax_ls ([(0, .ref (u 0)), (1, .int x0)]) [0, 1] rfl ?_
    replace hm : sH_CP_writeWord_p109 l D kA adK adV u σ5 [x0] (σf, rf, _) := ih tH_CP_writeWord_p109 _ _ _ h
    exact hm _ rfl w5 tx p e s m args below meth c F Lo mc ms cells slots σ0 w0 tx hF hLo hcq hsq hga5 C hX
set_option maxHeartbeats 4000000 in
set_option maxRecDepth 100000 in
theorem oH_CP_writeWord_p61 (l : Launch) (D : va_G) (kA : Nat → ClassId) (adK adV : Nat → Nat) (u : Nat → Nat) (rec : mF) (hG : GMh rec) (ih : ∀ t σ xs res, rec t σ xs = some res → hSem l D kA adK adV u t σ xs res) (σ : mS) (xs : List Int32) (res : mR) (h : u_2 (kH_CP_writeWord_p61 rec σ) xs = some res) : sH_CP_writeWord_p61 l D kA adK adV u σ xs res := by
  intro x0 x1 hxs w tx
  subst hxs
  obtain ⟨σf, rf, dd⟩ := res
  have hmn : gle σ σf := qH_CP_writeWord_p61 rec hG σ x0 x1 _ h
  have h : (if bin x0 251 = true then (if (σ.2.1 9 (Int32.toNatClampNeg x0)) ≤ x1 then (rec tH_CP_writeWord_p109 σ [x0]) else (if bin x0 251 = true then (if bin (((σ.2.1 8 (Int32.toNatClampNeg x0)) : Int32) + x1) (σ.2.2 11) = true then (if rok σ 301 4 = true then (lt_ (rAdd σ 301 4 (σ.2.1 11 (Int32.toNatClampNeg (((σ.2.1 8 (Int32.toNatClampNeg x0)) : Int32) + x1)))) (fun σ1 => rec tH_CP_writeWord_p61 σ1 [x0, (x1 + 1)])) else none) else none) else none)) else none) = some (σf, rf, dd) := h
  intro p e s m args below meth c F Lo mc ms cells slots σ0 w0 tx0 hF hLo hcq hsq hga C hX
  dsimp only at hF hLo hcq hsq ⊢
  have hcm : cells ≤ mc := by have := hmn.1; omega
  have hsm : slots ≤ ms := by have := hmn.2; omega
  have hle : True := trivial
  have hm : True := trivial
  refine ax_iload_n (pc := 61) C d_CP_writeWord_61 rfl 2 rfl ?_
  refine ax_aload_n (pc := 62) C d_CP_writeWord_62 rfl 0 rfl ?_
  refine cg_0_3_CP_28 (pc := 63) C d_CP_writeWord_63 ?_
  refine cg_6_2_CP_235 (pc := 66) C d_CP_writeWord_66 ?_
  refine ax_iload_n (pc := 69) C d_CP_writeWord_69 rfl 1 rfl ?_
  replace h := it_g h
  obtain ⟨hb, h⟩ := h
  refine cl_9 (pc := 70) C d_CP_writeWord_70 (bin_in hb) ?_
  refine ax_icmp_ge (pc := 71) C 109 d_CP_writeWord_71 (by decide) (fun hc => ?_) (fun hc => ?_)
  · replace h := it_t hc h
    refine ax_ls ([(0, .ref (u 0)), (1, .int x0)]) [0, 1] rfl ?_
    replace hm : sH_CP_writeWord_p109 l D kA adK adV u σ [x0] (σf, rf, _) := ih tH_CP_writeWord_p109 _ _ _ h
    exact hm _ rfl w tx p e s m args below meth c F Lo mc ms cells slots σ0 w0 tx0 hF hLo hcq hsq hga C hX
  · replace h := it_f hc h
    refine ax_aload_n (pc := 74) C d_CP_writeWord_74 rfl 0 rfl ?_
    refine cg_0_1_CP_18 (pc := 75) C d_CP_writeWord_75 ?_
    refine ax_aload_n (pc := 78) C d_CP_writeWord_78 rfl 0 rfl ?_
    refine cg_0_3_CP_28 (pc := 79) C d_CP_writeWord_79 ?_
    refine cg_6_3_CP_238 (pc := 82) C d_CP_writeWord_82 ?_
    refine cg_10_0_CP_110 (pc := 85) C d_CP_writeWord_85 ?_
    refine ax_aload_n (pc := 88) C d_CP_writeWord_88 rfl 0 rfl ?_
    refine cg_0_3_CP_28 (pc := 89) C d_CP_writeWord_89 ?_
    refine cg_6_1_CP_241 (pc := 92) C d_CP_writeWord_92 ?_
    refine ax_iload_n (pc := 95) C d_CP_writeWord_95 rfl 1 rfl ?_
    replace h := it_g h
    obtain ⟨hb, h⟩ := h
    refine cl_8 (pc := 96) C d_CP_writeWord_96 (bin_in hb) ?_
    refine ax_iload_n (pc := 97) C d_CP_writeWord_97 rfl 2 rfl ?_
    refine ax_iadd (pc := 98) C d_CP_writeWord_98 ?_
    replace h := it_g h
    obtain ⟨hb, h⟩ := h
    refine cl_11 (pc := 99) C d_CP_writeWord_99 (bin_in hb) ?_
    replace h := it_g h
    obtain ⟨hb, h⟩ := h
    replace h := it_l h
    replace hle := rAdd_le σ 301 4 (σ.2.1 11 (Int32.toNatClampNeg (((σ.2.1 8 (Int32.toNatClampNeg x0)) : Int32) + x1)))
    replace hmn : gle (rAdd σ 301 4 (σ.2.1 11 (Int32.toNatClampNeg (((σ.2.1 8 (Int32.toNatClampNeg x0)) : Int32) + x1)))) σf := gm_use h (gh_tail hG)
    refine ca_3 (pc := 100) C (d := 0) (rest := []) ml_CP_97 d_CP_writeWord_100 hb (by omega) (by omega) (by have := hmn.1; have := hle.1; omega) (by have := hmn.2; have := hle.2; omega) (Nat.le_of_ble_eq_true rfl) (fun w1 hag1 => ?_)
    generalize rAdd σ 301 4 (σ.2.1 11 (Int32.toNatClampNeg (((σ.2.1 8 (Int32.toNatClampNeg x0)) : Int32) + x1))) = σ1 at h hmn hle ⊢
    have hga1 : ∀ i, ([4] : List Nat).elem i = false → w1 i = w0 i := fun i hi => (hag1 i (by revert hi; exact el_sub (by decide))).trans (hga i hi)
    replace hcq : (cells + (σ1.2.2 3001 - σ.2.2 3001)) + σf.2.2 3001 ≤ mc + σ1.2.2 3001 := by have := hmn.1; have := hle.1; omega
    replace hcm : (cells + (σ1.2.2 3001 - σ.2.2 3001)) ≤ mc := by have := hmn.1; have := hle.1; omega
    generalize cells + (σ1.2.2 3001 - σ.2.2 3001) = cells at hcq hcm ⊢
    replace hsq : (slots + (σ1.2.2 3002 - σ.2.2 3002)) + σf.2.2 3002 ≤ ms + σ1.2.2 3002 := by have := hmn.2; have := hle.2; omega
    replace hsm : (slots + (σ1.2.2 3002 - σ.2.2 3002)) ≤ ms := by have := hmn.2; have := hle.2; omega
    generalize slots + (σ1.2.2 3002 - σ.2.2 3002) = slots at hsq hsm ⊢
    refine ax_iinc (pc := 103) C (x1 + 1) d_CP_writeWord_103 2 rfl rfl (Nat.le_of_ble_eq_true rfl) ([(2, .int (x1 + 1)), (0, .ref (u 0)), (1, .int x0)]) rfl ?_
    refine ax_goto (pc := 106) C 61 d_CP_writeWord_106 (by decide) ?_
    refine ax_ls ([(0, .ref (u 0)), (1, .int x0), (2, .int (x1 + 1))]) [1, 2, 0] rfl ?_
    replace hm : sH_CP_writeWord_p61 l D kA adK adV u σ1 [x0, (x1 + 1)] (σf, rf, _) := ih tH_CP_writeWord_p61 _ _ _ h
    exact hm _ _ rfl w1 tx p e s m args below meth c F Lo mc ms cells slots σ0 w0 tx0 hF hLo hcq hsq hga1 C hX
set_option maxHeartbeats 4000000 in
set_option maxRecDepth 100000 in
theorem oH_CP_writeWord_p109 (l : Launch) (D : va_G) (kA : Nat → ClassId) (adK adV : Nat → Nat) (u : Nat → Nat) (rec : mF) (hG : GMh rec) (ih : ∀ t σ xs res, rec t σ xs = some res → hSem l D kA adK adV u t σ xs res) (σ : mS) (xs : List Int32) (res : mR) (h : u_1 (kH_CP_writeWord_p109 rec σ) xs = some res) : sH_CP_writeWord_p109 l D kA adK adV u σ xs res := by
  intro x0 hxs w tx
  subst hxs
  obtain ⟨σf, rf, dd⟩ := res
  have hmn : gle σ σf := qH_CP_writeWord_p109 rec hG σ x0 _ h
  have h : (some (σ, 0, 0)) = some (σf, rf, dd) := h
  intro p e s m args below meth c F Lo mc ms cells slots σ0 w0 tx0 hF hLo hcq hsq hga C hX
  dsimp only at hF hLo hcq hsq ⊢
  have hcm : cells ≤ mc := by have := hmn.1; omega
  have hsm : slots ≤ ms := by have := hmn.2; omega
  have hle : True := trivial
  have hm : True := trivial
  cases h
  exact ax_vret (pc := 109) C d_CP_writeWord_109 ⟨w, tx, hga, rfl, rfl⟩ hcm hsm
set_option maxHeartbeats 4000000 in
set_option maxRecDepth 100000 in
theorem oH_CP_writeTerm (l : Launch) (D : va_G) (kA : Nat → ClassId) (adK adV : Nat → Nat) (u : Nat → Nat) (rec : mF) (hG : GMh rec) (ih : ∀ t σ xs res, rec t σ xs = some res → hSem l D kA adK adV u t σ xs res) (σ : mS) (xs : List Int32) (res : mR) (h : u_2 (kH_CP_writeTerm rec σ) xs = some res) : sH_CP_writeTerm l D kA adK adV u σ xs res := by
  intro x0 x1 hxs w tx
  subst hxs
  obtain ⟨σf, rf, dd⟩ := res
  have hmn : gle σ σf := qH_CP_writeTerm rec hG σ x0 x1 _ h
  have h : (rec tH_CP_writeTerm_p5 σ [x0, x1, 0, x0]) = some (σf, rf, dd) := h
  refine ax_MvY.of (by decide +kernel) (Nat.le_of_ble_eq_true rfl) ?_
  intro p e s m args below meth c C hnm hX
  replace C : ax_C p s m args meth c b_CP_writeTerm "ClauseProver" 7 none D kA (va_A (cpW kA u w tx σ) s.heap.size) := C
  obtain ⟨F, hFe⟩ : ∃ z, z = dd + 12 := ⟨_, rfl⟩
  obtain ⟨Lo, hLoe⟩ : ∃ z, z = 48 * dd + 480 := ⟨_, rfl⟩
  obtain ⟨mc, hmce⟩ : ∃ z, z = σf.2.2 3001 - σ.2.2 3001 := ⟨_, rfl⟩
  obtain ⟨ms, hmse⟩ : ∃ z, z = σf.2.2 3002 - σ.2.2 3002 := ⟨_, rfl⟩
  obtain ⟨σ0, hσ0e⟩ : ∃ z, z = σ := ⟨_, rfl⟩
  obtain ⟨w0, hw0e⟩ : ∃ z, z = w := ⟨_, rfl⟩
  obtain ⟨tx0, htx0e⟩ : ∃ z, z = tx := ⟨_, rfl⟩
  suffices K : ∀ (cells slots : Nat), cells = 0 → slots = 0 → AW p l e { frames := F, cells := mc, slots := ms, locals := Lo } s m args below meth c D kA (va_A (cpW kA u w0 tx0 σ0) s.heap.size) 7 (ax_Qv below args s D kA (cpW kA u w0 tx0 σ0) mc ms (fun w1 => ∃ (w2 : Nat → Nat) (tx2 : Value), (∀ i, ([4] : List Nat).elem i = false → w2 i = w0 i) ∧ tx2 = tx0 ∧ w1 = cpW kA u w2 tx2 σf)) 0 [(0, .ref (u 0)), (1, .int x0), (2, .int x1)] [] (cpW kA u w tx σ) cells slots by
    have K := K 0 0 rfl rfl
    rw [hFe, hLoe, hmce, hmse, hσ0e, hw0e, htx0e] at K
    exact ax_ls ([(0, .ref (u 0)), (1, .int x0), (2, .int x1)]) [0, 1, 2] rfl K
  replace C : ax_C p s m args meth c b_CP_writeTerm "ClauseProver" 7 none D kA (va_A (cpW kA u w0 tx0 σ0) s.heap.size) := by rw [hσ0e, hw0e, htx0e]; exact C
  replace hX : SX adK adV (va_A (cpW kA u w0 tx0 σ0) s.heap.size) s s.heap := by rw [hσ0e, hw0e, htx0e]; exact hX
  intro cells slots hc0 hs0
  have hcq : cells + σf.2.2 3001 ≤ mc + σ.2.2 3001 := by have := hmn.1; omega
  have hsq : slots + σf.2.2 3002 ≤ ms + σ.2.2 3002 := by have := hmn.2; omega
  have hga : ∀ i, ([4] : List Nat).elem i = false → w i = w0 i := fun i _ => by rw [hw0e]
  have e9 : tx = tx0 := htx0e.symm
  subst e9
  have hF : dd + 12 ≤ F := by omega
  have hLo : 48 * dd + 480 ≤ Lo := by omega
  have hcm : cells ≤ mc := by have := hmn.1; omega
  have hsm : slots ≤ ms := by have := hmn.2; omega
  have hle : True := trivial
  have hm : True := trivial
  refine ax_iconst (pc := 0) C 0 d_CP_writeTerm_0 (by decide +kernel) ?_
  refine ax_istore_n (pc := 1) C d_CP_writeTerm_1 rfl (Nat.le_of_ble_eq_true rfl) ([(3, .int 0), (0, .ref (u 0)), (1, .int x0), (2, .int x1)]) rfl ?_
  refine ax_iload_n (pc := 2) C d_CP_writeTerm_2 rfl 2 rfl ?_
  refine ax_istore (pc := 3) C d_CP_writeTerm_3 (Nat.le_of_ble_eq_true rfl) ([(4, .int x0), (3, .int 0), (0, .ref (u 0)), (1, .int x0), (2, .int x1)]) rfl ?_
  refine ax_ls ([(0, .ref (u 0)), (1, .int x0), (2, .int x1), (3, .int 0), (4, .int x0)]) [2, 3, 4, 1, 0] rfl ?_
  replace hm : sH_CP_writeTerm_p5 l D kA adK adV u σ [x0, x1, 0, x0] (σf, rf, _) := ih tH_CP_writeTerm_p5 _ _ _ h
  exact hm _ _ _ _ rfl w tx p e s m args below meth c F Lo mc ms cells slots σ0 w0 tx hF hLo hcq hsq hga C hX
set_option maxHeartbeats 4000000 in
set_option maxRecDepth 100000 in
theorem oH_CP_writeTerm_p5 (l : Launch) (D : va_G) (kA : Nat → ClassId) (adK adV : Nat → Nat) (u : Nat → Nat) (rec : mF) (hG : GMh rec) (ih : ∀ t σ xs res, rec t σ xs = some res → hSem l D kA adK adV u t σ xs res) (σ : mS) (xs : List Int32) (res : mR) (h : u_4 (kH_CP_writeTerm_p5 rec σ) xs = some res) : sH_CP_writeTerm_p5 l D kA adK adV u σ xs res := by
  intro x0 x1 x2 x3 hxs w tx
  subst hxs
  obtain ⟨σf, rf, dd⟩ := res
  have hmn : gle σ σf := qH_CP_writeTerm_p5 rec hG σ x0 x1 x2 x3 _ h
  have h : (if x1 ≤ x3 then (some (σ, 0, 0)) else (if bin x3 (σ.2.2 48) = true then (bnd (rec tH_CP_writeWord σ [(σ.2.1 48 (Int32.toNatClampNeg x3))]) (fun σ1 r1 => if 0 ≤ (σ.2.1 48 (Int32.toNatClampNeg x3)) then (if bin (σ.2.1 48 (Int32.toNatClampNeg x3)) 551 = true then (rec tH_CP_writeTerm_p51 σ1 [x0, x1, x2, x3, (σ.2.1 48 (Int32.toNatClampNeg x3)), (σ1.2.1 7 (Int32.toNatClampNeg (σ.2.1 48 (Int32.toNatClampNeg x3))))]) else none) else (rec tH_CP_writeTerm_p51 σ1 [x0, x1, x2, x3, (σ.2.1 48 (Int32.toNatClampNeg x3)), 0]))) else none)) = some (σf, rf, dd) := h
  intro p e s m args below meth c F Lo mc ms cells slots σ0 w0 tx0 hF hLo hcq hsq hga C hX
  dsimp only at hF hLo hcq hsq ⊢
  have hcm : cells ≤ mc := by have := hmn.1; omega
  have hsm : slots ≤ ms := by have := hmn.2; omega
  have hle : True := trivial
  have hm : True := trivial
  refine ax_iload (pc := 5) C d_CP_writeTerm_5 4 rfl ?_
  refine ax_iload_n (pc := 7) C d_CP_writeTerm_7 rfl 2 rfl ?_
  refine ax_icmp_ge (pc := 8) C 143 d_CP_writeTerm_8 (by decide) (fun hc => ?_) (fun hc => ?_)
  · replace h := it_t hc h
    cases h
    exact ax_vret (pc := 143) C d_CP_writeTerm_143 ⟨w, tx, hga, rfl, rfl⟩ hcm hsm
  · replace h := it_f hc h
    refine ax_aload_n (pc := 11) C d_CP_writeTerm_11 rfl 0 rfl ?_
    refine cg_0_7_CP_60 (pc := 12) C d_CP_writeTerm_12 ?_
    refine cg_54_0_CP_178 (pc := 15) C d_CP_writeTerm_15 ?_
    refine cg_47_0_CP_110 (pc := 18) C d_CP_writeTerm_18 ?_
    refine ax_iload (pc := 21) C d_CP_writeTerm_21 4 rfl ?_
    replace h := it_g h
    obtain ⟨hb, h⟩ := h
    refine cl_48 (pc := 23) C d_CP_writeTerm_23 (bin_in hb) ?_
    refine ax_istore (pc := 24) C d_CP_writeTerm_24 (Nat.le_of_ble_eq_true rfl) ([(5, .int (σ.2.1 48 (Int32.toNatClampNeg x3))), (0, .ref (u 0)), (1, .int x0), (2, .int x1), (3, .int x2), (4, .int x3)]) rfl ?_
    refine ax_aload_n (pc := 26) C d_CP_writeTerm_26 rfl 1 rfl ?_
    refine ax_iload (pc := 27) C d_CP_writeTerm_27 0 rfl ?_
    replace h := it_b h
    obtain ⟨σ1, r1, d1_1, d2_1, h1, h, hd2, hd1⟩ := h
    replace hle := hG _ _ _ _ h1
    dsimp only at hle
    replace hmn : gle σ1 σf := gm_use h (gm_if (gm_if (gh_tail hG) gm_none) (gh_tail hG))
    replace hm : sH_CP_writeWord l D kA adK adV u σ [(σ.2.1 48 (Int32.toNatClampNeg x3))] (σ1, r1, d1_1) := ih tH_CP_writeWord _ _ _ h1
    refine gh_Vv (pc := 29) C hX (As := [.int (σ.2.1 48 (Int32.toNatClampNeg x3))]) (rest := []) (hm _ rfl w tx) ml_CP_210 0 rfl rfl rfl d_CP_writeTerm_29 rfl rfl (by dsimp only; omega) (by dsimp only; omega) (by have := hmn.1; have := hle.1; dsimp only; omega) (by have := hmn.2; have := hle.2; dsimp only; omega) (Nat.le_of_ble_eq_true rfl) (fun w1 hw => ?_)
    obtain ⟨w1, tx1, hag1, htq1, hwq1⟩ := hw
    dsimp only at hwq1
    subst hwq1
    dsimp only
    replace htq1 := htq1.symm
    subst htq1
    have hga1 : ∀ i, ([4] : List Nat).elem i = false → w1 i = w0 i := fun i hi => (hag1 i (by revert hi; exact el_sub (by decide))).trans (hga i hi)
    replace hcq : (cells + (σ1.2.2 3001 - σ.2.2 3001)) + σf.2.2 3001 ≤ mc + σ1.2.2 3001 := by have := hmn.1; have := hle.1; omega
    replace hcm : (cells + (σ1.2.2 3001 - σ.2.2 3001)) ≤ mc := by have := hmn.1; have := hle.1; omega
    generalize cells + (σ1.2.2 3001 - σ.2.2 3001) = cells at hcq hcm ⊢
    replace hsq : (slots + (σ1.2.2 3002 - σ.2.2 3002)) + σf.2.2 3002 ≤ ms + σ1.2.2 3002 := by have := hmn.2; have := hle.2; omega
    replace hsm : (slots + (σ1.2.2 3002 - σ.2.2 3002)) ≤ ms := by have := hmn.2; have := hle.2; omega
    generalize slots + (σ1.2.2 3002 - σ.2.2 3002) = slots at hsq hsm ⊢
    replace hF : d2_1 + 12 ≤ F := by omega
    replace hLo : 48 * d2_1 + 480 ≤ Lo := by omega
    refine ax_iload (pc := 32) C d_CP_writeTerm_32 0 rfl ?_
    refine ax_if_ge (pc := 34) C 41 d_CP_writeTerm_34 (by decide) (fun hc => ?_) (fun hc => ?_)
    · replace h := it_t hc h
      refine ax_aload_n (pc := 41) C d_CP_writeTerm_41 rfl 1 rfl ?_
      refine cg_0_3_CP_28 (pc := 42) C d_CP_writeTerm_42 ?_
      refine cg_6_0_CP_213 (pc := 45) C d_CP_writeTerm_45 ?_
      refine ax_iload (pc := 48) C d_CP_writeTerm_48 0 rfl ?_
      replace h := it_g h
      obtain ⟨hb, h⟩ := h
      refine cl_7 (pc := 50) C d_CP_writeTerm_50 (bin_in hb) ?_
      refine ax_ls ([(0, .ref (u 0)), (1, .int x0), (2, .int x1), (3, .int x2), (4, .int x3), (5, .int (σ.2.1 48 (Int32.toNatClampNeg x3)))]) [1, 2, 3, 4, 5, 0] rfl ?_
      replace hm : sH_CP_writeTerm_p51 l D kA adK adV u σ1 [x0, x1, x2, x3, (σ.2.1 48 (Int32.toNatClampNeg x3)), (σ1.2.1 7 (Int32.toNatClampNeg (σ.2.1 48 (Int32.toNatClampNeg x3))))] (σf, rf, _) := ih tH_CP_writeTerm_p51 _ _ _ h
      exact hm _ _ _ _ _ _ rfl w1 tx p e s m args below meth c F Lo mc ms cells slots σ0 w0 tx0 hF hLo hcq hsq hga1 C hX
    · replace h := it_f hc h
      refine ax_iconst (pc := 37) C 0 d_CP_writeTerm_37 (by decide +kernel) ?_
      refine ax_goto (pc := 38) C 51 d_CP_writeTerm_38 (by decide) ?_
      refine ax_ls ([(0, .ref (u 0)), (1, .int x0), (2, .int x1), (3, .int x2), (4, .int x3), (5, .int (σ.2.1 48 (Int32.toNatClampNeg x3)))]) [1, 2, 3, 4, 5, 0] rfl ?_
      replace hm : sH_CP_writeTerm_p51 l D kA adK adV u σ1 [x0, x1, x2, x3, (σ.2.1 48 (Int32.toNatClampNeg x3)), 0] (σf, rf, _) := ih tH_CP_writeTerm_p51 _ _ _ h
      exact hm _ _ _ _ _ _ rfl w1 tx p e s m args below meth c F Lo mc ms cells slots σ0 w0 tx0 hF hLo hcq hsq hga1 C hX
set_option maxHeartbeats 4000000 in
set_option maxRecDepth 100000 in
theorem oH_CP_writeTerm_p51 (l : Launch) (D : va_G) (kA : Nat → ClassId) (adK adV : Nat → Nat) (u : Nat → Nat) (rec : mF) (hG : GMh rec) (ih : ∀ t σ xs res, rec t σ xs = some res → hSem l D kA adK adV u t σ xs res) (σ : mS) (xs : List Int32) (res : mR) (h : u_6 (kH_CP_writeTerm_p51 rec σ) xs = some res) : sH_CP_writeTerm_p51 l D kA adK adV u σ xs res := by
  intro x0 x1 x2 x3 x4 x5 hxs w tx
  subst hxs
  obtain ⟨σf, rf, dd⟩ := res
  have hmn : gle σ σf := qH_CP_writeTerm_p51 rec hG σ x0 x1 x2 x3 x4 x5 _ h
  have h : (if x5 ≤ 0 then (rec tH_CP_writeTerm_p87 σ [x0, x1, x2, x3, x4, x5]) else (if (Int32.ofNat 101) ≤ x2 then (rec tH_CP_writeTerm_p87 σ [x0, x1, x2, x3, x4, x5]) else (if rok σ 301 4 = true then (lt_ (rAdd σ 301 4 40) (fun σ1 => if bin x2 101 = true then (lt_ (mA σ1 5 (Int32.toNatClampNeg x2) x5) (fun σ2 => rec tH_CP_writeTerm_p137 σ2 [x0, x1, (x2 + 1), x3, x4, x5])) else none)) else none))) = some (σf, rf, dd) := h
  intro p e s m args below meth c F Lo mc ms cells slots σ0 w0 tx0 hF hLo hcq hsq hga C hX
  dsimp only at hF hLo hcq hsq ⊢
  have hcm : cells ≤ mc := by have := hmn.1; omega
  have hsm : slots ≤ ms := by have := hmn.2; omega
  have hle : True := trivial
  have hm : True := trivial
  refine ax_istore (pc := 51) C d_CP_writeTerm_51 (Nat.le_of_ble_eq_true rfl) ([(6, .int x5), (0, .ref (u 0)), (1, .int x0), (2, .int x1), (3, .int x2), (4, .int x3), (5, .int x4)]) rfl ?_
  refine ax_iload (pc := 53) C d_CP_writeTerm_53 0 rfl ?_
  refine ax_if_le (pc := 55) C 87 d_CP_writeTerm_55 (by decide) (fun hc => ?_) (fun hc => ?_)
  · replace h := it_t hc h
    refine ax_ls ([(0, .ref (u 0)), (1, .int x0), (2, .int x1), (3, .int x2), (4, .int x3), (5, .int x4), (6, .int x5)]) [1, 2, 3, 4, 5, 6, 0] rfl ?_
    replace hm : sH_CP_writeTerm_p87 l D kA adK adV u σ [x0, x1, x2, x3, x4, x5] (σf, rf, _) := ih tH_CP_writeTerm_p87 _ _ _ h
    exact hm _ _ _ _ _ _ rfl w tx p e s m args below meth c F Lo mc ms cells slots σ0 w0 tx0 hF hLo hcq hsq hga C hX
  · replace h := it_f hc h
    refine ax_iload_n (pc := 58) C d_CP_writeTerm_58 rfl 4 rfl ?_
    refine ax_aload_n (pc := 59) C d_CP_writeTerm_59 rfl 1 rfl ?_
    refine cg_0_2_CP_21 (pc := 60) C d_CP_writeTerm_60 ?_
    refine cn_5 (pc := 63) C d_CP_writeTerm_63 ?_
    refine ax_icmp_ge (pc := 64) C 87 d_CP_writeTerm_64 (by decide) (fun hc => ?_) (fun hc => ?_)
    · replace h := it_t hc h
      refine ax_ls ([(0, .ref (u 0)), (1, .int x0), (2, .int x1), (3, .int x2), (4, .int x3), (5, .int x4), (6, .int x5)]) [1, 2, 3, 4, 5, 6, 0] rfl ?_
      replace hm : sH_CP_writeTerm_p87 l D kA adK adV u σ [x0, x1, x2, x3, x4, x5] (σf, rf, _) := ih tH_CP_writeTerm_p87 _ _ _ h
      exact hm _ _ _ _ _ _ rfl w tx p e s m args below meth c F Lo mc ms cells slots σ0 w0 tx0 hF hLo hcq hsq hga C hX
    · replace h := it_f hc h
      refine ax_aload_n (pc := 67) C d_CP_writeTerm_67 rfl 1 rfl ?_
      refine ax_ldcS (pc := 68) C hX rfl (i := 6) (by decide) rfl d_CP_writeTerm_68 ?_
      replace h := it_g h
      obtain ⟨hb1, h⟩ := h
      replace h := it_l h
      have ht1 : tkL σ (stB.getD 6 []) = true := (show tkL σ [40] = true from (tkL_c hb1 rfl))
      have hmt1 : mTx σ (stB.getD 6 []) = (rAdd σ 301 4 40) := rfl
      have hM1 := c_wtext l D kA (adK := adK) (adV := adV) (u := u) (w := w) (tx := tx) (i := 6) (by decide) ht1
      rw [hmt1] at hM1
      replace hle := mTx_le (stB.getD 6 []) σ
      rw [hmt1] at hle
      replace hmn : gle (rAdd σ 301 4 40) σf := gm_use h (gm_if (gm_lt ⟨Nat.le_refl _, Nat.le_refl _, rfl⟩ (gh_tail hG)) gm_none)
      clear ht1 hmt1
      refine gh_Vv (pc := 70) C hX (As := [.ref (adK 6)]) (rest := []) hM1 ml_CP_183 0 rfl rfl rfl d_CP_writeTerm_70 rfl rfl (by dsimp only; omega) (by dsimp only; omega) (by have := hmn.1; have := hle.1; dsimp only; omega) (by have := hmn.2; have := hle.2; dsimp only; omega) (Nat.le_of_ble_eq_true rfl) (fun w1 hw => ?_)
      obtain ⟨w1, hag1, hwq1⟩ := hw
      subst hwq1
      clear hM1
      generalize (rAdd σ 301 4 40) = σ1 at h hmn hle ⊢
      have hga1 : ∀ i, ([4] : List Nat).elem i = false → w1 i = w0 i := fun i hi => (hag1 i (by revert hi; exact el_sub (by decide))).trans (hga i hi)
      replace hcq : (cells + (σ1.2.2 3001 - σ.2.2 3001)) + σf.2.2 3001 ≤ mc + σ1.2.2 3001 := by have := hmn.1; have := hle.1; omega
      replace hcm : (cells + (σ1.2.2 3001 - σ.2.2 3001)) ≤ mc := by have := hmn.1; have := hle.1; omega
      generalize cells + (σ1.2.2 3001 - σ.2.2 3001) = cells at hcq hcm ⊢
      replace hsq : (slots + (σ1.2.2 3002 - σ.2.2 3002)) + σf.2.2 3002 ≤ ms + σ1.2.2 3002 := by have := hmn.2; have := hle.2; omega
      replace hsm : (slots + (σ1.2.2 3002 - σ.2.2 3002)) ≤ ms := by have := hmn.2; have := hle.2; omega
      generalize slots + (σ1.2.2 3002 - σ.2.2 3002) = slots at hsq hsm ⊢
      refine ax_aload_n (pc := 73) C d_CP_writeTerm_73 rfl 1 rfl ?_
      refine cg_0_2_CP_21 (pc := 74) C d_CP_writeTerm_74 ?_
      refine ax_iload_n (pc := 77) C d_CP_writeTerm_77 rfl 4 rfl ?_
      refine ax_iinc (pc := 78) C (x2 + 1) d_CP_writeTerm_78 4 rfl rfl (Nat.le_of_ble_eq_true rfl) ([(3, .int (x2 + 1)), (6, .int x5), (0, .ref (u 0)), (1, .int x0), (2, .int x1), (4, .int x3), (5, .int x4)]) rfl ?_
      refine ax_iload (pc := 81) C d_CP_writeTerm_81 1 rfl ?_
      replace h := it_g h
      obtain ⟨hb, h⟩ := h
      refine cs_5 (pc := 83) C d_CP_writeTerm_83 (bin_in hb) ?_
      replace h := it_l h
      replace hcq : cells + σf.2.2 3001 ≤ mc + (mA σ1 5 (Int32.toNatClampNeg x2) x5).2.2 3001 := hcq
      replace hsq : slots + σf.2.2 3002 ≤ ms + (mA σ1 5 (Int32.toNatClampNeg x2) x5).2.2 3002 := hsq
      generalize mA σ1 5 (Int32.toNatClampNeg x2) x5 = σ2 at h hcq hsq ⊢
      refine ax_goto (pc := 84) C 137 d_CP_writeTerm_84 (by decide) ?_
      refine ax_ls ([(0, .ref (u 0)), (1, .int x0), (2, .int x1), (3, .int (x2 + 1)), (4, .int x3), (5, .int x4), (6, .int x5)]) [2, 3, 4, 0, 5, 6, 1] rfl ?_
      replace hm : sH_CP_writeTerm_p137 l D kA adK adV u σ2 [x0, x1, (x2 + 1), x3, x4, x5] (σf, rf, _) := ih tH_CP_writeTerm_p137 _ _ _ h
      exact hm _ _ _ _ _ _ rfl w1 tx p e s m args below meth c F Lo mc ms cells slots σ0 w0 tx0 hF hLo hcq hsq hga1 C hX
set_option maxHeartbeats 4000000 in
set_option maxRecDepth 100000 in
theorem oH_CP_writeTerm_p87 (l : Launch) (D : va_G) (kA : Nat → ClassId) (adK adV : Nat → Nat) (u : Nat → Nat) (rec : mF) (hG : GMh rec) (ih : ∀ t σ xs res, rec t σ xs = some res → hSem l D kA adK adV u t σ xs res) (σ : mS) (xs : List Int32) (res : mR) (h : u_6 (kH_CP_writeTerm_p87 rec σ) xs = some res) : sH_CP_writeTerm_p87 l D kA adK adV u σ xs res := by
  intro x0 x1 x2 x3 x4 x5 hxs w tx
  subst hxs
  obtain ⟨σf, rf, dd⟩ := res
  have hmn : gle σ σf := qH_CP_writeTerm_p87 rec hG σ x0 x1 x2 x3 x4 x5 _ h
  have h : (if x2 ≤ 0 then (rec tH_CP_writeTerm_p115 σ [x0, x1, x2, x3, x4, x5]) else (if bin ((x2 : Int32) - 1) 101 = true then (if (σ.2.1 5 (Int32.toNatClampNeg ((x2 : Int32) - 1))) = 1 then (if rok σ 301 4 = true then (lt_ (rAdd σ 301 4 41) (fun σ1 => rec tH_CP_writeTerm_p87 σ1 [x0, x1, (x2 + (-1)), x3, x4, x5])) else none) else (rec tH_CP_writeTerm_p115 σ [x0, x1, x2, x3, x4, x5])) else none)) = some (σf, rf, dd) := h
  intro p e s m args below meth c F Lo mc ms cells slots σ0 w0 tx0 hF hLo hcq hsq hga C hX
  dsimp only at hF hLo hcq hsq ⊢
  have hcm : cells ≤ mc := by have := hmn.1; omega
  have hsm : slots ≤ ms := by have := hmn.2; omega
  have hle : True := trivial
  have hm : True := trivial
  refine ax_iload_n (pc := 87) C d_CP_writeTerm_87 rfl 3 rfl ?_
  refine ax_if_le (pc := 88) C 115 d_CP_writeTerm_88 (by decide) (fun hc => ?_) (fun hc => ?_)
  · replace h := it_t hc h
    refine ax_ls ([(0, .ref (u 0)), (1, .int x0), (2, .int x1), (3, .int x2), (4, .int x3), (5, .int x4), (6, .int x5)]) [0, 1, 2, 3, 4, 5, 6] rfl ?_
    replace hm : sH_CP_writeTerm_p115 l D kA adK adV u σ [x0, x1, x2, x3, x4, x5] (σf, rf, _) := ih tH_CP_writeTerm_p115 _ _ _ h
    exact hm _ _ _ _ _ _ rfl w tx p e s m args below meth c F Lo mc ms cells slots σ0 w0 tx0 hF hLo hcq hsq hga C hX
  · replace h := it_f hc h
    refine ax_aload_n (pc := 91) C d_CP_writeTerm_91 rfl 0 rfl ?_
    refine cg_0_2_CP_21 (pc := 92) C d_CP_writeTerm_92 ?_
    refine ax_iload_n (pc := 95) C d_CP_writeTerm_95 rfl 3 rfl ?_
    refine ax_iconst (pc := 96) C 1 d_CP_writeTerm_96 (by decide +kernel) ?_
    refine ax_isub (pc := 97) C d_CP_writeTerm_97 ?_
    replace h := it_g h
    obtain ⟨hb, h⟩ := h
    refine cl_5 (pc := 98) C d_CP_writeTerm_98 (bin_in hb) ?_
    refine ax_iconst (pc := 99) C 1 d_CP_writeTerm_99 (by decide +kernel) ?_
    refine ax_icmp_ne (pc := 100) C 115 d_CP_writeTerm_100 (by decide) (fun hc => ?_) (fun hc => ?_)
    · replace h := it_f hc h
      refine ax_ls ([(0, .ref (u 0)), (1, .int x0), (2, .int x1), (3, .int x2), (4, .int x3), (5, .int x4), (6, .int x5)]) [0, 1, 2, 3, 4, 5, 6] rfl ?_
      replace hm : sH_CP_writeTerm_p115 l D kA adK adV u σ [x0, x1, x2, x3, x4, x5] (σf, rf, _) := ih tH_CP_writeTerm_p115 _ _ _ h
      exact hm _ _ _ _ _ _ rfl w tx p e s m args below meth c F Lo mc ms cells slots σ0 w0 tx0 hF hLo hcq hsq hga C hX
    · replace h := it_t hc h
      refine ax_aload_n (pc := 103) C d_CP_writeTerm_103 rfl 0 rfl ?_
      refine ax_ldcS (pc := 104) C hX rfl (i := 7) (by decide) rfl d_CP_writeTerm_104 ?_
      replace h := it_g h
      obtain ⟨hb1, h⟩ := h
      replace h := it_l h
      have ht1 : tkL σ (stB.getD 7 []) = true := (show tkL σ [41] = true from (tkL_c hb1 rfl))
      have hmt1 : mTx σ (stB.getD 7 []) = (rAdd σ 301 4 41) := rfl
      have hM1 := c_wtext l D kA (adK := adK) (adV := adV) (u := u) (w := w) (tx := tx) (i := 7) (by decide) ht1
      rw [hmt1] at hM1
      replace hle := mTx_le (stB.getD 7 []) σ
      rw [hmt1] at hle
      replace hmn : gle (rAdd σ 301 4 41) σf := gm_use h (gh_tail hG)
      clear ht1 hmt1
      refine gh_Vv (pc := 106) C hX (As := [.ref (adK 7)]) (rest := []) hM1 ml_CP_183 0 rfl rfl rfl d_CP_writeTerm_106 rfl rfl (by dsimp only; omega) (by dsimp only; omega) (by have := hmn.1; have := hle.1; dsimp only; omega) (by have := hmn.2; have := hle.2; dsimp only; omega) (Nat.le_of_ble_eq_true rfl) (fun w1 hw => ?_)
      obtain ⟨w1, hag1, hwq1⟩ := hw
      subst hwq1
      clear hM1
      generalize (rAdd σ 301 4 41) = σ1 at h hmn hle ⊢
      have hga1 : ∀ i, ([4] : List Nat).elem i = false → w1 i = w0 i := fun i hi => (hag1 i (by revert hi; exact el_sub (by decide))).trans (hga i hi)
      replace hcq : (cells + (σ1.2.2 3001 - σ.2.2 3001)) + σf.2.2 3001 ≤ mc + σ1.2.2 3001 := by have := hmn.1; have := hle.1; omega
      replace hcm : (cells + (σ1.2.2 3001 - σ.2.2 3001)) ≤ mc := by have := hmn.1; have := hle.1; omega
      generalize cells + (σ1.2.2 3001 - σ.2.2 3001) = cells at hcq hcm ⊢
      replace hsq : (slots + (σ1.2.2 3002 - σ.2.2 3002)) + σf.2.2 3002 ≤ ms + σ1.2.2 3002 := by have := hmn.2; have := hle.2; omega
      replace hsm : (slots + (σ1.2.2 3002 - σ.2.2 3002)) ≤ ms := by have := hmn.2; have := hle.2; omega
      generalize slots + (σ1.2.2 3002 - σ.2.2 3002) = slots at hsq hsm ⊢
      refine ax_iinc (pc := 109) C (x2 + (-1)) d_CP_writeTerm_109 3 rfl rfl (Nat.le_of_ble_eq_true rfl) ([(3, .int (x2 + (-1))), (0, .ref (u 0)), (1, .int x0), (2, .int x1), (4, .int x3), (5, .int x4), (6, .int x5)]) rfl ?_
      refine ax_goto (pc := 112) C 87 d_CP_writeTerm_112 (by decide) ?_
      refine ax_ls ([(0, .ref (u 0)), (1, .int x0), (2, .int x1), (3, .int (x2 + (-1))), (4, .int x3), (5, .int x4), (6, .int x5)]) [1, 2, 3, 0, 4, 5, 6] rfl ?_
      replace hm : sH_CP_writeTerm_p87 l D kA adK adV u σ1 [x0, x1, (x2 + (-1)), x3, x4, x5] (σf, rf, _) := ih tH_CP_writeTerm_p87 _ _ _ h
      exact hm _ _ _ _ _ _ rfl w1 tx p e s m args below meth c F Lo mc ms cells slots σ0 w0 tx0 hF hLo hcq hsq hga1 C hX
set_option maxHeartbeats 4000000 in
set_option maxRecDepth 100000 in
theorem oH_CP_writeTerm_p115 (l : Launch) (D : va_G) (kA : Nat → ClassId) (adK adV : Nat → Nat) (u : Nat → Nat) (rec : mF) (hG : GMh rec) (ih : ∀ t σ xs res, rec t σ xs = some res → hSem l D kA adK adV u t σ xs res) (σ : mS) (xs : List Int32) (res : mR) (h : u_6 (kH_CP_writeTerm_p115 rec σ) xs = some res) : sH_CP_writeTerm_p115 l D kA adK adV u σ xs res := by
  intro x0 x1 x2 x3 x4 x5 hxs w tx
  subst hxs
  obtain ⟨σf, rf, dd⟩ := res
  have hmn : gle σ σf := qH_CP_writeTerm_p115 rec hG σ x0 x1 x2 x3 x4 x5 _ h
  have h : (if x2 ≤ 0 then (rec tH_CP_writeTerm_p137 σ [x0, x1, x2, x3, x4, x5]) else (if rok σ 301 4 = true then (lt_ (rAdd σ 301 4 44) (fun σ1 => if bin ((x2 : Int32) - 1) 101 = true then (if bin ((x2 : Int32) - 1) 101 = true then (lt_ (mA σ1 5 (Int32.toNatClampNeg ((x2 : Int32) - 1)) (((σ1.2.1 5 (Int32.toNatClampNeg ((x2 : Int32) - 1))) : Int32) - 1)) (fun σ2 => rec tH_CP_writeTerm_p137 σ2 [x0, x1, x2, x3, x4, x5])) else none) else none)) else none)) = some (σf, rf, dd) := h
  intro p e s m args below meth c F Lo mc ms cells slots σ0 w0 tx0 hF hLo hcq hsq hga C hX
  dsimp only at hF hLo hcq hsq ⊢
  have hcm : cells ≤ mc := by have := hmn.1; omega
  have hsm : slots ≤ ms := by have := hmn.2; omega
  have hle : True := trivial
  have hm : True := trivial
  refine ax_iload_n (pc := 115) C d_CP_writeTerm_115 rfl 3 rfl ?_
  refine ax_if_le (pc := 116) C 137 d_CP_writeTerm_116 (by decide) (fun hc => ?_) (fun hc => ?_)
  · replace h := it_t hc h
    refine ax_ls ([(0, .ref (u 0)), (1, .int x0), (2, .int x1), (3, .int x2), (4, .int x3), (5, .int x4), (6, .int x5)]) [0, 1, 2, 3, 4, 5, 6] rfl ?_
    replace hm : sH_CP_writeTerm_p137 l D kA adK adV u σ [x0, x1, x2, x3, x4, x5] (σf, rf, _) := ih tH_CP_writeTerm_p137 _ _ _ h
    exact hm _ _ _ _ _ _ rfl w tx p e s m args below meth c F Lo mc ms cells slots σ0 w0 tx0 hF hLo hcq hsq hga C hX
  · replace h := it_f hc h
    refine ax_aload_n (pc := 119) C d_CP_writeTerm_119 rfl 0 rfl ?_
    refine ax_ldcS (pc := 120) C hX rfl (i := 8) (by decide) rfl d_CP_writeTerm_120 ?_
    replace h := it_g h
    obtain ⟨hb1, h⟩ := h
    replace h := it_l h
    have ht1 : tkL σ (stB.getD 8 []) = true := (show tkL σ [44] = true from (tkL_c hb1 rfl))
    have hmt1 : mTx σ (stB.getD 8 []) = (rAdd σ 301 4 44) := rfl
    have hM1 := c_wtext l D kA (adK := adK) (adV := adV) (u := u) (w := w) (tx := tx) (i := 8) (by decide) ht1
    rw [hmt1] at hM1
    replace hle := mTx_le (stB.getD 8 []) σ
    rw [hmt1] at hle
    replace hmn : gle (rAdd σ 301 4 44) σf := gm_use h (gm_if (gm_if (gm_lt ⟨Nat.le_refl _, Nat.le_refl _, rfl⟩ (gh_tail hG)) gm_none) gm_none)
    clear ht1 hmt1
    refine gh_Vv (pc := 122) C hX (As := [.ref (adK 8)]) (rest := []) hM1 ml_CP_183 0 rfl rfl rfl d_CP_writeTerm_122 rfl rfl (by dsimp only; omega) (by dsimp only; omega) (by have := hmn.1; have := hle.1; dsimp only; omega) (by have := hmn.2; have := hle.2; dsimp only; omega) (Nat.le_of_ble_eq_true rfl) (fun w1 hw => ?_)
    obtain ⟨w1, hag1, hwq1⟩ := hw
    subst hwq1
    clear hM1
    generalize (rAdd σ 301 4 44) = σ1 at h hmn hle ⊢
    have hga1 : ∀ i, ([4] : List Nat).elem i = false → w1 i = w0 i := fun i hi => (hag1 i (by revert hi; exact el_sub (by decide))).trans (hga i hi)
    replace hcq : (cells + (σ1.2.2 3001 - σ.2.2 3001)) + σf.2.2 3001 ≤ mc + σ1.2.2 3001 := by have := hmn.1; have := hle.1; omega
    replace hcm : (cells + (σ1.2.2 3001 - σ.2.2 3001)) ≤ mc := by have := hmn.1; have := hle.1; omega
    generalize cells + (σ1.2.2 3001 - σ.2.2 3001) = cells at hcq hcm ⊢
    replace hsq : (slots + (σ1.2.2 3002 - σ.2.2 3002)) + σf.2.2 3002 ≤ ms + σ1.2.2 3002 := by have := hmn.2; have := hle.2; omega
    replace hsm : (slots + (σ1.2.2 3002 - σ.2.2 3002)) ≤ ms := by have := hmn.2; have := hle.2; omega
    generalize slots + (σ1.2.2 3002 - σ.2.2 3002) = slots at hsq hsm ⊢
    refine ax_aload_n (pc := 125) C d_CP_writeTerm_125 rfl 0 rfl ?_
    refine cg_0_2_CP_21 (pc := 126) C d_CP_writeTerm_126 ?_
    refine ax_iload_n (pc := 129) C d_CP_writeTerm_129 rfl 3 rfl ?_
    refine ax_iconst (pc := 130) C 1 d_CP_writeTerm_130 (by decide +kernel) ?_
    refine ax_isub (pc := 131) C d_CP_writeTerm_131 ?_
    refine ax_dup2 (pc := 132) C d_CP_writeTerm_132 rfl rfl ?_
    replace h := it_g h
    obtain ⟨hb, h⟩ := h
    refine cl_5 (pc := 133) C d_CP_writeTerm_133 (bin_in hb) ?_
    refine ax_iconst (pc := 134) C 1 d_CP_writeTerm_134 (by decide +kernel) ?_
    refine ax_isub (pc := 135) C d_CP_writeTerm_135 ?_
    replace h := it_g h
    obtain ⟨hb, h⟩ := h
    refine cs_5 (pc := 136) C d_CP_writeTerm_136 (bin_in hb) ?_
    replace h := it_l h
    replace hcq : cells + σf.2.2 3001 ≤ mc + (mA σ1 5 (Int32.toNatClampNeg ((x2 : Int32) - 1)) (((σ1.2.1 5 (Int32.toNatClampNeg ((x2 : Int32) - 1))) : Int32) - 1)).2.2 3001 := hcq
    replace hsq : slots + σf.2.2 3002 ≤ ms + (mA σ1 5 (Int32.toNatClampNeg ((x2 : Int32) - 1)) (((σ1.2.1 5 (Int32.toNatClampNeg ((x2 : Int32) - 1))) : Int32) - 1)).2.2 3002 := hsq
    generalize mA σ1 5 (Int32.toNatClampNeg ((x2 : Int32) - 1)) (((σ1.2.1 5 (Int32.toNatClampNeg ((x2 : Int32) - 1))) : Int32) - 1) = σ2 at h hcq hsq ⊢
    refine ax_ls ([(0, .ref (u 0)), (1, .int x0), (2, .int x1), (3, .int x2), (4, .int x3), (5, .int x4), (6, .int x5)]) [0, 1, 2, 3, 4, 5, 6] rfl ?_
    replace hm : sH_CP_writeTerm_p137 l D kA adK adV u σ2 [x0, x1, x2, x3, x4, x5] (σf, rf, _) := ih tH_CP_writeTerm_p137 _ _ _ h
    exact hm _ _ _ _ _ _ rfl w1 tx p e s m args below meth c F Lo mc ms cells slots σ0 w0 tx0 hF hLo hcq hsq hga1 C hX
set_option maxHeartbeats 4000000 in
set_option maxRecDepth 100000 in
theorem oH_CP_writeTerm_p137 (l : Launch) (D : va_G) (kA : Nat → ClassId) (adK adV : Nat → Nat) (u : Nat → Nat) (rec : mF) (hG : GMh rec) (ih : ∀ t σ xs res, rec t σ xs = some res → hSem l D kA adK adV u t σ xs res) (σ : mS) (xs : List Int32) (res : mR) (h : u_6 (kH_CP_writeTerm_p137 rec σ) xs = some res) : sH_CP_writeTerm_p137 l D kA adK adV u σ xs res := by
  intro x0 x1 x2 x3 x4 x5 hxs w tx
  subst hxs
  obtain ⟨σf, rf, dd⟩ := res
  have hmn : gle σ σf := qH_CP_writeTerm_p137 rec hG σ x0 x1 x2 x3 x4 x5 _ h
  have h : (rec tH_CP_writeTerm_p5 σ [x0, x1, x2, (x3 + 1)]) = some (σf, rf, dd) := h
  intro p e s m args below meth c F Lo mc ms cells slots σ0 w0 tx0 hF hLo hcq hsq hga C hX
  dsimp only at hF hLo hcq hsq ⊢
  have hcm : cells ≤ mc := by have := hmn.1; omega
  have hsm : slots ≤ ms := by have := hmn.2; omega
  have hle : True := trivial
  have hm : True := trivial
  refine ax_iinc (pc := 137) C (x3 + 1) d_CP_writeTerm_137 4 rfl rfl (Nat.le_of_ble_eq_true rfl) ([(4, .int (x3 + 1)), (0, .ref (u 0)), (1, .int x0), (2, .int x1), (3, .int x2), (5, .int x4), (6, .int x5)]) rfl ?_
  refine ax_goto (pc := 140) C 5 d_CP_writeTerm_140 (by decide) ?_
  refine ax_ls ([(0, .ref (u 0)), (1, .int x0), (2, .int x1), (3, .int x2), (4, .int (x3 + 1))]) [1, 2, 3, 4, 0] rfl ?_
  replace hm : sH_CP_writeTerm_p5 l D kA adK adV u σ [x0, x1, x2, (x3 + 1)] (σf, rf, _) := ih tH_CP_writeTerm_p5 _ _ _ h
  exact hm _ _ _ _ rfl w tx p e s m args below meth c F Lo mc ms cells slots σ0 w0 tx0 hF hLo hcq hsq hga C hX
set_option maxHeartbeats 4000000 in
set_option maxRecDepth 100000 in
theorem oH_Sto_sideAt (l : Launch) (D : va_G) (kA : Nat → ClassId) (adK adV : Nat → Nat) (u : Nat → Nat) (rec : mF) (hG : GMh rec) (ih : ∀ t σ xs res, rec t σ xs = some res → hSem l D kA adK adV u t σ xs res) (σ : mS) (xs : List Int32) (res : mR) (h : u_2 (kH_Sto_sideAt rec σ) xs = some res) : sH_Sto_sideAt l D kA adK adV u σ xs res := by
  intro x0 x1 hxs w tx
  subst hxs
  obtain ⟨σf, rf, dd⟩ := res
  have hmn : gle σ σf := qH_Sto_sideAt rec hG σ x0 x1 _ h
  have h : (if x1 = 0 then (rec tH_Sto_sideAt_p22 σ [x0, x1, 0, ((x0 : Int32) + 5)]) else (if bin ((x0 : Int32) + 3) (σ.2.2 48) = true then (rec tH_Sto_sideAt_p22 σ [x0, x1, (σ.2.1 48 (Int32.toNatClampNeg ((x0 : Int32) + 3))), ((x0 : Int32) + 5)]) else none)) = some (σf, rf, dd) := h
  refine ax_MiY.of (by decide +kernel) (Nat.le_of_ble_eq_true rfl) ?_
  intro p e s m args below meth c C hnm hX
  replace C : ax_C p s m args meth c b_Sto_sideAt "ClauseProver$Store" 3 (some .int) D kA (va_A (cpW kA u w tx σ) s.heap.size) := C
  obtain ⟨F, hFe⟩ : ∃ z, z = dd + 12 := ⟨_, rfl⟩
  obtain ⟨Lo, hLoe⟩ : ∃ z, z = 48 * dd + 480 := ⟨_, rfl⟩
  obtain ⟨mc, hmce⟩ : ∃ z, z = σf.2.2 3001 - σ.2.2 3001 := ⟨_, rfl⟩
  obtain ⟨ms, hmse⟩ : ∃ z, z = σf.2.2 3002 - σ.2.2 3002 := ⟨_, rfl⟩
  obtain ⟨σ0, hσ0e⟩ : ∃ z, z = σ := ⟨_, rfl⟩
  obtain ⟨w0, hw0e⟩ : ∃ z, z = w := ⟨_, rfl⟩
  obtain ⟨tx0, htx0e⟩ : ∃ z, z = tx := ⟨_, rfl⟩
  suffices K : ∀ (cells slots : Nat), cells = 0 → slots = 0 → AW p l e { frames := F, cells := mc, slots := ms, locals := Lo } s m args below meth c D kA (va_A (cpW kA u w0 tx0 σ0) s.heap.size) 3 (ax_Qi below args s D kA (cpW kA u w0 tx0 σ0) mc ms (fun r w1 => r = rf ∧ ∃ (w2 : Nat → Nat) (tx2 : Value), (∀ i, ([] : List Nat).elem i = false → w2 i = w0 i) ∧ tx2 = tx0 ∧ w1 = cpW kA u w2 tx2 σf)) 0 [(0, .ref (u 54)), (1, .int x0), (2, .int x1)] [] (cpW kA u w tx σ) cells slots by
    have K := K 0 0 rfl rfl
    rw [hFe, hLoe, hmce, hmse, hσ0e, hw0e, htx0e] at K
    exact ax_ls ([(0, .ref (u 54)), (1, .int x0), (2, .int x1)]) [0, 1, 2] rfl K
  replace C : ax_C p s m args meth c b_Sto_sideAt "ClauseProver$Store" 3 (some .int) D kA (va_A (cpW kA u w0 tx0 σ0) s.heap.size) := by rw [hσ0e, hw0e, htx0e]; exact C
  replace hX : SX adK adV (va_A (cpW kA u w0 tx0 σ0) s.heap.size) s s.heap := by rw [hσ0e, hw0e, htx0e]; exact hX
  intro cells slots hc0 hs0
  have hcq : cells + σf.2.2 3001 ≤ mc + σ.2.2 3001 := by have := hmn.1; omega
  have hsq : slots + σf.2.2 3002 ≤ ms + σ.2.2 3002 := by have := hmn.2; omega
  have hga : ∀ i, ([] : List Nat).elem i = false → w i = w0 i := fun i _ => by rw [hw0e]
  have e9 : tx = tx0 := htx0e.symm
  subst e9
  have hF : dd + 12 ≤ F := by omega
  have hLo : 48 * dd + 480 ≤ Lo := by omega
  have hcm : cells ≤ mc := by have := hmn.1; omega
  have hsm : slots ≤ ms := by have := hmn.2; omega
  have hle : True := trivial
  have hm : True := trivial
  refine ax_iload_n (pc := 0) C d_Sto_sideAt_0 rfl 1 rfl ?_
  refine ax_iconst (pc := 1) C 5 d_Sto_sideAt_1 (by decide +kernel) ?_
  refine ax_iadd (pc := 2) C d_Sto_sideAt_2 ?_
  refine ax_iload_n (pc := 3) C d_Sto_sideAt_3 rfl 2 rfl ?_
  refine ax_if_ne (pc := 4) C 11 d_Sto_sideAt_4 (by decide) (fun hc => ?_) (fun hc => ?_)
  · replace h := it_f hc h
    refine ax_aload_n (pc := 11) C d_Sto_sideAt_11 rfl 0 rfl ?_
    refine cg_54_0_Sto_14 (pc := 12) C d_Sto_sideAt_12 ?_
    refine cg_47_0_Sto_38 (pc := 15) C d_Sto_sideAt_15 ?_
    refine ax_iload_n (pc := 18) C d_Sto_sideAt_18 rfl 1 rfl ?_
    refine ax_iconst (pc := 19) C 3 d_Sto_sideAt_19 (by decide +kernel) ?_
    refine ax_iadd (pc := 20) C d_Sto_sideAt_20 ?_
    replace h := it_g h
    obtain ⟨hb, h⟩ := h
    refine cl_48 (pc := 21) C d_Sto_sideAt_21 (bin_in hb) ?_
    refine ax_ls ([(0, .ref (u 54)), (1, .int x0), (2, .int x1)]) [0, 1, 2] rfl ?_
    replace hm : sH_Sto_sideAt_p22 l D kA adK adV u σ [x0, x1, (σ.2.1 48 (Int32.toNatClampNeg ((x0 : Int32) + 3))), ((x0 : Int32) + 5)] (σf, rf, _) := ih tH_Sto_sideAt_p22 _ _ _ h
    exact hm _ _ _ _ rfl w tx p e s m args below meth c F Lo mc ms cells slots σ0 w0 tx hF hLo hcq hsq hga C hX
  · replace h := it_t hc h
    refine ax_iconst (pc := 7) C 0 d_Sto_sideAt_7 (by decide +kernel) ?_
    refine ax_goto (pc := 8) C 22 d_Sto_sideAt_8 (by decide) ?_
    refine ax_ls ([(0, .ref (u 54)), (1, .int x0), (2, .int x1)]) [0, 1, 2] rfl ?_
    replace hm : sH_Sto_sideAt_p22 l D kA adK adV u σ [x0, x1, 0, ((x0 : Int32) + 5)] (σf, rf, _) := ih tH_Sto_sideAt_p22 _ _ _ h
    exact hm _ _ _ _ rfl w tx p e s m args below meth c F Lo mc ms cells slots σ0 w0 tx hF hLo hcq hsq hga C hX
set_option maxHeartbeats 4000000 in
set_option maxRecDepth 100000 in
theorem oH_Sto_sideAt_p22 (l : Launch) (D : va_G) (kA : Nat → ClassId) (adK adV : Nat → Nat) (u : Nat → Nat) (rec : mF) (hG : GMh rec) (ih : ∀ t σ xs res, rec t σ xs = some res → hSem l D kA adK adV u t σ xs res) (σ : mS) (xs : List Int32) (res : mR) (h : u_4 (kH_Sto_sideAt_p22 rec σ) xs = some res) : sH_Sto_sideAt_p22 l D kA adK adV u σ xs res := by
  intro x0 x1 x2 x3 hxs w tx
  subst hxs
  obtain ⟨σf, rf, dd⟩ := res
  have hmn : gle σ σf := qH_Sto_sideAt_p22 rec hG σ x0 x1 x2 x3 _ h
  have h : (some (σ, ((x3 : Int32) + x2), 0)) = some (σf, rf, dd) := h
  intro p e s m args below meth c F Lo mc ms cells slots σ0 w0 tx0 hF hLo hcq hsq hga C hX
  dsimp only at hF hLo hcq hsq ⊢
  have hcm : cells ≤ mc := by have := hmn.1; omega
  have hsm : slots ≤ ms := by have := hmn.2; omega
  have hle : True := trivial
  have hm : True := trivial
  refine ax_iadd (pc := 22) C d_Sto_sideAt_22 ?_
  cases h
  exact ax_iret (pc := 23) C d_Sto_sideAt_23 ⟨rfl, w, tx, hga, rfl, rfl⟩ hcm hsm
set_option maxHeartbeats 4000000 in
set_option maxRecDepth 100000 in
theorem oH_CP_writeLiteral (l : Launch) (D : va_G) (kA : Nat → ClassId) (adK adV : Nat → Nat) (u : Nat → Nat) (rec : mF) (hG : GMh rec) (ih : ∀ t σ xs res, rec t σ xs = some res → hSem l D kA adK adV u t σ xs res) (σ : mS) (xs : List Int32) (res : mR) (h : u_1 (kH_CP_writeLiteral rec σ) xs = some res) : sH_CP_writeLiteral l D kA adK adV u σ xs res := by
  intro x0 hxs w tx
  subst hxs
  obtain ⟨σf, rf, dd⟩ := res
  have hmn : gle σ σf := qH_CP_writeLiteral rec hG σ x0 _ h
  have h : (if bin ((x0 : Int32) + 0) (σ.2.2 48) = true then (if (σ.2.1 48 (Int32.toNatClampNeg ((x0 : Int32) + 0))) = 1 then (rec tH_CP_writeLiteral_p25 σ [x0, 1]) else (rec tH_CP_writeLiteral_p25 σ [x0, 0])) else none) = some (σf, rf, dd) := h
  refine ax_MvY.of (by decide +kernel) (Nat.le_of_ble_eq_true rfl) ?_
  intro p e s m args below meth c C hnm hX
  replace C : ax_C p s m args meth c b_CP_writeLiteral "ClauseProver" 6 none D kA (va_A (cpW kA u w tx σ) s.heap.size) := C
  obtain ⟨F, hFe⟩ : ∃ z, z = dd + 12 := ⟨_, rfl⟩
  obtain ⟨Lo, hLoe⟩ : ∃ z, z = 48 * dd + 480 := ⟨_, rfl⟩
  obtain ⟨mc, hmce⟩ : ∃ z, z = σf.2.2 3001 - σ.2.2 3001 := ⟨_, rfl⟩
  obtain ⟨ms, hmse⟩ : ∃ z, z = σf.2.2 3002 - σ.2.2 3002 := ⟨_, rfl⟩
  obtain ⟨σ0, hσ0e⟩ : ∃ z, z = σ := ⟨_, rfl⟩
  obtain ⟨w0, hw0e⟩ : ∃ z, z = w := ⟨_, rfl⟩
  obtain ⟨tx0, htx0e⟩ : ∃ z, z = tx := ⟨_, rfl⟩
  suffices K : ∀ (cells slots : Nat), cells = 0 → slots = 0 → AW p l e { frames := F, cells := mc, slots := ms, locals := Lo } s m args below meth c D kA (va_A (cpW kA u w0 tx0 σ0) s.heap.size) 6 (ax_Qv below args s D kA (cpW kA u w0 tx0 σ0) mc ms (fun w1 => ∃ (w2 : Nat → Nat) (tx2 : Value), (∀ i, ([4] : List Nat).elem i = false → w2 i = w0 i) ∧ tx2 = tx0 ∧ w1 = cpW kA u w2 tx2 σf)) 0 [(0, .ref (u 0)), (1, .int x0)] [] (cpW kA u w tx σ) cells slots by
    have K := K 0 0 rfl rfl
    rw [hFe, hLoe, hmce, hmse, hσ0e, hw0e, htx0e] at K
    exact ax_ls ([(0, .ref (u 0)), (1, .int x0)]) [0, 1] rfl K
  replace C : ax_C p s m args meth c b_CP_writeLiteral "ClauseProver" 6 none D kA (va_A (cpW kA u w0 tx0 σ0) s.heap.size) := by rw [hσ0e, hw0e, htx0e]; exact C
  replace hX : SX adK adV (va_A (cpW kA u w0 tx0 σ0) s.heap.size) s s.heap := by rw [hσ0e, hw0e, htx0e]; exact hX
  intro cells slots hc0 hs0
  have hcq : cells + σf.2.2 3001 ≤ mc + σ.2.2 3001 := by have := hmn.1; omega
  have hsq : slots + σf.2.2 3002 ≤ ms + σ.2.2 3002 := by have := hmn.2; omega
  have hga : ∀ i, ([4] : List Nat).elem i = false → w i = w0 i := fun i _ => by rw [hw0e]
  have e9 : tx = tx0 := htx0e.symm
  subst e9
  have hF : dd + 12 ≤ F := by omega
  have hLo : 48 * dd + 480 ≤ Lo := by omega
  have hcm : cells ≤ mc := by have := hmn.1; omega
  have hsm : slots ≤ ms := by have := hmn.2; omega
  have hle : True := trivial
  have hm : True := trivial
  refine ax_aload_n (pc := 0) C d_CP_writeLiteral_0 rfl 0 rfl ?_
  refine cg_0_7_CP_60 (pc := 1) C d_CP_writeLiteral_1 ?_
  refine cg_54_0_CP_178 (pc := 4) C d_CP_writeLiteral_4 ?_
  refine cg_47_0_CP_110 (pc := 7) C d_CP_writeLiteral_7 ?_
  refine ax_astore_n (pc := 10) C d_CP_writeLiteral_10 rfl (Nat.le_of_ble_eq_true rfl) ([(2, .ref (w 48)), (0, .ref (u 0)), (1, .int x0)]) rfl ?_
  refine ax_aload_n (pc := 11) C d_CP_writeLiteral_11 rfl 0 rfl ?_
  refine ax_iload_n (pc := 12) C d_CP_writeLiteral_12 rfl 2 rfl ?_
  refine ax_iconst (pc := 13) C 0 d_CP_writeLiteral_13 (by decide +kernel) ?_
  refine ax_iadd (pc := 14) C d_CP_writeLiteral_14 ?_
  replace h := it_g h
  obtain ⟨hb, h⟩ := h
  refine cl_48 (pc := 15) C d_CP_writeLiteral_15 (bin_in hb) ?_
  refine ax_iconst (pc := 16) C 1 d_CP_writeLiteral_16 (by decide +kernel) ?_
  refine ax_icmp_ne (pc := 17) C 24 d_CP_writeLiteral_17 (by decide) (fun hc => ?_) (fun hc => ?_)
  · replace h := it_f hc h
    refine ax_iconst (pc := 24) C 0 d_CP_writeLiteral_24 (by decide +kernel) ?_
    refine ax_ls ([(0, .ref (u 0)), (1, .int x0), (2, .ref (w 48))]) [1, 2, 0] rfl ?_
    replace hm : sH_CP_writeLiteral_p25 l D kA adK adV u σ [x0, 0] (σf, rf, _) := ih tH_CP_writeLiteral_p25 _ _ _ h
    exact hm _ _ rfl w tx p e s m args below meth c F Lo mc ms cells slots σ0 w0 tx hF hLo hcq hsq hga C hX
  · replace h := it_t hc h
    refine ax_iconst (pc := 20) C 1 d_CP_writeLiteral_20 (by decide +kernel) ?_
    refine ax_goto (pc := 21) C 25 d_CP_writeLiteral_21 (by decide) ?_
    refine ax_ls ([(0, .ref (u 0)), (1, .int x0), (2, .ref (w 48))]) [1, 2, 0] rfl ?_
    replace hm : sH_CP_writeLiteral_p25 l D kA adK adV u σ [x0, 1] (σf, rf, _) := ih tH_CP_writeLiteral_p25 _ _ _ h
    exact hm _ _ rfl w tx p e s m args below meth c F Lo mc ms cells slots σ0 w0 tx hF hLo hcq hsq hga C hX
set_option maxHeartbeats 4000000 in
set_option maxRecDepth 100000 in
theorem oH_CP_writeLiteral_p25 (l : Launch) (D : va_G) (kA : Nat → ClassId) (adK adV : Nat → Nat) (u : Nat → Nat) (rec : mF) (hG : GMh rec) (ih : ∀ t σ xs res, rec t σ xs = some res → hSem l D kA adK adV u t σ xs res) (σ : mS) (xs : List Int32) (res : mR) (h : u_2 (kH_CP_writeLiteral_p25 rec σ) xs = some res) : sH_CP_writeLiteral_p25 l D kA adK adV u σ xs res := by
  intro x0 x1 hxs w tx
  subst hxs
  obtain ⟨σf, rf, dd⟩ := res
  have hmn : gle σ σf := qH_CP_writeLiteral_p25 rec hG σ x0 x1 _ h
  have h : (bnd (rec tH_Sto_sideAt σ [x0, 0]) (fun σ1 r1 => bnd (rec tH_Sto_sideAt σ1 [x0, 1]) (fun σ2 r2 => if bin r2 (σ2.2.2 48) = true then (if (σ2.2.1 48 (Int32.toNatClampNeg r2)) = 0 then (if x1 = 0 then (if rok σ2 301 4 = true then (lt_ (rAdd σ2 301 4 126) (fun σ13 => bnd (rec tH_CP_writeTerm σ13 [r1, r2]) (fun σ14 r14 => some (σ14, 0, 0)))) else none) else (bnd (rec tH_CP_writeTerm σ2 [r1, r2]) (fun σ16 r16 => some (σ16, 0, 0)))) else (bnd (rec tH_CP_writeTerm σ2 [r1, r2]) (fun σ3 r3 => if x1 = 0 then (if rok σ3 301 4 = true then (lt_ (rAdd σ3 301 4 32) (fun σ4 => if rok σ4 301 4 = true then (lt_ (rAdd σ4 301 4 33) (fun σ5 => if rok σ5 301 4 = true then (lt_ (rAdd σ5 301 4 61) (fun σ6 => if rok σ6 301 4 = true then (lt_ (rAdd σ6 301 4 32) (fun σ7 => if bin ((x0 : Int32) + 4) (σ7.2.2 48) = true then (bnd (rec tH_CP_writeTerm σ7 [r2, ((r2 : Int32) + (σ7.2.1 48 (Int32.toNatClampNeg ((x0 : Int32) + 4))))]) (fun σ8 r8 => some (σ8, 0, 0))) else none)) else none)) else none)) else none)) else none) else (if rok σ3 301 4 = true then (lt_ (rAdd σ3 301 4 32) (fun σ9 => if rok σ9 301 4 = true then (lt_ (rAdd σ9 301 4 61) (fun σ10 => if rok σ10 301 4 = true then (lt_ (rAdd σ10 301 4 32) (fun σ11 => if bin ((x0 : Int32) + 4) (σ11.2.2 48) = true then (bnd (rec tH_CP_writeTerm σ11 [r2, ((r2 : Int32) + (σ11.2.1 48 (Int32.toNatClampNeg ((x0 : Int32) + 4))))]) (fun σ12 r12 => some (σ12, 0, 0))) else none)) else none)) else none)) else none)))) else none))) = some (σf, rf, dd) := h
  intro p e s m args below meth c F Lo mc ms cells slots σ0 w0 tx0 hF hLo hcq hsq hga C hX
  dsimp only at hF hLo hcq hsq ⊢
  have hcm : cells ≤ mc := by have := hmn.1; omega
  have hsm : slots ≤ ms := by have := hmn.2; omega
  have hle : True := trivial
  have hm : True := trivial
  refine ax_istore_n (pc := 25) C d_CP_writeLiteral_25 rfl (Nat.le_of_ble_eq_true rfl) ([(3, .int x1), (0, .ref (u 0)), (1, .int x0), (2, .ref (w 48))]) rfl ?_
  refine ax_aload_n (pc := 26) C d_CP_writeLiteral_26 rfl 1 rfl ?_
  refine cg_0_7_CP_60 (pc := 27) C d_CP_writeLiteral_27 ?_
  refine ax_iload_n (pc := 30) C d_CP_writeLiteral_30 rfl 2 rfl ?_
  refine ax_iconst (pc := 31) C 0 d_CP_writeLiteral_31 (by decide +kernel) ?_
  replace h := it_b h
  obtain ⟨σ1, r1, d1_1, d2_1, h1, h, hd2, hd1⟩ := h
  replace hle := hG _ _ _ _ h1
  dsimp only at hle
  replace hmn : gle σ1 σf := gm_use h (gh_bnd hG (fun _ _ => (gm_if (gm_if (gm_if (gm_if (gm_lt (rAdd_le _ _ _ _) (gh_bnd hG (fun _ _ => gm_some))) gm_none) (gh_bnd hG (fun _ _ => gm_some))) (gh_bnd hG (fun _ _ => (gm_if (gm_if (gm_lt (rAdd_le _ _ _ _) (gm_if (gm_lt (rAdd_le _ _ _ _) (gm_if (gm_lt (rAdd_le _ _ _ _) (gm_if (gm_lt (rAdd_le _ _ _ _) (gm_if (gh_bnd hG (fun _ _ => gm_some)) gm_none)) gm_none)) gm_none)) gm_none)) gm_none) (gm_if (gm_lt (rAdd_le _ _ _ _) (gm_if (gm_lt (rAdd_le _ _ _ _) (gm_if (gm_lt (rAdd_le _ _ _ _) (gm_if (gh_bnd hG (fun _ _ => gm_some)) gm_none)) gm_none)) gm_none)) gm_none))))) gm_none)))
  replace hm : sH_Sto_sideAt l D kA adK adV u σ [x0, 0] (σ1, r1, d1_1) := ih tH_Sto_sideAt _ _ _ h1
  refine gh_Vi (pc := 32) C hX (As := [.int x0, .int 0]) (rest := []) (hm _ _ rfl w tx) ml_CP_195 54 rfl rfl rfl d_CP_writeLiteral_32 rfl rfl (by dsimp only; omega) (by dsimp only; omega) (by have := hmn.1; have := hle.1; dsimp only; omega) (by have := hmn.2; have := hle.2; dsimp only; omega) (Nat.le_of_ble_eq_true rfl) (fun r9 w1 hw => ?_)
  obtain ⟨hrq1, w1, tx1, hag1, htq1, hwq1⟩ := hw
  dsimp only at hwq1 hrq1
  subst hwq1
  replace hrq1 := hrq1.symm
  subst hrq1
  dsimp only
  replace htq1 := htq1.symm
  subst htq1
  rw [← hag1 48 rfl]
  have hga1 : ∀ i, ([4] : List Nat).elem i = false → w1 i = w0 i := fun i hi => (hag1 i (by revert hi; exact el_sub (by decide))).trans (hga i hi)
  replace hcq : (cells + (σ1.2.2 3001 - σ.2.2 3001)) + σf.2.2 3001 ≤ mc + σ1.2.2 3001 := by have := hmn.1; have := hle.1; omega
  replace hcm : (cells + (σ1.2.2 3001 - σ.2.2 3001)) ≤ mc := by have := hmn.1; have := hle.1; omega
  generalize cells + (σ1.2.2 3001 - σ.2.2 3001) = cells at hcq hcm ⊢
  replace hsq : (slots + (σ1.2.2 3002 - σ.2.2 3002)) + σf.2.2 3002 ≤ ms + σ1.2.2 3002 := by have := hmn.2; have := hle.2; omega
  replace hsm : (slots + (σ1.2.2 3002 - σ.2.2 3002)) ≤ ms := by have := hmn.2; have := hle.2; omega
  generalize slots + (σ1.2.2 3002 - σ.2.2 3002) = slots at hsq hsm ⊢
  replace hF : d2_1 + 12 ≤ F := by omega
  replace hLo : 48 * d2_1 + 480 ≤ Lo := by omega
  refine ax_istore (pc := 35) C d_CP_writeLiteral_35 (Nat.le_of_ble_eq_true rfl) ([(4, .int r1), (3, .int x1), (0, .ref (u 0)), (1, .int x0), (2, .ref (w1 48))]) rfl ?_
  refine ax_aload_n (pc := 37) C d_CP_writeLiteral_37 rfl 2 rfl ?_
  refine cg_0_7_CP_60 (pc := 38) C d_CP_writeLiteral_38 ?_
  refine ax_iload_n (pc := 41) C d_CP_writeLiteral_41 rfl 3 rfl ?_
  refine ax_iconst (pc := 42) C 1 d_CP_writeLiteral_42 (by decide +kernel) ?_
  replace h := it_b h
  obtain ⟨σ2, r2, d1_2, d2_2, h1, h, hd2, hd1⟩ := h
  replace hle := hG _ _ _ _ h1
  dsimp only at hle
  replace hmn : gle σ2 σf := gm_use h (gm_if (gm_if (gm_if (gm_if (gm_lt (rAdd_le _ _ _ _) (gh_bnd hG (fun _ _ => gm_some))) gm_none) (gh_bnd hG (fun _ _ => gm_some))) (gh_bnd hG (fun _ _ => (gm_if (gm_if (gm_lt (rAdd_le _ _ _ _) (gm_if (gm_lt (rAdd_le _ _ _ _) (gm_if (gm_lt (rAdd_le _ _ _ _) (gm_if (gm_lt (rAdd_le _ _ _ _) (gm_if (gh_bnd hG (fun _ _ => gm_some)) gm_none)) gm_none)) gm_none)) gm_none)) gm_none) (gm_if (gm_lt (rAdd_le _ _ _ _) (gm_if (gm_lt (rAdd_le _ _ _ _) (gm_if (gm_lt (rAdd_le _ _ _ _) (gm_if (gh_bnd hG (fun _ _ => gm_some)) gm_none)) gm_none)) gm_none)) gm_none))))) gm_none)
  replace hm : sH_Sto_sideAt l D kA adK adV u σ1 [x0, 1] (σ2, r2, d1_2) := ih tH_Sto_sideAt _ _ _ h1
  refine gh_Vi (pc := 43) C hX (As := [.int x0, .int 1]) (rest := []) (hm _ _ rfl w1 tx) ml_CP_195 54 rfl rfl rfl d_CP_writeLiteral_43 rfl rfl (by dsimp only; omega) (by dsimp only; omega) (by have := hmn.1; have := hle.1; dsimp only; omega) (by have := hmn.2; have := hle.2; dsimp only; omega) (Nat.le_of_ble_eq_true rfl) (fun r9 w1 hw => ?_)
  obtain ⟨hrq2, w2, tx2, hag2, htq2, hwq2⟩ := hw
  dsimp only at hwq2 hrq2
  subst hwq2
  replace hrq2 := hrq2.symm
  subst hrq2
  dsimp only
  replace htq2 := htq2.symm
  subst htq2
  rw [← hag2 48 rfl]
  have hga2 : ∀ i, ([4] : List Nat).elem i = false → w2 i = w0 i := fun i hi => (hag2 i (by revert hi; exact el_sub (by decide))).trans (hga1 i hi)
  replace hcq : (cells + (σ2.2.2 3001 - σ1.2.2 3001)) + σf.2.2 3001 ≤ mc + σ2.2.2 3001 := by have := hmn.1; have := hle.1; omega
  replace hcm : (cells + (σ2.2.2 3001 - σ1.2.2 3001)) ≤ mc := by have := hmn.1; have := hle.1; omega
  generalize cells + (σ2.2.2 3001 - σ1.2.2 3001) = cells at hcq hcm ⊢
  replace hsq : (slots + (σ2.2.2 3002 - σ1.2.2 3002)) + σf.2.2 3002 ≤ ms + σ2.2.2 3002 := by have := hmn.2; have := hle.2; omega
  replace hsm : (slots + (σ2.2.2 3002 - σ1.2.2 3002)) ≤ ms := by have := hmn.2; have := hle.2; omega
  generalize slots + (σ2.2.2 3002 - σ1.2.2 3002) = slots at hsq hsm ⊢
  replace hF : d2_2 + 12 ≤ F := by omega
  replace hLo : 48 * d2_2 + 480 ≤ Lo := by omega
  refine ax_istore (pc := 46) C d_CP_writeLiteral_46 (Nat.le_of_ble_eq_true rfl) ([(5, .int r2), (4, .int r1), (3, .int x1), (0, .ref (u 0)), (1, .int x0), (2, .ref (w2 48))]) rfl ?_
  refine ax_aload_n (pc := 48) C d_CP_writeLiteral_48 rfl 5 rfl ?_
  refine ax_iload (pc := 49) C d_CP_writeLiteral_49 0 rfl ?_
  replace h := it_g h
  obtain ⟨hb, h⟩ := h
  refine cl_48 (pc := 51) C d_CP_writeLiteral_51 (bin_in hb) ?_
  refine ax_if_ne (pc := 52) C 79 d_CP_writeLiteral_52 (by decide) (fun hc => ?_) (fun hc => ?_)
  · replace h := it_f hc h
    refine ax_aload_n (pc := 79) C d_CP_writeLiteral_79 rfl 3 rfl ?_
    refine ax_iload (pc := 80) C d_CP_writeLiteral_80 1 rfl ?_
    refine ax_iload (pc := 82) C d_CP_writeLiteral_82 0 rfl ?_
    replace h := it_b h
    obtain ⟨σ3, r3, d1_3, d2_3, h1, h, hd2, hd1⟩ := h
    replace hle := hG _ _ _ _ h1
    dsimp only at hle
    replace hmn : gle σ3 σf := gm_use h (gm_if (gm_if (gm_lt (rAdd_le _ _ _ _) (gm_if (gm_lt (rAdd_le _ _ _ _) (gm_if (gm_lt (rAdd_le _ _ _ _) (gm_if (gm_lt (rAdd_le _ _ _ _) (gm_if (gh_bnd hG (fun _ _ => gm_some)) gm_none)) gm_none)) gm_none)) gm_none)) gm_none) (gm_if (gm_lt (rAdd_le _ _ _ _) (gm_if (gm_lt (rAdd_le _ _ _ _) (gm_if (gm_lt (rAdd_le _ _ _ _) (gm_if (gh_bnd hG (fun _ _ => gm_some)) gm_none)) gm_none)) gm_none)) gm_none))
    replace hm : sH_CP_writeTerm l D kA adK adV u σ2 [r1, r2] (σ3, r3, d1_3) := ih tH_CP_writeTerm _ _ _ h1
    refine gh_Vv (pc := 84) C hX (As := [.int r1, .int r2]) (rest := []) (hm _ _ rfl w2 tx) ml_CP_202 0 rfl rfl rfl d_CP_writeLiteral_84 rfl rfl (by dsimp only; omega) (by dsimp only; omega) (by have := hmn.1; have := hle.1; dsimp only; omega) (by have := hmn.2; have := hle.2; dsimp only; omega) (Nat.le_of_ble_eq_true rfl) (fun w1 hw => ?_)
    obtain ⟨w3, tx3, hag3, htq3, hwq3⟩ := hw
    dsimp only at hwq3
    subst hwq3
    dsimp only
    replace htq3 := htq3.symm
    subst htq3
    rw [← hag3 48 rfl]
    have hga3 : ∀ i, ([4] : List Nat).elem i = false → w3 i = w0 i := fun i hi => (hag3 i (by revert hi; exact el_sub (by decide))).trans (hga2 i hi)
    replace hcq : (cells + (σ3.2.2 3001 - σ2.2.2 3001)) + σf.2.2 3001 ≤ mc + σ3.2.2 3001 := by have := hmn.1; have := hle.1; omega
    replace hcm : (cells + (σ3.2.2 3001 - σ2.2.2 3001)) ≤ mc := by have := hmn.1; have := hle.1; omega
    generalize cells + (σ3.2.2 3001 - σ2.2.2 3001) = cells at hcq hcm ⊢
    replace hsq : (slots + (σ3.2.2 3002 - σ2.2.2 3002)) + σf.2.2 3002 ≤ ms + σ3.2.2 3002 := by have := hmn.2; have := hle.2; omega
    replace hsm : (slots + (σ3.2.2 3002 - σ2.2.2 3002)) ≤ ms := by have := hmn.2; have := hle.2; omega
    generalize slots + (σ3.2.2 3002 - σ2.2.2 3002) = slots at hsq hsm ⊢
    replace hF : d2_3 + 12 ≤ F := by omega
    replace hLo : 48 * d2_3 + 480 ≤ Lo := by omega
    refine ax_aload_n (pc := 87) C d_CP_writeLiteral_87 rfl 3 rfl ?_
    refine ax_iload_n (pc := 88) C d_CP_writeLiteral_88 rfl 2 rfl ?_
    refine ax_if_eq (pc := 89) C 97 d_CP_writeLiteral_89 (by decide) (fun hc => ?_) (fun hc => ?_)
    · replace h := it_t hc h
      refine ax_ldcS (pc := 97) C hX rfl (i := 5) (by decide) rfl d_CP_writeLiteral_97 ?_
      replace h := it_g h
      obtain ⟨hb4, h⟩ := h
      replace h := it_l h
      replace h := it_g h
      obtain ⟨hb5, h⟩ := h
      replace h := it_l h
      replace h := it_g h
      obtain ⟨hb6, h⟩ := h
      replace h := it_l h
      replace h := it_g h
      obtain ⟨hb7, h⟩ := h
      replace h := it_l h
      have ht7 : tkL σ3 (stB.getD 5 []) = true := (show tkL σ3 [32, 33, 61, 32] = true from (tkL_c hb4 (tkL_c hb5 (tkL_c hb6 (tkL_c hb7 rfl)))))
      have hmt7 : mTx σ3 (stB.getD 5 []) = (rAdd (rAdd (rAdd (rAdd σ3 301 4 32) 301 4 33) 301 4 61) 301 4 32) := rfl
      have hM7 := c_wtext l D kA (adK := adK) (adV := adV) (u := u) (w := w3) (tx := tx) (i := 5) (by decide) ht7
      rw [hmt7] at hM7
      replace hle := mTx_le (stB.getD 5 []) σ3
      rw [hmt7] at hle
      replace hmn : gle (rAdd (rAdd (rAdd (rAdd σ3 301 4 32) 301 4 33) 301 4 61) 301 4 32) σf := gm_use h (gm_if (gh_bnd hG (fun _ _ => gm_some)) gm_none)
      clear ht7 hmt7
      refine gh_Vv (pc := 99) C hX (As := [.ref (adK 5)]) (rest := []) hM7 ml_CP_183 0 rfl rfl rfl d_CP_writeLiteral_99 rfl rfl (by dsimp only; omega) (by dsimp only; omega) (by have := hmn.1; have := hle.1; dsimp only; omega) (by have := hmn.2; have := hle.2; dsimp only; omega) (Nat.le_of_ble_eq_true rfl) (fun w1 hw => ?_)
      obtain ⟨w7, hag7, hwq7⟩ := hw
      subst hwq7
      clear hM7
      generalize (rAdd (rAdd (rAdd (rAdd σ3 301 4 32) 301 4 33) 301 4 61) 301 4 32) = σ7 at h hmn hle ⊢
      rw [← hag7 48 rfl]
      have hga7 : ∀ i, ([4] : List Nat).elem i = false → w7 i = w0 i := fun i hi => (hag7 i (by revert hi; exact el_sub (by decide))).trans (hga3 i hi)
      replace hcq : (cells + (σ7.2.2 3001 - σ3.2.2 3001)) + σf.2.2 3001 ≤ mc + σ7.2.2 3001 := by have := hmn.1; have := hle.1; omega
      replace hcm : (cells + (σ7.2.2 3001 - σ3.2.2 3001)) ≤ mc := by have := hmn.1; have := hle.1; omega
      generalize cells + (σ7.2.2 3001 - σ3.2.2 3001) = cells at hcq hcm ⊢
      replace hsq : (slots + (σ7.2.2 3002 - σ3.2.2 3002)) + σf.2.2 3002 ≤ ms + σ7.2.2 3002 := by have := hmn.2; have := hle.2; omega
      replace hsm : (slots + (σ7.2.2 3002 - σ3.2.2 3002)) ≤ ms := by have := hmn.2; have := hle.2; omega
      generalize slots + (σ7.2.2 3002 - σ3.2.2 3002) = slots at hsq hsm ⊢
      refine ax_aload_n (pc := 102) C d_CP_writeLiteral_102 rfl 3 rfl ?_
      refine ax_iload (pc := 103) C d_CP_writeLiteral_103 0 rfl ?_
      refine ax_iload (pc := 105) C d_CP_writeLiteral_105 0 rfl ?_
      refine ax_aload_n (pc := 107) C d_CP_writeLiteral_107 rfl 5 rfl ?_
      refine ax_iload_n (pc := 108) C d_CP_writeLiteral_108 rfl 4 rfl ?_
      refine ax_iconst (pc := 109) C 4 d_CP_writeLiteral_109 (by decide +kernel) ?_
      refine ax_iadd (pc := 110) C d_CP_writeLiteral_110 ?_
      replace h := it_g h
      obtain ⟨hb, h⟩ := h
      refine cl_48 (pc := 111) C d_CP_writeLiteral_111 (bin_in hb) ?_
      refine ax_iadd (pc := 112) C d_CP_writeLiteral_112 ?_
      replace h := it_b h
      obtain ⟨σ8, r8, d1_8, d2_8, h1, h, hd2, hd1⟩ := h
      replace hle := hG _ _ _ _ h1
      dsimp only at hle
      replace hmn : gle σ8 σf := gm_use h gm_some
      replace hm : sH_CP_writeTerm l D kA adK adV u σ7 [r2, ((r2 : Int32) + (σ7.2.1 48 (Int32.toNatClampNeg ((x0 : Int32) + 4))))] (σ8, r8, d1_8) := ih tH_CP_writeTerm _ _ _ h1
      refine gh_Vv (pc := 113) C hX (As := [.int r2, .int ((r2 : Int32) + (σ7.2.1 48 (Int32.toNatClampNeg ((x0 : Int32) + 4))))]) (rest := []) (hm _ _ rfl w7 tx) ml_CP_202 0 rfl rfl rfl d_CP_writeLiteral_113 rfl rfl (by dsimp only; omega) (by dsimp only; omega) (by have := hmn.1; have := hle.1; dsimp only; omega) (by have := hmn.2; have := hle.2; dsimp only; omega) (Nat.le_of_ble_eq_true rfl) (fun w1 hw => ?_)
      obtain ⟨w8, tx8, hag8, htq8, hwq8⟩ := hw
      dsimp only at hwq8
      subst hwq8
      dsimp only
      replace htq8 := htq8.symm
      subst htq8
      rw [← hag8 48 rfl]
      have hga8 : ∀ i, ([4] : List Nat).elem i = false → w8 i = w0 i := fun i hi => (hag8 i (by revert hi; exact el_sub (by decide))).trans (hga7 i hi)
      replace hcq : (cells + (σ8.2.2 3001 - σ7.2.2 3001)) + σf.2.2 3001 ≤ mc + σ8.2.2 3001 := by have := hmn.1; have := hle.1; omega
      replace hcm : (cells + (σ8.2.2 3001 - σ7.2.2 3001)) ≤ mc := by have := hmn.1; have := hle.1; omega
      generalize cells + (σ8.2.2 3001 - σ7.2.2 3001) = cells at hcq hcm ⊢
      replace hsq : (slots + (σ8.2.2 3002 - σ7.2.2 3002)) + σf.2.2 3002 ≤ ms + σ8.2.2 3002 := by have := hmn.2; have := hle.2; omega
      replace hsm : (slots + (σ8.2.2 3002 - σ7.2.2 3002)) ≤ ms := by have := hmn.2; have := hle.2; omega
      generalize slots + (σ8.2.2 3002 - σ7.2.2 3002) = slots at hsq hsm ⊢
      replace hF : d2_8 + 12 ≤ F := by omega
      replace hLo : 48 * d2_8 + 480 ≤ Lo := by omega
      cases h
      exact ax_vret (pc := 116) C d_CP_writeLiteral_116 ⟨w8, tx, hga8, rfl, rfl⟩ hcm hsm
    · replace h := it_f hc h
      refine ax_ldcS (pc := 92) C hX rfl (i := 4) (by decide) rfl d_CP_writeLiteral_92 ?_
      refine ax_goto (pc := 94) C 99 d_CP_writeLiteral_94 (by decide) ?_
      replace h := it_g h
      obtain ⟨hb9, h⟩ := h
      replace h := it_l h
      replace h := it_g h
      obtain ⟨hb10, h⟩ := h
      replace h := it_l h
      replace h := it_g h
      obtain ⟨hb11, h⟩ := h
      replace h := it_l h
      have ht11 : tkL σ3 (stB.getD 4 []) = true := (show tkL σ3 [32, 61, 32] = true from (tkL_c hb9 (tkL_c hb10 (tkL_c hb11 rfl))))
      have hmt11 : mTx σ3 (stB.getD 4 []) = (rAdd (rAdd (rAdd σ3 301 4 32) 301 4 61) 301 4 32) := rfl
      have hM11 := c_wtext l D kA (adK := adK) (adV := adV) (u := u) (w := w3) (tx := tx) (i := 4) (by decide) ht11
      rw [hmt11] at hM11
      replace hle := mTx_le (stB.getD 4 []) σ3
      rw [hmt11] at hle
      replace hmn : gle (rAdd (rAdd (rAdd σ3 301 4 32) 301 4 61) 301 4 32) σf := gm_use h (gm_if (gh_bnd hG (fun _ _ => gm_some)) gm_none)
      clear ht11 hmt11
      refine gh_Vv (pc := 99) C hX (As := [.ref (adK 4)]) (rest := []) hM11 ml_CP_183 0 rfl rfl rfl d_CP_writeLiteral_99 rfl rfl (by dsimp only; omega) (by dsimp only; omega) (by have := hmn.1; have := hle.1; dsimp only; omega) (by have := hmn.2; have := hle.2; dsimp only; omega) (Nat.le_of_ble_eq_true rfl) (fun w1 hw => ?_)
      obtain ⟨w11, hag11, hwq11⟩ := hw
      subst hwq11
      clear hM11
      generalize (rAdd (rAdd (rAdd σ3 301 4 32) 301 4 61) 301 4 32) = σ11 at h hmn hle ⊢
      rw [← hag11 48 rfl]
      have hga11 : ∀ i, ([4] : List Nat).elem i = false → w11 i = w0 i := fun i hi => (hag11 i (by revert hi; exact el_sub (by decide))).trans (hga3 i hi)
      replace hcq : (cells + (σ11.2.2 3001 - σ3.2.2 3001)) + σf.2.2 3001 ≤ mc + σ11.2.2 3001 := by have := hmn.1; have := hle.1; omega
      replace hcm : (cells + (σ11.2.2 3001 - σ3.2.2 3001)) ≤ mc := by have := hmn.1; have := hle.1; omega
      generalize cells + (σ11.2.2 3001 - σ3.2.2 3001) = cells at hcq hcm ⊢
      replace hsq : (slots + (σ11.2.2 3002 - σ3.2.2 3002)) + σf.2.2 3002 ≤ ms + σ11.2.2 3002 := by have := hmn.2; have := hle.2; omega
      replace hsm : (slots + (σ11.2.2 3002 - σ3.2.2 3002)) ≤ ms := by have := hmn.2; have := hle.2; omega
      generalize slots + (σ11.2.2 3002 - σ3.2.2 3002) = slots at hsq hsm ⊢
      refine ax_aload_n (pc := 102) C d_CP_writeLiteral_102 rfl 3 rfl ?_
      refine ax_iload (pc := 103) C d_CP_writeLiteral_103 0 rfl ?_
      refine ax_iload (pc := 105) C d_CP_writeLiteral_105 0 rfl ?_
      refine ax_aload_n (pc := 107) C d_CP_writeLiteral_107 rfl 5 rfl ?_
      refine ax_iload_n (pc := 108) C d_CP_writeLiteral_108 rfl 4 rfl ?_
      refine ax_iconst (pc := 109) C 4 d_CP_writeLiteral_109 (by decide +kernel) ?_
      refine ax_iadd (pc := 110) C d_CP_writeLiteral_110 ?_
      replace h := it_g h
      obtain ⟨hb, h⟩ := h
      refine cl_48 (pc := 111) C d_CP_writeLiteral_111 (bin_in hb) ?_
      refine ax_iadd (pc := 112) C d_CP_writeLiteral_112 ?_
      replace h := it_b h
      obtain ⟨σ12, r12, d1_12, d2_12, h1, h, hd2, hd1⟩ := h
      replace hle := hG _ _ _ _ h1
      dsimp only at hle
      replace hmn : gle σ12 σf := gm_use h gm_some
      replace hm : sH_CP_writeTerm l D kA adK adV u σ11 [r2, ((r2 : Int32) + (σ11.2.1 48 (Int32.toNatClampNeg ((x0 : Int32) + 4))))] (σ12, r12, d1_12) := ih tH_CP_writeTerm _ _ _ h1
      refine gh_Vv (pc := 113) C hX (As := [.int r2, .int ((r2 : Int32) + (σ11.2.1 48 (Int32.toNatClampNeg ((x0 : Int32) + 4))))]) (rest := []) (hm _ _ rfl w11 tx) ml_CP_202 0 rfl rfl rfl d_CP_writeLiteral_113 rfl rfl (by dsimp only; omega) (by dsimp only; omega) (by have := hmn.1; have := hle.1; dsimp only; omega) (by have := hmn.2; have := hle.2; dsimp only; omega) (Nat.le_of_ble_eq_true rfl) (fun w1 hw => ?_)
      obtain ⟨w12, tx12, hag12, htq12, hwq12⟩ := hw
      dsimp only at hwq12
      subst hwq12
      dsimp only
      replace htq12 := htq12.symm
      subst htq12
      rw [← hag12 48 rfl]
      have hga12 : ∀ i, ([4] : List Nat).elem i = false → w12 i = w0 i := fun i hi => (hag12 i (by revert hi; exact el_sub (by decide))).trans (hga11 i hi)
      replace hcq : (cells + (σ12.2.2 3001 - σ11.2.2 3001)) + σf.2.2 3001 ≤ mc + σ12.2.2 3001 := by have := hmn.1; have := hle.1; omega
      replace hcm : (cells + (σ12.2.2 3001 - σ11.2.2 3001)) ≤ mc := by have := hmn.1; have := hle.1; omega
      generalize cells + (σ12.2.2 3001 - σ11.2.2 3001) = cells at hcq hcm ⊢
      replace hsq : (slots + (σ12.2.2 3002 - σ11.2.2 3002)) + σf.2.2 3002 ≤ ms + σ12.2.2 3002 := by have := hmn.2; have := hle.2; omega
      replace hsm : (slots + (σ12.2.2 3002 - σ11.2.2 3002)) ≤ ms := by have := hmn.2; have := hle.2; omega
      generalize slots + (σ12.2.2 3002 - σ11.2.2 3002) = slots at hsq hsm ⊢
      replace hF : d2_12 + 12 ≤ F := by omega
      replace hLo : 48 * d2_12 + 480 ≤ Lo := by omega
      cases h
      exact ax_vret (pc := 116) C d_CP_writeLiteral_116 ⟨w12, tx, hga12, rfl, rfl⟩ hcm hsm
  · replace h := it_t hc h
    refine ax_aload_n (pc := 55) C d_CP_writeLiteral_55 rfl 3 rfl ?_
    refine ax_iload_n (pc := 56) C d_CP_writeLiteral_56 rfl 2 rfl ?_
    refine ax_if_eq (pc := 57) C 65 d_CP_writeLiteral_57 (by decide) (fun hc => ?_) (fun hc => ?_)
    · replace h := it_t hc h
      refine ax_ldcS (pc := 65) C hX rfl (i := 3) (by decide) rfl d_CP_writeLiteral_65 ?_
      replace h := it_g h
      obtain ⟨hb13, h⟩ := h
      replace h := it_l h
      have ht13 : tkL σ2 (stB.getD 3 []) = true := (show tkL σ2 [126] = true from (tkL_c hb13 rfl))
      have hmt13 : mTx σ2 (stB.getD 3 []) = (rAdd σ2 301 4 126) := rfl
      have hM13 := c_wtext l D kA (adK := adK) (adV := adV) (u := u) (w := w2) (tx := tx) (i := 3) (by decide) ht13
      rw [hmt13] at hM13
      replace hle := mTx_le (stB.getD 3 []) σ2
      rw [hmt13] at hle
      replace hmn : gle (rAdd σ2 301 4 126) σf := gm_use h (gh_bnd hG (fun _ _ => gm_some))
      clear ht13 hmt13
      refine gh_Vv (pc := 67) C hX (As := [.ref (adK 3)]) (rest := []) hM13 ml_CP_183 0 rfl rfl rfl d_CP_writeLiteral_67 rfl rfl (by dsimp only; omega) (by dsimp only; omega) (by have := hmn.1; have := hle.1; dsimp only; omega) (by have := hmn.2; have := hle.2; dsimp only; omega) (Nat.le_of_ble_eq_true rfl) (fun w1 hw => ?_)
      obtain ⟨w13, hag13, hwq13⟩ := hw
      subst hwq13
      clear hM13
      generalize (rAdd σ2 301 4 126) = σ13 at h hmn hle ⊢
      rw [← hag13 48 rfl]
      have hga13 : ∀ i, ([4] : List Nat).elem i = false → w13 i = w0 i := fun i hi => (hag13 i (by revert hi; exact el_sub (by decide))).trans (hga2 i hi)
      replace hcq : (cells + (σ13.2.2 3001 - σ2.2.2 3001)) + σf.2.2 3001 ≤ mc + σ13.2.2 3001 := by have := hmn.1; have := hle.1; omega
      replace hcm : (cells + (σ13.2.2 3001 - σ2.2.2 3001)) ≤ mc := by have := hmn.1; have := hle.1; omega
      generalize cells + (σ13.2.2 3001 - σ2.2.2 3001) = cells at hcq hcm ⊢
      replace hsq : (slots + (σ13.2.2 3002 - σ2.2.2 3002)) + σf.2.2 3002 ≤ ms + σ13.2.2 3002 := by have := hmn.2; have := hle.2; omega
      replace hsm : (slots + (σ13.2.2 3002 - σ2.2.2 3002)) ≤ ms := by have := hmn.2; have := hle.2; omega
      generalize slots + (σ13.2.2 3002 - σ2.2.2 3002) = slots at hsq hsm ⊢
      refine ax_aload_n (pc := 70) C d_CP_writeLiteral_70 rfl 3 rfl ?_
      refine ax_iload (pc := 71) C d_CP_writeLiteral_71 1 rfl ?_
      refine ax_iload (pc := 73) C d_CP_writeLiteral_73 0 rfl ?_
      replace h := it_b h
      obtain ⟨σ14, r14, d1_14, d2_14, h1, h, hd2, hd1⟩ := h
      replace hle := hG _ _ _ _ h1
      dsimp only at hle
      replace hmn : gle σ14 σf := gm_use h gm_some
      replace hm : sH_CP_writeTerm l D kA adK adV u σ13 [r1, r2] (σ14, r14, d1_14) := ih tH_CP_writeTerm _ _ _ h1
      refine gh_Vv (pc := 75) C hX (As := [.int r1, .int r2]) (rest := []) (hm _ _ rfl w13 tx) ml_CP_202 0 rfl rfl rfl d_CP_writeLiteral_75 rfl rfl (by dsimp only; omega) (by dsimp only; omega) (by have := hmn.1; have := hle.1; dsimp only; omega) (by have := hmn.2; have := hle.2; dsimp only; omega) (Nat.le_of_ble_eq_true rfl) (fun w1 hw => ?_)
      obtain ⟨w14, tx14, hag14, htq14, hwq14⟩ := hw
      dsimp only at hwq14
      subst hwq14
      dsimp only
      replace htq14 := htq14.symm
      subst htq14
      rw [← hag14 48 rfl]
      have hga14 : ∀ i, ([4] : List Nat).elem i = false → w14 i = w0 i := fun i hi => (hag14 i (by revert hi; exact el_sub (by decide))).trans (hga13 i hi)
      replace hcq : (cells + (σ14.2.2 3001 - σ13.2.2 3001)) + σf.2.2 3001 ≤ mc + σ14.2.2 3001 := by have := hmn.1; have := hle.1; omega
      replace hcm : (cells + (σ14.2.2 3001 - σ13.2.2 3001)) ≤ mc := by have := hmn.1; have := hle.1; omega
      generalize cells + (σ14.2.2 3001 - σ13.2.2 3001) = cells at hcq hcm ⊢
      replace hsq : (slots + (σ14.2.2 3002 - σ13.2.2 3002)) + σf.2.2 3002 ≤ ms + σ14.2.2 3002 := by have := hmn.2; have := hle.2; omega
      replace hsm : (slots + (σ14.2.2 3002 - σ13.2.2 3002)) ≤ ms := by have := hmn.2; have := hle.2; omega
      generalize slots + (σ14.2.2 3002 - σ13.2.2 3002) = slots at hsq hsm ⊢
      replace hF : d2_14 + 12 ≤ F := by omega
      replace hLo : 48 * d2_14 + 480 ≤ Lo := by omega
      cases h
      exact ax_vret (pc := 78) C d_CP_writeLiteral_78 ⟨w14, tx, hga14, rfl, rfl⟩ hcm hsm
    · replace h := it_f hc h
      refine ax_ldcS (pc := 60) C hX rfl (i := 2) (by decide) rfl d_CP_writeLiteral_60 ?_
      refine ax_goto (pc := 62) C 67 d_CP_writeLiteral_62 (by decide) ?_
      have ht15 : tkL σ2 (stB.getD 2 []) = true := (show tkL σ2 [] = true from rfl)
      have hmt15 : mTx σ2 (stB.getD 2 []) = σ2 := rfl
      have hM15 := c_wtext l D kA (adK := adK) (adV := adV) (u := u) (w := w2) (tx := tx) (i := 2) (by decide) ht15
      rw [hmt15] at hM15
      replace hle := mTx_le (stB.getD 2 []) σ2
      rw [hmt15] at hle
      replace hmn : gle σ2 σf := gm_use h (gh_bnd hG (fun _ _ => gm_some))
      clear ht15 hmt15
      refine gh_Vv (pc := 67) C hX (As := [.ref (adK 2)]) (rest := []) hM15 ml_CP_183 0 rfl rfl rfl d_CP_writeLiteral_67 rfl rfl (by dsimp only; omega) (by dsimp only; omega) (by have := hmn.1; have := hle.1; dsimp only; omega) (by have := hmn.2; have := hle.2; dsimp only; omega) (Nat.le_of_ble_eq_true rfl) (fun w1 hw => ?_)
      obtain ⟨w15, hag15, hwq15⟩ := hw
      subst hwq15
      clear hM15
      rw [← hag15 48 rfl]
      have hga15 : ∀ i, ([4] : List Nat).elem i = false → w15 i = w0 i := fun i hi => (hag15 i (by revert hi; exact el_sub (by decide))).trans (hga2 i hi)
      replace hcq : (cells + (σ2.2.2 3001 - σ2.2.2 3001)) + σf.2.2 3001 ≤ mc + σ2.2.2 3001 := by have := hmn.1; have := hle.1; omega
      replace hcm : (cells + (σ2.2.2 3001 - σ2.2.2 3001)) ≤ mc := by have := hmn.1; have := hle.1; omega
      generalize cells + (σ2.2.2 3001 - σ2.2.2 3001) = cells at hcq hcm ⊢
      replace hsq : (slots + (σ2.2.2 3002 - σ2.2.2 3002)) + σf.2.2 3002 ≤ ms + σ2.2.2 3002 := by have := hmn.2; have := hle.2; omega
      replace hsm : (slots + (σ2.2.2 3002 - σ2.2.2 3002)) ≤ ms := by have := hmn.2; have := hle.2; omega
      generalize slots + (σ2.2.2 3002 - σ2.2.2 3002) = slots at hsq hsm ⊢
      refine ax_aload_n (pc := 70) C d_CP_writeLiteral_70 rfl 3 rfl ?_
      refine ax_iload (pc := 71) C d_CP_writeLiteral_71 1 rfl ?_
      refine ax_iload (pc := 73) C d_CP_writeLiteral_73 0 rfl ?_
      replace h := it_b h
      obtain ⟨σ16, r16, d1_16, d2_16, h1, h, hd2, hd1⟩ := h
      replace hle := hG _ _ _ _ h1
      dsimp only at hle
      replace hmn : gle σ16 σf := gm_use h gm_some
      replace hm : sH_CP_writeTerm l D kA adK adV u σ2 [r1, r2] (σ16, r16, d1_16) := ih tH_CP_writeTerm _ _ _ h1
      refine gh_Vv (pc := 75) C hX (As := [.int r1, .int r2]) (rest := []) (hm _ _ rfl w15 tx) ml_CP_202 0 rfl rfl rfl d_CP_writeLiteral_75 rfl rfl (by dsimp only; omega) (by dsimp only; omega) (by have := hmn.1; have := hle.1; dsimp only; omega) (by have := hmn.2; have := hle.2; dsimp only; omega) (Nat.le_of_ble_eq_true rfl) (fun w1 hw => ?_)
      obtain ⟨w16, tx16, hag16, htq16, hwq16⟩ := hw
      dsimp only at hwq16
      subst hwq16
      dsimp only
      replace htq16 := htq16.symm
      subst htq16
      rw [← hag16 48 rfl]
      have hga16 : ∀ i, ([4] : List Nat).elem i = false → w16 i = w0 i := fun i hi => (hag16 i (by revert hi; exact el_sub (by decide))).trans (hga15 i hi)
      replace hcq : (cells + (σ16.2.2 3001 - σ2.2.2 3001)) + σf.2.2 3001 ≤ mc + σ16.2.2 3001 := by have := hmn.1; have := hle.1; omega
      replace hcm : (cells + (σ16.2.2 3001 - σ2.2.2 3001)) ≤ mc := by have := hmn.1; have := hle.1; omega
      generalize cells + (σ16.2.2 3001 - σ2.2.2 3001) = cells at hcq hcm ⊢
      replace hsq : (slots + (σ16.2.2 3002 - σ2.2.2 3002)) + σf.2.2 3002 ≤ ms + σ16.2.2 3002 := by have := hmn.2; have := hle.2; omega
      replace hsm : (slots + (σ16.2.2 3002 - σ2.2.2 3002)) ≤ ms := by have := hmn.2; have := hle.2; omega
      generalize slots + (σ16.2.2 3002 - σ2.2.2 3002) = slots at hsq hsm ⊢
      replace hF : d2_16 + 12 ≤ F := by omega
      replace hLo : 48 * d2_16 + 480 ≤ Lo := by omega
      cases h
      exact ax_vret (pc := 78) C d_CP_writeLiteral_78 ⟨w16, tx, hga16, rfl, rfl⟩ hcm hsm
set_option maxHeartbeats 4000000 in
set_option maxRecDepth 100000 in
theorem oH_Sto_has (l : Launch) (D : va_G) (kA : Nat → ClassId) (adK adV : Nat → Nat) (u : Nat → Nat) (rec : mF) (hG : GMh rec) (ih : ∀ t σ xs res, rec t σ xs = some res → hSem l D kA adK adV u t σ xs res) (σ : mS) (xs : List Int32) (res : mR) (h : u_1 (kH_Sto_has rec σ) xs = some res) : sH_Sto_has l D kA adK adV u σ xs res := by
  intro x0 hxs w tx
  subst hxs
  obtain ⟨σf, rf, dd⟩ := res
  have hmn : gle σ σf := qH_Sto_has rec hG σ x0 _ h
  have h : (if x0 < 0 then (rec tH_Sto_has_p16 σ [x0]) else (if (σ.1 5402) ≤ x0 then (rec tH_Sto_has_p16 σ [x0]) else (rec tH_Sto_has_p17 σ [x0, 1]))) = some (σf, rf, dd) := h
  refine ax_MiY.of (by decide +kernel) (Nat.le_of_ble_eq_true rfl) ?_
  intro p e s m args below meth c C hnm hX
  replace C : ax_C p s m args meth c b_Sto_has "ClauseProver$Store" 2 (some .boolean) D kA (va_A (cpW kA u w tx σ) s.heap.size) := C
  obtain ⟨F, hFe⟩ : ∃ z, z = dd + 12 := ⟨_, rfl⟩
  obtain ⟨Lo, hLoe⟩ : ∃ z, z = 48 * dd + 480 := ⟨_, rfl⟩
  obtain ⟨mc, hmce⟩ : ∃ z, z = σf.2.2 3001 - σ.2.2 3001 := ⟨_, rfl⟩
  obtain ⟨ms, hmse⟩ : ∃ z, z = σf.2.2 3002 - σ.2.2 3002 := ⟨_, rfl⟩
  obtain ⟨σ0, hσ0e⟩ : ∃ z, z = σ := ⟨_, rfl⟩
  obtain ⟨w0, hw0e⟩ : ∃ z, z = w := ⟨_, rfl⟩
  obtain ⟨tx0, htx0e⟩ : ∃ z, z = tx := ⟨_, rfl⟩
  suffices K : ∀ (cells slots : Nat), cells = 0 → slots = 0 → AW p l e { frames := F, cells := mc, slots := ms, locals := Lo } s m args below meth c D kA (va_A (cpW kA u w0 tx0 σ0) s.heap.size) 2 (ax_Qi below args s D kA (cpW kA u w0 tx0 σ0) mc ms (fun r w1 => r = rf ∧ ∃ (w2 : Nat → Nat) (tx2 : Value), (∀ i, ([] : List Nat).elem i = false → w2 i = w0 i) ∧ tx2 = tx0 ∧ w1 = cpW kA u w2 tx2 σf)) 0 [(0, .ref (u 54)), (1, .int x0)] [] (cpW kA u w tx σ) cells slots by
    have K := K 0 0 rfl rfl
    rw [hFe, hLoe, hmce, hmse, hσ0e, hw0e, htx0e] at K
    exact ax_ls ([(0, .ref (u 54)), (1, .int x0)]) [0, 1] rfl K
  replace C : ax_C p s m args meth c b_Sto_has "ClauseProver$Store" 2 (some .boolean) D kA (va_A (cpW kA u w0 tx0 σ0) s.heap.size) := by rw [hσ0e, hw0e, htx0e]; exact C
  replace hX : SX adK adV (va_A (cpW kA u w0 tx0 σ0) s.heap.size) s s.heap := by rw [hσ0e, hw0e, htx0e]; exact hX
  intro cells slots hc0 hs0
  have hcq : cells + σf.2.2 3001 ≤ mc + σ.2.2 3001 := by have := hmn.1; omega
  have hsq : slots + σf.2.2 3002 ≤ ms + σ.2.2 3002 := by have := hmn.2; omega
  have hga : ∀ i, ([] : List Nat).elem i = false → w i = w0 i := fun i _ => by rw [hw0e]
  have e9 : tx = tx0 := htx0e.symm
  subst e9
  have hF : dd + 12 ≤ F := by omega
  have hLo : 48 * dd + 480 ≤ Lo := by omega
  have hcm : cells ≤ mc := by have := hmn.1; omega
  have hsm : slots ≤ ms := by have := hmn.2; omega
  have hle : True := trivial
  have hm : True := trivial
  refine ax_iload_n (pc := 0) C d_Sto_has_0 rfl 1 rfl ?_
  refine ax_if_lt (pc := 1) C 16 d_Sto_has_1 (by decide) (fun hc => ?_) (fun hc => ?_)
  · replace h := it_t hc h
    refine ax_ls ([(0, .ref (u 54)), (1, .int x0)]) [0, 1] rfl ?_
    replace hm : sH_Sto_has_p16 l D kA adK adV u σ [x0] (σf, rf, _) := ih tH_Sto_has_p16 _ _ _ h
    exact hm _ rfl w tx p e s m args below meth c F Lo mc ms cells slots σ0 w0 tx hF hLo hcq hsq hga C hX
  · replace h := it_f hc h
    refine ax_iload_n (pc := 4) C d_Sto_has_4 rfl 1 rfl ?_
    refine ax_aload_n (pc := 5) C d_Sto_has_5 rfl 0 rfl ?_
    refine cg_54_2_Sto_34 (pc := 6) C d_Sto_has_6 ?_
    refine ax_icmp_ge (pc := 9) C 16 d_Sto_has_9 (by decide) (fun hc => ?_) (fun hc => ?_)
    · replace h := it_t hc h
      refine ax_ls ([(0, .ref (u 54)), (1, .int x0)]) [0, 1] rfl ?_
      replace hm : sH_Sto_has_p16 l D kA adK adV u σ [x0] (σf, rf, _) := ih tH_Sto_has_p16 _ _ _ h
      exact hm _ rfl w tx p e s m args below meth c F Lo mc ms cells slots σ0 w0 tx hF hLo hcq hsq hga C hX
    · replace h := it_f hc h
      refine ax_iconst (pc := 12) C 1 d_Sto_has_12 (by decide +kernel) ?_
      refine ax_goto (pc := 13) C 17 d_Sto_has_13 (by decide) ?_
      refine ax_ls ([(0, .ref (u 54)), (1, .int x0)]) [0, 1] rfl ?_
      replace hm : sH_Sto_has_p17 l D kA adK adV u σ [x0, 1] (σf, rf, _) := ih tH_Sto_has_p17 _ _ _ h
      exact hm _ _ rfl w tx p e s m args below meth c F Lo mc ms cells slots σ0 w0 tx hF hLo hcq hsq hga C hX
set_option maxHeartbeats 4000000 in
set_option maxRecDepth 100000 in
theorem oH_Sto_has_p16 (l : Launch) (D : va_G) (kA : Nat → ClassId) (adK adV : Nat → Nat) (u : Nat → Nat) (rec : mF) (hG : GMh rec) (ih : ∀ t σ xs res, rec t σ xs = some res → hSem l D kA adK adV u t σ xs res) (σ : mS) (xs : List Int32) (res : mR) (h : u_1 (kH_Sto_has_p16 rec σ) xs = some res) : sH_Sto_has_p16 l D kA adK adV u σ xs res := by
  intro x0 hxs w tx
  subst hxs
  obtain ⟨σf, rf, dd⟩ := res
  have hmn : gle σ σf := qH_Sto_has_p16 rec hG σ x0 _ h
  have h : (rec tH_Sto_has_p17 σ [x0, 0]) = some (σf, rf, dd) := h
  intro p e s m args below meth c F Lo mc ms cells slots σ0 w0 tx0 hF hLo hcq hsq hga C hX
  dsimp only at hF hLo hcq hsq ⊢
  have hcm : cells ≤ mc := by have := hmn.1; omega
  have hsm : slots ≤ ms := by have := hmn.2; omega
  have hle : True := trivial
  have hm : True := trivial
  refine ax_iconst (pc := 16) C 0 d_Sto_has_16 (by decide +kernel) ?_
  refine ax_ls ([(0, .ref (u 54)), (1, .int x0)]) [0, 1] rfl ?_
  replace hm : sH_Sto_has_p17 l D kA adK adV u σ [x0, 0] (σf, rf, _) := ih tH_Sto_has_p17 _ _ _ h
  exact hm _ _ rfl w tx p e s m args below meth c F Lo mc ms cells slots σ0 w0 tx0 hF hLo hcq hsq hga C hX
set_option maxHeartbeats 4000000 in
set_option maxRecDepth 100000 in
theorem oH_Sto_has_p17 (l : Launch) (D : va_G) (kA : Nat → ClassId) (adK adV : Nat → Nat) (u : Nat → Nat) (rec : mF) (hG : GMh rec) (ih : ∀ t σ xs res, rec t σ xs = some res → hSem l D kA adK adV u t σ xs res) (σ : mS) (xs : List Int32) (res : mR) (h : u_2 (kH_Sto_has_p17 rec σ) xs = some res) : sH_Sto_has_p17 l D kA adK adV u σ xs res := by
  intro x0 x1 hxs w tx
  subst hxs
  obtain ⟨σf, rf, dd⟩ := res
  have hmn : gle σ σf := qH_Sto_has_p17 rec hG σ x0 x1 _ h
  have h : (if x1 = 0 ∨ x1 = 1 then some (σ, x1, 0) else none) = some (σf, rf, dd) := h
  intro p e s m args below meth c F Lo mc ms cells slots σ0 w0 tx0 hF hLo hcq hsq hga C hX
  dsimp only at hF hLo hcq hsq ⊢
  have hcm : cells ≤ mc := by have := hmn.1; omega
  have hsm : slots ≤ ms := by have := hmn.2; omega
  have hle : True := trivial
  have hm : True := trivial
  replace h := it_g h
  obtain ⟨hb, h⟩ := h
  cases h
  exact ax_zret (pc := 17) C d_Sto_has_17 (nb01 hb) ⟨rfl, w, tx, hga, rfl, rfl⟩ hcm hsm
set_option maxHeartbeats 4000000 in
set_option maxRecDepth 100000 in
theorem oH_Sto_fact (l : Launch) (D : va_G) (kA : Nat → ClassId) (adK adV : Nat → Nat) (u : Nat → Nat) (rec : mF) (hG : GMh rec) (ih : ∀ t σ xs res, rec t σ xs = some res → hSem l D kA adK adV u t σ xs res) (σ : mS) (xs : List Int32) (res : mR) (h : u_2 (kH_Sto_fact rec σ) xs = some res) : sH_Sto_fact l D kA adK adV u σ xs res := by
  intro x0 x1 hxs w tx
  subst hxs
  obtain ⟨σf, rf, dd⟩ := res
  have hmn : gle σ σf := qH_Sto_fact rec hG σ x0 x1 _ h
  have h : (if bin ((((x0 : Int32) * 11) : Int32) + x1) (σ.2.2 52) = true then (some (σ, (σ.2.1 52 (Int32.toNatClampNeg ((((x0 : Int32) * 11) : Int32) + x1))), 0)) else none) = some (σf, rf, dd) := h
  refine ax_MiY.of (by decide +kernel) (Nat.le_of_ble_eq_true rfl) ?_
  intro p e s m args below meth c C hnm hX
  replace C : ax_C p s m args meth c b_Sto_fact "ClauseProver$Store" 3 (some .int) D kA (va_A (cpW kA u w tx σ) s.heap.size) := C
  obtain ⟨F, hFe⟩ : ∃ z, z = dd + 12 := ⟨_, rfl⟩
  obtain ⟨Lo, hLoe⟩ : ∃ z, z = 48 * dd + 480 := ⟨_, rfl⟩
  obtain ⟨mc, hmce⟩ : ∃ z, z = σf.2.2 3001 - σ.2.2 3001 := ⟨_, rfl⟩
  obtain ⟨ms, hmse⟩ : ∃ z, z = σf.2.2 3002 - σ.2.2 3002 := ⟨_, rfl⟩
  obtain ⟨σ0, hσ0e⟩ : ∃ z, z = σ := ⟨_, rfl⟩
  obtain ⟨w0, hw0e⟩ : ∃ z, z = w := ⟨_, rfl⟩
  obtain ⟨tx0, htx0e⟩ : ∃ z, z = tx := ⟨_, rfl⟩
  suffices K : ∀ (cells slots : Nat), cells = 0 → slots = 0 → AW p l e { frames := F, cells := mc, slots := ms, locals := Lo } s m args below meth c D kA (va_A (cpW kA u w0 tx0 σ0) s.heap.size) 3 (ax_Qi below args s D kA (cpW kA u w0 tx0 σ0) mc ms (fun r w1 => r = rf ∧ ∃ (w2 : Nat → Nat) (tx2 : Value), (∀ i, ([] : List Nat).elem i = false → w2 i = w0 i) ∧ tx2 = tx0 ∧ w1 = cpW kA u w2 tx2 σf)) 0 [(0, .ref (u 54)), (1, .int x0), (2, .int x1)] [] (cpW kA u w tx σ) cells slots by
    have K := K 0 0 rfl rfl
    rw [hFe, hLoe, hmce, hmse, hσ0e, hw0e, htx0e] at K
    exact ax_ls ([(0, .ref (u 54)), (1, .int x0), (2, .int x1)]) [0, 1, 2] rfl K
  replace C : ax_C p s m args meth c b_Sto_fact "ClauseProver$Store" 3 (some .int) D kA (va_A (cpW kA u w0 tx0 σ0) s.heap.size) := by rw [hσ0e, hw0e, htx0e]; exact C
  replace hX : SX adK adV (va_A (cpW kA u w0 tx0 σ0) s.heap.size) s s.heap := by rw [hσ0e, hw0e, htx0e]; exact hX
  intro cells slots hc0 hs0
  have hcq : cells + σf.2.2 3001 ≤ mc + σ.2.2 3001 := by have := hmn.1; omega
  have hsq : slots + σf.2.2 3002 ≤ ms + σ.2.2 3002 := by have := hmn.2; omega
  have hga : ∀ i, ([] : List Nat).elem i = false → w i = w0 i := fun i _ => by rw [hw0e]
  have e9 : tx = tx0 := htx0e.symm
  subst e9
  have hF : dd + 12 ≤ F := by omega
  have hLo : 48 * dd + 480 ≤ Lo := by omega
  have hcm : cells ≤ mc := by have := hmn.1; omega
  have hsm : slots ≤ ms := by have := hmn.2; omega
  have hle : True := trivial
  have hm : True := trivial
  refine ax_aload_n (pc := 0) C d_Sto_fact_0 rfl 0 rfl ?_
  refine cg_54_5_Sto_23 (pc := 1) C d_Sto_fact_1 ?_
  refine cg_51_0_Sto_38 (pc := 4) C d_Sto_fact_4 ?_
  refine ax_iload_n (pc := 7) C d_Sto_fact_7 rfl 1 rfl ?_
  refine ax_bipush (pc := 8) C 11 d_Sto_fact_8 (by decide +kernel) ?_
  refine ax_imul (pc := 10) C d_Sto_fact_10 ?_
  refine ax_iload_n (pc := 11) C d_Sto_fact_11 rfl 2 rfl ?_
  refine ax_iadd (pc := 12) C d_Sto_fact_12 ?_
  replace h := it_g h
  obtain ⟨hb, h⟩ := h
  refine cl_52 (pc := 13) C d_Sto_fact_13 (bin_in hb) ?_
  cases h
  exact ax_iret (pc := 14) C d_Sto_fact_14 ⟨rfl, w, tx, hga, rfl, rfl⟩ hcm hsm
set_option maxHeartbeats 4000000 in
set_option maxRecDepth 100000 in
theorem oH_Sto_behind (l : Launch) (D : va_G) (kA : Nat → ClassId) (adK adV : Nat → Nat) (u : Nat → Nat) (rec : mF) (hG : GMh rec) (ih : ∀ t σ xs res, rec t σ xs = some res → hSem l D kA adK adV u t σ xs res) (σ : mS) (xs : List Int32) (res : mR) (h : u_1 (kH_Sto_behind rec σ) xs = some res) : sH_Sto_behind l D kA adK adV u σ xs res := by
  intro x0 hxs w tx
  subst hxs
  obtain ⟨σf, rf, dd⟩ := res
  have hmn : gle σ σf := qH_Sto_behind rec hG σ x0 _ h
  have h : (if bin ((x0 : Int32) + 3) (σ.2.2 48) = true then (if bin ((x0 : Int32) + 4) (σ.2.2 48) = true then (some (σ, ((((((x0 : Int32) + 5) : Int32) + (σ.2.1 48 (Int32.toNatClampNeg ((x0 : Int32) + 3)))) : Int32) + (σ.2.1 48 (Int32.toNatClampNeg ((x0 : Int32) + 4)))), 0)) else none) else none) = some (σf, rf, dd) := h
  refine ax_MiY.of (by decide +kernel) (Nat.le_of_ble_eq_true rfl) ?_
  intro p e s m args below meth c C hnm hX
  replace C : ax_C p s m args meth c b_Sto_behind "ClauseProver$Store" 2 (some .int) D kA (va_A (cpW kA u w tx σ) s.heap.size) := C
  obtain ⟨F, hFe⟩ : ∃ z, z = dd + 12 := ⟨_, rfl⟩
  obtain ⟨Lo, hLoe⟩ : ∃ z, z = 48 * dd + 480 := ⟨_, rfl⟩
  obtain ⟨mc, hmce⟩ : ∃ z, z = σf.2.2 3001 - σ.2.2 3001 := ⟨_, rfl⟩
  obtain ⟨ms, hmse⟩ : ∃ z, z = σf.2.2 3002 - σ.2.2 3002 := ⟨_, rfl⟩
  obtain ⟨σ0, hσ0e⟩ : ∃ z, z = σ := ⟨_, rfl⟩
  obtain ⟨w0, hw0e⟩ : ∃ z, z = w := ⟨_, rfl⟩
  obtain ⟨tx0, htx0e⟩ : ∃ z, z = tx := ⟨_, rfl⟩
  suffices K : ∀ (cells slots : Nat), cells = 0 → slots = 0 → AW p l e { frames := F, cells := mc, slots := ms, locals := Lo } s m args below meth c D kA (va_A (cpW kA u w0 tx0 σ0) s.heap.size) 2 (ax_Qi below args s D kA (cpW kA u w0 tx0 σ0) mc ms (fun r w1 => r = rf ∧ ∃ (w2 : Nat → Nat) (tx2 : Value), (∀ i, ([] : List Nat).elem i = false → w2 i = w0 i) ∧ tx2 = tx0 ∧ w1 = cpW kA u w2 tx2 σf)) 0 [(0, .ref (u 54)), (1, .int x0)] [] (cpW kA u w tx σ) cells slots by
    have K := K 0 0 rfl rfl
    rw [hFe, hLoe, hmce, hmse, hσ0e, hw0e, htx0e] at K
    exact ax_ls ([(0, .ref (u 54)), (1, .int x0)]) [0, 1] rfl K
  replace C : ax_C p s m args meth c b_Sto_behind "ClauseProver$Store" 2 (some .int) D kA (va_A (cpW kA u w0 tx0 σ0) s.heap.size) := by rw [hσ0e, hw0e, htx0e]; exact C
  replace hX : SX adK adV (va_A (cpW kA u w0 tx0 σ0) s.heap.size) s s.heap := by rw [hσ0e, hw0e, htx0e]; exact hX
  intro cells slots hc0 hs0
  have hcq : cells + σf.2.2 3001 ≤ mc + σ.2.2 3001 := by have := hmn.1; omega
  have hsq : slots + σf.2.2 3002 ≤ ms + σ.2.2 3002 := by have := hmn.2; omega
  have hga : ∀ i, ([] : List Nat).elem i = false → w i = w0 i := fun i _ => by rw [hw0e]
  have e9 : tx = tx0 := htx0e.symm
  subst e9
  have hF : dd + 12 ≤ F := by omega
  have hLo : 48 * dd + 480 ≤ Lo := by omega
  have hcm : cells ≤ mc := by have := hmn.1; omega
  have hsm : slots ≤ ms := by have := hmn.2; omega
  have hle : True := trivial
  have hm : True := trivial
  refine ax_iload_n (pc := 0) C d_Sto_behind_0 rfl 1 rfl ?_
  refine ax_iconst (pc := 1) C 5 d_Sto_behind_1 (by decide +kernel) ?_
  refine ax_iadd (pc := 2) C d_Sto_behind_2 ?_
  refine ax_aload_n (pc := 3) C d_Sto_behind_3 rfl 0 rfl ?_
  refine cg_54_0_Sto_14 (pc := 4) C d_Sto_behind_4 ?_
  refine cg_47_0_Sto_38 (pc := 7) C d_Sto_behind_7 ?_
  refine ax_iload_n (pc := 10) C d_Sto_behind_10 rfl 1 rfl ?_
  refine ax_iconst (pc := 11) C 3 d_Sto_behind_11 (by decide +kernel) ?_
  refine ax_iadd (pc := 12) C d_Sto_behind_12 ?_
  replace h := it_g h
  obtain ⟨hb, h⟩ := h
  refine cl_48 (pc := 13) C d_Sto_behind_13 (bin_in hb) ?_
  refine ax_iadd (pc := 14) C d_Sto_behind_14 ?_
  refine ax_aload_n (pc := 15) C d_Sto_behind_15 rfl 0 rfl ?_
  refine cg_54_0_Sto_14 (pc := 16) C d_Sto_behind_16 ?_
  refine cg_47_0_Sto_38 (pc := 19) C d_Sto_behind_19 ?_
  refine ax_iload_n (pc := 22) C d_Sto_behind_22 rfl 1 rfl ?_
  refine ax_iconst (pc := 23) C 4 d_Sto_behind_23 (by decide +kernel) ?_
  refine ax_iadd (pc := 24) C d_Sto_behind_24 ?_
  replace h := it_g h
  obtain ⟨hb, h⟩ := h
  refine cl_48 (pc := 25) C d_Sto_behind_25 (bin_in hb) ?_
  refine ax_iadd (pc := 26) C d_Sto_behind_26 ?_
  cases h
  exact ax_iret (pc := 27) C d_Sto_behind_27 ⟨rfl, w, tx, hga, rfl, rfl⟩ hcm hsm
set_option maxHeartbeats 4000000 in
set_option maxRecDepth 100000 in
theorem oH_CP_show (l : Launch) (D : va_G) (kA : Nat → ClassId) (adK adV : Nat → Nat) (u : Nat → Nat) (rec : mF) (hG : GMh rec) (ih : ∀ t σ xs res, rec t σ xs = some res → hSem l D kA adK adV u t σ xs res) (σ : mS) (xs : List Int32) (res : mR) (h : u_1 (kH_CP_show rec σ) xs = some res) : sH_CP_show l D kA adK adV u σ xs res := by
  intro x0 hxs w tx
  subst hxs
  obtain ⟨σf, rf, dd⟩ := res
  have hmn : gle σ σf := qH_CP_show rec hG σ x0 _ h
  have h : (bnd (rec tH_Sto_has σ [x0]) (fun σ1 r1 => if r1 = 0 then (none) else (lt_ (mI σ1 301 0) (fun σ2 => bnd (rec tH_Sto_fact σ2 [x0, 3]) (fun σ3 r3 => if r3 = 0 then (if rok σ3 301 4 = true then (lt_ (rAdd σ3 301 4 102) (fun σ4 => if rok σ4 301 4 = true then (lt_ (rAdd σ4 301 4 97) (fun σ5 => if rok σ5 301 4 = true then (lt_ (rAdd σ5 301 4 108) (fun σ6 => if rok σ6 301 4 = true then (lt_ (rAdd σ6 301 4 115) (fun σ7 => if rok σ7 301 4 = true then (lt_ (rAdd σ7 301 4 101) (fun σ8 => rec tH_CP_show_p49 σ8 [x0, r3])) else none)) else none)) else none)) else none)) else none) else (rec tH_CP_show_p49 σ3 [x0, r3])))))) = some (σf, rf, dd) := h
  refine ax_MiY.of (by decide +kernel) (Nat.le_of_ble_eq_true rfl) ?_
  intro p e s m args below meth c C hnm hX
  replace C : ax_C p s m args meth c b_CP_show "ClauseProver" 5 (some .int) D kA (va_A (cpW kA u w tx σ) s.heap.size) := C
  obtain ⟨F, hFe⟩ : ∃ z, z = dd + 12 := ⟨_, rfl⟩
  obtain ⟨Lo, hLoe⟩ : ∃ z, z = 48 * dd + 480 := ⟨_, rfl⟩
  obtain ⟨mc, hmce⟩ : ∃ z, z = σf.2.2 3001 - σ.2.2 3001 := ⟨_, rfl⟩
  obtain ⟨ms, hmse⟩ : ∃ z, z = σf.2.2 3002 - σ.2.2 3002 := ⟨_, rfl⟩
  obtain ⟨σ0, hσ0e⟩ : ∃ z, z = σ := ⟨_, rfl⟩
  obtain ⟨w0, hw0e⟩ : ∃ z, z = w := ⟨_, rfl⟩
  obtain ⟨tx0, htx0e⟩ : ∃ z, z = tx := ⟨_, rfl⟩
  suffices K : ∀ (cells slots : Nat), cells = 0 → slots = 0 → AW p l e { frames := F, cells := mc, slots := ms, locals := Lo } s m args below meth c D kA (va_A (cpW kA u w0 tx0 σ0) s.heap.size) 5 (ax_Qi below args s D kA (cpW kA u w0 tx0 σ0) mc ms (fun r w1 => r = rf ∧ ∃ (w2 : Nat → Nat) (tx2 : Value), (∀ i, ([4] : List Nat).elem i = false → w2 i = w0 i) ∧ tx2 = tx0 ∧ w1 = cpW kA u w2 tx2 σf)) 0 [(0, .ref (u 0)), (1, .int x0)] [] (cpW kA u w tx σ) cells slots by
    have K := K 0 0 rfl rfl
    rw [hFe, hLoe, hmce, hmse, hσ0e, hw0e, htx0e] at K
    exact ax_ls ([(0, .ref (u 0)), (1, .int x0)]) [0, 1] rfl K
  replace C : ax_C p s m args meth c b_CP_show "ClauseProver" 5 (some .int) D kA (va_A (cpW kA u w0 tx0 σ0) s.heap.size) := by rw [hσ0e, hw0e, htx0e]; exact C
  replace hX : SX adK adV (va_A (cpW kA u w0 tx0 σ0) s.heap.size) s s.heap := by rw [hσ0e, hw0e, htx0e]; exact hX
  intro cells slots hc0 hs0
  have hcq : cells + σf.2.2 3001 ≤ mc + σ.2.2 3001 := by have := hmn.1; omega
  have hsq : slots + σf.2.2 3002 ≤ ms + σ.2.2 3002 := by have := hmn.2; omega
  have hga : ∀ i, ([4] : List Nat).elem i = false → w i = w0 i := fun i _ => by rw [hw0e]
  have e9 : tx = tx0 := htx0e.symm
  subst e9
  have hF : dd + 12 ≤ F := by omega
  have hLo : 48 * dd + 480 ≤ Lo := by omega
  have hcm : cells ≤ mc := by have := hmn.1; omega
  have hsm : slots ≤ ms := by have := hmn.2; omega
  have hle : True := trivial
  have hm : True := trivial
  refine ax_aload_n (pc := 0) C d_CP_show_0 rfl 0 rfl ?_
  refine cg_0_7_CP_60 (pc := 1) C d_CP_show_1 ?_
  refine ax_iload_n (pc := 4) C d_CP_show_4 rfl 1 rfl ?_
  replace h := it_b h
  obtain ⟨σ1, r1, d1_1, d2_1, h1, h, hd2, hd1⟩ := h
  replace hle := hG _ _ _ _ h1
  dsimp only at hle
  replace hmn : gle σ1 σf := gm_use h (gm_if gm_none (gm_lt ⟨Nat.le_refl _, Nat.le_refl _, rfl⟩ (gh_bnd hG (fun _ _ => (gm_if (gm_if (gm_lt (rAdd_le _ _ _ _) (gm_if (gm_lt (rAdd_le _ _ _ _) (gm_if (gm_lt (rAdd_le _ _ _ _) (gm_if (gm_lt (rAdd_le _ _ _ _) (gm_if (gm_lt (rAdd_le _ _ _ _) (gh_tail hG)) gm_none)) gm_none)) gm_none)) gm_none)) gm_none) (gh_tail hG))))))
  replace hm : sH_Sto_has l D kA adK adV u σ [x0] (σ1, r1, d1_1) := ih tH_Sto_has _ _ _ h1
  refine gh_Vi (pc := 5) C hX (As := [.int x0]) (rest := []) (hm _ rfl w tx) ml_CP_150 54 rfl rfl rfl d_CP_show_5 rfl rfl (by dsimp only; omega) (by dsimp only; omega) (by have := hmn.1; have := hle.1; dsimp only; omega) (by have := hmn.2; have := hle.2; dsimp only; omega) (Nat.le_of_ble_eq_true rfl) (fun r9 w1 hw => ?_)
  obtain ⟨hrq1, w1, tx1, hag1, htq1, hwq1⟩ := hw
  dsimp only at hwq1 hrq1
  subst hwq1
  replace hrq1 := hrq1.symm
  subst hrq1
  dsimp only
  replace htq1 := htq1.symm
  subst htq1
  have hga1 : ∀ i, ([4] : List Nat).elem i = false → w1 i = w0 i := fun i hi => (hag1 i (by revert hi; exact el_sub (by decide))).trans (hga i hi)
  replace hcq : (cells + (σ1.2.2 3001 - σ.2.2 3001)) + σf.2.2 3001 ≤ mc + σ1.2.2 3001 := by have := hmn.1; have := hle.1; omega
  replace hcm : (cells + (σ1.2.2 3001 - σ.2.2 3001)) ≤ mc := by have := hmn.1; have := hle.1; omega
  generalize cells + (σ1.2.2 3001 - σ.2.2 3001) = cells at hcq hcm ⊢
  replace hsq : (slots + (σ1.2.2 3002 - σ.2.2 3002)) + σf.2.2 3002 ≤ ms + σ1.2.2 3002 := by have := hmn.2; have := hle.2; omega
  replace hsm : (slots + (σ1.2.2 3002 - σ.2.2 3002)) ≤ ms := by have := hmn.2; have := hle.2; omega
  generalize slots + (σ1.2.2 3002 - σ.2.2 3002) = slots at hsq hsm ⊢
  replace hF : d2_1 + 12 ≤ F := by omega
  replace hLo : 48 * d2_1 + 480 ≤ Lo := by omega
  refine ax_if_ne (pc := 8) C 21 d_CP_show_8 (by decide) (fun hc => ?_) (fun hc => ?_)
  · replace h := it_f hc h
    refine ax_aload_n (pc := 21) C d_CP_show_21 rfl 0 rfl ?_
    refine cg_0_1_CP_18 (pc := 22) C d_CP_show_22 ?_
    refine ax_iconst (pc := 25) C 0 d_CP_show_25 (by decide +kernel) ?_
    refine cq_3_1_CP_82 (pc := 26) C d_CP_show_26 ?_
    replace h := it_l h
    replace hcq : cells + σf.2.2 3001 ≤ mc + (mI σ1 301 0).2.2 3001 := hcq
    replace hsq : slots + σf.2.2 3002 ≤ ms + (mI σ1 301 0).2.2 3002 := hsq
    generalize mI σ1 301 0 = σ2 at h hcq hsq ⊢
    refine ax_aload_n (pc := 29) C d_CP_show_29 rfl 0 rfl ?_
    refine cg_0_7_CP_60 (pc := 30) C d_CP_show_30 ?_
    refine ax_iload_n (pc := 33) C d_CP_show_33 rfl 1 rfl ?_
    refine ax_iconst (pc := 34) C 3 d_CP_show_34 (by decide +kernel) ?_
    replace h := it_b h
    obtain ⟨σ3, r3, d1_3, d2_3, h1, h, hd2, hd1⟩ := h
    replace hle := hG _ _ _ _ h1
    dsimp only at hle
    replace hmn : gle σ3 σf := gm_use h (gm_if (gm_if (gm_lt (rAdd_le _ _ _ _) (gm_if (gm_lt (rAdd_le _ _ _ _) (gm_if (gm_lt (rAdd_le _ _ _ _) (gm_if (gm_lt (rAdd_le _ _ _ _) (gm_if (gm_lt (rAdd_le _ _ _ _) (gh_tail hG)) gm_none)) gm_none)) gm_none)) gm_none)) gm_none) (gh_tail hG))
    replace hm : sH_Sto_fact l D kA adK adV u σ2 [x0, 3] (σ3, r3, d1_3) := ih tH_Sto_fact _ _ _ h1
    refine gh_Vi (pc := 35) C hX (As := [.int x0, .int 3]) (rest := []) (hm _ _ rfl w1 tx) ml_CP_161 54 rfl rfl rfl d_CP_show_35 rfl rfl (by dsimp only; omega) (by dsimp only; omega) (by have := hmn.1; have := hle.1; dsimp only; omega) (by have := hmn.2; have := hle.2; dsimp only; omega) (Nat.le_of_ble_eq_true rfl) (fun r9 w1 hw => ?_)
    obtain ⟨hrq3, w3, tx3, hag3, htq3, hwq3⟩ := hw
    dsimp only at hwq3 hrq3
    subst hwq3
    replace hrq3 := hrq3.symm
    subst hrq3
    dsimp only
    replace htq3 := htq3.symm
    subst htq3
    have hga3 : ∀ i, ([4] : List Nat).elem i = false → w3 i = w0 i := fun i hi => (hag3 i (by revert hi; exact el_sub (by decide))).trans (hga1 i hi)
    replace hcq : (cells + (σ3.2.2 3001 - σ2.2.2 3001)) + σf.2.2 3001 ≤ mc + σ3.2.2 3001 := by have := hmn.1; have := hle.1; omega
    replace hcm : (cells + (σ3.2.2 3001 - σ2.2.2 3001)) ≤ mc := by have := hmn.1; have := hle.1; omega
    generalize cells + (σ3.2.2 3001 - σ2.2.2 3001) = cells at hcq hcm ⊢
    replace hsq : (slots + (σ3.2.2 3002 - σ2.2.2 3002)) + σf.2.2 3002 ≤ ms + σ3.2.2 3002 := by have := hmn.2; have := hle.2; omega
    replace hsm : (slots + (σ3.2.2 3002 - σ2.2.2 3002)) ≤ ms := by have := hmn.2; have := hle.2; omega
    generalize slots + (σ3.2.2 3002 - σ2.2.2 3002) = slots at hsq hsm ⊢
    replace hF : d2_3 + 12 ≤ F := by omega
    replace hLo : 48 * d2_3 + 480 ≤ Lo := by omega
    refine ax_istore_n (pc := 38) C d_CP_show_38 rfl (Nat.le_of_ble_eq_true rfl) ([(2, .int r3), (0, .ref (u 0)), (1, .int x0)]) rfl ?_
    refine ax_iload_n (pc := 39) C d_CP_show_39 rfl 0 rfl ?_
    refine ax_if_ne (pc := 40) C 49 d_CP_show_40 (by decide) (fun hc => ?_) (fun hc => ?_)
    · replace h := it_f hc h
      refine ax_ls ([(0, .ref (u 0)), (1, .int x0), (2, .int r3)]) [1, 2, 0] rfl ?_
      replace hm : sH_CP_show_p49 l D kA adK adV u σ3 [x0, r3] (σf, rf, _) := ih tH_CP_show_p49 _ _ _ h
      exact hm _ _ rfl w3 tx p e s m args below meth c F Lo mc ms cells slots σ0 w0 tx hF hLo hcq hsq hga3 C hX
    · replace h := it_t hc h
      refine ax_aload_n (pc := 43) C d_CP_show_43 rfl 1 rfl ?_
      refine ax_ldcS (pc := 44) C hX rfl (i := 0) (by decide) rfl d_CP_show_44 ?_
      replace h := it_g h
      obtain ⟨hb4, h⟩ := h
      replace h := it_l h
      replace h := it_g h
      obtain ⟨hb5, h⟩ := h
      replace h := it_l h
      replace h := it_g h
      obtain ⟨hb6, h⟩ := h
      replace h := it_l h
      replace h := it_g h
      obtain ⟨hb7, h⟩ := h
      replace h := it_l h
      replace h := it_g h
      obtain ⟨hb8, h⟩ := h
      replace h := it_l h
      have ht8 : tkL σ3 (stB.getD 0 []) = true := (show tkL σ3 [102, 97, 108, 115, 101] = true from (tkL_c hb4 (tkL_c hb5 (tkL_c hb6 (tkL_c hb7 (tkL_c hb8 rfl))))))
      have hmt8 : mTx σ3 (stB.getD 0 []) = (rAdd (rAdd (rAdd (rAdd (rAdd σ3 301 4 102) 301 4 97) 301 4 108) 301 4 115) 301 4 101) := rfl
      have hM8 := c_wtext l D kA (adK := adK) (adV := adV) (u := u) (w := w3) (tx := tx) (i := 0) (by decide) ht8
      rw [hmt8] at hM8
      replace hle := mTx_le (stB.getD 0 []) σ3
      rw [hmt8] at hle
      replace hmn : gle (rAdd (rAdd (rAdd (rAdd (rAdd σ3 301 4 102) 301 4 97) 301 4 108) 301 4 115) 301 4 101) σf := gm_use h (gh_tail hG)
      clear ht8 hmt8
      refine gh_Vv (pc := 46) C hX (As := [.ref (adK 0)]) (rest := []) hM8 ml_CP_183 0 rfl rfl rfl d_CP_show_46 rfl rfl (by dsimp only; omega) (by dsimp only; omega) (by have := hmn.1; have := hle.1; dsimp only; omega) (by have := hmn.2; have := hle.2; dsimp only; omega) (Nat.le_of_ble_eq_true rfl) (fun w1 hw => ?_)
      obtain ⟨w8, hag8, hwq8⟩ := hw
      subst hwq8
      clear hM8
      generalize (rAdd (rAdd (rAdd (rAdd (rAdd σ3 301 4 102) 301 4 97) 301 4 108) 301 4 115) 301 4 101) = σ8 at h hmn hle ⊢
      have hga8 : ∀ i, ([4] : List Nat).elem i = false → w8 i = w0 i := fun i hi => (hag8 i (by revert hi; exact el_sub (by decide))).trans (hga3 i hi)
      replace hcq : (cells + (σ8.2.2 3001 - σ3.2.2 3001)) + σf.2.2 3001 ≤ mc + σ8.2.2 3001 := by have := hmn.1; have := hle.1; omega
      replace hcm : (cells + (σ8.2.2 3001 - σ3.2.2 3001)) ≤ mc := by have := hmn.1; have := hle.1; omega
      generalize cells + (σ8.2.2 3001 - σ3.2.2 3001) = cells at hcq hcm ⊢
      replace hsq : (slots + (σ8.2.2 3002 - σ3.2.2 3002)) + σf.2.2 3002 ≤ ms + σ8.2.2 3002 := by have := hmn.2; have := hle.2; omega
      replace hsm : (slots + (σ8.2.2 3002 - σ3.2.2 3002)) ≤ ms := by have := hmn.2; have := hle.2; omega
      generalize slots + (σ8.2.2 3002 - σ3.2.2 3002) = slots at hsq hsm ⊢
      refine ax_ls ([(0, .ref (u 0)), (1, .int x0), (2, .int r3)]) [1, 2, 0] rfl ?_
      replace hm : sH_CP_show_p49 l D kA adK adV u σ8 [x0, r3] (σf, rf, _) := ih tH_CP_show_p49 _ _ _ h
      exact hm _ _ rfl w8 tx p e s m args below meth c F Lo mc ms cells slots σ0 w0 tx hF hLo hcq hsq hga8 C hX
  · replace h := it_t hc h
    cases h
set_option maxHeartbeats 4000000 in
set_option maxRecDepth 100000 in
theorem oH_CP_show_p49 (l : Launch) (D : va_G) (kA : Nat → ClassId) (adK adV : Nat → Nat) (u : Nat → Nat) (rec : mF) (hG : GMh rec) (ih : ∀ t σ xs res, rec t σ xs = some res → hSem l D kA adK adV u t σ xs res) (σ : mS) (xs : List Int32) (res : mR) (h : u_2 (kH_CP_show_p49 rec σ) xs = some res) : sH_CP_show_p49 l D kA adK adV u σ xs res := by
  intro x0 x1 hxs w tx
  subst hxs
  obtain ⟨σf, rf, dd⟩ := res
  have hmn : gle σ σf := qH_CP_show_p49 rec hG σ x0 x1 _ h
  have h : (bnd (rec tH_Sto_fact σ [x0, 8]) (fun σ1 r1 => rec tH_CP_show_p63 σ1 [x0, x1, r1, 0])) = some (σf, rf, dd) := h
  intro p e s m args below meth c F Lo mc ms cells slots σ0 w0 tx0 hF hLo hcq hsq hga C hX
  dsimp only at hF hLo hcq hsq ⊢
  have hcm : cells ≤ mc := by have := hmn.1; omega
  have hsm : slots ≤ ms := by have := hmn.2; omega
  have hle : True := trivial
  have hm : True := trivial
  refine ax_aload_n (pc := 49) C d_CP_show_49 rfl 0 rfl ?_
  refine cg_0_7_CP_60 (pc := 50) C d_CP_show_50 ?_
  refine ax_iload_n (pc := 53) C d_CP_show_53 rfl 1 rfl ?_
  refine ax_bipush (pc := 54) C 8 d_CP_show_54 (by decide +kernel) ?_
  replace h := it_b h
  obtain ⟨σ1, r1, d1_1, d2_1, h1, h, hd2, hd1⟩ := h
  replace hle := hG _ _ _ _ h1
  dsimp only at hle
  replace hmn : gle σ1 σf := gm_use h (gh_tail hG)
  replace hm : sH_Sto_fact l D kA adK adV u σ [x0, 8] (σ1, r1, d1_1) := ih tH_Sto_fact _ _ _ h1
  refine gh_Vi (pc := 56) C hX (As := [.int x0, .int 8]) (rest := []) (hm _ _ rfl w tx) ml_CP_161 54 rfl rfl rfl d_CP_show_56 rfl rfl (by dsimp only; omega) (by dsimp only; omega) (by have := hmn.1; have := hle.1; dsimp only; omega) (by have := hmn.2; have := hle.2; dsimp only; omega) (Nat.le_of_ble_eq_true rfl) (fun r9 w1 hw => ?_)
  obtain ⟨hrq1, w1, tx1, hag1, htq1, hwq1⟩ := hw
  dsimp only at hwq1 hrq1
  subst hwq1
  replace hrq1 := hrq1.symm
  subst hrq1
  dsimp only
  replace htq1 := htq1.symm
  subst htq1
  have hga1 : ∀ i, ([4] : List Nat).elem i = false → w1 i = w0 i := fun i hi => (hag1 i (by revert hi; exact el_sub (by decide))).trans (hga i hi)
  replace hcq : (cells + (σ1.2.2 3001 - σ.2.2 3001)) + σf.2.2 3001 ≤ mc + σ1.2.2 3001 := by have := hmn.1; have := hle.1; omega
  replace hcm : (cells + (σ1.2.2 3001 - σ.2.2 3001)) ≤ mc := by have := hmn.1; have := hle.1; omega
  generalize cells + (σ1.2.2 3001 - σ.2.2 3001) = cells at hcq hcm ⊢
  replace hsq : (slots + (σ1.2.2 3002 - σ.2.2 3002)) + σf.2.2 3002 ≤ ms + σ1.2.2 3002 := by have := hmn.2; have := hle.2; omega
  replace hsm : (slots + (σ1.2.2 3002 - σ.2.2 3002)) ≤ ms := by have := hmn.2; have := hle.2; omega
  generalize slots + (σ1.2.2 3002 - σ.2.2 3002) = slots at hsq hsm ⊢
  replace hF : d2_1 + 12 ≤ F := by omega
  replace hLo : 48 * d2_1 + 480 ≤ Lo := by omega
  refine ax_istore_n (pc := 59) C d_CP_show_59 rfl (Nat.le_of_ble_eq_true rfl) ([(3, .int r1), (0, .ref (u 0)), (1, .int x0), (2, .int x1)]) rfl ?_
  refine ax_iconst (pc := 60) C 0 d_CP_show_60 (by decide +kernel) ?_
  refine ax_istore (pc := 61) C d_CP_show_61 (Nat.le_of_ble_eq_true rfl) ([(4, .int 0), (3, .int r1), (0, .ref (u 0)), (1, .int x0), (2, .int x1)]) rfl ?_
  refine ax_ls ([(0, .ref (u 0)), (1, .int x0), (2, .int x1), (3, .int r1), (4, .int 0)]) [2, 3, 4, 1, 0] rfl ?_
  replace hm : sH_CP_show_p63 l D kA adK adV u σ1 [x0, x1, r1, 0] (σf, rf, _) := ih tH_CP_show_p63 _ _ _ h
  exact hm _ _ _ _ rfl w1 tx p e s m args below meth c F Lo mc ms cells slots σ0 w0 tx0 hF hLo hcq hsq hga1 C hX
set_option maxHeartbeats 4000000 in
set_option maxRecDepth 100000 in
theorem oH_CP_show_p63 (l : Launch) (D : va_G) (kA : Nat → ClassId) (adK adV : Nat → Nat) (u : Nat → Nat) (rec : mF) (hG : GMh rec) (ih : ∀ t σ xs res, rec t σ xs = some res → hSem l D kA adK adV u t σ xs res) (σ : mS) (xs : List Int32) (res : mR) (h : u_4 (kH_CP_show_p63 rec σ) xs = some res) : sH_CP_show_p63 l D kA adK adV u σ xs res := by
  intro x0 x1 x2 x3 hxs w tx
  subst hxs
  obtain ⟨σf, rf, dd⟩ := res
  have hmn : gle σ σf := qH_CP_show_p63 rec hG σ x0 x1 x2 x3 _ h
  have h : (if x1 ≤ x3 then (some (σ, (σ.1 301), 0)) else (if x3 ≤ 0 then (rec tH_CP_show_p80 σ [x0, x1, x2, x3]) else (if rok σ 301 4 = true then (lt_ (rAdd σ 301 4 32) (fun σ1 => if rok σ1 301 4 = true then (lt_ (rAdd σ1 301 4 124) (fun σ2 => if rok σ2 301 4 = true then (lt_ (rAdd σ2 301 4 32) (fun σ3 => rec tH_CP_show_p80 σ3 [x0, x1, x2, x3])) else none)) else none)) else none))) = some (σf, rf, dd) := h
  intro p e s m args below meth c F Lo mc ms cells slots σ0 w0 tx0 hF hLo hcq hsq hga C hX
  dsimp only at hF hLo hcq hsq ⊢
  have hcm : cells ≤ mc := by have := hmn.1; omega
  have hsm : slots ≤ ms := by have := hmn.2; omega
  have hle : True := trivial
  have hm : True := trivial
  refine ax_iload (pc := 63) C d_CP_show_63 4 rfl ?_
  refine ax_iload_n (pc := 65) C d_CP_show_65 rfl 2 rfl ?_
  refine ax_icmp_ge (pc := 66) C 100 d_CP_show_66 (by decide) (fun hc => ?_) (fun hc => ?_)
  · replace h := it_t hc h
    refine ax_aload_n (pc := 100) C d_CP_show_100 rfl 0 rfl ?_
    refine cg_0_1_CP_18 (pc := 101) C d_CP_show_101 ?_
    refine cg_3_1_CP_82 (pc := 104) C d_CP_show_104 ?_
    cases h
    exact ax_iret (pc := 107) C d_CP_show_107 ⟨rfl, w, tx, hga, rfl, rfl⟩ hcm hsm
  · replace h := it_f hc h
    refine ax_iload (pc := 69) C d_CP_show_69 4 rfl ?_
    refine ax_if_le (pc := 71) C 80 d_CP_show_71 (by decide) (fun hc => ?_) (fun hc => ?_)
    · replace h := it_t hc h
      refine ax_ls ([(0, .ref (u 0)), (1, .int x0), (2, .int x1), (3, .int x2), (4, .int x3)]) [0, 1, 2, 3, 4] rfl ?_
      replace hm : sH_CP_show_p80 l D kA adK adV u σ [x0, x1, x2, x3] (σf, rf, _) := ih tH_CP_show_p80 _ _ _ h
      exact hm _ _ _ _ rfl w tx p e s m args below meth c F Lo mc ms cells slots σ0 w0 tx0 hF hLo hcq hsq hga C hX
    · replace h := it_f hc h
      refine ax_aload_n (pc := 74) C d_CP_show_74 rfl 0 rfl ?_
      refine ax_ldcS (pc := 75) C hX rfl (i := 1) (by decide) rfl d_CP_show_75 ?_
      replace h := it_g h
      obtain ⟨hb1, h⟩ := h
      replace h := it_l h
      replace h := it_g h
      obtain ⟨hb2, h⟩ := h
      replace h := it_l h
      replace h := it_g h
      obtain ⟨hb3, h⟩ := h
      replace h := it_l h
      have ht3 : tkL σ (stB.getD 1 []) = true := (show tkL σ [32, 124, 32] = true from (tkL_c hb1 (tkL_c hb2 (tkL_c hb3 rfl))))
      have hmt3 : mTx σ (stB.getD 1 []) = (rAdd (rAdd (rAdd σ 301 4 32) 301 4 124) 301 4 32) := rfl
      have hM3 := c_wtext l D kA (adK := adK) (adV := adV) (u := u) (w := w) (tx := tx) (i := 1) (by decide) ht3
      rw [hmt3] at hM3
      replace hle := mTx_le (stB.getD 1 []) σ
      rw [hmt3] at hle
      replace hmn : gle (rAdd (rAdd (rAdd σ 301 4 32) 301 4 124) 301 4 32) σf := gm_use h (gh_tail hG)
      clear ht3 hmt3
      refine gh_Vv (pc := 77) C hX (As := [.ref (adK 1)]) (rest := []) hM3 ml_CP_183 0 rfl rfl rfl d_CP_show_77 rfl rfl (by dsimp only; omega) (by dsimp only; omega) (by have := hmn.1; have := hle.1; dsimp only; omega) (by have := hmn.2; have := hle.2; dsimp only; omega) (Nat.le_of_ble_eq_true rfl) (fun w1 hw => ?_)
      obtain ⟨w3, hag3, hwq3⟩ := hw
      subst hwq3
      clear hM3
      generalize (rAdd (rAdd (rAdd σ 301 4 32) 301 4 124) 301 4 32) = σ3 at h hmn hle ⊢
      have hga3 : ∀ i, ([4] : List Nat).elem i = false → w3 i = w0 i := fun i hi => (hag3 i (by revert hi; exact el_sub (by decide))).trans (hga i hi)
      replace hcq : (cells + (σ3.2.2 3001 - σ.2.2 3001)) + σf.2.2 3001 ≤ mc + σ3.2.2 3001 := by have := hmn.1; have := hle.1; omega
      replace hcm : (cells + (σ3.2.2 3001 - σ.2.2 3001)) ≤ mc := by have := hmn.1; have := hle.1; omega
      generalize cells + (σ3.2.2 3001 - σ.2.2 3001) = cells at hcq hcm ⊢
      replace hsq : (slots + (σ3.2.2 3002 - σ.2.2 3002)) + σf.2.2 3002 ≤ ms + σ3.2.2 3002 := by have := hmn.2; have := hle.2; omega
      replace hsm : (slots + (σ3.2.2 3002 - σ.2.2 3002)) ≤ ms := by have := hmn.2; have := hle.2; omega
      generalize slots + (σ3.2.2 3002 - σ.2.2 3002) = slots at hsq hsm ⊢
      refine ax_ls ([(0, .ref (u 0)), (1, .int x0), (2, .int x1), (3, .int x2), (4, .int x3)]) [0, 1, 2, 3, 4] rfl ?_
      replace hm : sH_CP_show_p80 l D kA adK adV u σ3 [x0, x1, x2, x3] (σf, rf, _) := ih tH_CP_show_p80 _ _ _ h
      exact hm _ _ _ _ rfl w3 tx p e s m args below meth c F Lo mc ms cells slots σ0 w0 tx0 hF hLo hcq hsq hga3 C hX
set_option maxHeartbeats 4000000 in
set_option maxRecDepth 100000 in
theorem oH_CP_show_p80 (l : Launch) (D : va_G) (kA : Nat → ClassId) (adK adV : Nat → Nat) (u : Nat → Nat) (rec : mF) (hG : GMh rec) (ih : ∀ t σ xs res, rec t σ xs = some res → hSem l D kA adK adV u t σ xs res) (σ : mS) (xs : List Int32) (res : mR) (h : u_4 (kH_CP_show_p80 rec σ) xs = some res) : sH_CP_show_p80 l D kA adK adV u σ xs res := by
  intro x0 x1 x2 x3 hxs w tx
  subst hxs
  obtain ⟨σf, rf, dd⟩ := res
  have hmn : gle σ σf := qH_CP_show_p80 rec hG σ x0 x1 x2 x3 _ h
  have h : (bnd (rec tH_CP_writeLiteral σ [x2]) (fun σ1 r1 => bnd (rec tH_Sto_behind σ1 [x2]) (fun σ2 r2 => rec tH_CP_show_p63 σ2 [x0, x1, r2, (x3 + 1)]))) = some (σf, rf, dd) := h
  intro p e s m args below meth c F Lo mc ms cells slots σ0 w0 tx0 hF hLo hcq hsq hga C hX
  dsimp only at hF hLo hcq hsq ⊢
  have hcm : cells ≤ mc := by have := hmn.1; omega
  have hsm : slots ≤ ms := by have := hmn.2; omega
  have hle : True := trivial
  have hm : True := trivial
  refine ax_aload_n (pc := 80) C d_CP_show_80 rfl 0 rfl ?_
  refine ax_iload_n (pc := 81) C d_CP_show_81 rfl 3 rfl ?_
  replace h := it_b h
  obtain ⟨σ1, r1, d1_1, d2_1, h1, h, hd2, hd1⟩ := h
  replace hle := hG _ _ _ _ h1
  dsimp only at hle
  replace hmn : gle σ1 σf := gm_use h (gh_bnd hG (fun _ _ => (gh_tail hG)))
  replace hm : sH_CP_writeLiteral l D kA adK adV u σ [x2] (σ1, r1, d1_1) := ih tH_CP_writeLiteral _ _ _ h1
  refine gh_Vv (pc := 82) C hX (As := [.int x2]) (rest := []) (hm _ rfl w tx) ml_CP_188 0 rfl rfl rfl d_CP_show_82 rfl rfl (by dsimp only; omega) (by dsimp only; omega) (by have := hmn.1; have := hle.1; dsimp only; omega) (by have := hmn.2; have := hle.2; dsimp only; omega) (Nat.le_of_ble_eq_true rfl) (fun w1 hw => ?_)
  obtain ⟨w1, tx1, hag1, htq1, hwq1⟩ := hw
  dsimp only at hwq1
  subst hwq1
  dsimp only
  replace htq1 := htq1.symm
  subst htq1
  have hga1 : ∀ i, ([4] : List Nat).elem i = false → w1 i = w0 i := fun i hi => (hag1 i (by revert hi; exact el_sub (by decide))).trans (hga i hi)
  replace hcq : (cells + (σ1.2.2 3001 - σ.2.2 3001)) + σf.2.2 3001 ≤ mc + σ1.2.2 3001 := by have := hmn.1; have := hle.1; omega
  replace hcm : (cells + (σ1.2.2 3001 - σ.2.2 3001)) ≤ mc := by have := hmn.1; have := hle.1; omega
  generalize cells + (σ1.2.2 3001 - σ.2.2 3001) = cells at hcq hcm ⊢
  replace hsq : (slots + (σ1.2.2 3002 - σ.2.2 3002)) + σf.2.2 3002 ≤ ms + σ1.2.2 3002 := by have := hmn.2; have := hle.2; omega
  replace hsm : (slots + (σ1.2.2 3002 - σ.2.2 3002)) ≤ ms := by have := hmn.2; have := hle.2; omega
  generalize slots + (σ1.2.2 3002 - σ.2.2 3002) = slots at hsq hsm ⊢
  replace hF : d2_1 + 12 ≤ F := by omega
  replace hLo : 48 * d2_1 + 480 ≤ Lo := by omega
  refine ax_aload_n (pc := 85) C d_CP_show_85 rfl 0 rfl ?_
  refine cg_0_7_CP_60 (pc := 86) C d_CP_show_86 ?_
  refine ax_iload_n (pc := 89) C d_CP_show_89 rfl 3 rfl ?_
  replace h := it_b h
  obtain ⟨σ2, r2, d1_2, d2_2, h1, h, hd2, hd1⟩ := h
  replace hle := hG _ _ _ _ h1
  dsimp only at hle
  replace hmn : gle σ2 σf := gm_use h (gh_tail hG)
  replace hm : sH_Sto_behind l D kA adK adV u σ1 [x2] (σ2, r2, d1_2) := ih tH_Sto_behind _ _ _ h1
  refine gh_Vi (pc := 90) C hX (As := [.int x2]) (rest := []) (hm _ rfl w1 tx) ml_CP_191 54 rfl rfl rfl d_CP_show_90 rfl rfl (by dsimp only; omega) (by dsimp only; omega) (by have := hmn.1; have := hle.1; dsimp only; omega) (by have := hmn.2; have := hle.2; dsimp only; omega) (Nat.le_of_ble_eq_true rfl) (fun r9 w1 hw => ?_)
  obtain ⟨hrq2, w2, tx2, hag2, htq2, hwq2⟩ := hw
  dsimp only at hwq2 hrq2
  subst hwq2
  replace hrq2 := hrq2.symm
  subst hrq2
  dsimp only
  replace htq2 := htq2.symm
  subst htq2
  have hga2 : ∀ i, ([4] : List Nat).elem i = false → w2 i = w0 i := fun i hi => (hag2 i (by revert hi; exact el_sub (by decide))).trans (hga1 i hi)
  replace hcq : (cells + (σ2.2.2 3001 - σ1.2.2 3001)) + σf.2.2 3001 ≤ mc + σ2.2.2 3001 := by have := hmn.1; have := hle.1; omega
  replace hcm : (cells + (σ2.2.2 3001 - σ1.2.2 3001)) ≤ mc := by have := hmn.1; have := hle.1; omega
  generalize cells + (σ2.2.2 3001 - σ1.2.2 3001) = cells at hcq hcm ⊢
  replace hsq : (slots + (σ2.2.2 3002 - σ1.2.2 3002)) + σf.2.2 3002 ≤ ms + σ2.2.2 3002 := by have := hmn.2; have := hle.2; omega
  replace hsm : (slots + (σ2.2.2 3002 - σ1.2.2 3002)) ≤ ms := by have := hmn.2; have := hle.2; omega
  generalize slots + (σ2.2.2 3002 - σ1.2.2 3002) = slots at hsq hsm ⊢
  replace hF : d2_2 + 12 ≤ F := by omega
  replace hLo : 48 * d2_2 + 480 ≤ Lo := by omega
  refine ax_istore_n (pc := 93) C d_CP_show_93 rfl (Nat.le_of_ble_eq_true rfl) ([(3, .int r2), (0, .ref (u 0)), (1, .int x0), (2, .int x1), (4, .int x3)]) rfl ?_
  refine ax_iinc (pc := 94) C (x3 + 1) d_CP_show_94 4 rfl rfl (Nat.le_of_ble_eq_true rfl) ([(4, .int (x3 + 1)), (3, .int r2), (0, .ref (u 0)), (1, .int x0), (2, .int x1)]) rfl ?_
  refine ax_goto (pc := 97) C 63 d_CP_show_97 (by decide) ?_
  refine ax_ls ([(0, .ref (u 0)), (1, .int x0), (2, .int x1), (3, .int r2), (4, .int (x3 + 1))]) [2, 3, 4, 1, 0] rfl ?_
  replace hm : sH_CP_show_p63 l D kA adK adV u σ2 [x0, x1, r2, (x3 + 1)] (σf, rf, _) := ih tH_CP_show_p63 _ _ _ h
  exact hm _ _ _ _ rfl w2 tx p e s m args below meth c F Lo mc ms cells slots σ0 w0 tx0 hF hLo hcq hsq hga2 C hX
