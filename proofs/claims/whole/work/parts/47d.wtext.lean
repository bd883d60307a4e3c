abbrev b_CP_writeText : ByteArray := prog_1_method_15_code
def y_CP_writeText : MethodName := ⟨"ClauseProver", "writeText", "(Ljava/lang/String;)V"⟩
theorem d_CP_writeText_0 : decode b_CP_writeText 0 = .ok (.iconst 0, 1) := by decide +kernel
theorem d_CP_writeText_1 : decode b_CP_writeText 1 = .ok (.istore_n 2, 1) := by decide +kernel
theorem d_CP_writeText_2 : decode b_CP_writeText 2 = .ok (.iload_n 2, 1) := by decide +kernel
theorem d_CP_writeText_3 : decode b_CP_writeText 3 = .ok (.aload_n 1, 1) := by decide +kernel
theorem d_CP_writeText_4 : decode b_CP_writeText 4 = .ok (.invokevirtual 244, 3) := by decide +kernel
theorem d_CP_writeText_7 : decode b_CP_writeText 7 = .ok (.if_icmp .ge 21, 3) := by decide +kernel
theorem d_CP_writeText_10 : decode b_CP_writeText 10 = .ok (.aload_n 0, 1) := by decide +kernel
theorem d_CP_writeText_11 : decode b_CP_writeText 11 = .ok (.getfield 18, 3) := by decide +kernel
theorem d_CP_writeText_14 : decode b_CP_writeText 14 = .ok (.aload_n 1, 1) := by decide +kernel
theorem d_CP_writeText_15 : decode b_CP_writeText 15 = .ok (.iload_n 2, 1) := by decide +kernel
theorem d_CP_writeText_16 : decode b_CP_writeText 16 = .ok (.invokevirtual 249, 3) := by decide +kernel
theorem d_CP_writeText_19 : decode b_CP_writeText 19 = .ok (.invokevirtual 97, 3) := by decide +kernel
theorem d_CP_writeText_22 : decode b_CP_writeText 22 = .ok (.iinc 2 1, 3) := by decide +kernel
theorem d_CP_writeText_25 : decode b_CP_writeText 25 = .ok (.goto (-23), 3) := by decide +kernel
theorem d_CP_writeText_28 : decode b_CP_writeText 28 = .ok (.return_, 1) := by decide +kernel
/-! the class writes a String constant -/
theorem ix_b {i j : Nat} : Int32.ofNat i + Int32.ofNat j = Int32.ofNat (i + j) := (Int32.ofNat_add i j).symm
def mTx (σ : mS) : List Int32 → mS
  | [] => σ
  | c :: L => mTx (rAdd σ 301 4 c) L
def tkL (σ : mS) : List Int32 → Bool
  | [] => true
  | c :: L => rok σ 301 4 && tkL (rAdd σ 301 4 c) L
theorem mTx_le : ∀ (L : List Int32) (σ : mS), gle σ (mTx σ L)
  | [], σ => ⟨Nat.le_refl _, Nat.le_refl _, rfl⟩
  | c :: L, σ => gle.trans (rAdd_le σ 301 4 c) (mTx_le L _)
theorem st_drop {i j : Nat} (hi : i < 11) (hj : j < stL.getD i 0) : (stB.getD i []).drop j = stC i j :: (stB.getD i []).drop (j + 1) := by
  have h : ∀ i, i < 11 → ∀ j, j < stL.getD i 0 → (stB.getD i []).drop j = stC i j :: (stB.getD i []).drop (j + 1) := by decide +kernel
  exact h i hi j hj
theorem st_fin {i : Nat} (hi : i < 11) : (stB.getD i []).drop (stL.getD i 0) = [] := by
  have h : ∀ i, i < 11 → (stB.getD i []).drop (stL.getD i 0) = [] := by decide +kernel
  exact h i hi
theorem st_cmp {i j : Nat} (hi : i < 11) (hj : j ≤ stL.getD i 0) : Int32.ofNat (stL.getD i 0) ≤ Int32.ofNat j ↔ j = stL.getD i 0 := by
  have h : ∀ i, i < 11 → ∀ j, j ≤ stL.getD i 0 → (Int32.ofNat (stL.getD i 0) ≤ Int32.ofNat j ↔ j = stL.getD i 0) := by decide +kernel
  exact h i hi j hj
set_option maxHeartbeats 4000000 in
set_option maxRecDepth 100000 in
theorem wtx_loop {p : Program} {l : Launch} {e : Env} {s : State} {m : MethodId} {args : Array Value} {below : List Frame} {meth : Method} {c : Code} {D : va_G} {kA : Nat → ClassId} {adK adV : Nat → Nat} {u w0 : Nat → Nat} {tx : Value} {σ0 σf : mS} {F Lo mc ms : Nat} (hF : 8 ≤ F) (hLo : 300 ≤ Lo) (C : ax_C p s m args meth c b_CP_writeText "ClauseProver" 3 none D kA (va_A (cpW kA u w0 tx σ0) s.heap.size)) (hX : SX adK adV (va_A (cpW kA u w0 tx σ0) s.heap.size) s s.heap) {i : Nat} (hi : i < 11) : ∀ (k j : Nat) (σ : mS) (w : Nat → Nat) (cells slots : Nat), j + k = stL.getD i 0 → tkL σ ((stB.getD i []).drop j) = true → σf = mTx σ ((stB.getD i []).drop j) → (∀ q, ([4] : List Nat).elem q = false → w q = w0 q) → cells + σf.2.2 3001 ≤ mc + σ.2.2 3001 → slots + σf.2.2 3002 ≤ ms + σ.2.2 3002 → AW p l e { frames := F, cells := mc, slots := ms, locals := Lo } s m args below meth c D kA (va_A (cpW kA u w0 tx σ0) s.heap.size) 3 (ax_Qv below args s D kA (cpW kA u w0 tx σ0) mc ms (fun w1 => ∃ w2 : Nat → Nat, (∀ q, ([4] : List Nat).elem q = false → w2 q = w0 q) ∧ w1 = cpW kA u w2 tx σf)) 2 [(0, .ref (u 0)), (1, .ref (adK i)), (2, .int (Int32.ofNat j))] [] (cpW kA u w tx σ) cells slots := by
  intro k
  induction k with
  | zero =>
    intro j σ w cells slots hj ht hf hw hc hs
    have hj' : j = stL.getD i 0 := by omega
    have g := mTx_le ((stB.getD i []).drop j) σ
    rw [← hf] at g
    refine ax_iload_n (pc := 2) C d_CP_writeText_2 rfl 2 rfl ?_
    refine ax_aload_n (pc := 3) C d_CP_writeText_3 rfl 1 rfl ?_
    refine ax_callViY (SX_ok adK adV) (pc := 4) C hX (As := []) (rest := [.int (Int32.ofNat j)]) (wr := cpW kA u w tx σ) (c_slen l D kA hi) ml_CP_244 (fun H locs hP hS => vk_recv hX.1 hi hS) d_CP_writeText_4 rfl rfl [] (List.range 72) rfl (by decide) cp_all (by decide +kernel) (by intro i _ h; cases h) (by show 1 + 1 ≤ F; omega) (by show 8 + (1 + 11) + 30 ≤ Lo; omega) (by show cells + 0 ≤ mc; have := g.1; omega) (by show slots + 0 ≤ ms; have := g.2.1; omega) (Nat.le_of_ble_eq_true rfl) (fun r w1 hw1 => ?_)
    obtain ⟨rfl, rfl⟩ := hw1
    refine ax_icmp_ge (pc := 7) C 28 d_CP_writeText_7 (by decide) (fun _ => ?_) (fun hn => absurd ((st_cmp hi (by omega)).mpr hj') hn)
    refine ax_vret (pc := 28) C d_CP_writeText_28 ⟨w, hw, ?_⟩ (by have := g.1; omega) (by have := g.2.1; omega)
    rw [List.append_nil, hf, hj', st_fin hi]; rfl
  | succ k ih =>
    intro j σ w cells slots hj ht hf hw hc hs
    have hlt : j < stL.getD i 0 := by omega
    rw [st_drop hi hlt] at ht hf
    simp only [tkL, Bool.and_eq_true] at ht
    obtain ⟨t1, t2⟩ := ht
    have hf2 : σf = mTx (rAdd σ 301 4 (stC i j)) ((stB.getD i []).drop (j + 1)) := hf
    have g1 := rAdd_le σ 301 4 (stC i j)
    have g := mTx_le ((stB.getD i []).drop (j + 1)) (rAdd σ 301 4 (stC i j))
    rw [← hf2] at g
    have x1 := g1.1
    have x2 := g1.2.1
    have x3 := g.1
    have x4 := g.2.1
    refine ax_iload_n (pc := 2) C d_CP_writeText_2 rfl 2 rfl ?_
    refine ax_aload_n (pc := 3) C d_CP_writeText_3 rfl 1 rfl ?_
    refine ax_callViY (SX_ok adK adV) (pc := 4) C hX (As := []) (rest := [.int (Int32.ofNat j)]) (wr := cpW kA u w tx σ) (c_slen l D kA hi) ml_CP_244 (fun H locs hP hS => vk_recv hX.1 hi hS) d_CP_writeText_4 rfl rfl [] (List.range 72) rfl (by decide) cp_all (by decide +kernel) (by intro i _ h; cases h) (by show 1 + 1 ≤ F; omega) (by show 8 + (1 + 11) + 30 ≤ Lo; omega) (by show cells + 0 ≤ mc; omega) (by show slots + 0 ≤ ms; omega) (Nat.le_of_ble_eq_true rfl) (fun r w1 hw1 => ?_)
    obtain ⟨rfl, rfl⟩ := hw1
    refine ax_w (cpW kA u w tx σ) (List.append_nil _) ?_
    refine ax_icmp_ge (pc := 7) C 28 d_CP_writeText_7 (by decide) (fun hn => absurd ((st_cmp (j := j) hi (by omega)).mp hn) (by omega)) (fun _ => ?_)
    refine ax_aload_n (pc := 10) C d_CP_writeText_10 rfl 0 rfl ?_
    refine cg_0_1_CP_18 (pc := 11) C d_CP_writeText_11 ?_
    refine ax_aload_n (pc := 14) C d_CP_writeText_14 rfl 1 rfl ?_
    refine ax_iload_n (pc := 15) C d_CP_writeText_15 rfl 2 rfl ?_
    refine ax_callViY (SX_ok adK adV) (pc := 16) C hX (As := [.int (Int32.ofNat j)]) (rest := [.ref (u 3)]) (wr := cpW kA u w tx σ) (c_sch l D kA hi hlt) ml_CP_249 (fun H locs hP hS => vk_recv hX.1 hi hS) d_CP_writeText_16 rfl rfl [] (List.range 72) rfl (by decide) cp_all (by decide +kernel) (by intro i _ h; cases h) (by show 3 + 1 ≤ F; omega) (by show 8 + (2 + 11) + 90 ≤ Lo; omega) (by show cells + 0 + 0 ≤ mc; omega) (by show slots + 0 + 0 ≤ ms; omega) (Nat.le_of_ble_eq_true rfl) (fun r w1 hw1 => ?_)
    obtain ⟨rfl, rfl⟩ := hw1
    refine ax_w (cpW kA u w tx σ) (List.append_nil _) ?_
    refine ca_3 (pc := 19) C (rest := []) (d := 3) ml_CP_97 d_CP_writeText_19 t1 (by omega) (by omega) (by omega) (by omega) (Nat.le_of_ble_eq_true rfl) (fun w2 hag => ?_)
    refine ax_iinc (pc := 22) C (Int32.ofNat (j + 1)) d_CP_writeText_22 2 rfl (ix_b (j := 1)) (Nat.le_of_ble_eq_true rfl) ([(2, .int (Int32.ofNat (j + 1))), (0, .ref (u 0)), (1, .ref (adK i))]) rfl ?_
    refine ax_goto (pc := 25) C 2 d_CP_writeText_25 (by decide) ?_
    refine ax_ls [(0, .ref (u 0)), (1, .ref (adK i)), (2, .int (Int32.ofNat (j + 1)))] [1, 2, 0] rfl ?_
    exact ih (j + 1) (rAdd σ 301 4 (stC i j)) w2 _ _ (by omega) t2 hf2 (fun q hq => (hag q hq).trans (hw q hq)) (by omega) (by omega)
set_option maxHeartbeats 4000000 in
theorem c_wtext (l : Launch) (D : va_G) (kA : Nat → ClassId) {adK adV : Nat → Nat} {u w : Nat → Nat} {tx : Value} {σ : mS} {i : Nat} (hi : i < 11) (ht : tkL σ (stB.getD i []) = true) : ax_MvY (SX adK adV) l D kA y_CP_writeText b_CP_writeText 3 8 300 ((mTx σ (stB.getD i [])).2.2 3001 - σ.2.2 3001) ((mTx σ (stB.getD i [])).2.2 3002 - σ.2.2 3002) [.ref (u 0), .ref (adK i)] (cpW kA u w tx σ) (fun w1 => ∃ w2 : Nat → Nat, (∀ q, ([4] : List Nat).elem q = false → w2 q = w q) ∧ w1 = cpW kA u w2 tx (mTx σ (stB.getD i []))) := by
  refine ax_MvY.of (by decide +kernel) (Nat.le_of_ble_eq_true rfl) ?_
  intro p e s m args below meth c C hnm hX
  have C : ax_C p s m args meth c b_CP_writeText "ClauseProver" 3 none D kA (va_A (cpW kA u w tx σ) s.heap.size) := C
  have g := mTx_le (stB.getD i []) σ
  refine ax_ls [(0, .ref (u 0)), (1, .ref (adK i))] [0, 1] rfl ?_
  refine ax_iconst (pc := 0) C 0 d_CP_writeText_0 (by decide +kernel) ?_
  refine ax_istore_n (pc := 1) C d_CP_writeText_1 rfl (Nat.le_of_ble_eq_true rfl) ([(2, .int 0), (0, .ref (u 0)), (1, .ref (adK i))]) rfl ?_
  refine ax_ls [(0, .ref (u 0)), (1, .ref (adK i)), (2, .int (Int32.ofNat 0))] [1, 2, 0] rfl ?_
  exact wtx_loop (Nat.le_refl _) (Nat.le_refl _) C hX hi (stL.getD i 0) 0 σ w 0 0 (by omega) ht rfl (fun q _ => rfl) (by have := g.1; omega) (by have := g.2.1; omega)
