/-! the class's show throws where there is no such CLAUSE -/
set_option maxHeartbeats 4000000 in
set_option maxRecDepth 100000 in
theorem c_showX (l : Launch) (htr : l.stackTraces = false) (D : va_G) (kA : Nat → ClassId) (u w : Nat → Nat) (tx : Value) (σ : mS) (x0 : Int32) {d : Nat} (hm : sC_Sto_has l D kA u w tx σ [x0] (σ, 0, d)) : ax_Mx l D kA y_CP_show b_CP_show 5 (some .int) (d + 8) (48 * d + 240) 1 6 [.ref (u 0), .int x0] (cpW kA u w tx σ) "java/util/NoSuchElementException" (fun w1 => w1 = cpW kA u w tx σ) := by
  have hm2 := hm x0 rfl
  dsimp only at hm2
  refine ax_Mx.of (by decide +kernel) (Nat.le_of_ble_eq_true rfl) ?_
  intro p e s m args below meth c C hadm hex hX hP0
  replace C : ax_C p s m args meth c b_CP_show "ClauseProver" 5 (some .int) D kA (va_A (cpW kA u w tx σ) s.heap.size) := C
  obtain ⟨F, hFe⟩ : ∃ z, z = d + 8 := ⟨_, rfl⟩
  obtain ⟨Lo, hLoe⟩ : ∃ z, z = 48 * d + 240 := ⟨_, rfl⟩
  rw [← hFe, ← hLoe]
  refine ax_ls ([(0, .ref (u 0)), (1, .int x0)]) [0, 1] rfl ?_
  refine ax_aload_n (pc := 0) C d_CP_show_0 rfl 0 rfl ?_
  refine cg_0_7_CP_60 (pc := 1) C d_CP_show_1 ?_
  refine ax_iload_n (pc := 4) C d_CP_show_4 rfl 1 rfl ?_
  refine cc_Vi (pc := 5) C (r0 := 0) (σ2 := σ) (As := [.int x0]) (rest := []) hm2 ml_CP_150 54 rfl rfl rfl d_CP_show_5 rfl rfl (by dsimp only; omega) (by dsimp only; omega) (Nat.zero_le _) (Nat.zero_le _) (Nat.le_of_ble_eq_true rfl) ?_
  refine ax_if_ne (pc := 8) C 21 d_CP_show_8 (by decide) (fun hc => absurd rfl hc) (fun _ => ?_)
  exact ax_throw2 (pc := 11) C hadm htr hex hX hP0 (is := 156) (tx := "no such clause") ta_NSE (by decide +kernel) (by decide) tb_classLink_1290 tb_instantiable_1291 tb_initialized_25 (by decide +kernel) (by decide +kernel) (by decide +kernel) (by decide +kernel) d_CP_show_11 d_CP_show_14 d_CP_show_15 d_CP_show_17 d_CP_show_20 (by show 6 ≤ F; omega) (by show 90 ≤ Lo; omega) (by show 0 + 1 ≤ 1; omega) (by show 0 + 6 ≤ 6; omega) rfl rfl rfl
