/-! the law's wrappers -/
theorem nd_rg : ∀ (n s : Nat), va_nd (List.range' s n) = true := by
  intro n
  induction n with
  | zero => intro s; rfl
  | succ n ih =>
    intro s
    rw [List.range'_succ]
    unfold va_nd
    rw [ih (s + 1)]
    simp
theorem pk_rg {X W Y : va_W} : (List.range' X.length W.length).map (fun i => (X ++ (W ++ Y))[i]?) = W.map some := by
  apply List.ext_getElem?
  intro i
  rw [List.getElem?_map, List.getElem?_map]
  by_cases h : i < W.length
  · rw [List.getElem?_range' h, List.getElem?_eq_getElem h]
    simp only [Option.map_some, Nat.one_mul]
    rw [List.getElem?_append_right (by omega), Nat.add_sub_cancel_left, List.getElem?_append_left h, List.getElem?_eq_getElem h]
  · rw [List.getElem?_eq_none (by simp; omega), List.getElem?_eq_none (by omega)]
    rfl
/-- the law's long -/
abbrev lgO (kA : Nat → ClassId) (o : Nat) (f : Nat → Int64) : Nat × va_E := (o, .inl (kA 3, 1, .inr (.inl f)))
theorem pk_1 {c : Nat × va_E} {W : va_W} : (List.range' 1 W.length).map (fun i => (c :: W)[i]?) = W.map some := by
  have := pk_rg (X := [c]) (W := W) (Y := [])
  rw [List.append_nil] at this
  exact this
theorem pk_dis {n : Nat} : ∀ i ∈ [0], i ∉ List.range' 1 n := fun i hi h => by
  have e : i = 0 := by simpa using hi
  subst e
  have := List.mem_range'_1.mp h
  omega
theorem wr_feed_n {l : Launch} {D : va_G} {kA : Nat → ClassId} {W : va_W} {x o : Nat} {fs : List Value} (hx : W[0]? = some (x, .inr (11, fs))) {f : Nat → Int64} {i0 i1 i2 i3 i4 : Int32} {fr lo mc ms : Nat} {post : Int32 → va_W → Prop} {PW : (Nat → Int64) → va_W → Prop} (hM : ax_Mi l D kA y_CP_feed b_CP_feed 6 .int fr lo mc ms [.ref x, .int i0, .int i1, .int i2, .int i3, .int i4] W post) (hP : ∀ r0 w1, post r0 w1 → PW (vp_updL f (Int32.toNatClampNeg 0) (Int32.toInt64 r0)) w1) : ax_Mw l D kA y_Law_feed b_Law_feed 8 [(0, 16, 19, 13)] (fr + 1) (lo + 25) mc ms [.ref x, .int i0, .int i1, .int i2, .int i3, .int i4, .ref o] (lgO kA o f :: W) (fun r w1 => r = 0 ∧ ∃ f2 W2, PW f2 W2 ∧ w1 = lgO kA o f2 :: W2) := by
  refine ax_Mw.of (by decide +kernel) (Nat.le_of_ble_eq_true rfl) ?_
  intro p e s m args below meth c C hadm hmeth hcode htb hX
  refine ax_ls ([(0, .ref x), (1, .int i0), (2, .int i1), (3, .int i2), (4, .int i3), (5, .int i4), (6, .ref o)]) [0, 1, 2, 3, 4, 5, 6] rfl ?_
  refine ax_aload (pc := 0) C d_Law_feed_0 6 rfl ?_
  refine ax_iconst (pc := 2) C 0 d_Law_feed_2 (by decide +kernel) ?_
  refine ax_aload_n (pc := 3) C d_Law_feed_3 rfl 0 rfl ?_
  refine ax_iload_n (pc := 4) C d_Law_feed_4 rfl 1 rfl ?_
  refine ax_iload_n (pc := 5) C d_Law_feed_5 rfl 2 rfl ?_
  refine ax_iload_n (pc := 6) C d_Law_feed_6 rfl 3 rfl ?_
  refine ax_iload (pc := 7) C d_Law_feed_7 4 rfl ?_
  refine ax_iload (pc := 9) C d_Law_feed_9 5 rfl ?_
  refine ax_callVi (pc := 11) C (As := [.int i0, .int i1, .int i2, .int i3, .int i4]) (rest := [.int 0, .ref o]) (wr := [lgO kA o f]) hM ml_Law_7 1 hx rfl rfl d_Law_feed_11 rfl rfl (List.range' 1 W.length) [0] pk_1 (nd_rg _ _) rfl (by decide) pk_dis (show fr + 1 ≤ fr + 1 from Nat.le_refl _) (show 8 + (6 + 11) + lo ≤ lo + 25 by omega) (show 0 + mc ≤ mc by omega) (show 0 + ms ≤ ms by omega) (Nat.le_of_ble_eq_true rfl) (fun r0 w1 hw1 => ?_)
  refine ax_i2l (pc := 14) C (Int32.toInt64 r0) d_Law_feed_14 rfl ?_
  refine ax_last (pc := 15) C 0 rfl d_Law_feed_15 (by unfold vp_in; decide) ?_
  refine ax_w (lgO kA o (vp_updL f (Int32.toNatClampNeg 0) (Int32.toInt64 r0)) :: w1) rfl ?_
  refine ax_goto (pc := 16) C 23 d_Law_feed_16 (by decide) ?_
  refine ax_iconst (pc := 23) C 0 d_Law_feed_23 (by decide +kernel) ?_
  exact ax_iret (pc := 24) C d_Law_feed_24 ⟨rfl, _, w1, hP r0 w1 hw1, rfl⟩ (by omega) (by omega)
theorem wr_end_n {l : Launch} {D : va_G} {kA : Nat → ClassId} {W : va_W} {x o : Nat} {fs : List Value} (hx : W[0]? = some (x, .inr (11, fs))) {f : Nat → Int64} {i0 : Int32} {fr lo mc ms : Nat} {post : Int32 → va_W → Prop} {PW : (Nat → Int64) → va_W → Prop} (hM : ax_Mi l D kA y_CP_end b_CP_end 2 .int fr lo mc ms [.ref x, .int i0] W post) (hP : ∀ r0 w1, post r0 w1 → PW (vp_updL f (Int32.toNatClampNeg 0) (Int32.toInt64 r0)) w1) : ax_Mw l D kA y_Law_end b_Law_end 4 [(0, 9, 12, 19)] (fr + 1) (lo + 21) mc ms [.ref x, .int i0, .ref o] (lgO kA o f :: W) (fun r w1 => r = 0 ∧ ∃ f2 W2, PW f2 W2 ∧ w1 = lgO kA o f2 :: W2) := by
  refine ax_Mw.of (by decide +kernel) (Nat.le_of_ble_eq_true rfl) ?_
  intro p e s m args below meth c C hadm hmeth hcode htb hX
  refine ax_ls ([(0, .ref x), (1, .int i0), (2, .ref o)]) [0, 1, 2] rfl ?_
  refine ax_aload_n (pc := 0) C d_Law_end_0 rfl 2 rfl ?_
  refine ax_iconst (pc := 1) C 0 d_Law_end_1 (by decide +kernel) ?_
  refine ax_aload_n (pc := 2) C d_Law_end_2 rfl 0 rfl ?_
  refine ax_iload_n (pc := 3) C d_Law_end_3 rfl 1 rfl ?_
  refine ax_callVi (pc := 4) C (As := [.int i0]) (rest := [.int 0, .ref o]) (wr := [lgO kA o f]) hM ml_Law_15 1 hx rfl rfl d_Law_end_4 rfl rfl (List.range' 1 W.length) [0] pk_1 (nd_rg _ _) rfl (by decide) pk_dis (show fr + 1 ≤ fr + 1 from Nat.le_refl _) (show 8 + (2 + 11) + lo ≤ lo + 21 by omega) (show 0 + mc ≤ mc by omega) (show 0 + ms ≤ ms by omega) (Nat.le_of_ble_eq_true rfl) (fun r0 w1 hw1 => ?_)
  refine ax_i2l (pc := 7) C (Int32.toInt64 r0) d_Law_end_7 rfl ?_
  refine ax_last (pc := 8) C 0 rfl d_Law_end_8 (by unfold vp_in; decide) ?_
  refine ax_w (lgO kA o (vp_updL f (Int32.toNatClampNeg 0) (Int32.toInt64 r0)) :: w1) rfl ?_
  refine ax_goto (pc := 9) C 15 d_Law_end_9 (by decide) ?_
  refine ax_iconst (pc := 15) C 0 d_Law_end_15 (by decide +kernel) ?_
  exact ax_iret (pc := 16) C d_Law_end_16 ⟨rfl, _, w1, hP r0 w1 hw1, rfl⟩ (by omega) (by omega)
theorem wr_end_x19 {l : Launch} {D : va_G} {kA : Nat → ClassId} {W : va_W} {x o : Nat} {fs : List Value} (hx : W[0]? = some (x, .inr (11, fs))) {f : Nat → Int64} {i0 : Int32} {fr lo mc ms : Nat} {post : va_W → Prop} {PW : (Nat → Int64) → va_W → Prop} (hM : ax_Mx l D kA y_CP_end b_CP_end 2 (some .int) fr lo mc ms [.ref x, .int i0] W "java/lang/IllegalArgumentException" post) (hP : ∀ w1, post w1 → PW f w1) : ax_Mw l D kA y_Law_end b_Law_end 4 [(0, 9, 12, 19)] (fr + 1) (lo + 21) mc ms [.ref x, .int i0, .ref o] (lgO kA o f :: W) (fun r w1 => r = 1 ∧ ∃ f2 W2, PW f2 W2 ∧ w1 = lgO kA o f2 :: W2) := by
  refine ax_Mw.of (by decide +kernel) (Nat.le_of_ble_eq_true rfl) ?_
  intro p e s m args below meth c C hadm hmeth hcode htb hX
  refine ax_ls ([(0, .ref x), (1, .int i0), (2, .ref o)]) [0, 1, 2] rfl ?_
  refine ax_aload_n (pc := 0) C d_Law_end_0 rfl 2 rfl ?_
  refine ax_iconst (pc := 1) C 0 d_Law_end_1 (by decide +kernel) ?_
  refine ax_aload_n (pc := 2) C d_Law_end_2 rfl 0 rfl ?_
  refine ax_iload_n (pc := 3) C d_Law_end_3 rfl 1 rfl ?_
  refine ax_callVx (pc := 4) C hX (hpc := 12) (As := [.int i0]) (rest := [.int 0, .ref o]) (wr := [lgO kA o f]) hM ml_Law_15 1 hx rfl rfl d_Law_end_4 rfl rfl (List.range' 1 W.length) [0] pk_1 (nd_rg _ _) rfl (by decide) pk_dis (show fr + 1 ≤ fr + 1 from Nat.le_refl _) (show 8 + (2 + 11) + lo ≤ lo + 21 by omega) (show 0 + mc ≤ mc by omega) (show 0 + ms ≤ ms by omega) (Nat.le_of_ble_eq_true rfl) (cx_F1 hadm hmeth hcode C.2.2.2.1 htb ⟨by decide, by decide⟩ (by decide) (C.2.2.2.2.1 _ tb_classLink_979)) (fun xe w1 hw1 => ?_)
  refine ax_astore_n (pc := 12) C d_Law_end_12 rfl (Nat.le_of_ble_eq_true rfl) ([(3, .ref xe), (0, .ref x), (1, .int i0), (2, .ref o)]) rfl ?_
  refine ax_iconst (pc := 13) C 1 d_Law_end_13 (by decide +kernel) ?_
  exact ax_iret (pc := 14) C d_Law_end_14 ⟨rfl, f, w1, hP w1 hw1, rfl⟩ (by omega) (by omega)
theorem wr_run_n {l : Launch} {D : va_G} {kA : Nat → ClassId} {W : va_W} {x o : Nat} {fs : List Value} (hx : W[0]? = some (x, .inr (11, fs))) {f : Nat → Int64} {i0 : Int32} {fr lo mc ms : Nat} {post : Int32 → va_W → Prop} {PW : (Nat → Int64) → va_W → Prop} (hM : ax_Mi l D kA y_CP_run b_CP_run 4 .int fr lo mc ms [.ref x, .int i0] W post) (hP : ∀ r0 w1, post r0 w1 → PW (vp_updL f (Int32.toNatClampNeg 0) (Int32.toInt64 r0)) w1) : ax_Mw l D kA y_Law_run b_Law_run 4 [(0, 9, 12, 19)] (fr + 1) (lo + 23) mc ms [.ref x, .int i0, .ref o] (lgO kA o f :: W) (fun r w1 => r = 0 ∧ ∃ f2 W2, PW f2 W2 ∧ w1 = lgO kA o f2 :: W2) := by
  refine ax_Mw.of (by decide +kernel) (Nat.le_of_ble_eq_true rfl) ?_
  intro p e s m args below meth c C hadm hmeth hcode htb hX
  refine ax_ls ([(0, .ref x), (1, .int i0), (2, .ref o)]) [0, 1, 2] rfl ?_
  refine ax_aload_n (pc := 0) C d_Law_run_0 rfl 2 rfl ?_
  refine ax_iconst (pc := 1) C 0 d_Law_run_1 (by decide +kernel) ?_
  refine ax_aload_n (pc := 2) C d_Law_run_2 rfl 0 rfl ?_
  refine ax_iload_n (pc := 3) C d_Law_run_3 rfl 1 rfl ?_
  refine ax_callVi (pc := 4) C (As := [.int i0]) (rest := [.int 0, .ref o]) (wr := [lgO kA o f]) hM ml_Law_21 1 hx rfl rfl d_Law_run_4 rfl rfl (List.range' 1 W.length) [0] pk_1 (nd_rg _ _) rfl (by decide) pk_dis (show fr + 1 ≤ fr + 1 from Nat.le_refl _) (show 8 + (4 + 11) + lo ≤ lo + 23 by omega) (show 0 + mc ≤ mc by omega) (show 0 + ms ≤ ms by omega) (Nat.le_of_ble_eq_true rfl) (fun r0 w1 hw1 => ?_)
  refine ax_i2l (pc := 7) C (Int32.toInt64 r0) d_Law_run_7 rfl ?_
  refine ax_last (pc := 8) C 0 rfl d_Law_run_8 (by unfold vp_in; decide) ?_
  refine ax_w (lgO kA o (vp_updL f (Int32.toNatClampNeg 0) (Int32.toInt64 r0)) :: w1) rfl ?_
  refine ax_goto (pc := 9) C 15 d_Law_run_9 (by decide) ?_
  refine ax_iconst (pc := 15) C 0 d_Law_run_15 (by decide +kernel) ?_
  exact ax_iret (pc := 16) C d_Law_run_16 ⟨rfl, _, w1, hP r0 w1 hw1, rfl⟩ (by omega) (by omega)
theorem wr_run_x19 {l : Launch} {D : va_G} {kA : Nat → ClassId} {W : va_W} {x o : Nat} {fs : List Value} (hx : W[0]? = some (x, .inr (11, fs))) {f : Nat → Int64} {i0 : Int32} {fr lo mc ms : Nat} {post : va_W → Prop} {PW : (Nat → Int64) → va_W → Prop} (hM : ax_Mx l D kA y_CP_run b_CP_run 4 (some .int) fr lo mc ms [.ref x, .int i0] W "java/lang/IllegalArgumentException" post) (hP : ∀ w1, post w1 → PW f w1) : ax_Mw l D kA y_Law_run b_Law_run 4 [(0, 9, 12, 19)] (fr + 1) (lo + 23) mc ms [.ref x, .int i0, .ref o] (lgO kA o f :: W) (fun r w1 => r = 1 ∧ ∃ f2 W2, PW f2 W2 ∧ w1 = lgO kA o f2 :: W2) := by
  refine ax_Mw.of (by decide +kernel) (Nat.le_of_ble_eq_true rfl) ?_
  intro p e s m args below meth c C hadm hmeth hcode htb hX
  refine ax_ls ([(0, .ref x), (1, .int i0), (2, .ref o)]) [0, 1, 2] rfl ?_
  refine ax_aload_n (pc := 0) C d_Law_run_0 rfl 2 rfl ?_
  refine ax_iconst (pc := 1) C 0 d_Law_run_1 (by decide +kernel) ?_
  refine ax_aload_n (pc := 2) C d_Law_run_2 rfl 0 rfl ?_
  refine ax_iload_n (pc := 3) C d_Law_run_3 rfl 1 rfl ?_
  refine ax_callVx (pc := 4) C hX (hpc := 12) (As := [.int i0]) (rest := [.int 0, .ref o]) (wr := [lgO kA o f]) hM ml_Law_21 1 hx rfl rfl d_Law_run_4 rfl rfl (List.range' 1 W.length) [0] pk_1 (nd_rg _ _) rfl (by decide) pk_dis (show fr + 1 ≤ fr + 1 from Nat.le_refl _) (show 8 + (4 + 11) + lo ≤ lo + 23 by omega) (show 0 + mc ≤ mc by omega) (show 0 + ms ≤ ms by omega) (Nat.le_of_ble_eq_true rfl) (cx_F1 hadm hmeth hcode C.2.2.2.1 htb ⟨by decide, by decide⟩ (by decide) (C.2.2.2.2.1 _ tb_classLink_979)) (fun xe w1 hw1 => ?_)
  refine ax_astore_n (pc := 12) C d_Law_run_12 rfl (Nat.le_of_ble_eq_true rfl) ([(3, .ref xe), (0, .ref x), (1, .int i0), (2, .ref o)]) rfl ?_
  refine ax_iconst (pc := 13) C 1 d_Law_run_13 (by decide +kernel) ?_
  exact ax_iret (pc := 14) C d_Law_run_14 ⟨rfl, f, w1, hP w1 hw1, rfl⟩ (by omega) (by omega)
theorem wr_clause_n {l : Launch} {D : va_G} {kA : Nat → ClassId} {W : va_W} {x o : Nat} {fs : List Value} (hx : W[0]? = some (x, .inr (11, fs))) {f : Nat → Int64} {i0 i1 : Int32} {fr lo mc ms : Nat} {post : Int32 → va_W → Prop} {PW : (Nat → Int64) → va_W → Prop} (hM : ax_Mi l D kA y_CP_clause b_CP_clause 3 .int fr lo mc ms [.ref x, .int i0, .int i1] W post) (hP : ∀ r0 w1, post r0 w1 → PW (vp_updL f (Int32.toNatClampNeg 0) (Int32.toInt64 r0)) w1) : ax_Mw l D kA y_Law_clause b_Law_clause 5 [(0, 10, 13, 28), (0, 10, 17, 19)] (fr + 1) (lo + 22) mc ms [.ref x, .int i0, .int i1, .ref o] (lgO kA o f :: W) (fun r w1 => r = 0 ∧ ∃ f2 W2, PW f2 W2 ∧ w1 = lgO kA o f2 :: W2) := by
  refine ax_Mw.of (by decide +kernel) (Nat.le_of_ble_eq_true rfl) ?_
  intro p e s m args below meth c C hadm hmeth hcode htb hX
  refine ax_ls ([(0, .ref x), (1, .int i0), (2, .int i1), (3, .ref o)]) [0, 1, 2, 3] rfl ?_
  refine ax_aload_n (pc := 0) C d_Law_clause_0 rfl 3 rfl ?_
  refine ax_iconst (pc := 1) C 0 d_Law_clause_1 (by decide +kernel) ?_
  refine ax_aload_n (pc := 2) C d_Law_clause_2 rfl 0 rfl ?_
  refine ax_iload_n (pc := 3) C d_Law_clause_3 rfl 1 rfl ?_
  refine ax_iload_n (pc := 4) C d_Law_clause_4 rfl 2 rfl ?_
  refine ax_callVi (pc := 5) C (As := [.int i0, .int i1]) (rest := [.int 0, .ref o]) (wr := [lgO kA o f]) hM ml_Law_24 1 hx rfl rfl d_Law_clause_5 rfl rfl (List.range' 1 W.length) [0] pk_1 (nd_rg _ _) rfl (by decide) pk_dis (show fr + 1 ≤ fr + 1 from Nat.le_refl _) (show 8 + (3 + 11) + lo ≤ lo + 22 by omega) (show 0 + mc ≤ mc by omega) (show 0 + ms ≤ ms by omega) (Nat.le_of_ble_eq_true rfl) (fun r0 w1 hw1 => ?_)
  refine ax_i2l (pc := 8) C (Int32.toInt64 r0) d_Law_clause_8 rfl ?_
  refine ax_last (pc := 9) C 0 rfl d_Law_clause_9 (by unfold vp_in; decide) ?_
  refine ax_w (lgO kA o (vp_updL f (Int32.toNatClampNeg 0) (Int32.toInt64 r0)) :: w1) rfl ?_
  refine ax_goto (pc := 10) C 21 d_Law_clause_10 (by decide) ?_
  refine ax_iconst (pc := 21) C 0 d_Law_clause_21 (by decide +kernel) ?_
  exact ax_iret (pc := 22) C d_Law_clause_22 ⟨rfl, _, w1, hP r0 w1 hw1, rfl⟩ (by omega) (by omega)
theorem wr_clause_x28 {l : Launch} {D : va_G} {kA : Nat → ClassId} {W : va_W} {x o : Nat} {fs : List Value} (hx : W[0]? = some (x, .inr (11, fs))) {f : Nat → Int64} {i0 i1 : Int32} {fr lo mc ms : Nat} {post : va_W → Prop} {PW : (Nat → Int64) → va_W → Prop} (hM : ax_Mx l D kA y_CP_clause b_CP_clause 3 (some .int) fr lo mc ms [.ref x, .int i0, .int i1] W "java/util/NoSuchElementException" post) (hP : ∀ w1, post w1 → PW f w1) : ax_Mw l D kA y_Law_clause b_Law_clause 5 [(0, 10, 13, 28), (0, 10, 17, 19)] (fr + 1) (lo + 22) mc ms [.ref x, .int i0, .int i1, .ref o] (lgO kA o f :: W) (fun r w1 => r = 1 ∧ ∃ f2 W2, PW f2 W2 ∧ w1 = lgO kA o f2 :: W2) := by
  refine ax_Mw.of (by decide +kernel) (Nat.le_of_ble_eq_true rfl) ?_
  intro p e s m args below meth c C hadm hmeth hcode htb hX
  refine ax_ls ([(0, .ref x), (1, .int i0), (2, .int i1), (3, .ref o)]) [0, 1, 2, 3] rfl ?_
  refine ax_aload_n (pc := 0) C d_Law_clause_0 rfl 3 rfl ?_
  refine ax_iconst (pc := 1) C 0 d_Law_clause_1 (by decide +kernel) ?_
  refine ax_aload_n (pc := 2) C d_Law_clause_2 rfl 0 rfl ?_
  refine ax_iload_n (pc := 3) C d_Law_clause_3 rfl 1 rfl ?_
  refine ax_iload_n (pc := 4) C d_Law_clause_4 rfl 2 rfl ?_
  refine ax_callVx (pc := 5) C hX (hpc := 13) (As := [.int i0, .int i1]) (rest := [.int 0, .ref o]) (wr := [lgO kA o f]) hM ml_Law_24 1 hx rfl rfl d_Law_clause_5 rfl rfl (List.range' 1 W.length) [0] pk_1 (nd_rg _ _) rfl (by decide) pk_dis (show fr + 1 ≤ fr + 1 from Nat.le_refl _) (show 8 + (3 + 11) + lo ≤ lo + 22 by omega) (show 0 + mc ≤ mc by omega) (show 0 + ms ≤ ms by omega) (Nat.le_of_ble_eq_true rfl) (cx_F1 hadm hmeth hcode C.2.2.2.1 htb ⟨by decide, by decide⟩ (by decide) (C.2.2.2.2.1 _ tb_classLink_1284)) (fun xe w1 hw1 => ?_)
  refine ax_astore (pc := 13) C d_Law_clause_13 (Nat.le_of_ble_eq_true rfl) ([(4, .ref xe), (0, .ref x), (1, .int i0), (2, .int i1), (3, .ref o)]) rfl ?_
  refine ax_iconst (pc := 15) C 1 d_Law_clause_15 (by decide +kernel) ?_
  exact ax_iret (pc := 16) C d_Law_clause_16 ⟨rfl, f, w1, hP w1 hw1, rfl⟩ (by omega) (by omega)
theorem wr_clause_x19 {l : Launch} {D : va_G} {kA : Nat → ClassId} {W : va_W} {x o : Nat} {fs : List Value} (hx : W[0]? = some (x, .inr (11, fs))) {f : Nat → Int64} {i0 i1 : Int32} {fr lo mc ms : Nat} {post : va_W → Prop} {PW : (Nat → Int64) → va_W → Prop} (hM : ax_Mx l D kA y_CP_clause b_CP_clause 3 (some .int) fr lo mc ms [.ref x, .int i0, .int i1] W "java/lang/IllegalArgumentException" post) (hP : ∀ w1, post w1 → PW f w1) : ax_Mw l D kA y_Law_clause b_Law_clause 5 [(0, 10, 13, 28), (0, 10, 17, 19)] (fr + 1) (lo + 22) mc ms [.ref x, .int i0, .int i1, .ref o] (lgO kA o f :: W) (fun r w1 => r = 2 ∧ ∃ f2 W2, PW f2 W2 ∧ w1 = lgO kA o f2 :: W2) := by
  refine ax_Mw.of (by decide +kernel) (Nat.le_of_ble_eq_true rfl) ?_
  intro p e s m args below meth c C hadm hmeth hcode htb hX
  refine ax_ls ([(0, .ref x), (1, .int i0), (2, .int i1), (3, .ref o)]) [0, 1, 2, 3] rfl ?_
  refine ax_aload_n (pc := 0) C d_Law_clause_0 rfl 3 rfl ?_
  refine ax_iconst (pc := 1) C 0 d_Law_clause_1 (by decide +kernel) ?_
  refine ax_aload_n (pc := 2) C d_Law_clause_2 rfl 0 rfl ?_
  refine ax_iload_n (pc := 3) C d_Law_clause_3 rfl 1 rfl ?_
  refine ax_iload_n (pc := 4) C d_Law_clause_4 rfl 2 rfl ?_
  refine ax_callVx (pc := 5) C hX (hpc := 17) (As := [.int i0, .int i1]) (rest := [.int 0, .ref o]) (wr := [lgO kA o f]) hM ml_Law_24 1 hx rfl rfl d_Law_clause_5 rfl rfl (List.range' 1 W.length) [0] pk_1 (nd_rg _ _) rfl (by decide) pk_dis (show fr + 1 ≤ fr + 1 from Nat.le_refl _) (show 8 + (3 + 11) + lo ≤ lo + 22 by omega) (show 0 + mc ≤ mc by omega) (show 0 + ms ≤ ms by omega) (Nat.le_of_ble_eq_true rfl) (cx_F2 hadm hmeth hcode C.2.2.2.1 htb ⟨by decide, by decide⟩ ⟨by decide, by decide⟩ (by decide) (by decide) (C.2.2.2.2.1 _ tb_classLink_1284) (C.2.2.2.2.1 _ tb_classLink_979) hX.2.2.2.2) (fun xe w1 hw1 => ?_)
  refine ax_astore (pc := 17) C d_Law_clause_17 (Nat.le_of_ble_eq_true rfl) ([(4, .ref xe), (0, .ref x), (1, .int i0), (2, .int i1), (3, .ref o)]) rfl ?_
  refine ax_iconst (pc := 19) C 2 d_Law_clause_19 (by decide +kernel) ?_
  exact ax_iret (pc := 20) C d_Law_clause_20 ⟨rfl, f, w1, hP w1 hw1, rfl⟩ (by omega) (by omega)
theorem wr_rewrote_n {l : Launch} {D : va_G} {kA : Nat → ClassId} {W : va_W} {x o : Nat} {fs : List Value} (hx : W[0]? = some (x, .inr (11, fs))) {f : Nat → Int64} {i0 i1 : Int32} {fr lo mc ms : Nat} {post : Int32 → va_W → Prop} {PW : (Nat → Int64) → va_W → Prop} (hM : ax_Mi l D kA y_CP_rewrote b_CP_rewrote 3 .int fr lo mc ms [.ref x, .int i0, .int i1] W post) (hP : ∀ r0 w1, post r0 w1 → PW (vp_updL f (Int32.toNatClampNeg 0) (Int32.toInt64 r0)) w1) : ax_Mw l D kA y_Law_rewrote b_Law_rewrote 5 [(0, 10, 13, 28)] (fr + 1) (lo + 22) mc ms [.ref x, .int i0, .int i1, .ref o] (lgO kA o f :: W) (fun r w1 => r = 0 ∧ ∃ f2 W2, PW f2 W2 ∧ w1 = lgO kA o f2 :: W2) := by
  refine ax_Mw.of (by decide +kernel) (Nat.le_of_ble_eq_true rfl) ?_
  intro p e s m args below meth c C hadm hmeth hcode htb hX
  refine ax_ls ([(0, .ref x), (1, .int i0), (2, .int i1), (3, .ref o)]) [0, 1, 2, 3] rfl ?_
  refine ax_aload_n (pc := 0) C d_Law_rewrote_0 rfl 3 rfl ?_
  refine ax_iconst (pc := 1) C 0 d_Law_rewrote_1 (by decide +kernel) ?_
  refine ax_aload_n (pc := 2) C d_Law_rewrote_2 rfl 0 rfl ?_
  refine ax_iload_n (pc := 3) C d_Law_rewrote_3 rfl 1 rfl ?_
  refine ax_iload_n (pc := 4) C d_Law_rewrote_4 rfl 2 rfl ?_
  refine ax_callVi (pc := 5) C (As := [.int i0, .int i1]) (rest := [.int 0, .ref o]) (wr := [lgO kA o f]) hM ml_Law_30 1 hx rfl rfl d_Law_rewrote_5 rfl rfl (List.range' 1 W.length) [0] pk_1 (nd_rg _ _) rfl (by decide) pk_dis (show fr + 1 ≤ fr + 1 from Nat.le_refl _) (show 8 + (3 + 11) + lo ≤ lo + 22 by omega) (show 0 + mc ≤ mc by omega) (show 0 + ms ≤ ms by omega) (Nat.le_of_ble_eq_true rfl) (fun r0 w1 hw1 => ?_)
  refine ax_i2l (pc := 8) C (Int32.toInt64 r0) d_Law_rewrote_8 rfl ?_
  refine ax_last (pc := 9) C 0 rfl d_Law_rewrote_9 (by unfold vp_in; decide) ?_
  refine ax_w (lgO kA o (vp_updL f (Int32.toNatClampNeg 0) (Int32.toInt64 r0)) :: w1) rfl ?_
  refine ax_goto (pc := 10) C 17 d_Law_rewrote_10 (by decide) ?_
  refine ax_iconst (pc := 17) C 0 d_Law_rewrote_17 (by decide +kernel) ?_
  exact ax_iret (pc := 18) C d_Law_rewrote_18 ⟨rfl, _, w1, hP r0 w1 hw1, rfl⟩ (by omega) (by omega)
theorem wr_rewrote_x28 {l : Launch} {D : va_G} {kA : Nat → ClassId} {W : va_W} {x o : Nat} {fs : List Value} (hx : W[0]? = some (x, .inr (11, fs))) {f : Nat → Int64} {i0 i1 : Int32} {fr lo mc ms : Nat} {post : va_W → Prop} {PW : (Nat → Int64) → va_W → Prop} (hM : ax_Mx l D kA y_CP_rewrote b_CP_rewrote 3 (some .int) fr lo mc ms [.ref x, .int i0, .int i1] W "java/util/NoSuchElementException" post) (hP : ∀ w1, post w1 → PW f w1) : ax_Mw l D kA y_Law_rewrote b_Law_rewrote 5 [(0, 10, 13, 28)] (fr + 1) (lo + 22) mc ms [.ref x, .int i0, .int i1, .ref o] (lgO kA o f :: W) (fun r w1 => r = 1 ∧ ∃ f2 W2, PW f2 W2 ∧ w1 = lgO kA o f2 :: W2) := by
  refine ax_Mw.of (by decide +kernel) (Nat.le_of_ble_eq_true rfl) ?_
  intro p e s m args below meth c C hadm hmeth hcode htb hX
  refine ax_ls ([(0, .ref x), (1, .int i0), (2, .int i1), (3, .ref o)]) [0, 1, 2, 3] rfl ?_
  refine ax_aload_n (pc := 0) C d_Law_rewrote_0 rfl 3 rfl ?_
  refine ax_iconst (pc := 1) C 0 d_Law_rewrote_1 (by decide +kernel) ?_
  refine ax_aload_n (pc := 2) C d_Law_rewrote_2 rfl 0 rfl ?_
  refine ax_iload_n (pc := 3) C d_Law_rewrote_3 rfl 1 rfl ?_
  refine ax_iload_n (pc := 4) C d_Law_rewrote_4 rfl 2 rfl ?_
  refine ax_callVx (pc := 5) C hX (hpc := 13) (As := [.int i0, .int i1]) (rest := [.int 0, .ref o]) (wr := [lgO kA o f]) hM ml_Law_30 1 hx rfl rfl d_Law_rewrote_5 rfl rfl (List.range' 1 W.length) [0] pk_1 (nd_rg _ _) rfl (by decide) pk_dis (show fr + 1 ≤ fr + 1 from Nat.le_refl _) (show 8 + (3 + 11) + lo ≤ lo + 22 by omega) (show 0 + mc ≤ mc by omega) (show 0 + ms ≤ ms by omega) (Nat.le_of_ble_eq_true rfl) (cx_F1 hadm hmeth hcode C.2.2.2.1 htb ⟨by decide, by decide⟩ (by decide) (C.2.2.2.2.1 _ tb_classLink_1284)) (fun xe w1 hw1 => ?_)
  refine ax_astore (pc := 13) C d_Law_rewrote_13 (Nat.le_of_ble_eq_true rfl) ([(4, .ref xe), (0, .ref x), (1, .int i0), (2, .int i1), (3, .ref o)]) rfl ?_
  refine ax_iconst (pc := 15) C 1 d_Law_rewrote_15 (by decide +kernel) ?_
  exact ax_iret (pc := 16) C d_Law_rewrote_16 ⟨rfl, f, w1, hP w1 hw1, rfl⟩ (by omega) (by omega)
theorem wr_literal_n {l : Launch} {D : va_G} {kA : Nat → ClassId} {W : va_W} {x o : Nat} {fs : List Value} (hx : W[0]? = some (x, .inr (11, fs))) {f : Nat → Int64} {i0 i1 i2 : Int32} {fr lo mc ms : Nat} {post : Int32 → va_W → Prop} {PW : (Nat → Int64) → va_W → Prop} (hM : ax_Mi l D kA y_CP_literal b_CP_literal 6 .int fr lo mc ms [.ref x, .int i0, .int i1, .int i2] W post) (hP : ∀ r0 w1, post r0 w1 → PW (vp_updL f (Int32.toNatClampNeg 0) (Int32.toInt64 r0)) w1) : ax_Mw l D kA y_Law_literal b_Law_literal 6 [(0, 12, 15, 28), (0, 12, 19, 19)] (fr + 1) (lo + 25) mc ms [.ref x, .int i0, .int i1, .int i2, .ref o] (lgO kA o f :: W) (fun r w1 => r = 0 ∧ ∃ f2 W2, PW f2 W2 ∧ w1 = lgO kA o f2 :: W2) := by
  refine ax_Mw.of (by decide +kernel) (Nat.le_of_ble_eq_true rfl) ?_
  intro p e s m args below meth c C hadm hmeth hcode htb hX
  refine ax_ls ([(0, .ref x), (1, .int i0), (2, .int i1), (3, .int i2), (4, .ref o)]) [0, 1, 2, 3, 4] rfl ?_
  refine ax_aload (pc := 0) C d_Law_literal_0 4 rfl ?_
  refine ax_iconst (pc := 2) C 0 d_Law_literal_2 (by decide +kernel) ?_
  refine ax_aload_n (pc := 3) C d_Law_literal_3 rfl 0 rfl ?_
  refine ax_iload_n (pc := 4) C d_Law_literal_4 rfl 1 rfl ?_
  refine ax_iload_n (pc := 5) C d_Law_literal_5 rfl 2 rfl ?_
  refine ax_iload_n (pc := 6) C d_Law_literal_6 rfl 3 rfl ?_
  refine ax_callVi (pc := 7) C (As := [.int i0, .int i1, .int i2]) (rest := [.int 0, .ref o]) (wr := [lgO kA o f]) hM ml_Law_33 1 hx rfl rfl d_Law_literal_7 rfl rfl (List.range' 1 W.length) [0] pk_1 (nd_rg _ _) rfl (by decide) pk_dis (show fr + 1 ≤ fr + 1 from Nat.le_refl _) (show 8 + (6 + 11) + lo ≤ lo + 25 by omega) (show 0 + mc ≤ mc by omega) (show 0 + ms ≤ ms by omega) (Nat.le_of_ble_eq_true rfl) (fun r0 w1 hw1 => ?_)
  refine ax_i2l (pc := 10) C (Int32.toInt64 r0) d_Law_literal_10 rfl ?_
  refine ax_last (pc := 11) C 0 rfl d_Law_literal_11 (by unfold vp_in; decide) ?_
  refine ax_w (lgO kA o (vp_updL f (Int32.toNatClampNeg 0) (Int32.toInt64 r0)) :: w1) rfl ?_
  refine ax_goto (pc := 12) C 23 d_Law_literal_12 (by decide) ?_
  refine ax_iconst (pc := 23) C 0 d_Law_literal_23 (by decide +kernel) ?_
  exact ax_iret (pc := 24) C d_Law_literal_24 ⟨rfl, _, w1, hP r0 w1 hw1, rfl⟩ (by omega) (by omega)
theorem wr_literal_x28 {l : Launch} {D : va_G} {kA : Nat → ClassId} {W : va_W} {x o : Nat} {fs : List Value} (hx : W[0]? = some (x, .inr (11, fs))) {f : Nat → Int64} {i0 i1 i2 : Int32} {fr lo mc ms : Nat} {post : va_W → Prop} {PW : (Nat → Int64) → va_W → Prop} (hM : ax_Mx l D kA y_CP_literal b_CP_literal 6 (some .int) fr lo mc ms [.ref x, .int i0, .int i1, .int i2] W "java/util/NoSuchElementException" post) (hP : ∀ w1, post w1 → PW f w1) : ax_Mw l D kA y_Law_literal b_Law_literal 6 [(0, 12, 15, 28), (0, 12, 19, 19)] (fr + 1) (lo + 25) mc ms [.ref x, .int i0, .int i1, .int i2, .ref o] (lgO kA o f :: W) (fun r w1 => r = 1 ∧ ∃ f2 W2, PW f2 W2 ∧ w1 = lgO kA o f2 :: W2) := by
  refine ax_Mw.of (by decide +kernel) (Nat.le_of_ble_eq_true rfl) ?_
  intro p e s m args below meth c C hadm hmeth hcode htb hX
  refine ax_ls ([(0, .ref x), (1, .int i0), (2, .int i1), (3, .int i2), (4, .ref o)]) [0, 1, 2, 3, 4] rfl ?_
  refine ax_aload (pc := 0) C d_Law_literal_0 4 rfl ?_
  refine ax_iconst (pc := 2) C 0 d_Law_literal_2 (by decide +kernel) ?_
  refine ax_aload_n (pc := 3) C d_Law_literal_3 rfl 0 rfl ?_
  refine ax_iload_n (pc := 4) C d_Law_literal_4 rfl 1 rfl ?_
  refine ax_iload_n (pc := 5) C d_Law_literal_5 rfl 2 rfl ?_
  refine ax_iload_n (pc := 6) C d_Law_literal_6 rfl 3 rfl ?_
  refine ax_callVx (pc := 7) C hX (hpc := 15) (As := [.int i0, .int i1, .int i2]) (rest := [.int 0, .ref o]) (wr := [lgO kA o f]) hM ml_Law_33 1 hx rfl rfl d_Law_literal_7 rfl rfl (List.range' 1 W.length) [0] pk_1 (nd_rg _ _) rfl (by decide) pk_dis (show fr + 1 ≤ fr + 1 from Nat.le_refl _) (show 8 + (6 + 11) + lo ≤ lo + 25 by omega) (show 0 + mc ≤ mc by omega) (show 0 + ms ≤ ms by omega) (Nat.le_of_ble_eq_true rfl) (cx_F1 hadm hmeth hcode C.2.2.2.1 htb ⟨by decide, by decide⟩ (by decide) (C.2.2.2.2.1 _ tb_classLink_1284)) (fun xe w1 hw1 => ?_)
  refine ax_astore (pc := 15) C d_Law_literal_15 (Nat.le_of_ble_eq_true rfl) ([(5, .ref xe), (0, .ref x), (1, .int i0), (2, .int i1), (3, .int i2), (4, .ref o)]) rfl ?_
  refine ax_iconst (pc := 17) C 1 d_Law_literal_17 (by decide +kernel) ?_
  exact ax_iret (pc := 18) C d_Law_literal_18 ⟨rfl, f, w1, hP w1 hw1, rfl⟩ (by omega) (by omega)
theorem wr_literal_x19 {l : Launch} {D : va_G} {kA : Nat → ClassId} {W : va_W} {x o : Nat} {fs : List Value} (hx : W[0]? = some (x, .inr (11, fs))) {f : Nat → Int64} {i0 i1 i2 : Int32} {fr lo mc ms : Nat} {post : va_W → Prop} {PW : (Nat → Int64) → va_W → Prop} (hM : ax_Mx l D kA y_CP_literal b_CP_literal 6 (some .int) fr lo mc ms [.ref x, .int i0, .int i1, .int i2] W "java/lang/IllegalArgumentException" post) (hP : ∀ w1, post w1 → PW f w1) : ax_Mw l D kA y_Law_literal b_Law_literal 6 [(0, 12, 15, 28), (0, 12, 19, 19)] (fr + 1) (lo + 25) mc ms [.ref x, .int i0, .int i1, .int i2, .ref o] (lgO kA o f :: W) (fun r w1 => r = 2 ∧ ∃ f2 W2, PW f2 W2 ∧ w1 = lgO kA o f2 :: W2) := by
  refine ax_Mw.of (by decide +kernel) (Nat.le_of_ble_eq_true rfl) ?_
  intro p e s m args below meth c C hadm hmeth hcode htb hX
  refine ax_ls ([(0, .ref x), (1, .int i0), (2, .int i1), (3, .int i2), (4, .ref o)]) [0, 1, 2, 3, 4] rfl ?_
  refine ax_aload (pc := 0) C d_Law_literal_0 4 rfl ?_
  refine ax_iconst (pc := 2) C 0 d_Law_literal_2 (by decide +kernel) ?_
  refine ax_aload_n (pc := 3) C d_Law_literal_3 rfl 0 rfl ?_
  refine ax_iload_n (pc := 4) C d_Law_literal_4 rfl 1 rfl ?_
  refine ax_iload_n (pc := 5) C d_Law_literal_5 rfl 2 rfl ?_
  refine ax_iload_n (pc := 6) C d_Law_literal_6 rfl 3 rfl ?_
  refine ax_callVx (pc := 7) C hX (hpc := 19) (As := [.int i0, .int i1, .int i2]) (rest := [.int 0, .ref o]) (wr := [lgO kA o f]) hM ml_Law_33 1 hx rfl rfl d_Law_literal_7 rfl rfl (List.range' 1 W.length) [0] pk_1 (nd_rg _ _) rfl (by decide) pk_dis (show fr + 1 ≤ fr + 1 from Nat.le_refl _) (show 8 + (6 + 11) + lo ≤ lo + 25 by omega) (show 0 + mc ≤ mc by omega) (show 0 + ms ≤ ms by omega) (Nat.le_of_ble_eq_true rfl) (cx_F2 hadm hmeth hcode C.2.2.2.1 htb ⟨by decide, by decide⟩ ⟨by decide, by decide⟩ (by decide) (by decide) (C.2.2.2.2.1 _ tb_classLink_1284) (C.2.2.2.2.1 _ tb_classLink_979) hX.2.2.2.2) (fun xe w1 hw1 => ?_)
  refine ax_astore (pc := 19) C d_Law_literal_19 (Nat.le_of_ble_eq_true rfl) ([(5, .ref xe), (0, .ref x), (1, .int i0), (2, .int i1), (3, .int i2), (4, .ref o)]) rfl ?_
  refine ax_iconst (pc := 21) C 2 d_Law_literal_21 (by decide +kernel) ?_
  exact ax_iret (pc := 22) C d_Law_literal_22 ⟨rfl, f, w1, hP w1 hw1, rfl⟩ (by omega) (by omega)
theorem wr_show_n {l : Launch} {D : va_G} {kA : Nat → ClassId} {W : va_W} {x o : Nat} {fs : List Value} (hx : W[0]? = some (x, .inr (11, fs))) {f : Nat → Int64} {i0 : Int32} {fr lo mc ms : Nat} {post : Int32 → va_W → Prop} {PW : (Nat → Int64) → va_W → Prop} (hM : ax_Mi l D kA y_CP_show b_CP_show 5 .int fr lo mc ms [.ref x, .int i0] W post) (hP : ∀ r0 w1, post r0 w1 → PW (vp_updL f (Int32.toNatClampNeg 0) (Int32.toInt64 r0)) w1) : ax_Mw l D kA y_Law_show b_Law_show 4 [(0, 9, 12, 28)] (fr + 1) (lo + 24) mc ms [.ref x, .int i0, .ref o] (lgO kA o f :: W) (fun r w1 => r = 0 ∧ ∃ f2 W2, PW f2 W2 ∧ w1 = lgO kA o f2 :: W2) := by
  refine ax_Mw.of (by decide +kernel) (Nat.le_of_ble_eq_true rfl) ?_
  intro p e s m args below meth c C hadm hmeth hcode htb hX
  refine ax_ls ([(0, .ref x), (1, .int i0), (2, .ref o)]) [0, 1, 2] rfl ?_
  refine ax_aload_n (pc := 0) C d_Law_show_0 rfl 2 rfl ?_
  refine ax_iconst (pc := 1) C 0 d_Law_show_1 (by decide +kernel) ?_
  refine ax_aload_n (pc := 2) C d_Law_show_2 rfl 0 rfl ?_
  refine ax_iload_n (pc := 3) C d_Law_show_3 rfl 1 rfl ?_
  refine ax_callVi (pc := 4) C (As := [.int i0]) (rest := [.int 0, .ref o]) (wr := [lgO kA o f]) hM ml_Law_37 1 hx rfl rfl d_Law_show_4 rfl rfl (List.range' 1 W.length) [0] pk_1 (nd_rg _ _) rfl (by decide) pk_dis (show fr + 1 ≤ fr + 1 from Nat.le_refl _) (show 8 + (5 + 11) + lo ≤ lo + 24 by omega) (show 0 + mc ≤ mc by omega) (show 0 + ms ≤ ms by omega) (Nat.le_of_ble_eq_true rfl) (fun r0 w1 hw1 => ?_)
  refine ax_i2l (pc := 7) C (Int32.toInt64 r0) d_Law_show_7 rfl ?_
  refine ax_last (pc := 8) C 0 rfl d_Law_show_8 (by unfold vp_in; decide) ?_
  refine ax_w (lgO kA o (vp_updL f (Int32.toNatClampNeg 0) (Int32.toInt64 r0)) :: w1) rfl ?_
  refine ax_goto (pc := 9) C 15 d_Law_show_9 (by decide) ?_
  refine ax_iconst (pc := 15) C 0 d_Law_show_15 (by decide +kernel) ?_
  exact ax_iret (pc := 16) C d_Law_show_16 ⟨rfl, _, w1, hP r0 w1 hw1, rfl⟩ (by omega) (by omega)
theorem wr_show_x28 {l : Launch} {D : va_G} {kA : Nat → ClassId} {W : va_W} {x o : Nat} {fs : List Value} (hx : W[0]? = some (x, .inr (11, fs))) {f : Nat → Int64} {i0 : Int32} {fr lo mc ms : Nat} {post : va_W → Prop} {PW : (Nat → Int64) → va_W → Prop} (hM : ax_Mx l D kA y_CP_show b_CP_show 5 (some .int) fr lo mc ms [.ref x, .int i0] W "java/util/NoSuchElementException" post) (hP : ∀ w1, post w1 → PW f w1) : ax_Mw l D kA y_Law_show b_Law_show 4 [(0, 9, 12, 28)] (fr + 1) (lo + 24) mc ms [.ref x, .int i0, .ref o] (lgO kA o f :: W) (fun r w1 => r = 1 ∧ ∃ f2 W2, PW f2 W2 ∧ w1 = lgO kA o f2 :: W2) := by
  refine ax_Mw.of (by decide +kernel) (Nat.le_of_ble_eq_true rfl) ?_
  intro p e s m args below meth c C hadm hmeth hcode htb hX
  refine ax_ls ([(0, .ref x), (1, .int i0), (2, .ref o)]) [0, 1, 2] rfl ?_
  refine ax_aload_n (pc := 0) C d_Law_show_0 rfl 2 rfl ?_
  refine ax_iconst (pc := 1) C 0 d_Law_show_1 (by decide +kernel) ?_
  refine ax_aload_n (pc := 2) C d_Law_show_2 rfl 0 rfl ?_
  refine ax_iload_n (pc := 3) C d_Law_show_3 rfl 1 rfl ?_
  refine ax_callVx (pc := 4) C hX (hpc := 12) (As := [.int i0]) (rest := [.int 0, .ref o]) (wr := [lgO kA o f]) hM ml_Law_37 1 hx rfl rfl d_Law_show_4 rfl rfl (List.range' 1 W.length) [0] pk_1 (nd_rg _ _) rfl (by decide) pk_dis (show fr + 1 ≤ fr + 1 from Nat.le_refl _) (show 8 + (5 + 11) + lo ≤ lo + 24 by omega) (show 0 + mc ≤ mc by omega) (show 0 + ms ≤ ms by omega) (Nat.le_of_ble_eq_true rfl) (cx_F1 hadm hmeth hcode C.2.2.2.1 htb ⟨by decide, by decide⟩ (by decide) (C.2.2.2.2.1 _ tb_classLink_1284)) (fun xe w1 hw1 => ?_)
  refine ax_astore_n (pc := 12) C d_Law_show_12 rfl (Nat.le_of_ble_eq_true rfl) ([(3, .ref xe), (0, .ref x), (1, .int i0), (2, .ref o)]) rfl ?_
  refine ax_iconst (pc := 13) C 1 d_Law_show_13 (by decide +kernel) ?_
  exact ax_iret (pc := 14) C d_Law_show_14 ⟨rfl, f, w1, hP w1 hw1, rfl⟩ (by omega) (by omega)
theorem wr_out_n {l : Launch} {D : va_G} {kA : Nat → ClassId} {W : va_W} {x o : Nat} {fs : List Value} (hx : W[0]? = some (x, .inr (11, fs))) {f : Nat → Int64} {i0 : Int32} {fr lo mc ms : Nat} {post : Int32 → va_W → Prop} {PW : (Nat → Int64) → va_W → Prop} (hM : ax_Mi l D kA y_CP_out b_CP_out 2 .int fr lo mc ms [.ref x, .int i0] W post) (hP : ∀ r0 w1, post r0 w1 → PW (vp_updL f (Int32.toNatClampNeg 0) (Int32.toInt64 r0)) w1) : ax_Mw l D kA y_Law_out b_Law_out 4 [(0, 9, 12, 43)] (fr + 1) (lo + 21) mc ms [.ref x, .int i0, .ref o] (lgO kA o f :: W) (fun r w1 => r = 0 ∧ ∃ f2 W2, PW f2 W2 ∧ w1 = lgO kA o f2 :: W2) := by
  refine ax_Mw.of (by decide +kernel) (Nat.le_of_ble_eq_true rfl) ?_
  intro p e s m args below meth c C hadm hmeth hcode htb hX
  refine ax_ls ([(0, .ref x), (1, .int i0), (2, .ref o)]) [0, 1, 2] rfl ?_
  refine ax_aload_n (pc := 0) C d_Law_out_0 rfl 2 rfl ?_
  refine ax_iconst (pc := 1) C 0 d_Law_out_1 (by decide +kernel) ?_
  refine ax_aload_n (pc := 2) C d_Law_out_2 rfl 0 rfl ?_
  refine ax_iload_n (pc := 3) C d_Law_out_3 rfl 1 rfl ?_
  refine ax_callVi (pc := 4) C (As := [.int i0]) (rest := [.int 0, .ref o]) (wr := [lgO kA o f]) hM ml_Law_40 1 hx rfl rfl d_Law_out_4 rfl rfl (List.range' 1 W.length) [0] pk_1 (nd_rg _ _) rfl (by decide) pk_dis (show fr + 1 ≤ fr + 1 from Nat.le_refl _) (show 8 + (2 + 11) + lo ≤ lo + 21 by omega) (show 0 + mc ≤ mc by omega) (show 0 + ms ≤ ms by omega) (Nat.le_of_ble_eq_true rfl) (fun r0 w1 hw1 => ?_)
  refine ax_i2l (pc := 7) C (Int32.toInt64 r0) d_Law_out_7 rfl ?_
  refine ax_last (pc := 8) C 0 rfl d_Law_out_8 (by unfold vp_in; decide) ?_
  refine ax_w (lgO kA o (vp_updL f (Int32.toNatClampNeg 0) (Int32.toInt64 r0)) :: w1) rfl ?_
  refine ax_goto (pc := 9) C 15 d_Law_out_9 (by decide) ?_
  refine ax_iconst (pc := 15) C 0 d_Law_out_15 (by decide +kernel) ?_
  exact ax_iret (pc := 16) C d_Law_out_16 ⟨rfl, _, w1, hP r0 w1 hw1, rfl⟩ (by omega) (by omega)
theorem wr_out_x43 {l : Launch} {D : va_G} {kA : Nat → ClassId} {W : va_W} {x o : Nat} {fs : List Value} (hx : W[0]? = some (x, .inr (11, fs))) {f : Nat → Int64} {i0 : Int32} {fr lo mc ms : Nat} {post : va_W → Prop} {PW : (Nat → Int64) → va_W → Prop} (hM : ax_Mx l D kA y_CP_out b_CP_out 2 (some .int) fr lo mc ms [.ref x, .int i0] W "java/lang/IndexOutOfBoundsException" post) (hP : ∀ w1, post w1 → PW f w1) : ax_Mw l D kA y_Law_out b_Law_out 4 [(0, 9, 12, 43)] (fr + 1) (lo + 21) mc ms [.ref x, .int i0, .ref o] (lgO kA o f :: W) (fun r w1 => r = 1 ∧ ∃ f2 W2, PW f2 W2 ∧ w1 = lgO kA o f2 :: W2) := by
  refine ax_Mw.of (by decide +kernel) (Nat.le_of_ble_eq_true rfl) ?_
  intro p e s m args below meth c C hadm hmeth hcode htb hX
  refine ax_ls ([(0, .ref x), (1, .int i0), (2, .ref o)]) [0, 1, 2] rfl ?_
  refine ax_aload_n (pc := 0) C d_Law_out_0 rfl 2 rfl ?_
  refine ax_iconst (pc := 1) C 0 d_Law_out_1 (by decide +kernel) ?_
  refine ax_aload_n (pc := 2) C d_Law_out_2 rfl 0 rfl ?_
  refine ax_iload_n (pc := 3) C d_Law_out_3 rfl 1 rfl ?_
  refine ax_callVx (pc := 4) C hX (hpc := 12) (As := [.int i0]) (rest := [.int 0, .ref o]) (wr := [lgO kA o f]) hM ml_Law_40 1 hx rfl rfl d_Law_out_4 rfl rfl (List.range' 1 W.length) [0] pk_1 (nd_rg _ _) rfl (by decide) pk_dis (show fr + 1 ≤ fr + 1 from Nat.le_refl _) (show 8 + (2 + 11) + lo ≤ lo + 21 by omega) (show 0 + mc ≤ mc by omega) (show 0 + ms ≤ ms by omega) (Nat.le_of_ble_eq_true rfl) (cx_F1 hadm hmeth hcode C.2.2.2.1 htb ⟨by decide, by decide⟩ (by decide) (C.2.2.2.2.1 _ tb_classLink_1421)) (fun xe w1 hw1 => ?_)
  refine ax_astore_n (pc := 12) C d_Law_out_12 rfl (Nat.le_of_ble_eq_true rfl) ([(3, .ref xe), (0, .ref x), (1, .int i0), (2, .ref o)]) rfl ?_
  refine ax_iconst (pc := 13) C 1 d_Law_out_13 (by decide +kernel) ?_
  exact ax_iret (pc := 14) C d_Law_out_14 ⟨rfl, f, w1, hP w1 hw1, rfl⟩ (by omega) (by omega)
theorem wr_symbol_n {l : Launch} {D : va_G} {kA : Nat → ClassId} {W : va_W} {x o : Nat} {fs : List Value} (hx : W[0]? = some (x, .inr (11, fs))) {f : Nat → Int64} {i0 i1 : Int32} {fr lo mc ms : Nat} {post : Int32 → va_W → Prop} {PW : (Nat → Int64) → va_W → Prop} (hM : ax_Mi l D kA y_CP_symbol b_CP_symbol 4 .int fr lo mc ms [.ref x, .int i0, .int i1] W post) (hP : ∀ r0 w1, post r0 w1 → PW (vp_updL f (Int32.toNatClampNeg 0) (Int32.toInt64 r0)) w1) : ax_Mw l D kA y_Law_symbol b_Law_symbol 5 [(0, 10, 13, 28), (0, 10, 17, 19)] (fr + 1) (lo + 23) mc ms [.ref x, .int i0, .int i1, .ref o] (lgO kA o f :: W) (fun r w1 => r = 0 ∧ ∃ f2 W2, PW f2 W2 ∧ w1 = lgO kA o f2 :: W2) := by
  refine ax_Mw.of (by decide +kernel) (Nat.le_of_ble_eq_true rfl) ?_
  intro p e s m args below meth c C hadm hmeth hcode htb hX
  refine ax_ls ([(0, .ref x), (1, .int i0), (2, .int i1), (3, .ref o)]) [0, 1, 2, 3] rfl ?_
  refine ax_aload_n (pc := 0) C d_Law_symbol_0 rfl 3 rfl ?_
  refine ax_iconst (pc := 1) C 0 d_Law_symbol_1 (by decide +kernel) ?_
  refine ax_aload_n (pc := 2) C d_Law_symbol_2 rfl 0 rfl ?_
  refine ax_iload_n (pc := 3) C d_Law_symbol_3 rfl 1 rfl ?_
  refine ax_iload_n (pc := 4) C d_Law_symbol_4 rfl 2 rfl ?_
  refine ax_callVi (pc := 5) C (As := [.int i0, .int i1]) (rest := [.int 0, .ref o]) (wr := [lgO kA o f]) hM ml_Law_45 1 hx rfl rfl d_Law_symbol_5 rfl rfl (List.range' 1 W.length) [0] pk_1 (nd_rg _ _) rfl (by decide) pk_dis (show fr + 1 ≤ fr + 1 from Nat.le_refl _) (show 8 + (4 + 11) + lo ≤ lo + 23 by omega) (show 0 + mc ≤ mc by omega) (show 0 + ms ≤ ms by omega) (Nat.le_of_ble_eq_true rfl) (fun r0 w1 hw1 => ?_)
  refine ax_i2l (pc := 8) C (Int32.toInt64 r0) d_Law_symbol_8 rfl ?_
  refine ax_last (pc := 9) C 0 rfl d_Law_symbol_9 (by unfold vp_in; decide) ?_
  refine ax_w (lgO kA o (vp_updL f (Int32.toNatClampNeg 0) (Int32.toInt64 r0)) :: w1) rfl ?_
  refine ax_goto (pc := 10) C 21 d_Law_symbol_10 (by decide) ?_
  refine ax_iconst (pc := 21) C 0 d_Law_symbol_21 (by decide +kernel) ?_
  exact ax_iret (pc := 22) C d_Law_symbol_22 ⟨rfl, _, w1, hP r0 w1 hw1, rfl⟩ (by omega) (by omega)
theorem wr_symbol_x28 {l : Launch} {D : va_G} {kA : Nat → ClassId} {W : va_W} {x o : Nat} {fs : List Value} (hx : W[0]? = some (x, .inr (11, fs))) {f : Nat → Int64} {i0 i1 : Int32} {fr lo mc ms : Nat} {post : va_W → Prop} {PW : (Nat → Int64) → va_W → Prop} (hM : ax_Mx l D kA y_CP_symbol b_CP_symbol 4 (some .int) fr lo mc ms [.ref x, .int i0, .int i1] W "java/util/NoSuchElementException" post) (hP : ∀ w1, post w1 → PW f w1) : ax_Mw l D kA y_Law_symbol b_Law_symbol 5 [(0, 10, 13, 28), (0, 10, 17, 19)] (fr + 1) (lo + 23) mc ms [.ref x, .int i0, .int i1, .ref o] (lgO kA o f :: W) (fun r w1 => r = 1 ∧ ∃ f2 W2, PW f2 W2 ∧ w1 = lgO kA o f2 :: W2) := by
  refine ax_Mw.of (by decide +kernel) (Nat.le_of_ble_eq_true rfl) ?_
  intro p e s m args below meth c C hadm hmeth hcode htb hX
  refine ax_ls ([(0, .ref x), (1, .int i0), (2, .int i1), (3, .ref o)]) [0, 1, 2, 3] rfl ?_
  refine ax_aload_n (pc := 0) C d_Law_symbol_0 rfl 3 rfl ?_
  refine ax_iconst (pc := 1) C 0 d_Law_symbol_1 (by decide +kernel) ?_
  refine ax_aload_n (pc := 2) C d_Law_symbol_2 rfl 0 rfl ?_
  refine ax_iload_n (pc := 3) C d_Law_symbol_3 rfl 1 rfl ?_
  refine ax_iload_n (pc := 4) C d_Law_symbol_4 rfl 2 rfl ?_
  refine ax_callVx (pc := 5) C hX (hpc := 13) (As := [.int i0, .int i1]) (rest := [.int 0, .ref o]) (wr := [lgO kA o f]) hM ml_Law_45 1 hx rfl rfl d_Law_symbol_5 rfl rfl (List.range' 1 W.length) [0] pk_1 (nd_rg _ _) rfl (by decide) pk_dis (show fr + 1 ≤ fr + 1 from Nat.le_refl _) (show 8 + (4 + 11) + lo ≤ lo + 23 by omega) (show 0 + mc ≤ mc by omega) (show 0 + ms ≤ ms by omega) (Nat.le_of_ble_eq_true rfl) (cx_F1 hadm hmeth hcode C.2.2.2.1 htb ⟨by decide, by decide⟩ (by decide) (C.2.2.2.2.1 _ tb_classLink_1284)) (fun xe w1 hw1 => ?_)
  refine ax_astore (pc := 13) C d_Law_symbol_13 (Nat.le_of_ble_eq_true rfl) ([(4, .ref xe), (0, .ref x), (1, .int i0), (2, .int i1), (3, .ref o)]) rfl ?_
  refine ax_iconst (pc := 15) C 1 d_Law_symbol_15 (by decide +kernel) ?_
  exact ax_iret (pc := 16) C d_Law_symbol_16 ⟨rfl, f, w1, hP w1 hw1, rfl⟩ (by omega) (by omega)
theorem wr_symbol_x19 {l : Launch} {D : va_G} {kA : Nat → ClassId} {W : va_W} {x o : Nat} {fs : List Value} (hx : W[0]? = some (x, .inr (11, fs))) {f : Nat → Int64} {i0 i1 : Int32} {fr lo mc ms : Nat} {post : va_W → Prop} {PW : (Nat → Int64) → va_W → Prop} (hM : ax_Mx l D kA y_CP_symbol b_CP_symbol 4 (some .int) fr lo mc ms [.ref x, .int i0, .int i1] W "java/lang/IllegalArgumentException" post) (hP : ∀ w1, post w1 → PW f w1) : ax_Mw l D kA y_Law_symbol b_Law_symbol 5 [(0, 10, 13, 28), (0, 10, 17, 19)] (fr + 1) (lo + 23) mc ms [.ref x, .int i0, .int i1, .ref o] (lgO kA o f :: W) (fun r w1 => r = 2 ∧ ∃ f2 W2, PW f2 W2 ∧ w1 = lgO kA o f2 :: W2) := by
  refine ax_Mw.of (by decide +kernel) (Nat.le_of_ble_eq_true rfl) ?_
  intro p e s m args below meth c C hadm hmeth hcode htb hX
  refine ax_ls ([(0, .ref x), (1, .int i0), (2, .int i1), (3, .ref o)]) [0, 1, 2, 3] rfl ?_
  refine ax_aload_n (pc := 0) C d_Law_symbol_0 rfl 3 rfl ?_
  refine ax_iconst (pc := 1) C 0 d_Law_symbol_1 (by decide +kernel) ?_
  refine ax_aload_n (pc := 2) C d_Law_symbol_2 rfl 0 rfl ?_
  refine ax_iload_n (pc := 3) C d_Law_symbol_3 rfl 1 rfl ?_
  refine ax_iload_n (pc := 4) C d_Law_symbol_4 rfl 2 rfl ?_
  refine ax_callVx (pc := 5) C hX (hpc := 17) (As := [.int i0, .int i1]) (rest := [.int 0, .ref o]) (wr := [lgO kA o f]) hM ml_Law_45 1 hx rfl rfl d_Law_symbol_5 rfl rfl (List.range' 1 W.length) [0] pk_1 (nd_rg _ _) rfl (by decide) pk_dis (show fr + 1 ≤ fr + 1 from Nat.le_refl _) (show 8 + (4 + 11) + lo ≤ lo + 23 by omega) (show 0 + mc ≤ mc by omega) (show 0 + ms ≤ ms by omega) (Nat.le_of_ble_eq_true rfl) (cx_F2 hadm hmeth hcode C.2.2.2.1 htb ⟨by decide, by decide⟩ ⟨by decide, by decide⟩ (by decide) (by decide) (C.2.2.2.2.1 _ tb_classLink_1284) (C.2.2.2.2.1 _ tb_classLink_979) hX.2.2.2.2) (fun xe w1 hw1 => ?_)
  refine ax_astore (pc := 17) C d_Law_symbol_17 (Nat.le_of_ble_eq_true rfl) ([(4, .ref xe), (0, .ref x), (1, .int i0), (2, .int i1), (3, .ref o)]) rfl ?_
  refine ax_iconst (pc := 19) C 2 d_Law_symbol_19 (by decide +kernel) ?_
  exact ax_iret (pc := 20) C d_Law_symbol_20 ⟨rfl, f, w1, hP w1 hw1, rfl⟩ (by omega) (by omega)
theorem wr_step_n {l : Launch} {D : va_G} {kA : Nat → ClassId} {W : va_W} {x o : Nat} {fs : List Value} (hx : W[0]? = some (x, .inr (11, fs))) {f : Nat → Int64} {i0 : Int32} {fr lo mc ms : Nat} {post : Int32 → va_W → Prop} {PW : (Nat → Int64) → va_W → Prop} (hM : ax_Mi l D kA y_CP_step b_CP_step 2 .int fr lo mc ms [.ref x, .int i0] W post) (hP : ∀ r0 w1, post r0 w1 → PW (vp_updL f (Int32.toNatClampNeg 0) (Int32.toInt64 r0)) w1) : ax_Mw l D kA y_Law_step b_Law_step 4 [(0, 9, 12, 43)] (fr + 1) (lo + 21) mc ms [.ref x, .int i0, .ref o] (lgO kA o f :: W) (fun r w1 => r = 0 ∧ ∃ f2 W2, PW f2 W2 ∧ w1 = lgO kA o f2 :: W2) := by
  refine ax_Mw.of (by decide +kernel) (Nat.le_of_ble_eq_true rfl) ?_
  intro p e s m args below meth c C hadm hmeth hcode htb hX
  refine ax_ls ([(0, .ref x), (1, .int i0), (2, .ref o)]) [0, 1, 2] rfl ?_
  refine ax_aload_n (pc := 0) C d_Law_step_0 rfl 2 rfl ?_
  refine ax_iconst (pc := 1) C 0 d_Law_step_1 (by decide +kernel) ?_
  refine ax_aload_n (pc := 2) C d_Law_step_2 rfl 0 rfl ?_
  refine ax_iload_n (pc := 3) C d_Law_step_3 rfl 1 rfl ?_
  refine ax_callVi (pc := 4) C (As := [.int i0]) (rest := [.int 0, .ref o]) (wr := [lgO kA o f]) hM ml_Law_48 1 hx rfl rfl d_Law_step_4 rfl rfl (List.range' 1 W.length) [0] pk_1 (nd_rg _ _) rfl (by decide) pk_dis (show fr + 1 ≤ fr + 1 from Nat.le_refl _) (show 8 + (2 + 11) + lo ≤ lo + 21 by omega) (show 0 + mc ≤ mc by omega) (show 0 + ms ≤ ms by omega) (Nat.le_of_ble_eq_true rfl) (fun r0 w1 hw1 => ?_)
  refine ax_i2l (pc := 7) C (Int32.toInt64 r0) d_Law_step_7 rfl ?_
  refine ax_last (pc := 8) C 0 rfl d_Law_step_8 (by unfold vp_in; decide) ?_
  refine ax_w (lgO kA o (vp_updL f (Int32.toNatClampNeg 0) (Int32.toInt64 r0)) :: w1) rfl ?_
  refine ax_goto (pc := 9) C 15 d_Law_step_9 (by decide) ?_
  refine ax_iconst (pc := 15) C 0 d_Law_step_15 (by decide +kernel) ?_
  exact ax_iret (pc := 16) C d_Law_step_16 ⟨rfl, _, w1, hP r0 w1 hw1, rfl⟩ (by omega) (by omega)
theorem wr_step_x43 {l : Launch} {D : va_G} {kA : Nat → ClassId} {W : va_W} {x o : Nat} {fs : List Value} (hx : W[0]? = some (x, .inr (11, fs))) {f : Nat → Int64} {i0 : Int32} {fr lo mc ms : Nat} {post : va_W → Prop} {PW : (Nat → Int64) → va_W → Prop} (hM : ax_Mx l D kA y_CP_step b_CP_step 2 (some .int) fr lo mc ms [.ref x, .int i0] W "java/lang/IndexOutOfBoundsException" post) (hP : ∀ w1, post w1 → PW f w1) : ax_Mw l D kA y_Law_step b_Law_step 4 [(0, 9, 12, 43)] (fr + 1) (lo + 21) mc ms [.ref x, .int i0, .ref o] (lgO kA o f :: W) (fun r w1 => r = 1 ∧ ∃ f2 W2, PW f2 W2 ∧ w1 = lgO kA o f2 :: W2) := by
  refine ax_Mw.of (by decide +kernel) (Nat.le_of_ble_eq_true rfl) ?_
  intro p e s m args below meth c C hadm hmeth hcode htb hX
  refine ax_ls ([(0, .ref x), (1, .int i0), (2, .ref o)]) [0, 1, 2] rfl ?_
  refine ax_aload_n (pc := 0) C d_Law_step_0 rfl 2 rfl ?_
  refine ax_iconst (pc := 1) C 0 d_Law_step_1 (by decide +kernel) ?_
  refine ax_aload_n (pc := 2) C d_Law_step_2 rfl 0 rfl ?_
  refine ax_iload_n (pc := 3) C d_Law_step_3 rfl 1 rfl ?_
  refine ax_callVx (pc := 4) C hX (hpc := 12) (As := [.int i0]) (rest := [.int 0, .ref o]) (wr := [lgO kA o f]) hM ml_Law_48 1 hx rfl rfl d_Law_step_4 rfl rfl (List.range' 1 W.length) [0] pk_1 (nd_rg _ _) rfl (by decide) pk_dis (show fr + 1 ≤ fr + 1 from Nat.le_refl _) (show 8 + (2 + 11) + lo ≤ lo + 21 by omega) (show 0 + mc ≤ mc by omega) (show 0 + ms ≤ ms by omega) (Nat.le_of_ble_eq_true rfl) (cx_F1 hadm hmeth hcode C.2.2.2.1 htb ⟨by decide, by decide⟩ (by decide) (C.2.2.2.2.1 _ tb_classLink_1421)) (fun xe w1 hw1 => ?_)
  refine ax_astore_n (pc := 12) C d_Law_step_12 rfl (Nat.le_of_ble_eq_true rfl) ([(3, .ref xe), (0, .ref x), (1, .int i0), (2, .ref o)]) rfl ?_
  refine ax_iconst (pc := 13) C 1 d_Law_step_13 (by decide +kernel) ?_
  exact ax_iret (pc := 14) C d_Law_step_14 ⟨rfl, f, w1, hP w1 hw1, rfl⟩ (by omega) (by omega)
theorem wr_look_n {l : Launch} {D : va_G} {kA : Nat → ClassId} {W : va_W} {x o : Nat} {fs : List Value} (hx : W[0]? = some (x, .inr (11, fs))) {f : Nat → Int64} {i0 i1 : Int32} {fr lo mc ms : Nat} {post : Int32 → va_W → Prop} {PW : (Nat → Int64) → va_W → Prop} (hM : ax_Mi l D kA y_CP_look b_CP_look 5 .int fr lo mc ms [.ref x, .int i0, .int i1] W post) (hP : ∀ r0 w1, post r0 w1 → PW (vp_updL f (Int32.toNatClampNeg 0) (Int32.toInt64 r0)) w1) : ax_Mw l D kA y_Law_look b_Law_look 5 [(0, 10, 13, 19)] (fr + 1) (lo + 24) mc ms [.ref x, .int i0, .int i1, .ref o] (lgO kA o f :: W) (fun r w1 => r = 0 ∧ ∃ f2 W2, PW f2 W2 ∧ w1 = lgO kA o f2 :: W2) := by
  refine ax_Mw.of (by decide +kernel) (Nat.le_of_ble_eq_true rfl) ?_
  intro p e s m args below meth c C hadm hmeth hcode htb hX
  refine ax_ls ([(0, .ref x), (1, .int i0), (2, .int i1), (3, .ref o)]) [0, 1, 2, 3] rfl ?_
  refine ax_aload_n (pc := 0) C d_Law_look_0 rfl 3 rfl ?_
  refine ax_iconst (pc := 1) C 0 d_Law_look_1 (by decide +kernel) ?_
  refine ax_aload_n (pc := 2) C d_Law_look_2 rfl 0 rfl ?_
  refine ax_iload_n (pc := 3) C d_Law_look_3 rfl 1 rfl ?_
  refine ax_iload_n (pc := 4) C d_Law_look_4 rfl 2 rfl ?_
  refine ax_callVi (pc := 5) C (As := [.int i0, .int i1]) (rest := [.int 0, .ref o]) (wr := [lgO kA o f]) hM ml_Law_51 1 hx rfl rfl d_Law_look_5 rfl rfl (List.range' 1 W.length) [0] pk_1 (nd_rg _ _) rfl (by decide) pk_dis (show fr + 1 ≤ fr + 1 from Nat.le_refl _) (show 8 + (5 + 11) + lo ≤ lo + 24 by omega) (show 0 + mc ≤ mc by omega) (show 0 + ms ≤ ms by omega) (Nat.le_of_ble_eq_true rfl) (fun r0 w1 hw1 => ?_)
  refine ax_i2l (pc := 8) C (Int32.toInt64 r0) d_Law_look_8 rfl ?_
  refine ax_last (pc := 9) C 0 rfl d_Law_look_9 (by unfold vp_in; decide) ?_
  refine ax_w (lgO kA o (vp_updL f (Int32.toNatClampNeg 0) (Int32.toInt64 r0)) :: w1) rfl ?_
  refine ax_goto (pc := 10) C 17 d_Law_look_10 (by decide) ?_
  refine ax_iconst (pc := 17) C 0 d_Law_look_17 (by decide +kernel) ?_
  exact ax_iret (pc := 18) C d_Law_look_18 ⟨rfl, _, w1, hP r0 w1 hw1, rfl⟩ (by omega) (by omega)
theorem wr_look_x19 {l : Launch} {D : va_G} {kA : Nat → ClassId} {W : va_W} {x o : Nat} {fs : List Value} (hx : W[0]? = some (x, .inr (11, fs))) {f : Nat → Int64} {i0 i1 : Int32} {fr lo mc ms : Nat} {post : va_W → Prop} {PW : (Nat → Int64) → va_W → Prop} (hM : ax_Mx l D kA y_CP_look b_CP_look 5 (some .int) fr lo mc ms [.ref x, .int i0, .int i1] W "java/lang/IllegalArgumentException" post) (hP : ∀ w1, post w1 → PW f w1) : ax_Mw l D kA y_Law_look b_Law_look 5 [(0, 10, 13, 19)] (fr + 1) (lo + 24) mc ms [.ref x, .int i0, .int i1, .ref o] (lgO kA o f :: W) (fun r w1 => r = 1 ∧ ∃ f2 W2, PW f2 W2 ∧ w1 = lgO kA o f2 :: W2) := by
  refine ax_Mw.of (by decide +kernel) (Nat.le_of_ble_eq_true rfl) ?_
  intro p e s m args below meth c C hadm hmeth hcode htb hX
  refine ax_ls ([(0, .ref x), (1, .int i0), (2, .int i1), (3, .ref o)]) [0, 1, 2, 3] rfl ?_
  refine ax_aload_n (pc := 0) C d_Law_look_0 rfl 3 rfl ?_
  refine ax_iconst (pc := 1) C 0 d_Law_look_1 (by decide +kernel) ?_
  refine ax_aload_n (pc := 2) C d_Law_look_2 rfl 0 rfl ?_
  refine ax_iload_n (pc := 3) C d_Law_look_3 rfl 1 rfl ?_
  refine ax_iload_n (pc := 4) C d_Law_look_4 rfl 2 rfl ?_
  refine ax_callVx (pc := 5) C hX (hpc := 13) (As := [.int i0, .int i1]) (rest := [.int 0, .ref o]) (wr := [lgO kA o f]) hM ml_Law_51 1 hx rfl rfl d_Law_look_5 rfl rfl (List.range' 1 W.length) [0] pk_1 (nd_rg _ _) rfl (by decide) pk_dis (show fr + 1 ≤ fr + 1 from Nat.le_refl _) (show 8 + (5 + 11) + lo ≤ lo + 24 by omega) (show 0 + mc ≤ mc by omega) (show 0 + ms ≤ ms by omega) (Nat.le_of_ble_eq_true rfl) (cx_F1 hadm hmeth hcode C.2.2.2.1 htb ⟨by decide, by decide⟩ (by decide) (C.2.2.2.2.1 _ tb_classLink_979)) (fun xe w1 hw1 => ?_)
  refine ax_astore (pc := 13) C d_Law_look_13 (Nat.le_of_ble_eq_true rfl) ([(4, .ref xe), (0, .ref x), (1, .int i0), (2, .int i1), (3, .ref o)]) rfl ?_
  refine ax_iconst (pc := 15) C 1 d_Law_look_15 (by decide +kernel) ?_
  exact ax_iret (pc := 16) C d_Law_look_16 ⟨rfl, f, w1, hP w1 hw1, rfl⟩ (by omega) (by omega)
theorem wr_search_n {l : Launch} {D : va_G} {kA : Nat → ClassId} {W : va_W} {x o : Nat} {fs : List Value} (hx : W[0]? = some (x, .inr (11, fs))) {f : Nat → Int64} {i0 i1 i2 : Int32} {fr lo mc ms : Nat} {post : Int32 → va_W → Prop} {PW : (Nat → Int64) → va_W → Prop} (hM : ax_Mi l D kA y_CP_search b_CP_search 5 .int fr lo mc ms [.ref x, .int i0, .int i1, .int i2] W post) (hP : ∀ r0 w1, post r0 w1 → PW (vp_updL f (Int32.toNatClampNeg 0) (Int32.toInt64 r0)) w1) : ax_Mw l D kA y_Law_search b_Law_search 6 [(0, 12, 15, 19)] (fr + 1) (lo + 24) mc ms [.ref x, .int i0, .int i1, .int i2, .ref o] (lgO kA o f :: W) (fun r w1 => r = 0 ∧ ∃ f2 W2, PW f2 W2 ∧ w1 = lgO kA o f2 :: W2) := by
  refine ax_Mw.of (by decide +kernel) (Nat.le_of_ble_eq_true rfl) ?_
  intro p e s m args below meth c C hadm hmeth hcode htb hX
  refine ax_ls ([(0, .ref x), (1, .int i0), (2, .int i1), (3, .int i2), (4, .ref o)]) [0, 1, 2, 3, 4] rfl ?_
  refine ax_aload (pc := 0) C d_Law_search_0 4 rfl ?_
  refine ax_iconst (pc := 2) C 0 d_Law_search_2 (by decide +kernel) ?_
  refine ax_aload_n (pc := 3) C d_Law_search_3 rfl 0 rfl ?_
  refine ax_iload_n (pc := 4) C d_Law_search_4 rfl 1 rfl ?_
  refine ax_iload_n (pc := 5) C d_Law_search_5 rfl 2 rfl ?_
  refine ax_iload_n (pc := 6) C d_Law_search_6 rfl 3 rfl ?_
  refine ax_callVi (pc := 7) C (As := [.int i0, .int i1, .int i2]) (rest := [.int 0, .ref o]) (wr := [lgO kA o f]) hM ml_Law_54 1 hx rfl rfl d_Law_search_7 rfl rfl (List.range' 1 W.length) [0] pk_1 (nd_rg _ _) rfl (by decide) pk_dis (show fr + 1 ≤ fr + 1 from Nat.le_refl _) (show 8 + (5 + 11) + lo ≤ lo + 24 by omega) (show 0 + mc ≤ mc by omega) (show 0 + ms ≤ ms by omega) (Nat.le_of_ble_eq_true rfl) (fun r0 w1 hw1 => ?_)
  refine ax_i2l (pc := 10) C (Int32.toInt64 r0) d_Law_search_10 rfl ?_
  refine ax_last (pc := 11) C 0 rfl d_Law_search_11 (by unfold vp_in; decide) ?_
  refine ax_w (lgO kA o (vp_updL f (Int32.toNatClampNeg 0) (Int32.toInt64 r0)) :: w1) rfl ?_
  refine ax_goto (pc := 12) C 19 d_Law_search_12 (by decide) ?_
  refine ax_iconst (pc := 19) C 0 d_Law_search_19 (by decide +kernel) ?_
  exact ax_iret (pc := 20) C d_Law_search_20 ⟨rfl, _, w1, hP r0 w1 hw1, rfl⟩ (by omega) (by omega)
theorem wr_search_x19 {l : Launch} {D : va_G} {kA : Nat → ClassId} {W : va_W} {x o : Nat} {fs : List Value} (hx : W[0]? = some (x, .inr (11, fs))) {f : Nat → Int64} {i0 i1 i2 : Int32} {fr lo mc ms : Nat} {post : va_W → Prop} {PW : (Nat → Int64) → va_W → Prop} (hM : ax_Mx l D kA y_CP_search b_CP_search 5 (some .int) fr lo mc ms [.ref x, .int i0, .int i1, .int i2] W "java/lang/IllegalArgumentException" post) (hP : ∀ w1, post w1 → PW f w1) : ax_Mw l D kA y_Law_search b_Law_search 6 [(0, 12, 15, 19)] (fr + 1) (lo + 24) mc ms [.ref x, .int i0, .int i1, .int i2, .ref o] (lgO kA o f :: W) (fun r w1 => r = 1 ∧ ∃ f2 W2, PW f2 W2 ∧ w1 = lgO kA o f2 :: W2) := by
  refine ax_Mw.of (by decide +kernel) (Nat.le_of_ble_eq_true rfl) ?_
  intro p e s m args below meth c C hadm hmeth hcode htb hX
  refine ax_ls ([(0, .ref x), (1, .int i0), (2, .int i1), (3, .int i2), (4, .ref o)]) [0, 1, 2, 3, 4] rfl ?_
  refine ax_aload (pc := 0) C d_Law_search_0 4 rfl ?_
  refine ax_iconst (pc := 2) C 0 d_Law_search_2 (by decide +kernel) ?_
  refine ax_aload_n (pc := 3) C d_Law_search_3 rfl 0 rfl ?_
  refine ax_iload_n (pc := 4) C d_Law_search_4 rfl 1 rfl ?_
  refine ax_iload_n (pc := 5) C d_Law_search_5 rfl 2 rfl ?_
  refine ax_iload_n (pc := 6) C d_Law_search_6 rfl 3 rfl ?_
  refine ax_callVx (pc := 7) C hX (hpc := 15) (As := [.int i0, .int i1, .int i2]) (rest := [.int 0, .ref o]) (wr := [lgO kA o f]) hM ml_Law_54 1 hx rfl rfl d_Law_search_7 rfl rfl (List.range' 1 W.length) [0] pk_1 (nd_rg _ _) rfl (by decide) pk_dis (show fr + 1 ≤ fr + 1 from Nat.le_refl _) (show 8 + (5 + 11) + lo ≤ lo + 24 by omega) (show 0 + mc ≤ mc by omega) (show 0 + ms ≤ ms by omega) (Nat.le_of_ble_eq_true rfl) (cx_F1 hadm hmeth hcode C.2.2.2.1 htb ⟨by decide, by decide⟩ (by decide) (C.2.2.2.2.1 _ tb_classLink_979)) (fun xe w1 hw1 => ?_)
  refine ax_astore (pc := 15) C d_Law_search_15 (Nat.le_of_ble_eq_true rfl) ([(5, .ref xe), (0, .ref x), (1, .int i0), (2, .int i1), (3, .int i2), (4, .ref o)]) rfl ?_
  refine ax_iconst (pc := 17) C 1 d_Law_search_17 (by decide +kernel) ?_
  exact ax_iret (pc := 18) C d_Law_search_18 ⟨rfl, f, w1, hP w1 hw1, rfl⟩ (by omega) (by omega)
