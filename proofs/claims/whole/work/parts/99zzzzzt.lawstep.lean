/-! one turn of the law's loop -/
/-- what holds at the head of the law's loop -/
def LI (i : Nat) (σ ρ : zS) (cells slots : Nat) : Prop := ∃ qo, (∃ n, TL qo σ ρ n ∧ 3 * n ≤ 10 * i) ∧ zOK σ ∧ zOK ρ ∧ (σ.2.2 3000 = 0 ∧ σ.2.2 3001 = 0 ∧ σ.2.2 3002 = 0) ∧ 17 * cells ≤ 17 * (157 + i) + rl σ + qo ∧ slots ≤ 2335231 + 7 * i + 2 * rl σ + 2 * qo
theorem cp_rst {kA : Nat → ClassId} {u w : Nat → Nat} {tx : Value} {τ : zS} : cpW kA u w tx (cv (rst τ)) = cpW kA u w tx (cv τ) := rfl
theorem zOK_rst {τ : zS} (h : zOK τ) : zOK (rst τ) := by
  refine ⟨h.1, h.2.1, fun k => ?_⟩
  by_cases c : k = 3000 ∨ k = 3001 ∨ k = 3002
  · have e : (rst τ).2.2 k = 0 := by show (if _ then _ else _) = _; rw [if_pos c]
    rw [e]; exact ⟨by decide, by decide⟩
  · have e : (rst τ).2.2 k = τ.2.2 k := by show (if _ then _ else _) = _; rw [if_neg c]
    rw [e]; exact h.2.2 k
theorem rl_rst {τ : zS} : rl (rst τ) = rl τ := by unfold rl; simp [rst]
theorem LI.nx {i qo : Nat} {σ τ κ : zS} {cells slots n : Nat} (h3 : σ.2.2 3000 = 0 ∧ σ.2.2 3001 = 0 ∧ σ.2.2 3002 = 0) (hc : 17 * cells ≤ 17 * (157 + i) + rl σ + qo) (hs : slots ≤ 2335231 + 7 * i + 2 * rl σ + 2 * qo) (mg : MgT σ τ) (zτ : zOK τ) (zκ : zOK κ) (tl : TL qo (rst τ) κ n) (hn : 3 * n ≤ 10 * (i + 6)) (mc ms : Nat) (hm : mc ≤ 2) (hms : ms ≤ 14) : LI (i + 6) (rst τ) κ (cells + (τ.2.2 3001 - σ.2.2 3001) + mc) (slots + (τ.2.2 3002 - σ.2.2 3002) + ms) := by
  refine ⟨qo, ⟨n, tl, hn⟩, zOK_rst zτ, zκ, ⟨by simp [rst], by simp [rst], by simp [rst]⟩, ?_, ?_⟩
  · rw [rl_rst]
    rcases mg with ⟨m1, m2⟩ | ⟨m0, m1, m2⟩ <;> omega
  · rw [rl_rst]
    rcases mg with ⟨m1, m2⟩ | ⟨m0, m1, m2⟩ <;> omega
theorem LI.rm {i : Nat} {σ ρ : zS} {cells slots : Nat} (h : LI i σ ρ cells slots) (hi : i ≤ 3072) (hRl : ∀ qo σ ρ n, TL qo σ ρ n → rl σ + qo ≤ 2400000) : cells ≤ room_1.cells ∧ slots ≤ room_1.slots := by
  obtain ⟨qo, ⟨n, tl, _⟩, _, _, _, hc, hs⟩ := h
  have := hRl qo σ ρ n tl
  have e1 : 600000 ≤ room_1.cells := by decide
  have e2 : 7200000 ≤ room_1.slots := by decide
  omega
theorem i32_0 : i32 0 = 0 := rfl
theorem i32_1 : i32 1 = 1 := rfl
theorem i32_2 : i32 2 = 2 := rfl
theorem upd_0 (f : Nat → Int64) (y : Int64) : vp_updL f (Int32.toNatClampNeg 0) y (Int32.toNatClampNeg 0) = y := by simp [vp_updL]
theorem st_feed {p : Program} {e : Env} {s : State} {m : MethodId} {below : List Frame} {meth : Method} {c : Code} {l : Launch} {D : va_G} {kA : Nat → ClassId} {b L : Nat} {xs : Nat → Int32} {o z : Nat} {u v w : Nat → Nat} {tx : Value} {f : Nat → Int64} {Q : State → Prop} {cells slots : Nat} (C : ax_C p s m #[Value.ref b] meth c code "ClauseProverLaw" 7 ret D kA (fun q => s.heap.size ≤ q)) (hX : ax_X (fun q => s.heap.size ≤ q) s s.heap) (hXb : va_X b L xs s s.heap) (hbl : b < s.heap.size) (hbA : ¬ s.heap.size ≤ b) (htr : l.stackTraces = false) {i : Nat} (hi : i + 6 ≤ L) (hL : L ≤ 3072) (hRl : ∀ qo σ ρ n, TL qo σ ρ n → rl σ + qo ≤ 2400000) {σ ρ : zS} (hI : LI i σ ρ cells slots)
    (kk : ∀ (f2 : Nat → Int64) (σ2 ρ2 : zS) (w2 v2 : Nat → Nat) (tx2 : Value) (c2 s2 : Nat), LI (i + 6) σ2 ρ2 c2 s2 → AW p l e room_1 s m #[Value.ref b] below meth c D kA (fun q => s.heap.size ≤ q) 7 Q 1012 [(4, .int (Int32.ofNat i)), (3, .ref o), (2, .ref z), (1, .ref (u 0)), (0, .ref b)] [] (lgO kA o f2 :: (cpW kA u w2 tx2 (cv σ2) ++ mmW kA z v2 (cv ρ2))) (c2) (s2)) : AW p l e room_1 s m #[Value.ref b] below meth c D kA (fun q => s.heap.size ≤ q) 7 Q 120 [(4, .int (Int32.ofNat i)), (3, .ref o), (2, .ref z), (1, .ref (u 0)), (0, .ref b)] [] (lgO kA o f :: (cpW kA u w tx (cv σ) ++ mmW kA z v (cv ρ))) (cells) (slots) := by
  obtain ⟨qo, ⟨n, hTL, hn⟩, zs, zρ, h3, hc, hs⟩ := hI
  obtain ⟨τ, r, κ, s2, y1, z1, k4, req, mg, tl⟩ := pfeed_ok hTL (by omega) h3.1 (β := 200) (γ := 1646) (by omega) (by omega) (a := (xs (i + 1)).toInt) (b := (xs (i + 2)).toInt) (c := (xs (i + 3)).toInt) (d := (xs (i + 4)).toInt) (e := (xs (i + 5)).toInt)
  obtain ⟨zτ, _, d, hd, _, _, hp⟩ := yE_sound zs (fun x hx => by simp only [List.mem_cons, List.not_mem_nil, or_false] at hx; rcases hx with rfl | rfl | rfl | rfl | rfl <;> exact zr_to _) y1
  obtain ⟨zκ, _, d2, hd2, hm⟩ := zE_sound l D kA z v zρ (fun x hx => by simp only [List.mem_cons, List.not_mem_nil, or_false] at hx; rcases hx with rfl | rfl | rfl | rfl | rfl <;> exact zr_to _) z1
  obtain ⟨_, _, d3, hd3, ht⟩ := zE_sound l D kA z v zκ (fun x hx => by cases hx) (show zE tM_thrown 0 κ [] = some (κ, κ.1 4) by rw [zq_thrown, kZ_thrown])
  have d30 : d3 = 0 := by omega
  subst d30
  have hT := (show sM_thrown l D kA z v (cv κ) [] (cv κ, i32 (κ.1 4), 0) from ht) rfl
  have hM := (show sM_feed l D kA z v (cv ρ) [i32 (xs (i + 1)).toInt, i32 (xs (i + 2)).toInt, i32 (xs (i + 3)).toInt, i32 (xs (i + 4)).toInt, i32 (xs (i + 5)).toInt] (cv κ, i32 s2, d2) from hm) _ _ _ _ _ rfl
  rw [to_i32, to_i32, to_i32, to_i32, to_i32] at hM
  dsimp only at hM
  have hpp : sPn_CP_feed l D kA u (cv σ) [i32 (xs (i + 1)).toInt, i32 (xs (i + 2)).toInt, i32 (xs (i + 3)).toInt, i32 (xs (i + 4)).toInt, i32 (xs (i + 5)).toInt] (cv τ, i32 r, d) ∧ sPx1_CP_feed l D kA u (cv σ) [i32 (xs (i + 1)).toInt, i32 (xs (i + 2)).toInt, i32 (xs (i + 3)).toInt, i32 (xs (i + 4)).toInt, i32 (xs (i + 5)).toInt] (cv τ, i32 r, d) := hp l D kA u
  have hN := LI.nx h3 hc hs mg zτ zκ tl (by omega) 0 0 (by omega) (by omega)
  obtain ⟨rm1, rm2⟩ := hN.rm (by omega) hRl
  have hk4 := List.mem_of_elem_eq_true k4
  simp only [List.mem_cons, List.not_mem_nil, or_false, Prod.mk.injEq] at hk4
  obtain ⟨c0, e0⟩ := hk4
  rw [e0, i32_0] at hT
  have hY := hpp.1 _ _ _ _ _ rfl w tx h3.1 c0
  rw [to_i32, to_i32, to_i32, to_i32, to_i32] at hY
  dsimp only at hY
  have hW := wr_feed_n (o := o) (f := f) (PW := fun f2 W2 => ((0 : Int32) = 0 → f2 (Int32.toNatClampNeg 0) = Int32.toInt64 (i32 r)) ∧ ∃ w2 tx2, W2 = cpW kA u w2 tx2 (cv τ)) rfl hY (fun r0 w1 hw => by obtain ⟨er, w2, tx2, _, _, ew⟩ := hw; exact ⟨fun _ => by rw [er, upd_0], w2, tx2, ew⟩)
  refine lk_feed (fs := []) C hX hXb hbl hbA hi hL (k := 0) (rb := i32 s2) (PW := fun f2 W2 => ((0 : Int32) = 0 → f2 (Int32.toNatClampNeg 0) = Int32.toInt64 (i32 r)) ∧ ∃ w2 tx2, W2 = cpW kA u w2 tx2 (cv τ)) hW (show _ ≤ 2048 by omega) (show _ ≤ 84000 by omega) rfl hM (show _ ≤ 2048 by omega) (show _ ≤ 84000 by omega) ⟨_, rfl⟩ hT (fun _ f2 W2 hP => by rw [hP.1 rfl, req c0]) (by decide) (by decide) rm1 rm2 (fun f2 W2 hP => ?_)
  obtain ⟨_, w2, tx2, eW⟩ := hP
  rw [eW, ← cp_rst]
  exact kk f2 (rst τ) κ w2 v tx2 _ _ hN
theorem st_end {p : Program} {e : Env} {s : State} {m : MethodId} {below : List Frame} {meth : Method} {c : Code} {l : Launch} {D : va_G} {kA : Nat → ClassId} {b L : Nat} {xs : Nat → Int32} {o z : Nat} {u v w : Nat → Nat} {tx : Value} {f : Nat → Int64} {Q : State → Prop} {cells slots : Nat} (C : ax_C p s m #[Value.ref b] meth c code "ClauseProverLaw" 7 ret D kA (fun q => s.heap.size ≤ q)) (hX : ax_X (fun q => s.heap.size ≤ q) s s.heap) (hXb : va_X b L xs s s.heap) (hbl : b < s.heap.size) (hbA : ¬ s.heap.size ≤ b) (htr : l.stackTraces = false) {i : Nat} (hi : i + 6 ≤ L) (hL : L ≤ 3072) (hRl : ∀ qo σ ρ n, TL qo σ ρ n → rl σ + qo ≤ 2400000) {σ ρ : zS} (hI : LI i σ ρ cells slots)
    (kk : ∀ (f2 : Nat → Int64) (σ2 ρ2 : zS) (w2 v2 : Nat → Nat) (tx2 : Value) (c2 s2 : Nat), LI (i + 6) σ2 ρ2 c2 s2 → AW p l e room_1 s m #[Value.ref b] below meth c D kA (fun q => s.heap.size ≤ q) 7 Q 1012 [(4, .int (Int32.ofNat i)), (3, .ref o), (2, .ref z), (1, .ref (u 0)), (0, .ref b)] [] (lgO kA o f2 :: (cpW kA u w2 tx2 (cv σ2) ++ mmW kA z v2 (cv ρ2))) (c2) (s2)) : AW p l e room_1 s m #[Value.ref b] below meth c D kA (fun q => s.heap.size ≤ q) 7 Q 224 [(4, .int (Int32.ofNat i)), (3, .ref o), (2, .ref z), (1, .ref (u 0)), (0, .ref b)] [] (lgO kA o f :: (cpW kA u w tx (cv σ) ++ mmW kA z v (cv ρ))) (cells) (slots) := by
  obtain ⟨qo, ⟨n, hTL, hn⟩, zs, zρ, h3, hc, hs⟩ := hI
  obtain ⟨n2, hn2, τ, r, κ, s2, y1, z1, k4, req, mg, tl⟩ := pend_ok hTL h3.1 (β := 200) (γ := 1646) (by omega) (x := (xs (i + 1)).toInt)
  obtain ⟨zτ, _, d, hd, _, _, hp⟩ := yE_sound zs (fun x hx => by rw [List.mem_singleton.mp hx]; exact zr_to _) y1
  obtain ⟨zκ, _, d2, hd2, hm⟩ := zE_sound l D kA z v zρ (fun x hx => by rw [List.mem_singleton.mp hx]; exact zr_to _) z1
  obtain ⟨_, _, d3, hd3, ht⟩ := zE_sound l D kA z v zκ (fun x hx => by cases hx) (show zE tM_thrown 0 κ [] = some (κ, κ.1 4) by rw [zq_thrown, kZ_thrown])
  have d30 : d3 = 0 := by omega
  subst d30
  have hT := (show sM_thrown l D kA z v (cv κ) [] (cv κ, i32 (κ.1 4), 0) from ht) rfl
  have hM := (show sM_end l D kA z v (cv ρ) [i32 (xs (i + 1)).toInt] (cv κ, i32 s2, d2) from hm) _ rfl
  rw [to_i32] at hM
  dsimp only at hM
  have hpp : sPn_CP_end l D kA u (cv σ) [i32 (xs (i + 1)).toInt] (cv τ, i32 r, d) ∧ sPx2_CP_end l D kA u (cv σ) [i32 (xs (i + 1)).toInt] (cv τ, i32 r, d) := hp l D kA u
  have hN := LI.nx h3 hc hs mg zτ zκ tl (by omega) 0 0 (by omega) (by omega)
  obtain ⟨rm1, rm2⟩ := hN.rm (by omega) hRl
  have hk4 := List.mem_of_elem_eq_true k4
  simp only [List.mem_cons, List.not_mem_nil, or_false, Prod.mk.injEq] at hk4
  rcases hk4 with ⟨c0, e0⟩ | ⟨c0, e0⟩
  · rw [e0, i32_0] at hT
    have hY := hpp.1 _ rfl w tx h3.1 c0
    rw [to_i32] at hY
    dsimp only at hY
    have hW := wr_end_n (o := o) (f := f) (PW := fun f2 W2 => ((0 : Int32) = 0 → f2 (Int32.toNatClampNeg 0) = Int32.toInt64 (i32 r)) ∧ ∃ w2 tx2, W2 = cpW kA u w2 tx2 (cv τ)) rfl hY (fun r0 w1 hw => by obtain ⟨er, w2, tx2, _, _, ew⟩ := hw; exact ⟨fun _ => by rw [er, upd_0], w2, tx2, ew⟩)
    refine lk_end (fs := []) C hX hXb hbl hbA hi hL (k := 0) (rb := i32 s2) (PW := fun f2 W2 => ((0 : Int32) = 0 → f2 (Int32.toNatClampNeg 0) = Int32.toInt64 (i32 r)) ∧ ∃ w2 tx2, W2 = cpW kA u w2 tx2 (cv τ)) hW (show _ ≤ 2048 by omega) (show _ ≤ 84000 by omega) rfl hM (show _ ≤ 2048 by omega) (show _ ≤ 84000 by omega) ⟨_, rfl⟩ hT (fun _ f2 W2 hP => by rw [hP.1 rfl, req c0]) (by decide) (by decide) rm1 rm2 (fun f2 W2 hP => ?_)
    obtain ⟨_, w2, tx2, eW⟩ := hP
    rw [eW, ← cp_rst]
    exact kk f2 (rst τ) κ w2 v tx2 _ _ hN
  · rw [e0, i32_1] at hT
    have hY := hpp.2 _ rfl w tx h3.1 c0 htr
    rw [to_i32] at hY
    dsimp only at hY
    have hW := wr_end_x19 (o := o) (f := f) (PW := fun f2 W2 => ((1 : Int32) = 0 → f2 (Int32.toNatClampNeg 0) = Int32.toInt64 (i32 r)) ∧ ∃ w2 tx2, W2 = cpW kA u w2 tx2 (cv τ)) rfl hY (fun w1 hw => by obtain ⟨w2, _, ew⟩ := hw; exact ⟨fun z => absurd z (by decide), w2, tx, ew⟩)
    refine lk_end (fs := []) C hX hXb hbl hbA hi hL (k := 1) (rb := i32 s2) (PW := fun f2 W2 => ((1 : Int32) = 0 → f2 (Int32.toNatClampNeg 0) = Int32.toInt64 (i32 r)) ∧ ∃ w2 tx2, W2 = cpW kA u w2 tx2 (cv τ)) hW (show _ ≤ 2048 by omega) (show _ ≤ 84000 by omega) rfl hM (show _ ≤ 2048 by omega) (show _ ≤ 84000 by omega) ⟨_, rfl⟩ hT (fun z => absurd z (by decide)) (by decide) (by decide) rm1 rm2 (fun f2 W2 hP => ?_)
    obtain ⟨_, w2, tx2, eW⟩ := hP
    rw [eW, ← cp_rst]
    exact kk f2 (rst τ) κ w2 v tx2 _ _ hN
theorem st_run {p : Program} {e : Env} {s : State} {m : MethodId} {below : List Frame} {meth : Method} {c : Code} {l : Launch} {D : va_G} {kA : Nat → ClassId} {b L : Nat} {xs : Nat → Int32} {o z : Nat} {u v w : Nat → Nat} {tx : Value} {f : Nat → Int64} {Q : State → Prop} {cells slots : Nat} (C : ax_C p s m #[Value.ref b] meth c code "ClauseProverLaw" 7 ret D kA (fun q => s.heap.size ≤ q)) (hX : ax_X (fun q => s.heap.size ≤ q) s s.heap) (hXb : va_X b L xs s s.heap) (hbl : b < s.heap.size) (hbA : ¬ s.heap.size ≤ b) (htr : l.stackTraces = false) {i : Nat} (hi : i + 6 ≤ L) (hL : L ≤ 3072) (hRl : ∀ qo σ ρ n, TL qo σ ρ n → rl σ + qo ≤ 2400000) {σ ρ : zS} (hI : LI i σ ρ cells slots)
    (kk : ∀ (f2 : Nat → Int64) (σ2 ρ2 : zS) (w2 v2 : Nat → Nat) (tx2 : Value) (c2 s2 : Nat), LI (i + 6) σ2 ρ2 c2 s2 → AW p l e room_1 s m #[Value.ref b] below meth c D kA (fun q => s.heap.size ≤ q) 7 Q 1012 [(4, .int (Int32.ofNat i)), (3, .ref o), (2, .ref z), (1, .ref (u 0)), (0, .ref b)] [] (lgO kA o f2 :: (cpW kA u w2 tx2 (cv σ2) ++ mmW kA z v2 (cv ρ2))) (c2) (s2)) : AW p l e room_1 s m #[Value.ref b] below meth c D kA (fun q => s.heap.size ≤ q) 7 Q 318 [(4, .int (Int32.ofNat i)), (3, .ref o), (2, .ref z), (1, .ref (u 0)), (0, .ref b)] [] (lgO kA o f :: (cpW kA u w tx (cv σ) ++ mmW kA z v (cv ρ))) (cells) (slots) := by
  obtain ⟨qo, ⟨n, hTL, hn⟩, zs, zρ, h3, hc, hs⟩ := hI
  obtain ⟨τ, r, κ, s2, y1, z1, k4, req, mg, tl⟩ := prun_all hTL h3.1 (β := 200) (γ := 1646) (by omega) (by omega) (x := (xs (i + 1)).toInt)
  obtain ⟨zτ, _, d, hd, _, _, hp⟩ := yE_sound zs (fun x hx => by rw [List.mem_singleton.mp hx]; exact zr_to _) y1
  obtain ⟨zκ, _, d2, hd2, hm⟩ := zE_sound l D kA z v zρ (fun x hx => by rw [List.mem_singleton.mp hx]; exact zr_to _) z1
  obtain ⟨_, _, d3, hd3, ht⟩ := zE_sound l D kA z v zκ (fun x hx => by cases hx) (show zE tM_thrown 0 κ [] = some (κ, κ.1 4) by rw [zq_thrown, kZ_thrown])
  have d30 : d3 = 0 := by omega
  subst d30
  have hT := (show sM_thrown l D kA z v (cv κ) [] (cv κ, i32 (κ.1 4), 0) from ht) rfl
  have hM := (show sM_run l D kA z v (cv ρ) [i32 (xs (i + 1)).toInt] (cv κ, i32 s2, d2) from hm) _ rfl
  rw [to_i32] at hM
  dsimp only at hM
  have hpp : sPn_CP_run l D kA u (cv σ) [i32 (xs (i + 1)).toInt] (cv τ, i32 r, d) ∧ sPx2_CP_run l D kA u (cv σ) [i32 (xs (i + 1)).toInt] (cv τ, i32 r, d) := hp l D kA u
  have hN := LI.nx h3 hc hs mg zτ zκ tl (by omega) 0 0 (by omega) (by omega)
  obtain ⟨rm1, rm2⟩ := hN.rm (by omega) hRl
  have hk4 := List.mem_of_elem_eq_true k4
  simp only [List.mem_cons, List.not_mem_nil, or_false, Prod.mk.injEq] at hk4
  rcases hk4 with ⟨c0, e0⟩ | ⟨c0, e0⟩
  · rw [e0, i32_0] at hT
    have hY := hpp.1 _ rfl w tx h3.1 c0
    rw [to_i32] at hY
    dsimp only at hY
    have hW := wr_run_n (o := o) (f := f) (PW := fun f2 W2 => ((0 : Int32) = 0 → f2 (Int32.toNatClampNeg 0) = Int32.toInt64 (i32 r)) ∧ ∃ w2 tx2, W2 = cpW kA u w2 tx2 (cv τ)) rfl hY (fun r0 w1 hw => by obtain ⟨er, w2, tx2, _, _, ew⟩ := hw; exact ⟨fun _ => by rw [er, upd_0], w2, tx2, ew⟩)
    refine lk_run (fs := []) C hX hXb hbl hbA hi hL (k := 0) (rb := i32 s2) (PW := fun f2 W2 => ((0 : Int32) = 0 → f2 (Int32.toNatClampNeg 0) = Int32.toInt64 (i32 r)) ∧ ∃ w2 tx2, W2 = cpW kA u w2 tx2 (cv τ)) hW (show _ ≤ 2048 by omega) (show _ ≤ 84000 by omega) rfl hM (show _ ≤ 2048 by omega) (show _ ≤ 84000 by omega) ⟨_, rfl⟩ hT (fun _ f2 W2 hP => by rw [hP.1 rfl, req c0]) (by decide) (by decide) rm1 rm2 (fun f2 W2 hP => ?_)
    obtain ⟨_, w2, tx2, eW⟩ := hP
    rw [eW, ← cp_rst]
    exact kk f2 (rst τ) κ w2 v tx2 _ _ hN
  · rw [e0, i32_1] at hT
    have hY := hpp.2 _ rfl w tx h3.1 c0 htr
    rw [to_i32] at hY
    dsimp only at hY
    have hW := wr_run_x19 (o := o) (f := f) (PW := fun f2 W2 => ((1 : Int32) = 0 → f2 (Int32.toNatClampNeg 0) = Int32.toInt64 (i32 r)) ∧ ∃ w2 tx2, W2 = cpW kA u w2 tx2 (cv τ)) rfl hY (fun w1 hw => by obtain ⟨w2, _, ew⟩ := hw; exact ⟨fun z => absurd z (by decide), w2, tx, ew⟩)
    refine lk_run (fs := []) C hX hXb hbl hbA hi hL (k := 1) (rb := i32 s2) (PW := fun f2 W2 => ((1 : Int32) = 0 → f2 (Int32.toNatClampNeg 0) = Int32.toInt64 (i32 r)) ∧ ∃ w2 tx2, W2 = cpW kA u w2 tx2 (cv τ)) hW (show _ ≤ 2048 by omega) (show _ ≤ 84000 by omega) rfl hM (show _ ≤ 2048 by omega) (show _ ≤ 84000 by omega) ⟨_, rfl⟩ hT (fun z => absurd z (by decide)) (by decide) (by decide) rm1 rm2 (fun f2 W2 hP => ?_)
    obtain ⟨_, w2, tx2, eW⟩ := hP
    rw [eW, ← cp_rst]
    exact kk f2 (rst τ) κ w2 v tx2 _ _ hN
theorem st_clause {p : Program} {e : Env} {s : State} {m : MethodId} {below : List Frame} {meth : Method} {c : Code} {l : Launch} {D : va_G} {kA : Nat → ClassId} {b L : Nat} {xs : Nat → Int32} {o z : Nat} {u v w : Nat → Nat} {tx : Value} {f : Nat → Int64} {Q : State → Prop} {cells slots : Nat} (C : ax_C p s m #[Value.ref b] meth c code "ClauseProverLaw" 7 ret D kA (fun q => s.heap.size ≤ q)) (hX : ax_X (fun q => s.heap.size ≤ q) s s.heap) (hXb : va_X b L xs s s.heap) (hbl : b < s.heap.size) (hbA : ¬ s.heap.size ≤ b) (htr : l.stackTraces = false) {i : Nat} (hi : i + 6 ≤ L) (hL : L ≤ 3072) (hRl : ∀ qo σ ρ n, TL qo σ ρ n → rl σ + qo ≤ 2400000) {σ ρ : zS} (hI : LI i σ ρ cells slots)
    (kk : ∀ (f2 : Nat → Int64) (σ2 ρ2 : zS) (w2 v2 : Nat → Nat) (tx2 : Value) (c2 s2 : Nat), LI (i + 6) σ2 ρ2 c2 s2 → AW p l e room_1 s m #[Value.ref b] below meth c D kA (fun q => s.heap.size ≤ q) 7 Q 1012 [(4, .int (Int32.ofNat i)), (3, .ref o), (2, .ref z), (1, .ref (u 0)), (0, .ref b)] [] (lgO kA o f2 :: (cpW kA u w2 tx2 (cv σ2) ++ mmW kA z v2 (cv ρ2))) (c2) (s2)) : AW p l e room_1 s m #[Value.ref b] below meth c D kA (fun q => s.heap.size ≤ q) 7 Q 374 [(4, .int (Int32.ofNat i)), (3, .ref o), (2, .ref z), (1, .ref (u 0)), (0, .ref b)] [] (lgO kA o f :: (cpW kA u w tx (cv σ) ++ mmW kA z v (cv ρ))) (cells) (slots) := by
  obtain ⟨qo, ⟨n, hTL, hn⟩, zs, zρ, h3, hc, hs⟩ := hI
  obtain ⟨τ, r, κ, s2, y1, z1, k4, req, mg, tl⟩ := pcla_ok hTL h3.1 (β := 200) (γ := 1646) (by omega) (by omega) (x := (xs (i + 1)).toInt) (y := (xs (i + 2)).toInt)
  obtain ⟨zτ, _, d, hd, _, _, hp⟩ := yE_sound zs (fun x hx => by simp only [List.mem_cons, List.not_mem_nil, or_false] at hx; rcases hx with rfl | rfl <;> exact zr_to _) y1
  obtain ⟨zκ, _, d2, hd2, hm⟩ := zE_sound l D kA z v zρ (fun x hx => by simp only [List.mem_cons, List.not_mem_nil, or_false] at hx; rcases hx with rfl | rfl <;> exact zr_to _) z1
  obtain ⟨_, _, d3, hd3, ht⟩ := zE_sound l D kA z v zκ (fun x hx => by cases hx) (show zE tM_thrown 0 κ [] = some (κ, κ.1 4) by rw [zq_thrown, kZ_thrown])
  have d30 : d3 = 0 := by omega
  subst d30
  have hT := (show sM_thrown l D kA z v (cv κ) [] (cv κ, i32 (κ.1 4), 0) from ht) rfl
  have hM := (show sM_clause l D kA z v (cv ρ) [i32 (xs (i + 1)).toInt, i32 (xs (i + 2)).toInt] (cv κ, i32 s2, d2) from hm) _ _ rfl
  rw [to_i32, to_i32] at hM
  dsimp only at hM
  have hpp : sPn_CP_clause l D kA u (cv σ) [i32 (xs (i + 1)).toInt, i32 (xs (i + 2)).toInt] (cv τ, i32 r, d) ∧ sPx2_CP_clause l D kA u (cv σ) [i32 (xs (i + 1)).toInt, i32 (xs (i + 2)).toInt] (cv τ, i32 r, d) ∧ sPx3_CP_clause l D kA u (cv σ) [i32 (xs (i + 1)).toInt, i32 (xs (i + 2)).toInt] (cv τ, i32 r, d) := hp l D kA u
  have hN := LI.nx h3 hc hs mg zτ zκ tl (by omega) 0 0 (by omega) (by omega)
  obtain ⟨rm1, rm2⟩ := hN.rm (by omega) hRl
  have hk4 := List.mem_of_elem_eq_true k4
  simp only [List.mem_cons, List.not_mem_nil, or_false, Prod.mk.injEq] at hk4
  rcases hk4 with ⟨c0, e0⟩ | ⟨c0, e0⟩ | ⟨c0, e0⟩
  · rw [e0, i32_0] at hT
    have hY := hpp.1 _ _ rfl w tx h3.1 c0
    rw [to_i32, to_i32] at hY
    dsimp only at hY
    have hW := wr_clause_n (o := o) (f := f) (PW := fun f2 W2 => ((0 : Int32) = 0 → f2 (Int32.toNatClampNeg 0) = Int32.toInt64 (i32 r)) ∧ ∃ w2 tx2, W2 = cpW kA u w2 tx2 (cv τ)) rfl hY (fun r0 w1 hw => by obtain ⟨er, w2, tx2, _, _, ew⟩ := hw; exact ⟨fun _ => by rw [er, upd_0], w2, tx2, ew⟩)
    refine lk_clause (fs := []) C hX hXb hbl hbA hi hL (k := 0) (rb := i32 s2) (PW := fun f2 W2 => ((0 : Int32) = 0 → f2 (Int32.toNatClampNeg 0) = Int32.toInt64 (i32 r)) ∧ ∃ w2 tx2, W2 = cpW kA u w2 tx2 (cv τ)) hW (show _ ≤ 2048 by omega) (show _ ≤ 84000 by omega) rfl hM (show _ ≤ 2048 by omega) (show _ ≤ 84000 by omega) ⟨_, rfl⟩ hT (fun _ f2 W2 hP => by rw [hP.1 rfl, req c0]) (by decide) (by decide) rm1 rm2 (fun f2 W2 hP => ?_)
    obtain ⟨_, w2, tx2, eW⟩ := hP
    rw [eW, ← cp_rst]
    exact kk f2 (rst τ) κ w2 v tx2 _ _ hN
  · rw [e0, i32_1] at hT
    have hY := hpp.2.2 _ _ rfl w tx h3.1 c0 htr
    rw [to_i32, to_i32] at hY
    dsimp only at hY
    have hW := wr_clause_x28 (o := o) (f := f) (PW := fun f2 W2 => ((1 : Int32) = 0 → f2 (Int32.toNatClampNeg 0) = Int32.toInt64 (i32 r)) ∧ ∃ w2 tx2, W2 = cpW kA u w2 tx2 (cv τ)) rfl hY (fun w1 hw => by obtain ⟨w2, _, ew⟩ := hw; exact ⟨fun z => absurd z (by decide), w2, tx, ew⟩)
    refine lk_clause (fs := []) C hX hXb hbl hbA hi hL (k := 1) (rb := i32 s2) (PW := fun f2 W2 => ((1 : Int32) = 0 → f2 (Int32.toNatClampNeg 0) = Int32.toInt64 (i32 r)) ∧ ∃ w2 tx2, W2 = cpW kA u w2 tx2 (cv τ)) hW (show _ ≤ 2048 by omega) (show _ ≤ 84000 by omega) rfl hM (show _ ≤ 2048 by omega) (show _ ≤ 84000 by omega) ⟨_, rfl⟩ hT (fun z => absurd z (by decide)) (by decide) (by decide) rm1 rm2 (fun f2 W2 hP => ?_)
    obtain ⟨_, w2, tx2, eW⟩ := hP
    rw [eW, ← cp_rst]
    exact kk f2 (rst τ) κ w2 v tx2 _ _ hN
  · rw [e0, i32_2] at hT
    have hY := hpp.2.1 _ _ rfl w tx h3.1 c0 htr
    rw [to_i32, to_i32] at hY
    dsimp only at hY
    have hW := wr_clause_x19 (o := o) (f := f) (PW := fun f2 W2 => ((2 : Int32) = 0 → f2 (Int32.toNatClampNeg 0) = Int32.toInt64 (i32 r)) ∧ ∃ w2 tx2, W2 = cpW kA u w2 tx2 (cv τ)) rfl hY (fun w1 hw => by obtain ⟨w2, _, ew⟩ := hw; exact ⟨fun z => absurd z (by decide), w2, tx, ew⟩)
    refine lk_clause (fs := []) C hX hXb hbl hbA hi hL (k := 2) (rb := i32 s2) (PW := fun f2 W2 => ((2 : Int32) = 0 → f2 (Int32.toNatClampNeg 0) = Int32.toInt64 (i32 r)) ∧ ∃ w2 tx2, W2 = cpW kA u w2 tx2 (cv τ)) hW (show _ ≤ 2048 by omega) (show _ ≤ 84000 by omega) rfl hM (show _ ≤ 2048 by omega) (show _ ≤ 84000 by omega) ⟨_, rfl⟩ hT (fun z => absurd z (by decide)) (by decide) (by decide) rm1 rm2 (fun f2 W2 hP => ?_)
    obtain ⟨_, w2, tx2, eW⟩ := hP
    rw [eW, ← cp_rst]
    exact kk f2 (rst τ) κ w2 v tx2 _ _ hN
theorem st_rewrote {p : Program} {e : Env} {s : State} {m : MethodId} {below : List Frame} {meth : Method} {c : Code} {l : Launch} {D : va_G} {kA : Nat → ClassId} {b L : Nat} {xs : Nat → Int32} {o z : Nat} {u v w : Nat → Nat} {tx : Value} {f : Nat → Int64} {Q : State → Prop} {cells slots : Nat} (C : ax_C p s m #[Value.ref b] meth c code "ClauseProverLaw" 7 ret D kA (fun q => s.heap.size ≤ q)) (hX : ax_X (fun q => s.heap.size ≤ q) s s.heap) (hXb : va_X b L xs s s.heap) (hbl : b < s.heap.size) (hbA : ¬ s.heap.size ≤ b) (htr : l.stackTraces = false) {i : Nat} (hi : i + 6 ≤ L) (hL : L ≤ 3072) (hRl : ∀ qo σ ρ n, TL qo σ ρ n → rl σ + qo ≤ 2400000) {σ ρ : zS} (hI : LI i σ ρ cells slots)
    (kk : ∀ (f2 : Nat → Int64) (σ2 ρ2 : zS) (w2 v2 : Nat → Nat) (tx2 : Value) (c2 s2 : Nat), LI (i + 6) σ2 ρ2 c2 s2 → AW p l e room_1 s m #[Value.ref b] below meth c D kA (fun q => s.heap.size ≤ q) 7 Q 1012 [(4, .int (Int32.ofNat i)), (3, .ref o), (2, .ref z), (1, .ref (u 0)), (0, .ref b)] [] (lgO kA o f2 :: (cpW kA u w2 tx2 (cv σ2) ++ mmW kA z v2 (cv ρ2))) (c2) (s2)) : AW p l e room_1 s m #[Value.ref b] below meth c D kA (fun q => s.heap.size ≤ q) 7 Q 442 [(4, .int (Int32.ofNat i)), (3, .ref o), (2, .ref z), (1, .ref (u 0)), (0, .ref b)] [] (lgO kA o f :: (cpW kA u w tx (cv σ) ++ mmW kA z v (cv ρ))) (cells) (slots) := by
  obtain ⟨qo, ⟨n, hTL, hn⟩, zs, zρ, h3, hc, hs⟩ := hI
  obtain ⟨τ, r, κ, s2, y1, z1, k4, req, mg, tl⟩ := prew_ok hTL h3.1 (β := 200) (γ := 1646) (by omega) (by omega) (x := (xs (i + 1)).toInt) (y := (xs (i + 2)).toInt)
  obtain ⟨zτ, _, d, hd, _, _, hp⟩ := yE_sound zs (fun x hx => by simp only [List.mem_cons, List.not_mem_nil, or_false] at hx; rcases hx with rfl | rfl <;> exact zr_to _) y1
  obtain ⟨zκ, _, d2, hd2, hm⟩ := zE_sound l D kA z v zρ (fun x hx => by simp only [List.mem_cons, List.not_mem_nil, or_false] at hx; rcases hx with rfl | rfl <;> exact zr_to _) z1
  obtain ⟨_, _, d3, hd3, ht⟩ := zE_sound l D kA z v zκ (fun x hx => by cases hx) (show zE tM_thrown 0 κ [] = some (κ, κ.1 4) by rw [zq_thrown, kZ_thrown])
  have d30 : d3 = 0 := by omega
  subst d30
  have hT := (show sM_thrown l D kA z v (cv κ) [] (cv κ, i32 (κ.1 4), 0) from ht) rfl
  have hM := (show sM_rewrote l D kA z v (cv ρ) [i32 (xs (i + 1)).toInt, i32 (xs (i + 2)).toInt] (cv κ, i32 s2, d2) from hm) _ _ rfl
  rw [to_i32, to_i32] at hM
  dsimp only at hM
  have hpp : sPn_CP_rewrote l D kA u (cv σ) [i32 (xs (i + 1)).toInt, i32 (xs (i + 2)).toInt] (cv τ, i32 r, d) ∧ sPx3_CP_rewrote l D kA u (cv σ) [i32 (xs (i + 1)).toInt, i32 (xs (i + 2)).toInt] (cv τ, i32 r, d) := hp l D kA u
  have hN := LI.nx h3 hc hs mg zτ zκ tl (by omega) 0 0 (by omega) (by omega)
  obtain ⟨rm1, rm2⟩ := hN.rm (by omega) hRl
  have hk4 := List.mem_of_elem_eq_true k4
  simp only [List.mem_cons, List.not_mem_nil, or_false, Prod.mk.injEq] at hk4
  rcases hk4 with ⟨c0, e0⟩ | ⟨c0, e0⟩
  · rw [e0, i32_0] at hT
    have hY := hpp.1 _ _ rfl w tx h3.1 c0
    rw [to_i32, to_i32] at hY
    dsimp only at hY
    have hW := wr_rewrote_n (o := o) (f := f) (PW := fun f2 W2 => ((0 : Int32) = 0 → f2 (Int32.toNatClampNeg 0) = Int32.toInt64 (i32 r)) ∧ ∃ w2 tx2, W2 = cpW kA u w2 tx2 (cv τ)) rfl hY (fun r0 w1 hw => by obtain ⟨er, w2, tx2, _, _, ew⟩ := hw; exact ⟨fun _ => by rw [er, upd_0], w2, tx2, ew⟩)
    refine lk_rewrote (fs := []) C hX hXb hbl hbA hi hL (k := 0) (rb := i32 s2) (PW := fun f2 W2 => ((0 : Int32) = 0 → f2 (Int32.toNatClampNeg 0) = Int32.toInt64 (i32 r)) ∧ ∃ w2 tx2, W2 = cpW kA u w2 tx2 (cv τ)) hW (show _ ≤ 2048 by omega) (show _ ≤ 84000 by omega) rfl hM (show _ ≤ 2048 by omega) (show _ ≤ 84000 by omega) ⟨_, rfl⟩ hT (fun _ f2 W2 hP => by rw [hP.1 rfl, req c0]) (by decide) (by decide) rm1 rm2 (fun f2 W2 hP => ?_)
    obtain ⟨_, w2, tx2, eW⟩ := hP
    rw [eW, ← cp_rst]
    exact kk f2 (rst τ) κ w2 v tx2 _ _ hN
  · rw [e0, i32_1] at hT
    have hY := hpp.2 _ _ rfl w tx h3.1 c0 htr
    rw [to_i32, to_i32] at hY
    dsimp only at hY
    have hW := wr_rewrote_x28 (o := o) (f := f) (PW := fun f2 W2 => ((1 : Int32) = 0 → f2 (Int32.toNatClampNeg 0) = Int32.toInt64 (i32 r)) ∧ ∃ w2 tx2, W2 = cpW kA u w2 tx2 (cv τ)) rfl hY (fun w1 hw => by obtain ⟨w2, _, ew⟩ := hw; exact ⟨fun z => absurd z (by decide), w2, tx, ew⟩)
    refine lk_rewrote (fs := []) C hX hXb hbl hbA hi hL (k := 1) (rb := i32 s2) (PW := fun f2 W2 => ((1 : Int32) = 0 → f2 (Int32.toNatClampNeg 0) = Int32.toInt64 (i32 r)) ∧ ∃ w2 tx2, W2 = cpW kA u w2 tx2 (cv τ)) hW (show _ ≤ 2048 by omega) (show _ ≤ 84000 by omega) rfl hM (show _ ≤ 2048 by omega) (show _ ≤ 84000 by omega) ⟨_, rfl⟩ hT (fun z => absurd z (by decide)) (by decide) (by decide) rm1 rm2 (fun f2 W2 hP => ?_)
    obtain ⟨_, w2, tx2, eW⟩ := hP
    rw [eW, ← cp_rst]
    exact kk f2 (rst τ) κ w2 v tx2 _ _ hN
theorem st_literal {p : Program} {e : Env} {s : State} {m : MethodId} {below : List Frame} {meth : Method} {c : Code} {l : Launch} {D : va_G} {kA : Nat → ClassId} {b L : Nat} {xs : Nat → Int32} {o z : Nat} {u v w : Nat → Nat} {tx : Value} {f : Nat → Int64} {Q : State → Prop} {cells slots : Nat} (C : ax_C p s m #[Value.ref b] meth c code "ClauseProverLaw" 7 ret D kA (fun q => s.heap.size ≤ q)) (hX : ax_X (fun q => s.heap.size ≤ q) s s.heap) (hXb : va_X b L xs s s.heap) (hbl : b < s.heap.size) (hbA : ¬ s.heap.size ≤ b) (htr : l.stackTraces = false) {i : Nat} (hi : i + 6 ≤ L) (hL : L ≤ 3072) (hRl : ∀ qo σ ρ n, TL qo σ ρ n → rl σ + qo ≤ 2400000) {σ ρ : zS} (hI : LI i σ ρ cells slots)
    (kk : ∀ (f2 : Nat → Int64) (σ2 ρ2 : zS) (w2 v2 : Nat → Nat) (tx2 : Value) (c2 s2 : Nat), LI (i + 6) σ2 ρ2 c2 s2 → AW p l e room_1 s m #[Value.ref b] below meth c D kA (fun q => s.heap.size ≤ q) 7 Q 1012 [(4, .int (Int32.ofNat i)), (3, .ref o), (2, .ref z), (1, .ref (u 0)), (0, .ref b)] [] (lgO kA o f2 :: (cpW kA u w2 tx2 (cv σ2) ++ mmW kA z v2 (cv ρ2))) (c2) (s2)) : AW p l e room_1 s m #[Value.ref b] below meth c D kA (fun q => s.heap.size ≤ q) 7 Q 510 [(4, .int (Int32.ofNat i)), (3, .ref o), (2, .ref z), (1, .ref (u 0)), (0, .ref b)] [] (lgO kA o f :: (cpW kA u w tx (cv σ) ++ mmW kA z v (cv ρ))) (cells) (slots) := by
  obtain ⟨qo, ⟨n, hTL, hn⟩, zs, zρ, h3, hc, hs⟩ := hI
  obtain ⟨τ, r, κ, s2, y1, z1, k4, req, mg, tl⟩ := plit_ok hTL h3.1 (β := 200) (γ := 1646) (by omega) (by omega) (x := (xs (i + 1)).toInt) (y := (xs (i + 2)).toInt) (w := (xs (i + 3)).toInt)
  obtain ⟨zτ, _, d, hd, _, _, hp⟩ := yE_sound zs (fun x hx => by simp only [List.mem_cons, List.not_mem_nil, or_false] at hx; rcases hx with rfl | rfl | rfl <;> exact zr_to _) y1
  obtain ⟨zκ, _, d2, hd2, hm⟩ := zE_sound l D kA z v zρ (fun x hx => by simp only [List.mem_cons, List.not_mem_nil, or_false] at hx; rcases hx with rfl | rfl | rfl <;> exact zr_to _) z1
  obtain ⟨_, _, d3, hd3, ht⟩ := zE_sound l D kA z v zκ (fun x hx => by cases hx) (show zE tM_thrown 0 κ [] = some (κ, κ.1 4) by rw [zq_thrown, kZ_thrown])
  have d30 : d3 = 0 := by omega
  subst d30
  have hT := (show sM_thrown l D kA z v (cv κ) [] (cv κ, i32 (κ.1 4), 0) from ht) rfl
  have hM := (show sM_literal l D kA z v (cv ρ) [i32 (xs (i + 1)).toInt, i32 (xs (i + 2)).toInt, i32 (xs (i + 3)).toInt] (cv κ, i32 s2, d2) from hm) _ _ _ rfl
  rw [to_i32, to_i32, to_i32] at hM
  dsimp only at hM
  have hpp : sPn_CP_literal l D kA u (cv σ) [i32 (xs (i + 1)).toInt, i32 (xs (i + 2)).toInt, i32 (xs (i + 3)).toInt] (cv τ, i32 r, d) ∧ sPx2_CP_literal l D kA u (cv σ) [i32 (xs (i + 1)).toInt, i32 (xs (i + 2)).toInt, i32 (xs (i + 3)).toInt] (cv τ, i32 r, d) ∧ sPx3_CP_literal l D kA u (cv σ) [i32 (xs (i + 1)).toInt, i32 (xs (i + 2)).toInt, i32 (xs (i + 3)).toInt] (cv τ, i32 r, d) := hp l D kA u
  have hN := LI.nx h3 hc hs mg zτ zκ tl (by omega) 0 0 (by omega) (by omega)
  obtain ⟨rm1, rm2⟩ := hN.rm (by omega) hRl
  have hk4 := List.mem_of_elem_eq_true k4
  simp only [List.mem_cons, List.not_mem_nil, or_false, Prod.mk.injEq] at hk4
  rcases hk4 with ⟨c0, e0⟩ | ⟨c0, e0⟩ | ⟨c0, e0⟩
  · rw [e0, i32_0] at hT
    have hY := hpp.1 _ _ _ rfl w tx h3.1 c0
    rw [to_i32, to_i32, to_i32] at hY
    dsimp only at hY
    have hW := wr_literal_n (o := o) (f := f) (PW := fun f2 W2 => ((0 : Int32) = 0 → f2 (Int32.toNatClampNeg 0) = Int32.toInt64 (i32 r)) ∧ ∃ w2 tx2, W2 = cpW kA u w2 tx2 (cv τ)) rfl hY (fun r0 w1 hw => by obtain ⟨er, w2, tx2, _, _, ew⟩ := hw; exact ⟨fun _ => by rw [er, upd_0], w2, tx2, ew⟩)
    refine lk_literal (fs := []) C hX hXb hbl hbA hi hL (k := 0) (rb := i32 s2) (PW := fun f2 W2 => ((0 : Int32) = 0 → f2 (Int32.toNatClampNeg 0) = Int32.toInt64 (i32 r)) ∧ ∃ w2 tx2, W2 = cpW kA u w2 tx2 (cv τ)) hW (show _ ≤ 2048 by omega) (show _ ≤ 84000 by omega) rfl hM (show _ ≤ 2048 by omega) (show _ ≤ 84000 by omega) ⟨_, rfl⟩ hT (fun _ f2 W2 hP => by rw [hP.1 rfl, req c0]) (by decide) (by decide) rm1 rm2 (fun f2 W2 hP => ?_)
    obtain ⟨_, w2, tx2, eW⟩ := hP
    rw [eW, ← cp_rst]
    exact kk f2 (rst τ) κ w2 v tx2 _ _ hN
  · rw [e0, i32_1] at hT
    have hY := hpp.2.2 _ _ _ rfl w tx h3.1 c0 htr
    rw [to_i32, to_i32, to_i32] at hY
    dsimp only at hY
    have hW := wr_literal_x28 (o := o) (f := f) (PW := fun f2 W2 => ((1 : Int32) = 0 → f2 (Int32.toNatClampNeg 0) = Int32.toInt64 (i32 r)) ∧ ∃ w2 tx2, W2 = cpW kA u w2 tx2 (cv τ)) rfl hY (fun w1 hw => by obtain ⟨w2, _, ew⟩ := hw; exact ⟨fun z => absurd z (by decide), w2, tx, ew⟩)
    refine lk_literal (fs := []) C hX hXb hbl hbA hi hL (k := 1) (rb := i32 s2) (PW := fun f2 W2 => ((1 : Int32) = 0 → f2 (Int32.toNatClampNeg 0) = Int32.toInt64 (i32 r)) ∧ ∃ w2 tx2, W2 = cpW kA u w2 tx2 (cv τ)) hW (show _ ≤ 2048 by omega) (show _ ≤ 84000 by omega) rfl hM (show _ ≤ 2048 by omega) (show _ ≤ 84000 by omega) ⟨_, rfl⟩ hT (fun z => absurd z (by decide)) (by decide) (by decide) rm1 rm2 (fun f2 W2 hP => ?_)
    obtain ⟨_, w2, tx2, eW⟩ := hP
    rw [eW, ← cp_rst]
    exact kk f2 (rst τ) κ w2 v tx2 _ _ hN
  · rw [e0, i32_2] at hT
    have hY := hpp.2.1 _ _ _ rfl w tx h3.1 c0 htr
    rw [to_i32, to_i32, to_i32] at hY
    dsimp only at hY
    have hW := wr_literal_x19 (o := o) (f := f) (PW := fun f2 W2 => ((2 : Int32) = 0 → f2 (Int32.toNatClampNeg 0) = Int32.toInt64 (i32 r)) ∧ ∃ w2 tx2, W2 = cpW kA u w2 tx2 (cv τ)) rfl hY (fun w1 hw => by obtain ⟨w2, _, ew⟩ := hw; exact ⟨fun z => absurd z (by decide), w2, tx, ew⟩)
    refine lk_literal (fs := []) C hX hXb hbl hbA hi hL (k := 2) (rb := i32 s2) (PW := fun f2 W2 => ((2 : Int32) = 0 → f2 (Int32.toNatClampNeg 0) = Int32.toInt64 (i32 r)) ∧ ∃ w2 tx2, W2 = cpW kA u w2 tx2 (cv τ)) hW (show _ ≤ 2048 by omega) (show _ ≤ 84000 by omega) rfl hM (show _ ≤ 2048 by omega) (show _ ≤ 84000 by omega) ⟨_, rfl⟩ hT (fun z => absurd z (by decide)) (by decide) (by decide) rm1 rm2 (fun f2 W2 hP => ?_)
    obtain ⟨_, w2, tx2, eW⟩ := hP
    rw [eW, ← cp_rst]
    exact kk f2 (rst τ) κ w2 v tx2 _ _ hN
theorem st_out {p : Program} {e : Env} {s : State} {m : MethodId} {below : List Frame} {meth : Method} {c : Code} {l : Launch} {D : va_G} {kA : Nat → ClassId} {b L : Nat} {xs : Nat → Int32} {o z : Nat} {u v w : Nat → Nat} {tx : Value} {f : Nat → Int64} {Q : State → Prop} {cells slots : Nat} (C : ax_C p s m #[Value.ref b] meth c code "ClauseProverLaw" 7 ret D kA (fun q => s.heap.size ≤ q)) (hX : ax_X (fun q => s.heap.size ≤ q) s s.heap) (hXb : va_X b L xs s s.heap) (hbl : b < s.heap.size) (hbA : ¬ s.heap.size ≤ b) (htr : l.stackTraces = false) {i : Nat} (hi : i + 6 ≤ L) (hL : L ≤ 3072) (hRl : ∀ qo σ ρ n, TL qo σ ρ n → rl σ + qo ≤ 2400000) {σ ρ : zS} (hI : LI i σ ρ cells slots)
    (kk : ∀ (f2 : Nat → Int64) (σ2 ρ2 : zS) (w2 v2 : Nat → Nat) (tx2 : Value) (c2 s2 : Nat), LI (i + 6) σ2 ρ2 c2 s2 → AW p l e room_1 s m #[Value.ref b] below meth c D kA (fun q => s.heap.size ≤ q) 7 Q 1012 [(4, .int (Int32.ofNat i)), (3, .ref o), (2, .ref z), (1, .ref (u 0)), (0, .ref b)] [] (lgO kA o f2 :: (cpW kA u w2 tx2 (cv σ2) ++ mmW kA z v2 (cv ρ2))) (c2) (s2)) : AW p l e room_1 s m #[Value.ref b] below meth c D kA (fun q => s.heap.size ≤ q) 7 Q 646 [(4, .int (Int32.ofNat i)), (3, .ref o), (2, .ref z), (1, .ref (u 0)), (0, .ref b)] [] (lgO kA o f :: (cpW kA u w tx (cv σ) ++ mmW kA z v (cv ρ))) (cells) (slots) := by
  obtain ⟨qo, ⟨n, hTL, hn⟩, zs, zρ, h3, hc, hs⟩ := hI
  obtain ⟨τ, r, κ, s2, y1, z1, k4, req, mg, tl⟩ := pout_ok hTL h3.1 (β := 200) (γ := 1646) (by omega) (x := (xs (i + 1)).toInt)
  obtain ⟨zτ, _, d, hd, _, _, hp⟩ := yE_sound zs (fun x hx => by rw [List.mem_singleton.mp hx]; exact zr_to _) y1
  obtain ⟨zκ, _, d2, hd2, hm⟩ := zE_sound l D kA z v zρ (fun x hx => by rw [List.mem_singleton.mp hx]; exact zr_to _) z1
  obtain ⟨_, _, d3, hd3, ht⟩ := zE_sound l D kA z v zκ (fun x hx => by cases hx) (show zE tM_thrown 0 κ [] = some (κ, κ.1 4) by rw [zq_thrown, kZ_thrown])
  have d30 : d3 = 0 := by omega
  subst d30
  have hT := (show sM_thrown l D kA z v (cv κ) [] (cv κ, i32 (κ.1 4), 0) from ht) rfl
  have hM := (show sM_out l D kA z v (cv ρ) [i32 (xs (i + 1)).toInt] (cv κ, i32 s2, d2) from hm) _ rfl
  rw [to_i32] at hM
  dsimp only at hM
  have hpp : sPn_CP_out l D kA u (cv σ) [i32 (xs (i + 1)).toInt] (cv τ, i32 r, d) ∧ sPx4_CP_out l D kA u (cv σ) [i32 (xs (i + 1)).toInt] (cv τ, i32 r, d) := hp l D kA u
  have hN := LI.nx h3 hc hs mg zτ zκ tl (by omega) 0 0 (by omega) (by omega)
  obtain ⟨rm1, rm2⟩ := hN.rm (by omega) hRl
  have hk4 := List.mem_of_elem_eq_true k4
  simp only [List.mem_cons, List.not_mem_nil, or_false, Prod.mk.injEq] at hk4
  rcases hk4 with ⟨c0, e0⟩ | ⟨c0, e0⟩
  · rw [e0, i32_0] at hT
    have hY := hpp.1 _ rfl w tx h3.1 c0
    rw [to_i32] at hY
    dsimp only at hY
    have hW := wr_out_n (o := o) (f := f) (PW := fun f2 W2 => ((0 : Int32) = 0 → f2 (Int32.toNatClampNeg 0) = Int32.toInt64 (i32 r)) ∧ ∃ w2 tx2, W2 = cpW kA u w2 tx2 (cv τ)) rfl hY (fun r0 w1 hw => by obtain ⟨er, w2, tx2, _, _, ew⟩ := hw; exact ⟨fun _ => by rw [er, upd_0], w2, tx2, ew⟩)
    refine lk_out (fs := []) C hX hXb hbl hbA hi hL (k := 0) (rb := i32 s2) (PW := fun f2 W2 => ((0 : Int32) = 0 → f2 (Int32.toNatClampNeg 0) = Int32.toInt64 (i32 r)) ∧ ∃ w2 tx2, W2 = cpW kA u w2 tx2 (cv τ)) hW (show _ ≤ 2048 by omega) (show _ ≤ 84000 by omega) rfl hM (show _ ≤ 2048 by omega) (show _ ≤ 84000 by omega) ⟨_, rfl⟩ hT (fun _ f2 W2 hP => by rw [hP.1 rfl, req c0]) (by decide) (by decide) rm1 rm2 (fun f2 W2 hP => ?_)
    obtain ⟨_, w2, tx2, eW⟩ := hP
    rw [eW, ← cp_rst]
    exact kk f2 (rst τ) κ w2 v tx2 _ _ hN
  · rw [e0, i32_1] at hT
    have hY := hpp.2 _ rfl w tx h3.1 c0 htr
    rw [to_i32] at hY
    dsimp only at hY
    have hW := wr_out_x43 (o := o) (f := f) (PW := fun f2 W2 => ((1 : Int32) = 0 → f2 (Int32.toNatClampNeg 0) = Int32.toInt64 (i32 r)) ∧ ∃ w2 tx2, W2 = cpW kA u w2 tx2 (cv τ)) rfl hY (fun w1 hw => by obtain ⟨w2, _, ew⟩ := hw; exact ⟨fun z => absurd z (by decide), w2, tx, ew⟩)
    refine lk_out (fs := []) C hX hXb hbl hbA hi hL (k := 1) (rb := i32 s2) (PW := fun f2 W2 => ((1 : Int32) = 0 → f2 (Int32.toNatClampNeg 0) = Int32.toInt64 (i32 r)) ∧ ∃ w2 tx2, W2 = cpW kA u w2 tx2 (cv τ)) hW (show _ ≤ 2048 by omega) (show _ ≤ 84000 by omega) rfl hM (show _ ≤ 2048 by omega) (show _ ≤ 84000 by omega) ⟨_, rfl⟩ hT (fun z => absurd z (by decide)) (by decide) (by decide) rm1 rm2 (fun f2 W2 hP => ?_)
    obtain ⟨_, w2, tx2, eW⟩ := hP
    rw [eW, ← cp_rst]
    exact kk f2 (rst τ) κ w2 v tx2 _ _ hN
theorem st_symbol {p : Program} {e : Env} {s : State} {m : MethodId} {below : List Frame} {meth : Method} {c : Code} {l : Launch} {D : va_G} {kA : Nat → ClassId} {b L : Nat} {xs : Nat → Int32} {o z : Nat} {u v w : Nat → Nat} {tx : Value} {f : Nat → Int64} {Q : State → Prop} {cells slots : Nat} (C : ax_C p s m #[Value.ref b] meth c code "ClauseProverLaw" 7 ret D kA (fun q => s.heap.size ≤ q)) (hX : ax_X (fun q => s.heap.size ≤ q) s s.heap) (hXb : va_X b L xs s s.heap) (hbl : b < s.heap.size) (hbA : ¬ s.heap.size ≤ b) (htr : l.stackTraces = false) {i : Nat} (hi : i + 6 ≤ L) (hL : L ≤ 3072) (hRl : ∀ qo σ ρ n, TL qo σ ρ n → rl σ + qo ≤ 2400000) {σ ρ : zS} (hI : LI i σ ρ cells slots)
    (kk : ∀ (f2 : Nat → Int64) (σ2 ρ2 : zS) (w2 v2 : Nat → Nat) (tx2 : Value) (c2 s2 : Nat), LI (i + 6) σ2 ρ2 c2 s2 → AW p l e room_1 s m #[Value.ref b] below meth c D kA (fun q => s.heap.size ≤ q) 7 Q 1012 [(4, .int (Int32.ofNat i)), (3, .ref o), (2, .ref z), (1, .ref (u 0)), (0, .ref b)] [] (lgO kA o f2 :: (cpW kA u w2 tx2 (cv σ2) ++ mmW kA z v2 (cv ρ2))) (c2) (s2)) : AW p l e room_1 s m #[Value.ref b] below meth c D kA (fun q => s.heap.size ≤ q) 7 Q 702 [(4, .int (Int32.ofNat i)), (3, .ref o), (2, .ref z), (1, .ref (u 0)), (0, .ref b)] [] (lgO kA o f :: (cpW kA u w tx (cv σ) ++ mmW kA z v (cv ρ))) (cells) (slots) := by
  obtain ⟨qo, ⟨n, hTL, hn⟩, zs, zρ, h3, hc, hs⟩ := hI
  obtain ⟨τ, r, κ, s2, y1, z1, k4, req, mg, tl⟩ := psym_ok hTL h3.1 (β := 200) (γ := 1646) (by omega) (by omega) (x := (xs (i + 1)).toInt) (y := (xs (i + 2)).toInt)
  obtain ⟨zτ, _, d, hd, _, _, hp⟩ := yE_sound zs (fun x hx => by simp only [List.mem_cons, List.not_mem_nil, or_false] at hx; rcases hx with rfl | rfl <;> exact zr_to _) y1
  obtain ⟨zκ, _, d2, hd2, hm⟩ := zE_sound l D kA z v zρ (fun x hx => by simp only [List.mem_cons, List.not_mem_nil, or_false] at hx; rcases hx with rfl | rfl <;> exact zr_to _) z1
  obtain ⟨_, _, d3, hd3, ht⟩ := zE_sound l D kA z v zκ (fun x hx => by cases hx) (show zE tM_thrown 0 κ [] = some (κ, κ.1 4) by rw [zq_thrown, kZ_thrown])
  have d30 : d3 = 0 := by omega
  subst d30
  have hT := (show sM_thrown l D kA z v (cv κ) [] (cv κ, i32 (κ.1 4), 0) from ht) rfl
  have hM := (show sM_symbol2 l D kA z v (cv ρ) [i32 (xs (i + 1)).toInt, i32 (xs (i + 2)).toInt] (cv κ, i32 s2, d2) from hm) _ _ rfl
  rw [to_i32, to_i32] at hM
  dsimp only at hM
  have hpp : sPn_CP_symbol l D kA u (cv σ) [i32 (xs (i + 1)).toInt, i32 (xs (i + 2)).toInt] (cv τ, i32 r, d) ∧ sPx2_CP_symbol l D kA u (cv σ) [i32 (xs (i + 1)).toInt, i32 (xs (i + 2)).toInt] (cv τ, i32 r, d) ∧ sPx3_CP_symbol l D kA u (cv σ) [i32 (xs (i + 1)).toInt, i32 (xs (i + 2)).toInt] (cv τ, i32 r, d) := hp l D kA u
  have hN := LI.nx h3 hc hs mg zτ zκ tl (by omega) 0 0 (by omega) (by omega)
  obtain ⟨rm1, rm2⟩ := hN.rm (by omega) hRl
  have hk4 := List.mem_of_elem_eq_true k4
  simp only [List.mem_cons, List.not_mem_nil, or_false, Prod.mk.injEq] at hk4
  rcases hk4 with ⟨c0, e0⟩ | ⟨c0, e0⟩ | ⟨c0, e0⟩
  · rw [e0, i32_0] at hT
    have hY := hpp.1 _ _ rfl w tx h3.1 c0
    rw [to_i32, to_i32] at hY
    dsimp only at hY
    have hW := wr_symbol_n (o := o) (f := f) (PW := fun f2 W2 => ((0 : Int32) = 0 → f2 (Int32.toNatClampNeg 0) = Int32.toInt64 (i32 r)) ∧ ∃ w2 tx2, W2 = cpW kA u w2 tx2 (cv τ)) rfl hY (fun r0 w1 hw => by obtain ⟨er, w2, tx2, _, _, ew⟩ := hw; exact ⟨fun _ => by rw [er, upd_0], w2, tx2, ew⟩)
    refine lk_symbol (fs := []) C hX hXb hbl hbA hi hL (k := 0) (rb := i32 s2) (PW := fun f2 W2 => ((0 : Int32) = 0 → f2 (Int32.toNatClampNeg 0) = Int32.toInt64 (i32 r)) ∧ ∃ w2 tx2, W2 = cpW kA u w2 tx2 (cv τ)) hW (show _ ≤ 2048 by omega) (show _ ≤ 84000 by omega) rfl hM (show _ ≤ 2048 by omega) (show _ ≤ 84000 by omega) ⟨_, rfl⟩ hT (fun _ f2 W2 hP => by rw [hP.1 rfl, req c0]) (by decide) (by decide) rm1 rm2 (fun f2 W2 hP => ?_)
    obtain ⟨_, w2, tx2, eW⟩ := hP
    rw [eW, ← cp_rst]
    exact kk f2 (rst τ) κ w2 v tx2 _ _ hN
  · rw [e0, i32_1] at hT
    have hY := hpp.2.2 _ _ rfl w tx h3.1 c0 htr
    rw [to_i32, to_i32] at hY
    dsimp only at hY
    have hW := wr_symbol_x28 (o := o) (f := f) (PW := fun f2 W2 => ((1 : Int32) = 0 → f2 (Int32.toNatClampNeg 0) = Int32.toInt64 (i32 r)) ∧ ∃ w2 tx2, W2 = cpW kA u w2 tx2 (cv τ)) rfl hY (fun w1 hw => by obtain ⟨w2, _, ew⟩ := hw; exact ⟨fun z => absurd z (by decide), w2, tx, ew⟩)
    refine lk_symbol (fs := []) C hX hXb hbl hbA hi hL (k := 1) (rb := i32 s2) (PW := fun f2 W2 => ((1 : Int32) = 0 → f2 (Int32.toNatClampNeg 0) = Int32.toInt64 (i32 r)) ∧ ∃ w2 tx2, W2 = cpW kA u w2 tx2 (cv τ)) hW (show _ ≤ 2048 by omega) (show _ ≤ 84000 by omega) rfl hM (show _ ≤ 2048 by omega) (show _ ≤ 84000 by omega) ⟨_, rfl⟩ hT (fun z => absurd z (by decide)) (by decide) (by decide) rm1 rm2 (fun f2 W2 hP => ?_)
    obtain ⟨_, w2, tx2, eW⟩ := hP
    rw [eW, ← cp_rst]
    exact kk f2 (rst τ) κ w2 v tx2 _ _ hN
  · rw [e0, i32_2] at hT
    have hY := hpp.2.1 _ _ rfl w tx h3.1 c0 htr
    rw [to_i32, to_i32] at hY
    dsimp only at hY
    have hW := wr_symbol_x19 (o := o) (f := f) (PW := fun f2 W2 => ((2 : Int32) = 0 → f2 (Int32.toNatClampNeg 0) = Int32.toInt64 (i32 r)) ∧ ∃ w2 tx2, W2 = cpW kA u w2 tx2 (cv τ)) rfl hY (fun w1 hw => by obtain ⟨w2, _, ew⟩ := hw; exact ⟨fun z => absurd z (by decide), w2, tx, ew⟩)
    refine lk_symbol (fs := []) C hX hXb hbl hbA hi hL (k := 2) (rb := i32 s2) (PW := fun f2 W2 => ((2 : Int32) = 0 → f2 (Int32.toNatClampNeg 0) = Int32.toInt64 (i32 r)) ∧ ∃ w2 tx2, W2 = cpW kA u w2 tx2 (cv τ)) hW (show _ ≤ 2048 by omega) (show _ ≤ 84000 by omega) rfl hM (show _ ≤ 2048 by omega) (show _ ≤ 84000 by omega) ⟨_, rfl⟩ hT (fun z => absurd z (by decide)) (by decide) (by decide) rm1 rm2 (fun f2 W2 hP => ?_)
    obtain ⟨_, w2, tx2, eW⟩ := hP
    rw [eW, ← cp_rst]
    exact kk f2 (rst τ) κ w2 v tx2 _ _ hN
theorem st_step {p : Program} {e : Env} {s : State} {m : MethodId} {below : List Frame} {meth : Method} {c : Code} {l : Launch} {D : va_G} {kA : Nat → ClassId} {b L : Nat} {xs : Nat → Int32} {o z : Nat} {u v w : Nat → Nat} {tx : Value} {f : Nat → Int64} {Q : State → Prop} {cells slots : Nat} (C : ax_C p s m #[Value.ref b] meth c code "ClauseProverLaw" 7 ret D kA (fun q => s.heap.size ≤ q)) (hX : ax_X (fun q => s.heap.size ≤ q) s s.heap) (hXb : va_X b L xs s s.heap) (hbl : b < s.heap.size) (hbA : ¬ s.heap.size ≤ b) (htr : l.stackTraces = false) {i : Nat} (hi : i + 6 ≤ L) (hL : L ≤ 3072) (hRl : ∀ qo σ ρ n, TL qo σ ρ n → rl σ + qo ≤ 2400000) {σ ρ : zS} (hI : LI i σ ρ cells slots)
    (kk : ∀ (f2 : Nat → Int64) (σ2 ρ2 : zS) (w2 v2 : Nat → Nat) (tx2 : Value) (c2 s2 : Nat), LI (i + 6) σ2 ρ2 c2 s2 → AW p l e room_1 s m #[Value.ref b] below meth c D kA (fun q => s.heap.size ≤ q) 7 Q 1012 [(4, .int (Int32.ofNat i)), (3, .ref o), (2, .ref z), (1, .ref (u 0)), (0, .ref b)] [] (lgO kA o f2 :: (cpW kA u w2 tx2 (cv σ2) ++ mmW kA z v2 (cv ρ2))) (c2) (s2)) : AW p l e room_1 s m #[Value.ref b] below meth c D kA (fun q => s.heap.size ≤ q) 7 Q 783 [(4, .int (Int32.ofNat i)), (3, .ref o), (2, .ref z), (1, .ref (u 0)), (0, .ref b)] [] (lgO kA o f :: (cpW kA u w tx (cv σ) ++ mmW kA z v (cv ρ))) (cells) (slots) := by
  obtain ⟨qo, ⟨n, hTL, hn⟩, zs, zρ, h3, hc, hs⟩ := hI
  obtain ⟨τ, r, κ, s2, y1, z1, k4, req, mg, tl⟩ := pstep_ok hTL h3.1 (β := 200) (γ := 1646) (by omega) (x := (xs (i + 1)).toInt)
  obtain ⟨zτ, _, d, hd, _, _, hp⟩ := yE_sound zs (fun x hx => by rw [List.mem_singleton.mp hx]; exact zr_to _) y1
  obtain ⟨zκ, _, d2, hd2, hm⟩ := zE_sound l D kA z v zρ (fun x hx => by rw [List.mem_singleton.mp hx]; exact zr_to _) z1
  obtain ⟨_, _, d3, hd3, ht⟩ := zE_sound l D kA z v zκ (fun x hx => by cases hx) (show zE tM_thrown 0 κ [] = some (κ, κ.1 4) by rw [zq_thrown, kZ_thrown])
  have d30 : d3 = 0 := by omega
  subst d30
  have hT := (show sM_thrown l D kA z v (cv κ) [] (cv κ, i32 (κ.1 4), 0) from ht) rfl
  have hM := (show sM_step2 l D kA z v (cv ρ) [i32 (xs (i + 1)).toInt] (cv κ, i32 s2, d2) from hm) _ rfl
  rw [to_i32] at hM
  dsimp only at hM
  have hpp : sPn_CP_step l D kA u (cv σ) [i32 (xs (i + 1)).toInt] (cv τ, i32 r, d) ∧ sPx4_CP_step l D kA u (cv σ) [i32 (xs (i + 1)).toInt] (cv τ, i32 r, d) := hp l D kA u
  have hN := LI.nx h3 hc hs mg zτ zκ tl (by omega) 0 0 (by omega) (by omega)
  obtain ⟨rm1, rm2⟩ := hN.rm (by omega) hRl
  have hk4 := List.mem_of_elem_eq_true k4
  simp only [List.mem_cons, List.not_mem_nil, or_false, Prod.mk.injEq] at hk4
  rcases hk4 with ⟨c0, e0⟩ | ⟨c0, e0⟩
  · rw [e0, i32_0] at hT
    have hY := hpp.1 _ rfl w tx h3.1 c0
    rw [to_i32] at hY
    dsimp only at hY
    have hW := wr_step_n (o := o) (f := f) (PW := fun f2 W2 => ((0 : Int32) = 0 → f2 (Int32.toNatClampNeg 0) = Int32.toInt64 (i32 r)) ∧ ∃ w2 tx2, W2 = cpW kA u w2 tx2 (cv τ)) rfl hY (fun r0 w1 hw => by obtain ⟨er, w2, tx2, _, _, ew⟩ := hw; exact ⟨fun _ => by rw [er, upd_0], w2, tx2, ew⟩)
    refine lk_step (fs := []) C hX hXb hbl hbA hi hL (k := 0) (rb := i32 s2) (PW := fun f2 W2 => ((0 : Int32) = 0 → f2 (Int32.toNatClampNeg 0) = Int32.toInt64 (i32 r)) ∧ ∃ w2 tx2, W2 = cpW kA u w2 tx2 (cv τ)) hW (show _ ≤ 2048 by omega) (show _ ≤ 84000 by omega) rfl hM (show _ ≤ 2048 by omega) (show _ ≤ 84000 by omega) ⟨_, rfl⟩ hT (fun _ f2 W2 hP => by rw [hP.1 rfl, req c0]) (by decide) (by decide) rm1 rm2 (fun f2 W2 hP => ?_)
    obtain ⟨_, w2, tx2, eW⟩ := hP
    rw [eW, ← cp_rst]
    exact kk f2 (rst τ) κ w2 v tx2 _ _ hN
  · rw [e0, i32_1] at hT
    have hY := hpp.2 _ rfl w tx h3.1 c0 htr
    rw [to_i32] at hY
    dsimp only at hY
    have hW := wr_step_x43 (o := o) (f := f) (PW := fun f2 W2 => ((1 : Int32) = 0 → f2 (Int32.toNatClampNeg 0) = Int32.toInt64 (i32 r)) ∧ ∃ w2 tx2, W2 = cpW kA u w2 tx2 (cv τ)) rfl hY (fun w1 hw => by obtain ⟨w2, _, ew⟩ := hw; exact ⟨fun z => absurd z (by decide), w2, tx, ew⟩)
    refine lk_step (fs := []) C hX hXb hbl hbA hi hL (k := 1) (rb := i32 s2) (PW := fun f2 W2 => ((1 : Int32) = 0 → f2 (Int32.toNatClampNeg 0) = Int32.toInt64 (i32 r)) ∧ ∃ w2 tx2, W2 = cpW kA u w2 tx2 (cv τ)) hW (show _ ≤ 2048 by omega) (show _ ≤ 84000 by omega) rfl hM (show _ ≤ 2048 by omega) (show _ ≤ 84000 by omega) ⟨_, rfl⟩ hT (fun z => absurd z (by decide)) (by decide) (by decide) rm1 rm2 (fun f2 W2 hP => ?_)
    obtain ⟨_, w2, tx2, eW⟩ := hP
    rw [eW, ← cp_rst]
    exact kk f2 (rst τ) κ w2 v tx2 _ _ hN
theorem st_look {p : Program} {e : Env} {s : State} {m : MethodId} {below : List Frame} {meth : Method} {c : Code} {l : Launch} {D : va_G} {kA : Nat → ClassId} {b L : Nat} {xs : Nat → Int32} {o z : Nat} {u v w : Nat → Nat} {tx : Value} {f : Nat → Int64} {Q : State → Prop} {cells slots : Nat} (C : ax_C p s m #[Value.ref b] meth c code "ClauseProverLaw" 7 ret D kA (fun q => s.heap.size ≤ q)) (hX : ax_X (fun q => s.heap.size ≤ q) s s.heap) (hXb : va_X b L xs s s.heap) (hbl : b < s.heap.size) (hbA : ¬ s.heap.size ≤ b) (htr : l.stackTraces = false) {i : Nat} (hi : i + 6 ≤ L) (hL : L ≤ 3072) (hRl : ∀ qo σ ρ n, TL qo σ ρ n → rl σ + qo ≤ 2400000) {σ ρ : zS} (hI : LI i σ ρ cells slots)
    (kk : ∀ (f2 : Nat → Int64) (σ2 ρ2 : zS) (w2 v2 : Nat → Nat) (tx2 : Value) (c2 s2 : Nat), LI (i + 6) σ2 ρ2 c2 s2 → AW p l e room_1 s m #[Value.ref b] below meth c D kA (fun q => s.heap.size ≤ q) 7 Q 1012 [(4, .int (Int32.ofNat i)), (3, .ref o), (2, .ref z), (1, .ref (u 0)), (0, .ref b)] [] (lgO kA o f2 :: (cpW kA u w2 tx2 (cv σ2) ++ mmW kA z v2 (cv ρ2))) (c2) (s2)) : AW p l e room_1 s m #[Value.ref b] below meth c D kA (fun q => s.heap.size ≤ q) 7 Q 839 [(4, .int (Int32.ofNat i)), (3, .ref o), (2, .ref z), (1, .ref (u 0)), (0, .ref b)] [] (lgO kA o f :: (cpW kA u w tx (cv σ) ++ mmW kA z v (cv ρ))) (cells) (slots) := by
  obtain ⟨qo, ⟨n, hTL, hn⟩, zs, zρ, h3, hc, hs⟩ := hI
  obtain ⟨τ, r, κ, s2, y1, z1, k4, req, mg, tl⟩ := plook_ok hTL h3.1 (β := 200) (γ := 1646) (by omega) (by omega) (x := (xs (i + 1)).toInt) (y := (xs (i + 2)).toInt)
  obtain ⟨zτ, _, d, hd, _, _, hp⟩ := yE_sound zs (fun x hx => by simp only [List.mem_cons, List.not_mem_nil, or_false] at hx; rcases hx with rfl | rfl <;> exact zr_to _) y1
  obtain ⟨zκ, _, d2, hd2, hm⟩ := zE_sound l D kA z v zρ (fun x hx => by simp only [List.mem_cons, List.not_mem_nil, or_false] at hx; rcases hx with rfl | rfl <;> exact zr_to _) z1
  obtain ⟨_, _, d3, hd3, ht⟩ := zE_sound l D kA z v zκ (fun x hx => by cases hx) (show zE tM_thrown 0 κ [] = some (κ, κ.1 4) by rw [zq_thrown, kZ_thrown])
  have d30 : d3 = 0 := by omega
  subst d30
  have hT := (show sM_thrown l D kA z v (cv κ) [] (cv κ, i32 (κ.1 4), 0) from ht) rfl
  have hM := (show sM_look l D kA z v (cv ρ) [i32 (xs (i + 1)).toInt, i32 (xs (i + 2)).toInt] (cv κ, i32 s2, d2) from hm) _ _ rfl
  rw [to_i32, to_i32] at hM
  dsimp only at hM
  have hpp : sPn_CP_look l D kA u (cv σ) [i32 (xs (i + 1)).toInt, i32 (xs (i + 2)).toInt] (cv τ, i32 r, d) ∧ sPx2_CP_look l D kA u (cv σ) [i32 (xs (i + 1)).toInt, i32 (xs (i + 2)).toInt] (cv τ, i32 r, d) := hp l D kA u
  have hN := LI.nx h3 hc hs mg zτ zκ tl (by omega) 0 0 (by omega) (by omega)
  obtain ⟨rm1, rm2⟩ := hN.rm (by omega) hRl
  have hk4 := List.mem_of_elem_eq_true k4
  simp only [List.mem_cons, List.not_mem_nil, or_false, Prod.mk.injEq] at hk4
  rcases hk4 with ⟨c0, e0⟩ | ⟨c0, e0⟩
  · rw [e0, i32_0] at hT
    have hY := hpp.1 _ _ rfl w tx h3.1 c0
    rw [to_i32, to_i32] at hY
    dsimp only at hY
    have hW := wr_look_n (o := o) (f := f) (PW := fun f2 W2 => ((0 : Int32) = 0 → f2 (Int32.toNatClampNeg 0) = Int32.toInt64 (i32 r)) ∧ ∃ w2 tx2, W2 = cpW kA u w2 tx2 (cv τ)) rfl hY (fun r0 w1 hw => by obtain ⟨er, w2, tx2, _, _, ew⟩ := hw; exact ⟨fun _ => by rw [er, upd_0], w2, tx2, ew⟩)
    refine lk_look (fs := []) C hX hXb hbl hbA hi hL (k := 0) (rb := i32 s2) (PW := fun f2 W2 => ((0 : Int32) = 0 → f2 (Int32.toNatClampNeg 0) = Int32.toInt64 (i32 r)) ∧ ∃ w2 tx2, W2 = cpW kA u w2 tx2 (cv τ)) hW (show _ ≤ 2048 by omega) (show _ ≤ 84000 by omega) rfl hM (show _ ≤ 2048 by omega) (show _ ≤ 84000 by omega) ⟨_, rfl⟩ hT (fun _ f2 W2 hP => by rw [hP.1 rfl, req c0]) (by decide) (by decide) rm1 rm2 (fun f2 W2 hP => ?_)
    obtain ⟨_, w2, tx2, eW⟩ := hP
    rw [eW, ← cp_rst]
    exact kk f2 (rst τ) κ w2 v tx2 _ _ hN
  · rw [e0, i32_1] at hT
    have hY := hpp.2 _ _ rfl w tx h3.1 c0 htr
    rw [to_i32, to_i32] at hY
    dsimp only at hY
    have hW := wr_look_x19 (o := o) (f := f) (PW := fun f2 W2 => ((1 : Int32) = 0 → f2 (Int32.toNatClampNeg 0) = Int32.toInt64 (i32 r)) ∧ ∃ w2 tx2, W2 = cpW kA u w2 tx2 (cv τ)) rfl hY (fun w1 hw => by obtain ⟨w2, _, ew⟩ := hw; exact ⟨fun z => absurd z (by decide), w2, tx, ew⟩)
    refine lk_look (fs := []) C hX hXb hbl hbA hi hL (k := 1) (rb := i32 s2) (PW := fun f2 W2 => ((1 : Int32) = 0 → f2 (Int32.toNatClampNeg 0) = Int32.toInt64 (i32 r)) ∧ ∃ w2 tx2, W2 = cpW kA u w2 tx2 (cv τ)) hW (show _ ≤ 2048 by omega) (show _ ≤ 84000 by omega) rfl hM (show _ ≤ 2048 by omega) (show _ ≤ 84000 by omega) ⟨_, rfl⟩ hT (fun z => absurd z (by decide)) (by decide) (by decide) rm1 rm2 (fun f2 W2 hP => ?_)
    obtain ⟨_, w2, tx2, eW⟩ := hP
    rw [eW, ← cp_rst]
    exact kk f2 (rst τ) κ w2 v tx2 _ _ hN
theorem st_search {p : Program} {e : Env} {s : State} {m : MethodId} {below : List Frame} {meth : Method} {c : Code} {l : Launch} {D : va_G} {kA : Nat → ClassId} {b L : Nat} {xs : Nat → Int32} {o z : Nat} {u v w : Nat → Nat} {tx : Value} {f : Nat → Int64} {Q : State → Prop} {cells slots : Nat} (C : ax_C p s m #[Value.ref b] meth c code "ClauseProverLaw" 7 ret D kA (fun q => s.heap.size ≤ q)) (hX : ax_X (fun q => s.heap.size ≤ q) s s.heap) (hXb : va_X b L xs s s.heap) (hbl : b < s.heap.size) (hbA : ¬ s.heap.size ≤ b) (htr : l.stackTraces = false) {i : Nat} (hi : i + 6 ≤ L) (hL : L ≤ 3072) (hRl : ∀ qo σ ρ n, TL qo σ ρ n → rl σ + qo ≤ 2400000) {σ ρ : zS} (hI : LI i σ ρ cells slots)
    (kk : ∀ (f2 : Nat → Int64) (σ2 ρ2 : zS) (w2 v2 : Nat → Nat) (tx2 : Value) (c2 s2 : Nat), LI (i + 6) σ2 ρ2 c2 s2 → AW p l e room_1 s m #[Value.ref b] below meth c D kA (fun q => s.heap.size ≤ q) 7 Q 1012 [(4, .int (Int32.ofNat i)), (3, .ref o), (2, .ref z), (1, .ref (u 0)), (0, .ref b)] [] (lgO kA o f2 :: (cpW kA u w2 tx2 (cv σ2) ++ mmW kA z v2 (cv ρ2))) (c2) (s2)) : AW p l e room_1 s m #[Value.ref b] below meth c D kA (fun q => s.heap.size ≤ q) 7 Q 907 [(4, .int (Int32.ofNat i)), (3, .ref o), (2, .ref z), (1, .ref (u 0)), (0, .ref b)] [] (lgO kA o f :: (cpW kA u w tx (cv σ) ++ mmW kA z v (cv ρ))) (cells) (slots) := by
  obtain ⟨qo, ⟨n, hTL, hn⟩, zs, zρ, h3, hc, hs⟩ := hI
  obtain ⟨τ, r, κ, s2, y1, z1, k4, req, mg, tl⟩ := psea_ok hTL h3.1 (β := 200) (γ := 1646) (by omega) (by omega) (x := (xs (i + 1)).toInt) (y := (xs (i + 2)).toInt) (w := (xs (i + 3)).toInt)
  obtain ⟨zτ, _, d, hd, _, _, hp⟩ := yE_sound zs (fun x hx => by simp only [List.mem_cons, List.not_mem_nil, or_false] at hx; rcases hx with rfl | rfl | rfl <;> exact zr_to _) y1
  obtain ⟨zκ, _, d2, hd2, hm⟩ := zE_sound l D kA z v zρ (fun x hx => by simp only [List.mem_cons, List.not_mem_nil, or_false] at hx; rcases hx with rfl | rfl | rfl <;> exact zr_to _) z1
  obtain ⟨_, _, d3, hd3, ht⟩ := zE_sound l D kA z v zκ (fun x hx => by cases hx) (show zE tM_thrown 0 κ [] = some (κ, κ.1 4) by rw [zq_thrown, kZ_thrown])
  have d30 : d3 = 0 := by omega
  subst d30
  have hT := (show sM_thrown l D kA z v (cv κ) [] (cv κ, i32 (κ.1 4), 0) from ht) rfl
  have hM := (show sM_search l D kA z v (cv ρ) [i32 (xs (i + 1)).toInt, i32 (xs (i + 2)).toInt, i32 (xs (i + 3)).toInt] (cv κ, i32 s2, d2) from hm) _ _ _ rfl
  rw [to_i32, to_i32, to_i32] at hM
  dsimp only at hM
  have hpp : sPn_CP_search l D kA u (cv σ) [i32 (xs (i + 1)).toInt, i32 (xs (i + 2)).toInt, i32 (xs (i + 3)).toInt] (cv τ, i32 r, d) ∧ sPx2_CP_search l D kA u (cv σ) [i32 (xs (i + 1)).toInt, i32 (xs (i + 2)).toInt, i32 (xs (i + 3)).toInt] (cv τ, i32 r, d) := hp l D kA u
  have hN := LI.nx h3 hc hs mg zτ zκ tl (by omega) 0 0 (by omega) (by omega)
  obtain ⟨rm1, rm2⟩ := hN.rm (by omega) hRl
  have hk4 := List.mem_of_elem_eq_true k4
  simp only [List.mem_cons, List.not_mem_nil, or_false, Prod.mk.injEq] at hk4
  rcases hk4 with ⟨c0, e0⟩ | ⟨c0, e0⟩
  · rw [e0, i32_0] at hT
    have hY := hpp.1 _ _ _ rfl w tx h3.1 c0
    rw [to_i32, to_i32, to_i32] at hY
    dsimp only at hY
    have hW := wr_search_n (o := o) (f := f) (PW := fun f2 W2 => ((0 : Int32) = 0 → f2 (Int32.toNatClampNeg 0) = Int32.toInt64 (i32 r)) ∧ ∃ w2 tx2, W2 = cpW kA u w2 tx2 (cv τ)) rfl hY (fun r0 w1 hw => by obtain ⟨er, w2, tx2, _, _, ew⟩ := hw; exact ⟨fun _ => by rw [er, upd_0], w2, tx2, ew⟩)
    refine lk_search (fs := []) C hX hXb hbl hbA hi hL (k := 0) (rb := i32 s2) (PW := fun f2 W2 => ((0 : Int32) = 0 → f2 (Int32.toNatClampNeg 0) = Int32.toInt64 (i32 r)) ∧ ∃ w2 tx2, W2 = cpW kA u w2 tx2 (cv τ)) hW (show _ ≤ 2048 by omega) (show _ ≤ 84000 by omega) rfl hM (show _ ≤ 2048 by omega) (show _ ≤ 84000 by omega) ⟨_, rfl⟩ hT (fun _ f2 W2 hP => by rw [hP.1 rfl, req c0]) (by decide) (by decide) rm1 rm2 (fun f2 W2 hP => ?_)
    obtain ⟨_, w2, tx2, eW⟩ := hP
    rw [eW, ← cp_rst]
    exact kk f2 (rst τ) κ w2 v tx2 _ _ hN
  · rw [e0, i32_1] at hT
    have hY := hpp.2 _ _ _ rfl w tx h3.1 c0 htr
    rw [to_i32, to_i32, to_i32] at hY
    dsimp only at hY
    have hW := wr_search_x19 (o := o) (f := f) (PW := fun f2 W2 => ((1 : Int32) = 0 → f2 (Int32.toNatClampNeg 0) = Int32.toInt64 (i32 r)) ∧ ∃ w2 tx2, W2 = cpW kA u w2 tx2 (cv τ)) rfl hY (fun w1 hw => by obtain ⟨w2, _, ew⟩ := hw; exact ⟨fun z => absurd z (by decide), w2, tx, ew⟩)
    refine lk_search (fs := []) C hX hXb hbl hbA hi hL (k := 1) (rb := i32 s2) (PW := fun f2 W2 => ((1 : Int32) = 0 → f2 (Int32.toNatClampNeg 0) = Int32.toInt64 (i32 r)) ∧ ∃ w2 tx2, W2 = cpW kA u w2 tx2 (cv τ)) hW (show _ ≤ 2048 by omega) (show _ ≤ 84000 by omega) rfl hM (show _ ≤ 2048 by omega) (show _ ≤ 84000 by omega) ⟨_, rfl⟩ hT (fun z => absurd z (by decide)) (by decide) (by decide) rm1 rm2 (fun f2 W2 hP => ?_)
    obtain ⟨_, w2, tx2, eW⟩ := hP
    rw [eW, ← cp_rst]
    exact kk f2 (rst τ) κ w2 v tx2 _ _ hN
theorem st_fault {p : Program} {e : Env} {s : State} {m : MethodId} {below : List Frame} {meth : Method} {c : Code} {l : Launch} {D : va_G} {kA : Nat → ClassId} {b L : Nat} {xs : Nat → Int32} {o z : Nat} {u v w : Nat → Nat} {tx : Value} {f : Nat → Int64} {Q : State → Prop} {cells slots : Nat} (C : ax_C p s m #[Value.ref b] meth c code "ClauseProverLaw" 7 ret D kA (fun q => s.heap.size ≤ q)) (hX : ax_X (fun q => s.heap.size ≤ q) s s.heap) (hXb : va_X b L xs s s.heap) (hbl : b < s.heap.size) (hbA : ¬ s.heap.size ≤ b) (htr : l.stackTraces = false) {i : Nat} (hi : i + 6 ≤ L) (hL : L ≤ 3072) (hRl : ∀ qo σ ρ n, TL qo σ ρ n → rl σ + qo ≤ 2400000) {σ ρ : zS} (hI : LI i σ ρ cells slots)
    (kk : ∀ (f2 : Nat → Int64) (σ2 ρ2 : zS) (w2 v2 : Nat → Nat) (tx2 : Value) (c2 s2 : Nat), LI (i + 6) σ2 ρ2 c2 s2 → AW p l e room_1 s m #[Value.ref b] below meth c D kA (fun q => s.heap.size ≤ q) 7 Q 1012 [(4, .int (Int32.ofNat i)), (3, .ref o), (2, .ref z), (1, .ref (u 0)), (0, .ref b)] [] (lgO kA o f2 :: (cpW kA u w2 tx2 (cv σ2) ++ mmW kA z v2 (cv ρ2))) (c2) (s2)) : AW p l e room_1 s m #[Value.ref b] below meth c D kA (fun q => s.heap.size ≤ q) 7 Q 293 [(4, .int (Int32.ofNat i)), (3, .ref o), (2, .ref z), (1, .ref (u 0)), (0, .ref b)] [] (lgO kA o f :: (cpW kA u w tx (cv σ) ++ mmW kA z v (cv ρ))) (cells) (slots) := by
  obtain ⟨qo, ⟨n, hTL, hn⟩, zs, zρ, h3, hc, hs⟩ := hI
  obtain ⟨r, y1, z1⟩ := pflt_ok hTL (β := 200) (γ := 1646) (x := (xs (i + 1)).toInt)
  have tl : TL qo σ (zI ρ 4 0) n := hTL.t
  obtain ⟨κ, hκ⟩ : ∃ q, q = zI ρ 4 0 := ⟨_, rfl⟩
  rw [← hκ] at z1 tl
  obtain ⟨zτ, _, d, hd, hp, _, _⟩ := yE_sound zs (fun x hx => by rw [List.mem_singleton.mp hx]; exact zr_to _) y1
  obtain ⟨zκ, _, d2, hd2, hm⟩ := zE_sound l D kA z v zρ (fun x hx => by rw [List.mem_singleton.mp hx]; exact zr_to _) z1
  have hM := (show sM_fault l D kA z v (cv ρ) [i32 (xs (i + 1)).toInt] (cv κ, i32 r, d2) from hm) _ rfl
  have hW := (show sC_CP_fault l D kA u w tx (cv σ) [i32 (xs (i + 1)).toInt] (cv σ, i32 r, d) from hp l D kA u w tx) _ rfl
  rw [to_i32] at hM hW
  dsimp only at hM hW
  have hN : LI (i + 6) σ κ (cells + 0 + 0) (slots + 0 + 0) := ⟨qo, ⟨n, tl, by omega⟩, zs, zκ, h3, by omega, by omega⟩
  obtain ⟨rm1, rm2⟩ := hN.rm (by omega) hRl
  refine lk_fault C hX hXb hbl hbA hi hL (PW := fun w1 => w1 = cpW kA u w tx (cv σ)) hW rfl (show _ ≤ 2048 by omega) (show _ ≤ 84000 by omega) rfl hM (show _ ≤ 2048 by omega) (show _ ≤ 84000 by omega) rfl (show cells + 0 ≤ room_1.cells by omega) (show slots + 0 ≤ room_1.slots by omega) rm1 rm2 (fun W2 hP => ?_)
  rw [hP]
  exact kk f σ κ w v tx _ _ hN
theorem st_proof {p : Program} {e : Env} {s : State} {m : MethodId} {below : List Frame} {meth : Method} {c : Code} {l : Launch} {D : va_G} {kA : Nat → ClassId} {b L : Nat} {xs : Nat → Int32} {o z : Nat} {u v w : Nat → Nat} {tx : Value} {f : Nat → Int64} {Q : State → Prop} {cells slots : Nat} (C : ax_C p s m #[Value.ref b] meth c code "ClauseProverLaw" 7 ret D kA (fun q => s.heap.size ≤ q)) (hX : ax_X (fun q => s.heap.size ≤ q) s s.heap) (hXb : va_X b L xs s s.heap) (hbl : b < s.heap.size) (hbA : ¬ s.heap.size ≤ b) (htr : l.stackTraces = false) {i : Nat} (hi : i + 6 ≤ L) (hL : L ≤ 3072) (hRl : ∀ qo σ ρ n, TL qo σ ρ n → rl σ + qo ≤ 2400000) {σ ρ : zS} (hI : LI i σ ρ cells slots)
    (kk : ∀ (f2 : Nat → Int64) (σ2 ρ2 : zS) (w2 v2 : Nat → Nat) (tx2 : Value) (c2 s2 : Nat), LI (i + 6) σ2 ρ2 c2 s2 → AW p l e room_1 s m #[Value.ref b] below meth c D kA (fun q => s.heap.size ≤ q) 7 Q 1012 [(4, .int (Int32.ofNat i)), (3, .ref o), (2, .ref z), (1, .ref (u 0)), (0, .ref b)] [] (lgO kA o f2 :: (cpW kA u w2 tx2 (cv σ2) ++ mmW kA z v2 (cv ρ2))) (c2) (s2)) : AW p l e room_1 s m #[Value.ref b] below meth c D kA (fun q => s.heap.size ≤ q) 7 Q 770 [(4, .int (Int32.ofNat i)), (3, .ref o), (2, .ref z), (1, .ref (u 0)), (0, .ref b)] [] (lgO kA o f :: (cpW kA u w tx (cv σ) ++ mmW kA z v (cv ρ))) (cells) (slots) := by
  obtain ⟨qo, ⟨n, hTL, hn⟩, zs, zρ, h3, hc, hs⟩ := hI
  obtain ⟨r, κ, y1, z1, _, tl⟩ := ppro_ok hTL (β := 200) (γ := 1646) (by omega)
  obtain ⟨zτ, _, d, hd, hp, _, _⟩ := yE_sound zs (fun x hx => by cases hx) y1
  obtain ⟨zκ, _, d2, hd2, hm⟩ := zE_sound l D kA z v zρ (fun x hx => by cases hx) z1
  have hM := (show sM_proof l D kA z v (cv ρ) [] (cv κ, i32 r, d2) from hm)  rfl
  have hW := (show sC_CP_proof l D kA u w tx (cv σ) [] (cv σ, i32 r, d) from hp l D kA u w tx)  rfl
  dsimp only at hM hW
  have hN : LI (i + 6) σ κ (cells + 0 + 0) (slots + 0 + 0) := ⟨qo, ⟨n, tl, by omega⟩, zs, zκ, h3, by omega, by omega⟩
  obtain ⟨rm1, rm2⟩ := hN.rm (by omega) hRl
  refine lk_proof C hX hXb hbl hbA hi hL (PW := fun w1 => w1 = cpW kA u w tx (cv σ)) hW rfl (show _ ≤ 2048 by omega) (show _ ≤ 84000 by omega) rfl hM (show _ ≤ 2048 by omega) (show _ ≤ 84000 by omega) rfl (show cells + 0 ≤ room_1.cells by omega) (show slots + 0 ≤ room_1.slots by omega) rm1 rm2 (fun W2 hP => ?_)
  rw [hP]
  exact kk f σ κ w v tx _ _ hN
theorem st_count {p : Program} {e : Env} {s : State} {m : MethodId} {below : List Frame} {meth : Method} {c : Code} {l : Launch} {D : va_G} {kA : Nat → ClassId} {b L : Nat} {xs : Nat → Int32} {o z : Nat} {u v w : Nat → Nat} {tx : Value} {f : Nat → Int64} {Q : State → Prop} {cells slots : Nat} (C : ax_C p s m #[Value.ref b] meth c code "ClauseProverLaw" 7 ret D kA (fun q => s.heap.size ≤ q)) (hX : ax_X (fun q => s.heap.size ≤ q) s s.heap) (hXb : va_X b L xs s s.heap) (hbl : b < s.heap.size) (hbA : ¬ s.heap.size ≤ b) (htr : l.stackTraces = false) {i : Nat} (hi : i + 6 ≤ L) (hL : L ≤ 3072) (hRl : ∀ qo σ ρ n, TL qo σ ρ n → rl σ + qo ≤ 2400000) {σ ρ : zS} (hI : LI i σ ρ cells slots)
    (kk : ∀ (f2 : Nat → Int64) (σ2 ρ2 : zS) (w2 v2 : Nat → Nat) (tx2 : Value) (c2 s2 : Nat), LI (i + 6) σ2 ρ2 c2 s2 → AW p l e room_1 s m #[Value.ref b] below meth c D kA (fun q => s.heap.size ≤ q) 7 Q 1012 [(4, .int (Int32.ofNat i)), (3, .ref o), (2, .ref z), (1, .ref (u 0)), (0, .ref b)] [] (lgO kA o f2 :: (cpW kA u w2 tx2 (cv σ2) ++ mmW kA z v2 (cv ρ2))) (c2) (s2)) : AW p l e room_1 s m #[Value.ref b] below meth c D kA (fun q => s.heap.size ≤ q) 7 Q 987 [(4, .int (Int32.ofNat i)), (3, .ref o), (2, .ref z), (1, .ref (u 0)), (0, .ref b)] [] (lgO kA o f :: (cpW kA u w tx (cv σ) ++ mmW kA z v (cv ρ))) (cells) (slots) := by
  obtain ⟨qo, ⟨n, hTL, hn⟩, zs, zρ, h3, hc, hs⟩ := hI
  obtain ⟨r, y1, z1⟩ := pcnt_ok hTL (β := 200) (γ := 1646) (by omega) (by omega) (x := (xs (i + 1)).toInt)
  have tl : TL qo σ (zI ρ 4 0) n := hTL.t
  obtain ⟨κ, hκ⟩ : ∃ q, q = zI ρ 4 0 := ⟨_, rfl⟩
  rw [← hκ] at z1 tl
  obtain ⟨zτ, _, d, hd, hp, _, _⟩ := yE_sound zs (fun x hx => by rw [List.mem_singleton.mp hx]; exact zr_to _) y1
  obtain ⟨zκ, _, d2, hd2, hm⟩ := zE_sound l D kA z v zρ (fun x hx => by rw [List.mem_singleton.mp hx]; exact zr_to _) z1
  have hM := (show sM_count1 l D kA z v (cv ρ) [i32 (xs (i + 1)).toInt] (cv κ, i32 r, d2) from hm) _ rfl
  have hW := (show sC_CP_count l D kA u w tx (cv σ) [i32 (xs (i + 1)).toInt] (cv σ, i32 r, d) from hp l D kA u w tx) _ rfl
  rw [to_i32] at hM hW
  dsimp only at hM hW
  have hN : LI (i + 6) σ κ (cells + 0 + 0) (slots + 0 + 0) := ⟨qo, ⟨n, tl, by omega⟩, zs, zκ, h3, by omega, by omega⟩
  obtain ⟨rm1, rm2⟩ := hN.rm (by omega) hRl
  refine lk_count C hX hXb hbl hbA hi hL (PW := fun w1 => w1 = cpW kA u w tx (cv σ)) hW rfl (show _ ≤ 2048 by omega) (show _ ≤ 84000 by omega) rfl hM (show _ ≤ 2048 by omega) (show _ ≤ 84000 by omega) rfl (show cells + 0 ≤ room_1.cells by omega) (show slots + 0 ≤ room_1.slots by omega) rm1 rm2 (fun W2 hP => ?_)
  rw [hP]
  exact kk f σ κ w v tx _ _ hN
theorem st_read {p : Program} {e : Env} {s : State} {m : MethodId} {below : List Frame} {meth : Method} {c : Code} {l : Launch} {D : va_G} {kA : Nat → ClassId} {b L : Nat} {xs : Nat → Int32} {o z : Nat} {u v w : Nat → Nat} {tx : Value} {f : Nat → Int64} {Q : State → Prop} {cells slots : Nat} (C : ax_C p s m #[Value.ref b] meth c code "ClauseProverLaw" 7 ret D kA (fun q => s.heap.size ≤ q)) (hX : ax_X (fun q => s.heap.size ≤ q) s s.heap) (hXb : va_X b L xs s s.heap) (hbl : b < s.heap.size) (hbA : ¬ s.heap.size ≤ b) (htr : l.stackTraces = false) {i : Nat} (hi : i + 6 ≤ L) (hL : L ≤ 3072) (hRl : ∀ qo σ ρ n, TL qo σ ρ n → rl σ + qo ≤ 2400000) {σ ρ : zS} (hI : LI i σ ρ cells slots)
    (kk : ∀ (f2 : Nat → Int64) (σ2 ρ2 : zS) (w2 v2 : Nat → Nat) (tx2 : Value) (c2 s2 : Nat), LI (i + 6) σ2 ρ2 c2 s2 → AW p l e room_1 s m #[Value.ref b] below meth c D kA (fun q => s.heap.size ≤ q) 7 Q 1012 [(4, .int (Int32.ofNat i)), (3, .ref o), (2, .ref z), (1, .ref (u 0)), (0, .ref b)] [] (lgO kA o f2 :: (cpW kA u w2 tx2 (cv σ2) ++ mmW kA z v2 (cv ρ2))) (c2) (s2)) : AW p l e room_1 s m #[Value.ref b] below meth c D kA (fun q => s.heap.size ≤ q) 7 Q 280 [(4, .int (Int32.ofNat i)), (3, .ref o), (2, .ref z), (1, .ref (u 0)), (0, .ref b)] [] (lgO kA o f :: (cpW kA u w tx (cv σ) ++ mmW kA z v (cv ρ))) (cells) (slots) := by
  obtain ⟨qo, ⟨n, hTL, hn⟩, zs, zρ, h3, hc, hs⟩ := hI
  obtain ⟨τ, r, κ, y1, z1, l3, mg, tl⟩ := pread_all hTL (by omega) (β := 200) (γ := 1600) (by omega) (by omega)
  obtain ⟨zτ, _, d, hd, _, hp, _⟩ := yE_sound zs (fun x hx => by cases hx) y1
  obtain ⟨zκ, _, d2, hd2, hm⟩ := xE_sound l D kA z v zρ (fun x hx => by cases hx) z1
  have hM := (show sX_read l D kA z v (cv ρ) [] (cv κ, i32 r, d2) from hm) rfl
  have hW := (show sG_CP_read l D kA u (cv σ) [] (cv τ, i32 r, d) from hp l D kA u) rfl w tx
  dsimp only at hM hW
  have hN := LI.nx h3 hc hs (Or.inl mg) zτ zκ tl.r (by omega) 2 14 (by omega) (by omega)
  have hN0 := LI.nx h3 hc hs (Or.inl mg) zτ zκ tl.r (by omega) 0 0 (by omega) (by omega)
  obtain ⟨rm1, rm2⟩ := hN.rm (by omega) hRl
  obtain ⟨rm3, rm4⟩ := hN0.rm (by omega) hRl
  refine lk_read C hX hXb hbl hbA hi hL hW rfl (show _ ≤ 2048 by omega) (show _ ≤ 84000 by omega) rfl hM (show _ ≤ 2048 by omega) (show _ ≤ 84000 by omega) rfl rm3 rm4 rm1 rm2 (fun W2 hP => ?_)
  obtain ⟨w2, tx2, _, _, eW⟩ := hP
  rw [eW, ← cp_rst]
  exact kk f (rst τ) κ w2 v tx2 _ _ hN
