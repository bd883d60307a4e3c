/-! the law's case of show -/
theorem ax_rcv {p : Program} {s : State} {m : MethodId} {args : Array Value} {meth : Method} {c : Code} {D : va_G} {kA : Nat → ClassId} {A : Nat → Prop} {nL : Nat} {cc : ByteArray} {own : String} {ret : Option FieldType} {ws : va_W} (C : ax_C p s m args meth c cc own nL ret D kA A) (q0 : Nat) {b ci : Nat} {fs : List Value} {r9 : vw_C} {cls : String} (he : ws[q0]? = some (b, .inr (ci, fs))) (hc : ax_cl[ci]? = some r9) (hrc : r9.1 = cls) : ∀ (H : Heap) (locs : List Loc), va_P D ax_cl ws H → va_S A s.heap H locs → ∃ cell : Cell, H[b]? = some cell ∧ cell.vm.isStatics = false ∧ s.vm.findClass cls = some cell.cls := fun H locs hP _ => by
  rw [← hrc]; exact va_recv C.2.2.2.2.2.1 hP hc he
theorem wr_show_nY {l : Launch} {D : va_G} {kA : Nat → ClassId} {adK adV : Nat → Nat} {W : va_W} {x o : Nat} {fs : List Value} (hx : W[0]? = some (x, .inr (11, fs))) {f : Nat → Int64} {i0 : Int32} {fr lo mc ms : Nat} {post : Int32 → va_W → Prop} {PW : (Nat → Int64) → va_W → Prop} (hM : ax_MiY (SX adK adV) l D kA y_CP_show b_CP_show 5 .int fr lo mc ms [.ref x, .int i0] W post) (hP : ∀ r0 w1, post r0 w1 → PW (vp_updL f (Int32.toNatClampNeg 0) (Int32.toInt64 r0)) w1) : ax_MwY (SX adK adV) l D kA y_Law_show b_Law_show 4 [(0, 9, 12, 28)] (fr + 1) (lo + 24) mc ms [.ref x, .int i0, .ref o] (lgO kA o f :: W) (fun r w1 => r = 0 ∧ ∃ f2 W2, PW f2 W2 ∧ w1 = lgO kA o f2 :: W2) := by
  refine ax_MwY.of (by decide +kernel) (Nat.le_of_ble_eq_true rfl) ?_
  intro p e s m args below meth c C hadm hmeth hcode htb hX hSX
  refine ax_ls ([(0, .ref x), (1, .int i0), (2, .ref o)]) [0, 1, 2] rfl ?_
  refine ax_aload_n (pc := 0) C d_Law_show_0 rfl 2 rfl ?_
  refine ax_iconst (pc := 1) C 0 d_Law_show_1 (by decide +kernel) ?_
  refine ax_aload_n (pc := 2) C d_Law_show_2 rfl 0 rfl ?_
  refine ax_iload_n (pc := 3) C d_Law_show_3 rfl 1 rfl ?_
  refine ax_callViY (SX_ok adK adV) (pc := 4) C hSX (As := [.int i0]) (rest := [.int 0, .ref o]) (wr := [lgO kA o f]) hM ml_Law_37 (ax_rcv C 1 hx rfl rfl) d_Law_show_4 rfl rfl (List.range' 1 W.length) [0] pk_1 (nd_rg _ _) rfl (by decide) pk_dis (show fr + 1 ≤ fr + 1 from Nat.le_refl _) (show 8 + (5 + 11) + lo ≤ lo + 24 by omega) (show 0 + mc ≤ mc by omega) (show 0 + ms ≤ ms by omega) (Nat.le_of_ble_eq_true rfl) (fun r0 w1 hw1 => ?_)
  refine ax_i2l (pc := 7) C (Int32.toInt64 r0) d_Law_show_7 rfl ?_
  refine ax_last (pc := 8) C 0 rfl d_Law_show_8 (by unfold vp_in; decide) ?_
  refine ax_w (lgO kA o (vp_updL f (Int32.toNatClampNeg 0) (Int32.toInt64 r0)) :: w1) rfl ?_
  refine ax_goto (pc := 9) C 15 d_Law_show_9 (by decide) ?_
  refine ax_iconst (pc := 15) C 0 d_Law_show_15 (by decide +kernel) ?_
  exact ax_iret (pc := 16) C d_Law_show_16 ⟨rfl, _, w1, hP r0 w1 hw1, rfl⟩ (by omega) (by omega)
theorem wr_show_xY {l : Launch} {D : va_G} {kA : Nat → ClassId} {adK adV : Nat → Nat} {W : va_W} {x o : Nat} {fs : List Value} (hx : W[0]? = some (x, .inr (11, fs))) {f : Nat → Int64} {i0 : Int32} {fr lo mc ms : Nat} {post : va_W → Prop} {PW : (Nat → Int64) → va_W → Prop} (hM : ax_Mx l D kA y_CP_show b_CP_show 5 (some .int) fr lo mc ms [.ref x, .int i0] W "java/util/NoSuchElementException" post) (hP : ∀ w1, post w1 → PW f w1) : ax_MwY (SX adK adV) l D kA y_Law_show b_Law_show 4 [(0, 9, 12, 28)] (fr + 1) (lo + 24) mc ms [.ref x, .int i0, .ref o] (lgO kA o f :: W) (fun r w1 => r = 1 ∧ ∃ f2 W2, PW f2 W2 ∧ w1 = lgO kA o f2 :: W2) := by
  refine ax_MwY.of (by decide +kernel) (Nat.le_of_ble_eq_true rfl) ?_
  intro p e s m args below meth c C hadm hmeth hcode htb hX hSX
  refine ax_ls ([(0, .ref x), (1, .int i0), (2, .ref o)]) [0, 1, 2] rfl ?_
  refine ax_aload_n (pc := 0) C d_Law_show_0 rfl 2 rfl ?_
  refine ax_iconst (pc := 1) C 0 d_Law_show_1 (by decide +kernel) ?_
  refine ax_aload_n (pc := 2) C d_Law_show_2 rfl 0 rfl ?_
  refine ax_iload_n (pc := 3) C d_Law_show_3 rfl 1 rfl ?_
  refine ax_callVx (pc := 4) C hX (hpc := 12) (As := [.int i0]) (rest := [.int 0, .ref o]) (wr := [lgO kA o f]) hM ml_Law_37 1 hx rfl rfl d_Law_show_4 rfl rfl (List.range' 1 W.length) [0] pk_1 (nd_rg _ _) rfl (by decide) pk_dis (show fr + 1 ≤ fr + 1 from Nat.le_refl _) (show 8 + (5 + 11) + lo ≤ lo + 24 by omega) (show 0 + mc ≤ mc by omega) (show 0 + ms ≤ ms by omega) (Nat.le_of_ble_eq_true rfl) (cx_F1 hadm hmeth hcode C.2.2.2.1 htb ⟨by decide, by decide⟩ (by decide) (C.2.2.2.2.1 _ tb_classLink_1284)) (fun xe w1 hw1 => ?_)
  refine ax_astore_n (pc := 12) C d_Law_show_12 rfl (Nat.le_of_ble_eq_true rfl) ([(3, .ref xe), (0, .ref x), (1, .int i0), (2, .ref o)]) rfl ?_
  refine ax_iconst (pc := 13) C 1 d_Law_show_13 (by decide +kernel) ?_
  exact ax_iret (pc := 14) C d_Law_show_14 ⟨rfl, f, w1, hP w1 hw1, rfl⟩ (by omega) (by omega)
theorem lk_showY {p : Program} {e : Env} {s : State} {m : MethodId} {below : List Frame} {meth : Method} {c : Code} {l : Launch} {D : va_G} {kA : Nat → ClassId} {b L : Nat} {xs : Nat → Int32} {o x z : Nat} {f : Nat → Int64} {W M : va_W} {fs fz : List Value} {Q : State → Prop} {R : Room} {cells slots : Nat} (C : ax_C p s m #[Value.ref b] meth c code "ClauseProverLaw" 7 ret D kA (fun q => s.heap.size ≤ q)) (hX : ax_X (fun q => s.heap.size ≤ q) s s.heap) {adK adV : Nat → Nat} (hSX : SX adK adV (fun q => s.heap.size ≤ q) s s.heap) (hXb : va_X b L xs s s.heap) (hbl : b < s.heap.size) (hbA : ¬ s.heap.size ≤ b) {i : Nat} (hi : i + 6 ≤ L) (hL : L ≤ 3072) {fr lo mc ms fr2 lo2 mc2 ms2 : Nat} {k rb : Int32} {PW : (Nat → Int64) → va_W → Prop} {PM : va_W → Prop} (hW : ax_MwY (SX adK adV) l D kA y_Law_show b_Law_show 4 [(0, 9, 12, 28)] fr lo mc ms [.ref x, .int (xs (i + 1)), .ref o] (lgO kA o f :: W) (fun r w1 => r = k ∧ ∃ f2 W2, PW f2 W2 ∧ w1 = lgO kA o f2 :: W2)) (hfr : fr + 1 ≤ R.frames) (hlo : 8 + (4 + 11) + lo ≤ R.locals) (hz : M[0]? = some (z, .inr (12, fz))) (hM : ax_Mi l D kA y_MM_show b_MM_show 3 .int fr2 lo2 mc2 ms2 [.ref z, .int (xs (i + 1))] M (fun r w1 => r = rb ∧ PM w1)) (hfr2 : fr2 + 1 ≤ R.frames) (hlo2 : 8 + (3 + 11) + lo2 ≤ R.locals) (hz2 : ∀ M2, PM M2 → ∃ fz2, M2[0]? = some (z, .inr (12, fz2))) (hT : ∀ M2, PM M2 → ax_Mi l D kA y_MM_thrown b_MM_thrown 1 .int 1 48 0 0 [.ref z] M2 (fun r w1 => r = k ∧ w1 = M2)) (hk : k = 0 → ∀ f2 W2, PW f2 W2 → f2 (Int32.toNatClampNeg 0) = Int32.toInt64 rb) (hfr3 : 1 + 1 ≤ R.frames) (hlo3 : 8 + (1 + 11) + 48 ≤ R.locals) (hc : cells + mc + mc2 ≤ R.cells) (hs : slots + ms + ms2 ≤ R.slots)
    (kk : ∀ f2 W2 M2, PW f2 W2 → PM M2 → AW p l e R s m #[Value.ref b] below meth c D kA (fun q => s.heap.size ≤ q) 7 Q 1012 [(4, .int (Int32.ofNat i)), (3, .ref o), (2, .ref z), (1, .ref x), (0, .ref b)] [] (lgO kA o f2 :: (W2 ++ M2)) (cells + mc + mc2) (slots + ms + ms2)) : AW p l e R s m #[Value.ref b] below meth c D kA (fun q => s.heap.size ≤ q) 7 Q 590 [(4, .int (Int32.ofNat i)), (3, .ref o), (2, .ref z), (1, .ref x), (0, .ref b)] [] (lgO kA o f :: (W ++ M)) (cells) (slots) := by
  refine ax_aload_n (pc := 590) C d_Law_law_590 rfl 3 rfl ?_
  refine ax_aload_n (pc := 591) C d_Law_law_591 rfl 4 rfl ?_
  refine ax_iload (pc := 592) C d_Law_law_592 0 rfl ?_
  refine ax_iconst (pc := 594) C 1 d_Law_law_594 (by decide +kernel) ?_
  refine ax_iadd (pc := 595) C d_Law_law_595 ?_
  refine ax_nrm (Int32.ofNat (i + 1)) ix_a ?_
  refine ax_sld (pc := 596) C hXb hbl hbA d_Law_law_596 (ix_in (by omega) hL) ?_
  refine ax_nrm (xs (i + 1)) (by rw [ix_n (by omega)]) ?_
  refine ax_aload_n (pc := 597) C d_Law_law_597 rfl 1 rfl ?_
  refine ax_callSwY (SX_ok adK adV) (pc := 598) C hX hSX (As := [.ref x, .int (xs (i + 1)), .ref o]) (rest := []) (wr := M) hW mw_Law_97 d_Law_law_598 rfl rfl (List.range' 0 (W.length + 1)) (List.range' (W.length + 1) M.length) (pk_0 (W := lgO kA o f :: W) (Y := M)) (nd_rg _ _) (pk_e (X := lgO kA o f :: W) (W := M)) (nd_rg _ _) pk_d1 hfr hlo (Nat.le_trans (Nat.le_add_right _ _) hc) (Nat.le_trans (Nat.le_add_right _ _) hs) (Nat.le_of_ble_eq_true rfl) (fun r1 w1 hw1 => ?_)
  obtain ⟨er, f2, W2, hP, ew⟩ := hw1
  rw [er, ew]
  refine ax_istore (pc := 601) C d_Law_law_601 (Nat.le_of_ble_eq_true rfl) ([(5, .int k), (4, .int (Int32.ofNat i)), (3, .ref o), (2, .ref z), (1, .ref x), (0, .ref b)]) rfl ?_
  refine ax_aload_n (pc := 603) C d_Law_law_603 rfl 3 rfl ?_
  refine ax_aload_n (pc := 604) C d_Law_law_604 rfl 5 rfl ?_
  refine ax_iload (pc := 605) C d_Law_law_605 1 rfl ?_
  refine ax_iconst (pc := 607) C 1 d_Law_law_607 (by decide +kernel) ?_
  refine ax_iadd (pc := 608) C d_Law_law_608 ?_
  refine ax_nrm (Int32.ofNat (i + 1)) ix_a ?_
  refine ax_sld (pc := 609) C hXb hbl hbA d_Law_law_609 (ix_in (by omega) hL) ?_
  refine ax_nrm (xs (i + 1)) (by rw [ix_n (by omega)]) ?_
  refine ax_callVi (pc := 610) C (As := [.int (xs (i + 1))]) (rest := []) (wr := lgO kA o f2 :: W2) hM ml_Law_99 0 (gt_0 (A := M) (B := lgO kA o f2 :: W2) hz) rfl rfl d_Law_law_610 rfl rfl (List.range' 0 M.length) (List.range' M.length (W2.length + 1)) (pk_0 (W := M) (Y := lgO kA o f2 :: W2)) (nd_rg _ _) (pk_e (X := M) (W := lgO kA o f2 :: W2)) (nd_rg _ _) pk_d1 hfr2 hlo2 hc hs (Nat.le_of_ble_eq_true rfl) (fun r2 M2 hw2 => ?_)
  obtain ⟨er2, hM2⟩ := hw2
  rw [er2]
  refine ax_istore (pc := 613) C d_Law_law_613 (Nat.le_of_ble_eq_true rfl) ([(6, .int rb), (5, .int k), (4, .int (Int32.ofNat i)), (3, .ref o), (2, .ref z), (1, .ref x), (0, .ref b)]) rfl ?_
  refine ax_aload_n (pc := 615) C d_Law_law_615 rfl 4 rfl ?_
  obtain ⟨fz2, hz2⟩ := hz2 M2 hM2
  refine ax_callVi (pc := 616) C (As := []) (rest := []) (wr := lgO kA o f2 :: W2) (hT M2 hM2) ml_Law_67 (W2.length + 1) (gt_e (A := lgO kA o f2 :: W2) hz2) rfl rfl d_Law_law_616 rfl rfl (List.range' (W2.length + 1) M2.length) (List.range' 0 (W2.length + 1)) (pk_e (X := lgO kA o f2 :: W2) (W := M2)) (nd_rg _ _) (pk_0 (W := lgO kA o f2 :: W2) (Y := M2)) (nd_rg _ _) pk_d2 hfr3 hlo3 hc hs (Nat.le_of_ble_eq_true rfl) (fun r3 w3 hw3 => ?_)
  obtain ⟨er3, ew3⟩ := hw3
  rw [er3, ew3]
  refine ax_iload (pc := 619) C d_Law_law_619 1 rfl ?_
  refine ax_icmp_eq (pc := 621) C 626 d_Law_law_621 (by decide) (fun _ => ?_) (fun h => absurd rfl h)
  refine ax_iload (pc := 626) C d_Law_law_626 1 rfl ?_
  refine ax_if_ne (pc := 628) C 643 d_Law_law_628 (by decide) (fun hk1 => ?_) (fun hk0 => ?_)
  · refine ax_goto (pc := 643) C 1012 d_Law_law_643 (by decide) ?_
    refine ax_ls ([(4, .int (Int32.ofNat i)), (3, .ref o), (2, .ref z), (1, .ref x), (0, .ref b)]) [2, 3, 4, 5, 6] rfl ?_
    exact kk f2 W2 M2 hP hM2
  refine ax_aload_n (pc := 631) C d_Law_law_631 rfl 3 rfl ?_
  refine ax_iconst (pc := 632) C 0 d_Law_law_632 (by decide +kernel) ?_
  refine ax_lald (pc := 633) C 0 rfl d_Law_law_633 (by unfold vp_in; decide) ?_
  refine ax_nrmL (Int32.toInt64 rb) (hk hk0 f2 W2 hP) ?_
  refine ax_iload (pc := 634) C d_Law_law_634 0 rfl ?_
  refine ax_i2l (pc := 636) C (Int32.toInt64 rb) d_Law_law_636 rfl ?_
  refine ax_lcmp (pc := 637) C d_Law_law_637 ?_
  refine ax_nrm 0 (lg_0 _) ?_
  refine ax_if_eq (pc := 638) C 643 d_Law_law_638 (by decide) (fun _ => ?_) (fun h => absurd rfl h)
  refine ax_goto (pc := 643) C 1012 d_Law_law_643 (by decide) ?_
  refine ax_ls ([(4, .int (Int32.ofNat i)), (3, .ref o), (2, .ref z), (1, .ref x), (0, .ref b)]) [2, 3, 4, 5, 6] rfl ?_
  exact kk f2 W2 M2 hP hM2
theorem mm_rst {kA : Nat → ClassId} {z : Nat} {v : Nat → Nat} {τ : zS} : mmW kA z v (cv (rst τ)) = mmW kA z v (cv τ) := rfl
theorem thr_T {l : Launch} {D : va_G} {kA : Nat → ClassId} {z : Nat} {v : Nat → Nat} {κ : zS} {k : Int} (zκ : zOK κ) (h4 : κ.1 4 = k) : ax_Mi l D kA y_MM_thrown b_MM_thrown 1 .int 1 48 0 0 [.ref z] (mmW kA z v (cv κ)) (fun r w1 => r = i32 k ∧ w1 = mmW kA z v (cv κ)) := by
  obtain ⟨_, _, d3, hd3, ht⟩ := zE_sound l D kA z v zκ (fun x hx => by cases hx) (show zE tM_thrown 0 κ [] = some (κ, κ.1 4) by rw [zq_thrown, kZ_thrown])
  have d30 : d3 = 0 := by omega
  subst d30
  have hT := (show sM_thrown l D kA z v (cv κ) [] (cv κ, i32 (κ.1 4), 0) from ht) rfl
  rw [h4] at hT
  exact hT
set_option maxHeartbeats 4000000 in
theorem st_show : stSh := by
  intro p e s m below meth c l D kA b L xs o z u C hX adK adV hSX hXb hbl hbA htr hL i f σ ρ w v tx cells slots hi hI kk
  obtain ⟨qo, ⟨n, hTL, hn⟩, zs, zρ, h3, hc, hs⟩ := hI
  have zρ' := zOK_rst zρ
  rcases psh_ok hTL (β := 200) (γ := 1646) (by omega) (by omega) (x := (xs (i + 1)).toInt) with ⟨y1, z1, tl⟩ | ⟨τ, κ, r, y1, z1, k4, mg, ⟨v1, v2⟩, tl⟩
  · obtain ⟨_, _, d, hd, hC, _, _⟩ := yE_sound zs (fun x hx => by rw [List.mem_singleton.mp hx]; exact zr_to _) y1
    have hh : sC_Sto_has l D kA u w tx (cv σ) [i32 (xs (i + 1)).toInt] (cv σ, i32 0, d) := hC l D kA u w tx
    rw [to_i32] at hh
    have hX2 := c_showX l htr D kA u w tx (cv σ) (xs (i + 1)) (d := d) hh
    obtain ⟨zκ, _, _, d2, hd2, hm⟩ := sE_sound l D kA z zρ' (fun x hx => by rw [List.mem_singleton.mp hx]; exact zr_to _) z1
    have hM := (show sS_show l D kA z (cv (rst ρ)) [i32 (xs (i + 1)).toInt] (cv (zI (rst ρ) 4 1), i32 0, d2) from hm) _ rfl v
    rw [to_i32] at hM
    dsimp only at hM
    have hN : LI (i + 6) σ (zI (rst ρ) 4 1) (cells + 1 + ((cv (zI (rst ρ) 4 1)).2.2 3001 - (cv (rst ρ)).2.2 3001)) (slots + 6 + ((cv (zI (rst ρ) 4 1)).2.2 3002 - (cv (rst ρ)).2.2 3002)) := by
      have e1 : (cv (zI (rst ρ) 4 1)).2.2 3001 - (cv (rst ρ)).2.2 3001 = 0 := Nat.sub_self _
      have e2 : (cv (zI (rst ρ) 4 1)).2.2 3002 - (cv (rst ρ)).2.2 3002 = 0 := Nat.sub_self _
      rw [e1, e2]
      exact ⟨qo, ⟨n, tl, by omega⟩, zs, zκ, h3, by omega, by omega⟩
    obtain ⟨rm1, rm2⟩ := hN.rm (by omega) rl_cap
    have hW := wr_show_xY (adK := adK) (adV := adV) (o := o) (f := f) (PW := fun f2 W2 => ((1 : Int32) = 0 → f2 (Int32.toNatClampNeg 0) = Int32.toInt64 (i32 0)) ∧ ∃ w2 tx2, W2 = cpW kA u w2 tx2 (cv σ)) rfl hX2 (fun w1 hw => ⟨fun z => absurd z (by decide), w, tx, hw⟩)
    refine lk_showY (fs := []) C hX hSX hXb hbl hbA hi hL (k := 1) (rb := i32 0) (PW := fun f2 W2 => ((1 : Int32) = 0 → f2 (Int32.toNatClampNeg 0) = Int32.toInt64 (i32 0)) ∧ ∃ w2 tx2, W2 = cpW kA u w2 tx2 (cv σ)) (PM := fun w1 => ∃ v2 : Nat → Nat, (∀ i, i ≠ 1 → v2 i = v i) ∧ w1 = mmW kA z v2 (cv (zI (rst ρ) 4 1))) hW (show _ ≤ 2048 by omega) (show _ ≤ 84000 by omega) rfl hM (show _ ≤ 2048 by omega) (show _ ≤ 84000 by omega) (fun M2 h => by obtain ⟨v2, _, e⟩ := h; subst e; exact ⟨_, rfl⟩) (fun M2 h => by obtain ⟨v2, _, e⟩ := h; subst e; exact thr_T zκ zI_1) (fun z => absurd z (by decide)) (by decide) (by decide) rm1 rm2 (fun f2 W2 M2 hP hPM => ?_)
    obtain ⟨_, w2, tx2, eW⟩ := hP
    obtain ⟨v2, _, eM⟩ := hPM
    rw [eW, eM]
    exact kk f2 σ (zI (rst ρ) 4 1) w2 v2 tx2 _ _ hN
  · obtain ⟨zτ, _, _, d, hd, hp⟩ := jE_sound l D kA adK adV u zs (fun x hx => by rw [List.mem_singleton.mp hx]; exact zr_to _) y1
    have hY := (show sH_CP_show l D kA adK adV u (cv σ) [i32 (xs (i + 1)).toInt] (cv τ, i32 r, d) from hp) _ rfl w tx
    rw [to_i32] at hY
    dsimp only at hY
    obtain ⟨zκ, _, _, d2, hd2, hm⟩ := sE_sound l D kA z zρ' (fun x hx => by rw [List.mem_singleton.mp hx]; exact zr_to _) z1
    have hM := (show sS_show l D kA z (cv (rst ρ)) [i32 (xs (i + 1)).toInt] (cv κ, i32 r, d2) from hm) _ rfl v
    rw [to_i32] at hM
    dsimp only at hM
    have hN : LI (i + 6) (rst τ) (rst κ) (cells + ((cv τ).2.2 3001 - (cv σ).2.2 3001) + ((cv κ).2.2 3001 - (cv (rst ρ)).2.2 3001)) (slots + ((cv τ).2.2 3002 - (cv σ).2.2 3002) + ((cv κ).2.2 3002 - (cv (rst ρ)).2.2 3002)) := by
      refine ⟨κ.2.2 1, ⟨n, tl.r, by omega⟩, zOK_rst zτ, zOK_rst zκ, ⟨by simp [rst], by simp [rst], by simp [rst]⟩, ?_, ?_⟩
      · rw [rl_rst]
        show 17 * (cells + (τ.2.2 3001 - σ.2.2 3001) + (κ.2.2 3001 - (rst ρ).2.2 3001)) ≤ _
        rw [rst_0.1]
        have := mg.2
        omega
      · rw [rl_rst]
        show slots + (τ.2.2 3002 - σ.2.2 3002) + (κ.2.2 3002 - (rst ρ).2.2 3002) ≤ _
        rw [rst_0.2]
        have := mg.1
        omega
    obtain ⟨rm1, rm2⟩ := hN.rm (by omega) rl_cap
    have hW := wr_show_nY (adK := adK) (adV := adV) (o := o) (f := f) (PW := fun f2 W2 => ((0 : Int32) = 0 → f2 (Int32.toNatClampNeg 0) = Int32.toInt64 (i32 r)) ∧ ∃ w2 tx2, W2 = cpW kA u w2 tx2 (cv τ)) rfl hY (fun r0 w1 hw => by obtain ⟨er, w2, tx2, _, _, ew⟩ := hw; exact ⟨fun _ => by rw [er, upd_0], w2, tx2, ew⟩)
    refine lk_showY (fs := []) C hX hSX hXb hbl hbA hi hL (k := 0) (rb := i32 r) (PW := fun f2 W2 => ((0 : Int32) = 0 → f2 (Int32.toNatClampNeg 0) = Int32.toInt64 (i32 r)) ∧ ∃ w2 tx2, W2 = cpW kA u w2 tx2 (cv τ)) (PM := fun w1 => ∃ v2 : Nat → Nat, (∀ i, i ≠ 1 → v2 i = v i) ∧ w1 = mmW kA z v2 (cv κ)) hW (show _ ≤ 2048 by omega) (show _ ≤ 84000 by omega) rfl hM (show _ ≤ 2048 by omega) (show _ ≤ 84000 by omega) (fun M2 h => by obtain ⟨v2, _, e⟩ := h; subst e; exact ⟨_, rfl⟩) (fun M2 h => by obtain ⟨v2, _, e⟩ := h; subst e; exact thr_T zκ k4) (fun _ f2 W2 hP => hP.1 rfl) (by decide) (by decide) rm1 rm2 (fun f2 W2 M2 hP hPM => ?_)
    obtain ⟨_, w2, tx2, eW⟩ := hP
    obtain ⟨v2, _, eM⟩ := hPM
    rw [eW, eM, ← cp_rst, ← mm_rst]
    exact kk f2 (rst τ) (rst κ) w2 v2 tx2 _ _ hN
