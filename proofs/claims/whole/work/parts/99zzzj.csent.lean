/-! a SENTENCE in the class -/
theorem push_ok {β : Nat} (hβ : 1 ≤ β) {σ : zS} {S : List (Int × Int)} {k b : Int} (h1 : RowC σ 3301 34 (sgR S)) (h2 : RowC σ 3501 36 (bdR S)) (hM : Mb σ ∧ RL σ) (hc : capq σ) (hl : S.length ≤ 20000) (hk : sgk k) (hd : σ.1 3108 = dpS S) (hd6 : dpS S ≤ 61) : ∃ τ, yE tG_Par_push β σ [cK k, b] = some (τ, 0) ∧ RowC τ 3301 34 (sgR ((k, b) :: S)) ∧ RowC τ 3501 36 (bdR ((k, b) :: S)) ∧ τ.1 3108 = dpS ((k, b) :: S) ∧ (Mb τ ∧ RL τ) ∧ capq τ ∧ FrC [3108, 3301, 3501] [34, 36] σ τ := by
  have l1 := sgR_len (S := S)
  have l2 := bdR_len (S := S)
  have hn := nsS_01 (k := k)
  have hd0 := dpS_0 (S := S)
  obtain ⟨a1, a2, a3, a4, a5, a6⟩ := radd (x := cK k) (B := 100000) h1 hM.1 hM.2 (by omega) hc.2.1.2 (by omega)
  obtain ⟨b1, b2, b3, b4, b5, b6⟩ := radd (x := b) (B := 100000) (h2.f a3) a4 a5 (by omega) (by rw [a3.l 36]; exact hc.2.2.1.2) (by omega)
  have f2 : FrC [3301, 3501] [34, 36] σ (zAdd (zAdd σ 3301 34 (cK k)) 3501 36 b) := (FrC.w a3).trans (FrC.w b3)
  obtain ⟨σ2, hs2⟩ : ∃ s, s = zAdd (zAdd σ 3301 34 (cK k)) 3501 36 b := ⟨_, rfl⟩
  rw [← hs2] at b2 b3 b4 b5 b6 f2
  have fI : FrC [3108] [] σ2 (zI σ2 3108 (dpS S + nsS k)) := FrC_I
  refine ⟨zI σ2 3108 (dpS S + nsS k), ?_, ?_, ?_, ?_, ⟨b4.m fI.2.2.2, b5⟩, ?_, (FrC.w f2).trans (FrC.w fI)⟩
  · have e33 : ∀ y, y = nsS k → yE tG_Par_push_p33 β σ2 [cK k, b, y, σ2.1 3108] = some (zI σ2 3108 (dpS S + nsS k), 0) := fun y hy => by
      rw [yq_Par_push_p33, kY_Par_push_p33, f2.i 3108, hd, hy, if_pos ⟨by omega, by omega⟩, lt_e]
    rw [yq_Par_push, kY_Par_push, if_pos a1, lt_e, if_pos b1, lt_e, if_pos hβ, ← hs2, zbd_of (nest_c hk)]
    by_cases c : nsS k = 0
    · rw [if_pos c, e33 0 c.symm]
    · rw [if_neg c, e33 1 (by omega)]
  · rw [sgR_c]; exact (a2.f b3).f fI
  · rw [bdR_c]; exact b2.f fI
  · rw [zI_1]; show dpS S + nsS k = nsS k + dpS S; omega
  · unfold capq
    show (16 ≤ σ2.2.2 19 ∧ σ2.2.2 19 ≤ 430000) ∧ (16 ≤ σ2.2.2 34 ∧ σ2.2.2 34 ≤ 100000) ∧ (16 ≤ σ2.2.2 36 ∧ σ2.2.2 36 ≤ 100000) ∧ (16 ≤ σ2.2.2 38 ∧ σ2.2.2 38 ≤ 100000)
    have q34 := (a2.f b3).2.2.1
    refine ⟨by rw [f2.l 19]; exact hc.1, ⟨q34, ?_⟩, ⟨b2.2.2.1, b6⟩, by rw [f2.l 38]; exact hc.2.2.2⟩
    rw [b3.l 34]; exact a6
/-- a sign is pushed, then the next WORD -/
theorem pushA {X Y : Int → Int} {n : Int} (hC : CTX X Y n) {SS : List Int} {pl pv : Int} {F0 : List Int} {L : List SE} {β : Nat} (hβ : 2 ≤ β) {σ : zS} {S : List (Int × Int)} {P : List Tm} {st : PS} {TT : List Int} {NN : List N6} {k b : Int} (h : CMf X Y n SS pl pv F0 L σ (S, P, st) TT NN) (hk : sgk k) (hd : dpS S ≤ 60) (ht : tk X n st.1 ≠ 0) : ∃ ρ τ, yE tG_Par_push β σ [cK k, b] = some (ρ, 0) ∧ yE tC_Wds_advance β ρ [] = some (τ, 0) ∧ CMf X Y n SS pl pv F0 L τ ((k, b) :: S, P, adv X n st) TT NN ∧ FrC [3108, 3202, 3203, 3204, 3205, 3206, 3207, 3301, 3501] [34, 36] σ τ := by
  obtain ⟨a, b1, ⟨c1, c2, c3, c4⟩, ⟨d1, d2⟩, e1, e2, e3⟩ := h
  have e1 : (NN.length : Int) + (S.length : Int) + (st.2.2.2.1.length : Int) ≤ st.1 := e1
  have hn1 : st.1 ≤ n := a.1.1.2.2.2.2.1
  have hn2 := a.1.1.2.2.2.2.2
  have d1 : σ.1 3108 = dpS S := d1
  obtain ⟨ρ, p1, p2, p3, p4, p5, p6, p7⟩ := push_ok (β := β) (S := S) (b := b) (by omega) c1 c2 a.2.2.2.2.1 c4 (by omega) hk d1 (by omega)
  have aρ := a.f p7 p5
  obtain ⟨τ, q1, q2, q3⟩ := aρ.adv hC hβ
  have ff : FrC [3108, 3202, 3203, 3204, 3205, 3206, 3207, 3301, 3501] [34, 36] σ τ := (FrC.w p7).trans (FrC.w q3)
  have hte := te_gt (T := X) ht hn1
  have htq := tq_ge (T := X) (n := n) (p := st.1)
  have hn := nsS_01 (k := k)
  refine ⟨ρ, τ, p1, q1, ⟨q2, b1.f ff, ⟨p2.f q3, p3.f q3, c3.f ff, p6.f q3⟩, ⟨by rw [q3.i 3108]; exact p4, by show nsS k + dpS S ≤ 61; omega⟩, ?_, fun v hv => by rw [ff.a 25]; exact e2 v hv, ?_⟩, ff⟩
  · show (NN.length : Int) + ((S.length + 1 : Nat) : Int) + (st.2.2.2.1.length : Int) ≤ te X n st.1
    omega
  · have := e3.m0 (kV.f (b := st.2.2.1.length) ff) []
    rw [List.append_nil] at this
    exact this
/-- a bound VARIABLE -/
theorem bind_ok {X Y : Int → Int} {n : Int} (hC : CTX X Y n) {SS : List Int} {pl pv : Int} {F0 : List Int} {β : Nat} (hβ : 1 ≤ β) {σ : zS} {st : PS} {TT : List Int} (h : CPr X Y n SS pl pv F0 σ st TT) (hk : tk X n st.1 = 1) :
    (st.2.2.1.length = 300 → yE tC_For_bind β σ [] = some (σ, -1)) ∧
    (st.2.2.1.length ≠ 300 → ∃ τ, yE tC_For_bind β σ [] = some (τ, (st.2.2.1.length : Int)) ∧ CPr X Y n SS pl pv F0 τ (st.1, st.2.1, st.2.2.1 ++ [(tq X n st.1, te X n st.1 - tq X n st.1)], (st.2.2.1.length : Int) :: st.2.2.2.1, st.2.2.2.2) TT ∧ FrC [1402, 1403] [17, 22, 23, 24, 25] σ τ ∧ kV st.2.2.1.length σ τ ∧ τ.2.1 25 (st.2.2.1.length : Int) = (SS.length : Int)) := by
  obtain ⟨h1, h2, ⟨h3, h4, h5⟩, h6, ⟨h7, h7'⟩, h8, h9, h10, h11⟩ := id h
  have hb300 := h3.2.1
  constructor
  · intro hb
    have ea : yE tC_For_addVariable (β - 1) σ [] = some (σ, -1) := by rw [yq_For_addVariable, kY_For_addVariable, h3.1, if_pos (by omega)]
    rw [yq_For_bind, kY_For_bind, if_pos hβ, zbd_of ea, if_pos rfl, yq_For_bind_p55, kY_For_bind_p55]
  · intro hb
    obtain ⟨b, hbe⟩ : ∃ b, b = st.2.2.1.length := ⟨_, rfl⟩
    have h25 := h3.1
    rw [← hbe] at hb h25 hb300
    have hsz : σ.1 2001 = (SS.length : Int) + 5 := by rw [h5.1.1.1.1]; simp
    have hss := h5.1.1.2.2
    have ea := addv_e (β := β - 1) (σ := σ) (b := b) h25 (by omega) ⟨by omega, by omega⟩
    rw [h1.2.2.1, h1.2.2.2.1, hsz, show (SS.length : Int) + 5 - 5 = (SS.length : Int) by omega] at ea
    obtain ⟨q0, q1, q2⟩ := tqe (X := X) h1.1.2.2.2.1 h1.1.2.2.2.2.1
    obtain ⟨σ1, hs1⟩ : ∃ s, s = zI (zA (zA (zA σ 22 b (tq X n st.1)) 23 b (te X n st.1 - tq X n st.1)) 25 b (SS.length : Int)) 1402 ((b : Int) + 1) := ⟨_, rfl⟩
    rw [← hs1] at ea
    have j1403 : (zA σ1 17 (b : Int) (σ1.1 1403)).1 1403 = σ.1 1403 := by rw [hs1]; simp [zA, zI]
    have j1403' : σ1.1 1403 = σ.1 1403 := by rw [hs1]; simp [zA, zI]
    have hb3 : zb (b : Int) 300 := ⟨by omega, by omega⟩
    obtain ⟨τ, hτ⟩ : ∃ t, t = zI (zA (zA σ1 17 (b : Int) (σ.1 1403)) 24 (b : Int) (st.2.2.2.1.length : Int)) 1403 (b : Int) := ⟨_, rfl⟩
    have e49 : yE tC_For_bind_p49 β (zA σ1 17 (b : Int) (σ.1 1403)) [(b : Int), (st.2.2.2.1.length : Int), (b : Int)] = some (τ, (b : Int)) := by
      rw [yq_For_bind_p49, kY_For_bind_p49, if_pos hb3, lt_e, lt_e, yq_For_bind_p55, kY_For_bind_p55, hτ]
    have erun : yE tC_For_bind β σ [] = some (τ, (b : Int)) := by
      rw [yq_For_bind, kY_For_bind, if_pos hβ, zbd_of ea, if_neg (by omega), if_pos hb3, lt_e, j1403, j1403']
      cases hsc : st.2.2.2.1 with
      | nil =>
        rw [hsc] at h4 e49
        have h4 : σ.1 1403 = -1 := h4
        rw [h4] at e49 ⊢
        rw [if_pos rfl]
        exact e49
      | cons u L =>
        rw [hsc] at h4 e49
        obtain ⟨g1, g2, g3, g4, g5⟩ := h4
        have hub : u < (b : Int) := by rw [hbe]; exact (h6.1 u (Or.inl (by rw [hsc]; exact List.mem_cons_self))).2
        have hlL : L.length < 300 := by
          have := h6.2
          rw [hsc] at this
          simp only [List.length_cons] at this
          omega
        have k24 : (zA σ1 17 (b : Int) u).2.1 24 u = (L.length : Int) := by
          rw [← g4, hs1]; simp [zA, zI]
        rw [g1] at e49 ⊢
        rw [if_neg (by omega), if_pos ⟨g2, by show u < ((300 : Nat) : Int); omega⟩, k24, if_pos ⟨by omega, by omega⟩]
        rw [show ((u :: L).length : Int) = (L.length : Int) + 1 by simp] at e49
        exact e49
    have fr : FrC [1402, 1403] [17, 22, 23, 24, 25] σ τ := by
      rw [hτ, hs1]
      refine FrC.trans ?_ FrC_I
      refine FrC.trans ?_ FrC_A
      refine FrC.trans ?_ FrC_A
      refine FrC.trans ?_ FrC_I
      refine FrC.trans ?_ FrC_A
      refine FrC.trans ?_ FrC_A
      exact FrC_A
    have tl : τ.2.2 = σ.2.2 := by rw [hτ, hs1]; rfl
    have t22 : τ.2.1 22 = (zA σ 22 b (tq X n st.1)).2.1 22 := by funext i; simp [hτ, hs1, zA, zI]
    have t23 : τ.2.1 23 = (zA σ 23 b (te X n st.1 - tq X n st.1)).2.1 23 := by funext i; simp [hτ, hs1, zA, zI]
    have t17 : τ.2.1 17 = (zA σ 17 b (σ.1 1403)).2.1 17 := by funext i; simp [hτ, hs1, zA, zI]
    have t24 : τ.2.1 24 = (zA σ 24 b (st.2.2.2.1.length : Int)).2.1 24 := by funext i; simp [hτ, hs1, zA, zI]
    have t25 : τ.2.1 25 = (zA σ 25 b (SS.length : Int)).2.1 25 := by funext i; simp [hτ, hs1, zA, zI]
    have t1402 : τ.1 1402 = (b : Int) + 1 := by simp [hτ, hs1, zA, zI]
    have t1403 : τ.1 1403 = (b : Int) := by simp [hτ, zI]
    have low : kV b σ τ := fun v hv => by
      rw [t17, t24, t25, zA_q (by omega), zA_q (by omega), zA_q (by omega)]; exact ⟨rfl, rfl, rfl⟩
    have hlen : (st.2.2.1 ++ [(tq X n st.1, te X n st.1 - tq X n st.1)]).length = b + 1 := by rw [List.length_append, hbe]; rfl
    rw [← hbe]
    refine ⟨τ, erun, ⟨h1.f fr, h2.f fr, ⟨?_, ?_, ?_⟩, ⟨fun v hv => ?_, ?_⟩, ⟨h7.m fr.2.2.2, fun j hj => by rw [tl]; exact h7' j hj⟩, by rw [fr.i 3100]; exact h8, h9.f fr, by rw [fr.l 16]; exact h10, h11⟩, fr, low, by rw [t25, zA_s]⟩
    · subst hbe
      exact h3.add (by omega) t1402 t22 t23 q0 (by omega) (by omega) (fun i i1 i2 => (hC.w h1.1.2.2.2.1 h1.1.2.2.2.2.1 (Or.inr hk) i1 (by omega)).1)
    · show chn τ ((b : Int) :: st.2.2.2.1) (τ.1 1403)
      refine ⟨t1403, by omega, by omega, by rw [t24, zA_s], ?_⟩
      rw [t17, zA_s]
      exact h4.q (fun v hv => ⟨(low v (by rw [hbe]; exact (h6.1 v (Or.inl hv)).2)).1, (low v (by rw [hbe]; exact (h6.1 v (Or.inl hv)).2)).2.1⟩)
    · show CFr τ (st.2.2.1 ++ [_]).length SS pl pv F0 st.2.2.2.2
      rw [hlen]
      obtain ⟨⟨⟨g1, g2, g3⟩, g4, g5, g6⟩, g7⟩ := h5
      rw [← hbe] at g5 g6
      refine ⟨⟨⟨g1.f fr, by rw [tl]; exact g2, g3⟩, by rw [fr.i 1414]; exact g4, by omega, fun i v hv => ?_⟩, fun i v hv => by rw [fr.a 28]; exact g7 i v hv⟩
      obtain ⟨w1, w2, w3, w4, w5, w6⟩ := g6 i v hv
      obtain ⟨x1, x2, x3⟩ := low v w3
      exact ⟨by rw [fr.a 28]; exact w1, w2, by omega, by rw [x1]; exact w4, by rw [x2]; exact w5, by rw [x3]; exact w6⟩
    · show 0 ≤ v ∧ v < ((st.2.2.1 ++ [_]).length : Int)
      rw [hlen]
      rcases hv with hv | hv
      · rcases List.mem_cons.mp hv with hv | hv
        · omega
        · have := h6.1 v (Or.inl hv); omega
      · have := h6.1 v (Or.inr hv); omega
    · show (_ :: st.2.2.2.1).length ≤ (st.2.2.1 ++ [_]).length
      rw [hlen]
      have := h6.2
      simp only [List.length_cons]
      omega
theorem cK_58 {k : Int} : cK k = 8 ↔ k = 58 := ⟨fun h => by unfold cK at h; omega, fun h => by rw [h]; rfl⟩
/-- the VARIABLES behind ! or ? -/
theorem tb_25 {X Y : Int → Int} {n : Int} (hC : CTX X Y n) {SS : List Int} {pl pv : Int} {F0 : List Int} {β : Nat} (hβ : 4 ≤ β) {k first : Int} {TT : List Int} : ∀ (m : Nat) (j : Nat) (σ : zS) (st : PS) (r : (Int × Int) ⊕ PS), bdsS X n m st = some r → CPr X Y n SS pl pv F0 σ st TT → (j : Int) ≤ st.1 →
    (∀ e, r = .inl e → ∃ τ, yE tG_Par_takeBound_p25 β σ [k, first, (j : Int)] = some (τ, 0) ∧ τ.1 3100 = e.1 ∧ τ.1 3101 = e.2 ∧ e.1 ≠ 0 ∧ FrC [1402, 1403, 3100, 3101, 3202, 3203, 3204, 3205, 3206, 3207] [17, 22, 23, 24, 25] σ τ ∧ (Mb τ ∧ RL τ)) ∧
    (∀ s, r = .inr s → ∃ τ x, yE tG_Par_takeBound_p25 β σ [k, first, (j : Int)] = yE tG_Par_takeBound_p83 β τ [k, first, x] ∧ CPr X Y n SS pl pv F0 τ s TT ∧ FrC [1402, 1403, 3202, 3203, 3204, 3205, 3206, 3207] [17, 22, 23, 24, 25] σ τ ∧ kV st.2.2.1.length σ τ ∧ (∀ v : Int, (st.2.2.1.length : Int) ≤ v → v < (s.2.2.1.length : Int) → τ.2.1 25 v = (SS.length : Int)) ∧ st.1 + (s.2.2.1.length : Int) ≤ s.1 + (st.2.2.1.length : Int))
  | 0, j, σ, st, r, hr, _, _ => by cases hr
  | m + 1, j, σ, st, r, hr, h, hj => by
    have hp := h.1.1
    unfold bdsS at hr
    by_cases c1 : tk X n st.1 = 1
    · rw [if_pos c1] at hr
      obtain ⟨b1, b2⟩ := bind_ok hC (β := β - 1) (by omega) h c1
      have e0 : yE tG_Par_takeBound_p25 β σ [k, first, (j : Int)] = zbd (yE tC_For_bind (β - 1) σ []) (fun σ2 r2 => if r2 = (-1) then (zbd (yE tC_Par_fail (β - 1) σ2 [3, (σ2.1 3203)]) (fun σ4 _ => some (σ4, 0))) else (zbd (yE tC_Wds_advance (β - 1) σ2 []) (fun σ3 _ => yE tG_Par_takeBound_p25 β σ3 [k, first, ((j + 1 : Nat) : Int)]))) := by
        rw [yq_Par_takeBound_p25, kY_Par_takeBound_p25, if_neg (by omega), if_pos (by omega), zbd_of (isNow_ok h.1), b2_t (cK_1.mpr c1), if_neg (by decide), if_pos (by omega)]
        refine congrArg (zbd _) ?_
        funext σ2 r2
        by_cases hr2 : r2 = -1
        · rw [if_pos hr2, if_pos hr2, if_pos (by omega)]
        · rw [if_neg hr2, if_neg hr2, if_pos (by omega)]
          refine congrArg (zbd _) ?_
          funext σ3 r3
          rw [if_pos ⟨by omega, by omega⟩]
          rfl
      rw [e0]
      unfold bndS at hr
      by_cases hb : st.2.2.1.length = 300
      · rw [if_pos hb] at hr
        cases hr
        obtain ⟨τ, f1, f2⟩ := fail_ok (β := β - 1) h (k := 3) (q := tq X n st.1) (by decide)
        refine ⟨fun e he => ?_, fun s hs => (by cases hs)⟩
        cases he
        have ef : τ = zI (zI σ 3100 3) 3101 (tq X n st.1) := by
          rw [yq_Par_fail, kY_Par_fail, lt_e, lt_e] at f1
          exact (congrArg Prod.fst (Option.some.inj f1)).symm
        refine ⟨τ, by rw [zbd_of (b1 hb), if_pos rfl, h.1.2.2.1, zbd_of f1], f2.1, f2.2.1, (show (3 : Int) ≠ 0 by decide), ?_, f2.2.2.2.2.1⟩
        rw [ef]
        exact FrC.trans FrC_I FrC_I
      · rw [if_neg hb] at hr
        obtain ⟨σ1, t1, t2, t3, t4, t5⟩ := b2 hb
        obtain ⟨σ2, u1, u2, u3⟩ := t2.adv hC (β := β - 1) (by omega)
        have hr : bdsS X n m (adv X n (st.1, st.2.1, st.2.2.1 ++ [(tq X n st.1, te X n st.1 - tq X n st.1)], (st.2.2.1.length : Int) :: st.2.2.2.1, st.2.2.2.2)) = some r := hr
        have hte := te_gt (T := X) (by omega : tk X n st.1 ≠ 0) hp.2.2.2.2.1
        have htq := tq_ge (T := X) (n := n) (p := st.1)
        have hlen : (st.2.2.1 ++ [(tq X n st.1, te X n st.1 - tq X n st.1)]).length = st.2.2.1.length + 1 := by rw [List.length_append]; rfl
        obtain ⟨i1, i2⟩ := tb_25 hC hβ (k := k) (first := first) m (j + 1) σ2 _ r hr u2 (by show ((j + 1 : Nat) : Int) ≤ te X n st.1; omega)
        rw [zbd_of t1, if_neg (by omega), zbd_of u1]
        refine ⟨fun e he => ?_, fun s hs => ?_⟩
        · obtain ⟨τ, v1, v2, v3, v4, v5, v6⟩ := i1 e he
          exact ⟨τ, v1, v2, v3, v4, ((FrC.w t3).trans (FrC.w u3)).trans v5, v6⟩
        · obtain ⟨τ, x, v1, v2, v3, v4, v5, v6⟩ := i2 s hs
          have v4 : kV (st.2.2.1 ++ [(tq X n st.1, te X n st.1 - tq X n st.1)]).length σ2 τ := v4
          have v5 : ∀ v : Int, ((st.2.2.1 ++ [(tq X n st.1, te X n st.1 - tq X n st.1)]).length : Int) ≤ v → v < (s.2.2.1.length : Int) → τ.2.1 25 v = (SS.length : Int) := v5
          have v6 : te X n st.1 + (s.2.2.1.length : Int) ≤ s.1 + ((st.2.2.1 ++ [(tq X n st.1, te X n st.1 - tq X n st.1)]).length : Int) := v6
          rw [hlen] at v4 v5 v6
          refine ⟨τ, x, v1, v2, ((FrC.w t3).trans (FrC.w u3)).trans v3, (t4.tr (kV.f u3) (Nat.le_refl _)).tr v4 (by omega), fun v w1 w2 => ?_, by omega⟩
          by_cases hv : v = (st.2.2.1.length : Int)
          · rw [hv, (v4 _ (by omega)).2.2, u3.a 25]
            exact t5
          · exact v5 v (by omega) w2
    · rw [if_neg c1] at hr
      cases hr
      refine ⟨fun e he => (by cases he), fun s hs => ?_⟩
      cases hs
      refine ⟨σ, (j : Int), ?_, h, FrC.refl, kV.rf, fun v w1 w2 => by omega, by omega⟩
      rw [yq_Par_takeBound_p25, kY_Par_takeBound_p25, if_neg (by omega), if_pos (by omega), zbd_of (isNow_ok h.1), b2_f (fun hc => c1 (cK_1.mp hc)), if_pos rfl]
theorem CFr.cap {σ : zS} {b : Nat} {SS : List Int} {pl pv : Int} {F0 fr : List Int} (h : CFr σ b SS pl pv F0 fr) : 16 ≤ σ.2.2 21 ∧ σ.2.2 21 ≤ 210000 := ⟨h.1.1.1.2.2.1, h.1.1.2.1⟩
/-- ! or ? and their VARIABLES -/
theorem tbound_ok {X Y : Int → Int} {n : Int} (hC : CTX X Y n) {SS : List Int} {pl pv : Int} {F0 : List Int} {L : List SE} {B0 : Nat} {β : Nat} (hβ : 5 ≤ β) {σ : zS} {S : List (Int × Int)} {P : List Tm} {st : PS} {TT : List Int} {NN : List N6} (h : CMt X Y n SS pl pv F0 L B0 σ (S, P, st) TT NN) (hd : dpS S ≤ 60) (hk : tk X n st.1 = 33 ∨ tk X n st.1 = 63) {m : Nat} {α : Type} {f : PS → PR α} {r : (Int × Int) ⊕ α} (hr : pb (bdsS X n m (adv X n st)) (fun s1 => if s1.2.2.1.length = st.2.2.1.length ∨ tk X n s1.1 ≠ 58 then pNo 1 (tq X n s1.1) else f s1) = some r) :
    (∃ e τ, r = .inl e ∧ yE tG_Par_takeBound β σ [] = some (τ, 0) ∧ CFb σ τ e.1 e.2) ∨
    (∃ s1 τ, f s1 = some r ∧ yE tG_Par_takeBound β σ [] = some (τ, 0) ∧ CMt X Y n SS pl pv F0 L B0 τ ((tk X n st.1, (st.2.2.1.length : Int)) :: S, P, adv X n s1) TT NN ∧ FrC pIP pAP σ τ ∧ st.1 < te X n s1.1) := by
  obtain ⟨⟨a, b1, ⟨c1, c2, c3, c4⟩, ⟨d1, d2⟩, e1, e2, e3⟩, hSt⟩ := id h
  have hp := a.1.1
  have e1' : (NN.length : Int) + (S.length : Int) + (st.2.2.2.1.length : Int) ≤ st.1 := e1
  have hn1 : st.1 ≤ n := hp.2.2.2.2.1
  have hte := te_gt (T := X) (by omega : tk X n st.1 ≠ 0) hn1
  have htq := tq_ge (T := X) (n := n) (p := st.1)
  obtain ⟨σ1, p1, p2, p3⟩ := a.adv hC (β := β - 1) (by omega)
  have hbd : σ.1 1402 = (st.2.2.1.length : Int) := a.2.2.1.1.1
  have e0 : yE tG_Par_takeBound β σ [] = yE tG_Par_takeBound_p25 β σ1 [cK (tk X n st.1), (st.2.2.1.length : Int), ((0 : Nat) : Int)] := by
    have h32 : σ.1 3202 = cK (tk X n st.1) := a.1.2.1
    rw [yq_Par_takeBound, kY_Par_takeBound, if_pos (by omega), zbd_of p1, hbd, h32]
    rfl
  have capσ := a.cap
  rcases pb_r hr with ⟨k, q, o1, rfl⟩ | ⟨s, o1, o2⟩
  · obtain ⟨i1, _⟩ := tb_25 hC (β := β) (by omega) (k := cK (tk X n st.1)) (first := (st.2.2.1.length : Int)) m 0 σ1 _ _ o1 p2 (by show (0 : Int) ≤ te X n st.1; omega)
    obtain ⟨τ, v1, v2, v3, v4, v5, v6⟩ := i1 _ rfl
    refine Or.inl ⟨(k, q), τ, rfl, by rw [e0]; exact v1, v2, v3, v4, (FrC.w p3).trans (FrC.w v5), v6, (capσ.f p3).f v5, (c4.f p3).f v5⟩
  · obtain ⟨_, i2⟩ := tb_25 hC (β := β) (by omega) (k := cK (tk X n st.1)) (first := (st.2.2.1.length : Int)) m 0 σ1 _ _ o1 p2 (by show (0 : Int) ≤ te X n st.1; omega)
    obtain ⟨τ, x, v1, v2, v3, v4, v5, v6⟩ := i2 _ rfl
    have v4 : kV st.2.2.1.length σ1 τ := v4
    have v5 : ∀ v : Int, (st.2.2.1.length : Int) ≤ v → v < (s.2.2.1.length : Int) → τ.2.1 25 v = (SS.length : Int) := v5
    have v6 : te X n st.1 + (s.2.2.1.length : Int) ≤ s.1 + (st.2.2.1.length : Int) := v6
    obtain ⟨w1, w2, w3⟩ := bdsS_d m _ _ o1
    have w1 : st.2.2.1.length ≤ s.2.2.1.length := w1
    have w2 : s.2.2.2.1 = dsc st.2.2.1.length (s.2.2.1.length - st.2.2.1.length) ++ st.2.2.2.1 := w2
    have ff : FrC [1402, 1403, 3202, 3203, 3204, 3205, 3206, 3207] [17, 22, 23, 24, 25] σ τ := (FrC.w p3).trans v3
    have kk' : kV st.2.2.1.length σ τ := (kV.f p3).tr v4 (Nat.le_refl _)
    have h1402 : τ.1 1402 = (s.2.2.1.length : Int) := v2.2.2.1.1.1
    have hscb : ∀ v ∈ st.2.2.2.1, v < (st.2.2.1.length : Int) := fun v hv => (a.2.2.2.1.1 v (Or.inl hv)).2
    have refuse : (s.2.2.1.length = st.2.2.1.length ∨ tk X n s.1 ≠ 58) → ∃ ρ, yE tG_Par_takeBound_p83 β τ [cK (tk X n st.1), (st.2.2.1.length : Int), x] = some (ρ, 0) ∧ CFb σ ρ 1 (tq X n s.1) := fun hc => by
      obtain ⟨ρ, x1, x2⟩ := refuse_ok (β := β - 1) (by omega) v2
      have e106 : yE tG_Par_takeBound_p106 β τ [cK (tk X n st.1), (st.2.2.1.length : Int), x] = some (ρ, 0) := by
        rw [yq_Par_takeBound_p106, kY_Par_takeBound_p106, if_pos (by omega), zbd_of x1]
      refine ⟨ρ, ?_, (x2.b (c4.f ff)).pre ff.w⟩
      rw [yq_Par_takeBound_p83, kY_Par_takeBound_p83, h1402]
      by_cases hb : s.2.2.1.length = st.2.2.1.length
      · rw [if_pos (by omega), e106]
      · rw [if_neg (by omega), if_pos (by omega), zbd_of (isNow_ok v2.1), b2_f (fun h => by have := cK_58.mp h; omega), if_pos rfl, e106]
    by_cases hc : s.2.2.1.length = st.2.2.1.length ∨ tk X n s.1 ≠ 58
    · rw [if_pos hc] at o2
      cases o2
      obtain ⟨ρ, x1, x2⟩ := refuse hc
      exact Or.inl ⟨(1, tq X n s.1), ρ, rfl, by rw [e0, v1]; exact x1, x2⟩
    · rw [if_neg hc] at o2
      have h58 : tk X n s.1 = 58 := by omega
      have hbl : s.2.2.1.length ≠ st.2.2.1.length := by omega
      have hscl : s.2.2.2.1.length = (s.2.2.1.length - st.2.2.1.length) + st.2.2.2.1.length := by
        have dl : ∀ (f j : Nat), (dsc f j).length = j := fun f j => by
          induction j with
          | zero => rfl
          | succ j ih => show (dsc f j).length + 1 = j + 1; rw [ih]
        rw [w2, List.length_append, dl]
      have hmf : CMf X Y n SS pl pv F0 L τ (S, P, s) TT NN := by
        refine ⟨v2, b1.f ff, ⟨c1.f ff, c2.f ff, c3.f ff, c4.f ff⟩, ⟨by rw [ff.i 3108]; exact d1, d2⟩, ?_, fun v hv => ?_, ?_⟩
        · show (NN.length : Int) + (S.length : Int) + (s.2.2.2.1.length : Int) ≤ s.1
          rw [hscl]; omega
        · have hv : v ∈ s.2.2.2.1 := hv
          rw [w2] at hv
          rcases List.mem_append.mp hv with hv | hv
          · have := dsc_m hv
            exact v5 v (by omega) (by omega)
          · rw [(kk' v (hscb v hv)).2.2]
            exact e2 v hv
        · have := e3.m kk' w1 [] []
          rw [List.append_nil, List.append_nil] at this
          exact this
      obtain ⟨ρ, τ2, q1, q2, q3, q4⟩ := pushA hC (β := β - 1) (by omega) hmf (k := tk X n st.1) (b := (st.2.2.1.length : Int)) (by unfold sgk; omega) hd (by omega)
      refine Or.inr ⟨s, τ2, o2, ?_, ⟨q3, ?_⟩, (FrC.w ff).trans (FrC.w q4), ?_⟩
      · rw [e0, v1, yq_Par_takeBound_p83, kY_Par_takeBound_p83, h1402, if_neg (by omega), if_pos (by omega), zbd_of (isNow_ok v2.1), b2_t (cK_58.mpr h58), if_neg (by decide), if_pos (by omega), zbd_of q1, if_pos (by omega), zbd_of q2]
      · show CSt τ2 s.2.2.1.length NN TT (SS.length : Int) B0 ((tk X n st.1, (st.2.2.1.length : Int)) :: S) P s.2.2.2.1 NN.length
        unfold CSt
        rw [if_neg (by omega), if_pos hk]
        refine ⟨by omega, _, _, w2, fun v hv => (dsc_m hv).1, hscb, ?_⟩
        have kk2 : kV st.2.2.1.length σ τ2 := kk'.tr (kV.f q4) (Nat.le_refl _)
        have := hSt.m kk2 w1 [] [] hscb
        rw [List.append_nil, List.append_nil] at this
        exact this
      · have hs1 : s.1 ≤ n := v2.1.1.2.2.2.2.1
        have := te_gt (T := X) (by omega : tk X n s.1 ≠ 0) hs1
        have := tq_ge (T := X) (n := n) (p := s.1)
        omega
theorem atmS_pos {X : Int → Int} {n : Int} (hn : n ≤ 20000) {m : Nat} {d : Int} {st : PS} {a : PS × Tm} (hV : PV st) (h : atmS X n m d st = pOk a) : te X n st.1 ≤ a.1.1 := by
  have eqn : ∀ {t : T} {s : PS} {b : PS × Tm}, PV s → eqnS X n m t d s = pOk b → s.1 ≤ b.1.1 := fun {t s b} hs hb => by
    unfold eqnS at hb
    obtain ⟨r, h1, h2⟩ := pb_y hb
    cases h2
    have := (sdS_i hn m false d _ r (hs.i (PI.adv s) rfl) h1).1.1
    have t1 : s.1 ≤ te X n s.1 := te_ge
    exact Int.le_trans t1 this
  unfold atmS at h
  by_cases c1 : tk X n st.1 = 1
  · rw [if_pos c1] at h
    obtain ⟨r, h1, h2⟩ := pb_y h
    obtain ⟨i1, i2, i3, i4⟩ := varS_i h1 hn
    by_cases c2 : tk X n (adv X n r.1).1 = 61 ∨ tk X n (adv X n r.1).1 = 300
    · rw [if_pos c2] at h2
      have := eqn ((hV.i i1 i3).i (PI.adv r.1) rfl) h2
      have : te X n r.1.1 ≤ a.1.1 := this
      rw [i2] at this
      exact this
    · rw [if_neg c2] at h2; cases h2
  · rw [if_neg c1] at h
    obtain ⟨r, h1, h2⟩ := pb_y h
    obtain ⟨i1, i2, i3, i4⟩ := symS_i h1
    obtain ⟨u, h3, h4⟩ := pb_y h2
    obtain ⟨s4, h5, h6⟩ := pb_y h4
    have hV1 : PV r.1 := hV.i i1 (by rw [i3])
    have hV2 : PV (adv X n r.1) := hV1.i (PI.adv r.1) rfl
    have hu : te X n r.1.1 ≤ u.1.1 ∧ PV u.1 := by
      by_cases c40 : tk X n (adv X n r.1).1 = 40
      · rw [if_pos c40] at h3
        obtain ⟨d1, w1, w2⟩ := pb_y h3
        obtain ⟨k1, k2, _⟩ := sdS_i hn m true d1 _ u (hV2.i (PI.adv _) rfl) w2
        have t1 : te X n r.1.1 ≤ te X n (te X n r.1.1) := te_ge
        exact ⟨Int.le_trans t1 k1.1, (hV2.i (PI.adv _) rfl).i k1 k2⟩
      · rw [if_neg c40] at h3
        cases h3
        exact ⟨Int.le_refl _, hV2⟩
    obtain ⟨j1, j2, j3, _⟩ := chkS_i (by split <;> decide) h5
    rw [i2] at hu
    by_cases c2 : tk X n u.1.1 = 61 ∨ tk X n u.1.1 = 300
    · rw [if_pos c2] at h6
      have := eqn (hu.2.i j1 (by rw [j3])) h6
      rw [j2] at this
      exact Int.le_trans hu.1 this
    · rw [if_neg c2] at h6
      cases h6
      show te X n st.1 ≤ s4.1
      rw [j2]
      exact hu.1
/-- an ATOM where a FORMULA may begin -/
theorem atomStep {X Y : Int → Int} {n : Int} (hC : CTX X Y n) {SS : List Int} {pl pv : Int} {F0 : List Int} {L : List SE} {B0 : Nat} {β : Nat} (hβ : 140 ≤ β) {σ : zS} {c : AC} {TT : List Int} {NN : List N6} {m N : Nat} {r : (Int × Int) ⊕ (PS × Tm)} (h : CMt X Y n SS pl pv F0 L B0 σ c TT NN) (hd : dpS c.1 ≤ 60) (hk : ¬ (tk X n c.2.2.1 = 126 ∨ tk X n c.2.2.1 = 40) ∧ ¬ (tk X n c.2.2.1 = 33 ∨ tk X n c.2.2.1 = 63)) (hr : amS X n m (N + 1) true c = some r) :
    (∃ e τ, r = .inl e ∧ yE tG_Par_takeAtom β σ [] = some (τ, 0) ∧ CFb σ τ e.1 e.2) ∨
    (∃ τ c2 TX x, yE tG_Par_takeAtom β σ [] = some (τ, 0) ∧ CMn X Y n SS pl pv F0 L B0 τ c2 (TT ++ TX) (NN ++ [x]) ∧ amS X n m N false c2 = some r ∧ c2.1 = c.1 ∧ c.2.2.1 < c2.2.2.1 ∧ FrC pIP pAP σ τ) := by
  obtain ⟨⟨a, b1, ⟨c1, c2, c3, c4⟩, ⟨d1, d2⟩, e1, e2, e3⟩, hSt⟩ := id h
  have hp := a.1.1
  have hPl := hSt.len.1
  have hR : CRw σ NN (pix c.2.1 NN.length).reverse := ⟨b1, by omega, c3, by rw [List.length_reverse, pix_len]; omega, c4⟩
  obtain ⟨q1, q2⟩ := catm_ok hC (m := m) hβ (dpS_0) hd a d1 hR
  unfold amS at hr
  rw [if_neg (by omega), if_neg hk.1, if_neg hk.2] at hr
  by_cases hv : tk X n c.2.2.1 = 1 ∨ tk X n c.2.2.1 = 2
  · rw [if_pos hv] at hr
    rcases pb_r hr with ⟨k, q, o1, rfl⟩ | ⟨s, o1, o2⟩
    · obtain ⟨τ, t1, t2⟩ := (q2 hv _ o1).1 _ rfl
      exact Or.inl ⟨(k, q), τ, rfl, t1, t2⟩
    · obtain ⟨τ, t1, TX, x, t2, t3, t4, t5, t6, t7, t8, t9, t10⟩ := (q2 hv _ o1).2 _ rfl
      obtain ⟨i1, i2, i3⟩ := atmS_i hp.2.2.2.2.2 a.2.2.2.1.1 o1
      have hpos := atmS_pos hp.2.2.2.2.2 a.2.2.2.1.1 o1
      have hte := te_gt (T := X) (by omega : tk X n c.2.2.1 ≠ 0) hp.2.2.2.2.1
      have htq := tq_ge (T := X) (n := n) (p := c.2.2.1)
      have hscb : ∀ v ∈ c.2.2.2.2.2.1, v < (c.2.2.2.2.1.length : Int) := fun v hv => (a.2.2.2.1.1 v (Or.inl hv)).2
      have hlen : (NN ++ [x]).length = NN.length + 1 := by rw [List.length_append]; rfl
      refine Or.inr ⟨τ, (c.1, s.2 :: c.2.1, s.1), TX, x, t1, ⟨⟨t2, t3, ⟨c1.f t9, c2.f t9, ?_, t5⟩, ⟨by rw [t9.i 3108]; exact d1, d2⟩, ?_, fun v hv => ?_, e3.m t10 i1.bd _ _⟩, s.2, c.2.1, NN.length, rfl, by rw [t7, hlen], ?_, ?_⟩, o2, rfl, by show c.2.2.1 < s.1.1; omega, t8⟩
      · rw [pix_c (w := s.2) (P := c.2.1) (lo := NN.length) (hi := (NN ++ [x]).length) (by rw [t7, hlen]), hlen, show ((NN.length + 1 : Nat) : Int) - 1 = (NN.length : Int) by omega]
        exact t4
      · show ((NN ++ [x]).length : Int) + (c.1.length : Int) + (s.1.2.2.2.1.length : Int) ≤ s.1.1
        rw [hlen, i2]; omega
      · have hv : v ∈ s.1.2.2.2.1 := hv
        rw [i2] at hv
        rw [(t10 v (hscb v hv)).2.2]
        exact e2 v hv
      · exact t6 _ _
      · show CSt τ s.1.2.2.1.length _ _ _ B0 c.1 c.2.1 s.1.2.2.2.1 NN.length
        rw [i2]
        exact hSt.m t10 i1.bd _ _ hscb
  · rw [if_neg hv] at hr
    cases hr
    obtain ⟨τ, t1, t2⟩ := q1 hv
    exact Or.inl ⟨(1, tq X n c.2.2.1), τ, rfl, t1, t2⟩
/-- all that stands before an ATOM -/
theorem pre_ok {X Y : Int → Int} {n : Int} (hC : CTX X Y n) {SS : List Int} {pl pv : Int} {F0 : List Int} {L : List SE} {B0 : Nat} {β : Nat} (hβ : 10 ≤ β) {TT : List Int} {NN : List N6} {m : Nat} {r : (Int × Int) ⊕ (PS × Tm)} : ∀ (N i : Nat) (σ : zS) (c : AC), amS X n m N true c = some r → CMt X Y n SS pl pv F0 L B0 σ c TT NN → (i : Int) ≤ c.2.2.1 →
    (∃ e τ, r = .inl e ∧ yE tG_Par_takePrefixes_p4 β σ [1, (i : Int)] = some (τ, 0) ∧ CFb σ τ e.1 e.2) ∨
    (∃ τ c2 N2, yE tG_Par_takePrefixes_p4 β σ [1, (i : Int)] = some (τ, 0) ∧ CMt X Y n SS pl pv F0 L B0 τ c2 TT NN ∧ amS X n m (N2 + 1) true c2 = some r ∧ N2 < N ∧ dpS c2.1 ≤ 60 ∧ (¬ (tk X n c2.2.2.1 = 126 ∨ tk X n c2.2.2.1 = 40) ∧ ¬ (tk X n c2.2.2.1 = 33 ∨ tk X n c2.2.2.1 = 63)) ∧ c.2.2.1 ≤ c2.2.2.1 ∧ FrC pIP pAP σ τ)
  | 0, i, σ, c, hr, _, _ => by cases hr
  | N + 1, i, σ, c, hr, h, hi => by
    have hr0 := hr
    have a := h.1.1
    have hp := a.1.1
    have h8 : σ.1 3100 = 0 := a.2.2.2.2.2.1
    have d1 := h.1.2.2.2.1.1
    have off : ∀ {ρ : zS}, ρ.1 3100 ≠ 0 → yE tG_Par_takePrefixes_p123 β ρ [1, (i : Int)] = some (ρ, 0) := fun {ρ} h3 => by
      rw [yq_Par_takePrefixes_p123, kY_Par_takePrefixes_p123, if_pos ⟨by omega, by omega⟩, yq_Par_takePrefixes_p4, kY_Par_takePrefixes_p4, if_neg (by omega), if_neg (by decide), if_neg h3, yq_Par_takePrefixes_p129, kY_Par_takePrefixes_p129]
    have p123 : ∀ {ρ : zS}, yE tG_Par_takePrefixes_p123 β ρ [1, (i : Int)] = yE tG_Par_takePrefixes_p4 β ρ [1, ((i + 1 : Nat) : Int)] := fun {ρ} => by
      rw [yq_Par_takePrefixes_p123, kY_Par_takePrefixes_p123, if_pos ⟨by omega, by omega⟩]; rfl
    unfold amS at hr
    by_cases hd : 60 < dpS c.1
    · rw [if_pos hd] at hr
      cases hr
      obtain ⟨τ, f1, f2⟩ := fail_ok (β := β - 1) a (k := 3) (q := tq X n c.2.2.1) (by decide)
      refine Or.inl ⟨(3, tq X n c.2.2.1), τ, rfl, ?_, f2.b h.1.2.2.1.2.2.2⟩
      rw [yq_Par_takePrefixes_p4, kY_Par_takePrefixes_p4, if_neg (by omega), if_neg (by decide), h8, if_pos rfl, d1, if_neg (by omega), if_pos (by omega), a.1.2.2.1, zbd_of f1, off (by rw [f2.1]; decide)]
    rw [if_neg hd] at hr
    have q11 : cK (tk X n c.2.2.1) = 11 ↔ tk X n c.2.2.1 = 126 := ⟨fun h => by unfold cK at h; omega, fun h => by rw [h]; rfl⟩
    have q12 : cK (tk X n c.2.2.1) = 12 ↔ tk X n c.2.2.1 = 33 := ⟨fun h => by unfold cK at h; omega, fun h => by rw [h]; rfl⟩
    have q13 : cK (tk X n c.2.2.1) = 13 ↔ tk X n c.2.2.1 = 63 := ⟨fun h => by unfold cK at h; omega, fun h => by rw [h]; rfl⟩
    have q5 := cK_40 (k := tk X n c.2.2.1)
    have e0 : yE tG_Par_takePrefixes_p4 β σ [1, (i : Int)] = (if tk X n c.2.2.1 = 126 ∨ tk X n c.2.2.1 = 40 then yE tG_Par_takePrefixes_p68 β σ [1, (i : Int)] else if tk X n c.2.2.1 = 33 ∨ tk X n c.2.2.1 = 63 then yE tG_Par_takePrefixes_p114 β σ [1, (i : Int)] else yE tG_Par_takePrefixes_p123 β σ [0, (i : Int)]) := by
      rw [yq_Par_takePrefixes_p4, kY_Par_takePrefixes_p4, if_neg (by omega), if_neg (by decide), h8, if_pos rfl, d1, if_pos (by omega), if_pos (by omega), zbd_of (isNow_ok a.1)]
      by_cases x1 : tk X n c.2.2.1 = 126
      · rw [b2_t (q11.mpr x1), if_neg (by decide), if_pos (Or.inl x1)]
      rw [b2_f (fun h => x1 (q11.mp h)), if_pos rfl, if_pos (by omega), zbd_of (isNow_ok a.1)]
      by_cases x2 : tk X n c.2.2.1 = 40
      · rw [b2_t (q5.mpr x2), if_neg (by decide), if_pos (Or.inr x2)]
      rw [b2_f (fun h => x2 (q5.mp h)), if_pos rfl, if_pos (by omega), zbd_of (isNow_ok a.1), if_neg (show ¬ (tk X n c.2.2.1 = 126 ∨ tk X n c.2.2.1 = 40) by omega)]
      by_cases x3 : tk X n c.2.2.1 = 33
      · rw [b2_t (q12.mpr x3), if_neg (by decide), if_pos (Or.inl x3)]
      rw [b2_f (fun h => x3 (q12.mp h)), if_pos rfl, if_pos (by omega), zbd_of (isNow_ok a.1)]
      by_cases x4 : tk X n c.2.2.1 = 63
      · rw [b2_t (q13.mpr x4), if_neg (by decide), if_pos (Or.inr x4)]
      rw [b2_f (fun h => x4 (q13.mp h)), if_pos rfl, if_neg (show ¬ (tk X n c.2.2.1 = 33 ∨ tk X n c.2.2.1 = 63) by omega)]
    rw [e0]
    obtain ⟨S, P, st⟩ := c
    by_cases k1 : tk X n st.1 = 126 ∨ tk X n st.1 = 40
    · rw [if_pos k1] at hr ⊢
      have hne : tk X n st.1 ≠ 0 := by omega
      have hp1 : st.1 ≤ n := hp.2.2.2.2.1
      have hte := te_gt (T := X) hne hp1
      have htq := tq_ge (T := X) (n := n) (p := st.1)
      have hi : (i : Int) ≤ st.1 := hi
      have hd : ¬ 60 < dpS S := hd
      obtain ⟨ρ, τ, s1, s2, s3, s4⟩ := pushA hC (β := β - 1) (by omega) h.1 (k := tk X n st.1) (b := -1) (by unfold sgk; omega) (by omega) hne
      have hT : CMt X Y n SS pl pv F0 L B0 τ ((tk X n st.1, -1) :: S, P, adv X n st) TT NN := by
        refine ⟨s3, ?_⟩
        show CSt τ st.2.2.1.length NN TT (SS.length : Int) B0 ((tk X n st.1, -1) :: S) P st.2.2.2.1 NN.length
        unfold CSt
        rw [if_pos k1]
        exact (h.2.m0 (kV.f s4) [] (fun v hv => (a.2.2.2.1.1 v (Or.inl hv)).2)) |> fun z => by rw [List.append_nil] at z; exact z
      have h32 : σ.1 3202 = cK (tk X n st.1) := a.1.2.1
      have e68 : yE tG_Par_takePrefixes_p68 β σ [1, (i : Int)] = yE tG_Par_takePrefixes_p4 β τ [1, ((i + 1 : Nat) : Int)] := by
        rw [yq_Par_takePrefixes_p68, kY_Par_takePrefixes_p68, if_pos (by omega), h32, zbd_of s1, if_pos (by omega), zbd_of s2, p123]
      rw [e68]
      rcases pre_ok hC hβ N (i + 1) τ _ hr hT (by show ((i + 1 : Nat) : Int) ≤ te X n st.1; omega) with ⟨e, τ2, u1, u2, u3⟩ | ⟨τ2, c2, N2, u1, u2, u3, u4, u5, u6, u7, u8⟩
      · exact Or.inl ⟨e, τ2, u1, u2, u3.pre s4.w⟩
      · exact Or.inr ⟨τ2, c2, N2, u1, u2, u3, by omega, u5, u6, by have u7 : te X n st.1 ≤ c2.2.2.1 := u7; show st.1 ≤ _; omega, (FrC.w s4).trans u8⟩
    rw [if_neg k1] at hr ⊢
    by_cases k2 : tk X n st.1 = 33 ∨ tk X n st.1 = 63
    · rw [if_pos k2] at hr ⊢
      have hd : ¬ 60 < dpS S := hd
      have hi : (i : Int) ≤ st.1 := hi
      have e114 : yE tG_Par_takePrefixes_p114 β σ [1, (i : Int)] = zbd (yE tG_Par_takeBound (β - 1) σ []) (fun σ1 _ => yE tG_Par_takePrefixes_p123 β σ1 [1, (i : Int)]) := by
        rw [yq_Par_takePrefixes_p114, kY_Par_takePrefixes_p114, if_pos (by omega)]
      rw [e114]
      rcases tbound_ok hC (β := β - 1) (by omega) h (by omega) k2 hr with ⟨e, τ, u1, u2, u3⟩ | ⟨s1, τ, u1, u2, u3, u4, u5⟩
      · exact Or.inl ⟨e, τ, u1, by rw [zbd_of u2, off (by rw [u3.1]; exact u3.2.2.1)], u3⟩
      · rw [zbd_of u2, p123]
        rcases pre_ok hC hβ N (i + 1) τ _ u1 u3 (by show ((i + 1 : Nat) : Int) ≤ te X n s1.1; omega) with ⟨e, τ2, v1, v2, v3⟩ | ⟨τ2, c2, N2, v1, v2, v3, v4, v5, v6, v7, v8⟩
        · exact Or.inl ⟨e, τ2, v1, v2, v3.pre u4⟩
        · exact Or.inr ⟨τ2, c2, N2, v1, v2, v3, by omega, v5, v6, by have v7 : te X n s1.1 ≤ c2.2.2.1 := v7; show st.1 ≤ _; omega, u4.trans v8⟩
    · rw [if_neg k2]
      refine Or.inr ⟨σ, (S, P, st), N, ?_, h, hr0, by omega, by show dpS S ≤ 60; have hd : ¬ 60 < dpS S := hd; omega, ⟨k1, k2⟩, Int.le_refl _, FrC.refl⟩
      have hi : (i : Int) ≤ st.1 := hi
      have hp1 : st.1 ≤ n := hp.2.2.2.2.1
      rw [yq_Par_takePrefixes_p123, kY_Par_takePrefixes_p123, if_pos ⟨by omega, by omega⟩, yq_Par_takePrefixes_p4, kY_Par_takePrefixes_p4, if_neg (by omega), if_pos rfl, yq_Par_takePrefixes_p129, kY_Par_takePrefixes_p129]
