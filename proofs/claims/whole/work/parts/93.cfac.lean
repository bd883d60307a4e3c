/-! RESOLUTION and FACTORING -/
noncomputable def resA (ar : Int → Nat) (pd : Int → Prop) (m9 : Int) (k : Nat) (C : List Lt) (i : Nat) (A : PA) : PA := match C[i]? with
  | some a => if A.2 87 = 0 then infA ar pd m9 2 (k : Int) (-1) a.2.1 a.2.2 (oth i C.length 0 C) A else A
  | none => A
theorem resA_ext {ar : Int → Nat} {pd : Int → Prop} {m9 : Int} {k : Nat} {C : List Lt} {i : Nat} {A : PA} : ∃ Z, (resA ar pd m9 k C i A).1 = A.1 ++ Z := by
  unfold resA
  split
  · split
    · exact infA_87.1
    · exact ⟨[], by simp⟩
  · exact ⟨[], by simp⟩
theorem eo0 {X : List Lt} : X.map (slL 0) = X := by rw [show slL 0 = id from funext slL_0, List.map_id]
theorem res_ok {ar : Int → Nat} {pd : Int → Prop} {m9 : Int} {β : Nat} (hβ : 170 ≤ β) {σ : zS} {A : PA} (hI : CI ar pd m9 σ A) {k : Nat} {c : CL} (hc : A.1[k]? = some c) {i : Nat} {a : Lt} (ha : c.1[i]? = some a) : ∃ τ, yE tG_Sat_resolve β σ [(k : Int), hp (pos A.1 k) c.1 i] = some (τ, 0) ∧ CI ar pd m9 τ (resA ar pd m9 k c.1 i A) ∧ IF σ τ := by
  obtain ⟨d1, d2, d3, d4, d5, d6, d7, d8, d9, d10, d11, d12⟩ := id hI
  have wc := d10 c (List.mem_of_getElem? hc)
  have wl : WL ar (lb m9) c.1 := wc.2.2.2.2
  have e80 : ∀ (ρ : zS) (x y z : Int), yE tG_Sat_resolve_p80 β ρ [x, y, z] = some (ρ, 0) := fun ρ x y z => by rw [yq_Sat_resolve_p80, kY_Sat_resolve_p80]
  obtain ⟨σ1, e1, I1, f1, F1⟩ := cl_ok (β := β - 1) (a := pos A.1 k) (b := pos A.1 k) hI
  have S1 := I1.2.2.1
  have k1 : σ1.1 5300 = A.2 87 := I1.2.2.2.1.1
  rw [yq_Sat_resolve, kY_Sat_resolve, if_pos (by omega), zbd_of (d3.f3 hc).2.1, if_pos (by omega), zbd_of e1]
  unfold resA
  rw [ha]
  dsimp only
  by_cases h0 : A.2 87 = 0
  · rw [if_pos h0, if_pos (by omega)]
    have hl1 := S1.hl hc ha
    have t1 := TA_of S1 hc wc ha (s := 0) (Or.inl rfl) (o := 0) (y := a.2.1) rfl (b := 0) (Or.inl rfl) (by unfold bs; rw [if_pos rfl]; exact F1.2.1)
    have t2 := TA_of S1 hc wc ha (s := 1) (Or.inr rfl) (o := 0) (y := a.2.2) rfl (b := 0) (Or.inl rfl) (by unfold bs; rw [if_pos rfl]; exact F1.2.1)
    rw [show ∀ z : Int, z + ((0 : Nat) : Int) = z by intro z; simp] at t1 t2
    obtain ⟨σ2, r, e2, I2, f2, hr⟩ := un_ok (β := β - 1) (by omega) I1 F1 t1 t2
    rw [shT_0, shT_0] at hr
    rw [if_pos (by omega), zbd_of (side_ok hl1 (Or.inl rfl)), if_pos (by omega), zbd_of (side_ok hl1 (Or.inr rfl)), if_pos (by omega), zbd_of e2]
    rcases hr with ⟨rfl, no⟩ | ⟨rfl, rt, vl, th, rh, hW, hM⟩
    · rw [if_pos rfl, e80]
      exact ⟨σ2, rfl, by rw [infA_no no]; exact I2, f1.w.trans f2.w⟩
    · obtain ⟨σ3, e3, f3, q3⟩ := dclear_ok (β := β - 1) I2.2.2.2.2.2.2.2.1
      have hW3 := hW.f f3
      have S3 := I2.2.2.1.f f3
      have h83 : 0 ≤ σ3.1 3905 ∧ σ3.1 3905 ≤ 8 := by
        have := q3.2.2.2.1
        simp at this; omega
      obtain ⟨σ4, e4, f4, q4, h84⟩ := others_ok hW3 S3 hc wc (i := i) (j := c.1.length) (hp_i ha) (hp_no (S3.k hc).2.1) (b := 0) (Or.inl rfl) (β := β - 1) (by omega) q3 h83
      have wR : WL ar (lw 12 m9) (oth i c.1.length 0 c.1) := oth_wf wl
      have hQ : DQ σ4 (qaddL (some []) (toQ (mpL (st th) (oth i c.1.length 0 c.1)))) := by
        have := wrQ_to (th := th) (b := 0) (by decide) wR
        rw [eo0] at this
        rw [← this]; exact q4
      have g34 : DG σ2 σ4 := f3.w.trans f4
      obtain ⟨τ, u1, u2, u3⟩ := fin_ok (β := β - 1) (by omega) I2 hW hM g34 wR hQ h84 (org := 2) (x := (k : Int)) (y := -1)
      refine ⟨τ, ?_, u2, (f1.w.trans f2.w).trans u3⟩
      rw [if_neg (by decide), if_pos (by omega), zbd_of e3, if_pos (by omega), zbd_of e4, if_pos (by omega), zbd_of u1, e80]
  · rw [if_neg h0, if_neg (by omega), e80]
    exact ⟨σ1, rfl, I1, f1.w⟩
/-- sides n / 2 and n % 2 of the two -/
noncomputable def ftS (ar : Int → Nat) (pd : Int → Prop) (m9 : Int) (k : Nat) (C : List Lt) (i : Nat) (a : Lt) (j : Nat) (b : Lt) (n : Nat) (A : PA) : PA := @ite _ (usL a ((n / 2 : Nat) : Int)) (Classical.propDecidable _) (infA ar pd m9 3 (k : Int) (-1) (sdT a ((n / 2 : Nat) : Int)) (sdT b ((n % 2 : Nat) : Int)) (oth i j 0 C ++ [(0, sdT a (1 - ((n / 2 : Nat) : Int)), sdT b (1 - ((n % 2 : Nat) : Int))), (1, sdT a ((n / 2 : Nat) : Int), sdT b (1 - ((n % 2 : Nat) : Int)))]) A) A
theorem ftS_ext {ar : Int → Nat} {pd : Int → Prop} {m9 : Int} {k : Nat} {C : List Lt} {i : Nat} {a : Lt} {j : Nat} {b : Lt} (n : Nat) (A : PA) : ∃ Z, (ftS ar pd m9 k C i a j b n A).1 = A.1 ++ Z := by
  unfold ftS
  split
  · exact infA_87.1
  · exact ⟨[], by simp⟩
theorem sd_wf {ar : Int → Nat} {m9 : Int} {a : Lt} (w1 : wf ar (lb m9) (tt a.2.1)) (w2 : wf ar (lb m9) (tt a.2.2)) (s : Int) : wf ar (lb m9) (tt (sdT a s)) ∧ wf ar (lw 12 m9) (tt (sdT a s)) := by
  have g : ∀ x : Tm, wf ar (lb m9) (tt x) → wf ar (lw 12 m9) (tt x) := fun x w => by have := lb12 (b := 0) (Or.inl rfl) w; rw [shT_0] at this; exact this
  unfold sdT
  split
  · exact ⟨w1, g _ w1⟩
  · exact ⟨w2, g _ w2⟩
theorem ft_loop {ar : Int → Nat} {pd : Int → Prop} {m9 : Int} {β : Nat} (hβ : 170 ≤ β) {k : Nat} {c : CL} (sc : cst c = 1) {i j : Nat} {a b : Lt} (ha : c.1[i]? = some a) (hb : c.1[j]? = some b) {P : Int} : ∀ (m n : Nat) (σ : zS) (A : PA), CI ar pd m9 σ A → A.1[k]? = some c → pos A.1 k = P → n + m = 4 →
    ∃ τ, yE tG_Sat_factorTwo_p15 β σ [(k : Int), hp P c.1 i, hp P c.1 j, P, (n : Int)] = some (τ, 0) ∧ CI ar pd m9 τ (wh (ftS ar pd m9 k c.1 i a j b) m n A) ∧ IF σ τ
  | 0, n, σ, A, hI, h1, p1, hm => by
    refine ⟨σ, ?_, by unfold wh; exact hI, FrC.refl⟩
    rw [yq_Sat_factorTwo_p15, kY_Sat_factorTwo_p15, if_pos (by omega), yq_Sat_factorTwo_p156, kY_Sat_factorTwo_p156]
  | m + 1, n, σ, A, hI, h1, p1, hm => by
    obtain ⟨d1, d2, d3, d4, d5, d6, d7, d8, d9, d10, d11, d12⟩ := id hI
    have wc := d10 c (List.mem_of_getElem? h1)
    have wl : WL ar (lb m9) c.1 := wc.2.2.2.2
    have e87 : σ.1 5300 = A.2 87 := d4.1
    obtain ⟨z1, z2⟩ := half (n := n) (by omega)
    have hs : (((n / 2 : Nat) : Int) = 0 ∨ ((n / 2 : Nat) : Int) = 1) := by omega
    have ht : (((n % 2 : Nat) : Int) = 0 ∨ ((n % 2 : Nat) : Int) = 1) := by omega
    obtain ⟨s, es⟩ : ∃ s, s = ((n / 2 : Nat) : Int) := ⟨_, rfl⟩
    obtain ⟨t, et⟩ : ∃ t, t = ((n % 2 : Nat) : Int) := ⟨_, rfl⟩
    rw [yq_Sat_factorTwo_p15, kY_Sat_factorTwo_p15, if_neg (by omega), z1, z2]
    unfold wh
    by_cases h0 : A.2 87 = 0
    · rw [if_pos h0, if_pos (by omega), if_pos (by omega)]
      have J := d11 k c h1 sc
      have hl := d3.hl h1 ha
      have eu := us_ok (β := β - 1) J ha hl hs
      rw [p1] at eu
      rw [zbd_of eu]
      have l1 := (List.getElem?_eq_some_iff.mp h1).1
      obtain ⟨Z, hZ⟩ := ftS_ext (ar := ar) (pd := pd) (m9 := m9) (k := k) (C := c.1) (i := i) (a := a) (j := j) (b := b) n A
      have next : ∀ ρ : zS, CI ar pd m9 ρ (ftS ar pd m9 k c.1 i a j b n A) → IF σ ρ → ∃ τ, yE tG_Sat_factorTwo_p150 β ρ [(k : Int), hp P c.1 i, hp P c.1 j, P, (n : Int), ((n / 2 : Nat) : Int), ((n % 2 : Nat) : Int)] = some (τ, 0) ∧ CI ar pd m9 τ (wh (ftS ar pd m9 k c.1 i a j b) m (n + 1) (ftS ar pd m9 k c.1 i a j b n A)) ∧ IF σ τ := fun ρ hρ fρ => by
        obtain ⟨τ, t1, t2, t3⟩ := ft_loop hβ sc ha hb (P := P) m (n + 1) ρ _ hρ (by rw [hZ]; exact get_app h1) (by rw [hZ, pos_app l1]; exact p1) (by omega)
        refine ⟨τ, ?_, t2, fρ.trans t3⟩
        rw [yq_Sat_factorTwo_p150, kY_Sat_factorTwo_p150, if_pos (by omega), show (n : Int) + 1 = ((n + 1 : Nat) : Int) by omega]
        exact t1
      by_cases q : usL a ((n / 2 : Nat) : Int)
      · rw [b2_t q, if_neg (by decide), if_pos (by omega)]
        have eS : ftS ar pd m9 k c.1 i a j b n A = infA ar pd m9 3 (k : Int) (-1) (sdT a s) (sdT b t) (oth i j 0 c.1 ++ [(0, sdT a (1 - s), sdT b (1 - t)), (1, sdT a s, sdT b (1 - t))]) A := by
          unfold ftS; rw [if_pos q, es, et]
        rw [← es, ← et] at next
        rw [← es] at hs
        rw [← et] at ht
        rw [← es, ← et]
        obtain ⟨σ1, e1, I1, f1, F1⟩ := cl_ok (β := β - 1) (a := P) (b := P) hI
        have S1 := I1.2.2.1
        have hl1 := S1.hl h1 ha
        have hl2 := S1.hl h1 hb
        have t1 := TA_of S1 h1 wc ha hs (o := 0) (y := sdT a s) rfl (b := 0) (Or.inl rfl) (by unfold bs; rw [if_pos rfl, p1]; exact F1.2.1)
        have t2 := TA_of S1 h1 wc hb ht (o := 0) (y := sdT b t) rfl (b := 0) (Or.inl rfl) (by unfold bs; rw [if_pos rfl, p1]; exact F1.2.1)
        rw [show ∀ z : Int, z + ((0 : Nat) : Int) = z by intro z; simp] at t1 t2
        obtain ⟨σ2, r, e2, I2, f2, hr⟩ := un_ok (β := β - 1) (by omega) I1 F1 t1 t2
        rw [shT_0, shT_0] at hr
        have sd1 := side_ok (β := β - 1) hl1 hs
        have sd2 := side_ok (β := β - 1) hl2 ht
        rw [p1] at sd1 sd2 e2
        rw [zbd_of e1, if_pos (by omega), zbd_of sd1, if_pos (by omega), zbd_of sd2, if_pos (by omega), zbd_of e2]
        rcases hr with ⟨rfl, no⟩ | ⟨rfl, rt, vl, th, rh, hW, hM⟩
        · rw [if_pos rfl]
          exact next σ2 (by rw [eS, infA_no no]; exact I2) (f1.w.trans f2.w)
        · obtain ⟨σ3, e3, f3, q3⟩ := dclear_ok (β := β - 1) I2.2.2.2.2.2.2.2.1
          have hW3 := hW.f f3
          have S3 := I2.2.2.1.f f3
          have h83 : 0 ≤ σ3.1 3905 ∧ σ3.1 3905 ≤ 8 := by
            have := q3.2.2.2.1
            simp at this; omega
          obtain ⟨σ4, e4, f4, q4, h84⟩ := others_ok hW3 S3 h1 wc (i := i) (j := j) (hp_i ha) (hp_i hb) (b := 0) (Or.inl rfl) (β := β - 1) (by omega) q3 h83
          have hW4 := hW3.f f4
          have S4 := S3.f f4
          obtain ⟨_, wa1, wa2⟩ := wl a (List.mem_of_getElem? ha)
          obtain ⟨_, wb1, wb2⟩ := wl b (List.mem_of_getElem? hb)
          have s1 : 1 - s = 0 ∨ 1 - s = 1 := by omega
          have t1' : 1 - t = 0 ∨ 1 - t = 1 := by omega
          obtain ⟨σ5, e5, f5, q5, h85⟩ := pair_ok hW4 (S4.hl h1 ha) (S4.hl h1 hb) s1 t1' (sd_wf wa1 wa2 (1 - s)).1 (sd_wf wb1 wb2 (1 - t)).1 (sg := 0) (Or.inl rfl) (β := β - 1) (by omega) q4 h84
          have hW5 := hW4.f f5
          have S5 := S4.f f5
          obtain ⟨σ6, e6, f6, q6, h86⟩ := pair_ok hW5 (S5.hl h1 ha) (S5.hl h1 hb) hs t1' (sd_wf wa1 wa2 s).1 (sd_wf wb1 wb2 (1 - t)).1 (sg := 1) (Or.inr rfl) (β := β - 1) (by omega) q5 h85
          have wR : WL ar (lw 12 m9) (oth i j 0 c.1 ++ [(0, sdT a (1 - s), sdT b (1 - t)), (1, sdT a s, sdT b (1 - t))]) := by
            refine WL_app (oth_wf wl) (fun d hd => ?_)
            rcases List.mem_cons.mp hd with rfl | hd
            · exact ⟨Or.inl rfl, (sd_wf wa1 wa2 (1 - s)).2, (sd_wf wb1 wb2 (1 - t)).2⟩
            · rw [List.mem_singleton] at hd; subst hd
              exact ⟨Or.inr rfl, (sd_wf wa1 wa2 s).2, (sd_wf wb1 wb2 (1 - t)).2⟩
          have x1 : exL th 0 (fl (tt (sdT a (1 - s)))) = fl (tt (st th (sdT a (1 - s)))) := (su_sh0 (F := tt (sdT a (1 - s))) (sd_wf wa1 wa2 (1 - s)).1).symm
          have x2 : exL th 0 (fl (tt (sdT b (1 - t)))) = fl (tt (st th (sdT b (1 - t)))) := (su_sh0 (F := tt (sdT b (1 - t))) (sd_wf wb1 wb2 (1 - t)).1).symm
          have x3 : exL th 0 (fl (tt (sdT a s))) = fl (tt (st th (sdT a s))) := (su_sh0 (F := tt (sdT a s)) (sd_wf wa1 wa2 s).1).symm
          have hQ : DQ σ6 (qaddL (some []) (toQ (mpL (st th) (oth i j 0 c.1 ++ [(0, sdT a (1 - s), sdT b (1 - t)), (1, sdT a s, sdT b (1 - t))])))) := by
            have := wrQ_to (th := th) (b := 0) (by decide) (oth_wf (i := i) (j := j) wl)
            rw [eo0] at this
            rw [mpL_app, toQ_app, qaddL_app, ← this]
            rw [x1, x2, x3] at q6
            exact q6
          have g36 : DG σ2 σ6 := ((f3.w.trans f4).trans f5).trans f6
          obtain ⟨τ, u1, u2, u3⟩ := fin_ok (β := β - 1) (by omega) I2 hW hM g36 wR hQ h86 (org := 3) (x := (k : Int)) (y := -1)
          rw [p1] at e4 e5 e6
          rw [if_neg (by decide), if_pos (by omega), zbd_of e3, if_pos (by omega), zbd_of e4, if_pos (by omega), if_pos (by omega), if_pos (by omega), zbd_of e5, if_pos (by omega), zbd_of e6, if_pos (by omega), zbd_of u1]
          exact next τ (by rw [eS]; exact u2) ((f1.w.trans f2.w).trans u3)
      · rw [b2_f q, if_pos rfl]
        refine next σ ?_ FrC.refl
        unfold ftS; rw [if_neg q]; exact hI
    · rw [if_neg h0, if_neg (by omega), yq_Sat_factorTwo_p156, kY_Sat_factorTwo_p156]
      exact ⟨σ, rfl, hI, FrC.refl⟩
