/-! one call of both: run, look, search -/
variable {qo : Nat}
theorem caS_len {pd : Int → Prop} {G : List Lt} {n : Nat} {A : PA} : (caS pd G n A).1.length = A.1.length := by
  have := fo_len (pd := pd) (G := G) 1 n A
  exact this
theorem rwA_len {pd : Int → Prop} {g : Nat} {C : List Lt} {A : PA} : A.1.length ≤ (rwA pd g C A).1.1.length := by
  unfold rwA
  split
  · exact Nat.le_refl _
  split
  · exact Nat.le_refl _
  split
  · exact Nat.le_refl _
  · show A.1.length ≤ (A.1 ++ [_]).length
    rw [List.length_append]; omega
theorem gvB_len {pd : Int → Prop} {R : PA × Option Nat} : R.1.1.length ≤ (gvB pd R).1.1.length := by
  unfold gvB
  split
  · exact Nat.le_refl _
  split
  · exact Nat.le_refl _
  split
  · exact Nat.le_refl _
  split
  · exact Nat.le_refl _
  · show _ ≤ (stA _ _ _).length
    rw [stA_len, fo_len]; exact Nat.le_refl _
theorem gvA_len {pd : Int → Prop} {A : PA} : A.1.length ≤ (gvA pd A).1.1.length := by
  unfold gvA
  split
  · exact Nat.le_refl _
  split
  · exact Nat.le_refl _
  split
  · have := gvB_len (pd := pd) (R := ((stA A.1 (‹Nat›) 2, fu A.2 89 (zwa (A.2 89) 1)), some (‹Nat›)))
    rw [stA_len] at this; exact this
  · have h1 := rwA_len (pd := pd) (g := ‹Nat›) (C := (‹CL›).1) (A := (stA A.1 (‹Nat›) 2, fu A.2 89 (zwa (A.2 89) 1)))
    rw [stA_len] at h1
    exact Nat.le_trans h1 gvB_len
theorem ifA_len {ar : Int → Nat} {pd : Int → Prop} {m9 : Int} {g : Nat} {G : List Lt} {A : PA} : A.1.length ≤ (ifA ar pd m9 g G A).1.length := by
  have le : ∀ {X Y : List CL}, (∃ Z, Y = X ++ Z) → X.length ≤ Y.length := fun {X Y} ⟨Z, hZ⟩ => by rw [hZ, List.length_append]; omega
  have h1 := le (wh_ext (ifS_ext (ar := ar) (pd := pd) (m9 := m9) (g := g) (G := G)) A.1.length 0 A)
  unfold ifA
  split
  · exact Nat.le_trans h1 (le (fo_ext fcA_ext _ _ _))
  · exact Nat.le_trans h1 (le resA_ext)
theorem stepA_len {ar : Int → Nat} {pd : Int → Prop} {m9 : Int} {A : PA} : A.1.length ≤ (stepA ar pd m9 A).1.1.length := by
  unfold stepA
  have h1 := gvA_len (pd := pd) (A := A)
  split
  · exact h1
  split
  · exact h1
  · exact Nat.le_trans h1 ifA_len
theorem runA_len {ar : Int → Nat} {pd : Int → Prop} {m9 : Int} : ∀ (n : Nat) (Z : PA × List Int), Z.1.1.length ≤ (runA ar pd m9 n Z).1.1.length
  | 0, Z => Nat.le_refl _
  | n + 1, Z => by
    unfold runA
    split
    · exact Nat.le_trans stepA_len (runA_len n _)
    · exact Nat.le_refl _
theorem stepA_e {ar : Int → Nat} {pd : Int → Prop} {m9 : Int} {A : PA} (h : A.1 = []) : stepA ar pd m9 A = ((A.1, fu A.2 87 2), []) := by
  have hc : chQ (if Int.tmod (zwa (A.2 89) 1) 5 = 0 then 1 else 0) A.1 0 none = none := by rw [h]; rfl
  unfold stepA
  rw [gvA_n hc]
/-- STEPS without a CLAUSE -/
theorem re_33 {ar : Int → Nat} {pd : Int → Prop} {m9 : Int} {γ : Nat} (hγ : 2 ≤ γ) : ∀ (m n : Nat) (σ : zS) (A : PA) (P : List Int), RE0 σ A P → n + m ≤ 100 → ∃ τ, zE tM_run_33 γ σ [((n + m : Nat) : Int), (n : Int)] = some (τ, (runA ar pd m9 m (A, P)).1.2 87) ∧ RE0 τ (runA ar pd m9 m (A, P)).1 (runA ar pd m9 m (A, P)).2 ∧ FSt σ τ
  | 0, n, σ, A, P, h, hn => by
    refine ⟨σ, ?_, h, FrC.refl⟩
    rw [zq_run_33, kZ_run_33, if_pos (by omega), zq_run_55, kZ_run_55, h.2.2.2.1.1]
    rfl
  | m + 1, n, σ, A, P, h, hn => by
    obtain ⟨a1, a2, a3, a4, a5, a6, a7⟩ := id h
    have k87 := a4.1
    by_cases c : A.2 87 = 0
    · have eR : runA ar pd m9 (m + 1) (A, P) = runA ar pd m9 m ((A.1, fu A.2 87 2), []) := by
        show (if A.2 87 = 0 then runA ar pd m9 m (stepA ar pd m9 A) else (A, P)) = _
        rw [if_pos c, stepA_e a1]
      rw [eR]
      obtain ⟨τ1, hτ1⟩ : ∃ z, z = zI σ 87 2 := ⟨_, rfl⟩
      have f1 : FSt σ τ1 := by rw [hτ1]; exact FrC_I
      have i1 : FrC [87] [] σ τ1 := by rw [hτ1]; exact FrC_I
      have h1 : RE0 τ1 (A.1, fu A.2 87 2) [] := by
        refine ⟨a1, by rw [i1.i 84]; exact a2, by rw [i1.i 72]; exact a3, ?_, by rw [i1.i 88]; exact a5, rfl, ?_⟩
        · rw [hτ1]; exact KM.u a4
        · show fu A.2 87 2 87 ≠ 1
          rw [fu_s]; decide
      have hs : zE tM_step1 (γ - 1) σ [] = some (τ1, 0) := by
        have hg : zE tM_given (γ - 1 - 1) σ [] = some (σ, -1) := by
          have e18 : ∀ b : Int, zE tM_given_18 (γ - 1 - 1) σ [-1, b] = some (σ, -1) := fun b => by
            rw [zq_given_18, kZ_given_18, zq_given_21, kZ_given_21, a2, if_pos (by decide)]
          rw [zq_given, kZ_given]
          split
          · exact e18 1
          · exact e18 0
        rw [zq_step1, kZ_step1, if_pos (by omega), zbd_of hg, if_neg (by decide), lt_e, ← hτ1]
      obtain ⟨τ, t1, t2, t3⟩ := re_33 (ar := ar) (pd := pd) (m9 := m9) hγ m (n + 1) τ1 _ _ h1 (by omega)
      refine ⟨τ, ?_, t2, f1.trans t3⟩
      rw [← t1, zq_run_33, kZ_run_33, if_neg (by omega), k87, if_pos c, if_pos (by omega), zbd_of hs, if_pos ⟨by omega, by omega⟩, show n + (m + 1) = n + 1 + m by omega]
      rfl
    · have eR : runA ar pd m9 (m + 1) (A, P) = (A, P) := by
        show (if A.2 87 = 0 then runA ar pd m9 m (stepA ar pd m9 A) else (A, P)) = _
        rw [if_neg c]
      rw [eR]
      refine ⟨σ, ?_, h, FrC.refl⟩
      rw [zq_run_33, kZ_run_33, if_neg (by omega), k87, if_neg c, zq_run_55, kZ_run_55, k87]
theorem prun_ok (hTy : ∀ (ar : Int → Nat) (pd : Int → Prop) (m9 : Int) (A : PA) (P : List Int) (k : Nat), (∃ σ, SI ar pd m9 σ A P) → ar 0 = 0 → pd 0 → (∀ c, c < 0 → ¬ pd c) → IvA pd A.1 → IvA pd (runA ar pd m9 k (A, P)).1.1) {σ ρ : zS} {n : Nat} (h : TL qo σ ρ n) (h3 : σ.2.2 3000 = 0) {β γ : Nat} (hβ : 174 ≤ β) (hγ : 1646 ≤ γ) {x : Int} : An qo (yE tP_CP_run β σ [x]) (zE tM_run γ ρ [x]) σ mTI n := by
  have hz := h.zr
  obtain ⟨ar, pd, m9, A, P, T, nm, o, ⟨d1, d2, d3, d4, d5, d6⟩, s, c, q, r, i⟩ := id h
  by_cases q0 : x < 1 ∨ 100 < x
  · refine An.th (c := 2) (r := 0) (κ := zI ρ 4 1) (s := 0) (by decide) ?_ ?_ zI_1 h.t
    · have e11 : yE tP_CP_run_p11 β σ [x] = some (zT σ 2, 0) := by rw [yq_CP_run_p11, kY_CP_run_p11, if_pos hz, lt_e]
      rw [yq_CP_run, kY_CP_run]
      by_cases q1 : x < 1
      · rw [if_pos q1]; exact e11
      · rw [if_neg q1, if_neg (by omega)]; exact e11
    · have e18 : zE tM_run_18 γ (zI ρ 4 0) [x, 1] = some (zI ρ 4 1, 0) := by
        rw [zq_run_18, kZ_run_18, zq_run_23, kZ_run_23, if_pos (by omega), zbd_of ref_1, if_neg (by decide), zI_zI]
      rw [zq_run, kZ_run, lt_e]
      by_cases q1 : x < 1
      · rw [if_pos q1]; exact e18
      · rw [if_neg q1, if_neg (by omega)]; exact e18
  obtain ⟨k, hk⟩ : ∃ k : Nat, x = (k : Int) := ⟨x.toNat, by omega⟩
  subst hk
  obtain ⟨τ, t1, t2, t3⟩ := run_ok (β := β) hβ s (n := k) (by omega) (by omega)
  have g : FrC [4] [] ρ (zI ρ 4 0) := FrC_I
  obtain ⟨κ, u1, u2, u3⟩ : ∃ κ, zE tM_run_33 γ (zI ρ 4 0) [(k : Int), 0] = some (κ, (runA ar pd m9 k (A, P)).1.2 87) ∧ RQ0 ar pd m9 κ (runA ar pd m9 k (A, P)).1 (runA ar pd m9 k (A, P)).2 ∧ FSt (zI ρ 4 0) κ := by
    rcases q.f g g.pq with q | q
    · obtain ⟨κ, u1, u2, u3⟩ := rrun_33 hγ k 0 (zI ρ 4 0) A P q (by omega)
      rw [Nat.zero_add] at u1
      exact ⟨κ, u1, Or.inl u2, u3⟩
    · obtain ⟨κ, u1, u2, u3⟩ := re_33 (ar := ar) (pd := pd) (m9 := m9) (γ := γ) (by omega) k 0 (zI ρ 4 0) A P q (by omega)
      rw [Nat.zero_add] at u1
      exact ⟨κ, u1, Or.inr u2, u3⟩
  have h4 : κ.1 4 = 0 := by rw [u3.i 4, zI_1]
  refine An.ok t1 ?_ (by rw [t3.l 3000]; exact h3) h4 rfl t3.2.2.2 ?_
  · rw [zq_run, kZ_run, lt_e, if_neg (by omega), if_pos (by omega), zq_run_23, kZ_run_23, if_pos (by omega), zbd_of ref_0, if_pos rfl]
    exact u1
  · have g2 : FrC [4, 47, 72, 84, 86, 87, 88, 89, 90, 91, 92, 93, 94, 98, 101, 105, 112, 113, 114, 116, 117, 118, 120] [43, 44, 45, 46, 66, 67, 68, 69, 70, 71, 73, 74, 75, 76, 77, 78, 79, 80, 81, 82, 83, 95, 96, 97, 100, 102, 103, 104, 106, 107, 108, 109, 110, 111, 115, 119, 1000, 1001, 1002, 1003, 1004, 1005, 1006, 1007, 1008] ρ κ := g.w.trans u3.w
    exact ⟨ar, pd, m9, _, _, T, nm, o, ⟨Nat.le_trans d1 (runA_len k (A, P)), d2, d3, d4, hTy ar pd m9 A P k ⟨σ, s⟩ d2 d4 d6 d5, d6⟩, t2, c.f t3, u2, r.f g2, i.f t3 g2⟩
/-- how many CLAUSES are not true -/
noncomputable def nfL (pd : Int → Prop) (sd : Int) (m : Nat) : List CL → Nat
  | [] => 0
  | c :: Cs => @ite _ (mkT pd sd m c.1) (Classical.propDecidable _) 0 1 + nfL pd sd m Cs
theorem nfL_t {pd : Int → Prop} {sd : Int} {m : Nat} {c : CL} {Cs : List CL} (h : mkT pd sd m c.1) : nfL pd sd m (c :: Cs) = nfL pd sd m Cs := by
  show @ite _ _ (Classical.propDecidable _) 0 1 + _ = _
  rw [if_pos h, Nat.zero_add]
theorem nfL_f {pd : Int → Prop} {sd : Int} {m : Nat} {c : CL} {Cs : List CL} (h : ¬ mkT pd sd m c.1) : nfL pd sd m (c :: Cs) = 1 + nfL pd sd m Cs := by
  show @ite _ _ (Classical.propDecidable _) 0 1 + _ = _
  rw [if_neg h]
theorem nfL_drop {pd : Int → Prop} {sd : Int} {m : Nat} : ∀ {Cs : List CL} {T : Nat}, txT pd sd m Cs T → nfL pd sd m (Cs.drop T) = nfL pd sd m Cs
  | Cs, 0, _ => rfl
  | [], T + 1, _ => rfl
  | c :: Cs, T + 1, h => by
    rw [nfL_t (h 0 c (by omega) rfl)]
    exact nfL_drop (Cs := Cs) (T := T) (fun k d hk hd => h (k + 1) d (by omega) hd)
theorem lkY {ar : Int → Nat} {pd : Int → Prop} {m9 : Int} {β : Nat} (hβ : 5 ≤ β) (h00 : ar 0 = 0) {Cs : List CL} (wC : ∀ c ∈ Cs, Wc ar m9 c.1) {mm : Nat} (m1 : 1 ≤ mm) (m3 : mm ≤ 3) {sd : Int} {x0 x1 : Int} : ∀ (m i a : Nat) (σ : zS), i + m = Cs.length → a ≤ i → Cx ar pd m9 σ → SC σ Cs → σ.1 6905 = (mm : Int) → σ.1 6904 = sd → ∃ τ, yE tP_CP_look_p46 β σ [x0, x1, (a : Int), (i : Int)] = some (τ, ((a + nfL pd sd mm (Cs.drop i) : Nat) : Int)) ∧ FrC [] [70, 71] σ τ
  | 0, i, a, σ, hm, ha, hC, hS, h5, h4 => by
    refine ⟨σ, ?_, FrC.refl⟩
    rw [yq_CP_look_p46, kY_CP_look_p46, hS.2.1, if_pos (by omega), List.drop_eq_nil_of_le (by omega)]
    rfl
  | m + 1, i, a, σ, hm, ha, hC, hS, h5, h4 => by
    have h2 := hS.2.2.2.2.2.2.2
    obtain ⟨c, hc⟩ : ∃ c, Cs[i]? = some c := ⟨_, List.getElem?_eq_getElem (by omega)⟩
    obtain ⟨hlt, heq⟩ := List.getElem?_eq_some_iff.mp hc
    have hd : Cs.drop i = c :: Cs.drop (i + 1) := by rw [List.drop_eq_getElem_cons hlt, heq]
    obtain ⟨σ1, t1, t2⟩ := mt_ok (β := β - 1) (by omega) h00 hc (wC c (List.mem_of_getElem? hc)) m1 m3 hC hS h5
    rw [h4] at t1
    have next : ∀ b : Nat, b ≤ i + 1 → ∃ τ, yE tP_CP_look_p73 β σ1 [x0, x1, (b : Int), (i : Int)] = some (τ, ((b + nfL pd sd mm (Cs.drop (i + 1)) : Nat) : Int)) ∧ FrC [] [70, 71] σ τ := fun b hb => by
      obtain ⟨τ, u1, u2⟩ := lkY (β := β) hβ h00 wC m1 m3 (sd := sd) (x0 := x0) (x1 := x1) m (i + 1) b σ1 (by omega) hb (hC.f t2) (hS.f t2) (by rw [t2.i 6905]; exact h5) (by rw [t2.i 6904]; exact h4)
      refine ⟨τ, ?_, t2.trans u2⟩
      rw [← u1, yq_CP_look_p73, kY_CP_look_p73, if_pos ⟨by omega, by omega⟩]
      rfl
    rw [yq_CP_look_p46, kY_CP_look_p46, hS.2.1, if_neg (by omega), if_pos (by omega), zbd_of t1, hd]
    by_cases e : mkT pd sd mm c.1
    · rw [b2_t e, if_neg (by decide), nfL_t e]; exact next a (by omega)
    · obtain ⟨τ, u1, u2⟩ := next (a + 1) (by omega)
      refine ⟨τ, ?_, u2⟩
      rw [b2_f e, if_pos rfl, if_pos ⟨by omega, by omega⟩, nfL_f e, show a + (1 + nfL pd sd mm (Cs.drop (i + 1))) = a + 1 + nfL pd sd mm (Cs.drop (i + 1)) by omega, ← u1]
      rfl
theorem lkZ {ar : Int → Nat} {pd : Int → Prop} {m9 : Int} {γ : Nat} (hγ : 111 ≤ γ) {Cs : List CL} (wC : ∀ c ∈ Cs, Wc ar m9 c.1) {mm : Nat} (m1 : 1 ≤ mm) (m3 : mm ≤ 3) {sd : Int} {x0 x1 : Int} (hN : Cs.length ≤ 2000) : ∀ (m i a : Nat) (ρ : zS), i + m = Cs.length → a ≤ i → ρ.1 84 = (Cs.length : Int) → (i < Cs.length → RC ρ Cs ∧ Pd ρ m9 pd) → ρ.1 125 = (mm : Int) → ρ.1 124 = sd → ∃ τ, zE tM_look_54 γ ρ [x0, x1, (a : Int), (i : Int)] = some (τ, ((a + nfL pd sd mm (Cs.drop i) : Nat) : Int)) ∧ FrC [] [126] ρ τ
  | 0, i, a, ρ, hm, ha, h84, hC, h5, h4 => by
    refine ⟨ρ, ?_, FrC.refl⟩
    rw [zq_look_54, kZ_look_54, h84, if_pos (by omega), List.drop_eq_nil_of_le (by omega)]
    rfl
  | m + 1, i, a, ρ, hm, ha, h84, hC, h5, h4 => by
    obtain ⟨hR, hP⟩ := hC (by omega)
    obtain ⟨c, hc⟩ : ∃ c, Cs[i]? = some c := ⟨_, List.getElem?_eq_getElem (by omega)⟩
    obtain ⟨hlt, heq⟩ := List.getElem?_eq_some_iff.mp hc
    have hd : Cs.drop i = c :: Cs.drop (i + 1) := by rw [List.drop_eq_getElem_cons hlt, heq]
    obtain ⟨ρ1, t1, t2⟩ := it_ok (β := γ - 1) (by omega) hR hP hc (wC c (List.mem_of_getElem? hc)) m1 m3 h5
    rw [h4] at t1
    have next : ∀ b : Nat, b ≤ i + 1 → ∃ τ, zE tM_look_75 γ ρ1 [x0, x1, (b : Int), (i : Int)] = some (τ, ((b + nfL pd sd mm (Cs.drop (i + 1)) : Nat) : Int)) ∧ FrC [] [126] ρ τ := fun b hb => by
      obtain ⟨τ, u1, u2⟩ := lkZ (γ := γ) hγ wC m1 m3 (sd := sd) (x0 := x0) (x1 := x1) hN m (i + 1) b ρ1 (by omega) hb (by rw [t2.i 84]; exact h84) (fun _ => ⟨hR.f t2 t2.pq, hP.f t2⟩) (by rw [t2.i 125]; exact h5) (by rw [t2.i 124]; exact h4)
      refine ⟨τ, ?_, t2.trans u2⟩
      rw [← u1, zq_look_75, kZ_look_75, if_pos ⟨by omega, by omega⟩]
      rfl
    rw [zq_look_54, kZ_look_54, h84, if_neg (by omega), if_pos (by omega), zbd_of t1, hd]
    by_cases e : mkT pd sd mm c.1
    · rw [b2_t e, if_neg (by decide), nfL_t e]; exact next a (by omega)
    · obtain ⟨τ, u1, u2⟩ := next (a + 1) (by omega)
      refine ⟨τ, ?_, u2⟩
      rw [b2_f e, if_pos rfl, if_pos ⟨by omega, by omega⟩, nfL_f e, show a + (1 + nfL pd sd mm (Cs.drop (i + 1))) = a + 1 + nfL pd sd mm (Cs.drop (i + 1)) by omega, ← u1]
      rfl
/-- textIsTrue, also without a CLAUSE -/
theorem ttQ {ar : Int → Nat} {pd : Int → Prop} {m9 : Int} {γ : Nat} (hγ : 111 ≤ γ) {ρ : zS} {A : PA} {P : List Int} (q : RQ0 ar pd m9 ρ A P) {mm T : Nat} (m1 : 1 ≤ mm) (m3 : mm ≤ 3) (hT : T ≤ A.1.length) (hm : ρ.1 125 = (mm : Int)) (hl : ρ.1 85 = (T : Int)) : ∃ τ, zE tM_textIsTrue γ ρ [] = some (τ, b2 (txT pd (ρ.1 124) mm A.1 T)) ∧ FrC [] [126] ρ τ := by
  rcases q with q | q
  · exact tt_ok hγ q.1.2.2.2.2.2 m1 m3 hT q.1.1 q.1.2.2.1 hm hl
  · have hT0 : T = 0 := by have := q.1; rw [this] at hT; simpa using hT
    refine ⟨ρ, ?_, FrC.refl⟩
    have ht : txT pd (ρ.1 124) mm A.1 T := fun k c hk => by omega
    rw [b2_t ht, zq_textIsTrue, kZ_textIsTrue, zq_textIsTrue_2, kZ_textIsTrue_2, hl, hT0, if_pos (by decide)]
theorem plook_ok {σ ρ : zS} {n : Nat} (h : TL qo σ ρ n) (h3 : σ.2.2 3000 = 0) {β γ : Nat} (hβ : 6 ≤ β) (hγ : 112 ≤ γ) {x y : Int} : An qo (yE tP_CP_look β σ [x, y]) (zE tM_look γ ρ [x, y]) σ mTI n := by
  have hz := h.zr
  obtain ⟨ar, pd, m9, A, P, T, nm, o, ⟨d1, d2, d3, d4, d5, d6⟩, s, c, q, r, i⟩ := id h
  by_cases q0 : y < 1 ∨ 3 < y
  · refine An.th (c := 2) (r := 0) (κ := zI ρ 4 1) (s := 0) (by decide) ?_ ?_ zI_1 h.t
    · have e10 : yE tP_CP_look_p10 β σ [x, y] = some (zT σ 2, 0) := by rw [yq_CP_look_p10, kY_CP_look_p10, if_pos hz, lt_e]
      rw [yq_CP_look, kY_CP_look]
      by_cases q1 : y < 1
      · rw [if_pos q1]; exact e10
      · rw [if_neg q1, if_neg (by omega)]; exact e10
    · have e17 : zE tM_look_17 γ (zI ρ 4 0) [x, y, 1] = some (zI ρ 4 1, 0) := by
        rw [zq_look_17, kZ_look_17, zq_look_22, kZ_look_22, if_pos (by omega), zbd_of ref_1, if_neg (by decide), zI_zI]
      rw [zq_look, kZ_look, lt_e]
      by_cases q1 : y < 1
      · rw [if_pos q1]; exact e17
      · rw [if_neg q1, if_neg (by omega)]; exact e17
  obtain ⟨k, hk⟩ : ∃ k : Nat, y = (k : Int) := ⟨y.toNat, by omega⟩
  subst hk
  have wC := s.1.2.2.2.2.2.2.2.2.2.1
  obtain ⟨τ, t1, t2, t3, t4⟩ := suit_ok (β := β - 1) (by omega) d2 wC (m := k) (L := T) (by omega) (by omega) d1 s.1.1 s.1.2.2.1 c.2.1 (sd := x)
  obtain ⟨ρ1, hρ1⟩ : ∃ z, z = zI (zI (zI ρ 4 0) 124 x) 125 (k : Int) := ⟨_, rfl⟩
  have g1 : FrC [4, 124, 125] [123, 126] ρ ρ1 := by
    have b : FrC [4, 124, 125] [123, 126] ρ (zI ρ 4 0) := FrC_I
    rw [hρ1]; exact (b.trans FrC_I).trans FrC_I
  have q1 := q.f g1 g1.pq
  have e124 : ρ1.1 124 = x := by rw [hρ1, zI_o, zI_1]
  have e125 : ρ1.1 125 = (k : Int) := by rw [hρ1, zI_1]
  obtain ⟨κ, u1, u2⟩ := ttQ (γ := γ - 1) (by omega) q1 (mm := k) (T := T) (by omega) (by omega) d1 e125 (by rw [g1.i 85]; exact r.2.2.1)
  rw [e124] at u1
  have g2 : FrC [4, 124, 125] [123, 126] ρ κ := g1.trans u2.w
  have f2 : FrC [6904, 6905] [70, 71] σ τ := t2
  have h4 : ∀ {ω : zS}, FrC [] [126] κ ω → ω.1 4 = 0 := fun {ω} w => by rw [w.i 4, u2.i 4, hρ1, zI_o, zI_o, zI_1]
  have goZ : ∀ {R : Option zR}, (if b2 (txT pd x k A.1 T) = 0 then (some (κ, (-1))) else (zE tM_look_54 γ κ [x, (k : Int), 0, 0])) = R → zE tM_look γ ρ [x, (k : Int)] = R := fun {R} hR => by
    rw [zq_look, kZ_look, lt_e, if_neg (by omega), if_pos (by omega), zq_look_22, kZ_look_22, if_pos (by omega), zbd_of ref_0, if_pos rfl, lt_e, lt_e, ← hρ1, if_pos (by omega), zbd_of u1]
    exact hR
  have goY : ∀ {R : Option zR}, (if b2 (txT pd x k A.1 T) = 0 then (some (τ, (-1))) else (yE tP_CP_look_p46 β τ [x, (k : Int), 0, (τ.1 5403)])) = R → yE tP_CP_look β σ [x, (k : Int)] = R := fun {R} hR => by
    rw [yq_CP_look, kY_CP_look, if_neg (by omega), if_pos (by omega), if_pos (by omega), zbd_of t1]
    exact hR
  by_cases ht : txT pd x k A.1 T
  · obtain ⟨τ2, v1, v2⟩ := lkY (β := β) (by omega) d2 wC (mm := k) (by omega) (by omega) (sd := x) (x0 := x) (x1 := (k : Int)) (A.1.length - T) T 0 τ (by omega) (by omega) (s.1.1.f f2) (s.1.2.2.1.f f2) t4 t3
    have q2 := q1.f u2 u2.pq
    obtain ⟨κ2, w1, w2⟩ := lkZ (ar := ar) (m9 := m9) (γ := γ) (by omega) wC (mm := k) (by omega) (by omega) (sd := x) (x0 := x) (x1 := (k : Int)) q2.n.2.2 A.1.length 0 0 κ (by omega) (by omega) q2.n.1 (fun hl => ⟨(q2.s 0 hl).1.1, (q2.s 0 hl).1.2.2.1⟩) (by rw [u2.i 125]; exact e125) (by rw [u2.i 124]; exact e124)
    rw [List.drop_zero] at w1
    rw [nfL_drop ht] at v1
    refine An.ok (τ := τ2) (κ := κ2) (r := ((0 + nfL pd x k A.1 : Nat) : Int)) (goY ?_) (goZ ?_) ?_ (h4 w2) rfl ?_ (h.o (f2.trans v2.w) (g2.trans w2.w))
    · rw [b2_t ht, if_neg (by decide), f2.i 5403, c.2.1]; exact v1
    · rw [b2_t ht, if_neg (by decide)]; exact w1
    · rw [v2.l 3000, f2.l 3000]; exact h3
    · exact f2.2.2.2.trans v2.2.2.2
  · refine An.ok (τ := τ) (κ := κ) (r := -1) (goY ?_) (goZ ?_) (by rw [f2.l 3000]; exact h3) (h4 FrC.refl) rfl f2.2.2.2 (h.o f2 g2)
    · rw [b2_f ht, if_pos rfl]
    · rw [b2_f ht, if_pos rfl]
theorem psea_ok {σ ρ : zS} {n : Nat} (h : TL qo σ ρ n) (h3 : σ.2.2 3000 = 0) {β γ : Nat} (hβ : 6 ≤ β) (hγ : 112 ≤ γ) {x y w : Int} : An qo (yE tP_CP_search β σ [x, y, w]) (zE tM_search γ ρ [x, y, w]) σ mTI n := by
  have hz := h.zr
  by_cases q0 : y < 1 ∨ 3 < y ∨ w < 1 ∨ 50 < w
  · refine An.th (c := 2) (r := 0) (κ := zI ρ 4 1) (s := 0) (by decide) ?_ ?_ zI_1 h.t
    · have e10 : yE tP_CP_search_p21 β σ [x, y, w] = some (zT σ 2, 0) := by rw [yq_CP_search_p21, kY_CP_search_p21, if_pos hz, lt_e]
      rw [yq_CP_search, kY_CP_search]
      by_cases q1 : y < 1
      · rw [if_pos q1]; exact e10
      by_cases q2 : 3 < y
      · rw [if_neg q1, if_pos q2]; exact e10
      by_cases q3 : w < 1
      · rw [if_neg q1, if_neg q2, if_pos q3]; exact e10
      · rw [if_neg q1, if_neg q2, if_neg q3, if_neg (by omega)]; exact e10
    · have e17 : zE tM_search_28 γ (zI ρ 4 0) [x, y, w, 1] = some (zI ρ 4 1, 0) := by
        rw [zq_search_28, kZ_search_28, zq_search_33, kZ_search_33, if_pos (by omega), zbd_of ref_1, if_neg (by decide), zI_zI]
      rw [zq_search, kZ_search, lt_e]
      by_cases q1 : y < 1
      · rw [if_pos q1]; exact e17
      by_cases q2 : 3 < y
      · rw [if_neg q1, if_pos q2]; exact e17
      by_cases q3 : w < 1
      · rw [if_neg q1, if_neg q2, if_pos q3]; exact e17
      · rw [if_neg q1, if_neg q2, if_neg q3, if_neg (by omega)]; exact e17
  obtain ⟨k, hk⟩ : ∃ k : Nat, y = (k : Int) := ⟨y.toNat, by omega⟩
  subst hk
  obtain ⟨ρ1, hρ1⟩ : ∃ z, z = zI (zI ρ 4 0) 125 (k : Int) := ⟨_, rfl⟩
  have g1 : FrC [4, 124, 125] [123, 126] ρ ρ1 := by
    have b : FrC [4, 124, 125] [123, 126] ρ (zI ρ 4 0) := FrC_I
    rw [hρ1]; exact b.trans FrC_I
  have goZ : ∀ {R : Option zR}, zE tM_search_49 γ ρ1 [x, (k : Int), w, 0] = R → zE tM_search γ ρ [x, (k : Int), w] = R := fun {R} hR => by
    rw [zq_search, kZ_search, lt_e, if_neg (by omega), if_neg (by omega), if_neg (by omega), if_pos (by omega), zq_search_33, kZ_search_33, if_pos (by omega), zbd_of ref_0, if_pos rfl, lt_e, ← hρ1]
    exact hR
  have goY : ∀ {R : Option zR}, yE tP_CP_search_p35 β σ [x, (k : Int), w, 0] = R → yE tP_CP_search β σ [x, (k : Int), w] = R := fun {R} hR => by
    rw [yq_CP_search, kY_CP_search, if_neg (by omega), if_neg (by omega), if_neg (by omega), if_pos (by omega)]
    exact hR
  have loop : ∀ (m j : Nat) (σ ρ : zS), (j : Int) + (m : Int) = w → TL qo σ ρ n → σ.2.2 3000 = 0 → ρ.1 4 = 0 → ρ.1 125 = (k : Int) → ∃ τ r κ, yE tP_CP_search_p35 β σ [x, (k : Int), w, (j : Int)] = some (τ, r) ∧ zE tM_search_49 γ ρ [x, (k : Int), w, (j : Int)] = some (κ, r) ∧ τ.2.2 3000 = 0 ∧ κ.1 4 = 0 ∧ Mg σ τ ∧ TL qo τ κ n := by
    intro m
    induction m with
    | zero =>
      intro j σ ρ hj h h3 h4 h5
      refine ⟨σ, -1, ρ, ?_, ?_, h3, h4, Mg.refl, h⟩
      · rw [yq_CP_search_p35, kY_CP_search_p35, if_pos (by omega)]
      · rw [zq_search_49, kZ_search_49, if_pos (by omega)]
    | succ m ih =>
      intro j σ ρ hj h h3 h4 h5
      obtain ⟨ar, pd, m9, A, P, T, nm, o, ⟨d1, d2, d3, d4, d5, d6⟩, s, c, q, r, i⟩ := id h
      have wC := s.1.2.2.2.2.2.2.2.2.2.1
      obtain ⟨τ, t1, t2, t3, t4⟩ := suit_ok (β := β - 1) (by omega) d2 wC (m := k) (L := T) (by omega) (by omega) d1 s.1.1 s.1.2.2.1 c.2.1 (sd := zwa x (j : Int))
      obtain ⟨ρ2, hρ2⟩ : ∃ z, z = zI ρ 124 (zwa x (j : Int)) := ⟨_, rfl⟩
      have g2 : FrC [4, 124, 125] [123, 126] ρ ρ2 := by rw [hρ2]; exact FrC_I
      have q2 := q.f g2 g2.pq
      have e124 : ρ2.1 124 = zwa x (j : Int) := by rw [hρ2, zI_1]
      obtain ⟨κ, u1, u2⟩ := ttQ (γ := γ - 1) (by omega) q2 (mm := k) (T := T) (by omega) (by omega) d1 (by rw [hρ2, zI_o]; exact h5) (by rw [g2.i 85]; exact r.2.2.1)
      rw [e124] at u1
      have g3 : FrC [4, 124, 125] [123, 126] ρ κ := g2.trans u2.w
      have f2 : FrC [6904, 6905] [70, 71] σ τ := t2
      have k4 : κ.1 4 = 0 := by rw [u2.i 4, hρ2, zI_o]; exact h4
      have k5 : κ.1 125 = (k : Int) := by rw [u2.i 125, hρ2, zI_o]; exact h5
      have l3 : τ.2.2 3000 = 0 := by rw [f2.l 3000]; exact h3
      have h2 := h.o f2 g3
      have eY : yE tP_CP_search_p35 β σ [x, (k : Int), w, (j : Int)] = (if b2 (txT pd (zwa x (j : Int)) k A.1 T) = 0 then (if zr ((j : Int) + 1) then (yE tP_CP_search_p35 β τ [x, (k : Int), w, ((j : Int) + 1)]) else none) else (some (τ, (j : Int)))) := by
        rw [yq_CP_search_p35, kY_CP_search_p35, if_neg (by omega), if_pos (by omega), zbd_of t1]
      have eZ : zE tM_search_49 γ ρ [x, (k : Int), w, (j : Int)] = (if b2 (txT pd (zwa x (j : Int)) k A.1 T) = 0 then (if zr ((j : Int) + 1) then (zE tM_search_49 γ κ [x, (k : Int), w, ((j : Int) + 1)]) else none) else (some (κ, (j : Int)))) := by
        rw [zq_search_49, kZ_search_49, if_neg (by omega), lt_e, ← hρ2, if_pos (by omega), zbd_of u1]
      rw [eY, eZ]
      by_cases ht : txT pd (zwa x (j : Int)) k A.1 T
      · rw [b2_t ht, if_neg (by decide), if_neg (by decide)]
        exact ⟨_, _, _, rfl, rfl, l3, k4, f2.2.2.2, h2⟩
      · rw [b2_f ht, if_pos rfl, if_pos rfl, if_pos ⟨by omega, by omega⟩, if_pos ⟨by omega, by omega⟩]
        obtain ⟨τ3, r3, κ3, a1, a2, a3, a4, a5, a6⟩ := ih (j + 1) τ κ (by omega) h2 l3 k4 k5
        exact ⟨τ3, r3, κ3, a1, a2, a3, a4, f2.2.2.2.trans a5, a6⟩
  obtain ⟨τ, r, κ, a1, a2, a3, a4, a5, a6⟩ := loop w.toNat 0 σ ρ1 (by omega) (h.o FrC.refl g1) h3 (by rw [hρ1, zI_o, zI_1]) (by rw [hρ1, zI_1])
  exact An.ok (goY a1) (goZ a2) a3 a4 rfl a5 a6
