/-! SUPERPOSITION into a side, and all of two CLAUSES -/
noncomputable def spS (ar : Int → Nat) (pd : Int → Prop) (m9 : Int) (k1 : Nat) (C1 : List Lt) (i : Nat) (a : Lt) (s : Int) (k2 : Nat) (C2 : List Lt) (j : Nat) (b : Lt) (t : Int) (o : Nat) (A : PA) : PA := match sbF o (tt (sdT b t)) with
  | some y => if cl y.1 < 0 then A else infA ar pd m9 1 (k1 : Int) (k2 : Int) (sdT a s) (shT 6 y) (oth i C1.length 0 C1 ++ rpL (sdT a (1 - s)) j t o 0 C2) A
  | none => A
/-- f at o, o + 1 .. while the state is 0 -/
noncomputable def wh (f : Nat → PA → PA) : Nat → Nat → PA → PA
  | 0, _, A => A
  | m + 1, o, A => if A.2 87 = 0 then wh f m (o + 1) (f o A) else A
theorem spS_ext {ar : Int → Nat} {pd : Int → Prop} {m9 : Int} {k1 : Nat} {C1 : List Lt} {i : Nat} {a : Lt} {s : Int} {k2 : Nat} {C2 : List Lt} {j : Nat} {b : Lt} {t : Int} {o : Nat} {A : PA} : ∃ Z, (spS ar pd m9 k1 C1 i a s k2 C2 j b t o A).1 = A.1 ++ Z := by
  unfold spS
  cases sbF o (tt (sdT b t)) with
  | none => exact ⟨[], by simp⟩
  | some y =>
    dsimp only
    split
    · exact ⟨[], by simp⟩
    · exact infA_87.1
theorem wh_ext {f : Nat → PA → PA} (hf : ∀ o A, ∃ Z, (f o A).1 = A.1 ++ Z) : ∀ (m o : Nat) (A : PA), ∃ Z, (wh f m o A).1 = A.1 ++ Z
  | 0, _, A => ⟨[], by simp [wh]⟩
  | m + 1, o, A => by
    unfold wh
    split
    · obtain ⟨Z, hZ⟩ := wh_ext hf m (o + 1) (f o A)
      obtain ⟨Y, hY⟩ := hf o A
      exact ⟨Y ++ Z, by rw [hZ, hY, List.append_assoc]⟩
    · exact ⟨[], by simp⟩
/-- the cell at o -/
theorem HL.c {σ : zS} {p : Int} {a : Lt} (h : HL σ p a) {s : Int} {o : Nat} {y : Tm} (hy : sbF o (tt (sdT a s)) = some y) : σ.2.1 48 (sdp p a s + (o : Int)) = cl y.1 ∧ 0 ≤ sdp p a s + (o : Int) ∧ sdp p a s + (o : Int) < (σ.2.2 48 : Int) ∧ σ.2.2 48 ≤ 565000 := by
  obtain ⟨h1, h2, h3⟩ := h.sd (s := s)
  obtain ⟨_, _, _, _, _, _, _, h8, h9⟩ := h
  obtain ⟨q1, q2⟩ := sb_Fl h1 hy
  have ty := tw_pos y
  have e1 : wt (tt (sdT a s)) = tw (sdT a s) := by simp only [tt, wt, tw]; omega
  exact ⟨q1.1, by omega, by omega, h9⟩
theorem into_loop {ar : Int → Nat} {pd : Int → Prop} {m9 : Int} {β : Nat} (hβ : 170 ≤ β) {k1 k2 : Nat} {c1 c2 : CL} {i j : Nat} {a b : Lt} (ha : c1.1[i]? = some a) (hb : c2.1[j]? = some b) {s t : Int} (hs : s = 0 ∨ s = 1) (ht : t = 0 ∨ t = 1) {P1 P2 : Int} : ∀ (m o : Nat) (σ : zS) (A : PA), CI ar pd m9 σ A → A.1[k1]? = some c1 → A.1[k2]? = some c2 → pos A.1 k1 = P1 → pos A.1 k2 = P2 → o + m = tw (sdT b t) →
    ∃ τ, yE tG_Sat_superposeInto_p44 β σ [(k1 : Int), hp P1 c1.1 i, s, (k2 : Int), hp P2 c2.1 j, t, sdp (hp P1 c1.1 i) a s, sdp (hp P2 c2.1 j) b t, sdp (hp P2 c2.1 j) b t + (tw (sdT b t) : Int), sdp (hp P2 c2.1 j) b t + (o : Int)] = some (τ, 0) ∧ CI ar pd m9 τ (wh (spS ar pd m9 k1 c1.1 i a s k2 c2.1 j b t) m o A) ∧ IF σ τ
  | 0, o, σ, A, hI, h1, h2, p1, p2, hm => by
    refine ⟨σ, ?_, by unfold wh; exact hI, FrC.refl⟩
    rw [yq_Sat_superposeInto_p44, kY_Sat_superposeInto_p44, if_pos (by omega), yq_Sat_superposeInto_p195, kY_Sat_superposeInto_p195]
  | m + 1, o, σ, A, hI, h1, h2, p1, p2, hm => by
    obtain ⟨d1, d2, d3, d4, d5, d6, d7, d8, d9, d10, d11, d12⟩ := id hI
    have e87 : σ.1 5300 = A.2 87 := d4.1
    rw [yq_Sat_superposeInto_p44, kY_Sat_superposeInto_p44, if_neg (by omega)]
    unfold wh
    by_cases h0 : A.2 87 = 0
    · have ew : wt (tt (sdT b t)) = tw (sdT b t) := by simp only [tt, wt, tw]; omega
      obtain ⟨y, hy⟩ := sb_ex (F := tt (sdT b t)) (o := o) (by omega)
      obtain ⟨u1, u2, u3, u4⟩ := (d3.hl h2 hb).c hy
      obtain ⟨v1, v2, v3, _⟩ := (d3.hl h1 ha).c (s := s) (o := 0) (y := sdT a s) rfl
      rw [p2] at u1 u2 u3
      rw [p1] at v1 v2 v3
      rw [show sdp (hp P1 c1.1 i) a s + ((0 : Nat) : Int) = sdp (hp P1 c1.1 i) a s by simp] at v1 v2 v3
      obtain ⟨Z, hZ⟩ := spS_ext (ar := ar) (pd := pd) (m9 := m9) (k1 := k1) (C1 := c1.1) (i := i) (a := a) (s := s) (k2 := k2) (C2 := c2.1) (j := j) (b := b) (t := t) (o := o) (A := A)
      have l1 := (List.getElem?_eq_some_iff.mp h1).1
      have l2 := (List.getElem?_eq_some_iff.mp h2).1
      have next : ∀ ρ : zS, CI ar pd m9 ρ (spS ar pd m9 k1 c1.1 i a s k2 c2.1 j b t o A) → IF σ ρ → ∃ τ, yE tG_Sat_superposeInto_p189 β ρ [(k1 : Int), hp P1 c1.1 i, s, (k2 : Int), hp P2 c2.1 j, t, sdp (hp P1 c1.1 i) a s, sdp (hp P2 c2.1 j) b t, sdp (hp P2 c2.1 j) b t + (tw (sdT b t) : Int), sdp (hp P2 c2.1 j) b t + (o : Int), cl (sdT a s).1, cl y.1] = some (τ, 0) ∧ CI ar pd m9 τ (wh (spS ar pd m9 k1 c1.1 i a s k2 c2.1 j b t) m (o + 1) (spS ar pd m9 k1 c1.1 i a s k2 c2.1 j b t o A)) ∧ IF σ τ := fun ρ hρ fρ => by
        obtain ⟨τ, t1, t2, t3⟩ := into_loop hβ ha hb hs ht (P1 := P1) (P2 := P2) m (o + 1) ρ _ hρ (by rw [hZ]; exact get_app h1) (by rw [hZ]; exact get_app h2) (by rw [hZ, pos_app l1]; exact p1) (by rw [hZ, pos_app l2]; exact p2) (by omega)
        refine ⟨τ, ?_, t2, fρ.trans t3⟩
        rw [yq_Sat_superposeInto_p189, kY_Sat_superposeInto_p189, if_pos (by omega)]
        rw [show sdp (hp P2 c2.1 j) b t + (o : Int) + 1 = sdp (hp P2 c2.1 j) b t + ((o + 1 : Nat) : Int) by omega]
        exact t1
      rw [if_pos h0, if_pos (by omega), if_pos ⟨v2, v3⟩, if_pos ⟨u2, u3⟩, u1, v1]
      by_cases n1 : cl y.1 < 0
      · rw [if_pos n1]
        refine next σ ?_ FrC.refl
        unfold spS; rw [hy]; dsimp only; rw [if_pos n1]; exact hI
      · rw [if_neg n1]
        have eS : spS ar pd m9 k1 c1.1 i a s k2 c2.1 j b t o A = infA ar pd m9 1 (k1 : Int) (k2 : Int) (sdT a s) (shT 6 y) (oth i c1.1.length 0 c1.1 ++ rpL (sdT a (1 - s)) j t o 0 c2.1) A := by
          unfold spS; rw [hy]; dsimp only; rw [if_neg n1]
        have go : ∃ τ, yE tG_Sat_superposeInto_p108 β σ [(k1 : Int), hp P1 c1.1 i, s, (k2 : Int), hp P2 c2.1 j, t, sdp (hp P1 c1.1 i) a s, sdp (hp P2 c2.1 j) b t, sdp (hp P2 c2.1 j) b t + (tw (sdT b t) : Int), sdp (hp P2 c2.1 j) b t + (o : Int), cl (sdT a s).1, cl y.1] = some (τ, 0) ∧ CI ar pd m9 τ (wh (spS ar pd m9 k1 c1.1 i a s k2 c2.1 j b t) m (o + 1) (spS ar pd m9 k1 c1.1 i a s k2 c2.1 j b t o A)) ∧ IF σ τ := by
          obtain ⟨ρ, r1, r2, r3⟩ := sup_step hβ hI h1 h2 ha hb hs ht hy (x4 := hp P2 c2.1 j) (x7 := sdp (hp P2 c2.1 j) b t) (x8 := sdp (hp P2 c2.1 j) b t + (tw (sdT b t) : Int)) (x10 := cl (sdT a s).1) (x11 := cl y.1) (u := sdp (hp P2 c2.1 j) b t + (o : Int)) (by rw [p2])
          rw [p1] at r1
          rw [r1]
          exact next ρ (by rw [eS]; exact r2) r3
        by_cases n2 : cl (sdT a s).1 < 0
        · rw [if_pos n2]; exact go
        · rw [if_neg n2]
          by_cases n3 : cl (sdT a s).1 = cl y.1
          · rw [if_pos n3]; exact go
          · rw [if_neg n3]
            refine next σ ?_ FrC.refl
            rw [eS, infA_no]
            · exact hI
            · intro θ hθ
              have h := hθ.2
              have hn : ¬ cl (shT 6 y).1 < 0 := by rw [shT_f n1]; exact n1
              rw [st_f θ n2, st_f θ hn] at h
              have := congrArg Prod.fst h
              dsimp only at this
              rw [shT_f n1] at this
              exact n3 (by rw [this])
    · rw [if_neg h0, if_neg (by omega), yq_Sat_superposeInto_p195, kY_Sat_superposeInto_p195]
      exact ⟨σ, rfl, hI, FrC.refl⟩
theorem into_ok {ar : Int → Nat} {pd : Int → Prop} {m9 : Int} {β : Nat} (hβ : 170 ≤ β) {σ : zS} {A : PA} (hI : CI ar pd m9 σ A) {k1 k2 : Nat} {c1 c2 : CL} (h1 : A.1[k1]? = some c1) (h2 : A.1[k2]? = some c2) {i j : Nat} {a b : Lt} (ha : c1.1[i]? = some a) (hb : c2.1[j]? = some b) {s t : Int} (hs : s = 0 ∨ s = 1) (ht : t = 0 ∨ t = 1) : ∃ τ, yE tG_Sat_superposeInto β σ [(k1 : Int), hp (pos A.1 k1) c1.1 i, s, (k2 : Int), hp (pos A.1 k2) c2.1 j, t] = some (τ, 0) ∧ CI ar pd m9 τ (wh (spS ar pd m9 k1 c1.1 i a s k2 c2.1 j b t) (tw (sdT b t)) 0 A) ∧ IF σ τ := by
  have d3 := hI.2.2.1
  have hl1 := d3.hl h1 ha
  have hl2 := d3.hl h2 hb
  obtain ⟨q1, q2, q3⟩ := hl2.sd (s := t)
  obtain ⟨_, _, _, _, _, _, _, q8, q9⟩ := id hl2
  obtain ⟨τ, t1, t2, t3⟩ := into_loop hβ ha hb hs ht (P1 := pos A.1 k1) (P2 := pos A.1 k2) (tw (sdT b t)) 0 σ A hI h1 h2 rfl rfl (by omega)
  refine ⟨τ, ?_, t2, t3⟩
  rw [yq_Sat_superposeInto, kY_Sat_superposeInto, if_pos (by omega), zbd_of (side_ok hl1 hs), if_pos (by omega), zbd_of (side_ok hl2 ht), if_pos (by omega), zbd_of (size_ok hl2 ht), if_pos (by omega)]
  rw [show sdp (hp (pos A.1 k2) c2.1 j) b t + ((0 : Nat) : Int) = sdp (hp (pos A.1 k2) c2.1 j) b t by simp] at t1
  exact t1
