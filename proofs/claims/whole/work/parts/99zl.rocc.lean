/-! the reference's values: valueOf 106, bankOf 107 -/
/-- below what is built anew -/
def Pl (σ : zS) (x : Tm) (t : Int) : Prop := Pt σ x.1 x.2 t ∧ t + 1 + (wt x.2 : Int) ≤ 205000
theorem Pl.x {σ : zS} {x : Tm} {t : Int} (h : Pl σ x t) : Px σ x t := ⟨h.1, by have := h.2; omega⟩
def AT (ar : Int → Nat) (m9 : Int) (σ : zS) (t b : Int) (x : Tm) : Prop := Pl σ x t ∧ wf ar (lb m9) (tt x) ∧ (b = 0 ∨ b = 6) ∧ tw x ≤ 100
def EB (ar : Int → Nat) (pd : Int → Prop) (m9 : Int) (σ : zS) (B : Ev) : Prop := (∀ v, 0 ≤ v → v < 12 → B v = none → σ.2.1 106 v < 0) ∧ (∀ v X, B v = some X → 0 ≤ v ∧ v < 12 ∧ ∃ x, X = shT (σ.2.1 107 v) x ∧ AT ar m9 σ (σ.2.1 106 v) (σ.2.1 107 v) x ∧ ¬ (0 ≤ cl x.1 ∧ pd (cl x.1))) ∧ ∃ r : Int → Nat, ac B r ∧ ∀ v, r v ≤ 12
/-- one of a forest's TERMS -/
def kd (z : Tm) : T → Prop
  | .leaf _ => False
  | .branch n k s => z = (n, k) ∨ kd z s
theorem kd_vi {v : Int} {z : Tm} : ∀ {F : T}, kd z F → vi v (tt z) → vi v F
  | .leaf _, h, _ => h.elim
  | .branch n k s, h, hv => by
    rcases h with rfl | h
    · rcases hv with w | w
      · exact Or.inl w
      · exact w.elim
    · exact Or.inr (kd_vi h hv)
theorem vi_kd {v : Int} : ∀ {F : T}, vi v F → ∃ z, kd z F ∧ vi v (tt z)
  | .leaf _, h => h.elim
  | .branch n k s, h => by
    rcases h with h | h
    · exact ⟨(n, k), Or.inl rfl, Or.inl h⟩
    · obtain ⟨z, z1, z2⟩ := vi_kd h
      exact ⟨z, Or.inr z1, z2⟩
theorem kd_ht {z : Tm} : ∀ {F : T}, kd z F → ht (tt z) ≤ ht F
  | .leaf _, h => h.elim
  | .branch n k s, h => by
    rcases h with rfl | h
    · simp only [tt, ht]; omega
    · have := kd_ht h
      simp only [tt, ht] at this ⊢; omega
theorem kd_sh {b : Int} {z : Tm} : ∀ {F : T}, kd z (sh b F) → ∃ y, kd y F ∧ z = shT b y
  | .leaf _, h => h.elim
  | .branch n k s, h => by
    rcases h with h | h
    · exact ⟨(n, k), Or.inl rfl, h⟩
    · obtain ⟨y, y1, y2⟩ := kd_sh h
      exact ⟨y, Or.inr y1, y2⟩
theorem sh_kd {b : Int} {z : Tm} : ∀ {F : T}, kd z F → kd (shT b z) (sh b F)
  | .leaf _, h => h.elim
  | .branch n k s, h => by
    rcases h with rfl | h
    · exact Or.inl rfl
    · exact Or.inr (sh_kd h)
/-- n frames are enough for it -/
def DB (B : Ev) : Nat → Tm → Prop
  | 0, _ => False
  | n + 1, X => if cl X.1 < 0 then ∀ Y, B (-1 - cl X.1) = some Y → DB B n Y else ∀ z, kd z X.2 → DB B n z
theorem DB_s {B : Ev} : ∀ {n : Nat} {X : Tm}, DB B n X → DB B (n + 1) X
  | 0, X, h => h.elim
  | n + 1, X, h => by
    unfold DB at h ⊢
    by_cases hc : cl X.1 < 0
    · rw [if_pos hc] at h ⊢
      exact fun Y hY => DB_s (h Y hY)
    · rw [if_neg hc] at h ⊢
      exact fun z hz => DB_s (h z hz)
theorem DB_m {B : Ev} {n m : Nat} {X : Tm} (h : DB B n X) (hm : n ≤ m) : DB B m X := by
  induction m with
  | zero =>
    have : n = 0 := by omega
    subst this; exact h
  | succ m ih =>
    by_cases e : n = m + 1
    · rw [← e]; exact h
    · exact DB_s (ih (by omega))
theorem DB_ex {ar : Int → Nat} {pd : Int → Prop} {m9 : Int} {σ : zS} {B : Ev} {r : Int → Nat} (hB : EB ar pd m9 σ B) (hr : ac B r) : ∀ (S h : Nat) (X : Tm), (∀ w, vi w (tt X) → r w < S) → ht (tt X) ≤ h → DB B (h + 102 * S + 1) X
  | S, 0, X, hw, hh => by simp only [tt, ht] at hh; omega
  | S, h + 1, X, hw, hh => by
    show DB B (h + 1 + 102 * S + 1) X
    unfold DB
    by_cases hc : cl X.1 < 0
    · rw [if_pos hc]
      intro Y hY
      have hs := hw (-1 - cl X.1) (Or.inl (by simp only [hc, if_true]))
      obtain ⟨_, _, x, hx, hA, _⟩ := hB.2.1 _ Y hY
      have hY100 : ht (tt Y) ≤ 100 := by
        rw [hx, ← sh_tt, sh_ht]
        have := ht_le_wt (tt x)
        have e := tt_wt x
        have := hA.2.2.2
        omega
      obtain ⟨S', rfl⟩ : ∃ S', S = S' + 1 := ⟨S - 1, by omega⟩
      have := DB_ex hB hr S' 100 Y (fun w hv => by have := hr _ Y hY w hv; omega) hY100
      exact DB_m this (by omega)
    · rw [if_neg hc]
      intro z hz
      have hz2 := kd_ht hz
      have := DB_ex hB hr S h z (fun w hv => hw w (Or.inl (by simp only [hc, if_false]; exact kd_vi hz hv))) (by simp only [tt, ht] at hh hz2 ⊢; omega)
      exact DB_m this (by omega)
termination_by S h _ => (S, h)
theorem AT.v {ar : Int → Nat} {m9 : Int} {σ : zS} {t b v : Int} {x : Tm} (h : AT ar m9 σ t b x) (hv : vi v (tt (shT b x))) : 0 ≤ v ∧ v < 12 := by
  obtain ⟨_, hw, hb, _⟩ := h
  rw [← sh_tt] at hv
  have := vi_lb hw ((vi_sh (by omega)).mp hv)
  omega
theorem DB_1430 {ar : Int → Nat} {pd : Int → Prop} {m9 : Int} {σ : zS} {B : Ev} (hB : EB ar pd m9 σ B) {t b : Int} {x : Tm} (hx : AT ar m9 σ t b x) : DB B 1430 (shT b x) := by
  obtain ⟨r, hr, hr2⟩ := hB.2.2
  have h1 : ht (tt (shT b x)) ≤ 100 := by
    rw [← sh_tt, sh_ht]
    have := ht_le_wt (tt x)
    have e := tt_wt x
    have := hx.2.2.2
    omega
  exact DB_m (DB_ex hB hr 13 100 (shT b x) (fun w _ => by have := hr2 w; omega) h1) (by omega)
/-! does a VARIABLE occur -/
def oc (B : Ev) (v : Int) (X : Tm) : Prop := ∃ w, vi w (tt X) ∧ RZ id B (fun u => u = v) w
theorem oc_ok {ar : Int → Nat} {pd : Int → Prop} {m9 : Int} {σ : zS} {B : Ev} (hB : EB ar pd m9 σ B) {v : Int} : ∀ (β : Nat) (t b : Int) (x : Tm), AT ar m9 σ t b x → DB B β (shT b x) → zE tM_occurs β σ [v, t, b] = some (σ, b2 (oc B v (shT b x)))
  | 0, t, b, x, hx, hd => hd.elim
  | β + 1, t, b, x, hx, hd => by
    obtain ⟨hP, hw, hb, h100⟩ := id hx
    have kb := Pt_kid hP.1 hP.2 (by omega)
    have hP4 := hP.1.2.2.2.1
    have c43 := hP.1.2.1
    have t0 := hP.1.1
    have t1 := hP.2
    have e66 : ∀ (a c r : Int), (r = 0 ∨ r = 1) → zE tM_occurs_66 (β + 1) σ [v, t, b, c, r] = some (σ, r) := fun a c r h => by rw [zq_occurs_66, kZ_occurs_66, if_pos h]
    have e65 : ∀ c : Int, zE tM_occurs_65 (β + 1) σ [v, t, b, c] = some (σ, 0) := fun c => by rw [zq_occurs_65, kZ_occurs_65, e66 0 c 0 (Or.inl rfl)]
    rw [zq_occurs, kZ_occurs, if_pos (by omega), c43]
    by_cases hc : cl x.1 < 0
    · have b6 := hw.2.1.1
      have hcs : cl (shT b x).1 = cl x.1 - b := shT_v (by omega) hc
      have hcs' : cl (shT b x).1 < 0 := by omega
      obtain ⟨w, hw0⟩ : ∃ w, w = -1 - cl x.1 + b := ⟨_, rfl⟩
      have viw : ∀ u, vi u (tt (shT b x)) ↔ u = w := fun u => by
        constructor
        · rintro (h | h)
          · rw [if_pos hcs'] at h; omega
          · exact h.elim
        · intro h
          left; rw [if_pos hcs']; omega
      have oc1 : oc B v (shT b x) ↔ RZ id B (fun u => u = v) w := by
        constructor
        · rintro ⟨u, h1, h2⟩
          rw [(viw u).mp h1] at h2; exact h2
        · intro h; exact ⟨w, (viw w).mpr rfl, h⟩
      rw [b2_c oc1, if_neg (by omega), if_pos (by omega), show (-1 : Int) - cl x.1 + b = w from hw0.symm, if_pos (by omega)]
      by_cases ev : w = v
      · rw [if_pos ev, b2_t (show RZ id B (fun u => u = v) w from RZ.z ev)]
      · rw [if_neg ev, if_pos (by omega)]
        cases hBw : B w with
        | none =>
          rw [if_pos (hB.1 w (by omega) (by omega) hBw), e65, b2_f]
          intro h
          rcases h.inv with h | ⟨y, u, h1, _⟩
          · exact ev h
          · rw [hBw] at h1; cases h1
        | some Y =>
          obtain ⟨_, _, y, hY, hA, _⟩ := hB.2.1 w Y hBw
          have a0 := hA.1.1.1
          have hdY : DB B β Y := by
            unfold DB at hd
            rw [if_pos hcs'] at hd
            exact hd Y (by rw [show -1 - cl (shT b x).1 = w by omega]; exact hBw)
          rw [hY] at hdY
          have ih := oc_ok hB (v := v) β _ _ y hA hdY
          rw [← hY] at ih
          have oc2 : RZ id B (fun u => u = v) w ↔ oc B v Y := by
            constructor
            · intro h
              rcases h.inv with h | ⟨z, u, h1, h2, h3⟩
              · exact absurd h ev
              · rw [hBw] at h1
                obtain rfl := Option.some.inj h1
                exact ⟨u, h2, h3⟩
            · rintro ⟨u, h2, h3⟩
              exact RZ.s hBw h2 h3
          rw [if_neg (by omega), if_pos (by omega), Nat.add_sub_cancel, zbd_of ih, b2_c oc2]
          by_cases q : oc B v Y
          · rw [b2_t q, if_neg (by decide), e66 0 w 1 (Or.inr rfl)]
          · rw [b2_f q, if_pos rfl, e65]
    · have hcs' : ¬ cl (shT b x).1 < 0 := by rw [shT_neg (by omega)]; exact hc
      have hdk : ∀ z, kd z (sh b x.2) → DB B β z := by
        unfold DB at hd
        rw [if_neg hcs'] at hd
        exact hd
      have sib : ∀ (F : T) (u : Int), Pc σ F u → u + (wt F : Int) ≤ 205000 → wf ar (lb m9) F → wt F ≤ 100 → (∀ z, kd z (sh b F) → DB B β z) → zE tM_occurs_75 (β + 1) σ [v, t, b, u] = some (σ, b2 (∃ w, vi w (sh b F) ∧ RZ id B (fun u => u = v) w)) := fun F => by
        induction F using T.ind with
        | h0 =>
          intro u hF _ _ _ _
          have h1 : u < 0 := hF
          rw [zq_occurs_75, kZ_occurs_75, if_pos h1, b2_f]
          rintro ⟨w, h, _⟩
          exact h
        | h1 n k s _ ihs =>
          intro u hF hb2 hwF hwt hDB
          have sb' := Pc_bes hF hb2 (by omega)
          have hPt := (Pc_nd.mp hF).1
          have hF6 := hF.2.2.2.2.2.1
          simp only [wt] at hb2 hwt
          have u0 := hPt.1
          have ih := oc_ok hB (v := v) β u b (n, k) ⟨⟨hPt, by show u + 1 + (wt k : Int) ≤ 205000; omega⟩, ⟨hwF.1, hwF.2.1, hwF.2.2.1, trivial⟩, hb, by show 1 + wt k ≤ 100; omega⟩ (hDB _ (Or.inl rfl))
          rw [zq_occurs_75, kZ_occurs_75, if_neg (by omega), if_pos (by omega), Nat.add_sub_cancel, zbd_of ih]
          have en : (oc B v (shT b (n, k)) ∨ ∃ w, vi w (sh b s) ∧ RZ id B (fun u => u = v) w) ↔ ∃ w, vi w (sh b (nd n k s)) ∧ RZ id B (fun u => u = v) w := by
            constructor
            · rintro (⟨w, h1, h2⟩ | ⟨w, h1, h2⟩)
              · rcases h1 with h1 | h1
                · exact ⟨w, Or.inl h1, h2⟩
                · exact h1.elim
              · exact ⟨w, Or.inr h1, h2⟩
            · rintro ⟨w, h1 | h1, h2⟩
              · exact Or.inl ⟨w, Or.inl h1, h2⟩
              · exact Or.inr ⟨w, h1, h2⟩
          by_cases q : oc B v (shT b (n, k))
          · rw [b2_t q, if_neg (by decide), b2_t (en.mp (Or.inl q))]
          · rw [b2_f q, if_pos rfl, if_pos (by omega), ihs (σ.2.1 45 u) hF6 (by omega) hwF.2.2.2 (by omega) (fun z hz => hDB z (Or.inr hz))]
            congr 2
            exact b2_c ⟨fun w => en.mp (Or.inr w), fun w => (en.mpr w).elim (fun z => absurd z q) id⟩
      have ek : tw x = 1 + wt x.2 := rfl
      rw [if_pos (by omega), sib x.2 (σ.2.1 44 t) hP4 (by omega) hw.2.2.1 (by omega) hdk]
      congr 2
      refine b2_c ?_
      unfold oc
      constructor
      · rintro ⟨w, h1, h2⟩
        exact ⟨w, Or.inl (by rw [if_neg hcs']; exact h1), h2⟩
      · rintro ⟨w, h1 | h1, h2⟩
        · rw [if_neg hcs'] at h1; exact ⟨w, h1, h2⟩
        · exact h1.elim
