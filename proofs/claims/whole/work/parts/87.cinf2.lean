/-! an INFERENCE: if two TERMS have values that make them the same, R with the most general ones put in is a new CLAUSE -/
def MW (ar : Int → Nat) (pd : Int → Prop) (m9 : Int) (X Y : Tm) (θ : Vs) : Prop := Mgu (Sl pd X Y) θ ∧ ∀ v, 0 ≤ v → v < 12 → wf ar (fun c => c < m9) (tt (θ v))
noncomputable def infA (ar : Int → Nat) (pd : Int → Prop) (m9 : Int) (org p t : Int) (X Y : Tm) (R : List Lt) (A : PA) : PA := @dite _ (∃ θ, MW ar pd m9 X Y θ) (Classical.propDecidable _) (fun h => keepA org p t (mpL (st (Classical.choose h)) R) A) (fun _ => A)
theorem su_ge {ar : Int → Nat} {p : Int → Prop} (θ : Vs) : ∀ {F : T}, wf ar p F → wt F ≤ wt (su θ F)
  | .leaf _, _ => by simp [wt]
  | .branch n k s, w => by
    have h1 := su_ge θ w.2.2.1
    have h2 := su_ge θ w.2.2.2
    rw [su_nd]
    by_cases hc : cl n < 0
    · have k0 : k = nl := len0 (by have := w.1; rw [if_pos hc] at this; exact this)
      subst k0
      simp only [wt]; omega
    · rw [st_f θ (x := (n, k)) hc]
      simp only [wt]; omega
theorem wtL_ge {ar : Int → Nat} {p : Int → Prop} (θ : Vs) : ∀ {C : List Lt}, WL ar p C → wtL C ≤ wtL (mpL (st θ) C)
  | [], _ => Nat.le_refl _
  | a :: C, w => by
    have ih := wtL_ge θ (C := C) (fun b hb => w b (List.mem_cons_of_mem _ hb))
    obtain ⟨_, w1, w2⟩ := w a List.mem_cons_self
    have h1 := su_ge θ w1
    have h2 := su_ge θ w2
    rw [tw_st] at h1 h2
    have e1 : wt (tt a.2.1) = tw a.2.1 := by simp only [tt, wt, tw]; omega
    have e2 : wt (tt a.2.2) = tw a.2.2 := by simp only [tt, wt, tw]; omega
    show tw a.2.1 + tw a.2.2 + wtL C ≤ tw (st θ a.2.1) + tw (st θ a.2.2) + wtL (mpL (st θ) C)
    omega
/-- two CLAUSES, each the other with values put in, are one new CLAUSE -/
theorem keepA_v {ar : Int → Nat} {p q : Int → Prop} {θ τ : Vs} {C D : List Lt} (wC : WL ar p C) (wD : WL ar q D) (e1 : D = mpL (st θ) C) (e2 : C = mpL (st τ) D) {org x y : Int} {A : PA} : keepA org x y D A = keepA org x y C A := by
  obtain ⟨v1, v2, v3, v4⟩ := variant (fun a ha => (wC a ha).2) (fun a ha => (wD a ha).2) e1 e2
  have l : D.length = C.length := by rw [e1]; simp [mpL]
  have w : wtL D = wtL C := by
    have h1 := wtL_ge θ wC
    have h2 := wtL_ge τ wD
    rw [← e1] at h1
    rw [← e2] at h2
    omega
  have hb : inB D ↔ inB C := by unfold inB; rw [l, w, v3]
  unfold keepA
  rw [v1]
  by_cases h : inB C
  · rw [if_pos h, if_pos (hb.mpr h)]
  · rw [if_neg h, if_neg (fun z => h (hb.mp z))]
theorem mgu_mp {Sol : Vs → Prop} {θ τ : Vs} (h : Mgu Sol θ) (ht : Sol τ) (R : List Lt) : mpL (st τ) (mpL (st θ) R) = mpL (st τ) R := by
  unfold mpL
  rw [List.map_map]
  apply List.map_congr_left
  intro a _
  have e : ∀ x : Tm, st τ (st θ x) = st τ x := fun x => by
    rw [st_st]
    apply st_c
    intro v hv
    exact (h.2 τ ht v (vi_nn hv)).symm
  show (a.1, st τ (st θ a.2.1), st τ (st θ a.2.2)) = _
  rw [e, e]
theorem WL_mp {ar : Int → Nat} {m9 : Int} {th : Vs} (hv : ∀ v, 0 ≤ v → v < 12 → wf ar (fun c => c < m9) (tt (th v))) {C : List Lt} (w : WL ar (lw 12 m9) C) : WL ar (fun c => c < m9) (mpL (st th) C) := fun a ha => by
  obtain ⟨c, hc, rfl⟩ := List.mem_map.mp ha
  obtain ⟨w1, w2, w3⟩ := w c hc
  have g : ∀ x : Tm, wf ar (lw 12 m9) (tt x) → wf ar (fun c => c < m9) (tt (st th x)) := fun x wx => by
    refine su_wf (p := lw 12 m9) (fun c _ hc => hc.2) wx (fun u hu => ?_)
    have h1 := vi_nn hu
    have h2 := wf_fl wx _ (vi_mem hu)
    unfold lw at h2
    exact hv u h1 (by omega)
  exact ⟨w1, g _ w2, g _ w3⟩
theorem infA_of {ar : Int → Nat} {pd : Int → Prop} {m9 : Int} {X Y : Tm} {θ : Vs} (h : MW ar pd m9 X Y θ) {R : List Lt} (w : WL ar (lw 12 m9) R) {org p t : Int} {A : PA} : infA ar pd m9 org p t X Y R A = keepA org p t (mpL (st θ) R) A := by
  unfold infA
  have hx : ∃ θ, MW ar pd m9 X Y θ := ⟨θ, h⟩
  rw [dif_pos hx]
  have hc := Classical.choose_spec hx
  exact keepA_v (θ := Classical.choose hx) (τ := θ) (WL_mp h.2 w) (WL_mp hc.2 w) (mgu_mp h.1 hc.1.1 R).symm (mgu_mp hc.1 h.1.1 R).symm
theorem infA_no {ar : Int → Nat} {pd : Int → Prop} {m9 : Int} {X Y : Tm} (h : ∀ θ, ¬ Sl pd X Y θ) {R : List Lt} {org p t : Int} {A : PA} : infA ar pd m9 org p t X Y R A = A := by
  unfold infA
  rw [dif_neg (fun ⟨θ, hθ⟩ => h θ hθ.1.1)]
/-- a change that INFERENCES may make on the way -/
theorem keepA_87 {org x y : Int} {C : List Lt} {A : PA} : (∃ X, (keepA org x y C A).1 = A.1 ++ X) ∧ ((keepA org x y C A).2 87 = A.2 87 ∨ (keepA org x y C A).2 87 = 3) := by
  unfold keepA
  by_cases h : inB C
  · rw [if_pos h]
    by_cases t : tautL (rnL [] (ddL [] C))
    · rw [if_pos t]
      exact ⟨⟨[], by simp⟩, Or.inl (by simp [fu])⟩
    · rw [if_neg t]
      by_cases l : A.1.length = 2000
      · rw [if_pos l]; exact ⟨⟨[], by simp⟩, Or.inr (by simp [fu])⟩
      · rw [if_neg l]; exact ⟨⟨_, rfl⟩, Or.inl (by simp [fu])⟩
  · rw [if_neg h]
    exact ⟨⟨[], by simp⟩, Or.inl (by simp [fu])⟩
theorem infA_87 {ar : Int → Nat} {pd : Int → Prop} {m9 : Int} {X Y : Tm} {R : List Lt} {org p t : Int} {A : PA} : (∃ Z, (infA ar pd m9 org p t X Y R A).1 = A.1 ++ Z) ∧ ((infA ar pd m9 org p t X Y R A).2 87 = A.2 87 ∨ (infA ar pd m9 org p t X Y R A).2 87 = 3) := by
  unfold infA
  by_cases h : ∃ θ, MW ar pd m9 X Y θ
  · rw [dif_pos h]; exact keepA_87
  · rw [dif_neg h]; exact ⟨⟨[], by simp⟩, Or.inl rfl⟩
