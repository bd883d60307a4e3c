/-! SUPERPOSITION of one CLAUSE into another: all sides -/
theorem half {n : Nat} (h : n < 16) : zshr (n : Int) 1 = ((n / 2 : Nat) : Int) ∧ zand (n : Int) 1 = ((n % 2 : Nat) : Int) := by
  have : ∀ j : Fin 16, zshr ((j.val : Nat) : Int) 1 = ((j.val / 2 : Nat) : Int) ∧ zand ((j.val : Nat) : Int) 1 = ((j.val % 2 : Nat) : Int) := by decide +kernel
  exact this ⟨n, h⟩
/-- the other side is not GREATER -/
def usL (a : Lt) (s : Int) : Prop := ordL a = 0 ∨ ordL a = s + 1
theorem el_ok {β : Nat} {σ : zS} {p : Int} {C : List Lt} (hJ : JG (σ.2.1 48) p C) {i : Nat} {a : Lt} (ha : C[i]? = some a) (hl : HL σ (hp p C i) a) : yE tC_Sto_isEligible β σ [hp p C i] = some (σ, b2 (elI C i)) := by
  have e := (hJ i a ha).2
  obtain ⟨_, _, _, _, _, l6, l7, l8, l9⟩ := hl
  have t1 := tw_pos a.2.1
  have t2 := tw_pos a.2.2
  rw [yq_Sto_isEligible, kY_Sto_isEligible, if_pos (by omega), if_pos (by omega), e]
  by_cases h : elI C i
  · rw [b2_t h, if_pos rfl, yq_Sto_isEligible_p20, kY_Sto_isEligible_p20, if_pos (Or.inr rfl)]
  · rw [b2_f h, if_neg (by decide), yq_Sto_isEligible_p20, kY_Sto_isEligible_p20, if_pos (Or.inl rfl)]
theorem us_ok {β : Nat} {σ : zS} {p : Int} {C : List Lt} (hJ : JG (σ.2.1 48) p C) {i : Nat} {a : Lt} (ha : C[i]? = some a) (hl : HL σ (hp p C i) a) {s : Int} (hs : s = 0 ∨ s = 1) : yE tC_Sto_isUsable β σ [hp p C i, s] = some (σ, b2 (usL a s)) := by
  have e := (hJ i a ha).1
  obtain ⟨_, _, _, _, _, l6, l7, l8, l9⟩ := hl
  have t1 := tw_pos a.2.1
  have t2 := tw_pos a.2.2
  rw [yq_Sto_isUsable, kY_Sto_isUsable, if_pos (by omega), if_pos (by omega), e]
  by_cases h : ordL a = 0
  · rw [if_pos h, yq_Sto_isUsable_p23, kY_Sto_isUsable_p23, yq_Sto_isUsable_p28, kY_Sto_isUsable_p28, if_pos (Or.inr rfl), b2_t (show usL a s from Or.inl h)]
  · rw [if_neg h, if_pos (by omega)]
    by_cases g : ordL a = s + 1
    · rw [if_pos g, yq_Sto_isUsable_p23, kY_Sto_isUsable_p23, yq_Sto_isUsable_p28, kY_Sto_isUsable_p28, if_pos (Or.inr rfl), b2_t (show usL a s from Or.inr g)]
    · rw [if_neg g, yq_Sto_isUsable_p28, kY_Sto_isUsable_p28, if_pos (Or.inl rfl), b2_f (show ¬ usL a s from fun z => z.elim h g)]
/-- f at o, o + 1 .. -/
noncomputable def fo (f : Nat → PA → PA) : Nat → Nat → PA → PA
  | 0, _, A => A
  | m + 1, o, A => fo f m (o + 1) (f o A)
theorem fo_ext {f : Nat → PA → PA} (hf : ∀ o A, ∃ Z, (f o A).1 = A.1 ++ Z) : ∀ (m o : Nat) (A : PA), ∃ Z, (fo f m o A).1 = A.1 ++ Z
  | 0, _, A => ⟨[], by simp [fo]⟩
  | m + 1, o, A => by
    unfold fo
    obtain ⟨Z, hZ⟩ := fo_ext hf m (o + 1) (f o A)
    obtain ⟨Y, hY⟩ := hf o A
    exact ⟨Y ++ Z, by rw [hZ, hY, List.append_assoc]⟩
noncomputable def spB (ar : Int → Nat) (pd : Int → Prop) (m9 : Int) (k1 : Nat) (C1 : List Lt) (i : Nat) (a : Lt) (s : Int) (k2 : Nat) (C2 : List Lt) (n : Nat) (A : PA) : PA := match C2[n / 2]? with
  | some b => @ite _ (elI C2 (n / 2) ∧ usL b ((n % 2 : Nat) : Int)) (Classical.propDecidable _) (wh (spS ar pd m9 k1 C1 i a s k2 C2 (n / 2) b ((n % 2 : Nat) : Int)) (tw (sdT b ((n % 2 : Nat) : Int))) 0 A) A
  | none => A
noncomputable def spA (ar : Int → Nat) (pd : Int → Prop) (m9 : Int) (k1 : Nat) (C1 : List Lt) (k2 : Nat) (C2 : List Lt) (n : Nat) (A : PA) : PA := match C1[n / 2]? with
  | some a => @ite _ (a.1 = 1 ∧ elI C1 (n / 2) ∧ usL a ((n % 2 : Nat) : Int)) (Classical.propDecidable _) (fo (spB ar pd m9 k1 C1 (n / 2) a ((n % 2 : Nat) : Int) k2 C2) (2 * C2.length) 0 A) A
  | none => A
/-- all SUPERPOSITIONS of CLAUSE k1 into CLAUSE k2 -/
noncomputable def supA (ar : Int → Nat) (pd : Int → Prop) (m9 : Int) (k1 : Nat) (C1 : List Lt) (k2 : Nat) (C2 : List Lt) (A : PA) : PA := fo (spA ar pd m9 k1 C1 k2 C2) (2 * C1.length) 0 A
theorem spB_ext {ar : Int → Nat} {pd : Int → Prop} {m9 : Int} {k1 : Nat} {C1 : List Lt} {i : Nat} {a : Lt} {s : Int} {k2 : Nat} {C2 : List Lt} (n : Nat) (A : PA) : ∃ Z, (spB ar pd m9 k1 C1 i a s k2 C2 n A).1 = A.1 ++ Z := by
  unfold spB
  split
  · split
    · exact wh_ext (fun o A => spS_ext) _ _ _
    · exact ⟨[], by simp⟩
  · exact ⟨[], by simp⟩
theorem spA_ext {ar : Int → Nat} {pd : Int → Prop} {m9 : Int} {k1 : Nat} {C1 : List Lt} {k2 : Nat} {C2 : List Lt} (n : Nat) (A : PA) : ∃ Z, (spA ar pd m9 k1 C1 k2 C2 n A).1 = A.1 ++ Z := by
  unfold spA
  split
  · split
    · exact fo_ext spB_ext _ _ _
    · exact ⟨[], by simp⟩
  · exact ⟨[], by simp⟩
theorem supA_ext {ar : Int → Nat} {pd : Int → Prop} {m9 : Int} {k1 : Nat} {C1 : List Lt} {k2 : Nat} {C2 : List Lt} (A : PA) : ∃ Z, (supA ar pd m9 k1 C1 k2 C2 A).1 = A.1 ++ Z := fo_ext spA_ext _ _ _
theorem sup_p98 {ar : Int → Nat} {pd : Int → Prop} {m9 : Int} {β : Nat} (hβ : 171 ≤ β) {k1 k2 : Nat} {c1 c2 : CL} {i : Nat} {a : Lt} (ha : c1.1[i]? = some a) {x4 : Nat} (h4 : x4 < 16) (s2 : cst c2 = 1) (w8 : c2.1.length ≤ 8) {P1 P2 : Int} {x2 : Int} : ∀ (m n : Nat) (σ : zS) (A : PA), CI ar pd m9 σ A → A.1[k1]? = some c1 → A.1[k2]? = some c2 → pos A.1 k1 = P1 → pos A.1 k2 = P2 → n + m = 2 * c2.1.length →
    ∃ τ, yE tG_Sat_superpose_p98 β σ [(k1 : Int), (k2 : Int), x2, 2 * (c2.1.length : Int), (x4 : Int), hp P1 c1.1 i, 1, (n : Int)] = yE tG_Sat_superpose_p176 β τ [(k1 : Int), (k2 : Int), x2, 2 * (c2.1.length : Int), (x4 : Int), hp P1 c1.1 i, 1, 2 * (c2.1.length : Int)] ∧ CI ar pd m9 τ (fo (spB ar pd m9 k1 c1.1 i a ((x4 % 2 : Nat) : Int) k2 c2.1) m n A) ∧ IF σ τ
  | 0, n, σ, A, hI, h1, h2, p1, p2, hm => by
    refine ⟨σ, ?_, by unfold fo; exact hI, FrC.refl⟩
    rw [yq_Sat_superpose_p98, kY_Sat_superpose_p98, if_pos (by omega), show (n : Int) = 2 * (c2.1.length : Int) by omega]
  | m + 1, n, σ, A, hI, h1, h2, p1, p2, hm => by
    obtain ⟨d1, d2, d3, d4, d5, d6, d7, d8, d9, d10, d11, d12⟩ := id hI
    have hn2 : n / 2 < c2.1.length := by omega
    obtain ⟨b, hb⟩ : ∃ b, c2.1[n / 2]? = some b := ⟨_, List.getElem?_eq_getElem hn2⟩
    obtain ⟨z1, z2⟩ := half (n := n) (by omega)
    obtain ⟨y1, y2⟩ := half h4
    have hs : (((x4 % 2 : Nat) : Int) = 0 ∨ ((x4 % 2 : Nat) : Int) = 1) := by omega
    have ht : (((n % 2 : Nat) : Int) = 0 ∨ ((n % 2 : Nat) : Int) = 1) := by omega
    have J2 := d11 k2 c2 h2 s2
    have hl2 := d3.hl h2 hb
    have hh := headOf_ok (β := β - 1) (by omega) d3 h2 (i := n / 2) (by omega) w8
    have e1 := el_ok (β := β - 1) J2 hb hl2
    have e2 := us_ok (β := β - 1) J2 hb hl2 ht
    have l1 := (List.getElem?_eq_some_iff.mp h1).1
    have l2 := (List.getElem?_eq_some_iff.mp h2).1
    obtain ⟨Z, hZ⟩ := spB_ext (ar := ar) (pd := pd) (m9 := m9) (k1 := k1) (C1 := c1.1) (i := i) (a := a) (s := ((x4 % 2 : Nat) : Int)) (k2 := k2) (C2 := c2.1) n A
    have next : ∀ (ρ : zS) (x8 : Int), CI ar pd m9 ρ (spB ar pd m9 k1 c1.1 i a ((x4 % 2 : Nat) : Int) k2 c2.1 n A) → IF σ ρ → ∃ τ, yE tG_Sat_superpose_p170 β ρ [(k1 : Int), (k2 : Int), x2, 2 * (c2.1.length : Int), (x4 : Int), hp P1 c1.1 i, 1, (n : Int), x8] = yE tG_Sat_superpose_p176 β τ [(k1 : Int), (k2 : Int), x2, 2 * (c2.1.length : Int), (x4 : Int), hp P1 c1.1 i, 1, 2 * (c2.1.length : Int)] ∧ CI ar pd m9 τ (fo (spB ar pd m9 k1 c1.1 i a ((x4 % 2 : Nat) : Int) k2 c2.1) (m + 1) n A) ∧ IF σ τ := fun ρ x8 hρ fρ => by
      obtain ⟨τ, t1, t2, t3⟩ := sup_p98 hβ ha h4 s2 w8 (P1 := P1) (P2 := P2) (x2 := x2) m (n + 1) ρ _ hρ (by rw [hZ]; exact get_app h1) (by rw [hZ]; exact get_app h2) (by rw [hZ, pos_app l1]; exact p1) (by rw [hZ, pos_app l2]; exact p2) (by omega)
      refine ⟨τ, ?_, t2, fρ.trans t3⟩
      rw [yq_Sat_superpose_p170, kY_Sat_superpose_p170, if_pos (by omega), show (n : Int) + 1 = ((n + 1 : Nat) : Int) by omega]
      exact t1
    rw [yq_Sat_superpose_p98, kY_Sat_superpose_p98, if_neg (by omega), if_neg (by decide), if_pos (by omega), z1, z2, y2, zbd_of hh, if_pos (by omega), zbd_of e1]
    by_cases q1 : elI c2.1 (n / 2)
    · rw [b2_t q1, if_neg (by decide), if_pos (by omega), zbd_of e2]
      by_cases q2 : usL b ((n % 2 : Nat) : Int)
      · rw [b2_t q2, if_neg (by decide), if_pos (by omega)]
        obtain ⟨ρ, r1, r2, r3⟩ := into_ok (β := β - 1) (by omega) hI h1 h2 ha hb hs ht
        rw [p1] at r1
        rw [zbd_of r1]
        refine next ρ _ ?_ r3
        unfold spB; rw [hb]; dsimp only; rw [if_pos ⟨q1, q2⟩]; exact r2
      · rw [b2_f q2, if_pos rfl]
        refine next σ _ ?_ FrC.refl
        unfold spB; rw [hb]; dsimp only; rw [if_neg (fun z => q2 z.2)]; exact hI
    · rw [b2_f q1, if_pos rfl]
      refine next σ _ ?_ FrC.refl
      unfold spB; rw [hb]; dsimp only; rw [if_neg (fun z => q1 z.1)]; exact hI
