/-! a proof -/
/-- the class between two STEPS, whatever is marked -/
def CJ (ar : Int → Nat) (pd : Int → Prop) (m9 : Int) (σ : zS) (A : PA) : Prop := Cx ar pd m9 σ ∧ 0 ≤ m9 ∧ SC σ A.1 ∧ KC σ A.2 ∧ Mb σ ∧ RL σ ∧ MT σ ∧ (∃ N, DN σ N) ∧ (0 ≤ σ.1 3905 ∧ σ.1 3905 ≤ 8) ∧ (∀ c ∈ A.1, Wc ar m9 c.1) ∧ ∀ (k : Nat) c, A.1[k]? = some c → cst c = 1 → JG (σ.2.1 48) (pos A.1 k) c.1
theorem CI.j {ar : Int → Nat} {pd : Int → Prop} {m9 : Int} {σ : zS} {A : PA} (h : CI ar pd m9 σ A) : CJ ar pd m9 σ A := by
  obtain ⟨c1, c2, c3, c4, c5, c6, c7, c8, c9, c10, c11, c12⟩ := h
  exact ⟨c1, c2, c3, c4, c5, c6, c7, c8, c9, c10, c11⟩
theorem SC.mk {σ : zS} {Cs : List CL} (h : SC σ Cs) {k : Int} (k0 : 0 ≤ k) (k1 : k < (Cs.length : Int)) : SC (zA σ 52 (k * 11 + 10) 1) Cs := by
  obtain ⟨gSK, gSN⟩ := SC_iff.mp h
  refine SC_iff.mpr ⟨fun i c hc => ?_, gSN⟩
  obtain ⟨⟨b0, b1, b2, b3, b4, b5, b6, b7, b8⟩, a2, a3, a4, a5, a6⟩ := gSK i c hc
  have e : ∀ w, 0 ≤ w → w < 10 → ∀ z, σ.2.1 52 ((i : Int) * 11 + w) = z → (zA σ 52 (k * 11 + 10) 1).2.1 52 ((i : Int) * 11 + w) = z := fun w w0 w1 z hz => by rw [zA_i (by omega)]; exact hz
  refine ⟨⟨e 0 (by omega) (by omega) _ b0, e 1 (by omega) (by omega) _ b1, e 2 (by omega) (by omega) _ b2, e 3 (by omega) (by omega) _ b3, e 4 (by omega) (by omega) _ b4, e 5 (by omega) (by omega) _ b5, e 6 (by omega) (by omega) _ b6, e 7 (by omega) (by omega) _ b7, e 8 (by omega) (by omega) _ b8⟩, LL_q (fun q _ _ _ => zA_j) a2, ?_, ?_, ?_, ?_⟩
  · rw [zA_i (by omega)]; exact a3
  · rw [zA_i (by omega)]; exact a4
  · rw [zA_i (by omega)]; exact Fl_q (fun q _ _ => zA_j) a5
  · by_cases q : (i : Int) = k
    · rw [q, zA_s]; exact Or.inr rfl
    · rw [zA_i (by omega)]; exact a6
/-- what is marked -/
def MK (σ : zS) (n : Nat) (M : Int → Prop) : Prop := ∀ k : Int, 0 ≤ k → k < (n : Int) → (σ.2.1 52 (k * 11 + 10) = 1 ↔ M k)
theorem mark_ok {β : Nat} (hβ : 1 ≤ β) {σ : zS} {Cs : List CL} (hS : SC σ Cs) {M : Int → Prop} (hM : MK σ Cs.length M) {k : Int} : ∃ τ, yE tC_Sat_markProof β σ [k] = some (τ, 0) ∧ FrC [] [52] σ τ ∧ SC τ Cs ∧ MK τ Cs.length (fun j => M j ∨ j = k) := by
  have h20 := hS.2.2.2.2.2.2.2
  have e22 : ∀ ρ : zS, yE tC_Sat_markProof_p22 β ρ [k] = some (ρ, 0) := fun ρ => by rw [yq_Sat_markProof_p22, kY_Sat_markProof_p22]
  rw [yq_Sat_markProof, kY_Sat_markProof, if_pos hβ, zbd_of (has_ok hS)]
  by_cases h : 0 ≤ k ∧ k < (Cs.length : Int)
  · rw [b2_t h, if_neg (by decide), if_pos hβ, zbd_of (setF hS h.1 h.2 (by omega) (by omega)), e22]
    refine ⟨_, rfl, FrC_A, hS.mk h.1 h.2, fun j j0 j1 => ?_⟩
    by_cases e : j = k
    · subst e
      rw [zA_s]
      exact ⟨fun _ => Or.inr rfl, fun _ => rfl⟩
    · rw [zA_i (by omega), hM j j0 j1]
      exact ⟨Or.inl, fun w => w.elim id (fun w => absurd w e)⟩
  · rw [b2_f h, if_pos rfl, e22]
    refine ⟨σ, rfl, FrC.refl, hS, fun j j0 j1 => ?_⟩
    rw [hM j j0 j1]
    exact ⟨Or.inl, fun w => w.elim id (fun w => absurd (by rw [← w]; exact ⟨j0, j1⟩) h)⟩
theorem MK.c {σ : zS} {n : Nat} {M M2 : Int → Prop} (h : MK σ n M) (e : ∀ j, M j ↔ M2 j) : MK σ n M2 := fun k a b => (h k a b).trans (e k)
theorem SC.f9 {β : Nat} {σ : zS} {Cs : List CL} (h : SC σ Cs) {k : Nat} {c : CL} (hc : Cs[k]? = some c) : yE tC_Sto_fact β σ [(k : Int), 1] = some (σ, c.2.2.1) ∧ yE tC_Sto_fact β σ [(k : Int), 2] = some (σ, c.2.2.2.1) ∧ yE tC_Sto_fact β σ [(k : Int), 7] = some (σ, ((cus c).length : Int)) ∧ yE tC_Sto_fact β σ [(k : Int), 9] = some (σ, σ.2.1 52 ((k : Int) * 11 + 9)) ∧ yE tC_Sto_fact β σ [(k : Int), 10] = some (σ, σ.2.1 52 ((k : Int) * 11 + 10)) := by
  obtain ⟨s, s0, s1, s2⟩ := h.k hc
  obtain ⟨⟨b0, b1, b2, b3, b4, b5, b6, b7, b8⟩, a2, a3, a4, a5, a6⟩ := s
  refine ⟨?_, ?_, ?_, ?_, ?_⟩
  · rw [fact_ok h (by omega) (by omega) (by omega) (by omega), b1]
  · rw [fact_ok h (by omega) (by omega) (by omega) (by omega), b2]
  · rw [fact_ok h (by omega) (by omega) (by omega) (by omega), b7]
  · rw [fact_ok h (by omega) (by omega) (by omega) (by omega)]
  · rw [fact_ok h (by omega) (by omega) (by omega) (by omega)]
theorem ref_p58 {β : Nat} (hβ : 2 ≤ β) {Cs : List CL} {k : Nat} {c : CL} (hc : Cs[k]? = some c) {x0 : Int} : ∀ (m n : Nat) (σ : zS) (M : Int → Prop), SC σ Cs → MK σ Cs.length M → n + m = (cus c).length →
    ∃ τ, yE tG_Sat_refute_p58 β σ [x0, (k : Int), (n : Int)] = yE tG_Sat_refute_p105 β τ [x0, (k : Int)] ∧ FrC [] [52] σ τ ∧ SC τ Cs ∧ MK τ Cs.length (fun j => M j ∨ j ∈ (cus c).drop n)
  | 0, n, σ, M, hS, hM, hm => by
    refine ⟨σ, ?_, FrC.refl, hS, hM.c (fun j => ?_)⟩
    · rw [yq_Sat_refute_p58, kY_Sat_refute_p58, if_pos (by omega), zbd_of (hS.f9 hc).2.2.1, if_pos (by omega)]
    · rw [List.drop_eq_nil_iff.mpr (by omega)]; simp
  | m + 1, n, σ, M, hS, hM, hm => by
    obtain ⟨u, hu⟩ : ∃ u, (cus c)[n]? = some u := ⟨_, List.getElem?_eq_getElem (by omega)⟩
    obtain ⟨s, s0, s1, s2⟩ := hS.k hc
    obtain ⟨_, _, a3, a4, a5, _⟩ := s
    obtain ⟨m1, m2, m3, m4⟩ := hS.2.2.2.2.2.2.1
    have e := Fl_get a5 hu
    obtain ⟨σ1, t1, t2, t3, t4⟩ := mark_ok (β := β - 1) (by omega) hS hM (k := u)
    obtain ⟨τ, v1, v2, v3, v4⟩ := ref_p58 hβ hc (x0 := x0) m (n + 1) σ1 _ t3 t4 (by omega)
    refine ⟨τ, ?_, t2.trans v2, v3, v4.c (fun j => ?_)⟩
    · rw [yq_Sat_refute_p58, kY_Sat_refute_p58, if_pos (by omega), zbd_of (hS.f9 hc).2.2.1, if_neg (by omega), if_pos (by omega), zbd_of (hS.f9 hc).2.2.2.1, if_pos (by omega), if_pos (by omega), if_pos (by omega), e, zbd_of t1, if_pos (by omega), show (n : Int) + 1 = ((n + 1 : Nat) : Int) by omega]
      exact v1
    · have hd : (cus c).drop n = u :: (cus c).drop (n + 1) := by
        rw [List.drop_eq_getElem_cons (by omega)]
        congr 1
        exact (List.getElem?_eq_some_iff.mp hu).2
      rw [hd, List.mem_cons, or_assoc]
/-- one CLAUSE of the proof brings those that it came of -/
def pfS (Cs : List CL) (k : Nat) (M : Int → Prop) : Int → Prop := fun j => M j ∨ (M (k : Int) ∧ ∃ c, Cs[k]? = some c ∧ (j = c.2.2.1 ∨ j = c.2.2.2.1 ∨ j ∈ cus c))
def pfM (Cs : List CL) : Nat → (Int → Prop) → Int → Prop
  | 0, M => M
  | k + 1, M => pfM Cs k (pfS Cs k M)
theorem ref_p12 {β : Nat} (hβ : 3 ≤ β) {Cs : List CL} {x0 : Int} : ∀ (n : Nat) (σ : zS) (M : Int → Prop), SC σ Cs → MK σ Cs.length M → n ≤ Cs.length →
    ∃ τ, yE tG_Sat_refute_p12 β σ [x0, (n : Int) - 1] = yE tG_Sat_refute_p113 β τ [x0, 0] ∧ FrC [] [52] σ τ ∧ SC τ Cs ∧ MK τ Cs.length (pfM Cs n M)
  | 0, σ, M, hS, hM, hn => by
    refine ⟨σ, ?_, FrC.refl, hS, hM⟩
    rw [yq_Sat_refute_p12, kY_Sat_refute_p12, if_pos (by omega)]
  | n + 1, σ, M, hS, hM, hn => by
    have h20 := hS.2.2.2.2.2.2.2
    obtain ⟨c, hc⟩ : ∃ c, Cs[n]? = some c := ⟨_, List.getElem?_eq_getElem (by omega)⟩
    have e : ((n + 1 : Nat) : Int) - 1 = (n : Int) := by omega
    have e105 : ∀ ρ : zS, yE tG_Sat_refute_p105 β ρ [x0, (n : Int)] = yE tG_Sat_refute_p12 β ρ [x0, (n : Int) - 1] := fun ρ => by rw [yq_Sat_refute_p105, kY_Sat_refute_p105, if_pos (by omega), show (n : Int) + -1 = (n : Int) - 1 by omega]
    rw [e, yq_Sat_refute_p12, kY_Sat_refute_p12, if_neg (by omega), if_pos (by omega), zbd_of (hS.f9 hc).2.2.2.2]
    have hk := hM (n : Int) (by omega) (by omega)
    by_cases q : σ.2.1 52 ((n : Int) * 11 + 10) = 1
    · rw [if_pos q, if_pos (by omega), zbd_of (hS.f9 hc).1, if_pos (by omega)]
      obtain ⟨σ1, t1, t2, t3, t4⟩ := mark_ok (β := β - 1) (by omega) hS hM (k := c.2.2.1)
      rw [zbd_of t1, if_pos (by omega), zbd_of (t3.f9 hc).2.1, if_pos (by omega)]
      obtain ⟨σ2, u1, u2, u3, u4⟩ := mark_ok (β := β - 1) (by omega) t3 t4 (k := c.2.2.2.1)
      rw [zbd_of u1]
      obtain ⟨σ3, v1, v2, v3, v4⟩ := ref_p58 (β := β) (by omega) hc (x0 := x0) (cus c).length 0 σ2 _ u3 u4 (by omega)
      have v1' : yE tG_Sat_refute_p58 β σ2 [x0, (n : Int), 0] = _ := v1
      rw [v1', e105]
      have hM3 : MK σ3 Cs.length (pfS Cs n M) := v4.c (M2 := pfS Cs n M) (fun j => by
        unfold pfS
        rw [List.drop_zero]
        constructor
        · rintro (((h | h) | h) | h)
          · exact Or.inl h
          · exact Or.inr ⟨hk.mp q, c, hc, Or.inl h⟩
          · exact Or.inr ⟨hk.mp q, c, hc, Or.inr (Or.inl h)⟩
          · exact Or.inr ⟨hk.mp q, c, hc, Or.inr (Or.inr h)⟩
        · rintro (h | ⟨_, d, hd, h⟩)
          · exact Or.inl (Or.inl (Or.inl h))
          · rw [hc] at hd
            obtain rfl := Option.some.inj hd
            rcases h with h | h | h
            · exact Or.inl (Or.inl (Or.inr h))
            · exact Or.inl (Or.inr h)
            · exact Or.inr h)
      obtain ⟨τ, w1, w2, w3, w4⟩ := ref_p12 hβ (x0 := x0) n σ3 (pfS Cs n M) v3 hM3 (by omega)
      exact ⟨τ, w1, ((t2.trans u2).trans v2).trans w2, w3, w4⟩
    · rw [if_neg q, e105]
      obtain ⟨τ, w1, w2, w3, w4⟩ := ref_p12 hβ (x0 := x0) n σ (pfS Cs n M) hS (hM.c (fun j => ⟨Or.inl, fun h => h.elim id (fun h => absurd (hk.mpr h.1) q)⟩)) (by omega)
      exact ⟨τ, w1, w2, w3, w4⟩
noncomputable def pfL (M : Int → Prop) : Nat → Nat → List Int
  | 0, _ => []
  | m + 1, n => @ite _ (M (n : Int)) (Classical.propDecidable _) ((n : Int) :: pfL M m (n + 1)) (pfL M m (n + 1))
theorem ref_p113 {β : Nat} (hβ : 1 ≤ β) {Cs : List CL} {M : Int → Prop} {e : Nat} (he : e < Cs.length) : ∀ (m n : Nat) (σ : zS) (Y : List Int), SC σ Cs → MK σ Cs.length M → RowC σ 5501 56 Y → Mb σ → RL σ → σ.2.2 56 ≤ 10000 → Y.length ≤ n → n + m = e + 1 →
    ∃ τ, yE tG_Sat_refute_p113 β σ [(e : Int), (n : Int)] = some (τ, 0) ∧ FrC [5501] [56] σ τ ∧ RowC τ 5501 56 (Y ++ pfL M m n) ∧ Mb τ ∧ RL τ ∧ τ.2.2 56 ≤ 10000
  | 0, n, σ, Y, hS, hM, hY, hB, hR, hc, hl, hm => by
    refine ⟨σ, by rw [yq_Sat_refute_p113, kY_Sat_refute_p113, if_pos (by omega)], FrC.refl, ?_, hB, hR, hc⟩
    show RowC σ 5501 56 (Y ++ [])
    rw [List.append_nil]; exact hY
  | m + 1, n, σ, Y, hS, hM, hY, hB, hR, hcap, hl, hm => by
    have h20 := hS.2.2.2.2.2.2.2
    obtain ⟨c, hc⟩ : ∃ c, Cs[n]? = some c := ⟨_, List.getElem?_eq_getElem (by omega)⟩
    have hk := hM (n : Int) (by omega) (by omega)
    have e140 : ∀ ρ : zS, yE tG_Sat_refute_p140 β ρ [(e : Int), (n : Int)] = yE tG_Sat_refute_p113 β ρ [(e : Int), ((n + 1 : Nat) : Int)] := fun ρ => by rw [yq_Sat_refute_p140, kY_Sat_refute_p140, if_pos (by omega), show (n : Int) + 1 = ((n + 1 : Nat) : Int) by omega]
    rw [yq_Sat_refute_p113, kY_Sat_refute_p113, if_neg (by omega), if_pos (by omega), zbd_of (hS.f9 hc).2.2.2.2]
    unfold pfL
    by_cases q : σ.2.1 52 ((n : Int) * 11 + 10) = 1
    · obtain ⟨P0, P1, P2, P3, P4, P5⟩ := radd (x := (n : Int)) (B := 10000) hY hB hR (by omega) hcap (by omega)
      obtain ⟨σ1, hσ1⟩ : ∃ z, z = zAdd σ 5501 56 (n : Int) := ⟨_, rfl⟩
      rw [← hσ1] at P1 P2 P3 P4 P5
      rw [if_pos q, if_pos P0, lt_e, ← hσ1, e140, if_pos (hk.mp q)]
      obtain ⟨τ, t1, t2, t3, t4, t5, t6⟩ := ref_p113 (M := M) hβ he m (n + 1) σ1 (Y ++ [(n : Int)]) (hS.f P2) (fun j a b => by rw [P2.a 52]; exact hM j a b) P1 P3 P4 P5 (by simp; omega) (by omega)
      refine ⟨τ, t1, P2.trans t2, ?_, t4, t5, t6⟩
      rw [List.append_assoc] at t3
      exact t3
    · rw [if_neg q, e140, if_neg (fun w => q (hk.mpr w))]
      exact ref_p113 hβ he m (n + 1) σ Y hS hM hY hB hR hcap (by omega) (by omega)
/-- the proof's CLAUSES -/
noncomputable def pfA (Cs : List CL) (e : Nat) : List Int := pfL (pfM Cs (e + 1) (fun j => j = (e : Int))) (e + 1) 0
abbrev PF (σ τ : zS) : Prop := FrC [5300, 5501] [52, 56] σ τ
theorem refute_ok {ar : Int → Nat} {pd : Int → Prop} {m9 : Int} {β : Nat} (hβ : 4 ≤ β) {σ : zS} {A : PA} (hI : CI ar pd m9 σ A) {e : Nat} (he : e < A.1.length) (h55 : σ.1 5501 = 0) (h56 : 16 ≤ σ.2.2 56 ∧ σ.2.2 56 ≤ 10000) : ∃ τ, yE tG_Sat_refute β σ [(e : Int)] = some (τ, 0) ∧ PF σ τ ∧ CJ ar pd m9 τ (A.1, fu A.2 87 1) ∧ RowC τ 5501 56 (pfA A.1 e) ∧ τ.2.2 56 ≤ 10000 := by
  obtain ⟨c1, c2, c3, c4, c5, c6, c7, c8, c9, c10, c11, c12⟩ := id hI
  obtain ⟨σ1, hσ1⟩ : ∃ z, z = zI σ 5300 1 := ⟨_, rfl⟩
  have f1 : PF σ σ1 := by rw [hσ1]; exact FrC_I
  have S1 : SC σ1 A.1 := c3.f (I := [5300]) (A := []) (by rw [hσ1]; exact FrC_I)
  have M1 : MK σ1 A.1.length (fun _ => False) := fun k k0 k1 => by
    rw [hσ1, zI_2, c12.1 k k0 k1]; simp
  obtain ⟨σ2, t1, t2, t3, t4⟩ := mark_ok (β := β - 1) (by omega) S1 M1 (k := (e : Int))
  obtain ⟨σ3, u1, u2, u3, u4⟩ := ref_p12 (β := β) (by omega) (x0 := (e : Int)) (e + 1) σ2 (fun j => j = (e : Int)) t3 (t4.c (fun j => by simp)) (by omega)
  have f3 : FrC [5300] [52] σ σ3 := by
    have b : FrC [5300] [52] σ σ1 := by rw [hσ1]; exact FrC_I
    exact (b.trans t2.w).trans u2.w
  obtain ⟨τ, v1, v2, v3, v4, v5, v6⟩ := ref_p113 (β := β) (by omega) he (e + 1) 0 σ3 [] u3 u4 ⟨by rw [f3.i 5501]; exact h55, Nat.zero_le _, by rw [f3.l 56]; exact h56.1, trivial⟩ (c5.m f3.2.2.2) (fun j hj => by
      have hm : j ∈ rws := List.elem_iff.mp hj
      have e2 : σ3.2.2 = σ.2.2 → σ3.2.2 j ≤ 10000000 := fun e => by rw [e]; exact c6 j hj
      by_cases e : j = 52
      · subst e
        have := u3.2.2.2.2.2.1.2.1; omega
      · simp only [rws, List.mem_cons, List.not_mem_nil, or_false] at hm
        rw [f3.2.2.1 j (by simp [e]) (by omega) (by omega)]
        exact c6 j hj) (by rw [f3.l 56]; exact h56.2) (Nat.le_refl _) (by omega)
  have f4 : PF σ τ := f3.w.trans v2.w
  have S4 := u3.f v2
  refine ⟨τ, ?_, f4, ⟨⟨c1.1.q (fun q => f4.a 7 q), c1.2.1, fun c a b => by rw [f4.a 12]; exact c1.2.2.1 c a b, ?_, ?_, ?_⟩, c2, S4, ?_, v4, v5, c7.f f4, ?_, by rw [f4.i 3905]; exact c9, c10, fun k c hk hs => ?_⟩, v3, v6⟩
  · have u1' : yE tG_Sat_refute_p12 β σ2 [(e : Int), (e : Int)] = yE tG_Sat_refute_p113 β σ3 [(e : Int), 0] := by
      rw [← u1, show ((e + 1 : Nat) : Int) - 1 = (e : Int) by omega]
    have v1' : yE tG_Sat_refute_p113 β σ3 [(e : Int), 0] = some (τ, 0) := v1
    rw [yq_Sat_refute, kY_Sat_refute, lt_e, ← hσ1, if_pos (by omega), zbd_of t1, u1', v1']
  · have := S4.2.2.1; omega
  · exact S4.2.2.2.2.1.1
  · have := S4.2.2.2.2.1.2.1; omega
  · have K1 : KC σ1 (fu A.2 87 1) := by rw [hσ1]; exact c4.u0
    exact ((K1.f t2).f u2).f v2
  · obtain ⟨N, hN⟩ := c8; exact ⟨N, hN.f f4⟩
  · have := c11 k c hk hs
    unfold JG at *
    intro i a ha
    rw [f4.a 48, f4.a 48]; exact this i a ha
