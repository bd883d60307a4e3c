/-! FACTORING, and all INFERENCES from a GIVEN -/
noncomputable def fcB (ar : Int → Nat) (pd : Int → Prop) (m9 : Int) (k : Nat) (C : List Lt) (i : Nat) (a : Lt) (j : Nat) (A : PA) : PA := if i = j then A else match C[j]? with
  | some b => wh (ftS ar pd m9 k C i a j b) 4 0 A
  | none => A
noncomputable def fcA (ar : Int → Nat) (pd : Int → Prop) (m9 : Int) (k : Nat) (C : List Lt) (i : Nat) (A : PA) : PA := match C[i]? with
  | some a => @ite _ (elI C i) (Classical.propDecidable _) (fo (fcB ar pd m9 k C i a) C.length 0 A) A
  | none => A
noncomputable def facA (ar : Int → Nat) (pd : Int → Prop) (m9 : Int) (k : Nat) (C : List Lt) (A : PA) : PA := fo (fcA ar pd m9 k C) C.length 0 A
theorem fcB_ext {ar : Int → Nat} {pd : Int → Prop} {m9 : Int} {k : Nat} {C : List Lt} {i : Nat} {a : Lt} (j : Nat) (A : PA) : ∃ Z, (fcB ar pd m9 k C i a j A).1 = A.1 ++ Z := by
  unfold fcB
  split
  · exact ⟨[], by simp⟩
  · split
    · exact wh_ext ftS_ext _ _ _
    · exact ⟨[], by simp⟩
theorem fcA_ext {ar : Int → Nat} {pd : Int → Prop} {m9 : Int} {k : Nat} {C : List Lt} (i : Nat) (A : PA) : ∃ Z, (fcA ar pd m9 k C i A).1 = A.1 ++ Z := by
  unfold fcA
  split
  · split
    · exact fo_ext fcB_ext _ _ _
    · exact ⟨[], by simp⟩
  · exact ⟨[], by simp⟩
theorem ft_ok {ar : Int → Nat} {pd : Int → Prop} {m9 : Int} {β : Nat} (hβ : 170 ≤ β) {σ : zS} {A : PA} (hI : CI ar pd m9 σ A) {k : Nat} {c : CL} (hc : A.1[k]? = some c) (sc : cst c = 1) {i j : Nat} {a b : Lt} (ha : c.1[i]? = some a) (hb : c.1[j]? = some b) : ∃ τ, yE tG_Sat_factorTwo β σ [(k : Int), hp (pos A.1 k) c.1 i, hp (pos A.1 k) c.1 j] = some (τ, 0) ∧ CI ar pd m9 τ (wh (ftS ar pd m9 k c.1 i a j b) 4 0 A) ∧ IF σ τ := by
  obtain ⟨τ, t1, t2, t3⟩ := ft_loop hβ sc ha hb (P := pos A.1 k) 4 0 σ A hI hc rfl (by omega)
  refine ⟨τ, ?_, t2, t3⟩
  rw [yq_Sat_factorTwo, kY_Sat_factorTwo, if_pos (by omega), zbd_of (hI.2.2.1.f3 hc).2.1]
  exact t1
theorem fac_p31 {ar : Int → Nat} {pd : Int → Prop} {m9 : Int} {β : Nat} (hβ : 171 ≤ β) {k : Nat} {c : CL} (sc : cst c = 1) (w8 : c.1.length ≤ 8) {i : Nat} {a : Lt} (ha : c.1[i]? = some a) (he : elI c.1 i) {P : Int} : ∀ (m n : Nat) (σ : zS) (A : PA), CI ar pd m9 σ A → A.1[k]? = some c → pos A.1 k = P → n + m = c.1.length →
    ∃ τ, yE tG_Sat_factor_p31 β σ [(k : Int), (c.1.length : Int), (i : Int), hp P c.1 i, (n : Int)] = yE tG_Sat_factor_p78 β τ [(k : Int), (c.1.length : Int), (i : Int), hp P c.1 i, (c.1.length : Int)] ∧ CI ar pd m9 τ (fo (fcB ar pd m9 k c.1 i a) m n A) ∧ IF σ τ
  | 0, n, σ, A, hI, h1, p1, hm => by
    refine ⟨σ, ?_, by unfold fo; exact hI, FrC.refl⟩
    rw [yq_Sat_factor_p31, kY_Sat_factor_p31, if_pos (by omega), show (n : Int) = (c.1.length : Int) by omega]
  | m + 1, n, σ, A, hI, h1, p1, hm => by
    obtain ⟨d1, d2, d3, d4, d5, d6, d7, d8, d9, d10, d11, d12⟩ := id hI
    obtain ⟨b, hb⟩ : ∃ b, c.1[n]? = some b := ⟨_, List.getElem?_eq_getElem (by omega)⟩
    have J := d11 k c h1 sc
    have hl := d3.hl h1 ha
    have e1 := el_ok (β := β - 1) J ha hl
    rw [p1, b2_t he] at e1
    have hh := headOf_ok (β := β - 1) (by omega) d3 h1 (i := n) (by omega) w8
    have l1 := (List.getElem?_eq_some_iff.mp h1).1
    obtain ⟨Z, hZ⟩ := fcB_ext (ar := ar) (pd := pd) (m9 := m9) (k := k) (C := c.1) (i := i) (a := a) n A
    have next : ∀ ρ : zS, CI ar pd m9 ρ (fcB ar pd m9 k c.1 i a n A) → IF σ ρ → ∃ τ, yE tG_Sat_factor_p72 β ρ [(k : Int), (c.1.length : Int), (i : Int), hp P c.1 i, (n : Int)] = yE tG_Sat_factor_p78 β τ [(k : Int), (c.1.length : Int), (i : Int), hp P c.1 i, (c.1.length : Int)] ∧ CI ar pd m9 τ (fo (fcB ar pd m9 k c.1 i a) (m + 1) n A) ∧ IF σ τ := fun ρ hρ fρ => by
      obtain ⟨τ, t1, t2, t3⟩ := fac_p31 hβ sc w8 ha he (P := P) m (n + 1) ρ _ hρ (by rw [hZ]; exact get_app h1) (by rw [hZ, pos_app l1]; exact p1) (by omega)
      refine ⟨τ, ?_, t2, fρ.trans t3⟩
      rw [yq_Sat_factor_p72, kY_Sat_factor_p72, if_pos (by omega), show (n : Int) + 1 = ((n + 1 : Nat) : Int) by omega]
      exact t1
    rw [yq_Sat_factor_p31, kY_Sat_factor_p31, if_neg (by omega), if_pos (by omega), zbd_of e1, if_neg (by decide)]
    by_cases q : i = n
    · rw [if_pos (by omega)]
      refine next σ ?_ FrC.refl
      unfold fcB; rw [if_pos q]; exact hI
    · rw [if_neg (by omega), if_pos (by omega), zbd_of hh, if_pos (by omega)]
      obtain ⟨ρ, r1, r2, r3⟩ := ft_ok (β := β - 1) (by omega) hI h1 sc ha hb
      rw [p1] at r1 ⊢
      rw [zbd_of r1]
      refine next ρ ?_ r3
      unfold fcB; rw [if_neg q, hb]; exact r2
theorem fac_p12 {ar : Int → Nat} {pd : Int → Prop} {m9 : Int} {β : Nat} (hβ : 171 ≤ β) {k : Nat} {c : CL} (sc : cst c = 1) (w8 : c.1.length ≤ 8) {P : Int} : ∀ (m n : Nat) (σ : zS) (A : PA), CI ar pd m9 σ A → A.1[k]? = some c → pos A.1 k = P → n + m = c.1.length →
    ∃ τ, yE tG_Sat_factor_p12 β σ [(k : Int), (c.1.length : Int), (n : Int)] = some (τ, 0) ∧ CI ar pd m9 τ (fo (fcA ar pd m9 k c.1) m n A) ∧ IF σ τ
  | 0, n, σ, A, hI, h1, p1, hm => by
    refine ⟨σ, ?_, by unfold fo; exact hI, FrC.refl⟩
    rw [yq_Sat_factor_p12, kY_Sat_factor_p12, if_pos (by omega)]
  | m + 1, n, σ, A, hI, h1, p1, hm => by
    obtain ⟨d1, d2, d3, d4, d5, d6, d7, d8, d9, d10, d11, d12⟩ := id hI
    obtain ⟨a, ha⟩ : ∃ a, c.1[n]? = some a := ⟨_, List.getElem?_eq_getElem (by omega)⟩
    have hh := headOf_ok (β := β - 1) (by omega) d3 h1 (i := n) (by omega) w8
    have l1 := (List.getElem?_eq_some_iff.mp h1).1
    obtain ⟨Z, hZ⟩ := fcA_ext (ar := ar) (pd := pd) (m9 := m9) (k := k) (C := c.1) n A
    have next : ∀ (ρ : zS) (x3 x4 : Int), CI ar pd m9 ρ (fcA ar pd m9 k c.1 n A) → IF σ ρ → ∃ τ, yE tG_Sat_factor_p78 β ρ [(k : Int), (c.1.length : Int), (n : Int), x3, x4] = some (τ, 0) ∧ CI ar pd m9 τ (fo (fcA ar pd m9 k c.1) (m + 1) n A) ∧ IF σ τ := fun ρ x3 x4 hρ fρ => by
      obtain ⟨τ, t1, t2, t3⟩ := fac_p12 hβ sc w8 (P := P) m (n + 1) ρ _ hρ (by rw [hZ]; exact get_app h1) (by rw [hZ, pos_app l1]; exact p1) (by omega)
      refine ⟨τ, ?_, t2, fρ.trans t3⟩
      rw [yq_Sat_factor_p78, kY_Sat_factor_p78, if_pos (by omega), show (n : Int) + 1 = ((n + 1 : Nat) : Int) by omega]
      exact t1
    rw [yq_Sat_factor_p12, kY_Sat_factor_p12, if_neg (by omega), if_pos (by omega), zbd_of hh, p1]
    by_cases q : elI c.1 n
    · obtain ⟨ρ, r1, r2, r3⟩ := fac_p31 hβ sc w8 ha q (P := P) c.1.length 0 σ A hI h1 p1 (by omega)
      have r1' : yE tG_Sat_factor_p31 β σ [(k : Int), (c.1.length : Int), (n : Int), hp P c.1 n, 0] = _ := r1
      rw [r1']
      refine next ρ _ _ ?_ r3
      unfold fcA; rw [ha]; dsimp only; rw [if_pos q]; exact r2
    · have e1 := el_ok (β := β - 1) (d11 k c h1 sc) ha (d3.hl h1 ha)
      rw [p1, b2_f q] at e1
      rw [yq_Sat_factor_p31, kY_Sat_factor_p31, if_neg (by omega), if_pos (by omega), zbd_of e1, if_pos rfl]
      refine next σ _ _ ?_ FrC.refl
      unfold fcA; rw [ha]; dsimp only; rw [if_neg q]; exact hI
theorem fac_ok {ar : Int → Nat} {pd : Int → Prop} {m9 : Int} {β : Nat} (hβ : 171 ≤ β) {σ : zS} {A : PA} (hI : CI ar pd m9 σ A) {k : Nat} {c : CL} (hc : A.1[k]? = some c) (sc : cst c = 1) : ∃ τ, yE tG_Sat_factor β σ [(k : Int)] = some (τ, 0) ∧ CI ar pd m9 τ (facA ar pd m9 k c.1 A) ∧ IF σ τ := by
  have w8 := (hI.2.2.2.2.2.2.2.2.2.1 c (List.mem_of_getElem? hc)).1
  obtain ⟨τ, t1, t2, t3⟩ := fac_p12 hβ sc w8 (P := pos A.1 k) c.1.length 0 σ A hI hc rfl (by omega)
  refine ⟨τ, ?_, t2, t3⟩
  rw [yq_Sat_factor, kY_Sat_factor, if_pos (by omega), zbd_of (hI.2.2.1.f3 hc).1]
  exact t1
/-- with CLAUSE k -/
noncomputable def ifS (ar : Int → Nat) (pd : Int → Prop) (m9 : Int) (g : Nat) (G : List Lt) (k : Nat) (A : PA) : PA := match A.1[k]? with
  | some c => if cst c = 1 then (if k = g then supA ar pd m9 k c.1 g G A else supA ar pd m9 g G k c.1 (supA ar pd m9 k c.1 g G A)) else A
  | none => A
theorem ifS_ext {ar : Int → Nat} {pd : Int → Prop} {m9 : Int} {g : Nat} {G : List Lt} (k : Nat) (A : PA) : ∃ Z, (ifS ar pd m9 g G k A).1 = A.1 ++ Z := by
  unfold ifS
  split
  · split
    · split
      · exact supA_ext _
      · obtain ⟨Y, hY⟩ := supA_ext (ar := ar) (pd := pd) (m9 := m9) (k1 := k) (C1 := (‹CL›).1) (k2 := g) (C2 := G) A
        obtain ⟨Z, hZ⟩ := supA_ext (ar := ar) (pd := pd) (m9 := m9) (k1 := g) (C1 := G) (k2 := k) (C2 := (‹CL›).1) (supA ar pd m9 k (‹CL›).1 g G A)
        exact ⟨Y ++ Z, by rw [hZ, hY, List.append_assoc]⟩
    · exact ⟨[], by simp⟩
  · exact ⟨[], by simp⟩
/-- all INFERENCES from CLAUSE g -/
noncomputable def ifA (ar : Int → Nat) (pd : Int → Prop) (m9 : Int) (g : Nat) (G : List Lt) (A : PA) : PA := match selI G with
  | none => facA ar pd m9 g G (wh (ifS ar pd m9 g G) A.1.length 0 A)
  | some i => resA ar pd m9 g G i (wh (ifS ar pd m9 g G) A.1.length 0 A)
theorem proc_ok {β : Nat} (hβ : 1 ≤ β) {σ : zS} {Cs : List CL} (h : SC σ Cs) {k : Nat} {c : CL} (hc : Cs[k]? = some c) : yE tC_Sat_isProcessed β σ [(k : Int)] = some (σ, b2 (cst c = 1)) := by
  rw [yq_Sat_isProcessed, kY_Sat_isProcessed, if_pos (by omega), zbd_of (h.f3 hc).2.2.1]
  by_cases e : cst c = 1
  · rw [if_pos e, yq_Sat_isProcessed_p19, kY_Sat_isProcessed_p19, if_pos (Or.inr rfl), b2_t e]
  · rw [if_neg e, yq_Sat_isProcessed_p19, kY_Sat_isProcessed_p19, if_pos (Or.inl rfl), b2_f e]
theorem if_loop {ar : Int → Nat} {pd : Int → Prop} {m9 : Int} {β : Nat} (hβ : 173 ≤ β) {g : Nat} {G : CL} (sg : cst G = 1) {L : Nat} : ∀ (m n : Nat) (σ : zS) (A : PA), CI ar pd m9 σ A → A.1[g]? = some G → n + m = L → L ≤ A.1.length →
    ∃ (τ : zS) (x2 : Int), yE tG_Sat_inferFrom_p10 β σ [(g : Int), (L : Int), (n : Int)] = yE tG_Sat_inferFrom_p53 β τ [(g : Int), (L : Int), x2] ∧ CI ar pd m9 τ (wh (ifS ar pd m9 g G.1) m n A) ∧ IF σ τ
  | 0, n, σ, A, hI, h1, hm, hL => by
    refine ⟨σ, (n : Int), ?_, by unfold wh; exact hI, FrC.refl⟩
    rw [yq_Sat_inferFrom_p10, kY_Sat_inferFrom_p10, if_pos (by omega)]
  | m + 1, n, σ, A, hI, h1, hm, hL => by
    obtain ⟨d1, d2, d3, d4, d5, d6, d7, d8, d9, d10, d11, d12⟩ := id hI
    have e87 : σ.1 5300 = A.2 87 := d4.1
    obtain ⟨c, hc⟩ : ∃ c, A.1[n]? = some c := ⟨_, List.getElem?_eq_getElem (by omega)⟩
    obtain ⟨Z, hZ⟩ := ifS_ext (ar := ar) (pd := pd) (m9 := m9) (g := g) (G := G.1) n A
    rw [yq_Sat_inferFrom_p10, kY_Sat_inferFrom_p10, if_neg (by omega)]
    unfold wh
    have next : ∀ ρ : zS, CI ar pd m9 ρ (ifS ar pd m9 g G.1 n A) → IF σ ρ → ∃ (τ : zS) (x2 : Int), yE tG_Sat_inferFrom_p47 β ρ [(g : Int), (L : Int), (n : Int)] = yE tG_Sat_inferFrom_p53 β τ [(g : Int), (L : Int), x2] ∧ CI ar pd m9 τ (wh (ifS ar pd m9 g G.1) m (n + 1) (ifS ar pd m9 g G.1 n A)) ∧ IF σ τ := fun ρ hρ fρ => by
      obtain ⟨τ, x2, t1, t2, t3⟩ := if_loop hβ sg (L := L) m (n + 1) ρ _ hρ (by rw [hZ]; exact get_app h1) (by omega) (by rw [hZ, List.length_append]; omega)
      have l2 := d3.2.2.2.2.2.2.2
      refine ⟨τ, x2, ?_, t2, fρ.trans t3⟩
      rw [yq_Sat_inferFrom_p47, kY_Sat_inferFrom_p47, if_pos (by omega), show (n : Int) + 1 = ((n + 1 : Nat) : Int) by omega]
      exact t1
    by_cases h0 : A.2 87 = 0
    · rw [if_pos h0, if_pos (by omega), if_pos (by omega), zbd_of (proc_ok (β := β - 1) (by omega) d3 hc)]
      by_cases q : cst c = 1
      · rw [b2_t q, if_neg (by decide), if_pos (by omega)]
        obtain ⟨ρ, r1, r2, r3⟩ := sup_ok (β := β - 1) (by omega) hI hc h1 q sg
        rw [zbd_of r1]
        by_cases e : n = g
        · rw [if_pos (by omega)]
          refine next ρ ?_ r3
          unfold ifS; rw [hc]; dsimp only; rw [if_pos q, if_pos e]; exact r2
        · rw [if_neg (by omega), if_pos (by omega)]
          obtain ⟨Y, hY⟩ := supA_ext (ar := ar) (pd := pd) (m9 := m9) (k1 := n) (C1 := c.1) (k2 := g) (C2 := G.1) A
          obtain ⟨κ, q1, q2, q3⟩ := sup_ok (β := β - 1) (by omega) r2 (k1 := g) (k2 := n) (c1 := G) (c2 := c) (by rw [hY]; exact get_app h1) (by rw [hY]; exact get_app hc) sg q
          rw [zbd_of q1]
          refine next κ ?_ (r3.trans q3)
          unfold ifS; rw [hc]; dsimp only; rw [if_pos q, if_neg e]; exact q2
      · rw [b2_f q, if_pos rfl]
        refine next σ ?_ FrC.refl
        unfold ifS; rw [hc]; dsimp only; rw [if_neg q]; exact hI
    · rw [if_neg h0, if_neg (by omega)]
      exact ⟨σ, _, rfl, hI, FrC.refl⟩
theorem infer_ok {ar : Int → Nat} {pd : Int → Prop} {m9 : Int} {β : Nat} (hβ : 173 ≤ β) {σ : zS} {A : PA} (hI : CI ar pd m9 σ A) {g : Nat} {G : CL} (hg : A.1[g]? = some G) (sg : cst G = 1) : ∃ τ, yE tG_Sat_inferFrom β σ [(g : Int)] = some (τ, 0) ∧ CI ar pd m9 τ (ifA ar pd m9 g G.1 A) ∧ IF σ τ := by
  have hn := hI.2.2.1.2.1
  obtain ⟨ρ, x2, r1, r2, r3⟩ := if_loop hβ sg (L := A.1.length) A.1.length 0 σ A hI hg (by omega) (Nat.le_refl _)
  obtain ⟨Z, hZ⟩ := wh_ext (f := ifS ar pd m9 g G.1) ifS_ext A.1.length 0 A
  have hg2 : (wh (ifS ar pd m9 g G.1) A.1.length 0 A).1[g]? = some G := by rw [hZ]; exact get_app hg
  have w8 := (r2.2.2.2.2.2.2.2.2.2.1 G (List.mem_of_getElem? hg2)).1
  have hs := selectedOf_ok (β := β - 1) (by omega) r2.2.2.1 hg2 w8
  have e86 : ∀ (κ : zS) (x y z : Int), yE tG_Sat_inferFrom_p86 β κ [x, y, z] = some (κ, 0) := fun κ x y z => by rw [yq_Sat_inferFrom_p86, kY_Sat_inferFrom_p86]
  have r1' : yE tG_Sat_inferFrom_p10 β σ [(g : Int), (A.1.length : Int), 0] = _ := r1
  rw [yq_Sat_inferFrom, kY_Sat_inferFrom, hn, r1', yq_Sat_inferFrom_p53, kY_Sat_inferFrom_p53, if_pos (by omega), zbd_of hs]
  unfold ifA
  cases hsel : selI G.1 with
  | none =>
    rw [show hpo (pos (wh (ifS ar pd m9 g G.1) A.1.length 0 A).1 g) G.1 none = -1 from rfl, if_pos rfl, if_pos (by omega)]
    obtain ⟨τ, t1, t2, t3⟩ := fac_ok (β := β - 1) (by omega) r2 hg2 sg
    rw [zbd_of t1, e86]
    exact ⟨τ, rfl, t2, r3.trans t3⟩
  | some i =>
    have hi := selI_lt hsel
    have p0 := (r2.2.2.1.k hg2).2.1
    have hpi : 0 ≤ hp (pos (wh (ifS ar pd m9 g G.1) A.1.length 0 A).1 g) G.1 i := by unfold hp; omega
    rw [hsel] at hs
    rw [show hpo (pos (wh (ifS ar pd m9 g G.1) A.1.length 0 A).1 g) G.1 (some i) = hp (pos (wh (ifS ar pd m9 g G.1) A.1.length 0 A).1 g) G.1 i from rfl] at hs ⊢
    rw [if_neg (by omega), if_pos (by omega), zbd_of hs, if_pos (by omega)]
    obtain ⟨τ, t1, t2, t3⟩ := res_ok (β := β - 1) (by omega) r2 hg2 (i := i) (List.getElem?_eq_getElem hi)
    rw [zbd_of t1, e86]
    exact ⟨τ, rfl, t2, r3.trans t3⟩
