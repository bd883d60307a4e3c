/-! the reference: new LITERALS are REDUCED -/
theorem Dj_rm {e : En} {R : List En} : ∀ {K : List En}, Dj (K ++ e :: R) → Dj (K ++ R)
  | [], h => h.2.2.2
  | g :: K, h => by
    obtain ⟨h1, h2, h3, h4⟩ := h
    have sub : ∀ f ∈ K ++ R, f ∈ K ++ e :: R := fun f hf => by
      rcases List.mem_append.mp hf with w | w
      · exact List.mem_append.mpr (Or.inl w)
      · exact List.mem_append.mpr (Or.inr (List.mem_cons_of_mem _ w))
    exact ⟨h1, fun f hf => h2 f (sub f hf), fun f hf => h3 f (sub f hf), Dj_rm h4⟩
theorem Dj_dd : ∀ (R K : List En), Dj (K ++ R) → Dj (dd K R)
  | [], K, h => by rw [List.append_nil] at h; exact h
  | e :: R, K, h => by
    unfold dd
    by_cases w : ((e.1.1 = 0 ∧ e.1.2.1 = e.1.2.2) ∨ ∃ f ∈ K, f.1.1 = e.1.1 ∧ alikeL f.1 e.1)
    · rw [if_pos w]; exact Dj_dd R K (Dj_rm h)
    · rw [if_neg w]
      refine Dj_dd R (K ++ [e]) ?_
      rw [List.append_assoc]; exact h
theorem rnE_get : ∀ {E : List En} {N : List Int} {i : Nat} {f : En}, (rnE N E)[i]? = some f → ∃ e, E[i]? = some e ∧ f.2 = e.2
  | [], N, i, f, h => by simp [rnE] at h
  | e :: E, N, 0, f, h => by
    simp only [rnE, List.getElem?_cons_zero, Option.some.injEq] at h
    exact ⟨e, rfl, by rw [← h]⟩
  | e :: E, N, i + 1, f, h => by
    simp only [rnE, List.getElem?_cons_succ] at h
    obtain ⟨e', h1, h2⟩ := rnE_get h
    exact ⟨e', by rw [List.getElem?_cons_succ]; exact h1, h2⟩
/-- new LITERALS, before they get numbers -/
def RQ (ar : Int → Nat) (p : Int → Prop) (σ : zS) (E : List En) : Prop := σ.1 98 = (E.length : Int) ∧ E.length ≤ 8 ∧ (∀ (i : Nat) e, E[i]? = some e → Ns σ (i : Int) e ∧ Ne σ e ∧ ((e.1.1 = 0 ∨ e.1.1 = 1) ∧ wf ar p (tt e.1.2.1) ∧ wf ar p (tt e.1.2.2)) ∧ 205000 ≤ e.2.1 ∧ 205000 ≤ e.2.2) ∧ Dj E ∧ wtL (lts E) ≤ 100
theorem RE.rq {ar : Int → Nat} {m9 : Int} {σ : zS} {E : List En} (h : RE ar m9 σ E) : RQ ar (lb m9) σ E := by
  obtain ⟨h1, h2, h3, h4, h5⟩ := h
  refine ⟨h1, h2, fun i e he => ?_, h4, h5⟩
  obtain ⟨a, b, c, ⟨d, _⟩, f, _⟩ := h3 i e he
  exact ⟨a, b, c, d, f⟩
theorem rq_red {ar : Int → Nat} {pd : Int → Prop} {m9 : Int} {p : Int → Prop} (hp' : ∀ c, p c → c < m9) {β : Nat} (hβ : 110 ≤ β) {σ : zS} {A : PA} (hI : RI ar pd m9 σ A) {E : List En} (hQ : RQ ar p σ E) (h6 : (ntL [] (lts E)).length ≤ 6) : ∃ (τ : zS) (E2 : List En), zE tM_reduce β σ [] = some (τ, 0) ∧ zE tM_tautology β τ [] = some (τ, b2 (tautL (rnL [] (ddL [] (lts E))))) ∧ RD τ E2 ∧ lts E2 = rnL [] (ddL [] (lts E)) ∧ Wc ar m9 (rnL [] (ddL [] (lts E))) ∧ τ.1 101 = ((ntL [] (rnL [] (ddL [] (lts E)))).length : Int) ∧ RI ar pd m9 τ A ∧ FrC [98, 101] [43, 95, 96, 97, 100] σ τ := by
  obtain ⟨hR, hJ, hp, hK, m0, wC⟩ := id hI
  obtain ⟨q1, q2, q3, q4, q5⟩ := id hQ
  have wE : WL ar p (lts E) := fun a ha => by
    obtain ⟨e, he, rfl⟩ := List.mem_map.mp ha
    obtain ⟨i, hi⟩ := List.getElem?_of_mem he
    exact (q3 i e hi).2.2.1
  have hgt : ∀ e ∈ E, ht e.1.2.1.2 ≤ 100 ∧ ht e.1.2.2.2 ≤ 100 := fun e he => by
    have l : lwt e.1 ≤ wtL (lts E) := wtL_mm (List.mem_map.mpr ⟨e, he, rfl⟩)
    have el : lwt e.1 = (1 + wt e.1.2.1.2) + (1 + wt e.1.2.2.2) := rfl
    have h1 := ht_le_wt e.1.2.1.2
    have h2 := ht_le_wt e.1.2.2.2
    exact ⟨by omega, by omega⟩
  have hN : Nw ar p 100 σ E := by
    refine ⟨q1, by omega, Nss_of (fun m e he => by rw [show (0 : Int) + (m : Int) = (m : Int) by omega]; exact (q3 m e he).1), fun f hf => ?_⟩
    obtain ⟨i, hi⟩ := List.getElem?_of_mem hf
    obtain ⟨_, n1, ⟨n2, n3, n4⟩, _⟩ := q3 i f hi
    obtain ⟨g1, g2⟩ := hgt f hf
    exact ⟨n1, n2, n3, n4, g1, g2⟩
  have hmem : ∀ f ∈ dd [] E, f ∈ E := fun f hf => (dd_mem hf).elim (fun w => by cases w) id
  have hdd := dd_L E []
  have hdL : lts (dd [] E) = ddL [] (lts E) := hdd
  have dw := ddL_wt (lts E) []
  simp only [List.length_nil, wtL, Nat.zero_add] at dw
  have hw4 : wtE (dd [] E) ≤ 400 := by
    rw [wt_L]
    have : (dd [] E).map (fun e => e.1) = ddL [] (lts E) := hdd
    rw [this]; omega
  obtain ⟨τ, t1, t2, t3, t4, t5, t6, t7, t8⟩ := reduce_ok (β := β) (by omega) hN (Dj_dd E [] q4) hw4 hmem
  obtain ⟨E2, hE2⟩ : ∃ z, z = rnE [] (dd [] E) := ⟨_, rfl⟩
  have l2 : lts E2 = rnL [] (ddL [] (lts E)) := by rw [hE2, ← hdL]; exact rn_L _ _
  have e2len : E2.length = (dd [] E).length := by
    have := congrArg List.length l2
    have h2 := congrArg List.length hdL
    rw [List.length_map] at this h2
    rw [this, rnL_len, ← h2]
  have inb : inB (lts E) := ⟨by rw [List.length_map]; exact q2, q5, h6⟩
  have hnew := Wc_new m0 hp' wE inb
  have f : FrC [98, 101] [43, 95, 96, 97, 100] σ τ := by
    refine ⟨fun j hj => t6 j (fun e => by subst e; cases hj) (fun e => by subst e; cases hj), fun j q hj => t8 j q (fun e => by subst e; cases hj) (fun e => by subst e; cases hj) (fun e => by subst e; cases hj) (fun e => by subst e; cases hj) (fun w => by have := w.1; subst this; cases hj), fun j _ _ _ => by rw [t7], Mg.of t7⟩
  have pb : PB σ τ := fun j i b1 b2 b3 => by
    refine t8 j i (by omega) (by omega) (by omega) (by omega) (fun w => ?_)
    obtain ⟨_, g, hg, hh⟩ := w
    obtain ⟨k, hk⟩ := List.getElem?_of_mem (hmem g hg)
    obtain ⟨_, _, _, d1, d2⟩ := q3 k g hk
    rcases hh with ⟨x1, x2⟩ | ⟨x1, x2⟩ <;> omega
  have D2 : RD τ E2 := by
    refine ⟨by rw [e2len]; exact t2, fun i e he => ?_⟩
    have hn := Nss_get t3 (m := i) (e := e) (by rw [← hE2]; exact he)
    rw [show (0 : Int) + (i : Int) = (i : Int) by omega] at hn
    obtain ⟨e', he', ee⟩ := rnE_get (by rw [← hE2]; exact he)
    obtain ⟨k, hk⟩ := List.getElem?_of_mem (hmem e' (List.mem_of_getElem? he'))
    obtain ⟨_, _, _, d1, d2⟩ := q3 k e' hk
    exact ⟨hn, t4 e (by rw [← hE2]; exact List.mem_of_getElem? he), by rw [ee]; exact d1, by rw [ee]; exact d2⟩
  have N2 : Nw ar (lb m9) 100 τ E2 := by
    refine ⟨D2.1, by have := hnew.1; rw [← l2, List.length_map] at this; omega, by rw [hE2]; exact t3, fun g hg => ?_⟩
    have ha : g.1 ∈ rnL [] (ddL [] (lts E)) := by rw [← l2]; exact List.mem_map.mpr ⟨g, hg, rfl⟩
    obtain ⟨n2, n3, n4⟩ := hnew.2.2.2.2 g.1 ha
    have l : lwt g.1 ≤ wtL (rnL [] (ddL [] (lts E))) := wtL_mm ha
    have el : lwt g.1 = (1 + wt g.1.2.1.2) + (1 + wt g.1.2.2.2) := rfl
    have w1 := hnew.2.1
    have h1 := ht_le_wt g.1.2.1.2
    have h2 := ht_le_wt g.1.2.2.2
    exact ⟨t4 g (by rw [← hE2]; exact hg), n2, n3, n4, by omega, by omega⟩
  refine ⟨τ, E2, t1, ?_, D2, l2, hnew, ?_, ⟨hR.f f pb, hJ.f f, hp.f f, hK.f f, m0, wC⟩, f⟩
  · rw [tautology_ok (β := β) (by omega) N2]
    congr 2
    rw [← l2]
    exact b2_c (taut_L E2)
  · have := t5.1
    rw [this, nt_L]
    have e1 : (dd [] E).map (fun e => e.1) = ddL [] (lts E) := hdd
    rw [e1]
    exact keep_ok.rn_len (lts E) wE h6 m0 hp'
where
  rnL_len : ∀ {E : List Lt} {N : List Int}, (rnL N E).length = E.length
    | [], N => rfl
    | a :: E, N => by
      show (rnL _ E).length + 1 = E.length + 1
      rw [rnL_len]
