theorem dLS_lt {σ : zS} {i o : Int} {a : Lt} (h : dLS σ i o a) : 0 ≤ o ∧ o + (lwt a : Int) ≤ 100 := by
  have h1 := h.2.2.2.2.2.2.1
  have h2 := h.2.2.2.2.2.2.2
  simp only [lwt]
  exact ⟨h1, by omega⟩
/-- a LITERAL is moved to its new place -/
theorem reduce_137 {β : Nat} {σ : zS} {K R : List Lt} {a : Lt} {i o x7 : Int} (hK : RS σ 0 0 K) (hR : RS σ i o (a :: R)) (hs : a.1 = 0 ∨ a.1 = 1) (k1 : (K.length : Int) ≤ i) (i8 : i < 8) (ko : (wtL K : Int) ≤ o) (hki : (K.length : Int) = i → (wtL K : Int) = o) : ∃ τ, yE tC_Dra_reduce_p137 β σ [(K.length : Int), (wtL K : Int), i, o, (lwt a : Int), (tw a.2.1 : Int), 0, x7] = yE tC_Dra_reduce_p6 β τ [((K ++ [a]).length : Int), (wtL (K ++ [a]) : Int), i + 1] ∧ FrC [] [40, 41, 42, 43] σ τ ∧ RS τ 0 0 (K ++ [a]) ∧ RS τ (i + 1) (o + (tw a.2.1 : Int) + (tw a.2.2 : Int)) R := by
  obtain ⟨⟨a1, a2, a3, a4, a5, a6, a7, a8⟩, hR2⟩ := hR
  have el : (lwt a : Int) = (tw a.2.1 : Int) + (tw a.2.2 : Int) := by simp only [lwt]; omega
  have t1 := tw_pos a.2.1
  have t2 := tw_pos a.2.2
  have ew : (wtL (K ++ [a]) : Int) = (wtL K : Int) + (lwt a : Int) := by rw [wtL_app]; simp only [wtL, lwt]; omega
  have eL : ((K ++ [a]).length : Int) = (K.length : Int) + 1 := by simp
  obtain ⟨ρ, hρ⟩ : ∃ ρ, ρ = zCp σ 40 40 o (wtL K : Int) (lwt a : Int) := ⟨_, rfl⟩
  have c40 : ∀ q, ρ.2.1 40 q = if (wtL K : Int) ≤ q ∧ q < (wtL K : Int) + (lwt a : Int) then σ.2.1 40 (o + (q - (wtL K : Int))) else σ.2.1 40 q := fun q => by
    rw [hρ]
    show (if 40 = 40 ∧ (wtL K : Int) ≤ q ∧ q < (wtL K : Int) + (lwt a : Int) then _ else _) = _
    simp
  have cj : ∀ j q, j ≠ 40 → ρ.2.1 j q = σ.2.1 j q := fun j q hj => by
    rw [hρ]
    show (if j = 40 ∧ (wtL K : Int) ≤ q ∧ q < (wtL K : Int) + (lwt a : Int) then _ else _) = _
    simp [hj]
  have f0 : FrC [] [40, 41, 42, 43] σ ρ := by
    refine ⟨fun j _ => by rw [hρ]; rfl, fun j q hj => cj j q (fun e => by subst e; cases hj), fun j _ _ _ => by rw [hρ]; rfl, Mg.of (by rw [hρ]; rfl)⟩
  obtain ⟨τ, hτ⟩ : ∃ τ, τ = zA (zA (zA (zA ρ 43 (K.length : Int) (ρ.2.1 43 i)) 41 (K.length : Int) (wtL K : Int)) 42 (K.length : Int) ((wtL K : Int) + (tw a.2.1 : Int))) 41 ((K.length : Int) + 1) ((wtL K : Int) + (lwt a : Int)) := ⟨_, rfl⟩
  have f1 : FrC [] [40, 41, 42, 43] σ τ := by
    have b1 : FrC [] [40, 41, 42, 43] ρ (zA ρ 43 (K.length : Int) (ρ.2.1 43 i)) := FrC_A
    have b2 : FrC [] [40, 41, 42, 43] (zA ρ 43 (K.length : Int) (ρ.2.1 43 i)) (zA (zA ρ 43 (K.length : Int) (ρ.2.1 43 i)) 41 (K.length : Int) (wtL K : Int)) := FrC_A
    have b3 : FrC [] [40, 41, 42, 43] (zA (zA ρ 43 (K.length : Int) (ρ.2.1 43 i)) 41 (K.length : Int) (wtL K : Int)) (zA (zA (zA ρ 43 (K.length : Int) (ρ.2.1 43 i)) 41 (K.length : Int) (wtL K : Int)) 42 (K.length : Int) ((wtL K : Int) + (tw a.2.1 : Int))) := FrC_A
    rw [hτ]
    exact (((f0.trans b1).trans b2).trans b3).trans FrC_A
  have t40 : ∀ q, τ.2.1 40 q = ρ.2.1 40 q := fun q => by rw [hτ, zA_j, zA_j, zA_j, zA_j]
  have t43 : ∀ q, τ.2.1 43 q = if q = (K.length : Int) then a.1 else σ.2.1 43 q := fun q => by
    rw [hτ, zA_j, zA_j, zA_j]
    by_cases e : q = (K.length : Int)
    · rw [if_pos e, e, zA_s, cj 43 i (by decide)]; exact a4
    · rw [if_neg e, zA_i e, cj 43 q (by decide)]
  have t42 : ∀ q, τ.2.1 42 q = if q = (K.length : Int) then (wtL K : Int) + (tw a.2.1 : Int) else σ.2.1 42 q := fun q => by
    rw [hτ, zA_j]
    by_cases e : q = (K.length : Int)
    · rw [if_pos e, e, zA_s]
    · rw [if_neg e, zA_i e, zA_j, zA_j, cj 42 q (by decide)]
  have t41 : ∀ q, τ.2.1 41 q = if q = (K.length : Int) + 1 then (wtL K : Int) + (lwt a : Int) else if q = (K.length : Int) then (wtL K : Int) else σ.2.1 41 q := fun q => by
    rw [hτ]
    by_cases e : q = (K.length : Int) + 1
    · rw [if_pos e, e, zA_s]
    · rw [if_neg e, zA_i e, zA_j]
      by_cases e2 : q = (K.length : Int)
      · rw [if_pos e2, e2, zA_s]
      · rw [if_neg e2, zA_i e2, zA_j, cj 41 q (by decide)]
  -- the end of K
  have kend : 1 ≤ K.length → σ.2.1 41 (K.length : Int) = (wtL K : Int) := fun hk => by
    have hl : K.length - 1 < K.length := by omega
    have g := RS_get hK (List.getElem?_eq_getElem hl)
    have g3 := g.2.2.1
    have e1 : K = K.take (K.length - 1) ++ [K[K.length - 1]] := by
      have : K.take (K.length - 1 + 1) = K.take (K.length - 1) ++ [K[K.length - 1]] := by rw [List.take_succ, List.getElem?_eq_getElem hl]; rfl
      rw [show K.length - 1 + 1 = K.length by omega, List.take_length] at this
      exact this
    have e2 : wtL K = wtL (K.take (K.length - 1)) + lwt K[K.length - 1] := by
      conv => lhs; rw [e1]
      rw [wtL_app]; simp only [wtL, lwt]; omega
    rw [show (0 : Int) + ((K.length - 1 : Nat) : Int) + 1 = (K.length : Int) by omega] at g3
    rw [g3, e2]; simp only [lwt]; omega
  refine ⟨τ, ?_, f1, RS_app.mpr ⟨RS_q hK (fun j j0 j1 j2 => ?_) (fun j j0 j1 => ?_) (fun q q0 q1 => ?_), ⟨?_, ?_, ?_, ?_, ?_, ?_, ?_, ?_⟩, trivial⟩, RS_q hR2 (fun j j0 j1 j2 => ?_) (fun j j0 j1 => ?_) (fun q q0 q1 => ?_)⟩
  · rw [yq_Dra_reduce_p137, kY_Dra_reduce_p137, if_pos rfl, if_pos ⟨by omega, by omega, by omega, by omega, by omega⟩, lt_e, ← hρ, if_pos (by omega), if_pos (by omega), if_pos (by rw [cj 43 i (by decide), a4]; exact hs), lt_e, if_pos (by omega), lt_e, if_pos (by omega), lt_e, if_pos (by omega), if_pos (by omega), if_pos (by omega), lt_e, ← hτ, yq_Dra_reduce_p202, kY_Dra_reduce_p202, if_pos (by omega), ew, eL]
  · rw [t41, if_neg (by omega)]
    by_cases e : j = (K.length : Int)
    · rw [if_pos e, e, kend j2]
    · rw [if_neg e]
  · rw [t42, t43, if_neg (by omega), if_neg (by omega)]; exact ⟨rfl, rfl⟩
  · rw [t40, c40, if_neg (by omega)]
  · rw [t41, if_neg (by omega), if_pos (by omega)]; omega
  · rw [t42, if_pos (by omega)]; omega
  · rw [t41, if_pos (by omega)]; omega
  · rw [t43, if_pos (by omega)]
  · refine Fl_of (fun j c hc => ?_)
    have hj := (List.getElem?_eq_some_iff.mp hc).1
    rw [tt_len] at hj
    rw [t40, c40, if_pos (by omega), show o + (0 + (wtL K : Int) + (j : Int) - (wtL K : Int)) = o + (j : Int) by omega]
    exact Fl_get a5 hc
  · refine Fl_of (fun j c hc => ?_)
    have hj := (List.getElem?_eq_some_iff.mp hc).1
    rw [tt_len] at hj
    rw [t40, c40, if_pos (by omega), show o + (0 + (wtL K : Int) + (tw a.2.1 : Int) + (j : Int) - (wtL K : Int)) = o + (tw a.2.1 : Int) + (j : Int) by omega]
    exact Fl_get a6 hc
  · omega
  · omega
  · rw [t41]
    by_cases e : j = (K.length : Int) + 1
    · rw [if_pos e]
      have hk : (K.length : Int) = i := by omega
      have := hki hk
      rw [e, hk, a3]; omega
    · rw [if_neg e, if_neg (by omega)]
  · rw [t42, t43, if_neg (by omega), if_neg (by omega)]; exact ⟨rfl, rfl⟩
  · rw [t40, c40, if_neg (by omega)]
theorem reduce_loop {ar : Int → Nat} {p : Int → Prop} {β : Nat} (hβ : 2 ≤ β) : ∀ (R K : List Lt) (σ : zS) (i : Int) (o : Int), RS σ 0 0 K → RS σ i o R → WL ar p K → WL ar p R → (K.length : Int) ≤ i → (wtL K : Int) ≤ o → ((K.length : Int) = i → (wtL K : Int) = o) → i + (R.length : Int) = σ.1 3905 → σ.1 3905 ≤ 8 → ∃ τ, yE tC_Dra_reduce_p6 β σ [(K.length : Int), (wtL K : Int), i] = yE tC_Dra_reduce_p6 β τ [((ddL K R).length : Int), (wtL (ddL K R) : Int), σ.1 3905] ∧ FrC [] [40, 41, 42, 43] σ τ ∧ RS τ 0 0 (ddL K R)
  | [], K, σ, i, o, hK, _, _, _, _, _, _, hi, _ => by
    simp only [List.length_nil] at hi
    have : i = σ.1 3905 := by omega
    subst this
    exact ⟨σ, rfl, FrC.refl, hK⟩
  | a :: R, K, σ, i, o, hK, hR, wK, wR, k1, ko, hki, hi, h8 => by
    simp only [List.length_cons] at hi
    obtain ⟨la, hR2⟩ := id hR
    obtain ⟨a1, a2, a3, a4, a5, a6, a7, a8⟩ := id la
    have t1 := tw_pos a.2.1
    have t2 := tw_pos a.2.2
    obtain ⟨sa, wa1, wa2⟩ := wR a List.mem_cons_self
    have el : (lwt a : Int) = (tw a.2.1 : Int) + (tw a.2.2 : Int) := by simp only [lwt]; omega
    have wR2 : WL ar p R := fun b hb => wR b (List.mem_cons_of_mem _ hb)
    have e1 : σ.2.1 42 i - σ.2.1 41 i = (tw a.2.1 : Int) := by omega
    have e2 : σ.2.1 41 (i + 1) - σ.2.1 41 i = (lwt a : Int) := by omega
    have kl : K.length ≤ 8 := by omega
    -- it goes
    have goes : ∀ x7 : Int, ((a.1 = 0 ∧ a.2.1 = a.2.2) ∨ ∃ f ∈ K, f.1 = a.1 ∧ alikeL f a) → ∃ τ, yE tC_Dra_reduce_p137 β σ [(K.length : Int), (wtL K : Int), i, o, (lwt a : Int), (tw a.2.1 : Int), 1, x7] = yE tC_Dra_reduce_p6 β τ [((ddL K (a :: R)).length : Int), (wtL (ddL K (a :: R)) : Int), σ.1 3905] ∧ FrC [] [40, 41, 42, 43] σ τ ∧ RS τ 0 0 (ddL K (a :: R)) := fun x7 hg => by
      obtain ⟨τ, q1, q2, q3⟩ := reduce_loop hβ R K σ (i + 1) (o + (tw a.2.1 : Int) + (tw a.2.2 : Int)) hK hR2 wK wR2 (by omega) (by omega) (fun w => by omega) (by omega) h8
      have ed : ddL K (a :: R) = ddL K R := by simp only [ddL]; rw [if_pos hg]
      rw [ed]
      refine ⟨τ, ?_, q2, q3⟩
      rw [yq_Dra_reduce_p137, kY_Dra_reduce_p137, if_neg (by decide), yq_Dra_reduce_p202, kY_Dra_reduce_p202, if_pos (by omega), q1]
    -- it stays
    have stays : ∀ x7 : Int, ¬ ((a.1 = 0 ∧ a.2.1 = a.2.2) ∨ ∃ f ∈ K, f.1 = a.1 ∧ alikeL f a) → ∃ τ, yE tC_Dra_reduce_p137 β σ [(K.length : Int), (wtL K : Int), i, o, (lwt a : Int), (tw a.2.1 : Int), 0, x7] = yE tC_Dra_reduce_p6 β τ [((ddL K (a :: R)).length : Int), (wtL (ddL K (a :: R)) : Int), σ.1 3905] ∧ FrC [] [40, 41, 42, 43] σ τ ∧ RS τ 0 0 (ddL K (a :: R)) := fun x7 hg => by
      obtain ⟨ρ, r1, r2, r3, r4⟩ := reduce_137 (β := β) (x7 := x7) hK hR sa k1 (by omega) ko hki
      have hl9 : ρ.1 3905 = σ.1 3905 := r2.i 3905
      have ew : (wtL (K ++ [a]) : Int) = (wtL K : Int) + (lwt a : Int) := by rw [wtL_app]; simp only [wtL, lwt]; omega
      have eL : ((K ++ [a]).length : Int) = (K.length : Int) + 1 := by simp
      obtain ⟨τ, q1, q2, q3⟩ := reduce_loop hβ R (K ++ [a]) ρ (i + 1) (o + (tw a.2.1 : Int) + (tw a.2.2 : Int)) r3 r4 (fun b hb => by
        rcases List.mem_append.mp hb with w | w
        · exact wK b w
        · simp at w; subst w; exact ⟨sa, wa1, wa2⟩) wR2 (by omega) (by omega) (fun w => by have := hki (by omega); omega) (by omega) (by omega)
      have ed : ddL K (a :: R) = ddL (K ++ [a]) R := by simp only [ddL]; rw [if_neg hg]
      rw [ed]
      refine ⟨τ, ?_, r2.trans q2, q3⟩
      rw [r1, q1, hl9]
    -- is one like it there
    have look : ¬ (a.1 = 0 ∧ a.2.1 = a.2.2) → ∀ (m j : Nat), j + m = K.length → (∀ (q : Nat) f, q < j → K[q]? = some f → ¬ (f.1 = a.1 ∧ alikeL f a)) → ∃ τ, yE tC_Dra_reduce_p87 β σ [(K.length : Int), (wtL K : Int), i, o, (lwt a : Int), (tw a.2.1 : Int), 0, (j : Int)] = yE tC_Dra_reduce_p6 β τ [((ddL K (a :: R)).length : Int), (wtL (ddL K (a :: R)) : Int), σ.1 3905] ∧ FrC [] [40, 41, 42, 43] σ τ ∧ RS τ 0 0 (ddL K (a :: R)) := by
      intro hself m
      induction m with
      | zero =>
        intro j hj hn
        rw [yq_Dra_reduce_p87, kY_Dra_reduce_p87, if_pos (by omega)]
        refine stays _ (fun w => ?_)
        rcases w with w | ⟨f, hf, w⟩
        · exact hself w
        · obtain ⟨q, hq, eq⟩ := List.mem_iff_getElem.mp hf
          exact hn q f (by omega) (by rw [List.getElem?_eq_getElem hq, eq]) w
      | succ m ih =>
        intro j hj hn
        have hjl : j < K.length := by omega
        have hb := List.getElem?_eq_getElem hjl
        have mb : K[j] ∈ K := List.getElem_mem hjl
        have lb' : dLS σ (j : Int) (wtL (K.take j) : Int) K[j] := by have := RS_get hK hb; simpa using this
        have e129 : ∀ r : Int, yE tC_Dra_reduce_p129 β σ [(K.length : Int), (wtL K : Int), i, o, (lwt a : Int), (tw a.2.1 : Int), 0, (j : Int), r] = yE tC_Dra_reduce_p87 β σ [(K.length : Int), (wtL K : Int), i, o, (lwt a : Int), (tw a.2.1 : Int), r, ((j + 1 : Nat) : Int)] := fun r => by rw [yq_Dra_reduce_p129, kY_Dra_reduce_p129, if_pos (by omega), show (j : Int) + 1 = ((j + 1 : Nat) : Int) by omega]
        have next : ¬ (K[j].1 = a.1 ∧ alikeL K[j] a) → ∃ τ, yE tC_Dra_reduce_p128 β σ [(K.length : Int), (wtL K : Int), i, o, (lwt a : Int), (tw a.2.1 : Int), 0, (j : Int)] = yE tC_Dra_reduce_p6 β τ [((ddL K (a :: R)).length : Int), (wtL (ddL K (a :: R)) : Int), σ.1 3905] ∧ FrC [] [40, 41, 42, 43] σ τ ∧ RS τ 0 0 (ddL K (a :: R)) := fun n => by
          rw [yq_Dra_reduce_p128, kY_Dra_reduce_p128, e129]
          refine ih (j + 1) (by omega) (fun q f hq hf w => ?_)
          by_cases e : q = j
          · subst e
            rw [hb] at hf
            obtain rfl := Option.some.inj hf
            exact n w
          · exact hn q f (by omega) hf w
        rw [yq_Dra_reduce_p87, kY_Dra_reduce_p87, if_neg (by omega), if_pos rfl, if_pos (by omega), if_pos (by omega), lb'.2.2.2.1, a4]
        by_cases hs : K[j].1 = a.1
        · rw [if_pos hs, if_pos (by omega), zbd_of (hasSame_ok (by omega) la lb' (by omega) (by omega) (by omega) (by omega) wa1 wa2 (wK _ mb).2.1 (wK _ mb).2.2)]
          have sym : alikeL a K[j] ↔ alikeL K[j] a := by
            unfold alikeL
            constructor
            · rintro (⟨u, v⟩ | ⟨u, v⟩)
              · exact Or.inl ⟨u.symm, v.symm⟩
              · exact Or.inr ⟨v.symm, u.symm⟩
            · rintro (⟨u, v⟩ | ⟨u, v⟩)
              · exact Or.inl ⟨u.symm, v.symm⟩
              · exact Or.inr ⟨v.symm, u.symm⟩
          by_cases hal : alikeL a K[j]
          · rw [b2_t hal, if_neg (by decide), e129, yq_Dra_reduce_p87, kY_Dra_reduce_p87]
            have g := goes ((j + 1 : Nat) : Int) (Or.inr ⟨K[j], mb, hs, sym.mp hal⟩)
            by_cases hle : (K.length : Int) ≤ ((j + 1 : Nat) : Int)
            · rw [if_pos hle]; exact g
            · rw [if_neg hle, if_neg (by decide)]; exact g
          · rw [b2_f hal, if_pos rfl]
            exact next (fun w => hal (sym.mpr w.2))
        · rw [if_neg hs]
          exact next (fun w => hs w.1)
    have p81 : ¬ (a.1 = 0 ∧ a.2.1 = a.2.2) → ∃ τ, yE tC_Dra_reduce_p81 β σ [(K.length : Int), (wtL K : Int), i, o, (lwt a : Int), (tw a.2.1 : Int)] = yE tC_Dra_reduce_p6 β τ [((ddL K (a :: R)).length : Int), (wtL (ddL K (a :: R)) : Int), σ.1 3905] ∧ FrC [] [40, 41, 42, 43] σ τ ∧ RS τ 0 0 (ddL K (a :: R)) := fun n => by
      rw [yq_Dra_reduce_p81, kY_Dra_reduce_p81, yq_Dra_reduce_p82, kY_Dra_reduce_p82]
      exact look n K.length 0 (by omega) (fun q f hq => by omega)
    rw [yq_Dra_reduce_p6, kY_Dra_reduce_p6, if_neg (by omega), if_pos (by omega), if_pos (by omega), if_pos (by omega), if_pos (by omega), a4, e1, e2]
    rcases sa with x | x
    · rw [if_pos x, if_pos (by omega), if_pos (by omega), if_pos (by omega), if_pos (by omega), a1, a2, show (lwt a : Int) - (tw a.2.1 : Int) = (tw a.2.2 : Int) by omega, zbd_of (isSame_ok a5 a6 wa1 wa2 (by omega) (by omega) (by omega) (by omega))]
      by_cases hs : a.2.1 = a.2.2
      · rw [b2_t hs, if_neg (by decide), yq_Dra_reduce_p82, kY_Dra_reduce_p82, yq_Dra_reduce_p87, kY_Dra_reduce_p87]
        have g := goes 0 (Or.inl ⟨x, hs⟩)
        by_cases hle : (K.length : Int) ≤ 0
        · rw [if_pos hle]; exact g
        · rw [if_neg hle, if_neg (by decide)]; exact g
      · rw [b2_f hs, if_pos rfl]
        exact p81 (fun w => hs w.2)
    · rw [if_neg (by omega), if_pos (by omega), if_pos (by omega), a1]
      exact p81 (fun w => by omega)
/-! then VARIABLES get their numbers -/
def RN (σ : zS) (N : List Int) : Prop := σ.1 3906 = (N.length : Int) ∧ ∀ v, 0 ≤ v → v < 6 → σ.2.1 45 v = if idx N (-1 - v) < N.length then (idx N (-1 - v) : Int) else -1
theorem renum_loop {β : Nat} : ∀ (L A N : List Int) (σ : zS), Fl (σ.2.1 40) 0 (A ++ L) → σ.1 3904 = ((A ++ L).length : Int) → (A ++ L).length ≤ 100 → (∀ c ∈ L, -6 ≤ c) → RN σ N → N.length ≤ A.length → ∃ τ, yE tC_Dra_renumber_p15 β σ [(A.length : Int)] = some (τ, 0) ∧ FrC [3906] [40, 45] σ τ ∧ Fl (τ.2.1 40) 0 (A ++ rnF N L) ∧ τ.1 3906 = ((ntF N L).length : Int)
  | [], A, N, σ, hF, hu, hl, _, hN, _ => by
    refine ⟨σ, ?_, FrC.refl, hF, hN.1⟩
    simp only [List.append_nil] at hu
    rw [yq_Dra_renumber_p15, kY_Dra_renumber_p15, if_pos (by omega)]
  | c :: L, A, N, σ, hF, hu, hl, hc, hN, hN9 => by
    obtain ⟨f1, f2⟩ := Fl_app.mp hF
    have e40 : σ.2.1 40 (A.length : Int) = c := by
      have := f2.1
      rw [show (0 : Int) + (A.length : Int) = (A.length : Int) by omega] at this; exact this
    simp only [List.length_append, List.length_cons] at hu hl
    have hc0 := hc c List.mem_cons_self
    have e82 : ∀ ρ : zS, yE tC_Dra_renumber_p82 β ρ [(A.length : Int)] = yE tC_Dra_renumber_p15 β ρ [((A.length + 1 : Nat) : Int)] := fun ρ => by rw [yq_Dra_renumber_p82, kY_Dra_renumber_p82, if_pos (by omega), show (A.length : Int) + 1 = ((A.length + 1 : Nat) : Int) by omega]
    rw [yq_Dra_renumber_p15, kY_Dra_renumber_p15, if_neg (by omega), if_pos (by omega), e40]
    by_cases hn : 0 ≤ c
    · have hn2 : ¬ c < 0 := by omega
      obtain ⟨τ, t1, t2, t3, t4⟩ := renum_loop (β := β) L (A ++ [c]) N σ (by simpa using hF) (by simp; omega) (by simp; omega) (fun d hd => hc d (List.mem_cons_of_mem _ hd)) hN (by simp; omega)
      simp only [rnF, ntF, hn2, if_false]
      refine ⟨τ, ?_, t2, by simpa using t3, t4⟩
      rw [if_pos hn, e82]
      simpa using t1
    · have hn2 : c < 0 := by omega
      rw [if_neg hn, if_pos (by omega)]
      simp only [rnF, ntF, hn2, if_true]
      have hv := hN.2 (-1 - c) (by omega) (by omega)
      rw [show (-1 - (-1 - c) : Int) = c by omega] at hv
      -- the number of this one stands
      have fin : ∀ ρ : zS, FrC [3906] [45] σ ρ → RN ρ (add1 N c) → ρ.2.1 45 (-1 - c) = (idx N c : Int) → (add1 N c).length ≤ A.length + 1 → ∃ τ, yE tC_Dra_renumber_p68 β ρ [(A.length : Int), -1 - c] = some (τ, 0) ∧ FrC [3906] [40, 45] σ τ ∧ Fl (τ.2.1 40) 0 (A ++ (-1 - (idx N c : Int)) :: rnF (add1 N c) L) ∧ τ.1 3906 = ((ntF (add1 N c) L).length : Int) := fun ρ f hR h45 hb => by
        have g1 : FrC [] [40] ρ (zA ρ 40 (A.length : Int) (-1 - ρ.2.1 45 (-1 - c))) := FrC_A
        have hF2 : Fl ((zA ρ 40 (A.length : Int) (-1 - ρ.2.1 45 (-1 - c))).2.1 40) 0 ((A ++ [-1 - (idx N c : Int)]) ++ L) := by
          rw [List.append_assoc]
          refine Fl_app.mpr ⟨Fl_q (fun q q0 q1 => ?_) f1, ?_, Fl_q (fun q q0 q1 => ?_) f2.2⟩
          · rw [zA_i (by omega), f.a 40]
          · rw [show (0 : Int) + (A.length : Int) = (A.length : Int) by omega, zA_s, h45]
          · rw [zA_i (by omega), f.a 40]
        have hR2 : RN (zA ρ 40 (A.length : Int) (-1 - ρ.2.1 45 (-1 - c))) (add1 N c) := ⟨hR.1, fun v a b => by rw [zA_j]; exact hR.2 v a b⟩
        obtain ⟨τ, t1, t2, t3, t4⟩ := renum_loop (β := β) L (A ++ [-1 - (idx N c : Int)]) (add1 N c) _ hF2 (by rw [zA_1, f.i 3904]; simp; omega) (by simp; omega) (fun d hd => hc d (List.mem_cons_of_mem _ hd)) hR2 (by simp; omega)
        refine ⟨τ, ?_, (f.w.trans g1.w).trans t2, by simpa using t3, t4⟩
        rw [yq_Dra_renumber_p68, kY_Dra_renumber_p68, if_pos (by omega), if_pos (by omega), lt_e, e82]
        simpa using t1
      by_cases hi : idx N c < N.length
      · rw [if_pos hi] at hv
        rw [if_neg (by omega)]
        have ea : add1 N c = N := by unfold add1; rw [if_pos hi]
        exact fin σ FrC.refl (by rw [ea]; exact hN) hv (by rw [ea]; omega)
      · rw [if_neg hi] at hv
        have hi2 : idx N c = N.length := by have := idx_le N c; omega
        have ea : add1 N c = N ++ [c] := by unfold add1; rw [if_neg hi]
        have g0 : FrC [3906] [45] σ (zA (zI σ 3906 (σ.1 3906 + 1)) 45 (-1 - c) (σ.1 3906)) := by
          have b1 : FrC [3906] [45] σ (zI σ 3906 (σ.1 3906 + 1)) := FrC_I
          exact b1.trans FrC_A
        have hN1 := hN.1
        rw [if_pos hv, if_pos (by omega), lt_e, lt_e]
        refine fin _ g0 ?_ (by rw [zA_s, hN1, hi2]) ?_
        · rw [ea]
          refine ⟨by rw [zA_1, zI_1, hN1]; simp, fun v a b => ?_⟩
          by_cases e : v = -1 - c
          · rw [e, zA_s, show (-1 - (-1 - c) : Int) = c by omega, idx_self, if_neg hi, if_pos (by simp), hN1]
          · rw [zA_i e, zI_2, hN.2 v a b, idx_app (by omega)]
            by_cases q : idx N (-1 - v) < N.length
            · rw [if_pos q, if_pos q, if_pos (by simp; omega)]
            · rw [if_neg q, if_neg q, if_neg (by simp)]
        · rw [ea]; simp; omega
