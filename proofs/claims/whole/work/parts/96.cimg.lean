/-! what REWRITING puts in: image 68, its size 6605 -/
def thM (M : Mv) : Vs := fun v => match M v with
  | some x => x
  | none => vt v
theorem FrC_C {I A : List Nat} {σ : zS} {k j : Nat} {a b n : Int} (hk : A.elem j = true := by decide) : FrC I A σ (zCp σ k j a b n) := by
  refine ⟨fun _ _ => rfl, fun i q hi => ?_, fun _ _ _ _ => rfl, Mg.refl⟩
  have : i ≠ j := fun e => by rw [e, hk] at hi; cases hi
  show (if i = j ∧ b ≤ q ∧ q < b + n then _ else _) = _
  rw [if_neg (fun h => this h.1)]
theorem Fl_one {g : Int → Int} {p c : Int} (h : g p = c) : Fl g p [c] := ⟨h, trivial⟩
theorem img40_loop {ar : Int → Nat} {pd : Int → Prop} {m9 : Int} {β : Nat} (hβ : 2 ≤ β) {x0 x1 : Int} {room : Int} (hr : room ≤ 100) : ∀ (L : List Int) (σ : zS) (M : Mv) (W : List Int) (i : Int), Cx ar pd m9 σ → Fl (σ.2.1 48) i L → (∀ c ∈ L, lb m9 c) → 0 ≤ i → i + (L.length : Int) = x0 + x1 → x0 + x1 ≤ σ.1 4701 → MtA ar m9 (σ.2.1 40) (100 : Int) σ M → σ.1 6605 = (W.length : Int) → Fl (σ.2.1 68) 0 W → (W.length : Int) ≤ room →
    ∃ τ r, yE tC_Mat_makeImage_40_p8 β σ [x0, x1, room, i] = some (τ, r) ∧ FrC [6605] [68] σ τ ∧ ((r = 1 ∧ (∀ c ∈ L, c < 0 → M (-1 - c) ≠ none) ∧ ((W.length + (exL (thM M) 0 L).length : Nat) : Int) ≤ room ∧ τ.1 6605 = ((W.length + (exL (thM M) 0 L).length : Nat) : Int) ∧ Fl (τ.2.1 68) 0 (W ++ exL (thM M) 0 L)) ∨ (r = 0 ∧ ¬ ((∀ c ∈ L, c < 0 → M (-1 - c) ≠ none) ∧ ((W.length + (exL (thM M) 0 L).length : Nat) : Int) ≤ room)))
  | [], σ, M, W, i, hC, hF, hl, i0, i1, i2, hM, hW, hI, hR => by
    obtain ⟨c1, c2, c3, c4, c5, c6⟩ := id hC
    simp only [List.length_nil] at i1
    refine ⟨σ, 1, ?_, FrC.refl, Or.inl ⟨rfl, fun c hc => (by cases hc), by simpa [exL] using hR, by simpa [exL] using hW, by simpa [exL] using hI⟩⟩
    rw [yq_Mat_makeImage_40_p8, kY_Mat_makeImage_40_p8, if_pos (by omega), if_pos (by omega)]
  | c :: L, σ, M, W, i, hC, hF, hl, i0, i1, i2, hM, hW, hI, hR => by
    obtain ⟨c1, c2, c3, c4, c5, c6⟩ := id hC
    simp only [List.length_cons] at i1
    have e1 : σ.2.1 48 i = c := hF.1
    have lc := hl c List.mem_cons_self
    -- X is put in
    have next : ∀ (ρ : zS) (X : List Int) (x5 : Int), FrC [6605] [68] σ ρ → ρ.1 6605 = σ.1 6605 → Fl (ρ.2.1 68) 0 (W ++ X) → (W.length : Int) + (X.length : Int) ≤ room → exL (thM M) 0 (c :: L) = X ++ exL (thM M) 0 L → (c < 0 → M (-1 - c) ≠ none) → ∃ τ r, yE tC_Mat_makeImage_40_p160 β ρ [x0, x1, room, i, c, x5, (X.length : Int)] = some (τ, r) ∧ FrC [6605] [68] σ τ ∧ ((r = 1 ∧ (∀ d ∈ c :: L, d < 0 → M (-1 - d) ≠ none) ∧ ((W.length + (exL (thM M) 0 (c :: L)).length : Nat) : Int) ≤ room ∧ τ.1 6605 = ((W.length + (exL (thM M) 0 (c :: L)).length : Nat) : Int) ∧ Fl (τ.2.1 68) 0 (W ++ exL (thM M) 0 (c :: L))) ∨ (r = 0 ∧ ¬ ((∀ d ∈ c :: L, d < 0 → M (-1 - d) ≠ none) ∧ ((W.length + (exL (thM M) 0 (c :: L)).length : Nat) : Int) ≤ room))) := fun ρ X x5 fρ h66 hX hl2 hex hcM => by
      obtain ⟨κ, hκ⟩ : ∃ z, z = zI ρ 6605 (ρ.1 6605 + (X.length : Int)) := ⟨_, rfl⟩
      have fκ : FrC [6605] [68] ρ κ := by rw [hκ]; exact FrC_I
      have gκ : FrC [6605] [68] σ κ := fρ.trans fκ
      have e48 : ∀ q, κ.2.1 48 q = σ.2.1 48 q := fun q => gκ.a 48 q
      have e67 : ∀ q, κ.2.1 67 q = σ.2.1 67 q := fun q => gκ.a 67 q
      have eT : κ.2.1 40 = σ.2.1 40 := funext fun q => gκ.a 40 q
      have l48 : κ.2.2 48 = σ.2.2 48 := gκ.2.2.1 48 (by decide) (by decide) (by decide)
      have e47 : κ.1 4701 = σ.1 4701 := gκ.i 4701
      have e63 : κ.1 6603 = σ.1 6603 := gκ.i 6603
      have hMκ : MtA ar m9 (κ.2.1 40) (100 : Int) κ M := by
        unfold MtA at hM ⊢
        rw [eT, e63]
        refine ⟨hM.1, fun v v0 v1 => ?_⟩
        rw [e67]; exact hM.2 v v0 v1
      obtain ⟨τ, r, t1, t2, t3⟩ := img40_loop hβ (x0 := x0) (x1 := x1) hr L κ M (W ++ X) (i + 1) (hC.f gκ) (Fl_q (fun j _ _ => e48 j) hF.2) (fun d hd => hl d (List.mem_cons_of_mem _ hd)) (by omega) (by omega) (by omega) hMκ (by rw [hκ, zI_1, h66, hW, List.length_append]; omega) (by rw [hκ]; exact hX) (by rw [List.length_append]; omega)
      refine ⟨τ, r, ?_, gκ.trans t2, ?_⟩
      · rw [yq_Mat_makeImage_40_p160, kY_Mat_makeImage_40_p160, if_pos (by omega), lt_e, ← hκ, if_pos (by omega)]
        exact t1
      · rw [hex]
        rw [List.length_append] at t3
        have el : (W.length + (X ++ exL (thM M) 0 L).length : Nat) = W.length + X.length + (exL (thM M) 0 L).length := by rw [List.length_append]; omega
        rw [el]
        rcases t3 with ⟨a1, a2, a3, a4, a5⟩ | ⟨a1, a2⟩
        · left
          refine ⟨a1, fun d hd => ?_, a3, a4, by rw [← List.append_assoc]; exact a5⟩
          rcases List.mem_cons.mp hd with rfl | hd
          · exact hcM
          · exact a2 d hd
        · right
          exact ⟨a1, fun z => a2 ⟨fun d hd => z.1 d (List.mem_cons_of_mem _ hd), z.2⟩⟩
    have e123 : ∀ (a b d : Int), yE tC_Mat_makeImage_40_p123 β σ [x0, x1, room, i, a, b, d] = some (σ, 0) := fun a b d => by rw [yq_Mat_makeImage_40_p123, kY_Mat_makeImage_40_p123]
    rw [yq_Mat_makeImage_40_p8, kY_Mat_makeImage_40_p8, if_pos (by omega), if_neg (by omega), if_pos ⟨i0, by omega⟩, e1]
    by_cases hc : 0 ≤ c
    · have hex : exL (thM M) 0 (c :: L) = [c] ++ exL (thM M) 0 L := by
        show (if c < 0 then _ else [c]) ++ _ = _
        rw [if_neg (by omega)]
      rw [if_pos hc, yq_Mat_makeImage_40_p52, kY_Mat_makeImage_40_p52, if_pos hc, yq_Mat_makeImage_40_p70, kY_Mat_makeImage_40_p70, if_pos hc, yq_Mat_makeImage_40_p94, kY_Mat_makeImage_40_p94, if_pos (by omega)]
      by_cases hb : room < σ.1 6605 + 1
      · rw [if_pos hb, e123]
        refine ⟨σ, 0, rfl, FrC.refl, Or.inr ⟨rfl, fun z => ?_⟩⟩
        have := z.2
        rw [hex, List.length_append] at this
        simp only [List.length_cons, List.length_nil] at this
        omega
      · rw [if_neg hb, if_pos (by omega), if_pos hc, if_pos (by omega), lt_e]
        have a1 : FrC [6605] [68] σ (zA σ 68 (σ.1 6605) c) := FrC_A
        refine next _ [c] 0 a1 rfl ?_ (by simp only [List.length_cons, List.length_nil]; omega) hex (fun z => by omega)
        rw [Fl_app]
        refine ⟨Fl_q (fun j j0 j1 => zA_i (by omega)) hI, Fl_one ?_⟩
        rw [Int.zero_add, ← hW]; exact zA_s
    · have v0 : 0 ≤ -1 - c := by omega
      have v1 : -1 - c < 6 := by have := lc.1; omega
      obtain ⟨q1, q2⟩ := hM.2 (-1 - c) v0 v1
      rw [if_neg hc]
      cases hMv : M (-1 - c) with
      | none =>
        rw [if_pos ((kn_test v0 v1).mpr (fun h => q1.mp h hMv))]
        exact ⟨σ, 0, rfl, FrC.refl, Or.inr ⟨rfl, fun z => z.1 c List.mem_cons_self (by omega) hMv⟩⟩
      | some x =>
        obtain ⟨p1, p2, p3, p4⟩ := q2 x hMv
        have yb : bt (σ.1 6603) (-1 - c) := q1.mpr (by rw [hMv]; exact fun h => (by cases h))
        have lx : (fl (tt x)).length = tw x := by rw [fl_length]; simp only [tt, tw, wt]; omega
        have tx := tw_pos x
        have ex : thM M (-1 - c + 0) = x := by rw [Int.add_zero]; unfold thM; rw [hMv]
        have hex : exL (thM M) 0 (c :: L) = fl (tt x) ++ exL (thM M) 0 L := by
          show (if c < 0 then fl (tt (thM M (-1 - c + 0))) else [c]) ++ _ = _
          rw [if_pos (by omega), ex]
        have ea := aft40 (β := β - 1) hC.1 (by decide) p1 p2 p3 p4
        rw [if_neg (fun h => (kn_test v0 v1).mp h yb), yq_Mat_makeImage_40_p52, kY_Mat_makeImage_40_p52, if_neg hc, if_pos ⟨v0, by omega⟩, yq_Mat_makeImage_40_p70, kY_Mat_makeImage_40_p70, if_neg hc, if_pos (by omega), zbd_of ea, show σ.2.1 67 (-1 - c) + (tw x : Int) - σ.2.1 67 (-1 - c) = (tw x : Int) by omega, if_pos (by omega), yq_Mat_makeImage_40_p94, kY_Mat_makeImage_40_p94, if_pos (by omega)]
        by_cases hb : room < σ.1 6605 + (tw x : Int)
        · rw [if_pos hb, e123]
          refine ⟨σ, 0, rfl, FrC.refl, Or.inr ⟨rfl, fun z => ?_⟩⟩
          have := z.2
          rw [hex, List.length_append, lx] at this
          omega
        · rw [if_neg hb, if_pos (by omega), if_neg hc, if_pos ⟨p3, by omega, by omega, by omega, by omega⟩, lt_e]
          have a1 : FrC [6605] [68] σ (zCp σ 40 68 (σ.2.1 67 (-1 - c)) (σ.1 6605) (tw x : Int)) := FrC_C
          have := next _ (fl (tt x)) (σ.2.1 67 (-1 - c)) a1 rfl ?_ (by rw [lx]; omega) hex (fun _ => by rw [hMv]; exact fun h => (by cases h))
          · rw [lx] at this; exact this
          · rw [Fl_app]
            refine ⟨Fl_q (fun j j0 j1 => ?_) hI, Fl_of (fun j d hd => ?_)⟩
            · show (if 68 = 68 ∧ σ.1 6605 ≤ j ∧ j < σ.1 6605 + (tw x : Int) then _ else σ.2.1 68 j) = _
              rw [if_neg (by omega)]
            · have hj := (List.getElem?_eq_some_iff.mp hd).1
              rw [lx] at hj
              show (if 68 = 68 ∧ σ.1 6605 ≤ 0 + (W.length : Int) + (j : Int) ∧ 0 + (W.length : Int) + (j : Int) < σ.1 6605 + (tw x : Int) then σ.2.1 40 (σ.2.1 67 (-1 - c) + (0 + (W.length : Int) + (j : Int) - σ.1 6605)) else _) = _
              rw [if_pos ⟨rfl, by omega, by omega⟩, show σ.2.1 67 (-1 - c) + (0 + (W.length : Int) + (j : Int) - σ.1 6605) = σ.2.1 67 (-1 - c) + (j : Int) by omega]
              exact Fl_get p1 hd
theorem img48_loop {ar : Int → Nat} {pd : Int → Prop} {m9 : Int} {β : Nat} (hβ : 2 ≤ β) {x0 x1 : Int} {room : Int} (hr : room ≤ 100) : ∀ (L : List Int) (σ : zS) (M : Mv) (W : List Int) (i : Int), Cx ar pd m9 σ → Fl (σ.2.1 48) i L → (∀ c ∈ L, lb m9 c) → 0 ≤ i → i + (L.length : Int) = x0 + x1 → x0 + x1 ≤ σ.1 4701 → MtA ar m9 (σ.2.1 48) ((σ.2.2 48 : Nat) : Int) σ M → σ.1 6605 = (W.length : Int) → Fl (σ.2.1 68) 0 W → (W.length : Int) ≤ room →
    ∃ τ r, yE tC_Mat_makeImage_48_p8 β σ [x0, x1, room, i] = some (τ, r) ∧ FrC [6605] [68] σ τ ∧ ((r = 1 ∧ (∀ c ∈ L, c < 0 → M (-1 - c) ≠ none) ∧ ((W.length + (exL (thM M) 0 L).length : Nat) : Int) ≤ room ∧ τ.1 6605 = ((W.length + (exL (thM M) 0 L).length : Nat) : Int) ∧ Fl (τ.2.1 68) 0 (W ++ exL (thM M) 0 L)) ∨ (r = 0 ∧ ¬ ((∀ c ∈ L, c < 0 → M (-1 - c) ≠ none) ∧ ((W.length + (exL (thM M) 0 L).length : Nat) : Int) ≤ room)))
  | [], σ, M, W, i, hC, hF, hl, i0, i1, i2, hM, hW, hI, hR => by
    obtain ⟨c1, c2, c3, c4, c5, c6⟩ := id hC
    simp only [List.length_nil] at i1
    refine ⟨σ, 1, ?_, FrC.refl, Or.inl ⟨rfl, fun c hc => (by cases hc), by simpa [exL] using hR, by simpa [exL] using hW, by simpa [exL] using hI⟩⟩
    rw [yq_Mat_makeImage_48_p8, kY_Mat_makeImage_48_p8, if_pos (by omega), if_pos (by omega)]
  | c :: L, σ, M, W, i, hC, hF, hl, i0, i1, i2, hM, hW, hI, hR => by
    obtain ⟨c1, c2, c3, c4, c5, c6⟩ := id hC
    simp only [List.length_cons] at i1
    have e1 : σ.2.1 48 i = c := hF.1
    have lc := hl c List.mem_cons_self
    -- X is put in
    have next : ∀ (ρ : zS) (X : List Int) (x5 : Int), FrC [6605] [68] σ ρ → ρ.1 6605 = σ.1 6605 → Fl (ρ.2.1 68) 0 (W ++ X) → (W.length : Int) + (X.length : Int) ≤ room → exL (thM M) 0 (c :: L) = X ++ exL (thM M) 0 L → (c < 0 → M (-1 - c) ≠ none) → ∃ τ r, yE tC_Mat_makeImage_48_p160 β ρ [x0, x1, room, i, c, x5, (X.length : Int)] = some (τ, r) ∧ FrC [6605] [68] σ τ ∧ ((r = 1 ∧ (∀ d ∈ c :: L, d < 0 → M (-1 - d) ≠ none) ∧ ((W.length + (exL (thM M) 0 (c :: L)).length : Nat) : Int) ≤ room ∧ τ.1 6605 = ((W.length + (exL (thM M) 0 (c :: L)).length : Nat) : Int) ∧ Fl (τ.2.1 68) 0 (W ++ exL (thM M) 0 (c :: L))) ∨ (r = 0 ∧ ¬ ((∀ d ∈ c :: L, d < 0 → M (-1 - d) ≠ none) ∧ ((W.length + (exL (thM M) 0 (c :: L)).length : Nat) : Int) ≤ room))) := fun ρ X x5 fρ h66 hX hl2 hex hcM => by
      obtain ⟨κ, hκ⟩ : ∃ z, z = zI ρ 6605 (ρ.1 6605 + (X.length : Int)) := ⟨_, rfl⟩
      have fκ : FrC [6605] [68] ρ κ := by rw [hκ]; exact FrC_I
      have gκ : FrC [6605] [68] σ κ := fρ.trans fκ
      have e48 : ∀ q, κ.2.1 48 q = σ.2.1 48 q := fun q => gκ.a 48 q
      have e67 : ∀ q, κ.2.1 67 q = σ.2.1 67 q := fun q => gκ.a 67 q
      have eT : κ.2.1 48 = σ.2.1 48 := funext fun q => gκ.a 48 q
      have l48 : κ.2.2 48 = σ.2.2 48 := gκ.2.2.1 48 (by decide) (by decide) (by decide)
      have e47 : κ.1 4701 = σ.1 4701 := gκ.i 4701
      have e63 : κ.1 6603 = σ.1 6603 := gκ.i 6603
      have hMκ : MtA ar m9 (κ.2.1 48) ((κ.2.2 48 : Nat) : Int) κ M := by
        unfold MtA at hM ⊢
        rw [eT, e63, l48]
        refine ⟨hM.1, fun v v0 v1 => ?_⟩
        rw [e67]; exact hM.2 v v0 v1
      obtain ⟨τ, r, t1, t2, t3⟩ := img48_loop hβ (x0 := x0) (x1 := x1) hr L κ M (W ++ X) (i + 1) (hC.f gκ) (Fl_q (fun j _ _ => e48 j) hF.2) (fun d hd => hl d (List.mem_cons_of_mem _ hd)) (by omega) (by omega) (by omega) hMκ (by rw [hκ, zI_1, h66, hW, List.length_append]; omega) (by rw [hκ]; exact hX) (by rw [List.length_append]; omega)
      refine ⟨τ, r, ?_, gκ.trans t2, ?_⟩
      · rw [yq_Mat_makeImage_48_p160, kY_Mat_makeImage_48_p160, if_pos (by omega), lt_e, ← hκ, if_pos (by omega)]
        exact t1
      · rw [hex]
        rw [List.length_append] at t3
        have el : (W.length + (X ++ exL (thM M) 0 L).length : Nat) = W.length + X.length + (exL (thM M) 0 L).length := by rw [List.length_append]; omega
        rw [el]
        rcases t3 with ⟨a1, a2, a3, a4, a5⟩ | ⟨a1, a2⟩
        · left
          refine ⟨a1, fun d hd => ?_, a3, a4, by rw [← List.append_assoc]; exact a5⟩
          rcases List.mem_cons.mp hd with rfl | hd
          · exact hcM
          · exact a2 d hd
        · right
          exact ⟨a1, fun z => a2 ⟨fun d hd => z.1 d (List.mem_cons_of_mem _ hd), z.2⟩⟩
    have e123 : ∀ (a b d : Int), yE tC_Mat_makeImage_48_p123 β σ [x0, x1, room, i, a, b, d] = some (σ, 0) := fun a b d => by rw [yq_Mat_makeImage_48_p123, kY_Mat_makeImage_48_p123]
    rw [yq_Mat_makeImage_48_p8, kY_Mat_makeImage_48_p8, if_pos (by omega), if_neg (by omega), if_pos ⟨i0, by omega⟩, e1]
    by_cases hc : 0 ≤ c
    · have hex : exL (thM M) 0 (c :: L) = [c] ++ exL (thM M) 0 L := by
        show (if c < 0 then _ else [c]) ++ _ = _
        rw [if_neg (by omega)]
      rw [if_pos hc, yq_Mat_makeImage_48_p52, kY_Mat_makeImage_48_p52, if_pos hc, yq_Mat_makeImage_48_p70, kY_Mat_makeImage_48_p70, if_pos hc, yq_Mat_makeImage_48_p94, kY_Mat_makeImage_48_p94, if_pos (by omega)]
      by_cases hb : room < σ.1 6605 + 1
      · rw [if_pos hb, e123]
        refine ⟨σ, 0, rfl, FrC.refl, Or.inr ⟨rfl, fun z => ?_⟩⟩
        have := z.2
        rw [hex, List.length_append] at this
        simp only [List.length_cons, List.length_nil] at this
        omega
      · rw [if_neg hb, if_pos (by omega), if_pos hc, if_pos (by omega), lt_e]
        have a1 : FrC [6605] [68] σ (zA σ 68 (σ.1 6605) c) := FrC_A
        refine next _ [c] 0 a1 rfl ?_ (by simp only [List.length_cons, List.length_nil]; omega) hex (fun z => by omega)
        rw [Fl_app]
        refine ⟨Fl_q (fun j j0 j1 => zA_i (by omega)) hI, Fl_one ?_⟩
        rw [Int.zero_add, ← hW]; exact zA_s
    · have v0 : 0 ≤ -1 - c := by omega
      have v1 : -1 - c < 6 := by have := lc.1; omega
      obtain ⟨q1, q2⟩ := hM.2 (-1 - c) v0 v1
      rw [if_neg hc]
      cases hMv : M (-1 - c) with
      | none =>
        rw [if_pos ((kn_test v0 v1).mpr (fun h => q1.mp h hMv))]
        exact ⟨σ, 0, rfl, FrC.refl, Or.inr ⟨rfl, fun z => z.1 c List.mem_cons_self (by omega) hMv⟩⟩
      | some x =>
        obtain ⟨p1, p2, p3, p4⟩ := q2 x hMv
        have yb : bt (σ.1 6603) (-1 - c) := q1.mpr (by rw [hMv]; exact fun h => (by cases h))
        have lx : (fl (tt x)).length = tw x := by rw [fl_length]; simp only [tt, tw, wt]; omega
        have tx := tw_pos x
        have ex : thM M (-1 - c + 0) = x := by rw [Int.add_zero]; unfold thM; rw [hMv]
        have hex : exL (thM M) 0 (c :: L) = fl (tt x) ++ exL (thM M) 0 L := by
          show (if c < 0 then fl (tt (thM M (-1 - c + 0))) else [c]) ++ _ = _
          rw [if_pos (by omega), ex]
        have ea := aft48 (β := β - 1) hC.1 (by omega) p1 p2 p3 p4
        rw [if_neg (fun h => (kn_test v0 v1).mp h yb), yq_Mat_makeImage_48_p52, kY_Mat_makeImage_48_p52, if_neg hc, if_pos ⟨v0, by omega⟩, yq_Mat_makeImage_48_p70, kY_Mat_makeImage_48_p70, if_neg hc, if_pos (by omega), zbd_of ea, show σ.2.1 67 (-1 - c) + (tw x : Int) - σ.2.1 67 (-1 - c) = (tw x : Int) by omega, if_pos (by omega), yq_Mat_makeImage_48_p94, kY_Mat_makeImage_48_p94, if_pos (by omega)]
        by_cases hb : room < σ.1 6605 + (tw x : Int)
        · rw [if_pos hb, e123]
          refine ⟨σ, 0, rfl, FrC.refl, Or.inr ⟨rfl, fun z => ?_⟩⟩
          have := z.2
          rw [hex, List.length_append, lx] at this
          omega
        · rw [if_neg hb, if_pos (by omega), if_neg hc, if_pos ⟨p3, by omega, by omega, by omega, by omega⟩, lt_e]
          have a1 : FrC [6605] [68] σ (zCp σ 48 68 (σ.2.1 67 (-1 - c)) (σ.1 6605) (tw x : Int)) := FrC_C
          have := next _ (fl (tt x)) (σ.2.1 67 (-1 - c)) a1 rfl ?_ (by rw [lx]; omega) hex (fun _ => by rw [hMv]; exact fun h => (by cases h))
          · rw [lx] at this; exact this
          · rw [Fl_app]
            refine ⟨Fl_q (fun j j0 j1 => ?_) hI, Fl_of (fun j d hd => ?_)⟩
            · show (if 68 = 68 ∧ σ.1 6605 ≤ j ∧ j < σ.1 6605 + (tw x : Int) then _ else σ.2.1 68 j) = _
              rw [if_neg (by omega)]
            · have hj := (List.getElem?_eq_some_iff.mp hd).1
              rw [lx] at hj
              show (if 68 = 68 ∧ σ.1 6605 ≤ 0 + (W.length : Int) + (j : Int) ∧ 0 + (W.length : Int) + (j : Int) < σ.1 6605 + (tw x : Int) then σ.2.1 48 (σ.2.1 67 (-1 - c) + (0 + (W.length : Int) + (j : Int) - σ.1 6605)) else _) = _
              rw [if_pos ⟨rfl, by omega, by omega⟩, show σ.2.1 67 (-1 - c) + (0 + (W.length : Int) + (j : Int) - σ.1 6605) = σ.2.1 67 (-1 - c) + (j : Int) by omega]
              exact Fl_get p1 hd
