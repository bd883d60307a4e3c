/-! the reference shows a CLAUSE -/
/-- all that is known of a LITERAL that is shown -/
def LitS (ρ : zS) (m9 : Int) (pd : Int → Prop) (j : Int) (a : Lt) : Prop := (TyL pd a ∧ zb j 16100 ∧ RLi ρ j a ∧ (a.1 = 0 ∨ a.1 = 1)) ∧ cl a.2.1.1 < m9 ∧ cl a.2.2.1 < m9 ∧ SWm a.2.1 ∧ (cl a.2.2.1 = 0 ∨ SWm a.2.2) ∧ ht a.2.1.2 ≤ 100 ∧ ht a.2.2.2 ≤ 100
theorem so_cl {ρ : zS} {nm : PN} (hN : NW ρ nm) {m9 : Int} {pd : Int → Prop} (hP : Pd ρ m9 pd) (pd0 : pd 0) (pdn : ∀ c, c < 0 → ¬ pd c) {β : Nat} (hβ : 211 ≤ β) {k p : Int} {C : List Lt} (k0 : zb k 2001) (e73 : ρ.2.1 73 k = p) (e74 : ρ.2.1 74 k = (C.length : Int)) (hC8 : C.length ≤ 8) (hp : 0 ≤ p ∧ p ≤ 16000) (hL : ∀ (i : Nat) a, C[i]? = some a → LitS ρ m9 pd (p + (i : Int)) a) : ∀ (E : List Lt) (i : Nat) (σ : zS) (L : List Int), C.drop i = E → 1 ≤ i → i ≤ C.length → SO ρ σ L → L.length + twL E ≤ 19000 → ∃ τ, sE tS_show_22 β σ [k, p + (i : Int)] = some (τ, τ.1 3) ∧ SO ρ τ (L ++ txC2 nm E)
  | [], i, σ, L, hE, hi, hil, hS, hl => by
    have a3 := hS.1.2.2.1
    have f73 : σ.2.1 73 k = p := by rw [a3 73 _ (by decide)]; exact e73
    have f74 : σ.2.1 74 k = (C.length : Int) := by rw [a3 74 _ (by decide)]; exact e74
    have hlen : C.length ≤ i := List.drop_eq_nil_iff.mp hE
    refine ⟨σ, ?_, by simp only [txC2, List.append_nil]; exact hS⟩
    rw [sq_show_22, kV_show_22, if_pos k0, f73, f74, if_pos (show zr (p + (C.length : Int)) from ⟨by omega, by omega⟩), if_pos (by omega), if_neg (by omega), sq_show_117, kV_show_117]
  | a :: E, i, σ, L, hE, hi, hil, hS, hl => by
    have a3 := hS.1.2.2.1
    have f73 : σ.2.1 73 k = p := by rw [a3 73 _ (by decide)]; exact e73
    have f74 : σ.2.1 74 k = (C.length : Int) := by rw [a3 74 _ (by decide)]; exact e74
    have hlt : i < C.length := by
      rcases Nat.lt_or_ge i C.length with q | q
      · exact q
      · rw [List.drop_eq_nil_of_le q] at hE; cases hE
    rw [List.drop_eq_getElem_cons hlt] at hE
    have ea : C[i]? = some a := by rw [List.getElem?_eq_getElem hlt, (List.cons.inj hE).1]
    obtain ⟨⟨l1, l2, l3, l4⟩, l5, l6, l7, l8, l9, l10⟩ := hL i a ea
    simp only [twL] at hl
    obtain ⟨m1, m2⟩ := so_say (x := 32) hS (by omega) (by decide)
    obtain ⟨m3, m4⟩ := so_say (x := 124) m2 (by simp; omega) (by decide)
    obtain ⟨m5, m6⟩ := so_say (x := 32) m4 (by simp; omega) (by decide)
    obtain ⟨σ1, s1, s2⟩ := so_lit (β := β - 1) hN hP pd0 pdn l1 (by omega) m6 l2 l3 l4 l5 l6 l7 l8 l9 l10 (by simp; omega)
    have hln := txLt_len hN a
    obtain ⟨τ, t1, t2⟩ := so_cl hN hP pd0 pdn hβ k0 e73 e74 hC8 hp hL E (i + 1) σ1 _ (List.cons.inj hE).2 (by omega) (by omega) s2 (by simp; omega)
    refine ⟨τ, ?_, ?_⟩
    · rw [sq_show_22, kV_show_22, if_pos k0, f73, f74, if_pos (show zr (p + (C.length : Int)) from ⟨by omega, by omega⟩), if_neg (by omega), if_neg (by omega), if_pos m1, lt_e, if_pos m3, lt_e, if_pos m5, lt_e, sq_show_67, kV_show_67, if_pos (by omega), zbd_of s1, if_pos (show zr (p + (i : Int) + 1) from ⟨by omega, by omega⟩)]
      have ei : p + ((i + 1 : Nat) : Int) = p + (i : Int) + 1 := by omega
      rw [← ei]; exact t1
    · simp only [txC2]
      simp only [List.append_assoc, List.cons_append, List.nil_append] at t2 ⊢
      exact t2
/-- the whole call, where there is such a CLAUSE -/
theorem so_show {ρ0 : zS} {nm : PN} (hN : NW ρ0 nm) {m9 : Int} {pd : Int → Prop} (hP : Pd ρ0 m9 pd) (pd0 : pd 0) (pdn : ∀ c, c < 0 → ¬ pd c) {β : Nat} (hβ : 212 ≤ β) {k p : Int} {C : List Lt} (k0 : zb k 2001) (hk : k < ρ0.1 84) (e73 : ρ0.2.1 73 k = p) (e74 : ρ0.2.1 74 k = (C.length : Int)) (hC8 : C.length ≤ 8) (hp : 0 ≤ p ∧ p ≤ 16000) (hL : ∀ (i : Nat) a, C[i]? = some a → LitS ρ0 m9 pd (p + (i : Int)) a) (hl : twL C ≤ 18000) (hb : ∀ i, -128 ≤ ρ0.2.1 1 i ∧ ρ0.2.1 1 i ≤ 127) (h17 : 17 ≤ ρ0.2.2 1) (h50 : ρ0.2.2 1 ≤ 50000) (h1 : ρ0.2.2 3001 = 0) (h2 : ρ0.2.2 3002 = 0) : ∃ κ, sE tS_show β ρ0 [k] = some (κ, ((txCl nm C).length : Int)) ∧ SO (zI ρ0 4 0) κ (txCl nm C) := by
  obtain ⟨ρ, hρ⟩ : ∃ r, r = zI ρ0 4 0 := ⟨_, rfl⟩
  have ri : ∀ j, j ≠ 4 → ρ.1 j = ρ0.1 j := fun j hj => by rw [hρ, zI_o (h := hj)]
  have ra : ρ.2 = ρ0.2 := by rw [hρ]; rfl
  have hN' : NW ρ nm := by
    refine ⟨⟨?_, ?_⟩, hN.2⟩
    · rw [ri 20 (by decide)]; exact hN.1.1
    · rw [ra]; exact hN.1.2
  have hP' : Pd ρ m9 pd := by unfold Pd; rw [ra]; exact hP
  have hL' : ∀ (i : Nat) a, C[i]? = some a → LitS ρ m9 pd (p + (i : Int)) a := fun i a ha => by
    obtain ⟨⟨l1, l2, ⟨l3, l4, l5, l6, l7, l8⟩, l9⟩, l10⟩ := hL i a ha
    rw [hρ]
    exact ⟨⟨l1, l2, ⟨Px_q l3 (fun _ _ _ _ _ => rfl), Px_q l4 (fun _ _ _ _ _ => rfl), l5, l6, l7, l8⟩, l9⟩, l10⟩
  have hnone : sE tS_none (β - 1) ρ0 [k] = some (ρ, 0) := by
    have e84 : ρ.1 84 = ρ0.1 84 := ri 84 (by decide)
    rw [sq_none, kV_none, lt_e, ← hρ, if_neg (by have := k0.1; omega), e84, if_pos hk, sq_none_24, kV_none_24, if_pos (by omega)]
    have hr : sE tS_refuse (β - 1 - 1) ρ [1, 0] = some (ρ, 0) := by
      rw [sq_refuse, kV_refuse, if_pos rfl, sq_refuse_9, kV_refuse_9, if_pos (Or.inl rfl)]
    rw [zbd_of hr, if_pos (Or.inl rfl)]
  have hS : SO ρ (zI ρ 3 0) [] := by
    refine ⟨⟨zI_1, fun j hj => by rw [zI_o (h := hj)], fun j q _ => rfl, trivial, fun i => ?_⟩, fun j _ _ _ => rfl, Nat.zero_le _, ?_, Nat.le_refl _, ?_, ?_, ?_⟩
    · show -128 ≤ ρ.2.1 1 i ∧ ρ.2.1 1 i ≤ 127
      rw [ra]; exact hb i
    · rw [ra]; exact h17
    · show ρ.2.2 1 ≤ 50000
      rw [ra]; exact h50
    · show ρ.2.2 1 + 17 * ρ.2.2 3001 ≤ ρ.2.2 1
      rw [ra, h1]; omega
    · show 2 * ρ.2.2 1 + ρ.2.2 3002 ≤ 2 * ρ.2.2 1
      rw [ra, h2]; omega
  have f73 : ρ.2.1 73 k = p := by rw [ra]; exact e73
  have f74 : ρ.2.1 74 k = (C.length : Int) := by rw [ra]; exact e74
  have g73 : (zI ρ 3 0).2.1 73 k = p := f73
  have hhead : sE tS_show β ρ0 [k] = sE tS_show_22 β (zI ρ 3 0) [k, p] := by
    rw [sq_show, kV_show, if_pos (by omega), zbd_of hnone, if_pos rfl, lt_e, if_pos k0, g73]
  rw [hhead, ← hρ]
  have g74 : (zI ρ 3 0).2.1 74 k = (C.length : Int) := f74
  match C, hC8, hL', hl, f74, g74 with
  | [], hC8, hL', hl, f74, g74 =>
    obtain ⟨m1, n1⟩ := so_say (x := 102) hS (by simp) (by decide)
    obtain ⟨m2, n2⟩ := so_say (x := 97) n1 (by simp) (by decide)
    obtain ⟨m3, n3⟩ := so_say (x := 108) n2 (by simp) (by decide)
    obtain ⟨m4, n4⟩ := so_say (x := 115) n3 (by simp) (by decide)
    obtain ⟨m5, n5⟩ := so_say (x := 101) n4 (by simp) (by decide)
    refine ⟨_, ?_, n5⟩
    have e3 := n5.1.1
    rw [sq_show_22, kV_show_22, if_pos k0, g73, g74, if_pos (show zr (p + (([] : List Lt).length : Int)) from ⟨by simp; omega, by simp; omega⟩), if_pos (by simp), if_pos (by simp), if_pos m1, lt_e, if_pos m2, lt_e, if_pos m3, lt_e, if_pos m4, lt_e, if_pos m5, lt_e, sq_show_117, kV_show_117, e3]
    rfl
  | a :: E, hC8, hL', hl, f74, g74 =>
    obtain ⟨⟨l1, l2, l3, l4⟩, l5, l6, l7, l8, l9, l10⟩ := hL' 0 a rfl
    simp only [twL] at hl
    have ep : p + ((0 : Nat) : Int) = p := by omega
    rw [ep] at l2 l3
    obtain ⟨σ1, s1, s2⟩ := so_lit (β := β - 1) hN' hP' pd0 pdn l1 (by omega) hS l2 l3 l4 l5 l6 l7 l8 l9 l10 (by simp; omega)
    have hln := txLt_len hN' a
    obtain ⟨τ, t1, t2⟩ := so_cl hN' hP' pd0 pdn (β := β) (by omega) k0 f73 f74 hC8 hp hL' E 1 σ1 _ rfl (by omega) (by simp) s2 (by simp; omega)
    refine ⟨τ, ?_, ?_⟩
    · have e3 : τ.1 3 = ((txCl nm (a :: E)).length : Int) := by
        have := t2.1.1
        simpa [txCl] using this
      have e1 : p + ((1 : Nat) : Int) = p + 1 := by omega
      rw [e1, e3] at t1
      rw [sq_show_22, kV_show_22, if_pos k0, g73, g74, if_pos (show zr (p + ((a :: E).length : Int)) from ⟨by omega, by omega⟩), if_neg (by simp; omega), if_pos (Int.le_refl _), sq_show_67, kV_show_67, if_pos (by omega), zbd_of s1, if_pos (show zr (p + 1) from ⟨by omega, by omega⟩)]
      exact t1
    · simpa [txCl] using t2
