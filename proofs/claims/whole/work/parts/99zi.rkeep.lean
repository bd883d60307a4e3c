/-! the reference: a CLAUSE is kept -/
/-- what is to be kept: REDUCED LITERALS, above -/
def RD (σ : zS) (E : List En) : Prop := σ.1 98 = (E.length : Int) ∧ ∀ (i : Nat) e, E[i]? = some e → Ns σ (i : Int) e ∧ Ne σ e ∧ 205000 ≤ e.2.1 ∧ 205000 ≤ e.2.2
/-- as far as i LITERALS are kept -/
def KI (σ0 σ : zS) (R : List Lt) (n L0 M0 : Int) (i : Nat) : Prop := FrC [47, 72] [43, 44, 45, 46, 66, 67, 68, 70, 75] σ0 σ ∧ σ.1 47 = M0 + (wtL (R.take i) : Int) ∧ σ.1 72 = L0 + (i : Int) ∧ σ.2.1 75 n = (wtL (R.take i) : Int) ∧ (∀ q, q ≠ n → σ.2.1 75 q = σ0.2.1 75 q) ∧ (∀ j q, (j = 66 ∨ j = 67 ∨ j = 68 ∨ j = 70) → q < L0 → σ.2.1 j q = σ0.2.1 j q) ∧ (∀ j q, (j = 43 ∨ j = 44 ∨ j = 45 ∨ j = 46) → (q < M0 ∨ 205000 ≤ q) → σ.2.1 j q = σ0.2.1 j q) ∧ ∀ (t : Nat) a, t < i → R[t]? = some a → Px σ a.2.1 (σ.2.1 66 (L0 + (t : Int))) ∧ Px σ a.2.2 (σ.2.1 67 (L0 + (t : Int))) ∧ σ.2.1 66 (L0 + (t : Int)) + (tw a.2.1 : Int) ≤ σ.1 47 ∧ σ.2.1 67 (L0 + (t : Int)) + (tw a.2.2 : Int) ≤ σ.1 47 ∧ σ.2.1 68 (L0 + (t : Int)) = a.1 ∧ σ.2.1 70 (L0 + (t : Int)) = (lwt a : Int) ∧ σ.2.1 66 (L0 + (t : Int)) = M0 + (wtL (R.take t) : Int) ∧ σ.2.1 67 (L0 + (t : Int)) = M0 + (wtL (R.take t) : Int) + (tw a.2.1 : Int)
theorem kp_126 {ar : Int → Nat} {m9 : Int} {β : Nat} (hβ : 105 ≤ β) {σ0 : zS} {E : List En} {n L0 M0 x0 x1 x2 : Int} (hD : RD σ0 E) (wR : Wc ar m9 (lts E)) (n0 : 0 ≤ n) (n1 : n < 2001) (L0' : 0 ≤ L0) (L1 : L0 ≤ 16000) (M0' : 0 ≤ M0) (M1 : M0 ≤ 200000) : ∀ (m i : Nat) (σ : zS), KI σ0 σ (lts E) n L0 M0 i → i + m = E.length → ∃ τ, zE tM_keep_126 β σ [x0, x1, x2, n, (i : Int)] = zE tM_keep_126 β τ [x0, x1, x2, n, (E.length : Int)] ∧ KI σ0 τ (lts E) n L0 M0 E.length
  | 0, i, σ, hK, hm => by
    have : i = E.length := by omega
    subst this
    exact ⟨σ, rfl, hK⟩
  | m + 1, i, σ, hK, hm => by
    obtain ⟨f, k47, k72, k75, o75, olit, opool, hlit⟩ := id hK
    have h8 := wR.1
    rw [List.length_map] at h8
    obtain ⟨e, he⟩ : ∃ e, E[i]? = some e := ⟨_, List.getElem?_eq_getElem (by omega)⟩
    obtain ⟨⟨s1, s2, s3⟩, ⟨p1, p2⟩, q1, q2⟩ := hD.2 i e he
    obtain ⟨a, xL, xR⟩ := e
    dsimp only at s1 s2 s3 p1 p2 q1 q2
    have ha : (lts E)[i]? = some a := by rw [List.getElem?_map, he]; rfl
    obtain ⟨wa0, wa1, wa2⟩ := wR.2.2.2.2 a (List.mem_of_getElem? ha)
    have w100 := wR.2.1
    have elw : lwt a = tw a.2.1 + tw a.2.2 := rfl
    have eL : tw a.2.1 = 1 + wt a.2.1.2 := rfl
    have eR : tw a.2.2 = 1 + wt a.2.2.2 := rfl
    have hL := ht_le_wt a.2.1.2
    have hR := ht_le_wt a.2.2.2
    have tkn : (lts E).take (i + 1) = (lts E).take i ++ [a] := by rw [List.take_add_one, ha]; rfl
    have wn1 : wtL ((lts E).take (i + 1)) = wtL ((lts E).take i) + lwt a := by rw [tkn, wtL_app]; simp only [wtL]; omega
    have wn : wtL ((lts E).take i) + lwt a ≤ wtL (lts E) := by
      have e2 := congrArg wtL (List.take_append_drop (i + 1) (lts E))
      rw [wtL_app, wn1] at e2
      omega
    have hi8 : i < 8 := by omega
    have hiq : ∀ j q, (j = 43 ∨ j = 44 ∨ j = 45 ∨ j = 46) → 205000 ≤ q → σ.2.1 j q = σ0.2.1 j q := fun j q hj hq => opool j q hj (Or.inr hq)
    have pL : Px σ a.2.1 xL := Px_q p1 (fun j q b1 b2 b3 => hiq j q b3 (by omega))
    have pR : Px σ a.2.2 xR := Px_q p2 (fun j q b1 b2 b3 => hiq j q b3 (by omega))
    have e95 : σ.2.1 95 (i : Int) = xL := by rw [f.a 95]; exact s1
    have e96 : σ.2.1 96 (i : Int) = xR := by rw [f.a 96]; exact s2
    have e97 : σ.2.1 97 (i : Int) = a.1 := by rw [f.a 97]; exact s3
    -- left
    obtain ⟨σ4, c1, G1, P1, H1⟩ := cw_ok (β := β - 1) pL (by omega) (by omega) (by omega) (by omega)
    have i4 : σ4.1 47 = σ.1 47 + (tw a.2.1 : Int) := G1.1
    have j4 : ∀ j, j ≠ 47 → σ4.1 j = σ.1 j := G1.2.1
    obtain ⟨σ5, hσ5⟩ : ∃ z, z = zA σ4 66 (L0 + (i : Int)) (σ.1 47) := ⟨_, rfl⟩
    have P5 : Px σ5 a.2.2 xR := Px_q pR (fun j q b1 b2 b3 => by rw [hσ5, zA_j (by omega), H1 j q (by omega)])
    have i5 : σ5.1 47 = σ.1 47 + (tw a.2.1 : Int) := by rw [hσ5]; exact i4
    -- right
    obtain ⟨σ6, c2, G2, P2, H2⟩ := cw_ok (β := β - 1) P5 (by omega) (by omega) (by omega) (by omega)
    have i6 : σ6.1 47 = σ.1 47 + (tw a.2.1 : Int) + (tw a.2.2 : Int) := by rw [G2.1, i5]
    obtain ⟨σ7, hσ7⟩ : ∃ z, z = zA σ6 67 (L0 + (i : Int)) (σ5.1 47) := ⟨_, rfl⟩
    obtain ⟨σ8, hσ8⟩ : ∃ z, z = zA σ7 68 (L0 + (i : Int)) a.1 := ⟨_, rfl⟩
    obtain ⟨σ9, hσ9⟩ : ∃ z, z = zA σ8 70 (L0 + (i : Int)) (lwt a : Int) := ⟨_, rfl⟩
    obtain ⟨σ10, hσ10⟩ : ∃ z, z = zI σ9 72 (L0 + (i : Int) + 1) := ⟨_, rfl⟩
    obtain ⟨σ11, hσ11⟩ : ∃ z, z = zA σ10 75 n ((wtL ((lts E).take i) : Int) + (lwt a : Int)) := ⟨_, rfl⟩
    -- frames
    have g4 : FrC [47, 72] [43, 44, 45, 46, 66, 67, 68, 70, 75] σ σ4 := G1.f.w
    have g5 : FrC [47, 72] [43, 44, 45, 46, 66, 67, 68, 70, 75] σ4 σ5 := by rw [hσ5]; exact FrC_A
    have g6 : FrC [47, 72] [43, 44, 45, 46, 66, 67, 68, 70, 75] σ5 σ6 := G2.f.w
    have g7 : FrC [47, 72] [43, 44, 45, 46, 66, 67, 68, 70, 75] σ6 σ7 := by rw [hσ7]; exact FrC_A
    have g8 : FrC [47, 72] [43, 44, 45, 46, 66, 67, 68, 70, 75] σ7 σ8 := by rw [hσ8]; exact FrC_A
    have g9 : FrC [47, 72] [43, 44, 45, 46, 66, 67, 68, 70, 75] σ8 σ9 := by rw [hσ9]; exact FrC_A
    have g10 : FrC [47, 72] [43, 44, 45, 46, 66, 67, 68, 70, 75] σ9 σ10 := by rw [hσ10]; exact FrC_I
    have g11 : FrC [47, 72] [43, 44, 45, 46, 66, 67, 68, 70, 75] σ10 σ11 := by rw [hσ11]; exact FrC_A
    have gA : FrC [47, 72] [43, 44, 45, 46, 66, 67, 68, 70, 75] σ σ11 := ((((((g4.trans g5).trans g6).trans g7).trans g8).trans g9).trans g10).trans g11
    -- cells
    have np : ∀ j q, ¬ (j = 43 ∨ j = 44 ∨ j = 45 ∨ j = 46) → σ4.2.1 j q = σ.2.1 j q := fun j q h => G1.2.2.2 j q (Or.inr h)
    have np6 : ∀ j q, ¬ (j = 43 ∨ j = 44 ∨ j = 45 ∨ j = 46) → σ6.2.1 j q = σ5.2.1 j q := fun j q h => G2.2.2.2 j q (Or.inr h)
    have v66 : ∀ q, σ11.2.1 66 q = if q = L0 + (i : Int) then σ.1 47 else σ.2.1 66 q := fun q => by
      rw [hσ11, zA_j, hσ10, zI_2, hσ9, zA_j, hσ8, zA_j, hσ7, zA_j, np6 66 q (by omega), hσ5]
      by_cases e : q = L0 + (i : Int)
      · rw [if_pos e, e, zA_s]
      · rw [if_neg e, zA_i e, np 66 q (by omega)]
    have v67 : ∀ q, σ11.2.1 67 q = if q = L0 + (i : Int) then σ5.1 47 else σ.2.1 67 q := fun q => by
      rw [hσ11, zA_j, hσ10, zI_2, hσ9, zA_j, hσ8, zA_j, hσ7]
      by_cases e : q = L0 + (i : Int)
      · rw [if_pos e, e, zA_s]
      · rw [if_neg e, zA_i e, np6 67 q (by omega), hσ5, zA_j, np 67 q (by omega)]
    have v68 : ∀ q, σ11.2.1 68 q = if q = L0 + (i : Int) then a.1 else σ.2.1 68 q := fun q => by
      rw [hσ11, zA_j, hσ10, zI_2, hσ9, zA_j, hσ8]
      by_cases e : q = L0 + (i : Int)
      · rw [if_pos e, e, zA_s]
      · rw [if_neg e, zA_i e, hσ7, zA_j, np6 68 q (by omega), hσ5, zA_j, np 68 q (by omega)]
    have v70 : ∀ q, σ11.2.1 70 q = if q = L0 + (i : Int) then (lwt a : Int) else σ.2.1 70 q := fun q => by
      rw [hσ11, zA_j, hσ10, zI_2, hσ9]
      by_cases e : q = L0 + (i : Int)
      · rw [if_pos e, e, zA_s]
      · rw [if_neg e, zA_i e, hσ8, zA_j, hσ7, zA_j, np6 70 q (by omega), hσ5, zA_j, np 70 q (by omega)]
    have v75 : ∀ q, q ≠ n → σ11.2.1 75 q = σ.2.1 75 q := fun q hq => by
      rw [hσ11, zA_i hq, hσ10, zI_2, hσ9, zA_j, hσ8, zA_j, hσ7, zA_j, np6 75 q (by omega), hσ5, zA_j, np 75 q (by omega)]
    have vp : ∀ j q, (j = 43 ∨ j = 44 ∨ j = 45 ∨ j = 46) → σ11.2.1 j q = σ6.2.1 j q := fun j q hj => by
      rw [hσ11, zA_j (by omega), hσ10, zI_2, hσ9, zA_j (by omega), hσ8, zA_j (by omega), hσ7, zA_j (by omega)]
    have vlo : ∀ j q, (j = 43 ∨ j = 44 ∨ j = 45 ∨ j = 46) → q < σ.1 47 → σ11.2.1 j q = σ.2.1 j q := fun j q hj hq => by
      rw [vp j q hj, G2.2.2.2 j q (Or.inl (by omega)), hσ5, zA_j (by omega), G1.2.2.2 j q (Or.inl hq)]
    have vhi : ∀ j q, (j = 43 ∨ j = 44 ∨ j = 45 ∨ j = 46) → 205000 ≤ q → σ11.2.1 j q = σ.2.1 j q := fun j q hj hq => by
      rw [vp j q hj, H2 j q (by omega), hσ5, zA_j (by omega), H1 j q (by omega)]
    have i11 : σ11.1 47 = σ.1 47 + (tw a.2.1 : Int) + (tw a.2.2 : Int) := by rw [hσ11, zA_1, hσ10, zI_o, hσ9, zA_1, hσ8, zA_1, hσ7, zA_1]; exact i6
    have K11 : KI σ0 σ11 (lts E) n L0 M0 (i + 1) := by
      refine ⟨f.trans gA, by rw [i11, k47, wn1]; omega, by rw [hσ11, zA_1, hσ10, zI_1]; omega, by rw [hσ11, zA_s, wn1]; omega, fun q hq => by rw [v75 q hq, o75 q hq], fun j q hj hq => ?_, fun j q hj hq => ?_, fun t d ht hd => ?_⟩
      · rcases hj with rfl | rfl | rfl | rfl
        · rw [v66, if_neg (by omega)]; exact olit 66 q (by simp) hq
        · rw [v67, if_neg (by omega)]; exact olit 67 q (by simp) hq
        · rw [v68, if_neg (by omega)]; exact olit 68 q (by simp) hq
        · rw [v70, if_neg (by omega)]; exact olit 70 q (by simp) hq
      · rcases hq with hq | hq
        · rw [vlo j q hj (by omega)]; exact opool j q hj (Or.inl hq)
        · rw [vhi j q hj hq]; exact opool j q hj (Or.inr hq)
      · by_cases et : t = i
        · rw [et, ha] at hd
          obtain rfl := Option.some.inj hd
          rw [et, v66, v67, v68, v70, if_pos rfl, if_pos rfl, if_pos rfl, if_pos rfl]
          refine ⟨Px_q P1 (fun j q b1 b2 b3 => ?_), Px_q P2 (fun j q b1 b2 b3 => vp j q b3), by omega, by omega, rfl, rfl, k47, by rw [i5, k47]⟩
          rw [vp j q b3, G2.2.2.2 j q (Or.inl (by omega)), hσ5, zA_j (by omega)]
        · obtain ⟨z1, z2, z3, z4, z5, z6, z7, z8⟩ := hlit t d (by omega) hd
          rw [v66, v67, v68, v70, if_neg (by omega), if_neg (by omega), if_neg (by omega), if_neg (by omega)]
          have d1 : tw d.2.1 = 1 + wt d.2.1.2 := rfl
          have d2 : tw d.2.2 = 1 + wt d.2.2.2 := rfl
          exact ⟨Px_q z1 (fun j q b1 b2 b3 => vlo j q b3 (by omega)), Px_q z2 (fun j q b1 b2 b3 => vlo j q b3 (by omega)), by omega, by omega, z5, z6, z7, z8⟩
    obtain ⟨τ, t1, t2⟩ := kp_126 hβ hD wR n0 n1 L0' L1 M0' M1 m (i + 1) σ11 K11 (by omega)
    refine ⟨τ, ?_, t2⟩
    rw [← t1]
    have n98 : σ.1 98 = (E.length : Int) := by rw [f.i 98]; exact hD.1
    have y72 : ∀ ρ : zS, ρ.1 = σ4.1 ∨ ρ.1 = σ6.1 → ρ.1 72 = L0 + (i : Int) := fun ρ h => by
      rcases h with h | h
      · rw [h, j4 72 (by decide), k72]
      · rw [h, G2.2.1 72 (by decide), hσ5, zA_1, j4 72 (by decide), k72]
    have a5 : σ5.1 = σ4.1 := by rw [hσ5]; rfl
    have a7 : σ7.1 = σ6.1 := by rw [hσ7]; rfl
    have a8 : σ8.1 = σ6.1 := by rw [hσ8]; exact a7
    have a9 : σ9.1 = σ6.1 := by rw [hσ9]; exact a8
    have r95 : ∀ ρ : zS, (∀ q, ρ.2.1 95 q = σ.2.1 95 q) → ρ.2.1 95 (i : Int) = xL := fun ρ h => by rw [h]; exact e95
    have x5 : σ5.2.1 96 (i : Int) = xR := by rw [hσ5, zA_j, np 96 _ (by omega)]; exact e96
    have x7 : σ7.2.1 97 (i : Int) = a.1 := by rw [hσ7, zA_j, np6 97 _ (by omega), hσ5, zA_j, np 97 _ (by omega)]; exact e97
    have x8 : σ8.2.1 95 (i : Int) = xL := by rw [hσ8, zA_j, hσ7, zA_j, np6 95 _ (by omega), hσ5, zA_j, np 95 _ (by omega)]; exact e95
    have x8' : σ8.2.1 96 (i : Int) = xR := by rw [hσ8, zA_j, hσ7, zA_j, np6 96 _ (by omega), hσ5, zA_j, np 96 _ (by omega)]; exact e96
    have w8 : σ8.2.1 46 xL = (tw a.2.1 : Int) := by
      rw [hσ8, zA_j, hσ7, zA_j, H2 46 xL (by omega), hσ5, zA_j, H1 46 xL (by omega), pL.1.2.2.1]; omega
    have w8' : σ8.2.1 46 xR = (tw a.2.2 : Int) := by
      rw [hσ8, zA_j, hσ7, zA_j, H2 46 xR (by omega), hσ5, zA_j, H1 46 xR (by omega), pR.1.2.2.1]; omega
    have x9 : σ9.2.1 75 n = (wtL ((lts E).take i) : Int) := by rw [hσ9, zA_j, hσ8, zA_j, hσ7, zA_j, np6 75 _ (by omega), hσ5, zA_j, np 75 _ (by omega)]; exact k75
    have x10 : σ10.2.1 70 (L0 + (i : Int)) = (lwt a : Int) := by rw [hσ10, zI_2, hσ9, zA_s]
    have bL := p1.2
    have bR := p2.2
    rw [zq_keep_126, kZ_keep_126, n98, if_neg (by omega), if_pos (by omega), if_pos (by omega), e95, zbd_of c1, k72, if_pos (by omega), lt_e, ← hσ5, if_pos (by omega), x5, zbd_of c2]
    rw [y72 σ5 (Or.inl a5), if_pos (by omega), lt_e, ← hσ7, y72 σ7 (Or.inr a7), if_pos (by omega), x7, if_pos wa0, lt_e, ← hσ8, x8, x8', if_pos (by omega), if_pos (by omega), y72 σ8 (Or.inr a8), if_pos (by omega), w8, w8', if_pos (by omega), show (tw a.2.1 : Int) + (tw a.2.2 : Int) = (lwt a : Int) by omega, lt_e, ← hσ9, if_pos (by omega), y72 σ9 (Or.inr a9), if_pos (by omega), lt_e, ← hσ10, if_pos (by omega), x9, x10, if_pos (by omega), lt_e, ← hσ11, if_pos (by omega), show (i : Int) + 1 = ((i + 1 : Nat) : Int) by omega]
