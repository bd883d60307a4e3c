/-! THE REFERENCE'S read: whatever an earlier TEXT has left behind -/
/-- of what is read, without what is around and free -/
def RPw (X : Int → Int) (n : Int) (σ : zS) (st : PS) : Prop := TkA X n σ st.1 ∧ RNm σ st.2.1 ∧ RBd n σ st.2.2.1 ∧ RCt σ (st.1 - 0)
theorem RP.w {X : Int → Int} {n : Int} {σ : zS} {st : PS} (h : RP X n σ st 0) : RPw X n σ st := ⟨h.1, h.2.1, h.2.2.1, h.2.2.2.2.2.2⟩
theorem RPw.f {X : Int → Int} {n : Int} {σ : zS} {st : PS} {k : Nat} {x : Int} (h : RPw X n σ st) (hk : 3000 ≤ k) : RPw X n (zI σ k x) st := ⟨h.1.c (fun j hj => zI_o (by omega)) rfl, h.2.1.c ⟨zI_o (by omega), zI_o (by omega)⟩ (fun _ _ => rfl), h.2.2.1.c (zI_o (by omega)) ⟨rfl, rfl, rfl⟩, h.2.2.2.c (Int.le_refl _) ⟨zI_o (by omega), zI_o (by omega), zI_o (by omega)⟩⟩
theorem RPw.pk {X : Int → Int} {n : Int} {β : Nat} (hβ : 3 ≤ β) {σ : zS} {st : PS} (h : RPw X n σ st) : ∃ τ, zE tM_peek β σ [] = some (τ, tk X n st.1) ∧ RPw X n τ st ∧ TkS X n τ st.1 ∧ FrT σ τ := by
  obtain ⟨τ, e1, hA, hS, hF⟩ := peek_ok hβ h.1
  have i : ∀ j, ¬ (7 ≤ j ∧ j ≤ 12) → τ.1 j = σ.1 j := hF.2
  exact ⟨τ, e1, ⟨hA, h.2.1.c ⟨i 20 (by omega), i 18 (by omega)⟩ (fun a _ => by rw [hF.1]), h.2.2.1.c (i 25 (by omega)) ⟨by rw [hF.1], by rw [hF.1], by rw [hF.1]⟩, h.2.2.2.c (Int.le_refl _) ⟨i 37 (by omega), i 38 (by omega), i 40 (by omega)⟩⟩, hS, hF⟩
theorem ps_15w {X : Int → Int} {n : Int} (hX : TXT X n) {β : Nat} (hβ : 385 ≤ β) (m : Nat) (σ : zS) (st : PS) (L : List SE) (r : (Int × Int) ⊕ (PS × List SE)) (hR : RPw X n σ st) (hS : RSe σ L) (hfl : frL L ≤ st.2.2.1.length) (hLp : (L.length : Int) ≤ st.1) (h : seS X n (m + 1) st L = some r) :
    (∀ k p, r = .inl (k, p) → XNs (xE tX_parse_15 β σ []) σ k p) ∧ (∀ a, r = .inr a → ∃ τ, xE tX_parse_15 β σ [] = some (τ, 0) ∧ τ.1 3000 = 0 ∧ RPw X n τ a.1 ∧ RSe τ a.2 ∧ FrS σ τ) := by
  unfold seS at h
  have hpn := hR.1.1.2.2.2.1
  have hp0 := hR.1.1.2.2.1
  have hnn := hR.1.1.2.2.2.2
  obtain ⟨τ, e1, h1, hT, hF⟩ := hR.pk (β := β - 1) (by omega)
  have hS1 : RSe τ L := hS.p hF.p hF.x
  obtain ⟨s55, s56, sE⟩ := id hS1
  by_cases c0 : tk X n st.1 = 0
  · rw [if_pos c0] at h
    cases h
    refine ⟨fun k p e => (by cases e), fun a e => ?_⟩
    cases e
    have hx0 : EX τ (zI τ 3000 0) := EX.of ⟨zI_o, zI_o, zI_o⟩ (fun _ _ => rfl)
    refine ⟨zI τ 3000 0, ?_, zI_1, h1.f (by decide), hS1.p FrP.i hx0, hF.p.s.tr FrS.i⟩
    rw [xq_parse_15, kW_parse_15, if_pos (by omega), zbd_of e1, if_pos c0]
    rfl
  rw [if_neg c0] at h
  have hq := tqe (X := X) hp0 hpn
  have hq1 := te_gt (T := X) (n := n) c0 hpn
  have hq2 := tq_ge (T := X) (n := n) (p := st.1)
  obtain ⟨σ4, hs4⟩ : ∃ s, s = zI (zI (zA τ 50 (L.length : Int) (tq X n st.1)) 28 0) 29 0 := ⟨_, rfl⟩
  have i4 : ∀ j, j ≠ 28 → j ≠ 29 → σ4.1 j = τ.1 j := fun j j1 j2 => by rw [hs4, zI_o j2, zI_o j1]; rfl
  have a4 : ∀ a, a ≠ 50 → σ4.2.1 a = τ.2.1 a := fun a ha => by
    rw [hs4]
    show (zA τ 50 _ _).2.1 a = _
    exact zA_o ha
  have hx4 : EX τ σ4 := EX.of ⟨i4 _ (by decide) (by decide), i4 _ (by decide) (by decide), i4 _ (by decide) (by decide)⟩ (fun a ha => a4 a (by omega))
  have hf4 : FrS σ σ4 := hF.p.s.tr (by rw [hs4]; exact FrS.tr (FrS.tr FrS.a FrS.i) FrS.i)
  obtain ⟨st0, hst0⟩ : ∃ s : PS, s = (st.1, st.2.1, st.2.2.1, [], []) := ⟨_, rfl⟩
  have hR4 : RP X n σ4 st0 0 := by
    rw [hst0]
    obtain ⟨hA, hN, hB, hK⟩ := h1
    refine ⟨hA.c (fun j hj => i4 j (by omega) (by omega)) (a4 0 (by decide)), hN.c ⟨i4 _ (by decide) (by decide), i4 _ (by decide) (by decide)⟩ (fun a ha => a4 a (by omega)), hB.c (i4 _ (by decide) (by decide)) ⟨a4 _ (by decide), a4 _ (by decide), a4 _ (by decide)⟩, ⟨by simp [hs4, zI], fun i v hv => by cases hv⟩, ⟨by simp [hs4, zI], fun i v hv => by cases hv⟩, by simp, hK.c (Int.le_refl _) ⟨i4 _ (by decide) (by decide), i4 _ (by decide) (by decide), i4 _ (by decide) (by decide)⟩⟩
  have hS4 : RSe σ4 L := by
    refine ⟨by rw [i4 55 (by decide) (by decide)]; exact s55, by rw [i4 56 (by decide) (by decide)]; exact s56, fun i e he => ?_⟩
    obtain ⟨x1, x2, x3, x4, x5, x6⟩ := sE i e he
    have hi := (List.getElem?_eq_some_iff.mp he).1
    rw [a4 57 (by decide), a4 51 (by decide), a4 52 (by decide), a4 53 (by decide), a4 54 (by decide)]
    refine ⟨?_, x2, x3.x hx4, x4, x5, x6⟩
    rw [hs4]
    show (zA τ 50 (L.length : Int) (tq X n st.1)).2.1 50 (i : Int) = _
    rw [zA_q (by omega)]; exact x1
  have h50 : σ4.2.1 50 (L.length : Int) = tq X n st.1 := by
    rw [hs4]
    show (zA τ 50 (L.length : Int) (tq X n st.1)).2.1 50 (L.length : Int) = _
    exact zA_s
  have g8 : σ4.1 8 = tk X n st.1 := by rw [i4 8 (by decide) (by decide)]; exact hT.2.2.2.1
  have g9 : σ4.1 9 = tq X n st.1 := by rw [i4 9 (by decide) (by decide)]; exact hT.2.2.1
  have g10 : σ4.1 10 = te X n st.1 := by rw [i4 10 (by decide) (by decide)]; exact hT.2.2.2.2.1
  have gT : σ4.2.1 0 = X := hR4.1.1.1
  have g2 : σ4.1 2 = n := hR4.1.1.2.1
  -- prove, or not
  have e144 : xE tX_parse_15 β σ [] = xE tX_parse_144 β σ4 [if prvS X n st.1 = true then 1 else 0] := by
    rw [xq_parse_15, kW_parse_15, if_pos (by omega), zbd_of e1, if_neg c0, s55, if_pos ⟨by omega, by show (L.length : Int) < ((20100 : Nat) : Int); omega⟩, hT.2.2.1]
    have e0 : ∀ (K : zS → Option zR), lt_ (zA τ 50 (L.length : Int) (tq X n st.1)) (fun σ2 => lt_ (zI σ2 28 0) (fun σ3 => lt_ (zI σ3 29 0) K)) = K σ4 := fun K => by rw [hs4]; rfl
    rw [e0, g8, g9, g10]
    have no : ¬ prvS X n st.1 = true → xE tX_parse_143 β σ4 [] = xE tX_parse_144 β σ4 [if prvS X n st.1 = true then 1 else 0] := fun hp => by rw [if_neg hp, xq_parse_143, kW_parse_143]
    have at1 : ∀ {j c : Int}, 0 ≤ j → zE tM_at (β - 1) σ4 [j, c] = some (σ4, b2 (cAt X n j c)) := fun {j c} hj => by
      have := at_ok (β := β - 1) (σ := σ4) (p := j) (c := c) (by omega) hj
      rw [gT, g2] at this
      exact this
    have hT5 := te_5 (X := X) (n := n) hp0 hpn
    by_cases c2 : tk X n st.1 = 2
    · rw [if_pos c2, if_pos ⟨by omega, by omega⟩]
      by_cases c5 : te X n st.1 - tq X n st.1 = 5
      · rw [if_pos c5, if_pos (by omega), zbd_of (at1 (by omega))]
        by_cases b0 : cAt X n (tq X n st.1) 112
        · rw [b2_t b0, if_neg (by decide), g9, if_pos ⟨by omega, by omega⟩, if_pos (by omega), zbd_of (at1 (by omega))]
          by_cases b1 : cAt X n (tq X n st.1 + 1) 114
          · rw [b2_t b1, if_neg (by decide), g9, if_pos ⟨by omega, by omega⟩, if_pos (by omega), zbd_of (at1 (by omega))]
            by_cases b2 : cAt X n (tq X n st.1 + 2) 111
            · rw [b2_t b2, if_neg (by decide), g9, if_pos ⟨by omega, by omega⟩, if_pos (by omega), zbd_of (at1 (by omega))]
              by_cases b3 : cAt X n (tq X n st.1 + 3) 118
              · rw [b2_t b3, if_neg (by decide), g9, if_pos ⟨by omega, by omega⟩, if_pos (by omega), zbd_of (at1 (by omega))]
                by_cases b4 : cAt X n (tq X n st.1 + 4) 101
                · rw [b2_t b4, if_neg (by decide), if_pos (hT5.mpr ⟨c2, c5, b0, b1, b2, b3, b4⟩)]
                · rw [b2_f b4, if_pos rfl]; exact no (fun h => b4 (hT5.mp h).2.2.2.2.2.2)
              · rw [b2_f b3, if_pos rfl]; exact no (fun h => b3 (hT5.mp h).2.2.2.2.2.1)
            · rw [b2_f b2, if_pos rfl]; exact no (fun h => b2 (hT5.mp h).2.2.2.2.1)
          · rw [b2_f b1, if_pos rfl]; exact no (fun h => b1 (hT5.mp h).2.2.2.1)
        · rw [b2_f b0, if_pos rfl]; exact no (fun h => b0 (hT5.mp h).2.2.1)
      · rw [if_neg c5]; exact no (fun h => c5 (hT5.mp h).2.1)
    · rw [if_neg c2]; exact no (fun h => c2 (hT5.mp h).1)
  rw [e144]
  obtain ⟨st1, hst1⟩ : ∃ s : PS, s = ((if prvS X n st.1 = true then te X n st.1 else st.1), st.2.1, st.2.2.1, [], []) := ⟨_, rfl⟩
  rw [← hst1] at h
  -- at the FORMULA
  obtain ⟨υ, hυ, hRυ, hFυ⟩ : ∃ υ, xE tX_parse_144 β σ4 [if prvS X n st.1 = true then 1 else 0] = xE tX_parse_153 β υ [if prvS X n st.1 = true then 1 else 0] ∧ RP X n υ st1 0 ∧ FrT σ4 υ := by
    by_cases hp : prvS X n st.1 = true
    · rw [if_pos hp] at hst1
      obtain ⟨υ, e3, h5, hF3⟩ := hR4.tk (β := β - 1) (by omega)
      refine ⟨υ, ?_, by rw [hst1]; rw [hst0] at h5; exact h5, hF3⟩
      rw [if_pos hp, xq_parse_144, kW_parse_144, if_neg (by decide), if_pos (by omega), zbd_of e3]
    · rw [if_neg hp] at hst1
      refine ⟨σ4, ?_, by rw [hst1, ← hst0]; exact hR4, FrT.rf⟩
      rw [if_neg hp, xq_parse_144, kW_parse_144, if_pos rfl]
  have hst1p : st.1 ≤ st1.1 := by rw [hst1]; show st.1 ≤ (if _ then _ else _); split <;> omega
  rw [hυ]
  have hp153 := ps_153 (m := m) hX hβ (st := st) (L := L) (b := prvS X n st.1) (q := tq X n st.1) hRυ hnn (by rw [hst1]) hfl (by omega) (hS4.p hFυ.p hFυ.x) (by rw [hFυ.p.2.1 50 (by decide)]; exact h50)
  rcases pb_r h with ⟨k, q, h2, rfl⟩ | ⟨a, h2, h3⟩
  · exact ⟨fun k2 p2 e => by cases e; exact (hp153.1 _ _ h2).fr (hf4.tr hFυ.p.s), fun a e => (by cases e)⟩
  · obtain ⟨j1, j2⟩ := hp153.2 a h2
    by_cases c46 : tk X n a.1.1 = 46
    · rw [if_pos c46] at h3
      obtain ⟨κ, e5, k1, k2, k3, k4, k5⟩ := j2 c46
      rw [e5]
      obtain ⟨y1, y2⟩ := ps_15 hX hβ m κ (adv X n a.1) _ r k1 k2 k4 (by rw [List.length_append]; simp; omega) h3
      refine ⟨fun k p e => (y1 k p e).fr ((hf4.tr hFυ.p.s).tr k3), fun b e => ?_⟩
      obtain ⟨ω, z1, z2, z3, z4, z5⟩ := y2 b e
      exact ⟨ω, z1, z2, z3.w, z4, ((hf4.tr hFυ.p.s).tr k3).tr z5⟩
    · rw [if_neg c46] at h3
      cases h3
      exact ⟨fun k2 p2 e => by cases e; exact (j1 c46).fr (hf4.tr hFυ.p.s), fun a e => (by cases e)⟩
