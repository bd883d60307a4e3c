/-! the whole TEXT in the reference -/
def frL : List SE → Nat
  | [] => 0
  | e :: L => e.2.2.2.length + frL L
theorem frL_app (A B : List SE) : frL (A ++ B) = frL A + frL B := by
  induction A with
  | nil => simp [frL]
  | cons x A ih => simp only [List.cons_append, frL, ih]; omega
theorem frL_part {L : List SE} {i : Nat} {e : SE} (h : L[i]? = some e) : frL (L.take i) + e.2.2.2.length ≤ frL L := by
  have h1 := frL_app (L.take i) (L.drop i)
  rw [List.take_append_drop] at h1
  have hi := (List.getElem?_eq_some_iff.mp h).1
  have hd : L.drop i = e :: L.drop (i + 1) := by
    rw [List.drop_eq_getElem_cons hi]
    congr 1
    exact (List.getElem?_eq_some_iff.mp h).2
  rw [hd] at h1
  simp only [frL] at h1
  omega
/-- the SENTENCES read -/
def RSe (σ : zS) (L : List SE) : Prop := σ.1 55 = (L.length : Int) ∧ σ.1 56 = (frL L : Int) ∧ ∀ (i : Nat) e, L[i]? = some e → σ.2.1 50 (i : Int) = e.1 ∧ σ.2.1 57 (i : Int) = (if e.2.1 = true then 1 else 0) ∧ RFo σ e.2.2.1 (σ.2.1 51 (i : Int)) ∧ σ.2.1 52 (i : Int) = (frL (L.take i) : Int) ∧ σ.2.1 53 (i : Int) = (e.2.2.2.length : Int) ∧ ∀ (j : Nat) v, e.2.2.2[j]? = some v → σ.2.1 54 ((frL (L.take i) : Int) + (j : Int)) = v
abbrev sI (j : Nat) : Prop := pI j ∨ j = 55 ∨ j = 56
abbrev sA (a : Nat) : Prop := pA a ∨ (50 ≤ a ∧ a ≤ 54) ∨ a = 57
def FrS (σ τ : zS) : Prop := (∀ j, ¬ sI j → τ.1 j = σ.1 j) ∧ (∀ a, ¬ sA a → τ.2.1 a = σ.2.1 a) ∧ τ.2.2 = σ.2.2
theorem FrS.tr {σ τ ρ : zS} (h : FrS σ τ) (h2 : FrS τ ρ) : FrS σ ρ := ⟨fun j hj => (h2.1 j hj).trans (h.1 j hj), fun a ha => (h2.2.1 a ha).trans (h.2.1 a ha), h2.2.2.trans h.2.2⟩
theorem FrP.s {σ τ : zS} (h : FrP σ τ) : FrS σ τ := ⟨fun j hj => h.1 j (fun q => hj (Or.inl q)), fun a ha => h.2.1 a (fun q => ha (Or.inl q)), h.2.2⟩
theorem FrS.i {σ : zS} {j : Nat} {x : Int} (h : sI j := by decide) : FrS σ (zI σ j x) := ⟨fun k hk => zI_o (fun e => hk (e ▸ h)), fun _ _ => rfl, rfl⟩
theorem FrS.a {σ : zS} {b : Nat} {i x : Int} (h : sA b := by decide) : FrS σ (zA σ b i x) := ⟨fun _ _ => rfl, fun c hc => zA_o (fun e => hc (e ▸ h)), rfl⟩
theorem RSe.p {σ τ : zS} {L : List SE} (h : RSe σ L) (hF : FrP σ τ) (hx : EX σ τ) : RSe τ L := by
  obtain ⟨h1, h2, h3⟩ := h
  refine ⟨by rw [hF.1 55 (by decide)]; exact h1, by rw [hF.1 56 (by decide)]; exact h2, fun i e he => ?_⟩
  obtain ⟨a, b, c, d, f, g⟩ := h3 i e he
  rw [hF.2.1 50 (by decide), hF.2.1 57 (by decide), hF.2.1 51 (by decide), hF.2.1 52 (by decide), hF.2.1 53 (by decide), hF.2.1 54 (by decide)]
  exact ⟨a, b, c.x hx, d, f, g⟩
theorem wd5 {X : Int → Int} {q e : Int} : wd X q e = [112, 114, 111, 118, 101] ↔ (e - q = 5 ∧ X q = 112 ∧ X (q + 1) = 114 ∧ X (q + 2) = 111 ∧ X (q + 3) = 118 ∧ X (q + 4) = 101) := by
  constructor
  · intro h
    have hl : (e - q).toNat = 5 := by rw [← wd_len X q e, h]; rfl
    have g : ∀ j : Nat, j < 5 → [(112 : Int), 114, 111, 118, 101][j]? = some (X (q + (j : Int))) := fun j hj => by rw [← h]; exact wd_get (by omega)
    have g0 := g 0 (by decide)
    have g1 := g 1 (by decide)
    have g2 := g 2 (by decide)
    have g3 := g 3 (by decide)
    have g4 := g 4 (by decide)
    simp at g0 g1 g2 g3 g4
    exact ⟨by omega, g0.symm, g1.symm, g2.symm, g3.symm, g4.symm⟩
  · rintro ⟨h, h0, h1, h2, h3, h4⟩
    symm
    rw [wd_eq]
    refine ⟨by simp; omega, fun j hj => ?_⟩
    match j, hj with
    | 0, _ => simp [h0]
    | 1, _ => simp [h1]
    | 2, _ => simp [h2]
    | 3, _ => simp [h3]
    | 4, _ => simp [h4]
    | j + 5, hj => exact absurd hj (by simp)
theorem ps_211s {β : Nat} {b v : Int} {j : Nat} {σ : zS} (hj : (j : Int) < 300) (h56 : 0 ≤ σ.1 56) (h56' : σ.1 56 < 300) (h29 : (j : Int) < σ.1 29) (hv27 : σ.2.1 27 (j : Int) = v) : xE tX_parse_211 β σ [b, (j : Int)] = xE tX_parse_211 β (zA (zI σ 56 (σ.1 56 + 1)) 54 (σ.1 56) v) [b, (j : Int) + 1] := by
  rw [xq_parse_211, kW_parse_211, if_neg (by omega), if_pos ⟨by omega, by omega⟩]
  subst hv27
  have e0 : ∀ (K : zS → Option zR) (ρ : zS), lt_ ρ K = K ρ := fun K ρ => rfl
  rw [e0, if_pos ⟨by omega, by omega⟩, if_pos ⟨by omega, by omega⟩, e0, if_pos ⟨by omega, by omega⟩]
  rfl
theorem ps_211 {β : Nat} {b : Int} {fr : List Int} (hl : fr.length ≤ 300) : ∀ (k j : Nat) (σ : zS), j + k = fr.length → σ.1 29 = (fr.length : Int) → (∀ (i : Nat) v, fr[i]? = some v → σ.2.1 27 (i : Int) = v) → 0 ≤ σ.1 56 → σ.1 56 + (k : Int) ≤ 300 → 0 ≤ σ.1 55 → σ.1 55 ≤ 20000 → ∃ τ, xE tX_parse_211 β σ [b, (j : Int)] = xE tX_parse_15 β τ [] ∧ τ.1 55 = σ.1 55 + 1 ∧ τ.1 56 = σ.1 56 + (k : Int) ∧ (∀ i, i ≠ 55 → i ≠ 56 → τ.1 i = σ.1 i) ∧ (∀ a, a ≠ 54 → τ.2.1 a = σ.2.1 a) ∧ τ.2.2 = σ.2.2 ∧ (∀ i, i < σ.1 56 → τ.2.1 54 i = σ.2.1 54 i) ∧ (∀ (i : Nat) v, i < k → fr[j + i]? = some v → τ.2.1 54 (σ.1 56 + (i : Int)) = v)
  | 0, j, σ, hj, h29, h27, h0, h3, h5, h5' => by
    refine ⟨zI σ 55 (σ.1 55 + 1), ?_, zI_1, by rw [zI_o]; simp, fun i h1 _ => zI_o h1, fun _ _ => rfl, rfl, fun _ _ => rfl, fun i v hi => absurd hi (by omega)⟩
    rw [xq_parse_211, kW_parse_211, if_pos (by omega), if_pos ⟨by omega, by omega⟩]
    rfl
  | k + 1, j, σ, hj, h29, h27, h0, h3, h5, h5' => by
    obtain ⟨v, hv⟩ : ∃ v, fr[j]? = some v := ⟨_, List.getElem?_eq_getElem (by omega)⟩
    have hv27 := h27 j v hv
    obtain ⟨σ3, hs3⟩ : ∃ s, s = zA (zI σ 56 (σ.1 56 + 1)) 54 (σ.1 56) v := ⟨_, rfl⟩
    rw [ps_211s (by omega) h0 (by omega) (by omega) hv27, ← hs3, show (j : Int) + 1 = ((j + 1 : Nat) : Int) by omega]
    have k56 : σ3.1 56 = σ.1 56 + 1 := by rw [hs3]; show (zI σ 56 _).1 56 = _; exact zI_1
    have ki : ∀ i, i ≠ 56 → σ3.1 i = σ.1 i := fun i hi => by rw [hs3]; exact zI_o hi
    have ka : ∀ a, a ≠ 54 → σ3.2.1 a = σ.2.1 a := fun a ha => by rw [hs3, zA_o ha]; rfl
    obtain ⟨τ, e1, t1, t2, t3, t4, t5, t6, t7⟩ := ps_211 hl k (j + 1) σ3 (by omega) (by rw [ki 29 (by decide)]; exact h29) (fun i v hi => by rw [ka 27 (by decide)]; exact h27 i v hi) (by omega) (by omega) (by rw [ki 55 (by decide)]; exact h5) (by rw [ki 55 (by decide)]; exact h5')
    refine ⟨τ, e1, by rw [t1, ki 55 (by decide)], by rw [t2, k56]; omega, fun i h1 h2 => (t3 i h1 h2).trans (ki i h2), fun a ha => (t4 a ha).trans (ka a ha), by rw [t5, hs3]; rfl, fun i hi => ?_, fun i v2 hi hv2 => ?_⟩
    · rw [t6 i (by omega), hs3, zA_q (by omega)]; rfl
    · by_cases h9 : i = 0
      · subst h9
        rw [t6 _ (by omega), hs3]
        rw [show σ.1 56 + ((0 : Nat) : Int) = σ.1 56 by omega, zA_s]
        rw [Nat.add_zero, hv] at hv2
        exact Option.some.inj hv2
      · have := t7 (i - 1) v2 (by omega) (by rw [show j + 1 + (i - 1) = j + i by omega]; exact hv2)
        rw [k56, show σ.1 56 + 1 + ((i - 1 : Nat) : Int) = σ.1 56 + (i : Int) by omega] at this
        exact this
def XNs (o : Option zR) (σ : zS) (k q : Int) : Prop := ∃ τ r, o = some (τ, r) ∧ τ.1 3000 = 1 ∧ τ.1 3003 = k ∧ τ.1 3004 = q ∧ FrS σ τ
theorem XN.s {o : Option zR} {σ : zS} {k q : Int} (h : XN o σ k q) : XNs o σ k q := by
  obtain ⟨τ, r, a, b, c, d, e⟩ := h
  exact ⟨τ, r, a, b, c, d, e.s⟩
theorem XNs.fr {o : Option zR} {σ τ : zS} {k q : Int} (h : XNs o τ k q) (hF : FrS σ τ) : XNs o σ k q := by
  obtain ⟨ρ, r, a, b, c, d, e⟩ := h
  exact ⟨ρ, r, a, b, c, d, hF.tr e⟩
/-- a SENTENCE, once it is known whether it is to be proved -/
theorem ps_153 {X : Int → Int} {n : Int} (hX : TXT X n) {β m : Nat} (hβ : 385 ≤ β) {σ : zS} {st st0 : PS} {L : List SE} {b : Bool} {q : Int} (hR : RP X n σ st0 0) (hn : n ≤ 20000) (h0 : st0 = (st0.1, st.2.1, st.2.2.1, [], [])) (hfl : frL L ≤ st.2.2.1.length) (hLp : (L.length : Int) + 1 ≤ st0.1 + 1) (hS : RSe σ L) (h50 : σ.2.1 50 (L.length : Int) = q) :
    (∀ k p, fmS X n m 0 0 (0, nl) st0 = pNo k p → XNs (xE tX_parse_153 β σ [if b = true then 1 else 0]) σ k p) ∧ (∀ a, fmS X n m 0 0 (0, nl) st0 = pOk a → (tk X n a.1.1 ≠ 46 → XNs (xE tX_parse_153 β σ [if b = true then 1 else 0]) σ 1 (tq X n a.1.1)) ∧ (tk X n a.1.1 = 46 → ∃ τ, xE tX_parse_153 β σ [if b = true then 1 else 0] = xE tX_parse_15 β τ [] ∧ RP X n τ (adv X n a.1) 0 ∧ RSe τ (L ++ [(q, b, a.2, a.1.2.2.2.2)]) ∧ FrS σ τ ∧ frL (L ++ [(q, b, a.2, a.1.2.2.2.2)]) ≤ a.1.2.2.1.length ∧ st0.1 < (adv X n a.1).1)) := by
  obtain ⟨bi, hbi⟩ : ∃ x : Int, x = if b = true then 1 else 0 := ⟨_, rfl⟩
  have hb01 : bi = 0 ∨ bi = 1 := by rw [hbi]; split <;> simp
  rw [← hbi]
  obtain ⟨s55, s56, sE⟩ := id hS
  have hpn := hR.1.1.2.2.2.1
  have hp0 := hR.1.1.2.2.1
  have hPV : PV st0 := by rw [h0]; intro v hv; rcases hv with hv | hv <;> cases hv
  rw [xq_parse_153, kW_parse_153, s55, if_pos ⟨by omega, by show (L.length : Int) < ((20100 : Nat) : Int); omega⟩, if_pos hb01]
  obtain ⟨σ1, hs1⟩ : ∃ s, s = zA σ 57 (L.length : Int) bi := ⟨_, rfl⟩
  have i1 : ∀ j, σ1.1 j = σ.1 j := fun j => by rw [hs1]; rfl
  have a1 : ∀ a, a ≠ 57 → σ1.2.1 a = σ.2.1 a := fun a ha => by rw [hs1, zA_o ha]
  have hR1 : RP X n σ1 st0 0 := by
    obtain ⟨hA, hN, hB, hC, hD, hl, hK⟩ := hR
    exact ⟨hA.c (fun j _ => i1 j) (a1 0 (by decide)), hN.c ⟨i1 _, i1 _⟩ (fun a ha => a1 a (by omega)), hB.c (i1 _) ⟨a1 _ (by decide), a1 _ (by decide), a1 _ (by decide)⟩, hC.c (Nat.le_refl _) (i1 _) (a1 _ (by decide)), hD.c (Nat.le_refl _) (i1 _) (a1 _ (by decide)), hl, hK.c (Int.le_refl _) ⟨i1 _, i1 _, i1 _⟩⟩
  have hx1 : EX σ σ1 := EX.of ⟨i1 _, i1 _, i1 _⟩ (fun a ha => a1 a (by omega))
  have hf1 : FrS σ σ1 := by rw [hs1]; exact FrS.a
  have hfm := fun r h => fm_all hX m 0 (β - 1) 0 0 (0, nl) σ1 st0 0 r (by decide) (by decide) (by show 6 * (60 - 0) + 24 ≤ ((β - 1 : Nat) : Int); omega) (by decide) hR1 (by intro h; omega) h
  have e0 : ∀ (K : zS → Option zR), lt_ (zA σ 57 (L.length : Int) bi) K = K σ1 := fun K => by rw [hs1]; rfl
  rw [e0, if_pos (by omega)]
  refine ⟨fun k p h => ((XN.call (hfm _ h)).s).fr hf1, fun a h => ?_⟩
  obtain ⟨pi1, pi2, pi3⟩ := fmS_i (X := X) hn m 0 0 (0, nl) st0 a hPV (by intro h; omega) h
  obtain ⟨ρ, v, e1, hF1, g1, g2, g3, g4⟩ := XY.call (K := fun σ2 r2 => if zb (σ1.1 55) 20100 then (lt_ (zA σ2 51 (σ1.1 55) r2) (fun σ3 => if 1 ≤ β then (zbd (xE tX_must (β - 1) σ3 [46]) (fun σ4 r4 => if (σ4.1 3000) = 0 then (if zb (σ4.1 55) 20100 then (lt_ (zA σ4 52 (σ4.1 55) (σ4.1 56)) (fun σ5 => if zb (σ5.1 55) 20100 then (lt_ (zA σ5 53 (σ5.1 55) (σ5.1 29)) (fun σ6 => xE tX_parse_211 β σ6 [bi, 0])) else none)) else none) else (some (σ4, 0)))) else none)) else none) (hfm _ h)
  have e1 : zbd (xE tX_formula (β - 1) σ1 [0]) _ = _ := e1
  rw [e1, i1 55, s55, if_pos ⟨by omega, by show (L.length : Int) < ((20100 : Nat) : Int); omega⟩]
  obtain ⟨σ3, hs3⟩ : ∃ s, s = zA ρ 51 (L.length : Int) v := ⟨_, rfl⟩
  have i3 : ∀ j, σ3.1 j = ρ.1 j := fun j => by rw [hs3]; rfl
  have a3 : ∀ a, a ≠ 51 → σ3.2.1 a = ρ.2.1 a := fun a ha => by rw [hs3, zA_o ha]
  have hR3 : RP X n σ3 a.1 0 := by
    obtain ⟨hA, hN, hB, hC, hD, hl, hK⟩ := g2
    exact ⟨hA.c (fun j _ => i3 j) (a3 0 (by decide)), hN.c ⟨i3 _, i3 _⟩ (fun a ha => a3 a (by omega)), hB.c (i3 _) ⟨a3 _ (by decide), a3 _ (by decide), a3 _ (by decide)⟩, hC.c (Nat.le_refl _) (i3 _) (a3 _ (by decide)), hD.c (Nat.le_refl _) (i3 _) (a3 _ (by decide)), hl, hK.c (Int.le_refl _) ⟨i3 _, i3 _, i3 _⟩⟩
  have hx3 : EX ρ σ3 := EX.of ⟨i3 _, i3 _, i3 _⟩ (fun a ha => a3 a (by omega))
  have hf3 : FrS σ σ3 := (hf1.tr hF1.s).tr (by rw [hs3]; exact FrS.a)
  have e2 : ∀ (K : zS → Option zR), lt_ (zA ρ 51 (L.length : Int) v) K = K σ3 := fun K => by rw [hs3]; rfl
  rw [e2, if_pos (by omega)]
  have hm := must_ok (β := β - 1) (by omega) (c := 46) hR3
  refine ⟨fun hc => ?_, fun hc => ?_⟩
  · rw [if_neg hc] at hm
    exact ((XN.call hm).s).fr hf3
  · rw [if_pos hc] at hm
    obtain ⟨κ, w, e3, hF3, m1, m2⟩ := XY.call (K := fun σ4 r4 => if zb (σ4.1 55) 20100 then (lt_ (zA σ4 52 (σ4.1 55) (σ4.1 56)) (fun σ5 => if zb (σ5.1 55) 20100 then (lt_ (zA σ5 53 (σ5.1 55) (σ5.1 29)) (fun σ6 => xE tX_parse_211 β σ6 [bi, 0])) else none)) else none) hm
    rw [e3]
    have k55 : κ.1 55 = (L.length : Int) := by rw [hF3.1 55 (by decide), i3, hF1.1 55 (by decide), i1]; exact s55
    have k56 : κ.1 56 = (frL L : Int) := by rw [hF3.1 56 (by decide), i3, hF1.1 56 (by decide), i1]; exact s56
    have k29 : κ.1 29 = (a.1.2.2.2.2.length : Int) := m1.2.2.2.2.1.1
    have kfr := m1.2.2.2.2.1.2
    have kl := m1.2.2.2.2.2.1
    have kl : a.1.2.2.2.1.length + a.1.2.2.2.2.length ≤ a.1.2.2.1.length := kl
    have kb : a.1.2.2.1.length ≤ 300 := m1.2.2.1.2.1
    have hpib := pi1.bd
    obtain ⟨_, _, _, M, q1, q2, q3⟩ := pi1
    have hst0fr : st0.2.2.2.2 = [] := by rw [h0]
    have hst0bd : st0.2.2.1 = st.2.2.1 := by rw [h0]
    rw [hst0fr, List.nil_append] at q1
    rw [hst0bd] at q2 hpib
    have hsum : frL (L ++ [(q, b, a.2, a.1.2.2.2.2)]) = frL L + a.1.2.2.2.2.length := by rw [frL_app]; simp [frL]
    have hsum2 : frL L + a.1.2.2.2.2.length ≤ a.1.2.2.1.length := by rw [q1]; omega
    rw [k55, k56, if_pos ⟨by omega, by show (L.length : Int) < ((20100 : Nat) : Int); omega⟩]
    show (∃ τ, (if zb (κ.1 55) 20100 then (xE tX_parse_211 β (zA (zA κ 52 (L.length : Int) (frL L : Int)) 53 (κ.1 55) (κ.1 29)) [bi, 0]) else none) = xE tX_parse_15 β τ [] ∧ _)
    rw [k55, k29, if_pos ⟨by omega, by show (L.length : Int) < ((20100 : Nat) : Int); omega⟩]
    obtain ⟨σ6, hs6⟩ : ∃ s, s = zA (zA κ 52 (L.length : Int) (frL L : Int)) 53 (L.length : Int) (a.1.2.2.2.2.length : Int) := ⟨_, rfl⟩
    rw [← hs6]
    have i6 : ∀ j, σ6.1 j = κ.1 j := fun j => by rw [hs6]; rfl
    have a6 : ∀ a, a ≠ 52 → a ≠ 53 → σ6.2.1 a = κ.2.1 a := fun a h1 h2 => by rw [hs6, zA_o h2, zA_o h1]
    have hap := te_gt (T := X) (n := n) (p := a.1.1) (by rw [hc]; decide) g2.1.1.2.2.2.1
    have haq := tq_ge (T := X) (n := n) (p := a.1.1)
    have han : a.1.1 ≤ n := g2.1.1.2.2.2.1
    obtain ⟨τ, e4, t1, t2, t3, t4, t5, t6, t7⟩ := ps_211 (β := β) (b := bi) (fr := a.1.2.2.2.2) (by omega) a.1.2.2.2.2.length 0 σ6 (by omega) (by rw [i6]; exact k29) (fun i v hv => by rw [a6 27 (by decide) (by decide)]; exact (kfr i v hv).1) (by rw [i6, k56]; omega) (by rw [i6, k56]; omega) (by rw [i6, k55]; omega) (by rw [i6, k55]; omega)
    have ti : ∀ j, j ≠ 55 → j ≠ 56 → τ.1 j = κ.1 j := fun j h1 h2 => (t3 j h1 h2).trans (i6 j)
    have ta : ∀ a, a ≠ 52 → a ≠ 53 → a ≠ 54 → τ.2.1 a = κ.2.1 a := fun a h1 h2 h3 => (t4 a h3).trans (a6 a h1 h2)
    have hxk : EX κ τ := EX.of ⟨ti _ (by decide) (by decide), ti _ (by decide) (by decide), ti _ (by decide) (by decide)⟩ (fun a ha => ta a (by omega) (by omega) (by omega))
    have hxs : EX σ τ := (((hx1.tr g3).tr hx3).tr m2).tr hxk
    have hfk : FrS κ τ := ⟨fun j hj => ti j (fun e => hj (by rw [e]; decide)) (fun e => hj (by rw [e]; decide)), fun a ha => ta a (fun e => ha (by rw [e]; decide)) (fun e => ha (by rw [e]; decide)) (fun e => ha (by rw [e]; decide)), by rw [t5, hs6]; rfl⟩
    refine ⟨τ, e4, ?_, ?_, (hf3.tr hF3.s).tr hfk, by rw [hsum]; exact hsum2, ?_⟩
    · obtain ⟨hA, hN, hB, hC, hD, hl, hK⟩ := m1
      exact ⟨hA.c (fun j hj => ti j (by omega) (by omega)) (ta 0 (by decide) (by decide) (by decide)), hN.c ⟨ti _ (by decide) (by decide), ti _ (by decide) (by decide)⟩ (fun a ha => ta a (by omega) (by omega) (by omega)), hB.c (ti _ (by decide) (by decide)) ⟨ta _ (by decide) (by decide) (by decide), ta _ (by decide) (by decide) (by decide), ta _ (by decide) (by decide) (by decide)⟩, hC.c (Nat.le_refl _) (ti _ (by decide) (by decide)) (ta _ (by decide) (by decide) (by decide)), hD.c (Nat.le_refl _) (ti _ (by decide) (by decide)) (ta _ (by decide) (by decide) (by decide)), hl, hK.c (Int.le_refl _) ⟨ti _ (by decide) (by decide), ti _ (by decide) (by decide), ti _ (by decide) (by decide)⟩⟩
    · have b50 : τ.2.1 50 = σ.2.1 50 := by rw [ta 50 (by decide) (by decide) (by decide), hF3.2.1 50 (by decide), a3 50 (by decide), hF1.2.1 50 (by decide), a1 50 (by decide)]
      have b57 : τ.2.1 57 = (zA σ 57 (L.length : Int) bi).2.1 57 := by rw [ta 57 (by decide) (by decide) (by decide), hF3.2.1 57 (by decide), a3 57 (by decide), hF1.2.1 57 (by decide), hs1]
      have r51 : ρ.2.1 51 = σ.2.1 51 := by rw [hF1.2.1 51 (by decide), a1 51 (by decide)]
      have b51 : τ.2.1 51 = (zA ρ 51 (L.length : Int) v).2.1 51 := by rw [ta 51 (by decide) (by decide) (by decide), hF3.2.1 51 (by decide), hs3]
      have κ52 : κ.2.1 52 = σ.2.1 52 := by rw [hF3.2.1 52 (by decide), a3 52 (by decide), hF1.2.1 52 (by decide), a1 52 (by decide)]
      have κ53 : κ.2.1 53 = σ.2.1 53 := by rw [hF3.2.1 53 (by decide), a3 53 (by decide), hF1.2.1 53 (by decide), a1 53 (by decide)]
      have κ54 : κ.2.1 54 = σ.2.1 54 := by rw [hF3.2.1 54 (by decide), a3 54 (by decide), hF1.2.1 54 (by decide), a1 54 (by decide)]
      have b52 : τ.2.1 52 = (zA κ 52 (L.length : Int) (frL L : Int)).2.1 52 := by rw [t4 52 (by decide), hs6, zA_o]
      have b53 : τ.2.1 53 = (zA κ 53 (L.length : Int) (a.1.2.2.2.2.length : Int)).2.1 53 := by rw [t4 53 (by decide), hs6]; funext i; simp [zA]
      have c56 : σ6.1 56 = (frL L : Int) := by rw [i6]; exact k56
      refine ⟨by rw [t1, i6, k55]; simp, by rw [t2, c56, hsum]; omega, fun i e he => ?_⟩
      by_cases hi : i < L.length
      · rw [List.getElem?_append_left hi] at he
        obtain ⟨x1, x2, x3, x4, x5, x6⟩ := sE i e he
        have hpt := frL_part he
        rw [List.take_append_of_le_length (by omega), b50, b57, b51, b52, b53, zA_q (by omega), zA_q (by omega), zA_q (by omega), zA_q (by omega), r51, κ52, κ53]
        refine ⟨x1, x2, x3.x hxs, x4, x5, fun j u hu => ?_⟩
        have hj := (List.getElem?_eq_some_iff.mp hu).1
        rw [t6 _ (by rw [c56]; omega), a6 54 (by decide) (by decide), κ54]
        exact x6 j u hu
      · have hi2 : i = L.length := by
          have := (List.getElem?_eq_some_iff.mp he).1
          simp at this; omega
        subst hi2
        rw [List.getElem?_append_right (Nat.le_refl _), Nat.sub_self] at he
        cases he
        rw [List.take_left, b50, b57, b51, b52, b53, zA_s, zA_s, zA_s, zA_s]
        refine ⟨h50, hbi, ((g1.x hx3).x m2).x hxk, rfl, rfl, fun j u hu => ?_⟩
        have hj := (List.getElem?_eq_some_iff.mp hu).1
        have := t7 j u hj (by rw [Nat.zero_add]; exact hu)
        rw [c56] at this
        exact this
    · show st0.1 < te X n a.1.1
      have : st0.1 ≤ a.1.1 := by
        obtain ⟨y1, _⟩ := fmS_i (X := X) hn m 0 0 (0, nl) st0 a hPV (by intro h; omega) h
        exact y1.1
      omega
theorem te_5 {X : Int → Int} {n p : Int} (h0 : 0 ≤ p) (hp : p ≤ n) : prvS X n p = true ↔ (tk X n p = 2 ∧ te X n p - tq X n p = 5 ∧ cAt X n (tq X n p) 112 ∧ cAt X n (tq X n p + 1) 114 ∧ cAt X n (tq X n p + 2) 111 ∧ cAt X n (tq X n p + 3) 118 ∧ cAt X n (tq X n p + 4) 101) := by
  unfold prvS
  rw [decide_eq_true_iff, wd5]
  have h1 := te_le (T := X) hp
  constructor
  · rintro ⟨a, b, c0, c1, c2, c3, c4⟩
    exact ⟨a, b, ⟨by omega, c0⟩, ⟨by omega, c1⟩, ⟨by omega, c2⟩, ⟨by omega, c3⟩, by omega, c4⟩
  · rintro ⟨a, b, c0, c1, c2, c3, c4⟩
    exact ⟨a, b, c0.2, c1.2, c2.2, c3.2, c4.2⟩
set_option maxRecDepth 4000 in
theorem ps_15 {X : Int → Int} {n : Int} (hX : TXT X n) {β : Nat} (hβ : 385 ≤ β) : ∀ (m : Nat) (σ : zS) (st : PS) (L : List SE) (r : (Int × Int) ⊕ (PS × List SE)), RP X n σ st 0 → RSe σ L → frL L ≤ st.2.2.1.length → (L.length : Int) ≤ st.1 → seS X n m st L = some r →
    (∀ k p, r = .inl (k, p) → XNs (xE tX_parse_15 β σ []) σ k p) ∧ (∀ a, r = .inr a → ∃ τ, xE tX_parse_15 β σ [] = some (τ, 0) ∧ τ.1 3000 = 0 ∧ RP X n τ a.1 0 ∧ RSe τ a.2 ∧ FrS σ τ)
  | 0, σ, st, L, r, _, _, _, _, h => by cases h
  | m + 1, σ, st, L, r, hR, hS, hfl, hLp, h => by
    unfold seS at h
    have hpn := hR.1.1.2.2.2.1
    have hp0 := hR.1.1.2.2.1
    have hnn := hR.1.1.2.2.2.2
    obtain ⟨τ, e1, h1, hT, hF⟩ := hR.pk (β := β - 1) (by omega)
    have hS1 : RSe τ L := hS.p hF.p hF.x
    obtain ⟨s55, s56, sE⟩ := id hS1
    by_cases c0 : tk X n st.1 = 0
    · rw [if_pos c0] at h
      cases h
      refine ⟨fun k p e => (by cases e), fun a e => ?_⟩
      cases e
      have hx0 : EX τ (zI τ 3000 0) := EX.of ⟨zI_o, zI_o, zI_o⟩ (fun _ _ => rfl)
      refine ⟨zI τ 3000 0, ?_, zI_1, h1.f (by decide), hS1.p FrP.i hx0, hF.p.s.tr FrS.i⟩
      rw [xq_parse_15, kW_parse_15, if_pos (by omega), zbd_of e1, if_pos c0]
      rfl
    rw [if_neg c0] at h
    have hq := tqe (X := X) hp0 hpn
    have hq1 := te_gt (T := X) (n := n) c0 hpn
    have hq2 := tq_ge (T := X) (n := n) (p := st.1)
    obtain ⟨σ4, hs4⟩ : ∃ s, s = zI (zI (zA τ 50 (L.length : Int) (tq X n st.1)) 28 0) 29 0 := ⟨_, rfl⟩
    have i4 : ∀ j, j ≠ 28 → j ≠ 29 → σ4.1 j = τ.1 j := fun j j1 j2 => by rw [hs4, zI_o j2, zI_o j1]; rfl
    have a4 : ∀ a, a ≠ 50 → σ4.2.1 a = τ.2.1 a := fun a ha => by
      rw [hs4]
      show (zA τ 50 _ _).2.1 a = _
      exact zA_o ha
    have hx4 : EX τ σ4 := EX.of ⟨i4 _ (by decide) (by decide), i4 _ (by decide) (by decide), i4 _ (by decide) (by decide)⟩ (fun a ha => a4 a (by omega))
    have hf4 : FrS σ σ4 := hF.p.s.tr (by rw [hs4]; exact FrS.tr (FrS.tr FrS.a FrS.i) FrS.i)
    obtain ⟨st0, hst0⟩ : ∃ s : PS, s = (st.1, st.2.1, st.2.2.1, [], []) := ⟨_, rfl⟩
    have hR4 : RP X n σ4 st0 0 := by
      rw [hst0]
      obtain ⟨hA, hN, hB, hC, hD, hl, hK⟩ := h1
      refine ⟨hA.c (fun j hj => i4 j (by omega) (by omega)) (a4 0 (by decide)), hN.c ⟨i4 _ (by decide) (by decide), i4 _ (by decide) (by decide)⟩ (fun a ha => a4 a (by omega)), hB.c (i4 _ (by decide) (by decide)) ⟨a4 _ (by decide), a4 _ (by decide), a4 _ (by decide)⟩, ⟨by simp [hs4, zI], fun i v hv => by cases hv⟩, ⟨by simp [hs4, zI], fun i v hv => by cases hv⟩, by simp, hK.c (Int.le_refl _) ⟨i4 _ (by decide) (by decide), i4 _ (by decide) (by decide), i4 _ (by decide) (by decide)⟩⟩
    have hS4 : RSe σ4 L := by
      refine ⟨by rw [i4 55 (by decide) (by decide)]; exact s55, by rw [i4 56 (by decide) (by decide)]; exact s56, fun i e he => ?_⟩
      obtain ⟨x1, x2, x3, x4, x5, x6⟩ := sE i e he
      have hi := (List.getElem?_eq_some_iff.mp he).1
      rw [a4 57 (by decide), a4 51 (by decide), a4 52 (by decide), a4 53 (by decide), a4 54 (by decide)]
      refine ⟨?_, x2, x3.x hx4, x4, x5, x6⟩
      rw [hs4]
      show (zA τ 50 (L.length : Int) (tq X n st.1)).2.1 50 (i : Int) = _
      rw [zA_q (by omega)]; exact x1
    have h50 : σ4.2.1 50 (L.length : Int) = tq X n st.1 := by
      rw [hs4]
      show (zA τ 50 (L.length : Int) (tq X n st.1)).2.1 50 (L.length : Int) = _
      exact zA_s
    have g8 : σ4.1 8 = tk X n st.1 := by rw [i4 8 (by decide) (by decide)]; exact hT.2.2.2.1
    have g9 : σ4.1 9 = tq X n st.1 := by rw [i4 9 (by decide) (by decide)]; exact hT.2.2.1
    have g10 : σ4.1 10 = te X n st.1 := by rw [i4 10 (by decide) (by decide)]; exact hT.2.2.2.2.1
    have gT : σ4.2.1 0 = X := hR4.1.1.1
    have g2 : σ4.1 2 = n := hR4.1.1.2.1
    -- prove, or not
    have e144 : xE tX_parse_15 β σ [] = xE tX_parse_144 β σ4 [if prvS X n st.1 = true then 1 else 0] := by
      rw [xq_parse_15, kW_parse_15, if_pos (by omega), zbd_of e1, if_neg c0, s55, if_pos ⟨by omega, by show (L.length : Int) < ((20100 : Nat) : Int); omega⟩, hT.2.2.1]
      have e0 : ∀ (K : zS → Option zR), lt_ (zA τ 50 (L.length : Int) (tq X n st.1)) (fun σ2 => lt_ (zI σ2 28 0) (fun σ3 => lt_ (zI σ3 29 0) K)) = K σ4 := fun K => by rw [hs4]; rfl
      rw [e0, g8, g9, g10]
      have no : ¬ prvS X n st.1 = true → xE tX_parse_143 β σ4 [] = xE tX_parse_144 β σ4 [if prvS X n st.1 = true then 1 else 0] := fun hp => by rw [if_neg hp, xq_parse_143, kW_parse_143]
      have at1 : ∀ {j c : Int}, 0 ≤ j → zE tM_at (β - 1) σ4 [j, c] = some (σ4, b2 (cAt X n j c)) := fun {j c} hj => by
        have := at_ok (β := β - 1) (σ := σ4) (p := j) (c := c) (by omega) hj
        rw [gT, g2] at this
        exact this
      have hT5 := te_5 (X := X) (n := n) hp0 hpn
      by_cases c2 : tk X n st.1 = 2
      · rw [if_pos c2, if_pos ⟨by omega, by omega⟩]
        by_cases c5 : te X n st.1 - tq X n st.1 = 5
        · rw [if_pos c5, if_pos (by omega), zbd_of (at1 (by omega))]
          by_cases b0 : cAt X n (tq X n st.1) 112
          · rw [b2_t b0, if_neg (by decide), g9, if_pos ⟨by omega, by omega⟩, if_pos (by omega), zbd_of (at1 (by omega))]
            by_cases b1 : cAt X n (tq X n st.1 + 1) 114
            · rw [b2_t b1, if_neg (by decide), g9, if_pos ⟨by omega, by omega⟩, if_pos (by omega), zbd_of (at1 (by omega))]
              by_cases b2 : cAt X n (tq X n st.1 + 2) 111
              · rw [b2_t b2, if_neg (by decide), g9, if_pos ⟨by omega, by omega⟩, if_pos (by omega), zbd_of (at1 (by omega))]
                by_cases b3 : cAt X n (tq X n st.1 + 3) 118
                · rw [b2_t b3, if_neg (by decide), g9, if_pos ⟨by omega, by omega⟩, if_pos (by omega), zbd_of (at1 (by omega))]
                  by_cases b4 : cAt X n (tq X n st.1 + 4) 101
                  · rw [b2_t b4, if_neg (by decide), if_pos (hT5.mpr ⟨c2, c5, b0, b1, b2, b3, b4⟩)]
                  · rw [b2_f b4, if_pos rfl]; exact no (fun h => b4 (hT5.mp h).2.2.2.2.2.2)
                · rw [b2_f b3, if_pos rfl]; exact no (fun h => b3 (hT5.mp h).2.2.2.2.2.1)
              · rw [b2_f b2, if_pos rfl]; exact no (fun h => b2 (hT5.mp h).2.2.2.2.1)
            · rw [b2_f b1, if_pos rfl]; exact no (fun h => b1 (hT5.mp h).2.2.2.1)
          · rw [b2_f b0, if_pos rfl]; exact no (fun h => b0 (hT5.mp h).2.2.1)
        · rw [if_neg c5]; exact no (fun h => c5 (hT5.mp h).2.1)
      · rw [if_neg c2]; exact no (fun h => c2 (hT5.mp h).1)
    rw [e144]
    obtain ⟨st1, hst1⟩ : ∃ s : PS, s = ((if prvS X n st.1 = true then te X n st.1 else st.1), st.2.1, st.2.2.1, [], []) := ⟨_, rfl⟩
    rw [← hst1] at h
    -- at the FORMULA
    obtain ⟨υ, hυ, hRυ, hFυ⟩ : ∃ υ, xE tX_parse_144 β σ4 [if prvS X n st.1 = true then 1 else 0] = xE tX_parse_153 β υ [if prvS X n st.1 = true then 1 else 0] ∧ RP X n υ st1 0 ∧ FrT σ4 υ := by
      by_cases hp : prvS X n st.1 = true
      · rw [if_pos hp] at hst1
        obtain ⟨υ, e3, h5, hF3⟩ := hR4.tk (β := β - 1) (by omega)
        refine ⟨υ, ?_, by rw [hst1]; rw [hst0] at h5; exact h5, hF3⟩
        rw [if_pos hp, xq_parse_144, kW_parse_144, if_neg (by decide), if_pos (by omega), zbd_of e3]
      · rw [if_neg hp] at hst1
        refine ⟨σ4, ?_, by rw [hst1, ← hst0]; exact hR4, FrT.rf⟩
        rw [if_neg hp, xq_parse_144, kW_parse_144, if_pos rfl]
    have hst1p : st.1 ≤ st1.1 := by rw [hst1]; show st.1 ≤ (if _ then _ else _); split <;> omega
    rw [hυ]
    have hp153 := ps_153 (m := m) hX hβ (st := st) (L := L) (b := prvS X n st.1) (q := tq X n st.1) hRυ hnn (by rw [hst1]) hfl (by omega) (hS4.p hFυ.p hFυ.x) (by rw [hFυ.p.2.1 50 (by decide)]; exact h50)
    rcases pb_r h with ⟨k, q, h2, rfl⟩ | ⟨a, h2, h3⟩
    · exact ⟨fun k2 p2 e => by cases e; exact (hp153.1 _ _ h2).fr (hf4.tr hFυ.p.s), fun a e => (by cases e)⟩
    · obtain ⟨j1, j2⟩ := hp153.2 a h2
      by_cases c46 : tk X n a.1.1 = 46
      · rw [if_pos c46] at h3
        obtain ⟨κ, e5, k1, k2, k3, k4, k5⟩ := j2 c46
        rw [e5]
        obtain ⟨y1, y2⟩ := ps_15 hX hβ m κ (adv X n a.1) _ r k1 k2 k4 (by rw [List.length_append]; simp; omega) h3
        refine ⟨fun k p e => (y1 k p e).fr ((hf4.tr hFυ.p.s).tr k3), fun b e => ?_⟩
        obtain ⟨ω, z1, z2, z3, z4, z5⟩ := y2 b e
        exact ⟨ω, z1, z2, z3, z4, ((hf4.tr hFυ.p.s).tr k3).tr z5⟩
      · rw [if_neg c46] at h3
        cases h3
        exact ⟨fun k2 p2 e => by cases e; exact (j1 c46).fr (hf4.tr hFυ.p.s), fun a e => (by cases e)⟩
