/-! coversAll and subsumes -/
theorem cov_p27 {ar : Int → Nat} {pd : Int → Prop} {m9 : Int} {β : Nat} (hβ : 4 ≤ β) {Cs : List CL} {P : Int} {a : Lt} (hcl : ∀ σ, SC σ Cs → HL σ P a) (wa1 : wf ar (lb m9) (tt a.2.1)) (wa2 : wf ar (lb m9) (tt a.2.2)) (sa : a.1 = 0 ∨ a.1 = 1) {kd : Nat} {d : CL} (hd : Cs[kd]? = some d) (wd : Wc ar m9 d.1) {x1 K : Int} (z1 : zr (x1 - 1)) {M : Mv} {R : Mv → Prop}
    (rec : ∀ (σ : zS) (M1 : Mv), Cx ar pd m9 σ → SC σ Cs → HL σ P a → MtA ar m9 (σ.2.1 48) ((σ.2.2 48 : Nat) : Int) σ M1 → ∃ τ, yE tC_Mat_coversAll (β - 1) σ [P + 5 + (tw a.2.1 : Int) + (tw a.2.2 : Int), x1 - 1, (kd : Int)] = some (τ, b2 (R M1)) ∧ VF σ τ ∧ (∀ v, 0 ≤ v → v < 6 → M1 v ≠ none → τ.2.1 67 v = σ.2.1 67 v)) : ∀ (m n : Nat) (σ : zS), HB ar pd m9 Cs K M σ → n + m = d.1.length →
    ∃ τ, VF σ τ ∧ (∀ v, 0 ≤ v → v < 6 → M v ≠ none → τ.2.1 67 v = σ.2.1 67 v) ∧ yE tC_Mat_coversAll_p27 β σ [P, x1, (kd : Int), K, hp (pos Cs kd) d.1 n, (n : Int)] = some (τ, b2 (∃ (i : Nat) (b : Lt), n ≤ i ∧ d.1[i]? = some b ∧ b.1 = a.1 ∧ ∃ s : Int, (s = 0 ∨ s = 1) ∧ ∃ M1, mtL pd M a b s = some M1 ∧ R M1))
  | 0, n, σ, hB, hm => by
    refine ⟨σ, FrC.refl, fun _ _ _ _ => rfl, ?_⟩
    rw [yq_Mat_coversAll_p27, kY_Mat_coversAll_p27, if_pos (by omega), zbd_of (hB.2.1.f3 hd).1, if_pos (by omega), b2_f]
    rintro ⟨i, b, h1, h2, _⟩
    have := (List.getElem?_eq_some_iff.mp h2).1
    omega
  | m + 1, n, σ, hB, hm => by
    obtain ⟨b, hb⟩ : ∃ b, d.1[n]? = some b := ⟨_, List.getElem?_eq_getElem (by omega)⟩
    obtain ⟨w8, _, _, _, wl⟩ := id wd
    obtain ⟨sb, wb1, wb2⟩ := wl b (List.mem_of_getElem? hb)
    -- the next LITERAL of D
    have next : ∀ (ρ : zS) (x6 : Int), VF σ ρ → (∀ v, 0 ≤ v → v < 6 → M v ≠ none → ρ.2.1 67 v = σ.2.1 67 v) → (¬ (b.1 = a.1 ∧ ∃ s : Int, (s = 0 ∨ s = 1) ∧ ∃ M1, mtL pd M a b s = some M1 ∧ R M1)) → ∃ τ, VF σ τ ∧ (∀ v, 0 ≤ v → v < 6 → M v ≠ none → τ.2.1 67 v = σ.2.1 67 v) ∧ yE tC_Mat_coversAll_p205 β ρ [P, x1, (kd : Int), K, hp (pos Cs kd) d.1 n, (n : Int), x6] = some (τ, b2 (∃ (i : Nat) (b : Lt), n ≤ i ∧ d.1[i]? = some b ∧ b.1 = a.1 ∧ ∃ s : Int, (s = 0 ∨ s = 1) ∧ ∃ M1, mtL pd M a b s = some M1 ∧ R M1)) := fun ρ x6 fρ gρ hn => by
      have hBρ := hB.v fρ gρ
      obtain ⟨τ, t1, t2, t3⟩ := cov_p27 hβ hcl wa1 wa2 sa hd wd z1 rec m (n + 1) ρ hBρ (by omega)
      refine ⟨τ, fρ.trans t1, fun v p q r => by rw [t2 v p q r, gρ v p q r], ?_⟩
      rw [yq_Mat_coversAll_p205, kY_Mat_coversAll_p205, if_pos (by omega), zbd_of (behind_ok (hBρ.2.1.hl hd hb)), if_pos (by omega), ← hp_s hb, show (n : Int) + 1 = ((n + 1 : Nat) : Int) by omega, t3]
      congr 2
      refine b2_c ⟨?_, ?_⟩
      · rintro ⟨i, b', u1, u2⟩; exact ⟨i, b', by omega, u2⟩
      · rintro ⟨i, b', u1, u2, u3⟩
        by_cases e : i = n
        · rw [e, hb] at u2
          obtain rfl : b = b' := Option.some.inj u2
          exact absurd u3 hn
        · exact ⟨i, b', by omega, u2, u3⟩
    have yes : ∀ s : Int, (s = 0 ∨ s = 1) → b.1 = a.1 → (∃ M1, mtL pd M a b s = some M1 ∧ R M1) → b2 (∃ (i : Nat) (b : Lt), n ≤ i ∧ d.1[i]? = some b ∧ b.1 = a.1 ∧ ∃ s : Int, (s = 0 ∨ s = 1) ∧ ∃ M1, mtL pd M a b s = some M1 ∧ R M1) = 1 := fun s hs sg h => b2_t ⟨n, b, Nat.le_refl _, hb, sg, s, hs, h⟩
    rw [yq_Mat_coversAll_p27, kY_Mat_coversAll_p27, if_pos (by omega), zbd_of (hB.2.1.f3 hd).1, if_neg (by omega)]
    obtain ⟨σ1, f1, g1, h1⟩ := cov_p44 (x1 := x1) (x2 := (kd : Int)) (x5 := (n : Int)) (P := P) (Q := hp (pos Cs kd) d.1 n) hβ wa1 wa2 sa wb1 wb2 sb z1 rec hB (hcl σ hB.2.1) (hB.2.1.hl hd hb) (s := 0) (Or.inl rfl)
    rcases h1 with ⟨sg, h1, e1⟩ | ⟨sg, h1, e1⟩ | ⟨sg, e1⟩
    · rw [e1, yes 0 (Or.inl rfl) sg h1]; exact ⟨σ1, f1, g1, rfl⟩
    · rw [e1]
      have hB1 := hB.v f1 g1
      obtain ⟨σ2, f2, g2, h2⟩ := cov_p44 (x1 := x1) (x2 := (kd : Int)) (x5 := (n : Int)) (P := P) (Q := hp (pos Cs kd) d.1 n) hβ wa1 wa2 sa wb1 wb2 sb z1 rec hB1 (hcl σ1 hB1.2.1) (hB1.2.1.hl hd hb) (s := 0 + 1) (Or.inr rfl)
      have g12 : ∀ v, 0 ≤ v → v < 6 → M v ≠ none → σ2.2.1 67 v = σ.2.1 67 v := fun v p q r => by rw [g2 v p q r, g1 v p q r]
      rcases h2 with ⟨_, h2, e2⟩ | ⟨_, h2, e2⟩ | ⟨sg2, _⟩
      · rw [e2, yes (0 + 1) (Or.inr rfl) sg h2]; exact ⟨σ2, f1.trans f2, g12, rfl⟩
      · rw [e2, yq_Mat_coversAll_p44, kY_Mat_coversAll_p44, if_pos (by decide)]
        refine next σ2 _ (f1.trans f2) g12 ?_
        rintro ⟨_, s, hs, h3⟩
        rcases hs with rfl | rfl
        · exact h1 h3
        · exact h2 h3
      · exact absurd sg sg2
    · rw [e1]
      exact next σ1 _ f1 g1 (fun h => sg h.1)
theorem cov_ok {ar : Int → Nat} {pd : Int → Prop} {m9 : Int} {Cs : List CL} {k kd : Nat} {c d : CL} (hc : Cs[k]? = some c) (wc : Wc ar m9 c.1) (hd : Cs[kd]? = some d) (wd : Wc ar m9 d.1) : ∀ (m n β : Nat) (σ : zS) (M : Mv), n + m ≤ c.1.length → m + 4 ≤ β → Cx ar pd m9 σ → SC σ Cs → MtA ar m9 (σ.2.1 48) ((σ.2.2 48 : Nat) : Int) σ M →
    ∃ τ, yE tC_Mat_coversAll β σ [hp (pos Cs k) c.1 n, (m : Int), (kd : Int)] = some (τ, b2 (cov pd d.1 M ((c.1.drop n).take m))) ∧ VF σ τ ∧ (∀ v, 0 ≤ v → v < 6 → M v ≠ none → τ.2.1 67 v = σ.2.1 67 v)
  | 0, n, β, σ, M, hn, hβ, hC, hS, hM => by
    refine ⟨σ, ?_, FrC.refl, fun _ _ _ _ => rfl⟩
    rw [yq_Mat_coversAll, kY_Mat_coversAll, if_neg (by omega), b2_t]
    rw [List.take_zero]; trivial
  | m + 1, n, β, σ, M, hn, hβ, hC, hS, hM => by
    obtain ⟨a, ha⟩ : ∃ a, c.1[n]? = some a := ⟨_, List.getElem?_eq_getElem (by omega)⟩
    obtain ⟨w8, _, _, _, wl⟩ := id wc
    obtain ⟨sa, wa1, wa2⟩ := wl a (List.mem_of_getElem? ha)
    have eD : (c.1.drop n).take (m + 1) = a :: (c.1.drop (n + 1)).take m := by
      have hlt : n < c.1.length := by omega
      rw [List.drop_eq_getElem_cons hlt, List.take_succ_cons]
      have : c.1[n] = a := by
        have := List.getElem?_eq_getElem hlt
        rw [ha] at this; exact (Option.some.inj this).symm
      rw [this]
    have hB : HB ar pd m9 Cs (σ.1 6603) M σ := ⟨hC, hS, hM.q zI_1 (fun _ _ _ _ => rfl)⟩
    obtain ⟨τ, t1, t2, t3⟩ := cov_p27 (β := β) (by omega) (P := hp (pos Cs k) c.1 n) (a := a) (fun σ h => h.hl hc ha) wa1 wa2 sa hd wd (x1 := ((m + 1 : Nat) : Int)) (K := σ.1 6603) (by omega) (R := fun M1 => cov pd d.1 M1 ((c.1.drop (n + 1)).take m)) (fun ρ M1 q1 q2 q3 q4 => by
      obtain ⟨κ, k1, k2, k3⟩ := cov_ok hc wc hd wd m (n + 1) (β - 1) ρ M1 (by omega) (by omega) q1 q2 q4
      rw [hp_s ha] at k1
      rw [show ((m + 1 : Nat) : Int) - 1 = (m : Int) by omega]
      exact ⟨κ, k1, k2, k3⟩) d.1.length 0 σ hB (by omega)
    refine ⟨τ, ?_, t1, t2⟩
    rw [hp_0] at t3
    have t3' : yE tC_Mat_coversAll_p27 β σ [hp (pos Cs k) c.1 n, ((m + 1 : Nat) : Int), (kd : Int), σ.1 6603, pos Cs kd, 0] = _ := t3
    rw [yq_Mat_coversAll, kY_Mat_coversAll, if_pos (by omega), if_pos (by omega), zbd_of (hS.f3 hd).2.1, t3', eD]
    congr 2
    refine b2_c ⟨?_, ?_⟩
    · rintro ⟨i, b, _, h2, h3, s, hs, M1, h4, h5⟩
      exact ⟨b, List.mem_of_getElem? h2, h3, s, hs, M1, h4, h5⟩
    · rintro ⟨b, h2, h3, s, hs, M1, h4, h5⟩
      obtain ⟨i, hi⟩ := List.getElem?_of_mem h2
      exact ⟨i, b, Nat.zero_le _, hi, h3, s, hs, M1, h4, h5⟩
