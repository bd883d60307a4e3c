/-! the GIVEN is REWRITTEN -/
noncomputable def rwN (pd : Int → Prop) (L : List (Nat × Lt)) : Nat → List Lt → List Int → Nat → List Lt × List Int × Nat
  | 0, E, U, n => (E, U, n)
  | m + 1, E, U, n => match rf pd L E with
    | none => (E, U, n)
    | some q => rwN pd L m (rpE q.2.2 q.1 E) (adU U (q.2.1 : Int)) (n + 1)
abbrev RH (σ τ : zS) : Prop := FrC [6603, 6605, 3904, 4901] [13, 67, 68, 40, 41, 42, 50] σ τ
theorem rw_p29 {ar : Int → Nat} {pd : Int → Prop} {m9 : Int} {β : Nat} (hβ : 6 ≤ β) {Cs : List CL} (wC : ∀ c ∈ Cs, Wc ar m9 c.1) {σ0 : zS} (hC0 : Cx ar pd m9 σ0) (hS0 : SC σ0 Cs) {X : List Int} (hX : RowC σ0 4901 50 X) (hXl : X.length ≤ 130000) (hR0 : RowC σ0 5701 58 (sgI (sgL Cs 0))) (hcap : σ0.2.2 58 ≤ 10000) {g : Int} : ∀ (m : Nat) (E : List Lt) (U : List Int) (n : Nat) (σ : zS), RH σ0 σ → DE σ E → WL ar (lb m9) E → RowC σ 4901 50 (X ++ U) → Mb σ → RL σ → σ.2.2 50 ≤ 265000 → U.length ≤ n → n + m = 60 →
    ∃ (τ : zS) (E' : List Lt) (U' : List Int) (n' : Nat), rwN pd (sgL Cs 0) m E U n = (E', U', n') ∧ yE tG_Sat_rewrite_p29 β σ [g, (X.length : Int), (n : Int)] = yE tG_Sat_rewrite_p74 β τ [g, (X.length : Int), (n' : Int)] ∧ RH σ0 τ ∧ DE τ E' ∧ WL ar (lb m9) E' ∧ RowC τ 4901 50 (X ++ U') ∧ Mb τ ∧ RL τ ∧ τ.2.2 50 ≤ 265000 ∧ U'.length ≤ n' ∧ n' ≤ 60
  | 0, E, U, n, σ, f, hD, hw, hU, hM, hL, h50, hl, hm => by
    refine ⟨σ, E, U, n, rfl, ?_, f, hD, hw, hU, hM, hL, h50, hl, by omega⟩
    rw [yq_Sat_rewrite_p29, kY_Sat_rewrite_p29, if_pos (by omega)]
  | m + 1, E, U, n, σ, f, hD, hw, hU, hM, hL, h50, hl, hm => by
    obtain ⟨σ1, t⟩ := rf_ok (pd := pd) (β := β - 1) (by omega) wC hw (hC0.f f) (hS0.r f hX hU h50) hD (hR0.f f) (by rw [f.l 58]; exact hcap)
    rw [yq_Sat_rewrite_p29, kY_Sat_rewrite_p29, if_neg (by omega), if_pos (by omega)]
    rcases t with ⟨u1, u2, u3⟩ | ⟨q, k, z, u1, u2, u3, u4, u5⟩
    · refine ⟨σ1, E, U, n, by rw [rwN, u1], ?_, f.trans u2.w, hD.f u2, hw, hU.f u2, hM.m u2.2.2.2, hL.f u2, by rw [u2.l 50]; exact h50, hl, by omega⟩
      rw [zbd_of u3, if_pos rfl]
    · obtain ⟨σ2, v1, v2, v3, v4, v5, v6⟩ := cnote_ok (β := β - 1) (k := (k : Int)) (hU.f u2) (hM.m u2.2.2.2) (hL.f u2) (by rw [u2.l 50]; exact h50) (by omega)
      have f2 : RH σ0 σ2 := (f.trans u2.w).trans v2.w
      have la := adU_len U (k : Int)
      obtain ⟨τ, E', U', n', w1, w2, w3⟩ := rw_p29 hβ wC hC0 hS0 hX hXl hR0 hcap (g := g) m (rpE z q E) (adU U (k : Int)) (n + 1) σ2 f2 (u3.f v2) (rpE_wf u4 hw) v3 v4 v5 v6 (by omega) (by omega)
      refine ⟨τ, E', U', n', by rw [rwN, u1]; exact w1, ?_, w3⟩
      rw [zbd_of u5, if_neg (by omega), if_pos (by omega), zbd_of v1, if_pos (by omega), show (n : Int) + 1 = ((n + 1 : Nat) : Int) by omega]
      exact w2
/-- the new CLAUSE's last facts -/
theorem SC.rw {σ τ : zS} {Cs : List CL} {E : List Lt} {x0 x1 x2 : Int} {X U : List Int} (h : SC σ (Cs ++ [(E, x0, x1, x2, 0, [])])) (hR : RowC σ 4901 50 (X ++ U)) (hτ : τ = zA (zA (zA σ 52 ((Cs.length : Int) * 11 + 6) 2) 52 ((Cs.length : Int) * 11 + 7) (U.length : Int)) 52 ((Cs.length : Int) * 11 + 9) (X.length : Int)) : SC τ (Cs ++ [(E, x0, x1, x2, 2, U)]) := by
  obtain ⟨gSK, gSN⟩ := SC_iff.mp h
  have e52 : ∀ q, q ≠ (Cs.length : Int) * 11 + 6 → q ≠ (Cs.length : Int) * 11 + 7 → q ≠ (Cs.length : Int) * 11 + 9 → τ.2.1 52 q = σ.2.1 52 q := fun q a b c => by rw [hτ, zA_i c, zA_i b, zA_i a]
  have ej : ∀ j q, j ≠ 52 → τ.2.1 j q = σ.2.1 j q := fun j q hj => by rw [hτ, zA_j hj, zA_j hj, zA_j hj]
  have e1 : τ.1 = σ.1 := by rw [hτ]; rfl
  have e2 : τ.2.2 = σ.2.2 := by rw [hτ]; rfl
  have l1 : (Cs ++ [(E, x0, x1, x2, 2, U)] : List CL).length = Cs.length + 1 := by simp
  have l2 : (Cs ++ [(E, x0, x1, x2, 0, [])] : List CL).length = Cs.length + 1 := by simp
  have hp1 : ∀ i, i ≤ Cs.length → pos (Cs ++ [(E, x0, x1, x2, 2, U)]) i = pos Cs i := fun i hi => by unfold pos; rw [List.take_append_of_le_length hi]
  have hp2 : ∀ i, i ≤ Cs.length → pos (Cs ++ [(E, x0, x1, x2, 0, [])]) i = pos Cs i := fun i hi => by unfold pos; rw [List.take_append_of_le_length hi]
  refine SC_iff.mpr ⟨fun i c hc => ?_, ?_⟩
  · by_cases hi : i < Cs.length
    · rw [hp1 i (by omega)]
      have hc' := hc
      rw [List.getElem?_append_left hi] at hc
      have s := gSK i c (by rw [List.getElem?_append_left hi]; exact hc)
      rw [hp2 i (by omega)] at s
      have s6 := s.1.2.2.2.2.2.2.1
      have t : SK τ (i : Int) (pos Cs i) (cS c (cst c)) := SK_q s (fun w w0 w1 w2 => e52 _ (by omega) (by omega) (by omega)) (by rw [e52 _ (by omega) (by omega) (by omega)]; exact s6) (fun q => ej 48 q (by decide)) (by rw [e1]; exact Int.le_refl _) (fun q _ _ => ej 50 q (by decide))
      exact t
    · have hi2 : i = Cs.length := by
        have := (List.getElem?_eq_some_iff.mp hc).1
        rw [l1] at this; omega
      subst hi2
      rw [List.getElem?_append_right (Nat.le_refl _), Nat.sub_self] at hc
      obtain rfl := Option.some.inj hc
      have s := gSK Cs.length (E, x0, x1, x2, 0, []) (by rw [List.getElem?_append_right (Nat.le_refl _), Nat.sub_self]; rfl)
      rw [hp2 _ (Nat.le_refl _)] at s
      rw [hp1 _ (Nat.le_refl _)]
      obtain ⟨⟨b0, b1, b2, b3, b4, b5, b6, b7, b8⟩, a2, a3, a4, a5, a6⟩ := s
      have e : ∀ w, 0 ≤ w → w < 11 → w ≠ 6 → w ≠ 7 → w ≠ 9 → ∀ z, σ.2.1 52 ((Cs.length : Int) * 11 + w) = z → τ.2.1 52 ((Cs.length : Int) * 11 + w) = z := fun w w0 w1 w2 w3 w4 z hz => by rw [e52 _ (by omega) (by omega) (by omega)]; exact hz
      have n9 : τ.2.1 52 ((Cs.length : Int) * 11 + 9) = (X.length : Int) := by rw [hτ, zA_s]
      have hr := hR.1
      rw [List.length_append] at hr
      refine ⟨⟨e 0 (by omega) (by omega) (by omega) (by omega) (by omega) _ b0, e 1 (by omega) (by omega) (by omega) (by omega) (by omega) _ b1, e 2 (by omega) (by omega) (by omega) (by omega) (by omega) _ b2, e 3 (by omega) (by omega) (by omega) (by omega) (by omega) _ b3, e 4 (by omega) (by omega) (by omega) (by omega) (by omega) _ b4, e 5 (by omega) (by omega) (by omega) (by omega) (by omega) _ b5, ?_, ?_, e 8 (by omega) (by omega) (by omega) (by omega) (by omega) _ b8⟩, LL_q (fun q _ _ _ => ej 48 q (by decide)) a2, ?_, ?_, ?_, ?_⟩
      · rw [hτ, zA_i (by omega), zA_i (by omega), zA_s]
      · rw [hτ, zA_i (by omega), zA_s]
      · rw [n9]; omega
      · rw [n9, e1]
        show (X.length : Int) + (U.length : Int) ≤ σ.1 4901
        omega
      · rw [n9]
        have w := (Fl_app.mp hR.2.2.2).2
        rw [show (0 : Int) + (X.length : Int) = (X.length : Int) by omega] at w
        exact Fl_q (fun q _ _ => ej 50 q (by decide)) w
      · rw [e52 _ (by omega) (by omega) (by omega)]; exact a6
  · obtain ⟨n1, n2, n3, n4, n5, n6, n7⟩ := gSN
    have sz : szC (Cs ++ [(E, x0, x1, x2, 2, U)]) = szC (Cs ++ [(E, x0, x1, x2, 0, [])]) := by rw [szC_app, szC_app]; rfl
    refine ⟨by rw [e1, l1, ← l2]; exact n1, by rw [e1, sz]; exact n2, by rw [e1, l1, ← l2]; exact n3, by rw [e1, e2]; exact n4, by rw [e1, e2]; exact n5, by rw [e1, e2]; exact n6, by rw [l1, ← l2]; exact n7⟩
theorem kr_ok {ar : Int → Nat} {m9 : Int} {β : Nat} (hβ : 4 ≤ β) {σ : zS} {Cs : List CL} (wC : ∀ c ∈ Cs, Wc ar m9 c.1) (hS : SC σ Cs) {R : List Lt} (hD : DE σ R) (wR : Wc ar m9 R) (hv : σ.1 3906 = ((ntL [] R).length : Int)) {X U : List Int} (hU : RowC σ 4901 50 (X ++ U)) (hXl : X.length + U.length ≤ 130000) (hM : Mb σ) (hL : RL σ) {g : Int} : ∃ (τ : zS) (r : Int), yE tG_Sat_keepRewritten β σ [g, (X.length : Int)] = some (τ, r) ∧ ((tautL R ∧ r = -1 ∧ τ = zI σ 5306 (zwa (σ.1 5306) 1)) ∨ (¬ tautL R ∧ Cs.length = 2000 ∧ r = -1 ∧ τ = zI σ 5300 3) ∨ (¬ tautL R ∧ Cs.length ≠ 2000 ∧ r = (Cs.length : Int) ∧ FrC [5101, 4701, 5402] [48, 52] σ τ ∧ SC τ (Cs ++ [(R, 4, g, -1, 2, U)]) ∧ Mb τ ∧ RL τ ∧ (∀ q, q < σ.1 4701 → 0 ≤ q → τ.2.1 48 q = σ.2.1 48 q) ∧ (∀ q, 0 ≤ q → q < 11 * (Cs.length : Int) → τ.2.1 52 q = σ.2.1 52 q) ∧ τ.2.1 52 ((Cs.length : Int) * 11 + 10) = 0)) := by
  have ct := ctaut_ok (β := β - 1) (by omega) hD wR.2.2.2.2
  have h2 := hS.2.1
  have h20 := hS.2.2.2.2.2.2.2
  have hu := hU.1
  rw [List.length_append] at hu
  rw [yq_Sat_keepRewritten, kY_Sat_keepRewritten, if_pos (by omega), zbd_of ct]
  by_cases ht : tautL R
  · rw [b2_t ht, if_neg (by decide), lt_e]
    exact ⟨_, _, rfl, Or.inl ⟨ht, rfl, rfl⟩⟩
  · rw [b2_f ht, if_pos rfl]
    by_cases hn : Cs.length = 2000
    · rw [if_pos (by omega), lt_e]
      exact ⟨_, _, rfl, Or.inr (Or.inl ⟨ht, hn, rfl, rfl⟩)⟩
    · rw [if_neg (by omega), if_pos (by omega)]
      obtain ⟨τ, a1, a2, a3, a4, a5, a6, a7, a8, a9⟩ := add_ok (β := β - 1) (x0 := 4) (x1 := g) (x2 := -1) hS hD (fun a ha => (wR.2.2.2.2 a ha).1) hv hM hL (by omega) (szC_140 wC)
      have lc : ((Cs ++ [(R, 4, g, -1, 0, [])] : List CL).length : Int) = (Cs.length : Int) + 1 := by simp
      have s1 := setF (β := β - 1) (x := 2) (w := 6) (k := (Cs.length : Int)) a3 (by omega) (by omega) (by omega) (by omega)
      obtain ⟨τ1, hτ1⟩ : ∃ z, z = zA τ 52 ((Cs.length : Int) * 11 + 6) 2 := ⟨_, rfl⟩
      rw [← hτ1] at s1
      have b3 : SC τ1 (stA (Cs ++ [(R, 4, g, -1, 0, [])]) Cs.length 2) := by rw [hτ1]; exact a3.st (by simp)
      have lc1 : ((stA (Cs ++ [(R, 4, g, -1, 0, [])]) Cs.length 2).length : Int) = (Cs.length : Int) + 1 := by rw [stA_len]; exact lc
      have i49 : τ1.1 4901 = σ.1 4901 := by rw [hτ1, zA_1, a2.i 4901]
      -- the rest are facts alone: the room is the same
      have z52 : τ1.2.2 52 = τ.2.2 52 := by rw [hτ1]; rfl
      have r5 : ((Cs.length : Int) + 1) * 11 ≤ (τ.2.2 52 : Int) := by
        have q1 := a3.2.2.2.1
        have q2 := a3.2.2.2.2.2.1.1
        rw [lc] at q1; omega
      have s2 : yE tC_Sto_setFact (β - 1) τ1 [(Cs.length : Int), 7, σ.1 4901 - (X.length : Int)] = some (zA τ1 52 ((Cs.length : Int) * 11 + 7) (σ.1 4901 - (X.length : Int)), 0) := setF b3 (by omega) (by omega) (by omega) (by omega)
      obtain ⟨τ2, hτ2⟩ : ∃ z, z = zA τ1 52 ((Cs.length : Int) * 11 + 7) (σ.1 4901 - (X.length : Int)) := ⟨_, rfl⟩
      rw [← hτ2] at s2
      have z52' : τ2.2.2 52 = τ.2.2 52 := by rw [hτ2]; exact z52
      have s3 : yE tC_Sto_setFact (β - 1) τ2 [(Cs.length : Int), 9, (X.length : Int)] = some (zA τ2 52 ((Cs.length : Int) * 11 + 9) (X.length : Int), 0) := by
        rw [yq_Sto_setFact, kY_Sto_setFact, if_pos (by omega), if_pos (by omega), if_pos (by omega), lt_e]
      obtain ⟨τ3, hτ3⟩ : ∃ z, z = zA τ2 52 ((Cs.length : Int) * 11 + 9) (X.length : Int) := ⟨_, rfl⟩
      rw [← hτ3] at s3
      have eU : σ.1 4901 - (X.length : Int) = (U.length : Int) := by omega
      have hR : RowC τ 4901 50 (X ++ U) := hU.f a2
      have f3 : FrC [5101, 4701, 5402] [48, 52] σ τ3 := by
        have b1 : FrC [5101, 4701, 5402] [48, 52] τ τ1 := by rw [hτ1]; exact FrC_A
        have b2 : FrC [5101, 4701, 5402] [48, 52] τ1 τ2 := by rw [hτ2]; exact FrC_A
        have b3 : FrC [5101, 4701, 5402] [48, 52] τ2 τ3 := by rw [hτ3]; exact FrC_A
        exact ((a2.trans b1).trans b2).trans b3
      refine ⟨τ3, (Cs.length : Int), ?_, Or.inr (Or.inr ⟨ht, hn, rfl, f3, SC.rw a3 hR (by rw [hτ3, hτ2, hτ1, eU]), a4.m (Mg.of (by rw [hτ3, hτ2, hτ1]; rfl)), fun j hj => by rw [hτ3, hτ2, hτ1]; exact a5 j hj, fun q q1 q0 => by rw [hτ3, hτ2, hτ1, zA_j, zA_j, zA_j]; exact a6 q q1 q0, fun q q0 q1 => by rw [hτ3, hτ2, hτ1, zA_i (by omega), zA_i (by omega), zA_i (by omega)]; exact a7 q q0 q1, by rw [hτ3, hτ2, hτ1, zA_i (by omega), zA_i (by omega), zA_i (by omega)]; exact a8⟩)⟩
      rw [zbd_of a1, if_pos (by omega), zbd_of s1, i49, if_pos (by omega), if_pos (by omega), zbd_of s2, if_pos (by omega), zbd_of s3]
noncomputable def rwA (pd : Int → Prop) (g : Nat) (C : List Lt) (A : PA) : PA × Option Nat :=
  if (rwN pd (sgL A.1 0) 60 C [] 0).2.2 = 0 then (A, some g) else
  @ite _ (tautL (rnL [] (ddL [] (rwN pd (sgL A.1 0) 60 C [] 0).1))) (Classical.propDecidable _)
    ((A.1, fu (fu A.2 93 (zwa (A.2 93) ((rwN pd (sgL A.1 0) 60 C [] 0).2.2 : Int))) 94 (zwa (A.2 94) 1)), none)
    (if A.1.length = 2000 then ((A.1, fu (fu A.2 93 (zwa (A.2 93) ((rwN pd (sgL A.1 0) 60 C [] 0).2.2 : Int))) 87 3), none)
      else ((A.1 ++ [(rnL [] (ddL [] (rwN pd (sgL A.1 0) 60 C [] 0).1), 4, (g : Int), -1, 2, (rwN pd (sgL A.1 0) 60 C [] 0).2.1)], fu A.2 93 (zwa (A.2 93) ((rwN pd (sgL A.1 0) 60 C [] 0).2.2 : Int))), some A.1.length))
abbrev WF (σ τ : zS) : Prop := FrC [5701, 3904, 3905, 3906, 3907, 3911, 6603, 6605, 4901, 5300, 5305, 5306, 5101, 4701, 5402] [58, 46, 40, 41, 42, 43, 13, 67, 68, 50, 45, 48, 52] σ τ
theorem rewrite_ok {ar : Int → Nat} {pd : Int → Prop} {m9 : Int} {β : Nat} (hβ : 8 ≤ β) {σ : zS} {A : PA} (hI : CI ar pd m9 σ A) (h58 : 16 ≤ σ.2.2 58 ∧ σ.2.2 58 ≤ 10000) {g : Nat} {c : CL} (hg : A.1[g]? = some c) : ∃ τ, yE tG_Sat_rewrite β σ [(g : Int)] = some (τ, no1 (rwA pd g c.1 A).2) ∧ CI ar pd m9 τ (rwA pd g c.1 A).1 ∧ WF σ τ ∧ 16 ≤ τ.2.2 58 ∧ τ.2.2 58 ≤ 10000 := by
  obtain ⟨c1, c2, c3, c4, c5, c6, c7, c8, c9, c10, c11, c12⟩ := id hI
  obtain ⟨σ1, l1, l2, l3, l4, l5, l6⟩ := ls_ok (β := β - 1) (by omega) c3 c5 c6 h58.1 h58.2
  have wc := c10 c (List.mem_of_getElem? hg)
  have N1 : ∃ N, DN σ1 N := by obtain ⟨N, hN⟩ := c8; exact ⟨N, hN.f l2⟩
  obtain ⟨σ2, d1, d2, d3, d4⟩ := load_ok (β := β - 1) (by omega) (c3.f l2) hg wc N1
  have f2 : FrC [5701, 3904, 3905, 3907, 3911] [58, 40, 41, 42, 43, 46] σ σ2 := l2.w.trans d2.w
  obtain ⟨m1, m2, m3, m4⟩ := c3.2.2.2.2.2.2.1
  have h20 := c3.2.2.2.2.2.2.2
  have hcm := c12.2
  obtain ⟨n49, hn49⟩ := Int.eq_ofNat_of_zero_le m1
  obtain ⟨X, hX, lX⟩ := row_ex (σ := σ) (r := 4901) (a := 50) (n := n49) hn49 (by omega) m4
  have hX2 : RowC σ2 4901 50 X := hX.f f2
  have hR2 : RowC σ2 5701 58 (sgI (sgL A.1 0)) := l3.f d2
  have cap2 : σ2.2.2 58 ≤ 10000 := by rw [d2.l 58]; exact l6
  have M2 : Mb σ2 := l4.m d2.2.2.2
  have L2 : RL σ2 := l5.f d2
  obtain ⟨τ, E', U', n', w1, w2, w3, w4, w5, w6, w7, w8, w9, w10, w11⟩ := rw_p29 (pd := pd) (β := β) (by omega) c10 (c1.f f2) (c3.f f2) hX2 (by omega) hR2 cap2 (g := (g : Int)) 60 c.1 [] 0 σ2 FrC.refl d3 wc.2.2.2.2 (by rw [List.append_nil]; exact hX2) M2 L2 (by rw [f2.l 50]; exact m3) (Nat.le_refl _) (by omega)
  have f3 : FrC [5701, 3904, 3905, 3907, 3911, 6603, 6605, 4901] [58, 40, 41, 42, 43, 46, 13, 67, 68, 50] σ τ := f2.w.trans w3.w
  have S3 : SC τ A.1 := c3.r f3 hX w6 w9
  have N3 : ∃ N, DN τ N := ⟨[], d4.f w3⟩
  have x49 : σ2.1 4901 = (X.length : Int) := hX2.1
  have cap3 : 16 ≤ τ.2.2 58 ∧ τ.2.2 58 ≤ 10000 := by
    rw [w3.l 58]; exact ⟨hR2.2.2.1, cap2⟩
  have go : yE tG_Sat_rewrite β σ [(g : Int)] = yE tG_Sat_rewrite_p74 β τ [(g : Int), (X.length : Int), (n' : Int)] := by
    rw [yq_Sat_rewrite, kY_Sat_rewrite, if_pos (by omega), zbd_of l1, if_pos (by omega), zbd_of d1, x49]
    exact w2
  have e74 : ∀ (ρ : zS) (r : Int), yE tG_Sat_rewrite_p122 β ρ [(g : Int), (X.length : Int), (n' : Int), r] = some (ρ, r) := fun ρ r => by rw [yq_Sat_rewrite_p122, kY_Sat_rewrite_p122]
  rw [go, yq_Sat_rewrite_p74, kY_Sat_rewrite_p74]
  unfold rwA
  rw [w1]
  dsimp only
  by_cases h0 : n' = 0
  · rw [if_pos (by omega), if_pos h0]
    refine ⟨τ, rfl, hI.g f3 S3 (c4.f f3) ⟨fun k k0 k1 => by rw [f3.a 52]; exact c12.1 k k0 k1, ?_⟩ N3 (c7.f f3) w8 (by rw [w4.1]; have := w4.2.1; omega) c10 (fun k d hk hs => ?_), f3.w, cap3⟩
    · have u0 := w6.1
      rw [List.length_append] at u0
      show τ.1 4901 ≤ 60 * (A.1.length : Int)
      omega
    · have := c11 k d hk hs
      unfold JG at *
      intro i a ha
      rw [f3.a 48, f3.a 48]; exact this i a ha
  · rw [if_neg (by omega), if_neg h0, lt_e, if_pos (by omega)]
    obtain ⟨τ1, hτ1⟩ : ∃ z, z = zI τ 5305 (zwa (τ.1 5305) (n' : Int)) := ⟨_, rfl⟩
    rw [← hτ1]
    have g1 : FrC [5305] [] τ τ1 := by rw [hτ1]; exact FrC_I
    have K1 : KC τ1 (fu A.2 93 (zwa (A.2 93) (n' : Int))) := by
      have k := c4.f f3
      rw [hτ1, k.2.2.2.2.2.1]
      exact k.u5
    obtain ⟨τ2, r1, r2, r3, r4⟩ := creduce_ok (β := β - 1) (by omega) (w4.f g1) w5
    rw [zbd_of r1, if_pos (by omega)]
    have inb : inB E' := ⟨w4.2.1, w4.2.2.2.1, nt6 w5⟩
    have hnew := Wc_new c2 (fun c h => h.2) w5 inb
    have fT : FrC [5701, 3904, 3905, 3907, 3911, 6603, 6605, 4901, 5305, 3906] [58, 40, 41, 42, 43, 46, 13, 67, 68, 50, 45] σ τ2 := (f3.w.trans g1.w).trans r2.w
    have row2 : RowC τ2 4901 50 (X ++ U') := (w6.f g1).f r2
    have S2 : SC τ2 A.1 := (S3.f g1).f r2
    have K2 : KC τ2 (fu A.2 93 (zwa (A.2 93) (n' : Int))) := K1.f r2
    have M4 : Mb τ2 := (w7.m g1.2.2.2).m r2.2.2.2
    have L4 : RL τ2 := (w8.f g1).f r2
    have N4 : DN τ2 [] := ((d4.f w3).f g1).f r2
    have hv : τ2.1 3906 = ((ntL [] (rnL [] (ddL [] E'))).length : Int) := by
      rw [r4, keep_ok.rn_len E' w5 inb.2.2 c2 (fun c h => h.2)]
    have h8 : 0 ≤ τ2.1 3905 ∧ τ2.1 3905 ≤ 8 := by rw [r3.1]; have := r3.2.1; omega
    have cap5 : 16 ≤ τ2.2.2 58 ∧ τ2.2.2 58 ≤ 10000 := by rw [r2.l 58, g1.l 58]; exact cap3
    obtain ⟨κ, r, k1, k2⟩ := kr_ok (β := β - 1) (by omega) c10 S2 r3 hnew hv row2 (by omega) M4 L4 (g := (g : Int))
    rw [zbd_of k1]
    -- nothing is kept
    have drop : ∀ (j : Nat) (x : Int) (f : Nat → Int), (j = 5300 ∨ j = 5306) → κ = zI τ2 j x → KC κ f → r = -1 → ∃ τ, (if r = -1 then lt_ (zI κ 4901 (X.length : Int)) (fun σ4 => yE tG_Sat_rewrite_p122 β σ4 [(g : Int), (X.length : Int), (n' : Int), r]) else yE tG_Sat_rewrite_p122 β κ [(g : Int), (X.length : Int), (n' : Int), r]) = some (τ, -1) ∧ CI ar pd m9 τ (A.1, f) ∧ WF σ τ ∧ 16 ≤ τ.2.2 58 ∧ τ.2.2 58 ≤ 10000 := fun j x f hj hκ hK hr => by
      obtain ⟨ω, hω⟩ : ∃ z, z = zI κ 4901 (X.length : Int) := ⟨_, rfl⟩
      have gκ : WF σ κ := by
        have b : WF τ2 κ := by
          rw [hκ]
          rcases hj with rfl | rfl
          · exact FrC_I
          · exact FrC_I
        exact fT.w.trans b
      have gω : WF σ ω := by
        have b : WF κ ω := by rw [hω]; exact FrC_I
        exact gκ.trans b
      have b2 : FrC [5300, 5306, 4901] [] τ2 ω := by
        have b1 : FrC [5300, 5306, 4901] [] τ2 κ := by
          rw [hκ]
          rcases hj with rfl | rfl
          · exact FrC_I
          · exact FrC_I
        have b3 : FrC [5300, 5306, 4901] [] κ ω := by rw [hω]; exact FrC_I
        exact b1.trans b3
      have rowω : RowC ω 4901 50 (X ++ []) := by
        rw [List.append_nil]
        refine ⟨by rw [hω, zI_1], ?_, row2.2.2.1 |> fun h => by rw [b2.l 50]; exact h, Fl_q (fun q _ _ => b2.a 50 q) (Fl_app.mp row2.2.2.2).1⟩
        have := row2.2.1
        rw [List.length_append] at this
        rw [b2.l 50]; omega
      have g50 : ω.2.2 50 ≤ 265000 := by rw [b2.l 50, r2.l 50, g1.l 50]; exact w9
      have fω : FrC [5701, 3904, 3905, 3907, 3911, 6603, 6605, 4901, 5305, 3906, 5300, 5306] [58, 40, 41, 42, 43, 46, 13, 67, 68, 50, 45] σ ω := fT.w.trans b2.w
      refine ⟨ω, by rw [if_pos hr, lt_e, ← hω, e74, hr], hI.g (A2 := (A.1, f)) fω (c3.r fω hX rowω g50) ?_ ⟨fun k k0 k1 => by rw [fω.a 52]; exact c12.1 k k0 k1, ?_⟩ ⟨[], N4.f b2⟩ (c7.f fω) (L4.f b2) (by rw [b2.i 3905]; exact h8) c10 (fun k d hk hs => ?_), gω, by rw [b2.l 58]; exact cap5.1, by rw [b2.l 58]; exact cap5.2⟩
      · exact hK.f (I := [4901]) (A := []) (by rw [hω]; exact FrC_I)
      · show ω.1 4901 ≤ 60 * (A.1.length : Int)
        rw [hω, zI_1]; omega
      · have := c11 k d hk hs
        unfold JG at *
        intro i a ha
        rw [fω.a 48, fω.a 48]; exact this i a ha
    rcases k2 with ⟨ht, hr, hκ⟩ | ⟨ht, hn, hr, hκ⟩ | ⟨ht, hn, hr, kf, kS, kM, kL, k48, k52, k10⟩
    · rw [if_pos ht]
      refine drop 5306 _ _ (Or.inr rfl) hκ ?_ hr
      rw [hκ, show τ2.1 5306 = A.2 94 by rw [K2.2.2.2.2.2.2, fu_o]]
      exact K2.u6
    · rw [if_neg ht, if_pos hn]
      refine drop 5300 _ _ (Or.inl rfl) hκ ?_ hr
      rw [hκ]
      exact K2.u0
    · rw [if_neg ht, if_neg hn]
      have fω : FrC [5701, 3904, 3905, 3907, 3911, 6603, 6605, 4901, 5305, 3906, 5101, 4701, 5402] [58, 40, 41, 42, 43, 46, 13, 67, 68, 50, 45, 48, 52] σ κ := fT.w.trans kf.w
      have el : ((A.1 ++ [(rnL [] (ddL [] E'), 4, (g : Int), -1, 2, U')] : List CL).length : Int) = (A.1.length : Int) + 1 := by simp
      have rk := (row2.f kf).1
      rw [List.length_append] at rk
      refine ⟨κ, by rw [hr, if_neg (by omega), e74]; rfl, hI.g (A2 := (A.1 ++ [(rnL [] (ddL [] E'), 4, (g : Int), -1, 2, U')], fu A.2 93 (zwa (A.2 93) (n' : Int)))) fω kS (K2.f kf) ⟨fun k k0 k1 => ?_, ?_⟩ ⟨[], N4.f kf⟩ (c7.f fω) kL (by rw [kf.i 3905]; exact h8) (fun d hd => ?_) (fun k d hk hs => ?_), fω.w, by rw [kf.l 58]; exact cap5.1, by rw [kf.l 58]; exact cap5.2⟩
      · have k1' : k < (A.1.length : Int) + 1 := by rw [← el]; exact k1
        by_cases e : k = (A.1.length : Int)
        · rw [e]; exact k10
        · rw [k52 _ (by omega) (by omega), fT.a 52]; exact c12.1 k k0 (by omega)
      · show κ.1 4901 ≤ 60 * ((A.1 ++ [(rnL [] (ddL [] E'), 4, (g : Int), -1, 2, U')] : List CL).length : Int)
        rw [el]; omega
      · rcases List.mem_append.mp hd with z | z
        · exact c10 d z
        · simp at z; subst z; exact hnew
      · have hk' : (A.1 ++ [(rnL [] (ddL [] E'), 4, (g : Int), -1, 2, U')] : List CL)[k]? = some d := hk
        show JG (κ.2.1 48) (pos (A.1 ++ [(rnL [] (ddL [] E'), 4, (g : Int), -1, 2, U')]) k) d.1
        by_cases hkl : k < A.1.length
        · rw [List.getElem?_append_left hkl] at hk'
          have hJ := c11 k d hk' hs
          have hpp : pos (A.1 ++ [(rnL [] (ddL [] E'), 4, (g : Int), -1, 2, U')]) k = pos A.1 k := by unfold pos; rw [List.take_append_of_le_length (by omega)]
          rw [hpp]
          intro i a ha
          obtain ⟨z1, z2⟩ := hJ i a ha
          obtain ⟨_, _, _, _, _, h6, h7, _⟩ := c3.hl hk' ha
          have t1 := tw_pos a.2.1
          have t2 := tw_pos a.2.2
          have e47 : τ2.1 4701 = σ.1 4701 := fT.i 4701
          rw [k48 _ (by omega) (by omega), k48 _ (by omega) (by omega), fT.a 48, fT.a 48]
          exact ⟨z1, z2⟩
        · have hk2 : k = A.1.length := by
            have := (List.getElem?_eq_some_iff.mp hk').1
            simp at this; omega
          subst hk2
          rw [List.getElem?_append_right (Nat.le_refl _), Nat.sub_self] at hk'
          obtain rfl := Option.some.inj hk'
          exact absurd (show (2:Int) = 1 from hs) (by decide)
