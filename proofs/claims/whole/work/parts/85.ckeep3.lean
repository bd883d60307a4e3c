def KC (σ : zS) (f : Nat → Int) : Prop := σ.1 5300 = f 87 ∧ σ.1 5301 = f 89 ∧ σ.1 5302 = f 90 ∧ σ.1 5303 = f 91 ∧ σ.1 5304 = f 92 ∧ σ.1 5305 = f 93 ∧ σ.1 5306 = f 94
def CM (σ : zS) (A : PA) : Prop := (∀ k : Int, 0 ≤ k → k < (A.1.length : Int) → σ.2.1 52 (k * 11 + 10) = 0) ∧ σ.1 4901 ≤ 60 * (A.1.length : Int)
theorem CM.f {I B : List Nat} {σ τ : zS} {A : PA} (h : CM σ A) (f : FrC I B σ τ) (i4 : I.elem 4901 = false := by decide) (a3 : B.elem 52 = false := by decide) : CM τ A := ⟨fun k a b => by rw [f.2.1 52 _ a3]; exact h.1 k a b, by rw [f.1 4901 i4]; exact h.2⟩
/-- the class, between two INFERENCES; no CLAUSE is marked yet as one of a proof -/
def CI (ar : Int → Nat) (pd : Int → Prop) (m9 : Int) (σ : zS) (A : PA) : Prop := Cx ar pd m9 σ ∧ 0 ≤ m9 ∧ SC σ A.1 ∧ KC σ A.2 ∧ Mb σ ∧ RL σ ∧ MT σ ∧ (∃ N, DN σ N) ∧ (0 ≤ σ.1 3905 ∧ σ.1 3905 ≤ 8) ∧ (∀ c ∈ A.1, Wc ar m9 c.1) ∧ (∀ (k : Nat) c, A.1[k]? = some c → cst c = 1 → JG (σ.2.1 48) (pos A.1 k) c.1) ∧ CM σ A
/-- what INFERENCES change -/
abbrev IF (σ τ : zS) : Prop := FrC [3904, 3905, 3906, 3907, 3911, 5101, 4701, 5402, 5300, 5302, 5303, 5306, 5905, 5906, 5907, 6401] [13, 40, 41, 42, 43, 44, 45, 46, 48, 52, 60, 61, 62, 63, 65] σ τ
theorem szC_140 {ar : Int → Nat} {m9 : Int} : ∀ {Cs : List CL}, (∀ c ∈ Cs, Wc ar m9 c.1) → szC Cs ≤ 140 * Cs.length
  | [], _ => by simp [szC]
  | c :: Cs, h => by
    have ih := szC_140 (Cs := Cs) (fun d hd => h d (List.mem_cons_of_mem _ hd))
    obtain ⟨h1, h2, _⟩ := h c List.mem_cons_self
    have := szL_wt c.1
    simp only [szC, List.length_cons]; omega
theorem DQ.f {I A : List Nat} {σ τ : zS} {q : Option (List QL)} (h : DQ σ q) (f : FrC I A σ τ) (i1 : I.elem 3904 = false := by decide) (i2 : I.elem 3905 = false := by decide) (i3 : I.elem 3907 = false := by decide) (i4 : I.elem 3911 = false := by decide) (a0 : A.elem 40 = false := by decide) (a1 : A.elem 41 = false := by decide) (a2 : A.elem 42 = false := by decide) (a3 : A.elem 43 = false := by decide) (a4 : A.elem 44 = false := by decide) (a6 : A.elem 46 = false := by decide) : DQ τ q := by
  have ds : ∀ D, DS σ D → DS τ D := fun D hD => by
    cases D with
    | none =>
      obtain ⟨x, N, y⟩ := hD
      exact ⟨by rw [f.1 3907 i3]; exact x, N, y.f f i4 a4 a6⟩
    | some w => exact ⟨by rw [f.1 3907 i3]; exact hD.1, hD.2.1.f f i4 a4 a6, by rw [f.1 3904 i1]; exact hD.2.2.1, hD.2.2.2.1, Fl_q (fun i _ _ => f.2.1 40 i a0) hD.2.2.2.2⟩
  cases q with
  | none => exact ds none h
  | some Q =>
    obtain ⟨h1, h2, h3, h4, h5⟩ := h
    exact ⟨h1, h2, ds _ h3, by rw [f.1 3905 i2]; exact h4, h5.q (fun j _ _ _ => f.2.1 41 j a1) (fun j _ _ => ⟨f.2.1 42 j a2, f.2.1 43 j a3⟩)⟩
theorem DE.f {I A : List Nat} {σ τ : zS} {E : List Lt} (h : DE σ E) (f : FrC I A σ τ) (i1 : I.elem 3904 = false := by decide) (i2 : I.elem 3905 = false := by decide) (a0 : A.elem 40 = false := by decide) (a1 : A.elem 41 = false := by decide) (a2 : A.elem 42 = false := by decide) (a3 : A.elem 43 = false := by decide) : DE τ E := by
  obtain ⟨h1, h2, h3, h4, h5⟩ := h
  exact ⟨by rw [f.1 3905 i2]; exact h1, h2, by rw [f.1 3904 i1]; exact h3, h4, RS_q h5 (fun j _ _ _ => f.2.1 41 j a1) (fun j _ _ => ⟨f.2.1 42 j a2, f.2.1 43 j a3⟩) (fun j _ _ => f.2.1 40 j a0)⟩
theorem RL.f {I A : List Nat} {σ τ : zS} (h : RL σ) (f : FrC I A σ τ) (ha : rws.all (fun j => !(A.elem j)) = true := by decide) : RL τ := fun j hj => by
  have hm : j ∈ rws := List.elem_iff.mp hj
  have := List.all_eq_true.mp ha j hm
  have hA : A.elem j = false := by simpa using this
  simp only [rws, List.mem_cons, List.not_mem_nil, or_false] at hm
  rw [f.2.2.1 j hA (by omega) (by omega)]
  exact h j hj
theorem KC.f {I A : List Nat} {σ τ : zS} {f : Nat → Int} (h : KC σ f) (g : FrC I A σ τ) (h1 : [5300, 5301, 5302, 5303, 5304, 5305, 5306].all (fun j => !(I.elem j)) = true := by decide) : KC τ f := by
  have e : ∀ j, j ∈ [5300, 5301, 5302, 5303, 5304, 5305, 5306] → τ.1 j = σ.1 j := fun j hj => g.1 j (by have := List.all_eq_true.mp h1 j hj; simpa using this)
  unfold KC at *
  rw [e 5300 (by simp), e 5301 (by simp), e 5302 (by simp), e 5303 (by simp), e 5304 (by simp), e 5305 (by simp), e 5306 (by simp)]
  exact h
/-- a change that leaves CLAUSES, SYMBOLS and counts alone -/
theorem CI.f {ar : Int → Nat} {pd : Int → Prop} {m9 : Int} {I B : List Nat} {σ τ : zS} {A : PA} (h : CI ar pd m9 σ A) (f : FrC I B σ τ) (hN : ∃ N, DN τ N) (hM : MT τ) (hR : RL τ) (h8 : 0 ≤ τ.1 3905 ∧ τ.1 3905 ≤ 8) (k1 : [5300, 5301, 5302, 5303, 5304, 5305, 5306].all (fun j => !(I.elem j)) = true := by decide) (i1 : I.elem 5402 = false := by decide) (i2 : I.elem 4701 = false := by decide) (i3 : I.elem 5101 = false := by decide) (i4 : I.elem 4901 = false := by decide) (a1 : B.elem 48 = false := by decide) (a2 : B.elem 50 = false := by decide) (a3 : B.elem 52 = false := by decide) (a4 : B.elem 7 = false := by decide) (a5 : B.elem 12 = false := by decide) : CI ar pd m9 τ A := by
  obtain ⟨c1, c2, c3, c4, c5, c6, c7, c8, c9, c10, c11, c12⟩ := h
  refine ⟨c1.f f i2 a4 a5 a1, c2, c3.f f i1 i2 i3 i4 a1 a2 a3, c4.f f k1, c5.m f.2.2.2, hR, hM, hN, h8, c10, fun k c hk hs => ?_, c12.f f i4 a3⟩
  have e : ∀ q, τ.2.1 48 q = σ.2.1 48 q := fun q => f.2.1 48 q a1
  have := c11 k c hk hs
  unfold JG at *
  intro i a ha
  rw [e, e]; exact this i a ha
theorem keep_ok {ar : Int → Nat} {pd : Int → Prop} {m9 : Int} {p : Int → Prop} (hp : ∀ c, p c → c < m9) {β : Nat} (hβ : 4 ≤ β) {σ : zS} {A : PA} (hI : CI ar pd m9 σ A) {C : List Lt} (w : WL ar p C) (hQ : DQ σ (qaddL (some []) (toQ C))) {org x y : Int} : ∃ τ, yE tG_Sat_keep β σ [org, x, y] = some (τ, 0) ∧ CI ar pd m9 τ (keepA org x y C A) ∧ IF σ τ ∧ (∀ q, q < σ.1 4701 → 0 ≤ q → τ.2.1 48 q = σ.2.1 48 q) := by
  obtain ⟨c1, c2, c3, c4, c5, c6, c7, c8, c9, c10, c11, c12⟩ := id hI
  have e97 : ∀ ρ : zS, yE tG_Sat_keep_p97 β ρ [org, x, y] = some (ρ, 0) := fun ρ => by rw [yq_Sat_keep_p97, kY_Sat_keep_p97]
  obtain ⟨σ1, hσ1⟩ : ∃ z, z = zI σ 5302 (zwa (σ.1 5302) 1) := ⟨_, rfl⟩
  have f1 : FrC [5302] [] σ σ1 := by rw [hσ1]; exact FrC_I
  have hQ1 := hQ.f f1
  obtain ⟨k0, k1, k2, k3, k4, k5, k6⟩ := c4
  have K1 : KC σ1 (fu A.2 90 (zwa (A.2 90) 1)) := by
    refine ⟨?_, ?_, ?_, ?_, ?_, ?_, ?_⟩
    · rw [f1.i 5300, fu_o]; exact k0
    · rw [f1.i 5301, fu_o]; exact k1
    · rw [hσ1, zI_1, fu_s, k2]
    · rw [f1.i 5303, fu_o]; exact k3
    · rw [f1.i 5304, fu_o]; exact k4
    · rw [f1.i 5305, fu_o]; exact k5
    · rw [f1.i 5306, fu_o]; exact k6
  rw [yq_Sat_keep, kY_Sat_keep, lt_e, ← hσ1]
  obtain ⟨qa, qb⟩ := qall w
  unfold keepA
  by_cases hb : inB C
  · rw [if_pos hb]
    rw [qa hb] at hQ1
    have hby : σ1.1 3907 = 0 := by
      obtain ⟨_, h2, h3, _, _⟩ := hQ1
      obtain ⟨b1, _⟩ := dq_some h2
      rw [b1] at h3; exact h3.1
    have hE := DQ_DE hQ1 w
    have wR := rnL_wf c2 hp w hb.2.2
    obtain ⟨σ2, r1, r2, r3, r4⟩ := creduce_ok (β := β - 1) (by omega) hE wR
    obtain ⟨t1, t2⟩ := rn_twice c2 hp w hb.2.2
    rw [t1] at r3
    rw [t2] at r4
    have hnew := Wc_new c2 hp w hb
    have f2 : FrC [5302, 3904, 3905, 3906] [40, 41, 42, 43, 45] σ σ2 := f1.w.trans r2.w
    have ct := ctaut_ok (β := β - 1) (by omega) r3 hnew.2.2.2.2
    have h8' : 0 ≤ σ2.1 3905 ∧ σ2.1 3905 ≤ 8 := by rw [r3.1]; have := r3.2.1; omega
    have N2 : ∃ N, DN σ2 N := by obtain ⟨N, hN⟩ := c8; exact ⟨N, hN.f f2⟩
    have K2 : KC σ2 (fu A.2 90 (zwa (A.2 90) 1)) := K1.f r2
    have e48 : ∀ q, σ2.2.1 48 q = σ.2.1 48 q := fun q => f2.a 48 q
    -- the CLAUSES are the same
    have same : ∀ (τ : zS) (j : Nat) (z : Int) (f : Nat → Int), (j = 5300 ∨ j = 5306) → τ = zI σ2 j z → KC τ f → CI ar pd m9 τ (A.1, f) ∧ IF σ τ ∧ ∀ q, q < σ.1 4701 → 0 ≤ q → τ.2.1 48 q = σ.2.1 48 q := fun τ j z f hj hτ hK => by
      have g : FrC [5302, 3904, 3905, 3906, 5300, 5306] [40, 41, 42, 43, 45] σ τ := by
        have b1 : FrC [5302, 3904, 3905, 3906, 5300, 5306] [40, 41, 42, 43, 45] σ2 τ := by
          rw [hτ]
          rcases hj with rfl | rfl
          · exact FrC_I
          · exact FrC_I
        exact f2.w.trans b1
      refine ⟨⟨c1.f g, c2, c3.f g, hK, c5.m g.2.2.2, c6.f g, c7.f g, ?_, ?_, c10, fun k c hk hs => ?_, c12.f (A := A) g⟩, g.w, fun q _ _ => g.a 48 q⟩
      · obtain ⟨N, hN⟩ := c8; exact ⟨N, hN.f g⟩
      · rw [hτ]
        rcases hj with rfl | rfl
        · rw [zI_o]; exact h8'
        · rw [zI_o]; exact h8'
      · have := c11 k c hk hs
        unfold JG at *
        intro i a ha
        rw [g.a 48, g.a 48]; exact this i a ha
    rw [if_pos hby, if_pos (by omega), zbd_of r1, if_pos (by omega), zbd_of ct]
    by_cases ht : tautL (rnL [] (ddL [] C))
    · rw [if_pos ht, b2_t ht, if_neg (by decide), lt_e, e97]
      obtain ⟨s1, s2, s3⟩ := same _ 5306 (zwa (σ2.1 5306) 1) (fu (fu A.2 90 (zwa (A.2 90) 1)) 94 (zwa (A.2 94) 1)) (Or.inr rfl) rfl (by
        obtain ⟨q0, q1, q2, q3, q4, q5, q6⟩ := K2
        have q6' : σ2.1 5306 = A.2 94 := by rw [q6, fu_o]
        exact ⟨by rw [zI_o, fu_o]; exact q0, by rw [zI_o, fu_o]; exact q1, by rw [zI_o, fu_o]; exact q2, by rw [zI_o, fu_o]; exact q3, by rw [zI_o, fu_o]; exact q4, by rw [zI_o, fu_o]; exact q5, by rw [zI_1, fu_s, q6']⟩)
      exact ⟨_, rfl, s1, s2, s3⟩
    · rw [if_neg ht, b2_f ht, if_pos rfl]
      have hn := c3.2.1
      have hn2 : σ2.1 5402 = (A.1.length : Int) := by rw [f2.i 5402]; exact hn
      by_cases h2 : A.1.length = 2000
      · rw [if_pos h2, if_pos (by omega), lt_e, e97]
        obtain ⟨s1, s2, s3⟩ := same _ 5300 3 (fu (fu A.2 90 (zwa (A.2 90) 1)) 87 3) (Or.inl rfl) rfl (by
          obtain ⟨q0, q1, q2, q3, q4, q5, q6⟩ := K2
          exact ⟨by rw [zI_1, fu_s], by rw [zI_o, fu_o]; exact q1, by rw [zI_o, fu_o]; exact q2, by rw [zI_o, fu_o]; exact q3, by rw [zI_o, fu_o]; exact q4, by rw [zI_o, fu_o]; exact q5, by rw [zI_o, fu_o]; exact q6⟩)
        exact ⟨_, rfl, s1, s2, s3⟩
      · rw [if_neg h2, if_neg (by omega), if_pos (by omega)]
        have h20 := c3.2.2.2.2.2.2.2
        obtain ⟨τ, a1, a2, a3, a4, a5, a6, a7, a8, _⟩ := add_ok (β := β - 1) (x0 := org) (x1 := x) (x2 := y) (c3.f f2) r3 (fun a ha => (hnew.2.2.2.2 a ha).1) (by rw [r4]; rw [rn_len C w hb.2.2 c2 hp]) (c5.m f2.2.2.2) (c6.f f2) (by omega) (szC_140 c10)
        have g : FrC [5302, 3904, 3905, 3906, 5101, 4701, 5402] [40, 41, 42, 43, 45, 48, 52] σ τ := f2.w.trans a2.w
        have n4 := c3.2.2.1
        have lo48 : ∀ q, q < σ.1 4701 → 0 ≤ q → τ.2.1 48 q = σ.2.1 48 q := fun q q1 q0 => by rw [a6 q (by rw [f2.i 4701]; exact q1) q0, e48]
        refine ⟨τ, by rw [zbd_of a1, e97], ⟨?_, c2, a3, K2.f a2, a4, a5, c7.f g, ?_, by rw [a2.i 3905]; exact h8', fun c hc => ?_, fun k c hk hs => ?_, ⟨fun k k0 k1 => ?_, ?_⟩⟩, g.w, lo48⟩
        · refine ⟨c1.1.q (fun q => g.a 7 q), c1.2.1, fun c a b => by rw [g.a 12]; exact c1.2.2.1 c a b, ?_, ?_, ?_⟩
          · have := a3.2.2.1; omega
          · exact a3.2.2.2.2.1.1
          · have := a3.2.2.2.2.1.2.1; omega
        · obtain ⟨N, hN⟩ := c8; exact ⟨N, hN.f g⟩
        · rcases List.mem_append.mp hc with z | z
          · exact c10 c z
          · simp at z; subst z; exact hnew
        · by_cases hkl : k < A.1.length
          · rw [List.getElem?_append_left hkl] at hk
            have hJ := c11 k c hk hs
            have hpp : pos (A.1 ++ [(rnL [] (ddL [] C), org, x, y, 0, [])]) k = pos A.1 k := by unfold pos; rw [List.take_append_of_le_length (by omega)]
            rw [hpp]
            intro i a ha
            obtain ⟨z1, z2⟩ := hJ i a ha
            have hh := c3.hl hk ha
            obtain ⟨_, _, _, _, _, h6, h7, _⟩ := hh
            have t1 := tw_pos a.2.1
            have t2 := tw_pos a.2.2
            rw [lo48 _ (by omega) (by omega), lo48 _ (by omega) (by omega)]
            exact ⟨z1, z2⟩
          · have hk2 : k = A.1.length := by
              have := (List.getElem?_eq_some_iff.mp hk).1
              simp at this; omega
            subst hk2
            rw [List.getElem?_append_right (Nat.le_refl _)] at hk
            simp at hk
            subst hk
            exact absurd (show (0:Int) = 1 from hs) (by decide)
        · have el : ((A.1 ++ [(rnL [] (ddL [] C), org, x, y, 0, [])] : List CL).length : Int) = (A.1.length : Int) + 1 := by simp
          have k1' : k < (A.1.length : Int) + 1 := by rw [← el]; exact k1
          by_cases e : k = (A.1.length : Int)
          · rw [e]; exact a8
          · rw [a7 _ (by omega) (by omega), f2.a 52]; exact c12.1 k k0 (by omega)
        · have el : ((A.1 ++ [(rnL [] (ddL [] C), org, x, y, 0, [])] : List CL).length : Int) = (A.1.length : Int) + 1 := by simp
          show τ.1 4901 ≤ 60 * ((A.1 ++ [(rnL [] (ddL [] C), org, x, y, 0, [])] : List CL).length : Int)
          have := c12.2
          rw [el, g.i 4901]; omega
  · rw [if_neg hb]
    rw [qb hb] at hQ1
    have hby : σ1.1 3907 = 1 := hQ1.1
    rw [if_neg (by rw [hby]; decide), lt_e]
    have g : FrC [5302, 5303] [] σ (zI σ1 5303 (zwa (σ1.1 5303) 1)) := by
      have b1 : FrC [5302, 5303] [] σ1 (zI σ1 5303 (zwa (σ1.1 5303) 1)) := FrC_I
      exact f1.w.trans b1
    refine ⟨_, rfl, ⟨c1.f g, c2, c3.f g, ?_, c5.m g.2.2.2, c6.f g, c7.f g, ?_, by rw [g.i 3905]; exact c9, c10, fun k c hk hs => ?_, c12.f (A := A) g⟩, g.w, fun q _ _ => g.a 48 q⟩
    · show KC _ (fu (fu A.2 90 (zwa (A.2 90) 1)) 91 (zwa (A.2 91) 1))
      obtain ⟨q0, q1, q2, q3, q4, q5, q6⟩ := K1
      have q3' : σ1.1 5303 = A.2 91 := by rw [q3, fu_o]
      exact ⟨by rw [zI_o, fu_o]; exact q0, by rw [zI_o, fu_o]; exact q1, by rw [zI_o, fu_o]; exact q2, by rw [zI_1, fu_s, q3'], by rw [zI_o, fu_o]; exact q4, by rw [zI_o, fu_o]; exact q5, by rw [zI_o, fu_o]; exact q6⟩
    · obtain ⟨N, hN⟩ := c8; exact ⟨N, hN.f g⟩
    · have := c11 k c hk hs
      unfold JG at *
      intro i a ha
      rw [g.a 48, g.a 48]; exact this i a ha
where
  rn_len : ∀ {ar : Int → Nat} {p : Int → Prop} {m9 : Int} (C : List Lt), WL ar p C → (ntL [] C).length ≤ 6 → 0 ≤ m9 → (∀ c, p c → c < m9) → ((ntL [] (ddL [] C)).length : Int) = ((ntL [] (rnL [] (ddL [] C))).length : Int) := fun {ar p m9} C w h6 h0 hp => by
    rw [(rnL_idem (m9 := m9) h0 hp (WL_dd w) (Wc_new.nt_dd (m9 := m9) w h6)).2]
