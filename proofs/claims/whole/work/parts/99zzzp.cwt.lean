/-! TERMS and LITERALS -/
def exE (θ : Vs) : List Int → List Int
  | [] => []
  | c :: L => (if c < 0 then fl (tt (θ (-1 - c))) else [c]) ++ exE θ L
theorem exE_app (θ : Vs) : ∀ A B : List Int, exE θ (A ++ B) = exE θ A ++ exE θ B
  | [], B => rfl
  | c :: A, B => by
    show _ ++ exE θ (A ++ B) = _ ++ exE θ A ++ exE θ B
    rw [exE_app θ A B, List.append_assoc]
theorem fl_suE {ar : Int → Nat} {p : Int → Prop} {θ : Vs} : ∀ {F : T}, wf ar p F → fl (su θ F) = exE θ (fl F)
  | .leaf _, _ => rfl
  | .branch n k s, w => by
    show cl (sbT θ n (su θ k)).1 :: (fl (sbT θ n (su θ k)).2 ++ fl (su θ s)) = (if cl n < 0 then fl (tt (θ (-1 - cl n))) else [cl n]) ++ exE θ (fl k ++ fl s)
    rw [exE_app, ← fl_suE w.2.2.1, ← fl_suE w.2.2.2]
    unfold sbT
    by_cases h : cl n < 0
    · have k0 : k = nl := len0 (by have := w.1; rw [if_pos h] at this; exact this)
      subst k0
      rw [if_pos h, if_pos h]
      show _ = cl (θ (-1 - cl n)).1 :: (fl (θ (-1 - cl n)).2 ++ []) ++ ([] ++ fl (su θ s))
      simp
    · rw [if_neg h, if_neg h]
      rfl
theorem fl_stE {ar : Int → Nat} {p : Int → Prop} {θ : Vs} {x : Tm} (w : wf ar p (tt x)) : fl (tt (st θ x)) = exE θ (fl (tt x)) := fl_suE (F := tt x) w
theorem CVs.inj {σ : zS} {sn : Int} {F0 : Nat} {fr C : List Int} (h : CVs σ sn F0 fr C) {i j : Nat} {v : Int} (hi : (fr ++ C.reverse)[i]? = some v) (hj : (fr ++ C.reverse)[j]? = some v) : i = j := by
  obtain ⟨_, _, _, g1⟩ := h.at hi
  obtain ⟨_, _, _, g2⟩ := h.at hj
  rcases g1 with ⟨a1, a2, a3⟩ | ⟨a1, a2, a3, _⟩
  · rcases g2 with ⟨b1, b2, b3⟩ | ⟨b1, b2, b3, _⟩
    · omega
    · exact absurd a2 b2
  · rcases g2 with ⟨b1, b2, b3⟩ | ⟨b1, b2, b3, _⟩
    · exact absurd b2 a2
    · omega
theorem eV_at : ∀ {E : VE} {i : Nat} {x : Nat × Tm}, E[i]? = some x → (∀ j y, E[j]? = some y → y.1 = x.1 → j = i) → eV E (x.1 : Int) = x.2
  | [], i, x, h, _ => by cases h
  | y :: E, 0, x, h, _ => by
    cases h
    show (if (y.1 : Int) = (y.1 : Int) then y.2 else _) = _
    rw [if_pos rfl]
  | y :: E, i + 1, x, h, hu => by
    have hne : ¬ (y.1 : Int) = (x.1 : Int) := fun e => by
      have := hu 0 y rfl (by omega)
      omega
    show (if (y.1 : Int) = (x.1 : Int) then y.2 else eV E (x.1 : Int)) = _
    rw [if_neg hne]
    exact eV_at (E := E) h (fun j z hz hz1 => by
      have := hu (j + 1) z hz hz1
      omega)
theorem mem_at {L : List Int} {v : Int} (h : v ∈ L) : ∃ i : Nat, L[i]? = some v := List.getElem?_of_mem h
theorem wt_ok {sn : Int} {F0 : Nat} {fr C : List Int} {E : VE} (hE : E.map (fun x => (x.1 : Int)) = fr ++ C.reverse) (hl : E.length ≤ 100000) {ar : Int → Nat} {p : Int → Prop} {β : Nat} (hβ : 63 ≤ β) {σ : zS} {D : Option (List Int × List Int)} {x : Tm} {q : Int} (hV : CVs σ sn F0 fr C) (hC : CE σ E) (hD : DS σ D) (hA : ArC σ ar p) (hF : Fl (σ.2.1 16) q (fl (tt x))) (hw : wf ar p (tt x)) (h0 : 0 ≤ q) (hq : q + (tw x : Int) ≤ (σ.2.2 16 : Int)) (hL : σ.2.2 16 ≤ 1000000) (hv : ∀ c ∈ fl (tt x), c < 0 → (-1 - c) ∈ fr ++ C.reverse) :
    ∃ τ, yE tC_For_writeTerm β σ [q] = some (τ, 0) ∧ DF σ τ ∧ DS τ (dput D (fl (tt (st (eV E) x)))) := by
  rw [yq_For_writeTerm, kY_For_writeTerm, if_pos (by omega), zbd_of (aft16 hA (by omega) hF hw h0 hq), fl_stE hw]
  have hlen : (fl (tt x)).length = tw x := by rw [fl_length]; simp only [tt, wt, tw]; omega
  have e86 : ∀ (ρ : zS) (a b c : Int), yE tC_For_writeTerm_p86 β ρ [a, b, c] = some (ρ, 0) := fun ρ a b c => by rw [yq_For_writeTerm_p86, kY_For_writeTerm_p86]
  have loop : ∀ (L : List Int) (ρ : zS) (D : Option (List Int × List Int)) (i : Int), i + (L.length : Int) = q + (tw x : Int) → q ≤ i → Fl (ρ.2.1 16) i L → (∀ c ∈ L, c < 0 → (-1 - c) ∈ fr ++ C.reverse) → DF σ ρ → DS ρ D → ∃ τ, yE tC_For_writeTerm_p19 β ρ [q, q + (tw x : Int), i] = some (τ, 0) ∧ DF ρ τ ∧ DS τ (dput D (exE (eV E) L)) := by
    intro L
    induction L with
    | nil =>
      intro ρ D i hi hqi hF2 hv2 f hD2
      refine ⟨ρ, ?_, FrC.refl, by rw [show exE (eV E) [] = [] from rfl, dput_nil hD2.b]; exact hD2⟩
      simp only [List.length_nil] at hi
      rw [yq_For_writeTerm_p19, kY_For_writeTerm_p19, if_pos (by omega), e86]
    | cons c L ih =>
      intro ρ D i hi hqi hF2 hv2 f hD2
      simp only [List.length_cons] at hi
      have hc : ρ.2.1 16 i = c := hF2.1
      have hl16 : ρ.2.2 16 = σ.2.2 16 := f.l 16
      rw [yq_For_writeTerm_p19, kY_For_writeTerm_p19, if_neg (by omega)]
      by_cases cb : ρ.1 3907 = 0
      · rw [if_pos cb, if_pos ⟨by omega, by rw [hl16]; omega⟩, hc]
        have step : ∀ ρ2 : zS, DF ρ ρ2 → DS ρ2 (dput D (if c < 0 then fl (tt (eV E (-1 - c))) else [c])) → ∃ τ, yE tC_For_writeTerm_p80 β ρ2 [q, q + (tw x : Int), i] = some (τ, 0) ∧ DF ρ τ ∧ DS τ (dput D (exE (eV E) (c :: L))) := fun ρ2 f2 hD3 => by
          obtain ⟨τ, t1, t2, t3⟩ := ih ρ2 _ (i + 1) (by omega) (by omega) (Fl_q (fun j _ _ => f2.a 16 j) hF2.2) (fun c hc => hv2 c (by simp [hc])) (f.trans f2) hD3
          refine ⟨τ, ?_, f2.trans t2, ?_⟩
          · rw [yq_For_writeTerm_p80, kY_For_writeTerm_p80, if_pos ⟨by omega, by omega⟩]; exact t1
          · show DS τ (dput D (_ ++ exE (eV E) L))
            rw [dput_app]; exact t3
        by_cases c0 : 0 ≤ c
        · obtain ⟨ρ2, u1, u2, u3⟩ := put_ok (β := β - 1) (c := c) hD2 c0
          rw [if_pos c0, if_pos (by omega), zbd_of u1]
          exact step ρ2 u2 (by rw [if_neg (by omega)]; exact u3)
        · obtain ⟨k, hk⟩ := mem_at (hv2 c (by simp) (by omega))
          have hkE := hk
          rw [← hE, List.getElem?_map] at hkE
          cases hy : E[k]? with
          | none => rw [hy] at hkE; cases hkE
          | some y =>
            rw [hy] at hkE
            have hy1 : (y.1 : Int) = -1 - c := by simpa using hkE
            obtain ⟨ρ2, u1, u2, u3⟩ := wv0_ok hE hl hy (β := β - 1) (by omega) (hV.f f) (hC.f f) hD2
            rw [hy1] at u1
            rw [if_neg c0, if_pos (by omega), zbd_of u1]
            refine step ρ2 u2 ?_
            have e2 : eV E (-1 - c) = y.2 := by
              rw [← hy1]
              refine eV_at hy (fun j z hz hz1 => ?_)
              have hz2 : (fr ++ C.reverse)[j]? = some (-1 - c) := by
                rw [← hE, List.getElem?_map, hz, ← hy1, ← hz1]; rfl
              exact hV.inj hz2 hk
            rw [if_pos (by omega), e2]; exact u3
      · rw [if_neg cb, e86]
        have hn := hD2.no cb
        subst hn
        exact ⟨ρ, rfl, FrC.refl, hD2⟩
  exact loop (fl (tt x)) σ D q (by rw [hlen]) (Int.le_refl _) hF hv FrC.refl hD
/-- where the LITERALS go -/
abbrev DGw (σ τ : zS) : Prop := FrC [3904, 3905, 3907, 3911] [40, 41, 42, 43, 44, 46] σ τ
theorem wl_ok {sn : Int} {F0 : Nat} {fr C : List Int} {E : VE} (hE : E.map (fun x => (x.1 : Int)) = fr ++ C.reverse) (hl : E.length ≤ 100000) {ar : Int → Nat} {p : Int → Prop} {β : Nat} (hβ : 64 ≤ β) {σ : zS} {Q : Option (List QL)} {x y : Tm} {s q r : Int} (hs : s = 0 ∨ s = 1) (hV : CVs σ sn F0 fr C) (hC : CE σ E) (hQ : DQ σ Q) (h5 : 0 ≤ σ.1 3905 ∧ σ.1 3905 ≤ 8) (hA : ArC σ ar p) (hF : Fl (σ.2.1 16) q (fl (tt x))) (hw : wf ar p (tt x)) (h0 : 0 ≤ q) (hq : q + (tw x : Int) ≤ (σ.2.2 16 : Int)) (hL : σ.2.2 16 ≤ 1000000) (hv : ∀ c ∈ fl (tt x), c < 0 → (-1 - c) ∈ fr ++ C.reverse)
    (hr : (r = -1 ∧ y = (0, nl)) ∨ (0 ≤ r ∧ Fl (σ.2.1 16) r (fl (tt y)) ∧ wf ar p (tt y) ∧ r + (tw y : Int) ≤ (σ.2.2 16 : Int) ∧ ∀ c ∈ fl (tt y), c < 0 → (-1 - c) ∈ fr ++ C.reverse)) :
    ∃ τ, yE tC_For_writeLiteral β σ [s, q, r] = some (τ, 0) ∧ DGw σ τ ∧ DQ τ (qadd Q (s, fl (tt (st (eV E) x)), fl (tt (st (eV E) y)))) ∧ 0 ≤ τ.1 3905 ∧ τ.1 3905 ≤ 8 := by
  obtain ⟨σ1, a1, a2, a3⟩ := open_ok (β := β - 1) hQ hs h5
  have g1 : DGw σ σ1 := a2.w
  obtain ⟨D1, b1, b2⟩ := a3.w
  obtain ⟨σ2, c1, c2, c3⟩ := wt_ok hE hl (β := β - 1) (by omega) (hV.f a2) (hC.f a2) b1 (fun c hp hc => by rw [a2.a 7]; exact hA c hp hc) (Fl_q (fun j _ _ => a2.a 16 j) hF) hw h0 (by rw [a2.l 16]; exact hq) (by rw [a2.l 16]; exact hL) hv
  have d1 := b2 σ2 _ c2 c3
  rw [List.nil_append] at d1
  obtain ⟨σ3, d2, d3, d4⟩ := right_ok (β := β - 1) d1
  have g2 : DGw σ1 σ2 := c2.w
  have g3 : DGw σ2 σ3 := d3.w
  have g13 : DGw σ σ3 := (g1.trans g2).trans g3
  have i3 : σ3.1 3905 = σ.1 3905 := by rw [d3.i 3905, c2.i 3905, a2.i 3905]
  obtain ⟨D2, f1, f2⟩ := d4.w
  have fin : ∀ (σ4 : zS), DF σ3 σ4 → DS σ4 (dput D2 (fl (tt (st (eV E) y)))) → ∃ τ, yE tC_For_writeLiteral_p36 β σ4 [s, q, r] = some (τ, 0) ∧ DGw σ τ ∧ DQ τ (qadd Q (s, fl (tt (st (eV E) x)), fl (tt (st (eV E) y)))) ∧ 0 ≤ τ.1 3905 ∧ τ.1 3905 ≤ 8 := fun σ4 f4 hD4 => by
    have k1 := f2 σ4 _ f4 hD4
    rw [List.nil_append] at k1
    obtain ⟨σ5, k2, k3, k4, k5⟩ := close_ok (β := β - 1) k1
    have i4 : σ4.1 3905 = σ.1 3905 := by rw [f4.i 3905, i3]
    have g4 : DGw σ3 σ4 := f4.w
    have g5 : DGw σ4 σ5 := k3.w
    refine ⟨σ5, ?_, (g13.trans g4).trans g5, k4, ?_, ?_⟩
    · rw [yq_For_writeLiteral_p36, kY_For_writeLiteral_p36, if_pos (by omega), zbd_of k2]
    · rcases k5 with k5 | k5 <;> omega
    · rcases k5 with k5 | k5 <;> omega
  rw [yq_For_writeLiteral, kY_For_writeLiteral, if_pos (by omega), zbd_of a1, if_pos (by omega), zbd_of c1, if_pos (by omega), zbd_of d2]
  rcases hr with ⟨r1, r2⟩ | ⟨r1, r2, r3, r4, r5⟩
  · obtain ⟨σ4, u1, u2, u3⟩ := put_ok (β := β - 1) (c := 0) f1 (Int.le_refl _)
    rw [if_pos r1, if_pos (by omega), zbd_of u1]
    refine fin σ4 u2 ?_
    have e0 : fl (tt (st (eV E) (0, nl))) = [0] := by
      have e1 : st (eV E) (0, nl) = (0, nl) := by
        show sbT (eV E) 0 nl = _
        unfold sbT
        rw [if_neg (by decide)]
      rw [e1]
      rfl
    rw [r2, e0]
    exact u3
  · obtain ⟨σ4, u1, u2, u3⟩ := wt_ok hE hl (β := β - 1) (by omega) (hV.f g13) (hC.f g13) f1 (fun c hp hc => by rw [g13.a 7]; exact hA c hp hc) (Fl_q (fun j _ _ => g13.a 16 j) r2) r3 r1 (by rw [g13.l 16]; exact r4) (by rw [g13.l 16]; exact hL) r5
    rw [if_neg (by omega), if_pos (by omega), zbd_of u1]
    exact fin σ4 u2 u3
