/-! the reference: a CONCLUSION -/
theorem RI.f {ar : Int → Nat} {pd : Int → Prop} {m9 : Int} {I B : List Nat} {σ τ : zS} {A : PA} (h : RI ar pd m9 σ A) (f : FrC I B σ τ) (p : PB σ τ) (i1 : I.elem 84 = false := by decide) (i2 : I.elem 72 = false := by decide) (i3 : I.elem 105 = false := by decide) (i4 : I.elem 86 = false := by decide) (b1 : B.elem 66 = false := by decide) (b2 : B.elem 67 = false := by decide) (b3 : B.elem 68 = false := by decide) (b4 : B.elem 70 = false := by decide) (b5 : [73, 74, 75, 76, 77, 78, 79, 80, 81, 82, 83].all (fun j => !(B.elem j)) = true := by decide) (b6 : B.elem 69 = false := by decide) (b7 : B.elem 71 = false := by decide) (b8 : B.elem 49 = false := by decide) (b9 : [87, 89, 90, 91, 92, 93, 94].all (fun j => !(I.elem j)) = true := by decide) : RI ar pd m9 τ A :=
  ⟨h.1.f f p i1 i2 i3 i4 b1 b2 b3 b4 b5, h.2.1.f f b6 b7 b1 b2 i3, h.2.2.1.f f b8, h.2.2.2.1.f f b9, h.2.2.2.2⟩
theorem RI.u {ar : Int → Nat} {pd : Int → Prop} {m9 : Int} {σ : zS} {A : PA} {j : Nat} {x : Int} (h : RI ar pd m9 σ A) (i1 : [j].elem 84 = false := by decide) (i2 : [j].elem 72 = false := by decide) (i3 : [j].elem 105 = false := by decide) (i4 : [j].elem 86 = false := by decide) : RI ar pd m9 (zI σ j x) (A.1, fu A.2 j x) := by
  have f : FrC [j] [] σ (zI σ j x) := FrC_I (hk := by simp)
  exact ⟨h.1.f f f.pq i1 i2 i3 i4, h.2.1.f f (i1 := i3), h.2.2.1.f f, h.2.2.2.1.u, h.2.2.2.2⟩
/-- one more new LITERAL -/
theorem add_q {ar : Int → Nat} {p : Int → Prop} {β : Nat} {σ : zS} {E : List En} {a : Lt} {x y : Int} (h : RQ ar p σ E) (hl : E.length < 8) (hx : Px σ a.2.1 x) (hy : Px σ a.2.2 y) (wa : (a.1 = 0 ∨ a.1 = 1) ∧ wf ar p (tt a.2.1) ∧ wf ar p (tt a.2.2)) (x0 : 205000 ≤ x) (hxy : x + (tw a.2.1 : Int) ≤ y) (hb : ∀ f ∈ E, f.2.1 + 1 + (wt f.1.2.1.2 : Int) ≤ x ∧ f.2.2 + 1 + (wt f.1.2.2.2 : Int) ≤ x) (hw : wtL (lts E) + lwt a ≤ 100) : ∃ τ, zE tM_add β σ [x, y, a.1] = some (τ, 0) ∧ FrC [98] [95, 96, 97] σ τ ∧ RQ ar p τ (E ++ [(a, x, y)]) := by
  obtain ⟨h1, h2, h3, h4, h5⟩ := id h
  have e1 : tw a.2.1 = 1 + wt a.2.1.2 := rfl
  have e2 : tw a.2.2 = 1 + wt a.2.2.2 := rfl
  obtain ⟨τ, hτ⟩ : ∃ z, z = zA (zI (zA (zA σ 95 (E.length : Int) x) 96 (E.length : Int) y) 98 ((E.length : Int) + 1)) 97 (E.length : Int) a.1 := ⟨_, rfl⟩
  have f : FrC [98] [95, 96, 97] σ τ := by
    have b1 : FrC [98] [95, 96, 97] σ (zA σ 95 (E.length : Int) x) := FrC_A
    have b2 : FrC [98] [95, 96, 97] (zA σ 95 (E.length : Int) x) (zA (zA σ 95 (E.length : Int) x) 96 (E.length : Int) y) := FrC_A
    have b3 : FrC [98] [95, 96, 97] (zA (zA σ 95 (E.length : Int) x) 96 (E.length : Int) y) (zI (zA (zA σ 95 (E.length : Int) x) 96 (E.length : Int) y) 98 ((E.length : Int) + 1)) := FrC_I
    rw [hτ]
    exact ((b1.trans b2).trans b3).trans FrC_A
  refine ⟨τ, ?_, f, ?_, by simp; omega, fun i e he => ?_, Dj_add (X := x) (e := (a, x, y)) (Int.le_refl _) (by show x ≤ y; omega) (Or.inl (by show x + 1 + (wt a.2.1.2 : Int) ≤ y; omega)) h4 hb, ?_⟩
  · rw [zq_add, kZ_add, h1, if_pos (by omega), lt_e, zA_1, h1, if_pos (by omega), lt_e, zA_1, zA_1, h1, if_pos (by omega), lt_e, if_pos (by omega), if_pos wa.1, lt_e, ← hτ]
  · rw [hτ, zA_1, zI_1]; simp
  · by_cases hi : i < E.length
    · rw [List.getElem?_append_left hi] at he
      obtain ⟨⟨r1, r2, r3⟩, ⟨r4, r5⟩, r6⟩ := h3 i e he
      have hq : (i : Int) ≠ (E.length : Int) := by omega
      have o : ∀ j, τ.2.1 j (i : Int) = σ.2.1 j (i : Int) := fun j => by rw [hτ, zA_i hq, zI_2, zA_i hq, zA_i hq]
      exact ⟨⟨by rw [o]; exact r1, by rw [o]; exact r2, by rw [o]; exact r3⟩, ⟨Px_q r4 f.pq, Px_q r5 f.pq⟩, r6⟩
    · have hi2 : i = E.length := by
        have := (List.getElem?_eq_some_iff.mp he).1
        simp at this; omega
      subst hi2
      rw [List.getElem?_append_right (Nat.le_refl _), Nat.sub_self] at he
      obtain rfl := Option.some.inj he
      refine ⟨⟨?_, ?_, ?_⟩, ⟨Px_q hx f.pq, Px_q hy f.pq⟩, wa, x0, by show 205000 ≤ y; omega⟩
      · rw [hτ, zA_j, zI_2, zA_j, zA_s]
      · rw [hτ, zA_j, zI_2, zA_s]
      · rw [hτ, zA_s]
  · have : lts (E ++ [(a, x, y)]) = lts E ++ [a] := by simp [lts]
    rw [this, wtL_app]
    simp only [wtL]
    have : lwt a = tw a.2.1 + tw a.2.2 := rfl
    omega
theorem RQ.f {ar : Int → Nat} {p : Int → Prop} {I A : List Nat} {σ τ : zS} {E : List En} (h : RQ ar p σ E) (f : FrC I A σ τ) (q : ∀ e ∈ E, Pq σ τ e.2.1 (e.2.1 + 1 + (wt e.1.2.1.2 : Int)) ∧ Pq σ τ e.2.2 (e.2.2 + 1 + (wt e.1.2.2.2 : Int))) (i1 : I.elem 98 = false := by decide) (a1 : A.elem 95 = false := by decide) (a2 : A.elem 96 = false := by decide) (a3 : A.elem 97 = false := by decide) : RQ ar p τ E := by
  obtain ⟨q1, q2, q3, q4, q5⟩ := h
  refine ⟨by rw [f.1 98 i1]; exact q1, q2, fun i d hd => ?_, q4, q5⟩
  obtain ⟨⟨r1, r2, r3⟩, ⟨r4, r5⟩, r6⟩ := q3 i d hd
  obtain ⟨s1, s2⟩ := q d (List.mem_of_getElem? hd)
  exact ⟨⟨by rw [f.2.1 95 _ a1]; exact r1, by rw [f.2.1 96 _ a2]; exact r2, by rw [f.2.1 97 _ a3]; exact r3⟩, ⟨Px_q r4 s1, Px_q r5 s2⟩, r6⟩
def cX (r : Tm) (P : Int) (e : Pe) (t : Int) (x : Tm) : Tm := rpX r (if e.2 = 6 then P else -1) t (shT e.2 x)
def c1 (r : Tm) (P : Int) (e : Pe) : Lt := (e.1.1.1, cX r P e e.1.2.1 e.1.1.2.1, cX r P e e.1.2.2 e.1.1.2.2)
def cR (r : Tm) (P : Int) (L : List Pe) : List Lt := L.map (c1 r P)
noncomputable def cSm (θ : Vs) (r : Tm) (P : Int) : List Pe → Nat
  | [] => 0
  | e :: R => mn (tw (st θ (c1 r P e).2.1)) + mn (tw (st θ (c1 r P e).2.2)) + cSm θ r P R
theorem cSm_le {θ : Vs} {r : Tm} {P : Int} : ∀ L : List Pe, cSm θ r P L ≤ wtL (mpL (st θ) (cR r P L)) ∧ (cSm θ r P L ≤ 100 → cSm θ r P L = wtL (mpL (st θ) (cR r P L))) ∧ cSm θ r P L ≤ 2000 * L.length
  | [] => ⟨Nat.le_refl _, fun _ => rfl, Nat.le_refl _⟩
  | e :: R => by
    obtain ⟨h1, h2, h3⟩ := cSm_le (θ := θ) (r := r) (P := P) R
    have m1 := mn_le (tw (st θ (c1 r P e).2.1))
    have m2 := mn_le (tw (st θ (c1 r P e).2.2))
    have e1 : wtL (mpL (st θ) (cR r P (e :: R))) = tw (st θ (c1 r P e).2.1) + tw (st θ (c1 r P e).2.2) + wtL (mpL (st θ) (cR r P R)) := rfl
    have e2 : cSm θ r P (e :: R) = mn (tw (st θ (c1 r P e).2.1)) + mn (tw (st θ (c1 r P e).2.2)) + cSm θ r P R := rfl
    have u : ∀ a, mn a ≤ 100 → mn a = a := fun a h => by
      unfold mn at *
      by_cases q : a < 1000
      · rw [if_pos q]
      · rw [if_neg q] at h; omega
    rw [e1, e2, List.length_cons]
    refine ⟨by omega, fun h => ?_, by omega⟩
    have := u _ (show mn (tw (st θ (c1 r P e).2.1)) ≤ 100 by omega)
    have := u _ (show mn (tw (st θ (c1 r P e).2.2)) ≤ 100 by omega)
    have := h2 (by omega)
    omega
section conc
variable {ar : Int → Nat} {pd : Int → Prop} {m9 : Int} {B : Ev} {r : Tm}
theorem cw_36 {β : Nat} (hβ : 1541 ≤ β) {σ : zS} {L : List Pe} (hB : EB ar pd m9 σ B) (hL : PL ar m9 σ L) (hI : 0 ≤ σ.1 113 → AT ar m9 σ (σ.1 114) 0 r) {x0 x1 x2 : Int} : ∀ (R D : List Pe) (s : Nat), L = D ++ R → s ≤ 2000 * D.length → zE tM_conclude_36 β σ [x0, x1, x2, (s : Int), (D.length : Int)] = zE tM_conclude_36 β σ [x0, x1, x2, ((s + cSm (rs B) r (σ.1 113) R : Nat) : Int), (L.length : Int)]
  | [], D, s, hD, hs => by
    rw [List.append_nil] at hD
    rw [hD]; rfl
  | e :: R, D, s, hD, hs => by
    have he : L[D.length]? = some e := by rw [hD, List.getElem?_append_right (Nat.le_refl _), Nat.sub_self]; rfl
    have hD' : L = (D ++ [e]) ++ R := by rw [hD]; simp
    have hl : L.length = D.length + (R.length + 1) := by rw [hD]; simp
    have l16 := hL.2.1
    have hE := hL.2.2 D.length e he
    obtain ⟨⟨s1, s2, s3, s4⟩, _, A1, A2⟩ := id hE
    have hp := pi_ok (β := β - 1) hE (by omega)
    have hI' : 0 ≤ (if e.2 = 6 then σ.1 113 else -1) → AT ar m9 σ (σ.1 114) 0 r := fun h => by
      by_cases q : e.2 = 6
      · rw [if_pos q] at h; exact hI h
      · rw [if_neg q] at h; omega
    have w1 := wgX (β := β - 1) (by omega) hB hI' A1
    have w2 := wgX (β := β - 1) (by omega) hB hI' A2
    have m1 := mn_le (tw (st (rs B) (c1 r (σ.1 113) e).2.1))
    have m2 := mn_le (tw (st (rs B) (c1 r (σ.1 113) e).2.2))
    have w1' : zE tM_weigh (β - 1) σ [e.1.2.1, e.2, (if e.2 = 6 then σ.1 113 else -1), σ.1 114, 0] = some (σ, (mn (tw (st (rs B) (c1 r (σ.1 113) e).2.1)) : Int)) := w1
    have w2' : zE tM_weigh (β - 1) σ [e.1.2.2, e.2, (if e.2 = 6 then σ.1 113 else -1), σ.1 114, 0] = some (σ, (mn (tw (st (rs B) (c1 r (σ.1 113) e).2.2)) : Int)) := w2
    have ih := cw_36 hβ hB hL hI (x0 := x0) (x1 := x1) (x2 := x2) R (D ++ [e]) (s + mn (tw (st (rs B) (c1 r (σ.1 113) e).2.1)) + mn (tw (st (rs B) (c1 r (σ.1 113) e).2.2))) hD' (by simp; omega)
    rw [zq_conclude_36, kZ_conclude_36, hL.1, if_neg (by omega), if_pos (by omega), if_pos (by omega), zbd_of hp, if_pos (by omega), s1, s3, zbd_of w1', if_pos (by omega), zbd_of hp, if_pos (by omega), s2, s3, zbd_of w2', if_pos (by omega), if_pos (by omega), if_pos (by omega)]
    have el : ((D ++ [e]).length : Int) = (D.length : Int) + 1 := by simp
    rw [el] at ih
    have es : ((s + mn (tw (st (rs B) (c1 r (σ.1 113) e).2.1)) + mn (tw (st (rs B) (c1 r (σ.1 113) e).2.2)) : Nat) : Int) = (s : Int) + ((mn (tw (st (rs B) (c1 r (σ.1 113) e).2.1)) : Int) + (mn (tw (st (rs B) (c1 r (σ.1 113) e).2.2)) : Int)) := by omega
    rw [es] at ih
    rw [ih]
    have ec : s + mn (tw (st (rs B) (c1 r (σ.1 113) e).2.1)) + mn (tw (st (rs B) (c1 r (σ.1 113) e).2.2)) + cSm (rs B) r (σ.1 113) R = s + cSm (rs B) r (σ.1 113) (e :: R) := by
      have : cSm (rs B) r (σ.1 113) (e :: R) = mn (tw (st (rs B) (c1 r (σ.1 113) e).2.1)) + mn (tw (st (rs B) (c1 r (σ.1 113) e).2.2)) + cSm (rs B) r (σ.1 113) R := rfl
      omega
    rw [ec]
/-- as far as the new LITERALS E are made -/
def CB (ar : Int → Nat) (m9 : Int) (σ ρ : zS) (E : List En) : Prop := FrC [47, 98] [43, 44, 45, 46, 95, 96, 97] σ ρ ∧ PB σ ρ ∧ RQ ar (fun c => c < m9) ρ E ∧ ρ.1 47 = 205000 + (wtL (lts E) : Int) ∧ ∀ f ∈ E, f.2.1 + 1 + (wt f.1.2.1.2 : Int) ≤ ρ.1 47 ∧ f.2.2 + 1 + (wt f.1.2.2.2 : Int) ≤ ρ.1 47
theorem cb_148 {β : Nat} (hβ : 1541 ≤ β) {σ : zS} {L : List Pe} (hB : EB ar pd m9 σ B) (hL : PL ar m9 σ L) (hI : 0 ≤ σ.1 113 → AT ar m9 σ (σ.1 114) 0 r) (l8 : L.length ≤ 8) (wM : WL ar (fun c => c < m9) (mpL (st (rs B)) (cR r (σ.1 113) L))) (w100 : wtL (mpL (st (rs B)) (cR r (σ.1 113) L)) ≤ 100) {x0 x1 x2 x3 : Int} : ∀ (R D : List Pe) (E : List En) (ρ : zS), L = D ++ R → lts E = mpL (st (rs B)) (cR r (σ.1 113) D) → CB ar m9 σ ρ E → ∃ (τ : zS) (E' : List En), zE tM_conclude_148 β ρ [x0, x1, x2, x3, (D.length : Int)] = zE tM_conclude_148 β τ [x0, x1, x2, x3, (L.length : Int)] ∧ lts E' = mpL (st (rs B)) (cR r (σ.1 113) L) ∧ CB ar m9 σ τ E'
  | [], D, E, ρ, hD, hE, hC => by
    rw [List.append_nil] at hD
    rw [hD]
    exact ⟨ρ, E, rfl, hE, hC⟩
  | e :: R, D, E, ρ, hD, hE, hC => by
    have he : L[D.length]? = some e := by rw [hD, List.getElem?_append_right (Nat.le_refl _), Nat.sub_self]; rfl
    have hD' : L = (D ++ [e]) ++ R := by rw [hD]; simp
    have hl : L.length = D.length + (R.length + 1) := by rw [hD]; simp
    have El : E.length = D.length := by
      have := congrArg List.length hE
      simp [lts, mpL, cR] at this; exact this
    obtain ⟨f, pb, hQ, h47, hends⟩ := id hC
    have hLr : PL ar m9 ρ L := hL.f f pb
    have lo : Lo σ ρ := ⟨pb, fun v => ⟨f.a 106 v, f.a 107 v⟩⟩
    have hBr := hB.lo lo
    have i113 : ρ.1 113 = σ.1 113 := f.i 113
    have i114 : ρ.1 114 = σ.1 114 := f.i 114
    have hEi := hLr.2.2 D.length e he
    obtain ⟨⟨s1, s2, s3, s4⟩, s5, A1, A2⟩ := id hEi
    have hp := pi_ok (β := β - 1) hEi (by omega)
    rw [i113] at hp
    have hI' : 0 ≤ (if e.2 = 6 then σ.1 113 else -1) → AT ar m9 ρ (σ.1 114) 0 r := fun h => by
      by_cases q : e.2 = 6
      · rw [if_pos q] at h; exact (hI h).p pb
      · rw [if_neg q] at h; omega
    -- weights
    obtain ⟨y1, hy1⟩ : ∃ y, y = st (rs B) (c1 r (σ.1 113) e).2.1 := ⟨_, rfl⟩
    obtain ⟨y2, hy2⟩ : ∃ y, y = st (rs B) (c1 r (σ.1 113) e).2.2 := ⟨_, rfl⟩
    have eM : mpL (st (rs B)) (cR r (σ.1 113) L) = lts E ++ (e.1.1.1, y1, y2) :: mpL (st (rs B)) (cR r (σ.1 113) R) := by
      rw [hD, hE, hy1, hy2]; simp [mpL, cR, c1]
    have ew : wtL (mpL (st (rs B)) (cR r (σ.1 113) L)) = wtL (lts E) + (tw y1 + tw y2 + wtL (mpL (st (rs B)) (cR r (σ.1 113) R))) := by rw [eM, wtL_app]; rfl
    obtain ⟨wf0, wf1, wf2⟩ := wM (e.1.1.1, y1, y2) (by rw [eM]; simp)
    dsimp only at wf0 wf1 wf2
    have e1 : tw y1 = 1 + wt y1.2 := rfl
    have e2 : tw y2 = 1 + wt y2.2 := rfl
    obtain ⟨ρ1, a1, G1, P1, _⟩ := wtX (β := β - 1) (B := B) (by omega) hBr hI' A1 (by omega) (by
      have : st (rs B) (rpX r (if e.2 = 6 then σ.1 113 else -1) e.1.2.1 (shT e.2 e.1.1.2.1)) = y1 := hy1.symm
      rw [this]; omega)
    have a1' : zE tM_with (β - 1) ρ [e.1.2.1, e.2, (if e.2 = 6 then σ.1 113 else -1), σ.1 114, 0] = some (ρ1, ρ.1 47) := a1
    have ey1 : st (rs B) (rpX r (if e.2 = 6 then σ.1 113 else -1) e.1.2.1 (shT e.2 e.1.1.2.1)) = y1 := hy1.symm
    rw [ey1] at G1 P1
    have lo1 := G1.lo (by omega)
    have g47 : ρ1.1 47 = ρ.1 47 + (tw y1 : Int) := G1.1
    have f1 : FrC [47, 98] [43, 44, 45, 46, 95, 96, 97] ρ ρ1 := G1.f.w
    have hE1 : PLi ar m9 ρ1 (D.length : Int) e := hEi.f (fun j hj => G1.2.2.2 j _ (Or.inr (by omega))) lo1.1
    have hp1 := pi_ok (β := β - 1) hE1 (by omega)
    rw [f1.i 113, i113] at hp1
    obtain ⟨ρ2, a2, G2, P2, _⟩ := wtX (β := β - 1) (B := B) (by omega) (hBr.lo lo1) (fun h => (hI' h).lo lo1) (A2.lo lo1) (by omega) (by
      have : st (rs B) (rpX r (if e.2 = 6 then σ.1 113 else -1) e.1.2.2 (shT e.2 e.1.1.2.2)) = y2 := hy2.symm
      rw [this]; omega)
    have a2' : zE tM_with (β - 1) ρ1 [e.1.2.2, e.2, (if e.2 = 6 then σ.1 113 else -1), σ.1 114, 0] = some (ρ2, ρ1.1 47) := a2
    have ey2 : st (rs B) (rpX r (if e.2 = 6 then σ.1 113 else -1) e.1.2.2 (shT e.2 e.1.1.2.2)) = y2 := hy2.symm
    rw [ey2] at G2 P2
    have lo2 := G2.lo (by omega)
    have g47b : ρ2.1 47 = ρ1.1 47 + (tw y2 : Int) := G2.1
    have f2 : FrC [47, 98] [43, 44, 45, 46, 95, 96, 97] ρ1 ρ2 := G2.f.w
    have G12 := G1.trans G2
    have f12 : FrC [47] [43, 44, 45, 46] ρ ρ2 := G12.f
    have hQ2 : RQ ar (fun c => c < m9) ρ2 E := hQ.f f12 (fun d hd => by
      obtain ⟨z1, z2⟩ := hends d hd
      exact ⟨G12.pq z1, G12.pq z2⟩)
    have pq2 : Pq ρ1 ρ2 0 (ρ1.1 47) := G2.pq (Int.le_refl _)
    have X1 : Px ρ2 y1 (ρ.1 47) := ⟨Pt_hi pq2 P1 (by omega), by omega⟩
    have X2 : Px ρ2 y2 (ρ1.1 47) := ⟨P2, by omega⟩
    obtain ⟨ρ3, b1, b2, b3⟩ := add_q (β := β - 1) (a := (e.1.1.1, y1, y2)) hQ2 (by omega) X1 X2 ⟨s5, wf1, wf2⟩ (by omega) (by show ρ.1 47 + (tw y1 : Int) ≤ ρ1.1 47; omega) hends (by show wtL (lts E) + (tw y1 + tw y2) ≤ 100; omega)
    have b1' : zE tM_add (β - 1) ρ2 [ρ.1 47, ρ1.1 47, e.1.1.1] = some (ρ3, 0) := b1
    have el : lts (E ++ [((e.1.1.1, y1, y2), ρ.1 47, ρ1.1 47)]) = lts E ++ [(e.1.1.1, y1, y2)] := by simp [lts]
    have i3 : ρ3.1 47 = ρ2.1 47 := b2.i 47
    have f3 : FrC [47, 98] [43, 44, 45, 46, 95, 96, 97] ρ2 ρ3 := b2.w
    have C3 : CB ar m9 σ ρ3 (E ++ [((e.1.1.1, y1, y2), ρ.1 47, ρ1.1 47)]) := by
      refine ⟨((f.trans f1).trans f2).trans f3, ((pb.trans lo1.1).trans lo2.1).trans b2.pq, b3, ?_, fun d hd => ?_⟩
      · rw [el, wtL_app, i3, g47b, g47, h47]
        have : wtL [(e.1.1.1, y1, y2)] = tw y1 + tw y2 + 0 := rfl
        rw [this]; omega
      · rcases List.mem_append.mp hd with z | z
        · obtain ⟨z1, z2⟩ := hends d z
          exact ⟨by omega, by omega⟩
        · simp only [List.mem_singleton] at z
          subst z
          refine ⟨?_, ?_⟩
          · show ρ.1 47 + 1 + (wt y1.2 : Int) ≤ ρ3.1 47
            omega
          · show ρ1.1 47 + 1 + (wt y2.2 : Int) ≤ ρ3.1 47
            omega
    obtain ⟨τ, E', t1, t2, t3⟩ := cb_148 hβ hB hL hI l8 wM w100 (x0 := x0) (x1 := x1) (x2 := x2) (x3 := x3) R (D ++ [e]) _ ρ3 hD' (by rw [el, hE, hy1, hy2]; simp [mpL, cR, c1]) C3
    refine ⟨τ, E', ?_, t2, t3⟩
    have elD : ((D ++ [e]).length : Int) = (D.length : Int) + 1 := by simp
    rw [elD] at t1
    rw [← t1, zq_conclude_148, kZ_conclude_148, hLr.1, if_neg (by omega), if_pos (by omega), if_pos (by omega), zbd_of hp, if_pos (by omega), s1, s3, i114, zbd_of a1', if_pos (by omega), zbd_of hp1, if_pos (by omega), hE1.1.2.1, hE1.1.2.2.1, f1.i 114, i114, zbd_of a2', if_pos (by omega), f2.a 111, f1.a 111, s4, zbd_of b1', if_pos (by omega)]
end conc
