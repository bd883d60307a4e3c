/-! FORMULAS of the TEXT in the reference -/
noncomputable def bTl (β : Nat) (τ : zS) (x0 x1 x2 x3 : Int) : Option zR := if 1 ≤ β then (zbd (xE tX_must (β - 1) τ [58]) (fun σ2 r2 => if (σ2.1 3000) = 0 then (if 1 ≤ β then (zbd (xE tX_nest (β - 1) σ2 [x0]) (fun σ3 r3 => if (σ3.1 3000) = 0 then (if 1 ≤ β then (zbd (xE tX_formula (β - 1) σ3 [r3]) (fun σ4 r4 => if (σ4.1 3000) = 0 then (lt_ (zI σ4 28 x3) (fun σ5 => if zb r4 20100 then (if zr (x2 * 1000) then (if zr ((τ.1 25) - x2) then (if zr ((x2 * 1000) + ((τ.1 25) - x2)) then (if zr (((τ.1 25) - x2) + (σ5.2.1 33 r4)) then (if 1 ≤ β then (zbd (zE tM_node (β - 1) σ5 [x1, r4, ((x2 * 1000) + ((τ.1 25) - x2)), (((τ.1 25) - x2) + (σ5.2.1 33 r4))]) (fun σ6 r6 => lt_ (zI σ6 3000 0) (fun u => some (u, r6)))) else none) else none) else none) else none) else none) else none)) else (some (σ4, 0)))) else none) else (some (σ3, 0)))) else none) else (some (σ2, 0)))) else none
/-- the VARIABLES behind ! or ? -/
theorem bds_ok {X : Int → Int} {n : Int} {β : Nat} (hβ : 5 ≤ β) {x0 x1 x2 x3 s : Int} (s0 : 0 ≤ s) : ∀ (m : Nat) (σ : zS) (st : PS) (r : (Int × Int) ⊕ PS), RP X n σ st s → bdsS X n m st = some r →
    (∀ k q, r = .inl (k, q) → XN (xE tX_bound2_28 β σ [x0, x1, x2, x3]) σ k q) ∧ (∀ st1, r = .inr st1 → ∃ τ, xE tX_bound2_28 β σ [x0, x1, x2, x3] = bTl β τ x0 x1 x2 x3 ∧ RP X n τ st1 s ∧ EX σ τ ∧ FrP σ τ ∧ (∃ L, st1.2.2.2.1 = L ++ st.2.2.2.1) ∧ st.2.2.1.length ≤ st1.2.2.1.length ∧ (tk X n st.1 = 1 → st.2.2.1.length < st1.2.2.1.length))
  | 0, σ, st, r, _, hr => by cases hr
  | m + 1, σ, st, r, hR, hr => by
    unfold bdsS at hr
    obtain ⟨τ, e1, h1, hT, hF⟩ := hR.pk (β := β - 1) (by omega)
    obtain ⟨hA, hN, hB, hC, hD, hl, hK⟩ := id h1
    have h300 := hB.2.1
    have h25 := hB.1
    have h28 := hC.1
    have hpn := hA.1.2.2.2.1
    have hnn := hA.1.2.2.2.2
    obtain ⟨q0, q1, q2⟩ := tqe (X := X) hA.1.2.2.1 hpn
    by_cases c1 : tk X n st.1 = 1
    · rw [if_pos c1] at hr
      have step : xE tX_bound2_28 β σ [x0, x1, x2, x3] = zbd (xE tX_binder (β - 1) (zI τ 28 ((st.2.2.2.1.length : Int) + 1)) []) (fun σ8 r8 => if (σ8.1 3000) = 0 then (if zb (st.2.2.2.1.length : Int) 300 then (lt_ (zA σ8 26 (st.2.2.2.1.length : Int) r8) (fun σ9 => if 1 ≤ β then (zbd (zE tM_take (β - 1) σ9 []) (fun σ10 r10 => xE tX_bound2_28 β σ10 [x0, x1, x2, x3])) else none)) else none) else (some (σ8, 0))) := by
        rw [xq_bound2_28, kW_bound2_28, if_pos (by omega), zbd_of e1, if_pos c1, h28, if_pos ⟨by omega, by omega⟩]
        show (if 1 ≤ β then _ else none) = _
        rw [if_pos (by omega)]
      rw [step]
      unfold bndS at hr
      by_cases hb : st.2.2.1.length = 300
      · rw [if_pos hb] at hr
        cases hr
        refine ⟨fun k q e => ?_, fun st1 e => (by cases e)⟩
        cases e
        have : XN (xE tX_binder (β - 1) (zI τ 28 ((st.2.2.2.1.length : Int) + 1)) []) (zI τ 28 ((st.2.2.2.1.length : Int) + 1)) 3 (tq X n st.1) := by
          rw [xq_binder, kW_binder, if_pos (by rw [zI_o]; omega), zI_o, hT.2.2.1]
          exact XN.thr
        exact (XN.call this).fr (hF.p.tr FrP.i)
      · rw [if_neg hb] at hr
        rw [pb_ok] at hr
        obtain ⟨b, hbe⟩ : ∃ b, b = st.2.2.1.length := ⟨_, rfl⟩
        rw [← hbe] at hb h300 h25
        obtain ⟨σ7, hs7⟩ : ∃ s7, s7 = zI τ 28 ((st.2.2.2.1.length : Int) + 1) := ⟨_, rfl⟩
        rw [← hs7]
        have g9 : σ7.1 9 = tq X n st.1 := by rw [hs7, zI_o]; exact hT.2.2.1
        have g10 : σ7.1 10 = te X n st.1 := by rw [hs7, zI_o]; exact hT.2.2.2.2.1
        have e2 := binder_e (β := β - 1) (σ := σ7) (b := b) (by rw [hs7, zI_o]; exact h25) (by omega) (by rw [g9, g10]; exact ⟨by omega, by omega⟩)
        rw [g9, g10] at e2
        obtain ⟨σ8, hs8⟩ : ∃ s8, s8 = zI (zI (zA (zA (zA σ7 21 b (tq X n st.1)) 22 b (te X n st.1 - tq X n st.1)) 24 b 0) 25 ((b : Int) + 1)) 3000 0 := ⟨_, rfl⟩
        rw [← hs8] at e2
        rw [zbd_of e2, if_pos (by rw [hs8, zI_1]), if_pos ⟨by omega, by show (st.2.2.2.1.length : Int) < ((300 : Nat) : Int); omega⟩]
        obtain ⟨σ9, hs9⟩ : ∃ s9, s9 = zA σ8 26 (st.2.2.2.1.length : Int) (b : Int) := ⟨_, rfl⟩
        have ti : ∀ j, j ≠ 25 → j ≠ 28 → j ≠ 3000 → σ9.1 j = τ.1 j := fun j j1 j2 j3 => by
          rw [hs9, hs8, hs7]
          show (zI (zI _ 25 _) 3000 0).1 j = _
          rw [zI_o j3, zI_o j1]
          show (zI τ 28 _).1 j = _
          exact zI_o j2
        have ta : ∀ a, a ≠ 21 → a ≠ 22 → a ≠ 24 → a ≠ 26 → σ9.2.1 a = τ.2.1 a := fun a a1 a2 a3 a4 => by
          rw [hs9, zA_o a4, hs8]
          show (zA (zA (zA σ7 21 b _) 22 b _) 24 b 0).2.1 a = _
          rw [zA_o a3, zA_o a2, zA_o a1, hs7]; rfl
        have t25 : σ9.1 25 = (b : Int) + 1 := by simp [hs9, hs8, hs7, zA, zI]
        have t28 : σ9.1 28 = (st.2.2.2.1.length : Int) + 1 := by simp [hs9, hs8, hs7, zA, zI]
        have t21 : σ9.2.1 21 = (zA τ 21 b (tq X n st.1)).2.1 21 := by funext i; simp [hs9, hs8, hs7, zA, zI]
        have t22 : σ9.2.1 22 = (zA τ 22 b (te X n st.1 - tq X n st.1)).2.1 22 := by funext i; simp [hs9, hs8, hs7, zA, zI]
        have t24 : σ9.2.1 24 = (zA τ 24 b 0).2.1 24 := by funext i; simp [hs9, hs8, hs7, zA, zI]
        have t26 : σ9.2.1 26 = (zA τ 26 (st.2.2.2.1.length : Int) (b : Int)).2.1 26 := by funext i; simp [hs9, hs8, hs7, zA, zI]
        have hlen : (st.2.2.1 ++ [(tq X n st.1, te X n st.1 - tq X n st.1)]).length = b + 1 := by rw [List.length_append, hbe]; rfl
        have hB2 : RBd n σ9 (st.2.2.1 ++ [(tq X n st.1, te X n st.1 - tq X n st.1)]) := by
          subst hbe
          exact hB.add (by omega) t25 t21 t22 t24 q0 (by omega) (by omega)
        have hC2 : RSc σ9 (b + 1) ((b : Int) :: st.2.2.2.1) := by
          refine ⟨by rw [t28]; rfl, fun i v hv => ?_⟩
          rw [t26]
          cases i with
          | zero =>
            cases hv
            refine ⟨?_, by omega, by omega⟩
            rw [show ((((b : Int) :: st.2.2.2.1).length : Int)) - 1 - ((0 : Nat) : Int) = (st.2.2.2.1.length : Int) by simp, zA_s]
          | succ i =>
            obtain ⟨c1, c2, c3⟩ := hC.2 i v (by simpa using hv)
            have hil : i < st.2.2.2.1.length := (List.getElem?_eq_some_iff.mp (by simpa using hv : st.2.2.2.1[i]? = some v)).1
            refine ⟨?_, c2, by omega⟩
            rw [show ((((b : Int) :: st.2.2.2.1).length : Int)) - 1 - ((i + 1 : Nat) : Int) = (st.2.2.2.1.length : Int) - 1 - (i : Int) by simp; omega, zA_q (by omega)]
            exact c1
        have hR9 : RP X n σ9 (st.1, st.2.1, st.2.2.1 ++ [(tq X n st.1, te X n st.1 - tq X n st.1)], (b : Int) :: st.2.2.2.1, st.2.2.2.2) s := by
          refine ⟨hA.c (fun j hj => ti j (by omega) (by omega) (by omega)) (ta 0 (by decide) (by decide) (by decide) (by decide)), hN.c ⟨ti _ (by decide) (by decide) (by decide), ti _ (by decide) (by decide) (by decide)⟩ (fun a ha => ta a (by omega) (by omega) (by omega) (by omega)), hB2, ?_, ?_, ?_, hK.c (Int.le_refl _) ⟨ti _ (by decide) (by decide) (by decide), ti _ (by decide) (by decide) (by decide), ti _ (by decide) (by decide) (by decide)⟩⟩
          · show RSc σ9 (st.2.2.1 ++ _).length _
            rw [hlen]; exact hC2
          · show RFr σ9 (st.2.2.1 ++ _).length _
            rw [hlen]
            exact hD.c (by omega) (ti _ (by decide) (by decide) (by decide)) (ta _ (by decide) (by decide) (by decide) (by decide))
          · show ((b : Int) :: st.2.2.2.1).length + _ ≤ (st.2.2.1 ++ _).length
            rw [hlen]
            simp
            omega
        have hx9 : EX σ σ9 := hF.x.tr (EX.of ⟨ti _ (by decide) (by decide) (by decide), ti _ (by decide) (by decide) (by decide), ti _ (by decide) (by decide) (by decide)⟩ (fun a ha => ta a (by omega) (by omega) (by omega) (by omega)))
        have hf9 : FrP σ σ9 := by
          refine hF.p.tr ?_
          rw [hs9, hs8, hs7]
          exact FrP.tr (FrP.tr (FrP.tr (FrP.tr (FrP.tr (FrP.tr FrP.i FrP.a) FrP.a) FrP.a) FrP.i) FrP.i) FrP.a
        show (∀ k q, r = .inl (k, q) → XN (if 1 ≤ β then (zbd (zE tM_take (β - 1) (zA σ8 26 (st.2.2.2.1.length : Int) (b : Int)) []) (fun σ10 r10 => xE tX_bound2_28 β σ10 [x0, x1, x2, x3])) else none) σ k q) ∧ (∀ st1, r = .inr st1 → ∃ τ, (if 1 ≤ β then (zbd (zE tM_take (β - 1) (zA σ8 26 (st.2.2.2.1.length : Int) (b : Int)) []) (fun σ10 r10 => xE tX_bound2_28 β σ10 [x0, x1, x2, x3])) else none) = bTl β τ x0 x1 x2 x3 ∧ _)
        rw [← hs9, if_pos (by omega)]
        obtain ⟨υ, e3, h5, hF3⟩ := hR9.tk (β := β - 1) (by omega)
        rw [zbd_of e3]
        rw [← hbe] at hr
        obtain ⟨i1, i2⟩ := bds_ok hβ (x0 := x0) (x1 := x1) (x2 := x2) (x3 := x3) s0 m υ _ r h5 hr
        refine ⟨fun k q e => (i1 k q e).fr (hf9.tr hF3.p), fun st1 e => ?_⟩
        obtain ⟨ω, j1, j2, j3, j4, ⟨L, j5⟩, j6, j7⟩ := i2 st1 e
        have j6' : (st.2.2.1 ++ [(tq X n st.1, te X n st.1 - tq X n st.1)]).length ≤ st1.2.2.1.length := j6
        rw [hlen] at j6'
        refine ⟨ω, j1, j2, (hx9.tr hF3.x).tr j3, (hf9.tr hF3.p).tr j4, ⟨L ++ [(b : Int)], ?_⟩, by omega, fun _ => by omega⟩
        have j5' : st1.2.2.2.1 = L ++ (b : Int) :: st.2.2.2.1 := j5
        rw [j5']; simp
    · rw [if_neg c1] at hr
      cases hr
      refine ⟨fun k q e => (by cases e), fun st1 e => ?_⟩
      cases e
      refine ⟨τ, ?_, h1, hF.x, hF.p, ⟨[], rfl⟩, Nat.le_refl _, fun h => absurd h c1⟩
      rw [xq_bound2_28, kW_bound2_28, if_pos (by omega), zbd_of e1, if_neg c1]
      rfl
/-- two FORMULAS with a sign between them -/
theorem bin_ok {X : Int → Int} {n : Int} {β : Nat} (hβ : 2 ≤ β) {o : Option zR} {σ : zS} {st : PS} {s q a1 : Int} {j : Nat} {f : Tm} {a : PS × Tm} {K : zS → Int → Option zR} (hj : j ≤ 3) (hq : q = 2 + (j : Int)) (s0 : 0 ≤ s) (h : XY o σ (fun τ v => FmQ X n σ st (s + 1) a τ v)) (hf : RFo σ f a1) : ∃ τ v, zbd o (fun σ4 r4 => if σ4.1 3000 = 0 then (if 1 ≤ β then (zbd (zE tM_joined1 (β - 1) σ4 [q, a1, r4]) K) else none) else some (σ4, 0)) = K τ v ∧ RFo τ (mk2 (4 + j) f a.2) v ∧ RP X n τ a.1 s ∧ EX σ τ ∧ FrP σ τ ∧ a.1.2.2.2.1 = st.2.2.2.1 := by
  obtain ⟨τ, v, e1, hF, g1, g2, g3, g4⟩ := XY.call (K := fun σ4 r4 => if 1 ≤ β then (zbd (zE tM_joined1 (β - 1) σ4 [q, a1, r4]) K) else none) h
  rw [e1, if_pos (by omega), hq]
  obtain ⟨ρ, w, e2, h1, h2, h3, h4⟩ := joined_ok (β := β - 1) (by omega) hj s0 g2 (hf.x g3) g1
  rw [zbd_of e2]
  exact ⟨ρ, w, rfl, h1, h2, g3.tr h3, hF.tr h4, g4⟩
noncomputable def fmC (lvl β : Nat) (σ : zS) (d xi : Int) : Option zR := match lvl with
  | 0 => xE tX_formula β σ [d]
  | 1 => xE tX_implication β σ [d]
  | 2 => xE tX_choice β σ [d]
  | 3 => xE tX_joint β σ [d]
  | 5 => xE tX_choice_6 β σ [d, xi]
  | 6 => xE tX_joint_6 β σ [d, xi]
  | _ => xE tX_unit β σ [d]
def fmB (lvl : Nat) : Int := match lvl with
  | 0 => 24
  | 1 => 23
  | 2 => 22
  | 3 => 21
  | 5 => 22
  | 6 => 21
  | _ => 20
def FMm (X : Int → Int) (n : Int) (m : Nat) : Prop := ∀ (lvl β : Nat) (d xi : Int) (x : Tm) (σ : zS) (st : PS) (s : Int) (r : (Int × Int) ⊕ (PS × Tm)), 0 ≤ d → d ≤ 60 → 6 * (60 - d) + fmB lvl ≤ (β : Int) → 0 ≤ s → RP X n σ st s → (lvl = 5 ∨ lvl = 6 → RFo σ x xi) → fmS X n m lvl d x st = some r → XR (fmC lvl β σ d xi) σ r (fun a τ v => FmQ X n σ st s a τ v)
theorem FmQ.tr {X : Int → Int} {n : Int} {σ σ2 : zS} {st st2 : PS} {s s2 : Int} {r : (Int × Int) ⊕ (PS × Tm)} {o : Option zR} (hx : EX σ σ2) (hf : FrP σ σ2) (hsc : st2.2.2.2.1 = st.2.2.2.1) (hs : s ≤ s2) (h : XR o σ2 r (fun a τ v => FmQ X n σ2 st2 s2 a τ v)) : XR o σ r (fun a τ v => FmQ X n σ st s a τ v) := by
  match r, h with
  | .inl e, h => exact XN.fr h hf
  | .inr a, h =>
    obtain ⟨τ, v, e1, f0, hF, g1, g2, g3, g4⟩ := h
    exact ⟨τ, v, e1, f0, hf.tr hF, g1, g2.s hs, hx.tr g3, g4.trans hsc⟩
