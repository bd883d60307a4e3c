/-! ATOMS of the TEXT in the reference -/
theorem termOf_e {β : Nat} {σ : zS} {c x y : Int} (h : σ.1 40 = c) (h0 : 0 ≤ c) (h1 : c < 20100) : zE tM_termOf β σ [x, y] = some (zI (zI (zA (zA σ 41 c x) 42 c y) 40 (c + 1)) 39 c, 0) := by
  rw [zq_termOf, kZ_termOf, h, if_pos ⟨h0, by omega⟩]
  show (if zb (σ.1 40) 20100 then (if zr (σ.1 40 + 1) then some (zI (zI (zA (zA σ 41 c x) 42 (σ.1 40) y) 40 (σ.1 40 + 1)) 39 (σ.1 40), (0 : Int)) else none) else none) = _
  rw [h, if_pos ⟨h0, by omega⟩, if_pos ⟨by omega, by omega⟩]
/-- a PREDICATE and its FORMULA made -/
theorem RP.pn {X : Int → Int} {n : Int} {σ τ ω : zS} {st : PS} {s c e x y : Int} (h : RP X n σ st (s + 1)) (hs : 0 ≤ s) (h40 : σ.1 40 = c) (h37 : σ.1 37 = e) (hτ : τ = zI (zI (zA (zA σ 41 c x) 42 c y) 40 (c + 1)) 39 c) (hω : ω = zI (zA (zA (zA (zA τ 30 e 0) 31 e c) 32 e (-1)) 33 e 1) 37 (e + 1)) : RP X n ω st s ∧ EX σ ω ∧ FrP σ ω ∧ ω.1 37 = e + 1 ∧ ω.1 40 = c + 1 ∧ ω.2.1 30 e = 0 ∧ ω.2.1 31 e = c ∧ ω.2.1 32 e = -1 ∧ ω.2.1 33 e = 1 ∧ ω.2.1 41 c = x ∧ ω.2.1 42 c = y ∧ 0 ≤ c ∧ c < 20000 ∧ 0 ≤ e ∧ e < 20000 ∧ ω.1 38 = σ.1 38 := by
  obtain ⟨hA, hN, hB, hC, hD, hl, hK⟩ := h
  obtain ⟨k1, k2, k3, k4, k5, k6⟩ := hK
  have hp := hA.1.2.2.2.1
  have hn := hA.1.2.2.2.2
  have ti : ∀ j, j ≠ 37 → j ≠ 39 → j ≠ 40 → ω.1 j = σ.1 j := fun j h1 h2 h3 => by
    rw [hω]
    show (zI _ 37 _).1 j = _
    rw [zI_o h1]
    show τ.1 j = _
    rw [hτ, zI_o h2, zI_o h3]; rfl
  have ta : ∀ b, ¬ (30 ≤ b ∧ b ≤ 33) → b ≠ 41 → b ≠ 42 → ω.2.1 b = σ.2.1 b := fun b hb h1 h2 => by
    rw [hω]
    show (zA (zA (zA (zA τ 30 e 0) 31 e c) 32 e (-1)) 33 e 1).2.1 b = _
    rw [zA_o (by omega), zA_o (by omega), zA_o (by omega), zA_o (by omega), hτ]
    show (zA (zA σ 41 c x) 42 c y).2.1 b = _
    rw [zA_o h2, zA_o h1]
  have t37 : ω.1 37 = e + 1 := by rw [hω]; exact zI_1
  have t40 : ω.1 40 = c + 1 := by rw [hω, hτ]; simp [zA, zI]
  have a30 : ω.2.1 30 = (zA σ 30 e 0).2.1 30 := by rw [hω, hτ]; funext i; simp [zA, zI]
  have a31 : ω.2.1 31 = (zA σ 31 e c).2.1 31 := by rw [hω, hτ]; funext i; simp [zA, zI]
  have a32 : ω.2.1 32 = (zA σ 32 e (-1)).2.1 32 := by rw [hω, hτ]; funext i; simp [zA, zI]
  have a33 : ω.2.1 33 = (zA σ 33 e 1).2.1 33 := by rw [hω, hτ]; funext i; simp [zA, zI]
  have a41 : ω.2.1 41 = (zA σ 41 c x).2.1 41 := by rw [hω, hτ]; funext i; simp [zA, zI]
  have a42 : ω.2.1 42 = (zA σ 42 c y).2.1 42 := by rw [hω, hτ]; funext i; simp [zA, zI]
  refine ⟨⟨hA.c (fun j hj => ti j (by omega) (by omega) (by omega)) (ta 0 (by omega) (by decide) (by decide)), hN.c ⟨ti _ (by decide) (by decide) (by decide), ti _ (by decide) (by decide) (by decide)⟩ (fun b hb => ta b (by omega) (by omega) (by omega)), hB.c (ti _ (by decide) (by decide) (by decide)) ⟨ta _ (by omega) (by decide) (by decide), ta _ (by omega) (by decide) (by decide), ta _ (by omega) (by decide) (by decide)⟩, hC.c (Nat.le_refl _) (ti _ (by decide) (by decide) (by decide)) (ta _ (by omega) (by decide) (by decide)), hD.c (Nat.le_refl _) (ti _ (by decide) (by decide) (by decide)) (ta _ (by omega) (by decide) (by decide)), hl, ?_⟩, ?_, ?_, t37, t40, by rw [a30, zA_s], by rw [a31, zA_s], by rw [a32, zA_s], by rw [a33, zA_s], by rw [a41, zA_s], by rw [a42, zA_s], by omega, by omega, by omega, by omega, ti _ (by decide) (by decide) (by decide)⟩
  · unfold RCt
    rw [ti 38 (by decide) (by decide) (by decide), t40, t37]
    exact ⟨by omega, by omega, k3, by omega, by omega, by omega⟩
  · refine ⟨⟨by rw [t37]; omega, by rw [ti 38 (by decide) (by decide) (by decide)]; exact Int.le_refl _, by rw [t40]; omega⟩, fun i i0 i1 => ?_, fun i _ _ => ?_, fun i _ _ => ?_⟩
    · rw [ta 34 (by omega) (by decide) (by decide), ta 35 (by omega) (by decide) (by decide), ta 36 (by omega) (by decide) (by decide)]; exact ⟨rfl, rfl, rfl⟩
    · rw [a30, a31, a32, a33, zA_q (by omega), zA_q (by omega), zA_q (by omega), zA_q (by omega)]; exact ⟨rfl, rfl, rfl, rfl⟩
    · rw [a41, a42, zA_q (by omega), zA_q (by omega)]; exact ⟨rfl, rfl⟩
  · rw [hω, hτ]
    exact FrP.tr (FrP.tr (FrP.tr (FrP.tr FrP.a FrP.a) FrP.i) FrP.i) (FrP.tr (FrP.tr (FrP.tr (FrP.tr FrP.a FrP.a) FrP.a) FrP.a) FrP.i)
theorem varS_sc {X : Int → Int} {n : Int} {st : PS} {a : PS × Int} (h2 : varS X n st = pOk a) : a.1.2.2.2.1 = st.2.2.2.1 := by
  unfold varS at h2
  cases hv : vrF X (wd X (tq X n st.1) (te X n st.1)) st.2.2.1 st.2.2.2.1 with
  | some v => rw [hv] at h2; cases h2; rfl
  | none =>
    rw [hv] at h2
    dsimp only at h2
    cases hv2 : vrF X (wd X (tq X n st.1) (te X n st.1)) st.2.2.1 st.2.2.2.2 with
    | some v => rw [hv2] at h2; cases h2; rfl
    | none =>
      rw [hv2] at h2
      dsimp only at h2
      unfold bndS at h2
      by_cases hb : st.2.2.1.length = 300
      · rw [if_pos hb] at h2; cases h2
      · rw [if_neg hb] at h2; cases h2; rfl
theorem symS_sc {X : Int → Int} {n : Int} {st : PS} {a : PS × Int} (h2 : symS X n st = pOk a) : a.1.2.2.2.1 = st.2.2.2.1 := by
  unfold symS at h2
  cases hm : nmF (wd X (tq X n st.1) (te X n st.1)) st.2.1 1 with
  | some k => rw [hm] at h2; cases h2; rfl
  | none =>
    rw [hm] at h2
    dsimp only at h2
    by_cases h250 : st.2.1.length = 250
    · rw [if_pos h250] at h2; cases h2
    · rw [if_neg h250] at h2; cases h2; rfl
theorem chkS_sc {st : PS} {k is a q : Int} {st2 : PS} (h : chkS st k is a q = pOk st2) : st2.1 = st.1 ∧ st2.2.2 = st.2.2 := by
  unfold chkS at h
  cases hx : st.2.1[(k - 1).toNat]? with
  | none => rw [hx] at h; cases h
  | some x =>
    rw [hx] at h
    dsimp only at h
    by_cases h0 : x.2.1 = 0
    · rw [if_pos h0] at h; cases h; exact ⟨rfl, rfl⟩
    · rw [if_neg h0] at h
      by_cases h1 : x.2.1 = is ∧ x.2.2 = a
      · rw [if_pos h1] at h; cases h; exact ⟨rfl, rfl⟩
      · rw [if_neg h1] at h; cases h
theorem eq_q {X : Int → Int} {n : Int} {σ σ2 : zS} {st st2 : PS} {s : Int} {r : (Int × Int) ⊕ (PS × Tm)} {o : Option zR} (hx : EX σ σ2) (hf : FrP σ σ2) (hsc : st2.2.2.2.1 = st.2.2.2.1) (h : XR o σ2 r (fun a τ v => RFo τ a.2 v ∧ RP X n τ a.1 s ∧ EX σ2 τ ∧ a.1.2.2.2.1 = st2.2.2.2.1)) : XR o σ r (fun a τ v => FmQ X n σ st s a τ v) := by
  match r, h with
  | .inl e, h => exact XN.fr h hf
  | .inr a, h =>
    obtain ⟨τ, v, e1, f0, hF, g1, g2, g3, g4⟩ := h
    exact ⟨τ, v, e1, f0, hf.tr hF, g1, g2, hx.tr g3, g4.trans hsc⟩
/-- a call whose answer is given back -/
theorem XR.ret {α : Type} {o : Option zR} {σ : zS} {r : (Int × Int) ⊕ α} {Q : α → zS → Int → Prop} (h : XR o σ r Q) (hQ : ∀ a τ v, Q a τ v → Q a (zI τ 3000 0) v) : XR (zbd o (fun σ1 r1 => if σ1.1 3000 = 0 then lt_ (zI σ1 3000 0) (fun u => some (u, r1)) else some (σ1, 0))) σ r Q := by
  match r, h with
  | .inl e, h => exact XN.call h
  | .inr a, h =>
    obtain ⟨τ, v, e1, hF, q⟩ := XY.call (K := fun σ1 r1 => lt_ (zI σ1 3000 0) (fun u => some (u, r1))) h
    rw [e1]
    exact (XY.ret (hQ a τ v q)).fr hF
theorem FmQ.f {X : Int → Int} {n : Int} {σ : zS} {st : PS} {s : Int} (a : PS × Tm) (τ : zS) (v : Int) (h : FmQ X n σ st s a τ v) : FmQ X n σ st s a (zI τ 3000 0) v := by
  obtain ⟨g1, g2, g3, g4⟩ := h
  have hx : EX τ (zI τ 3000 0) := EX.of ⟨zI_o, zI_o, zI_o⟩ (fun _ _ => rfl)
  exact ⟨g1.x hx, g2.f (by decide), g3.tr hx, g4⟩
theorem atom_ok {X : Int → Int} {n : Int} (hX : TXT X n) {m β : Nat} {d : Int} {σ : zS} {st : PS} {s : Int} {r : (Int × Int) ⊕ (PS × Tm)} (d0 : 0 ≤ d) (d1 : d ≤ 60) (hβ : 2 * (60 - d) + 11 ≤ (β : Int)) (s0 : 0 ≤ s) (hR : RP X n σ st s) (hk : tk X n st.1 = 1 ∨ tk X n st.1 = 2) (hr : atmS X n m d st = some r) : XR (xE tX_atom1 β σ [d]) σ r (fun a τ v => FmQ X n σ st s a τ v) := by
  have hpn := hR.1.1.2.2.2.1
  have hnn := hR.1.1.2.2.2.2
  unfold atmS at hr
  rw [xq_atom1, kW_atom1, if_pos (by omega)]
  obtain ⟨τ, e1, h1, hT, hF⟩ := hR.pk (β := β - 1) (by omega)
  rw [zbd_of e1]
  by_cases c1 : tk X n st.1 = 1
  · rw [if_pos c1] at hr
    rw [if_pos c1, if_pos (by omega)]
    rcases pb_r hr with ⟨k, q, h2, rfl⟩ | ⟨a, h2, h3⟩
    · exact (XN.call (variable_ok (β := β - 1) (by omega) h1 hT h2)).fr hF.p
    · obtain ⟨ρ, v, e2, hF2, rfl, v0, v1, hp, h4, hT2, hx2⟩ := XY.call (K := fun σ6 r6 => if 1 ≤ β then (zbd (zE tM_take (β - 1) σ6 []) (fun σ7 r7 => if zr ((-1) - r6) then (if 1 ≤ β then (zbd (zE tM_term (β - 1) σ7 [((-1) - r6), (-1)]) (fun σ8 r8 => if 1 ≤ β then (zbd (zE tM_peek (β - 1) σ8 []) (fun σ9 r9 => if r9 = 61 then (xE tX_atom1_50 β σ9 [d, r6, r8]) else (if 1 ≤ β then (zbd (zE tM_peek (β - 1) σ9 []) (fun σ10 r10 => if r10 = 300 then (xE tX_atom1_50 β σ10 [d, r6, r8]) else (if (σ10.1 8) = 304 then (lt_ (zI σ10 3003 3) (fun u1 => lt_ (zI u1 3004 (σ10.1 9)) (fun u2 => lt_ (zI u2 3000 1) (fun u3 => some (u3, 0))))) else (lt_ (zI σ10 3003 1) (fun u1 => lt_ (zI u1 3004 (σ10.1 9)) (fun u2 => lt_ (zI u2 3000 1) (fun u3 => some (u3, 0)))))))) else none))) else none)) else none) else none)) else none) (variable_ok (β := β - 1) (by omega) h1 hT h2)
      rw [e2, if_pos (by omega)]
      have b300 := h4.2.2.1.2.1
      obtain ⟨υ, e3, h5, hF3, hlt⟩ := h4.tk1 (β := β - 1) (by omega) (by rw [hp, c1]; decide)
      rw [zbd_of e3, if_pos ⟨by omega, by omega⟩, if_pos (by omega)]
      obtain ⟨c, hc⟩ : ∃ c, υ.1 38 = c := ⟨_, rfl⟩
      obtain ⟨ω, hω⟩ : ∃ w, w = zI (zA (zA (zA υ 34 c ((-1) - a.2)) 35 c (-1)) 36 c (-1)) 38 (c + 1) := ⟨_, rfl⟩
      obtain ⟨t1, t2, t3, t4, t5, t6, t7, t8, t9⟩ := RP.term h5 s0 hc hω
      rw [zbd_of (term_e (β := β - 1) hc t8 (by omega)), ← hω, if_pos (by omega)]
      have hx : EX σ ω := ((hF.x.tr hx2).tr hF3.x).tr t2
      have hfw : FrP σ ω := ((hF.p.tr hF2).tr hF3.p).tr t3
      have hsc : a.1.2.2.2.1 = st.2.2.2.1 := varS_sc h2
      obtain ⟨κ, e5, h6, hT6, hF6⟩ := t1.pk (β := β - 1) (by omega)
      have ht : RTr ω (cu (-1 - a.2)) nl c := ⟨t8, by omega, by rw [cl_cu]; exact t5, t6⟩
      rw [zbd_of e5]
      -- = or != comes
      have go : ∀ χ : zS, RP X n χ (adv X n a.1) s → EX σ χ → FrP σ χ → RTr χ (cu (-1 - a.2)) nl c → tk X n (adv X n a.1).1 = 61 ∨ tk X n (adv X n a.1).1 = 300 → XR (xE tX_atom1_50 β χ [d, a.2, c]) σ r (fun a τ v => FmQ X n σ st s a τ v) := fun χ i1 i2 i3 i4 i5 => by
        rw [if_pos i5] at h3
        rw [xq_atom1_50, kW_atom1_50, if_pos (by omega)]
        exact XR.ret (eq_q (st2 := adv X n a.1) i2 i3 hsc (equation_ok hX (β := β - 1) d0 d1 (by omega) s0 i1 i5 i4 h3)) FmQ.f
      by_cases c61 : tk X n (adv X n a.1).1 = 61
      · rw [if_pos c61]
        exact go κ h6 (hx.tr hF6.x) (hfw.tr hF6.p) (ht.x hF6.x) (Or.inl c61)
      · rw [if_neg c61, if_pos (by omega)]
        obtain ⟨κ2, e6, h7, hT7, hF7⟩ := h6.pk (β := β - 1) (by omega)
        rw [zbd_of e6]
        by_cases c300 : tk X n (adv X n a.1).1 = 300
        · rw [if_pos c300]
          exact go κ2 h7 ((hx.tr hF6.x).tr hF7.x) ((hfw.tr hF6.p).tr hF7.p) ((ht.x hF6.x).x hF7.x) (Or.inr c300)
        · rw [if_neg c300, if_neg (by rw [hT7.2.2.2.1]; exact tk_304)]
          rw [if_neg (by omega)] at h3
          cases h3
          have := (XN.thr (σ := κ2) (a := 1) (b := κ2.1 9)).fr ((hfw.tr hF6.p).tr hF7.p)
          rw [hT7.2.2.1] at this
          rw [hT7.2.2.1]
          exact this
  · have c2 : tk X n st.1 = 2 := by omega
    rw [if_neg c1] at hr
    rw [if_neg c1, if_pos (by omega)]
    rcases pb_r hr with ⟨k, q, h2, rfl⟩ | ⟨a, h2, h3⟩
    · exact (XN.call (symbol_ok hX (β := β - 1) h1 hT (Or.inl c2) h2)).fr hF.p
    · obtain ⟨ρ, v, e2, hF2, rfl, v0, v1, hp, h4, hT2, hx2⟩ := XY.call (K := fun σ2 r2 => if 1 ≤ β then (zbd (zE tM_take (β - 1) σ2 []) (fun σ3 r3 => if 1 ≤ β then (zbd (zE tM_peek (β - 1) σ3 []) (fun σ4 r4 => if r4 = 40 then (if 1 ≤ β then (zbd (xE tX_arguments (β - 1) σ4 [d]) (fun σ5 r5 => if (σ5.1 3000) = 0 then (xE tX_atom1_89 β σ5 [d, (τ.1 9), r2, r5]) else (some (σ5, 0)))) else none) else (xE tX_atom1_89 β σ4 [d, (τ.1 9), r2, (-1)]))) else none)) else none) (symbol_ok hX (β := β - 1) h1 hT (Or.inl c2) h2)
      rw [e2, if_pos (by omega)]
      obtain ⟨υ, e3, h5, hF3, hlt⟩ := h4.tk1 (β := β - 1) (by omega) (by rw [hp, c2]; decide)
      rw [zbd_of e3, if_pos (by omega)]
      obtain ⟨ω, e4, h6, hT6, hF4⟩ := h5.pk (β := β - 1) (by omega)
      rw [zbd_of e4, hT.2.2.1]
      have hsc : a.1.2.2.2.1 = st.2.2.2.1 := symS_sc h2
      have hxw : EX σ ω := ((hF.x.tr hx2).tr hF3.x).tr hF4.x
      have hfw : FrP σ ω := ((hF.p.tr hF2).tr hF3.p).tr hF4.p
      have k0 : 0 ≤ σ.1 38 := hR.2.2.2.2.2.2.2.2.1
      -- with the TERMS known
      have fin : ∀ (κ : zS) (u : PS × T) (t : Int), RP X n κ u.1 (s + 1) → RTm κ u.2 (σ.1 38) (κ.1 38) t → EX σ κ → FrP σ κ → u.1.2.2.2.1 = st.2.2.2.1 → pb (chkS u.1 a.2 (if tk X n u.1.1 = 61 ∨ tk X n u.1.1 = 300 then 2 else 1) (len u.2 : Int) (tq X n st.1)) (fun st4 => if tk X n u.1.1 = 61 ∨ tk X n u.1.1 = 300 then eqnS X n m (nd (cu a.2) u.2 nl) d st4 else pOk (st4, mk1 2 (cu a.2, u.2))) = some r → XR (xE tX_atom1_89 β κ [d, tq X n st.1, a.2, t]) σ r (fun a τ v => FmQ X n σ st s a τ v) := fun κ u t i1 i2 i3 i4 i6 i7 => by
        have hpn2 := i1.1.1.2.2.2.1
        have hct := i1.2.2.2.2.2.2
        have h38 := hct.2.2.2.1
        have hlw := len_le_wt u.2
        have hwt := i2.wt k0 i3.1.2.1
        rw [xq_atom1_89, kW_atom1_89, if_pos (by omega)]
        have el : zE tM_length (β - 1) κ [t] = some (κ, (len u.2 : Int)) := by
          rw [zq_length, kZ_length, length_ok i2 (by omega) (Int.le_refl _) (by omega)]
          simp
        rw [zbd_of el, if_pos (by omega)]
        obtain ⟨χ, e7, h8, hT8, hF8⟩ := i1.pk (β := β - 1) (by omega)
        rw [zbd_of e7]
        have hx8 : EX σ χ := i3.tr hF8.x
        have hf8 : FrP σ χ := i4.tr hF8.p
        have j2 : RTm χ u.2 (σ.1 38) (χ.1 38) t := by rw [hF8.2 38 (by omega)]; exact i2.x hF8.x (Int.le_refl _)
        obtain ⟨role, hrole⟩ : ∃ x : Int, x = if tk X n u.1.1 = 61 ∨ tk X n u.1.1 = 300 then 2 else 1 := ⟨_, rfl⟩
        rw [← hrole] at i7
        have hr0 : role ≠ 0 := by rw [hrole]; split <;> decide
        have e127 : XR (xE tX_atom1_127 β χ [d, tq X n st.1, a.2, t, (len u.2 : Int), tk X n u.1.1, role, a.2]) σ r (fun a τ v => FmQ X n σ st s a τ v) := by
          rw [xq_atom1_127, kW_atom1_127, if_pos (by omega)]
          rcases pb_r i7 with ⟨k, q, h9, rfl⟩ | ⟨b, h9, h10⟩
          · exact (XN.call (check_ok (β := β - 1) h8 v0 hr0 h9)).fr hf8
          · obtain ⟨hb1, hb2⟩ := chkS_sc h9
            obtain ⟨ψ, w, e8, hF9, q1, q2, q3, q4, q5⟩ := XY.call (K := fun σ1 r1 => if tk X n u.1.1 = 61 then (xE tX_atom1_148 β σ1 [d, tq X n st.1, a.2, t, (len u.2 : Int), tk X n u.1.1]) else (if tk X n u.1.1 = 300 then (xE tX_atom1_148 β σ1 [d, tq X n st.1, a.2, t, (len u.2 : Int), tk X n u.1.1]) else (if 1 ≤ β then (zbd (zE tM_termOf (β - 1) σ1 [a.2, t]) (fun σ2 r2 => if 1 ≤ β then (zbd (zE tM_node (β - 1) σ2 [0, (σ2.1 39), (-1), 1]) (fun σ3 r3 => lt_ (zI σ3 3000 0) (fun u => some (u, r3)))) else none)) else none))) (check_ok (β := β - 1) h8 v0 hr0 h9)
            rw [e8]
            have hxp : EX σ ψ := hx8.tr q4
            have hfp : FrP σ ψ := hf8.tr hF9
            have p38 : ψ.1 38 = χ.1 38 := q5 38 (by decide)
            have j3 : RTm ψ u.2 (σ.1 38) (ψ.1 38) t := by rw [p38]; exact j2.x q4 (Int.le_refl _)
            have hbsc : b.2.2.2.1 = st.2.2.2.1 := by rw [hb2]; exact i6
            have eq : tk X n u.1.1 = 61 ∨ tk X n u.1.1 = 300 → XR (xE tX_atom1_148 β ψ [d, tq X n st.1, a.2, t, (len u.2 : Int), tk X n u.1.1]) σ r (fun a τ v => FmQ X n σ st s a τ v) := fun hq => by
              rw [if_pos hq] at h10
              rw [xq_atom1_148, kW_atom1_148, if_pos (by omega)]
              obtain ⟨c, hc⟩ : ∃ c, ψ.1 38 = c := ⟨_, rfl⟩
              obtain ⟨φ, hφ⟩ : ∃ w, w = zI (zA (zA (zA ψ 34 c a.2) 35 c t) 36 c (-1)) 38 (c + 1) := ⟨_, rfl⟩
              obtain ⟨t1, t2, t3, t4, t5, t6, t7, t8, t9⟩ := RP.term q3 s0 hc hφ
              rw [zbd_of (term_e (β := β - 1) hc t8 (by omega)), ← hφ, if_pos (by omega)]
              have ht : RTr φ (cu a.2) u.2 c := ⟨t8, by omega, by rw [cl_cu]; exact t5, by rw [t6]; rw [hc] at j3; exact (j3.x t2 (by omega)).mono (Int.le_refl _) k0 (Int.le_refl _)⟩
              exact XR.ret (eq_q (hxp.tr t2) (hfp.tr t3) hbsc (equation_ok hX (β := β - 1) d0 d1 (by omega) s0 t1 (by rw [q1]; exact hq) ht h10)) FmQ.f
            by_cases c61 : tk X n u.1.1 = 61
            · rw [if_pos c61]; exact eq (Or.inl c61)
            · rw [if_neg c61]
              by_cases c300 : tk X n u.1.1 = 300
              · rw [if_pos c300]; exact eq (Or.inr c300)
              · rw [if_neg c300, if_pos (by omega)]
                rw [if_neg (by omega)] at h10
                cases h10
                obtain ⟨c, hc⟩ : ∃ c, ψ.1 40 = c := ⟨_, rfl⟩
                obtain ⟨e, he⟩ : ∃ e, ψ.1 37 = e := ⟨_, rfl⟩
                obtain ⟨φ, hφ⟩ : ∃ w, w = zI (zI (zA (zA ψ 41 c a.2) 42 c t) 40 (c + 1)) 39 c := ⟨_, rfl⟩
                obtain ⟨θ, hθ⟩ : ∃ w, w = zI (zA (zA (zA (zA φ 30 e 0) 31 e c) 32 e (-1)) 33 e 1) 37 (e + 1) := ⟨_, rfl⟩
                obtain ⟨t1, t2, t3, t4, t5, t6, t7, t8, t9, t10, t11, t12, t13, t14, t15, t16⟩ := RP.pn q3 s0 hc he hφ hθ
                rw [zbd_of (termOf_e (β := β - 1) hc t12 (by omega)), ← hφ, if_pos (by omega)]
                have p39 : φ.1 39 = c := by rw [hφ, zI_1]
                have p37 : φ.1 37 = e := by rw [hφ, zI_o, zI_o]; exact he
                rw [p39, zbd_of (node_e (β := β - 1) p37 t14 (by omega)), ← hθ]
                have hx0 : EX θ (zI θ 3000 0) := EX.of ⟨zI_o, zI_o, zI_o⟩ (fun _ _ => rfl)
                refine (XY.ret (σ := θ) (r := e) ⟨RFo.x hx0 ⟨⟨1, t14, by omega, t9, ?_⟩, ?_⟩, t1.f (by decide), (hxp.tr t2).tr hx0, hbsc⟩).fr (hfp.tr t3)
                · refine Or.inr (Or.inr (Or.inl ⟨cu a.2, u.2, c, rfl, t6, t8, t7, t12, by omega, by rw [cl_cu]; exact t10, ?_⟩))
                  rw [t11]
                  exact ((j3.x t2 (Int.le_refl _)).mono (Int.le_refl _) k0 (by omega))
                · show hgt (mk1 2 _) ≤ _
                  rw [t4]
                  show (1 : Int) ≤ _
                  omega
        by_cases c61 : tk X n u.1.1 = 61
        · rw [if_pos c61, xq_atom1_122, kW_atom1_122]
          rw [show role = 2 by rw [hrole, if_pos (Or.inl c61)]] at e127
          exact e127
        · rw [if_neg c61]
          by_cases c300 : tk X n u.1.1 = 300
          · rw [if_pos c300, xq_atom1_122, kW_atom1_122]
            rw [show role = 2 by rw [hrole, if_pos (Or.inr c300)]] at e127
            exact e127
          · rw [if_neg c300]
            rw [show role = 1 by rw [hrole, if_neg (by omega)]] at e127
            exact e127
      by_cases c40 : tk X n (adv X n a.1).1 = 40
      · rw [if_pos c40] at h3
        rw [if_pos c40, if_pos (by omega)]
        rcases pb_r h3 with ⟨k, q, h7, rfl⟩ | ⟨u, h7, h8⟩
        · exact (XN.call (args_ok (sd_all hX m).2.2 (β := β - 1) d0 d1 (by omega) (by omega) h6 c40 h7)).fr hfw
        · obtain ⟨κ, t, e5, hF5, j1, j2, j3, j4, j5, j6⟩ := XY.call (K := fun σ5 r5 => xE tX_atom1_89 β σ5 [d, tq X n st.1, a.2, r5]) (args_ok (sd_all hX m).2.2 (β := β - 1) d0 d1 (by omega) (by omega) h6 c40 h7)
          rw [e5]
          exact fin κ u t j3 (j1.mono k0 hxw.1.2.1 (Int.le_refl _)) (hxw.tr j4) (hfw.tr hF5) (by rw [j6]; exact hsc) h8
      · rw [if_neg c40] at h3
        rw [if_neg c40]
        rw [pb_ok] at h3
        exact fin ω (adv X n a.1, nl) (-1) h6 rfl hxw hfw hsc h3
