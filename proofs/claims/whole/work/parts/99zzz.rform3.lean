/-! FORMULAS of the TEXT in the reference: all of them -/
theorem bound_ok {X : Int → Int} {n : Int} {m : Nat} (hM : FMm X n m) {β : Nat} {d : Int} {x : Tm} {σ : zS} {st : PS} {s : Int} {kd : Nat} {r : (Int × Int) ⊕ (PS × Tm)} (hkd : kd ≤ 1) (d0 : 0 ≤ d) (d1 : d ≤ 60) (hβ : 6 * (60 - d) + 19 ≤ (β : Int)) (s0 : 0 ≤ s) (hR : RP X n σ st s) (hk : tk X n st.1 ≠ 0) (hr : (if tk X n (adv X n st).1 = 1 then pb (bdsS X n m (adv X n st)) (fun s1 => if tk X n s1.1 = 58 then pb (nstS X n d (adv X n s1)) (fun d1 => pb (fmS X n m 0 d1 x (adv X n s1)) (fun r => pOk ((r.1.1, r.1.2.1, r.1.2.2.1, st.2.2.2.1, r.1.2.2.2.2), qnt kd st.2.2.1.length (s1.2.2.1.length - st.2.2.1.length) r.2))) else pNo 1 (tq X n s1.1)) else pNo 1 (tq X n (adv X n st).1)) = some r) : XR (xE tX_bound2 β σ [d, 6 + (kd : Int)]) σ r (fun a τ v => FmQ X n σ st s a τ v) := by
  rw [xq_bound2, kW_bound2, if_pos (by omega)]
  obtain ⟨υ, e3, h5, hF3, hlt⟩ := hR.tk1 (β := β - 1) (by omega) hk
  rw [zbd_of e3, if_pos (by omega)]
  obtain ⟨ω, e4, h6, hT6, hF4⟩ := h5.pk (β := β - 1) (by omega)
  rw [zbd_of e4]
  have hxw : EX σ ω := hF3.x.tr hF4.x
  have hfw : FrP σ ω := hF3.p.tr hF4.p
  have u25 : υ.1 25 = (st.2.2.1.length : Int) := h5.2.2.1.1
  have u28 : υ.1 28 = (st.2.2.2.1.length : Int) := h5.2.2.2.1.1
  by_cases c1 : tk X n (adv X n st).1 = 1
  · rw [if_pos c1] at hr
    rw [if_pos c1, u25, u28]
    have hbd := fun r h => bds_ok (X := X) (n := n) (β := β) (by omega) (x0 := d) (x1 := 6 + (kd : Int)) (x2 := (st.2.2.1.length : Int)) (x3 := (st.2.2.2.1.length : Int)) (s := s + 1) (by omega) m ω (adv X n st) r h6 h
    rcases pb_r hr with ⟨k, q, h2, rfl⟩ | ⟨s1, h2, h3⟩
    · exact ((hbd _ h2).1 k q rfl).fr hfw
    · obtain ⟨τ, e5, j2, j3, j4, ⟨L, j5⟩, j6, j7⟩ := (hbd _ h2).2 s1 rfl
      have j7 := j7 c1
      have j6 : st.2.2.1.length < s1.2.2.1.length := j7
      have hsc1 : s1.2.2.2.1 = L ++ st.2.2.2.1 := j5
      rw [e5]
      unfold bTl
      rw [if_pos (by omega)]
      have hxt : EX σ τ := hxw.tr j3
      have hft : FrP σ τ := hfw.tr j4
      have t25 : τ.1 25 = (s1.2.2.1.length : Int) := j2.2.2.1.1
      have b300 : s1.2.2.1.length ≤ 300 := j2.2.2.1.2.1
      have hm := must_ok (β := β - 1) (by omega) (c := 58) j2
      by_cases c58 : tk X n s1.1 = 58
      · rw [if_pos c58] at h3 hm
        obtain ⟨ρ, v, e6, hF6, g1, g2⟩ := XY.call (K := fun σ2 r2 => if 1 ≤ β then (zbd (xE tX_nest (β - 1) σ2 [d]) (fun σ3 r3 => if (σ3.1 3000) = 0 then (if 1 ≤ β then (zbd (xE tX_formula (β - 1) σ3 [r3]) (fun σ4 r4 => if (σ4.1 3000) = 0 then (lt_ (zI σ4 28 (st.2.2.2.1.length : Int)) (fun σ5 => if zb r4 20100 then (if zr ((st.2.2.1.length : Int) * 1000) then (if zr ((τ.1 25) - (st.2.2.1.length : Int)) then (if zr (((st.2.2.1.length : Int) * 1000) + ((τ.1 25) - (st.2.2.1.length : Int))) then (if zr (((τ.1 25) - (st.2.2.1.length : Int)) + (σ5.2.1 33 r4)) then (if 1 ≤ β then (zbd (zE tM_node (β - 1) σ5 [6 + (kd : Int), r4, (((st.2.2.1.length : Int) * 1000) + ((τ.1 25) - (st.2.2.1.length : Int))), (((τ.1 25) - (st.2.2.1.length : Int)) + (σ5.2.1 33 r4))]) (fun σ6 r6 => lt_ (zI σ6 3000 0) (fun u => some (u, r6)))) else none) else none) else none) else none) else none) else none)) else (some (σ4, 0)))) else none) else (some (σ3, 0)))) else none) hm
        rw [e6, if_pos (by omega)]
        have hxr : EX σ ρ := hxt.tr g2
        have hfr : FrP σ ρ := hft.tr hF6
        rcases pb_r h3 with ⟨k, q, h7, rfl⟩ | ⟨dd, h7, h8⟩
        · exact (XN.call (nest_ok (β := β - 1) (by omega) ⟨d0, d1⟩ g1 h7)).fr hfr
        · obtain ⟨κ, w, e7, hF7, rfl, hd, hlt2, i1, i2⟩ := XY.call (K := fun σ3 r3 => if 1 ≤ β then (zbd (xE tX_formula (β - 1) σ3 [r3]) (fun σ4 r4 => if (σ4.1 3000) = 0 then (lt_ (zI σ4 28 (st.2.2.2.1.length : Int)) (fun σ5 => if zb r4 20100 then (if zr ((st.2.2.1.length : Int) * 1000) then (if zr ((τ.1 25) - (st.2.2.1.length : Int)) then (if zr (((st.2.2.1.length : Int) * 1000) + ((τ.1 25) - (st.2.2.1.length : Int))) then (if zr (((τ.1 25) - (st.2.2.1.length : Int)) + (σ5.2.1 33 r4)) then (if 1 ≤ β then (zbd (zE tM_node (β - 1) σ5 [6 + (kd : Int), r4, (((st.2.2.1.length : Int) * 1000) + ((τ.1 25) - (st.2.2.1.length : Int))), (((τ.1 25) - (st.2.2.1.length : Int)) + (σ5.2.1 33 r4))]) (fun σ6 r6 => lt_ (zI σ6 3000 0) (fun u => some (u, r6)))) else none) else none) else none) else none) else none) else none)) else (some (σ4, 0)))) else none) (nest_ok (β := β - 1) (by omega) ⟨d0, d1⟩ g1 h7)
          rw [e7, if_pos (by omega)]
          have hxk : EX σ κ := hxr.tr i2
          have hfk : FrP σ κ := hfr.tr hF7
          have hfm := fun r h => hM 0 (β - 1) w 0 x κ (adv X n s1) (s + 1) r (by omega) (by omega) (by show 6 * (60 - w) + 24 ≤ ((β - 1 : Nat) : Int); omega) (by omega) i1 (by intro h; omega) h
          rcases pb_r h8 with ⟨k, q, h9, rfl⟩ | ⟨a, h9, h10⟩
          · exact (XN.call (hfm _ h9)).fr hfk
          · cases h10
            obtain ⟨φ, y, e8, hF8, p1, p2, p3, p4⟩ := XY.call (K := fun σ4 r4 => lt_ (zI σ4 28 (st.2.2.2.1.length : Int)) (fun σ5 => if zb r4 20100 then (if zr ((st.2.2.1.length : Int) * 1000) then (if zr ((τ.1 25) - (st.2.2.1.length : Int)) then (if zr (((st.2.2.1.length : Int) * 1000) + ((τ.1 25) - (st.2.2.1.length : Int))) then (if zr (((τ.1 25) - (st.2.2.1.length : Int)) + (σ5.2.1 33 r4)) then (if 1 ≤ β then (zbd (zE tM_node (β - 1) σ5 [6 + (kd : Int), r4, (((st.2.2.1.length : Int) * 1000) + ((τ.1 25) - (st.2.2.1.length : Int))), (((τ.1 25) - (st.2.2.1.length : Int)) + (σ5.2.1 33 r4))]) (fun σ6 r6 => lt_ (zI σ6 3000 0) (fun u => some (u, r6)))) else none) else none) else none) else none) else none) else none)) (hfm _ h9)
            have e8 : zbd (xE tX_formula (β - 1) κ [w]) _ = _ := e8
            rw [e8]
            have p4 : a.1.2.2.2.1 = s1.2.2.2.1 := p4
            obtain ⟨θ, hθ⟩ : ∃ t, t = zI φ 28 (st.2.2.2.1.length : Int) := ⟨_, rfl⟩
            have hRθ : RP X n θ (a.1.1, a.1.2.1, a.1.2.2.1, st.2.2.2.1, a.1.2.2.2.2) (s + 1) := by
              obtain ⟨hA, hN, hB, hC, hD, hl, hK⟩ := p2
              have ti : ∀ j, j ≠ 28 → θ.1 j = φ.1 j := fun j hj => by rw [hθ]; exact zI_o hj
              have ta : θ.2 = φ.2 := by rw [hθ]; rfl
              refine ⟨hA.c (fun j hj => ti j (by omega)) (by rw [ta]), hN.c ⟨ti _ (by decide), ti _ (by decide)⟩ (fun b _ => by rw [ta]), hB.c (ti _ (by decide)) ⟨by rw [ta], by rw [ta], by rw [ta]⟩, ?_, hD.c (Nat.le_refl _) (ti _ (by decide)) (by rw [ta]), ?_, hK.c (Int.le_refl _) ⟨ti _ (by decide), ti _ (by decide), ti _ (by decide)⟩⟩
              · refine ⟨by rw [hθ, zI_1], fun i v hv => ?_⟩
                have hi := (List.getElem?_eq_some_iff.mp hv).1
                have hi : i < st.2.2.2.1.length := hi
                obtain ⟨z1, z2, z3⟩ := hC.2 (L.length + i) v (by rw [p4, hsc1, List.getElem?_append_right (by omega), Nat.add_sub_cancel_left]; exact hv)
                refine ⟨?_, z2, z3⟩
                rw [ta]
                rw [p4, hsc1, List.length_append] at z1
                rw [← z1]
                show φ.2.1 26 ((st.2.2.2.1.length : Int) - 1 - (i : Int)) = _
                rw [show (st.2.2.2.1.length : Int) - 1 - (i : Int) = ((L.length + st.2.2.2.1.length : Nat) : Int) - 1 - ((L.length + i : Nat) : Int) by omega]
              · show st.2.2.2.1.length + a.1.2.2.2.2.length ≤ a.1.2.2.1.length
                have hl2 : a.1.2.2.2.1.length + a.1.2.2.2.2.length ≤ a.1.2.2.1.length := hl
                rw [p4, hsc1, List.length_append] at hl2
                omega
            have hxθ : EX φ θ := by rw [hθ]; exact EX.of ⟨zI_o, zI_o, zI_o⟩ (fun _ _ => rfl)
            have pf := p1.x hxθ
            obtain ⟨y0, y1, y2⟩ := pf.b
            have f1 := hgt_1 a.2
            have f2 := pf.2
            have hKt := hRθ.2.2.2.2.2.2
            have hpt := hRθ.1.1.2.2.2.1
            have hnt := hRθ.1.1.2.2.2.2
            have hk2 := hKt.2.1
            have hpt : a.1.1 ≤ n := hpt
            have hk2 : θ.1 37 ≤ a.1.1 - (s + 1) := hk2
            show XR (if zb y 20100 then (if zr ((st.2.2.1.length : Int) * 1000) then (if zr ((τ.1 25) - (st.2.2.1.length : Int)) then (if zr (((st.2.2.1.length : Int) * 1000) + ((τ.1 25) - (st.2.2.1.length : Int))) then (if zr (((τ.1 25) - (st.2.2.1.length : Int)) + ((zI φ 28 (st.2.2.2.1.length : Int)).2.1 33 y)) then (if 1 ≤ β then (zbd (zE tM_node (β - 1) (zI φ 28 (st.2.2.2.1.length : Int)) [6 + (kd : Int), y, (((st.2.2.1.length : Int) * 1000) + ((τ.1 25) - (st.2.2.1.length : Int))), (((τ.1 25) - (st.2.2.1.length : Int)) + ((zI φ 28 (st.2.2.2.1.length : Int)).2.1 33 y))]) (fun σ6 r6 => lt_ (zI σ6 3000 0) (fun u => some (u, r6)))) else none) else none) else none) else none) else none) else none) σ _ _
            rw [← hθ, t25, y2, if_pos ⟨y0, by show y < ((20100 : Nat) : Int); omega⟩, if_pos ⟨by omega, by omega⟩, if_pos ⟨by omega, by omega⟩, if_pos ⟨by omega, by omega⟩, if_pos ⟨by omega, by omega⟩, if_pos (by omega)]
            obtain ⟨c, hc⟩ : ∃ c, θ.1 37 = c := ⟨_, rfl⟩
            obtain ⟨ψ, hψ⟩ : ∃ w, w = zI (zA (zA (zA (zA θ 30 c (6 + (kd : Int))) 31 c y) 32 c ((st.2.2.1.length : Int) * 1000 + ((s1.2.2.1.length : Int) - (st.2.2.1.length : Int)))) 33 c ((s1.2.2.1.length : Int) - (st.2.2.1.length : Int) + hgt a.2)) 37 (c + 1) := ⟨_, rfl⟩
            obtain ⟨t1, t2, t3, t4, t5, t6, t7, t8, t9, t10⟩ := RP.node hRθ s0 hc hψ
            rw [zbd_of (node_e (β := β - 1) hc t9 (by omega)), ← hψ]
            have hx0 : EX ψ (zI ψ 3000 0) := EX.of ⟨zI_o, zI_o, zI_o⟩ (fun _ _ => rfl)
            obtain ⟨⟨hh, pr⟩, _⟩ := pf.x t2
            have hqh : hgt (qnt kd st.2.2.1.length (s1.2.2.1.length - st.2.2.1.length) a.2) = (s1.2.2.1.length : Int) - (st.2.2.1.length : Int) + hgt a.2 := by rw [hgt_qnt]; omega
            refine (XY.ret (σ := ψ) (r := c) ⟨RFo.x hx0 ⟨⟨hh + 1, t9, by omega, by rw [t8]; exact hqh.symm, ?_⟩, ?_⟩, t1.f (by decide), ((((hxk.tr p3).tr hxθ).tr t2).tr hx0), rfl⟩).fr (((hfk.tr hF8).tr (by rw [hθ]; exact FrP.i)).tr t3)
            · refine Or.inr (Or.inr (Or.inr (Or.inr (Or.inr ⟨kd, st.2.2.1.length, s1.2.2.1.length - st.2.2.1.length, a.2, hkd, by omega, by omega, rfl, t5, ?_, by rw [t6]; exact pr⟩))))
              rw [t7]; omega
            · show hgt (qnt kd st.2.2.1.length (s1.2.2.1.length - st.2.2.1.length) a.2) ≤ _
              rw [hqh, t4]; omega
      · rw [if_neg c58] at h3 hm
        cases h3
        exact (XN.call hm).fr hft
  · rw [if_neg c1] at hr
    cases hr
    rw [if_neg c1, if_neg (by rw [hT6.2.2.2.1]; exact tk_304)]
    have := (XN.thr (σ := ω) (a := 1) (b := ω.1 9)).fr hfw
    rw [hT6.2.2.1] at this
    rw [hT6.2.2.1]
    exact this
theorem unit_ok {X : Int → Int} {n : Int} (hX : TXT X n) {m : Nat} (hM : FMm X n m) {β : Nat} {d : Int} {x : Tm} {σ : zS} {st : PS} {s : Int} {r : (Int × Int) ⊕ (PS × Tm)} (d0 : 0 ≤ d) (d1 : d ≤ 60) (hβ : 6 * (60 - d) + 20 ≤ (β : Int)) (s0 : 0 ≤ s) (hR : RP X n σ st s) (hr : (if tk X n st.1 = 126 then pb (nstS X n d (adv X n st)) (fun d1 => pb (fmS X n m 4 d1 x (adv X n st)) (fun r => pOk (r.1, mk1 3 r.2)))
    else if tk X n st.1 = 33 ∨ tk X n st.1 = 63 then
      if tk X n (adv X n st).1 = 1 then pb (bdsS X n m (adv X n st)) (fun s1 => if tk X n s1.1 = 58 then pb (nstS X n d (adv X n s1)) (fun d1 => pb (fmS X n m 0 d1 x (adv X n s1)) (fun r => pOk ((r.1.1, r.1.2.1, r.1.2.2.1, st.2.2.2.1, r.1.2.2.2.2), qnt (if tk X n st.1 = 33 then 0 else 1) st.2.2.1.length (s1.2.2.1.length - st.2.2.1.length) r.2))) else pNo 1 (tq X n s1.1))
      else pNo 1 (tq X n (adv X n st).1)
    else if tk X n st.1 = 40 then pb (nstS X n d (adv X n st)) (fun d1 => pb (fmS X n m 0 d1 x (adv X n st)) (fun r => if tk X n r.1.1 = 41 then pOk (adv X n r.1, r.2) else pNo 1 (tq X n r.1.1)))
    else if tk X n st.1 = 1 ∨ tk X n st.1 = 2 then atmS X n m d st
    else pNo 1 (tq X n st.1)) = some r) : XR (xE tX_unit β σ [d]) σ r (fun a τ v => FmQ X n σ st s a τ v) := by
  have hpn := hR.1.1.2.2.2.1
  have hnn := hR.1.1.2.2.2.2
  rw [xq_unit, kW_unit, if_pos (by omega)]
  obtain ⟨ω, e4, h6, hT6, hF4⟩ := hR.pk (β := β - 1) (by omega)
  rw [zbd_of e4]
  have hx4 := hF4.x
  have hf4 := hF4.p
  by_cases c126 : tk X n st.1 = 126
  · rw [if_pos c126] at hr
    rw [if_pos c126, if_pos (by omega)]
    obtain ⟨υ, e3, h5, hF3, hlt⟩ := h6.tk1 (β := β - 1) (by omega) (by rw [c126]; decide)
    rw [zbd_of e3, if_pos (by omega)]
    have hx : EX σ υ := hx4.tr hF3.x
    have hf : FrP σ υ := hf4.tr hF3.p
    rcases pb_r hr with ⟨k, q, h8, rfl⟩ | ⟨dd, h8, h9⟩
    · exact (XN.call (nest_ok (β := β - 1) (by omega) ⟨d0, d1⟩ h5 h8)).fr hf
    · obtain ⟨ρ, y, e5, hF5, rfl, hd, hlt2, j1, j2⟩ := XY.call (K := fun σ7 r7 => if 1 ≤ β then (zbd (xE tX_unit (β - 1) σ7 [r7]) (fun σ8 r8 => if (σ8.1 3000) = 0 then (if zb r8 20100 then (if zr (1 + (σ8.2.1 33 r8)) then (if 1 ≤ β then (zbd (zE tM_node (β - 1) σ8 [1, r8, 0, (1 + (σ8.2.1 33 r8))]) (fun σ9 r9 => lt_ (zI σ9 3000 0) (fun u => some (u, r9)))) else none) else none) else none) else (some (σ8, 0)))) else none) (nest_ok (β := β - 1) (by omega) ⟨d0, d1⟩ h5 h8)
      rw [e5, if_pos (by omega)]
      have hx2 := hx.tr j2
      have hf2 := hf.tr hF5
      have h7 := fun r h => hM 4 (β - 1) y 0 x ρ (adv X n st) (s + 1) r (by omega) (by omega) (by show 6 * (60 - y) + 20 ≤ ((β - 1 : Nat) : Int); omega) (by omega) j1 (by intro h; omega) h
      rcases pb_r h9 with ⟨k, q, h10, rfl⟩ | ⟨b, h10, h11⟩
      · exact (XN.call (h7 _ h10)).fr hf2
      · cases h11
        obtain ⟨φ, y2, e8, hF8, p1, p2, p3, p4⟩ := XY.call (K := fun σ8 r8 => if zb r8 20100 then (if zr (1 + (σ8.2.1 33 r8)) then (if 1 ≤ β then (zbd (zE tM_node (β - 1) σ8 [1, r8, 0, (1 + (σ8.2.1 33 r8))]) (fun σ9 r9 => lt_ (zI σ9 3000 0) (fun u => some (u, r9)))) else none) else none) else none) (h7 _ h10)
        have e8 : zbd (xE tX_unit (β - 1) ρ [y]) _ = _ := e8
        rw [e8]
        obtain ⟨y0, y1, y3⟩ := p1.b
        have f1 := hgt_1 b.2
        have f2 := p1.2
        have hk2 := p2.2.2.2.2.2.2.2.1
        have hpt := p2.1.1.2.2.2.1
        rw [if_pos ⟨y0, by show y2 < ((20100 : Nat) : Int); omega⟩, y3, if_pos ⟨by omega, by omega⟩, if_pos (by omega)]
        obtain ⟨c, hc⟩ : ∃ c, φ.1 37 = c := ⟨_, rfl⟩
        obtain ⟨ψ, hψ⟩ : ∃ w, w = zI (zA (zA (zA (zA φ 30 c 1) 31 c y2) 32 c 0) 33 c (1 + hgt b.2)) 37 (c + 1) := ⟨_, rfl⟩
        obtain ⟨t1, t2, t3, t4, t5, t6, t7, t8, t9, t10⟩ := RP.node p2 s0 hc hψ
        rw [zbd_of (node_e (β := β - 1) hc t9 (by omega)), ← hψ]
        obtain ⟨⟨hh, pr⟩, _⟩ := p1.x t2
        have hqh : hgt (mk1 3 b.2) = 1 + hgt b.2 := hgt_mk1 (by decide)
        refine (XY.ret (FmQ.f (b.1, mk1 3 b.2) ψ c ⟨⟨⟨hh + 1, t9, by omega, by rw [t8]; exact hqh.symm, ?_⟩, ?_⟩, t1, (hx2.tr p3).tr t2, p4⟩)).fr ((hf2.tr hF8).tr t3)
        · exact Or.inr (Or.inr (Or.inr (Or.inl ⟨b.2, rfl, t5, by rw [t6]; exact pr⟩)))
        · show hgt (mk1 3 b.2) ≤ _
          rw [hqh, t4]; omega
  rw [if_neg c126] at hr
  rw [if_neg c126]
  by_cases cq : tk X n st.1 = 33 ∨ tk X n st.1 = 63
  · rw [if_pos cq] at hr
    have go : ∀ kd : Nat, kd ≤ 1 → (if tk X n st.1 = 33 then 0 else 1) = kd → XR (xE tX_unit_53 β ω [d, tk X n st.1]) σ r (fun a τ v => FmQ X n σ st s a τ v) := fun kd hkd hk => by
      rw [hk] at hr
      have h7 := bound_ok (X := X) (n := n) hM (β := β - 1) (d := d) (x := x) hkd d0 d1 (by omega) s0 h6 (by omega) hr
      have e68 : xE tX_unit_53 β ω [d, tk X n st.1] = xE tX_unit_68 β ω [d, tk X n st.1, 6 + (kd : Int), d] := by
        rw [xq_unit_53, kW_unit_53]
        by_cases c33 : tk X n st.1 = 33
        · rw [if_pos c33] at hk ⊢
          rw [← hk]; rfl
        · rw [if_neg c33] at hk ⊢
          rw [← hk]; rfl
      rw [e68, xq_unit_68, kW_unit_68, if_pos (by omega)]
      exact FmQ.tr hx4 hf4 rfl (Int.le_refl _) (XR.ret h7 FmQ.f)
    by_cases c33 : tk X n st.1 = 33
    · rw [if_pos c33]
      exact go 0 (by decide) (if_pos c33)
    · have c63 : tk X n st.1 = 63 := by omega
      rw [if_neg c33, if_pos c63]
      exact go 1 (by decide) (if_neg c33)
  rw [if_neg cq] at hr
  rw [if_neg (by omega), if_neg (by omega)]
  by_cases c40 : tk X n st.1 = 40
  · rw [if_pos c40] at hr
    rw [if_pos c40, if_pos (by omega)]
    obtain ⟨υ, e3, h5, hF3, hlt⟩ := h6.tk1 (β := β - 1) (by omega) (by rw [c40]; decide)
    have h5 := h5.s (s2 := s) (by omega)
    rw [zbd_of e3, if_pos (by omega)]
    have hx : EX σ υ := hx4.tr hF3.x
    have hf : FrP σ υ := hf4.tr hF3.p
    rcases pb_r hr with ⟨k, q, h8, rfl⟩ | ⟨dd, h8, h9⟩
    · exact (XN.call (nest_ok (β := β - 1) (by omega) ⟨d0, d1⟩ h5 h8)).fr hf
    · obtain ⟨ρ, y, e5, hF5, rfl, hd, hlt2, j1, j2⟩ := XY.call (K := fun σ3 r3 => if 1 ≤ β then (zbd (xE tX_formula (β - 1) σ3 [r3]) (fun σ4 r4 => if (σ4.1 3000) = 0 then (if 1 ≤ β then (zbd (xE tX_must (β - 1) σ4 [41]) (fun σ5 r5 => if (σ5.1 3000) = 0 then (lt_ (zI σ5 3000 0) (fun u => some (u, r4))) else (some (σ5, 0)))) else none) else (some (σ4, 0)))) else none) (nest_ok (β := β - 1) (by omega) ⟨d0, d1⟩ h5 h8)
      rw [e5, if_pos (by omega)]
      have hx2 := hx.tr j2
      have hf2 := hf.tr hF5
      have h7 := fun r h => hM 0 (β - 1) y 0 x ρ (adv X n st) s r (by omega) (by omega) (by show 6 * (60 - y) + 24 ≤ ((β - 1 : Nat) : Int); omega) s0 j1 (by intro h; omega) h
      rcases pb_r h9 with ⟨k, q, h10, rfl⟩ | ⟨b, h10, h11⟩
      · exact (XN.call (h7 _ h10)).fr hf2
      · obtain ⟨φ, y2, e8, hF8, p1, p2, p3, p4⟩ := XY.call (K := fun σ4 r4 => if 1 ≤ β then (zbd (xE tX_must (β - 1) σ4 [41]) (fun σ5 r5 => if (σ5.1 3000) = 0 then (lt_ (zI σ5 3000 0) (fun u => some (u, r4))) else (some (σ5, 0)))) else none) (h7 _ h10)
        have e8 : zbd (xE tX_formula (β - 1) ρ [y]) _ = _ := e8
        rw [e8, if_pos (by omega)]
        have hm := must_ok (β := β - 1) (by omega) (c := 41) p2
        by_cases c41 : tk X n b.1.1 = 41
        · rw [if_pos c41] at h11 hm
          cases h11
          obtain ⟨ψ, w, e9, hF9, g1, g2⟩ := XY.call (K := fun σ5 r5 => lt_ (zI σ5 3000 0) (fun u => some (u, y2))) hm
          rw [e9]
          exact (XY.ret (FmQ.f (adv X n b.1, b.2) ψ y2 ⟨p1.x g2, g1, (hx2.tr p3).tr g2, p4⟩)).fr ((hf2.tr hF8).tr hF9)
        · rw [if_neg c41] at h11 hm
          cases h11
          exact (XN.call hm).fr (hf2.tr hF8)
  rw [if_neg c40] at hr
  rw [if_neg c40]
  by_cases ca : tk X n st.1 = 1 ∨ tk X n st.1 = 2
  · rw [if_pos ca] at hr
    have go : XR (xE tX_unit_115 β ω [d, tk X n st.1]) σ r (fun a τ v => FmQ X n σ st s a τ v) := by
      rw [xq_unit_115, kW_unit_115, if_pos (by omega)]
      exact FmQ.tr hx4 hf4 rfl (Int.le_refl _) (XR.ret (atom_ok hX (β := β - 1) d0 d1 (by omega) s0 h6 ca hr) FmQ.f)
    rcases ca with c1 | c2
    · rw [if_pos c1]; exact go
    · rw [if_neg (by omega), if_pos c2]; exact go
  · rw [if_neg ca] at hr
    cases hr
    rw [if_neg (by omega), if_neg (by omega), if_neg (by rw [hT6.2.2.2.1]; exact tk_304)]
    have := (XN.thr (σ := ω) (a := 1) (b := ω.1 9)).fr hf4
    rw [hT6.2.2.1] at this
    rw [hT6.2.2.1]
    exact this
theorem fm_all {X : Int → Int} {n : Int} (hX : TXT X n) : ∀ m, FMm X n m
  | 0 => fun lvl β d xi x σ st s r _ _ _ _ _ _ h => by cases h
  | m + 1 => by
    have hM := fm_all hX m
    intro lvl β d xi x σ st s r d0 d1 hβ s0 hR hacc hr
    have hpn := hR.1.1.2.2.2.1
    match lvl, hβ, hacc, hr with
    | 0, hβ, _, hr =>
      have hβ : 6 * (60 - d) + 24 ≤ (β : Int) := hβ
      show XR (xE tX_formula β σ [d]) σ r _
      replace hr : pb (fmS X n m 1 d x st) (fun r => if tk X n r.1.1 = 302 then pb (fmS X n m 1 d x (adv X n r.1)) (fun u => pOk (u.1, mk2 7 r.2 u.2)) else pOk r) = some r := hr
      rw [xq_formula, kW_formula, if_pos (by omega)]
      rcases pb_r hr with ⟨k, q, h2, rfl⟩ | ⟨a, h2, h3⟩
      · exact XN.call (hM 1 (β - 1) d xi x σ st s _ d0 d1 (by show 6 * (60 - d) + 23 ≤ ((β - 1 : Nat) : Int); omega) s0 hR (by intro h; omega) h2)
      · obtain ⟨τ, v, e1, hF, g1, g2, g3, g4⟩ := XY.call (K := fun σ1 r1 => if 1 ≤ β then (zbd (zE tM_peek (β - 1) σ1 []) (fun σ2 r2 => if r2 = 302 then (if 1 ≤ β then (zbd (zE tM_take (β - 1) σ2 []) (fun σ3 r3 => if 1 ≤ β then (zbd (xE tX_implication (β - 1) σ3 [d]) (fun σ4 r4 => if (σ4.1 3000) = 0 then (if 1 ≤ β then (zbd (zE tM_joined1 (β - 1) σ4 [5, r1, r4]) (fun σ5 r5 => lt_ (zI σ5 3000 0) (fun u => some (u, r5)))) else none) else (some (σ4, 0)))) else none)) else none) else (lt_ (zI σ2 3000 0) (fun u => some (u, r1))))) else none) (hM 1 (β - 1) d xi x σ st s _ d0 d1 (by show 6 * (60 - d) + 23 ≤ ((β - 1 : Nat) : Int); omega) s0 hR (by intro h; omega) h2)
        have e1 : zbd (xE tX_implication (β - 1) σ [d]) _ = _ := e1
        rw [e1, if_pos (by omega)]
        obtain ⟨ω, e4, h6, hT6, hF4⟩ := g2.pk (β := β - 1) (by omega)
        rw [zbd_of e4]
        by_cases c : tk X n a.1.1 = 302
        · rw [if_pos c] at h3
          rw [if_pos c, if_pos (by omega)]
          obtain ⟨υ, e3, h5, hF3, hlt⟩ := h6.tk1 (β := β - 1) (by omega) (by rw [c]; decide)
          rw [zbd_of e3, if_pos (by omega)]
          have hx : EX σ υ := (g3.tr hF4.x).tr hF3.x
          have hf : FrP σ υ := (hF.tr hF4.p).tr hF3.p
          have h7 := fun r h => hM 1 (β - 1) d xi x υ (adv X n a.1) (s + 1) r d0 d1 (by show 6 * (60 - d) + 23 ≤ ((β - 1 : Nat) : Int); omega) (by omega) h5 (by intro h; omega) h
          rcases pb_r h3 with ⟨k, q, h8, rfl⟩ | ⟨b, h8, h9⟩
          · exact (XN.call (h7 _ h8)).fr hf
          · cases h9
            obtain ⟨κ, w, e5, i1, i2, i3, i4, i5⟩ := bin_ok (β := β) (by omega) (K := fun σ5 r5 => lt_ (zI σ5 3000 0) (fun u => some (u, r5))) (by decide : 3 ≤ 3) (by decide : (5 : Int) = 2 + ((3 : Nat) : Int)) s0 (h7 _ h8) ((g1.x hF4.x).x hF3.x)
            have e5 : zbd (xE tX_implication (β - 1) υ [d]) _ = _ := e5
            rw [e5]
            exact (XY.ret (FmQ.f (b.1, mk2 7 a.2 b.2) κ w ⟨i1, i2, hx.tr i3, i5.trans g4⟩)).fr (hf.tr i4)
        · rw [if_neg c] at h3
          cases h3
          rw [if_neg c]
          exact (XY.ret (FmQ.f a ω v ⟨g1.x hF4.x, h6, g3.tr hF4.x, g4⟩)).fr (hF.tr hF4.p)
    | 1, hβ, _, hr =>
      have hβ : 6 * (60 - d) + 23 ≤ (β : Int) := hβ
      show XR (xE tX_implication β σ [d]) σ r _
      replace hr : pb (fmS X n m 2 d x st) (fun r => if tk X n r.1.1 = 301 then pb (nstS X n d (adv X n r.1)) (fun d1 => pb (fmS X n m 1 d1 x (adv X n r.1)) (fun u => pOk (u.1, mk2 6 r.2 u.2))) else pOk r) = some r := hr
      rw [xq_implication, kW_implication, if_pos (by omega)]
      rcases pb_r hr with ⟨k, q, h2, rfl⟩ | ⟨a, h2, h3⟩
      · exact XN.call (hM 2 (β - 1) d xi x σ st s _ d0 d1 (by show 6 * (60 - d) + 22 ≤ ((β - 1 : Nat) : Int); omega) s0 hR (by intro h; omega) h2)
      · obtain ⟨τ, v, e1, hF, g1, g2, g3, g4⟩ := XY.call (K := fun σ1 r1 => if 1 ≤ β then (zbd (zE tM_peek (β - 1) σ1 []) (fun σ2 r2 => if r2 = 301 then (if 1 ≤ β then (zbd (zE tM_take (β - 1) σ2 []) (fun σ3 r3 => if 1 ≤ β then (zbd (xE tX_nest (β - 1) σ3 [d]) (fun σ4 r4 => if (σ4.1 3000) = 0 then (if 1 ≤ β then (zbd (xE tX_implication (β - 1) σ4 [r4]) (fun σ5 r5 => if (σ5.1 3000) = 0 then (if 1 ≤ β then (zbd (zE tM_joined1 (β - 1) σ5 [4, r1, r5]) (fun σ6 r6 => lt_ (zI σ6 3000 0) (fun u => some (u, r6)))) else none) else (some (σ5, 0)))) else none) else (some (σ4, 0)))) else none)) else none) else (lt_ (zI σ2 3000 0) (fun u => some (u, r1))))) else none) (hM 2 (β - 1) d xi x σ st s _ d0 d1 (by show 6 * (60 - d) + 22 ≤ ((β - 1 : Nat) : Int); omega) s0 hR (by intro h; omega) h2)
        have e1 : zbd (xE tX_choice (β - 1) σ [d]) _ = _ := e1
        rw [e1, if_pos (by omega)]
        obtain ⟨ω, e4, h6, hT6, hF4⟩ := g2.pk (β := β - 1) (by omega)
        rw [zbd_of e4]
        by_cases c : tk X n a.1.1 = 301
        · rw [if_pos c] at h3
          rw [if_pos c, if_pos (by omega)]
          obtain ⟨υ, e3, h5, hF3, hlt⟩ := h6.tk1 (β := β - 1) (by omega) (by rw [c]; decide)
          rw [zbd_of e3, if_pos (by omega)]
          have hx : EX σ υ := (g3.tr hF4.x).tr hF3.x
          have hf : FrP σ υ := (hF.tr hF4.p).tr hF3.p
          rcases pb_r h3 with ⟨k, q, h8, rfl⟩ | ⟨dd, h8, h9⟩
          · exact (XN.call (nest_ok (β := β - 1) (by omega) ⟨d0, d1⟩ h5 h8)).fr hf
          · obtain ⟨ρ, y, e5, hF5, rfl, hd, hlt2, j1, j2⟩ := XY.call (K := fun σ4 r4 => if 1 ≤ β then (zbd (xE tX_implication (β - 1) σ4 [r4]) (fun σ5 r5 => if (σ5.1 3000) = 0 then (if 1 ≤ β then (zbd (zE tM_joined1 (β - 1) σ5 [4, v, r5]) (fun σ6 r6 => lt_ (zI σ6 3000 0) (fun u => some (u, r6)))) else none) else (some (σ5, 0)))) else none) (nest_ok (β := β - 1) (by omega) ⟨d0, d1⟩ h5 h8)
            rw [e5, if_pos (by omega)]
            have hx2 := hx.tr j2
            have hf2 := hf.tr hF5
            have h7 := fun r h => hM 1 (β - 1) y xi x ρ (adv X n a.1) (s + 1) r (by omega) (by omega) (by show 6 * (60 - y) + 23 ≤ ((β - 1 : Nat) : Int); omega) (by omega) j1 (by intro h; omega) h
            rcases pb_r h9 with ⟨k, q, h10, rfl⟩ | ⟨b, h10, h11⟩
            · exact (XN.call (h7 _ h10)).fr hf2
            · cases h11
              obtain ⟨κ, w, e6, i1, i2, i3, i4, i5⟩ := bin_ok (β := β) (by omega) (K := fun σ5 r5 => lt_ (zI σ5 3000 0) (fun u => some (u, r5))) (by decide : 2 ≤ 3) (by decide : (4 : Int) = 2 + ((2 : Nat) : Int)) s0 (h7 _ h10) (((g1.x hF4.x).x hF3.x).x j2)
              have e6 : zbd (xE tX_implication (β - 1) ρ [y]) _ = _ := e6
              rw [e6]
              exact (XY.ret (FmQ.f (b.1, mk2 6 a.2 b.2) κ w ⟨i1, i2, hx2.tr i3, i5.trans g4⟩)).fr (hf2.tr i4)
        · rw [if_neg c] at h3
          cases h3
          rw [if_neg c]
          exact (XY.ret (FmQ.f a ω v ⟨g1.x hF4.x, h6, g3.tr hF4.x, g4⟩)).fr (hF.tr hF4.p)
    | 2, hβ, _, hr =>
      have hβ : 6 * (60 - d) + 22 ≤ (β : Int) := hβ
      show XR (xE tX_choice β σ [d]) σ r _
      replace hr : pb (fmS X n m 3 d x st) (fun r => fmS X n m 5 d r.2 r.1) = some r := hr
      rw [xq_choice, kW_choice, if_pos (by omega)]
      rcases pb_r hr with ⟨k, q, h2, rfl⟩ | ⟨a, h2, h3⟩
      · exact XN.call (hM 3 (β - 1) d xi x σ st s _ d0 d1 (by show 6 * (60 - d) + 21 ≤ ((β - 1 : Nat) : Int); omega) s0 hR (by intro h; omega) h2)
      · obtain ⟨τ, v, e1, hF, g1, g2, g3, g4⟩ := XY.call (K := fun σ1 r1 => xE tX_choice_6 β σ1 [d, r1]) (hM 3 (β - 1) d xi x σ st s _ d0 d1 (by show 6 * (60 - d) + 21 ≤ ((β - 1 : Nat) : Int); omega) s0 hR (by intro h; omega) h2)
        have e1 : zbd (xE tX_joint (β - 1) σ [d]) _ = _ := e1
        rw [e1]
        exact FmQ.tr g3 hF g4 (Int.le_refl _) (hM 5 β d v a.2 τ a.1 s r d0 d1 hβ s0 g2 (fun _ => g1) h3)
    | 3, hβ, _, hr =>
      have hβ : 6 * (60 - d) + 21 ≤ (β : Int) := hβ
      show XR (xE tX_joint β σ [d]) σ r _
      replace hr : pb (fmS X n m 4 d x st) (fun r => fmS X n m 6 d r.2 r.1) = some r := hr
      rw [xq_joint, kW_joint, if_pos (by omega)]
      rcases pb_r hr with ⟨k, q, h2, rfl⟩ | ⟨a, h2, h3⟩
      · exact XN.call (hM 4 (β - 1) d xi x σ st s _ d0 d1 (by show 6 * (60 - d) + 20 ≤ ((β - 1 : Nat) : Int); omega) s0 hR (by intro h; omega) h2)
      · obtain ⟨τ, v, e1, hF, g1, g2, g3, g4⟩ := XY.call (K := fun σ1 r1 => xE tX_joint_6 β σ1 [d, r1]) (hM 4 (β - 1) d xi x σ st s _ d0 d1 (by show 6 * (60 - d) + 20 ≤ ((β - 1 : Nat) : Int); omega) s0 hR (by intro h; omega) h2)
        have e1 : zbd (xE tX_unit (β - 1) σ [d]) _ = _ := e1
        rw [e1]
        exact FmQ.tr g3 hF g4 (Int.le_refl _) (hM 6 β d v a.2 τ a.1 s r d0 d1 hβ s0 g2 (fun _ => g1) h3)
    | 5, hβ, hacc, hr =>
      have hβ : 6 * (60 - d) + 22 ≤ (β : Int) := hβ
      show XR (xE tX_choice_6 β σ [d, xi]) σ r _
      replace hr : (if tk X n st.1 = 124 then pb (fmS X n m 3 d x (adv X n st)) (fun r => fmS X n m 5 d (mk2 5 x r.2) r.1) else pOk (st, x)) = some r := hr
      rw [xq_choice_6, kW_choice_6, if_pos (by omega)]
      obtain ⟨ω, e4, h6, hT6, hF4⟩ := hR.pk (β := β - 1) (by omega)
      rw [zbd_of e4]
      have hx0 := hacc (Or.inl rfl)
      by_cases c : tk X n st.1 = 124
      · rw [if_pos c] at hr
        rw [if_pos c, if_pos (by omega)]
        obtain ⟨υ, e3, h5, hF3, hlt⟩ := h6.tk1 (β := β - 1) (by omega) (by rw [c]; decide)
        rw [zbd_of e3, if_pos (by omega)]
        have hx : EX σ υ := hF4.x.tr hF3.x
        have hf : FrP σ υ := hF4.p.tr hF3.p
        have h7 := fun r h => hM 3 (β - 1) d xi x υ (adv X n st) (s + 1) r d0 d1 (by show 6 * (60 - d) + 21 ≤ ((β - 1 : Nat) : Int); omega) (by omega) h5 (by intro h; omega) h
        rcases pb_r hr with ⟨k, q, h8, rfl⟩ | ⟨b, h8, h9⟩
        · exact (XN.call (h7 _ h8)).fr hf
        · obtain ⟨κ, w, e5, i1, i2, i3, i4, i5⟩ := bin_ok (β := β) (by omega) (K := fun σ4 r4 => xE tX_choice_6 β σ4 [d, r4]) (by decide : 1 ≤ 3) (by decide : (3 : Int) = 2 + ((1 : Nat) : Int)) s0 (h7 _ h8) ((hx0.x hF4.x).x hF3.x)
          have e5 : zbd (xE tX_joint (β - 1) υ [d]) _ = _ := e5
          rw [e5]
          exact FmQ.tr (hx.tr i3) (hf.tr i4) i5 (Int.le_refl _) (hM 5 β d w (mk2 5 x b.2) κ b.1 s r d0 d1 hβ s0 i2 (fun _ => i1) h9)
      · rw [if_neg c] at hr
        cases hr
        rw [if_neg c]
        exact (XY.ret (FmQ.f (st, x) ω xi ⟨hx0.x hF4.x, h6, hF4.x, rfl⟩)).fr hF4.p
    | 6, hβ, hacc, hr =>
      have hβ : 6 * (60 - d) + 21 ≤ (β : Int) := hβ
      show XR (xE tX_joint_6 β σ [d, xi]) σ r _
      replace hr : (if tk X n st.1 = 38 then pb (fmS X n m 4 d x (adv X n st)) (fun r => fmS X n m 6 d (mk2 4 x r.2) r.1) else pOk (st, x)) = some r := hr
      rw [xq_joint_6, kW_joint_6, if_pos (by omega)]
      obtain ⟨ω, e4, h6, hT6, hF4⟩ := hR.pk (β := β - 1) (by omega)
      rw [zbd_of e4]
      have hx0 := hacc (Or.inr rfl)
      by_cases c : tk X n st.1 = 38
      · rw [if_pos c] at hr
        rw [if_pos c, if_pos (by omega)]
        obtain ⟨υ, e3, h5, hF3, hlt⟩ := h6.tk1 (β := β - 1) (by omega) (by rw [c]; decide)
        rw [zbd_of e3, if_pos (by omega)]
        have hx : EX σ υ := hF4.x.tr hF3.x
        have hf : FrP σ υ := hF4.p.tr hF3.p
        have h7 := fun r h => hM 4 (β - 1) d xi x υ (adv X n st) (s + 1) r d0 d1 (by show 6 * (60 - d) + 20 ≤ ((β - 1 : Nat) : Int); omega) (by omega) h5 (by intro h; omega) h
        rcases pb_r hr with ⟨k, q, h8, rfl⟩ | ⟨b, h8, h9⟩
        · exact (XN.call (h7 _ h8)).fr hf
        · obtain ⟨κ, w, e5, i1, i2, i3, i4, i5⟩ := bin_ok (β := β) (by omega) (K := fun σ4 r4 => xE tX_joint_6 β σ4 [d, r4]) (by decide : 0 ≤ 3) (by decide : (2 : Int) = 2 + ((0 : Nat) : Int)) s0 (h7 _ h8) ((hx0.x hF4.x).x hF3.x)
          have e5 : zbd (xE tX_unit (β - 1) υ [d]) _ = _ := e5
          rw [e5]
          exact FmQ.tr (hx.tr i3) (hf.tr i4) i5 (Int.le_refl _) (hM 6 β d w (mk2 4 x b.2) κ b.1 s r d0 d1 hβ s0 i2 (fun _ => i1) h9)
      · rw [if_neg c] at hr
        cases hr
        rw [if_neg c]
        exact (XY.ret (FmQ.f (st, x) ω xi ⟨hx0.x hF4.x, h6, hF4.x, rfl⟩)).fr hF4.p
    | 4, hβ, _, hr => exact unit_ok hX hM d0 d1 hβ s0 hR hr
    | l + 7, hβ, _, hr => exact unit_ok hX hM d0 d1 hβ s0 hR hr
