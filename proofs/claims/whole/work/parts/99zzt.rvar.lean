/-! a VARIABLE of the TEXT, a NAME of the TEXT -/
theorem tqe {X : Int → Int} {n p : Int} (h0 : 0 ≤ p) (hp : p ≤ n) : 0 ≤ tq X n p ∧ tq X n p ≤ te X n p ∧ te X n p ≤ n := by
  have h1 := tq_ge (T := X) (n := n) (p := p)
  refine ⟨by omega, ?_, te_le hp⟩
  unfold tq te
  by_cases h9 : sk X n p < n
  · have := (tok_e (T := X) h9).1; omega
  · unfold tok; rw [if_pos (by omega)]; exact Int.le_refl _
theorem RBd.add {n : Int} {σ τ : zS} {bd : List (Int × Int)} {q z : Int} (h : RBd n σ bd) (hb : bd.length < 300) (h25 : τ.1 25 = (bd.length : Int) + 1) (h21 : τ.2.1 21 = (zA σ 21 bd.length q).2.1 21) (h22 : τ.2.1 22 = (zA σ 22 bd.length z).2.1 22) (h24 : τ.2.1 24 = (zA σ 24 bd.length 0).2.1 24) (hq : 0 ≤ q) (hz : 0 ≤ z) (hqz : q + z ≤ n) : RBd n τ (bd ++ [(q, z)]) := by
  obtain ⟨b1, b2', b3⟩ := h
  refine ⟨by rw [h25, List.length_append]; rfl, by simp; omega, fun v x hx => ?_⟩
  rw [h21, h22, h24]
  by_cases hv : v < bd.length
  · rw [List.getElem?_append_left hv] at hx
    rw [zA_q (by omega), zA_q (by omega), zA_q (by omega)]
    exact b3 v x hx
  · have hv2 : v = bd.length := by
      have := (List.getElem?_eq_some_iff.mp hx).1
      simp at this; omega
    subst hv2
    rw [List.getElem?_append_right (Nat.le_refl _), Nat.sub_self] at hx
    cases hx
    rw [zA_s, zA_s, zA_s]
    exact ⟨rfl, rfl, rfl, hq, hz, hqz⟩
theorem var_39 {X : Int → Int} {n : Int} {β : Nat} (hβ : 1 ≤ β) {σ : zS} {st : PS} (hA : TkA X n σ st.1) (hS : TkS X n σ st.1) (hB : RBd n σ st.2.2.1) (hC : RFr σ st.2.2.1.length st.2.2.2.2) (hle : st.2.2.2.2.length ≤ 300) : ∀ (k i : Nat), i + k = st.2.2.2.2.length →
    xE tX_variable_39 β σ [(i : Int)] = (match vrF X (wd X (tq X n st.1) (te X n st.1)) st.2.2.1 (st.2.2.2.2.drop i) with
      | some v => some (zI σ 3000 0, v)
      | none => xE tX_variable_39 β σ [(st.2.2.2.2.length : Int)])
  | 0, i, hi => by
    rw [List.drop_eq_nil_iff.mpr (by omega)]
    show _ = xE tX_variable_39 β σ [(st.2.2.2.2.length : Int)]
    rw [show i = st.2.2.2.2.length by omega]
  | k + 1, i, hi => by
    obtain ⟨v, hv⟩ : ∃ v, st.2.2.2.2[i]? = some v := ⟨_, List.getElem?_eq_getElem (by omega)⟩
    have hd : st.2.2.2.2.drop i = v :: st.2.2.2.2.drop (i + 1) := by
      rw [List.drop_eq_getElem_cons (by omega)]
      congr 1
      exact (List.getElem?_eq_some_iff.mp hv).2
    obtain ⟨c1, c2, c3⟩ := hC.2 i v hv
    have h29 := hC.1
    rw [hd]
    conv => lhs; rw [xq_variable_39, kW_variable_39, if_neg (by omega), if_pos ⟨by omega, by omega⟩, if_pos hβ, c1]
    have e1 := isb_ok (β := β - 1) hA hS hB (v := v.toNat) (by omega)
    rw [show ((v.toNat : Nat) : Int) = v by omega] at e1
    rw [zbd_of e1]
    show _ = (match (if bwd X st.2.2.1 v = wd X (tq X n st.1) (te X n st.1) then some v else vrF X (wd X (tq X n st.1) (te X n st.1)) st.2.2.1 (st.2.2.2.2.drop (i + 1))) with
      | some v => some (zI σ 3000 0, v)
      | none => xE tX_variable_39 β σ [(st.2.2.2.2.length : Int)])
    by_cases hw : bwd X st.2.2.1 v = wd X (tq X n st.1) (te X n st.1)
    · rw [b2_t hw, if_neg (by decide), if_pos hw, c1]
      rfl
    · rw [b2_f hw, if_pos rfl, if_neg hw, if_pos ⟨by omega, by omega⟩, show (i : Int) + 1 = ((i + 1 : Nat) : Int) by omega]
      exact var_39 hβ hA hS hB hC hle k (i + 1) (by omega)
theorem vrF_mem {X : Int → Int} {w : List Int} {bd : List (Int × Int)} : ∀ {L : List Int} {v : Int}, vrF X w bd L = some v → v ∈ L
  | [], v, h => by cases h
  | x :: L, v, h => by
    unfold vrF at h
    by_cases hx : bwd X bd x = w
    · rw [if_pos hx] at h; cases h; exact List.mem_cons_self
    · rw [if_neg hx] at h; exact List.mem_cons_of_mem _ (vrF_mem h)
set_option maxRecDepth 4000 in
theorem variable_ok {X : Int → Int} {n : Int} {β : Nat} (hβ : 1 ≤ β) {σ : zS} {st : PS} {s : Int} (h : RP X n σ st s) (hS : TkS X n σ st.1) {r : (Int × Int) ⊕ (PS × Int)} (hr : varS X n st = some r) : XR (xE tX_variable β σ []) σ r (fun a τ v => v = a.2 ∧ 0 ≤ v ∧ v < (a.1.2.2.1.length : Int) ∧ a.1.1 = st.1 ∧ RP X n τ a.1 s ∧ TkS X n τ st.1 ∧ EX σ τ) := by
  obtain ⟨hA, hN, hB, hC, hD, hl, hK⟩ := h
  have h300 := hB.2.1
  obtain ⟨w, hw⟩ : ∃ w, w = wd X (tq X n st.1) (te X n st.1) := ⟨_, rfl⟩
  unfold varS at hr
  rw [xq_variable, kW_variable, hC.1, if_pos ⟨by omega, by omega⟩]
  have e7 := var_7 hβ hA hS hB hC (by omega) _ 0 (by omega : 0 + st.2.2.2.1.length = st.2.2.2.1.length)
  rw [show (st.2.2.2.1.length : Int) - 1 - ((0 : Nat) : Int) = (st.2.2.2.1.length : Int) - 1 by omega, List.drop_zero] at e7
  rw [e7]
  have yes : ∀ v : Int, 0 ≤ v → v < (st.2.2.1.length : Int) → XR (α := PS × Int) (some (zI σ 3000 0, v)) σ (.inr (st, v)) (fun a τ v => v = a.2 ∧ 0 ≤ v ∧ v < (a.1.2.2.1.length : Int) ∧ a.1.1 = st.1 ∧ RP X n τ a.1 s ∧ TkS X n τ st.1 ∧ EX σ τ) := fun v v0 v1 =>
    XY.ret (σ := σ) (r := v) ⟨rfl, v0, v1, rfl, RP.f ⟨hA, hN, hB, hC, hD, hl, hK⟩ (by decide), hS.c (fun j hj => zI_o (by omega)), EX.of ⟨zI_o, zI_o, zI_o⟩ (fun _ _ => rfl)⟩
  cases hv : vrF X (wd X (tq X n st.1) (te X n st.1)) st.2.2.1 st.2.2.2.1 with
  | some v =>
    rw [hv] at hr
    cases hr
    obtain ⟨i, hi⟩ := List.mem_iff_getElem?.mp (vrF_mem hv)
    obtain ⟨_, c2, c3⟩ := hC.2 i v hi
    exact yes v c2 c3
  | none =>
    rw [hv] at hr
    have e39 := var_39 hβ hA hS hB hD (by omega) _ 0 (by omega : 0 + st.2.2.2.2.length = st.2.2.2.2.length)
    rw [List.drop_zero] at e39
    show XR (xE tX_variable_39 β σ [0]) σ r _
    rw [show (0 : Int) = ((0 : Nat) : Int) from rfl, e39]
    cases hv2 : vrF X (wd X (tq X n st.1) (te X n st.1)) st.2.2.1 st.2.2.2.2 with
    | some v =>
      rw [hv2] at hr
      cases hr
      obtain ⟨i, hi⟩ := List.mem_iff_getElem?.mp (vrF_mem hv2)
      obtain ⟨_, c2, c3⟩ := hD.2 i v hi
      exact yes v c2 c3
    | none =>
      rw [hv2] at hr
      have h29 := hD.1
      have h25 := hB.1
      show XR (xE tX_variable_39 β σ [(st.2.2.2.2.length : Int)]) σ r _
      rw [xq_variable_39, kW_variable_39, if_pos (by omega), if_pos hβ]
      obtain ⟨⟨hT, hn2, hp0, hpn, hn⟩, _⟩ := id hA
      obtain ⟨q0, q1, q2⟩ := tqe (X := X) hp0 hpn
      have s9 := hS.2.2.1
      have s10 := hS.2.2.2.2.1
      replace hr : pb (bndS X n st) (fun r => pOk ((r.1.1, r.1.2.1, r.1.2.2.1, r.1.2.2.2.1, r.1.2.2.2.2 ++ [r.2]), r.2)) = some r := hr
      unfold bndS at hr
      by_cases hb : st.2.2.1.length = 300
      · rw [if_pos hb] at hr
        cases hr
        have : XN (xE tX_binder (β - 1) σ []) σ 3 (tq X n st.1) := by
          rw [xq_binder, kW_binder, if_pos (by omega), s9]
          exact XN.thr
        exact this.call
      · rw [if_neg hb] at hr
        cases hr
        obtain ⟨b, hbe⟩ : ∃ b, b = st.2.2.1.length := ⟨_, rfl⟩
        rw [← hbe] at hb h300 h25
        have e1 := binder_e (β := β - 1) (σ := σ) (b := b) h25 (by omega) ⟨by omega, by omega⟩
        rw [s9, s10] at e1
        obtain ⟨σ1, hs1⟩ : ∃ s1, s1 = zI (zI (zA (zA (zA σ 21 b (tq X n st.1)) 22 b (te X n st.1 - tq X n st.1)) 24 b 0) 25 ((b : Int) + 1)) 3000 0 := ⟨_, rfl⟩
        rw [← hs1] at e1
        have j29 : σ1.1 29 = σ.1 29 := by rw [hs1, zI_o, zI_o]; rfl
        rw [zbd_of e1, if_pos (by rw [hs1, zI_1]), j29, h29, if_pos ⟨by omega, by omega⟩]
        show XR (if zb (st.2.2.2.2.length : Int) 300 then some (zI (zA (zI σ1 29 ((st.2.2.2.2.length : Int) + 1)) 27 (st.2.2.2.2.length : Int) (b : Int)) 3000 0, (b : Int)) else none) σ _ _
        rw [if_pos ⟨by omega, by omega⟩]
        obtain ⟨τ, hτ⟩ : ∃ t, t = zA (zI σ1 29 ((st.2.2.2.2.length : Int) + 1)) 27 (st.2.2.2.2.length : Int) (b : Int) := ⟨_, rfl⟩
        have i1 : ∀ j, j ≠ 25 → j ≠ 29 → j ≠ 3000 → τ.1 j = σ.1 j := fun j h1 h2 h3 => by
          rw [hτ]
          show (zI σ1 29 _).1 j = _
          rw [zI_o h2, hs1, zI_o h3, zI_o h1]; rfl
        have a1 : ∀ a, a ≠ 21 → a ≠ 22 → a ≠ 24 → a ≠ 27 → τ.2.1 a = σ.2.1 a := fun a h1 h2 h3 h4 => by
          rw [hτ, zA_o h4]
          show σ1.2.1 a = _
          rw [hs1]
          show (zA (zA (zA σ 21 b _) 22 b _) 24 b 0).2.1 a = _
          rw [zA_o h3, zA_o h2, zA_o h1]
        have f1 : FrP σ τ := ⟨fun j hj => i1 j (fun e => hj (by rw [e]; decide)) (fun e => hj (by rw [e]; decide)) (fun e => hj (by rw [e]; decide)), fun a ha => a1 a (fun e => ha (by rw [e]; decide)) (fun e => ha (by rw [e]; decide)) (fun e => ha (by rw [e]; decide)) (fun e => ha (by rw [e]; decide)), by rw [hτ, hs1]; rfl⟩
        have t25 : τ.1 25 = (b : Int) + 1 := by simp [hτ, hs1, zA, zI]
        have t21 : τ.2.1 21 = (zA σ 21 b (tq X n st.1)).2.1 21 := by funext i; simp [hτ, hs1, zA, zI]
        have t22 : τ.2.1 22 = (zA σ 22 b (te X n st.1 - tq X n st.1)).2.1 22 := by funext i; simp [hτ, hs1, zA, zI]
        have t24 : τ.2.1 24 = (zA σ 24 b 0).2.1 24 := by funext i; simp [hτ, hs1, zA, zI]
        have t29 : τ.1 29 = (st.2.2.2.2.length : Int) + 1 := by simp [hτ, hs1, zA, zI]
        have hB2 : RBd n τ (st.2.2.1 ++ [(tq X n st.1, te X n st.1 - tq X n st.1)]) := by
          subst hbe
          exact hB.add (by omega) t25 t21 t22 t24 q0 (by omega) (by omega)
        have hD2 : RFr τ (b + 1) (st.2.2.2.2 ++ [(b : Int)]) := by
          refine ⟨by rw [t29]; simp, fun i v hv => ?_⟩
          by_cases hi : i < st.2.2.2.2.length
          · rw [List.getElem?_append_left hi] at hv
            obtain ⟨c1, c2, c3⟩ := hD.2 i v hv
            refine ⟨?_, c2, by omega⟩
            rw [hτ, zA_q (by omega)]
            show σ1.2.1 27 (i : Int) = v
            rw [hs1]
            show (zA (zA (zA σ 21 b _) 22 b _) 24 b 0).2.1 27 (i : Int) = v
            rw [zA_o, zA_o, zA_o]
            exact c1
          · have hi2 : i = st.2.2.2.2.length := by
              have := (List.getElem?_eq_some_iff.mp hv).1
              simp at this; omega
            subst hi2
            rw [List.getElem?_append_right (Nat.le_refl _), Nat.sub_self] at hv
            cases hv
            exact ⟨by rw [hτ, zA_s], by omega, by omega⟩
        have hlen : (st.2.2.1 ++ [(tq X n st.1, te X n st.1 - tq X n st.1)]).length = b + 1 := by rw [List.length_append, hbe]; rfl
        have hRP : RP X n τ ((st.1, st.2.1, st.2.2.1 ++ [(tq X n st.1, te X n st.1 - tq X n st.1)], st.2.2.2.1, st.2.2.2.2 ++ [(st.2.2.1.length : Int)])) s := by
          rw [← hbe]
          refine ⟨hA.c (fun j hj => i1 j (by omega) (by omega) (by omega)) (a1 0 (by decide) (by decide) (by decide) (by decide)), hN.c ⟨i1 _ (by decide) (by decide) (by decide), i1 _ (by decide) (by decide) (by decide)⟩ (fun a ha => a1 a (by omega) (by omega) (by omega) (by omega)), hB2, ?_, ?_, ?_, hK.c (Int.le_refl _) ⟨i1 _ (by decide) (by decide) (by decide), i1 _ (by decide) (by decide) (by decide), i1 _ (by decide) (by decide) (by decide)⟩⟩
          · show RSc τ (st.2.2.1 ++ _).length _
            rw [hlen]
            exact hC.c (by omega) (i1 _ (by decide) (by decide) (by decide)) (a1 26 (by decide) (by decide) (by decide) (by decide))
          · show RFr τ (st.2.2.1 ++ _).length _
            rw [hlen]
            exact hD2
          · show st.2.2.2.1.length + (st.2.2.2.2 ++ _).length ≤ (st.2.2.1 ++ _).length
            rw [hlen]
            simp
            omega
        rw [← hτ]
        refine (XY.ret (σ := τ) (r := (b : Int)) ⟨by rw [hbe], by omega, ?_, rfl, hRP.f (by decide), hS.c (fun j hj => (zI_o (by omega)).trans (i1 j (by omega) (by omega) (by omega))), ?_⟩).fr f1
        · show (b : Int) < ((st.2.2.1 ++ _).length : Int)
          rw [hlen]; omega
        · exact (EX.of (τ := τ) ⟨i1 _ (by decide) (by decide) (by decide), i1 _ (by decide) (by decide) (by decide), i1 _ (by decide) (by decide) (by decide)⟩ (fun a ha => a1 a (by omega) (by omega) (by omega) (by omega))).tr (EX.of ⟨zI_o, zI_o, zI_o⟩ (fun _ _ => rfl))
