/-! the reference: REWRITING -/
section rrw
variable {ar : Int → Nat} {pd : Int → Prop} {m9 : Int} {Cs : List CL}
theorem rx_24 {β : Nat} (hβ : 102 ≤ β) {k : Nat} {c : CL} (hc : Cs[k]? = some c) (wc : Wc ar m9 c.1) : ∀ (m n : Nat) (σ : zS) (E : List En), RC σ Cs → RE ar m9 σ E → lts E = c.1.take n → σ.1 47 = 205000 + (wtL (c.1.take n) : Int) → n + m = c.1.length →
    ∃ (τ : zS) (E' : List En), zE tM_rewrite_24 β σ [(k : Int), lpos Cs k + (n : Int)] = zE tM_rewrite_81 β τ [(k : Int), 0, 1] ∧ RE ar m9 τ E' ∧ lts E' = c.1 ∧ τ.1 47 = 205000 + (wtL c.1 : Int) ∧ FrC [47, 98] [43, 44, 45, 46, 95, 96, 97] σ τ ∧ PB σ τ
  | 0, n, σ, E, hR, hE, hl, h47, hm => by
    obtain ⟨hk, k1, k2, k3, k4, k5⟩ := hR.k hc
    have hn : n = c.1.length := by omega
    subst hn
    rw [List.take_length] at hl h47
    refine ⟨σ, E, ?_, hE, hl, h47, FrC.refl, PB.refl⟩
    rw [zq_rewrite_24, kZ_rewrite_24, if_pos (by omega), hk.1, hk.2.1, if_pos (by omega), if_pos (by omega)]
  | m + 1, n, σ, E, hR, hE, hl, h47, hm => by
    obtain ⟨hk, k1, k2, k3, k4, k5⟩ := hR.k hc
    obtain ⟨r4', r4''⟩ := hR.2.2.2.1
    obtain ⟨a, ha⟩ : ∃ a, c.1[n]? = some a := ⟨_, List.getElem?_eq_getElem (by omega)⟩
    obtain ⟨l1, l2, l3, l4, l5, l6⟩ := hR.l hc ha
    have wa := wc.2.2.2.2 a (List.mem_of_getElem? ha)
    have w100 := wc.2.1
    have tkn : c.1.take (n + 1) = c.1.take n ++ [a] := by rw [List.take_add_one, ha]; rfl
    have elw : lwt a = tw a.2.1 + tw a.2.2 := rfl
    have wn : wtL (c.1.take n) + lwt a ≤ wtL c.1 := by
      have e2 := congrArg wtL (List.take_append_drop (n + 1) c.1)
      rw [wtL_app, tkn, wtL_app] at e2
      simp only [wtL] at e2
      omega
    have wn1 : wtL (c.1.take (n + 1)) = wtL (c.1.take n) + lwt a := by rw [tkn, wtL_app]; simp only [wtL]; omega
    have ln : E.length = n := by
      have := congrArg List.length hl
      rw [List.length_map, List.length_take] at this; omega
    have e1 : tw a.2.1 = 1 + wt a.2.1.2 := rfl
    have e2 : tw a.2.2 = 1 + wt a.2.2.2 := rfl
    have h1 := ht_le_wt a.2.1.2
    have h2 := ht_le_wt a.2.2.2
    obtain ⟨J, hJ⟩ : ∃ z, z = lpos Cs k + (n : Int) := ⟨_, rfl⟩
    rw [← hJ] at l1 l2 l3 l4 l5 ⊢
    have m1 := l1.1.1
    have m2 := l2.1.1
    obtain ⟨σ1, c1, G1, P1, _⟩ := copy_ok (β := β - 1) l1.1 (by omega) (by omega) (by omega)
    have i1 : σ1.1 47 = σ.1 47 + (tw a.2.1 : Int) := by rw [G1.1]
    have q1 : Pq σ σ1 0 (σ.1 47) := G1.pq (Int.le_refl _)
    have e67 : σ1.2.1 67 J = σ.2.1 67 J := G1.2.2.2 67 J (Or.inr (by omega))
    obtain ⟨σ2, c2, G2, P2, _⟩ := copy_ok (β := β - 1) (Pt_hi q1 l2.1 (by omega)) (by omega) (by omega) (by omega)
    have i2 : σ2.1 47 = σ.1 47 + (tw a.2.1 : Int) + (tw a.2.2 : Int) := by rw [G2.1, i1]
    have q2 : Pq σ1 σ2 0 (σ1.1 47) := G2.pq (Int.le_refl _)
    have q12 : Pq σ σ2 0 (σ.1 47) := fun j i b1 b2 h => by rw [q2 j i b1 (by omega) h, q1 j i b1 b2 h]
    have f12 : FrC [47] [43, 44, 45, 46] σ σ2 := G1.f.trans G2.f
    have e68 : σ2.2.1 68 J = a.1 := by rw [f12.a 68]; exact l5
    obtain ⟨σ3, t1, t2, t3⟩ := add_new (ar := ar) (m9 := m9) (β := β - 1) (a := a) (x := σ.1 47) (y := σ1.1 47) (hE.f f12 q12 (by omega)) (by omega) ⟨Pt_q (Pq.w q2 (by omega) (by omega)) P1, by omega⟩ ⟨P2, by omega⟩ wa (by omega) (by omega) (by omega) hE.b (by rw [hl]; omega)
    have f3 : FrC [47, 98] [43, 44, 45, 46, 95, 96, 97] σ σ3 := f12.w.trans t2.w
    have pq2 : Pq σ2 σ3 0 205000 := t2.pq
    have p3 : PB σ σ3 := fun j i b1 b2 h => by
      rw [pq2 j i b1 b2 h, q12 j i b1 (by omega) h]
    have i3 : σ3.1 47 = σ2.1 47 := t2.i 47
    obtain ⟨τ, E', u1, u2, u3, u4, u5, u6⟩ := rx_24 hβ hc wc m (n + 1) σ3 (E ++ [(a, σ.1 47, σ1.1 47)]) (hR.f f3 p3) t3 (by rw [tkn, ← hl]; simp [lts]) (by rw [i3, i2, wn1]; omega) (by omega)
    refine ⟨τ, E', ?_, u2, u3, u4, f3.trans u5, p3.trans u6⟩
    rw [zq_rewrite_24, kZ_rewrite_24, if_pos (by omega), hk.1, hk.2.1, if_pos (by omega), if_neg (by omega), if_pos (by omega), if_pos (by omega), zbd_of c1, if_pos (by omega), e67, zbd_of c2, if_pos (by omega), e68, zbd_of t1, if_pos (by omega), hJ, show lpos Cs k + (n : Int) + 1 = lpos Cs k + ((n + 1 : Nat) : Int) by omega]
    exact u1
abbrev XL : List Nat := [43, 44, 45, 46, 95, 96, 97, 102, 115]
/-- one side has been replaced -/
theorem RE_up {σ τ : zS} {T1 T2 : List En} {e e' : En} (hE : RE ar m9 σ (T1 ++ e :: T2)) (f : FrC [47, 116, 117, 118] XL σ τ) (p : Pq σ τ 0 (σ.1 47)) (t : σ.1 47 ≤ τ.1 47) (h' : REi ar m9 τ (T1.length : Int) e') (hd : (e'.2.1 = e.2.1 ∧ e'.1.2.1 = e.1.2.1 ∧ σ.1 47 ≤ e'.2.2) ∨ (e'.2.2 = e.2.2 ∧ e'.1.2.2 = e.1.2.2 ∧ σ.1 47 ≤ e'.2.1)) (oth : ∀ j (q : Int), (j = 95 ∨ j = 96 ∨ j = 97) → q ≠ (T1.length : Int) → τ.2.1 j q = σ.2.1 j q) (hw : wtL (lts (T1 ++ e' :: T2)) ≤ 100) : RE ar m9 τ (T1 ++ e' :: T2) := by
  obtain ⟨h1, h2, h3, h4, h5⟩ := id hE
  refine ⟨by rw [f.i 98]; simpa using h1, by simpa using h2, fun i g hg => ?_, Dj_up hd h4 hE.b, hw⟩
  by_cases hi : i < T1.length
  · rw [List.getElem?_append_left hi] at hg
    exact (h3 i g (by rw [List.getElem?_append_left hi]; exact hg)).q (fun j hj => oth j _ hj (by omega)) p t
  · rw [List.getElem?_append_right (by omega)] at hg
    by_cases e0 : i - T1.length = 0
    · rw [e0] at hg
      obtain rfl := Option.some.inj hg
      rw [show i = T1.length by omega]; exact h'
    · obtain ⟨j, hj⟩ : ∃ j, i - T1.length = j + 1 := ⟨i - T1.length - 1, by omega⟩
      rw [hj, List.getElem?_cons_succ] at hg
      exact (h3 i g (by rw [List.getElem?_append_right (by omega), hj, List.getElem?_cons_succ]; exact hg)).q (fun j hj => oth j _ hj (by omega)) p t
abbrev XG (σ τ : zS) : Prop := FrC [47, 116, 117, 118] XL σ τ ∧ PB σ τ
theorem rx_96 {β : Nat} (hβ : 313 ≤ β) (m0 : 0 ≤ m9) (wC : ∀ c ∈ Cs, Wc ar m9 c.1) {x0 x1 : Int} : ∀ (T2 T1 : List En) (σ : zS), RC σ Cs → Pd σ m9 pd → RE ar m9 σ (T1 ++ T2) → FN pd (sgL Cs 0) (cF (lts T1)) → 205000 ≤ σ.1 47 → σ.1 47 + 400 ≤ 420000 →
    ∃ τ, XG σ τ ∧ σ.1 47 ≤ τ.1 47 ∧ τ.1 47 ≤ σ.1 47 + 200 ∧ ((rf pd (sgL Cs 0) (lts (T1 ++ T2)) = none ∧ RE ar m9 τ (T1 ++ T2) ∧ ∃ x3, zE tM_rewrite_96 β σ [x0, x1, 0, (T1.length : Int)] = zE tM_rewrite_186 β τ [x0, x1, 0, x3]) ∨ (∃ (q k : Nat) (z : Tm) (E' : List En), rf pd (sgL Cs 0) (lts (T1 ++ T2)) = some (q, k, z) ∧ RE ar m9 τ E' ∧ lts E' = rpE z q (lts (T1 ++ T2)) ∧ τ.1 118 = (k : Int) ∧ ∃ x3, zE tM_rewrite_96 β σ [x0, x1, 0, (T1.length : Int)] = zE tM_rewrite_186 β τ [x0, x1, 1, x3]))
  | [], T1, σ, hR, hp, hE, hN, h47, h47b => by
    have h1 := hE.1
    rw [List.append_nil] at h1 hE ⊢
    refine ⟨σ, ⟨FrC.refl, PB.refl⟩, Int.le_refl _, by omega, Or.inl ⟨?_, hE, (T1.length : Int), ?_⟩⟩
    · unfold rf; exact rfF_n hN _ _
    · rw [zq_rewrite_96, kZ_rewrite_96, if_pos (by omega)]
  | e :: T2, T1, σ, hR, hp, hE, hN, h47, h47b => by
    obtain ⟨h1, h2, h3, h4, h5⟩ := id hE
    have hlen : (T1 ++ e :: T2).length = T1.length + 1 + T2.length := by simp; omega
    rw [hlen] at h1 h2
    have he := h3 T1.length e (by rw [List.getElem?_append_right (Nat.le_refl _), Nat.sub_self]; rfl)
    obtain ⟨⟨n1, n2, n3⟩, ⟨pL, pR⟩, ⟨ws, wl, wr⟩, ⟨b1, b2⟩, b3, b4⟩ := id he
    have lw : lwt e.1 ≤ wtL (lts (T1 ++ e :: T2)) := wtL_mm (List.mem_map.mpr ⟨e, by simp, rfl⟩)
    have elw : lwt e.1 = tw e.1.2.1 + tw e.1.2.2 := rfl
    have eL : tw e.1.2.1 = 1 + wt e.1.2.1.2 := rfl
    have eR : tw e.1.2.2 = 1 + wt e.1.2.2.2 := rfl
    have lsp : lts (T1 ++ e :: T2) = lts T1 ++ e.1 :: lts T2 := by simp [lts]
    have cfe : cF (lts (T1 ++ e :: T2)) = cat (cF (lts T1)) (cat (cat (tt e.1.2.1) (tt e.1.2.2)) (cF (lts T2))) := by
      rw [lsp, cF_app]; rfl
    have wsum : wtL (lts (T1 ++ e :: T2)) = wtL (lts T1) + (lwt e.1 + wtL (lts T2)) := by
      rw [lsp, wtL_app]; simp only [wtL]
    have rfy : ∀ (q k : Nat) (z : Tm), FY pd (sgL Cs 0) (cF (lts (T1 ++ e :: T2))) q k z → rf pd (sgL Cs 0) (lts (T1 ++ e :: T2)) = some (q, k, z) := fun q k z h => by
      unfold rf
      exact rfF_y h _ _ (by rw [cF_wt]; omega) (Nat.zero_le _)
    have wT1 := cF_wt (lts T1)
    obtain ⟨σ1, f1, u⟩ := fp_t (pd := pd) m0 wC (β := β - 1) (by omega) wl (by omega) hR hp pL (by omega) h47 (by omega)
    have gR1 := hR.fg f1 h47
    have l1 := f1.1
    rw [zq_rewrite_96, kZ_rewrite_96, if_neg (by omega), if_pos rfl, if_pos (by omega), if_pos (by omega), n1]
    -- a side at the new place
    rcases u with ⟨u1, u2, u3⟩ | ⟨o, k, z, u1, u2, u3⟩
    · -- not in the left
      have E1 : RE ar m9 σ1 (T1 ++ e :: T2) := hE.f f1.1 f1.2 (by omega)
      have he1 := E1.2.2.1 T1.length e (by rw [List.getElem?_append_right (Nat.le_refl _), Nat.sub_self]; rfl)
      obtain ⟨⟨m1', m2', m3'⟩, ⟨pL1, pR1⟩, _, _, _, b41⟩ := id he1
      obtain ⟨σ2, f2, v⟩ := fp_t (pd := pd) m0 wC (β := β - 1) (by omega) wr (by omega) gR1 (hp.f f1.1) pR1 (by omega) (by omega) (by omega)
      have f12 : FG σ σ2 := ⟨f1.1.trans f2.1, fun k i a b c => by rw [f2.2 k i a (by omega) c, f1.2 k i a b c]⟩
      rw [zbd_of u2, if_pos rfl, if_pos (by omega), m2']
      rcases v with ⟨v1, v2, v3⟩ | ⟨o, k, z, v1, v2, v3⟩
      · -- nor in the right
        rw [zbd_of v2, if_pos rfl, zq_rewrite_180, kZ_rewrite_180, if_pos (by omega), show (T1.length : Int) + 1 = ((T1 ++ [e]).length : Int) by simp]
        have ap : T1 ++ e :: T2 = (T1 ++ [e]) ++ T2 := by simp
        have E2 : RE ar m9 σ2 ((T1 ++ [e]) ++ T2) := by rw [← ap]; exact hE.f f12.1 f12.2 (by omega)
        have N2 : FN pd (sgL Cs 0) (cF (lts (T1 ++ [e]))) := by
          have : lts (T1 ++ [e]) = lts T1 ++ [e.1] := by simp [lts]
          rw [this, cF_app]
          refine FN_cat hN ?_
          show FN pd (sgL Cs 0) (cat (cat (tt e.1.2.1) (tt e.1.2.2)) nl)
          rw [cat_nl]
          exact FN_cat u1 v1
        obtain ⟨τ, g1, g2, g3, g4⟩ := rx_96 hβ m0 wC (x0 := x0) (x1 := x1) T2 (T1 ++ [e]) σ2 (hR.fg f12 h47) (hp.f f12.1) E2 N2 (by omega) (by omega)
        have gT : XG σ τ := ⟨f12.1.w.trans g1.1, PB.trans (fun k i a b c => f12.2 k i a (by omega) c) g1.2⟩
        rw [ap]
        exact ⟨τ, gT, by omega, by omega, g4⟩
      · -- in the right
        obtain ⟨o1, o2, o3, o4, o5, o6, o7⟩ := v3
        obtain ⟨y, y1, y2, y3⟩ := id v1
        have hly := sb_lt y1
        rw [tt_wt] at hly
        have zy : tw z ≤ tw y := rw1_tw y2
        have pR2 : Px σ2 e.1.2.2 e.2.2 := Px_q pR1 (Pq.w f2.2 (by omega) (by omega))
        obtain ⟨σ3, w1, w2, w3⟩ := rpi_t (z := z) (β := β - 1) pR2 wr y1 o1 (by rw [o2]; exact o4) (by rw [o2]; omega) (by omega) zy (by omega) (by omega) (by omega)
        have rwt := rp_w (r := z) wr y1
        rw [rp_tt (by omega), tt_wt, tt_wt] at rwt
        have i3 : σ3.1 47 = σ2.1 47 + (tw (rpT z o e.1.2.2) : Int) := w2.1
        obtain ⟨σ4, hσ4⟩ : ∃ x, x = zA σ3 96 (T1.length : Int) (σ2.1 47) := ⟨_, rfl⟩
        have i4 : σ4.1 47 = σ3.1 47 := by rw [hσ4]; rfl
        have f34 : FrC [47, 116, 117, 118] XL σ2 σ4 := by
          have b : FrC [47, 116, 117, 118] XL σ3 σ4 := by rw [hσ4]; exact FrC_A
          exact w2.f.w.trans b
        have q34 : Pq σ2 σ4 0 (σ2.1 47) := fun j i a b c => by
          rw [hσ4, zA_j (by omega)]
          exact w2.pq (lo := 0) (hi := σ2.1 47) (Int.le_refl _) j i a b c
        have fT : FrC [47, 116, 117, 118] XL σ σ4 := f12.1.w.trans f34
        have pT : Pq σ σ4 0 (σ.1 47) := fun j i a b c => by rw [q34 j i a (by omega) c, f12.2 j i a b c]
        have e6 : ∀ j q, (j = 95 ∨ j = 97) → σ4.2.1 j q = σ.2.1 j q := fun j q hj => by
          rw [hσ4, zA_j (by omega), w2.2.2.2 j q (Or.inr (by omega)), f12.1.2.1 j q (by rcases hj with rfl | rfl <;> decide)]
        have e9 : ∀ q, q ≠ (T1.length : Int) → σ4.2.1 96 q = σ.2.1 96 q := fun q hq => by
          rw [hσ4, zA_i hq, w2.2.2.2 96 q (Or.inr (by omega)), f12.1.a 96]
        have er : tw (rpT z o e.1.2.2) = 1 + wt (rpT z o e.1.2.2).2 := rfl
        have wrp : wf ar (lb m9) (tt (rpT z o e.1.2.2)) := by rw [← rp_tt (by omega)]; exact rp_wf o6 wr
        obtain ⟨e', he'⟩ : ∃ e' : En, e' = ((e.1.1, e.1.2.1, rpT z o e.1.2.2), e.2.1, σ2.1 47) := ⟨_, rfl⟩
        have pL4 : Px σ4 e.1.2.1 e.2.1 := Px_q pL (Pq.w pT (by omega) (by omega))
        have R4 : REi ar m9 σ4 (T1.length : Int) e' := by
          rw [he']
          refine ⟨⟨by rw [e6 95 _ (Or.inl rfl)]; exact n1, by rw [hσ4, zA_s], by rw [e6 97 _ (Or.inr rfl)]; exact n3⟩, ⟨pL4, ?_, by show σ2.1 47 + 1 + (wt (rpT z o e.1.2.2).2 : Int) ≤ 420000; omega⟩, ⟨ws, wl, wrp⟩, ⟨b1, by show e.2.1 + (tw e.1.2.1 : Int) ≤ σ4.1 47; omega⟩, by show 205000 ≤ σ2.1 47; omega, by show σ2.1 47 + (tw (rpT z o e.1.2.2) : Int) ≤ σ4.1 47; omega⟩
          exact Pt_q (fun j i _ _ c => by rw [hσ4, zA_j (by omega)]) w3
        have lsp' : lts (T1 ++ e' :: T2) = lts T1 ++ (e.1.1, e.1.2.1, rpT z o e.1.2.2) :: lts T2 := by rw [he']; simp [lts]
        have hrp : rpE z (wtL (lts T1) + (tw e.1.2.1 + o)) (lts (T1 ++ e :: T2)) = lts (T1 ++ e' :: T2) := by
          rw [lsp, lsp', rpE_app]
          congr 1
          show (if tw e.1.2.1 + o < tw e.1.2.1 then _ else if tw e.1.2.1 + o < lwt e.1 then (e.1.1, e.1.2.1, rpT z (tw e.1.2.1 + o - tw e.1.2.1) e.1.2.2) :: lts T2 else _) = _
          rw [if_neg (by omega), if_pos (by omega), Nat.add_sub_cancel_left]
        have wE' : wtL (lts (T1 ++ e' :: T2)) ≤ 100 := by
          have h1' : wtL (lts (T1 ++ e' :: T2)) = wtL (lts T1) + (tw e.1.2.1 + tw (rpT z o e.1.2.2) + wtL (lts T2)) := by rw [lsp', wtL_app]; rfl
          omega
        have RE4 := RE_up hE fT pT (by omega) R4 (Or.inl ⟨by rw [he'], by rw [he'], by rw [he']; show σ.1 47 ≤ σ2.1 47; omega⟩) (fun j q hj hq => by
          rcases hj with rfl | rfl | rfl
          · exact e6 95 q (Or.inl rfl)
          · exact e9 q hq
          · exact e6 97 q (Or.inr rfl)) wE'
        refine ⟨σ4, ⟨fT, fun k i a b c => pT k i a (by omega) c⟩, by omega, by omega, Or.inr ⟨wtL (lts T1) + (tw e.1.2.1 + o), k, z, T1 ++ e' :: T2, rfy _ _ _ ?_, RE4, hrp.symm, ?_, (T1.length : Int) + 1, ?_⟩⟩
        · rw [cfe, ← wT1]
          refine FY_r hN (FY_l ?_)
          rw [← tt_wt]
          exact FY_r u1 v1
        · rw [hσ4, zA_1, w2.2.1 118 (by decide)]; exact o3
        · have m96 : σ2.2.1 96 (T1.length : Int) = e.2.2 := by rw [f12.1.a 96]; exact n2
          have n8 : σ4.1 98 = (T1.length : Int) + 1 + (T2.length : Int) := by rw [fT.i 98]; omega
          rw [zbd_of v2, if_neg (by decide), if_pos (by omega), m96, zbd_of w1, lt_e, ← hσ4, zq_rewrite_180, kZ_rewrite_180, if_pos (by omega), zq_rewrite_96, kZ_rewrite_96]
          by_cases q : σ4.1 98 ≤ (T1.length : Int) + 1
          · rw [if_pos q]
          · rw [if_neg q, if_neg (by decide)]
    · -- in the left
      obtain ⟨o1, o2, o3, o4, o5, o6, o7⟩ := u3
      obtain ⟨y, y1, y2, y3⟩ := id u1
      have hly := sb_lt y1
      rw [tt_wt] at hly
      have zy : tw z ≤ tw y := rw1_tw y2
      have pL1 : Px σ1 e.1.2.1 e.2.1 := Px_q pL (Pq.w f1.2 (by omega) (by omega))
      obtain ⟨σ3, w1, w2, w3⟩ := rpi_t (z := z) (β := β - 1) pL1 wl y1 o1 (by rw [o2]; exact o4) (by rw [o2]; omega) (by omega) zy (by omega) (by omega) (by omega)
      have rwt := rp_w (r := z) wl y1
      rw [rp_tt (by omega), tt_wt, tt_wt] at rwt
      have i3 : σ3.1 47 = σ1.1 47 + (tw (rpT z o e.1.2.1) : Int) := w2.1
      obtain ⟨σ4, hσ4⟩ : ∃ x, x = zA σ3 95 (T1.length : Int) (σ1.1 47) := ⟨_, rfl⟩
      have i4 : σ4.1 47 = σ3.1 47 := by rw [hσ4]; rfl
      have f34 : FrC [47, 116, 117, 118] XL σ1 σ4 := by
        have b : FrC [47, 116, 117, 118] XL σ3 σ4 := by rw [hσ4]; exact FrC_A
        exact w2.f.w.trans b
      have q34 : Pq σ1 σ4 0 (σ1.1 47) := fun j i a b c => by
        rw [hσ4, zA_j (by omega)]
        exact w2.pq (lo := 0) (hi := σ1.1 47) (Int.le_refl _) j i a b c
      have fT : FrC [47, 116, 117, 118] XL σ σ4 := f1.1.w.trans f34
      have pT : Pq σ σ4 0 (σ.1 47) := fun j i a b c => by rw [q34 j i a (by omega) c, f1.2 j i a b c]
      have e6 : ∀ j q, (j = 96 ∨ j = 97) → σ4.2.1 j q = σ.2.1 j q := fun j q hj => by
        rw [hσ4, zA_j (by omega), w2.2.2.2 j q (Or.inr (by omega)), f1.1.2.1 j q (by rcases hj with rfl | rfl <;> decide)]
      have e9 : ∀ q, q ≠ (T1.length : Int) → σ4.2.1 95 q = σ.2.1 95 q := fun q hq => by
        rw [hσ4, zA_i hq, w2.2.2.2 95 q (Or.inr (by omega)), f1.1.a 95]
      have er : tw (rpT z o e.1.2.1) = 1 + wt (rpT z o e.1.2.1).2 := rfl
      have wrp : wf ar (lb m9) (tt (rpT z o e.1.2.1)) := by rw [← rp_tt (by omega)]; exact rp_wf o6 wl
      obtain ⟨e', he'⟩ : ∃ e' : En, e' = ((e.1.1, rpT z o e.1.2.1, e.1.2.2), σ1.1 47, e.2.2) := ⟨_, rfl⟩
      have pR4 : Px σ4 e.1.2.2 e.2.2 := Px_q pR (Pq.w pT (by omega) (by omega))
      have R4 : REi ar m9 σ4 (T1.length : Int) e' := by
        rw [he']
        refine ⟨⟨by rw [hσ4, zA_s], by rw [e6 96 _ (Or.inl rfl)]; exact n2, by rw [e6 97 _ (Or.inr rfl)]; exact n3⟩, ⟨⟨?_, by show σ1.1 47 + 1 + (wt (rpT z o e.1.2.1).2 : Int) ≤ 420000; omega⟩, pR4⟩, ⟨ws, wrp, wr⟩, ⟨by show 205000 ≤ σ1.1 47; omega, by show σ1.1 47 + (tw (rpT z o e.1.2.1) : Int) ≤ σ4.1 47; omega⟩, b3, by show e.2.2 + (tw e.1.2.2 : Int) ≤ σ4.1 47; omega⟩
        exact Pt_q (fun j i _ _ c => by rw [hσ4, zA_j (by omega)]) w3
      have lsp' : lts (T1 ++ e' :: T2) = lts T1 ++ (e.1.1, rpT z o e.1.2.1, e.1.2.2) :: lts T2 := by rw [he']; simp [lts]
      have hrp : rpE z (wtL (lts T1) + o) (lts (T1 ++ e :: T2)) = lts (T1 ++ e' :: T2) := by
        rw [lsp, lsp', rpE_app]
        congr 1
        show (if o < tw e.1.2.1 then (e.1.1, rpT z o e.1.2.1, e.1.2.2) :: lts T2 else _) = _
        rw [if_pos (by omega)]
      have wE' : wtL (lts (T1 ++ e' :: T2)) ≤ 100 := by
        have h1' : wtL (lts (T1 ++ e' :: T2)) = wtL (lts T1) + (tw (rpT z o e.1.2.1) + tw e.1.2.2 + wtL (lts T2)) := by rw [lsp', wtL_app]; rfl
        omega
      have RE4 := RE_up hE fT pT (by omega) R4 (Or.inr ⟨by rw [he'], by rw [he'], by rw [he']; show σ.1 47 ≤ σ1.1 47; omega⟩) (fun j q hj hq => by
        rcases hj with rfl | rfl | rfl
        · exact e9 q hq
        · exact e6 96 q (Or.inl rfl)
        · exact e6 97 q (Or.inr rfl)) wE'
      refine ⟨σ4, ⟨fT, fun k i a b c => pT k i a (by omega) c⟩, by omega, by omega, Or.inr ⟨wtL (lts T1) + o, k, z, T1 ++ e' :: T2, rfy _ _ _ ?_, RE4, hrp.symm, ?_, (T1.length : Int) + 1, ?_⟩⟩
      · rw [cfe, ← wT1]
        exact FY_r hN (FY_l (FY_l u1))
      · rw [hσ4, zA_1, w2.2.1 118 (by decide)]; exact o3
      · have m95 : σ1.2.1 95 (T1.length : Int) = e.2.1 := by rw [f1.1.a 95]; exact n1
        have n8 : σ4.1 98 = (T1.length : Int) + 1 + (T2.length : Int) := by rw [fT.i 98]; omega
        rw [zbd_of u2, if_neg (by decide), if_pos (by omega), m95, zbd_of w1, lt_e, ← hσ4, zq_rewrite_180, kZ_rewrite_180, if_pos (by omega), zq_rewrite_96, kZ_rewrite_96]
        by_cases q : σ4.1 98 ≤ (T1.length : Int) + 1
        · rw [if_pos q]
        · rw [if_neg q, if_neg (by decide)]
where
  rwI_tw : ∀ {pd : Int → Prop} {l r y z : Tm}, rwI pd l r y = some z → tw z ≤ tw y := fun {pd l r y z} h => by
    unfold rwI at h
    split at h
    · cases h
    · split at h
      · rename_i hq
        obtain rfl := Option.some.inj h
        exact gTm_tw hq.2
      · cases h
  rw1_tw : ∀ {pd : Int → Prop} {L : List (Nat × Lt)} {y z : Tm} {k : Nat}, rw1 pd L y = some (k, z) → tw z ≤ tw y
    | pd, [], y, z, k, h => by cases h
    | pd, b :: L, y, z, k, h => by
      unfold rw1 at h
      split at h
      · rename_i hq; cases h; exact rwI_tw hq
      · split at h
        · rename_i hq; cases h; exact rwI_tw hq
        · exact rw1_tw h
end rrw
