/-! the reference: a copy of what lies above -/
theorem fresh_w {σ : zS} {β : Nat} {c : Int} (h1 : 0 ≤ σ.1 47) (h2 : σ.1 47 < 420000) : ∃ τ, zE tM_fresh β σ [c] = some (τ, σ.1 47) ∧ Grow σ τ 1 ∧ τ.2.1 43 (σ.1 47) = c ∧ τ.2.1 44 (σ.1 47) = -1 ∧ τ.2.1 45 (σ.1 47) = -1 ∧ τ.2.1 46 (σ.1 47) = 1 ∧ ∀ j q, σ.1 47 < q → τ.2.1 j q = σ.2.1 j q := by
  have hz : zb (σ.1 47) 420000 := ⟨h1, by omega⟩
  have e : zE tM_fresh β σ [c] = some (zI (zA (zA (zA (zA σ 43 (σ.1 47) c) 44 (σ.1 47) (-1)) 45 (σ.1 47) (-1)) 46 (σ.1 47) 1) 47 (σ.1 47 + 1), σ.1 47) := by
    rw [zq_fresh, kZ_fresh, if_pos hz]
    show (if zb (σ.1 47) 420000 then _ else none) = _
    rw [if_pos hz]
    show (if zb (σ.1 47) 420000 then _ else none) = _
    rw [if_pos hz]
    show (if zb (σ.1 47) 420000 then _ else none) = _
    rw [if_pos hz]
    show (if zr (σ.1 47 + 1) then _ else none) = _
    rw [if_pos (by omega)]
    rfl
  obtain ⟨τ, e1, e2, e3, e4, e5, e6⟩ := fresh_ok (β := β) (c := c) h1 h2
  refine ⟨τ, e1, e2, e3, e4, e5, e6, fun j q hq => ?_⟩
  rw [e] at e1
  have e7 := congrArg Prod.fst (Option.some.inj e1)
  dsimp only at e7
  rw [← e7, zI_2, zA_i (by omega), zA_i (by omega), zA_i (by omega), zA_i (by omega)]
def LW (σ τ : zS) (x1 x2 : Int) (S : T) : Prop := Lp σ τ x1 x2 S ∧ ∀ j q, σ.1 47 + (wt S : Int) ≤ q → τ.2.1 j q = σ.2.1 j q
theorem cw_loop : ∀ (S : T) (σ : zS) (β : Nat) (lo x0 x1 x2 x3 : Int), Pc σ S x3 → (0 < wt S → lo ≤ x3) → x3 + (wt S : Int) ≤ 420000 → 0 ≤ x1 → x1 < σ.1 47 → x2 < σ.1 47 → σ.1 47 + (wt S : Int) ≤ lo → lo ≤ 420000 → 0 ≤ σ.2.1 46 x1 → σ.2.1 46 x1 + (wt S : Int) ≤ 2000000 → ht S + 1 ≤ β →
    ∃ τ, zE tM_copy_21 β σ [x0, x1, x2, x3] = some (τ, x1) ∧ LW σ τ x1 x2 S
  | .leaf (), σ, β, lo, x0, x1, x2, x3, hS, _, _, _, _, _, _, _, _, _, hd => by
    have h1 : x3 < 0 := hS
    exact ⟨σ, by rw [zq_copy_21, kZ_copy_21, if_pos h1], Lp_nil, fun _ _ _ => rfl⟩
  | .branch n k s, σ, β, lo, x0, x1, x2, x3, hS, hlo, hb, g2, g3, g5, g6, g6', g7, g8, hd => by
    have k1 := Pc_kid hS hb (by omega)
    have s1 := Pc_bes hS hb (by omega)
    obtain ⟨a1, a2, a3, a4, a5, a6, a7⟩ := hS
    simp only [ht] at hd
    have hlo' : lo ≤ x3 := hlo (by simp only [wt]; omega)
    simp only [wt] at hb g6 g8
    -- the TERM at x3
    obtain ⟨τ1, e1, G1, P1, b1, H1⟩ : ∃ τ, zE tM_copy (β - 1) σ [x3] = some (τ, σ.1 47) ∧ Grow σ τ (1 + wt k) ∧ Pt τ n k (σ.1 47) ∧ τ.2.1 45 (σ.1 47) = -1 ∧ ∀ j q, σ.1 47 + 1 + (wt k : Int) ≤ q → τ.2.1 j q = σ.2.1 j q := by
      obtain ⟨τ1, e1, G1, f1, f2, f3, f4, f5⟩ := fresh_w (σ := σ) (β := β - 1 - 1) (c := σ.2.1 43 x3) (by omega) (by omega)
      have t1 : τ1.1 47 = σ.1 47 + 1 := G1.1
      have kk : τ1.2.1 44 x3 = σ.2.1 44 x3 := f5 44 x3 (by omega)
      have pk : Pc τ1 k (σ.2.1 44 x3) := by
        rcases Pc_bd a4 with ⟨w1, w2⟩ | ⟨w1, w2⟩
        · have := wt0 w1
          subst this; exact w2
        · have := a5 w1
          exact Pc_q (fun j i u1 u2 u3 => f5 j i (by omega)) a4
      obtain ⟨τ2, e2, L2, H2⟩ := cw_loop k τ1 (β - 1) lo x3 (σ.1 47) (-1) (σ.2.1 44 x3) pk (fun w => by have := a5 w; omega) (by omega) (by omega) (by omega) (by omega) (by omega) g6' (by omega) (by omega) (by omega)
      obtain ⟨G, P, b⟩ := Lp_root (n := n) (by omega) G1 (by rw [f1, a2]) f2 f3 f4 L2
      refine ⟨τ2, ?_, G, P, b, fun j q hq => by rw [H2 j q (by omega), f5 j q (by omega)]⟩
      rw [zq_copy, kZ_copy, if_pos (by omega), if_pos (by omega), zbd_of e1, kk]; exact e2
    have t1 : τ1.1 47 = σ.1 47 + 1 + (wt k : Int) := by rw [G1.1]; omega
    have w1 : τ1.2.1 46 x1 = σ.2.1 46 x1 := G1.2.2.2 46 x1 (Or.inl (by omega))
    have wy : τ1.2.1 46 (σ.1 47) = 1 + (wt k : Int) := P1.2.2.1
    have t3 : (hng τ1 x1 x2 (σ.1 47)).1 47 = σ.1 47 + 1 + (wt k : Int) := by rw [hng_i]; exact t1
    have H3 : ∀ j q, σ.1 47 + 1 + (wt k : Int) ≤ q → (hng τ1 x1 x2 (σ.1 47)).2.1 j q = σ.2.1 j q := fun j q hq => by
      rw [hng_o _ _ _ _ j q (by omega) (by omega) (by omega)]; exact H1 j q hq
    have ps : Pc (hng τ1 x1 x2 (σ.1 47)) s (σ.2.1 45 x3) := by
      rcases Pc_bd a6 with ⟨w1, w2⟩ | ⟨w1, w2⟩
      · have := wt0 w1
        subst this; exact w2
      · have := a7 w1
        exact Pc_q (fun j i u1 u2 u3 => H3 j i (by omega)) a6
    obtain ⟨τ4, e4, L4, H4⟩ := cw_loop s (hng τ1 x1 x2 (σ.1 47)) β lo x0 x1 (σ.1 47) (σ.2.1 45 x3) ps (fun w => by have := a7 w; omega) (by omega) g2 (by omega) (by omega) (by omega) g6' (by rw [hng_w, w1, wy]; omega) (by rw [hng_w, w1, wy]; omega) (by omega)
    refine ⟨τ4, ?_, Lp_cons G1 P1 b1 g2 g3 g5 L4, fun j q hq => ?_⟩
    · have eb : (hng τ1 x1 x2 (σ.1 47)).2.1 45 x3 = σ.2.1 45 x3 := H3 45 x3 (by omega)
      have e84 : ∀ τ2 : zS, zA τ2 46 x1 (τ2.2.1 46 x1 + τ2.2.1 46 (σ.1 47)) = hng τ1 x1 x2 (σ.1 47) → zr (τ2.2.1 46 x1 + τ2.2.1 46 (σ.1 47)) → zE tM_copy_57 β τ2 [x0, x1, x2, x3, σ.1 47] = zE tM_copy_21 β (hng τ1 x1 x2 (σ.1 47)) [x0, x1, σ.1 47, σ.2.1 45 x3] := fun τ2 h9 hz' => by
        rw [zq_copy_57, kZ_copy_57, if_pos (by omega), if_pos (by omega), if_pos hz']
        show (if zb x3 420000 then (zE tM_copy_21 β (zA τ2 46 x1 (τ2.2.1 46 x1 + τ2.2.1 46 (σ.1 47))) [x0, x1, σ.1 47, (zA τ2 46 x1 (τ2.2.1 46 x1 + τ2.2.1 46 (σ.1 47))).2.1 45 x3]) else none) = _
        rw [if_pos (by omega), h9, eb]
      rw [← e4, zq_copy_21, kZ_copy_21, if_neg (by omega), if_pos (by omega), zbd_of e1]
      by_cases hx : 0 ≤ x2
      · rw [if_pos hx, if_pos (by omega)]
        have c5 : ∀ q, (zA τ1 45 x2 (σ.1 47)).2.1 46 q = τ1.2.1 46 q := fun q => by simp [zA]
        refine e84 (zA τ1 45 x2 (σ.1 47)) ?_ (by rw [c5, c5, w1, wy]; omega)
        rw [c5, c5]; unfold hng; rw [if_pos hx]
      · rw [if_neg hx, if_pos (by omega)]
        have c5 : ∀ q, (zA τ1 44 x1 (σ.1 47)).2.1 46 q = τ1.2.1 46 q := fun q => by simp [zA]
        refine e84 (zA τ1 44 x1 (σ.1 47)) ?_ (by rw [c5, c5, w1, wy]; omega)
        rw [c5, c5]; unfold hng; rw [if_neg hx]
    · simp only [wt] at hq
      rw [H4 j q (by omega), H3 j q (by omega)]
theorem cw_ok {σ : zS} {β : Nat} {x : Tm} {t : Int} (hx : Px σ x t) (h0 : 0 ≤ σ.1 47) (hb : σ.1 47 + (tw x : Int) ≤ t) (tx : tw x ≤ 1000) (hd : ht x.2 + 2 ≤ β) : ∃ τ, zE tM_copy β σ [t] = some (τ, σ.1 47) ∧ Grow σ τ (tw x) ∧ Px τ x (σ.1 47) ∧ ∀ j q, σ.1 47 + (tw x : Int) ≤ q → τ.2.1 j q = σ.2.1 j q := by
  have ex : tw x = 1 + wt x.2 := rfl
  have kb := Pt_kid hx.1 hx.2 (by omega)
  obtain ⟨⟨a1, a2, a3, a4, a5⟩, hi⟩ := hx
  obtain ⟨τ1, e1, G1, f1, f2, f3, f4, f5⟩ := fresh_w (σ := σ) (β := β - 1) (c := σ.2.1 43 t) h0 (by omega)
  have t1 : τ1.1 47 = σ.1 47 + 1 := G1.1
  have kk : τ1.2.1 44 t = σ.2.1 44 t := f5 44 t (by omega)
  have pk : Pc τ1 x.2 (σ.2.1 44 t) := by
    rcases Pc_bd a4 with ⟨w1, w2⟩ | ⟨w1, w2⟩
    · have := wt0 w1
      rw [this]; exact w2
    · have := a5 w1
      exact Pc_q (fun j i u1 u2 u3 => f5 j i (by omega)) a4
  obtain ⟨τ2, e2, L2, H2⟩ := cw_loop x.2 τ1 β t t (σ.1 47) (-1) (σ.2.1 44 t) pk (fun w => by have := a5 w; omega) (by omega) (by omega) (by omega) (by omega) (by omega) (by omega) (by omega) (by omega) (by omega)
  obtain ⟨G, P, b⟩ := Lp_root (n := x.1) h0 G1 (by rw [f1, a2]) f2 f3 f4 L2
  refine ⟨τ2, ?_, G, ⟨P, by omega⟩, fun j q hq => by rw [H2 j q (by omega), f5 j q (by omega)]⟩
  rw [zq_copy, kZ_copy, if_pos (by omega), if_pos (by omega), zbd_of e1, kk]; exact e2
/-! the reference: all REWRITINGS of the GIVEN -/
def LU (σ : zS) (U : List Int) : Prop := σ.1 120 = (U.length : Int) ∧ Fl (σ.2.1 119) 0 U
theorem rx_202 {β : Nat} {x0 x1 x2 k : Int} {U : List Int} (hl : U.length < 60) {σ : zS} (hU : LU σ U) (hk : σ.1 118 = k) : ∀ (m j : Nat), j + m = U.length → ∃ τ, zE tM_rewrite_202 β σ [x0, x1, x2, b2 (∃ i : Nat, i < j ∧ U[i]? = some k), (j : Int)] = zE tM_rewrite_81 β τ [x0, x1, x2] ∧ FrC [120] [119] σ τ ∧ LU τ (adU U k)
  | 0, j, hm => by
    have e268 : ∀ (ρ : zS) (a b : Int), zE tM_rewrite_268 β ρ [x0, x1, x2, a, b] = zE tM_rewrite_81 β ρ [x0, x1, x2] := fun ρ a b => by rw [zq_rewrite_268, kZ_rewrite_268]
    have mm : (∃ i : Nat, i < j ∧ U[i]? = some k) ↔ k ∈ U := by
      constructor
      · rintro ⟨i, _, h⟩; exact List.mem_of_getElem? h
      · intro h
        obtain ⟨i, hi⟩ := List.getElem?_of_mem h
        exact ⟨i, by have := (List.getElem?_eq_some_iff.mp hi).1; omega, hi⟩
    rw [b2_c mm, zq_rewrite_202, kZ_rewrite_202, hU.1, if_pos (by omega)]
    by_cases h : k ∈ U
    · rw [b2_t h, if_neg (by decide), e268]
      refine ⟨σ, rfl, FrC.refl, ?_⟩
      unfold adU; rw [if_pos h]; exact hU
    · rw [b2_f h, if_pos rfl, if_pos (by omega), lt_e, if_pos (by omega), zI_o, hk, lt_e, e268]
      have f : FrC [120] [119] σ (zA (zI σ 120 ((U.length : Int) + 1)) 119 (U.length : Int) k) := by
        have b : FrC [120] [119] σ (zI σ 120 ((U.length : Int) + 1)) := FrC_I
        exact b.trans FrC_A
      refine ⟨_, rfl, f, ?_⟩
      unfold adU; rw [if_neg h]
      refine ⟨by rw [zA_1, zI_1]; simp, Fl_app.mpr ⟨Fl_q (fun i i0 i1 => by rw [zA_i (by omega), zI_2]) hU.2, ?_, trivial⟩⟩
      rw [show (0 : Int) + (U.length : Int) = (U.length : Int) by omega, zA_s]
  | m + 1, j, hm => by
    obtain ⟨u, hu⟩ : ∃ u, U[j]? = some u := ⟨_, List.getElem?_eq_getElem (by omega)⟩
    have e := Fl_get hU.2 hu
    rw [show (0 : Int) + (j : Int) = (j : Int) by omega] at e
    obtain ⟨τ, t⟩ := rx_202 (β := β) (x0 := x0) (x1 := x1) (x2 := x2) hl hU hk m (j + 1) (by omega)
    refine ⟨τ, ?_, t.2⟩
    rw [← t.1]
    have e235 : ∀ a x5 : Int, zE tM_rewrite_235 β σ [x0, x1, x2, a, (j : Int), x5] = zE tM_rewrite_202 β σ [x0, x1, x2, x5, ((j + 1 : Nat) : Int)] := fun a x5 => by rw [zq_rewrite_235, kZ_rewrite_235, if_pos (by omega), show (j : Int) + 1 = ((j + 1 : Nat) : Int) by omega]
    have e230 : ∀ a : Int, zE tM_rewrite_230 β σ [x0, x1, x2, a, (j : Int)] = zE tM_rewrite_202 β σ [x0, x1, x2, 1, ((j + 1 : Nat) : Int)] := fun a => by rw [zq_rewrite_230, kZ_rewrite_230, e235]
    rw [zq_rewrite_202, kZ_rewrite_202, hU.1, if_neg (by omega)]
    by_cases h : ∃ i : Nat, i < j ∧ U[i]? = some k
    · obtain ⟨i, h1, h2⟩ := id h
      rw [b2_t h, if_neg (by decide), e230, b2_t ⟨i, by omega, h2⟩]
    · rw [b2_f h, if_pos rfl, if_pos (by omega), e, hk]
      by_cases g : u = k
      · rw [if_pos g, e230, b2_t ⟨j, by omega, by rw [hu, g]⟩]
      · rw [if_neg g, e235, b2_f]
        rintro ⟨i, h1, h2⟩
        by_cases q : i = j
        · rw [q, hu] at h2; exact g (Option.some.inj h2)
        · exact h ⟨i, by omega, h2⟩
abbrev WG (σ τ : zS) : Prop := FrC [47, 98, 116, 117, 118, 120] [43, 44, 45, 46, 95, 96, 97, 102, 115, 119] σ τ ∧ PB σ τ
theorem rx_81 {ar : Int → Nat} {pd : Int → Prop} {m9 : Int} {Cs : List CL} {β : Nat} (hβ : 314 ≤ β) (m0 : 0 ≤ m9) (wC : ∀ c ∈ Cs, Wc ar m9 c.1) {k : Int} : ∀ (m : Nat) (E : List En) (U : List Int) (n : Nat) (σ : zS), RC σ Cs → Pd σ m9 pd → RE ar m9 σ E → LU σ U → U.length ≤ n → 205000 ≤ σ.1 47 → σ.1 47 ≤ 205100 + 200 * (n : Int) → n + m = 60 →
    ∃ (τ : zS) (E' : List En) (U' : List Int) (n' : Nat), rwN pd (sgL Cs 0) m (lts E) U n = (lts E', U', n') ∧ zE tM_rewrite_81 β σ [k, (n : Int), 1] = some (τ, (n' : Int)) ∧ RE ar m9 τ E' ∧ LU τ U' ∧ U'.length ≤ n' ∧ n' ≤ 60 ∧ WG σ τ
  | 0, E, U, n, σ, hR, hp, hE, hU, hl, h47, h47b, hm => by
    refine ⟨σ, E, U, n, rfl, ?_, hE, hU, hl, by omega, FrC.refl, PB.refl⟩
    rw [zq_rewrite_81, kZ_rewrite_81, if_neg (by decide), if_pos (by omega), zq_rewrite_271, kZ_rewrite_271]
  | m + 1, E, U, n, σ, hR, hp, hE, hU, hl, h47, h47b, hm => by
    obtain ⟨σ1, g1, g2, g3, u⟩ := rx_96 (pd := pd) (β := β) (by omega) m0 wC (x0 := k) (x1 := (n : Int)) E [] σ hR hp hE (fun o x h => (by cases h)) h47 (by omega)
    rw [List.nil_append] at u
    have w1 : WG σ σ1 := ⟨g1.1.w, g1.2⟩
    rw [zq_rewrite_81, kZ_rewrite_81, if_neg (by decide), if_neg (by omega)]
    rcases u with ⟨u1, u2, x3, u3⟩ | ⟨q, k', z, E1, u1, u2, u3, u4, x3, u5⟩
    · have u3' : zE tM_rewrite_96 β σ [k, (n : Int), 0, 0] = _ := u3
      refine ⟨σ1, E, U, n, by rw [rwN, u1], ?_, u2, ⟨by rw [g1.1.i 120]; exact hU.1, Fl_q (fun i _ _ => g1.1.a 119 i) hU.2⟩, hl, by omega, w1⟩
      rw [u3', zq_rewrite_186, kZ_rewrite_186, if_pos rfl, zq_rewrite_271, kZ_rewrite_271]
    · have u5' : zE tM_rewrite_96 β σ [k, (n : Int), 0, 0] = _ := u5
      have U1 : LU σ1 U := ⟨by rw [g1.1.i 120]; exact hU.1, Fl_q (fun i _ _ => g1.1.a 119 i) hU.2⟩
      obtain ⟨σ2, v1, v2, v3⟩ := rx_202 (β := β) (x0 := k) (x1 := (n : Int) + 1) (x2 := 1) (by omega) U1 u4 U.length 0 (by omega)
      have eb : b2 (∃ i : Nat, i < 0 ∧ U[i]? = some (k' : Int)) = 0 := b2_f (fun ⟨i, h, _⟩ => by omega)
      rw [eb] at v1
      have v1' : zE tM_rewrite_202 β σ1 [k, (n : Int) + 1, 1, 0, 0] = _ := v1
      have w2 : WG σ σ2 := ⟨w1.1.trans v2.w, w1.2.trans v2.pq⟩
      have i2 : σ2.1 47 = σ1.1 47 := v2.i 47
      have la := adU_len U (k' : Int)
      obtain ⟨τ, E', U', n', r1, r2, r3, r4, r5, r6, r7⟩ := rx_81 hβ m0 wC (k := k) m E1 (adU U (k' : Int)) (n + 1) σ2 (hR.f w2.1 w2.2) (hp.f w2.1) (u2.f v2 v2.pq (by omega)) v3 (by omega) (by omega) (by omega) (by omega)
      refine ⟨τ, E', U', n', by rw [rwN, u1]; dsimp only; rw [← u3]; exact r1, ?_, r3, r4, r5, r6, ⟨w2.1.trans r7.1, w2.2.trans r7.2⟩⟩
      rw [u5', zq_rewrite_186, kZ_rewrite_186, if_neg (by decide), if_pos (by omega), v1', show (n : Int) + 1 = ((n + 1 : Nat) : Int) by omega]
      exact r2
theorem rrw_ok {ar : Int → Nat} {pd : Int → Prop} {m9 : Int} {Cs : List CL} {β : Nat} (hβ : 314 ≤ β) (m0 : 0 ≤ m9) (wC : ∀ c ∈ Cs, Wc ar m9 c.1) {σ : zS} (hR : RC σ Cs) (hp : Pd σ m9 pd) {k : Nat} {c : CL} (hc : Cs[k]? = some c) : ∃ (τ : zS) (E' : List En) (U' : List Int) (n' : Nat), rwN pd (sgL Cs 0) 60 c.1 [] 0 = (lts E', U', n') ∧ zE tM_rewrite β σ [(k : Int)] = some (τ, (n' : Int)) ∧ RE ar m9 τ E' ∧ LU τ U' ∧ U'.length ≤ n' ∧ n' ≤ 60 ∧ WG σ τ := by
  obtain ⟨hk, k1, k2, k3, k4, k5⟩ := hR.k hc
  have wc := wC c (List.mem_of_getElem? hc)
  obtain ⟨σ1, hσ1⟩ : ∃ z, z = zI (zI (zI σ 47 205000) 98 0) 120 0 := ⟨_, rfl⟩
  have w1 : WG σ σ1 := by
    have b1 : FrC [47, 98, 116, 117, 118, 120] [43, 44, 45, 46, 95, 96, 97, 102, 115, 119] σ (zI σ 47 205000) := FrC_I
    have b2 : FrC [47, 98, 116, 117, 118, 120] [43, 44, 45, 46, 95, 96, 97, 102, 115, 119] (zI σ 47 205000) (zI (zI σ 47 205000) 98 0) := FrC_I
    exact ⟨by rw [hσ1]; exact (b1.trans b2).trans FrC_I, fun k i _ _ _ => by rw [hσ1]; rfl⟩
  have i47 : σ1.1 47 = 205000 := by rw [hσ1, zI_o, zI_o, zI_1]
  have RE0 : RE ar m9 σ1 [] := ⟨by rw [hσ1, zI_o, zI_1]; rfl, by simp, fun i e he => by simp at he, trivial, by simp [wtL]⟩
  obtain ⟨σ2, E, a1, a2, a3, a4, a5, a6⟩ := rx_24 (β := β) (by omega) hc wc c.1.length 0 σ1 [] (hR.f w1.1 w1.2) RE0 (by simp) (by rw [i47]; simp [wtL]) (by omega)
  have w2 : WG σ σ2 := ⟨w1.1.trans a5.w, w1.2.trans a6⟩
  have w100 := wc.2.1
  obtain ⟨τ, E', U', n', r1, r2, r3, r4, r5, r6, r7⟩ := rx_81 (pd := pd) hβ m0 wC (k := (k : Int)) 60 E [] 0 σ2 (hR.f w2.1 w2.2) (hp.f w2.1) a2 ⟨by rw [a5.i 120, hσ1, zI_1]; rfl, trivial⟩ (Nat.le_refl _) (by omega) (by omega) (by omega)
  rw [a3] at r1
  refine ⟨τ, E', U', n', r1, ?_, r3, r4, r5, r6, ⟨w2.1.trans r7.1, w2.2.trans r7.2⟩⟩
  rw [show lpos Cs k + ((0 : Nat) : Int) = lpos Cs k by omega] at a1
  have e73 : σ1.2.1 73 (k : Int) = lpos Cs k := by rw [w1.1.a 73]; exact hk.1
  rw [zq_rewrite, kZ_rewrite, lt_e, lt_e, lt_e, ← hσ1, if_pos (by omega), e73, a1]
  exact r2
