/-! a CLAUSE is put into the draft as it is -/
theorem ldput {β : Nat} {σ : zS} {c : Int} (h7 : σ.1 3907 = 0) (h0 : 0 ≤ σ.1 3904) (h1 : σ.1 3904 < 100) : yE tC_Dra_put β σ [c] = some (zA (zI σ 3904 (σ.1 3904 + 1)) 40 (σ.1 3904) c, 0) := by
  rw [yq_Dra_put, kY_Dra_put, if_neg (by omega), yq_Dra_put_p14, kY_Dra_put_p14, if_pos h7, if_pos (by omega), lt_e, if_pos (by omega), lt_e, yq_Dra_put_p38, kY_Dra_put_p38]
theorem HL.lF {σ : zS} {p : Int} {a : Lt} (h : HL σ p a) : Fl (σ.2.1 48) (p + 5) (fl (lF a)) := by
  obtain ⟨_, _, _, h4, h5, _⟩ := h
  show Fl (σ.2.1 48) (p + 5) (fl (cat (tt a.2.1) (tt a.2.2)))
  rw [fl_cat, Fl_app, tt_len]; exact ⟨h4, h5⟩
theorem lF_len (a : Lt) : (fl (lF a)).length = lwt a := by rw [fl_length, lF_wt]
theorem ld_p63 {β : Nat} (hβ : 1 ≤ β) {x0 h : Int} {i : Nat} (i8 : i < 8) {a : Lt} {B : Nat} (hB : B + lwt a ≤ 100) : ∀ (m o : Nat) (σ : zS), HL σ h a → σ.1 3905 = (i : Int) → σ.1 3907 = 0 → σ.1 3904 = (B : Int) + (o : Int) → Fl (σ.2.1 40) (B : Int) ((fl (lF a)).take o) → (tw a.2.1 < o → σ.2.1 42 (i : Int) = (B : Int) + (tw a.2.1 : Int)) → o + m = lwt a →
    ∃ τ, yE tC_Dra_load_p63 β σ [x0, h, (i : Int), h + 5 + (o : Int)] = yE tC_Dra_load_p63 β τ [x0, h, (i : Int), h + 5 + (lwt a : Int)] ∧ FrC [3904] [40, 42] σ τ ∧ τ.1 3904 = (B : Int) + (lwt a : Int) ∧ Fl (τ.2.1 40) (B : Int) (fl (lF a)) ∧ τ.2.1 42 (i : Int) = (B : Int) + (tw a.2.1 : Int) ∧ (∀ q, q < (B : Int) → τ.2.1 40 q = σ.2.1 40 q) ∧ (∀ q, q ≠ (i : Int) → τ.2.1 42 q = σ.2.1 42 q)
  | 0, o, σ, hh, h5, h7, h4, hF, h42, hm => by
    have el : lwt a = tw a.2.1 + tw a.2.2 := rfl
    have t2 := tw_pos a.2.2
    have ho : o = lwt a := by omega
    subst ho
    refine ⟨σ, rfl, FrC.refl, h4, ?_, h42 (by omega), fun _ _ => rfl, fun _ _ => rfl⟩
    rw [← lF_len, List.take_length] at hF; exact hF
  | m + 1, o, σ, hh, h5, h7, h4, hF, h42, hm => by
    have el : lwt a = tw a.2.1 + tw a.2.2 := rfl
    have t1 := tw_pos a.2.1
    have t2 := tw_pos a.2.2
    obtain ⟨_, _, _, _, _, g6, g7, g8, g9⟩ := id hh
    have hl : o < (fl (lF a)).length := by rw [lF_len]; omega
    obtain ⟨c, hc⟩ : ∃ c, (fl (lF a))[o]? = some c := ⟨_, List.getElem?_eq_getElem hl⟩
    have ec : σ.2.1 48 (h + 5 + (o : Int)) = c := Fl_get hh.lF hc
    have tk : (fl (lF a)).take (o + 1) = (fl (lF a)).take o ++ [c] := by rw [List.take_add_one, hc]; rfl
    have lt : ((fl (lF a)).take o).length = o := by rw [List.length_take]; omega
    -- the cell is put
    have go : ∀ ρ : zS, FrC [3904] [40, 42] σ ρ → ρ.1 3904 = (B : Int) + (o : Int) → (∀ q, ρ.2.1 40 q = σ.2.1 40 q) → (tw a.2.1 < o + 1 → ρ.2.1 42 (i : Int) = (B : Int) + (tw a.2.1 : Int)) → (∀ q, q ≠ (i : Int) → ρ.2.1 42 q = σ.2.1 42 q) → ∃ τ, yE tC_Dra_load_p90 β ρ [x0, h, (i : Int), h + 5 + (o : Int)] = yE tC_Dra_load_p63 β τ [x0, h, (i : Int), h + 5 + (lwt a : Int)] ∧ FrC [3904] [40, 42] σ τ ∧ τ.1 3904 = (B : Int) + (lwt a : Int) ∧ Fl (τ.2.1 40) (B : Int) (fl (lF a)) ∧ τ.2.1 42 (i : Int) = (B : Int) + (tw a.2.1 : Int) ∧ (∀ q, q < (B : Int) → τ.2.1 40 q = σ.2.1 40 q) ∧ (∀ q, q ≠ (i : Int) → τ.2.1 42 q = σ.2.1 42 q) := fun ρ fρ r4 r40 r42 r42' => by
      have r48 : ρ.2.1 48 (h + 5 + (o : Int)) = c := by rw [fρ.a 48]; exact ec
      have l48 : ρ.2.2 48 = σ.2.2 48 := fρ.l 48
      have p := ldput (β := β - 1) (σ := ρ) (c := c) (by rw [fρ.i 3907]; exact h7) (by omega) (by omega)
      rw [r4] at p
      obtain ⟨ρ2, hρ2⟩ : ∃ z, z = zA (zI ρ 3904 ((B : Int) + (o : Int) + 1)) 40 ((B : Int) + (o : Int)) c := ⟨_, rfl⟩
      rw [← hρ2] at p
      have f2 : FrC [3904] [40, 42] σ ρ2 := by
        have b1 : FrC [3904] [40, 42] ρ (zI ρ 3904 ((B : Int) + (o : Int) + 1)) := FrC_I
        rw [hρ2]
        exact (fρ.trans b1).trans FrC_A
      have s40 : ∀ q, q ≠ (B : Int) + (o : Int) → ρ2.2.1 40 q = σ.2.1 40 q := fun q hq => by rw [hρ2, zA_i hq, zI_2, r40]
      have s40n : ρ2.2.1 40 ((B : Int) + (o : Int)) = c := by rw [hρ2, zA_s]
      have s42 : ∀ q, ρ2.2.1 42 q = ρ.2.1 42 q := fun q => by rw [hρ2, zA_j, zI_2]
      obtain ⟨τ, u1, u2, u3, u4, u5, u6, u7⟩ := ld_p63 (x0 := x0) hβ i8 hB m (o + 1) ρ2 (hh.f f2) (by rw [f2.i 3905]; exact h5) (by rw [f2.i 3907]; exact h7) (by rw [hρ2, zA_1, zI_1]; omega) (by
        rw [tk]
        refine Fl_app.mpr ⟨Fl_q (fun q q0 q1 => s40 q (by omega)) hF, ?_, trivial⟩
        rw [lt]; exact s40n) (fun w => by rw [s42]; exact r42 w) (by omega)
      refine ⟨τ, ?_, f2.trans u2, u3, u4, u5, fun q hq => by rw [u6 q hq, s40 q (by omega)], fun q hq => by rw [u7 q hq, s42, r42' q hq]⟩
      rw [yq_Dra_load_p90, kY_Dra_load_p90, if_pos (by omega), if_pos hβ, r48, zbd_of p, if_pos (by omega), show h + 5 + (o : Int) + 1 = h + 5 + ((o + 1 : Nat) : Int) by omega]
      exact u1
    rw [yq_Dra_load_p63, kY_Dra_load_p63, if_pos hβ, zbd_of (behind_ok hh), if_neg (by omega), if_pos hβ, zbd_of (side1_ok hh)]
    by_cases e : h + 5 + (o : Int) = h + 5 + (tw a.2.1 : Int)
    · rw [if_pos e, if_pos hβ]
      obtain ⟨ρ, hρ⟩ : ∃ z, z = zA σ 42 (i : Int) ((B : Int) + (o : Int)) := ⟨_, rfl⟩
      have er : yE tC_Dra_openRight (β - 1) σ [] = some (ρ, 0) := by
        rw [yq_Dra_openRight, kY_Dra_openRight, if_pos h7, h5, if_pos (by omega), h4, lt_e, ← hρ, yq_Dra_openRight_p20, kY_Dra_openRight_p20]
      rw [zbd_of er]
      exact go ρ (by rw [hρ]; exact FrC_A) (by rw [hρ, zA_1]; exact h4) (fun q => by rw [hρ, zA_j]) (fun _ => by rw [hρ, zA_s]; omega) (fun q hq => by rw [hρ, zA_i hq])
    · rw [if_neg e]
      exact go σ FrC.refl h4 (fun _ => rfl) (fun w => h42 (by omega)) (fun _ _ => rfl)
theorem ld_p24 {ar : Int → Nat} {m9 : Int} {β : Nat} (hβ : 1 ≤ β) {Cs : List CL} {k : Nat} {c : CL} (hc : Cs[k]? = some c) (wc : Wc ar m9 c.1) : ∀ (m n : Nat) (σ : zS), SC σ Cs → DE σ (c.1.take n) → σ.1 3907 = 0 → n + m = c.1.length →
    ∃ τ, yE tC_Dra_load_p24 β σ [(k : Int), hp (pos Cs k) c.1 n, (n : Int)] = some (τ, 0) ∧ FrC [3904, 3905] [40, 41, 42, 43] σ τ ∧ DE τ c.1
  | 0, n, σ, hS, hD, h7, hm => by
    have hn : n = c.1.length := by omega
    subst hn
    rw [List.take_length] at hD
    refine ⟨σ, ?_, FrC.refl, hD⟩
    rw [yq_Dra_load_p24, kY_Dra_load_p24, if_pos hβ, zbd_of (hS.f3 hc).1, if_pos (by omega)]
  | m + 1, n, σ, hS, hD, h7, hm => by
    obtain ⟨a, ha⟩ : ∃ a, c.1[n]? = some a := ⟨_, List.getElem?_eq_getElem (by omega)⟩
    have hl := hS.hl hc ha
    obtain ⟨w8, w100, _, _, wl⟩ := id wc
    obtain ⟨wa0, wa1, wa2⟩ := wl a (List.mem_of_getElem? ha)
    have el : lwt a = tw a.2.1 + tw a.2.2 := rfl
    obtain ⟨H, hH⟩ : ∃ z, z = hp (pos Cs k) c.1 n := ⟨_, rfl⟩
    have hs := hp_s (p := pos Cs k) ha
    rw [← hH] at hl hs ⊢
    obtain ⟨g1, g2, g3, g4, g5, g6, g7, g8, g9⟩ := id hl
    have t1 := tw_pos a.2.1
    have t2 := tw_pos a.2.2
    obtain ⟨d1, d2, d3, d4, d5⟩ := id hD
    have tkn : c.1.take (n + 1) = c.1.take n ++ [a] := by rw [List.take_add_one, ha]; rfl
    have ln : (c.1.take n).length = n := by rw [List.length_take]; omega
    rw [ln] at d1
    have wn : wtL (c.1.take n) + lwt a ≤ wtL c.1 := by
      have e : c.1.take (n + 1) ++ c.1.drop (n + 1) = c.1 := List.take_append_drop _ _
      have e2 := congrArg wtL e
      rw [wtL_app, tkn, wtL_app] at e2
      simp only [wtL] at e2
      omega
    obtain ⟨B, hBd⟩ : ∃ B, B = wtL (c.1.take n) := ⟨_, rfl⟩
    rw [← hBd] at d3 d4 wn
    obtain ⟨σ1, hσ1⟩ : ∃ z, z = zA (zA σ 43 (n : Int) a.1) 41 (n : Int) (B : Int) := ⟨_, rfl⟩
    have f1 : FrC [3904, 3905] [40, 41, 42, 43] σ σ1 := by
      have b1 : FrC [3904, 3905] [40, 41, 42, 43] σ (zA σ 43 (n : Int) a.1) := FrC_A
      rw [hσ1]; exact b1.trans FrC_A
    have eo : yE tC_Dra_openLiteral (β - 1) σ [a.1] = some (σ1, 0) := by
      rw [yq_Dra_openLiteral, kY_Dra_openLiteral, d1, if_neg (by omega), if_pos (by omega), if_pos wa0, lt_e, zA_1, d1, if_pos (by omega), d3, lt_e, ← hσ1]
    obtain ⟨σ2, u1, u2, u3, u4, u5, u6, u7⟩ := ld_p63 (x0 := (k : Int)) (h := H) (i := n) (a := a) (B := B) hβ (by omega) (by omega) (lwt a) 0 σ1 (hl.f f1) (by rw [hσ1, zA_1, zA_1]; exact d1) (by rw [f1.i 3907]; exact h7) (by rw [hσ1, zA_1, zA_1, d3]; omega) trivial (fun w => by omega) (by omega)
    have f2 : FrC [3904, 3905] [40, 41, 42, 43] σ σ2 := f1.trans u2.w
    obtain ⟨σ3, hσ3⟩ : ∃ z, z = zA (zI σ2 3905 ((n : Int) + 1)) 41 ((n : Int) + 1) ((B : Int) + (lwt a : Int)) := ⟨_, rfl⟩
    have f3 : FrC [3904, 3905] [40, 41, 42, 43] σ σ3 := by
      have b1 : FrC [3904, 3905] [40, 41, 42, 43] σ2 (zI σ2 3905 ((n : Int) + 1)) := FrC_I
      rw [hσ3]; exact (f2.trans b1).trans FrC_A
    have h25 : σ2.1 3905 = (n : Int) := by rw [u2.i 3905, hσ1, zA_1, zA_1]; exact d1
    have ecl : yE tC_Dra_closeLiteral (β - 1) σ2 [] = some (σ3, 0) := by
      rw [yq_Dra_closeLiteral, kY_Dra_closeLiteral, if_pos (by rw [f2.i 3907]; exact h7), h25, if_pos (by omega), lt_e, zI_1, if_pos (by omega), zI_o, u3, lt_e, ← hσ3, yq_Dra_closeLiteral_p30, kY_Dra_closeLiteral_p30]
    have x40 : ∀ q, q < (B : Int) → σ3.2.1 40 q = σ.2.1 40 q := fun q hq => by rw [hσ3, zA_j, zI_2, u6 q hq, hσ1, zA_j, zA_j]
    have x41 : ∀ q, q ≠ (n : Int) → q ≠ (n : Int) + 1 → σ3.2.1 41 q = σ.2.1 41 q := fun q q1 q2 => by rw [hσ3, zA_i q2, zI_2, u2.a 41, hσ1, zA_i q1, zA_j]
    have x41n : σ3.2.1 41 (n : Int) = (B : Int) := by rw [hσ3, zA_i (by omega), zI_2, u2.a 41, hσ1, zA_s]
    have x42 : ∀ q, q ≠ (n : Int) → σ3.2.1 42 q = σ.2.1 42 q := fun q q1 => by rw [hσ3, zA_j, zI_2, u7 q q1, hσ1, zA_j, zA_j]
    have x43 : ∀ q, q ≠ (n : Int) → σ3.2.1 43 q = σ.2.1 43 q := fun q q1 => by rw [hσ3, zA_j, zI_2, u2.a 43, hσ1, zA_j, zA_i q1]
    have dn : DE σ3 (c.1.take (n + 1)) := by
      rw [tkn]
      have lw : wtL (c.1.take n ++ [a]) = B + lwt a := by rw [wtL_app, ← hBd]; simp only [wtL]; omega
      have ll : (c.1.take n ++ [a]).length = n + 1 := by simp [ln]
      refine ⟨by rw [hσ3, zA_1, zI_1, ll]; omega, by omega, by rw [hσ3, zA_1, zI_o, u3, lw]; omega, by omega, RS_app.mpr ⟨RS_q d5 (fun j j0 j1 j2 => ?_) (fun j j0 j1 => ⟨x42 j (by omega), x43 j (by omega)⟩) (fun q q0 q1 => x40 q (by omega)), ⟨?_, ?_, ?_, ?_, ?_, ?_, ?_, ?_⟩, trivial⟩⟩
      · rw [ln] at j1
        by_cases e : j = (n : Int)
        · rw [e, x41n]
          have sg := (RS_SG d5).e (by rw [toQ]; simpa using j2)
          rw [toQ_len, ← hBd] at sg
          have lq : (toQ (c.1.take n)).length = n := by rw [toQ, List.length_map, ln]
          rw [lq, show (0 : Int) + (n : Int) = (n : Int) by omega] at sg
          rw [sg]; omega
        · exact x41 j e (by omega)
      · rw [ln, ← hBd, show (0 : Int) + (n : Int) = (n : Int) by omega, x41n]; omega
      · rw [ln, ← hBd, show (0 : Int) + (n : Int) = (n : Int) by omega, hσ3, zA_j, zI_2, u5]; omega
      · rw [ln, ← hBd, show (0 : Int) + (n : Int) + 1 = (n : Int) + 1 by omega, hσ3, zA_s]; omega
      · rw [ln, show (0 : Int) + (n : Int) = (n : Int) by omega, hσ3, zA_j, zI_2, u2.a 43, hσ1, zA_j, zA_s]
      · rw [← hBd, show (0 : Int) + (B : Int) = (B : Int) by omega]
        have w : Fl (σ2.2.1 40) (B : Int) (fl (tt a.2.1) ++ fl (tt a.2.2)) := by rw [← fl_cat]; exact u4
        exact Fl_q (fun q _ _ => by rw [hσ3, zA_j, zI_2]) (Fl_app.mp w).1
      · rw [← hBd, show (0 : Int) + (B : Int) = (B : Int) by omega]
        have w : Fl (σ2.2.1 40) (B : Int) (fl (tt a.2.1) ++ fl (tt a.2.2)) := by rw [← fl_cat]; exact u4
        have w2 := (Fl_app.mp w).2
        rw [tt_len] at w2
        exact Fl_q (fun q _ _ => by rw [hσ3, zA_j, zI_2]) w2
      · omega
      · omega
    obtain ⟨τ, v1, v2, v3⟩ := ld_p24 hβ hc wc m (n + 1) σ3 (hS.f f3) dn (by rw [f3.i 3907]; exact h7) (by omega)
    refine ⟨τ, ?_, f3.trans v2, v3⟩
    have u1' : yE tC_Dra_load_p63 β σ1 [(k : Int), H, (n : Int), H + 5] = yE tC_Dra_load_p63 β σ2 [(k : Int), H, (n : Int), H + 5 + (lwt a : Int)] := by
      have : H + 5 + ((0 : Nat) : Int) = H + 5 := by omega
      rw [this] at u1; exact u1
    have e51 : yE tC_Dra_load_p51 β σ [(k : Int), H, (n : Int), a.1] = some (τ, 0) := by
      rw [yq_Dra_load_p51, kY_Dra_load_p51, if_pos hβ, zbd_of eo, if_pos hβ, zbd_of (side0_ok (hl.f f1)), u1', yq_Dra_load_p63, kY_Dra_load_p63, if_pos hβ, zbd_of (behind_ok (hl.f f2)), if_pos (by omega), if_pos hβ, zbd_of ecl, if_pos hβ, zbd_of (behind_ok (hl.f f3)), if_pos (by omega), ← hs, show (n : Int) + 1 = ((n + 1 : Nat) : Int) by omega]
      exact v1
    rw [yq_Dra_load_p24, kY_Dra_load_p24, if_pos hβ, zbd_of (hS.f3 hc).1, if_neg (by omega), if_pos (by omega), if_pos (by omega), Int.add_zero, g1]
    rcases wa0 with w | w
    · rw [if_neg (by rw [w]; decide)]
      rw [w] at e51; exact e51
    · rw [if_pos w]
      rw [w] at e51; exact e51
theorem load_ok {ar : Int → Nat} {m9 : Int} {β : Nat} (hβ : 1 ≤ β) {σ : zS} {Cs : List CL} (hS : SC σ Cs) {k : Nat} {c : CL} (hc : Cs[k]? = some c) (wc : Wc ar m9 c.1) (hN : ∃ N, DN σ N) : ∃ τ, yE tC_Dra_load β σ [(k : Int)] = some (τ, 0) ∧ FrC [3904, 3905, 3907, 3911] [40, 41, 42, 43, 46] σ τ ∧ DE τ c.1 ∧ DN τ [] := by
  obtain ⟨σ1, a1, a2, a3⟩ := dclear_ok (β := β - 1) hN
  obtain ⟨b1, b2, b3, b4, b5⟩ := a3
  have e : dq [] = some ([], []) := by simp [dq, flQ, dput, ntF, rnF]
  rw [e] at b3
  obtain ⟨c1, c2, c3, c4, c5⟩ := b3
  obtain ⟨τ, t1, t2, t3⟩ := ld_p24 hβ hc wc c.1.length 0 σ1 (hS.f a2) ⟨b4, by simp, c3, by simp [wtL], trivial⟩ c1 (by omega)
  refine ⟨τ, ?_, a2.w.trans t2.w, t3, c2.f t2⟩
  rw [hp_0] at t1
  have t1' : yE tC_Dra_load_p24 β σ1 [(k : Int), pos Cs k, 0] = _ := t1
  rw [yq_Dra_load, kY_Dra_load, if_pos hβ, zbd_of a1, if_pos hβ, zbd_of ((hS.f a2).f3 hc).2.1, t1']
