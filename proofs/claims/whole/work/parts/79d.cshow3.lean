/-! the class shows LITERALS and CLAUSES -/
section
variable {ρ : zS} {nm : PN} {ar : Int → Nat} {m9 : Int}
theorem jside0 {β : Nat} {σ : zS} {p : Int} {a : Lt} (h : HL σ p a) : jE tH_Sto_sideAt β σ [p, 0] = some (σ, p + 5) := by
  obtain ⟨a1, a2, a3, a4, a5, a6, a7, a8, a9⟩ := h
  rw [jq_Sto_sideAt, kJ_Sto_sideAt, if_pos rfl, if_pos (by omega), jq_Sto_sideAt_p22, kJ_Sto_sideAt_p22, if_pos (by omega), Int.add_zero]
theorem jside1 {β : Nat} {σ : zS} {p : Int} {a : Lt} (h : HL σ p a) : jE tH_Sto_sideAt β σ [p, 1] = some (σ, p + 5 + (tw a.2.1 : Int)) := by
  obtain ⟨a1, a2, a3, a4, a5, a6, a7, a8, a9⟩ := h
  have := tw_pos a.2.1
  have := tw_pos a.2.2
  rw [jq_Sto_sideAt, kJ_Sto_sideAt, if_neg (by decide), if_pos (by omega), if_pos (by omega), if_pos (by omega), a2, jq_Sto_sideAt_p22, kJ_Sto_sideAt_p22, if_pos (by omega)]
theorem jbehind {β : Nat} {σ : zS} {p : Int} {a : Lt} (h : HL σ p a) : jE tH_Sto_behind β σ [p] = some (σ, p + 5 + (tw a.2.1 : Int) + (tw a.2.2 : Int)) := by
  obtain ⟨a1, a2, a3, a4, a5, a6, a7, a8, a9⟩ := h
  have := tw_pos a.2.1
  have := tw_pos a.2.2
  rw [jq_Sto_behind, kJ_Sto_behind, if_pos (by omega), if_pos (by omega), if_pos (by omega), if_pos (by omega), if_pos (by omega), a2, a3, if_pos (by omega), if_pos (by omega)]
theorem HS.hl {σ : zS} {L : List Int} {G : Int → Int} (h : HS ρ σ L G) {p : Int} {a : Lt} (g : HL ρ p a) : HL σ p a := by
  obtain ⟨a1, a2, a3, a4, a5, a6, a7, a8, a9⟩ := g
  have f := h.2.1
  exact ⟨by rw [f.a 48 _]; exact a1, by rw [f.a 48 _]; exact a2, by rw [f.a 48 _]; exact a3, Fl_q (fun i _ _ => f.a 48 i) a4, Fl_q (fun i _ _ => f.a 48 i) a5, a6, by rw [f.i 4701]; exact a7, by rw [f.i 4701, f.l 48]; exact a8, by rw [f.l 48]; exact a9⟩
/-- all that the class knows of a LITERAL that it shows -/
def LitC (ar : Int → Nat) (m9 : Int) (a : Lt) : Prop := (a.1 = 0 ∨ a.1 = 1) ∧ wf ar (lb m9) (tt a.2.1) ∧ wf ar (lb m9) (tt a.2.2) ∧ SWm a.2.1 ∧ (cl a.2.2.1 = 0 ∨ SWm a.2.2) ∧ wt a.2.1.2 ≤ 100 ∧ wt a.2.2.2 ≤ 100
theorem clit_ok (hN : NC ρ nm) (hA : ArC ρ ar (lb m9)) {β : Nat} (hβ : 3 ≤ β) {p : Int} {a : Lt} (g : HL ρ p a) (ha : LitC ar m9 a) {σ : zS} {L : List Int} {G : Int → Int} (hS : HS ρ σ L G) (hl : L.length + 34 * (tw a.2.1 + tw a.2.2) ≤ 19500) : ∃ τ G', jE tH_CP_writeLiteral β σ [p] = some (τ, 0) ∧ HS ρ τ (L ++ txLt nm a) G' := by
  obtain ⟨h01, w1, w2, s1, s2, h1, h2⟩ := ha
  obtain ⟨a1, a2, a3, a4, a5, a6, a7, a8, a9⟩ := id g
  have e1 : tw a.2.1 = 1 + wt a.2.1.2 := rfl
  have e2 : tw a.2.2 = 1 + wt a.2.2.2 := rfl
  have hM1 := cxM_len hN a.2.1
  have gσ := hS.hl g
  have l48 : σ.2.2 48 = ρ.2.2 48 := hS.2.1.l 48
  have er : σ.2.1 48 (p + 5 + (tw a.2.1 : Int)) = cl a.2.2.1 := by rw [hS.2.1.a 48 _]; exact a5.1
  have ep : σ.2.1 48 p = a.1 := by rw [hS.2.1.a 48 _]; exact a1
  have zr2 : zb (p + 5 + (tw a.2.1 : Int)) (σ.2.2 48) := ⟨by omega, by rw [l48]; omega⟩
  have hd : jE tH_CP_writeLiteral β σ [p] = jE tH_CP_writeLiteral_p25 β σ [p, a.1] := by
    rw [jq_CP_writeLiteral, kJ_CP_writeLiteral, Int.add_zero, if_pos (show zr p from ⟨by omega, by omega⟩), if_pos (show zb p (σ.2.2 48) from ⟨a6, by rw [l48]; omega⟩), ep]
    rcases h01 with z | z
    · rw [z, if_neg (by decide)]
    · rw [z, if_pos rfl]
  have b1 : 1 ≤ β := by omega
  unfold txLt
  by_cases c0 : cl a.2.2.1 = 0
  · rw [if_pos c0]
    by_cases z0 : a.1 = 0
    · rw [if_pos z0]
      obtain ⟨k1, k2⟩ := hS.add (by omega) 126
      obtain ⟨τ, G', t1, t2⟩ := ct_tm (β := β - 1) hN hA (by omega) (by omega) (x := a.2.1) (p := p + 5) rfl (by omega) (by omega) w1 s1 a4 k2 h1 (by simp; omega)
      refine ⟨τ, G', ?_, ?_⟩
      · rw [hd, jq_CP_writeLiteral_p25, kJ_CP_writeLiteral_p25, if_pos b1, zbd_of (jside0 gσ), if_pos b1, zbd_of (jside1 gσ), if_pos zr2, er, if_pos c0, if_pos z0, if_pos k1, lt_e, if_pos b1, zbd_of t1]
      · rw [List.append_assoc] at t2; exact t2
    · rw [if_neg z0]
      obtain ⟨τ, G', t1, t2⟩ := ct_tm (β := β - 1) hN hA (by omega) (by omega) (x := a.2.1) (p := p + 5) rfl (by omega) (by omega) w1 s1 a4 hS h1 (by omega)
      refine ⟨τ, G', ?_, ?_⟩
      · rw [hd, jq_CP_writeLiteral_p25, kJ_CP_writeLiteral_p25, if_pos b1, zbd_of (jside0 gσ), if_pos b1, zbd_of (jside1 gσ), if_pos zr2, er, if_pos c0, if_neg z0, if_pos b1, zbd_of t1]
      · rw [List.nil_append]; exact t2
  · rw [if_neg c0]
    have s2' := s2.resolve_left c0
    obtain ⟨τ1, G1, t1, t2⟩ := ct_tm (β := β - 1) hN hA (by omega) (by omega) (x := a.2.1) (p := p + 5) rfl (by omega) (by omega) w1 s1 a4 hS h1 (by omega)
    obtain ⟨k1, k2⟩ := t2.add (by simp; omega) 32
    -- what comes behind the sign
    have hr : ∀ {σ' : zS} {L' : List Int} {G'' : Int → Int}, HS ρ σ' L' G'' → L'.length ≤ L.length + (txM nm a.2.1).length + 4 → zr (p + 4) ∧ zb (p + 4) (σ'.2.2 48) ∧ σ'.2.1 48 (p + 4) = (tw a.2.2 : Int) ∧ ∃ τ G', jE tH_CP_writeTerm (β - 1) σ' [p + 5 + (tw a.2.1 : Int), p + 5 + (tw a.2.1 : Int) + (tw a.2.2 : Int)] = some (τ, 0) ∧ HS ρ τ (L' ++ txM nm a.2.2) G' := fun {σ' L' G''} h hL => by
      refine ⟨⟨by omega, by omega⟩, ⟨by omega, by rw [h.2.1.l 48]; omega⟩, by rw [h.2.1.a 48 _]; exact a3, ?_⟩
      exact ct_tm (β := β - 1) hN hA (by omega) (by omega) (x := a.2.2) (p := p + 5 + (tw a.2.1 : Int)) rfl (by omega) (by omega) w2 s2' a5 h h2 (by omega)
    have zr3 : zr (p + 5 + (tw a.2.1 : Int) + (tw a.2.2 : Int)) := ⟨by omega, by omega⟩
    by_cases z0 : a.1 = 0
    · rw [if_pos z0]
      obtain ⟨m1, m2⟩ := k2.add (by simp; omega) 33
      obtain ⟨m3, m4⟩ := m2.add (by simp; omega) 61
      obtain ⟨m5, m6⟩ := m4.add (by simp; omega) 32
      obtain ⟨r1, r2, r3, τ, G', u1, u2⟩ := hr m6 (by simp; omega)
      refine ⟨τ, G', ?_, ?_⟩
      · rw [hd, jq_CP_writeLiteral_p25, kJ_CP_writeLiteral_p25, if_pos b1, zbd_of (jside0 gσ), if_pos b1, zbd_of (jside1 gσ), if_pos zr2, er, if_neg c0, if_pos b1, zbd_of t1, if_pos z0, if_pos k1, lt_e, if_pos m1, lt_e, if_pos m3, lt_e, if_pos m5, lt_e, if_pos r1, if_pos r2, r3, if_pos zr3, if_pos b1, zbd_of u1]
      · simp only [List.append_assoc, List.cons_append, List.nil_append] at u2 ⊢; exact u2
    · rw [if_neg z0]
      obtain ⟨m3, m4⟩ := k2.add (by simp; omega) 61
      obtain ⟨m5, m6⟩ := m4.add (by simp; omega) 32
      obtain ⟨r1, r2, r3, τ, G', u1, u2⟩ := hr m6 (by simp; omega)
      refine ⟨τ, G', ?_, ?_⟩
      · rw [hd, jq_CP_writeLiteral_p25, kJ_CP_writeLiteral_p25, if_pos b1, zbd_of (jside0 gσ), if_pos b1, zbd_of (jside1 gσ), if_pos zr2, er, if_neg c0, if_pos b1, zbd_of t1, if_neg z0, if_pos k1, lt_e, if_pos m3, lt_e, if_pos m5, lt_e, if_pos r1, if_pos r2, r3, if_pos zr3, if_pos b1, zbd_of u1]
      · simp only [List.append_assoc, List.cons_append, List.nil_append] at u2 ⊢; exact u2
/-- the LITERALS behind the first -/
theorem ccl_ok (hN : NC ρ nm) (hA : ArC ρ ar (lb m9)) {β : Nat} (hβ : 4 ≤ β) {k n : Int} (hn8 : n ≤ 8) (h47 : ρ.1 4701 ≤ (ρ.2.2 48 : Int)) (h48 : ρ.2.2 48 ≤ 565000) : ∀ (E : List Lt) (p i : Int) (σ : zS) (L : List Int) (G : Int → Int), LL (ρ.2.1 48) p E → 0 ≤ p → p + (szL E : Int) ≤ ρ.1 4701 → (∀ a ∈ E, LitC ar m9 a) → 0 < i → i + (E.length : Int) = n → HS ρ σ L G → L.length + twL E ≤ 19400 → ∃ τ G', jE tH_CP_show_p63 β σ [k, n, p, i] = some (τ, τ.1 301) ∧ HS ρ τ (L ++ txC2 nm E) G'
  | [], p, i, σ, L, G, hL, p0, p1, ha, hi, hin, hS, hl => by
    refine ⟨σ, G, ?_, ?_⟩
    · simp only [List.length_nil] at hin
      rw [jq_CP_show_p63, kJ_CP_show_p63, if_pos (by omega)]
    · simp only [txC2, List.append_nil]; exact hS
  | a :: E, p, i, σ, L, G, hL, p0, p1, ha, hi, hin, hS, hl => by
    have g := HL_of hL p0 p1 h47 h48
    obtain ⟨_, _, _, _, _, hL'⟩ := id hL
    simp only [szL] at p1
    simp only [twL] at hl
    simp only [List.length_cons] at hin
    have hln := cxL_len hN a
    have ht1 := tw_pos a.2.1
    have ht2 := tw_pos a.2.2
    obtain ⟨m1, m2⟩ := hS.add (by omega) 32
    obtain ⟨m3, m4⟩ := m2.add (by simp; omega) 124
    obtain ⟨m5, m6⟩ := m4.add (by simp; omega) 32
    obtain ⟨σ1, G1, s1, s2⟩ := clit_ok (β := β - 1) hN hA (by omega) g (ha a List.mem_cons_self) m6 (by simp; omega)
    obtain ⟨τ, G', t1, t2⟩ := ccl_ok hN hA hβ hn8 h47 h48 E (p + 5 + (tw a.2.1 : Int) + (tw a.2.2 : Int)) (i + 1) σ1 _ G1 hL' (by omega) (by omega) (fun b hb => ha b (List.mem_cons_of_mem _ hb)) (by omega) (by omega) s2 (by simp; omega)
    refine ⟨τ, G', ?_, ?_⟩
    · rw [jq_CP_show_p63, kJ_CP_show_p63, if_neg (by omega), if_neg (by omega), if_pos m1, lt_e, if_pos m3, lt_e, if_pos m5, lt_e, jq_CP_show_p80, kJ_CP_show_p80, if_pos (by omega), zbd_of s1, if_pos (by omega), zbd_of (jbehind (s2.hl g)), if_pos (show zr (i + 1) from ⟨by omega, by omega⟩)]
      exact t1
    · simp only [txC2]
      simp only [List.append_assoc, List.cons_append, List.nil_append] at t2 ⊢
      exact t2
end
theorem cxC2_len {ρ : zS} {nm : PN} (h : NC ρ nm) : ∀ E : List Lt, (txC2 nm E).length ≤ twL E
  | [] => Nat.le_refl _
  | a :: E => by
    have h1 := cxC2_len h E
    have h2 := cxL_len h a
    simp only [txC2, twL, List.length_append, List.length_cons, List.length_nil]
    omega
theorem cxCl_len {ρ : zS} {nm : PN} (h : NC ρ nm) (E : List Lt) (hl : twL E ≤ 18000) : (txCl nm E).length ≤ 18100 := by
  match E, hl with
  | [], hl => simp [txCl]
  | a :: E, hl =>
    have h1 := cxC2_len h E
    have h2 := cxL_len h a
    simp only [twL] at hl
    simp only [txCl, List.length_append]
    omega
/-- the whole call, where there is such a CLAUSE -/
theorem cshow_ok {σ : zS} {nm : PN} {ar : Int → Nat} {m9 : Int} (hN : NC σ nm) (hA : ArC σ ar (lb m9)) {β : Nat} (hβ : 5 ≤ β) {Cs : List CL} (hC : SC σ Cs) (hM : Mb σ) (hR : RL σ) {k : Nat} {c : CL} (hk : Cs[k]? = some c) (hc8 : c.1.length ≤ 8) (ha : ∀ a ∈ c.1, LitC ar m9 a) (hl : twL c.1 ≤ 19000) (h16 : 16 ≤ σ.2.2 4) (h50 : σ.2.2 4 ≤ 50000) : ∃ τ G, jE tH_CP_show β σ [(k : Int)] = some (τ, ((txCl nm c.1).length : Int)) ∧ HS (zI σ 301 0) τ (txCl nm c.1) G := by
  obtain ⟨ρ, hρ⟩ : ∃ r, r = zI σ 301 0 := ⟨_, rfl⟩
  have f : FrC [301] [4, 5] σ ρ := by rw [hρ]; exact FrC_I
  have ra : ρ.2 = σ.2 := by rw [hρ]; rfl
  obtain ⟨⟨hF, hLL, _⟩, p0, p1, hkl⟩ := hC.k hk
  obtain ⟨_, c2, c3, c4, ⟨c5, c6, c7⟩, ⟨c8, c9, c10⟩, _, c12⟩ := id hC
  obtain ⟨_, _, _, f3, _, _, _, _, f8⟩ := hF
  have hN' : NC ρ nm := by
    obtain ⟨n1, n2, n3, n4⟩ := hN
    refine ⟨by rw [f.i 604]; exact n1, n2, n3, ?_⟩
    rw [ra]; exact n4
  have hA' : ArC ρ ar (lb m9) := by unfold ArC; rw [ra]; exact hA
  have hS : HS ρ ρ [] (ρ.2.1 5) := by
    refine ⟨⟨by rw [hρ]; exact zI_1, Nat.zero_le _, by rw [ra]; exact h16, trivial⟩, FrC.refl, ⟨by rw [ra]; exact h50, ?_, ?_⟩, fun _ => rfl⟩
    · exact hM.m f.2.2.2
    · intro j hj; rw [ra]; exact hR j hj
  have h47 : ρ.1 4701 ≤ (ρ.2.2 48 : Int) := by rw [f.i 4701, ra]; exact c5
  have h48 : ρ.2.2 48 ≤ 565000 := by rw [ra]; exact c6
  have e17 : jE tH_Sto_has_p17 (β - 1) σ [(k : Int), 1] = some (σ, 1) := by rw [jq_Sto_has_p17, kJ_Sto_has_p17, if_pos (Or.inr rfl)]
  have hhas : jE tH_Sto_has (β - 1) σ [(k : Int)] = some (σ, 1) := by
    rw [jq_Sto_has, kJ_Sto_has, if_neg (by omega), if_neg (by omega)]; exact e17
  have fact : ∀ (τ : zS) (w : Int), τ.2.1 52 = σ.2.1 52 → τ.2.2 52 = σ.2.2 52 → 0 ≤ w → w < 11 → jE tH_Sto_fact (β - 1) τ [(k : Int), w] = some (τ, σ.2.1 52 ((k : Int) * 11 + w)) := fun τ w e1 e2 w0 w1 => by
    rw [jq_Sto_fact, kJ_Sto_fact, if_pos (show zr ((k : Int) * 11) from ⟨by omega, by omega⟩), if_pos (show zr ((k : Int) * 11 + w) from ⟨by omega, by omega⟩), e2, if_pos (show zb ((k : Int) * 11 + w) (σ.2.2 52) from ⟨by omega, by omega⟩), e1]
  have fρ := fact ρ 3 (by rw [ra]) (by rw [ra]) (by decide) (by decide)
  rw [f3] at fρ
  have b1 : 1 ≤ β := by omega
  have p49 : ∀ {τ : zS} {L : List Int} {G : Int → Int} (n : Int), HS ρ τ L G → jE tH_CP_show_p49 β τ [(k : Int), n] = jE tH_CP_show_p63 β τ [(k : Int), n, pos Cs k, 0] := fun {τ L G} n h => by
    have e1 : τ.2.1 52 = σ.2.1 52 := funext (fun q => by rw [h.2.1.a 52 q, ra])
    have f8' := fact τ 8 e1 (by rw [h.2.1.l 52, ra]) (by decide) (by decide)
    rw [f8] at f8'
    rw [jq_CP_show_p49, kJ_CP_show_p49, if_pos b1, zbd_of f8']
  rw [← hρ]
  have hhd : jE tH_CP_show β σ [(k : Int)] = kJ_CP_show jE β σ (k : Int) := jq_CP_show
  obtain ⟨E0, hE0⟩ : ∃ E, E = c.1 := ⟨_, rfl⟩
  rw [← hE0] at hc8 ha hl hLL p1 fρ ⊢
  clear hE0
  match E0, hc8, ha, hl, hLL, p1, fρ with
  | [], hc8, ha, hl, hLL, p1, fρ =>
    obtain ⟨m1, n1⟩ := hS.add (by simp) 102
    obtain ⟨m2, n2⟩ := n1.add (by simp) 97
    obtain ⟨m3, n3⟩ := n2.add (by simp) 108
    obtain ⟨m4, n4⟩ := n3.add (by simp) 115
    obtain ⟨m5, n5⟩ := n4.add (by simp) 101
    have e0 : (([] : List Lt).length : Int) = 0 := rfl
    rw [e0] at fρ
    refine ⟨_, _, ?_, n5⟩
    have e3 := n5.1.1
    rw [hhd, kJ_CP_show, if_pos b1, zbd_of hhas, if_neg (by decide), lt_e, ← hρ, if_pos b1, zbd_of fρ, if_pos rfl, if_pos m1, lt_e, if_pos m2, lt_e, if_pos m3, lt_e, if_pos m4, lt_e, if_pos m5, lt_e, p49 0 n5, jq_CP_show_p63, kJ_CP_show_p63, if_pos (Int.le_refl 0), e3]
    rfl
  | a :: E, hc8, ha, hl, hLL, p1, fρ =>
    simp only [twL] at hl
    have q1 : pos Cs k + (szL (a :: E) : Int) ≤ ρ.1 4701 := by rw [f.i 4701]; exact p1
    have hLL' : LL (ρ.2.1 48) (pos Cs k) (a :: E) := by rw [ra]; exact hLL
    have g := HL_of hLL' p0 q1 h47 h48
    obtain ⟨_, _, _, _, _, hL2⟩ := id hLL'
    simp only [szL] at q1
    have hln := cxL_len hN' a
    have ht1 := tw_pos a.2.1
    have ht2 := tw_pos a.2.2
    obtain ⟨σ1, G1, s1, s2⟩ := clit_ok (β := β - 1) hN' hA' (by omega) g (ha a List.mem_cons_self) hS (by simp; omega)
    obtain ⟨τ, G', t1, t2⟩ := ccl_ok hN' hA' (β := β) (by omega) (k := (k : Int)) (n := ((a :: E).length : Int)) (by omega) h47 h48 E (pos Cs k + 5 + (tw a.2.1 : Int) + (tw a.2.2 : Int)) 1 σ1 _ G1 hL2 (by omega) (by omega) (fun b hb => ha b (List.mem_cons_of_mem _ hb)) (by decide) (by simp only [List.length_cons]; omega) s2 (by simp; omega)
    have et : [] ++ txLt nm a ++ txC2 nm E = txCl nm (a :: E) := by simp [txCl]
    rw [et] at t2
    refine ⟨τ, G', ?_, t2⟩
    have e3 : τ.1 301 = ((txCl nm (a :: E)).length : Int) := t2.1.1
    rw [e3] at t1
    have nz : ¬ ((a :: E).length : Int) = 0 := by simp only [List.length_cons]; omega
    rw [hhd, kJ_CP_show, if_pos b1, zbd_of hhas, if_neg (by decide), lt_e, ← hρ, if_pos b1, zbd_of fρ, if_neg nz, p49 _ hS, jq_CP_show_p63, kJ_CP_show_p63, if_neg (by simp only [List.length_cons]; omega), if_pos (Int.le_refl 0), jq_CP_show_p80, kJ_CP_show_p80, if_pos b1, zbd_of s1, if_pos b1, zbd_of (jbehind (s2.hl g)), if_pos (show zr (0 + 1) from ⟨by decide, by decide⟩)]
    exact t1
