/-! the reference shows LITERALS and CLAUSES -/
theorem txM_len {ρ : zS} {nm : PN} (h : NW ρ nm) (x : Tm) : (txM nm x).length ≤ 34 * (1 + wt x.2) := by
  have h1 := txB_len h x.2 40
  have h3 := txW_len h (cl x.1)
  unfold txM
  by_cases hk : wt x.2 = 0
  · rw [if_pos hk]; simp; omega
  · rw [if_neg hk]; simp; omega
theorem so_tm {ρ : zS} {nm : PN} (hN : NW ρ nm) {x : Tm} {β : Nat} (hβ : 2 * ht x.2 + 6 ≤ β) {σ : zS} {L : List Int} {p : Int} (hS : SO ρ σ L) (hw : SWm x) (hp : Pt ρ x.1 x.2 p) (hq : p + 1 + (wt x.2 : Int) ≤ 420000) (hl : L.length + 34 * (1 + wt x.2) ≤ 19700) : ∃ τ, sE tS_sayTerm β σ [p] = some (τ, 0) ∧ SO ρ τ (L ++ txM nm x) := by
  obtain ⟨⟨w1, w2, w3, w4⟩, wk⟩ := hw
  obtain ⟨p0, p1, p2, p3, p4⟩ := hp
  have hbk := Pc_bd p3
  have p420 : zb p 420000 := ⟨p0, by omega⟩
  obtain ⟨τ1, t1, t2, t3⟩ := so_wd (β := β) (by omega) hN hS (by omega) p420 p1 w1 w2 w3
  have e44 : τ1.2.1 44 p = ρ.2.1 44 p := t1.1.2.2.1 44 _ (by decide)
  have hW := txW_len hN (cl x.1)
  unfold txM
  by_cases hk : wt x.2 = 0
  · rw [if_pos hk, List.append_nil]
    by_cases c0 : cl x.1 < 0
    · exact ⟨τ1, t2 c0, t1⟩
    · refine ⟨τ1, ?_, t1⟩
      rw [t3 (by omega), sq_sayTerm_112, kV_sayTerm_112, if_pos p420, e44, if_neg (by omega)]
  · rw [if_neg hk]
    have c0 : ¬ cl x.1 < 0 := fun q => hk (w4 q)
    obtain ⟨τ, u1, u2⟩ := so_tb hN x.2 β (by omega) τ1 (L ++ txW nm (cl x.1)) p 40 (ρ.2.1 44 p) t1 (by decide) wk p3 (by rw [p4 (by omega)]; omega) (by simp; omega)
    refine ⟨τ, ?_, ?_⟩
    · rw [t3 (by omega), sq_sayTerm_112, kV_sayTerm_112, if_pos p420, e44, if_pos (by omega)]; exact u1
    · simp only [List.append_assoc] at u2 ⊢; exact u2
/-- is it a PREDICATE -/
theorem so_pd {β : Nat} {ρ σ : zS} {L : List Int} {m9 : Int} {pd : Int → Prop} (hS : SO ρ σ L) (hP : Pd ρ m9 pd) {p c : Int} (p0 : zb p 420000) (e : ρ.2.1 43 p = c) (hc : c < m9) : (pd c ∧ 0 ≤ c → sE tS_isPredicate β σ [p] = some (σ, 1)) ∧ (¬ (pd c ∧ 0 ≤ c) → sE tS_isPredicate β σ [p] = some (σ, 0)) := by
  have a3 := hS.1.2.2.1
  have e43 : σ.2.1 43 p = c := by rw [a3 43 _ (by decide)]; exact e
  have f28 : ∀ y : Int, (y = 0 ∨ y = 1) → sE tS_isPredicate_28 β σ [p, y] = some (σ, y) := fun y hy => by rw [sq_isPredicate_28, kV_isPredicate_28, if_pos hy]
  have f27 : sE tS_isPredicate_27 β σ [p] = some (σ, 0) := by rw [sq_isPredicate_27, kV_isPredicate_27]; exact f28 0 (Or.inl rfl)
  have hm := hP.1
  refine ⟨fun hq => ?_, fun hq => ?_⟩
  · have h49 := hP.2 c hq.2 hc
    have e49 : σ.2.1 49 c = ρ.2.1 49 c := a3 49 _ (by decide)
    rw [sq_isPredicate, kV_isPredicate, if_pos p0, e43, if_neg (by omega), if_pos (show zb c 900 from ⟨hq.2, by omega⟩), e49, if_neg (fun z => h49.mp z hq.1)]
    exact f28 1 (Or.inr rfl)
  · rw [sq_isPredicate, kV_isPredicate, if_pos p0, e43]
    by_cases c0 : c < 0
    · rw [if_pos c0]; exact f27
    · have h49 := hP.2 c (by omega) hc
      have e49 : σ.2.1 49 c = ρ.2.1 49 c := a3 49 _ (by decide)
      rw [if_neg c0, if_pos (show zb c 900 from ⟨by omega, by omega⟩), e49, if_pos (h49.mpr (fun z => hq ⟨z, by omega⟩))]; exact f27
theorem txLt_len {ρ : zS} {nm : PN} (h : NW ρ nm) (a : Lt) : (txLt nm a).length ≤ 34 * (tw a.2.1 + tw a.2.2) + 4 := by
  have h1 := txM_len h a.2.1
  have h2 := txM_len h a.2.2
  have e1 : tw a.2.1 = 1 + wt a.2.1.2 := rfl
  have e2 : tw a.2.2 = 1 + wt a.2.2.2 := rfl
  unfold txLt
  split
  · split <;> simp <;> omega
  · split <;> simp <;> omega
theorem so_lit {ρ : zS} {nm : PN} (hN : NW ρ nm) {m9 : Int} {pd : Int → Prop} (hP : Pd ρ m9 pd) (pd0 : pd 0) (pdn : ∀ c, c < 0 → ¬ pd c) {a : Lt} (ha : TyL pd a) {β : Nat} (hβ : 210 ≤ β) {σ : zS} {L : List Int} (hS : SO ρ σ L) {j : Int} (j0 : zb j 16100) (hR : RLi ρ j a) (h01 : a.1 = 0 ∨ a.1 = 1) (hm1 : cl a.2.1.1 < m9) (hm2 : cl a.2.2.1 < m9) (hw1 : SWm a.2.1) (hw2 : cl a.2.2.1 = 0 ∨ SWm a.2.2) (hh1 : ht a.2.1.2 ≤ 100) (hh2 : ht a.2.2.2 ≤ 100) (hl : L.length + 34 * (tw a.2.1 + tw a.2.2) ≤ 19600) : ∃ τ, sE tS_sayLiteral β σ [j] = some (τ, 0) ∧ SO ρ τ (L ++ txLt nm a) := by
  obtain ⟨⟨r1, r1'⟩, ⟨r2, r2'⟩, _, _, r5, _⟩ := hR
  have e1 : tw a.2.1 = 1 + wt a.2.1.2 := rfl
  have e2 : tw a.2.2 = 1 + wt a.2.2.2 := rfl
  have hM1 := txM_len hN a.2.1
  have z1 : zb (ρ.2.1 66 j) 420000 := ⟨r1.1, by omega⟩
  have z2 : zb (ρ.2.1 67 j) 420000 := ⟨r2.1, by omega⟩
  have a3 : ∀ {σ : zS} {L : List Int}, SO ρ σ L → σ.2.1 66 j = ρ.2.1 66 j ∧ σ.2.1 67 j = ρ.2.1 67 j ∧ σ.2.1 68 j = a.1 ∧ σ.2.1 43 (ρ.2.1 66 j) = cl a.2.1.1 := fun {σ L} h => ⟨h.1.2.2.1 66 _ (by decide), h.1.2.2.1 67 _ (by decide), (h.1.2.2.1 68 _ (by decide)).trans r5, (h.1.2.2.1 43 _ (by decide)).trans r1.2.1⟩
  obtain ⟨x1, x2, x3, x4⟩ := a3 hS
  unfold txLt
  rcases ha with ⟨y1, y2, y3, y4⟩ | ⟨y1, y2⟩
  · have ec : cl a.2.2.1 = 0 := by rw [y4]; rfl
    rw [if_pos ec]
    have q1 := (so_pd (β := β - 1) hS hP z1 r1.2.1 hm1).1 ⟨y2, by omega⟩
    have hd : sE tS_sayLiteral β σ [j] = sE tS_sayLiteral_73 β σ [j, ρ.2.1 66 j] := by
      rw [sq_sayLiteral, kV_sayLiteral, if_pos j0, if_pos (by omega), x1, zbd_of q1, if_neg (by decide), x1, if_pos z1, x4, if_neg (by omega)]
    have h93 : ∀ {σ : zS} {L' : List Int}, SO ρ σ L' → L'.length ≤ L.length + 1 → ∃ τ, sE tS_sayLiteral_93 β σ [j, ρ.2.1 66 j] = some (τ, 0) ∧ SO ρ τ (L' ++ txM nm a.2.1) := fun {σ L'} h hL => by
      obtain ⟨τ, t1, t2⟩ := so_tm (β := β - 1) hN (by omega) h hw1 r1 r1' (by omega)
      exact ⟨τ, by rw [sq_sayLiteral_93, kV_sayLiteral_93, if_pos (by omega), zbd_of t1], t2⟩
    by_cases s0 : a.1 = 0
    · rw [if_pos s0]
      obtain ⟨k1, k2⟩ := so_say (x := 126) hS (by omega) (by decide)
      obtain ⟨τ, t1, t2⟩ := h93 k2 (by simp)
      refine ⟨τ, ?_, ?_⟩
      · rw [hd, sq_sayLiteral_73, kV_sayLiteral_73, if_neg (by have := z1.1; omega), if_pos j0, x3, if_pos s0, if_pos k1, lt_e]; exact t1
      · simp only [List.append_assoc] at t2 ⊢; exact t2
    · rw [if_neg s0]
      obtain ⟨τ, t1, t2⟩ := h93 hS (by omega)
      refine ⟨τ, ?_, ?_⟩
      · rw [hd, sq_sayLiteral_73, kV_sayLiteral_73, if_neg (by have := z1.1; omega), if_pos j0, x3, if_neg s0]; exact t1
      · simpa using t2
  · have n1 : ¬ pd (cl a.2.1.1) := y1.1
    have n2 : ¬ pd (cl a.2.2.1) := y2.1
    have ec : ¬ cl a.2.2.1 = 0 := fun q => n2 (by rw [q]; exact pd0)
    rw [if_neg ec]
    have hw2' : SWm a.2.2 := hw2.resolve_left ec
    have q1 := (so_pd (β := β - 1) hS hP z1 r1.2.1 hm1).2 (fun q => n1 q.1)
    have q2 := (so_pd (β := β - 1) hS hP z2 r2.2.1 hm2).2 (fun q => n2 q.1)
    have hd : sE tS_sayLiteral β σ [j] = sE tS_sayLiteral_73 β σ [j, -1] := by
      rw [sq_sayLiteral, kV_sayLiteral, if_pos j0, if_pos (by omega), x1, zbd_of q1, if_pos rfl, sq_sayLiteral_36, kV_sayLiteral_36, if_pos j0, if_pos (by omega), x2, zbd_of q2, if_pos rfl, sq_sayLiteral_72, kV_sayLiteral_72]
    obtain ⟨τ1, t1, t2⟩ := so_tm (β := β - 1) hN (by omega) hS hw1 r1 r1' (by omega)
    obtain ⟨k1, k2⟩ := so_say (x := 32) t2 (by simp; omega) (by decide)
    have h130 : ∀ {σ : zS} {L' : List Int}, SO ρ σ L' → L'.length ≤ L.length + (txM nm a.2.1).length + 2 → ∃ τ, sE tS_sayLiteral_130 β σ [j, -1] = some (τ, 0) ∧ SO ρ τ (L' ++ [61, 32] ++ txM nm a.2.2) := fun {σ L'} h hL => by
      obtain ⟨m1, m2⟩ := so_say (x := 61) h (by omega) (by decide)
      obtain ⟨m3, m4⟩ := so_say (x := 32) m2 (by simp; omega) (by decide)
      obtain ⟨τ, u1, u2⟩ := so_tm (β := β - 1) hN (by omega) m4 hw2' r2 r2' (by simp; omega)
      refine ⟨τ, ?_, ?_⟩
      · rw [sq_sayLiteral_130, kV_sayLiteral_130, if_pos m1, lt_e, if_pos m3, lt_e, if_pos j0, if_pos (by omega), (a3 m4).2.1, zbd_of u1]
      · simp only [List.append_assoc] at u2 ⊢; exact u2
    by_cases s0 : a.1 = 0
    · rw [if_pos s0]
      obtain ⟨m1, m2⟩ := so_say (x := 33) k2 (by simp; omega) (by decide)
      obtain ⟨τ, u1, u2⟩ := h130 m2 (by simp; omega)
      refine ⟨τ, ?_, ?_⟩
      · rw [hd, sq_sayLiteral_73, kV_sayLiteral_73, if_pos (by decide), if_pos j0, if_pos (by omega), x1, zbd_of t1, if_pos k1, lt_e, (a3 k2).2.2.1, if_pos s0, if_pos m1, lt_e]; exact u1
      · simp only [List.append_assoc] at u2 ⊢; exact u2
    · rw [if_neg s0]
      obtain ⟨τ, u1, u2⟩ := h130 k2 (by simp; omega)
      refine ⟨τ, ?_, ?_⟩
      · rw [hd, sq_sayLiteral_73, kV_sayLiteral_73, if_pos (by decide), if_pos j0, if_pos (by omega), x1, zbd_of t1, if_pos k1, lt_e, (a3 k2).2.2.1, if_neg s0]; exact u1
      · simp only [List.append_assoc, List.nil_append] at u2 ⊢; exact u2
