/-! one call of both: show -/
variable {qo : Nat}
theorem SW_of {ar : Int → Nat} {pd : Int → Prop} {m9 : Int} (pd0 : pd 0) (hm : m9 ≤ 551) : ∀ {F : T}, wf ar (lb m9) F → TyT pd F → SW F
  | .leaf _, _, _ => trivial
  | .branch l k s, w, t => by
    obtain ⟨w1, ⟨w2, w2'⟩, w3, w4⟩ := w
    obtain ⟨t1, t2, t3⟩ := t
    have hv : cl l < 0 → wt k = 0 := fun c0 => by
      rw [if_pos c0] at w1
      rw [len0 w1]; rfl
    refine ⟨⟨fun e => t1 (by rw [e]; exact pd0), by omega, by omega, hv⟩, ?_, SW_of pd0 hm w4 t3⟩
    by_cases c0 : cl l < 0
    · rw [wt0 (hv c0)]; trivial
    · exact SW_of pd0 hm w3 (t2 (by omega))
theorem SWm_of {ar : Int → Nat} {pd : Int → Prop} {m9 : Int} (pd0 : pd 0) (hm : m9 ≤ 551) {a : Lt} (w1 : wf ar (lb m9) (tt a.2.1)) (w2 : wf ar (lb m9) (tt a.2.2)) (ht : TyL pd a) : SWm a.2.1 ∧ (cl a.2.2.1 = 0 ∨ SWm a.2.2) := by
  rcases ht with ⟨y1, y2, y3, y4⟩ | ⟨y1, y2⟩
  · obtain ⟨v1, ⟨v2, v2'⟩, v3, _⟩ := w1
    refine ⟨⟨⟨by omega, by omega, by omega, fun c0 => absurd c0 (by omega)⟩, SW_of pd0 hm v3 y3⟩, Or.inl ?_⟩
    rw [y4]; rfl
  · have s1 := SW_of pd0 hm w1 y1
    have s2 := SW_of pd0 hm w2 y2
    exact ⟨⟨s1.1, s1.2.1⟩, Or.inr ⟨s2.1, s2.2.1⟩⟩
theorem twL_wt : ∀ C : List Lt, twL C = 34 * wtL C + 7 * C.length
  | [] => rfl
  | a :: C => by simp only [twL, wtL, List.length_cons, twL_wt C]; omega
theorem HS.rl {ρ σ : zS} {L : List Int} {G : Int → Int} (h : HS ρ σ L G) : RL σ := by
  obtain ⟨h1, h2, ⟨h3, h4, h5⟩, h6⟩ := h
  intro j hj
  by_cases e : j = 4
  · subst e; omega
  · have hm : j ∈ rws := List.elem_iff.mp hj
    have e5 : j ≠ 5 ∧ j ≠ 3001 ∧ j ≠ 3002 := by
      simp only [rws, List.mem_cons, List.not_mem_nil, or_false] at hm; omega
    have e45 : ([4, 5] : List Nat).elem j = false := by
      cases hq : ([4, 5] : List Nat).elem j with
      | false => rfl
      | true =>
        have := List.elem_iff.mp hq
        simp only [List.mem_cons, List.not_mem_nil, or_false] at this
        omega
    rw [h2.2.2.1 j e45 e5.2.1 e5.2.2]; exact h5 j hj
theorem CNm.nc {σ : zS} {nm : PN} {x : Int} (h : CNm (zI σ 605 x) nm) : NC σ nm := by
  obtain ⟨n1, n2, n3, n4, ⟨⟨r1, r2, r3, r4⟩, n6, n7, n8⟩, n9⟩ := h
  rw [zI_o] at n1
  refine ⟨n1, n2, n3, fun i y hy => ?_⟩
  obtain ⟨x1, x2, x3, x4⟩ := n9 i y hy
  have hp := nmL_part hy
  have e : nm = nm.take i ++ y :: nm.drop (i + 1) := by
    have hl := (List.getElem?_eq_some_iff.mp hy).1
    have e2 := (List.getElem?_eq_some_iff.mp hy).2
    rw [← e2, List.getElem_cons_drop, List.take_append_drop]
  have r4' : Fl (σ.2.1 11) 0 (nmC nm) := r4
  have hc : Fl (σ.2.1 11) (nmL (nm.take i) : Int) y.1 := by
    rw [e, nmC_app] at r4'
    have q := (Fl_app.mp r4').2
    rw [nmC_len, Int.zero_add] at q
    have q : Fl (σ.2.1 11) (nmL (nm.take i) : Int) (y.1 ++ nmC (nm.drop (i + 1))) := q
    exact (Fl_app.mp q).1
  have r2' : (nmC nm).length ≤ σ.2.2 11 := r2
  rw [nmC_len] at r2'
  exact ⟨x1, (nmL (nm.take i) : Int), by omega, x2, by omega, n6, hc⟩
/-- what a CLAUSE is, for both -/
theorem TL.lit {ar : Int → Nat} {pd : Int → Prop} {m9 : Int} {Cs : List CL} {c : CL} (hw : ∀ c ∈ Cs, Wc ar m9 c.1) (hc : c ∈ Cs) (ht : TyA pd Cs) (pd0 : pd 0) (hm : m9 ≤ 551) : c.1.length ≤ 8 ∧ twL c.1 ≤ 18000 ∧ ∀ a ∈ c.1, LitC ar m9 a ∧ TyL pd a ∧ cl a.2.1.1 < m9 ∧ cl a.2.2.1 < m9 := by
  obtain ⟨w1, w2, w3, w4, w5⟩ := hw c hc
  refine ⟨w1, by rw [twL_wt]; omega, fun a ha => ?_⟩
  obtain ⟨x1, x2, x3⟩ := w5 a ha
  have t := ht c hc a ha
  obtain ⟨s1, s2⟩ := SWm_of pd0 hm x2 x3 t
  have hwt : tw a.2.1 + tw a.2.2 ≤ wtL c.1 := wtL_mem ha
  have e1 : tw a.2.1 = 1 + wt a.2.1.2 := rfl
  have e2 : tw a.2.2 = 1 + wt a.2.2.2 := rfl
  exact ⟨⟨x1, x2, x3, s1, s2, by omega, by omega⟩, t, x2.2.1.2, x3.2.1.2⟩
theorem rst_0 {ρ : zS} : (rst ρ).2.2 3001 = 0 ∧ (rst ρ).2.2 3002 = 0 := ⟨by simp [rst], by simp [rst]⟩
/-- the reference's show where there is no such CLAUSE -/
theorem so_none {γ : Nat} (hγ : 3 ≤ γ) {ρ : zS} {N : Nat} (h84 : ρ.1 84 = (N : Int)) {k : Int} (hk : k < 0 ∨ (N : Int) ≤ k) : sE tS_show γ ρ [k] = some (zI ρ 4 1, 0) := by
  have hr : sE tS_refuse (γ - 1 - 1) (zI ρ 4 0) [1, 1] = some (zI ρ 4 1, 1) := by
    rw [sq_refuse, kV_refuse, if_neg (by decide), lt_e, zI_zI, sq_refuse_9, kV_refuse_9, if_pos (Or.inr rfl)]
  have h24 : sE tS_none_24 (γ - 1) (zI ρ 4 0) [k, 1, 1] = some (zI ρ 4 1, 1) := by
    rw [sq_none_24, kV_none_24, if_pos (by omega), zbd_of hr, if_pos (Or.inr rfl)]
  have hn : sE tS_none (γ - 1) ρ [k] = some (zI ρ 4 1, 1) := by
    have e84 : (zI ρ 4 0).1 84 = (N : Int) := by rw [zI_o]; exact h84
    rw [sq_none, kV_none, lt_e]
    by_cases c0 : k < 0
    · rw [if_pos c0, sq_none_19, kV_none_19]; exact h24
    · rw [if_neg c0, e84, if_neg (by omega), sq_none_19, kV_none_19]; exact h24
  rw [sq_show, kV_show, if_pos (by omega), zbd_of hn, if_neg (by decide)]
theorem rst_r {σ ρ : zS} {n : Nat} (h : TL qo σ ρ n) : TL qo σ (rst ρ) n := by
  obtain ⟨ar, pd, m9, A, P, T, nm, o, d, s, c, q, r, i⟩ := h
  exact ⟨ar, pd, m9, A, P, T, nm, o, d, s, c, q.f rst_f (fun _ _ _ _ _ => rfl), r.f rst_f, i.f (FrC.refl (I := []) (A := [])) rst_f⟩
theorem psh_ok {σ ρ : zS} {n : Nat} (h : TL qo σ ρ n) {β γ : Nat} (hβ : 5 ≤ β) (hγ : 212 ≤ γ) {x : Int} : (yE tC_Sto_has 0 σ [x] = some (σ, 0) ∧ sE tS_show γ (rst ρ) [x] = some (zI (rst ρ) 4 1, 0) ∧ TL qo σ (zI (rst ρ) 4 1) n) ∨ ∃ τ κ r, jE tH_CP_show β σ [x] = some (τ, r) ∧ sE tS_show γ (rst ρ) [x] = some (κ, r) ∧ κ.1 4 = 0 ∧ Mg σ τ ∧ (qo + 17 * κ.2.2 3001 ≤ κ.2.2 1 ∧ 2 * qo + κ.2.2 3002 ≤ 2 * κ.2.2 1) ∧ TL (κ.2.2 1) τ (rst κ) n := by
  have h' := rst_r h
  obtain ⟨ar, pd, m9, A, P, T, nm, o, ⟨d1, d2, d3, d4, ⟨d5, d5'⟩, d6⟩, s, c, q, r, i⟩ := id h'
  have hSC := s.1.2.2.1
  have h84 := q.n.1
  by_cases q0 : x < 0 ∨ (A.1.length : Int) ≤ x
  · left
    refine ⟨?_, so_none (by omega) h84 q0, h'.t⟩
    have := has_ok (β := 0) hSC (k := x)
    rw [b2_f (by omega)] at this
    exact this
  right
  obtain ⟨k, hk⟩ : ∃ k : Nat, x = (k : Int) := ⟨x.toNat, by omega⟩
  subst hk
  obtain ⟨e, he⟩ : ∃ e, A.1[k]? = some e := ⟨_, List.getElem?_eq_getElem (by omega)⟩
  have hmem : e ∈ A.1 := List.mem_of_getElem? he
  have hS := q.s k (by omega)
  obtain ⟨⟨hCx, hm0, _, _, hMb, hRL, _, _, _, hWc, _⟩, _⟩ := id s
  obtain ⟨g1, g2, g3⟩ := TL.lit hWc hmem d5 d4 hCx.2.1
  obtain ⟨⟨a1, a2, a3, a4, a5, a6⟩, i2, ⟨b1, b2, b3⟩, ⟨i4, i5, i6, i7, i8, ⟨i9, i10, i11⟩, i12⟩⟩ := id i
  -- the class
  obtain ⟨τ, G, t1, t2⟩ := cshow_ok (β := β) (CNm.nc c.2.2.2) hCx.1 hβ hSC hMb hRL he g1 (fun a ha => (g3 a ha).1) (by omega) i5 i6
  -- the reference
  obtain ⟨⟨z1, z2, _⟩, l0, l1, _, hN, l8⟩ := hS.1.1.k he
  have hNW : NW (rst ρ) nm := by
    obtain ⟨n1, n2, n3, _⟩ := CNm.nc c.2.2.2
    refine ⟨r.2.2.2, n2, n3, fun y hy ch hch => ?_⟩
    obtain ⟨j, hj⟩ := List.getElem?_of_mem hy
    obtain ⟨j2, hj2⟩ := List.getElem?_of_mem hch
    exact ((r.2.2.2.2 j y hj).2.2 j2 ch hj2).2
  obtain ⟨κ, u1, u2⟩ := so_show (ρ0 := rst ρ) hNW r.2.1 d4 d6 (β := γ) hγ (k := (k : Int)) (p := lpos A.1 k) (C := e.1) ⟨by omega, by omega⟩ (by omega) z1 z2 g1 ⟨l0, by omega⟩ (fun j a ha => by
    obtain ⟨⟨x1, x2, x3, x4, x5, x6, x7⟩, y1, y2, y3⟩ := g3 a (List.mem_of_getElem? ha)
    have hjl := (List.getElem?_eq_some_iff.mp ha).1
    have hh1 := ht_le_wt a.2.1.2
    have hh2 := ht_le_wt a.2.2.2
    exact ⟨⟨y1, ⟨by omega, by omega⟩, hS.1.1.l he ha, x1⟩, y2, y3, x4, x5, by omega, by omega⟩) g2 i11 (by omega) i12 rst_0.1 rst_0.2
  have f := t2.2.1
  have f0 : FrC [301] [4, 5] σ τ := (FrC_I (I := [301]) (A := [4, 5]) (σ := σ) (k := 301) (x := 0)).trans f
  obtain ⟨⟨v1, v2, v3, v4, v5⟩, v6, v7, v8, v9, v10, v11, v12⟩ := u2
  have e1 : (zI (rst ρ) 4 0).2.2 1 = (rst ρ).2.2 1 := rfl
  rw [e1] at v8 v9 v11 v12
  refine ⟨τ, κ, _, t1, u1, by rw [v2 4 (by decide)]; exact zI_1, f0.2.2.2, ⟨by omega, by omega⟩, ?_⟩
  have g : FrC [3, 4] [1, 3000] (rst ρ) (rst κ) := by
    refine ⟨fun j hj => ?_, fun j q hj => ?_, fun j hj h1 h2 => ?_, ?_⟩
    · have e3 : j ≠ 3 ∧ j ≠ 4 := ⟨fun z => by subst z; exact absurd hj (by decide), fun z => by subst z; exact absurd hj (by decide)⟩
      show κ.1 j = _
      rw [v2 j e3.1, zI_o e3.2]
    · have e3 : j ≠ 1 := fun z => by subst z; exact absurd hj (by decide)
      show κ.2.1 j q = _
      rw [v3 j q e3]; rfl
    · have e3 : j ≠ 1 ∧ j ≠ 3000 := ⟨fun z => by subst z; exact absurd hj (by decide), fun z => by subst z; exact absurd hj (by decide)⟩
      rw [rst_l ⟨e3.2, h1, h2⟩, v6 j e3.1 h1 h2]; rfl
    · have er : rl (rst κ) = rl (rst ρ) := by
        have ee : ∀ j, rws.elem j = true → (rst κ).2.2 j = (rst ρ).2.2 j := fun j hj => by
          have hm : j ∈ rws := List.elem_iff.mp hj
          have e5 : j ≠ 1 ∧ j ≠ 3000 ∧ j ≠ 3001 ∧ j ≠ 3002 := by
            simp only [rws, List.mem_cons, List.not_mem_nil, or_false] at hm; omega
          rw [rst_l e5.2, v6 j e5.1 e5.2.2.1 e5.2.2.2]; rfl
        unfold rl
        rw [ee 2 rfl, ee 4 rfl, ee 11 rfl, ee 16 rfl, ee 19 rfl, ee 21 rfl, ee 30 rfl, ee 34 rfl, ee 36 rfl, ee 38 rfl, ee 48 rfl, ee 50 rfl, ee 52 rfl, ee 56 rfl, ee 58 rfl, ee 65 rfl]
      unfold Mg
      rw [er, rst_0.1, rst_0.2, rst_0.1, rst_0.2]
      omega
  have hgP : PB (rst ρ) (rst κ) := fun j q _ _ hj => g.2.1 j q (by rcases hj with rfl | rfl | rfl | rfl <;> decide)
  refine ⟨ar, pd, m9, A, P, T, nm, (txCl nm e.1).length, ⟨d1, d2, d3, d4, ⟨d5, d5'⟩, d6⟩, s.f f0 t2.rl, c.f f0, q.f g hgP, r.f g, ?_⟩
  have l1 : (rst κ).2.2 1 = κ.2.2 1 := rst_l (by decide)
  have hL20 : (txCl nm e.1).length ≤ 20000 := by
    have h1 := t2.1.2.1
    have hb : (txCl nm e.1).length ≤ 18100 := cxCl_len (CNm.nc c.2.2.2) e.1 g2
    omega
  refine ⟨⟨by rw [f0.i 101]; exact a1, by rw [g.i 2]; exact a2, by rw [f0.l 2]; exact a3, by rw [f0.l 2]; exact a4, by rw [f0.l 2]; exact a5, fun j j0 j1 => ?_⟩, ⟨by rw [f0.i 10, g.i 5]; exact i2.1, by rw [f0.i 11, g.i 6]; exact i2.2⟩, ⟨t2.1.1, v1, fun j j0 j1 => ?_⟩, ⟨t2.1.2.1, t2.1.2.2.1, t2.2.2.1.1, by rw [l1]; exact v7, hL20, ⟨by omega, by rw [l1]; exact Nat.le_refl _, v5⟩, by rw [l1]; exact v10⟩⟩
  · rw [f0.a 2 _, g.a 0 _]; exact a6 j j0 j1
  · obtain ⟨jn, hjn⟩ : ∃ jn : Nat, j = (jn : Int) := ⟨j.toNat, by omega⟩
    subst hjn
    have hlt : jn < (txCl nm e.1).length := by omega
    have w1 := Fl_get t2.1.2.2.2 (List.getElem?_eq_getElem hlt)
    have w2 := Fl_get v4 (List.getElem?_eq_getElem hlt)
    rw [Int.zero_add] at w1 w2
    show τ.2.1 4 (jn : Int) = κ.2.1 1 (jn : Int)
    rw [w1, w2]
