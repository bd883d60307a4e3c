/-! makeWitnesses: all nodes, then the SYMBOLS -/
theorem mw_83 {β : Nat} (hβ : 3 ≤ β) {SL : List SE} {b : Nat} {NN : List N6} {TT : List Int} (hlen : NN.length = szl SL) (hSU : SU SL 0 b) (hb : b ≤ 300) {σ0 : zS} (hG : GO σ0 b NN TT SL) (hFS : ∀ e ∈ SL, FS (tt e.2.2.1)) : ∀ (k : Nat) (σ : zS), k ≤ SL.length → NdW σ NN → (∀ (j : Nat) e, SL[j]? = some e → j < k → σ.2.1 19 (((szl (SL.take j) + szn e.2.2.1.1 e.2.2.1.2 - 1 : Nat) : Int) * 7 + 6) = (wyE e : Int)) → (∀ i : Nat, i < szl (SL.take k) → (∀ (j : Nat) e, SL[j]? = some e → j < k → i ≠ szl (SL.take j) + szn e.2.2.1.1 e.2.2.1.2 - 1) → σ.2.1 19 ((i : Int) * 7 + 6) = 0) →
    ∃ τ, yE tC_For_makeWitnesses_p83 β σ [(szl (SL.take k) : Int) - 1] = yE tC_For_makeWitnesses_p107 β τ [0] ∧ FrC [] [19, 27] σ τ ∧ NdW τ NN ∧ (∀ (j : Nat) e, j < k → SL[j]? = some e → ∀ v, bnF (tt e.2.2.1) v → τ.2.1 27 (v : Int) = b2 (rqF e.2.2.1 (wyE e) v)) ∧ (∀ u : Int, (∀ (j : Nat) (e : SE) (v : Nat), j < k → SL[j]? = some e → bnF (tt e.2.2.1) v → (v : Int) ≠ u) → τ.2.1 27 u = σ.2.1 27 u) := by
  intro k
  induction k with
  | zero =>
    intro σ hk hN h1 h2
    refine ⟨σ, ?_, FrC.refl, hN, fun j e hj => absurd hj (by omega), fun u _ => rfl⟩
    have : (szl (SL.take 0) : Int) - 1 = -1 := rfl
    rw [this, yq_For_makeWitnesses_p83, kY_For_makeWitnesses_p83, if_pos (by decide)]
  | succ k ih =>
    intro σ hk hN h1 h2
    obtain ⟨e, he⟩ : ∃ e, SL[k]? = some e := ⟨SL[k], List.getElem?_eq_getElem (by omega)⟩
    have hsz := szl_succ he
    have s1 := szn_1 (l := e.2.2.1.1) (k := e.2.2.1.2)
    have hw : wyE e = 1 ∨ wyE e = 2 ∨ wyE e = 3 := by unfold wyE; split <;> omega
    have hf := hFS e (List.mem_of_getElem? he)
    have hU : ∃ lo hi, UQs (tt e.2.2.1) lo hi ∧ hi ≤ b := by
      have : ∀ {L : List SE} {lo hi : Nat}, SU L lo hi → ∀ {k : Nat} {e : SE}, L[k]? = some e → ∃ a c, UQs (tt e.2.2.1) a c ∧ c ≤ hi := by
        intro L
        induction L with
        | nil => intro lo hi _ k e h; cases h
        | cons x L ihL =>
          intro lo hi h k e hk
          obtain ⟨mid, a, _, _, d⟩ := h
          cases k with
          | zero => cases hk; exact ⟨_, _, a, d.le⟩
          | succ k => exact ihL d hk
      exact this hSU he
    obtain ⟨vlo, vhi, hU1, hU2⟩ := hU
    have o := rp_ok (β := β) hβ e.2.2.1 hf (wyE e) hw [] (szl (SL.take k)) σ0 σ vlo vhi (hG k e he).1 hN hU1 (by omega) (h1 k e he (by omega)) (fun i i1 i2 => h2 i (by omega) (fun j x hx hj => by
      by_cases c : j = k
      · subst c
        rw [he] at hx
        cases hx
        omega
      · have := szl_lt hx (k := k) (by omega)
        have := szn_1 (l := x.2.2.1.1) (k := x.2.2.1.2)
        omega))
    obtain ⟨ρ, r1, r2, r3, r4, r5, r6⟩ := o
    have c19 : ∀ i : Nat, i < szl (SL.take k) → ρ.2.1 19 ((i : Int) * 7 + 6) = σ.2.1 19 ((i : Int) * 7 + 6) := r4
    obtain ⟨τ, t1, t2, t3, t4, t5⟩ := ih ρ (by omega) r3 (fun j x hx hj => by
      have := szl_lt hx (k := k) hj
      have := szn_1 (l := x.2.2.1.1) (k := x.2.2.1.2)
      rw [c19 _ (by omega)]
      exact h1 j x hx (by omega)) (fun i hi hne => by
      rw [c19 i hi]
      refine h2 i (by omega) (fun j x hx hj => ?_)
      by_cases c : j = k
      · subst c
        rw [he] at hx
        cases hx
        omega
      · exact hne j x hx (by omega))
    refine ⟨τ, ?_, r2.trans t2, t3, fun j x hj hx v hv => ?_, fun u hu => ?_⟩
    · rw [hsz]; exact r1.trans t1
    · by_cases c : j = k
      · subst c
        rw [he] at hx
        cases hx
        rw [t5 (v : Int) (fun j2 x2 v2 hj2 hx2 hv2 e2 => by
          have ev : v2 = v := by omega
          subst ev
          have := hSU.un hx2 he (Or.inl hv2) (Or.inl hv)
          omega)]
        exact r5 v hv
      · exact t4 j x (by omega) hx v hv
    · rw [t5 u (fun j x v hj hx hv => hu j x v (by omega) hx hv), r6 u (fun v hv => hu k e v (by omega) he hv)]
/-- free ones are not bound -/
theorem bn_17 {σ : zS} {b : Nat} {NN : List N6} {TT : List Int} {sn : Int} : ∀ {F : T} {C : List Int} {lo : Nat}, CFs σ b NN TT sn F C lo → FS F → ∀ {v : Nat}, bnF F v → σ.2.1 17 (v : Int) ≠ -2
  | .leaf _, C, lo, _, _, v, h => h.elim
  | .branch l k s, C, lo, h, hf, v, hv => by
    obtain ⟨⟨i, j, h1, h2⟩, h3⟩ := h
    obtain ⟨f1, f2⟩ := hf
    rcases hv with ⟨hl, hv⟩ | hv
    · rw [if_neg (by omega), if_neg (by omega)] at h2 f1
      by_cases c3 : l = 3
      · rw [if_pos c3] at h2
        rw [if_pos (by omega)] at f1
        rcases hv with ⟨h8, _⟩ | hv
        · omega
        · exact bn_17 h2.2.2 f1.2 hv
      rw [if_neg c3] at h2
      rw [if_neg (by omega)] at f1
      by_cases c7 : l ≤ 7
      · rw [if_pos c7] at h2 f1
        rcases hv with ⟨h8, _⟩ | hv
        · omega
        · exact bn_17 h2.2 f1.2 hv
      rw [if_neg c7] at h2 f1
      obtain ⟨_, _, g3, _, g5, _, g7⟩ := h2
      rcases hv with ⟨_, hv⟩ | hv
      · rw [hv, ← g3]; exact chn_17 g5
      · exact bn_17 g7 f1.2 hv
    · exact bn_17 h3 f2 hv
/-- a bound one is around its FORMULA -/
theorem cvs_b {σ : zS} {b : Nat} {NN : List N6} {TT : List Int} {sn : Int} {F0 : Nat} {fr : List Int} : ∀ {F : T} {C : List Int} {lo : Nat}, CFs σ b NN TT sn F C lo → FS F → CVs σ sn F0 fr C → ∀ {v m : Nat}, bdn F (fr.length + C.length) v m → ∃ C2, CVs σ sn F0 fr ((v : Int) :: C2) ∧ m = fr.length + C2.length
  | .leaf _, C, lo, _, _, _, v, m, h => h.elim
  | .branch l k s, C, lo, h, hf, hV, v, m, hv => by
    obtain ⟨⟨i, j, h1, h2⟩, h3⟩ := h
    obtain ⟨f1, f2⟩ := hf
    rcases hv with ⟨hl, hv⟩ | hv
    · rw [if_neg (by omega), if_neg (by omega)] at h2 f1
      by_cases c3 : l = 3
      · rw [if_pos c3] at h2
        rw [if_pos (by omega)] at f1
        rcases hv with ⟨h8, _⟩ | hv
        · omega
        · rw [if_neg (by omega)] at hv
          exact cvs_b h2.2.2 f1.2 hV hv
      rw [if_neg c3] at h2
      rw [if_neg (by omega)] at f1
      by_cases c7 : l ≤ 7
      · rw [if_pos c7] at h2 f1
        rcases hv with ⟨h8, _⟩ | hv
        · omega
        · rw [if_neg (by omega)] at hv
          exact cvs_b h2.2 f1.2 hV hv
      rw [if_neg c7] at h2 f1
      obtain ⟨_, _, g3, _, g5, g6, g7⟩ := h2
      have hV2 := hV.ext g5 g6
      rcases hv with ⟨_, hv, hm⟩ | hv
      · exact ⟨C, by rw [hv, ← g3]; exact hV2, hm⟩
      · rw [if_pos (by omega)] at hv
        exact cvs_b g7 f1.2 hV2 (by rw [List.length_cons]; exact hv)
    · exact cvs_b h3 f2 hV hv
/-- how many are around VARIABLE v of the TEXT -/
def arE (e : SE) (v m : Nat) : Prop := (e.2.2.2[m]? = some (v : Int)) ∨ bdn (tt e.2.2.1) e.2.2.2.length v m
theorem PS0.ar {β : Nat} {σ : zS} {SL : List SE} {b : Nat} {NN : List N6} {TT : List Int} (h : PS0 σ SL b NN TT) {k : Nat} {e : SE} (he : SL[k]? = some e) {v m : Nat} (ha : arE e v m) (hm : m ≤ 90000) : yE tC_For_around β σ [(v : Int)] = some (σ, (m : Int)) := by
  obtain ⟨hV, _⟩ := h.vs he
  rcases ha with ha | ha
  · refine around_ok hV ?_ (by omega)
    rw [List.reverse_nil, List.append_nil]; exact ha
  · obtain ⟨C2, g1, g2⟩ := cvs_b (h.2.1 k e he).1 (h.2.2.2 e (List.mem_of_getElem? he)) hV (by rw [List.length_nil]; exact ha)
    refine around_ok g1 ?_ (by omega)
    rw [List.reverse_cons, ← List.append_assoc, List.getElem?_append_right (by rw [List.length_append, List.length_reverse]; omega), List.length_append, List.length_reverse, g2, Nat.sub_self]
    rfl
theorem UQs.dp : ∀ {F : T} {lo hi n v m : Nat}, UQs F lo hi → bdn F n v m → n ≤ m ∧ m - n ≤ hi - lo
  | .leaf _, lo, hi, n, v, m, _, h => h.elim
  | .branch l k s, lo, hi, n, v, m, ⟨mid, h1, h2⟩, h => by
    have a2 := UQs.le h2
    rcases h with ⟨h3, h4⟩ | h
    · rw [if_neg (by omega)] at h1
      by_cases c2 : l ≤ 7
      · rw [if_pos c2] at h1
        rcases h4 with ⟨h5, _⟩ | h4
        · omega
        · rw [if_neg (by omega)] at h4
          have := UQs.dp h1 h4; omega
      rw [if_neg c2] at h1
      have a3 := UQs.le h1.2
      rcases h4 with ⟨_, _, h5⟩ | h4
      · omega
      · rw [if_pos (by omega)] at h4
        have := UQs.dp h1.2 h4; omega
    · have hm : lo ≤ mid := by
        by_cases c1 : l ≤ 2
        · rw [if_pos c1] at h1; omega
        rw [if_neg c1] at h1
        by_cases c2 : l ≤ 7
        · rw [if_pos c2] at h1
          exact UQs.le h1
        rw [if_neg c2] at h1
        have := UQs.le h1.2; omega
      have := UQs.dp h2 h; omega
/-- the WITNESSES as SYMBOLS: from s0 on, in the order of the VARIABLES -/
def Wt (σ : zS) (R : Nat → Prop) (ac : Nat → Nat → Prop) (s0 n : Nat) : Prop := σ.1 605 = ((s0 + rkR R n : Nat) : Int) ∧ ∀ v : Nat, v < n → (R v → σ.2.1 26 (v : Int) = ((s0 + rkR R v : Nat) : Int) ∧ σ.2.1 12 ((s0 + rkR R v : Nat) : Int) = 2 ∧ ∃ m : Nat, ac v m ∧ σ.2.1 7 ((s0 + rkR R v : Nat) : Int) = (m : Int)) ∧ (¬ R v → σ.2.1 26 (v : Int) = -1)
theorem mw_107 {β : Nat} (hβ : 2 ≤ β) {SL : List SE} {b : Nat} {NN : List N6} {TT : List Int} {s0 : Nat} (hs0 : s0 ≤ 251) (hb : b ≤ 300) {R : Nat → Prop} {ac : Nat → Nat → Prop} : ∀ (m v : Nat) (σ : zS), v + m = b → PS0 σ SL b NN TT → σ.1 1402 = (b : Int) → (∀ u : Nat, u < b → σ.2.1 27 (u : Int) = b2 (R u)) → (∀ ρ u, PS0 ρ SL b NN TT → u < b → ∃ m : Nat, ac u m ∧ yE tC_For_around (β - 1) ρ [(u : Int)] = some (ρ, (m : Int))) → Wt σ R ac s0 v →
    ∃ τ, yE tC_For_makeWitnesses_p107 β σ [(v : Int)] = some (τ, 0) ∧ FrC [605] [7, 12, 26] σ τ ∧ Wt τ R ac s0 b ∧ (∀ q : Int, q < (s0 : Int) → τ.2.1 7 q = σ.2.1 7 q ∧ τ.2.1 12 q = σ.2.1 12 q) := by
  intro m
  induction m with
  | zero =>
    intro v σ hv hP h14 h27 har hW
    have : v = b := by omega
    subst this
    refine ⟨σ, ?_, FrC.refl, hW, fun q _ => ⟨rfl, rfl⟩⟩
    rw [yq_For_makeWitnesses_p107, kY_For_makeWitnesses_p107, if_pos (by omega)]
  | succ m ih =>
    intro v σ hv hP h14 h27 har hW
    have hrk := rkR_le R v
    by_cases hR : R v
    · obtain ⟨n, a1, a2⟩ := har σ v hP (by omega)
      have h605 := hW.1
      obtain ⟨σ3, hs3⟩ : ∃ x, x = zI (zA (zA σ 12 ((s0 + rkR R v : Nat) : Int) 2) 7 ((s0 + rkR R v : Nat) : Int) (n : Int)) 605 (((s0 + rkR R v : Nat) : Int) + 1) := ⟨_, rfl⟩
      have ew : yE tC_Sym_addWitness (β - 1) σ [(n : Int)] = some (σ3, ((s0 + rkR R v : Nat) : Int)) := by
        rw [yq_Sym_addWitness, kY_Sym_addWitness, h605, if_neg (by omega), if_pos ⟨by omega, by omega⟩, lt_e]
        have e1 : ∀ (x : zS) (a : Nat) (i y : Int), (zA x a i y).1 605 = x.1 605 := fun _ _ _ _ => rfl
        rw [e1, h605, if_pos ⟨by omega, by omega⟩, lt_e, e1, e1, h605, if_pos ⟨by omega, by omega⟩, lt_e, ← hs3]
      have f3 : FrC [605] [7, 12, 26] σ σ3 := by
        rw [hs3]
        have g1 : FrC [605] [7, 12, 26] σ (zA σ 12 ((s0 + rkR R v : Nat) : Int) 2) := FrC_A
        have g2 : FrC [605] [7, 12, 26] (zA σ 12 ((s0 + rkR R v : Nat) : Int) 2) (zA (zA σ 12 ((s0 + rkR R v : Nat) : Int) 2) 7 ((s0 + rkR R v : Nat) : Int) (n : Int)) := FrC_A
        exact (g1.trans g2).trans FrC_I
      obtain ⟨σ4, hs4⟩ : ∃ x, x = zA σ3 26 (v : Int) ((s0 + rkR R v : Nat) : Int) := ⟨_, rfl⟩
      have f4 : FrC [605] [7, 12, 26] σ3 σ4 := by rw [hs4]; exact FrC_A
      have f34 := f3.trans f4
      have k7 : ∀ q, σ4.2.1 7 q = if q = ((s0 + rkR R v : Nat) : Int) then (n : Int) else σ.2.1 7 q := fun q => by rw [hs4, hs3]; simp [zA, zI]
      have k12 : ∀ q, σ4.2.1 12 q = if q = ((s0 + rkR R v : Nat) : Int) then 2 else σ.2.1 12 q := fun q => by rw [hs4, hs3]; simp [zA, zI]
      have k26 : ∀ q, σ4.2.1 26 q = if q = (v : Int) then ((s0 + rkR R v : Nat) : Int) else σ.2.1 26 q := fun q => by rw [hs4, hs3]; simp [zA, zI]
      have hrs : rkR R (v + 1) = rkR R v + 1 := by
        show rkR R v + _ = _
        rw [if_pos hR]
      have hW4 : Wt σ4 R ac s0 (v + 1) := by
        refine ⟨?_, fun u hu => ?_⟩
        · rw [hrs, hs4]
          show σ3.1 605 = _
          rw [hs3, zI_1]
          omega
        · by_cases c : u = v
          · subst c
            refine ⟨fun _ => ⟨by rw [k26, if_pos rfl], by rw [k12, if_pos rfl], n, a1, by rw [k7, if_pos rfl]⟩, fun h => absurd hR h⟩
          · obtain ⟨q1, q2⟩ := hW.2 u (by omega)
            refine ⟨fun hu2 => ?_, fun hu2 => by rw [k26, if_neg (by omega)]; exact q2 hu2⟩
            obtain ⟨r1, r2, n2, r3, r4⟩ := q1 hu2
            have hlt := rkR_lt R (u := u) (v := v) (by omega) hu2
            exact ⟨by rw [k26, if_neg (by omega)]; exact r1, by rw [k12, if_neg (by omega)]; exact r2, n2, r3, by rw [k7, if_neg (by omega)]; exact r4⟩
      obtain ⟨τ, t1, t2, t3, t4⟩ := ih (v + 1) σ4 (by omega) (hP.f f34) (by rw [f34.i 1402]; exact h14) (fun u hu => by rw [f34.a 27]; exact h27 u hu) har hW4
      refine ⟨τ, ?_, f34.trans t2, t3, fun q hq => ?_⟩
      · rw [yq_For_makeWitnesses_p107, kY_For_makeWitnesses_p107, if_neg (by omega), if_pos ⟨by omega, by omega⟩, h27 v (by omega), b2_t hR, if_neg (by decide), if_pos (by omega), zbd_of a2, if_pos (by omega), zbd_of ew, yq_For_makeWitnesses_p145, kY_For_makeWitnesses_p145, if_pos ⟨by omega, by omega⟩, lt_e, ← hs4, if_pos ⟨by omega, by omega⟩, show (v : Int) + 1 = ((v + 1 : Nat) : Int) by omega]
        exact t1
      · obtain ⟨x1, x2⟩ := t4 q hq
        exact ⟨by rw [x1, k7, if_neg (by omega)], by rw [x2, k12, if_neg (by omega)]⟩
    · obtain ⟨σ4, hs4⟩ : ∃ x, x = zA σ 26 (v : Int) (-1) := ⟨_, rfl⟩
      have f4 : FrC [605] [7, 12, 26] σ σ4 := by rw [hs4]; exact FrC_A
      have hrs : rkR R (v + 1) = rkR R v := by
        show rkR R v + _ = _
        rw [if_neg hR]
        rfl
      have k26 : ∀ q, σ4.2.1 26 q = if q = (v : Int) then -1 else σ.2.1 26 q := fun q => by rw [hs4]; simp [zA]
      have k7 : ∀ a q, a ≠ 26 → σ4.2.1 a q = σ.2.1 a q := fun a q ha => by rw [hs4]; simp [zA, ha]
      have hW4 : Wt σ4 R ac s0 (v + 1) := by
        refine ⟨by rw [hrs, hs4]; exact hW.1, fun u hu => ?_⟩
        by_cases c : u = v
        · subst c
          exact ⟨fun h => absurd h hR, fun _ => by rw [k26, if_pos rfl]⟩
        · obtain ⟨q1, q2⟩ := hW.2 u (by omega)
          refine ⟨fun hu2 => ?_, fun hu2 => by rw [k26, if_neg (by omega)]; exact q2 hu2⟩
          obtain ⟨r1, r2, n2, r3, r4⟩ := q1 hu2
          exact ⟨by rw [k26, if_neg (by omega)]; exact r1, by rw [k7 12 _ (by decide)]; exact r2, n2, r3, by rw [k7 7 _ (by decide)]; exact r4⟩
      obtain ⟨τ, t1, t2, t3, t4⟩ := ih (v + 1) σ4 (by omega) (hP.f f4) (by rw [f4.i 1402]; exact h14) (fun u hu => by rw [f4.a 27]; exact h27 u hu) har hW4
      refine ⟨τ, ?_, f4.trans t2, t3, fun q hq => ?_⟩
      · rw [yq_For_makeWitnesses_p107, kY_For_makeWitnesses_p107, if_neg (by omega), if_pos ⟨by omega, by omega⟩, h27 v (by omega), b2_f hR, if_pos rfl, yq_For_makeWitnesses_p145, kY_For_makeWitnesses_p145, if_pos ⟨by omega, by omega⟩, lt_e, ← hs4, if_pos ⟨by omega, by omega⟩, show (v : Int) + 1 = ((v + 1 : Nat) : Int) by omega]
        exact t1
      · obtain ⟨x1, x2⟩ := t4 q hq
        exact ⟨by rw [x1, k7 7 _ (by decide)], by rw [x2, k7 12 _ (by decide)]⟩
