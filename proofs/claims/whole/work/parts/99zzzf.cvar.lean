/-! VARIABLES of the TEXT in the class -/
def CBd (X Y : Int → Int) (n : Int) (σ : zS) (bd : List (Int × Int)) : Prop := σ.1 1402 = (bd.length : Int) ∧ bd.length ≤ 300 ∧ ∀ (v : Nat) x, bd[v]? = some x → σ.2.1 22 (v : Int) = x.1 ∧ σ.2.1 23 (v : Int) = x.2 ∧ 0 ≤ x.1 ∧ 0 ≤ x.2 ∧ x.1 + x.2 ≤ n ∧ ∀ i, x.1 ≤ i → i < x.1 + x.2 → Y i = X i
/-- those around, each with the next one outwards, and how many are around it -/
def chn (σ : zS) : List Int → Int → Prop
  | [], v => v = -1
  | u :: L, v => v = u ∧ 0 ≤ u ∧ u < 300 ∧ σ.2.1 24 u = (L.length : Int) ∧ chn σ L (σ.2.1 17 u)
/-- the free ones of the SENTENCE -/
def CFr0 (σ : zS) (b : Nat) (SS : List Int) (pl pv : Int) (F0 : Nat) (fr : List Int) : Prop := (RowC σ 2001 21 (SS ++ [pl, pv, -1, (F0 : Int), ((F0 + fr.length : Nat) : Int)]) ∧ σ.2.2 21 ≤ 210000 ∧ SS.length ≤ 150000) ∧ σ.1 1414 = ((F0 + fr.length : Nat) : Int) ∧ F0 + fr.length ≤ b ∧ ∀ (i : Nat) v, fr[i]? = some v → σ.2.1 28 (((F0 + i : Nat)) : Int) = v ∧ 0 ≤ v ∧ v < (b : Int) ∧ σ.2.1 17 v = -2 ∧ σ.2.1 24 v = (i : Int) ∧ σ.2.1 25 v = (SS.length : Int)
theorem isw_17 {X Y : Int → Int} {n : Int} {β : Nat} {σ : zS} {p a z : Int} {v : Nat} (hT : CTk X Y n σ p) (hC : CTX X Y n) (hk : tk X n p = 2 ∨ tk X n p = 1) (hv : v < 300) (h22 : σ.2.1 22 (v : Int) = a) (ha : 0 ≤ a) (haz : a + z ≤ n) (hz : z = te X n p - tq X n p) (hya : ∀ i, a ≤ i → i < a + z → Y i = X i) : ∀ (k : Nat) (j : Int), 0 ≤ j → j + (k : Int) = z → yE tC_For_isWord_p17 β σ [(v : Int), j] = some (σ, b2 (∀ i : Int, j ≤ i → i < z → X (a + i) = X (tq X n p + i)))
  | 0, j, hj, hk2 => by
    rw [yq_For_isWord_p17, kY_For_isWord_p17, hT.2.2.2.1, if_pos (by omega), b2_t (fun i h1 h2 => by omega)]
  | k + 1, j, hj, hk2 => by
    obtain ⟨⟨a1, a2, a3, a4, a5, a6⟩, c2, c3, c4, _⟩ := id hT
    obtain ⟨q0, q1, q2⟩ := tqe (X := X) a4 a5
    have hy := hC.w a4 a5 hk (i := tq X n p + j) (by omega) (by omega)
    rw [yq_For_isWord_p17, kY_For_isWord_p17, c4, if_neg (by omega), if_pos ⟨by omega, by show (v : Int) < ((300 : Nat) : Int); omega⟩, h22, c3, if_pos ⟨by omega, by omega⟩, if_pos ⟨by omega, by omega⟩, if_pos ⟨by omega, by omega⟩, if_pos ⟨by omega, by omega⟩, a1, hya (a + j) (by omega) (by omega), hy.1]
    by_cases hc : X (a + j) = X (tq X n p + j)
    · rw [if_pos hc, if_pos ⟨by omega, by omega⟩, isw_17 hT hC hk hv h22 ha haz hz hya k (j + 1) (by omega) (by omega)]
      congr 2
      apply b2_c
      constructor
      · intro h i h1 h2
        by_cases he : i = j
        · rw [he]; exact hc
        · exact h i (by omega) h2
      · intro h i h1 h2
        exact h i (by omega) h2
    · rw [if_neg hc, b2_f (fun h => hc (h j (Int.le_refl _) (by omega)))]
theorem isw_ok {X Y : Int → Int} {n : Int} {β : Nat} {σ : zS} {p : Int} {bd : List (Int × Int)} (hC : CTX X Y n) (hT : CTk X Y n σ p) (hk : tk X n p = 2 ∨ tk X n p = 1) (hB : CBd X Y n σ bd) {v : Int} (v0 : 0 ≤ v) (hv : v < (bd.length : Int)) : yE tC_For_isWord β σ [v] = some (σ, b2 (bwd X bd v = wd X (tq X n p) (te X n p))) := by
  obtain ⟨b1, b2', b3⟩ := hB
  obtain ⟨x, hx⟩ : ∃ x, bd[v.toNat]? = some x := ⟨_, List.getElem?_eq_getElem (by omega)⟩
  obtain ⟨c1, c2, c3, c4, c5, c6⟩ := b3 v.toNat x hx
  have hvv : ((v.toNat : Nat) : Int) = v := by omega
  rw [hvv] at c1 c2
  obtain ⟨q0, q1, q2⟩ := tqe (X := X) hT.1.2.2.2.1 hT.1.2.2.2.2.1
  have hbw : bwd X bd v = wd X x.1 (x.1 + x.2) := by
    unfold bwd
    rw [hx]
  rw [yq_For_isWord, kY_For_isWord, if_pos ⟨v0, by show v < ((300 : Nat) : Int); omega⟩, c2, hT.2.2.2.1, hbw]
  have key : (wd X x.1 (x.1 + x.2) = wd X (tq X n p) (te X n p)) ↔ (x.2 = te X n p - tq X n p ∧ ∀ i : Int, 0 ≤ i → i < x.2 → X (x.1 + i) = X (tq X n p + i)) := by
    rw [wd_eq, wd_len]
    constructor
    · rintro ⟨e1, e2⟩
      refine ⟨by omega, fun i i0 i1 => ?_⟩
      have := e2 i.toNat (by omega)
      rw [wd_get (by omega)] at this
      have h9 := Option.some.inj this
      rw [show ((i.toNat : Nat) : Int) = i by omega] at h9
      exact h9
    · rintro ⟨e1, e2⟩
      refine ⟨by omega, fun j hj => ?_⟩
      rw [wd_get (by omega), e2 (j : Int) (by omega) (by omega)]
  by_cases hz : x.2 = te X n p - tq X n p
  · have h17 := isw_17 (β := β) (v := v.toNat) (z := x.2) hT hC hk (by omega) (by rw [hvv]; exact c1) c3 c5 hz c6 x.2.toNat 0 (Int.le_refl _) (by omega)
    rw [hvv] at h17
    rw [if_pos hz, h17]
    congr 2
    apply b2_c
    rw [key]
    exact ⟨fun h => ⟨hz, h⟩, fun h => h.2⟩
  · rw [if_neg hz, b2_f (fun h => hz (key.mp h).1)]
theorem cv_7 {X Y : Int → Int} {n : Int} {β : Nat} (hβ : 1 ≤ β) {σ : zS} {p : Int} {bd : List (Int × Int)} (hC : CTX X Y n) (hT : CTk X Y n σ p) (hk : tk X n p = 2 ∨ tk X n p = 1) (hB : CBd X Y n σ bd) : ∀ (L : List Int) (u : Int) (j : Nat), chn σ L u → (∀ v ∈ L, v < (bd.length : Int)) → j + L.length ≤ 300 → ∃ u2 : Int, yE tC_For_variableOf_p7 β σ [u, (j : Int)] = (match vrF X (wd X (tq X n p) (te X n p)) bd L with
      | some v => some (σ, v)
      | none => yE tC_For_variableOf_p43 β σ [-1, u2])
  | [], u, j, h, _, hj => by
    have h : u = -1 := h
    subst h
    refine ⟨(j : Int), ?_⟩
    show _ = yE tC_For_variableOf_p43 β σ [-1, (j : Int)]
    rw [yq_For_variableOf_p7, kY_For_variableOf_p7]
    by_cases h3 : (300 : Int) ≤ (j : Int)
    · rw [if_pos h3]
    · rw [if_neg h3, if_pos rfl]
  | v :: L, u, j, h, hL, hj => by
    obtain ⟨h1, h2, h3, h4, h5⟩ := h
    subst h1
    obtain ⟨u2, ih⟩ := cv_7 (β := β) hβ hC hT hk hB L (σ.2.1 17 u) (j + 1) h5 (fun v hv => hL v (List.mem_cons_of_mem _ hv)) (by simp at hj; omega)
    refine ⟨u2, ?_⟩
    simp only [List.length_cons] at hj
    rw [yq_For_variableOf_p7, kY_For_variableOf_p7, if_neg (by omega), if_neg (by omega), if_pos hβ, zbd_of (isw_ok (β := β - 1) hC hT hk hB h2 (hL u List.mem_cons_self))]
    show _ = (match (if bwd X bd u = wd X (tq X n p) (te X n p) then some u else vrF X (wd X (tq X n p) (te X n p)) bd L) with
      | some v => some (σ, v)
      | none => yE tC_For_variableOf_p43 β σ [-1, u2])
    by_cases hw : bwd X bd u = wd X (tq X n p) (te X n p)
    · rw [b2_t hw, if_neg (by decide), if_pos hw]
    · rw [b2_f hw, if_pos rfl, if_neg hw, if_pos ⟨h2, by show u < ((300 : Nat) : Int); omega⟩, if_pos ⟨by omega, by omega⟩]
      rw [show ((j + 1 : Nat) : Int) = (j : Int) + 1 by omega] at ih
      exact ih
theorem cv_66 {X Y : Int → Int} {n : Int} {β : Nat} (hβ : 1 ≤ β) {σ : zS} {p : Int} {bd : List (Int × Int)} {SS : List Int} {pl pv x0 x1 : Int} {F0 : Nat} {fr : List Int} (hC : CTX X Y n) (hT : CTk X Y n σ p) (hk : tk X n p = 2 ∨ tk X n p = 1) (hB : CBd X Y n σ bd) (hF : CFr0 σ bd.length SS pl pv F0 fr) : ∀ (k i : Nat), i + k = fr.length → yE tC_For_variableOf_p66 β σ [x0, x1, (((F0 + i : Nat)) : Int)] = (match vrF X (wd X (tq X n p) (te X n p)) bd (fr.drop i) with
      | some v => some (σ, v)
      | none => yE tC_For_variableOf_p66 β σ [x0, x1, (((F0 + fr.length : Nat)) : Int)])
  | 0, i, hi => by
    rw [List.drop_eq_nil_iff.mpr (by omega)]
    show _ = yE tC_For_variableOf_p66 β σ [x0, x1, (((F0 + fr.length : Nat)) : Int)]
    rw [show i = fr.length by omega]
  | k + 1, i, hi => by
    obtain ⟨v, hv⟩ : ∃ v, fr[i]? = some v := ⟨_, List.getElem?_eq_getElem (by omega)⟩
    have hd : fr.drop i = v :: fr.drop (i + 1) := by
      rw [List.drop_eq_getElem_cons (by omega)]
      congr 1
      exact (List.getElem?_eq_some_iff.mp hv).2
    obtain ⟨f1, f2, f3, f4⟩ := id hF
    obtain ⟨g1, g2, g3, g4, g5, g6⟩ := f4 i v hv
    have ih := cv_66 (β := β) (x0 := x0) (x1 := x1) hβ hC hT hk hB hF k (i + 1) (by omega)
    have hb := hB.2.1
    rw [hd]
    conv => lhs; rw [yq_For_variableOf_p66, kY_For_variableOf_p66, f2, if_neg (by omega), if_pos ⟨by omega, by show (((F0 + i : Nat)) : Int) < ((300 : Nat) : Int); omega⟩, if_pos hβ, g1]
    rw [zbd_of (isw_ok (β := β - 1) hC hT hk hB g2 g3)]
    show _ = (match (if bwd X bd v = wd X (tq X n p) (te X n p) then some v else vrF X (wd X (tq X n p) (te X n p)) bd (fr.drop (i + 1))) with
      | some v => some (σ, v)
      | none => yE tC_For_variableOf_p66 β σ [x0, x1, (((F0 + fr.length : Nat)) : Int)])
    by_cases hw : bwd X bd v = wd X (tq X n p) (te X n p)
    · rw [b2_t hw, if_neg (by decide), if_pos hw, g1]
    · rw [b2_f hw, if_pos rfl, if_neg hw, if_pos ⟨by omega, by omega⟩, show (((F0 + i : Nat)) : Int) + 1 = (((F0 + (i + 1) : Nat)) : Int) by omega]
      exact ih
theorem addv_e {β : Nat} {σ : zS} {b : Nat} (h : σ.1 1402 = (b : Int)) (hb : b < 300) (hz : zr (σ.1 2001 - 5)) : yE tC_For_addVariable β σ [] = some (zI (zA (zA (zA σ 22 b (σ.1 3203)) 23 b (σ.1 3204)) 25 b (σ.1 2001 - 5)) 1402 ((b : Int) + 1), (b : Int)) := by
  have hb3 : zb ((b : Nat) : Int) 300 := ⟨by omega, by omega⟩
  rw [yq_For_addVariable, kY_For_addVariable, h, if_neg (by omega), if_pos hb3, lt_e]
  show (if zb (σ.1 1402) 300 then lt_ (zA (zA σ 22 b (σ.1 3203)) 23 (σ.1 1402) (σ.1 3204)) _ else none) = _
  rw [h, if_pos hb3, lt_e]
  show (if zb (σ.1 1402) 300 then (if zr (σ.1 2001 - 5) then lt_ (zA (zA (zA σ 22 b (σ.1 3203)) 23 b (σ.1 3204)) 25 (σ.1 1402) (σ.1 2001 - 5)) _ else none) else none) = _
  rw [h, if_pos hb3, if_pos hz, lt_e]
  show (if zr (σ.1 1402 + 1) then some (zI _ 1402 (σ.1 1402 + 1), σ.1 1402) else none) = _
  rw [h, if_pos ⟨by omega, by omega⟩]
theorem chn.q {σ τ : zS} : ∀ {L : List Int} {u : Int}, (∀ v ∈ L, τ.2.1 17 v = σ.2.1 17 v ∧ τ.2.1 24 v = σ.2.1 24 v) → chn σ L u → chn τ L u
  | [], u, _, h => h
  | v :: L, u, hq, h => by
    obtain ⟨h1, h2, h3, h4, h5⟩ := h
    obtain ⟨q1, q2⟩ := hq v List.mem_cons_self
    refine ⟨h1, h2, h3, by rw [q2]; exact h4, ?_⟩
    rw [q1]
    exact h5.q (fun w hw => hq w (List.mem_cons_of_mem _ hw))
theorem RowC.set {σ : zS} {r a : Nat} {L : List Int} {i : Nat} {x : Int} (h : RowC σ r a L) (hi : i < L.length) : RowC (zA σ a (i : Int) x) r a (L.set i x) := by
  obtain ⟨h1, h2, h3, h4⟩ := h
  refine ⟨by rw [List.length_set]; exact h1, by rw [List.length_set]; exact h2, h3, Fl_of (fun j c hc => ?_)⟩
  rw [show (0 : Int) + (j : Int) = (j : Int) by omega]
  by_cases hj : j = i
  · subst hj
    rw [List.getElem?_set_self hi] at hc
    cases hc
    exact zA_s
  · rw [List.getElem?_set_ne (by omega)] at hc
    rw [zA_q (by omega)]
    have := Fl_get h4 hc
    rw [show (0 : Int) + (j : Int) = (j : Int) by omega] at this
    exact this
theorem CBd.add {X Y : Int → Int} {n : Int} {σ τ : zS} {bd : List (Int × Int)} {q z : Int} (h : CBd X Y n σ bd) (hb : bd.length < 300) (h25 : τ.1 1402 = (bd.length : Int) + 1) (h21 : τ.2.1 22 = (zA σ 22 bd.length q).2.1 22) (h22 : τ.2.1 23 = (zA σ 23 bd.length z).2.1 23) (hq : 0 ≤ q) (hz : 0 ≤ z) (hqz : q + z ≤ n) (hy : ∀ i, q ≤ i → i < q + z → Y i = X i) : CBd X Y n τ (bd ++ [(q, z)]) := by
  obtain ⟨b1, b2', b3⟩ := h
  refine ⟨by rw [h25, List.length_append]; rfl, by simp; omega, fun v x hx => ?_⟩
  rw [h21, h22]
  by_cases hv : v < bd.length
  · rw [List.getElem?_append_left hv] at hx
    rw [zA_q (by omega), zA_q (by omega)]
    exact b3 v x hx
  · have hv2 : v = bd.length := by
      have := (List.getElem?_eq_some_iff.mp hx).1
      simp at this; omega
    subst hv2
    rw [List.getElem?_append_right (Nat.le_refl _), Nat.sub_self] at hx
    cases hx
    rw [zA_s, zA_s]
    exact ⟨rfl, rfl, hq, hz, hqz, hy⟩
theorem cvar0_ok {X Y : Int → Int} {n : Int} {β : Nat} (hβ : 1 ≤ β) {σ : zS} {st : PS} {SS : List Int} {pl pv : Int} {F0 : Nat} (hC : CTX X Y n) (hT : CTk X Y n σ st.1) (hk : tk X n st.1 = 1) (hB : CBd X Y n σ st.2.2.1) (hS : chn σ st.2.2.2.1 (σ.1 1403)) (hF : CFr0 σ st.2.2.1.length SS pl pv F0 st.2.2.2.2) (hV : PV st) (hl : st.2.2.2.1.length ≤ 300) {r : (Int × Int) ⊕ (PS × Int)} (hr : varS X n st = some r) :
    (∀ e, r = .inl e → e = (3, tq X n st.1) ∧ yE tC_For_variableOf β σ [] = some (σ, -1)) ∧ (∀ a, r = .inr a → ∃ τ, yE tC_For_variableOf β σ [] = some (τ, a.2) ∧ CBd X Y n τ a.1.2.2.1 ∧ chn τ a.1.2.2.2.1 (τ.1 1403) ∧ CFr0 τ a.1.2.2.1.length SS pl pv F0 a.1.2.2.2.2 ∧ FrC [1402, 1414] [17, 21, 22, 23, 24, 25, 28] σ τ ∧ (∀ v : Int, v < (st.2.2.1.length : Int) → τ.2.1 17 v = σ.2.1 17 v ∧ τ.2.1 24 v = σ.2.1 24 v ∧ τ.2.1 25 v = σ.2.1 25 v) ∧ τ.2.2 = σ.2.2 ∧ ∀ q : Int, q < ((F0 + st.2.2.2.2.length : Nat) : Int) → τ.2.1 28 q = σ.2.1 28 q) := by
  have hk' : tk X n st.1 = 2 ∨ tk X n st.1 = 1 := Or.inr hk
  obtain ⟨u2, e7⟩ := cv_7 (β := β) hβ hC hT hk' hB st.2.2.2.1 (σ.1 1403) 0 hS (fun v hv => (hV v (Or.inl hv)).2) (by omega)
  have e7 : yE tC_For_variableOf_p7 β σ [σ.1 1403, 0] = _ := e7
  have e0 : yE tC_For_variableOf β σ [] = yE tC_For_variableOf_p7 β σ [σ.1 1403, 0] := by rw [yq_For_variableOf, kY_For_variableOf]
  rw [e0, e7]
  obtain ⟨⟨f1, f1', f1s⟩, f2, f3, f4⟩ := id hF
  unfold varS at hr
  cases hv : vrF X (wd X (tq X n st.1) (te X n st.1)) st.2.2.1 st.2.2.2.1 with
  | some v =>
    rw [hv] at hr
    cases hr
    refine ⟨fun e he => (by cases he), fun a ha => ?_⟩
    cases ha
    exact ⟨σ, rfl, hB, hS, hF, FrC.refl, fun _ _ => ⟨rfl, rfl, rfl⟩, rfl, fun _ _ => rfl⟩
  | none =>
    rw [hv] at hr
    dsimp only at hr
    have hsz : σ.1 2001 = (SS.length : Int) + 5 := by rw [f1.1]; simp
    have hb300 := hB.2.1
    have e43 : yE tC_For_variableOf_p43 β σ [-1, u2] = yE tC_For_variableOf_p66 β σ [-1, (SS.length : Int), (F0 : Int)] := by
      have hcell : σ.2.1 21 ((SS.length : Int) + 3) = (F0 : Int) := by
        have := Fl_get f1.2.2.2 (i := SS.length + 3) (c := (F0 : Int)) (by rw [List.getElem?_append_right (by omega), Nat.add_sub_cancel_left]; rfl)
        rw [show (0 : Int) + ((SS.length + 3 : Nat) : Int) = (SS.length : Int) + 3 by omega] at this
        exact this
      have hrl := f1.2.1
      rw [List.length_append] at hrl
      simp only [List.length_cons, List.length_nil] at hrl
      rw [yq_For_variableOf_p43, kY_For_variableOf_p43, hsz, show (SS.length : Int) + 5 - 5 = (SS.length : Int) by omega, if_pos ⟨by omega, by omega⟩, if_pos ⟨by omega, by omega⟩, if_pos ⟨by omega, by omega⟩, hcell]
    have e66 := cv_66 (β := β) (x0 := -1) (x1 := (SS.length : Int)) hβ hC hT hk' hB hF _ 0 (by omega : 0 + st.2.2.2.2.length = st.2.2.2.2.length)
    rw [List.drop_zero] at e66
    have e66 : yE tC_For_variableOf_p66 β σ [-1, (SS.length : Int), (F0 : Int)] = _ := e66
    show (∀ e, r = .inl e → e = (3, tq X n st.1) ∧ yE tC_For_variableOf_p43 β σ [-1, u2] = some (σ, -1)) ∧ (∀ a, r = .inr a → ∃ τ, yE tC_For_variableOf_p43 β σ [-1, u2] = some (τ, a.2) ∧ _)
    rw [e43, e66]
    cases hv2 : vrF X (wd X (tq X n st.1) (te X n st.1)) st.2.2.1 st.2.2.2.2 with
    | some v =>
      rw [hv2] at hr
      cases hr
      refine ⟨fun e he => (by cases he), fun a ha => ?_⟩
      cases ha
      exact ⟨σ, rfl, hB, hS, hF, FrC.refl, fun _ _ => ⟨rfl, rfl, rfl⟩, rfl, fun _ _ => rfl⟩
    | none =>
      rw [hv2] at hr
      dsimp only at hr
      unfold bndS at hr
      obtain ⟨b, hbe⟩ : ∃ b, b = st.2.2.1.length := ⟨_, rfl⟩
      have h25 := hB.1
      show (∀ e, r = .inl e → e = (3, tq X n st.1) ∧ yE tC_For_variableOf_p66 β σ [-1, (SS.length : Int), (((F0 + st.2.2.2.2.length : Nat)) : Int)] = some (σ, -1)) ∧ (∀ a, r = .inr a → ∃ τ, yE tC_For_variableOf_p66 β σ [-1, (SS.length : Int), (((F0 + st.2.2.2.2.length : Nat)) : Int)] = some (τ, a.2) ∧ _)
      rw [yq_For_variableOf_p66, kY_For_variableOf_p66, f2, if_pos (Int.le_refl _), if_pos hβ]
      by_cases hb : st.2.2.1.length = 300
      · rw [if_pos hb] at hr
        cases hr
        have ea : yE tC_For_addVariable (β - 1) σ [] = some (σ, -1) := by rw [yq_For_addVariable, kY_For_addVariable, h25, if_pos (by omega)]
        refine ⟨fun e he => ?_, fun a ha => (by cases ha)⟩
        cases he
        rw [zbd_of ea, if_pos rfl, yq_For_variableOf_p177, kY_For_variableOf_p177]
        exact ⟨rfl, rfl⟩
      · rw [if_neg hb] at hr
        cases hr
        refine ⟨fun e he => (by cases he), fun a ha => ?_⟩
        cases ha
        rw [← hbe] at hb h25 f3 hb300
        have ea := addv_e (β := β - 1) (σ := σ) (b := b) h25 (by omega) ⟨by omega, by omega⟩
        rw [hT.2.2.1, hT.2.2.2.1, hsz, show (SS.length : Int) + 5 - 5 = (SS.length : Int) by omega] at ea
        obtain ⟨q0, q1, q2⟩ := tqe (X := X) hT.1.2.2.2.1 hT.1.2.2.2.2.1
        obtain ⟨σ1, hs1⟩ : ∃ s, s = zI (zA (zA (zA σ 22 b (tq X n st.1)) 23 b (te X n st.1 - tq X n st.1)) 25 b (SS.length : Int)) 1402 ((b : Int) + 1) := ⟨_, rfl⟩
        rw [← hs1] at ea
        have hrl := f1.2.1
        rw [List.length_append] at hrl
        simp only [List.length_cons, List.length_nil] at hrl
        have l21 : ∀ ρ : zS, ρ.2.2 = σ.2.2 → (ρ.2.2 21) = σ.2.2 21 := fun ρ h => by rw [h]
        obtain ⟨m, hm⟩ : ∃ m : Nat, m = F0 + st.2.2.2.2.length := ⟨_, rfl⟩
        rw [← hm] at f2 f3
        have j21 : σ1.2.1 21 ((SS.length : Int) + 3) = (F0 : Int) := by
          have := Fl_get f1.2.2.2 (i := SS.length + 3) (c := (F0 : Int)) (by rw [List.getElem?_append_right (by omega), Nat.add_sub_cancel_left]; rfl)
          rw [show (0 : Int) + ((SS.length + 3 : Nat) : Int) = (SS.length : Int) + 3 by omega] at this
          rw [← this, hs1]
          simp [zA, zI]
        have j1414 : σ1.1 1414 = (m : Int) := by rw [← f2, hs1]; simp [zA, zI]
        obtain ⟨τ, hτ⟩ : ∃ t, t = zA (zA (zI (zA (zA σ1 17 b (-2)) 24 b (st.2.2.2.2.length : Int)) 1414 ((m : Int) + 1)) 28 (m : Int) b) 21 ((SS.length : Int) + 4) ((m : Int) + 1) := ⟨_, rfl⟩
        have erun : zbd (yE tC_For_addVariable (β - 1) σ []) (fun σ1 r1 => if r1 = (-1) then (yE tC_For_variableOf_p177 β σ1 [r1, (SS.length : Int), (m : Int)]) else (if zb r1 300 then (lt_ (zA σ1 17 r1 (-2)) (fun σ2 => if zr ((SS.length : Int) + 3) then (if zb ((SS.length : Int) + 3) (σ2.2.2 21) then (if zr ((σ2.1 1414) - (σ2.2.1 21 ((SS.length : Int) + 3))) then (lt_ (zA σ2 24 r1 ((σ2.1 1414) - (σ2.2.1 21 ((SS.length : Int) + 3)))) (fun σ3 => if zr ((σ3.1 1414) + 1) then (lt_ (zI σ3 1414 ((σ3.1 1414) + 1)) (fun σ4 => if zb (σ3.1 1414) 300 then (lt_ (zA σ4 28 (σ3.1 1414) r1) (fun σ5 => if zr ((SS.length : Int) + 4) then (if zb ((SS.length : Int) + 4) (σ5.2.2 21) then (lt_ (zA σ5 21 ((SS.length : Int) + 4) (σ5.1 1414)) (fun σ6 => yE tC_For_variableOf_p177 β σ6 [r1, (SS.length : Int), (m : Int)])) else none) else none)) else none)) else none)) else none) else none) else none)) else none)) = some (τ, (b : Int)) := by
          have k1 : (zA σ1 17 (b : Int) (-2)).2.1 21 ((SS.length : Int) + 3) = (F0 : Int) := by rw [zA_o]; exact j21
          have k2 : (zA σ1 17 (b : Int) (-2)).1 1414 = (m : Int) := j1414
          have k3 : (zA σ1 17 (b : Int) (-2)).2.2 21 = σ.2.2 21 := by rw [hs1]; rfl
          rw [zbd_of ea, if_neg (by omega), if_pos ⟨by omega, by show (b : Int) < ((300 : Nat) : Int); omega⟩, lt_e, k1, k2, k3, if_pos ⟨by omega, by omega⟩, if_pos ⟨by omega, by omega⟩, if_pos ⟨by omega, by omega⟩, lt_e, show (m : Int) - (F0 : Int) = (st.2.2.2.2.length : Int) by omega]
          have k4 : (zA (zA σ1 17 (b : Int) (-2)) 24 (b : Int) (st.2.2.2.2.length : Int)).1 1414 = (m : Int) := j1414
          rw [k4, if_pos ⟨by omega, by omega⟩, lt_e, if_pos ⟨by omega, by show (m : Int) < ((300 : Nat) : Int); omega⟩, lt_e]
          have k5 : (zA (zI (zA (zA σ1 17 (b : Int) (-2)) 24 (b : Int) (st.2.2.2.2.length : Int)) 1414 ((m : Int) + 1)) 28 (m : Int) (b : Int)).1 1414 = (m : Int) + 1 := by simp [zA, zI]
          have k6 : (zA (zI (zA (zA σ1 17 (b : Int) (-2)) 24 (b : Int) (st.2.2.2.2.length : Int)) 1414 ((m : Int) + 1)) 28 (m : Int) (b : Int)).2.2 21 = σ.2.2 21 := by rw [hs1]; rfl
          rw [if_pos ⟨by omega, by omega⟩, k6, if_pos ⟨by omega, by omega⟩, k5, lt_e, ← hτ, yq_For_variableOf_p177, kY_For_variableOf_p177]
        rw [← hm]
        rw [erun]
        have fr : FrC [1402, 1414] [17, 21, 22, 23, 24, 25, 28] σ τ := by
          rw [hτ, hs1]
          refine FrC.trans ?_ FrC_A
          refine FrC.trans ?_ FrC_A
          refine FrC.trans ?_ FrC_I
          refine FrC.trans ?_ FrC_A
          refine FrC.trans ?_ FrC_A
          refine FrC.trans ?_ FrC_I
          refine FrC.trans ?_ FrC_A
          refine FrC.trans ?_ FrC_A
          exact FrC_A
        have tl : τ.2.2 = σ.2.2 := by rw [hτ, hs1]; rfl
        have t22 : τ.2.1 22 = (zA σ 22 b (tq X n st.1)).2.1 22 := by funext i; simp [hτ, hs1, zA, zI]
        have t23 : τ.2.1 23 = (zA σ 23 b (te X n st.1 - tq X n st.1)).2.1 23 := by funext i; simp [hτ, hs1, zA, zI]
        have t17 : τ.2.1 17 = (zA σ 17 b (-2)).2.1 17 := by funext i; simp [hτ, hs1, zA, zI]
        have t24 : τ.2.1 24 = (zA σ 24 b (st.2.2.2.2.length : Int)).2.1 24 := by funext i; simp [hτ, hs1, zA, zI]
        have t25 : τ.2.1 25 = (zA σ 25 b (SS.length : Int)).2.1 25 := by funext i; simp [hτ, hs1, zA, zI]
        have t28 : τ.2.1 28 = (zA σ 28 (m : Int) b).2.1 28 := by funext i; simp [hτ, hs1, zA, zI]
        have t21 : τ.2.1 21 = (zA σ 21 ((SS.length : Int) + 4) ((m : Int) + 1)).2.1 21 := by funext i; simp [hτ, hs1, zA, zI]
        have t1402 : τ.1 1402 = (b : Int) + 1 := by simp [hτ, hs1, zA, zI]
        have t1414 : τ.1 1414 = (m : Int) + 1 := by simp [hτ, hs1, zA, zI]
        have hlen : (st.2.2.1 ++ [(tq X n st.1, te X n st.1 - tq X n st.1)]).length = b + 1 := by rw [List.length_append, hbe]; rfl
        have low : ∀ v : Int, v < (st.2.2.1.length : Int) → τ.2.1 17 v = σ.2.1 17 v ∧ τ.2.1 24 v = σ.2.1 24 v ∧ τ.2.1 25 v = σ.2.1 25 v := fun v hv => by
          rw [t17, t24, t25, zA_q (by omega), zA_q (by omega), zA_q (by omega)]; exact ⟨rfl, rfl, rfl⟩
        refine ⟨τ, by rw [hbe], ?_, ?_, ?_, fr, low, tl, fun q hq => (by rw [t28, zA_q (by omega)])⟩
        · subst hbe
          exact hB.add (by omega) t1402 t22 t23 q0 (by omega) (by omega) (fun i i1 i2 => (hC.w hT.1.2.2.2.1 hT.1.2.2.2.2.1 hk' i1 (by omega)).1)
        · rw [fr.i 1403]
          exact hS.q (fun v hv => ⟨(low v (hV v (Or.inl hv)).2).1, (low v (hV v (Or.inl hv)).2).2.1⟩)
        · show CFr0 τ (st.2.2.1 ++ _).length SS pl pv F0 (st.2.2.2.2 ++ [(st.2.2.1.length : Int)])
          rw [hlen, ← hbe]
          have hm1 : F0 + (st.2.2.2.2 ++ [(b : Int)]).length = m + 1 := by rw [List.length_append, hm]; simp; omega
          unfold CFr0
          rw [hm1]
          refine ⟨⟨?_, by rw [tl]; exact f1', f1s⟩, by rw [t1414]; omega, by omega, fun i v hv => ?_⟩
          · have hrow := f1.set (i := SS.length + 4) (x := ((m + 1 : Nat) : Int)) (by rw [List.length_append]; simp)
            rw [List.set_append_right _ _ (by omega), Nat.add_sub_cancel_left] at hrow
            refine RowC.q (σ := zA σ 21 ((SS.length + 4 : Nat) : Int) ((m + 1 : Nat) : Int)) hrow ?_ (fun q => ?_) (by rw [tl]; rfl)
            · rw [fr.i 2001]; rfl
            · rw [t21, show ((SS.length + 4 : Nat) : Int) = (SS.length : Int) + 4 by omega, show ((m + 1 : Nat) : Int) = (m : Int) + 1 by omega]
          · rw [t28, t17, t24, t25]
            by_cases hi : i < st.2.2.2.2.length
            · rw [List.getElem?_append_left hi] at hv
              obtain ⟨g1, g2, g3, g4, g5, g6⟩ := f4 i v hv
              rw [← hbe] at g3
              rw [zA_q (by omega), zA_q (by omega), zA_q (by omega), zA_q (by omega)]
              exact ⟨g1, g2, by omega, g4, g5, g6⟩
            · have hi2 : i = st.2.2.2.2.length := by
                have := (List.getElem?_eq_some_iff.mp hv).1
                simp at this; omega
              subst hi2
              rw [List.getElem?_append_right (Nat.le_refl _), Nat.sub_self] at hv
              cases hv
              rw [← hm, zA_s, zA_s, zA_s, zA_s]
              exact ⟨rfl, by omega, by omega, rfl, rfl, rfl⟩
/-- with the free ones of the SENTENCES before -/
def CFr (σ : zS) (b : Nat) (SS : List Int) (pl pv : Int) (FA : List Int) (fr : List Int) : Prop := CFr0 σ b SS pl pv FA.length fr ∧ ∀ (i : Nat) v, FA[i]? = some v → σ.2.1 28 (i : Int) = v
theorem cvar_ok {X Y : Int → Int} {n : Int} {β : Nat} (hβ : 1 ≤ β) {σ : zS} {st : PS} {SS : List Int} {pl pv : Int} {F0 : List Int} (hC : CTX X Y n) (hT : CTk X Y n σ st.1) (hk : tk X n st.1 = 1) (hB : CBd X Y n σ st.2.2.1) (hS : chn σ st.2.2.2.1 (σ.1 1403)) (hF : CFr σ st.2.2.1.length SS pl pv F0 st.2.2.2.2) (hV : PV st) (hl : st.2.2.2.1.length ≤ 300) {r : (Int × Int) ⊕ (PS × Int)} (hr : varS X n st = some r) :
    (∀ e, r = .inl e → e = (3, tq X n st.1) ∧ yE tC_For_variableOf β σ [] = some (σ, -1)) ∧ (∀ a, r = .inr a → ∃ τ, yE tC_For_variableOf β σ [] = some (τ, a.2) ∧ CBd X Y n τ a.1.2.2.1 ∧ chn τ a.1.2.2.2.1 (τ.1 1403) ∧ CFr τ a.1.2.2.1.length SS pl pv F0 a.1.2.2.2.2 ∧ FrC [1402, 1414] [17, 21, 22, 23, 24, 25, 28] σ τ ∧ (∀ v : Int, v < (st.2.2.1.length : Int) → τ.2.1 17 v = σ.2.1 17 v ∧ τ.2.1 24 v = σ.2.1 24 v ∧ τ.2.1 25 v = σ.2.1 25 v) ∧ τ.2.2 = σ.2.2) := by
  obtain ⟨h1, h2⟩ := cvar0_ok hβ hC hT hk hB hS hF.1 hV hl hr
  refine ⟨h1, fun a ha => ?_⟩
  obtain ⟨τ, t1, t2, t3, t4, t5, t6, t7, t8⟩ := h2 a ha
  refine ⟨τ, t1, t2, t3, ⟨t4, fun i v hv => ?_⟩, t5, t6, t7⟩
  have := (List.getElem?_eq_some_iff.mp hv).1
  rw [t8 _ (by omega)]
  exact hF.2 i v hv
