theorem tk_rng {X : Int → Int} {n p : Int} : cK (tk X n p) = 17 ↔ tk X n p = 302 := by
  constructor
  · intro h
    have hr : tk X n p = 0 ∨ tk X n p = 1 ∨ tk X n p = 2 ∨ tk X n p = 33 ∨ tk X n p = 38 ∨ tk X n p = 40 ∨ tk X n p = 41 ∨ tk X n p = 44 ∨ tk X n p = 46 ∨ tk X n p = 58 ∨ tk X n p = 61 ∨ tk X n p = 63 ∨ tk X n p = 124 ∨ tk X n p = 126 ∨ tk X n p = 300 ∨ tk X n p = 301 ∨ tk X n p = 302 ∨ tk X n p = 303 := by
      unfold tk tok sgn
      repeat' split
      all_goals (dsimp only; omega)
    rcases hr with hr | hr | hr | hr | hr | hr | hr | hr | hr | hr | hr | hr | hr | hr | hr | hr | hr | hr <;> rw [hr] at h ⊢ <;> first | rfl | exact absurd h (by decide)
  · intro h; rw [h]; rfl
theorem dpT (c : AC) : dpS (fT c).1 ≤ dpS c.1 := by
  match c with
  | ((k, b) :: S, w :: P, st) =>
    have hn := nsS_01 (k := k)
    have key : dpS S ≤ dpS ((k, b) :: S) := by show dpS S ≤ nsS k + dpS S; omega
    unfold fT
    dsimp only
    by_cases c1 : k = 126
    · rw [if_pos c1]; exact key
    · rw [if_neg c1]
      by_cases c2 : k = 33 ∨ k = 63
      · rw [if_pos c2]; exact key
      · rw [if_neg c2]
        match P with
        | a :: P => exact key
        | [] => exact Int.le_refl _
  | ([], P, st) => exact Int.le_refl _
  | (_ :: _, [], st) => exact Int.le_refl _
theorem flS_d {l : Int} : ∀ (N : Nat) (c : AC), dpS (flS l N c).1 ≤ dpS c.1 ∧ (flS l N c).2.2.1 = c.2.2.1
  | 0, c => ⟨Int.le_refl _, rfl⟩
  | N + 1, c => by
    show dpS (if l ≤ tpS c.1 then flS l N (fT c) else c).1 ≤ _ ∧ (if l ≤ tpS c.1 then flS l N (fT c) else c).2.2.1 = _
    split
    · have := flS_d (l := l) N (fT c)
      exact ⟨Int.le_trans this.1 (dpT c), this.2.trans (fT_p c)⟩
    · exact ⟨Int.le_refl _, rfl⟩
theorem foS_d {l : Int} {c : AC} : dpS (foS l c).1 ≤ dpS c.1 ∧ (foS l c).2.2.1 = c.2.2.1 := flS_d _ c
theorem mbE_d : ∀ (N : Nat) (c e : AC), mbE N c = some e → dpS e.1 ≤ dpS c.1 ∧ e.2.2.1 = c.2.2.1
  | 0, c, e, h => by cases h; exact ⟨Int.le_refl _, rfl⟩
  | N + 1, c, e, h => by
    have h : (if tpK c.1 = 302 then (if tpK (fT c).1 = 33 ∨ tpK (fT c).1 = 63 then mbE N (foS 3 (fT (fT c))) else none) else some c) = some e := h
    by_cases c1 : tpK c.1 = 302
    · rw [if_pos c1] at h
      by_cases c2 : tpK (fT c).1 = 33 ∨ tpK (fT c).1 = 63
      · rw [if_pos c2] at h
        obtain ⟨i1, i2⟩ := mbE_d N _ e h
        obtain ⟨j1, j2⟩ := foS_d (l := 3) (c := fT (fT c))
        exact ⟨Int.le_trans i1 (Int.le_trans j1 (Int.le_trans (dpT _) (dpT _))), by rw [i2, j2, fT_p, fT_p]⟩
      · rw [if_neg c2] at h; cases h
    · rw [if_neg c1] at h; cases h; exact ⟨Int.le_refl _, rfl⟩
def frs : List SE → List Int
  | [] => []
  | e :: L => e.2.2.2 ++ frs L
theorem frs_app (A B : List SE) : frs (A ++ B) = frs A ++ frs B := by
  induction A with
  | nil => rfl
  | cons e A ih => show e.2.2.2 ++ frs (A ++ B) = e.2.2.2 ++ frs A ++ frs B; rw [ih, List.append_assoc]
theorem frs_len (A : List SE) : (frs A).length = frL A := by
  induction A with
  | nil => rfl
  | cons e A ih => show (e.2.2.2 ++ frs A).length = e.2.2.2.length + frL A; rw [List.length_append, ih]
theorem szl_app (A B : List SE) : szl (A ++ B) = szl A + szl B := by
  induction A with
  | nil => show szl B = 0 + szl B; omega
  | cons e A ih => show _ + szl (A ++ B) = _ + szl A + szl B; rw [ih]; omega
/-- the row of SENTENCES -/
def sfl : List SE → Nat → Nat → List Int
  | [], _, _ => []
  | e :: L, lo, f => [e.1, (if e.2.1 = true then 1 else 0), ((lo + szn e.2.2.1.1 e.2.2.1.2 : Nat) : Int) - 1, (f : Int), ((f + e.2.2.2.length : Nat) : Int)] ++ sfl L (lo + szn e.2.2.1.1 e.2.2.1.2) (f + e.2.2.2.length)
theorem sfl_app : ∀ (A B : List SE) (lo f : Nat), sfl (A ++ B) lo f = sfl A lo f ++ sfl B (lo + szl A) (f + frL A)
  | [], B, lo, f => rfl
  | e :: A, B, lo, f => by
    show [_, _, _, _, _] ++ sfl (A ++ B) _ _ = [_, _, _, _, _] ++ sfl A _ _ ++ sfl B (lo + (szn e.2.2.1.1 e.2.2.1.2 + szl A)) (f + (e.2.2.2.length + frL A))
    rw [sfl_app A B, List.append_assoc, Nat.add_assoc, Nat.add_assoc]
theorem sfl_len : ∀ (A : List SE) (lo f : Nat), (sfl A lo f).length = 5 * A.length
  | [], lo, f => rfl
  | e :: A, lo, f => by
    show ([_, _, _, _, _] ++ sfl A _ _).length = 5 * (A.length + 1)
    rw [List.length_append, sfl_len A]
    show 5 + _ = _
    omega
/-- the class between SENTENCES -/
def CPa (X Y : Int → Int) (n : Int) (σ : zS) (st : PS) (SL : List SE) (TT : List Int) (NN : List N6) : Prop := (CTk X Y n σ st.1 ∧ CNm σ st.2.1 ∧ CBd X Y n σ st.2.2.1) ∧ (RowC σ 2001 21 (sfl SL 0 0) ∧ σ.2.2 21 ≤ 210000 ∧ (SL.length : Int) ≤ st.1) ∧ (σ.1 1414 = ((frs SL).length : Int) ∧ (frs SL).length ≤ st.2.2.1.length ∧ ∀ (i : Nat) v, (frs SL)[i]? = some v → σ.2.1 28 (i : Int) = v) ∧ (Mb σ ∧ RL σ) ∧ σ.1 3100 = 0 ∧ (RowC σ 1501 16 TT ∧ σ.2.2 16 ≤ 100000 ∧ (TT.length : Int) ≤ st.1) ∧ (NdR σ NN ∧ NN.length = szl SL ∧ (NN.length : Int) ≤ st.1 ∧ capq σ) ∧ GO σ st.2.2.1.length NN TT SL
theorem GO.snoc {σ : zS} {b : Nat} {NN : List N6} {TT : List Int} {L : List SE} {e : SE} (h : GO σ b NN TT L) (h1 : CFs σ b NN TT (5 * (L.length : Int)) (nd e.2.2.1.1 e.2.2.1.2 nl) [] (szl L)) (h2 : ∀ (j : Nat) v, e.2.2.2[j]? = some v → 0 ≤ v ∧ v < (b : Int) ∧ σ.2.1 17 v = -2 ∧ σ.2.1 24 v = (j : Int) ∧ σ.2.1 25 v = 5 * (L.length : Int)) : GO σ b NN TT (L ++ [e]) := fun i e2 he => by
  by_cases hi : i < L.length
  · rw [List.getElem?_append_left hi] at he
    rw [List.take_append_of_le_length (by omega)]
    exact h i e2 he
  · have hi2 : i = L.length := by
      have := (List.getElem?_eq_some_iff.mp he).1
      simp at this; omega
    subst hi2
    rw [List.getElem?_append_right (Nat.le_refl _), Nat.sub_self] at he
    cases he
    rw [List.take_left]
    exact ⟨h1, h2⟩
/-- the dot -/
theorem csen_ok {X Y : Int → Int} {n : Int} (hC : CTX X Y n) {SL : List SE} {pl : Int} {pv : Bool} {β : Nat} (hβ : 6 ≤ β) {σ : zS} {c : AC} {TT : List Int} {NN : List N6} (h : CMn X Y n (sfl SL 0 0) pl (if pv = true then 1 else 0) (frs SL) SL (szl SL) σ c TT NN) (hp : (SL.length : Int) + 1 ≤ te X n c.2.2.1) :
    (∃ st f N2 τ, (foS 1 c).1 = [] ∧ (foS 1 c).2.1 = [f] ∧ (foS 1 c).2.2 = st ∧ yE tG_Par_closeSentence β σ [] = some (τ, 0) ∧ CPa X Y n τ (adv X n st) (SL ++ [(pl, pv, f, st.2.2.2.2)]) TT (NN ++ N2) ∧ FrC pIP pAP σ τ) ∨
    ((foS 1 c).1 ≠ [] ∧ ∃ τ, yE tG_Par_closeSentence β σ [] = some (τ, 0) ∧ CFb σ τ 1 (tq X n c.2.2.1)) := by
  obtain ⟨σ1, N2, r1, r2, r3, r4, r5⟩ := fold_ok (β := β - 1) (by omega) (l := 1) (by decide) h
  have hs : yE tC_Par_strength (β - 1) σ [12] = some (σ, 1) := str_k (k := 33) (by unfold sgk; omega)
  obtain ⟨p1, p2⟩ := foS_d (l := 1) (c := c)
  obtain ⟨c1, hc1⟩ : ∃ d, d = foS 1 c := ⟨_, rfl⟩
  rw [← hc1] at r2 r3 r4 p1 p2 ⊢
  obtain ⟨S, P, st⟩ := c1
  obtain ⟨⟨a, b1, ⟨g1, g2, g3, g4⟩, d1, e1, e2, e3⟩, w, P2, lo, h1, h2, h3, h4⟩ := id r2
  have h1 : P = w :: P2 := h1
  subst h1
  have q3301 : σ1.1 3301 = (S.length : Int) := by have := g1.1; rw [sgR_len] at this; exact this
  have hSl : (S.length : Int) ≤ 20000 := by have := r2.len.1; have : S.length ≤ 20000 := this; omega
  have p2 : st.1 = c.2.2.1 := p2
  cases S with
  | cons x S =>
    refine Or.inr ⟨by simp, ?_⟩
    obtain ⟨τ, t1, t2⟩ := refuse_ok (β := β - 1) (by omega) a
    have t2 : CFa σ1 τ 1 (tq X n st.1) := t2
    rw [p2] at t2
    refine ⟨τ, ?_, (t2.b g4).pre r5.w⟩
    rw [yq_Par_closeSentence, kY_Par_closeSentence, if_pos (by omega), zbd_of hs, if_pos (by omega), zbd_of r1, q3301, if_pos (by show (0 : Int) < ((S.length + 1 : Nat) : Int); omega), yq_Par_closeSentence_p30, kY_Par_closeSentence_p30, if_pos (by omega), zbd_of t1]
  | nil =>
    obtain ⟨m1, m2, m3⟩ := h4
    have m2 : st.2.2.2.1 = [] := m2
    subst m1
    subst m3
    have gp : RowC σ1 3701 38 [((NN ++ N2).length : Int) - 1] := by
      have := g3
      rw [pix_c h2] at this
      exact this
    obtain ⟨v1, v2, v3⟩ := RowC.top (L := []) gp
    have v1 : σ1.1 3701 = 1 := by simpa using v1
    rw [v1] at v2 v3
    have v2 : σ1.2.1 38 0 = ((NN ++ N2).length : Int) - 1 := v2
    have v3 : zb 0 (σ1.2.2 38) := v3
    obtain ⟨a1, a2, ⟨a3, a4, a5⟩, a6, a7, a8, a9, a10, a11⟩ := id a
    obtain ⟨⟨⟨f1, f1', f1s⟩, f2, f3, f4⟩, f5⟩ := id a5
    have hsz : σ1.1 2001 = ((sfl SL 0 0).length : Int) + 5 := by rw [f1.1]; simp
    obtain ⟨σ2, hσ2⟩ : ∃ s, s = zA σ1 21 ((sfl SL 0 0).length + 2 : Nat) (((NN ++ N2).length : Int) - 1) := ⟨_, rfl⟩
    have fA : FrC [] [21] σ1 σ2 := by rw [hσ2]; exact FrC_A
    have hl21 := f1.2.1
    rw [List.length_append] at hl21
    simp only [List.length_cons, List.length_nil] at hl21
    have ecs : yE tC_For_closeSentence (β - 1) σ1 [((NN ++ N2).length : Int) - 1] = some (σ2, 0) := by
      rw [yq_For_closeSentence, kY_For_closeSentence, hsz, show ((sfl SL 0 0).length : Int) + 5 - 5 = ((sfl SL 0 0).length : Int) by omega, if_pos ⟨by omega, by omega⟩, if_pos ⟨by omega, by omega⟩, if_pos ⟨by omega, by omega⟩, lt_e, hσ2]
      rfl
    have row2 : RowC σ2 2001 21 (sfl SL 0 0 ++ [pl, (if pv = true then 1 else 0), ((NN ++ N2).length : Int) - 1, ((frs SL).length : Int), (((frs SL).length + st.2.2.2.2.length : Nat) : Int)]) := by
      have := f1.set (i := (sfl SL 0 0).length + 2) (x := ((NN ++ N2).length : Int) - 1) (by rw [List.length_append]; simp)
      rw [List.set_append_right _ _ (by omega), Nat.add_sub_cancel_left] at this
      rw [hσ2]
      exact this
    have hT2 := a1.f fA
    obtain ⟨τ, u1, u2, u3⟩ := hT2.adv hC (β := β - 1) (by omega)
    have u3 := u3.c
    have f12 : FrC [3202, 3203, 3204, 3205, 3206, 3207] [21] σ1 τ := (FrC.w fA).trans (FrC.w u3)
    refine Or.inl ⟨st, w, N2, τ, rfl, rfl, rfl, ?_, ?_, ((FrC.w r5).trans (FrC.w f12))⟩
    · rw [yq_Par_closeSentence, kY_Par_closeSentence, if_pos (by omega), zbd_of hs, if_pos (by omega), zbd_of r1, q3301, if_neg (by decide), v1, if_pos rfl, if_pos v3, v2, if_pos (by omega), zbd_of ecs, if_pos (by omega), zbd_of u1]
    · have kk' : kV st.2.2.1.length σ1 τ := kV.f f12
      have hszl : szl (SL ++ [(pl, pv, w, st.2.2.2.2)]) = (NN ++ N2).length := by
        rw [szl_app]
        show szl SL + (szn w.1 w.2 + 0) = _
        omega
      have hge : st.1 ≤ te X n st.1 := te_ge
      refine ⟨⟨u2, a2.f f12, a3.f f12⟩, ⟨?_, ?_, ?_⟩, ⟨?_, ?_, ?_⟩, ⟨a7.1.m f12.2.2.2, ?_⟩, by rw [f12.i 3100]; exact a8, ⟨a9.f f12, by rw [f12.l 16]; exact a10, Int.le_trans a11 hge⟩, ⟨b1.f f12, hszl.symm, ?_, g4.f f12⟩, ?_⟩
      · rw [sfl_app]
        have e0 : sfl [(pl, pv, w, st.2.2.2.2)] (0 + szl SL) (0 + frL SL) = [pl, (if pv = true then 1 else 0), ((NN ++ N2).length : Int) - 1, ((frs SL).length : Int), (((frs SL).length + st.2.2.2.2.length : Nat) : Int)] := by
          show [pl, (if pv = true then 1 else 0), ((0 + szl SL + szn w.1 w.2 : Nat) : Int) - 1, ((0 + frL SL : Nat) : Int), ((0 + frL SL + st.2.2.2.2.length : Nat) : Int)] ++ [] = _
          rw [frs_len, ← h2]
          simp
        rw [e0]
        exact row2.f u3
      · rw [u3.l 21, hσ2]
        exact f1'
      · rw [List.length_append]
        show ((SL.length + 1 : Nat) : Int) ≤ te X n st.1
        rw [p2]
        omega
      · rw [f12.i 1414, frs_app, List.length_append]
        show σ1.1 1414 = (((frs SL).length + (st.2.2.2.2 ++ []).length : Nat) : Int)
        rw [List.append_nil]
        exact f2
      · rw [frs_app, List.length_append]
        show (frs SL).length + (st.2.2.2.2 ++ []).length ≤ st.2.2.1.length
        rw [List.append_nil]
        exact f3
      · intro i v hv
        rw [frs_app] at hv
        have hv : (frs SL ++ (st.2.2.2.2 ++ []))[i]? = some v := hv
        rw [List.append_nil] at hv
        rw [f12.a 28]
        by_cases hi : i < (frs SL).length
        · rw [List.getElem?_append_left hi] at hv
          exact f5 i v hv
        · rw [List.getElem?_append_right (by omega)] at hv
          have := (f4 _ v hv).1
          rw [show ((frs SL).length + (i - (frs SL).length) : Nat) = i by omega] at this
          exact this
      · intro j hj
        have : τ.2.2 j = σ1.2.2 j := by
          by_cases h21 : j = 21
          · subst h21; rw [u3.l 21, hσ2]; rfl
          · rw [u3.2.2.1 j rfl, hσ2]
            · rfl
            · intro h; subst h; exact absurd hj (by decide)
            · intro h; subst h; exact absurd hj (by decide)
        rw [this]; exact a7.2 j hj
      · have e1 : ((NN ++ N2).length : Int) + ((0 : Nat) : Int) + (st.2.2.2.1.length : Int) ≤ st.1 := e1
        show ((NN ++ N2).length : Int) ≤ te X n st.1
        omega
      · show GO τ st.2.2.1.length (NN ++ N2) TT (SL ++ [(pl, pv, w, st.2.2.2.2)])
        have hG := e3.m0 kk' []
        rw [List.append_nil] at hG
        have hlen : (5 * (SL.length : Int)) = ((sfl SL 0 0).length : Int) := by rw [sfl_len]; omega
        refine hG.snoc ?_ (fun j v hv => ?_)
        · rw [hlen]
          have h3 : CFs σ1 st.2.2.1.length (NN ++ N2) TT ((sfl SL 0 0).length : Int) (nd w.1 w.2 nl) st.2.2.2.1 (szl SL) := h3
          rw [m2] at h3
          have := h3.m0 kk' [] (fun v hv => (by cases hv))
          rw [List.append_nil] at this
          exact this
        · obtain ⟨x1, x2, x3, x4, x5, x6⟩ := f4 j v hv
          obtain ⟨y1, y2, y3⟩ := kk' v x3
          exact ⟨x2, x3, by rw [y1]; exact x4, by rw [y2]; exact x5, by rw [y3, hlen]; exact x6⟩
/-- a sign behind a FORMULA: another FORMULA follows -/
theorem sgnB {X Y : Int → Int} {n : Int} (hC : CTX X Y n) {SS : List Int} {pl pv : Int} {F0 : List Int} {L : List SE} {B0 : Nat} {β : Nat} (hβ : 3 ≤ β) {σ : zS} {c : AC} {TT : List Int} {NN : List N6} {k x : Int} (h : CMn X Y n SS pl pv F0 L B0 σ c TT NN) (hd : dpS c.1 ≤ 60) (hk : k = 38 ∨ k = 124 ∨ k = 301 ∨ k = 302) (ht : tk X n c.2.2.1 ≠ 0) : ∃ τ, yE tG_Par_takeSign_p188 β σ [x, cK k] = some (τ, 1) ∧ CMt X Y n SS pl pv F0 L B0 τ ((k, -1) :: c.1, c.2.1, adv X n c.2.2) TT NN ∧ FrC pIP pAP σ τ := by
  obtain ⟨S, P, st⟩ := c
  obtain ⟨hf, w, P2, lo, h1, h2, h3, h4⟩ := h
  have h1 : P = w :: P2 := h1
  obtain ⟨ρ, τ, s1, s2, s3, s4⟩ := pushA hC (β := β - 1) (by omega) hf (k := k) (b := -1) (by unfold sgk; omega) hd ht
  have hscb : ∀ v ∈ st.2.2.2.1, v < (st.2.2.1.length : Int) := fun v hv => (hf.1.2.2.2.1.1 v (Or.inl hv)).2
  refine ⟨τ, ?_, ⟨s3, ?_⟩, s4.w⟩
  · rw [yq_Par_takeSign_p188, kY_Par_takeSign_p188, if_pos (by omega), zbd_of s1, if_pos (by omega), zbd_of s2]
  · show CSt τ st.2.2.1.length NN TT (SS.length : Int) B0 ((k, -1) :: S) P st.2.2.2.1 NN.length
    unfold CSt
    rw [if_neg (by omega), if_neg (by omega)]
    refine ⟨hk, w, P2, lo, h1, h2, ?_, ?_⟩
    · have := CFs.m0 (kV.f (b := st.2.2.1.length) s4) [] hscb h3
      rw [List.append_nil] at this
      exact this
    · have := CSt.m0 (kV.f (b := st.2.2.1.length) s4) [] hscb h4
      rw [List.append_nil] at this
      exact this
section SGN
variable (X Y : Int → Int) (n : Int) (SL : List SE) (pl : Int) (pv : Bool)
/-- the row's names of a SENTENCE -/
def CMT (σ : zS) (c : AC) (TT : List Int) (NN : List N6) : Prop := CMt X Y n (sfl SL 0 0) pl (if pv = true then 1 else 0) (frs SL) SL (szl SL) σ c TT NN
def CMN (σ : zS) (c : AC) (TT : List Int) (NN : List N6) : Prop := CMn X Y n (sfl SL 0 0) pl (if pv = true then 1 else 0) (frs SL) SL (szl SL) σ c TT NN
end SGN
theorem csign_ok {X Y : Int → Int} {n : Int} (hC : CTX X Y n) {SL : List SE} {pl : Int} {pv : Bool} {β : Nat} (hβ : 10 ≤ β) {TT : List Int} {m : Nat} {r : (Int × Int) ⊕ (PS × Tm)} : ∀ (N i : Nat) (σ : zS) (c : AC) (NN : List N6), amS X n m N false c = some r → CMN X Y n SL pl pv σ c TT NN → dpS c.1 ≤ 60 → (i : Int) ≤ c.2.2.1 → (SL.length : Int) ≤ c.2.2.1 →
    (∃ e τ, r = .inl e ∧ yE tG_Par_takeSign_p4 β σ [1, (i : Int)] = some (τ, 0) ∧ CFb σ τ e.1 e.2) ∨
    (∃ τ c2 M NX, yE tG_Par_takeSign_p4 β σ [1, (i : Int)] = some (τ, 1) ∧ CMT X Y n SL pl pv τ c2 TT (NN ++ NX) ∧ amS X n m M true c2 = some r ∧ M < N ∧ c.2.2.1 < c2.2.2.1 ∧ FrC pIP pAP σ τ) ∨
    (∃ st f τ NX, r = .inr (st, f) ∧ yE tG_Par_takeSign_p4 β σ [1, (i : Int)] = some (τ, 0) ∧ CPa X Y n τ (adv X n st) (SL ++ [(pl, pv, f, st.2.2.2.2)]) TT (NN ++ NX) ∧ FrC pIP pAP σ τ)
  | 0, i, σ, c, NN, hr, _, _, _, _ => by cases hr
  | N + 1, i, σ, c, NN, hr, h, hd, hi, hSL => by
    have a := h.1.1
    have hp := a.1.1
    have hq := h.1.2.2.1.2.2.2
    have h35 : σ.1 3205 = 0 := a.1.2.2.2.2.1
    have h32 : σ.1 3202 = cK (tk X n c.2.2.1) := a.1.2.1
    have htq := tq_ge (T := X) (n := n) (p := c.2.2.1)
    -- not a bracket: what the sign is
    have e45 : ∀ {ρ : zS} {x0 x1 : Int}, ρ.1 3205 = 0 → yE tG_Par_takeSign_p45 β ρ [x0, x1] = yE tG_Par_takeSign_p66 β ρ [x0, x1, ρ.1 3202] := fun {ρ x0 x1} h => by
      rw [yq_Par_takeSign_p45, kY_Par_takeSign_p45, if_pos h]
    have eno : tk X n c.2.2.1 ≠ 41 → yE tG_Par_takeSign_p4 β σ [1, (i : Int)] = yE tG_Par_takeSign_p66 β σ [0, (i : Int) + 1, cK (tk X n c.2.2.1)] := fun hk => by
      rw [yq_Par_takeSign_p4, kY_Par_takeSign_p4, if_neg (by omega), if_neg (by decide), if_pos (by omega), zbd_of (isNow_ok a.1), b2_f (fun hc => hk (cK_41.mp hc)), if_pos rfl, yq_Par_takeSign_p37, kY_Par_takeSign_p37, yq_Par_takeSign_p38, kY_Par_takeSign_p38, if_pos ⟨by omega, by omega⟩, yq_Par_takeSign_p4, kY_Par_takeSign_p4, if_neg (by omega), if_pos rfl, e45 h35, h32]
    have rfs : ∀ {ρ : zS} {x0 x1 : Int} {d : AC} {NN2 : List N6}, CMN X Y n SL pl pv ρ d TT NN2 → d.2.2.1 = c.2.2.1 → FrC pIP pAP σ ρ → (∃ τ, zbd (yE tC_Par_refuse (β - 1) ρ []) (fun σ1 _ => some (σ1, 0)) = some (τ, 0) ∧ CFb σ τ 1 (tq X n c.2.2.1)) := fun {ρ x0 x1 d NN2} hρ hpd f => by
      obtain ⟨τ, t1, t2⟩ := refuse_ok (β := β - 1) (by omega) hρ.1.1
      rw [hpd] at t2
      exact ⟨τ, by rw [zbd_of t1], (t2.b hρ.1.2.2.1.2.2.2).pre f⟩
    unfold amS at hr
    by_cases k41 : tk X n c.2.2.1 = 41
    · rw [if_pos k41] at hr
      obtain ⟨σ1, N2, r1, r2, r3, r4, r5⟩ := fold_ok (β := β - 1 - 1) (by omega) (l := 1) (by decide) h
      have hs : yE tC_Par_strength (β - 1 - 1) σ [12] = some (σ, 1) := str_k (k := 33) (by unfold sgk; omega)
      obtain ⟨p1, p2⟩ := foS_d (l := 1) (c := c)
      obtain ⟨c1, hc1⟩ : ∃ d, d = foS 1 c := ⟨_, rfl⟩
      rw [← hc1] at r2 r3 r4 p1 p2 hr
      obtain ⟨S, P, st⟩ := c1
      have p2 : st.1 = c.2.2.1 := p2
      have g1 := r2.1.2.2.1.1
      have q3301 : σ1.1 3301 = (S.length : Int) := by have := g1.1; rw [sgR_len] at this; exact this
      have ebr : yE tG_Par_closeBracket (β - 1) σ [] = (if (σ1.1 3301) = 0 then (some (σ1, 0)) else (zbd (yE tC_Par_pop (β - 1 - 1) σ1 []) (fun σ3 _ => zbd (yE tC_Wds_advance (β - 1 - 1) σ3 []) (fun σ4 _ => some (σ4, 1))))) := by
        have hb : 1 ≤ β - 1 := by omega
        rw [yq_Par_closeBracket, kY_Par_closeBracket, if_pos hb, zbd_of hs, if_pos hb, zbd_of r1]
        simp only [if_pos hb]
      have e4 : yE tG_Par_takeSign_p4 β σ [1, (i : Int)] = zbd (yE tG_Par_closeBracket (β - 1) σ []) (fun σ2 r2 => if r2 = 0 then (yE tG_Par_takeSign_p37 β σ2 [1, (i : Int)]) else (yE tG_Par_takeSign_p38 β σ2 [1, (i : Int), 1])) := by
        rw [yq_Par_takeSign_p4, kY_Par_takeSign_p4, if_neg (by omega), if_neg (by decide), if_pos (by omega), zbd_of (isNow_ok a.1), b2_t (cK_41.mpr k41), if_neg (by decide), if_pos (by omega)]
      rw [e4, ebr]
      cases S with
      | nil =>
        have hr : pNo 1 (tq X n c.2.2.1) = some r := hr
        cases hr
        obtain ⟨τ, t1, t2⟩ := rfs (x0 := 0) (x1 := 0) r2 p2 r5.w
        refine Or.inl ⟨(1, tq X n c.2.2.1), τ, rfl, ?_, t2⟩
        have h32' : σ1.1 3202 = 6 := by rw [r5.i 3202, h32, k41]; rfl
        have hz : σ1.1 3301 = 0 := q3301
        rw [if_pos hz, zbd_of (show (some (σ1, (0 : Int)) : Option zR) = some (σ1, 0) from rfl), if_pos rfl, yq_Par_takeSign_p37, kY_Par_takeSign_p37, yq_Par_takeSign_p38, kY_Par_takeSign_p38, if_pos ⟨by omega, by omega⟩, yq_Par_takeSign_p4, kY_Par_takeSign_p4, if_neg (by omega), if_pos rfl, e45 (by rw [r5.i 3205]; exact h35), h32', yq_Par_takeSign_p66, kY_Par_takeSign_p66, if_neg (by decide), if_neg (by decide), if_neg (by decide), if_pos rfl, if_pos (by omega)]
        exact t1
      | cons x S =>
        obtain ⟨k, b⟩ := x
        have hr : amS X n m N false (S, P, adv X n st) = some r := hr
        have hsk : sgk k := r2.len.2 _ List.mem_cons_self
        have k40 : k = 40 := by
          have r4 : sgS k < 1 := r4
          rcases hsk with h | h | h | h | h | h | h | h
          · rw [h] at r4; exact absurd r4 (by decide)
          · exact h
          · rw [h] at r4; exact absurd r4 (by decide)
          · rw [h] at r4; exact absurd r4 (by decide)
          · rw [h] at r4; exact absurd r4 (by decide)
          · rw [h] at r4; exact absurd r4 (by decide)
          · rw [h] at r4; exact absurd r4 (by decide)
          · rw [h] at r4; exact absurd r4 (by decide)
        obtain ⟨⟨a1, b1, ⟨g1, g2, g3, g4⟩, ⟨d1, d2⟩, e1, e2, e3⟩, w, P2, lo, h1, h2, h3, h4⟩ := id r2
        have hlS := r2.len.1
        have hlS : S.length + 1 ≤ 20000 := hlS
        obtain ⟨σ2, s1, s2, s3, s4, s5, s6⟩ := pop_ok (β := β - 1 - 1) (by omega) g1 g2 hsk d1 d2 (by omega)
        have fl2 : Mb σ2 ∧ RL σ2 := ⟨a1.2.2.2.2.1.1.m s5.2.2.2, fun j hj => by rw [s6]; exact a1.2.2.2.2.1.2 j hj⟩
        have a2 := a1.f s5 fl2
        obtain ⟨τ, u1, u2, u3⟩ := a2.adv hC (β := β - 1 - 1) (by omega)
        have ff : FrC [3108, 3202, 3203, 3204, 3205, 3206, 3207, 3301, 3501] [] σ1 τ := (FrC.w s5).trans (FrC.w u3)
        have hstn : st.1 ≤ n := a1.1.1.2.2.2.2.1
        have hte := te_gt (T := X) (by rw [p2]; omega : tk X n st.1 ≠ 0) hstn
        have htq2 := tq_ge (T := X) (n := n) (p := st.1)
        have hscb : ∀ v ∈ st.2.2.2.1, v < (st.2.2.1.length : Int) := fun v hv => (a1.2.2.2.1.1 v (Or.inl hv)).2
        have hn40 : dpS ((k, b) :: S) = 1 + dpS S := by rw [k40]; rfl
        have hM : CMN X Y n SL pl pv τ (S, P, adv X n st) TT (NN ++ N2) := by
          refine ⟨⟨u2, b1.f ff, ⟨s2.f u3, s3.f u3, g3.f ff, g4.f ff⟩, ⟨by rw [u3.i 3108]; exact s4, ?_⟩, ?_, fun v hv => by rw [ff.a 25]; exact e2 v hv, ?_⟩, w, P2, lo, h1, h2, ?_, ?_⟩
          · have d2 : dpS ((k, b) :: S) ≤ 61 := d2
            show dpS S ≤ 61
            omega
          · have e1 : ((NN ++ N2).length : Int) + ((S.length + 1 : Nat) : Int) + (st.2.2.2.1.length : Int) ≤ st.1 := e1
            show ((NN ++ N2).length : Int) + (S.length : Int) + (st.2.2.2.1.length : Int) ≤ te X n st.1
            omega
          · have := e3.m0 (kV.f (b := st.2.2.1.length) ff) []
            rw [List.append_nil] at this
            exact this
          · have := CFs.m0 (kV.f (b := st.2.2.1.length) ff) [] hscb h3
            rw [List.append_nil] at this
            exact this
          · have h4' : CSt σ1 st.2.2.1.length (NN ++ N2) TT ((sfl SL 0 0).length : Int) (szl SL) ((k, b) :: S) P2 st.2.2.2.1 lo := h4
            unfold CSt at h4'
            rw [if_pos (Or.inr k40)] at h4'
            have := CSt.m0 (kV.f (b := st.2.2.1.length) ff) [] hscb h4'
            rw [List.append_nil] at this
            exact this
        have hd2 : dpS S ≤ 60 := by
          have p1 : dpS ((k, b) :: S) ≤ dpS c.1 := p1
          omega
        have ecl : zbd (yE tC_Par_pop (β - 1 - 1) σ1 []) (fun σ3 _ => zbd (yE tC_Wds_advance (β - 1 - 1) σ3 []) (fun σ4 _ => some (σ4, 1))) = some (τ, 1) := by rw [zbd_of s1, zbd_of u1]
        have hz : σ1.1 3301 ≠ 0 := by rw [q3301]; show ((S.length + 1 : Nat) : Int) ≠ 0; omega
        rw [if_neg hz, zbd_of ecl, if_neg (by decide), yq_Par_takeSign_p38, kY_Par_takeSign_p38, if_pos ⟨by omega, by omega⟩]
        have f0 : FrC pIP pAP σ τ := (FrC.w r5).trans (FrC.w ff)
        rcases csign_ok hC hβ N (i + 1) τ _ _ hr hM hd2 (by show ((i + 1 : Nat) : Int) ≤ te X n st.1; omega) (by show (SL.length : Int) ≤ te X n st.1; omega) with ⟨e, τ2, v1, v2, v3⟩ | ⟨τ2, c2, M, NX, v1, v2, v3, v4, v5, v6⟩ | ⟨st2, f, τ2, NX, v1, v2, v3, v4⟩
        · exact Or.inl ⟨e, τ2, v1, v2, v3.pre f0⟩
        · have v5 : te X n st.1 < c2.2.2.1 := v5
          exact Or.inr (Or.inl ⟨τ2, c2, M, N2 ++ NX, v1, by rw [← List.append_assoc]; exact v2, v3, by omega, by omega, f0.trans v6⟩)
        · exact Or.inr (Or.inr ⟨st2, f, τ2, N2 ++ NX, v1, v2, by rw [← List.append_assoc]; exact v3, f0.trans v4⟩)
    rw [if_neg k41] at hr
    rw [eno k41]
    by_cases kb : tk X n c.2.2.1 = 38 ∨ tk X n c.2.2.1 = 124 ∨ tk X n c.2.2.1 = 301
    · rw [if_pos kb] at hr
      obtain ⟨l, hl⟩ : ∃ l : Int, l = (if tk X n c.2.2.1 = 38 then 5 else 4) := ⟨_, rfl⟩
      rw [← hl] at hr
      have hl1 : 1 ≤ l := by rw [hl]; split <;> omega
      obtain ⟨σ1, N2, r1, r2, r3, r4, r5⟩ := fold_ok (β := β - 1) (by omega) (l := l) hl1 h
      obtain ⟨p1, p2⟩ := foS_d (l := l) (c := c)
      have hne : tk X n (foS l c).2.2.1 ≠ 0 := by rw [p2]; omega
      obtain ⟨τ, q1, q2, q3⟩ := sgnB hC (β := β) (by omega) (x := 0) r2 (by omega) (k := tk X n c.2.2.1) (by omega) hne
      have hte := te_gt (T := X) (by omega : tk X n c.2.2.1 ≠ 0) hp.2.2.2.2.1
      refine Or.inr (Or.inl ⟨τ, _, N, N2, ?_, q2, hr, by omega, ?_, (FrC.w r5).trans q3⟩)
      · have s38 : tk X n c.2.2.1 = 38 → yE tC_Par_strength (β - 1) σ [14] = some (σ, l) := fun hk => by
          rw [hl, if_pos hk]; exact str_k (k := 38) (by unfold sgk; omega)
        have s4 : tk X n c.2.2.1 ≠ 38 → yE tC_Par_strength (β - 1) σ [15] = some (σ, l) := fun hk => by
          rw [hl, if_neg hk]; exact str_k (k := 124) (by unfold sgk; omega)
        rw [yq_Par_takeSign_p66, kY_Par_takeSign_p66]
        rcases kb with hk | hk | hk
        · have ec : cK (tk X n c.2.2.1) = 14 := by rw [hk]; rfl
          rw [ec] at q1 ⊢
          rw [if_neg (by decide), if_neg (by decide), if_neg (by decide), if_neg (by decide), if_neg (by decide), if_neg (by decide), if_neg (by decide), if_neg (by decide), if_neg (by decide), if_neg (by decide), if_neg (by decide), if_pos rfl, if_pos (by omega), zbd_of (s38 hk), if_pos (by omega), zbd_of r1, q1]
        · have ec : cK (tk X n c.2.2.1) = 15 := by rw [hk]; rfl
          rw [ec] at q1 ⊢
          rw [if_neg (by decide), if_neg (by decide), if_neg (by decide), if_neg (by decide), if_neg (by decide), if_neg (by decide), if_neg (by decide), if_neg (by decide), if_neg (by decide), if_neg (by decide), if_neg (by decide), if_neg (by decide), if_pos rfl, if_pos (by omega), zbd_of (s4 (by omega)), if_pos (by omega), zbd_of r1, q1]
        · have ec : cK (tk X n c.2.2.1) = 16 := by rw [hk]; rfl
          rw [ec] at q1 ⊢
          rw [if_neg (by decide), if_neg (by decide), if_neg (by decide), if_neg (by decide), if_neg (by decide), if_neg (by decide), if_neg (by decide), if_neg (by decide), if_neg (by decide), if_neg (by decide), if_neg (by decide), if_neg (by decide), if_neg (by decide), if_pos rfl, if_pos (by omega), zbd_of (s4 (by omega)), if_pos (by omega), zbd_of r1, q1]
      · show c.2.2.1 < te X n (foS l c).2.2.1
        rw [p2]; omega
    rw [if_neg kb] at hr
    by_cases ke : tk X n c.2.2.1 = 302
    · rw [if_pos ke] at hr
      have ec : cK (tk X n c.2.2.1) = 17 := by rw [ke]; rfl
      obtain ⟨σ1, N2, r1, r2, r3, r4, r5⟩ := fold_ok (β := β - 1 - 1) (by omega) (l := 3) (by decide) h
      obtain ⟨p1, p2⟩ := foS_d (l := 3) (c := c)
      have hs : yE tC_Par_strength (β - 1 - 1) σ [16] = some (σ, 3) := str_k (k := 301) (by unfold sgk; omega)
      have hlen := r2.len.1
      obtain ⟨m1, m2⟩ := mb_11 (β := β - 1) (by omega) _ 0 σ1 _ _ (Nat.le_refl _) (by omega) r2
      have emb : yE tG_Par_mayBeEquivalent (β - 1) σ [] = yE tG_Par_mayBeEquivalent_p11 (β - 1) σ1 [((0 : Nat) : Int)] := by
        rw [yq_Par_mayBeEquivalent, kY_Par_mayBeEquivalent, if_pos (by omega), zbd_of hs, if_pos (by omega), zbd_of r1]; rfl
      have e66 : yE tG_Par_takeSign_p66 β σ [0, (i : Int) + 1, cK (tk X n c.2.2.1)] = zbd (yE tG_Par_mayBeEquivalent (β - 1) σ []) (fun σ18 r18 => if r18 = 0 then (zbd (yE tC_Par_refuse (β - 1) σ18 []) (fun σ19 _ => some (σ19, 0))) else (yE tG_Par_takeSign_p188 β σ18 [0, cK 302])) := by
        have hb : 1 ≤ β := by omega
        rw [ec, yq_Par_takeSign_p66, kY_Par_takeSign_p66, if_neg (by decide), if_neg (by decide), if_neg (by decide), if_neg (by decide), if_neg (by decide), if_neg (by decide), if_neg (by decide), if_neg (by decide), if_neg (by decide), if_neg (by decide), if_neg (by decide), if_neg (by decide), if_neg (by decide), if_neg (by decide), if_pos hb]
        simp only [if_pos hb]
        rfl
      rw [e66, emb]
      cases hmb : mbE (foS 3 c).1.length (foS 3 c) with
      | none =>
        rw [hmb] at hr
        cases hr
        obtain ⟨τ, c2, N3, w1, w2, w3, w4⟩ := m1 hmb
        obtain ⟨τ2, t1, t2⟩ := rfs (x0 := 0) (x1 := 0) w2 (by rw [w3, p2]) ((FrC.w r5).trans (FrC.w w4))
        refine Or.inl ⟨(1, tq X n c.2.2.1), τ2, rfl, ?_, t2⟩
        rw [zbd_of w1, if_pos rfl, t1]
      | some e =>
        rw [hmb] at hr
        have hr : amS X n m N true ((302, -1) :: e.1, e.2.1, adv X n e.2.2) = some r := hr
        obtain ⟨τ, N3, w1, w2, w4⟩ := m2 e hmb
        obtain ⟨y1, y2⟩ := mbE_d _ _ _ hmb
        have hpe : e.2.2.1 = c.2.2.1 := by rw [y2, p2]
        obtain ⟨τ2, q1, q2, q3⟩ := sgnB hC (β := β) (by omega) (x := 0) w2 (by omega) (k := 302) (by omega) (by rw [hpe]; omega)
        have hte := te_gt (T := X) (by omega : tk X n c.2.2.1 ≠ 0) hp.2.2.2.2.1
        refine Or.inr (Or.inl ⟨τ2, _, N, N2 ++ N3, ?_, by rw [← List.append_assoc]; exact q2, hr, by omega, ?_, ((FrC.w r5).trans (FrC.w w4)).trans q3⟩)
        · rw [zbd_of w1, if_neg (by decide), q1]
        · show c.2.2.1 < te X n e.2.2.1
          rw [hpe]; omega
    rw [if_neg ke] at hr
    by_cases k46 : tk X n c.2.2.1 = 46
    · rw [if_pos k46] at hr
      have ec : cK (tk X n c.2.2.1) = 4 := by rw [k46]; rfl
      have hte := te_gt (T := X) (by omega : tk X n c.2.2.1 ≠ 0) hp.2.2.2.2.1
      have e66 : yE tG_Par_takeSign_p66 β σ [0, (i : Int) + 1, cK (tk X n c.2.2.1)] = zbd (yE tG_Par_closeSentence (β - 1) σ []) (fun σ2 _ => some (σ2, 0)) := by
        rw [ec, yq_Par_takeSign_p66, kY_Par_takeSign_p66, if_neg (by decide), if_pos rfl, if_pos (by omega)]
      rw [e66]
      rcases csen_ok hC (β := β - 1) (by omega) h (by omega) with ⟨st, f, N2, τ, s1, s2, s3, s4, s5, s6⟩ | ⟨s1, τ, s2, s3⟩
      · rw [s1, s2, s3] at hr
        cases hr
        exact Or.inr (Or.inr ⟨st, f, τ, N2, rfl, by rw [zbd_of s4], s5, s6⟩)
      · have hr2 : r = .inl (1, tq X n c.2.2.1) := by
          cases hS : (foS 1 c).1 with
          | nil => exact absurd hS s1
          | cons x S => rw [hS] at hr; cases hr; rfl
        exact Or.inl ⟨(1, tq X n c.2.2.1), τ, hr2, by rw [zbd_of s2], s3⟩
    · rw [if_neg k46] at hr
      cases hr
      obtain ⟨τ, t1, t2⟩ := rfs (x0 := 0) (x1 := 0) h rfl FrC.refl
      refine Or.inl ⟨(1, tq X n c.2.2.1), τ, rfl, ?_, t2⟩
      have h17 := tk_rng (X := X) (n := n) (p := c.2.2.1)
      obtain ⟨z, hz⟩ : ∃ z, z = cK (tk X n c.2.2.1) := ⟨_, rfl⟩
      have hz4 : z ≠ 4 := fun h => k46 (by rw [hz] at h; unfold cK at h; omega)
      have hz14 : z ≠ 14 := fun h => by rw [hz] at h; unfold cK at h; omega
      have hz15 : z ≠ 15 := fun h => by rw [hz] at h; unfold cK at h; omega
      have hz16 : z ≠ 16 := fun h => by rw [hz] at h; unfold cK at h; omega
      have hz17 : z ≠ 17 := fun h => ke (h17.mp (by rw [← hz]; exact h))
      rw [← hz, ← t1, yq_Par_takeSign_p66, kY_Par_takeSign_p66]
      have hb : 1 ≤ β := by omega
      by_cases y1 : z < 4 ∨ 17 < z
      · rw [if_pos y1, if_pos hb]
      rw [if_neg y1, if_neg hz4]
      by_cases y2 : z = 5
      · rw [if_pos y2, if_pos hb]
      rw [if_neg y2]
      by_cases y3 : z = 6
      · rw [if_pos y3, if_pos hb]
      rw [if_neg y3]
      by_cases y4 : z = 7
      · rw [if_pos y4, if_pos hb]
      rw [if_neg y4]
      by_cases y5 : z = 8
      · rw [if_pos y5, if_pos hb]
      rw [if_neg y5]
      by_cases y6 : z = 9
      · rw [if_pos y6, if_pos hb]
      rw [if_neg y6]
      by_cases y7 : z = 10
      · rw [if_pos y7, if_pos hb]
      rw [if_neg y7]
      by_cases y8 : z = 11
      · rw [if_pos y8, if_pos hb]
      rw [if_neg y8]
      by_cases y9 : z = 12
      · rw [if_pos y9, if_pos hb]
      rw [if_neg y9, if_pos (by omega : z = 13), if_pos hb]
theorem sent_61 {X Y : Int → Int} {n : Int} (hC : CTX X Y n) {SL : List SE} {pl : Int} {pv : Bool} {β : Nat} (hβ : 142 ≤ β) {m : Nat} {x0 x1 : Int} {r : (Int × Int) ⊕ (PS × Tm)} : ∀ (K N : Nat) (j : Nat) (σ : zS) (c : AC) (TT : List Int) (NN : List N6), N ≤ K → amS X n m N true c = some r → CMT X Y n SL pl pv σ c TT NN → (j : Int) ≤ c.2.2.1 → (SL.length : Int) ≤ c.2.2.1 →
    (∃ e τ y z, r = .inl e ∧ yE tG_Par_parse_2_p61 β σ [x0, x1, 1, (j : Int)] = yE tG_Par_parse_2_p108 β τ [x0, x1, y, z] ∧ CFb σ τ e.1 e.2) ∨
    (∃ st f τ TX NX y z, r = .inr (st, f) ∧ yE tG_Par_parse_2_p61 β σ [x0, x1, 1, (j : Int)] = yE tG_Par_parse_2_p108 β τ [x0, x1, y, z] ∧ CPa X Y n τ (adv X n st) (SL ++ [(pl, pv, f, st.2.2.2.2)]) (TT ++ TX) (NN ++ NX) ∧ FrC pIP pAP σ τ)
  | 0, N, j, σ, c, TT, NN, hK, hr, _, _, _ => by
    rw [show N = 0 by omega] at hr
    cases hr
  | K + 1, N, j, σ, c, TT, NN, hK, hr, h, hj, hSL => by
    have hp := h.1.1.1.1
    have e0 : yE tG_Par_parse_2_p61 β σ [x0, x1, 1, (j : Int)] = zbd (yE tG_Par_takePrefixes (β - 1) σ []) (fun σ1 _ => zbd (yE tG_Par_takeAtom (β - 1) σ1 []) (fun σ2 _ => if (σ2.1 3100) = 0 then (zbd (yE tG_Par_takeSign (β - 1) σ2 []) (fun σ3 r3 => if r3 = 0 then (yE tG_Par_parse_2_p99 β σ3 [x0, x1, 1, (j : Int)]) else (yE tG_Par_parse_2_p100 β σ3 [x0, x1, 1, (j : Int), 1]))) else (yE tG_Par_parse_2_p99 β σ2 [x0, x1, 1, (j : Int)]))) := by
      have hb : 1 ≤ β := by omega
      rw [yq_Par_parse_2_p61, kY_Par_parse_2_p61, if_neg (by omega), if_neg (by decide)]
      simp only [if_pos hb]
    have e99 : ∀ {ρ : zS}, yE tG_Par_parse_2_p99 β ρ [x0, x1, 1, (j : Int)] = yE tG_Par_parse_2_p108 β ρ [x0, x1, 0, (j : Int) + 1] := fun {ρ} => by
      rw [yq_Par_parse_2_p99, kY_Par_parse_2_p99, yq_Par_parse_2_p100, kY_Par_parse_2_p100, if_pos ⟨by omega, by omega⟩, yq_Par_parse_2_p61, kY_Par_parse_2_p61, if_neg (by omega), if_pos rfl]
    have offA : ∀ {ρ : zS}, ρ.1 3100 ≠ 0 → yE tG_Par_takeAtom (β - 1) ρ [] = some (ρ, 0) := fun {ρ} h3 => by
      rw [yq_Par_takeAtom, kY_Par_takeAtom, if_neg h3]
    have eP : yE tG_Par_takePrefixes (β - 1) σ [] = yE tG_Par_takePrefixes_p4 (β - 1) σ [1, ((0 : Nat) : Int)] := by
      rw [yq_Par_takePrefixes, kY_Par_takePrefixes]; rfl
    rw [e0, eP]
    rcases pre_ok hC (β := β - 1) (by omega) N 0 σ c hr h (by omega) with ⟨e, τ, u1, u2, u3⟩ | ⟨σ1, c1, N1, u2, u3, u4, u5, u6, u7, u8, u9⟩
    · have h3 : τ.1 3100 ≠ 0 := by rw [u3.1]; exact u3.2.2.1
      exact Or.inl ⟨e, τ, _, _, u1, by rw [zbd_of u2, zbd_of (offA h3), if_neg h3, e99], u3⟩
    rw [zbd_of u2]
    rcases atomStep hC (β := β - 1) (by omega) u3 u6 u7 u4 with ⟨e, τ, v1, v2, v3⟩ | ⟨σ2, c2, TX, x, v1, v2, v3, v4, v5, v6⟩
    · have h3 : τ.1 3100 ≠ 0 := by rw [v3.1]; exact v3.2.2.1
      exact Or.inl ⟨e, τ, _, _, v1, by rw [zbd_of v2, if_neg h3, e99], v3.pre u9⟩
    have h3 : σ2.1 3100 = 0 := v2.1.1.2.2.2.2.2.1
    have eS : yE tG_Par_takeSign (β - 1) σ2 [] = yE tG_Par_takeSign_p4 (β - 1) σ2 [1, ((0 : Nat) : Int)] := by
      rw [yq_Par_takeSign, kY_Par_takeSign]; rfl
    rw [zbd_of v1, if_pos h3, eS]
    have f02 : FrC pIP pAP σ σ2 := u9.trans v6
    rcases csign_ok hC (β := β - 1) (by omega) N1 0 σ2 c2 _ v3 v2 (by rw [v4]; exact u6) (by omega) (by omega) with ⟨e, τ, w1, w2, w3⟩ | ⟨τ, c3, M, NX, w1, w2, w3, w4, w5, w6⟩ | ⟨st, f, τ, NX, w1, w2, w3, w4⟩
    · exact Or.inl ⟨e, τ, _, _, w1, by rw [zbd_of w2, if_pos rfl, e99], w3.pre f02⟩
    · rw [zbd_of w1, if_neg (by decide), yq_Par_parse_2_p100, kY_Par_parse_2_p100, if_pos ⟨by omega, by omega⟩]
      rcases sent_61 hC hβ (x0 := x0) (x1 := x1) K M (j + 1) τ c3 _ _ (by omega) w3 w2 (by omega) (by omega) with ⟨e, τ2, y, z, g1, g2, g3⟩ | ⟨st, f, τ2, TX2, NX2, y, z, g1, g2, g3, g4⟩
      · exact Or.inl ⟨e, τ2, y, z, g1, g2, g3.pre (f02.trans w6)⟩
      · refine Or.inr ⟨st, f, τ2, TX ++ TX2, [x] ++ NX ++ NX2, y, z, g1, g2, ?_, (f02.trans w6).trans g4⟩
        simpa only [List.append_assoc] using g3
    · refine Or.inr ⟨st, f, τ, TX, [x] ++ NX, _, _, w1, by rw [zbd_of w2, if_pos rfl, e99], ?_, f02.trans w4⟩
      simpa only [List.append_assoc] using w3
theorem isprv_ok {X Y : Int → Int} {n : Int} (hC : CTX X Y n) {β : Nat} (hβ : 1 ≤ β) {σ : zS} {p : Int} (h : CTk X Y n σ p) : yE tC_Wds_isProve β σ [] = some (σ, if prvS X n p = true then 1 else 0) := by
  obtain ⟨⟨a1, a2, a3, a4, a5, a6⟩, c2, c3, c4, _⟩ := id h
  obtain ⟨q0, q1, q2⟩ := tqe (X := X) a4 a5
  have h5 := te_5 (X := X) a4 a5
  have no : ¬ prvS X n p = true → yE tC_Wds_isProve_p98 β σ [] = some (σ, if prvS X n p = true then 1 else 0) := fun hc => by
    rw [if_neg hc, yq_Wds_isProve_p98, kY_Wds_isProve_p98, yq_Wds_isProve_p99, kY_Wds_isProve_p99, if_pos (Or.inl rfl)]
  rw [yq_Wds_isProve, kY_Wds_isProve, if_pos hβ, zbd_of (isNow_ok h)]
  by_cases k2 : tk X n p = 2
  · rw [b2_t (cK_2.mpr k2), if_neg (by decide), c4, c3]
    by_cases k5 : te X n p - tq X n p = 5
    · rw [if_pos k5, a1]
      have yx : ∀ i : Int, 0 ≤ i → i < 5 → Y (tq X n p + i) = X (tq X n p + i) := fun i i0 i5 => (hC.w a4 a5 (Or.inl k2) (by omega) (by omega)).1
      have y0 := yx 0 (by omega) (by omega)
      rw [show tq X n p + 0 = tq X n p by omega] at y0
      rw [if_pos ⟨by omega, by omega⟩, y0]
      by_cases b0 : X (tq X n p) = 112
      · rw [if_pos b0, if_pos ⟨by omega, by omega⟩, if_pos ⟨by omega, by omega⟩, yx 1 (by omega) (by omega)]
        by_cases b1 : X (tq X n p + 1) = 114
        · rw [if_pos b1, if_pos ⟨by omega, by omega⟩, if_pos ⟨by omega, by omega⟩, yx 2 (by omega) (by omega)]
          by_cases b2 : X (tq X n p + 2) = 111
          · rw [if_pos b2, if_pos ⟨by omega, by omega⟩, if_pos ⟨by omega, by omega⟩, yx 3 (by omega) (by omega)]
            by_cases b3 : X (tq X n p + 3) = 118
            · rw [if_pos b3, if_pos ⟨by omega, by omega⟩, if_pos ⟨by omega, by omega⟩, yx 4 (by omega) (by omega)]
              by_cases b4 : X (tq X n p + 4) = 101
              · rw [if_pos b4, if_pos (h5.mpr ⟨k2, k5, ⟨by omega, b0⟩, ⟨by omega, b1⟩, ⟨by omega, b2⟩, ⟨by omega, b3⟩, ⟨by omega, b4⟩⟩), yq_Wds_isProve_p99, kY_Wds_isProve_p99, if_pos (Or.inr rfl)]
              · rw [if_neg b4]; exact no (fun h => b4 (h5.mp h).2.2.2.2.2.2.2)
            · rw [if_neg b3]; exact no (fun h => b3 (h5.mp h).2.2.2.2.2.1.2)
          · rw [if_neg b2]; exact no (fun h => b2 (h5.mp h).2.2.2.2.1.2)
        · rw [if_neg b1]; exact no (fun h => b1 (h5.mp h).2.2.2.1.2)
      · rw [if_neg b0]; exact no (fun h => b0 (h5.mp h).2.2.1.2)
    · rw [if_neg k5]; exact no (fun h => k5 (h5.mp h).2.1)
  · rw [b2_f (fun hc => k2 (cK_2.mp hc)), if_pos rfl]; exact no (fun h => k2 (h5.mp h).1)
/-- a SENTENCE begins -/
theorem osen_ok {X Y : Int → Int} {n : Int} (hC : CTX X Y n) {SL : List SE} {β : Nat} (hβ : 4 ≤ β) {σ : zS} {st : PS} {TT : List Int} {NN : List N6} (h : CPa X Y n σ st SL TT NN) : ∃ τ, yE tG_Par_openSentence β σ [] = some (τ, 0) ∧ CMT X Y n SL (tq X n st.1) (prvS X n st.1) τ ([], [], ((if prvS X n st.1 = true then te X n st.1 else st.1), st.2.1, st.2.2.1, [], [])) TT NN ∧ FrC pIP pAP σ τ := by
  obtain ⟨⟨a1, a2, a3⟩, ⟨b1, b2, b3⟩, ⟨c1, c2, c3⟩, ⟨d1, d2⟩, e1, ⟨f1, f16, f3⟩, ⟨g1, g2, g3, g4⟩, hG⟩ := id h
  have hp := a1.1
  have hsl := sfl_len SL 0 0
  obtain ⟨P, hP⟩ : ∃ P : Int, P = (if prvS X n st.1 = true then 1 else 0) := ⟨_, rfl⟩
  have len1 : ∀ {L : List Int} {c : Int}, (L ++ [c]).length = L.length + 1 := fun {L c} => by rw [List.length_append]; rfl
  obtain ⟨u1, X1, v1, M1, R1, B1⟩ := radd (x := tq X n st.1) (B := 210000) b1 d1 d2 (by omega) b2 (by omega)
  obtain ⟨u2, X2, v2, M2, R2, B2⟩ := radd (x := P) (B := 210000) X1 M1 R1 (by rw [len1]; omega) B1 (by rw [len1]; omega)
  obtain ⟨u3, X3, v3, M3, R3, B3⟩ := radd (x := -1) (B := 210000) X2 M2 R2 (by rw [len1, len1]; omega) B2 (by rw [len1, len1]; omega)
  obtain ⟨u4, X4, v4, M4, R4, B4⟩ := radd (x := ((frs SL).length : Int)) (B := 210000) X3 M3 R3 (by rw [len1, len1, len1]; omega) B3 (by rw [len1, len1, len1]; omega)
  obtain ⟨u5, X5, v5, M5, R5, B5⟩ := radd (x := ((frs SL).length : Int)) (B := 210000) X4 M4 R4 (by rw [len1, len1, len1, len1]; omega) B4 (by rw [len1, len1, len1, len1]; omega)
  obtain ⟨σ3, h3⟩ : ∃ s, s = zAdd (zAdd (zAdd σ 2001 21 (tq X n st.1)) 2001 21 P) 2001 21 (-1) := ⟨_, rfl⟩
  have ff3 : FrC [2001] [21] σ σ3 := by rw [h3]; exact (v1.trans v2).trans v3
  rw [← h3] at u4 X4 v4 M4 R4 B4 u5 X5 v5 M5 R5 B5
  obtain ⟨σ4, h4⟩ : ∃ s, s = zAdd σ3 2001 21 ((frs SL).length : Int) := ⟨_, rfl⟩
  have ff4 : FrC [2001] [21] σ σ4 := by rw [h4]; exact ff3.trans v4
  rw [← h4] at u5 X5 v5 M5 R5 B5
  obtain ⟨σ5, h5⟩ : ∃ s, s = zAdd σ4 2001 21 ((frs SL).length : Int) := ⟨_, rfl⟩
  rw [← h5] at X5 v5 M5 R5 B5
  have ff5 : FrC [2001] [21] σ σ5 := ff4.trans v5
  have eopen : yE tG_For_openSentence (β - 1) σ [tq X n st.1, P] = some (zI σ5 1403 (-1), 0) := by
    have q3 : σ3.1 1414 = ((frs SL).length : Int) := by rw [ff3.i 1414]; exact c1
    have q4 : σ4.1 1414 = ((frs SL).length : Int) := by rw [ff4.i 1414]; exact c1
    have e21 : ∀ y, y = P → yE tG_For_openSentence_p21 (β - 1) (zAdd σ 2001 21 (tq X n st.1)) [tq X n st.1, P, y] = some (zI σ5 1403 (-1), 0) := fun y hy => by
      rw [yq_For_openSentence_p21, kY_For_openSentence_p21, hy, if_pos u2, lt_e, if_pos u3, lt_e, ← h3, q3, if_pos u4, lt_e, ← h4, q4, if_pos u5, lt_e, lt_e, ← h5]
    rw [yq_For_openSentence, kY_For_openSentence, if_pos u1, lt_e]
    by_cases c : P = 0
    · rw [if_pos c, e21 0 c.symm]
    · rw [if_neg c, e21 1 (by rw [hP] at c ⊢; by_cases hh : prvS X n st.1 = true; rw [if_pos hh]; rw [if_neg hh] at c; exact absurd rfl c)]
  obtain ⟨σ6, h6⟩ : ∃ s, s = zI (zI (zI (zI (zI σ5 1403 (-1)) 3301 0) 3501 0) 3701 0) 3108 0 := ⟨_, rfl⟩
  have f56 : FrC [1403, 3108, 3301, 3501, 3701] [] σ5 σ6 := by
    rw [h6]
    exact FrC.trans (FrC.trans (FrC.trans (FrC.trans FrC_I FrC_I) FrC_I) FrC_I) FrC_I
  have ff : FrC [1403, 2001, 3108, 3301, 3501, 3701] [21] σ σ6 := (FrC.w ff5).trans (FrC.w f56)
  have hT6 := a1.f ff
  have t1403 : σ6.1 1403 = -1 := by rw [h6]; simp [zI]
  have t3301 : σ6.1 3301 = 0 := by rw [h6]; simp [zI]
  have t3501 : σ6.1 3501 = 0 := by rw [h6]; simp [zI]
  have t3701 : σ6.1 3701 = 0 := by rw [h6]; simp [zI]
  have t3108 : σ6.1 3108 = 0 := by rw [h6]; simp [zI]
  have g46 := g4.f ff
  have row5 : RowC σ6 2001 21 (sfl SL 0 0 ++ [tq X n st.1, P, -1, ((frs SL).length : Int), (((frs SL).length + ([] : List Int).length : Nat) : Int)]) := by
    have := X5.f f56
    have this2 : RowC σ6 2001 21 (sfl SL 0 0 ++ [tq X n st.1, P, -1, ((frs SL).length : Int), ((frs SL).length : Int)]) := by simpa only [List.append_assoc, List.cons_append, List.nil_append] using this
    exact this2
  have hM6 : Mb σ6 ∧ RL σ6 := ⟨M5.m f56.2.2.2, R5.f f56⟩
  have hl21 : σ6.2.2 21 ≤ 210000 := by rw [f56.l 21]; exact B5
  -- with no sign and no part
  have mk : ∀ {τ : zS} {p : Int}, CTk X Y n τ p → st.1 ≤ p → FrC [3202, 3203, 3204, 3205, 3206, 3207] [] σ6 τ → CMT X Y n SL (tq X n st.1) (prvS X n st.1) τ ([], [], (p, st.2.1, st.2.2.1, [], [])) TT NN := fun {τ p} hT hpp f => by
    have f2 : FrC [1403, 2001, 3108, 3202, 3203, 3204, 3205, 3206, 3207, 3301, 3501, 3701] [21] σ τ := (FrC.w ff).trans (FrC.w f)
    have gq := g46.f f
    have hsl' : (sfl SL 0 0).length ≤ 150000 := by omega
    refine ⟨⟨⟨hT, a2.f f2, ⟨a3.f f2, ?_, ⟨⟨⟨?_, ?_, hsl'⟩, ?_, ?_, fun i v hv => (by cases hv)⟩, fun i v hv => by rw [f2.a 28]; exact c3 i v hv⟩⟩, ⟨fun v hv => ?_, Nat.zero_le _⟩, ⟨hM6.1.m f.2.2.2, hM6.2.f f⟩, by rw [f2.i 3100]; exact e1, f1.f f2, by rw [f2.l 16]; exact f16, Int.le_trans f3 hpp⟩, g1.f f2, ⟨?_, ?_, ?_, gq⟩, ⟨by rw [f.i 3108]; exact t3108, by show (0 : Int) ≤ 61; decide⟩, ?_, fun v hv => (by cases hv), ?_⟩, ?_⟩
    · show τ.1 1403 = -1
      rw [f.i 1403]; exact t1403
    · rw [← hP]; exact row5.f f
    · rw [f.l 21]; exact hl21
    · rw [f2.i 1414]; exact c1
    · exact c2
    · rcases hv with hv | hv <;> cases hv
    · refine ⟨by rw [f.i 3301]; exact t3301, Nat.zero_le _, gq.2.1.1, trivial⟩
    · refine ⟨by rw [f.i 3501]; exact t3501, Nat.zero_le _, gq.2.2.1.1, trivial⟩
    · refine ⟨by rw [f.i 3701]; exact t3701, Nat.zero_le _, gq.2.2.2.1, trivial⟩
    · show (NN.length : Int) + ((0 : Nat) : Int) + ((0 : Nat) : Int) ≤ p
      omega
    · have := hG.m0 (kV.f (b := st.2.2.1.length) f2) []
      rw [List.append_nil] at this
      exact this
    · exact ⟨rfl, rfl, g2⟩
  have epre : yE tG_Par_openSentence β σ [] = (if P = 0 then some (σ6, 0) else zbd (yE tC_Wds_advance (β - 1) σ6 []) (fun σ7 _ => some (σ7, 0))) := by
    have hb : 1 ≤ β := by omega
    rw [yq_Par_openSentence, kY_Par_openSentence, if_pos hb, zbd_of (isprv_ok hC (β := β - 1) (by omega) a1), ← hP, a1.2.2.1, if_pos hb, zbd_of eopen, lt_e, lt_e, lt_e, lt_e, ← h6]
    simp only [if_pos hb, yq_Par_openSentence_p63, kY_Par_openSentence_p63]
  rw [epre]
  by_cases hpr : prvS X n st.1 = true
  · rw [if_pos hpr] at hP
    rw [hP, if_neg (by decide), if_pos hpr]
    obtain ⟨τ, w1, w2, w3⟩ := hT6.adv hC (β := β - 1) (by omega)
    exact ⟨τ, by rw [zbd_of w1], mk w2 te_ge w3.c, (FrC.w ff).trans (FrC.w w3.c)⟩
  · rw [if_neg hpr] at hP
    rw [hP, if_pos rfl, if_neg hpr]
    exact ⟨σ6, rfl, mk hT6 (Int.le_refl _) FrC.refl, ff.w⟩
theorem cK_0 {k : Int} : cK k = 0 ↔ k = 0 := ⟨fun h => by unfold cK at h; omega, fun h => by rw [h]; rfl⟩
theorem CPa.cap {X Y : Int → Int} {n : Int} {σ : zS} {st : PS} {SL : List SE} {TT : List Int} {NN : List N6} (h : CPa X Y n σ st SL TT NN) : cap σ := ⟨⟨h.1.2.1.2.2.2.2.1.1.2.2.1, h.1.2.1.2.2.2.2.1.2.1⟩, ⟨h.2.2.2.2.2.1.1.2.2.1, h.2.2.2.2.2.1.2.1⟩, ⟨h.2.1.1.2.2.1, h.2.1.2.1⟩, h.1.2.1.2.2.2.2.1.2.2⟩
/-- all SENTENCES -/
theorem cps_28 {X Y : Int → Int} {n : Int} (hC : CTX X Y n) {β : Nat} (hβ : 142 ≤ β) {x0 : Int} : ∀ (m : Nat) (σ : zS) (st : PS) (SL : List SE) (TT : List Int) (NN : List N6) (r : (Int × Int) ⊕ (PS × List SE)), seS X n m st SL = some r → CPa X Y n σ st SL TT NN →
    (∀ e, r = .inl e → ∃ τ, yE tG_Par_parse_2_p28 β σ [x0, (SL.length : Int)] = some (τ, 0) ∧ CFb σ τ e.1 e.2) ∧
    (∀ a, r = .inr a → ∃ τ TX NX, yE tG_Par_parse_2_p28 β σ [x0, (SL.length : Int)] = some (τ, 0) ∧ CPa X Y n τ a.1 a.2 (TT ++ TX) (NN ++ NX) ∧ FrC pIP pAP σ τ)
  | 0, σ, st, SL, TT, NN, r, hr, _ => by cases hr
  | m + 1, σ, st, SL, TT, NN, r, hr, h => by
    have a1 := h.1.1
    have hp := a1.1
    have h3 : σ.1 3100 = 0 := h.2.2.2.2.1
    have hsl := h.2.1.2.2
    unfold seS at hr
    by_cases k0 : tk X n st.1 = 0
    · rw [if_pos k0] at hr
      cases hr
      refine ⟨fun e he => (by cases he), fun a ha => ?_⟩
      cases ha
      refine ⟨σ, [], [], ?_, by rw [List.append_nil, List.append_nil]; exact h, FrC.refl⟩
      have h0 : σ.1 3202 = 0 := by rw [a1.2.1]; exact cK_0.mpr k0
      rw [yq_Par_parse_2_p28, kY_Par_parse_2_p28, if_neg (by omega), if_pos h3, if_pos h0, yq_Par_parse_2_p114, kY_Par_parse_2_p114]
    · rw [if_neg k0] at hr
      have h0 : σ.1 3202 ≠ 0 := by rw [a1.2.1]; exact fun hc => k0 (cK_0.mp hc)
      obtain ⟨σ1, o1, o2, o3⟩ := osen_ok hC (β := β - 1) (by omega) h
      have e28 : yE tG_Par_parse_2_p28 β σ [x0, (SL.length : Int)] = yE tG_Par_parse_2_p61 β σ1 [x0, (SL.length : Int), 1, ((0 : Nat) : Int)] := by
        rw [yq_Par_parse_2_p28, kY_Par_parse_2_p28, if_neg (by omega), if_pos h3, if_neg h0, if_pos (by omega), zbd_of o1]; rfl
      have e108 : ∀ {ρ : zS} {y z : Int}, yE tG_Par_parse_2_p108 β ρ [x0, (SL.length : Int), y, z] = yE tG_Par_parse_2_p28 β ρ [x0, (SL.length : Int) + 1] := fun {ρ y z} => by
        rw [yq_Par_parse_2_p108, kY_Par_parse_2_p108, if_pos ⟨by omega, by omega⟩]
      have off : ∀ {ρ : zS}, ρ.1 3100 ≠ 0 → yE tG_Par_parse_2_p28 β ρ [x0, (SL.length : Int) + 1] = some (ρ, 0) := fun {ρ} h3 => by
        rw [yq_Par_parse_2_p28, kY_Par_parse_2_p28, if_neg (by omega), if_neg h3, yq_Par_parse_2_p114, kY_Par_parse_2_p114]
      rw [e28]
      obtain ⟨st1, hst1⟩ : ∃ s : PS, s = ((if prvS X n st.1 = true then te X n st.1 else st.1), st.2.1, st.2.2.1, [], []) := ⟨_, rfl⟩
      rw [← hst1] at hr o2
      have hge : st.1 ≤ st1.1 := by
        rw [hst1]
        show st.1 ≤ (if prvS X n st.1 = true then te X n st.1 else st.1)
        split
        · exact te_ge
        · exact Int.le_refl _
      have hV1 : PV st1 := o2.1.1.2.2.2.1.1
      have run : ∀ {q : (Int × Int) ⊕ (PS × Tm)}, OutS X n m true ([], [], st1) q →
          (∃ e τ y z, q = .inl e ∧ yE tG_Par_parse_2_p61 β σ1 [x0, (SL.length : Int), 1, ((0 : Nat) : Int)] = yE tG_Par_parse_2_p108 β τ [x0, (SL.length : Int), y, z] ∧ CFb σ1 τ e.1 e.2) ∨
          (∃ s f τ TX NX y z, q = .inr (s, f) ∧ yE tG_Par_parse_2_p61 β σ1 [x0, (SL.length : Int), 1, ((0 : Nat) : Int)] = yE tG_Par_parse_2_p108 β τ [x0, (SL.length : Int), y, z] ∧ CPa X Y n τ (adv X n s) (SL ++ [(tq X n st.1, prvS X n st.1, f, s.2.2.2.2)]) (TT ++ TX) (NN ++ NX) ∧ FrC pIP pAP σ1 τ) := fun {q} ho => by
        obtain ⟨N, hN⟩ := ho
        exact sent_61 hC hβ N N 0 σ1 _ TT NN (Nat.le_refl _) hN o2 (by show ((0 : Nat) : Int) ≤ st1.1; omega) (by show (SL.length : Int) ≤ st1.1; omega)
      have bad : ∀ {k q : Int}, OutS X n m true ([], [], st1) (.inl (k, q)) → ∃ τ, yE tG_Par_parse_2_p61 β σ1 [x0, (SL.length : Int), 1, ((0 : Nat) : Int)] = some (τ, 0) ∧ CFb σ τ k q := fun {k q} ho => by
        rcases run ho with ⟨e, τ, y, z, g1, g2, g3⟩ | ⟨s, f, τ, TX, NX, y, z, g1, g2, g3, g4⟩
        · cases g1
          exact ⟨τ, by rw [g2, e108, off (by rw [g3.1]; exact g3.2.2.1)], g3.pre o3⟩
        · cases g1
      rcases pb_r hr with ⟨k, q, u1, rfl⟩ | ⟨a, u1, u2⟩
      · obtain ⟨am1, _⟩ := am_ok (X := X) hp.2.2.2.2.2 hV1 u1
        obtain ⟨τ, t1, t2⟩ := bad (am1 _ rfl)
        refine ⟨fun e he => ?_, fun a ha => (by cases ha)⟩
        cases he
        exact ⟨τ, t1, t2⟩
      · obtain ⟨_, am2⟩ := am_ok (X := X) hp.2.2.2.2.2 hV1 u1
        obtain ⟨am3, am4⟩ := am2 _ rfl
        by_cases k46 : tk X n a.1.1 = 46
        · rw [if_pos k46] at u2
          rcases run (am3 k46) with ⟨e, τ, y, z, g1, g2, g3⟩ | ⟨s, f, τ, TX, NX, y, z, g1, g2, g3, g4⟩
          · cases g1
          · cases g1
            rw [g2, e108]
            obtain ⟨i1, i2⟩ := cps_28 hC hβ (x0 := x0) m τ _ _ _ _ r u2 g3
            have hl : (((SL ++ [(tq X n st.1, prvS X n st.1, f, s.2.2.2.2)]).length : Nat) : Int) = (SL.length : Int) + 1 := by rw [List.length_append]; rfl
            rw [hl] at i1 i2
            refine ⟨fun e he => ?_, fun b hb => ?_⟩
            · obtain ⟨τ2, t1, t2⟩ := i1 e he
              exact ⟨τ2, t1, t2.pre (o3.trans g4)⟩
            · obtain ⟨τ2, TX2, NX2, t1, t2, t3⟩ := i2 b hb
              exact ⟨τ2, TX ++ TX2, NX ++ NX2, t1, by simpa only [List.append_assoc] using t2, (o3.trans g4).trans t3⟩
        · rw [if_neg k46] at u2
          cases u2
          obtain ⟨τ, t1, t2⟩ := bad (am4 k46)
          refine ⟨fun e he => ?_, fun a ha => (by cases ha)⟩
          cases he
          exact ⟨τ, t1, t2⟩
/-- THE CLASS READS THE WHOLE TEXT AS THE SPEC SAYS -/
theorem cparse_ok {X Y : Int → Int} {n : Int} (hC : CTX X Y n) {β : Nat} (hβ : 142 ≤ β) {σ : zS} (hY : σ.2.1 2 = Y) (hl : n ≤ (σ.2.2 2 : Int)) (h0 : 0 ≤ n) (hn : n ≤ 20000) (hN : CNm σ []) (hM : Mb σ ∧ RL σ) (hc : cap σ) (hq : capq σ) {m : Nat} {r : (Int × Int) ⊕ (PS × List SE)} (hr : seS X n m (0, [], [], [], []) [] = some r) :
    (∀ e, r = .inl e → ∃ τ, yE tG_Par_parse_2 β σ [n] = some (τ, 0) ∧ τ.1 3100 = e.1 ∧ τ.1 3101 = e.2 ∧ e.1 ≠ 0 ∧ FrC (3201 :: pIP) pAP σ τ ∧ (Mb τ ∧ RL τ) ∧ cap τ ∧ capq τ) ∧
    (∀ a, r = .inr a → ∃ τ TT NN, yE tG_Par_parse_2 β σ [n] = some (τ, 0) ∧ CPa X Y n τ a.1 a.2 TT NN ∧ FrC (3201 :: pIP) pAP σ τ) := by
  obtain ⟨σ2, hs2⟩ : ∃ s, s = zI (zI (zI (zI (zI (zI (zI (zI σ 3100 0) 3101 0) 1501 0) 1801 0) 2001 0) 1402 0) 1414 0) 1403 (-1) := ⟨_, rfl⟩
  obtain ⟨σ3, hs3⟩ : ∃ s, s = zI (zI (zI σ2 3201 n) 3206 0) 3207 0 := ⟨_, rfl⟩
  have ff2 : FrC [1402, 1403, 1414, 1501, 1801, 2001, 3100, 3101] [] σ σ2 := by
    rw [hs2]
    exact FrC.trans (FrC.trans (FrC.trans (FrC.trans (FrC.trans (FrC.trans (FrC.trans FrC_I FrC_I) FrC_I) FrC_I) FrC_I) FrC_I) FrC_I) FrC_I
  have ff3 : FrC [3201, 3206, 3207] [] σ2 σ3 := by
    rw [hs3]
    exact FrC.trans (FrC.trans FrC_I FrC_I) FrC_I
  have l3 : σ3.2 = σ.2 := by rw [hs3, hs2]; rfl
  have ecl : ∀ b, yE tC_For_clear b (zI (zI σ 3100 0) 3101 0) [] = some (σ2, 0) := fun b => by
    rw [yq_For_clear, kY_For_clear, lt_e, lt_e, lt_e, lt_e, lt_e, lt_e, hs2]
  obtain ⟨σ4, t1, t2, t3⟩ := cadv_ok hC (β := β - 1 - 1) (by omega) (σ := σ3) (p := 0) (by rw [l3]; exact hY) (by rw [l3]; exact hl) (by rw [hs3]; simp [zI]) (by rw [hs3]; simp [zI]) (Int.le_refl _) h0 hn (by rw [hs3]; simp [zI])
  have f34 := t3.c
  have f24 : FrC [3201, 3202, 3203, 3204, 3205, 3206, 3207] [] σ2 σ4 := (FrC.w ff3).trans (FrC.w f34)
  have f04 : FrC [1402, 1403, 1414, 1501, 1801, 2001, 3100, 3101, 3201, 3202, 3203, 3204, 3205, 3206, 3207] [] σ σ4 := (FrC.w ff2).trans (FrC.w f24)
  have eop : yE tG_Wds_open_2 (β - 1) σ2 [n] = some (σ4, 0) := by
    rw [yq_Wds_open_2, kY_Wds_open_2, lt_e, lt_e, lt_e, ← hs3, if_pos (by omega), zbd_of t1]
  have e0 : yE tG_Par_parse_2 β σ [n] = yE tG_Par_parse_2_p28 β σ4 [n, ((0 : Nat) : Int)] := by
    rw [yq_Par_parse_2, kY_Par_parse_2, lt_e, lt_e, if_pos (by omega), zbd_of (ecl _), if_pos (by omega), zbd_of eop]
    rfl
  have i2 : ∀ k x, σ2.1 k = x → (k ≠ 3201 ∧ k ≠ 3202 ∧ k ≠ 3203 ∧ k ≠ 3204 ∧ k ≠ 3205 ∧ k ≠ 3206 ∧ k ≠ 3207) → σ4.1 k = x := fun k x hk hne => by
    rw [f24.1 k (by simp [hne]), hk]
  have hcap := hc.f f04
  have hq4 := hq.f f04
  have hPa : CPa X Y n σ4 (0, [], [], [], []) [] [] [] := by
    refine ⟨⟨t2, hN.f f04, ?_⟩, ⟨?_, hcap.2.2.1.2, Int.le_refl _⟩, ⟨?_, Nat.zero_le _, fun i v hv => (by cases hv)⟩, ⟨hM.1.m f04.2.2.2, hM.2.f f04⟩, ?_, ⟨?_, hcap.2.1.2, Int.le_refl _⟩, ⟨⟨?_, hq4.1.2, fun i x hx => (by cases hx)⟩, rfl, Int.le_refl _, hq4⟩, fun i e he => (by cases he)⟩
    · exact ⟨i2 1402 0 (by rw [hs2]; simp [zI]) (by decide), by decide, fun v x hx => (by cases hx)⟩
    · exact ⟨i2 2001 0 (by rw [hs2]; simp [zI]) (by decide), Nat.zero_le _, hcap.2.2.1.1, trivial⟩
    · exact i2 1414 0 (by rw [hs2]; simp [zI]) (by decide)
    · exact i2 3100 0 (by rw [hs2]; simp [zI]) (by decide)
    · exact ⟨i2 1501 0 (by rw [hs2]; simp [zI]) (by decide), Nat.zero_le _, hcap.2.1.1, trivial⟩
    · exact ⟨i2 1801 0 (by rw [hs2]; simp [zI]) (by decide), Nat.zero_le _, hq4.1.1, trivial⟩
  obtain ⟨p1, p2⟩ := cps_28 hC hβ (x0 := n) m σ4 _ [] [] [] r hr hPa
  rw [e0]
  refine ⟨fun e he => ?_, fun a ha => ?_⟩
  · obtain ⟨τ, g1, g2, g3, g4, g5, g6, g7, g8⟩ := p1 e he
    exact ⟨τ, g1, g2, g3, g4, (FrC.w f04).trans (FrC.w g5), g6, g7, g8⟩
  · obtain ⟨τ, TX, NX, g1, g2, g3⟩ := p2 a ha
    exact ⟨τ, TX, NX, g1, g2, (FrC.w f04).trans (FrC.w g3)⟩
