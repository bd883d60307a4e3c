/-! TERMS of the TEXT in the class -/
theorem CNm.f {σ τ : zS} {nm : PN} {I A : List Nat} (h : CNm σ nm) (f : FrC I A σ τ) (hI : [604, 605, 1001].all (fun j => !(I.elem j)) = true := by decide) (hA : [7, 8, 9, 11, 12].all (fun j => !(A.elem j)) = true := by decide) : CNm τ nm := by
  obtain ⟨n1, n2, n3, n4, ⟨n5, n5'⟩, n6⟩ := h
  simp only [List.all_cons, List.all_nil, Bool.and_true, Bool.and_eq_true, Bool.not_eq_true'] at hI hA
  refine ⟨by rw [f.1 604 hI.1]; exact n1, n2, n3, by rw [f.1 605 hI.2.1]; exact n4, ⟨n5.f f hI.2.2 hA.2.2.2.1, by rw [f.2.2.1 11 hA.2.2.2.1 (by decide) (by decide)]; exact n5'.1, by rw [f.2.1 7 _ hA.1]; exact n5'.2.1, by rw [f.2.1 12 _ hA.2.2.2.2]; exact n5'.2.2⟩, fun i x hx => ?_⟩
  rw [f.2.1 9 _ hA.2.2.1, f.2.1 8 _ hA.2.1, f.2.1 12 _ hA.2.2.2.2, f.2.1 7 _ hA.1]
  exact n6 i x hx
theorem CBd.f {X Y : Int → Int} {n : Int} {σ τ : zS} {bd : List (Int × Int)} {I A : List Nat} (h : CBd X Y n σ bd) (f : FrC I A σ τ) (hI : I.elem 1402 = false := by decide) (hA : [22, 23].all (fun j => !(A.elem j)) = true := by decide) : CBd X Y n τ bd := by
  simp only [List.all_cons, List.all_nil, Bool.and_true, Bool.and_eq_true, Bool.not_eq_true'] at hA
  refine ⟨by rw [f.1 1402 hI]; exact h.1, h.2.1, fun v x hx => ?_⟩
  rw [f.2.1 22 _ hA.1, f.2.1 23 _ hA.2]
  exact h.2.2 v x hx
theorem chn.f {σ τ : zS} {L : List Int} {u : Int} {I A : List Nat} (h : chn σ L u) (f : FrC I A σ τ) (hA : [17, 24].all (fun j => !(A.elem j)) = true := by decide) : chn τ L u := by
  simp only [List.all_cons, List.all_nil, Bool.and_true, Bool.and_eq_true, Bool.not_eq_true'] at hA
  exact h.q (fun v _ => ⟨f.2.1 17 _ hA.1, f.2.1 24 _ hA.2⟩)
theorem CFr.f {σ τ : zS} {b : Nat} {SS : List Int} {pl pv : Int} {F0 : List Int} {fr : List Int} {I A : List Nat} (h : CFr σ b SS pl pv F0 fr) (f : FrC I A σ τ) (hI : [1414, 2001].all (fun j => !(I.elem j)) = true := by decide) (hA : [17, 21, 24, 25, 28].all (fun j => !(A.elem j)) = true := by decide) : CFr τ b SS pl pv F0 fr := by
  simp only [List.all_cons, List.all_nil, Bool.and_true, Bool.and_eq_true, Bool.not_eq_true'] at hI hA
  obtain ⟨⟨⟨a1, a2, a3⟩, a4, a5, a6⟩, a7⟩ := h
  refine ⟨⟨⟨a1.f f hI.2 hA.2.1, by rw [f.2.2.1 21 hA.2.1 (by decide) (by decide)]; exact a2, a3⟩, by rw [f.1 1414 hI.1]; exact a4, a5, fun i v hv => ?_⟩, fun i v hv => ?_⟩
  · rw [f.2.1 28 _ hA.2.2.2.2, f.2.1 17 _ hA.1, f.2.1 24 _ hA.2.2.1, f.2.1 25 _ hA.2.2.2.1]
    exact a6 i v hv
  · rw [f.2.1 28 _ hA.2.2.2.2]
    exact a7 i v hv
/-- rows that may serve again -/
def cap (σ : zS) : Prop := (16 ≤ σ.2.2 11 ∧ σ.2.2 11 ≤ 30000) ∧ (16 ≤ σ.2.2 16 ∧ σ.2.2 16 ≤ 100000) ∧ (16 ≤ σ.2.2 21 ∧ σ.2.2 21 ≤ 210000) ∧ σ.2.1 7 0 = 0 ∧ σ.2.1 12 0 = 1
/-- the class within a SENTENCE -/
def CPr (X Y : Int → Int) (n : Int) (SS : List Int) (pl pv : Int) (F0 : List Int) (σ : zS) (st : PS) (TT : List Int) : Prop := CTk X Y n σ st.1 ∧ CNm σ st.2.1 ∧ (CBd X Y n σ st.2.2.1 ∧ chn σ st.2.2.2.1 (σ.1 1403) ∧ CFr σ st.2.2.1.length SS pl pv F0 st.2.2.2.2) ∧ (PV st ∧ st.2.2.2.1.length ≤ st.2.2.1.length) ∧ (Mb σ ∧ RL σ) ∧ σ.1 3100 = 0 ∧ RowC σ 1501 16 TT ∧ σ.2.2 16 ≤ 100000 ∧ (TT.length : Int) ≤ st.1
abbrev pIT : List Nat := [604, 605, 1001, 1402, 1414, 1501, 3100, 3101, 3202, 3203, 3204, 3205, 3206, 3207]
abbrev pAT : List Nat := [7, 8, 9, 11, 12, 16, 17, 21, 22, 23, 24, 25, 28]
/-- VARIABLES keep what is around them -/
def kV (b : Nat) (σ τ : zS) : Prop := ∀ v : Int, v < (b : Int) → τ.2.1 17 v = σ.2.1 17 v ∧ τ.2.1 24 v = σ.2.1 24 v ∧ τ.2.1 25 v = σ.2.1 25 v
theorem kV.rf {b : Nat} {σ : zS} : kV b σ σ := fun _ _ => ⟨rfl, rfl, rfl⟩
theorem kV.tr {b b2 : Nat} {σ τ ρ : zS} (h : kV b σ τ) (h2 : kV b2 τ ρ) (hb : b ≤ b2) : kV b σ ρ := fun v hv => by
  obtain ⟨a1, a2, a3⟩ := h v hv
  obtain ⟨c1, c2, c3⟩ := h2 v (by omega)
  exact ⟨c1.trans a1, c2.trans a2, c3.trans a3⟩
theorem kV.f {b : Nat} {σ τ : zS} {I A : List Nat} (f : FrC I A σ τ) (hA : [17, 24, 25].all (fun j => !(A.elem j)) = true := by decide) : kV b σ τ := fun v _ => by
  simp only [List.all_cons, List.all_nil, Bool.and_true, Bool.and_eq_true, Bool.not_eq_true'] at hA
  exact ⟨f.2.1 17 _ hA.1, f.2.1 24 _ hA.2.1, f.2.1 25 _ hA.2.2⟩
/-- a FAULT -/
def CFa (σ τ : zS) (k q : Int) : Prop := τ.1 3100 = k ∧ τ.1 3101 = q ∧ k ≠ 0 ∧ FrC pIT pAT σ τ ∧ (Mb τ ∧ RL τ) ∧ cap τ
theorem FrW.c {σ τ : zS} (h : FrW σ τ) : FrC [3202, 3203, 3204, 3205, 3206, 3207] [] σ τ := by
  refine ⟨fun j hj => h.2 j (fun hc => ?_), fun j q _ => by rw [h.1], fun j _ _ _ => by rw [h.1], ?_⟩
  · have : j = 3202 ∨ j = 3203 ∨ j = 3204 ∨ j = 3205 ∨ j = 3206 ∨ j = 3207 := by omega
    rcases this with h | h | h | h | h | h <;> subst h <;> exact absurd hj (by decide)
  · have : Mg σ (τ.1, σ.2) := Mg.refl (σ := σ)
    rw [← h.1] at this
    exact this
theorem CPr.cap {X Y : Int → Int} {n : Int} {SS : List Int} {pl pv : Int} {F0 : List Int} {σ : zS} {st : PS} {TT : List Int} (h : CPr X Y n SS pl pv F0 σ st TT) : cap σ := by
  obtain ⟨h1, h2, ⟨h3, h4, h5⟩, h6, h7, h8, h9, h10, h11⟩ := h
  exact ⟨⟨h2.2.2.2.2.1.1.2.2.1, h2.2.2.2.2.1.2.1⟩, ⟨h9.2.2.1, h10⟩, ⟨h5.1.1.1.2.2.1, h5.1.1.2.1⟩, h2.2.2.2.2.1.2.2⟩
theorem fail_ok {X Y : Int → Int} {n : Int} {SS : List Int} {pl pv : Int} {F0 : List Int} {β : Nat} {σ : zS} {st : PS} {TT : List Int} (h : CPr X Y n SS pl pv F0 σ st TT) {k q : Int} (hk : k ≠ 0) : ∃ τ, yE tC_Par_fail β σ [k, q] = some (τ, 0) ∧ CFa σ τ k q := by
  refine ⟨zI (zI σ 3100 k) 3101 q, ?_, ?_⟩
  · rw [yq_Par_fail, kY_Par_fail, lt_e, lt_e]
  · refine ⟨by simp [zI], zI_1, hk, (FrC_I).trans FrC_I, ?_, ?_⟩
    · exact h.2.2.2.2.1
    · exact h.cap
theorem refuse_ok {X Y : Int → Int} {n : Int} {SS : List Int} {pl pv : Int} {F0 : List Int} {β : Nat} (hβ : 1 ≤ β) {σ : zS} {st : PS} {TT : List Int} (h : CPr X Y n SS pl pv F0 σ st TT) : ∃ τ, yE tC_Par_refuse β σ [] = some (τ, 0) ∧ CFa σ τ 1 (tq X n st.1) := by
  obtain ⟨τ, h1, h2⟩ := fail_ok (β := β - 1) h (k := 1) (q := tq X n st.1) (by decide)
  refine ⟨τ, ?_, h2⟩
  rw [yq_Par_refuse, kY_Par_refuse, h.1.2.2.2.2.1, if_pos rfl, yq_Par_refuse_p16, kY_Par_refuse_p16, if_pos hβ, h.1.2.2.1, zbd_of h1]
/-- a cell of a TERM, then the next WORD -/
theorem putT {X Y : Int → Int} {n : Int} (hC : CTX X Y n) {SS : List Int} {pl pv : Int} {F0 : List Int} {β : Nat} (hβ : 2 ≤ β) {σ : zS} {st : PS} {TT : List Int} (h : CPr X Y n SS pl pv F0 σ st TT) (ht : tk X n st.1 ≠ 0) {x : Int} : zrok σ 1501 16 ∧ ∃ τ, yE tC_Wds_advance β (zAdd σ 1501 16 x) [] = some (τ, 0) ∧ CPr X Y n SS pl pv F0 τ (adv X n st) (TT ++ [x]) ∧ FrC [1501, 3202, 3203, 3204, 3205, 3206, 3207] [16] σ τ := by
  obtain ⟨h1, h2, ⟨h3, h4, h5⟩, h6, ⟨h7, h7'⟩, h8, h9, h10, h11⟩ := h
  have hp := h1.1
  obtain ⟨r1, r2, r3, r4, r5, r6⟩ := radd (x := x) (B := 100000) h9 h7 h7' (by omega) h10 (by omega)
  have hT := h1.f r3
  obtain ⟨τ, e1, e2, e3⟩ := hT.adv hC hβ
  have f3 := e3.c
  have ff : FrC [1501, 3202, 3203, 3204, 3205, 3206, 3207] [16] σ τ := (FrC.w r3).trans (FrC.w f3)
  refine ⟨r1, τ, e1, ⟨e2, h2.f ff, ⟨h3.f ff, by rw [ff.i 1403]; exact h4.f ff, h5.f ff⟩, ⟨fun v hv => h6.1 v hv, h6.2⟩, ⟨?_, ?_⟩, by rw [ff.i 3100]; exact h8, r2.f f3, ?_, ?_⟩, ff⟩
  · exact r4.m f3.2.2.2
  · exact r5.f f3
  · rw [f3.l 16]; exact r6
  · have := te_gt (T := X) ht hp.2.2.2.2.1
    have := tq_ge (T := X) (n := n) (p := st.1)
    rw [List.length_append]
    show ((TT.length + 1 : Nat) : Int) ≤ te X n st.1
    omega
/-- the next WORD -/
theorem CPr.adv {X Y : Int → Int} {n : Int} (hC : CTX X Y n) {SS : List Int} {pl pv : Int} {F0 : List Int} {β : Nat} (hβ : 2 ≤ β) {σ : zS} {st : PS} {TT : List Int} (h : CPr X Y n SS pl pv F0 σ st TT) : ∃ τ, yE tC_Wds_advance β σ [] = some (τ, 0) ∧ CPr X Y n SS pl pv F0 τ (adv X n st) TT ∧ FrC [3202, 3203, 3204, 3205, 3206, 3207] [] σ τ := by
  obtain ⟨h1, h2, ⟨h3, h4, h5⟩, h6, ⟨h7, h7'⟩, h8, h9, h10, h11⟩ := h
  obtain ⟨τ, e1, e2, e3⟩ := h1.adv hC hβ
  have f3 := e3.c
  have := te_ge (T := X) (n := n) (p := st.1)
  exact ⟨τ, e1, ⟨e2, h2.f f3, ⟨h3.f f3, by rw [f3.i 1403]; exact h4.f f3, h5.f f3⟩, ⟨fun v hv => h6.1 v hv, h6.2⟩, ⟨h7.m f3.2.2.2, h7'.f f3⟩, by rw [f3.i 3100]; exact h8, h9.f f3, by rw [f3.l 16]; exact h10, Int.le_trans h11 this⟩, f3⟩
theorem symS_nm {X : Int → Int} {n : Int} {st : PS} {a : PS × Int} (h : symS X n st = pOk a) : a.1.1 = st.1 ∧ a.1.2.2 = st.2.2 := by
  obtain ⟨_, h2, h3, _⟩ := symS_i h
  exact ⟨h2, h3⟩
theorem tname_ok {X Y : Int → Int} {n : Int} (hC : CTX X Y n) {SS : List Int} {pl pv : Int} {F0 : List Int} {β : Nat} (hβ : 3 ≤ β) {σ : zS} {st : PS} {TT : List Int} (h : CPr X Y n SS pl pv F0 σ st TT) :
    (tk X n st.1 ≠ 2 → ∃ τ, yE tG_Par_takeName β σ [] = some (τ, -1) ∧ CFa σ τ 1 (tq X n st.1)) ∧
    (tk X n st.1 = 2 → ∀ r, symS X n st = some r → (∀ e, r = .inl e → ∃ τ, yE tG_Par_takeName β σ [] = some (τ, -1) ∧ CFa σ τ e.1 e.2) ∧
      (∀ a, r = .inr a → ∃ τ, yE tG_Par_takeName β σ [] = some (τ, a.2) ∧ CPr X Y n SS pl pv F0 τ (adv X n a.1) (TT ++ [a.2]) ∧ FrC pIT pAT σ τ ∧ kV st.2.2.1.length σ τ ∧ 1 ≤ a.2 ∧ a.2 ≤ 250)) := by
  have hb : cK (tk X n st.1) = 2 ↔ tk X n st.1 = 2 := by
    constructor
    · intro hc; unfold cK at hc; omega
    · intro hc; rw [hc]; rfl
  constructor
  · intro hk
    obtain ⟨τ, e1, e2⟩ := refuse_ok (β := β - 1) (by omega) h
    refine ⟨τ, ?_, e2⟩
    rw [yq_Par_takeName, kY_Par_takeName, if_pos (by omega), zbd_of (isNow_ok h.1), b2_f (fun hc => hk (hb.mp hc)), if_pos rfl, if_pos (by omega), zbd_of e1]
  · intro hk r hr
    obtain ⟨n1, n2⟩ := cnumber_ok (β := β - 1) hC h.1 (Or.inl hk) h.2.1 h.2.2.2.2.1.1 h.2.2.2.2.1.2 hr
    constructor
    · intro e he
      obtain ⟨x1, x2⟩ := n1 e he
      obtain ⟨τ, e1, e2⟩ := fail_ok (β := β - 1) h (k := 3) (q := tq X n st.1) (by decide)
      rw [x1]
      refine ⟨τ, ?_, e2⟩
      rw [yq_Par_takeName, kY_Par_takeName, if_pos (by omega), zbd_of (isNow_ok h.1), b2_t (hb.mpr hk), if_neg (by decide), if_pos (by omega), zbd_of x2, if_pos rfl, if_pos (by omega), h.1.2.2.1, zbd_of e1]
    · intro a ha
      obtain ⟨τ, x2, x3, x4, x5, x6, x7, x8⟩ := n2 a ha
      subst ha
      obtain ⟨s1, s2⟩ := symS_nm hr
      obtain ⟨h1, h2, ⟨h3, h4, h5⟩, h6, ⟨h7, h7'⟩, h8, h9, h10, h11⟩ := h
      have hT : CPr X Y n SS pl pv F0 τ a.1 TT := by
        refine ⟨by rw [s1]; exact h1.f x4, x3, ?_, ?_, ⟨x5, x6⟩, by rw [x4.i 3100]; exact h8, h9.f x4, by rw [x4.l 16]; exact h10, by rw [s1]; exact h11⟩
        · rw [s2]; exact ⟨h3.f x4, by rw [x4.i 1403]; exact h4.f x4, h5.f x4⟩
        · unfold PV vOf at *; rw [s2]; exact h6
      obtain ⟨p1, ρ, p2, p3, p4⟩ := putT hC (β := β - 1) (by omega) hT (x := a.2) (by rw [s1, hk]; decide)
      refine ⟨ρ, ?_, p3, (FrC.w x4).trans (FrC.w p4), (kV.f x4).tr (kV.f p4) (Nat.le_refl _), x7, x8⟩
      rw [yq_Par_takeName, kY_Par_takeName, if_pos (by omega), zbd_of (isNow_ok h1), b2_t (hb.mpr hk), if_neg (by decide), if_pos (by omega), zbd_of x2, if_neg (by omega), if_pos p1, lt_e, if_pos (by omega), zbd_of p2]
theorem tvar_ok {X Y : Int → Int} {n : Int} (hC : CTX X Y n) {SS : List Int} {pl pv : Int} {F0 : List Int} {β : Nat} (hβ : 3 ≤ β) {σ : zS} {st : PS} {TT : List Int} (h : CPr X Y n SS pl pv F0 σ st TT) (hk : tk X n st.1 = 1) {r : (Int × Int) ⊕ (PS × Int)} (hr : varS X n st = some r) :
    (∀ e, r = .inl e → ∃ τ, yE tG_Par_takeVariable β σ [] = some (τ, 0) ∧ CFa σ τ e.1 e.2) ∧
    (∀ a, r = .inr a → ∃ τ, yE tG_Par_takeVariable β σ [] = some (τ, 0) ∧ CPr X Y n SS pl pv F0 τ (adv X n a.1) (TT ++ [-1 - a.2]) ∧ FrC pIT pAT σ τ ∧ kV st.2.2.1.length σ τ) := by
  have hT := h
  obtain ⟨h1, h2, ⟨h3, h4, h5⟩, h6, ⟨h7, h7'⟩, h8, h9, h10, h11⟩ := id h
  have hb3 := h3.2.1
  obtain ⟨n1, n2⟩ := cvar_ok (β := β - 1) (by omega) hC h1 hk h3 h4 h5 h6.1 (by omega) hr
  constructor
  · intro e he
    obtain ⟨x1, x2⟩ := n1 e he
    obtain ⟨τ, e1, e2⟩ := fail_ok (β := β - 1) h (k := 3) (q := tq X n st.1) (by decide)
    rw [x1]
    refine ⟨τ, ?_, e2⟩
    rw [yq_Par_takeVariable, kY_Par_takeVariable, if_pos (by omega), zbd_of x2, if_pos rfl, if_pos (by omega), h1.2.2.1, zbd_of e1]
  · intro a ha
    obtain ⟨τ, x2, x3, x4, x5, x6, x7, x8⟩ := n2 a ha
    subst ha
    obtain ⟨s1, s2, s3, s4⟩ := varS_i hr h1.1.2.2.2.2.2
    have hPV := h6.1.i s1 s3
    have s5 : a.1.2.1 = st.2.1 := by
      unfold varS at hr
      cases hv : vrF X (wd X (tq X n st.1) (te X n st.1)) st.2.2.1 st.2.2.2.1 with
      | some v => rw [hv] at hr; cases hr; rfl
      | none =>
        rw [hv] at hr
        dsimp only at hr
        cases hv2 : vrF X (wd X (tq X n st.1) (te X n st.1)) st.2.2.1 st.2.2.2.2 with
        | some v => rw [hv2] at hr; cases hr; rfl
        | none =>
          rw [hv2] at hr
          dsimp only at hr
          unfold bndS at hr
          by_cases hb : st.2.2.1.length = 300
          · rw [if_pos hb] at hr; cases hr
          · rw [if_neg hb] at hr; cases hr; rfl
    have hv0 : 0 ≤ a.2 := by
      rcases s4 with h | h
      · exact (h6.1 _ (Or.inl h)).1
      · exact (hPV _ (Or.inr h)).1
    have hbd := s1.bd
    have hP : CPr X Y n SS pl pv F0 τ a.1 TT := by
      refine ⟨by rw [s2]; exact h1.f x6, by rw [s5]; exact h2.f x6, ⟨x3, x4, x5⟩, ⟨hPV, by rw [s3]; omega⟩, ⟨?_, ?_⟩, by rw [x6.i 3100]; exact h8, h9.f x6, by rw [x6.l 16]; exact h10, by rw [s2]; exact h11⟩
      · exact h7.m x6.2.2.2
      · intro j hj; rw [x8]; exact h7' j hj
    obtain ⟨p1, ρ, p2, p3, p4⟩ := putT hC (β := β - 1) (by omega) hP (x := -1 - a.2) (by rw [s2, hk]; decide)
    refine ⟨ρ, ?_, p3, (FrC.w x6).trans (FrC.w p4), kV.tr x7 (kV.f p4) (Nat.le_refl _)⟩
    rw [yq_Par_takeVariable, kY_Par_takeVariable, if_pos (by omega), zbd_of x2, if_neg (by omega), if_pos p1, lt_e, if_pos (by omega), zbd_of p2]
theorem CNm.set {σ : zS} {nm : PN} {i : Nat} {x : List Int × Int × Int} (h : CNm σ nm) (hx : nm[i]? = some x) {is a : Int} : CNm (zA (zA σ 12 ((i : Int) + 1) is) 7 ((i : Int) + 1) a) (nm.set i (x.1, is, a)) := by
  obtain ⟨n1, n2, n3, n4, ⟨n5, n5'⟩, n6⟩ := h
  have hi := (List.getElem?_eq_some_iff.mp hx).1
  have hc : nmC (nm.set i (x.1, is, a)) = nmC nm := by
    rw [List.set_eq_take_append_cons_drop, if_pos hi]
    conv => rhs; rw [← List.take_append_drop i nm, List.drop_eq_getElem_cons hi]
    rw [nmC_app, nmC_app]
    have : nm[i] = x := (List.getElem?_eq_some_iff.mp hx).2
    rw [this]
    rfl
  have h70 : (zA (zA σ 12 ((i : Int) + 1) is) 7 ((i : Int) + 1) a).2.1 7 0 = 0 := by
    rw [zA_i (by omega), zA_o (by decide)]; exact n5'.2.1
  have h120 : (zA (zA σ 12 ((i : Int) + 1) is) 7 ((i : Int) + 1) a).2.1 12 0 = 1 := by
    rw [zA_o (by decide), zA_i (by omega)]; exact n5'.2.2
  refine ⟨by rw [List.length_set]; exact n1, by rw [List.length_set]; exact n2, ?_, by rw [List.length_set]; exact n4, ⟨?_, n5'.1, h70, h120⟩, fun j y hy => ?_⟩
  · intro y hy
    rcases List.mem_or_eq_of_mem_set hy with h | h
    · exact n3 y h
    · rw [h]; exact n3 x (List.mem_of_getElem? hx)
  · rw [hc]
    exact n5.q rfl (fun q => rfl) rfl
  · have ht : nmL ((nm.set i (x.1, is, a)).take j) = nmL (nm.take j) := by
      rw [← nmC_len, ← nmC_len]
      by_cases hij : i < j
      · congr 1
        rw [List.take_set, List.set_eq_take_append_cons_drop, if_pos (by rw [List.length_take]; omega), nmC_app]
        have hd : (nm.take j)[i]? = some x := by rw [List.getElem?_take_of_lt hij]; exact hx
        have hl : i < (nm.take j).length := (List.getElem?_eq_some_iff.mp hd).1
        conv => rhs; rw [← List.take_append_drop i (nm.take j), List.drop_eq_getElem_cons hl, nmC_app]
        rw [(List.getElem?_eq_some_iff.mp hd).2]
        rfl
      · rw [List.take_set_of_le (by omega)]
    rw [ht]
    by_cases hj : j = i
    · subst hj
      rw [List.getElem?_set_self hi] at hy
      cases hy
      obtain ⟨c1, c2, c3, c4⟩ := n6 j x hx
      exact ⟨c1, c2, by rw [zA_j, zA_s], fun _ => zA_s⟩
    · rw [List.getElem?_set_ne (by omega)] at hy
      obtain ⟨c1, c2, c3, c4⟩ := n6 j y hy
      refine ⟨c1, c2, ?_, fun h => ?_⟩
      · rw [zA_j, zA_q (by omega)]; exact c3
      · rw [zA_q (by omega), zA_j]; exact c4 h
theorem settle_ok {X Y : Int → Int} {n : Int} {SS : List Int} {pl pv : Int} {F0 : List Int} {β : Nat} (hβ : 2 ≤ β) {σ : zS} {st : PS} {TT : List Int} (h : CPr X Y n SS pl pv F0 σ st TT) {k is a q : Int} (k1 : 1 ≤ k) (k2 : k ≤ 250) (hi : is ≠ 0) {r : (Int × Int) ⊕ PS} (hr : chkS st k is a q = some r) :
    (∀ e, r = .inl e → ∃ τ, yE tC_Par_settle β σ [k, is, a, q] = some (τ, 0) ∧ CFa σ τ e.1 e.2) ∧
    (∀ s, r = .inr s → ∃ τ, yE tC_Par_settle β σ [k, is, a, q] = some (τ, 0) ∧ CPr X Y n SS pl pv F0 τ s TT ∧ FrC pIT pAT σ τ ∧ kV st.2.2.1.length σ τ) := by
  have hT := h
  obtain ⟨h1, h2, ⟨h3, h4, h5⟩, h6, ⟨h7, h7'⟩, h8, h9, h10, h11⟩ := id h
  unfold chkS at hr
  obtain ⟨i, hie⟩ : ∃ i : Nat, i = (k - 1).toNat := ⟨_, rfl⟩
  have hki : k = (i : Int) + 1 := by omega
  rw [← hie] at hr
  have k551 : zb k 551 := ⟨by omega, by omega⟩
  cases hx : st.2.1[i]? with
  | none => rw [hx] at hr; cases hr
  | some x =>
    rw [hx] at hr
    dsimp only at hr
    obtain ⟨c1, c2, c3, c4⟩ := h2.2.2.2.2.2 i x hx
    rw [← hki] at c3 c4
    by_cases d1 : x.2.1 = 0
    · rw [if_pos d1] at hr
      cases hr
      refine ⟨fun e he => (by cases he), fun s hs => ?_⟩
      cases hs
      obtain ⟨τ, hτ⟩ : ∃ t, t = zA (zA σ 12 k is) 7 k a := ⟨_, rfl⟩
      have ff : FrC [] [7, 12] σ τ := by rw [hτ]; exact FrC.trans FrC_A FrC_A
      have hn2 : CNm τ (st.2.1.set i (x.1, is, a)) := by rw [hτ, hki]; exact h2.set hx
      refine ⟨τ, ?_, ⟨h1.f ff, hn2, ⟨h3.f ff, by rw [ff.i 1403]; exact h4.f ff, h5.f ff⟩, ⟨fun v hv => h6.1 v hv, h6.2⟩, ⟨h7.m ff.2.2.2, h7'.f ff⟩, by rw [ff.i 3100]; exact h8, h9.f ff, by rw [ff.l 16]; exact h10, h11⟩, ff.w, kV.f ff⟩
      have hset : yE tC_Sym_settles (β - 1) σ [k, is, a] = some (τ, 1) := by
        rw [yq_Sym_settles, kY_Sym_settles, if_pos k551, c3, if_pos d1, lt_e, lt_e, ← hτ, yq_Sym_settles_p23, kY_Sym_settles_p23, if_pos k551]
        have e12 : τ.2.1 12 k = is := by rw [hτ, zA_j, zA_s]
        have e7 : τ.2.1 7 k = a := by rw [hτ, zA_s]
        rw [e12, if_pos rfl, e7, if_pos rfl, yq_Sym_settles_p48, kY_Sym_settles_p48, if_pos (Or.inr rfl)]
      rw [yq_Par_settle, kY_Par_settle, h8, if_pos rfl, if_pos (by omega), zbd_of hset, if_neg (by decide), yq_Par_settle_p27, kY_Par_settle_p27]
    · rw [if_neg d1] at hr
      by_cases d2 : x.2.1 = is ∧ x.2.2 = a
      · rw [if_pos d2] at hr
        cases hr
        refine ⟨fun e he => (by cases he), fun s hs => ?_⟩
        cases hs
        refine ⟨σ, ?_, hT, FrC.refl, kV.rf⟩
        have hset : yE tC_Sym_settles (β - 1) σ [k, is, a] = some (σ, 1) := by
          rw [yq_Sym_settles, kY_Sym_settles, if_pos k551, c3, if_neg d1, yq_Sym_settles_p23, kY_Sym_settles_p23, if_pos k551, c3, if_pos d2.1, c4 d1, if_pos d2.2, yq_Sym_settles_p48, kY_Sym_settles_p48, if_pos (Or.inr rfl)]
        rw [yq_Par_settle, kY_Par_settle, h8, if_pos rfl, if_pos (by omega), zbd_of hset, if_neg (by decide), yq_Par_settle_p27, kY_Par_settle_p27]
      · rw [if_neg d2] at hr
        cases hr
        refine ⟨fun e he => ?_, fun s hs => (by cases hs)⟩
        cases he
        have hset : yE tC_Sym_settles (β - 1) σ [k, is, a] = some (σ, 0) := by
          rw [yq_Sym_settles, kY_Sym_settles, if_pos k551, c3, if_neg d1, yq_Sym_settles_p23, kY_Sym_settles_p23, if_pos k551, c3, c4 d1]
          have e47 : yE tC_Sym_settles_p47 (β - 1) σ [k, is, a] = some (σ, 0) := by
            rw [yq_Sym_settles_p47, kY_Sym_settles_p47, yq_Sym_settles_p48, kY_Sym_settles_p48, if_pos (Or.inl rfl)]
          by_cases d3 : x.2.1 = is
          · rw [if_pos d3, if_neg (fun h => d2 ⟨d3, h⟩), e47]
          · rw [if_neg d3, e47]
        obtain ⟨τ, e1, e2⟩ := fail_ok (β := β - 1) hT (k := 2) (q := q) (by decide)
        refine ⟨τ, ?_, e2⟩
        rw [yq_Par_settle, kY_Par_settle, h8, if_pos rfl, if_pos (by omega), zbd_of hset, if_pos rfl, if_pos (by omega), zbd_of e1, yq_Par_settle_p27, kY_Par_settle_p27]
theorem CFa.pre {σ ρ τ : zS} {k q : Int} (f : FrC pIT pAT σ ρ) (h : CFa ρ τ k q) : CFa σ τ k q := ⟨h.1, h.2.1, h.2.2.1, f.trans h.2.2.2.1, h.2.2.2.2⟩
theorem cK_1 {k : Int} : cK k = 3 ↔ k = 1 := ⟨fun h => by unfold cK at h; omega, fun h => by rw [h]; rfl⟩
theorem cK_2 {k : Int} : cK k = 2 ↔ k = 2 := ⟨fun h => by unfold cK at h; omega, fun h => by rw [h]; rfl⟩
theorem cK_40 {k : Int} : cK k = 5 ↔ k = 40 := ⟨fun h => by unfold cK at h; omega, fun h => by rw [h]; rfl⟩
theorem cK_41 {k : Int} : cK k = 6 ↔ k = 41 := ⟨fun h => by unfold cK at h; omega, fun h => by rw [h]; rfl⟩
theorem cK_44 {k : Int} : cK k = 7 ↔ k = 44 := ⟨fun h => by unfold cK at h; omega, fun h => by rw [h]; rfl⟩
section TRM
variable (X Y : Int → Int) (n : Int) (SS : List Int) (pl pv : Int) (F0 : List Int)
def TsO (m : Nat) (d : Int) (st : PS) : Prop := ∀ r, sdS X n m true d st = some r → ∀ (β : Nat) (σ : zS) (st0 : PS) (TT : List Int) (j : Nat), 2 * (60 - d) + 9 ≤ (β : Int) → CPr X Y n SS pl pv F0 σ st0 TT → st = adv X n st0 → (j : Int) ≤ st0.1 → tk X n st0.1 ≠ 0 →
  (∀ e, r = .inl e → ∃ τ x, yE tG_Par_takeTerms_p27 β σ [d - 1, (j : Int), 1, (j : Int)] = some (τ, x) ∧ CFa σ τ e.1 e.2) ∧
  (∀ a, r = .inr a → ∃ τ, yE tG_Par_takeTerms_p27 β σ [d - 1, (j : Int), 1, (j : Int)] = some (τ, (j : Int) + (len a.2 : Int)) ∧ CPr X Y n SS pl pv F0 τ a.1 (TT ++ fl a.2) ∧ FrC pIT pAT σ τ ∧ kV st0.2.2.1.length σ τ)
def TmO (m : Nat) (d : Int) (st : PS) : Prop := ∀ r, sdS X n m false d st = some r → ∀ (β : Nat) (σ : zS) (TT : List Int), 2 * (60 - d) + 8 ≤ (β : Int) → CPr X Y n SS pl pv F0 σ st TT →
  (∀ e, r = .inl e → ∃ τ, yE tG_Par_takeTerm β σ [d] = some (τ, 0) ∧ CFa σ τ e.1 e.2) ∧
  (∀ a, r = .inr a → ∃ τ, yE tG_Par_takeTerm β σ [d] = some (τ, 0) ∧ CPr X Y n SS pl pv F0 τ a.1 (TT ++ fl a.2) ∧ FrC pIT pAT σ τ ∧ kV st.2.2.1.length σ τ)
end TRM
theorem ts_off {β : Nat} {σ : zS} {d x j : Int} (h : σ.1 3100 ≠ 0) : yE tG_Par_takeTerms_p27 β σ [d, x, 0, j] = some (σ, x) := by
  have e : yE tG_Par_takeTerms_p86 β σ [d, x, 0, j] = some (σ, x) := by
    rw [yq_Par_takeTerms_p86, kY_Par_takeTerms_p86, if_neg h, yq_Par_takeTerms_p119, kY_Par_takeTerms_p119]
  rw [yq_Par_takeTerms_p27, kY_Par_takeTerms_p27]
  by_cases hj : 1000000 ≤ j
  · rw [if_pos hj, e]
  · rw [if_neg hj, if_pos rfl, e]
theorem cts_of {X Y : Int → Int} {n : Int} (hC : CTX X Y n) {SS : List Int} {pl pv : Int} {F0 : List Int} {m : Nat} {d : Int} {st : PS} (d0 : 0 ≤ d) (d6 : d ≤ 60) (ih : d < 60 → TsO X Y n SS pl pv F0 m (d + 1) (adv X n st)) {r : (Int × Int) ⊕ (PS × T)} (hr : (if tk X n st.1 = 40 then pb (nstS X n d (adv X n st)) (fun d1 => sdS X n m true d1 (adv X n st)) else pOk (st, nl)) = some r) {β : Nat} {σ : zS} {TT : List Int} (hβ : 2 * (60 - d) + 7 ≤ (β : Int)) (h : CPr X Y n SS pl pv F0 σ st TT) :
    (∀ e, r = .inl e → ∃ τ x, yE tG_Par_takeTerms β σ [d] = some (τ, x) ∧ CFa σ τ e.1 e.2) ∧
    (∀ a, r = .inr a → ∃ τ, yE tG_Par_takeTerms β σ [d] = some (τ, (len a.2 : Int)) ∧ CPr X Y n SS pl pv F0 τ a.1 (TT ++ fl a.2) ∧ FrC pIT pAT σ τ ∧ kV st.2.2.1.length σ τ) := by
  have h8 := h.2.2.2.2.2.1
  have hp := h.1.1
  by_cases hk : tk X n st.1 = 40
  · rw [if_pos hk] at hr
    have e0 : yE tG_Par_takeTerms β σ [d] = yE tG_Par_takeTerms_p27 β σ [d, 0, 1, 0] := by
      rw [yq_Par_takeTerms, kY_Par_takeTerms, h8, if_pos rfl, if_pos (by omega), zbd_of (isNow_ok h.1), b2_t (cK_40.mpr hk), if_neg (by decide)]
    rw [e0]
    unfold nstS at hr
    by_cases hd : d = 60
    · rw [if_pos hd] at hr
      cases hr
      refine ⟨fun e he => ?_, fun a ha => (by cases ha)⟩
      cases he
      obtain ⟨σ1, a1, a2, a3⟩ := h.adv hC (β := β - 1) (by omega)
      obtain ⟨τ, f1, f2⟩ := fail_ok (β := β - 1 - 1) a2 (k := 3) (q := tq X n (adv X n st).1) (by decide)
      have et : yE tG_Par_takeTerm (β - 1) σ1 [d + 1] = some (τ, 0) := by
        rw [yq_Par_takeTerm, kY_Par_takeTerm, if_neg (by omega), if_pos (by omega), a2.1.2.2.1, zbd_of f1]
      have h3 : τ.1 3100 ≠ 0 := by rw [f2.1]; decide
      refine ⟨τ, 1, ?_, f2.pre a3.w⟩
      rw [yq_Par_takeTerms_p27, kY_Par_takeTerms_p27, if_neg (by decide), if_neg (by decide), if_pos (by omega), zbd_of a1, if_pos ⟨by omega, by omega⟩, if_pos (by omega), zbd_of et, if_neg h3, if_pos ⟨by decide, by decide⟩, yq_Par_takeTerms_p78, kY_Par_takeTerms_p78, yq_Par_takeTerms_p79, kY_Par_takeTerms_p79, if_pos ⟨by decide, by decide⟩]
      exact ts_off h3
    · rw [if_neg hd] at hr
      have hr : sdS X n m true (d + 1) (adv X n st) = some r := hr
      obtain ⟨i1, i2⟩ := ih (by omega) r hr β σ st TT 0 (by omega) h rfl (by omega) (by omega)
      have ed : d + 1 - 1 = d := by omega
      rw [ed] at i1 i2
      refine ⟨i1, fun a ha => ?_⟩
      obtain ⟨τ, t1, t2⟩ := i2 a ha
      refine ⟨τ, ?_, t2⟩
      rw [show ((0 : Nat) : Int) + (len a.2 : Int) = (len a.2 : Int) by omega] at t1
      exact t1
  · rw [if_neg hk] at hr
    cases hr
    refine ⟨fun e he => (by cases he), fun a ha => ?_⟩
    cases ha
    refine ⟨σ, ?_, by rw [show fl nl = [] from rfl, List.append_nil]; exact h, FrC.refl, kV.rf⟩
    rw [yq_Par_takeTerms, kY_Par_takeTerms, h8, if_pos rfl, if_pos (by omega), zbd_of (isNow_ok h.1), b2_f (fun hc => hk (cK_40.mp hc)), if_pos rfl, yq_Par_takeTerms_p18, kY_Par_takeTerms_p18]
    rfl
theorem sdS_bd {X : Int → Int} {n : Int} (hn : n ≤ 20000) {m : Nat} {b : Bool} {d : Int} {st : PS} {a : PS × T} (hV : PV st) (h : sdS X n m b d st = pOk a) : st.2.2.1.length ≤ a.1.2.2.1.length := (sdS_i hn m b d st a hV h).1.bd
theorem sdS_len {X : Int → Int} {n : Int} {m : Nat} {d : Int} {st : PS} {r : PS × T} (h1 : sdS X n m false d st = pOk r) : len r.2 = 1 := by
  match m, h1 with
  | 0, h1 => cases h1
  | m + 1, h1 =>
    unfold sdS at h1
    by_cases c1 : tk X n st.1 = 1
    · rw [if_pos c1] at h1
      obtain ⟨u, _, h3⟩ := pb_y h1
      cases h3; rfl
    · rw [if_neg c1] at h1
      by_cases c2 : tk X n st.1 = 2
      · rw [if_pos c2] at h1
        obtain ⟨u, _, h3⟩ := pb_y h1
        obtain ⟨w, _, h4⟩ := pb_y h3
        obtain ⟨y, _, h5⟩ := pb_y h4
        cases h5; rfl
      · rw [if_neg c2] at h1; cases h1
theorem ctm_all {X Y : Int → Int} {n : Int} (hC : CTX X Y n) {SS : List Int} {pl pv : Int} {F0 : List Int} : ∀ (m : Nat), (∀ d st, 0 ≤ d → d ≤ 60 → TmO X Y n SS pl pv F0 m d st) ∧ (∀ d st, 0 ≤ d → d ≤ 60 → TsO X Y n SS pl pv F0 m d st)
  | 0 => ⟨fun d st _ _ r hr => (by cases hr), fun d st _ _ r hr => (by cases hr)⟩
  | m + 1 => by
    obtain ⟨ih1, ih2⟩ := ctm_all hC (SS := SS) (pl := pl) (pv := pv) (F0 := F0) m
    constructor
    · intro d st d0 d6 r hr β σ TT hβ h
      have h8 := h.2.2.2.2.2.1
      unfold sdS at hr
      by_cases c1 : tk X n st.1 = 1
      · rw [if_pos c1] at hr
        have ex : yE tG_Par_takeTerm β σ [d] = zbd (yE tG_Par_takeVariable (β - 1) σ []) (fun σ5 _ => some (σ5, 0)) := by
          rw [yq_Par_takeTerm, kY_Par_takeTerm, if_pos d6, if_pos (by omega), zbd_of (isNow_ok h.1), b2_t (cK_1.mpr c1), if_neg (by decide), if_pos (by omega)]
        rw [ex]
        rcases pb_r hr with ⟨k, q, o1, rfl⟩ | ⟨a, o1, o2⟩
        · obtain ⟨i1, _⟩ := tvar_ok hC (β := β - 1) (by omega) h c1 o1
          obtain ⟨τ, t1, t2⟩ := i1 _ rfl
          refine ⟨fun e he => ?_, fun a ha => (by cases ha)⟩
          cases he
          exact ⟨τ, by rw [zbd_of t1], t2⟩
        · cases o2
          obtain ⟨_, i2⟩ := tvar_ok hC (β := β - 1) (by omega) h c1 o1
          obtain ⟨τ, t1, t2, t3, t4⟩ := i2 _ rfl
          refine ⟨fun e he => (by cases he), fun b hb => ?_⟩
          cases hb
          refine ⟨τ, by rw [zbd_of t1], ?_, t3, t4⟩
          have : fl (nd (cu (-1 - a.2)) nl nl) = [-1 - a.2] := by
            show cl (cu (-1 - a.2)) :: ([] ++ []) = _
            rw [cl_cu]; rfl
          rw [this]
          exact t2
      · rw [if_neg c1] at hr
        obtain ⟨nm1, nm2⟩ := tname_ok hC (β := β - 1) (by omega) h
        have ex : yE tG_Par_takeTerm β σ [d] = zbd (yE tG_Par_takeName (β - 1) σ []) (fun σ2 r2 => zbd (yE tG_Par_takeTerms (β - 1) σ2 [d]) (fun σ3 r3 => zbd (yE tC_Par_settle (β - 1) σ3 [r2, 2, r3, tq X n st.1]) (fun σ4 _ => some (σ4, 0)))) := by
          rw [yq_Par_takeTerm, kY_Par_takeTerm, if_pos d6, if_pos (by omega), zbd_of (isNow_ok h.1), b2_f (fun hc => c1 (cK_1.mp hc)), if_pos rfl, if_pos (by omega), h.1.2.2.1]
          congr 1
          funext σ2 r2
          rw [if_pos (by omega)]
          congr 1
          funext σ3 r3
          rw [if_pos (by omega)]
        have off : ∀ {ρ : zS} {x y : Int}, ρ.1 3100 ≠ 0 → zbd (yE tC_Par_settle (β - 1) ρ [x, 2, y, tq X n st.1]) (fun σ4 _ => some (σ4, 0)) = some (ρ, 0) := fun {ρ x y} h3 => by
          have : yE tC_Par_settle (β - 1) ρ [x, 2, y, tq X n st.1] = some (ρ, 0) := by rw [yq_Par_settle, kY_Par_settle, if_neg h3, yq_Par_settle_p27, kY_Par_settle_p27]
          rw [zbd_of this]
        have off2 : ∀ {ρ : zS} {x : Int}, ρ.1 3100 ≠ 0 → zbd (yE tG_Par_takeTerms (β - 1) ρ [d]) (fun σ3 r3 => zbd (yE tC_Par_settle (β - 1) σ3 [x, 2, r3, tq X n st.1]) (fun σ4 _ => some (σ4, 0))) = some (ρ, 0) := fun {ρ x} h3 => by
          have : yE tG_Par_takeTerms (β - 1) ρ [d] = some (ρ, 0) := by rw [yq_Par_takeTerms, kY_Par_takeTerms, if_neg h3, yq_Par_takeTerms_p18, kY_Par_takeTerms_p18]
          rw [zbd_of this, off h3]
        rw [ex]
        by_cases c2 : tk X n st.1 = 2
        · rw [if_pos c2] at hr
          rcases pb_r hr with ⟨k, q, o1, rfl⟩ | ⟨a, o1, o2⟩
          · obtain ⟨i1, _⟩ := nm2 c2 _ o1
            obtain ⟨τ, t1, t2⟩ := i1 _ rfl
            refine ⟨fun e he => ?_, fun a ha => (by cases ha)⟩
            cases he
            exact ⟨τ, by rw [zbd_of t1, off2 (by rw [t2.1]; exact t2.2.2.1)], t2⟩
          · obtain ⟨_, i2⟩ := nm2 c2 _ o1
            obtain ⟨σ2, t1, t2, t3, t4, t5, t6⟩ := i2 _ rfl
            rw [zbd_of t1]
            obtain ⟨s1, s2⟩ := symS_nm o1
            have hbd2 : (adv X n a.1).2.2.1.length = st.2.2.1.length := by show a.1.2.2.1.length = _; rw [s2]
            rcases pb_r o2 with ⟨k, q, u1, rfl⟩ | ⟨u, u1, u2⟩
            · obtain ⟨j1, _⟩ := cts_of hC (β := β - 1) d0 d6 (fun hd => ih2 (d + 1) _ (by omega) (by omega)) u1 (by omega) t2
              obtain ⟨τ, x, v1, v2⟩ := j1 _ rfl
              refine ⟨fun e he => ?_, fun a ha => (by cases ha)⟩
              cases he
              exact ⟨τ, by rw [zbd_of v1, off (by rw [v2.1]; exact v2.2.2.1)], v2.pre t3⟩
            · obtain ⟨_, j2⟩ := cts_of hC (β := β - 1) d0 d6 (fun hd => ih2 (d + 1) _ (by omega) (by omega)) u1 (by omega) t2
              obtain ⟨σ3, v1, v2, v3, v4⟩ := j2 _ rfl
              rw [zbd_of v1]
              have hle : st.2.2.1.length ≤ u.1.2.2.1.length := by
                rw [← hbd2]
                by_cases c40 : tk X n (adv X n a.1).1 = 40
                · rw [if_pos c40] at u1
                  obtain ⟨d1, w1, w2⟩ := pb_y u1
                  exact sdS_bd (st := adv X n (adv X n a.1)) t2.1.1.2.2.2.2.2 (by exact t2.2.2.2.1.1) w2
                · rw [if_neg c40] at u1
                  cases u1
                  exact Nat.le_refl _
              rw [hbd2] at v4
              rcases pb_r u2 with ⟨k, q, w1, rfl⟩ | ⟨s4, w1, w2⟩
              · obtain ⟨l1, _⟩ := settle_ok (β := β - 1) (by omega) v2 t5 t6 (by decide) w1
                obtain ⟨τ, m1, m2⟩ := l1 _ rfl
                refine ⟨fun e he => ?_, fun a ha => (by cases ha)⟩
                cases he
                exact ⟨τ, by rw [zbd_of m1], (m2.pre v3).pre t3⟩
              · cases w2
                obtain ⟨_, l2⟩ := settle_ok (β := β - 1) (by omega) v2 t5 t6 (by decide) w1
                obtain ⟨τ, m1, m2, m3, m4⟩ := l2 _ rfl
                refine ⟨fun e he => (by cases he), fun b hb => ?_⟩
                cases hb
                refine ⟨τ, by rw [zbd_of m1], ?_, (t3.trans v3).trans m3, (t4.tr v4 (Nat.le_refl _)).tr m4 hle⟩
                have : TT ++ fl (nd (cu a.2) u.2 nl) = TT ++ [a.2] ++ fl u.2 := by
                  show TT ++ (cl (cu a.2) :: (fl u.2 ++ [])) = _
                  rw [cl_cu]; simp
                rw [this]
                exact m2
        · rw [if_neg c2] at hr
          cases hr
          obtain ⟨τ, t1, t2⟩ := nm1 c2
          refine ⟨fun e he => ?_, fun a ha => (by cases ha)⟩
          cases he
          exact ⟨τ, by rw [zbd_of t1, off2 (by rw [t2.1]; exact t2.2.2.1)], t2⟩
    · intro d st d0 d6 r hr β σ st0 TT j hβ h hst hj hk0
      unfold sdS at hr
      subst hst
      have hp := h.1.1
      obtain ⟨σ1, a1, a2, a3⟩ := h.adv hC (β := β - 1) (by omega)
      have hte := te_gt (T := X) hk0 hp.2.2.2.2.1
      have htq := tq_ge (T := X) (n := n) (p := st0.1)
      have ex : yE tG_Par_takeTerms_p27 β σ [d - 1, (j : Int), 1, (j : Int)] = zbd (yE tG_Par_takeTerm (β - 1) σ1 [d]) (fun σ2 _ => if (σ2.1 3100) = 0 then (zbd (yE tC_Wds_isNow (β - 1) σ2 [7]) (fun σ3 r3 => if r3 = 0 then yE tG_Par_takeTerms_p78 β σ3 [d - 1, (j : Int) + 1, 1, (j : Int)] else yE tG_Par_takeTerms_p79 β σ3 [d - 1, (j : Int) + 1, 1, (j : Int), 1])) else yE tG_Par_takeTerms_p78 β σ2 [d - 1, (j : Int) + 1, 1, (j : Int)]) := by
        rw [yq_Par_takeTerms_p27, kY_Par_takeTerms_p27, if_neg (by omega), if_neg (by decide), if_pos (by omega), zbd_of a1, show d - 1 + 1 = d by omega, if_pos ⟨by omega, by omega⟩, if_pos (by omega)]
        refine congrArg (zbd _) ?_
        funext σ2 r2
        have hz : zr ((j : Int) + 1) := ⟨by omega, by omega⟩
        by_cases h0 : σ2.1 3100 = 0
        · rw [if_pos h0, if_pos h0, if_pos (by omega)]
          refine congrArg (zbd _) ?_
          funext σ3 r3
          rw [if_pos hz, if_pos hz]
        · rw [if_neg h0, if_neg h0, if_pos hz]
      have e78 : ∀ ρ : zS, yE tG_Par_takeTerms_p78 β ρ [d - 1, (j : Int) + 1, 1, (j : Int)] = yE tG_Par_takeTerms_p27 β ρ [d - 1, (j : Int) + 1, 0, (j : Int) + 1] := fun ρ => by
        rw [yq_Par_takeTerms_p78, kY_Par_takeTerms_p78, yq_Par_takeTerms_p79, kY_Par_takeTerms_p79, if_pos ⟨by omega, by omega⟩]
      rw [ex]
      rcases pb_r hr with ⟨k, q, o1, rfl⟩ | ⟨a, o1, o2⟩
      · obtain ⟨i1, _⟩ := ih1 d _ d0 d6 _ o1 (β - 1) σ1 TT (by omega) a2
        obtain ⟨τ, t1, t2⟩ := i1 _ rfl
        refine ⟨fun e he => ?_, fun a ha => (by cases ha)⟩
        cases he
        have h3 : τ.1 3100 ≠ 0 := by rw [t2.1]; exact t2.2.2.1
        exact ⟨τ, _, by rw [zbd_of t1, if_neg h3, e78, ts_off h3], t2.pre a3.w⟩
      · obtain ⟨_, i2⟩ := ih1 d _ d0 d6 _ o1 (β - 1) σ1 TT (by omega) a2
        obtain ⟨σ2, t1, t2, t3, t4⟩ := i2 _ rfl
        have h3 : σ2.1 3100 = 0 := t2.2.2.2.2.2.1
        have hle : st0.2.2.1.length ≤ a.1.2.2.1.length := sdS_bd (st := adv X n st0) hp.2.2.2.2.2 (by exact a2.2.2.2.1.1) o1
        have hpos := (sdS_i hp.2.2.2.2.2 m false d _ a (by exact a2.2.2.2.1.1) o1).1.1
        have hpos : te X n st0.1 ≤ a.1.1 := hpos
        have k4 : kV st0.2.2.1.length σ σ2 := (kV.f a3).tr t4 (Nat.le_refl _)
        have hl1 : len a.2 = 1 := sdS_len o1
        rw [zbd_of t1, if_pos h3, zbd_of (isNow_ok t2.1)]
        by_cases c44 : tk X n a.1.1 = 44
        · rw [if_pos c44] at o2
          rw [b2_t (cK_44.mpr c44), if_neg (by decide)]
          have e79 : yE tG_Par_takeTerms_p79 β σ2 [d - 1, (j : Int) + 1, 1, (j : Int), 1] = yE tG_Par_takeTerms_p27 β σ2 [d - 1, ((j + 1 : Nat) : Int), 1, ((j + 1 : Nat) : Int)] := by
            rw [yq_Par_takeTerms_p79, kY_Par_takeTerms_p79, if_pos ⟨by omega, by omega⟩, show ((j + 1 : Nat) : Int) = (j : Int) + 1 by omega]
          rw [e79]
          rcases pb_r o2 with ⟨k, q, u1, rfl⟩ | ⟨u, u1, u2⟩
          · obtain ⟨j1, _⟩ := ih2 d _ d0 d6 _ u1 β σ2 a.1 _ (j + 1) hβ t2 rfl (by omega) (by omega)
            obtain ⟨τ, x, v1, v2⟩ := j1 _ rfl
            refine ⟨fun e he => ?_, fun a ha => (by cases ha)⟩
            cases he
            exact ⟨τ, x, v1, (v2.pre t3).pre a3.w⟩
          · cases u2
            obtain ⟨_, j2⟩ := ih2 d _ d0 d6 _ u1 β σ2 a.1 _ (j + 1) hβ t2 rfl (by omega) (by omega)
            obtain ⟨τ, v1, v2, v3, v4⟩ := j2 _ rfl
            refine ⟨fun e he => (by cases he), fun b hb => ?_⟩
            cases hb
            refine ⟨τ, ?_, ?_, ((FrC.w a3).trans t3).trans v3, k4.tr v4 hle⟩
            · rw [v1]
              show some (τ, ((j + 1 : Nat) : Int) + (len u.2 : Int)) = some (τ, (j : Int) + (len (cat a.2 u.2) : Int))
              rw [len_cat, hl1]
              congr 2
              omega
            · show CPr X Y n SS pl pv F0 τ u.1 (TT ++ fl (cat a.2 u.2))
              rw [fl_cat, ← List.append_assoc]
              exact v2
        · rw [if_neg c44] at o2
          rw [b2_f (fun hc => c44 (cK_44.mp hc)), if_pos rfl, e78]
          have e27 : yE tG_Par_takeTerms_p27 β σ2 [d - 1, (j : Int) + 1, 0, (j : Int) + 1] = yE tG_Par_takeTerms_p86 β σ2 [d - 1, (j : Int) + 1, 0, (j : Int) + 1] := by
            rw [yq_Par_takeTerms_p27, kY_Par_takeTerms_p27, if_neg (by omega), if_pos rfl]
          rw [e27, yq_Par_takeTerms_p86, kY_Par_takeTerms_p86, if_pos h3, if_pos (by omega), zbd_of (isNow_ok t2.1)]
          by_cases c41 : tk X n a.1.1 = 41
          · rw [if_pos c41] at o2
            cases o2
            obtain ⟨τ, b1, b2, b3⟩ := t2.adv hC (β := β - 1) (by omega)
            rw [b2_t (cK_41.mpr c41), if_neg (by decide), if_pos (by omega), zbd_of b1, yq_Par_takeTerms_p119, kY_Par_takeTerms_p119]
            refine ⟨fun e he => (by cases he), fun b hb => ?_⟩
            cases hb
            refine ⟨τ, ?_, b2, ((FrC.w a3).trans t3).trans (FrC.w b3), k4.tr (kV.f b3) (Nat.le_refl _)⟩
            show some (τ, (j : Int) + 1) = some (τ, (j : Int) + (len a.2 : Int))
            rw [hl1]; rfl
          · rw [if_neg c41] at o2
            cases o2
            obtain ⟨τ, b1, b2⟩ := refuse_ok (β := β - 1) (by omega) t2
            rw [b2_f (fun hc => c41 (cK_41.mp hc)), if_pos rfl, if_pos (by omega), zbd_of b1, yq_Par_takeTerms_p119, kY_Par_takeTerms_p119]
            refine ⟨fun e he => ?_, fun a ha => (by cases ha)⟩
            cases he
            exact ⟨τ, _, rfl, (b2.pre t3).pre a3.w⟩
