/-! how the reference holds what it has read -/
def nmL : PN → Nat
  | [] => 0
  | x :: L => x.1.length + nmL L
theorem nmL_app (A B : PN) : nmL (A ++ B) = nmL A + nmL B := by
  induction A with
  | nil => simp [nmL]
  | cons x A ih => simp only [List.cons_append, nmL, ih]; omega
theorem nmL_le {nm : PN} (h : ∀ x ∈ nm, x.1.length ≤ 31) : nmL nm ≤ 31 * nm.length := by
  induction nm with
  | nil => simp [nmL]
  | cons x L ih =>
    have h1 := h x List.mem_cons_self
    have h2 := ih (fun y hy => h y (List.mem_cons_of_mem _ hy))
    simp only [nmL, List.length_cons]; omega
theorem nmL_take_le (nm : PN) (i : Nat) : nmL (nm.take i) ≤ nmL nm := by
  have := nmL_app (nm.take i) (nm.drop i)
  rw [List.take_append_drop] at this
  omega
def RNm (σ : zS) (nm : PN) : Prop := σ.1 20 = (nm.length : Int) ∧ nm.length ≤ 250 ∧ (∀ x ∈ nm, x.1.length ≤ 31) ∧ σ.1 18 = (nmL nm : Int) ∧ ∀ (i : Nat) x, nm[i]? = some x → σ.2.1 14 ((i : Int) + 1) = (x.1.length : Int) ∧ σ.2.1 13 ((i : Int) + 1) = (nmL (nm.take i) : Int) ∧ (∀ (j : Nat) c, x.1[j]? = some c → σ.2.1 17 ((nmL (nm.take i) : Int) + (j : Int)) = c) ∧ σ.2.1 16 ((i : Int) + 1) = x.2.1 ∧ (x.2.1 ≠ 0 → σ.2.1 15 ((i : Int) + 1) = x.2.2)
def RBd (n : Int) (σ : zS) (bd : List (Int × Int)) : Prop := σ.1 25 = (bd.length : Int) ∧ bd.length ≤ 300 ∧ ∀ (v : Nat) x, bd[v]? = some x → σ.2.1 21 (v : Int) = x.1 ∧ σ.2.1 22 (v : Int) = x.2 ∧ σ.2.1 24 (v : Int) = 0 ∧ 0 ≤ x.1 ∧ 0 ≤ x.2 ∧ x.1 + x.2 ≤ n
def RSc (σ : zS) (b : Nat) (sc : List Int) : Prop := σ.1 28 = (sc.length : Int) ∧ ∀ (i : Nat) v, sc[i]? = some v → σ.2.1 26 ((sc.length : Int) - 1 - (i : Int)) = v ∧ 0 ≤ v ∧ v < (b : Int)
def RFr (σ : zS) (b : Nat) (fr : List Int) : Prop := σ.1 29 = (fr.length : Int) ∧ ∀ (i : Nat) v, fr[i]? = some v → σ.2.1 27 (i : Int) = v ∧ 0 ≤ v ∧ v < (b : Int)
/-- FORMULAS, TERMS and PREDICATES made: no more than bytes read -/
def RCt (σ : zS) (p : Int) : Prop := 0 ≤ σ.1 37 ∧ σ.1 37 ≤ p ∧ 0 ≤ σ.1 38 ∧ σ.1 38 ≤ p ∧ 0 ≤ σ.1 40 ∧ σ.1 40 ≤ p
def RPE (n : Int) (σ : zS) (st : PS) (s : Int) : Prop := RNm σ st.2.1 ∧ RBd n σ st.2.2.1 ∧ RSc σ st.2.2.1.length st.2.2.2.1 ∧ RFr σ st.2.2.1.length st.2.2.2.2 ∧ st.2.2.2.1.length + st.2.2.2.2.length ≤ st.2.2.1.length ∧ RCt σ (st.1 - s)
def RP (X : Int → Int) (n : Int) (σ : zS) (st : PS) (s : Int) : Prop := TkA X n σ st.1 ∧ RPE n σ st s
abbrev pI (j : Nat) : Prop := (7 ≤ j ∧ j ≤ 12) ∨ j = 18 ∨ j = 20 ∨ j = 25 ∨ j = 28 ∨ j = 29 ∨ (37 ≤ j ∧ j ≤ 40) ∨ 3000 ≤ j
abbrev pA (a : Nat) : Prop := (13 ≤ a ∧ a ≤ 17) ∨ a = 21 ∨ a = 22 ∨ a = 24 ∨ a = 26 ∨ a = 27 ∨ (30 ≤ a ∧ a ≤ 36) ∨ a = 41 ∨ a = 42
/-- what reading may change -/
def FrP (σ τ : zS) : Prop := (∀ j, ¬ pI j → τ.1 j = σ.1 j) ∧ (∀ a, ¬ pA a → τ.2.1 a = σ.2.1 a) ∧ τ.2.2 = σ.2.2
theorem FrP.rf {σ : zS} : FrP σ σ := ⟨fun _ _ => rfl, fun _ _ => rfl, rfl⟩
theorem FrP.tr {σ τ ρ : zS} (h : FrP σ τ) (h2 : FrP τ ρ) : FrP σ ρ := ⟨fun j hj => (h2.1 j hj).trans (h.1 j hj), fun a ha => (h2.2.1 a ha).trans (h.2.1 a ha), h2.2.2.trans h.2.2⟩
theorem FrT.p {σ τ : zS} (h : FrT σ τ) : FrP σ τ := ⟨fun j hj => h.2 j (fun q => hj (Or.inl q)), fun a _ => by rw [h.1], by rw [h.1]⟩
theorem FrP.i {σ : zS} {j : Nat} {x : Int} (h : pI j := by decide) : FrP σ (zI σ j x) := ⟨fun k hk => zI_o (fun e => hk (e ▸ h)), fun _ _ => rfl, rfl⟩
theorem zA_q {σ : zS} {a : Nat} {i j x : Int} (h : j ≠ i) : (zA σ a i x).2.1 a j = σ.2.1 a j := zA_i h
theorem zA_o {σ : zS} {a b : Nat} {i x : Int} (h : b ≠ a := by decide) : (zA σ a i x).2.1 b = σ.2.1 b := by funext j; simp [zA, h]
theorem FrP.a {σ : zS} {b : Nat} {i x : Int} (h : pA b := by decide) : FrP σ (zA σ b i x) := ⟨fun _ _ => rfl, fun c hc => zA_o (fun e => hc (e ▸ h)), rfl⟩
/-- FORMULAS and TERMS that are there stay -/
def EX (σ τ : zS) : Prop := (σ.1 37 ≤ τ.1 37 ∧ σ.1 38 ≤ τ.1 38 ∧ σ.1 40 ≤ τ.1 40) ∧ (∀ i : Int, 0 ≤ i → i < σ.1 38 → τ.2.1 34 i = σ.2.1 34 i ∧ τ.2.1 35 i = σ.2.1 35 i ∧ τ.2.1 36 i = σ.2.1 36 i) ∧ (∀ i : Int, 0 ≤ i → i < σ.1 37 → τ.2.1 30 i = σ.2.1 30 i ∧ τ.2.1 31 i = σ.2.1 31 i ∧ τ.2.1 32 i = σ.2.1 32 i ∧ τ.2.1 33 i = σ.2.1 33 i) ∧ (∀ i : Int, 0 ≤ i → i < σ.1 40 → τ.2.1 41 i = σ.2.1 41 i ∧ τ.2.1 42 i = σ.2.1 42 i)
theorem EX.rf {σ : zS} : EX σ σ := ⟨⟨Int.le_refl _, Int.le_refl _, Int.le_refl _⟩, fun _ _ _ => ⟨rfl, rfl, rfl⟩, fun _ _ _ => ⟨rfl, rfl, rfl, rfl⟩, fun _ _ _ => ⟨rfl, rfl⟩⟩
theorem EX.tr {σ τ ρ : zS} (h : EX σ τ) (h2 : EX τ ρ) : EX σ ρ := by
  obtain ⟨⟨a1, a2, a3⟩, b, c, d⟩ := h
  obtain ⟨⟨e1, e2, e3⟩, f, g, k⟩ := h2
  refine ⟨⟨by omega, by omega, by omega⟩, fun i i0 i1 => ?_, fun i i0 i1 => ?_, fun i i0 i1 => ?_⟩
  · obtain ⟨p1, p2, p3⟩ := b i i0 i1
    obtain ⟨q1, q2, q3⟩ := f i i0 (by omega)
    exact ⟨q1.trans p1, q2.trans p2, q3.trans p3⟩
  · obtain ⟨p1, p2, p3, p4⟩ := c i i0 i1
    obtain ⟨q1, q2, q3, q4⟩ := g i i0 (by omega)
    exact ⟨q1.trans p1, q2.trans p2, q3.trans p3, q4.trans p4⟩
  · obtain ⟨p1, p2⟩ := d i i0 i1
    obtain ⟨q1, q2⟩ := k i i0 (by omega)
    exact ⟨q1.trans p1, q2.trans p2⟩
/-- no FORMULA, no TERM changes -/
theorem EX.of {σ τ : zS} (hi : τ.1 37 = σ.1 37 ∧ τ.1 38 = σ.1 38 ∧ τ.1 40 = σ.1 40) (ha : ∀ a, (30 ≤ a ∧ a ≤ 36) ∨ a = 41 ∨ a = 42 → τ.2.1 a = σ.2.1 a) : EX σ τ := by
  refine ⟨⟨by omega, by omega, by omega⟩, fun i _ _ => ?_, fun i _ _ => ?_, fun i _ _ => ?_⟩
  · rw [ha 34 (by omega), ha 35 (by omega), ha 36 (by omega)]; exact ⟨rfl, rfl, rfl⟩
  · rw [ha 30 (by omega), ha 31 (by omega), ha 32 (by omega), ha 33 (by omega)]; exact ⟨rfl, rfl, rfl, rfl⟩
  · rw [ha 41 (by omega), ha 42 (by omega)]; exact ⟨rfl, rfl⟩
theorem FrT.x {σ τ : zS} (h : FrT σ τ) : EX σ τ := EX.of ⟨h.2 37 (by omega), h.2 38 (by omega), h.2 40 (by omega)⟩ (fun a _ => by rw [h.1])
theorem RNm.c {σ τ : zS} {nm : PN} (h : RNm σ nm) (hi : τ.1 20 = σ.1 20 ∧ τ.1 18 = σ.1 18) (ha : ∀ a, 13 ≤ a ∧ a ≤ 17 → τ.2.1 a = σ.2.1 a) : RNm τ nm := by
  obtain ⟨h1, h2, h3, h4, h5⟩ := h
  refine ⟨by rw [hi.1]; exact h1, h2, h3, by rw [hi.2]; exact h4, fun i x hx => ?_⟩
  rw [ha 14 (by omega), ha 13 (by omega), ha 17 (by omega), ha 16 (by omega), ha 15 (by omega)]
  exact h5 i x hx
theorem RBd.c {n : Int} {σ τ : zS} {bd : List (Int × Int)} (h : RBd n σ bd) (hi : τ.1 25 = σ.1 25) (ha : τ.2.1 21 = σ.2.1 21 ∧ τ.2.1 22 = σ.2.1 22 ∧ τ.2.1 24 = σ.2.1 24) : RBd n τ bd := by
  obtain ⟨h1, h2, h3⟩ := h
  refine ⟨by rw [hi]; exact h1, h2, fun v x hx => ?_⟩
  rw [ha.1, ha.2.1, ha.2.2]
  exact h3 v x hx
theorem RSc.c {σ τ : zS} {b b2 : Nat} {sc : List Int} (h : RSc σ b sc) (hb : b ≤ b2) (hi : τ.1 28 = σ.1 28) (ha : τ.2.1 26 = σ.2.1 26) : RSc τ b2 sc := by
  obtain ⟨h1, h2⟩ := h
  refine ⟨by rw [hi]; exact h1, fun i v hv => ?_⟩
  rw [ha]
  obtain ⟨q1, q2, q3⟩ := h2 i v hv
  exact ⟨q1, q2, by omega⟩
theorem RFr.c {σ τ : zS} {b b2 : Nat} {fr : List Int} (h : RFr σ b fr) (hb : b ≤ b2) (hi : τ.1 29 = σ.1 29) (ha : τ.2.1 27 = σ.2.1 27) : RFr τ b2 fr := by
  obtain ⟨h1, h2⟩ := h
  refine ⟨by rw [hi]; exact h1, fun i v hv => ?_⟩
  rw [ha]
  obtain ⟨q1, q2, q3⟩ := h2 i v hv
  exact ⟨q1, q2, by omega⟩
theorem RCt.c {σ τ : zS} {p q : Int} (h : RCt σ p) (hp : p ≤ q) (hi : τ.1 37 = σ.1 37 ∧ τ.1 38 = σ.1 38 ∧ τ.1 40 = σ.1 40) : RCt τ q := by
  obtain ⟨a1, a2, a3, a4, a5, a6⟩ := h
  unfold RCt
  rw [hi.1, hi.2.1, hi.2.2]
  exact ⟨a1, by omega, a3, by omega, a5, by omega⟩
/-- the same arrays, the same ints but those of the WORD: another position -/
theorem RPE.t {n : Int} {σ τ : zS} {st : PS} {s p : Int} (h : RPE n σ st s) (hF : FrT σ τ) (hp : st.1 ≤ p) : RPE n τ (p, st.2) s := by
  obtain ⟨h1, h2, h3, h4, h5, h6⟩ := h
  have e : τ.2.1 = σ.2.1 := by rw [hF.1]
  refine ⟨h1.c ⟨hF.2 _ (by omega), hF.2 _ (by omega)⟩ (fun a _ => by rw [e]), h2.c (hF.2 _ (by omega)) ⟨by rw [e], by rw [e], by rw [e]⟩, h3.c (Nat.le_refl _) (hF.2 _ (by omega)) (by rw [e]), h4.c (Nat.le_refl _) (hF.2 _ (by omega)) (by rw [e]), h5, h6.c (by show st.1 - s ≤ p - s; omega) ⟨hF.2 _ (by omega), hF.2 _ (by omega), hF.2 _ (by omega)⟩⟩
theorem RPE.f {n : Int} {σ : zS} {st : PS} {s : Int} {k : Nat} {x : Int} (h : RPE n σ st s) (hk : 3000 ≤ k) : RPE n (zI σ k x) st s := by
  obtain ⟨h1, h2, h3, h4, h5, h6⟩ := h
  exact ⟨h1.c ⟨zI_o (by omega), zI_o (by omega)⟩ (fun a _ => rfl), h2.c (zI_o (by omega)) ⟨rfl, rfl, rfl⟩, h3.c (Nat.le_refl _) (zI_o (by omega)) rfl, h4.c (Nat.le_refl _) (zI_o (by omega)) rfl, h5, h6.c (Int.le_refl _) ⟨zI_o (by omega), zI_o (by omega), zI_o (by omega)⟩⟩
theorem TkA.c {X : Int → Int} {n : Int} {σ τ : zS} {p : Int} (h : TkA X n σ p) (hi : ∀ j, j = 2 ∨ (7 ≤ j ∧ j ≤ 12) → τ.1 j = σ.1 j) (ha : τ.2.1 0 = σ.2.1 0) : TkA X n τ p := by
  obtain ⟨⟨h1, h2, h3⟩, h4⟩ := h
  refine ⟨⟨by rw [ha]; exact h1, by rw [hi 2 (by omega)]; exact h2, h3⟩, ?_⟩
  unfold TkU TkS at h4 ⊢
  rw [hi 7 (by omega), hi 8 (by omega), hi 9 (by omega), hi 10 (by omega), hi 11 (by omega), hi 12 (by omega)]
  exact h4
theorem TkS.c {X : Int → Int} {n : Int} {σ τ : zS} {p : Int} (h : TkS X n σ p) (hi : ∀ j, 7 ≤ j ∧ j ≤ 12 → τ.1 j = σ.1 j) : TkS X n τ p := by
  unfold TkS at h ⊢
  rw [hi 7 (by omega), hi 8 (by omega), hi 9 (by omega), hi 10 (by omega), hi 11 (by omega), hi 12 (by omega)]
  exact h
theorem RP.f {X : Int → Int} {n : Int} {σ : zS} {st : PS} {s : Int} {k : Nat} {x : Int} (h : RP X n σ st s) (hk : 3000 ≤ k) : RP X n (zI σ k x) st s := ⟨h.1.c (fun j hj => zI_o (by omega)) rfl, h.2.f hk⟩
theorem RP.pk {X : Int → Int} {n : Int} {β : Nat} (hβ : 3 ≤ β) {σ : zS} {st : PS} {s : Int} (h : RP X n σ st s) : ∃ τ, zE tM_peek β σ [] = some (τ, tk X n st.1) ∧ RP X n τ st s ∧ TkS X n τ st.1 ∧ FrT σ τ := by
  obtain ⟨τ, e1, hA, hS, hF⟩ := peek_ok hβ h.1
  exact ⟨τ, e1, ⟨hA, h.2.t hF (Int.le_refl _)⟩, hS, hF⟩
theorem RP.tk {X : Int → Int} {n : Int} {β : Nat} (hβ : 4 ≤ β) {σ : zS} {st : PS} {s : Int} (h : RP X n σ st s) : ∃ τ, zE tM_take β σ [] = some (τ, 0) ∧ RP X n τ (adv X n st) s ∧ FrT σ τ := by
  obtain ⟨τ, e1, hA, hF⟩ := take_ok hβ h.1
  exact ⟨τ, e1, ⟨hA, h.2.t hF te_ge⟩, hF⟩
/-- how a method that may throw ends: as the TEXT says -/
def XN (o : Option zR) (σ : zS) (k q : Int) : Prop := ∃ τ r, o = some (τ, r) ∧ τ.1 3000 = 1 ∧ τ.1 3003 = k ∧ τ.1 3004 = q ∧ FrP σ τ
def XY (o : Option zR) (σ : zS) (Q : zS → Int → Prop) : Prop := ∃ τ r, o = some (τ, r) ∧ τ.1 3000 = 0 ∧ FrP σ τ ∧ Q τ r
theorem XN.fr {o : Option zR} {σ τ : zS} {k q : Int} (h : XN o τ k q) (hF : FrP σ τ) : XN o σ k q := by
  obtain ⟨ρ, r, a, b, c, d, e⟩ := h
  exact ⟨ρ, r, a, b, c, d, hF.tr e⟩
theorem XY.fr {o : Option zR} {σ τ : zS} {Q : zS → Int → Prop} (h : XY o τ Q) (hF : FrP σ τ) : XY o σ Q := by
  obtain ⟨ρ, r, a, b, c, d⟩ := h
  exact ⟨ρ, r, a, b, hF.tr c, d⟩
theorem XN.thr {σ : zS} {a b : Int} : XN (lt_ (zI σ 3003 a) (fun u1 => lt_ (zI u1 3004 b) (fun u2 => lt_ (zI u2 3000 1) (fun u3 => some (u3, 0))))) σ a b :=
  ⟨zI (zI (zI σ 3003 a) 3004 b) 3000 1, 0, rfl, zI_1, by rw [zI_o, zI_o, zI_1], by rw [zI_o, zI_1], FrP.tr (FrP.tr FrP.i FrP.i) FrP.i⟩
theorem XY.ret {σ : zS} {r : Int} {Q : zS → Int → Prop} (h : Q (zI σ 3000 0) r) : XY (lt_ (zI σ 3000 0) (fun u => some (u, r))) σ Q := ⟨_, r, rfl, zI_1, FrP.i, h⟩
/-- a call that throws goes through -/
theorem XN.call {o : Option zR} {σ : zS} {k q : Int} {K : zS → Int → Option zR} (h : XN o σ k q) : XN (zbd o (fun σ1 r1 => if σ1.1 3000 = 0 then K σ1 r1 else some (σ1, 0))) σ k q := by
  obtain ⟨τ, r, e, h1, h2, h3, hF⟩ := h
  refine ⟨τ, 0, ?_, h1, h2, h3, hF⟩
  rw [zbd_of e, if_neg (by rw [h1]; decide)]
theorem XY.call {o : Option zR} {σ : zS} {Q : zS → Int → Prop} {K : zS → Int → Option zR} (h : XY o σ Q) : ∃ τ r, zbd o (fun σ1 r1 => if σ1.1 3000 = 0 then K σ1 r1 else some (σ1, 0)) = K τ r ∧ FrP σ τ ∧ Q τ r := by
  obtain ⟨τ, r, e, h1, hF, hQ⟩ := h
  exact ⟨τ, r, by rw [zbd_of e, if_pos h1], hF, hQ⟩
