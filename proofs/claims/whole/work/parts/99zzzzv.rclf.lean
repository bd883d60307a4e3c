/-! the reference: clausify: which SENTENCES are too high, which VARIABLES become WITNESSES -/
theorem EX_of {I A : List Nat} {σ τ : zS} (f : FrC I A σ τ) (hI : [37, 38, 40].all (fun j => !(I.elem j)) = true := by decide) (hA : [30, 31, 32, 33, 34, 35, 36, 41, 42].all (fun j => !(A.elem j)) = true := by decide) : EX σ τ := by
  have i : ∀ j, j ∈ [37, 38, 40] → τ.1 j = σ.1 j := fun j hj => f.1 j (by simpa using List.all_eq_true.mp hI j hj)
  have a : ∀ j q, j ∈ [30, 31, 32, 33, 34, 35, 36, 41, 42] → τ.2.1 j q = σ.2.1 j q := fun j q hj => f.2.1 j q (by simpa using List.all_eq_true.mp hA j hj)
  exact ⟨⟨by rw [i 37 (by simp)]; exact Int.le_refl _, by rw [i 38 (by simp)]; exact Int.le_refl _, by rw [i 40 (by simp)]; exact Int.le_refl _⟩, fun j _ _ => ⟨a 34 j (by simp), a 35 j (by simp), a 36 j (by simp)⟩, fun j _ _ => ⟨a 30 j (by simp), a 31 j (by simp), a 32 j (by simp), a 33 j (by simp)⟩, fun j _ _ => ⟨a 41 j (by simp), a 42 j (by simp)⟩⟩
theorem RSe.c {I A : List Nat} {σ τ : zS} {L : List SE} (h : RSe σ L) (f : FrC I A σ τ) (hI : [37, 38, 40, 55, 56].all (fun j => !(I.elem j)) = true := by decide) (hA : [30, 31, 32, 33, 34, 35, 36, 41, 42, 50, 51, 52, 53, 54, 57].all (fun j => !(A.elem j)) = true := by decide) : RSe τ L := by
  have i : ∀ j, j ∈ [37, 38, 40, 55, 56] → τ.1 j = σ.1 j := fun j hj => f.1 j (by simpa using List.all_eq_true.mp hI j hj)
  have a : ∀ j q, j ∈ [30, 31, 32, 33, 34, 35, 36, 41, 42, 50, 51, 52, 53, 54, 57] → τ.2.1 j q = σ.2.1 j q := fun j q hj => f.2.1 j q (by simpa using List.all_eq_true.mp hA j hj)
  have x : EX σ τ := ⟨⟨by rw [i 37 (by simp)]; exact Int.le_refl _, by rw [i 38 (by simp)]; exact Int.le_refl _, by rw [i 40 (by simp)]; exact Int.le_refl _⟩, fun j _ _ => ⟨a 34 j (by simp), a 35 j (by simp), a 36 j (by simp)⟩, fun j _ _ => ⟨a 30 j (by simp), a 31 j (by simp), a 32 j (by simp), a 33 j (by simp)⟩, fun j _ _ => ⟨a 41 j (by simp), a 42 j (by simp)⟩⟩
  refine ⟨by rw [i 55 (by simp)]; exact h.1, by rw [i 56 (by simp)]; exact h.2.1, fun k e he => ?_⟩
  obtain ⟨s1, s2, ⟨⟨m, s3⟩, s3'⟩, s4, s5, s6⟩ := h.2.2 k e he
  rw [a 50 _ (by simp), a 57 _ (by simp), a 51 _ (by simp), a 52 _ (by simp), a 53 _ (by simp)]
  exact ⟨s1, s2, ⟨⟨m, s3.x x⟩, by rw [i 37 (by simp)]; exact s3'⟩, s4, s5, fun j v hv => by rw [a 54 _ (by simp)]; exact s6 j v hv⟩
theorem frL_tk : ∀ {L : List SE} {i : Nat} {e : SE}, L[i]? = some e → frL (L.take i) + e.2.2.2.length ≤ frL L
  | [], i, e, h => by cases h
  | x :: L, 0, e, h => by
    cases h
    show frL [] + _ ≤ x.2.2.2.length + frL L
    have : frL [] = 0 := rfl
    omega
  | x :: L, i + 1, e, h => by
    have := frL_tk (L := L) (i := i) h
    show (x.2.2.2.length + frL (L.take i)) + _ ≤ x.2.2.2.length + frL L
    omega
theorem tall_ok {β : Nat} {σ : zS} {SL : List SE} (hS : RSe σ SL) (hL : SL.length ≤ 20100) (h37 : σ.1 37 ≤ 20100) : ∀ (m x : Nat), x + m = SL.length → (∀ (i : Nat) e, i < x → SL[i]? = some e → hgt e.2.2.1 ≤ 200) → ∃ t : Nat, xE tX_clausify_2 β σ [(x : Int)] = xE tX_clausify_33 β σ [(t : Int)] ∧ t ≤ SL.length ∧ (∀ (i : Nat) e, i < t → SL[i]? = some e → hgt e.2.2.1 ≤ 200) ∧ ∀ e, SL[t]? = some e → 200 < hgt e.2.2.1
  | 0, x, hx, h => by
    refine ⟨x, ?_, by omega, h, fun e he => ?_⟩
    · rw [xq_clausify_2, kW_clausify_2, hS.1, if_pos (by omega)]
    · have := (List.getElem?_eq_some_iff.mp he).1
      omega
  | m + 1, x, hx, h => by
    obtain ⟨e, he⟩ : ∃ e, SL[x]? = some e := ⟨_, List.getElem?_eq_getElem (by omega)⟩
    obtain ⟨s1, s2, ⟨⟨k, s3⟩, _⟩, _⟩ := hS.2.2 x e he
    obtain ⟨r0, r1, r2⟩ : 0 ≤ σ.2.1 51 (x : Int) ∧ σ.2.1 51 (x : Int) < σ.1 37 ∧ σ.2.1 33 (σ.2.1 51 (x : Int)) = hgt e.2.2.1 := by
      cases k with
      | zero => exact s3.elim
      | succ k => exact ⟨s3.1, s3.2.1, s3.2.2.1⟩
    by_cases c : 200 < hgt e.2.2.1
    · refine ⟨x, ?_, by omega, h, fun e' he' => ?_⟩
      · rw [xq_clausify_2, kW_clausify_2, hS.1, if_neg (by omega), if_pos ⟨by omega, by omega⟩, if_pos ⟨by omega, by omega⟩, r2, if_pos c]
      · rw [he] at he'; cases he'; exact c
    · obtain ⟨t, t1, t2⟩ := tall_ok (β := β) hS hL h37 m (x + 1) (by omega) (fun i e' hi he' => by
        by_cases q : i = x
        · subst q; rw [he] at he'; cases he'; omega
        · exact h i e' (by omega) he')
      refine ⟨t, ?_, t2⟩
      rw [xq_clausify_2, kW_clausify_2, hS.1, if_neg (by omega), if_pos ⟨by omega, by omega⟩, if_pos ⟨by omega, by omega⟩, r2, if_neg c, if_pos ⟨by omega, by omega⟩]
      exact t1
/-- what one SENTENCE marks -/
def SMk (σ τ : zS) (e : SE) : Prop := FrC [] [24, 58] σ τ ∧ ∀ v : Nat, (rpSe e v → τ.2.1 24 (v : Int) = 1) ∧ (¬ rpSe e v → τ.2.1 24 (v : Int) = σ.2.1 24 (v : Int)) ∧ (inE2 e v → ∃ m : Nat, arE e v m ∧ τ.2.1 58 (v : Int) = (m : Int)) ∧ (¬ inE2 e v → τ.2.1 58 (v : Int) = σ.2.1 58 (v : Int))
theorem fr_42 {β : Nat} {x0 : Int} {SL : List SE} {s : Nat} {e : SE} (he : SL[s]? = some e) (hs : s < 20100) (hf : frL SL ≤ 300) (hv : ∀ v ∈ e.2.2.2, 0 ≤ v ∧ v < 300) : ∀ (R D : List Int) (σ : zS), e.2.2.2 = D ++ R → RSe σ SL → ∃ τ, xE tX_clausify_42 β σ [x0, (s : Int), (D.length : Int)] = xE tX_clausify_42 β τ [x0, (s : Int), (e.2.2.2.length : Int)] ∧ FrC [] [24, 58] σ τ ∧ ∀ v : Nat, ((v : Int) ∈ R → e.2.1 = true → τ.2.1 24 (v : Int) = 1) ∧ (¬ ((v : Int) ∈ R ∧ e.2.1 = true) → τ.2.1 24 (v : Int) = σ.2.1 24 (v : Int)) ∧ ((v : Int) ∈ R → ∃ k : Nat, e.2.2.2[k]? = some (v : Int) ∧ τ.2.1 58 (v : Int) = (k : Int)) ∧ ((v : Int) ∉ R → τ.2.1 58 (v : Int) = σ.2.1 58 (v : Int))
  | [], D, σ, hD, hS => by
    rw [List.append_nil] at hD
    rw [hD]
    exact ⟨σ, rfl, FrC.refl, fun v => ⟨fun h => (by cases h), fun _ => rfl, fun h => (by cases h), fun _ => rfl⟩⟩
  | u :: R, D, σ, hD, hS => by
    obtain ⟨s1, s2, s3, s4, s5, s6⟩ := hS.2.2 s e he
    have hl : e.2.2.2.length = D.length + (R.length + 1) := by rw [hD]; simp
    have hu : e.2.2.2[D.length]? = some u := by rw [hD, List.getElem?_append_right (Nat.le_refl _), Nat.sub_self]; rfl
    have hD' : e.2.2.2 = (D ++ [u]) ++ R := by rw [hD]; simp
    obtain ⟨u0, u1⟩ := hv u (List.mem_of_getElem? hu)
    have hfi := frL_tk he
    obtain ⟨σ1, hσ1⟩ : ∃ z, z = zA σ 58 u (D.length : Int) := ⟨_, rfl⟩
    obtain ⟨σ2, hσ2⟩ : ∃ z, z = (if e.2.1 = true then zA σ1 24 u 1 else σ1) := ⟨_, rfl⟩
    have f1 : FrC [] [24, 58] σ σ1 := by rw [hσ1]; exact FrC_A
    have f2 : FrC [] [24, 58] σ σ2 := by
      rw [hσ2]
      by_cases c : e.2.1 = true
      · rw [if_pos c]; exact f1.trans FrC_A
      · rw [if_neg c]; exact f1
    have a58 : ∀ q, σ2.2.1 58 q = if q = u then (D.length : Int) else σ.2.1 58 q := fun q => by
      have : σ2.2.1 58 q = σ1.2.1 58 q := by
        rw [hσ2]
        by_cases c : e.2.1 = true
        · rw [if_pos c]; exact zA_j
        · rw [if_neg c]
      rw [this, hσ1]
      by_cases c : q = u
      · rw [if_pos c, c]; exact zA_s
      · rw [if_neg c]; exact zA_i c
    have a24f : ¬ e.2.1 = true → ∀ q, σ2.2.1 24 q = σ.2.1 24 q := fun h q => by rw [hσ2, if_neg h, hσ1]; exact zA_j
    have a24t : e.2.1 = true → ∀ q, σ2.2.1 24 q = if q = u then 1 else σ.2.1 24 q := fun h q => by
      rw [hσ2, if_pos h]
      by_cases c : q = u
      · rw [if_pos c, c]; exact zA_s
      · rw [if_neg c, hσ1, zA_i c]; exact zA_j
    obtain ⟨τ, t1, t2, t3⟩ := fr_42 (β := β) (x0 := x0) he hs hf hv R (D ++ [u]) σ2 hD' (hS.c f2)
    refine ⟨τ, ?_, f2.trans t2, fun v => ?_⟩
    · rw [← t1]
      have el : ((D ++ [u]).length : Int) = (D.length : Int) + 1 := by simp
      have e92 : xE tX_clausify_92 β σ2 [x0, (s : Int), (D.length : Int), u] = xE tX_clausify_42 β σ2 [x0, (s : Int), ((D ++ [u]).length : Int)] := by
        rw [xq_clausify_92, kW_clausify_92, if_pos ⟨by omega, by omega⟩, el]
      have s6' := s6 D.length u hu
      rw [xq_clausify_42, kW_clausify_42, if_pos ⟨by omega, by omega⟩, s5, if_neg (by omega), s4, if_pos ⟨by omega, by omega⟩, if_pos ⟨by omega, by omega⟩, s6', if_pos ⟨u0, u1⟩, lt_e, ← hσ1, f1.a 57, s2]
      by_cases c : e.2.1 = true
      · rw [if_pos c] at hσ2
        rw [if_neg (by rw [if_pos c]; decide), lt_e, ← hσ2]; exact e92
      · rw [if_neg c] at hσ2
        rw [if_pos (by rw [if_neg c]), ← hσ2]; exact e92
    · obtain ⟨q1, q2, q3, q4⟩ := t3 v
      refine ⟨fun h hb => ?_, fun h => ?_, fun h => ?_, fun h => ?_⟩
      · by_cases c : (v : Int) ∈ R
        · exact q1 c hb
        · rw [q2 (fun z => c z.1), a24t hb, if_pos ((List.mem_cons.mp h).resolve_right c)]
      · rw [q2 (fun z => h ⟨List.mem_cons_of_mem _ z.1, z.2⟩)]
        by_cases hb : e.2.1 = true
        · rw [a24t hb, if_neg (fun z => h ⟨by rw [z]; exact List.mem_cons_self, hb⟩)]
        · exact a24f hb _
      · by_cases c : (v : Int) ∈ R
        · exact q3 c
        · have e0 := (List.mem_cons.mp h).resolve_right c
          exact ⟨D.length, by rw [e0]; exact hu, by rw [q4 c, a58, if_pos e0]⟩
      · rw [q4 (fun z => h (List.mem_cons_of_mem _ z)), a58, if_neg (fun z => h (by rw [z]; exact List.mem_cons_self))]
theorem sm_ok {β : Nat} (hβ : 210 ≤ β) {x0 : Int} {SL : List SE} {s : Nat} {e : SE} (he : SL[s]? = some e) (hs : s < 20100) (hf : frL SL ≤ 300) (hv : ∀ v ∈ e.2.2.2, 0 ≤ v ∧ v < 300) (hfs : FS (tt e.2.2.1)) (hh : hgt e.2.2.1 ≤ 200) {σ : zS} (hS : RSe σ SL) (h37 : σ.1 37 ≤ 20100) : ∃ τ, xE tX_clausify_42 β σ [x0, (s : Int), 0] = xE tX_clausify_35 β τ [x0, ((s + 1 : Nat) : Int)] ∧ SMk σ τ e := by
  obtain ⟨σ1, t1, t2, t3⟩ := fr_42 (β := β) (x0 := x0) he hs hf hv e.2.2.2 [] σ rfl hS
  have hS1 := hS.c t2
  obtain ⟨s1, s2, ⟨⟨h, s3⟩, _⟩, s4, s5, s6⟩ := hS1.2.2 s e he
  have hfi := frL_tk he
  obtain ⟨τ, u1, u2, u3⟩ := mk_ok 200 e.2.2.1 (σ1.2.1 51 (s : Int)) (!e.2.1) e.2.2.2.length σ1 (β - 1) (s3.lo.up (by omega)) hfs (by rw [t2.i 37]; exact h37) (by omega) (by omega)
  have hw : wy (!e.2.1) = wyE e := by unfold wyE wy; cases e.2.1 <;> rfl
  rw [hw] at u3
  refine ⟨τ, ?_, t2.trans u2, fun v => ?_⟩
  · have t1' : xE tX_clausify_42 β σ [x0, (s : Int), 0] = xE tX_clausify_42 β σ1 [x0, (s : Int), (e.2.2.2.length : Int)] := t1
    have e119 : ∀ y, y = bi (!e.2.1) → xE tX_clausify_119 β σ1 [x0, (s : Int), (e.2.2.2.length : Int), y, σ1.2.1 51 (s : Int)] = xE tX_clausify_35 β τ [x0, ((s + 1 : Nat) : Int)] := fun y hy => by
      rw [xq_clausify_119, kW_clausify_119, if_pos ⟨by omega, by omega⟩, if_pos (by omega), hy, s5, zbd_of u1, if_pos ⟨by omega, by omega⟩]
      rfl
    rw [t1', xq_clausify_42, kW_clausify_42, if_pos ⟨by omega, by omega⟩, s5, if_pos (Int.le_refl _), s2]
    cases hb : e.2.1
    · rw [if_pos (by simp)]; exact e119 1 (by rw [hb]; rfl)
    · rw [if_neg (by simp)]; exact e119 0 (by rw [hb]; rfl)
  · obtain ⟨a1, a2, a3, a4⟩ := t3 v
    obtain ⟨b1, b2, b3, b4⟩ := u3 v
    refine ⟨fun h => ?_, fun h => ?_, fun h => ?_, fun h => ?_⟩
    · by_cases c : rqF e.2.2.1 (wyE e) v
      · exact b1 c
      · obtain ⟨z1, z2⟩ := h.resolve_right c
        rw [b2 c]; exact a1 z1 z2
    · rw [b2 (fun z => h (Or.inr z)), a2 (fun z => h (Or.inl z))]
    · by_cases c : bnF (tt e.2.2.1) v
      · obtain ⟨m, m1, m2⟩ := b3 c
        exact ⟨m, Or.inr m1, m2⟩
      · obtain ⟨k, k1, k2⟩ := a3 (h.resolve_left c)
        exact ⟨k, Or.inl k1, by rw [b4 c]; exact k2⟩
    · rw [b4 (fun z => h (Or.inl z)), a4 (fun z => h (Or.inr z))]
def MKA (σ0 σ : zS) (D : List SE) : Prop := FrC [] [24, 58] σ0 σ ∧ ∀ v : Nat, (RPs D v → σ.2.1 24 (v : Int) = 1) ∧ (¬ RPs D v → σ.2.1 24 (v : Int) = σ0.2.1 24 (v : Int)) ∧ ((∃ e ∈ D, inE2 e v) → ∃ m : Nat, acS D v m ∧ σ.2.1 58 (v : Int) = (m : Int))
theorem MKA.add {σ0 σ τ : zS} {D : List SE} {e : SE} (h : MKA σ0 σ D) (g : SMk σ τ e) : MKA σ0 τ (D ++ [e]) := ⟨h.1.trans g.1, fun v => by
  obtain ⟨a1, a2, a3⟩ := h.2 v
  obtain ⟨b1, b2, b3, b4⟩ := g.2 v
  refine ⟨fun q => ?_, fun q => ?_, fun q => ?_⟩
  · by_cases c : rpSe e v
    · exact b1 c
    · obtain ⟨x, hx, hr⟩ := q
      rcases List.mem_append.mp hx with z | z
      · rw [b2 c]; exact a1 ⟨x, z, hr⟩
      · rw [List.mem_singleton] at z; subst z; exact absurd hr c
  · rw [b2 (fun z => q ⟨e, by simp, z⟩), a2 (fun ⟨x, hx, hr⟩ => q ⟨x, by simp [hx], hr⟩)]
  · by_cases c : inE2 e v
    · obtain ⟨m, m1, m2⟩ := b3 c
      exact ⟨m, ⟨e, by simp, m1⟩, m2⟩
    · obtain ⟨x, hx, hr⟩ := q
      rcases List.mem_append.mp hx with z | z
      · obtain ⟨m, ⟨y, hy, m1⟩, m2⟩ := a3 ⟨x, z, hr⟩
        exact ⟨m, ⟨y, by simp [hy], m1⟩, by rw [b4 c]; exact m2⟩
      · rw [List.mem_singleton] at z; subst z; exact absurd hr c⟩
theorem mka_35 {β : Nat} (hβ : 210 ≤ β) {SL : List SE} (hL : SL.length ≤ 20100) (hf : frL SL ≤ 300) (hv : ∀ e ∈ SL, ∀ v ∈ e.2.2.2, 0 ≤ v ∧ v < 300) (hfs : ∀ e ∈ SL, FS (tt e.2.2.1)) {t : Nat} (ht : t ≤ SL.length) (hh : ∀ (i : Nat) e, i < t → SL[i]? = some e → hgt e.2.2.1 ≤ 200) {σ0 : zS} (hS : RSe σ0 SL) (h37 : σ0.1 37 ≤ 20100) : ∀ (m x : Nat) (σ : zS), x + m = t → MKA σ0 σ (SL.take x) → ∃ τ, xE tX_clausify_35 β σ [(t : Int), (x : Int)] = xE tX_clausify_35 β τ [(t : Int), (t : Int)] ∧ MKA σ0 τ (SL.take t)
  | 0, x, σ, hx, hM => by
    rw [show x = t by omega] at hM ⊢
    exact ⟨σ, rfl, hM⟩
  | m + 1, x, σ, hx, hM => by
    obtain ⟨e, he⟩ : ∃ e, SL[x]? = some e := ⟨_, List.getElem?_eq_getElem (by omega)⟩
    have hem := List.mem_of_getElem? he
    obtain ⟨τ, t1, t2⟩ := sm_ok (x0 := (t : Int)) hβ he (by omega) hf (hv e hem) (hfs e hem) (hh x e (by omega) he) (hS.c hM.1) (by rw [hM.1.i 37]; exact h37)
    have et : SL.take (x + 1) = SL.take x ++ [e] := by rw [List.take_add_one, he]; rfl
    obtain ⟨τ2, u1, u2⟩ := mka_35 hβ hL hf hv hfs ht hh hS h37 m (x + 1) τ (by omega) (by rw [et]; exact hM.add t2)
    refine ⟨τ2, ?_, u2⟩
    rw [← u1, xq_clausify_35, kW_clausify_35, if_neg (by omega)]
    exact t1
