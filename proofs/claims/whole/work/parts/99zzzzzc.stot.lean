/-! every TEXT has its FAULT or its SENTENCES -/
def Gdx {γ : Type} (o : PR γ) (Q : γ → Prop) : Prop := ∃ r, o = some r ∧ (∀ e, r = .inl e → 1 ≤ e.1) ∧ ∀ a, r = .inr a → Q a
theorem Gdx.ok {γ : Type} {a : γ} {Q : γ → Prop} (h : Q a) : Gdx (pOk a) Q := ⟨_, rfl, fun e he => (by cases he), fun b hb => (by cases hb; exact h)⟩
theorem Gdx.no {γ : Type} {k q : Int} {Q : γ → Prop} (h : 1 ≤ k) : Gdx (pNo k q : PR γ) Q := ⟨_, rfl, fun e he => (by cases he; exact h), fun b hb => (by cases hb)⟩
theorem Gdx.bd {α γ : Type} {o : PR α} {f : α → PR γ} {P : α → Prop} {Q : γ → Prop} (h : Gdx o P) (g : ∀ a, P a → Gdx (f a) Q) : Gdx (pb o f) Q := by
  obtain ⟨r, h1, h2, h3⟩ := h
  match r, h1, h2, h3 with
  | .inl e, h1, h2, h3 => exact ⟨.inl e, by rw [h1]; rfl, fun x hx => (by cases hx; exact h2 _ rfl), fun b hb => (by cases hb)⟩
  | .inr a, h1, h2, h3 =>
    have : pb o f = f a := by rw [h1]; rfl
    rw [this]; exact g a (h3 a rfl)
theorem Gdx.ite {γ : Type} {c : Prop} {i : Decidable c} {a b : PR γ} {Q : γ → Prop} (h : c → Gdx a Q) (g : ¬ c → Gdx b Q) : Gdx (if c then a else b) Q := by
  by_cases k : c
  · rw [if_pos k]; exact h k
  · rw [if_neg k]; exact g k
theorem Gdx.mono {γ : Type} {o : PR γ} {P Q : γ → Prop} (h : Gdx o P) (g : ∀ a, P a → Q a) : Gdx o Q := by
  obtain ⟨r, h1, h2, h3⟩ := h
  exact ⟨r, h1, h2, fun a ha => g a (h3 a ha)⟩
theorem nstS_g {X : Int → Int} {n d : Int} {st : PS} : Gdx (nstS X n d st) (fun _ => True) := Gdx.ite (fun _ => Gdx.no (by decide)) (fun _ => Gdx.ok trivial)
theorem symS_g {X : Int → Int} {n : Int} {st : PS} : Gdx (symS X n st) (fun r => r.1.1 = st.1 ∧ st.2.1.length ≤ r.1.2.1.length ∧ 1 ≤ r.2 ∧ r.2 ≤ (r.1.2.1.length : Int)) := by
  have key : ∀ r, symS X n st = pOk r → r.1.1 = st.1 ∧ st.2.1.length ≤ r.1.2.1.length ∧ 1 ≤ r.2 ∧ r.2 ≤ (r.1.2.1.length : Int) := fun r hr => by
    obtain ⟨i1, i2, i3, i4, i5⟩ := symS_i hr
    exact ⟨i2, i1.2.1.1, i4, i5⟩
  have tot : Gdx (symS X n st) (fun r => symS X n st = pOk r) := by
    cases hm : nmF (wd X (tq X n st.1) (te X n st.1)) st.2.1 1 with
    | some k =>
      have e : symS X n st = pOk (st, k) := by unfold symS; rw [hm]
      rw [e]; exact Gdx.ok rfl
    | none =>
      by_cases c : st.2.1.length = 250
      · have e : symS X n st = pNo 3 (tq X n st.1) := by unfold symS; rw [hm]; dsimp only; rw [if_pos c]
        rw [e]; exact Gdx.no (by decide)
      · have e : symS X n st = pOk ((st.1, st.2.1 ++ [(wd X (tq X n st.1) (te X n st.1), 0, 0)], st.2.2), (st.2.1.length : Int) + 1) := by unfold symS; rw [hm]; dsimp only; rw [if_neg c]
        rw [e]; exact Gdx.ok rfl
  exact tot.mono key
theorem bndS_g {X : Int → Int} {n : Int} {st : PS} : Gdx (bndS X n st) (fun r => r.1.1 = st.1 ∧ r.1.2.1 = st.2.1) := Gdx.ite (fun _ => Gdx.no (by decide)) (fun _ => Gdx.ok ⟨rfl, rfl⟩)
theorem varS_g {X : Int → Int} {n : Int} {st : PS} : Gdx (varS X n st) (fun r => r.1.1 = st.1 ∧ r.1.2.1 = st.2.1) := by
  cases hv : vrF X (wd X (tq X n st.1) (te X n st.1)) st.2.2.1 st.2.2.2.1 with
  | some v =>
    have e : varS X n st = pOk (st, v) := by unfold varS; rw [hv]
    rw [e]; exact Gdx.ok ⟨rfl, rfl⟩
  | none =>
    cases hv2 : vrF X (wd X (tq X n st.1) (te X n st.1)) st.2.2.1 st.2.2.2.2 with
    | some v =>
      have e : varS X n st = pOk (st, v) := by unfold varS; rw [hv]; dsimp only; rw [hv2]
      rw [e]; exact Gdx.ok ⟨rfl, rfl⟩
    | none =>
      have e : varS X n st = pb (bndS X n st) (fun r => pOk ((r.1.1, r.1.2.1, r.1.2.2.1, r.1.2.2.2.1, r.1.2.2.2.2 ++ [r.2]), r.2)) := by unfold varS; rw [hv]; dsimp only; rw [hv2]
      rw [e]
      exact bndS_g.bd (fun a ha => Gdx.ok ha)
theorem chkS_g {st : PS} {k is a q : Int} (h1 : 1 ≤ k) (h2 : k ≤ (st.2.1.length : Int)) : Gdx (chkS st k is a q) (fun s => s.1 = st.1 ∧ s.2.1.length = st.2.1.length) := by
  obtain ⟨x, hx⟩ : ∃ x, st.2.1[(k - 1).toNat]? = some x := ⟨_, List.getElem?_eq_getElem (by omega)⟩
  have e : chkS st k is a q = (if x.2.1 = 0 then pOk (st.1, st.2.1.set (k - 1).toNat (x.1, is, a), st.2.2) else if x.2.1 = is ∧ x.2.2 = a then pOk st else pNo 2 q) := by unfold chkS; rw [hx]
  rw [e]
  exact Gdx.ite (fun _ => Gdx.ok ⟨rfl, by simp⟩) (fun _ => Gdx.ite (fun _ => Gdx.ok ⟨rfl, rfl⟩) (fun _ => Gdx.no (by decide)))
/-- behind a WORD -/
theorem adv_g {X : Int → Int} {n : Int} {st : PS} (h : st.1 ≤ n) (ht : tk X n st.1 ≠ 0) : st.1 < (adv X n st).1 ∧ (adv X n st).1 ≤ n := by
  have h1 := te_gt ht h
  have h2 := tq_ge (T := X) (n := n) (p := st.1)
  have h3 := te_le (T := X) h
  exact ⟨by show st.1 < te X n st.1; omega, h3⟩
theorem sdS_g {X : Int → Int} {n : Int} : ∀ (m : Nat) (b : Bool) (d : Int) (st : PS), st.1 ≤ n → 2 * (n - st.1) + (if b = true then 2 else 1) ≤ (m : Int) → Gdx (sdS X n m b d st) (fun a => st.1 < a.1.1 ∧ a.1.1 ≤ n ∧ st.2.1.length ≤ a.1.2.1.length)
  | 0, b, d, st, hp, hm => by
    exfalso
    have : (0 : Int) < (if b = true then 2 else 1) := by split <;> decide
    omega
  | m + 1, true, d, st, hp, hm => by
    rw [if_pos rfl] at hm
    unfold sdS
    refine (sdS_g m false d st hp (by simp; omega)).bd (fun r hr => Gdx.ite (fun c => ?_) (fun _ => Gdx.ite (fun c => ?_) (fun _ => Gdx.no (by decide))))
    · obtain ⟨a1, a2⟩ := adv_g (X := X) hr.2.1 (by rw [c]; decide)
      refine (sdS_g m true d (adv X n r.1) a2 (by rw [if_pos rfl]; omega)).bd (fun u hu => Gdx.ok ?_)
      exact ⟨by show st.1 < u.1.1; omega, hu.2.1, Nat.le_trans hr.2.2 hu.2.2⟩
    · obtain ⟨a1, a2⟩ := adv_g (X := X) hr.2.1 (by rw [c]; decide)
      exact Gdx.ok ⟨by show st.1 < (adv X n r.1).1; omega, a2, hr.2.2⟩
  | m + 1, false, d, st, hp, hm => by
    rw [if_neg (by decide)] at hm
    unfold sdS
    refine Gdx.ite (fun c => ?_) (fun _ => Gdx.ite (fun c => ?_) (fun _ => Gdx.no (by decide)))
    · refine varS_g.bd (fun r hr => Gdx.ok ?_)
      obtain ⟨a1, a2⟩ := adv_g (X := X) (st := r.1) (by rw [hr.1]; exact hp) (by rw [hr.1, c]; decide)
      exact ⟨by show st.1 < (adv X n r.1).1; omega, a2, by show _ ≤ r.1.2.1.length; rw [hr.2]; exact Nat.le_refl _⟩
    · refine symS_g.bd (fun r hr => ?_)
      obtain ⟨a1, a2⟩ := adv_g (X := X) (st := r.1) (by rw [hr.1]; exact hp) (by rw [hr.1, c]; decide)
      refine Gdx.bd (P := fun u => st.1 < u.1.1 ∧ u.1.1 ≤ n ∧ r.1.2.1.length ≤ u.1.2.1.length) (Gdx.ite (fun c4 => nstS_g.bd (fun dd _ => ?_)) (fun _ => Gdx.ok ⟨by show st.1 < (adv X n r.1).1; omega, a2, Nat.le_refl _⟩)) (fun u hu => ?_)
      · obtain ⟨b1, b2⟩ := adv_g (X := X) (st := adv X n r.1) a2 (by rw [c4]; decide)
        exact (sdS_g m true dd _ b2 (by rw [if_pos rfl]; omega)).mono (fun a ha => ⟨by omega, ha.2.1, ha.2.2⟩)
      · refine (chkS_g hr.2.2.1 (by omega)).bd (fun s hs => Gdx.ok ⟨by show st.1 < s.1; rw [hs.1]; exact hu.1, by show s.1 ≤ n; rw [hs.1]; exact hu.2.1, by show _ ≤ s.2.1.length; omega⟩)
theorem eqnS_g {X : Int → Int} {n : Int} {m : Nat} {t : T} {d : Int} {st : PS} (hp : st.1 ≤ n) (hk : tk X n st.1 ≠ 0) (hm : 2 * (n - st.1) ≤ (m : Int)) : Gdx (eqnS X n m t d st) (fun a => st.1 < a.1.1 ∧ a.1.1 ≤ n) := by
  unfold eqnS
  obtain ⟨a1, a2⟩ := adv_g (X := X) hp hk
  exact (sdS_g m false d (adv X n st) a2 (by rw [if_neg (by decide)]; omega)).bd (fun r hr => Gdx.ok ⟨by show st.1 < r.1.1; omega, hr.2.1⟩)
theorem atmS_g {X : Int → Int} {n : Int} {m : Nat} {d : Int} {st : PS} (hp : st.1 ≤ n) (hk : tk X n st.1 ≠ 0) (hm : 2 * (n - st.1) ≤ (m : Int)) : Gdx (atmS X n m d st) (fun a => st.1 < a.1.1 ∧ a.1.1 ≤ n) := by
  unfold atmS
  refine Gdx.ite (fun c => varS_g.bd (fun r hr => ?_)) (fun c => symS_g.bd (fun r hr => ?_))
  · obtain ⟨a1, a2⟩ := adv_g (X := X) (st := r.1) (by rw [hr.1]; exact hp) (by rw [hr.1]; exact hk)
    refine Gdx.ite (fun c2 => ?_) (fun _ => Gdx.no (by decide))
    exact (eqnS_g a2 (by omega) (by omega)).mono (fun a ha => ⟨by omega, ha.2⟩)
  · obtain ⟨a1, a2⟩ := adv_g (X := X) (st := r.1) (by rw [hr.1]; exact hp) (by rw [hr.1]; exact hk)
    refine Gdx.bd (P := fun u => st.1 < u.1.1 ∧ u.1.1 ≤ n ∧ r.1.2.1.length ≤ u.1.2.1.length) (Gdx.ite (fun c4 => nstS_g.bd (fun dd _ => ?_)) (fun _ => Gdx.ok ⟨by show st.1 < (adv X n r.1).1; omega, a2, Nat.le_refl _⟩)) (fun u hu => ?_)
    · obtain ⟨b1, b2⟩ := adv_g (X := X) (st := adv X n r.1) a2 (by rw [c4]; decide)
      exact (sdS_g m true dd _ b2 (by rw [if_pos rfl]; omega)).mono (fun a ha => ⟨by omega, ha.2.1, ha.2.2⟩)
    · refine (chkS_g hr.2.2.1 (by omega)).bd (fun s hs => Gdx.ite (fun c2 => ?_) (fun _ => Gdx.ok ⟨by show st.1 < s.1; rw [hs.1]; exact hu.1, by show s.1 ≤ n; rw [hs.1]; exact hu.2.1⟩))
      exact (eqnS_g (st := s) (by rw [hs.1]; exact hu.2.1) (by rw [hs.1]; omega) (by rw [hs.1]; omega)).mono (fun a ha => ⟨by rw [hs.1] at ha; omega, ha.2⟩)
theorem bdsS_g {X : Int → Int} {n : Int} : ∀ (m : Nat) (st : PS), st.1 ≤ n → (n - st.1) + 1 ≤ (m : Int) → Gdx (bdsS X n m st) (fun a => st.1 ≤ a.1 ∧ a.1 ≤ n)
  | 0, st, hp, hm => by exfalso; omega
  | m + 1, st, hp, hm => by
    unfold bdsS
    refine Gdx.ite (fun c => bndS_g.bd (fun r hr => ?_)) (fun _ => Gdx.ok ⟨Int.le_refl _, hp⟩)
    obtain ⟨a1, a2⟩ := adv_g (X := X) (st := (r.1.1, r.1.2.1, r.1.2.2.1, r.2 :: r.1.2.2.2.1, r.1.2.2.2.2)) (by show r.1.1 ≤ n; rw [hr.1]; exact hp) (by show tk X n r.1.1 ≠ 0; rw [hr.1, c]; decide)
    have a1 : r.1.1 < _ := a1
    exact (bdsS_g m _ a2 (by omega)).mono (fun a ha => ⟨by omega, ha.2⟩)
def lvW (l : Nat) : Int := if l = 0 then 6 else if l = 1 then 5 else if l = 2 then 4 else if l = 3 then 3 else if l = 5 ∨ l = 6 then 1 else 2
theorem fmS_g {X : Int → Int} {n : Int} : ∀ (m lvl : Nat) (d : Int) (x : Tm) (st : PS), st.1 ≤ n → 8 * (n - st.1) + lvW lvl ≤ (m : Int) → Gdx (fmS X n m lvl d x st) (fun a => (st.1 ≤ a.1.1 ∧ (¬ (lvl = 5 ∨ lvl = 6) → st.1 < a.1.1)) ∧ a.1.1 ≤ n)
  | 0, lvl, d, x, st, hp, hm => by
    exfalso
    have : (0 : Int) < lvW lvl := by unfold lvW; split; decide; split; decide; split; decide; split; decide; split <;> decide
    omega
  | m + 1, lvl, d, x, st, hp, hm => by
    have ih := fmS_g (X := X) (n := n) m
    have unit : 8 * (n - st.1) + 2 ≤ ((m + 1 : Nat) : Int) → Gdx (if tk X n st.1 = 126 then pb (nstS X n d (adv X n st)) (fun d1 => pb (fmS X n m 4 d1 x (adv X n st)) (fun r => pOk (r.1, mk1 3 r.2)))
    else if tk X n st.1 = 33 ∨ tk X n st.1 = 63 then
      if tk X n (adv X n st).1 = 1 then pb (bdsS X n m (adv X n st)) (fun s1 => if tk X n s1.1 = 58 then pb (nstS X n d (adv X n s1)) (fun d1 => pb (fmS X n m 0 d1 x (adv X n s1)) (fun r => pOk ((r.1.1, r.1.2.1, r.1.2.2.1, st.2.2.2.1, r.1.2.2.2.2), qnt (if tk X n st.1 = 33 then 0 else 1) st.2.2.1.length (s1.2.2.1.length - st.2.2.1.length) r.2))) else pNo 1 (tq X n s1.1))
      else pNo 1 (tq X n (adv X n st).1)
    else if tk X n st.1 = 40 then pb (nstS X n d (adv X n st)) (fun d1 => pb (fmS X n m 0 d1 x (adv X n st)) (fun r => if tk X n r.1.1 = 41 then pOk (adv X n r.1, r.2) else pNo 1 (tq X n r.1.1)))
    else if tk X n st.1 = 1 ∨ tk X n st.1 = 2 then atmS X n m d st
    else pNo 1 (tq X n st.1)) (fun a => st.1 < a.1.1 ∧ a.1.1 ≤ n) := fun hm => by
      refine Gdx.ite (fun c => nstS_g.bd (fun dd _ => ?_)) (fun _ => Gdx.ite (fun c => Gdx.ite (fun c1 => ?_) (fun _ => Gdx.no (by decide))) (fun _ => Gdx.ite (fun c => nstS_g.bd (fun dd _ => ?_)) (fun _ => Gdx.ite (fun c => ?_) (fun _ => Gdx.no (by decide)))))
      · obtain ⟨a1, a2⟩ := adv_g (X := X) hp (by rw [c]; decide)
        exact (ih 4 dd x _ a2 (by show _ + 2 ≤ _; omega)).bd (fun r hr => Gdx.ok ⟨by show st.1 < r.1.1; omega, hr.2⟩)
      · obtain ⟨a1, a2⟩ := adv_g (X := X) hp (by omega)
        refine (bdsS_g m _ a2 (by omega)).bd (fun s hs => Gdx.ite (fun c2 => nstS_g.bd (fun dd _ => ?_)) (fun _ => Gdx.no (by decide)))
        obtain ⟨b1, b2⟩ := adv_g (X := X) (st := s) hs.2 (by rw [c2]; decide)
        exact (ih 0 dd x _ b2 (by show _ + 6 ≤ _; omega)).bd (fun r hr => Gdx.ok ⟨by show st.1 < r.1.1; omega, hr.2⟩)
      · obtain ⟨a1, a2⟩ := adv_g (X := X) hp (by rw [c]; decide)
        refine (ih 0 dd x _ a2 (by show _ + 6 ≤ _; omega)).bd (fun r hr => Gdx.ite (fun c2 => ?_) (fun _ => Gdx.no (by decide)))
        obtain ⟨b1, b2⟩ := adv_g (X := X) (st := r.1) hr.2 (by rw [c2]; decide)
        exact Gdx.ok ⟨by show st.1 < (adv X n r.1).1; omega, b2⟩
      · exact atmS_g hp (by omega) (by omega)
    have two : ∀ {a : PS × Tm} {l : Nat} {c : Int}, st.1 ≤ a.1.1 → a.1.1 ≤ n → c ≠ 0 → tk X n a.1.1 = c → st.1 < (adv X n a.1).1 ∧ (adv X n a.1).1 ≤ n := fun {a l c} h1 h2 hc ht => by
      obtain ⟨b1, b2⟩ := adv_g (X := X) (st := a.1) h2 (by rw [ht]; exact hc)
      exact ⟨by omega, b2⟩
    match lvl, hm with
    | 0, hm =>
      replace hm : 8 * (n - st.1) + 6 ≤ ((m + 1 : Nat) : Int) := hm
      refine Gdx.mono (P := fun a => st.1 < a.1.1 ∧ a.1.1 ≤ n) ?_ (fun a ha => ⟨⟨by omega, fun _ => ha.1⟩, ha.2⟩)
      show Gdx (pb (fmS X n m 1 d x st) _) _
      refine (ih 1 d x st hp (by show _ + 5 ≤ _; omega)).bd (fun r hr => Gdx.ite (fun c => ?_) (fun _ => Gdx.ok ⟨hr.1.2 (by decide), hr.2⟩))
      obtain ⟨b1, b2⟩ := two (l := 0) hr.1.1 hr.2 (by decide) c
      exact (ih 1 d x _ b2 (by show _ + 5 ≤ _; omega)).bd (fun u hu => Gdx.ok ⟨by show st.1 < u.1.1; omega, hu.2⟩)
    | 1, hm =>
      replace hm : 8 * (n - st.1) + 5 ≤ ((m + 1 : Nat) : Int) := hm
      refine Gdx.mono (P := fun a => st.1 < a.1.1 ∧ a.1.1 ≤ n) ?_ (fun a ha => ⟨⟨by omega, fun _ => ha.1⟩, ha.2⟩)
      show Gdx (pb (fmS X n m 2 d x st) _) _
      refine (ih 2 d x st hp (by show _ + 4 ≤ _; omega)).bd (fun r hr => Gdx.ite (fun c => nstS_g.bd (fun dd _ => ?_)) (fun _ => Gdx.ok ⟨hr.1.2 (by decide), hr.2⟩))
      obtain ⟨b1, b2⟩ := two (l := 0) hr.1.1 hr.2 (by decide) c
      exact (ih 1 dd x _ b2 (by show _ + 5 ≤ _; omega)).bd (fun u hu => Gdx.ok ⟨by show st.1 < u.1.1; omega, hu.2⟩)
    | 2, hm =>
      replace hm : 8 * (n - st.1) + 4 ≤ ((m + 1 : Nat) : Int) := hm
      show Gdx (pb (fmS X n m 3 d x st) _) _
      refine (ih 3 d x st hp (by show _ + 3 ≤ _; omega)).bd (fun r hr => ?_)
      have h1 := hr.1.2 (by decide)
      exact (ih 5 d r.2 r.1 hr.2 (by show _ + 1 ≤ _; omega)).mono (fun a ha => ⟨⟨by omega, fun _ => by omega⟩, ha.2⟩)
    | 3, hm =>
      replace hm : 8 * (n - st.1) + 3 ≤ ((m + 1 : Nat) : Int) := hm
      show Gdx (pb (fmS X n m 4 d x st) _) _
      refine (ih 4 d x st hp (by show _ + 2 ≤ _; omega)).bd (fun r hr => ?_)
      have h1 := hr.1.2 (by decide)
      exact (ih 6 d r.2 r.1 hr.2 (by show _ + 1 ≤ _; omega)).mono (fun a ha => ⟨⟨by omega, fun _ => by omega⟩, ha.2⟩)
    | 5, hm =>
      replace hm : 8 * (n - st.1) + 1 ≤ ((m + 1 : Nat) : Int) := hm
      show Gdx (if tk X n st.1 = 124 then pb (fmS X n m 3 d x (adv X n st)) (fun r => fmS X n m 5 d (mk2 5 x r.2) r.1) else pOk (st, x)) _
      refine Gdx.ite (fun c => ?_) (fun _ => Gdx.ok ⟨⟨Int.le_refl _, fun h => absurd (Or.inl rfl) h⟩, hp⟩)
      obtain ⟨b1, b2⟩ := adv_g (X := X) hp (by rw [c]; decide)
      refine (ih 3 d x _ b2 (by show _ + 3 ≤ _; omega)).bd (fun u hu => ?_)
      exact (ih 5 d _ u.1 hu.2 (by show _ + 1 ≤ _; omega)).mono (fun a ha => ⟨⟨by omega, fun h => absurd (Or.inl rfl) h⟩, ha.2⟩)
    | 6, hm =>
      replace hm : 8 * (n - st.1) + 1 ≤ ((m + 1 : Nat) : Int) := hm
      show Gdx (if tk X n st.1 = 38 then pb (fmS X n m 4 d x (adv X n st)) (fun r => fmS X n m 6 d (mk2 4 x r.2) r.1) else pOk (st, x)) _
      refine Gdx.ite (fun c => ?_) (fun _ => Gdx.ok ⟨⟨Int.le_refl _, fun h => absurd (Or.inr rfl) h⟩, hp⟩)
      obtain ⟨b1, b2⟩ := adv_g (X := X) hp (by rw [c]; decide)
      refine (ih 4 d x _ b2 (by show _ + 2 ≤ _; omega)).bd (fun u hu => ?_)
      exact (ih 6 d _ u.1 hu.2 (by show _ + 1 ≤ _; omega)).mono (fun a ha => ⟨⟨by omega, fun h => absurd (Or.inr rfl) h⟩, ha.2⟩)
    | 4, hm => exact (unit hm).mono (fun a ha => ⟨⟨by omega, fun _ => ha.1⟩, ha.2⟩)
    | l + 7, hm =>
      have e : lvW (l + 7) = 2 := by unfold lvW; rw [if_neg (by omega), if_neg (by omega), if_neg (by omega), if_neg (by omega), if_neg (by omega)]
      rw [e] at hm
      exact (unit hm).mono (fun a ha => ⟨⟨by omega, fun _ => ha.1⟩, ha.2⟩)
theorem seS_g {X : Int → Int} {n : Int} : ∀ (m : Nat) (st : PS) (L : List SE), st.1 ≤ n → 9 * (n - st.1) + 7 ≤ (m : Int) → (L.length : Int) ≤ st.1 → Gdx (seS X n m st L) (fun a => a.1.1 ≤ n ∧ (a.2.length : Int) ≤ a.1.1)
  | 0, st, L, hp, hm, hL => by exfalso; omega
  | m + 1, st, L, hp, hm, hL => by
    unfold seS
    refine Gdx.ite (fun _ => Gdx.ok ⟨hp, hL⟩) (fun c => ?_)
    obtain ⟨a1, a2⟩ := adv_g (X := X) hp c
    have a1 : st.1 < te X n st.1 := a1
    have a2 : te X n st.1 ≤ n := a2
    have hs : st.1 ≤ (if prvS X n st.1 = true then te X n st.1 else st.1) ∧ (if prvS X n st.1 = true then te X n st.1 else st.1) ≤ n := by split <;> omega
    refine (fmS_g m 0 0 (0, nl) ((if prvS X n st.1 = true then te X n st.1 else st.1), st.2.1, st.2.2.1, [], []) hs.2 (by show _ * (n - (if prvS X n st.1 = true then te X n st.1 else st.1)) + 6 ≤ _; omega)).bd (fun r hr => Gdx.ite (fun c46 => ?_) (fun _ => Gdx.no (by decide)))
    have h1 : (if prvS X n st.1 = true then te X n st.1 else st.1) < r.1.1 := hr.1.2 (by decide)
    obtain ⟨b1, b2⟩ := adv_g (X := X) (st := r.1) hr.2 (by rw [c46]; decide)
    exact seS_g m (adv X n r.1) _ b2 (by omega) (by rw [List.length_append]; simp only [List.length_cons, List.length_nil]; omega)
theorem seS_all {X : Int → Int} {n : Int} (h0 : 0 ≤ n) : ∃ m r, seS X n m (0, [], [], [], []) [] = some r ∧ (∀ e, r = .inl e → 1 ≤ e.1) ∧ ∀ a, r = .inr a → (a.2.length : Int) ≤ n := by
  obtain ⟨r, h1, h2, h3⟩ := seS_g (X := X) (n := n) (9 * n + 7).toNat (0, [], [], [], []) [] h0 (by show 9 * (n - 0) + 7 ≤ _; omega) (Int.le_refl _)
  exact ⟨_, r, h1, h2, fun a ha => by have := h3 a ha; omega⟩
/-- free VARIABLES of all SENTENCES: no more than VARIABLES -/
theorem frL_b {SL0 : List SE} (hU : UA SL0) : ∀ {L : List SE} {lo hi : Nat}, (∀ e ∈ L, e ∈ SL0) → SU L lo hi → frL L + lo ≤ hi
  | [], lo, hi, _, h => by
    have h : lo = hi := h
    have e : frL [] = 0 := rfl
    omega
  | e :: L, lo, hi, hs, ⟨mid, a, b, c, d⟩ => by
    have ih := frL_b hU (fun x hx => hs x (List.mem_cons_of_mem _ hx)) d
    have h1 : e.2.2.2.length ≤ mid - lo := by
      have hp := pig (mid - lo) (e.2.2.2.map (fun v => (v - (lo : Int)).toNat)) ?_ ?_
      · rw [List.length_map] at hp; exact hp
      · refine List.pairwise_map.mpr (List.pairwise_iff_getElem.mpr (fun i j hi hj hij hE => ?_))
        have g1 : e.2.2.2[i]? = some e.2.2.2[i] := List.getElem?_eq_getElem hi
        have g2 : e.2.2.2[j]? = some e.2.2.2[j] := List.getElem?_eq_getElem hj
        have z1 := b _ (List.mem_of_getElem? g1)
        have z2 := b _ (List.mem_of_getElem? g2)
        have hE : e.2.2.2[i] = e.2.2.2[j] := by omega
        have z3 : ((e.2.2.2[i].toNat : Nat) : Int) = e.2.2.2[i] := Int.toNat_of_nonneg (by omega)
        have := hU e.2.2.2[i].toNat i j ⟨e, hs e List.mem_cons_self, Or.inl (by rw [z3]; exact g1)⟩ ⟨e, hs e List.mem_cons_self, Or.inl (by rw [z3, hE]; exact g2)⟩
        omega
      · intro x hx
        obtain ⟨v, hv, rfl⟩ := List.mem_map.mp hx
        have := b v hv
        omega
    have hle : lo ≤ mid := by
      have := SU.le (L := [e]) (lo := lo) (hi := mid) ⟨mid, a, b, c, rfl⟩
      exact this
    have e2 : frL (e :: L) = e.2.2.2.length + frL L := rfl
    omega
