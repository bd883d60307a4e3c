/-! each VARIABLE's number is bound once, or free -/
def UQs : T → Nat → Nat → Prop
  | .leaf _, lo, hi => lo ≤ hi
  | .branch l k s, lo, hi => ∃ mid, (if l ≤ 2 then lo ≤ mid else if l ≤ 7 then UQs k lo mid else lo ≤ (l - 8) / 2 ∧ UQs k ((l - 8) / 2 + 1) mid) ∧ UQs s mid hi
def bnF : T → Nat → Prop
  | .leaf _, _ => False
  | .branch l k s, v => (2 < l ∧ ((8 ≤ l ∧ v = (l - 8) / 2) ∨ bnF k v)) ∨ bnF s v
theorem UQs.le : ∀ {F : T} {lo hi : Nat}, UQs F lo hi → lo ≤ hi
  | .leaf _, lo, hi, h => h
  | .branch l k s, lo, hi, ⟨mid, h1, h2⟩ => by
    have a2 := UQs.le h2
    by_cases c1 : l ≤ 2
    · rw [if_pos c1] at h1; omega
    rw [if_neg c1] at h1
    by_cases c2 : l ≤ 7
    · rw [if_pos c2] at h1
      have := UQs.le h1; omega
    rw [if_neg c2] at h1
    have := UQs.le h1.2; omega
theorem UQs.b : ∀ {F : T} {lo hi v : Nat}, UQs F lo hi → bnF F v → lo ≤ v ∧ v < hi
  | .leaf _, lo, hi, v, _, h => h.elim
  | .branch l k s, lo, hi, v, ⟨mid, h1, h2⟩, h => by
    have a2 := UQs.le h2
    rcases h with ⟨h3, h4⟩ | h
    · rw [if_neg (by omega)] at h1
      by_cases c2 : l ≤ 7
      · rw [if_pos c2] at h1
        rcases h4 with ⟨h5, _⟩ | h4
        · omega
        · have := UQs.b h1 h4; omega
      rw [if_neg c2] at h1
      have a3 := UQs.le h1.2
      rcases h4 with ⟨_, h5⟩ | h4
      · omega
      · have := UQs.b h1.2 h4; omega
    · have hm : lo ≤ mid := by
        by_cases c1 : l ≤ 2
        · rw [if_pos c1] at h1; omega
        rw [if_neg c1] at h1
        by_cases c2 : l ≤ 7
        · rw [if_pos c2] at h1
          exact UQs.le h1
        rw [if_neg c2] at h1
        have := UQs.le h1.2; omega
      have := UQs.b h2 h; omega
theorem UQs.w : ∀ {F : T} {lo lo2 hi hi2 : Nat}, UQs F lo hi → lo2 ≤ lo → hi ≤ hi2 → UQs F lo2 hi2
  | .leaf _, lo, lo2, hi, hi2, h, h1, h2 => by have h : lo ≤ hi := h; show lo2 ≤ hi2; omega
  | .branch l k s, lo, lo2, hi, hi2, ⟨mid, h1, h2⟩, h3, h4 => by
    refine ⟨mid, ?_, UQs.w h2 (Nat.le_refl _) h4⟩
    by_cases c1 : l ≤ 2
    · rw [if_pos c1] at h1 ⊢; omega
    rw [if_neg c1] at h1 ⊢
    by_cases c2 : l ≤ 7
    · rw [if_pos c2] at h1 ⊢
      exact UQs.w h1 h3 (Nat.le_refl _)
    rw [if_neg c2] at h1 ⊢
    exact ⟨by omega, h1.2⟩
theorem UQs.at {f : Tm} {lo hi : Nat} (h : f.1 ≤ 2) (hl : lo ≤ hi) : UQs (tt f) lo hi := ⟨hi, by rw [if_pos h]; exact hl, Nat.le_refl _⟩
theorem UQs.m1 {f : Tm} {lo hi : Nat} (h : UQs (tt f) lo hi) : UQs (tt (mk1 3 f)) lo hi := ⟨hi, h, Nat.le_refl _⟩
theorem UQs.mq {f : Tm} {lo hi l : Nat} (h8 : 8 ≤ l) (h0 : lo ≤ (l - 8) / 2) (h : UQs (tt f) ((l - 8) / 2 + 1) hi) : UQs (tt (mk1 l f)) lo hi := by
  refine ⟨hi, ?_, Nat.le_refl _⟩
  show (if l ≤ 2 then _ else if l ≤ 7 then _ else lo ≤ (l - 8) / 2 ∧ UQs (tt f) ((l - 8) / 2 + 1) hi)
  rw [if_neg (by omega), if_neg (by omega)]
  exact ⟨h0, h⟩
theorem UQs.m2 {f g : Tm} {lo mid hi l : Nat} (l4 : 4 ≤ l) (l7 : l ≤ 7) (h : UQs (tt f) lo mid) (h2 : UQs (tt g) mid hi) : UQs (tt (mk2 l f g)) lo hi := by
  refine ⟨hi, ?_, Nat.le_refl _⟩
  show (if l ≤ 2 then _ else if l ≤ 7 then UQs (nd f.1 f.2 (nd g.1 g.2 nl)) lo hi else _)
  rw [if_neg (by omega), if_pos l7]
  obtain ⟨m1, a1, a2⟩ := h
  have a2 : m1 ≤ mid := a2
  exact ⟨m1, a1, UQs.w h2 a2 (Nat.le_refl _)⟩
theorem UQs.qn {k first : Nat} (hk : k ≤ 1) : ∀ (j : Nat) {f : Tm} {hi : Nat}, UQs (tt f) (first + j) hi → UQs (tt (qnt k first j f)) first hi
  | 0, f, hi, h => h
  | j + 1, f, hi, h => by
    unfold qnt
    refine UQs.qn hk j (UQs.mq (by omega) ?_ ?_)
    · omega
    · rw [show (8 + k + 2 * (first + j) - 8) / 2 + 1 = first + (j + 1) by omega]; exact h
theorem bnF_m1 {l : Nat} {f : Tm} {v : Nat} (h : bnF (tt f) v) (hl : 3 ≤ l) : bnF (tt (mk1 l f)) v := Or.inl ⟨hl, Or.inr h⟩
theorem bnF_m2 {l : Nat} {f g : Tm} {v : Nat} (hl : 3 ≤ l) (h : bnF (tt f) v ∨ bnF (tt g) v) : bnF (tt (mk2 l f g)) v := by
  refine Or.inl ⟨hl, Or.inr ?_⟩
  rcases h with h | h
  · rcases h with h | h
    · exact Or.inl h
    · exact h.elim
  · exact Or.inr h
theorem bnF_qn {k first : Nat} (hk : k ≤ 1) : ∀ (j : Nat) {f : Tm} {v : Nat}, (bnF (tt f) v ∨ (first ≤ v ∧ v < first + j)) → bnF (tt (qnt k first j f)) v
  | 0, f, v, h => by
    rcases h with h | h
    · exact h
    · omega
  | j + 1, f, v, h => by
    unfold qnt
    refine bnF_qn hk j ?_
    rcases h with h | h
    · exact Or.inl (bnF_m1 h (by omega))
    · by_cases c : v = first + j
      · exact Or.inl (Or.inl ⟨by show 2 < 8 + k + 2 * (first + j); omega, Or.inl ⟨by show 8 ≤ 8 + k + 2 * (first + j); omega, by show v = (8 + k + 2 * (first + j) - 8) / 2; omega⟩⟩)
      · exact Or.inr ⟨h.1, by omega⟩
/-- all numbers from lo on are bound in it, or free -/
def Cov (lo : Nat) (f : Tm) (st : PS) : Prop := UQs (tt f) lo st.2.2.1.length ∧ ∀ v : Nat, lo ≤ v → v < st.2.2.1.length → bnF (tt f) v ∨ (v : Int) ∈ st.2.2.2.2
theorem PI.fr {a b : PS} (h : PI a b) {v : Int} (hv : v ∈ a.2.2.2.2) : v ∈ b.2.2.2.2 := by
  obtain ⟨_, _, _, M, m1, _⟩ := h
  rw [m1]; exact List.mem_append_left _ hv
theorem varS_u {X : Int → Int} {n : Int} {st : PS} {a : PS × Int} (h2 : varS X n st = pOk a) : ∀ v : Nat, st.2.2.1.length ≤ v → v < a.1.2.2.1.length → (v : Int) ∈ a.1.2.2.2.2 := by
  unfold varS at h2
  intro v h3 h4
  cases hv : vrF X (wd X (tq X n st.1) (te X n st.1)) st.2.2.1 st.2.2.2.1 with
  | some u => rw [hv] at h2; cases h2; exact absurd (show v < st.2.2.1.length from h4) (by omega)
  | none =>
    rw [hv] at h2
    dsimp only at h2
    cases hv2 : vrF X (wd X (tq X n st.1) (te X n st.1)) st.2.2.1 st.2.2.2.2 with
    | some u => rw [hv2] at h2; cases h2; exact absurd (show v < st.2.2.1.length from h4) (by omega)
    | none =>
      rw [hv2] at h2
      dsimp only at h2
      unfold bndS at h2
      by_cases hb : st.2.2.1.length = 300
      · rw [if_pos hb] at h2; cases h2
      · rw [if_neg hb] at h2
        cases h2
        have h4 : v < (st.2.2.1 ++ [(tq X n st.1, te X n st.1 - tq X n st.1)]).length := h4
        rw [List.length_append] at h4
        have h4 : v < st.2.2.1.length + 1 := h4
        have : v = st.2.2.1.length := by omega
        subst this
        show ((st.2.2.1.length : Nat) : Int) ∈ st.2.2.2.2 ++ [((st.2.2.1.length : Nat) : Int)]
        simp
theorem sdS_u {X : Int → Int} {n : Int} (hn : n ≤ 20000) : ∀ (m : Nat) (b : Bool) (d : Int) (st : PS) (a : PS × T), PV st → sdS X n m b d st = pOk a → ∀ v : Nat, st.2.2.1.length ≤ v → v < a.1.2.2.1.length → (v : Int) ∈ a.1.2.2.2.2
  | 0, b, d, st, a, _, h => by cases h
  | m + 1, true, d, st, a, hV, h => by
    unfold sdS at h
    obtain ⟨r, h1, h2⟩ := pb_y h
    obtain ⟨i1, i2, i3⟩ := sdS_i hn m false d st r hV h1
    have u1 := sdS_u hn m false d st r hV h1
    intro v v1 v2
    by_cases c1 : tk X n r.1.1 = 44
    · rw [if_pos c1] at h2
      obtain ⟨u, h3, h4⟩ := pb_y h2
      cases h4
      have hV1 := hV.i (i1.tr (PI.adv (X := X) (n := n) r.1)) i2
      obtain ⟨j1, j2, j3⟩ := sdS_i hn m true d (adv X n r.1) u hV1 h3
      have u2 := sdS_u hn m true d (adv X n r.1) u hV1 h3
      by_cases c : v < r.1.2.2.1.length
      · exact j1.fr (u1 v v1 c)
      · exact u2 v (by show r.1.2.2.1.length ≤ v; omega) v2
    · rw [if_neg c1] at h2
      by_cases c2 : tk X n r.1.1 = 41
      · rw [if_pos c2] at h2
        cases h2
        exact u1 v v1 v2
      · rw [if_neg c2] at h2; cases h2
  | m + 1, false, d, st, a, hV, h => by
    unfold sdS at h
    intro v v1 v2
    by_cases c1 : tk X n st.1 = 1
    · rw [if_pos c1] at h
      obtain ⟨r, h1, h2⟩ := pb_y h
      cases h2
      exact varS_u h1 v v1 v2
    · rw [if_neg c1] at h
      by_cases c2 : tk X n st.1 = 2
      · rw [if_pos c2] at h
        obtain ⟨r, h1, h2⟩ := pb_y h
        obtain ⟨u, h3, h4⟩ := pb_y h2
        obtain ⟨st4, h5, h6⟩ := pb_y h4
        cases h6
        obtain ⟨i1, i2, i3, i4, i5⟩ := symS_i h1
        obtain ⟨k1, k2, k3, k4⟩ := chkS_i (by decide) h5
        have e3 : st4.2.2 = u.1.2.2 := k3
        show (v : Int) ∈ st4.2.2.2.2
        have v2 : v < st4.2.2.1.length := v2
        rw [e3] at v2 ⊢
        by_cases c40 : tk X n (adv X n r.1).1 = 40
        · rw [if_pos c40] at h3
          obtain ⟨dd, h7, h8⟩ := pb_y h3
          exact sdS_u hn m true dd (adv X n (adv X n r.1)) u (hV.i ((i1.tr (PI.adv r.1)).tr (PI.adv _)) (by show r.1.2.2.2.1 = _; rw [i3])) h8 v (by show r.1.2.2.1.length ≤ v; rw [i3]; exact v1) v2
        · rw [if_neg c40] at h3
          cases h3
          have v2 : v < r.1.2.2.1.length := v2
          rw [i3] at v2
          omega
      · rw [if_neg c2] at h; cases h
theorem eqnS_u {X : Int → Int} {n : Int} (hn : n ≤ 20000) {m : Nat} {t : T} {d : Int} {st : PS} {a : PS × Tm} (hV : PV st) (h : eqnS X n m t d st = pOk a) : PI st a.1 ∧ ∀ v : Nat, st.2.2.1.length ≤ v → v < a.1.2.2.1.length → (v : Int) ∈ a.1.2.2.2.2 := by
  unfold eqnS at h
  obtain ⟨r, h1, h2⟩ := pb_y h
  cases h2
  have hV1 := hV.i (PI.adv (X := X) (n := n) st) rfl
  exact ⟨(PI.adv st).tr (sdS_i hn m false d (adv X n st) r hV1 h1).1, sdS_u hn m false d (adv X n st) r hV1 h1⟩
theorem atmS_u {X : Int → Int} {n : Int} (hn : n ≤ 20000) {m : Nat} {d : Int} {st : PS} {a : PS × Tm} (hV : PV st) (h : atmS X n m d st = pOk a) : ∀ v : Nat, st.2.2.1.length ≤ v → v < a.1.2.2.1.length → (v : Int) ∈ a.1.2.2.2.2 := by
  unfold atmS at h
  intro v v1 v2
  by_cases c1 : tk X n st.1 = 1
  · rw [if_pos c1] at h
    obtain ⟨r, h1, h2⟩ := pb_y h
    obtain ⟨i1, i2, i3, i4⟩ := varS_i h1 hn
    by_cases c2 : tk X n (adv X n r.1).1 = 61 ∨ tk X n (adv X n r.1).1 = 300
    · rw [if_pos c2] at h2
      have hV1 := hV.i (i1.tr (PI.adv (X := X) (n := n) r.1)) i3
      obtain ⟨j1, j2⟩ := eqnS_u hn hV1 h2
      by_cases c : v < r.1.2.2.1.length
      · exact j1.fr (varS_u h1 v v1 c)
      · exact j2 v (by show r.1.2.2.1.length ≤ v; omega) v2
    · rw [if_neg c2] at h2; cases h2
  · rw [if_neg c1] at h
    obtain ⟨r, h1, h2⟩ := pb_y h
    obtain ⟨u, h3, h4⟩ := pb_y h2
    obtain ⟨s4, h5, h6⟩ := pb_y h4
    obtain ⟨i1, i2, i3, i4, i5⟩ := symS_i h1
    obtain ⟨k1, k2, k3, k4⟩ := chkS_i (by split <;> decide) h5
    have ju : PI (adv X n r.1) u.1 ∧ u.1.2.2.2.1 = r.1.2.2.2.1 ∧ ∀ v : Nat, st.2.2.1.length ≤ v → v < u.1.2.2.1.length → (v : Int) ∈ u.1.2.2.2.2 := by
      by_cases c40 : tk X n (adv X n r.1).1 = 40
      · rw [if_pos c40] at h3
        obtain ⟨dd, h7, h8⟩ := pb_y h3
        have hV1 : PV (adv X n (adv X n r.1)) := hV.i ((i1.tr (PI.adv r.1)).tr (PI.adv _)) (by show r.1.2.2.2.1 = _; rw [i3])
        obtain ⟨j1, j2, j3⟩ := sdS_i hn m true dd (adv X n (adv X n r.1)) u hV1 h8
        exact ⟨(PI.adv _).tr j1, j2, fun v v1 v2 => sdS_u hn m true dd (adv X n (adv X n r.1)) u hV1 h8 v (by show r.1.2.2.1.length ≤ v; rw [i3]; exact v1) v2⟩
      · rw [if_neg c40] at h3
        cases h3
        exact ⟨PI.rf, rfl, fun v v1 v2 => by
          have v2 : v < r.1.2.2.1.length := v2
          rw [i3] at v2
          omega⟩
    obtain ⟨j1, j2, j3⟩ := ju
    have e3 : s4.2.2 = u.1.2.2 := k3
    by_cases c2 : tk X n u.1.1 = 61 ∨ tk X n u.1.1 = 300
    · rw [if_pos c2] at h6
      have hV4 : PV s4 := hV.i ((i1.tr (PI.adv r.1)).tr (j1.tr k1)) (by rw [e3, j2, i3])
      obtain ⟨q1, q2⟩ := eqnS_u hn hV4 h6
      by_cases c : v < s4.2.2.1.length
      · exact q1.fr (by rw [e3]; exact j3 v v1 (by rw [← e3]; exact c))
      · exact q2 v (by omega) v2
    · rw [if_neg c2] at h6
      cases h6
      have v2 : v < s4.2.2.1.length := v2
      show (v : Int) ∈ s4.2.2.2.2
      rw [e3] at v2 ⊢
      exact j3 v v1 v2
theorem Cov.two {lo : Nat} {l : Nat} {x r : Tm} {st u : PS} (l4 : 4 ≤ l) (l7 : l ≤ 7) (h : Cov lo x st) (hp : PI st u) (h2 : Cov st.2.2.1.length r u) : Cov lo (mk2 l x r) u := by
  refine ⟨UQs.m2 l4 l7 h.1 h2.1, fun v v1 v2 => ?_⟩
  by_cases c : v < st.2.2.1.length
  · rcases h.2 v v1 c with g | g
    · exact Or.inl (bnF_m2 (by omega) (Or.inl g))
    · exact Or.inr (hp.fr g)
  · rcases h2.2 v (by omega) v2 with g | g
    · exact Or.inl (bnF_m2 (by omega) (Or.inr g))
    · exact Or.inr g
theorem fmS_u {X : Int → Int} {n : Int} (hn : n ≤ 20000) : ∀ (m lvl : Nat) (d : Int) (x : Tm) (st : PS) (a : PS × Tm) (b0 : Nat), PV st → (lvl = 5 ∨ lvl = 6 → WFo1 st.2.1 x (vOf st) ∧ Cov b0 x st) → (¬ (lvl = 5 ∨ lvl = 6) → b0 = st.2.2.1.length) → fmS X n m lvl d x st = pOk a → Cov b0 a.2 a.1
  | 0, lvl, d, x, st, a, b0, _, _, _, h => by cases h
  | m + 1, lvl, d, x, st, a, b0, hV, hx, hb, h => by
    have ih := fmS_u (X := X) hn m
    have fi := fmS_i (X := X) hn m
    have two : ∀ (lv : Nat) (dd : Int) (y : Tm) (s1 : PS) (u : PS × Tm), lv ≤ 4 → PV s1 → fmS X n m lv dd y (adv X n s1) = pOk u → PI s1 u.1 ∧ u.1.2.2.2.1 = s1.2.2.2.1 ∧ PV u.1 ∧ WFo1 u.1.2.1 u.2 (vOf u.1) ∧ Cov s1.2.2.1.length u.2 u.1 := fun lv dd y s1 u hlv hV1 hu => by
      have v1 : PV (adv X n s1) := hV1.i (PI.adv s1) rfl
      obtain ⟨i1, i2, i3⟩ := fi lv dd y (adv X n s1) u v1 (by intro h; omega) hu
      have i4 : PI s1 u.1 := (PI.adv s1).tr i1
      exact ⟨i4, i2, hV1.i i4 i2, i3, ih lv dd y (adv X n s1) u _ v1 (by intro h; omega) (fun _ => rfl) hu⟩
    have one : ∀ (lv : Nat) (r : PS × Tm), lv ≤ 4 → fmS X n m lv d x st = pOk r → PI st r.1 ∧ r.1.2.2.2.1 = st.2.2.2.1 ∧ PV r.1 ∧ WFo1 r.1.2.1 r.2 (vOf r.1) ∧ Cov st.2.2.1.length r.2 r.1 := fun lv r hlv hu => by
      obtain ⟨i1, i2, i3⟩ := fi lv d x st r hV (by intro h; omega) hu
      exact ⟨i1, i2, hV.i i1 i2, i3, ih lv d x st r _ hV (by intro h; omega) (fun _ => rfl) hu⟩
    have unit : b0 = st.2.2.1.length → (if tk X n st.1 = 126 then pb (nstS X n d (adv X n st)) (fun d1 => pb (fmS X n m 4 d1 x (adv X n st)) (fun r => pOk (r.1, mk1 3 r.2)))
    else if tk X n st.1 = 33 ∨ tk X n st.1 = 63 then
      if tk X n (adv X n st).1 = 1 then pb (bdsS X n m (adv X n st)) (fun s1 => if tk X n s1.1 = 58 then pb (nstS X n d (adv X n s1)) (fun d1 => pb (fmS X n m 0 d1 x (adv X n s1)) (fun r => pOk ((r.1.1, r.1.2.1, r.1.2.2.1, st.2.2.2.1, r.1.2.2.2.2), qnt (if tk X n st.1 = 33 then 0 else 1) st.2.2.1.length (s1.2.2.1.length - st.2.2.1.length) r.2))) else pNo 1 (tq X n s1.1))
      else pNo 1 (tq X n (adv X n st).1)
    else if tk X n st.1 = 40 then pb (nstS X n d (adv X n st)) (fun d1 => pb (fmS X n m 0 d1 x (adv X n st)) (fun r => if tk X n r.1.1 = 41 then pOk (adv X n r.1, r.2) else pNo 1 (tq X n r.1.1)))
    else if tk X n st.1 = 1 ∨ tk X n st.1 = 2 then atmS X n m d st
    else pNo 1 (tq X n st.1)) = pOk a → Cov b0 a.2 a.1 := fun hb h => by
      rw [hb]
      by_cases c1 : tk X n st.1 = 126
      · rw [if_pos c1] at h
        obtain ⟨dd, h1, h2⟩ := pb_y h
        obtain ⟨r, h3, h4⟩ := pb_y h2
        cases h4
        obtain ⟨_, _, _, _, j⟩ := two 4 dd x st r (by omega) hV h3
        exact ⟨UQs.m1 j.1, fun v v1 v2 => (j.2 v v1 v2).imp (fun g => bnF_m1 g (by omega)) id⟩
      rw [if_neg c1] at h
      by_cases c2 : tk X n st.1 = 33 ∨ tk X n st.1 = 63
      · rw [if_pos c2] at h
        by_cases c3 : tk X n (adv X n st).1 = 1
        · rw [if_pos c3] at h
          obtain ⟨s1, h1, h2⟩ := pb_y h
          by_cases c4 : tk X n s1.1 = 58
          · rw [if_pos c4] at h2
            obtain ⟨dd, h3, h4⟩ := pb_y h2
            obtain ⟨r, h5, h6⟩ := pb_y h4
            cases h6
            obtain ⟨v1, bl⟩ := PV_bds hV h1
            have j := ih 0 dd x (adv X n s1) r _ v1 (by intro h; omega) (fun _ => rfl) h5
            have j1 : UQs (tt r.2) s1.2.2.1.length r.1.2.2.1.length := j.1
            have hk : (if tk X n st.1 = 33 then 0 else 1) ≤ 1 := by split <;> omega
            refine ⟨UQs.qn hk _ (by rw [show st.2.2.1.length + (s1.2.2.1.length - st.2.2.1.length) = s1.2.2.1.length by omega]; exact j1), fun v v1 v2 => ?_⟩
            show bnF (tt (qnt _ _ _ r.2)) v ∨ (v : Int) ∈ r.1.2.2.2.2
            by_cases c : v < s1.2.2.1.length
            · exact Or.inl (bnF_qn hk _ (Or.inr ⟨v1, by omega⟩))
            · rcases j.2 v (by show s1.2.2.1.length ≤ v; omega) v2 with g | g
              · exact Or.inl (bnF_qn hk _ (Or.inl g))
              · exact Or.inr g
          · rw [if_neg c4] at h2; cases h2
        · rw [if_neg c3] at h; cases h
      rw [if_neg c2] at h
      by_cases c5 : tk X n st.1 = 40
      · rw [if_pos c5] at h
        obtain ⟨dd, h1, h2⟩ := pb_y h
        obtain ⟨r, h3, h4⟩ := pb_y h2
        by_cases c6 : tk X n r.1.1 = 41
        · rw [if_pos c6] at h4
          cases h4
          obtain ⟨_, _, _, _, j⟩ := two 0 dd x st r (by omega) hV h3
          exact j
        · rw [if_neg c6] at h4; cases h4
      rw [if_neg c5] at h
      by_cases c7 : tk X n st.1 = 1 ∨ tk X n st.1 = 2
      · rw [if_pos c7] at h
        exact ⟨UQs.at (atmS_l h) (atmS_i hn hV h).1.bd, fun v v1 v2 => Or.inr (atmS_u hn hV h v v1 v2)⟩
      · rw [if_neg c7] at h; cases h
    match lvl, hx, hb, h with
    | 0, _, hb, h =>
      have hb := hb (by omega)
      obtain ⟨r, h1, h2⟩ := pb_y (show pb (fmS X n m 1 d x st) _ = pOk a from h)
      obtain ⟨i1, i2, i3, i4, i5⟩ := one 1 r (by omega) h1
      rw [hb]
      by_cases c : tk X n r.1.1 = 302
      · rw [if_pos c] at h2
        obtain ⟨u, h3, h4⟩ := pb_y h2
        cases h4
        obtain ⟨j1, j2, j3, j4, j5⟩ := two 1 d x r.1 u (by omega) i3 h3
        exact i5.two (by omega) (by omega) j1 j5
      · rw [if_neg c] at h2; cases h2; exact i5
    | 1, _, hb, h =>
      have hb := hb (by omega)
      obtain ⟨r, h1, h2⟩ := pb_y (show pb (fmS X n m 2 d x st) _ = pOk a from h)
      obtain ⟨i1, i2, i3, i4, i5⟩ := one 2 r (by omega) h1
      rw [hb]
      by_cases c : tk X n r.1.1 = 301
      · rw [if_pos c] at h2
        obtain ⟨dd, h3, h4⟩ := pb_y h2
        obtain ⟨u, h5, h6⟩ := pb_y h4
        cases h6
        obtain ⟨j1, j2, j3, j4, j5⟩ := two 1 dd x r.1 u (by omega) i3 h5
        exact i5.two (by omega) (by omega) j1 j5
      · rw [if_neg c] at h2; cases h2; exact i5
    | 2, _, hb, h =>
      have hb := hb (by omega)
      obtain ⟨r, h1, h2⟩ := pb_y (show pb (fmS X n m 3 d x st) _ = pOk a from h)
      obtain ⟨i1, i2, i3, i4, i5⟩ := one 3 r (by omega) h1
      rw [hb]
      exact ih 5 d r.2 r.1 a _ i3 (fun _ => ⟨i4, i5⟩) (fun h => absurd (Or.inl rfl) h) h2
    | 3, _, hb, h =>
      have hb := hb (by omega)
      obtain ⟨r, h1, h2⟩ := pb_y (show pb (fmS X n m 4 d x st) _ = pOk a from h)
      obtain ⟨i1, i2, i3, i4, i5⟩ := one 4 r (by omega) h1
      rw [hb]
      exact ih 6 d r.2 r.1 a _ i3 (fun _ => ⟨i4, i5⟩) (fun h => absurd (Or.inr rfl) h) h2
    | 5, hx, _, h =>
      replace h : (if tk X n st.1 = 124 then pb (fmS X n m 3 d x (adv X n st)) (fun r => fmS X n m 5 d (mk2 5 x r.2) r.1) else pOk (st, x)) = pOk a := h
      obtain ⟨x1, x2⟩ := hx (Or.inl rfl)
      by_cases c : tk X n st.1 = 124
      · rw [if_pos c] at h
        obtain ⟨u, h1, h2⟩ := pb_y h
        obtain ⟨j1, j2, j3, j4, j5⟩ := two 3 d x st u (by omega) hV h1
        exact ih 5 d (mk2 5 x u.2) u.1 a b0 j3 (fun _ => ⟨WFo1.mk2 (by omega) (by omega) (x1.mono j1.2.1 (fun v hv => j1.vof j2 hv)) j4, x2.two (by omega) (by omega) j1 j5⟩) (fun h => absurd (Or.inl rfl) h) h2
      · rw [if_neg c] at h; cases h; exact x2
    | 6, hx, _, h =>
      replace h : (if tk X n st.1 = 38 then pb (fmS X n m 4 d x (adv X n st)) (fun r => fmS X n m 6 d (mk2 4 x r.2) r.1) else pOk (st, x)) = pOk a := h
      obtain ⟨x1, x2⟩ := hx (Or.inr rfl)
      by_cases c : tk X n st.1 = 38
      · rw [if_pos c] at h
        obtain ⟨u, h1, h2⟩ := pb_y h
        obtain ⟨j1, j2, j3, j4, j5⟩ := two 4 d x st u (by omega) hV h1
        exact ih 6 d (mk2 4 x u.2) u.1 a b0 j3 (fun _ => ⟨WFo1.mk2 (by omega) (by omega) (x1.mono j1.2.1 (fun v hv => j1.vof j2 hv)) j4, x2.two (by omega) (by omega) j1 j5⟩) (fun h => absurd (Or.inr rfl) h) h2
      · rw [if_neg c] at h; cases h; exact x2
    | 4, _, hb, h => exact unit (hb (by omega)) h
    | l + 7, _, hb, h => exact unit (hb (by omega)) h
/-- SENTENCES one behind the other -/
def SU : List SE → Nat → Nat → Prop
  | [], lo, hi => lo = hi
  | e :: L, lo, hi => ∃ mid, UQs (tt e.2.2.1) lo mid ∧ (∀ v ∈ e.2.2.2, (lo : Int) ≤ v ∧ v < (mid : Int)) ∧ (∀ v : Nat, lo ≤ v → v < mid → bnF (tt e.2.2.1) v ∨ (v : Int) ∈ e.2.2.2) ∧ SU L mid hi
theorem SU.app {M : List SE} {mid hi : Nat} : ∀ {L : List SE} {lo : Nat}, SU L lo mid → SU M mid hi → SU (L ++ M) lo hi
  | [], lo, h, h2 => by
    have h : lo = mid := h
    rw [h]; exact h2
  | e :: L, lo, ⟨md, a, b, c, d⟩, h2 => ⟨md, a, b, c, SU.app d h2⟩
theorem seS_u {X : Int → Int} {n : Int} (hn : n ≤ 20000) : ∀ (m : Nat) (st : PS) (L : List SE) (a : PS × List SE), SU L 0 st.2.2.1.length → seS X n m st L = pOk a → SU a.2 0 a.1.2.2.1.length
  | 0, st, L, a, _, h => by cases h
  | m + 1, st, L, a, hq, h => by
    unfold seS at h
    by_cases c0 : tk X n st.1 = 0
    · rw [if_pos c0] at h; cases h; exact hq
    rw [if_neg c0] at h
    obtain ⟨r, h1, h2⟩ := pb_y h
    by_cases c46 : tk X n r.1.1 = 46
    · rw [if_pos c46] at h2
      obtain ⟨s1, hs1⟩ : ∃ s : PS, s = ((if prvS X n st.1 = true then te X n st.1 else st.1), st.2.1, st.2.2.1, [], []) := ⟨_, rfl⟩
      rw [← hs1] at h1
      have v1 : PV s1 := fun v hv => by
        rw [hs1] at hv
        rcases hv with hv | hv <;> cases hv
      have l1 : s1.2.2.1 = st.2.2.1 := by rw [hs1]
      obtain ⟨i1, i2, i3⟩ := fmS_i hn m 0 0 (0, nl) s1 r v1 (by intro h; omega) h1
      have j := fmS_u hn m 0 0 (0, nl) s1 r s1.2.2.1.length v1 (by intro h; omega) (fun _ => rfl) h1
      rw [l1] at j
      refine seS_u hn m (adv X n r.1) _ a ?_ h2
      refine SU.app hq ⟨r.1.2.2.1.length, j.1, fun v hv => ?_, j.2, rfl⟩
      obtain ⟨_, _, _, M, m1, _, m3⟩ := i1
      have hv : v ∈ r.1.2.2.2.2 := hv
      rw [m1, show s1.2.2.2.2 = [] by rw [hs1]] at hv
      have := m3 v hv
      rw [l1] at this
      exact this
    · rw [if_neg c46] at h2; cases h2
