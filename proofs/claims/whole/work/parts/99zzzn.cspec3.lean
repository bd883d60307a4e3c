/-! what the nesting allows: right turns, and the numbers of VARIABLES -/
def QV (p : Nat → Prop) : T → Prop
  | .leaf _ => True
  | .branch l k s => (l ≤ 2 ∨ ((8 ≤ l → p ((l - 8) / 2)) ∧ QV p k)) ∧ QV p s
theorem QV.mono {p q : Nat → Prop} (h : ∀ v, p v → q v) : ∀ {F : T}, QV p F → QV q F
  | .leaf _, _ => trivial
  | .branch l k s, hh => ⟨hh.1.imp id (fun x => ⟨fun h8 => h _ (x.1 h8), QV.mono h x.2⟩), QV.mono h hh.2⟩
theorem QV.at {p : Nat → Prop} {f : Tm} (h : f.1 ≤ 2) : QV p (tt f) := ⟨Or.inl h, trivial⟩
theorem QV.m1 {p : Nat → Prop} {l : Nat} {f : Tm} (h : QV p (tt f)) (hl : 8 ≤ l → p ((l - 8) / 2)) : QV p (tt (mk1 l f)) := ⟨Or.inr ⟨hl, h⟩, trivial⟩
theorem QV.m2 {p : Nat → Prop} {l : Nat} {f g : Tm} (h : QV p (tt f)) (h2 : QV p (tt g)) (hl : l ≤ 7) : QV p (tt (mk2 l f g)) := ⟨Or.inr ⟨fun h8 => absurd (show 8 ≤ l from h8) (by omega), h.1, h2⟩, trivial⟩
theorem QV.qn {p : Nat → Prop} {k first : Nat} (hk : k ≤ 1) : ∀ (j : Nat) {f : Tm}, QV p (tt f) → (∀ v, first ≤ v → v < first + j → p v) → QV p (tt (qnt k first j f))
  | 0, f, h, _ => h
  | j + 1, f, h, hp => by
    unfold qnt
    refine QV.qn hk j (QV.m1 h (fun _ => ?_)) (fun v h1 h2 => hp v h1 (by omega))
    rw [show (8 + k + 2 * (first + j) - 8) / 2 = first + j by omega]
    exact hp _ (by omega) (by omega)
/-- how many right turns each rule of the grammar can make -/
def RB (lvl : Nat) (d : Int) (f : Tm) : Prop := ∀ s, (rF f s : Int) ≤ (if lvl = 4 ∨ 7 ≤ lvl then 60 - d else if (lvl = 3 ∨ lvl = 6) ∧ s = true then 60 - d else 61 - d)
theorem RB.u {lvl : Nat} {d : Int} {f : Tm} (h : RB lvl d f) : ∀ s, (rF f s : Int) ≤ 61 - d := fun s => by
  have := h s
  split at this
  · omega
  · split at this <;> omega
theorem RB.c {lvl : Nat} {d : Int} {f : Tm} (h : RB lvl d f) (hl : lvl = 3 ∨ lvl = 4 ∨ lvl = 6) : (rF f true : Int) ≤ 60 - d := by
  have := h true
  split at this
  · omega
  · split at this
    · omega
    · next h1 h2 => exact absurd ⟨by omega, rfl⟩ h2
theorem RB.n {lvl : Nat} {d : Int} {f : Tm} (h : RB lvl d f) (hl : lvl = 4) : ∀ s, (rF f s : Int) ≤ 60 - d := fun s => by
  have := h s
  rw [if_pos (Or.inl hl)] at this
  exact this
theorem RB.of {lvl : Nat} {d : Int} {f : Tm} (h : ∀ s, (rF f s : Int) ≤ 61 - d) (hl : lvl ≤ 2 ∨ lvl = 5) : RB lvl d f := fun s => by
  rw [if_neg (by omega), if_neg (by omega)]
  exact h s
theorem RB.oc {lvl : Nat} {d : Int} {f : Tm} (h : (rF f true : Int) ≤ 60 - d) (h2 : (rF f false : Int) ≤ 61 - d) (hl : lvl = 3 ∨ lvl = 6) : RB lvl d f := fun s => by
  rw [if_neg (by omega)]
  cases s
  · rw [if_neg (by simp)]; exact h2
  · rw [if_pos ⟨hl, rfl⟩]; exact h
theorem RB.on {lvl : Nat} {d : Int} {f : Tm} (h : ∀ s, (rF f s : Int) ≤ 60 - d) : RB lvl d f := fun s => by
  have := h s
  split
  · exact this
  · split <;> omega
theorem eqnS_l {X : Int → Int} {n : Int} {m : Nat} {t : T} {d : Int} {st : PS} {a : PS × Tm} (h : eqnS X n m t d st = pOk a) : a.2.1 ≤ 1 := by
  unfold eqnS at h
  obtain ⟨r, h1, h2⟩ := pb_y h
  cases h2
  show (if _ then 1 else 0) ≤ 1
  split <;> omega
theorem atmS_l {X : Int → Int} {n : Int} {m : Nat} {d : Int} {st : PS} {a : PS × Tm} (h : atmS X n m d st = pOk a) : a.2.1 ≤ 2 := by
  unfold atmS at h
  by_cases c1 : tk X n st.1 = 1
  · rw [if_pos c1] at h
    obtain ⟨r, h1, h2⟩ := pb_y h
    by_cases c2 : tk X n (adv X n r.1).1 = 61 ∨ tk X n (adv X n r.1).1 = 300
    · rw [if_pos c2] at h2
      have := eqnS_l h2; omega
    · rw [if_neg c2] at h2; cases h2
  · rw [if_neg c1] at h
    obtain ⟨r, h1, h2⟩ := pb_y h
    obtain ⟨u, h3, h4⟩ := pb_y h2
    obtain ⟨s4, h5, h6⟩ := pb_y h4
    by_cases c2 : tk X n u.1.1 = 61 ∨ tk X n u.1.1 = 300
    · rw [if_pos c2] at h6
      have := eqnS_l h6; omega
    · rw [if_neg c2] at h6
      cases h6
      exact Nat.le_refl _
theorem nstS_d {X : Int → Int} {n d d1 : Int} {st : PS} (h : nstS X n d st = pOk d1) (hd : d ≤ 60) : d1 = d + 1 ∧ d1 ≤ 60 := by
  unfold nstS at h
  by_cases h60 : d = 60
  · rw [if_pos h60] at h; cases h
  · rw [if_neg h60] at h; cases h; exact ⟨rfl, by omega⟩
theorem PV_bds {X : Int → Int} {n : Int} {m : Nat} {st s1 : PS} (hV : PV st) (h1 : bdsS X n m (adv X n st) = pOk s1) : PV (adv X n s1) ∧ st.2.2.1.length ≤ s1.2.2.1.length := by
  obtain ⟨b1, b2', b3, ⟨L1, b4⟩, L, b5, b6⟩ := bdsS_i m _ s1 h1
  have b3 : s1.2.2.2.2 = st.2.2.2.2 := b3
  have b4 : s1.2.2.1 = st.2.2.1 ++ L1 := b4
  have b5 : s1.2.2.2.1 = L ++ st.2.2.2.1 := b5
  have b6 : ∀ v, v ∈ L ↔ (st.2.2.1.length : Int) ≤ v ∧ v < (s1.2.2.1.length : Int) := b6
  have bl : st.2.2.1.length ≤ s1.2.2.1.length := by rw [b4, List.length_append]; omega
  refine ⟨fun v hv => ?_, bl⟩
  show 0 ≤ v ∧ v < (s1.2.2.1.length : Int)
  rcases hv with hv | hv
  · have hv : v ∈ s1.2.2.2.1 := hv
    rw [b5] at hv
    rcases List.mem_append.mp hv with hv | hv
    · have := (b6 v).mp hv; omega
    · have := hV v (Or.inl hv); omega
  · have hv : v ∈ s1.2.2.2.2 := hv
    rw [b3] at hv
    have := hV v (Or.inr hv); omega
theorem fmS_r {X : Int → Int} {n : Int} (hn : n ≤ 20000) : ∀ (m lvl : Nat) (d : Int) (x : Tm) (st : PS) (a : PS × Tm) (b0 : Nat), PV st → (lvl = 5 ∨ lvl = 6 → WFo1 st.2.1 x (vOf st) ∧ RB lvl d x ∧ QV (fun v => b0 ≤ v ∧ v < st.2.2.1.length) (tt x)) → d ≤ 60 → b0 ≤ st.2.2.1.length → fmS X n m lvl d x st = pOk a → RB lvl d a.2 ∧ QV (fun v => b0 ≤ v ∧ v < a.1.2.2.1.length) (tt a.2)
  | 0, lvl, d, x, st, a, b0, _, _, _, _, h => by cases h
  | m + 1, lvl, d, x, st, a, b0, hV, hx, hd, hb, h => by
    have ih := fmS_r (X := X) hn m
    have fi := fmS_i (X := X) hn m
    have mn : ∀ {c e : Nat} {F : T}, c ≤ e → QV (fun v => b0 ≤ v ∧ v < c) F → QV (fun v => b0 ≤ v ∧ v < e) F := fun hc hq => hq.mono (fun v hv => ⟨hv.1, by omega⟩)
    -- one more behind it
    have two : ∀ (lv : Nat) (dd : Int) (y : Tm) (s1 : PS) (u : PS × Tm), lv ≤ 4 → dd ≤ 60 → PV s1 → b0 ≤ s1.2.2.1.length → fmS X n m lv dd y (adv X n s1) = pOk u → PI s1 u.1 ∧ u.1.2.2.2.1 = s1.2.2.2.1 ∧ PV u.1 ∧ WFo1 u.1.2.1 u.2 (vOf u.1) ∧ s1.2.2.1.length ≤ u.1.2.2.1.length ∧ RB lv dd u.2 ∧ QV (fun v => b0 ≤ v ∧ v < u.1.2.2.1.length) (tt u.2) := fun lv dd y s1 u hlv hd1 hV1 hb1 hu => by
      have v1 : PV (adv X n s1) := hV1.i (PI.adv s1) rfl
      obtain ⟨i1, i2, i3⟩ := fi lv dd y (adv X n s1) u v1 (by intro h; omega) hu
      have i4 : PI s1 u.1 := (PI.adv s1).tr i1
      obtain ⟨j1, j2⟩ := ih lv dd y (adv X n s1) u b0 v1 (by intro h; omega) hd1 hb1 hu
      exact ⟨i4, i2, hV1.i i4 i2, i3, i4.bd, j1, j2⟩
    have one : ∀ (lv : Nat) (r : PS × Tm), lv ≤ 4 → fmS X n m lv d x st = pOk r → PI st r.1 ∧ r.1.2.2.2.1 = st.2.2.2.1 ∧ PV r.1 ∧ WFo1 r.1.2.1 r.2 (vOf r.1) ∧ st.2.2.1.length ≤ r.1.2.2.1.length ∧ RB lv d r.2 ∧ QV (fun v => b0 ≤ v ∧ v < r.1.2.2.1.length) (tt r.2) := fun lv r hlv hu => by
      obtain ⟨i1, i2, i3⟩ := fi lv d x st r hV (by intro h; omega) hu
      obtain ⟨j1, j2⟩ := ih lv d x st r b0 hV (by intro h; omega) hd hb hu
      exact ⟨i1, i2, hV.i i1 i2, i3, i1.bd, j1, j2⟩
    have unit : (if tk X n st.1 = 126 then pb (nstS X n d (adv X n st)) (fun d1 => pb (fmS X n m 4 d1 x (adv X n st)) (fun r => pOk (r.1, mk1 3 r.2)))
    else if tk X n st.1 = 33 ∨ tk X n st.1 = 63 then
      if tk X n (adv X n st).1 = 1 then pb (bdsS X n m (adv X n st)) (fun s1 => if tk X n s1.1 = 58 then pb (nstS X n d (adv X n s1)) (fun d1 => pb (fmS X n m 0 d1 x (adv X n s1)) (fun r => pOk ((r.1.1, r.1.2.1, r.1.2.2.1, st.2.2.2.1, r.1.2.2.2.2), qnt (if tk X n st.1 = 33 then 0 else 1) st.2.2.1.length (s1.2.2.1.length - st.2.2.1.length) r.2))) else pNo 1 (tq X n s1.1))
      else pNo 1 (tq X n (adv X n st).1)
    else if tk X n st.1 = 40 then pb (nstS X n d (adv X n st)) (fun d1 => pb (fmS X n m 0 d1 x (adv X n st)) (fun r => if tk X n r.1.1 = 41 then pOk (adv X n r.1, r.2) else pNo 1 (tq X n r.1.1)))
    else if tk X n st.1 = 1 ∨ tk X n st.1 = 2 then atmS X n m d st
    else pNo 1 (tq X n st.1)) = pOk a → (∀ s, (rF a.2 s : Int) ≤ 60 - d) ∧ QV (fun v => b0 ≤ v ∧ v < a.1.2.2.1.length) (tt a.2) := fun h => by
      by_cases c1 : tk X n st.1 = 126
      · rw [if_pos c1] at h
        obtain ⟨dd, h1, h2⟩ := pb_y h
        obtain ⟨r, h3, h4⟩ := pb_y h2
        cases h4
        obtain ⟨e1, e2⟩ := nstS_d h1 hd
        obtain ⟨_, _, _, _, _, j1, j2⟩ := two 4 dd x st r (by omega) e2 hV hb h3
        exact ⟨fun s => by rw [rF_not]; have := j1.n rfl (!s); omega, QV.m1 j2 (fun h8 => by omega)⟩
      rw [if_neg c1] at h
      by_cases c2 : tk X n st.1 = 33 ∨ tk X n st.1 = 63
      · rw [if_pos c2] at h
        by_cases c3 : tk X n (adv X n st).1 = 1
        · rw [if_pos c3] at h
          obtain ⟨s1, h1, h2⟩ := pb_y h
          by_cases c4 : tk X n s1.1 = 58
          · rw [if_pos c4] at h2
            obtain ⟨dd, h3, h4⟩ := pb_y h2
            obtain ⟨r, h5, h6⟩ := pb_y h4
            cases h6
            obtain ⟨e1, e2⟩ := nstS_d h3 hd
            obtain ⟨v1, bl⟩ := PV_bds hV h1
            obtain ⟨i1, _, _⟩ := fi 0 dd x (adv X n s1) r v1 (by intro h; omega) h5
            have i4 : s1.2.2.1.length ≤ r.1.2.2.1.length := i1.bd
            obtain ⟨j1, j2⟩ := ih 0 dd x (adv X n s1) r b0 v1 (by intro h; omega) e2 (by show b0 ≤ s1.2.2.1.length; omega) h5
            refine ⟨fun s => ?_, ?_⟩
            · show (rF (qnt _ _ _ r.2) s : Int) ≤ _
              rw [rF_qnt]
              have := j1.u s
              omega
            · show QV (fun v => b0 ≤ v ∧ v < r.1.2.2.1.length) (tt (qnt _ _ _ r.2))
              exact QV.qn (by split <;> omega) _ j2 (fun v h7 h8 => ⟨by omega, by omega⟩)
          · rw [if_neg c4] at h2; cases h2
        · rw [if_neg c3] at h; cases h
      rw [if_neg c2] at h
      by_cases c5 : tk X n st.1 = 40
      · rw [if_pos c5] at h
        obtain ⟨dd, h1, h2⟩ := pb_y h
        obtain ⟨r, h3, h4⟩ := pb_y h2
        by_cases c6 : tk X n r.1.1 = 41
        · rw [if_pos c6] at h4
          cases h4
          obtain ⟨e1, e2⟩ := nstS_d h1 hd
          obtain ⟨_, _, _, _, _, j1, j2⟩ := two 0 dd x st r (by omega) e2 hV hb h3
          exact ⟨fun s => by have := j1.u s; show (rF r.2 s : Int) ≤ _; omega, j2⟩
        · rw [if_neg c6] at h4; cases h4
      rw [if_neg c5] at h
      by_cases c7 : tk X n st.1 = 1 ∨ tk X n st.1 = 2
      · rw [if_pos c7] at h
        have hl := atmS_l h
        refine ⟨fun s => ?_, QV.at hl⟩
        have e : rF a.2 s = 0 := rF_at (l := a.2.1) (k := a.2.2) hl
        rw [e]; omega
      · rw [if_neg c7] at h; cases h
    match lvl, hx, h with
    | 0, _, h =>
      obtain ⟨r, h1, h2⟩ := pb_y (show pb (fmS X n m 1 d x st) _ = pOk a from h)
      obtain ⟨i1, i2, i3, i4, i5, i6, i7⟩ := one 1 r (by omega) h1
      by_cases c : tk X n r.1.1 = 302
      · rw [if_pos c] at h2
        obtain ⟨u, h3, h4⟩ := pb_y h2
        cases h4
        obtain ⟨j1, j2, j3, j4, j5, j6, j7⟩ := two 1 d x r.1 u (by omega) hd i3 (by omega) h3
        refine ⟨RB.of (fun s => ?_) (by omega), QV.m2 (mn j5 i7) j7 (by omega)⟩
        rw [rF_bin (by omega) (by omega)]
        show ((max (max (rF r.2 true) (rF r.2 false)) (max (rF u.2 true) (rF u.2 false)) : Nat) : Int) ≤ _
        have := i6.u true
        have := i6.u false
        have := j6.u true
        have := j6.u false
        omega
      · rw [if_neg c] at h2; cases h2; exact ⟨RB.of i6.u (by omega), i7⟩
    | 1, _, h =>
      obtain ⟨r, h1, h2⟩ := pb_y (show pb (fmS X n m 2 d x st) _ = pOk a from h)
      obtain ⟨i1, i2, i3, i4, i5, i6, i7⟩ := one 2 r (by omega) h1
      by_cases c : tk X n r.1.1 = 301
      · rw [if_pos c] at h2
        obtain ⟨dd, h3, h4⟩ := pb_y h2
        obtain ⟨u, h5, h6⟩ := pb_y h4
        cases h6
        obtain ⟨e1, e2⟩ := nstS_d h3 hd
        obtain ⟨j1, j2, j3, j4, j5, j6, j7⟩ := two 1 dd x r.1 u (by omega) e2 i3 (by omega) h5
        refine ⟨RB.of (fun s => ?_) (by omega), QV.m2 (mn j5 i7) j7 (by omega)⟩
        rw [rF_bin (by omega) (by omega)]
        have := i6.u true
        have := i6.u false
        have := j6.u true
        have := j6.u false
        cases s
        · show ((max (rF r.2 true) (rF u.2 false) : Nat) : Int) ≤ _
          omega
        · show ((max (rF r.2 false) (rF u.2 true + 1) : Nat) : Int) ≤ _
          omega
      · rw [if_neg c] at h2; cases h2; exact ⟨RB.of i6.u (by omega), i7⟩
    | 2, _, h =>
      obtain ⟨r, h1, h2⟩ := pb_y (show pb (fmS X n m 3 d x st) _ = pOk a from h)
      obtain ⟨i1, i2, i3, i4, i5, i6, i7⟩ := one 3 r (by omega) h1
      obtain ⟨k1, k2⟩ := ih 5 d r.2 r.1 a b0 i3 (fun _ => ⟨i4, RB.of i6.u (by omega), i7⟩) hd (by omega) h2
      exact ⟨RB.of k1.u (by omega), k2⟩
    | 3, _, h =>
      obtain ⟨r, h1, h2⟩ := pb_y (show pb (fmS X n m 4 d x st) _ = pOk a from h)
      obtain ⟨i1, i2, i3, i4, i5, i6, i7⟩ := one 4 r (by omega) h1
      obtain ⟨k1, k2⟩ := ih 6 d r.2 r.1 a b0 i3 (fun _ => ⟨i4, RB.oc (i6.c (by omega)) (i6.u false) (by omega), i7⟩) hd (by omega) h2
      exact ⟨RB.oc (k1.c (by omega)) (k1.u false) (by omega), k2⟩
    | 5, hx, h =>
      replace h : (if tk X n st.1 = 124 then pb (fmS X n m 3 d x (adv X n st)) (fun r => fmS X n m 5 d (mk2 5 x r.2) r.1) else pOk (st, x)) = pOk a := h
      obtain ⟨x1, x2, x3⟩ := hx (Or.inl rfl)
      by_cases c : tk X n st.1 = 124
      · rw [if_pos c] at h
        obtain ⟨u, h1, h2⟩ := pb_y h
        obtain ⟨j1, j2, j3, j4, j5, j6, j7⟩ := two 3 d x st u (by omega) hd hV hb h1
        refine ih 5 d (mk2 5 x u.2) u.1 a b0 j3 (fun _ => ⟨WFo1.mk2 (by omega) (by omega) (x1.mono j1.2.1 (fun v hv => j1.vof j2 hv)) j4, RB.of (fun s => ?_) (by omega), QV.m2 (mn j5 x3) j7 (by omega)⟩) hd (by omega) h2
        rw [rF_bin (by omega) (by omega)]
        have := x2.u true
        have := x2.u false
        have := j6.c (by omega)
        have := j6.u false
        cases s
        · show ((max (rF x false) (rF u.2 false) : Nat) : Int) ≤ _
          omega
        · show ((max (rF x true) (rF u.2 true + 1) : Nat) : Int) ≤ _
          omega
      · rw [if_neg c] at h; cases h; exact ⟨x2, x3⟩
    | 6, hx, h =>
      replace h : (if tk X n st.1 = 38 then pb (fmS X n m 4 d x (adv X n st)) (fun r => fmS X n m 6 d (mk2 4 x r.2) r.1) else pOk (st, x)) = pOk a := h
      obtain ⟨x1, x2, x3⟩ := hx (Or.inr rfl)
      by_cases c : tk X n st.1 = 38
      · rw [if_pos c] at h
        obtain ⟨u, h1, h2⟩ := pb_y h
        obtain ⟨j1, j2, j3, j4, j5, j6, j7⟩ := two 4 d x st u (by omega) hd hV hb h1
        have y1 := x2.c (by omega)
        have y2 := x2.u false
        have y3 := j6.n rfl true
        have y4 := j6.n rfl false
        refine ih 6 d (mk2 4 x u.2) u.1 a b0 j3 (fun _ => ⟨WFo1.mk2 (by omega) (by omega) (x1.mono j1.2.1 (fun v hv => j1.vof j2 hv)) j4, RB.oc ?_ ?_ (by omega), QV.m2 (mn j5 x3) j7 (by omega)⟩) hd (by omega) h2
        · rw [rF_bin (by omega) (by omega)]
          show ((max (rF x true) (rF u.2 true) : Nat) : Int) ≤ _
          omega
        · rw [rF_bin (by omega) (by omega)]
          show ((max (rF x false) (rF u.2 false + 1) : Nat) : Int) ≤ _
          omega
      · rw [if_neg c] at h; cases h; exact ⟨x2, x3⟩
    | 4, _, h =>
      obtain ⟨u1, u2⟩ := unit h
      exact ⟨RB.on u1, u2⟩
    | l + 7, _, h =>
      obtain ⟨u1, u2⟩ := unit h
      exact ⟨RB.on u1, u2⟩
/-- SENTENCES one behind the other: their VARIABLES' numbers grow -/
def SQ (nm : PN) : List SE → Nat → Nat → Prop
  | [], lo, hi => lo ≤ hi
  | e :: L, lo, hi => ∃ mid, lo ≤ mid ∧ QV (fun v => lo ≤ v ∧ v < mid) (tt e.2.2.1) ∧ (∀ v ∈ e.2.2.2, (lo : Int) ≤ v ∧ v < (mid : Int)) ∧ (∀ s, rF e.2.2.1 s ≤ 61) ∧ WFo1 nm e.2.2.1 (fun v => v ∈ e.2.2.2) ∧ SQ nm L mid hi
theorem SQ.app {nm : PN} {M : List SE} {mid hi : Nat} : ∀ {L : List SE} {lo : Nat}, SQ nm L lo mid → SQ nm M mid hi → SQ nm (L ++ M) lo hi
  | [], lo, h, h2 => by
    have h : lo ≤ mid := h
    match M, h2 with
    | [], h2 => exact Nat.le_trans h h2
    | e :: M, ⟨md, a, b, c, d⟩ => exact ⟨md, by omega, b.mono (fun v hv => ⟨by omega, hv.2⟩), fun v hv => ⟨by have := c v hv; omega, (c v hv).2⟩, d⟩
  | e :: L, lo, ⟨md, a, b, c, d, f, g⟩, h2 => ⟨md, a, b, c, d, f, SQ.app g h2⟩
theorem SQ.mono {nm nm2 : PN} (h : NmE nm nm2) : ∀ {L : List SE} {lo hi : Nat}, SQ nm L lo hi → SQ nm2 L lo hi
  | [], lo, hi, q => q
  | e :: L, lo, hi, ⟨md, a, b, c, d, f, g⟩ => ⟨md, a, b, c, d, f.mono h (fun v hv => hv), SQ.mono h g⟩
theorem seS_r {X : Int → Int} {n : Int} (hn : n ≤ 20000) : ∀ (m : Nat) (st : PS) (L : List SE) (a : PS × List SE), SQ st.2.1 L 0 st.2.2.1.length → seS X n m st L = pOk a → SQ a.1.2.1 a.2 0 a.1.2.2.1.length
  | 0, st, L, a, _, h => by cases h
  | m + 1, st, L, a, hq, h => by
    unfold seS at h
    by_cases c0 : tk X n st.1 = 0
    · rw [if_pos c0] at h; cases h; exact hq
    rw [if_neg c0] at h
    obtain ⟨r, h1, h2⟩ := pb_y h
    by_cases c46 : tk X n r.1.1 = 46
    · rw [if_pos c46] at h2
      obtain ⟨s1, hs1⟩ : ∃ s : PS, s = ((if prvS X n st.1 = true then te X n st.1 else st.1), st.2.1, st.2.2.1, [], []) := ⟨_, rfl⟩
      rw [← hs1] at h1
      have v1 : PV s1 := fun v hv => by
        rw [hs1] at hv
        rcases hv with hv | hv <;> cases hv
      have l1 : s1.2.2.1 = st.2.2.1 := by rw [hs1]
      have l2 : s1.2.1 = st.2.1 := by rw [hs1]
      obtain ⟨i1, i2, i3⟩ := fmS_i hn m 0 0 (0, nl) s1 r v1 (by intro h; omega) h1
      obtain ⟨j1, j2⟩ := fmS_r hn m 0 0 (0, nl) s1 r s1.2.2.1.length v1 (by intro h; omega) (by omega) (Nat.le_refl _) h1
      have hb := i1.bd
      rw [l1] at hb j2
      have hN : NmE st.2.1 r.1.2.1 := by rw [← l2]; exact i1.2.1
      have hfr : ∀ v ∈ r.1.2.2.2.2, (st.2.2.1.length : Int) ≤ v ∧ v < (r.1.2.2.1.length : Int) := fun v hv => by
        obtain ⟨_, _, _, M, m1, _, m3⟩ := i1
        rw [m1, show s1.2.2.2.2 = [] by rw [hs1]] at hv
        have := m3 v hv
        rw [l1] at this
        exact this
      have hsc : r.1.2.2.2.1 = [] := by rw [i2, hs1]
      refine seS_r hn m (adv X n r.1) _ a ?_ h2
      refine SQ.app (hq.mono hN) ⟨r.1.2.2.1.length, hb, j2, hfr, fun s => by have := j1.u s; show rF r.2 s ≤ 61; omega, ?_, Nat.le_refl _⟩
      refine WFo1.mono NmE.rf (fun v hv => ?_) i3
      rcases hv with hv | hv
      · rw [hsc] at hv; cases hv
      · exact hv
    · rw [if_neg c46] at h2; cases h2
