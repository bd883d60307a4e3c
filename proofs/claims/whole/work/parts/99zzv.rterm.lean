/-! TERMS of the TEXT in the reference -/
def RTm (σ : zS) : T → Int → Int → Int → Prop
  | .leaf _, _, _, t => t = -1
  | .branch l k s, lo, hi, t => 0 ≤ lo ∧ lo ≤ t ∧ t < hi ∧ σ.2.1 34 t = cl l ∧ RTm σ k lo t (σ.2.1 35 t) ∧ RTm σ s (t + 1) hi (σ.2.1 36 t)
theorem RTm.ext {σ τ : zS} : ∀ {F : T} {lo hi t : Int}, (∀ i, 0 ≤ i → lo ≤ i → i < hi → τ.2.1 34 i = σ.2.1 34 i ∧ τ.2.1 35 i = σ.2.1 35 i ∧ τ.2.1 36 i = σ.2.1 36 i) → RTm σ F lo hi t → RTm τ F lo hi t
  | .leaf _, lo, hi, t, _, h => h
  | .branch l k s, lo, hi, t, hE, h => by
    obtain ⟨h0, h1, h2, h3, h4, h5⟩ := h
    obtain ⟨e1, e2, e3⟩ := hE t (by omega) h1 h2
    refine ⟨h0, h1, h2, by rw [e1]; exact h3, ?_, ?_⟩
    · rw [e2]; exact RTm.ext (fun i i0 i1 i2 => hE i i0 i1 (by omega)) h4
    · rw [e3]; exact RTm.ext (fun i i0 i1 i2 => hE i i0 (by omega) i2) h5
theorem RTm.mono {σ : zS} : ∀ {F : T} {lo lo2 hi hi2 t : Int}, 0 ≤ lo2 → lo2 ≤ lo → hi ≤ hi2 → RTm σ F lo hi t → RTm σ F lo2 hi2 t
  | .leaf _, lo, lo2, hi, hi2, t, _, _, _, h => h
  | .branch l k s, lo, lo2, hi, hi2, t, a, b, c, h => by
    obtain ⟨h0, h1, h2, h3, h4, h5⟩ := h
    exact ⟨a, by omega, by omega, h3, RTm.mono a b (Int.le_refl _) h4, RTm.mono (by omega) (Int.le_refl _) c h5⟩
theorem RTm.x {σ τ : zS} {F : T} {lo hi t : Int} (hE : EX σ τ) (hh : hi ≤ σ.1 38) (h : RTm σ F lo hi t) : RTm τ F lo hi t := h.ext (fun i i0 _ i2 => hE.2.1 i i0 (by omega))
theorem length_ok {σ : zS} {β : Nat} : ∀ {F : T} {lo hi t a c : Int}, RTm σ F lo hi t → hi ≤ 20100 → 0 ≤ c → c + (len F : Int) ≤ 100000 → zE tM_length_4 β σ [a, c, t] = some (σ, c + (len F : Int))
  | .leaf _, lo, hi, t, a, c, h, _, _, _ => by
    have h1 : t = -1 := h
    rw [zq_length_4, kZ_length_4, if_pos (by omega)]
    simp [len]
  | .branch l k s, lo, hi, t, a, c, h, hh, h0, hc => by
    obtain ⟨g0, g1, g2, g3, g4, g5⟩ := h
    simp only [len] at hc ⊢
    rw [zq_length_4, kZ_length_4, if_neg (by omega), if_pos ⟨by omega, by omega⟩, if_pos ⟨by omega, by omega⟩, length_ok g5 hh (by omega) (by omega)]
    congr 2
    omega
theorem RTm.wt {σ : zS} : ∀ {F : T} {lo hi t : Int}, RTm σ F lo hi t → 0 ≤ lo → lo ≤ hi → (wt F : Int) ≤ hi - lo
  | .leaf _, lo, hi, t, _, _, h => by simp only [_root_.Jvm.Pilot.CClauseProverLaw_law_r9118_1ba172.wt]; omega
  | .branch l k s, lo, hi, t, h, h0, h1 => by
    obtain ⟨g0, g1, g2, g3, g4, g5⟩ := h
    have a := RTm.wt g4 g0 g1
    have b := RTm.wt g5 (by omega) (by omega)
    simp only [_root_.Jvm.Pilot.CClauseProverLaw_law_r9118_1ba172.wt]
    omega
theorem term_e {β : Nat} {σ : zS} {c a b : Int} (h : σ.1 38 = c) (h0 : 0 ≤ c) (h1 : c < 20100) : zE tM_term β σ [a, b] = some (zI (zA (zA (zA σ 34 c a) 35 c b) 36 c (-1)) 38 (c + 1), c) := by
  rw [zq_term, kZ_term, h, if_pos ⟨h0, by omega⟩]
  show (if zb (σ.1 38) 20100 then (if zb (σ.1 38) 20100 then (if zr (σ.1 38 + 1) then some (zI (zA (zA (zA σ 34 c a) 35 (σ.1 38) b) 36 (σ.1 38) (-1)) 38 (σ.1 38 + 1), σ.1 38) else none) else none) else none) = _
  rw [h, if_pos ⟨h0, by omega⟩, if_pos ⟨h0, by omega⟩, if_pos ⟨by omega, by omega⟩]
theorem RP.s {X : Int → Int} {n : Int} {σ : zS} {st : PS} {s s2 : Int} (h : RP X n σ st s) (hs : s2 ≤ s) : RP X n σ st s2 := by
  obtain ⟨hA, hN, hB, hC, hD, hl, hK⟩ := h
  exact ⟨hA, hN, hB, hC, hD, hl, hK.c (by omega) ⟨rfl, rfl, rfl⟩⟩
/-- a WORD taken: one byte at least -/
theorem RP.tk1 {X : Int → Int} {n : Int} {β : Nat} (hβ : 4 ≤ β) {σ : zS} {st : PS} {s : Int} (h : RP X n σ st s) (h0 : _root_.Jvm.Pilot.CClauseProverLaw_law_r9118_1ba172.tk X n st.1 ≠ 0) : ∃ τ, zE tM_take β σ [] = some (τ, 0) ∧ RP X n τ (adv X n st) (s + 1) ∧ FrT σ τ ∧ st.1 < (adv X n st).1 := by
  obtain ⟨τ, e1, hA, hF⟩ := take_ok hβ h.1
  have h1 := te_gt (T := X) h0 h.1.1.2.2.2.1
  have h2 := tq_ge (T := X) (n := n) (p := st.1)
  refine ⟨τ, e1, ⟨hA, ?_⟩, hF, by show st.1 < te X n st.1; omega⟩
  obtain ⟨g1, g2, g3, g4, g5, g6⟩ := h.2.t hF (Int.le_refl _)
  exact ⟨g1, g2, g3, g4, g5, g6.c (by show st.1 - s ≤ te X n st.1 - (s + 1); omega) ⟨rfl, rfl, rfl⟩⟩
/-- a TERM made -/
theorem RP.term {X : Int → Int} {n : Int} {σ τ : zS} {st : PS} {s c a b : Int} (h : RP X n σ st (s + 1)) (hs : 0 ≤ s) (h38 : σ.1 38 = c) (hτ : τ = zI (zA (zA (zA σ 34 c a) 35 c b) 36 c (-1)) 38 (c + 1)) : RP X n τ st s ∧ EX σ τ ∧ FrP σ τ ∧ τ.1 38 = c + 1 ∧ τ.2.1 34 c = a ∧ τ.2.1 35 c = b ∧ τ.2.1 36 c = -1 ∧ 0 ≤ c ∧ c < 20000 := by
  obtain ⟨hA, hN, hB, hC, hD, hl, hK⟩ := h
  obtain ⟨k1, k2, k3, k4, k5, k6⟩ := hK
  have hp := hA.1.2.2.2.1
  have hn := hA.1.2.2.2.2
  have ti : ∀ j, j ≠ 38 → τ.1 j = σ.1 j := fun j hj => by rw [hτ]; exact zI_o hj
  have ta : ∀ e, e ≠ 34 → e ≠ 35 → e ≠ 36 → τ.2.1 e = σ.2.1 e := fun e h1 h2 h3 => by
    rw [hτ]
    show (zA (zA (zA σ 34 c a) 35 c b) 36 c (-1)).2.1 e = _
    rw [zA_o h3, zA_o h2, zA_o h1]
  have t38 : τ.1 38 = c + 1 := by rw [hτ]; exact zI_1
  have a34 : τ.2.1 34 = (zA σ 34 c a).2.1 34 := by rw [hτ]; show (zA (zA (zA σ 34 c a) 35 c b) 36 c (-1)).2.1 34 = _; rw [zA_o, zA_o]
  have a35 : τ.2.1 35 = (zA σ 35 c b).2.1 35 := by rw [hτ]; funext i; simp [zA, zI]
  have a36 : τ.2.1 36 = (zA σ 36 c (-1)).2.1 36 := by rw [hτ]; funext i; simp [zA, zI]
  refine ⟨⟨hA.c (fun j hj => ti j (by omega)) (ta 0 (by decide) (by decide) (by decide)), hN.c ⟨ti _ (by decide), ti _ (by decide)⟩ (fun e he => ta e (by omega) (by omega) (by omega)), hB.c (ti _ (by decide)) ⟨ta _ (by decide) (by decide) (by decide), ta _ (by decide) (by decide) (by decide), ta _ (by decide) (by decide) (by decide)⟩, hC.c (Nat.le_refl _) (ti _ (by decide)) (ta _ (by decide) (by decide) (by decide)), hD.c (Nat.le_refl _) (ti _ (by decide)) (ta _ (by decide) (by decide) (by decide)), hl, ?_⟩, ?_, ?_, t38, by rw [a34, zA_s], by rw [a35, zA_s], by rw [a36, zA_s], by omega, by omega⟩
  · unfold RCt
    rw [ti 37 (by decide), ti 40 (by decide), t38]
    exact ⟨k1, by omega, by omega, by omega, k5, by omega⟩
  · refine ⟨⟨by rw [ti 37 (by decide)]; exact Int.le_refl _, by rw [t38]; omega, by rw [ti 40 (by decide)]; exact Int.le_refl _⟩, fun i i0 i1 => ?_, fun i _ _ => ?_, fun i _ _ => ?_⟩
    · rw [a34, a35, a36, zA_q (by omega), zA_q (by omega), zA_q (by omega)]; exact ⟨rfl, rfl, rfl⟩
    · rw [ta 30 (by decide) (by decide) (by decide), ta 31 (by decide) (by decide) (by decide), ta 32 (by decide) (by decide) (by decide), ta 33 (by decide) (by decide) (by decide)]; exact ⟨rfl, rfl, rfl, rfl⟩
    · rw [ta 41 (by decide) (by decide) (by decide), ta 42 (by decide) (by decide) (by decide)]; exact ⟨rfl, rfl⟩
  · rw [hτ]; exact FrP.tr (FrP.tr (FrP.tr FrP.a FrP.a) FrP.a) FrP.i
def ctS (X : Int → Int) (n : Int) (m : Nat) (d : Int) (st : PS) : PR (PS × T) := if tk X n st.1 = 44 then sdS X n m true d (adv X n st) else if tk X n st.1 = 41 then pOk (adv X n st, nl) else pNo 1 (tq X n st.1)
theorem pb_ok {α γ : Type} {a : α} {f : α → PR γ} : pb (pOk a) f = f a := rfl
theorem pb_no {α γ : Type} {k q : Int} {f : α → PR γ} : pb (pNo k q : PR α) f = pNo k q := rfl
/-- a TERM has come: the last one made, with those within it -/
def SdQ (X : Int → Int) (n : Int) (σ : zS) (st : PS) (s : Int) (a : PS × T) (τ : zS) (v : Int) : Prop := ∃ l k, a.2 = nd l k nl ∧ τ.1 38 = v + 1 ∧ σ.1 38 ≤ v ∧ τ.2.1 34 v = cl l ∧ RTm τ k (σ.1 38) v (τ.2.1 35 v) ∧ τ.2.1 36 v = -1 ∧ RP X n τ a.1 s ∧ EX σ τ ∧ st.1 < a.1.1 ∧ a.1.2.2.2.1 = st.2.2.2.1
/-- all stays but what stands beside the last one -/
def EXl (σ τ : zS) (last : Int) : Prop := (σ.1 37 ≤ τ.1 37 ∧ σ.1 38 ≤ τ.1 38 ∧ σ.1 40 ≤ τ.1 40) ∧ (∀ i : Int, 0 ≤ i → i < σ.1 38 → τ.2.1 34 i = σ.2.1 34 i ∧ τ.2.1 35 i = σ.2.1 35 i ∧ (i ≠ last → τ.2.1 36 i = σ.2.1 36 i)) ∧ (∀ i : Int, 0 ≤ i → i < σ.1 37 → τ.2.1 30 i = σ.2.1 30 i ∧ τ.2.1 31 i = σ.2.1 31 i ∧ τ.2.1 32 i = σ.2.1 32 i ∧ τ.2.1 33 i = σ.2.1 33 i) ∧ (∀ i : Int, 0 ≤ i → i < σ.1 40 → τ.2.1 41 i = σ.2.1 41 i ∧ τ.2.1 42 i = σ.2.1 42 i)
theorem EX.l {σ τ : zS} {last : Int} (h : EX σ τ) : EXl σ τ last := ⟨h.1, fun i i0 i1 => ⟨(h.2.1 i i0 i1).1, (h.2.1 i i0 i1).2.1, fun _ => (h.2.1 i i0 i1).2.2⟩, h.2.2⟩
theorem EXl.trx {σ τ ρ : zS} {last l2 : Int} (h : EXl σ τ last) (h2 : EXl τ ρ l2) (hl : l2 = last ∨ σ.1 38 ≤ l2) : EXl σ ρ last := by
  obtain ⟨⟨a1, a2, a3⟩, b, c, d⟩ := h
  obtain ⟨⟨e1, e2, e3⟩, f, g, k⟩ := h2
  refine ⟨⟨by omega, by omega, by omega⟩, fun i i0 i1 => ?_, fun i i0 i1 => ?_, fun i i0 i1 => ?_⟩
  · obtain ⟨p1, p2, p3⟩ := b i i0 i1
    obtain ⟨q1, q2, q3⟩ := f i i0 (by omega)
    exact ⟨q1.trans p1, q2.trans p2, fun hi => (q3 (by omega)).trans (p3 hi)⟩
  · obtain ⟨p1, p2, p3, p4⟩ := c i i0 i1
    obtain ⟨q1, q2, q3, q4⟩ := g i i0 (by omega)
    exact ⟨q1.trans p1, q2.trans p2, q3.trans p3, q4.trans p4⟩
  · obtain ⟨p1, p2⟩ := d i i0 i1
    obtain ⟨q1, q2⟩ := k i i0 (by omega)
    exact ⟨q1.trans p1, q2.trans p2⟩
def SDm (X : Int → Int) (n : Int) (m : Nat) : Prop := ∀ (β : Nat) (d : Int) (σ : zS) (st : PS) (s : Int) (r : (Int × Int) ⊕ (PS × T)), 0 ≤ d → d ≤ 60 → 2 * (60 - d) + 8 ≤ (β : Int) → 0 ≤ s → RP X n σ st s → sdS X n m false d st = some r → XR (xE tX_side1 β σ [d]) σ r (fun a τ v => SdQ X n σ st s a τ v)
def LPm (X : Int → Int) (n : Int) (m : Nat) : Prop := ∀ (β : Nat) (x0 d first last : Int) (σ : zS) (st : PS) (s : Int) (r : (Int × Int) ⊕ (PS × T)), 0 ≤ d → d ≤ 60 → 2 * (60 - d) + 9 ≤ (β : Int) → 0 ≤ s → RP X n σ st s → σ.1 38 = last + 1 → 0 ≤ last → σ.2.1 36 last = -1 → ctS X n m d st = some r → XR (xE tX_arguments_19 β σ [x0, d, first, last]) σ r (fun a τ v => v = first ∧ RTm τ a.2 (last + 1) (τ.1 38) (τ.2.1 36 last) ∧ RP X n τ a.1 s ∧ EXl σ τ last ∧ st.1 < a.1.1 ∧ a.1.2.2.2.1 = st.2.2.2.1)
def ARm (X : Int → Int) (n : Int) (m : Nat) : Prop := ∀ (β : Nat) (x0 d : Int) (σ : zS) (st : PS) (s : Int) (r : (Int × Int) ⊕ (PS × T)), 0 ≤ d → d ≤ 60 → 2 * (60 - d) + 9 ≤ (β : Int) → 0 ≤ s → RP X n σ st s → sdS X n m true d st = some r → XR (zbd (xE tX_side1 (β - 1) σ [d]) (fun σ3 r3 => if σ3.1 3000 = 0 then xE tX_arguments_19 β σ3 [x0, d, r3, r3] else some (σ3, 0))) σ r (fun a τ v => RTm τ a.2 (σ.1 38) (τ.1 38) v ∧ 1 ≤ len a.2 ∧ RP X n τ a.1 s ∧ EX σ τ ∧ st.1 < a.1.1 ∧ a.1.2.2.2.1 = st.2.2.2.1)
theorem sdS_t {X : Int → Int} {n : Int} {m : Nat} {d : Int} {st : PS} {r : (Int × Int) ⊕ (PS × T)} (h : sdS X n (m + 1) true d st = some r) : pb (sdS X n m false d st) (fun a => pb (ctS X n m d a.1) (fun u => pOk (u.1, cat a.2 u.2))) = some r ∨ ∃ a, sdS X n m false d st = pOk a ∧ tk X n a.1.1 = 41 ∧ r = .inr (adv X n a.1, a.2) := by
  unfold sdS at h
  rcases pb_r h with ⟨k, q, h1, h2⟩ | ⟨a, h1, h2⟩
  · left; rw [h1, h2]; rfl
  · by_cases c1 : tk X n a.1.1 = 44
    · rw [if_pos c1] at h2
      left
      rw [h1, pb_ok]
      unfold ctS
      rw [if_pos c1]; exact h2
    · rw [if_neg c1] at h2
      by_cases c2 : tk X n a.1.1 = 41
      · rw [if_pos c2] at h2
        right
        cases h2
        exact ⟨a, h1, c2, rfl⟩
      · rw [if_neg c2] at h2
        left
        rw [h1, pb_ok]
        unfold ctS
        rw [if_neg c1, if_neg c2]; exact h2
/-- the first TERM, then the others: the whole row -/
theorem ar_of {X : Int → Int} {n : Int} {m : Nat} (hS : SDm X n m) (hL : LPm X n m) : ARm X n (m + 1) := by
  intro β x0 d σ st s r d0 d1 hβ s0 hR hr
  have key : ∀ r, pb (sdS X n m false d st) (fun a => pb (ctS X n m d a.1) (fun u => pOk (u.1, cat a.2 u.2))) = some r → XR (zbd (xE tX_side1 (β - 1) σ [d]) (fun σ3 r3 => if σ3.1 3000 = 0 then xE tX_arguments_19 β σ3 [x0, d, r3, r3] else some (σ3, 0))) σ r (fun a τ v => RTm τ a.2 (σ.1 38) (τ.1 38) v ∧ 1 ≤ len a.2 ∧ RP X n τ a.1 s ∧ EX σ τ ∧ st.1 < a.1.1 ∧ a.1.2.2.2.1 = st.2.2.2.1) := by
    intro r hr
    rcases pb_r hr with ⟨k, q, h1, rfl⟩ | ⟨a, h1, h2⟩
    · have := hS (β - 1) d σ st s _ d0 d1 (by omega) s0 hR h1
      exact XN.call this
    · have h3 := hS (β - 1) d σ st s _ d0 d1 (by omega) s0 hR h1
      obtain ⟨τ, v, e1, hF, l, k, g1, g2, g3, g4, g5, g6, g7, g8, g9, g10⟩ := XY.call (K := fun σ3 r3 => xE tX_arguments_19 β σ3 [x0, d, r3, r3]) h3
      rw [e1]
      have k0 : 0 ≤ σ.1 38 := by have := hR.2.2.2.2.2.2.2.2.1; exact this
      rcases pb_r h2 with ⟨k9, q9, h4, rfl⟩ | ⟨u, h4, h5⟩
      · exact XN.fr (hL β x0 d v v τ a.1 s _ d0 d1 hβ s0 g7 g2 (by omega) g6 h4) hF
      · cases h5
        obtain ⟨ρ, w, e2, f0, hF2, j1, j2, j3, j4, j5, j6⟩ := hL β x0 d v v τ a.1 s _ d0 d1 hβ s0 g7 g2 (by omega) g6 h4
        have hx : EX σ ρ := by
          obtain ⟨m1, m2, m3, m4⟩ := (g8.l (last := -1)).trx j4 (Or.inr g3)
          exact ⟨m1, fun i i0 i1 => ⟨(m2 i i0 i1).1, (m2 i i0 i1).2.1, (m2 i i0 i1).2.2 (by omega)⟩, m3, m4⟩
        refine ⟨ρ, w, e2, f0, hF.tr hF2, ?_, ?_, j3, hx, by show st.1 < u.1.1; omega, by show u.1.2.2.2.1 = _; rw [j6, g10]⟩
        · show RTm ρ (cat a.2 u.2) (σ.1 38) (ρ.1 38) w
          rw [g1, j1]
          have hv := j4.2.1 v (by omega) (by omega)
          refine ⟨k0, g3, by have := j4.1.2.1; omega, by rw [hv.1]; exact g4, ?_, j2⟩
          rw [hv.2.1]
          exact g5.ext (fun i i0 i1 i2 => ⟨(j4.2.1 i i0 (by omega)).1, (j4.2.1 i i0 (by omega)).2.1, (j4.2.1 i i0 (by omega)).2.2 (by omega)⟩)
        · show 1 ≤ len (cat a.2 u.2)
          rw [g1]
          show 1 ≤ 1 + len _
          omega
  rcases sdS_t hr with h | ⟨a, h1, h2, rfl⟩
  · exact key r h
  · have h3 : pb (sdS X n m false d st) (fun a => pb (ctS X n m d a.1) (fun u => pOk (u.1, cat a.2 u.2))) = pOk (adv X n a.1, cat a.2 nl) := by
      rw [h1, pb_ok]
      unfold ctS
      rw [if_neg (by omega), if_pos h2]; rfl
    have h4 := key _ h3
    have h5 : cat a.2 nl = a.2 := by
      have := hS (β - 1) d σ st s _ d0 d1 (by omega) s0 hR h1
      obtain ⟨τ, v, e1, f0, hF, l, k, g1, _⟩ := this
      rw [g1]; rfl
    rw [h5] at h4
    exact h4
theorem lp_0 {X : Int → Int} {n : Int} {β : Nat} {x0 d first last : Int} {σ : zS} {st : PS} {s : Int} {r : (Int × Int) ⊕ (PS × T)} (hβ : 9 ≤ β) (hR : RP X n σ st s) (h36 : σ.2.1 36 last = -1) (l0 : 0 ≤ last) (h38 : σ.1 38 = last + 1) (h44 : tk X n st.1 ≠ 44) (hr : (if tk X n st.1 = 41 then pOk (adv X n st, nl) else pNo 1 (tq X n st.1) : PR (PS × T)) = some r) : XR (xE tX_arguments_19 β σ [x0, d, first, last]) σ r (fun a τ v => v = first ∧ RTm τ a.2 (last + 1) (τ.1 38) (τ.2.1 36 last) ∧ RP X n τ a.1 s ∧ EXl σ τ last ∧ st.1 < a.1.1 ∧ a.1.2.2.2.1 = st.2.2.2.1) := by
  rw [xq_arguments_19, kW_arguments_19, if_pos (by omega)]
  obtain ⟨τ, e1, h1, hS, hF⟩ := hR.pk (β := β - 1) (by omega)
  rw [zbd_of e1, if_neg h44, if_pos (by omega)]
  have hm := must_ok (β := β - 1) (by omega) (c := 41) h1
  by_cases h41 : tk X n st.1 = 41
  · rw [if_pos h41] at hr hm
    cases hr
    obtain ⟨ρ, v, e2, hF2, g1, g2⟩ := XY.call (K := fun σ2 r2 => lt_ (zI σ2 3000 0) (fun u => some (u, first))) hm
    rw [e2]
    have hx : EX σ (zI ρ 3000 0) := (hF.x.tr g2).tr (EX.of ⟨zI_o, zI_o, zI_o⟩ (fun _ _ => rfl))
    have hlt : st.1 < te X n st.1 := by
      have a := te_gt (T := X) (n := n) (p := st.1) (by omega) hR.1.1.2.2.2.1
      have b := tq_ge (T := X) (n := n) (p := st.1)
      omega
    exact (XY.ret (σ := ρ) (r := first) ⟨rfl, by rw [(hx.2.1 last l0 (by omega)).2.2, h36]; rfl, g1.f (by decide), hx.l, hlt, rfl⟩).fr (hF.p.tr hF2)
  · rw [if_neg h41] at hr hm
    cases hr
    exact (XN.call hm).fr hF.p
theorem args_ok {X : Int → Int} {n : Int} {m : Nat} (hA : ARm X n m) {β : Nat} {d : Int} {σ : zS} {st : PS} {s : Int} {r : (Int × Int) ⊕ (PS × T)} (d0 : 0 ≤ d) (d1 : d ≤ 60) (hβ : 2 * (60 - d) + 7 ≤ (β : Int)) (s0 : 0 ≤ s) (hR : RP X n σ st s) (h40 : tk X n st.1 = 40) (hr : pb (nstS X n d (adv X n st)) (fun d1 => sdS X n m true d1 (adv X n st)) = some r) : XR (xE tX_arguments β σ [d]) σ r (fun a τ v => RTm τ a.2 (σ.1 38) (τ.1 38) v ∧ 1 ≤ len a.2 ∧ RP X n τ a.1 s ∧ EX σ τ ∧ st.1 < a.1.1 ∧ a.1.2.2.2.1 = st.2.2.2.1) := by
  rw [xq_arguments, kW_arguments, if_pos (by omega)]
  obtain ⟨υ, e3, h5, hF3, hlt⟩ := hR.tk1 (β := β - 1) (by omega) (by rw [h40]; decide)
  have h5 := h5.s (s2 := s) (by omega)
  rw [zbd_of e3, if_pos (by omega)]
  rcases pb_r hr with ⟨k, q, h2, rfl⟩ | ⟨a, h2, h3⟩
  · exact (XN.call (nest_ok (β := β - 1) (by omega) ⟨d0, d1⟩ h5 h2)).fr hF3.p
  · obtain ⟨ρ, v, e2, hF2, rfl, hd, hlt2, h4, hx2⟩ := XY.call (K := fun σ2 r2 => if 1 ≤ β then (zbd (xE tX_side1 (β - 1) σ2 [r2]) (fun σ3 r3 => if (σ3.1 3000) = 0 then (xE tX_arguments_19 β σ3 [d, r2, r3, r3]) else (some (σ3, 0)))) else none) (nest_ok (β := β - 1) (by omega) ⟨d0, d1⟩ h5 h2)
    rw [e2, if_pos (by omega)]
    have h6 := hA β d v ρ (adv X n st) s r (by omega) (by omega) (by omega) s0 h4 h3
    have hxx : EX σ ρ := hF3.x.tr hx2
    have h38 : ρ.1 38 = σ.1 38 ∨ σ.1 38 ≤ ρ.1 38 := Or.inr hxx.1.2.1
    have k0 : 0 ≤ σ.1 38 := hR.2.2.2.2.2.2.2.2.1
    match r, h6 with
    | .inl e, h6 => exact XN.fr h6 (hF3.p.tr hF2)
    | .inr u, h6 =>
      obtain ⟨τ, w, e5, f0, hF5, j1, j2, j3, j4, j5, j6⟩ := h6
      exact ⟨τ, w, e5, f0, (hF3.p.tr hF2).tr hF5, j1.mono k0 hxx.1.2.1 (Int.le_refl _), j2, j3, hxx.tr j4, by have : (adv X n st).1 < u.1.1 := j5; omega, j6⟩
theorem s71_ok {X : Int → Int} {n : Int} {β : Nat} (hβ : 1 ≤ β) {x0 x1 q k t lo : Int} {F : T} {σ : zS} {st : PS} {s : Int} {r : (Int × Int) ⊕ (PS × T)} (s0 : 0 ≤ s) (hR : RP X n σ st (s + 1)) (hF : RTm σ F lo (σ.1 38) t) (l0 : 0 ≤ lo) (hk : 1 ≤ k) (hr : pb (chkS st k 2 (len F : Int) q) (fun st4 => pOk (st4, nd (cu k) F nl)) = some r) : XR (xE tX_side1_71 β σ [x0, x1, q, k, t]) σ r (fun a τ v => a.2 = nd (cu k) F nl ∧ v = σ.1 38 ∧ τ.1 38 = v + 1 ∧ τ.2.1 34 v = cl (cu k) ∧ RTm τ F lo v (τ.2.1 35 v) ∧ τ.2.1 36 v = -1 ∧ RP X n τ a.1 s ∧ EX σ τ ∧ a.1.1 = st.1 ∧ a.1.2.2 = st.2.2) := by
  have hpn := hR.1.1.2.2.2.1
  have hnn := hR.1.1.2.2.2.2
  have hct := hR.2.2.2.2.2.2
  have h38 := hct.2.2.2.1
  have k38 := hct.2.2.1
  have hwt : (wt F : Int) ≤ 20000 := by
    by_cases hlo : lo ≤ σ.1 38
    · have := hF.wt l0 hlo; omega
    · match F, hF with
      | .leaf _, _ => simp only [wt]; omega
      | .branch l k s, hF => have := hF.2.1; have := hF.2.2.1; omega
  have hlw := len_le_wt F
  rw [xq_side1_71, kW_side1_71, if_pos hβ]
  have el : zE tM_length (β - 1) σ [t] = some (σ, (len F : Int)) := by
    rw [zq_length, kZ_length, length_ok hF (by omega) (Int.le_refl _) (by omega)]
    simp
  rw [zbd_of el, if_pos hβ]
  rcases pb_r hr with ⟨k9, q9, h2, rfl⟩ | ⟨a, h2, h3⟩
  · exact XN.call (check_ok (β := β - 1) hR hk (by decide) h2)
  · cases h3
    obtain ⟨ρ, v, e2, hF2, hp1, hp2, h4, hx2, hj9⟩ := XY.call (K := fun σ2 r2 => if 1 ≤ β then (zbd (zE tM_term (β - 1) σ2 [k, t]) (fun σ3 r3 => lt_ (zI σ3 3000 0) (fun u => some (u, r3)))) else none) (check_ok (β := β - 1) hR hk (by decide) h2)
    rw [e2, if_pos hβ]
    obtain ⟨c, hc⟩ : ∃ c, ρ.1 38 = c := ⟨_, rfl⟩
    obtain ⟨ω, hω⟩ : ∃ w, w = zI (zA (zA (zA ρ 34 c k) 35 c t) 36 c (-1)) 38 (c + 1) := ⟨_, rfl⟩
    obtain ⟨t1, t2, t3, t4, t5, t6, t7, t8, t9⟩ := RP.term h4 s0 hc hω
    rw [zbd_of (term_e (β := β - 1) hc t8 (by omega)), ← hω]
    have c38 : c = σ.1 38 := by rw [← hc]; exact hj9 38 (by decide)
    have hx : EX σ (zI ω 3000 0) := (hx2.tr t2).tr (EX.of ⟨zI_o, zI_o, zI_o⟩ (fun _ _ => rfl))
    refine (XY.ret (σ := ω) (r := c) ⟨rfl, c38, by rw [zI_o]; exact t4, by rw [cl_cu]; exact t5, ?_, t7, t1.f (by decide), hx, hp1, hp2⟩).fr (hF2.tr t3)
    show RTm (zI ω 3000 0) F lo c (ω.2.1 35 c)
    rw [t6, c38]
    exact hF.x hx (Int.le_refl _)
theorem sd_all {X : Int → Int} {n : Int} (hX : TXT X n) : ∀ m, SDm X n m ∧ LPm X n m ∧ ARm X n m
  | 0 => by
    refine ⟨fun β d σ st s r _ _ _ _ _ h => (by cases h), fun β x0 d first last σ st s r d0 d1 hβ s0 hR h38 l0 h36 hr => ?_, fun β x0 d σ st s r _ _ _ _ _ h => (by cases h)⟩
    unfold ctS at hr
    by_cases h44 : tk X n st.1 = 44
    · rw [if_pos h44] at hr; cases hr
    · rw [if_neg h44] at hr
      exact lp_0 (by omega) hR h36 l0 h38 h44 hr
  | m + 1 => by
    obtain ⟨hS, hL, hA⟩ := sd_all hX m
    refine ⟨?_, ?_, ar_of hS hL⟩
    · -- a TERM
      intro β d σ st s r d0 d1 hβ s0 hR hr
      have hpn := hR.1.1.2.2.2.1
      have hnn := hR.1.1.2.2.2.2
      unfold sdS at hr
      rw [xq_side1, kW_side1, if_pos (by omega)]
      obtain ⟨τ, e1, h1, hT, hF⟩ := hR.pk (β := β - 1) (by omega)
      rw [zbd_of e1]
      by_cases c1 : tk X n st.1 = 1
      · rw [if_pos c1] at hr
        rw [if_pos c1, if_pos (by omega)]
        rcases pb_r hr with ⟨k, q, h2, rfl⟩ | ⟨a, h2, h3⟩
        · exact (XN.call (variable_ok (β := β - 1) (by omega) h1 hT h2)).fr hF.p
        · cases h3
          obtain ⟨ρ, v, e2, hF2, rfl, v0, v1, hp, h4, hT2, hx2⟩ := XY.call (K := fun σ6 r6 => if 1 ≤ β then (zbd (zE tM_take (β - 1) σ6 []) (fun σ7 r7 => if zr ((-1) - r6) then (if 1 ≤ β then (zbd (zE tM_term (β - 1) σ7 [((-1) - r6), (-1)]) (fun σ8 r8 => lt_ (zI σ8 3000 0) (fun u => some (u, r8)))) else none) else none)) else none) (variable_ok (β := β - 1) (by omega) h1 hT h2)
          rw [e2, if_pos (by omega)]
          have b300 := h4.2.2.1.2.1
          obtain ⟨υ, e3, h5, hF3, hlt⟩ := h4.tk1 (β := β - 1) (by omega) (by rw [hp, c1]; decide)
          rw [zbd_of e3, if_pos ⟨by omega, by omega⟩, if_pos (by omega)]
          obtain ⟨c, hc⟩ : ∃ c, υ.1 38 = c := ⟨_, rfl⟩
          obtain ⟨ω, hω⟩ : ∃ w, w = zI (zA (zA (zA υ 34 c ((-1) - a.2)) 35 c (-1)) 36 c (-1)) 38 (c + 1) := ⟨_, rfl⟩
          obtain ⟨t1, t2, t3, t4, t5, t6, t7, t8, t9⟩ := RP.term h5 s0 hc hω
          rw [zbd_of (term_e (β := β - 1) hc t8 (by omega)), ← hω]
          have hx : EX σ υ := (hF.x.tr hx2).tr hF3.x
          refine (XY.ret (σ := ω) (r := c) ⟨cu (-1 - a.2), nl, rfl, by rw [zI_o]; exact t4, by have := hx.1.2.1; omega, ?_, t6, t7, t1.f (by decide), (hx.tr t2).tr (EX.of ⟨zI_o, zI_o, zI_o⟩ (fun _ _ => rfl)), by rw [hp] at hlt; exact hlt, ?_⟩).fr (((hF.p.tr hF2).tr hF3.p).tr t3)
          · rw [cl_cu]; exact t5
          · show a.1.2.2.2.1 = st.2.2.2.1
            unfold varS at h2
            cases hv : vrF X (wd X (tq X n st.1) (te X n st.1)) st.2.2.1 st.2.2.2.1 with
            | some v => rw [hv] at h2; cases h2; rfl
            | none =>
              rw [hv] at h2
              dsimp only at h2
              cases hv2 : vrF X (wd X (tq X n st.1) (te X n st.1)) st.2.2.1 st.2.2.2.2 with
              | some v => rw [hv2] at h2; cases h2; rfl
              | none =>
                rw [hv2] at h2
                dsimp only at h2
                unfold bndS at h2
                by_cases hb : st.2.2.1.length = 300
                · rw [if_pos hb] at h2; cases h2
                · rw [if_neg hb] at h2; cases h2; rfl
      · rw [if_neg c1] at hr
        rw [if_neg c1]
        by_cases c2 : tk X n st.1 = 2
        · rw [if_pos c2] at hr
          rw [if_pos c2, if_pos (by omega)]
          rcases pb_r hr with ⟨k, q, h2, rfl⟩ | ⟨a, h2, h3⟩
          · exact (XN.call (symbol_ok hX (β := β - 1) h1 hT (Or.inl c2) h2)).fr hF.p
          · obtain ⟨ρ, v, e2, hF2, rfl, v0, v1, hp, h4, hT2, hx2⟩ := XY.call (K := fun σ2 r2 => if 1 ≤ β then (zbd (zE tM_take (β - 1) σ2 []) (fun σ3 r3 => if 1 ≤ β then (zbd (zE tM_peek (β - 1) σ3 []) (fun σ4 r4 => if r4 = 40 then (if 1 ≤ β then (zbd (xE tX_arguments (β - 1) σ4 [d]) (fun σ5 r5 => if (σ5.1 3000) = 0 then (xE tX_side1_71 β σ5 [d, tk X n st.1, (τ.1 9), r2, r5]) else (some (σ5, 0)))) else none) else (xE tX_side1_71 β σ4 [d, tk X n st.1, (τ.1 9), r2, (-1)]))) else none)) else none) (symbol_ok hX (β := β - 1) h1 hT (Or.inl c2) h2)
            rw [e2, if_pos (by omega)]
            obtain ⟨υ, e3, h5, hF3, hlt⟩ := h4.tk1 (β := β - 1) (by omega) (by rw [hp, c2]; decide)
            rw [zbd_of e3, if_pos (by omega)]
            obtain ⟨ω, e4, h6, hT6, hF4⟩ := h5.pk (β := β - 1) (by omega)
            rw [zbd_of e4, hT.2.2.1]
            have hsc : a.1.2.2.2.1 = st.2.2.2.1 := by
              unfold symS at h2
              cases hm : nmF (wd X (tq X n st.1) (te X n st.1)) st.2.1 1 with
              | some k => rw [hm] at h2; cases h2; rfl
              | none =>
                rw [hm] at h2
                dsimp only at h2
                by_cases h250 : st.2.1.length = 250
                · rw [if_pos h250] at h2; cases h2
                · rw [if_neg h250] at h2; cases h2; rfl
            have hxw : EX σ ω := ((hF.x.tr hx2).tr hF3.x).tr hF4.x
            have hfw : FrP σ ω := ((hF.p.tr hF2).tr hF3.p).tr hF4.p
            have k0 : 0 ≤ σ.1 38 := hR.2.2.2.2.2.2.2.2.1
            have hlt2 : st.1 < (adv X n a.1).1 := by rw [hp] at hlt; exact hlt
            -- with the TERMS known
            have fin : ∀ (κ : zS) (u : PS × T) (t : Int), RP X n κ u.1 (s + 1) → RTm κ u.2 (σ.1 38) (κ.1 38) t → EX σ κ → FrP σ κ → st.1 < u.1.1 → u.1.2.2.2.1 = st.2.2.2.1 → pb (chkS u.1 a.2 2 (len u.2 : Int) (tq X n st.1)) (fun st4 => pOk (st4, nd (cu a.2) u.2 nl)) = some r → XR (xE tX_side1_71 β κ [d, tk X n st.1, tq X n st.1, a.2, t]) σ r (fun a τ v => SdQ X n σ st s a τ v) := fun κ u t i1 i2 i3 i4 i5 i6 i7 => by
              have h8 := s71_ok (β := β) (by omega) (x0 := d) (x1 := tk X n st.1) (q := tq X n st.1) s0 i1 i2 k0 v0 i7
              match r, h8 with
              | .inl e, h8 => exact XN.fr h8 i4
              | .inr b, h8 =>
                obtain ⟨χ, w, e9, f0, hF9, j1, j2, j3, j4, j5, j6, j7, j8, j9, j10⟩ := h8
                exact ⟨χ, w, e9, f0, i4.tr hF9, _, _, j1, j3, by rw [j2]; exact i3.1.2.1, j4, j5, j6, j7, i3.tr j8, by rw [j9]; exact i5, by rw [j10]; exact i6⟩
            by_cases c40 : tk X n (adv X n a.1).1 = 40
            · rw [if_pos c40] at h3
              rw [if_pos c40, if_pos (by omega)]
              rcases pb_r h3 with ⟨k, q, h7, rfl⟩ | ⟨u, h7, h8⟩
              · exact (XN.call (args_ok hA (β := β - 1) d0 d1 (by omega) (by omega) h6 c40 h7)).fr hfw
              · obtain ⟨κ, t, e5, hF5, j1, j2, j3, j4, j5, j6⟩ := XY.call (K := fun σ5 r5 => xE tX_side1_71 β σ5 [d, tk X n st.1, tq X n st.1, a.2, r5]) (args_ok hA (β := β - 1) d0 d1 (by omega) (by omega) h6 c40 h7)
                rw [e5]
                exact fin κ u t j3 (j1.mono k0 hxw.1.2.1 (Int.le_refl _)) (hxw.tr j4) (hfw.tr hF5) (by omega) (by rw [j6]; exact hsc) h8
            · rw [if_neg c40] at h3
              rw [if_neg c40]
              rw [pb_ok] at h3
              exact fin ω (adv X n a.1, nl) (-1) h6 rfl hxw hfw hlt2 hsc h3
        · rw [if_neg c2] at hr
          cases hr
          rw [if_neg c2, if_neg (by rw [hT.2.2.2.1]; exact tk_304)]
          have := (XN.thr (σ := τ) (a := 1) (b := τ.1 9)).fr hF.p
          rw [hT.2.2.1] at this
          rw [hT.2.2.1]
          exact this
    · -- behind a TERM
      intro β x0 d first last σ st s r d0 d1 hβ s0 hR h38 l0 h36 hr
      unfold ctS at hr
      by_cases h44 : tk X n st.1 = 44
      · rw [if_pos h44] at hr
        rw [xq_arguments_19, kW_arguments_19, if_pos (by omega)]
        obtain ⟨τ, e1, h1, hT, hF⟩ := hR.pk (β := β - 1) (by omega)
        rw [zbd_of e1, if_pos h44, if_pos (by omega)]
        obtain ⟨υ, e3, h5, hF3, hlt⟩ := h1.tk1 (β := β - 1) (by omega) (by rw [h44]; decide)
        rw [zbd_of e3, if_pos (by omega)]
        have h5 := h5.s (s2 := s) (by omega)
        have hx : EX σ υ := hF.x.tr hF3.x
        have i38 : υ.1 38 = last + 1 := by rw [hF3.2 38 (by omega), hF.2 38 (by omega)]; exact h38
        -- the next TERM, and what is behind it
        have key : ∀ r, pb (sdS X n m false d (adv X n st)) (fun a => pb (ctS X n m d a.1) (fun u => pOk (u.1, cat a.2 u.2))) = some r → XR (zbd (xE tX_side1 (β - 1) υ [d]) (fun σ4 r4 => if (σ4.1 3000) = 0 then (if zb last 20100 then (lt_ (zA σ4 36 last r4) (fun σ5 => xE tX_arguments_19 β σ5 [x0, d, first, (σ5.2.1 36 last)])) else none) else (some (σ4, 0)))) σ r (fun a τ v => v = first ∧ RTm τ a.2 (last + 1) (τ.1 38) (τ.2.1 36 last) ∧ RP X n τ a.1 s ∧ EXl σ τ last ∧ st.1 < a.1.1 ∧ a.1.2.2.2.1 = st.2.2.2.1) := by
          intro r hr
          rcases pb_r hr with ⟨k, q, h6, rfl⟩ | ⟨a, h6, h7⟩
          · exact (XN.call (hS (β - 1) d υ (adv X n st) s _ d0 d1 (by omega) s0 h5 h6)).fr (hF.p.tr hF3.p)
          · obtain ⟨ρ, v, e4, hF4, l, k, g1, g2, g3, g4, g5, g6, g7, g8, g9, g10⟩ := XY.call (K := fun σ4 r4 => if zb last 20100 then (lt_ (zA σ4 36 last r4) (fun σ5 => xE tX_arguments_19 β σ5 [x0, d, first, (σ5.2.1 36 last)])) else none) (hS (β - 1) d υ (adv X n st) s _ d0 d1 (by omega) s0 h5 h6)
            have hct := h5.2.2.2.2.2.2
            have hpn := h5.1.1.2.2.2.1
            have hnn := h5.1.1.2.2.2.2
            have hvl : last < v := by omega
            rw [e4, if_pos ⟨by omega, by have := hct.2.2.2.1; show last < ((20100 : Nat) : Int); omega⟩]
            obtain ⟨ω, hω⟩ : ∃ w, w = zA ρ 36 last v := ⟨_, rfl⟩
            show XR (xE tX_arguments_19 β (zA ρ 36 last v) [x0, d, first, (zA ρ 36 last v).2.1 36 last]) σ r _
            rw [zA_s, ← hω]
            have wi : ∀ j, ω.1 j = ρ.1 j := fun j => by rw [hω]; rfl
            have wa : ∀ e, e ≠ 36 → ω.2.1 e = ρ.2.1 e := fun e he => by rw [hω, zA_o he]
            have w36 : ∀ i, i ≠ last → ω.2.1 36 i = ρ.2.1 36 i := fun i hi => by rw [hω, zA_q hi]
            have hR2 : RP X n ω a.1 s := by
              obtain ⟨hA, hN, hB, hC, hD, hl, hK⟩ := g7
              exact ⟨hA.c (fun j _ => wi j) (wa 0 (by decide)), hN.c ⟨wi _, wi _⟩ (fun e he => wa e (by omega)), hB.c (wi _) ⟨wa _ (by decide), wa _ (by decide), wa _ (by decide)⟩, hC.c (Nat.le_refl _) (wi _) (wa _ (by decide)), hD.c (Nat.le_refl _) (wi _) (wa _ (by decide)), hl, hK.c (Int.le_refl _) ⟨wi _, wi _, wi _⟩⟩
            have hxl : EXl σ ω last := by
              have h9 := (hx.tr g8)
              refine ⟨by rw [wi, wi, wi]; exact h9.1, fun i i0 i1 => ?_, fun i i0 i1 => ?_, fun i i0 i1 => ?_⟩
              · rw [wa 34 (by decide), wa 35 (by decide)]
                exact ⟨(h9.2.1 i i0 i1).1, (h9.2.1 i i0 i1).2.1, fun hi => by rw [w36 i hi]; exact (h9.2.1 i i0 i1).2.2⟩
              · rw [wa 30 (by decide), wa 31 (by decide), wa 32 (by decide), wa 33 (by decide)]; exact h9.2.2.1 i i0 i1
              · rw [wa 41 (by decide), wa 42 (by decide)]; exact h9.2.2.2 i i0 i1
            have hFw : FrP σ ω := ((hF.p.tr hF3.p).tr hF4).tr (by rw [hω]; exact FrP.a)
            rcases pb_r h7 with ⟨k9, q9, h8, rfl⟩ | ⟨u, h8, h9⟩
            · exact XN.fr (hL β x0 d first v ω a.1 s _ d0 d1 hβ s0 hR2 (by rw [wi]; exact g2) (by omega) (by rw [w36 v (by omega)]; exact g6) h8) hFw
            · cases h9
              obtain ⟨κ, w, e5, f0, hF5, j1, j2, j3, j4, j5, j6⟩ := hL β x0 d first v ω a.1 s _ d0 d1 hβ s0 hR2 (by rw [wi]; exact g2) (by omega) (by rw [w36 v (by omega)]; exact g6) h8
              have ω38 : ω.1 38 = v + 1 := by rw [wi]; exact g2
              refine ⟨κ, w, e5, f0, hFw.tr hF5, j1, ?_, j3, hxl.trx j4 (Or.inr (by omega)), ?_, ?_⟩
              · show RTm κ (cat a.2 u.2) (last + 1) (κ.1 38) (κ.2.1 36 last)
                rw [g1, (j4.2.1 last l0 (by omega)).2.2 (by omega), hω, zA_s]
                have hv := j4.2.1 v (by omega) (by omega)
                refine ⟨by omega, by omega, by have := j4.1.2.1; omega, by rw [hv.1, wa 34 (by decide)]; exact g4, ?_, j2⟩
                rw [hv.2.1, wa 35 (by decide), ← i38]
                exact g5.ext (fun i i0 i1 i2 => ⟨by rw [(j4.2.1 i i0 (by omega)).1, wa 34 (by decide)], by rw [(j4.2.1 i i0 (by omega)).2.1, wa 35 (by decide)], by rw [(j4.2.1 i i0 (by omega)).2.2 (by omega), w36 i (by omega)]⟩)
              · show st.1 < u.1.1
                have : (adv X n st).1 < a.1.1 := g9
                omega
              · show u.1.2.2.2.1 = _
                rw [j6, g10]; rfl
        rcases sdS_t hr with h | ⟨a, h6, h7, rfl⟩
        · exact key r h
        · have h3 : pb (sdS X n m false d (adv X n st)) (fun a => pb (ctS X n m d a.1) (fun u => pOk (u.1, cat a.2 u.2))) = pOk (adv X n a.1, cat a.2 nl) := by
            rw [h6, pb_ok]
            unfold ctS
            rw [if_neg (by omega), if_pos h7]; rfl
          have h4 := key _ h3
          have h8 : cat a.2 nl = a.2 := by
            obtain ⟨ρ, v, e1, f0, hF9, l, k, g1, _⟩ := hS (β - 1) d υ (adv X n st) s _ d0 d1 (by omega) s0 h5 h6
            rw [g1]; rfl
          rw [h8] at h4
          exact h4
      · rw [if_neg h44] at hr
        exact lp_0 (by omega) hR h36 l0 h38 h44 hr
