/-! THE CLASS FINDS THE WITNESSES AS THE SPEC SAYS -/
theorem CPa.p0 {X Y : Int → Int} {n : Int} {σ : zS} {st : PS} {SL : List SE} {TT : List Int} {NN : List N6} (h : CPa X Y n σ st SL TT NN) (hn : n ≤ 20000) (hp : st.1 ≤ n) (hF : ∀ e ∈ SL, FS (tt e.2.2.1)) : PS0 σ SL st.2.2.1.length NN TT := by
  obtain ⟨⟨a1, a2, a3⟩, ⟨b1, b2, b3⟩, ⟨c1, c2, c3⟩, d, e, f, g, i⟩ := h
  have := a3.2.1
  exact ⟨⟨b1, b2, by omega⟩, i, ⟨by omega, a3.2.1, c3⟩, hF⟩
theorem rpSe_iff {σ : zS} {SL : List SE} {b : Nat} {NN : List N6} {TT : List Int} (hG : GO σ b NN TT SL) (hF : ∀ e ∈ SL, FS (tt e.2.2.1)) (hSU : SU SL 0 b) {k : Nat} {e : SE} (he : SL[k]? = some e) {v : Nat} (hv : inE2 e v) : RPs SL v ↔ rpSe e v := by
  refine ⟨fun ⟨e2, h1, h2⟩ => ?_, fun h => ⟨e, List.mem_of_getElem? he, h⟩⟩
  obtain ⟨k2, hk2⟩ := List.getElem?_of_mem h1
  have := hSU.un hk2 he (rpSe_in (hF e2 h1) h2) hv
  subst this
  rw [he] at hk2
  cases hk2
  exact h2
theorem mw_ok {X Y : Int → Int} {n : Int} {β : Nat} (hβ : 4 ≤ β) {σ : zS} {st : PS} {SL : List SE} {TT : List Int} {NN : List N6} (h : CPa X Y n σ st SL TT NN) (hn : n ≤ 20000) (hp : st.1 ≤ n) (hT : TXo st.2.1 SL st.2.2.1.length) :
    UA SL ∧ ∃ τ, yE tC_For_makeWitnesses β σ [] = some (τ, 0) ∧ FrC [605] [7, 12, 19, 26, 27] σ τ ∧ MS0 τ SL st.2.2.1.length NN TT (wS st.2.1 SL) (arS st.2.1 SL) (pS (m9S st.2.1 SL st.2.2.1.length)) st.2.1 ∧ τ.1 605 = m9S st.2.1 SL st.2.2.1.length ∧ m9S st.2.1 SL st.2.2.1.length ≤ 551 ∧ (∀ c, 0 ≤ c → c < m9S st.2.1 SL st.2.2.1.length → (τ.2.1 12 c = 1 ↔ pdS st.2.1 c)) ∧ (τ.2.1 7 0 = 0 ∧ τ.2.1 12 0 = 1) ∧ ∀ q : Int, q ≤ (st.2.1.length : Int) → τ.2.1 7 q = σ.2.1 7 q ∧ τ.2.1 12 q = σ.2.1 12 q := by
  obtain ⟨⟨a1, a2, a3⟩, ⟨b1, bb2, b3⟩, ⟨c1, c2, c3⟩, d, e, f, ⟨g1, g2, g3, g4⟩, i⟩ := id h
  have hb3 := a3.2.1
  have hFS : ∀ e ∈ SL, FS (tt e.2.2.1) := fun e he => by
    obtain ⟨k, hk⟩ := List.getElem?_of_mem he
    obtain ⟨_, _, _, _, _, hw, _⟩ := hT.1.at hk
    exact FS_of hw
  have hP := h.p0 hn hp hFS
  have hSU := hT.2.1
  have hNW := g1.nw
  have hsz : ∀ e ∈ SL, szn e.2.2.1.1 e.2.2.1.2 ≤ 20000 := fun e he => by
    obtain ⟨k, hk⟩ := List.getElem?_of_mem he
    have := szl_lt hk (k := SL.length) (List.getElem?_eq_some_iff.mp hk).1
    rw [List.take_length] at this
    omega
  -- how many are around
  have arB : ∀ {k : Nat} {e : SE} {v m : Nat}, SL[k]? = some e → arE e v m → m ≤ 600 := fun {k e v m} hk ha => by
    rcases ha with ha | ha
    · have h1 := (List.getElem?_eq_some_iff.mp ha).1
      have h2 := frL_take hk
      have h3 := frs_len SL
      omega
    · have hu : ∃ lo hi, UQs (tt e.2.2.1) lo hi ∧ hi ≤ st.2.2.1.length := by
        have : ∀ {L : List SE} {lo hi : Nat}, SU L lo hi → ∀ {k : Nat} {e : SE}, L[k]? = some e → ∃ a c, UQs (tt e.2.2.1) a c ∧ c ≤ hi := by
          intro L
          induction L with
          | nil => intro lo hi _ k e h; cases h
          | cons x L ihL =>
            intro lo hi h k e hk
            obtain ⟨mid, a, _, _, d⟩ := h
            cases k with
            | zero => cases hk; exact ⟨_, _, a, d.le⟩
            | succ k => exact ihL d hk
        exact this hSU hk
      obtain ⟨lo, hi, u1, u2⟩ := hu
      have h1 := u1.dp ha
      have h2 := frL_take hk
      have h3 := frs_len SL
      omega
  have arI : ∀ {k : Nat} {e : SE} {v m : Nat}, SL[k]? = some e → arE e v m → inE2 e v := fun {k e v m} hk ha => by
    rcases ha with ha | ha
    · exact Or.inr (List.mem_of_getElem? ha)
    · exact Or.inl (bdn_b ha)
  have hUA : UA SL := fun v m m2 ⟨e1, h1, h2⟩ ⟨e2, h3, h4⟩ => by
    obtain ⟨k1, hk1⟩ := List.getElem?_of_mem h1
    obtain ⟨k2, hk2⟩ := List.getElem?_of_mem h3
    have x1 := hP.ar (β := 0) hk1 h2 (by have := arB hk1 h2; omega)
    have x2 := hP.ar (β := 0) hk2 h4 (by have := arB hk2 h4; omega)
    rw [x1] at x2
    have := congrArg (fun o => Option.map Prod.snd o) x2
    simp at this
    omega
  refine ⟨hUA, ?_⟩
  -- roots and free ones
  have z0 : ∀ i : Nat, i < NN.length → σ.2.1 19 ((i : Int) * 7 + 6) = 0 := fun i hi => by
    have hx := List.getElem?_eq_getElem hi
    exact (g1.g hx (j := 6) (c := 0) rfl).1
  obtain ⟨σ1, t1, t2, t3, t4⟩ := mw_2 (β := β) (by omega) g2 hSU SL.length 0 σ (by omega) hP hNW (by rw [g1.1.1, nfl_len]; omega) ⟨fun j e _ hj => absurd hj (by omega), fun i hi _ => z0 i hi⟩
  have hP1 := hP.f t2
  obtain ⟨σ2, u1, u2, u3, u4, u5⟩ := mw_83 (β := β) (by omega) g2 hSU hb3 i hFS SL.length σ1 (Nat.le_refl _) t3 (fun j e hj hjl => (t4.1 j e hj hjl).1) (fun k hk hne => t4.2 k (by rw [List.take_length] at hk; omega) hne)
  have hP2 := hP1.f u2
  have f02 : FrC [] [19, 27] σ σ2 := t2.trans u2
  -- what is marked
  have h27f : ∀ {k : Nat} {e : SE}, SL[k]? = some e → ∀ v ∈ e.2.2.2, σ2.2.1 27 v = bi e.2.1 := fun {k e} hk v hv => by
    have h0 := (t4.1 k e hk (List.getElem?_eq_some_iff.mp hk).1).2 v hv
    obtain ⟨j, hj⟩ := List.getElem?_of_mem hv
    have h17 := ((i k e hk).2 j v hj).2.2.1
    rw [u5 v (fun j2 e2 v2 _ hx2 hb2 e3 => by
      have := bn_17 (i j2 e2 hx2).1 (hFS e2 (List.mem_of_getElem? hx2)) hb2
      rw [e3] at this
      exact this h17)]
    exact h0
  have h27 : ∀ v : Nat, v < st.2.2.1.length → σ2.2.1 27 (v : Int) = b2 (RPs SL v) := fun v hv => by
    obtain ⟨k, e, hk, hin⟩ := hSU.cov (v := v) (by omega) hv
    have hiff := rpSe_iff i hFS hSU hk hin
    rcases hin with hin | hin
    · rw [u4 k e (List.getElem?_eq_some_iff.mp hk).1 hk v hin]
      refine congrArg b2 (propext ?_)
      rw [hiff]
      refine ⟨Or.inr, fun q => ?_⟩
      rcases q with ⟨q, _⟩ | q
      · exfalso
        obtain ⟨j, hj⟩ := List.getElem?_of_mem q
        exact bn_17 (i k e hk).1 (hFS e (List.mem_of_getElem? hk)) hin ((i k e hk).2 j _ hj).2.2.1
      · exact q
    · rw [h27f hk _ hin]
      have hnb : ¬ bnF (tt e.2.2.1) v := fun q => by
        obtain ⟨j, hj⟩ := List.getElem?_of_mem hin
        exact bn_17 (i k e hk).1 (hFS e (List.mem_of_getElem? hk)) q ((i k e hk).2 j _ hj).2.2.1
      cases hb : e.2.1 with
      | true => exact (b2_t (hiff.mpr (Or.inl ⟨hin, hb⟩))).symm
      | false =>
        refine (b2_f (fun q => ?_)).symm
        rcases hiff.mp q with ⟨_, q⟩ | q
        · rw [hb] at q; cases q
        · exact hnb (rqF_b _ (hFS e (List.mem_of_getElem? hk)) _ _ q)
  -- the SYMBOLS
  have n250 := a2.2.1
  have hrkb := rkR_le (RPs SL) st.2.2.1.length
  obtain ⟨τ, v1, v2, v3, v4⟩ := mw_107 (β := β) (by omega) (SL := SL) (b := st.2.2.1.length) (NN := NN) (TT := TT) (s0 := st.2.1.length + 1) (by omega) hb3 (R := RPs SL) (ac := acS SL) st.2.2.1.length 0 σ2 (by omega) hP2 (by rw [f02.i 1402]; exact a3.1) h27 (fun ρ u hρ hu => by
    obtain ⟨k, e, hk, hin⟩ := hSU.cov (v := u) (by omega) hu
    have : ∃ m, arE e u m := by
      rcases hin with hin | hin
      · obtain ⟨m, hm⟩ := bnF_d (n := e.2.2.2.length) hin
        exact ⟨m, Or.inr hm⟩
      · obtain ⟨j, hj⟩ := List.getElem?_of_mem hin
        exact ⟨j, Or.inl hj⟩
    obtain ⟨m, hm⟩ := this
    exact ⟨m, ⟨e, List.mem_of_getElem? hk, hm⟩, hρ.ar hk hm (by have := arB hk hm; omega)⟩) ⟨by rw [f02.i 605, a2.2.2.2.1]; show _ = ((st.2.1.length + 1 + 0 : Nat) : Int); omega, fun v hv => absurd hv (by omega)⟩
  have f2τ : FrC [605] [7, 12, 19, 26, 27] σ2 τ := v2.w
  have f0τ : FrC [605] [7, 12, 19, 26, 27] σ τ := FrC.trans f02.w f2τ
  have run : yE tC_For_makeWitnesses β σ [] = some (τ, 0) := by
    rw [yq_For_makeWitnesses, kY_For_makeWitnesses]
    have e1 : yE tC_For_makeWitnesses_p2 β σ [0] = yE tC_For_makeWitnesses_p2 β σ [5 * ((0 : Nat) : Int)] := rfl
    rw [e1, t1, show (NN.length : Int) - 1 = (szl (SL.take SL.length) : Int) - 1 by rw [List.take_length, g2], u1]
    exact v1
  -- numbers of TERMS, and what a SYMBOL is
  have sym : ∀ c : Int, 0 ≤ c → c < m9S st.2.1 SL st.2.2.1.length → c = 0 ∨ (∃ (j : Nat) (x : List Int × Int × Int), st.2.1[j]? = some x ∧ c = (j : Int) + 1) ∨ ∃ v : Nat, RPs SL v ∧ v < st.2.2.1.length ∧ c = ((st.2.1.length + 1 + rkR (RPs SL) v : Nat) : Int) := fun c h0 h1 => by
    by_cases e0 : c = 0
    · exact Or.inl e0
    by_cases e1 : c ≤ (st.2.1.length : Int)
    · exact Or.inr (Or.inl ⟨(c - 1).toNat, st.2.1[(c - 1).toNat]'(by omega), List.getElem?_eq_getElem (by omega), by omega⟩)
    · refine Or.inr (Or.inr ?_)
      have hr : ∀ (b r : Nat), r < rkR (RPs SL) b → ∃ v, RPs SL v ∧ v < b ∧ rkR (RPs SL) v = r := by
        intro b
        induction b with
        | zero => intro r hr; exact absurd hr (by show ¬ r < 0; omega)
        | succ b ih =>
          intro r hr
          by_cases q : r < rkR (RPs SL) b
          · obtain ⟨v, q1, q2, q3⟩ := ih r q
            exact ⟨v, q1, by omega, q3⟩
          · have hr : r < rkR (RPs SL) b + @ite _ (RPs SL b) (Classical.propDecidable _) 1 0 := hr
            by_cases qb : RPs SL b
            · rw [if_pos qb] at hr
              exact ⟨b, qb, by omega, by omega⟩
            · rw [if_neg qb] at hr
              omega
      unfold m9S at h1
      obtain ⟨v, q1, q2, q3⟩ := hr st.2.2.1.length (c - 1 - (st.2.1.length : Int)).toNat (by omega)
      exact ⟨v, q1, q2, by rw [q3]; omega⟩
  have c7 : ∀ q : Int, q ≤ (st.2.1.length : Int) → τ.2.1 7 q = σ.2.1 7 q ∧ τ.2.1 12 q = σ.2.1 12 q := fun q hq => by
    obtain ⟨x1, x2⟩ := v4 q (by omega)
    exact ⟨by rw [x1, f02.a 7], by rw [x2, f02.a 12]⟩
  have hm9 : m9S st.2.1 SL st.2.2.1.length ≤ 551 := by unfold m9S; omega
  have tr7 := a2.2.2.2.2.1.2.2
  have hAr : ArC τ (arS st.2.1 SL) (pS (m9S st.2.1 SL st.2.2.1.length)) := fun c hc h0 => by
    refine ⟨by have := hc.2; omega, ?_⟩
    rcases sym c h0 hc.2 with e | ⟨j, x, hx, e⟩ | ⟨v, q1, q2, e⟩
    · rw [e, (c7 0 (by omega)).1, tr7.1]
      unfold arS
      rw [if_pos (by decide)]; rfl
    · have hj := (List.getElem?_eq_some_iff.mp hx).1
      have hxv := hT.2.2 x (List.mem_of_getElem? hx)
      rw [e, (c7 _ (by omega)).1, (a2.2.2.2.2.2 j x hx).2.2.2 (by omega)]
      exact (arS_n (b := 0) hT.2.2 j x hx hxv.1).1
    · obtain ⟨_, _, m, w1, w2⟩ := (v3.2 v q2).1 q1
      rw [e, w2, arS_w hUA q1 w1]
  have hpd : ∀ c, 0 ≤ c → c < m9S st.2.1 SL st.2.2.1.length → (τ.2.1 12 c = 1 ↔ pdS st.2.1 c) := fun c h0 h1 => by
    unfold pdS
    rcases sym c h0 h1 with e | ⟨j, x, hx, e⟩ | ⟨v, q1, q2, e⟩
    · rw [e, (c7 0 (by omega)).2, tr7.2]
      exact ⟨fun _ => Or.inl rfl, fun _ => rfl⟩
    · have hj := (List.getElem?_eq_some_iff.mp hx).1
      rw [e, (c7 _ (by omega)).2, (a2.2.2.2.2.2 j x hx).2.2.1]
      refine ⟨fun q => Or.inr ⟨by omega, x, by rw [show ((j : Int) + 1 - 1).toNat = j by omega]; exact hx, q⟩, fun q => ?_⟩
      rcases q with q | ⟨_, y, q2, q3⟩
      · omega
      · rw [show ((j : Int) + 1 - 1).toNat = j by omega, hx] at q2
        cases q2
        exact q3
    · obtain ⟨_, w1, _⟩ := (v3.2 v q2).1 q1
      rw [e, w1]
      refine ⟨fun q => absurd q (by decide), fun q => ?_⟩
      rcases q with q | ⟨_, y, q2, q3⟩
      · omega
      · have := (List.getElem?_eq_some_iff.mp q2).1
        omega
  have c26 : ∀ v, RPs SL v → v < st.2.2.1.length → 0 ≤ τ.2.1 26 (v : Int) ∧ wS st.2.1 SL v = cu (τ.2.1 26 (v : Int)) := fun v q1 q2 => by
    obtain ⟨w1, _⟩ := (v3.2 v q2).1 q1
    rw [w1]
    exact ⟨by omega, rfl⟩
  refine ⟨τ, run, f0τ, ⟨⟨(u3.f v2), ⟨f.1.f f0τ, by rw [f0τ.l 16]; have := f.2.1; omega⟩, hAr, arS_n hT.2.2, fun v q1 q2 => by unfold pS m9S; omega⟩, ⟨b1.f f0τ, by rw [f0τ.l 21]; exact bb2, by omega⟩, i.q (fun v => ⟨f0τ.a 17 v, f0τ.a 24 v, f0τ.a 25 v⟩), ⟨by omega, hb3, fun j v hv => by rw [f0τ.a 28]; exact c3 j v hv⟩, fun e he => ?_⟩, ?_, hm9, hpd, (by rw [(c7 0 (by omega)).1, (c7 0 (by omega)).2]; exact tr7), c7⟩
  · obtain ⟨k, hk⟩ := List.getElem?_of_mem he
    obtain ⟨_, _, _, q2, _, hw, _⟩ := hT.1.at hk
    obtain ⟨w1, w2⟩ := wS_k (nm := st.2.1) (q := fun v _ => 0 ≤ τ.2.1 26 (v : Int) ∧ wS st.2.1 SL v = cu (τ.2.1 26 (v : Int))) he (hFS e he) (fun v m h1 _ => c26 v h1 (rk_in hT h1).1)
    refine ⟨hw, hsz e he, wK2_1 (q := fun v _ => 0 ≤ τ.2.1 26 (v : Int) ∧ wS st.2.1 SL v = cu (τ.2.1 26 (v : Int))) (q1 := fun v => 0 ≤ τ.2.1 26 (v : Int) ∧ wS st.2.1 SL v = cu (τ.2.1 26 (v : Int))) (fun v n q => q) _ (hFS e he) _ _ w1, fun v hv => ⟨fun hp => ?_, by rw [v2.a 27]; exact h27f hk v hv⟩⟩
    have v0 : 0 ≤ v := by have := q2 v hv; omega
    obtain ⟨j, hj⟩ := List.getElem?_of_mem hv
    have := w2 hp j v hj v0
    rw [Int.toNat_of_nonneg v0] at this
    exact this
  · rw [v3.1]; rfl
