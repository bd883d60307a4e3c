/-! THE REFERENCE'S clausify -/
theorem rkR_s {R : Nat → Prop} {k : Nat} : ∀ {b : Nat}, k < rkR R b → ∃ u, u < b ∧ R u ∧ rkR R u = k
  | 0, h => by
    have : rkR R 0 = 0 := rfl
    omega
  | b + 1, h => by
    by_cases c : R b
    · rw [rkR_1 c] at h
      by_cases e : k = rkR R b
      · exact ⟨b, by omega, c, e.symm⟩
      · obtain ⟨u, u1, u2⟩ := rkR_s (R := R) (k := k) (b := b) (by omega)
        exact ⟨u, by omega, u2⟩
    · rw [rkR_0 c] at h
      obtain ⟨u, u1, u2⟩ := rkR_s (R := R) (k := k) (b := b) h
      exact ⟨u, by omega, u2⟩
theorem mkS_hi {w : Nat → Nat} : ∀ {L : List SE} {n : Nat} {Cs D : List CL}, mkS w L n Cs = .inr D → ∀ e ∈ L, hgt e.2.2.1 ≤ 200
  | [], n, Cs, D, _, e, he => by cases he
  | x :: L, n, Cs, D, h, e, he => by
    replace h : (if 200 < hgt x.2.2.1 ∨ 200 < n + nF x.2.2.1 (!x.2.1) then .inl x.1 else @ite _ (∀ c ∈ csE w x, inB c) (Classical.propDecidable _) (mkS w L (n + nF x.2.2.1 (!x.2.1)) (txF (csE w x) Cs)) (.inl x.1)) = (Sum.inr D : Int ⊕ List CL) := h
    by_cases c : 200 < hgt x.2.2.1 ∨ 200 < n + nF x.2.2.1 (!x.2.1)
    · rw [if_pos c] at h; cases h
    rw [if_neg c] at h
    by_cases c2 : ∀ c ∈ csE w x, inB c
    · rw [if_pos c2] at h
      rcases List.mem_cons.mp he with he | he
      · rw [he]; omega
      · exact mkS_hi h e he
    · rw [if_neg c2] at h; cases h
/-- what clausify changes -/
abbrev ClF (σ τ : zS) : Prop := FrC [19, 47, 62, 65, 72, 84, 98, 101, 105, 122, 3000, 3003, 3004] [23, 24, 43, 44, 45, 46, 48, 49, 58, 59, 60, 61, 63, 64, 66, 67, 68, 69, 70, 71, 73, 74, 75, 76, 77, 78, 79, 80, 81, 82, 95, 96, 97, 100, 102, 103, 104] σ τ
/-- the tables of SYMBOLS -/
def RTb (ar : Int → Nat) (m9 : Int) (σ : zS) : Prop := σ.1 19 = m9 ∧ ∀ c, 0 ≤ c → c < m9 → σ.2.1 48 c = (ar c : Int)
theorem clf_ok {X : Int → Int} {n : Int} {β : Nat} (hβ : 1001 ≤ β) {σ : zS} {st : PS} {SL : List SE} (hR : RPw X n σ st) (hS : RSe σ SL) (hL : SL.length ≤ 20100) (hf : frL SL ≤ 300) (hT : TXo st.2.1 SL st.2.2.1.length) (hU : UA SL) (hH : ∀ e ∈ SL, FH (tt e.2.2.1)) (h00 : σ.2.1 49 0 = 1 ∧ σ.2.1 48 0 = 0) {fc : Nat → Int} (hC : RC σ []) (hJ : RJ σ []) (hK : KM σ fc) :
    ∃ τ, xE tX_clausify β σ [] = some (τ, 0) ∧ ClF σ τ ∧ ((∃ Cs, mkS (wS st.2.1 SL) SL 0 [] = .inr Cs ∧ τ.1 3000 = 0 ∧ RI (arS st.2.1 SL) (pdS st.2.1) (m9S st.2.1 SL st.2.2.1.length) τ (Cs, fc) ∧ RTb (arS st.2.1 SL) (m9S st.2.1 SL st.2.2.1.length) τ) ∨ (∃ q, mkS (wS st.2.1 SL) SL 0 [] = .inl q ∧ τ.1 3000 = 1 ∧ τ.1 3003 = 3 ∧ τ.1 3004 = q ∧ τ.2.1 49 0 = 1 ∧ τ.2.1 48 0 = 0)) := by
  obtain ⟨hTk, hN, hB, hCt⟩ := hR
  have hp : st.1 ≤ 20000 := by have := hTk.1; omega
  obtain ⟨nm, hnm⟩ : ∃ nm, nm = st.2.1 := ⟨_, rfl⟩
  obtain ⟨b, hb⟩ : ∃ b, b = st.2.2.1.length := ⟨_, rfl⟩
  rw [← hnm] at hT hN ⊢
  rw [← hb] at hT ⊢
  have hb3 : b ≤ 300 := by rw [hb]; exact hB.2.1
  have hn25 : nm.length ≤ 250 := hN.2.1
  have h20 : σ.1 37 ≤ 20100 ∧ σ.1 38 ≤ 20100 ∧ σ.1 40 ≤ 20100 := by
    obtain ⟨_, c1, _, c2, _, c3⟩ := hCt
    omega
  have hv : ∀ e ∈ SL, ∀ v ∈ e.2.2.2, 0 ≤ v ∧ v < 300 := fun e he v hv => by
    obtain ⟨k, hk⟩ := List.getElem?_of_mem he
    obtain ⟨a, c, q1, q2, q3, q4, q5⟩ := hT.1.at hk
    have := q2 v hv
    omega
  have hfs : ∀ e ∈ SL, FS (tt e.2.2.1) := fun e he => by
    obtain ⟨k, hk⟩ := List.getElem?_of_mem he
    exact hT.fs hk
  -- the first that is too high
  obtain ⟨t, a1, a2, a3, a4⟩ := tall_ok (β := β) hS hL h20.1 SL.length 0 (by omega) (fun i e hi => by omega)
  -- marks
  have M0 : MKA σ σ (SL.take 0) := ⟨FrC.refl, fun v => ⟨fun ⟨e, he, _⟩ => (by rw [List.take_zero] at he; cases he), fun _ => rfl, fun ⟨e, he, _⟩ => (by rw [List.take_zero] at he; cases he)⟩⟩
  obtain ⟨σ1, b1, b2, b3⟩ := mka_35 (β := β) (by omega) hL hf hv hfs a2 a3 hS h20.1 t 0 σ (by omega) M0
  obtain ⟨σ2, hσ2⟩ : ∃ z, z = zI σ1 19 (1 + σ1.1 20) := ⟨_, rfl⟩
  have f2 : FrC [19] [24, 58] σ σ2 := by rw [hσ2]; exact b2.w.trans FrC_I
  have i20 : σ1.1 20 = (nm.length : Int) := by rw [b2.i 20]; exact hN.1
  -- NAMES
  obtain ⟨σ3, c1, c2, c3⟩ := nm_146 (β := β) (t := (t : Int)) hn25 nm.length 0 σ2 (by omega) (by rw [f2.i 20]; exact hN.1)
  have f3 : FrC [19] [24, 48, 49, 58] σ σ3 := f2.w.trans c2.w
  have e24 : ∀ u : Nat, u < b → (RPs (SL.take t) u ↔ ¬ σ3.2.1 24 (u : Int) = 0) := fun u hu => by
    obtain ⟨x, hx⟩ : ∃ x, st.2.2.1[u]? = some x := ⟨_, List.getElem?_eq_getElem (by omega)⟩
    have z := (hB.2.2 u x hx).2.2.1
    obtain ⟨m1, m2, _⟩ := b3 u
    have e : σ3.2.1 24 (u : Int) = σ1.2.1 24 (u : Int) := by rw [c2.a 24, hσ2]; rfl
    rw [e]
    constructor
    · intro h; rw [m1 h]; decide
    · intro h
      exact Classical.byContradiction (fun q => h (by rw [m2 q]; exact z))
  have i19 : σ3.1 19 = ((nm.length + 1 + rkR (RPs (SL.take t)) 0 : Nat) : Int) := by
    rw [c2.i 19, hσ2, zI_1, i20]
    have : rkR (RPs (SL.take t)) 0 = 0 := rfl
    omega
  have i25 : σ3.1 25 = (b : Int) := by rw [f3.i 25, hb]; exact hB.1
  -- WITNESSES
  obtain ⟨σ4, d1, d2, d3, d4, d5, d6⟩ := wt_195 (β := β) (t := (t : Int)) (R := RPs (SL.take t)) (s0 := nm.length + 1) hb3 (by omega) b 0 σ3 (by omega) i19 e24 i25
  have f4 : FrC [19] [23, 24, 48, 49, 58] σ σ4 := f3.w.trans d2.w
  have r0 : rkR (RPs (SL.take t)) 0 = 0 := rfl
  have tb : ∀ c : Int, 0 ≤ c → c ≤ (nm.length : Int) → σ4.2.1 48 c = σ3.2.1 48 c ∧ σ4.2.1 49 c = σ3.2.1 49 c := fun c h1 h2 => d5 c (by omega)
  have go : xE tX_clausify β σ [] = xE tX_clausify_267 β σ4 [(t : Int), 0, 0] := by
    have e1 : xE tX_clausify_2 β σ [0] = xE tX_clausify_33 β σ [(t : Int)] := a1
    have e2 : xE tX_clausify_35 β σ [(t : Int), 0] = xE tX_clausify_35 β σ1 [(t : Int), (t : Int)] := b1
    have e3 : xE tX_clausify_146 β σ2 [(t : Int), 1] = xE tX_clausify_195 β σ3 [(t : Int), 0] := c1
    have e4 : xE tX_clausify_195 β σ3 [(t : Int), 0] = xE tX_clausify_267 β σ4 [(t : Int), 0, 0] := d1
    rw [xq_clausify, kW_clausify, e1, xq_clausify_33, kW_clausify_33, e2, xq_clausify_35, kW_clausify_35, if_pos (Int.le_refl _), if_pos ⟨by omega, by omega⟩, lt_e, ← hσ2, e3, e4]
  -- all SENTENCES
  obtain ⟨pd', hpd⟩ : ∃ pd' : Int → Prop, pd' = fun c => ¬ σ4.2.1 49 c = 0 := ⟨_, rfl⟩
  have hm9 : m9S nm SL b ≤ 551 := by
    unfold m9S
    have := rkR_le (RPs SL) b
    omega
  have I4 : RI (arS nm SL) pd' (m9S nm SL b) σ4 ([], fc) := ⟨hC.f f4 f4.pq, hJ.f f4, ⟨hm9, fun c _ _ => by rw [hpd]; exact ⟨fun h q => q h, fun h => Classical.byContradiction h⟩⟩, hK.f f4, by unfold m9S; omega, fun c hc => by cases hc⟩
  obtain ⟨τ, Cs, g1, g2, g3, g4⟩ := mk_267 hT hb3 hU hH hβ hL hf a2 a3 a4 (hS.c f4) ⟨by rw [f4.i 37]; exact h20.1, by rw [f4.i 38]; exact h20.2.1, by rw [f4.i 40]; exact h20.2.2⟩ (fun u hu hr => (d4 u (by omega) hu hr).1) (p := pS (m9S nm SL b)) (fun c hc => hc.2) (fun e he => csE_wl hT hb3 hU he) (fc := fc) SL.length 0 0 σ4 [] (by omega) (by omega) FrC.refl I4 (by simp) (by omega)
  rw [List.drop_zero] at g4
  refine ⟨τ, by rw [go]; exact g1, f4.w.trans g2.w, ?_⟩
  have z0 : σ4.2.1 49 0 = 1 ∧ σ4.2.1 48 0 = 0 := by
    obtain ⟨t1, t2⟩ := tb 0 (by omega) (by omega)
    obtain ⟨t3, t4⟩ := (c3 0).2 (by omega)
    rw [t1, t2, t3, t4, f2.a 48, f2.a 49]
    exact h00
  rcases g4 with ⟨k1, k2⟩ | ⟨q, k1, k2, k3, k4⟩
  · refine Or.inl ⟨Cs, k1, k2, ?_⟩
    have ht : t = SL.length := by
      by_cases c : t = SL.length
      · exact c
      · obtain ⟨e, he⟩ : ∃ e, SL[t]? = some e := ⟨_, List.getElem?_eq_getElem (by omega)⟩
        have := a4 e he
        have := mkS_hi k1 e (List.mem_of_getElem? he)
        omega
    have hk : SL.take t = SL := by rw [ht]; exact List.take_length
    rw [hk] at d3 d4 b3
    have e49 : ∀ c, τ.2.1 49 c = σ4.2.1 49 c := fun c => g2.a 49 c
    have e48 : ∀ c, τ.2.1 48 c = σ4.2.1 48 c := fun c => g2.a 48 c
    have wit : ∀ c, (nm.length : Int) < c → c < m9S nm SL b → ∃ u : Nat, u < b ∧ RPs SL u ∧ c = ((nm.length + 1 + rkR (RPs SL) u : Nat) : Int) := fun c h1 h2 => by
      unfold m9S at h2
      obtain ⟨u, u1, u2, u3⟩ := rkR_s (R := RPs SL) (k := (c - 1 - nm.length).toNat) (b := b) (by omega)
      exact ⟨u, u1, u2, by omega⟩
    have nam : ∀ c, 1 ≤ c → c ≤ (nm.length : Int) → ∃ x, nm[(c - 1).toNat]? = some x ∧ σ4.2.1 48 c = x.2.2 ∧ σ4.2.1 49 c = (if x.2.1 = 1 then 1 else 0) := fun c h1 h2 => by
      obtain ⟨x, hx⟩ : ∃ x, nm[(c - 1).toNat]? = some x := ⟨_, List.getElem?_eq_getElem (by omega)⟩
      obtain ⟨_, _, _, n4, n5⟩ := hN.2.2.2.2 (c - 1).toNat x hx
      have ec : (((c - 1).toNat : Nat) : Int) + 1 = c := by omega
      rw [ec] at n4 n5
      obtain ⟨t1, t2⟩ := tb c (by omega) h2
      obtain ⟨t3, t4⟩ := (c3 c).1 ⟨by omega, h2⟩
      rw [f2.a 15] at t3
      rw [f2.a 16, n4] at t4
      have := (hT.2.2 x (List.mem_of_getElem? hx)).1
      exact ⟨x, hx, by rw [t1, t3]; exact n5 (by omega), by rw [t2, t4]⟩
    refine ⟨⟨g3.1, g3.2.1, ⟨hm9, fun c h1 h2 => ?_⟩, g3.2.2.2⟩, ?_, fun c h1 h2 => ?_⟩
    · rw [e49]
      by_cases c0 : c = 0
      · rw [c0, z0.1]
        exact ⟨fun h => absurd h (by decide), fun h => absurd (Or.inl rfl) h⟩
      by_cases cn : c ≤ (nm.length : Int)
      · obtain ⟨x, hx, _, x2⟩ := nam c (by omega) cn
        rw [x2]
        by_cases y : x.2.1 = 1
        · rw [if_pos y]
          exact ⟨fun h => absurd h (by decide), fun h => absurd (Or.inr ⟨by omega, x, hx, y⟩) h⟩
        · rw [if_neg y]
          refine ⟨fun _ h => ?_, fun _ => rfl⟩
          rcases h with h | ⟨_, x', hx', h⟩
          · exact c0 h
          · rw [hx] at hx'; cases hx'; exact y h
      · obtain ⟨u, u1, u2, u3⟩ := wit c (by omega) h2
        have := (d4 u (by omega) u1 u2).2.2
        rw [← u3] at this
        rw [this]
        refine ⟨fun _ h => ?_, fun _ => rfl⟩
        rcases h with h | ⟨_, x', hx', h⟩
        · exact c0 h
        · have := (List.getElem?_eq_some_iff.mp hx').1
          omega
    · rw [g2.i 19, d3]; rfl
    · rw [e48]
      by_cases c0 : c = 0
      · rw [c0, z0.2]; unfold arS; rw [if_pos (by decide)]; rfl
      by_cases cn : c ≤ (nm.length : Int)
      · obtain ⟨x, hx, x1, _⟩ := nam c (by omega) cn
        have := (arS_n (SL := SL) (b := b) hT.2.2 (c - 1).toNat x hx (hT.2.2 x (List.mem_of_getElem? hx)).1).1
        have ec : (((c - 1).toNat : Nat) : Int) + 1 = c := by omega
        rw [ec] at this
        rw [x1, this]
      · obtain ⟨u, u1, u2, u3⟩ := wit c (by omega) h2
        have w2 := (d4 u (by omega) u1 u2).2.1
        rw [← u3] at w2
        obtain ⟨e, he, hr⟩ := id u2
        have hin := rpSe_in (hfs e he) hr
        obtain ⟨m, m1, m2⟩ := (b3 u).2.2 ⟨e, he, hin⟩
        rw [w2, c2.a 58, hσ2, zI_2, m2, u3, arS_w hU u2 m1]
  · exact Or.inr ⟨q, k1, k2, k3, k4, by rw [g2.a 49]; exact z0.1, by rw [g2.a 48]; exact z0.2⟩
