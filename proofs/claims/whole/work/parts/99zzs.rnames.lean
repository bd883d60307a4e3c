/-! NAMES and VARIABLES in the reference -/
theorem znb_id {c : Int} (h : -128 ≤ c ∧ c ≤ 127) : znb c = c := by
  have h1 : vp_nar .byte (i32 c) = (i32 c).toInt8.toInt32 := rfl
  unfold znb
  rw [h1, Int8.toInt_toInt32, Int32.toInt_toInt8, i32_to ⟨by omega, by omega⟩]
  exact Int.bmod_eq_of_le (by omega) (by omega)
theorem wd_len (X : Int → Int) (q e : Int) : (wd X q e).length = (e - q).toNat := by unfold wd; simp
theorem wd_get {X : Int → Int} {q e : Int} {j : Nat} (h : j < (e - q).toNat) : (wd X q e)[j]? = some (X (q + (j : Int))) := by
  unfold wd
  simp [h]
theorem wd_eq {X : Int → Int} {q e : Int} {w : List Int} : w = wd X q e ↔ w.length = (e - q).toNat ∧ ∀ j : Nat, j < w.length → w[j]? = some (X (q + (j : Int))) := by
  constructor
  · intro h
    subst h
    exact ⟨wd_len .., fun j hj => wd_get (by rw [wd_len] at hj; exact hj)⟩
  · rintro ⟨h1, h2⟩
    apply List.ext_getElem?
    intro j
    by_cases hj : j < w.length
    · rw [h2 j hj, wd_get (by omega)]
    · rw [List.getElem?_eq_none (by omega), List.getElem?_eq_none (by rw [wd_len]; omega)]
/-- the TEXT: bytes -/
def TXT (X : Int → Int) (n : Int) : Prop := ∀ i, 0 ≤ i → i < n → -128 ≤ X i ∧ X i ≤ 127
def XR {α : Type} (o : Option zR) (σ : zS) (r : (Int × Int) ⊕ α) (Q : α → zS → Int → Prop) : Prop := match r with
  | .inl e => XN o σ e.1 e.2
  | .inr a => XY o σ (Q a)
theorem nest_ok {X : Int → Int} {n : Int} {β : Nat} (hβ : 4 ≤ β) {σ : zS} {st : PS} {s d : Int} (hd : 0 ≤ d ∧ d ≤ 60) (h : RP X n σ st s) {r : (Int × Int) ⊕ Int} (hr : nstS X n d st = some r) : XR (xE tX_nest β σ [d]) σ r (fun d1 τ v => v = d1 ∧ d1 = d + 1 ∧ d < 60 ∧ RP X n τ st s ∧ EX σ τ) := by
  unfold nstS at hr
  rw [xq_nest, kW_nest]
  by_cases h60 : d = 60
  · rw [if_pos h60] at hr
    cases hr
    rw [if_pos h60, if_pos (by omega)]
    obtain ⟨τ, e1, h1, hS, hF⟩ := h.pk (β := β - 1) (by omega)
    rw [zbd_of e1]
    have := (XN.thr (σ := τ) (a := 3) (b := τ.1 9)).fr hF.p
    rw [hS.2.2.1] at this
    rw [hS.2.2.1]
    exact this
  · rw [if_neg h60] at hr
    cases hr
    rw [if_neg h60]
    show XY (if zr (d + 1) then some (zI σ 3000 0, d + 1) else none) σ _
    rw [if_pos ⟨by omega, by omega⟩]
    exact XY.ret (σ := σ) (r := d + 1) ⟨rfl, rfl, by omega, h.f (by decide), EX.of ⟨zI_o, zI_o, zI_o⟩ (fun _ _ => rfl)⟩
theorem must_ok {X : Int → Int} {n : Int} {β : Nat} (hβ : 5 ≤ β) {σ : zS} {st : PS} {s c : Int} (h : RP X n σ st s) : XR (α := Unit) (xE tX_must β σ [c]) σ (if tk X n st.1 = c then .inr () else .inl (1, tq X n st.1)) (fun _ τ v => RP X n τ (adv X n st) s ∧ EX σ τ) := by
  rw [xq_must, kW_must, if_pos (by omega)]
  obtain ⟨τ, e1, h1, hS, hF⟩ := h.pk (β := β - 1) (by omega)
  rw [zbd_of e1]
  by_cases hc : tk X n st.1 = c
  · rw [if_pos hc, if_pos hc, if_pos (by omega)]
    obtain ⟨ρ, e2, h2, hF2⟩ := h1.tk (β := β - 1) (by omega)
    rw [zbd_of e2]
    exact (XY.ret (σ := ρ) (r := 0) ⟨h2.f (by decide), (hF.x.tr hF2.x).tr (EX.of ⟨zI_o, zI_o, zI_o⟩ (fun _ _ => rfl))⟩).fr (hF.p.tr hF2.p)
  · rw [if_neg hc, if_neg hc, if_neg (by rw [hS.2.2.2.1]; exact tk_304)]
    have := (XN.thr (σ := τ) (a := 1) (b := τ.1 9)).fr hF.p
    rw [hS.2.2.1] at this
    rw [hS.2.2.1]
    exact this
theorem binder_e {β : Nat} {σ : zS} {b : Nat} (h25 : σ.1 25 = (b : Int)) (hb : b < 300) (hz : zr (σ.1 10 - σ.1 9)) : xE tX_binder β σ [] = some (zI (zI (zA (zA (zA σ 21 b (σ.1 9)) 22 b (σ.1 10 - σ.1 9)) 24 b 0) 25 ((b : Int) + 1)) 3000 0, (b : Int)) := by
  rw [xq_binder, kW_binder, if_neg (by omega), h25, if_pos ⟨by omega, by omega⟩]
  have e1 : ∀ {a : Nat} {i x : Int} {ρ : zS} {k : Nat}, (zA ρ a i x).1 k = ρ.1 k := fun {a i x ρ k} => rfl
  show (if zb (σ.1 25) 300 then (if zr (σ.1 10 - σ.1 9) then (if zb (σ.1 25) 300 then (if zr (σ.1 25 + 1) then some (zI (zI (zA (zA (zA σ 21 b (σ.1 9)) 22 (σ.1 25) (σ.1 10 - σ.1 9)) 24 (σ.1 25) 0) 25 (σ.1 25 + 1)) 3000 0, σ.1 25) else none) else none) else none) else none) = _
  rw [h25, if_pos ⟨by omega, by omega⟩, if_pos hz, if_pos ⟨by omega, by omega⟩, if_pos ⟨by omega, by omega⟩]
theorem isb_22 {X : Int → Int} {n : Int} {β : Nat} {σ : zS} {p : Int} {v : Nat} {a z : Int} (hn : n ≤ 20000) (hv : v < 300) (hT : σ.2.1 0 = X) (h9 : σ.1 9 = tq X n p) (h21 : σ.2.1 21 (v : Int) = a) (h22 : σ.2.1 22 (v : Int) = z) (ha : 0 ≤ a) (haz : a + z ≤ n) (hq : 0 ≤ tq X n p) (hqz : tq X n p + z ≤ n) : ∀ (k : Nat) (j : Int), 0 ≤ j → j + (k : Int) = z → zE tM_isBinder_22 β σ [(v : Int), j] = some (σ, b2 (∀ i : Int, j ≤ i → i < z → X (a + i) = X (tq X n p + i)))
  | 0, j, hj, hk => by
    rw [zq_isBinder_22, kZ_isBinder_22, if_pos ⟨by omega, by omega⟩, h22, if_pos (by omega), b2_t (fun i h1 h2 => by omega)]
  | k + 1, j, hj, hk => by
    rw [zq_isBinder_22, kZ_isBinder_22, if_pos ⟨by omega, by omega⟩, h22, if_neg (by omega), h21, h9, if_pos ⟨by omega, by omega⟩, if_pos ⟨by omega, by omega⟩, if_pos ⟨by omega, by omega⟩, if_pos ⟨by omega, by omega⟩, hT]
    by_cases hc : X (a + j) = X (tq X n p + j)
    · rw [if_pos hc, if_pos ⟨by omega, by omega⟩, isb_22 hn hv hT h9 h21 h22 ha haz hq hqz k (j + 1) (by omega) (by omega)]
      congr 2
      apply b2_c
      constructor
      · intro h i h1 h2
        by_cases he : i = j
        · rw [he]; exact hc
        · exact h i (by omega) h2
      · intro h i h1 h2
        exact h i (by omega) h2
    · rw [if_neg hc, b2_f (fun h => hc (h j (Int.le_refl _) (by omega)))]
theorem isb_ok {X : Int → Int} {n : Int} {β : Nat} {σ : zS} {p : Int} {bd : List (Int × Int)} (hA : TkA X n σ p) (hS : TkS X n σ p) (hB : RBd n σ bd) {v : Nat} (hv : v < bd.length) : zE tM_isBinder β σ [(v : Int)] = some (σ, b2 (bwd X bd (v : Int) = wd X (tq X n p) (te X n p))) := by
  obtain ⟨⟨hT, h2, h0, hpn, hn⟩, _⟩ := hA
  obtain ⟨s11, s7, s9, s8, s10, _⟩ := hS
  obtain ⟨b1, b2', b3⟩ := hB
  obtain ⟨x, hx⟩ : ∃ x, bd[v]? = some x := ⟨_, List.getElem?_eq_getElem hv⟩
  obtain ⟨c1, c2, c3, c4, c5, c6⟩ := b3 v x hx
  have hq0 := tq_ge (T := X) (n := n) (p := p)
  have hqe := tq_le (T := X) hpn
  have hte := te_le (T := X) hpn
  have hqt : tq X n p ≤ te X n p := by
    unfold tq te
    by_cases h9 : sk X n p < n
    · have := (tok_e (T := X) h9).1; omega
    · unfold tok; rw [if_pos (by omega)]; exact Int.le_refl _
  have hbw : bwd X bd (v : Int) = wd X x.1 (x.1 + x.2) := by
    unfold bwd
    rw [Int.toNat_natCast, hx]
  rw [zq_isBinder, kZ_isBinder, if_pos ⟨by omega, by omega⟩, s10, s9, if_pos ⟨by omega, by omega⟩, c2, hbw]
  have key : (wd X x.1 (x.1 + x.2) = wd X (tq X n p) (te X n p)) ↔ (x.2 = te X n p - tq X n p ∧ ∀ i : Int, 0 ≤ i → i < x.2 → X (x.1 + i) = X (tq X n p + i)) := by
    rw [wd_eq, wd_len]
    constructor
    · rintro ⟨e1, e2⟩
      refine ⟨by omega, fun i i0 i1 => ?_⟩
      have := e2 i.toNat (by omega)
      rw [wd_get (by omega)] at this
      have h9 := Option.some.inj this
      rw [show ((i.toNat : Nat) : Int) = i by omega] at h9
      exact h9
    · rintro ⟨e1, e2⟩
      refine ⟨by omega, fun j hj => ?_⟩
      rw [wd_get (by omega), e2 (j : Int) (by omega) (by omega)]
  by_cases hz : x.2 = te X n p - tq X n p
  · rw [if_pos hz, isb_22 (by omega) (by omega) hT s9 c1 c2 c4 c6 (by omega) (by omega) x.2.toNat 0 (Int.le_refl _) (by omega)]
    congr 2
    apply b2_c
    rw [key]
    exact ⟨fun h => ⟨hz, h⟩, fun h => h.2⟩
  · rw [if_neg hz, b2_f (fun h => hz (key.mp h).1)]
/-- VARIABLES around: the innermost first -/
theorem var_7 {X : Int → Int} {n : Int} {β : Nat} (hβ : 1 ≤ β) {σ : zS} {st : PS} (hA : TkA X n σ st.1) (hS : TkS X n σ st.1) (hB : RBd n σ st.2.2.1) (hC : RSc σ st.2.2.1.length st.2.2.2.1) (hle : st.2.2.2.1.length ≤ 300) : ∀ (k i : Nat), i + k = st.2.2.2.1.length →
    xE tX_variable_7 β σ [(st.2.2.2.1.length : Int) - 1 - (i : Int)] = (match vrF X (wd X (tq X n st.1) (te X n st.1)) st.2.2.1 (st.2.2.2.1.drop i) with
      | some v => some (zI σ 3000 0, v)
      | none => xE tX_variable_39 β σ [0])
  | 0, i, hi => by
    rw [List.drop_eq_nil_iff.mpr (by omega)]
    show _ = xE tX_variable_39 β σ [0]
    rw [xq_variable_7, kW_variable_7, if_pos (by omega)]
  | k + 1, i, hi => by
    obtain ⟨v, hv⟩ : ∃ v, st.2.2.2.1[i]? = some v := ⟨_, List.getElem?_eq_getElem (by omega)⟩
    have hd : st.2.2.2.1.drop i = v :: st.2.2.2.1.drop (i + 1) := by
      rw [List.drop_eq_getElem_cons (by omega)]
      congr 1
      exact (List.getElem?_eq_some_iff.mp hv).2
    obtain ⟨c1, c2, c3⟩ := hC.2 i v hv
    rw [hd, xq_variable_7, kW_variable_7, if_neg (by omega), if_pos ⟨by omega, by omega⟩, if_pos hβ, c1]
    have e1 := isb_ok (β := β - 1) hA hS hB (v := v.toNat) (by omega)
    rw [show ((v.toNat : Nat) : Int) = v by omega] at e1
    rw [zbd_of e1]
    show _ = (match (if bwd X st.2.2.1 v = wd X (tq X n st.1) (te X n st.1) then some v else vrF X (wd X (tq X n st.1) (te X n st.1)) st.2.2.1 (st.2.2.2.1.drop (i + 1))) with
      | some v => some (zI σ 3000 0, v)
      | none => xE tX_variable_39 β σ [0])
    by_cases hw : bwd X st.2.2.1 v = wd X (tq X n st.1) (te X n st.1)
    · rw [b2_t hw, if_neg (by decide), if_pos hw, c1]
      rfl
    · rw [b2_f hw, if_pos rfl, if_neg hw, if_pos ⟨by omega, by omega⟩, show (st.2.2.2.1.length : Int) - 1 - (i : Int) + -1 = (st.2.2.2.1.length : Int) - 1 - ((i + 1 : Nat) : Int) by omega]
      exact var_7 hβ hA hS hB hC hle k (i + 1) (by omega)
