/-! a NAME of the TEXT in the reference -/
theorem tk2 {X : Int → Int} {n p : Int} (h : tk X n p = 2 ∨ tk X n p = 1) (hp : p ≤ n) : te X n p - tq X n p ≤ 31 := by
  unfold tk at h
  unfold te tq
  have h1 := sk_le (T := X) hp
  unfold tok at h ⊢
  by_cases hn : n ≤ sk X n p
  · rw [if_pos hn] at h; rcases h with h | h <;> cases h
  rw [if_neg hn] at h ⊢
  by_cases hl : cLt (X (sk X n p))
  · rw [if_pos hl] at h ⊢
    dsimp only at h ⊢
    by_cases h31 : we X n (sk X n p) - sk X n p ≤ 31
    · exact h31
    · rw [if_neg h31] at h; omega
  · rw [if_neg hl] at h
    exfalso
    unfold sgn at h
    revert h
    repeat' split
    all_goals (intro h; simp_all <;> omega)
theorem nmL_part {nm : PN} {i : Nat} {x : List Int × Int × Int} (h : nm[i]? = some x) : nmL (nm.take i) + x.1.length ≤ nmL nm := by
  have h1 := nmL_app (nm.take i) (nm.drop i)
  rw [List.take_append_drop] at h1
  have hi := (List.getElem?_eq_some_iff.mp h).1
  have hd : nm.drop i = x :: nm.drop (i + 1) := by
    rw [List.drop_eq_getElem_cons hi]
    congr 1
    exact (List.getElem?_eq_some_iff.mp h).2
  rw [hd] at h1
  simp only [nmL] at h1
  omega
theorem sy_39 {X : Int → Int} {n : Int} {β : Nat} {σ : zS} {nm : PN} {i : Nat} {x : List Int × Int × Int} {q L : Int} (hn : n ≤ 20000) (hT : σ.2.1 0 = X) (h9 : σ.1 9 = q) (hN : RNm σ nm) (hx : nm[i]? = some x) (hL : (x.1.length : Int) = L) (hq : 0 ≤ q) (hqL : q + L ≤ n) : ∀ (k : Nat) (j : Int), 0 ≤ j → j + (k : Int) = L → ∃ j2, xE tX_symbol1_39 β σ [L, (i : Int) + 1, 1, j] = xE tX_symbol1_90 β σ [L, (i : Int) + 1, b2 (∀ u : Nat, j ≤ (u : Int) → u < x.1.length → x.1[u]? = some (X (q + (u : Int)))), j2]
  | 0, j, hj, hk => ⟨j, by rw [xq_symbol1_39, kW_symbol1_39, if_neg (by decide), if_pos (by omega), b2_t (fun u h1 h2 => by omega)]⟩
  | k + 1, j, hj, hk => by
    obtain ⟨n1, n2, n3, n4, n5⟩ := hN
    obtain ⟨c1, c2, c3, c4, c5⟩ := n5 i x hx
    have hi := (List.getElem?_eq_some_iff.mp hx).1
    have hp := nmL_part hx
    have h8 := nmL_le n3
    have hjx : ((j.toNat : Nat) : Int) = j := by omega
    obtain ⟨c, hc⟩ : ∃ c, x.1[j.toNat]? = some c := ⟨_, List.getElem?_eq_getElem (by omega)⟩
    have c3' := c3 j.toNat c hc
    rw [hjx] at c3'
    rw [xq_symbol1_39, kW_symbol1_39, if_neg (by decide), if_neg (by omega), if_pos ⟨by omega, by omega⟩, c2, if_pos ⟨by omega, by omega⟩, if_pos ⟨by omega, by omega⟩, h9, if_pos ⟨by omega, by omega⟩, if_pos ⟨by omega, by omega⟩, c3', hT]
    by_cases he : c = X (q + j)
    · rw [if_pos he, xq_symbol1_83, kW_symbol1_83, if_pos ⟨by omega, by omega⟩]
      obtain ⟨j2, e2⟩ := sy_39 (β := β) (X := X) (n := n) hn hT h9 ⟨n1, n2, n3, n4, n5⟩ hx hL hq hqL k (j + 1) (by omega) (by omega)
      have hb : b2 (∀ u : Nat, j + 1 ≤ (u : Int) → u < x.1.length → x.1[u]? = some (X (q + (u : Int)))) = b2 (∀ u : Nat, j ≤ (u : Int) → u < x.1.length → x.1[u]? = some (X (q + (u : Int)))) := by
        apply b2_c
        constructor
        · intro h u h1 h2
          by_cases hu : (u : Int) = j
          · rw [show u = j.toNat by omega, hc, he, hjx]
          · exact h u (by omega) h2
        · intro h u h1 h2
          exact h u (by omega) h2
      exact ⟨j2, e2.trans (by rw [hb])⟩
    · rw [if_neg he, xq_symbol1_83, kW_symbol1_83, if_pos ⟨by omega, by omega⟩, xq_symbol1_39, kW_symbol1_39, if_pos rfl]
      refine ⟨j + 1, ?_⟩
      rw [b2_f]
      intro h
      have := h j.toNat (by omega) (by omega)
      rw [hc, hjx] at this
      exact he (Option.some.inj this)
theorem sy_12 {X : Int → Int} {n : Int} {β : Nat} {σ : zS} {nm : PN} {q e : Int} (hn : n ≤ 20000) (hT : σ.2.1 0 = X) (h9 : σ.1 9 = q) (hN : RNm σ nm) (hq : 0 ≤ q) (hqe : q ≤ e) (hen : e ≤ n) : ∀ (k i : Nat), i + k = nm.length → xE tX_symbol1_12 β σ [e - q, (i : Int) + 1] = (match nmF (wd X q e) (nm.drop i) ((i : Int) + 1) with
      | some r => some (zI σ 3000 0, r)
      | none => xE tX_symbol1_12 β σ [e - q, (nm.length : Int) + 1])
  | 0, i, hi => by
    rw [List.drop_eq_nil_iff.mpr (by omega)]
    show _ = xE tX_symbol1_12 β σ [e - q, (nm.length : Int) + 1]
    rw [show i = nm.length by omega]
  | k + 1, i, hi => by
    obtain ⟨x, hx⟩ : ∃ x, nm[i]? = some x := ⟨_, List.getElem?_eq_getElem (by omega)⟩
    have hd : nm.drop i = x :: nm.drop (i + 1) := by
      rw [List.drop_eq_getElem_cons (by omega)]
      congr 1
      exact (List.getElem?_eq_some_iff.mp hx).2
    obtain ⟨n1, n2, n3, n4, n5⟩ := id hN
    obtain ⟨c1, c2, c3, c4, c5⟩ := n5 i x hx
    have ih := sy_12 (β := β) hn hT h9 hN hq hqe hen k (i + 1) (by omega)
    have hno : ∀ (b j2 : Int), ¬ x.1 = wd X q e → xE tX_symbol1_90 β σ [e - q, (i : Int) + 1, 0, j2] = (match nmF (wd X q e) (x :: nm.drop (i + 1)) ((i : Int) + 1) with
      | some r => some (zI σ 3000 0, r)
      | none => xE tX_symbol1_12 β σ [e - q, (nm.length : Int) + 1]) := fun b j2 hne => by
      rw [xq_symbol1_90, kW_symbol1_90, if_pos rfl, if_pos ⟨by omega, by omega⟩]
      unfold nmF
      rw [if_neg hne]
      rw [show (((i + 1 : Nat) : Int)) = (i : Int) + 1 by omega] at ih
      exact ih
    rw [hd]
    conv => lhs; rw [xq_symbol1_12, kW_symbol1_12, if_neg (by omega), if_pos ⟨by omega, by omega⟩, c1]
    by_cases hl : (x.1.length : Int) = e - q
    · rw [if_pos hl, xq_symbol1_35, kW_symbol1_35]
      obtain ⟨j2, e2⟩ := sy_39 (β := β) hn hT h9 hN hx hl hq (by omega) x.1.length 0 (Int.le_refl _) (by omega)
      rw [e2]
      by_cases hw : x.1 = wd X q e
      · have hall : ∀ u : Nat, (0 : Int) ≤ (u : Int) → u < x.1.length → x.1[u]? = some (X (q + (u : Int))) := fun u _ hu => (wd_eq.mp hw).2 u hu
        rw [b2_t hall, xq_symbol1_90, kW_symbol1_90, if_neg (by decide)]
        unfold nmF
        rw [if_pos hw]
        rfl
      · rw [b2_f (fun h => hw (wd_eq.mpr ⟨by omega, fun u hu => h u (by omega) hu⟩))]
        exact hno 0 j2 hw
    · rw [if_neg hl, xq_symbol1_35, kW_symbol1_35, xq_symbol1_39, kW_symbol1_39, if_pos rfl]
      refine hno 0 0 (fun h => hl ?_)
      rw [h, wd_len]
      omega
theorem sy_170 {X : Int → Int} {n : Int} (hX : TXT X n) {β : Nat} {q L : Int} (hn : n ≤ 20000) (hq : 0 ≤ q) (hqL : q + L ≤ n) : ∀ (k : Nat) (j : Int) (σ : zS), σ.2.1 0 = X → σ.1 9 = q → 0 ≤ σ.1 18 → σ.1 18 + (k : Int) ≤ 9000 → 0 ≤ j → j + (k : Int) = L → ∃ τ, xE tX_symbol1_170 β σ [L, j] = some (τ, σ.1 20) ∧ τ.1 3000 = 0 ∧ τ.1 18 = σ.1 18 + (k : Int) ∧ (∀ i, i ≠ 18 → i ≠ 3000 → τ.1 i = σ.1 i) ∧ (∀ a, a ≠ 17 → τ.2.1 a = σ.2.1 a) ∧ τ.2.2 = σ.2.2 ∧ (∀ i, i < σ.1 18 → τ.2.1 17 i = σ.2.1 17 i) ∧ (∀ i : Nat, i < k → τ.2.1 17 (σ.1 18 + (i : Int)) = X (q + j + (i : Int)))
  | 0, j, σ, hT, h9, h18, h9k, hj, hk => by
    refine ⟨zI σ 3000 0, ?_, zI_1, by rw [zI_o]; simp, fun i _ h => zI_o h, fun _ _ => rfl, rfl, fun _ _ => rfl, fun i hi => absurd hi (by omega)⟩
    rw [xq_symbol1_170, kW_symbol1_170, if_pos (by omega)]
    rfl
  | k + 1, j, σ, hT, h9, h18, h9k, hj, hk => by
    rw [xq_symbol1_170, kW_symbol1_170, if_neg (by omega), if_pos ⟨by omega, by omega⟩]
    obtain ⟨σ1, hs1⟩ : ∃ s1, s1 = zI σ 18 (σ.1 18 + 1) := ⟨_, rfl⟩
    have g9 : σ1.1 9 = q := by rw [hs1, zI_o, h9]
    have gT : σ1.2.1 0 = X := by rw [hs1]; exact hT
    obtain ⟨σ2, hs2⟩ : ∃ s2, s2 = zA σ1 17 (σ.1 18) (X (q + j)) := ⟨_, rfl⟩
    have step : (lt_ (zI σ 18 (σ.1 18 + 1)) (fun σ1 => if zr ((σ1.1 9) + j) then (if zb ((σ1.1 9) + j) 65536 then (if zb (σ.1 18) 9000 then (lt_ (zA σ1 17 (σ.1 18) (znb (σ1.2.1 0 ((σ1.1 9) + j)))) (fun σ2 => if zr (j + 1) then (xE tX_symbol1_170 β σ2 [L, (j + 1)]) else none)) else none) else none) else none)) = xE tX_symbol1_170 β σ2 [L, j + 1] := by
      show (if zr ((zI σ 18 (σ.1 18 + 1)).1 9 + j) then _ else none) = _
      rw [← hs1, g9, if_pos ⟨by omega, by omega⟩, if_pos ⟨by omega, by omega⟩, if_pos ⟨by omega, by omega⟩, gT, znb_id (hX _ (by omega) (by omega)), ← hs2]
      show (if zr (j + 1) then _ else none) = _
      rw [if_pos ⟨by omega, by omega⟩]
    rw [step]
    have k18 : σ2.1 18 = σ.1 18 + 1 := by rw [hs2, hs1]; show (zI σ 18 _).1 18 = _; exact zI_1
    have k9 : σ2.1 9 = q := by rw [hs2]; exact g9
    have kT : σ2.2.1 0 = X := by rw [hs2, zA_o]; exact gT
    have k20 : σ2.1 20 = σ.1 20 := by simp [hs2, hs1, zA, zI]
    obtain ⟨τ, e1, t0, t1, t2, t3, t4, t5, t6⟩ := sy_170 hX (β := β) hn hq hqL k (j + 1) σ2 kT k9 (by omega) (by omega) (by omega) (by omega)
    refine ⟨τ, by rw [e1, k20], t0, by rw [t1, k18]; omega, fun i h1 h2 => ?_, fun a ha => ?_, ?_, fun i hi => ?_, fun i hi => ?_⟩
    · rw [t2 i h1 h2, hs2, hs1]; exact zI_o h1
    · rw [t3 a ha, hs2, zA_o ha, hs1]; rfl
    · rw [t4, hs2, hs1]; rfl
    · rw [t5 i (by omega), hs2, zA_q (by omega), hs1]; rfl
    · by_cases h0 : i = 0
      · subst h0
        rw [t5 _ (by omega), hs2]
        show (zA σ1 17 (σ.1 18) (X (q + j))).2.1 17 (σ.1 18 + ((0 : Nat) : Int)) = X (q + j + ((0 : Nat) : Int))
        rw [show σ.1 18 + ((0 : Nat) : Int) = σ.1 18 by omega, zA_s, show q + j + ((0 : Nat) : Int) = q + j by omega]
      · have := t6 (i - 1) (by omega)
        rw [k18, show σ.1 18 + 1 + ((i - 1 : Nat) : Int) = σ.1 18 + (i : Int) by omega, show q + (j + 1) + ((i - 1 : Nat) : Int) = q + j + (i : Int) by omega] at this
        exact this
theorem symbol_ok {X : Int → Int} {n : Int} (hX : TXT X n) {β : Nat} {σ : zS} {st : PS} {s : Int} (h : RP X n σ st s) (hS : TkS X n σ st.1) (h2 : tk X n st.1 = 2 ∨ tk X n st.1 = 1) {r : (Int × Int) ⊕ (PS × Int)} (hr : symS X n st = some r) : XR (xE tX_symbol1 β σ []) σ r (fun a τ v => v = a.2 ∧ 1 ≤ v ∧ v ≤ (a.1.2.1.length : Int) ∧ a.1.1 = st.1 ∧ RP X n τ a.1 s ∧ TkS X n τ st.1 ∧ EX σ τ) := by
  obtain ⟨hA, hN, hB, hC, hD, hl, hK⟩ := id h
  obtain ⟨⟨hT, hn2, hp0, hpn, hn⟩, _⟩ := id hA
  obtain ⟨q0, q1, q2⟩ := tqe (X := X) hp0 hpn
  have h31 := tk2 (X := X) h2 hpn
  have s9 := hS.2.2.1
  have s10 := hS.2.2.2.2.1
  obtain ⟨n1, n2, n3, n4, n5⟩ := id hN
  have h8 := nmL_le n3
  rw [xq_symbol1, kW_symbol1, s9, s10, if_pos ⟨by omega, by omega⟩]
  have e12 := sy_12 (β := β) hn hT s9 hN q0 q1 q2 _ 0 (by omega : 0 + st.2.1.length = st.2.1.length)
  rw [List.drop_zero, show ((0 : Nat) : Int) + 1 = 1 by omega] at e12
  rw [e12]
  unfold symS at hr
  cases hm : nmF (wd X (tq X n st.1) (te X n st.1)) st.2.1 1 with
  | some k =>
    rw [hm] at hr
    cases hr
    have hk : ∀ (L : PN) (a : Int), nmF (wd X (tq X n st.1) (te X n st.1)) L a = some k → a ≤ k ∧ k < a + (L.length : Int) := fun L => by
      induction L with
      | nil => intro a ha; cases ha
      | cons x L ih =>
        intro a ha
        unfold nmF at ha
        by_cases hx : x.1 = wd X (tq X n st.1) (te X n st.1)
        · rw [if_pos hx] at ha; cases ha; simp only [List.length_cons]; omega
        · rw [if_neg hx] at ha
          have := ih (a + 1) ha
          simp only [List.length_cons]; omega
    have hk1 := hk _ _ hm
    exact XY.ret (σ := σ) (r := k) ⟨rfl, hk1.1, by show k ≤ (st.2.1.length : Int); omega, rfl, h.f (by decide), hS.c (fun j hj => zI_o (by omega)), EX.of ⟨zI_o, zI_o, zI_o⟩ (fun _ _ => rfl)⟩
  | none =>
    rw [hm] at hr
    show XR (xE tX_symbol1_12 β σ [te X n st.1 - tq X n st.1, (st.2.1.length : Int) + 1]) σ r _
    rw [xq_symbol1_12, kW_symbol1_12, if_pos (by omega), n1]
    dsimp only at hr
    by_cases h250 : st.2.1.length = 250
    · rw [if_pos h250] at hr
      cases hr
      rw [if_pos (by omega), s9]
      exact XN.thr
    · rw [if_neg h250] at hr
      cases hr
      rw [if_neg (by omega), if_pos ⟨by omega, by omega⟩]
      obtain ⟨N, hN9⟩ : ∃ N : Int, N = (st.2.1.length : Int) + 1 := ⟨_, rfl⟩
      obtain ⟨L, hL⟩ : ∃ L : Int, L = te X n st.1 - tq X n st.1 := ⟨_, rfl⟩
      rw [← hN9, ← hL]
      show XR (if zb ((zI σ 20 N).1 20) 900 then (if zb ((zI σ 20 N).1 20) 900 then (if zb ((zI σ 20 N).1 20) 900 then xE tX_symbol1_170 β (zA (zA (zA (zI σ 20 N) 13 ((zI σ 20 N).1 20) ((zI σ 20 N).1 18)) 14 ((zI σ 20 N).1 20) L) 16 ((zI σ 20 N).1 20) 0) [L, 0] else none) else none) else none) σ _ _
      rw [zI_1, zI_o, if_pos ⟨by omega, by omega⟩, if_pos ⟨by omega, by omega⟩, if_pos ⟨by omega, by omega⟩, n4]
      obtain ⟨σ4, hs4⟩ : ∃ s4, s4 = zA (zA (zA (zI σ 20 N) 13 N (nmL st.2.1 : Int)) 14 N L) 16 N 0 := ⟨_, rfl⟩
      rw [← hs4]
      have f18 : σ4.1 18 = (nmL st.2.1 : Int) := by rw [← n4]; simp [hs4, zA, zI]
      have f20 : σ4.1 20 = N := by simp [hs4, zA, zI]
      have f9 : σ4.1 9 = tq X n st.1 := by rw [← s9]; simp [hs4, zA, zI]
      have fT : σ4.2.1 0 = X := by rw [hs4, zA_o, zA_o, zA_o]; exact hT
      have fi : ∀ i, i ≠ 20 → σ4.1 i = σ.1 i := fun i hi => by
        rw [hs4]
        show (zI σ 20 N).1 i = _
        exact zI_o hi
      have fa : ∀ a, a ≠ 13 → a ≠ 14 → a ≠ 16 → σ4.2.1 a = σ.2.1 a := fun a h1 h2 h3 => by rw [hs4, zA_o h3, zA_o h2, zA_o h1]; rfl
      obtain ⟨τ, e1, t0, t1, t2, t3, t4, t5, t6⟩ := sy_170 hX (β := β) hn q0 (by omega : tq X n st.1 + L ≤ n) L.toNat 0 σ4 fT f9 (by omega) (by omega) (Int.le_refl _) (by omega)
      rw [e1, f20]
      have ti : ∀ i, i ≠ 18 → i ≠ 20 → i ≠ 3000 → τ.1 i = σ.1 i := fun i h1 h2 h3 => (t2 i h1 h3).trans (fi i h2)
      have ta : ∀ a, a ≠ 13 → a ≠ 14 → a ≠ 16 → a ≠ 17 → τ.2.1 a = σ.2.1 a := fun a h1 h2 h3 h4 => (t3 a h4).trans (fa a h1 h2 h3)
      have f1 : FrP σ τ := ⟨fun j hj => ti j (fun e => hj (by rw [e]; decide)) (fun e => hj (by rw [e]; decide)) (fun e => hj (by rw [e]; decide)), fun a ha => ta a (fun e => ha (by rw [e]; decide)) (fun e => ha (by rw [e]; decide)) (fun e => ha (by rw [e]; decide)) (fun e => ha (by rw [e]; decide)), by rw [t4, hs4]; rfl⟩
      have hw : (wd X (tq X n st.1) (te X n st.1)).length = L.toNat := by rw [wd_len, hL]
      have hlen : (st.2.1 ++ [(wd X (tq X n st.1) (te X n st.1), (0 : Int), (0 : Int))]).length = st.2.1.length + 1 := by simp
      have hN2 : RNm τ (st.2.1 ++ [(wd X (tq X n st.1) (te X n st.1), 0, 0)]) := by
        refine ⟨by rw [t2 20 (by decide) (by decide), f20, hlen]; omega, by rw [hlen]; omega, fun x hx => ?_, ?_, fun i x hx => ?_⟩
        · rcases List.mem_append.mp hx with hx | hx
          · exact n3 x hx
          · cases List.mem_singleton.mp hx
            show (wd X (tq X n st.1) (te X n st.1)).length ≤ 31
            rw [hw]; omega
        · rw [t1, f18, nmL_app]
          simp only [nmL]
          rw [hw]; omega
        · by_cases hi : i < st.2.1.length
          · rw [List.getElem?_append_left hi] at hx
            obtain ⟨c1, c2, c3, c4, c5⟩ := n5 i x hx
            have hpt := nmL_part hx
            rw [List.take_append_of_le_length (by omega)]
            refine ⟨?_, ?_, fun j c hc => ?_, ?_, fun h0 => ?_⟩
            · rw [t3 14 (by decide), hs4, zA_o, zA_q (by omega), zA_o]; exact c1
            · rw [t3 13 (by decide), hs4, zA_o, zA_o, zA_q (by omega)]; exact c2
            · have hj := (List.getElem?_eq_some_iff.mp hc).1
              rw [t5 _ (by omega), fa 17 (by decide) (by decide) (by decide)]; exact c3 j c hc
            · rw [t3 16 (by decide), hs4, zA_q (by omega), zA_o, zA_o]; exact c4
            · rw [t3 15 (by decide), fa 15 (by decide) (by decide) (by decide)]; exact c5 h0
          · have hi2 : i = st.2.1.length := by
              have := (List.getElem?_eq_some_iff.mp hx).1
              rw [hlen] at this; omega
            subst hi2
            rw [List.getElem?_append_right (Nat.le_refl _), Nat.sub_self] at hx
            cases hx
            rw [← hN9, List.take_left]
            refine ⟨?_, ?_, fun j c hc => ?_, ?_, fun h0 => absurd rfl h0⟩
            · show τ.2.1 14 N = ((wd X (tq X n st.1) (te X n st.1)).length : Int)
              rw [t3 14 (by decide), hs4, zA_o, zA_s, hw]; omega
            · rw [t3 13 (by decide), hs4, zA_o, zA_o, zA_s]
            · have hj := (List.getElem?_eq_some_iff.mp hc).1
              have hj2 : j < L.toNat := by rw [← hw]; exact hj
              have h6 := t6 j hj2
              rw [f18] at h6
              rw [h6]
              have hc2 : (wd X (tq X n st.1) (te X n st.1))[j]? = some c := hc
              rw [wd_get (by omega)] at hc2
              have h7 := Option.some.inj hc2
              rw [← h7, show tq X n st.1 + 0 + (j : Int) = tq X n st.1 + (j : Int) by omega]
            · rw [t3 16 (by decide), hs4, zA_s]
      refine ⟨τ, N, rfl, t0, f1, rfl, by omega, ?_, rfl, ⟨hA.c (fun j hj => ti j (by omega) (by omega) (by omega)) (ta 0 (by decide) (by decide) (by decide) (by decide)), hN2, hB.c (ti _ (by decide) (by decide) (by decide)) ⟨ta _ (by decide) (by decide) (by decide) (by decide), ta _ (by decide) (by decide) (by decide) (by decide), ta _ (by decide) (by decide) (by decide) (by decide)⟩, hC.c (Nat.le_refl _) (ti _ (by decide) (by decide) (by decide)) (ta _ (by decide) (by decide) (by decide) (by decide)), hD.c (Nat.le_refl _) (ti _ (by decide) (by decide) (by decide)) (ta _ (by decide) (by decide) (by decide) (by decide)), hl, hK.c (Int.le_refl _) ⟨ti _ (by decide) (by decide) (by decide), ti _ (by decide) (by decide) (by decide), ti _ (by decide) (by decide) (by decide)⟩⟩, hS.c (fun j hj => ti j (by omega) (by omega) (by omega)), EX.of ⟨ti _ (by decide) (by decide) (by decide), ti _ (by decide) (by decide) (by decide), ti _ (by decide) (by decide) (by decide)⟩ (fun a ha => ta a (by omega) (by omega) (by omega) (by omega))⟩
      show N ≤ ((st.2.1 ++ _).length : Int)
      rw [hlen]; omega
theorem check_ok {X : Int → Int} {n : Int} {β : Nat} {σ : zS} {st : PS} {s k is a q : Int} (h : RP X n σ st s) (hk : 1 ≤ k) (his : is ≠ 0) {r : (Int × Int) ⊕ PS} (hr : chkS st k is a q = some r) : XR (xE tX_check β σ [k, is, a, q]) σ r (fun st2 τ v => st2.1 = st.1 ∧ st2.2.2 = st.2.2 ∧ RP X n τ st2 s ∧ EX σ τ ∧ ∀ j, j < 3000 → τ.1 j = σ.1 j) := by
  obtain ⟨hA, hN, hB, hC, hD, hl, hK⟩ := id h
  obtain ⟨n1, n2, n3, n4, n5⟩ := id hN
  obtain ⟨i, hi⟩ : ∃ i : Nat, (i : Int) + 1 = k := ⟨(k - 1).toNat, by omega⟩
  have hi2 : (k - 1).toNat = i := by omega
  unfold chkS at hr
  rw [hi2] at hr
  cases hx : st.2.1[i]? with
  | none => rw [hx] at hr; cases hr
  | some x =>
    rw [hx] at hr
    dsimp only at hr
    have hil := (List.getElem?_eq_some_iff.mp hx).1
    obtain ⟨c1, c2, c3, c4, c5⟩ := n5 i x hx
    rw [hi] at c1 c2 c4 c5
    rw [xq_check, kW_check, if_pos ⟨by omega, by omega⟩, c4]
    by_cases h0 : x.2.1 = 0
    · rw [if_pos h0] at hr
      cases hr
      rw [if_pos h0]
      show XR (xE tX_check_57 β (zA (zA σ 16 k is) 15 k a) [k, is, a, q]) σ _ _
      rw [xq_check_57, kW_check_57]
      obtain ⟨τ, hτ⟩ : ∃ t, t = zA (zA σ 16 k is) 15 k a := ⟨_, rfl⟩
      rw [← hτ]
      have ti : ∀ j, τ.1 j = σ.1 j := fun j => by rw [hτ]; rfl
      have ta : ∀ b, b ≠ 15 → b ≠ 16 → τ.2.1 b = σ.2.1 b := fun b h1 h2 => by rw [hτ, zA_o h1, zA_o h2]
      have f1 : FrP σ τ := by rw [hτ]; exact FrP.tr FrP.a FrP.a
      have hN2 : RNm τ (st.2.1.set i (x.1, is, a)) := by
        have ltk : ∀ j, nmL ((st.2.1.set i (x.1, is, a)).take j) = nmL (st.2.1.take j) := fun j => by
          have : ∀ (L : PN) (i j : Nat) (x : List Int × Int × Int), L[i]? = some x → nmL ((L.set i (x.1, is, a)).take j) = nmL (L.take j) := fun L => by
            induction L with
            | nil => intro i j x h; cases h
            | cons y L ih =>
              intro i j x h
              cases i with
              | zero =>
                cases h
                cases j with
                | zero => rfl
                | succ j => rfl
              | succ i =>
                cases j with
                | zero => rfl
                | succ j =>
                  simp only [List.set_cons_succ, List.take_succ_cons, nmL]
                  rw [ih i j x (by simpa using h)]
          exact this _ _ _ _ hx
        have lall : nmL (st.2.1.set i (x.1, is, a)) = nmL st.2.1 := by
          have := ltk (st.2.1.length)
          rw [List.take_of_length_le (by rw [List.length_set]; exact Nat.le_refl _), List.take_of_length_le (Nat.le_refl _)] at this
          exact this
        refine ⟨by rw [ti, List.length_set]; exact n1, by rw [List.length_set]; exact n2, fun y hy => ?_, by rw [ti, lall]; exact n4, fun j y hy => ?_⟩
        · rcases List.mem_or_eq_of_mem_set hy with hy | hy
          · exact n3 y hy
          · rw [hy]; exact n3 x (List.mem_of_getElem? hx)
        · rw [ltk j]
          by_cases hj : j = i
          · subst hj
            rw [List.getElem?_set_self hil] at hy
            cases hy
            rw [hi]
            refine ⟨by rw [ta 14 (by decide) (by decide)]; exact c1, by rw [ta 13 (by decide) (by decide)]; exact c2, fun u c hc => by rw [ta 17 (by decide) (by decide)]; exact c3 u c hc, by rw [hτ, zA_o, zA_s], fun _ => by rw [hτ, zA_s]⟩
          · rw [List.getElem?_set_ne (by omega)] at hy
            obtain ⟨d1, d2, d3, d4, d5⟩ := n5 j y hy
            refine ⟨by rw [ta 14 (by decide) (by decide)]; exact d1, by rw [ta 13 (by decide) (by decide)]; exact d2, fun u c hc => by rw [ta 17 (by decide) (by decide)]; exact d3 u c hc, by rw [hτ, zA_o, zA_q (by omega)]; exact d4, fun hh => by rw [hτ, zA_q (by omega), zA_o]; exact d5 hh⟩
      refine (XY.ret (σ := τ) (r := 0) ⟨rfl, rfl, RP.f ⟨hA.c (fun j _ => ti j) (ta 0 (by decide) (by decide)), by rw [hi2] at *; exact hN2, hB.c (ti _) ⟨ta _ (by decide) (by decide), ta _ (by decide) (by decide), ta _ (by decide) (by decide)⟩, hC.c (Nat.le_refl _) (ti _) (ta _ (by decide) (by decide)), hD.c (Nat.le_refl _) (ti _) (ta _ (by decide) (by decide)), hl, hK.c (Int.le_refl _) ⟨ti _, ti _, ti _⟩⟩ (by decide), ?_, fun j hj => (zI_o (by omega)).trans (ti j)⟩).fr f1
      exact (EX.of (τ := τ) ⟨ti _, ti _, ti _⟩ (fun b hb => ta b (by omega) (by omega))).tr (EX.of ⟨zI_o, zI_o, zI_o⟩ (fun _ _ => rfl))
    · rw [if_neg h0] at hr
      rw [if_neg h0]
      have no : XN (xE tX_check_46 β σ [k, is, a, q]) σ 2 q := by
        rw [xq_check_46, kW_check_46]
        exact XN.thr
      have yes : XY (xE tX_check_57 β σ [k, is, a, q]) σ (fun τ v => st.1 = st.1 ∧ st.2.2 = st.2.2 ∧ RP X n τ st s ∧ EX σ τ ∧ ∀ j, j < 3000 → τ.1 j = σ.1 j) := by
        rw [xq_check_57, kW_check_57]
        exact XY.ret ⟨rfl, rfl, h.f (by decide), EX.of ⟨zI_o, zI_o, zI_o⟩ (fun _ _ => rfl), fun j hj => zI_o (by omega)⟩
      rw [c5 h0]
      by_cases h1 : x.2.1 = is
      · rw [if_pos h1]
        by_cases h2 : x.2.2 = a
        · rw [if_pos ⟨h1, h2⟩] at hr
          cases hr
          rw [if_pos h2]
          exact yes
        · rw [if_neg (fun w => h2 w.2)] at hr
          cases hr
          rw [if_neg h2]
          exact no
      · rw [if_neg (fun w => h1 w.1)] at hr
        cases hr
        rw [if_neg h1]
        exact no
