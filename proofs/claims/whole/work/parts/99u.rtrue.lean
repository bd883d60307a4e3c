/-! is a CLAUSE true, in the reference -/
theorem ntm (a b : Nat) : Int.tmod (a : Int) (b : Int) = ((a % b : Nat) : Int) := rfl
theorem ntd (a b : Nat) : Int.tdiv (a : Int) (b : Int) = ((a / b : Nat) : Int) := rfl
theorem it_91 {ar : Int → Nat} {pd : Int → Prop} {m9 : Int} {β : Nat} (hβ : 110 ≤ β) {σ : zS} {Cs : List CL} (hR : RC σ Cs) (hp : Pd σ m9 pd) (h0 : σ.1 125 ≠ 0) {k : Nat} {c : CL} (hc : Cs[k]? = some c) (wc : Wc ar m9 c.1) {N w r : Int} : ∀ (j n : Nat), n + j = c.1.length → ∃ x5, zE tM_isTrue_91 β σ [(k : Int), N, w, r, 0, lpos Cs k + (n : Int)] = zE tM_isTrue_167 β σ [(k : Int), N, w, r, b2 (hoL pd (σ.1 124) (σ.1 125) (fun v => σ.2.1 126 v) (c.1.drop n)), x5]
  | 0, n, hj => by
    obtain ⟨hk, k1, k2, k3, k4, k5⟩ := hR.k hc
    refine ⟨lpos Cs k + (n : Int), ?_⟩
    rw [zq_isTrue_91, kZ_isTrue_91, if_pos (by omega), hk.1, hk.2.1, if_pos (by omega), if_pos (by omega), b2_f]
    rintro ⟨a, ha, _⟩
    rw [List.drop_eq_nil_iff.mpr (by omega)] at ha
    cases ha
  | j + 1, n, hj => by
    obtain ⟨hk, k1, k2, k3, k4, k5⟩ := hR.k hc
    obtain ⟨a, ha⟩ : ∃ a, c.1[n]? = some a := ⟨_, List.getElem?_eq_getElem (by omega)⟩
    obtain ⟨l1, l2, l3, l4, l5, l6⟩ := hR.l hc ha
    obtain ⟨w8, w100, _, _, wl⟩ := id wc
    obtain ⟨wa0, wa1, wa2⟩ := wl a (List.mem_of_getElem? ha)
    have lwm : lwt a ≤ wtL c.1 := wtL_mm (List.mem_of_getElem? ha)
    have elw : lwt a = tw a.2.1 + tw a.2.2 := rfl
    have h1 := ht_le_wt a.2.1.2
    have h2 := ht_le_wt a.2.2.2
    have tw1 : tw a.2.1 = 1 + wt a.2.1.2 := rfl
    have tw2 : tw a.2.2 = 1 + wt a.2.2.2 := rfl
    have e1 := mea_ok (β := β - 1) hp h0 l1 wa1 (by omega)
    have e2 := mea_ok (β := β - 1) hp h0 l2 wa2 (by omega)
    obtain ⟨J, hJ⟩ : ∃ z, z = lpos Cs k + (n : Int) := ⟨_, rfl⟩
    rw [← hJ] at e1 e2 l5 ⊢
    have hd : c.1.drop n = a :: c.1.drop (n + 1) := by
      rw [List.drop_eq_getElem_cons (by omega)]
      congr 1
      exact (List.getElem?_eq_some_iff.mp ha).2
    obtain ⟨V1, hV1⟩ : ∃ z, z = mvT pd (σ.1 124) (σ.1 125) (fun v => σ.2.1 126 v) a.2.1 := ⟨_, rfl⟩
    obtain ⟨V2, hV2⟩ : ∃ z, z = mvT pd (σ.1 124) (σ.1 125) (fun v => σ.2.1 126 v) a.2.2 := ⟨_, rfl⟩
    rw [← hV1] at e1
    rw [← hV2] at e2
    have e159 : ∀ x6 : Int, zE tM_isTrue_159 β σ [(k : Int), N, w, r, 0, J, x6] = zE tM_isTrue_91 β σ [(k : Int), N, w, r, x6, lpos Cs k + ((n + 1 : Nat) : Int)] := fun x6 => by
      rw [zq_isTrue_159, kZ_isTrue_159, if_pos (by omega), show J + 1 = lpos Cs k + ((n + 1 : Nat) : Int) by omega]
    -- this LITERAL is true
    have yes : (V1 = V2 ↔ a.1 = 1) → ∃ x5, zE tM_isTrue_159 β σ [(k : Int), N, w, r, 0, J, 1] = zE tM_isTrue_167 β σ [(k : Int), N, w, r, b2 (hoL pd (σ.1 124) (σ.1 125) (fun v => σ.2.1 126 v) (c.1.drop n)), x5] := fun h => by
      have ho : hoL pd (σ.1 124) (σ.1 125) (fun v => σ.2.1 126 v) (c.1.drop n) := ⟨a, by rw [hd]; exact List.mem_cons_self, by rw [← hV1, ← hV2]; exact h⟩
      rw [e159, b2_t ho]
      refine ⟨lpos Cs k + ((n + 1 : Nat) : Int), ?_⟩
      rw [zq_isTrue_91, kZ_isTrue_91, if_pos (by omega), hk.1, hk.2.1, if_pos (by omega)]
      by_cases q : lpos Cs k + (c.1.length : Int) ≤ lpos Cs k + ((n + 1 : Nat) : Int)
      · rw [if_pos q]
      · rw [if_neg q, if_neg (by decide)]
    have no : ¬ (V1 = V2 ↔ a.1 = 1) → ∃ x5, zE tM_isTrue_159 β σ [(k : Int), N, w, r, 0, J, 0] = zE tM_isTrue_167 β σ [(k : Int), N, w, r, b2 (hoL pd (σ.1 124) (σ.1 125) (fun v => σ.2.1 126 v) (c.1.drop n)), x5] := fun h => by
      have ho : hoL pd (σ.1 124) (σ.1 125) (fun v => σ.2.1 126 v) (c.1.drop n) ↔ hoL pd (σ.1 124) (σ.1 125) (fun v => σ.2.1 126 v) (c.1.drop (n + 1)) := by
        rw [hd]
        constructor
        · rintro ⟨b, hb, hq⟩
          rcases List.mem_cons.mp hb with rfl | hb
          · rw [← hV1, ← hV2] at hq; exact absurd hq h
          · exact ⟨b, hb, hq⟩
        · rintro ⟨b, hb, hq⟩; exact ⟨b, List.mem_cons_of_mem _ hb, hq⟩
      rw [e159, b2_c ho]
      exact it_91 hβ hR hp h0 hc wc j (n + 1) (by omega)
    rw [zq_isTrue_91, kZ_isTrue_91, if_pos (by omega), hk.1, hk.2.1, if_pos (by omega), if_neg (by omega), if_pos rfl, if_pos (by omega), if_pos (by omega), zbd_of e1, if_pos (by omega), zbd_of e2]
    by_cases q : V1 = V2
    · rw [if_pos q, zq_isTrue_144, kZ_isTrue_144, if_pos (by omega), l5]
      by_cases s : a.1 = 1
      · rw [if_pos s.symm]; exact yes ⟨fun _ => s, fun _ => q⟩
      · rw [if_neg (fun w => s w.symm)]; exact no (fun w => s (w.mp q))
    · rw [if_neg q, zq_isTrue_144, kZ_isTrue_144, if_pos (by omega), l5]
      by_cases s : a.1 = 1
      · rw [if_neg (by omega)]; exact no (fun w => q (w.mpr s))
      · rw [if_pos (by omega)]; exact yes ⟨fun w => absurd w q, fun w => absurd w s⟩
theorem it_40 {β : Nat} {Cs : List CL} {k : Nat} {c : CL} (hc : Cs[k]? = some c) (n6 : (ntL [] c.1).length ≤ 6) {m : Nat} (m1 : 1 ≤ m) {N w : Int} : ∀ (j v u : Nat) (σ : zS), RC σ Cs → σ.1 125 = (m : Int) → v + j = (ntL [] c.1).length → u ≤ 1000 → ∃ (τ : zS) (r : Int), zE tM_isTrue_40 β σ [(k : Int), N, w, (u : Int), (v : Int)] = zE tM_isTrue_91 β τ [(k : Int), N, w, r, 0, lpos Cs k] ∧ FrC [] [126] σ τ ∧ (∀ i : Nat, v ≤ i → i < (ntL [] c.1).length → τ.2.1 126 (i : Int) = ((u / m ^ (i - v) % m : Nat) : Int)) ∧ ∀ i : Int, i < (v : Int) → τ.2.1 126 i = σ.2.1 126 i
  | 0, v, u, σ, hR, hm, hj, hu => by
    obtain ⟨hk, k1, k2, k3, k4, k5⟩ := hR.k hc
    refine ⟨σ, (u : Int), ?_, FrC.refl, fun i a b => by omega, fun _ _ => rfl⟩
    rw [zq_isTrue_40, kZ_isTrue_40, if_pos (by omega), hk.2.2.2.1, if_pos (by omega), hk.1]
  | j + 1, v, u, σ, hR, hm, hj, hu => by
    obtain ⟨hk, k1, k2, k3, k4, k5⟩ := hR.k hc
    obtain ⟨σ1, hσ1⟩ : ∃ z, z = zA σ 126 (v : Int) ((u % m : Nat) : Int) := ⟨_, rfl⟩
    have f1 : FrC [] [126] σ σ1 := by rw [hσ1]; exact FrC_A
    have ud : u / m ≤ u := Nat.div_le_self _ _
    have zu : zr ((u / m : Nat) : Int) := by
      obtain ⟨d, hd⟩ : ∃ d, d = u / m := ⟨_, rfl⟩
      rw [← hd] at ud ⊢
      exact ⟨by omega, by omega⟩
    obtain ⟨τ, r, t1, t2, t3, t4⟩ := it_40 (β := β) hc n6 m1 (N := N) (w := w) j (v + 1) (u / m) σ1 (hR.f f1 f1.pq) (by rw [f1.i 125]; exact hm) (by omega) (by omega)
    refine ⟨τ, r, ?_, f1.trans t2, fun i a b => ?_, fun i a => by rw [t4 i (by omega), hσ1, zA_i (by omega)]⟩
    · rw [zq_isTrue_40, kZ_isTrue_40, if_pos (by omega), hk.2.2.2.1, if_neg (by omega), hm, if_neg (by omega), if_pos (by omega), ntm, lt_e, ← hσ1, f1.i 125, hm, if_neg (by omega), ntd, if_pos zu, if_pos (by omega), show (v : Int) + 1 = ((v + 1 : Nat) : Int) by omega]
      exact t1
    · by_cases e : i = v
      · rw [e, t4 _ (by omega), hσ1, zA_s, Nat.sub_self, Nat.pow_zero, Nat.div_one]
      · rw [t3 i (by omega) b, Nat.div_div_eq_div_mul, show i - v = (i - (v + 1)) + 1 by omega, Nat.pow_succ, Nat.mul_comm]
theorem it_29 {ar : Int → Nat} {pd : Int → Prop} {m9 : Int} {β : Nat} (hβ : 110 ≤ β) {Cs : List CL} {k : Nat} {c : CL} (hc : Cs[k]? = some c) (wc : Wc ar m9 c.1) {m : Nat} (m1 : 1 ≤ m) (hpw : m ^ (ntL [] c.1).length ≤ 1000) : ∀ (j w : Nat) (σ : zS), RC σ Cs → Pd σ m9 pd → σ.1 125 = (m : Int) → w + j = m ^ (ntL [] c.1).length → ∃ τ, zE tM_isTrue_29 β σ [(k : Int), ((m ^ (ntL [] c.1).length : Nat) : Int), (w : Int)] = some (τ, b2 (∀ w', w ≤ w' → w' < m ^ (ntL [] c.1).length → hoL pd (σ.1 124) (m : Int) (dg m w') c.1)) ∧ FrC [] [126] σ τ
  | 0, w, σ, hR, hp, hm, hj => by
    refine ⟨σ, ?_, FrC.refl⟩
    rw [zq_isTrue_29, kZ_isTrue_29, if_pos (by omega), b2_t]
    intro w' a b; omega
  | j + 1, w, σ, hR, hp, hm, hj => by
    have h6 := wc.2.2.1
    obtain ⟨σ1, r, t1, t2, t3, _⟩ := it_40 (β := β) hc h6 m1 (N := ((m ^ (ntL [] c.1).length : Nat) : Int)) (w := (w : Int)) (ntL [] c.1).length 0 w σ hR hm (by omega) (by omega)
    have R1 := hR.f t2 t2.pq
    have i5 : σ1.1 125 = (m : Int) := by rw [t2.i 125]; exact hm
    obtain ⟨x5, u1⟩ := it_91 (pd := pd) hβ R1 (hp.f t2) (by rw [i5]; omega) hc wc (N := ((m ^ (ntL [] c.1).length : Nat) : Int)) (w := (w : Int)) (r := r) c.1.length 0 (by omega)
    rw [i5, t2.i 124, List.drop_zero, show lpos Cs k + ((0 : Nat) : Int) = lpos Cs k by omega] at u1
    have cg : hoL pd (σ.1 124) (m : Int) (fun v => σ1.2.1 126 v) c.1 ↔ hoL pd (σ.1 124) (m : Int) (dg m w) c.1 := hoL_c wc (fun v v0 v1 => by
      obtain ⟨i, rfl⟩ := Int.eq_ofNat_of_zero_le v0
      rw [t3 i (Nat.zero_le _) (by omega)]; simp [dg])
    have t1' : zE tM_isTrue_40 β σ [(k : Int), ((m ^ (ntL [] c.1).length : Nat) : Int), (w : Int), (w : Int), 0] = _ := t1
    rw [zq_isTrue_29, kZ_isTrue_29, if_neg (by omega), t1', u1, zq_isTrue_167, kZ_isTrue_167]
    by_cases h : hoL pd (σ.1 124) (m : Int) (fun v => σ1.2.1 126 v) c.1
    · rw [b2_t h, if_neg (by decide), if_pos (by omega)]
      obtain ⟨τ, v1, v2⟩ := it_29 hβ hc wc m1 hpw j (w + 1) σ1 R1 (hp.f t2) i5 (by omega)
      refine ⟨τ, ?_, t2.trans v2⟩
      rw [show (w : Int) + 1 = ((w + 1 : Nat) : Int) by omega, v1, t2.i 124]
      congr 2
      refine b2_c ⟨fun q w' a b => ?_, fun q w' a b => q w' (by omega) b⟩
      by_cases e : w' = w
      · rw [e]; exact cg.mp h
      · exact q w' (by omega) b
    · rw [b2_f h, if_pos rfl]
      refine ⟨σ1, ?_, t2⟩
      rw [b2_f]
      intro q
      exact h (cg.mpr (q w (Nat.le_refl _) (by omega)))
theorem it_4 {β : Nat} {σ : zS} {Cs : List CL} (hR : RC σ Cs) {k : Nat} {c : CL} (hc : Cs[k]? = some c) (n6 : (ntL [] c.1).length ≤ 6) {m : Nat} (m3 : m ≤ 3) (hm : σ.1 125 = (m : Int)) : ∀ (j v : Nat), v + j = (ntL [] c.1).length → zE tM_isTrue_4 β σ [(k : Int), ((m ^ v : Nat) : Int), (v : Int)] = zE tM_isTrue_29 β σ [(k : Int), ((m ^ (ntL [] c.1).length : Nat) : Int), 0]
  | 0, v, hj => by
    obtain ⟨hk, k1, k2, k3, k4, k5⟩ := hR.k hc
    rw [zq_isTrue_4, kZ_isTrue_4, if_pos (by omega), hk.2.2.2.1, if_pos (by omega), show v = (ntL [] c.1).length by omega]
  | j + 1, v, hj => by
    obtain ⟨hk, k1, k2, k3, k4, k5⟩ := hR.k hc
    have pw : m ^ v ≤ 3 ^ 6 := Nat.le_trans (Nat.pow_le_pow_left m3 v) (Nat.pow_le_pow_right (by omega) (by omega))
    have pm : m ^ v * m ≤ 3 ^ 6 * 3 := Nat.mul_le_mul pw m3
    have e1 : ((m ^ v : Nat) : Int) * (m : Int) = ((m ^ (v + 1) : Nat) : Int) := by rw [Nat.pow_succ, Int.natCast_mul]
    have pb : (3 : Nat) ^ 6 * 3 = 2187 := by decide
    have pn : m ^ (v + 1) ≤ 2187 := by rw [Nat.pow_succ]; omega
    rw [zq_isTrue_4, kZ_isTrue_4, if_pos (by omega), hk.2.2.2.1, if_neg (by omega), hm, e1, if_pos (by omega), if_pos (by omega), show (v : Int) + 1 = ((v + 1 : Nat) : Int) by omega]
    exact it_4 hR hc n6 m3 hm j (v + 1) (by omega)
theorem it_ok {ar : Int → Nat} {pd : Int → Prop} {m9 : Int} {β : Nat} (hβ : 110 ≤ β) {σ : zS} {Cs : List CL} (hR : RC σ Cs) (hp : Pd σ m9 pd) {k : Nat} {c : CL} (hc : Cs[k]? = some c) (wc : Wc ar m9 c.1) {m : Nat} (m1 : 1 ≤ m) (m3 : m ≤ 3) (hm : σ.1 125 = (m : Int)) : ∃ τ, zE tM_isTrue β σ [(k : Int)] = some (τ, b2 (mkT pd (σ.1 124) m c.1)) ∧ FrC [] [126] σ τ := by
  have h6 := wc.2.2.1
  have pw : m ^ (ntL [] c.1).length ≤ 3 ^ 6 := Nat.le_trans (Nat.pow_le_pow_left m3 _) (Nat.pow_le_pow_right (by omega) h6)
  have pb : (3 : Nat) ^ 6 = 729 := by decide
  have t1 := it_4 (β := β) hR hc h6 m3 hm (ntL [] c.1).length 0 (by omega)
  obtain ⟨τ, u1, u2⟩ := it_29 (pd := pd) hβ hc wc m1 (by omega) (m ^ (ntL [] c.1).length) 0 σ hR hp hm (by omega)
  refine ⟨τ, ?_, u2⟩
  rw [Nat.pow_zero] at t1
  have t1' : zE tM_isTrue_4 β σ [(k : Int), 1, 0] = _ := t1
  have u1' : zE tM_isTrue_29 β σ [(k : Int), ((m ^ (ntL [] c.1).length : Nat) : Int), 0] = _ := u1
  rw [zq_isTrue, kZ_isTrue, t1', u1']
  congr 2
  exact b2_c ⟨fun q w h => q w (Nat.zero_le _) h, fun q w _ h => q w h⟩
theorem tt_2 {ar : Int → Nat} {pd : Int → Prop} {m9 : Int} {β : Nat} (hβ : 111 ≤ β) {Cs : List CL} (wC : ∀ c ∈ Cs, Wc ar m9 c.1) {m L : Nat} (m1 : 1 ≤ m) (m3 : m ≤ 3) (hL : L ≤ Cs.length) : ∀ (j k : Nat) (σ : zS), RC σ Cs → Pd σ m9 pd → σ.1 125 = (m : Int) → σ.1 85 = (L : Int) → k + j = L → ∃ τ, zE tM_textIsTrue_2 β σ [(k : Int)] = some (τ, b2 (∀ (i : Nat) c, k ≤ i → i < L → Cs[i]? = some c → mkT pd (σ.1 124) m c.1)) ∧ FrC [] [126] σ τ
  | 0, k, σ, hR, hp, hm, hl, hj => by
    refine ⟨σ, ?_, FrC.refl⟩
    rw [zq_textIsTrue_2, kZ_textIsTrue_2, if_pos (by omega), b2_t]
    intro i c a b; omega
  | j + 1, k, σ, hR, hp, hm, hl, hj => by
    have h20 := hR.2.1
    obtain ⟨c, hc⟩ : ∃ c, Cs[k]? = some c := ⟨_, List.getElem?_eq_getElem (by omega)⟩
    obtain ⟨σ1, t1, t2⟩ := it_ok (pd := pd) (β := β - 1) (by omega) hR hp hc (wC c (List.mem_of_getElem? hc)) m1 m3 hm
    rw [zq_textIsTrue_2, kZ_textIsTrue_2, if_neg (by omega), if_pos (by omega), zbd_of t1]
    by_cases h : mkT pd (σ.1 124) m c.1
    · rw [b2_t h, if_neg (by decide), if_pos (by omega)]
      obtain ⟨τ, u1, u2⟩ := tt_2 hβ wC m1 m3 hL j (k + 1) σ1 (hR.f t2 t2.pq) (hp.f t2) (by rw [t2.i 125]; exact hm) (by rw [t2.i 85]; exact hl) (by omega)
      refine ⟨τ, ?_, t2.trans u2⟩
      rw [show (k : Int) + 1 = ((k + 1 : Nat) : Int) by omega, u1, t2.i 124]
      congr 2
      refine b2_c ⟨fun q i d a b hd => ?_, fun q i d a b hd => q i d (by omega) b hd⟩
      by_cases e : i = k
      · rw [e, hc] at hd
        obtain rfl := Option.some.inj hd
        exact h
      · exact q i d (by omega) b hd
    · rw [b2_f h, if_pos rfl]
      refine ⟨σ1, ?_, t2⟩
      rw [b2_f]
      intro q
      exact h (q k c (Nat.le_refl _) (by omega) hc)
theorem tt_ok {ar : Int → Nat} {pd : Int → Prop} {m9 : Int} {β : Nat} (hβ : 111 ≤ β) {σ : zS} {Cs : List CL} (wC : ∀ c ∈ Cs, Wc ar m9 c.1) {m L : Nat} (m1 : 1 ≤ m) (m3 : m ≤ 3) (hL : L ≤ Cs.length) (hR : RC σ Cs) (hp : Pd σ m9 pd) (hm : σ.1 125 = (m : Int)) (hl : σ.1 85 = (L : Int)) : ∃ τ, zE tM_textIsTrue β σ [] = some (τ, b2 (txT pd (σ.1 124) m Cs L)) ∧ FrC [] [126] σ τ := by
  obtain ⟨τ, t1, t2⟩ := tt_2 (pd := pd) hβ wC m1 m3 hL L 0 σ hR hp hm hl (by omega)
  refine ⟨τ, ?_, t2⟩
  have t1' : zE tM_textIsTrue_2 β σ [0] = _ := t1
  rw [zq_textIsTrue, kZ_textIsTrue, t1']
  congr 2
  exact b2_c ⟨fun q k c a b => q k c (Nat.zero_le _) a b, fun q k c _ a b => q k c a b⟩
