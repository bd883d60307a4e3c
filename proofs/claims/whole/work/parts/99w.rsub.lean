/-! the reference: SUBSUMES -/
theorem rcov_47 {ar : Int → Nat} {pd : Int → Prop} {m9 : Int} {Cs : List CL} {k kd : Nat} {c d : CL} (hc : Cs[k]? = some c) (wc : Wc ar m9 c.1) (hd : Cs[kd]? = some d) (wd : Wc ar m9 d.1) {n β : Nat} {a : Lt} (ha : c.1[n]? = some a) (hβ : 202 ≤ β) {M : Mv} {CV : Mv → Prop}
    (rec : ∀ (ρ : zS) (M1 : Mv), RC ρ Cs → Pd ρ m9 pd → Mt ar m9 100 ρ M1 → ∃ τ, zE tM_covers (β - 1) ρ [(k : Int), (kd : Int), ((n + 1 : Nat) : Int)] = some (τ, b2 (CV M1)) ∧ KF ρ τ ∧ ∀ j q, j ≤ n → τ.2.1 (1000 + j) q = ρ.2.1 (1000 + j) q) :
    ∀ (m i : Nat) (σ : zS), RC σ Cs → Pd σ m9 pd → Mk ar m9 100 (1000 + n) σ M → i + m = d.1.length → ∃ τ, zE tM_covers_47 β σ [(k : Int), (kd : Int), (n : Int), lpos Cs k + (n : Int), lpos Cs kd + (i : Int)] = some (τ, b2 (∃ b ∈ d.1.drop i, b.1 = a.1 ∧ ∃ s : Int, (s = 0 ∨ s = 1) ∧ ∃ M1, mtL pd M a b s = some M1 ∧ CV M1)) ∧ KF σ τ ∧ ∀ j q, j ≤ n → τ.2.1 (1000 + j) q = σ.2.1 (1000 + j) q
  | 0, i, σ, hR, hp, hK, hm => by
    obtain ⟨hkd, q1, q2, q3, q4, q5⟩ := hR.k hd
    refine ⟨σ, ?_, FrC.refl, fun _ _ _ => rfl⟩
    rw [zq_covers_47, kZ_covers_47, if_pos (by omega), hkd.1, hkd.2.1, if_pos (by omega), if_pos (by omega), b2_f]
    rintro ⟨b, hb, _⟩
    rw [List.drop_eq_nil_iff.mpr (by omega)] at hb
    cases hb
  | m + 1, i, σ, hR, hp, hK, hm => by
    obtain ⟨hk, k1, k2, k3, k4, k5⟩ := hR.k hc
    obtain ⟨hkd, q1, q2, q3, q4, q5⟩ := hR.k hd
    have nl := (List.getElem?_eq_some_iff.mp ha).1
    obtain ⟨b, hb⟩ : ∃ b, d.1[i]? = some b := ⟨_, List.getElem?_eq_getElem (by omega)⟩
    have sA := (hR.l hc ha).2.2.2.2.1
    have sB := (hR.l hd hb).2.2.2.2.1
    have hdr : d.1.drop i = b :: d.1.drop (i + 1) := by
      rw [List.drop_eq_getElem_cons (by omega)]
      congr 1
      exact (List.getElem?_eq_some_iff.mp hb).2
    have next : ∀ ρ : zS, KF σ ρ → (∀ j q, j ≤ n → ρ.2.1 (1000 + j) q = σ.2.1 (1000 + j) q) → ¬ (b.1 = a.1 ∧ ∃ s : Int, (s = 0 ∨ s = 1) ∧ ∃ M1, mtL pd M a b s = some M1 ∧ CV M1) → ∃ τ, zE tM_covers_203 β ρ [(k : Int), (kd : Int), (n : Int), lpos Cs k + (n : Int), lpos Cs kd + (i : Int)] = some (τ, b2 (∃ b ∈ d.1.drop i, b.1 = a.1 ∧ ∃ s : Int, (s = 0 ∨ s = 1) ∧ ∃ M1, mtL pd M a b s = some M1 ∧ CV M1)) ∧ KF σ τ ∧ ∀ j q, j ≤ n → τ.2.1 (1000 + j) q = σ.2.1 (1000 + j) q := fun ρ fρ hkeep hn => by
      obtain ⟨τ, t1, t2, t3⟩ := rcov_47 hc wc hd wd ha hβ rec m (i + 1) ρ (hR.f fρ fρ.pq) (hp.f fρ) (hK.q (fun v _ _ => hkeep n v (Nat.le_refl _)) fρ.pq) (by omega)
      refine ⟨τ, ?_, fρ.trans t2, fun j q hj => by rw [t3 j q hj, hkeep j q hj]⟩
      rw [zq_covers_203, kZ_covers_203, if_pos (by omega), show lpos Cs kd + (i : Int) + 1 = lpos Cs kd + ((i + 1 : Nat) : Int) by omega, t1]
      congr 2
      refine b2_c ⟨?_, ?_⟩
      · rintro ⟨b', h1, h2⟩; exact ⟨b', by rw [hdr]; exact List.mem_cons_of_mem _ h1, h2⟩
      · rintro ⟨b', h1, h2⟩
        rw [hdr] at h1
        rcases List.mem_cons.mp h1 with rfl | h1
        · exact absurd h2 hn
        · exact ⟨b', h1, h2⟩
    rw [zq_covers_47, kZ_covers_47, if_pos (by omega), hkd.1, hkd.2.1, if_pos (by omega), if_neg (by omega), if_pos (by omega), if_pos (by omega), sA, sB]
    by_cases e : b.1 = a.1
    · rw [if_pos e]
      have yes : ∀ (s : Int) (ρ : zS), (s = 0 ∨ s = 1) → (∃ M1, mtL pd M a b s = some M1 ∧ CV M1) → b2 (∃ b ∈ d.1.drop i, b.1 = a.1 ∧ ∃ s : Int, (s = 0 ∨ s = 1) ∧ ∃ M1, mtL pd M a b s = some M1 ∧ CV M1) = 1 := fun s ρ hs h => b2_t ⟨b, by rw [hdr]; exact List.mem_cons_self, e, s, hs, h⟩
      obtain ⟨σ1, f1, r1, t⟩ := rcov_88 hc wc hd wd ha hb hβ rec hR hp hK (s := 0) (Or.inl rfl)
      rcases t with ⟨h, t⟩ | ⟨h, t⟩
      · exact ⟨σ1, by rw [t, yes 0 σ1 (Or.inl rfl) h], f1, r1⟩
      · rw [t, zq_covers_197, kZ_covers_197, if_pos (by omega), show (0 : Int) + 1 = 1 by omega]
        obtain ⟨σ2, f2, r2, u⟩ := rcov_88 hc wc hd wd ha hb hβ rec (hR.f f1 f1.pq) (hp.f f1) (hK.q (fun v _ _ => r1 n v (Nat.le_refl _)) f1.pq) (s := 1) (Or.inr rfl)
        have f12 : KF σ σ2 := f1.trans f2
        have r12 : ∀ j q, j ≤ n → σ2.2.1 (1000 + j) q = σ.2.1 (1000 + j) q := fun j q hj => by rw [r2 j q hj, r1 j q hj]
        rcases u with ⟨h', u⟩ | ⟨h', u⟩
        · exact ⟨σ2, by rw [u, yes 1 σ2 (Or.inr rfl) h'], f12, r12⟩
        · rw [u, zq_covers_197, kZ_covers_197, if_pos (by omega), zq_covers_88, kZ_covers_88, if_pos (by omega)]
          refine next σ2 f12 r12 ?_
          rintro ⟨_, s, hs, hq⟩
          rcases hs with rfl | rfl
          · exact h hq
          · exact h' hq
    · rw [if_neg e]
      exact next σ FrC.refl (fun _ _ _ => rfl) (fun w => e w.1)
theorem rcov_ok {ar : Int → Nat} {pd : Int → Prop} {m9 : Int} {Cs : List CL} {k kd : Nat} {c d : CL} (hc : Cs[k]? = some c) (wc : Wc ar m9 c.1) (hd : Cs[kd]? = some d) (wd : Wc ar m9 d.1) : ∀ (m n β : Nat) (σ : zS) (M : Mv), n + m = c.1.length → m + 202 ≤ β → RC σ Cs → Pd σ m9 pd → Mt ar m9 100 σ M → ∃ τ, zE tM_covers β σ [(k : Int), (kd : Int), (n : Int)] = some (τ, b2 (cov pd d.1 M (c.1.drop n))) ∧ KF σ τ ∧ ∀ j q, j < n → τ.2.1 (1000 + j) q = σ.2.1 (1000 + j) q
  | 0, n, β, σ, M, hm, hβ, hR, hp, hM => by
    obtain ⟨hk, k1, k2, k3, k4, k5⟩ := hR.k hc
    refine ⟨σ, ?_, FrC.refl, fun _ _ _ => rfl⟩
    rw [zq_covers, kZ_covers, if_pos (by omega), hk.2.1, if_pos (by omega), b2_t]
    rw [List.drop_eq_nil_iff.mpr (by omega)]; trivial
  | m + 1, n, β, σ, M, hm, hβ, hR, hp, hM => by
    obtain ⟨hk, k1, k2, k3, k4, k5⟩ := hR.k hc
    obtain ⟨hkd, q1, q2, q3, q4, q5⟩ := hR.k hd
    obtain ⟨a, ha⟩ : ∃ a, c.1[n]? = some a := ⟨_, List.getElem?_eq_getElem (by omega)⟩
    have hdr : c.1.drop n = a :: c.1.drop (n + 1) := by
      rw [List.drop_eq_getElem_cons (by omega)]
      congr 1
      exact (List.getElem?_eq_some_iff.mp ha).2
    obtain ⟨σ1, hσ1⟩ : ∃ z, z = zCp σ 115 (1000 + n) 0 0 6 := ⟨_, rfl⟩
    have f1 : KF σ σ1 := by rw [hσ1]; exact FrC_C (hk := k9 (by omega))
    have hM' : Mk ar m9 100 115 σ M := hM
    have K1 : Mk ar m9 100 (1000 + n) σ1 M := hM'.q (fun v v0 v1 => by rw [hσ1, zCp_s v0 v1]) f1.pq
    obtain ⟨τ, t1, t2, t3⟩ := rcov_47 hc wc hd wd ha (β := β) (by omega) (M := M) (CV := fun M1 => cov pd d.1 M1 (c.1.drop (n + 1))) (fun ρ M1 r1 r2 r3 => by
      obtain ⟨τ, a1, a2, a3⟩ := rcov_ok hc wc hd wd m (n + 1) (β - 1) ρ M1 (by omega) (by omega) r1 r2 r3
      exact ⟨τ, a1, a2, fun j q hj => a3 j q (by omega)⟩) d.1.length 0 σ1 (hR.f f1 f1.pq) (hp.f f1) K1 (by omega)
    refine ⟨τ, ?_, f1.trans t2, fun j q hj => by rw [t3 j q (by omega), hσ1, zCp_o (by omega)]⟩
    have e73 : σ1.2.1 73 (kd : Int) = lpos Cs kd := by rw [f1.a 73]; exact hkd.1
    rw [show lpos Cs kd + ((0 : Nat) : Int) = lpos Cs kd by omega] at t1
    rw [zq_covers, kZ_covers, if_pos (by omega), hk.2.1, if_neg (by omega), if_pos (by omega), if_pos (by decide), Int.toNat_natCast, lt_e, ← hσ1, if_pos (by omega), hk.1, if_pos (by omega), e73, t1, List.drop_zero, hdr]
    rfl
theorem rsub_ok {ar : Int → Nat} {pd : Int → Prop} {m9 : Int} {β : Nat} (hβ : 211 ≤ β) {σ : zS} {Cs : List CL} (hR : RC σ Cs) (hp : Pd σ m9 pd) {k kd : Nat} {c d : CL} (hc : Cs[k]? = some c) (wc : Wc ar m9 c.1) (hd : Cs[kd]? = some d) (wd : Wc ar m9 d.1) : ∃ τ, zE tM_subsumes β σ [(k : Int), (kd : Int)] = some (τ, b2 (subL pd c.1 d.1)) ∧ KF σ τ := by
  obtain ⟨hk, k1, k2, k3, k4, k5⟩ := hR.k hc
  obtain ⟨hkd, q1, q2, q3, q4, q5⟩ := hR.k hd
  rw [zq_subsumes, kZ_subsumes, if_pos (by omega), if_pos (by omega), hk.2.1, hkd.2.1]
  by_cases h : c.1.length ≤ d.1.length
  · obtain ⟨σ1, hσ1⟩ : ∃ z, z = zFl σ 115 (-1) 6 := ⟨_, rfl⟩
    have f1 : KF σ σ1 := by
      rw [hσ1]
      refine ⟨fun _ _ => rfl, fun j q hj => ?_, fun _ _ _ _ => rfl, Mg.of rfl⟩
      have : j ≠ 115 := fun e => by subst e; cases hj
      show (if j = 115 ∧ _ ∧ _ then _ else _) = _
      rw [if_neg (fun w => this w.1)]
    have M1 : Mt ar m9 100 σ1 (fun _ => none) := fun v v0 v1 => ⟨fun _ => by
      rw [hσ1]
      show (if 115 = 115 ∧ 0 ≤ v ∧ v < ((6 : Nat) : Int) then (-1 : Int) else _) < 0
      rw [if_pos ⟨rfl, v0, by omega⟩]; decide, fun x hx => by cases hx⟩
    obtain ⟨τ, t1, t2, _⟩ := rcov_ok hc wc hd wd c.1.length 0 (β - 1) σ1 (fun _ => none) (by omega) (by omega) (hR.f f1 f1.pq) (hp.f f1) M1
    rw [List.drop_zero] at t1
    have t1' : zE tM_covers (β - 1) σ1 [(k : Int), (kd : Int), 0] = _ := t1
    rw [if_pos (by omega), lt_e, ← hσ1, if_pos (by omega), zbd_of t1', if_pos (b2_01 _)]
    refine ⟨τ, ?_, f1.trans t2⟩
    congr 2
    exact b2_c ⟨fun w => ⟨h, w⟩, fun w => w.2⟩
  · rw [if_neg (by omega), b2_f (fun w => h w.1)]
    exact ⟨σ, rfl, FrC.refl⟩
/-! small ones -/
theorem runit_ok {β : Nat} {σ : zS} {Cs : List CL} (hR : RC σ Cs) {k : Nat} {c : CL} (hc : Cs[k]? = some c) (hs : ∀ a ∈ c.1, a.1 = 0 ∨ a.1 = 1) : zE tM_isUnit β σ [(k : Int)] = some (σ, b2 (sngL c.1)) := by
  obtain ⟨hk, k1, k2, k3, k4, k5⟩ := hR.k hc
  have e29 : ∀ r : Int, (r = 0 ∨ r = 1) → zE tM_isUnit_29 β σ [(k : Int), r] = some (σ, r) := fun r hr => by rw [zq_isUnit_29, kZ_isUnit_29, if_pos hr]
  have e28 : zE tM_isUnit_28 β σ [(k : Int)] = some (σ, 0) := by rw [zq_isUnit_28, kZ_isUnit_28, e29 0 (Or.inl rfl)]
  rw [zq_isUnit, kZ_isUnit, if_pos (by omega), hk.2.1, hk.1]
  by_cases h : (c.1.length : Int) = 1
  · obtain ⟨a, ha⟩ : ∃ a, c.1 = [a] := List.length_eq_one_iff.mp (by omega)
    have hl := hR.l hc (i := 0) (a := a) (by rw [ha]; rfl)
    have sa := hs a (by rw [ha]; exact List.mem_cons_self)
    have l5 := hl.2.2.2.2.1
    rw [show lpos Cs k + ((0 : Nat) : Int) = lpos Cs k by omega] at l5
    rw [if_pos h, if_pos (by omega), l5]
    by_cases s : a.1 = 1
    · rw [if_neg (by omega), e29 1 (Or.inr rfl), b2_t ⟨a, ha, s⟩]
    · rw [if_pos (by omega), e28, b2_f]
      rintro ⟨b, hb, hs'⟩
      rw [ha] at hb
      cases hb
      exact s hs'
  · rw [if_neg h, e28, b2_f]
    rintro ⟨b, hb, _⟩
    rw [hb] at h
    exact h rfl
/-- a side, or the other -/
theorem rside_ok {β : Nat} {σ : zS} {j : Int} (j0 : 0 ≤ j) (j1 : j < 16100) {s o : Int} (hs : s = 0 ∨ s = 1) (ho : o = 0 ∨ o = 1) : zE tM_side2 β σ [j, s, o] = some (σ, if s = o then σ.2.1 66 j else σ.2.1 67 j) := by
  have e28 : ∀ x : Int, zE tM_side2_28 β σ [j, s, o, x] = some (σ, x) := fun x => by rw [zq_side2_28, kZ_side2_28]
  rw [zq_side2, kZ_side2]
  rcases hs with rfl | rfl
  · rw [if_pos rfl, zq_side2_9, kZ_side2_9]
    rcases ho with rfl | rfl
    · rw [if_neg (by decide), if_pos ⟨j0, j1⟩, e28, if_pos rfl]
    · rw [if_pos rfl, if_pos ⟨j0, j1⟩, e28, if_neg (by decide)]
  · rw [if_neg (by decide), zq_side2_9, kZ_side2_9]
    rcases ho with rfl | rfl
    · rw [if_pos rfl, if_pos ⟨j0, j1⟩, e28, if_neg (by decide)]
    · rw [if_neg (by decide), if_pos ⟨j0, j1⟩, e28, if_pos rfl]
