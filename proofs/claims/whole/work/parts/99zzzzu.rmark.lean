/-! the reference: which VARIABLES become WITNESSES -/
def hk (k w : Nat) : Prop := w = 3 ∨ (w = 1 ∧ k = 0) ∨ (w = 2 ∧ k = 1)
theorem hitW_k {k w v : Nat} (hk1 : k ≤ 1) : hitW (8 + k + 2 * v) w ↔ hk k w := by
  unfold hitW hk
  omega
theorem rqF_qn {k first w v : Nat} (hk1 : k ≤ 1) : ∀ (j : Nat) {g : Tm}, rqF (qnt k first j g) w v ↔ (((first ≤ v ∧ v < first + j) ∧ hk k w) ∨ rqF g w v)
  | 0, g => ⟨Or.inr, fun h => h.resolve_left (fun h => by omega)⟩
  | j + 1, g => by
    unfold qnt
    rw [rqF_qn hk1 j, rqF_q (by omega), hitW_k hk1]
    have e : (8 + k + 2 * (first + j) - 8) / 2 = first + j := by omega
    rw [e]
    constructor
    · rintro (⟨h1, h2⟩ | ⟨h1, h2⟩ | h)
      · exact Or.inl ⟨by omega, h2⟩
      · exact Or.inl ⟨by omega, h2⟩
      · exact Or.inr h
    · rintro (⟨h1, h2⟩ | h)
      · by_cases c : v < first + j
        · exact Or.inl ⟨by omega, h2⟩
        · exact Or.inr (Or.inl ⟨by omega, h2⟩)
      · exact Or.inr (Or.inr h)
theorem bnF_qni {k first v : Nat} (hk1 : k ≤ 1) : ∀ (j : Nat) {g : Tm}, bnF (tt (qnt k first j g)) v → bnF (tt g) v ∨ (first ≤ v ∧ v < first + j)
  | 0, g, h => Or.inl h
  | j + 1, g, h => by
    unfold qnt at h
    rcases bnF_qni hk1 j h with h | h
    · rcases bnF_m1i h with ⟨_, h⟩ | h
      · exact Or.inr (by omega)
      · exact Or.inl h
    · exact Or.inr (by omega)
theorem bdn_qn {k first : Nat} (hk1 : k ≤ 1) : ∀ (j : Nat) {g : Tm} {n v m : Nat}, (bdn (tt g) (n + j) v m ∨ (first ≤ v ∧ v < first + j ∧ m = n + (v - first))) → bdn (tt (qnt k first j g)) n v m
  | 0, g, n, v, m, h => h.resolve_right (fun h => by omega)
  | j + 1, g, n, v, m, h => by
    unfold qnt
    refine bdn_qn hk1 j ?_
    rcases h with h | ⟨h1, h2, h3⟩
    · exact Or.inl (bdn_m1 (by omega) (by rw [if_pos (by omega)]; exact h))
    · by_cases c : v < first + j
      · exact Or.inr ⟨h1, c, h3⟩
      · exact Or.inl (Or.inl ⟨by show 2 < 8 + k + 2 * (first + j); omega, Or.inl ⟨by show 8 ≤ 8 + k + 2 * (first + j); omega, by show v = (8 + k + 2 * (first + j) - 8) / 2; omega, by show m = n + j; omega⟩⟩)
/-- what marking does -/
def MKs (σ τ : zS) (f : Tm) (n w : Nat) : Prop := FrC [] [24, 58] σ τ ∧ ∀ v : Nat, (rqF f w v → τ.2.1 24 (v : Int) = 1) ∧ (¬ rqF f w v → τ.2.1 24 (v : Int) = σ.2.1 24 (v : Int)) ∧ (bnF (tt f) v → ∃ m : Nat, bdn (tt f) n v m ∧ τ.2.1 58 (v : Int) = (m : Int)) ∧ (¬ bnF (tt f) v → τ.2.1 58 (v : Int) = σ.2.1 58 (v : Int))
theorem bnF_at {l : Nat} {k : T} {v : Nat} (h : l ≤ 2) : ¬ bnF (tt (l, k)) v := fun w => by
  rcases w with ⟨w, _⟩ | w
  · have : 2 < l := w
    omega
  · exact w
theorem MK_at {σ : zS} {l : Nat} {k : T} {n w : Nat} (h : l ≤ 2) : MKs σ σ (l, k) n w := ⟨FrC.refl, fun v => ⟨fun hh => by rw [rqF_at h] at hh; exact hh.elim, fun _ => rfl, fun hh => absurd hh (bnF_at h), fun _ => rfl⟩⟩
theorem MK_not {σ τ : zS} {g : Tm} {n w : Nat} (h : MKs σ τ g n (tw3 w)) : MKs σ τ (mk1 3 g) n w := ⟨h.1, fun v => by
  obtain ⟨a, b, c, d⟩ := h.2 v
  have i : bnF (tt (mk1 3 g)) v → bnF (tt g) v := fun hh => (bnF_m1i hh).resolve_left (fun z => by omega)
  rw [rqF_not]
  refine ⟨a, b, fun hh => ?_, fun hh => d (fun z => hh (bnF_m1 z (by omega)))⟩
  obtain ⟨m, m1, m2⟩ := c (i hh)
  exact ⟨m, bdn_m1 (by omega) (by rw [if_neg (by omega)]; exact m1), m2⟩⟩
theorem MK_bin {σ ρ τ : zS} {l : Nat} (h4 : 4 ≤ l) (h7 : l ≤ 7) {g1 g2 : Tm} {n w1 w2 w : Nat} (h1 : MKs σ ρ g1 n w1) (h2 : MKs ρ τ g2 n w2) (hr : ∀ v, rqF (mk2 l g1 g2) w v = (rqF g1 w1 v ∨ rqF g2 w2 v)) : MKs σ τ (mk2 l g1 g2) n w := ⟨h1.1.trans h2.1, fun v => by
  obtain ⟨a, b, c, d⟩ := h1.2 v
  obtain ⟨a', b', c', d'⟩ := h2.2 v
  rw [hr]
  refine ⟨fun hh => ?_, fun hh => ?_, fun hh => ?_, fun hh => ?_⟩
  · by_cases q : rqF g2 w2 v
    · exact a' q
    · rw [b' q]; exact a (hh.resolve_right q)
  · rw [b' (fun z => hh (Or.inr z)), b (fun z => hh (Or.inl z))]
  · by_cases q : bnF (tt g2) v
    · obtain ⟨m, m1, m2⟩ := c' q
      exact ⟨m, bdn_mr h4 h7 m1, m2⟩
    · obtain ⟨m, m1, m2⟩ := c ((bnF_m2i h7 hh).resolve_right q)
      exact ⟨m, bdn_ml h4 h7 m1, by rw [d' q]; exact m2⟩
  · rw [d' (fun z => hh (bnF_m2 (by omega) (Or.inr z))), d (fun z => hh (bnF_m2 (by omega) (Or.inl z)))]⟩
/-- the VARIABLES of one ! or ? -/
def MKd (σ τ : zS) (first lo hi : Nat) (n : Nat) (hit : Bool) : Prop := FrC [] [24, 58] σ τ ∧ ∀ v : Nat, ((lo ≤ v ∧ v < hi) → τ.2.1 24 (v : Int) = (if hit = true then 1 else σ.2.1 24 (v : Int)) ∧ τ.2.1 58 (v : Int) = ((n + (v - first) : Nat) : Int)) ∧ (¬ (lo ≤ v ∧ v < hi) → τ.2.1 24 (v : Int) = σ.2.1 24 (v : Int) ∧ τ.2.1 58 (v : Int) = σ.2.1 58 (v : Int))
theorem MK_qnt {σ ρ τ : zS} {kd first cnt : Nat} (hk1 : kd ≤ 1) {g : Tm} {n w : Nat} {hit : Bool} (h1 : MKd σ ρ first first (first + cnt) n hit) (h2 : MKs ρ τ g (n + cnt) w) (hh : hit = true ↔ hk kd w) : MKs σ τ (qnt kd first cnt g) n w := ⟨h1.1.trans h2.1, fun v => by
  obtain ⟨x, y⟩ := h1.2 v
  obtain ⟨a', b', c', d'⟩ := h2.2 v
  rw [rqF_qn hk1]
  refine ⟨fun q => ?_, fun q => ?_, fun q => ?_, fun q => ?_⟩
  · by_cases z : rqF g w v
    · exact a' z
    · obtain ⟨q1, q2⟩ := q.resolve_right z
      rw [b' z, (x q1).1, if_pos (hh.mpr q2)]
  · rw [b' (fun z => q (Or.inr z))]
    by_cases r : first ≤ v ∧ v < first + cnt
    · rw [(x r).1, if_neg (fun z => q (Or.inl ⟨r, hh.mp z⟩))]
    · exact (y r).1
  · by_cases z : bnF (tt g) v
    · obtain ⟨m, m1, m2⟩ := c' z
      exact ⟨m, bdn_qn hk1 cnt (Or.inl m1), m2⟩
    · have r := (bnF_qni hk1 cnt q).resolve_left z
      exact ⟨_, bdn_qn hk1 cnt (Or.inr ⟨r.1, r.2, rfl⟩), by rw [d' z, (x r).2]⟩
  · rw [d' (fun z => q (bnF_qn hk1 cnt (Or.inl z))), (y (fun z => q (bnF_qn hk1 cnt (Or.inr z)))).2]⟩
theorem mkd_3 {β : Nat} {a : Int} (ha : 0 ≤ a ∧ a < 20100) {first cnt n : Nat} (hc : first + cnt ≤ 300) (hn : n ≤ 1000000) {hit : Bool} : ∀ (m x : Nat) (σ : zS), x + m = cnt → σ.2.1 32 a = (first : Int) * 1000 + (cnt : Int) → ∃ τ, zE tM_marked_3 β σ [a, bi hit, (n : Int), (x : Int)] = some (τ, 0) ∧ MKd σ τ first (first + x) (first + cnt) n hit
  | 0, x, σ, hx, h32 => by
    have em : Int.tmod (σ.2.1 32 a) 1000 = (cnt : Int) := by rw [h32, Int.tmod_eq_emod_of_nonneg (by omega)]; omega
    refine ⟨σ, ?_, FrC.refl, fun v => ⟨fun h => by omega, fun _ => ⟨rfl, rfl⟩⟩⟩
    rw [zq_marked_3, kZ_marked_3, if_pos ⟨by omega, by omega⟩, em, if_pos (by omega)]
  | m + 1, x, σ, hx, h32 => by
    have em : Int.tmod (σ.2.1 32 a) 1000 = (cnt : Int) := by rw [h32, Int.tmod_eq_emod_of_nonneg (by omega)]; omega
    have ed : Int.tdiv (σ.2.1 32 a) 1000 = (first : Int) := by rw [h32, Int.tdiv_eq_ediv_of_nonneg (by omega)]; omega
    obtain ⟨σ1, hσ1⟩ : ∃ z, z = (if hit = true then zA σ 24 ((first : Int) + (x : Int)) 1 else σ) := ⟨_, rfl⟩
    obtain ⟨σ2, hσ2⟩ : ∃ z, z = zA σ1 58 ((first : Int) + (x : Int)) ((n : Int) + (x : Int)) := ⟨_, rfl⟩
    have f1 : FrC [] [24, 58] σ σ1 := by
      rw [hσ1]
      cases hit
      · exact FrC.refl
      · exact FrC_A
    have f2 : FrC [] [24, 58] σ σ2 := by rw [hσ2]; exact f1.trans FrC_A
    obtain ⟨τ, t1, t2, t3⟩ := mkd_3 (β := β) ha hc hn (hit := hit) m (x + 1) σ2 (by omega) (by rw [f2.a 32]; exact h32)
    have a58 : ∀ q, σ2.2.1 58 q = if q = (first : Int) + (x : Int) then (n : Int) + (x : Int) else σ.2.1 58 q := fun q => by
      rw [hσ2]
      by_cases c : q = (first : Int) + (x : Int)
      · rw [if_pos c, c, zA_s]
      · rw [if_neg c, zA_i c, hσ1]
        cases hit
        · rfl
        · exact zA_j
    have a24f : hit = false → ∀ q, σ2.2.1 24 q = σ.2.1 24 q := fun h q => by rw [hσ2, zA_j, hσ1, h]; rfl
    have a24t : hit = true → ∀ q, σ2.2.1 24 q = if q = (first : Int) + (x : Int) then 1 else σ.2.1 24 q := fun h q => by
      rw [hσ2, zA_j, hσ1, h, if_pos (show true = true from rfl)]
      by_cases c : q = (first : Int) + (x : Int)
      · rw [if_pos c, c]; exact zA_s
      · rw [if_neg c]; exact zA_i c
    refine ⟨τ, ?_, f2.trans t2, fun v => ⟨fun hv => ?_, fun hv => ?_⟩⟩
    · have e45 : zE tM_marked_45 β σ1 [a, bi hit, (n : Int), (x : Int), (first : Int) + (x : Int)] = some (τ, 0) := by
        rw [zq_marked_45, kZ_marked_45, if_pos ⟨by omega, by omega⟩, if_pos ⟨by omega, by omega⟩, lt_e, if_pos ⟨by omega, by omega⟩, ← hσ2]
        exact t1
      rw [zq_marked_3, kZ_marked_3, if_pos ⟨by omega, by omega⟩, em, if_neg (by omega), ed]
      cases hit
      · rw [if_pos (show bi false = 0 from rfl), if_pos ⟨by omega, by omega⟩, if_pos ⟨by omega, by omega⟩]
        rw [hσ1] at e45
        exact e45
      · rw [if_neg (show ¬ bi true = 0 by decide), if_pos ⟨by omega, by omega⟩, if_pos ⟨by omega, by omega⟩, if_pos ⟨by omega, by omega⟩, lt_e]
        rw [hσ1] at e45
        exact e45
    · obtain ⟨p1, p2⟩ := t3 v
      by_cases c : first + (x + 1) ≤ v
      · obtain ⟨q1, q2⟩ := p1 ⟨c, hv.2⟩
        refine ⟨?_, q2⟩
        rw [q1]
        by_cases hh : hit = true
        · rw [if_pos hh, if_pos hh]
        · rw [if_neg hh, if_neg hh, a24f (by simpa using hh)]
      · obtain ⟨q1, q2⟩ := p2 (fun z => c z.1)
        have e : (v : Int) = (first : Int) + (x : Int) := by omega
        rw [q1, q2, a58]
        refine ⟨?_, ?_⟩
        · by_cases hh : hit = true
          · rw [a24t hh, if_pos e, if_pos hh]
          · rw [if_neg hh, a24f (by simpa using hh)]
        · rw [if_pos e]
          omega
    · obtain ⟨q1, q2⟩ := (t3 v).2 (fun z => hv ⟨by omega, z.2⟩)
      have e : ¬ ((v : Int) = (first : Int) + (x : Int)) := fun z => hv (by omega)
      rw [q1, q2, a58, if_neg e]
      refine ⟨?_, rfl⟩
      by_cases hh : hit = true
      · rw [a24t hh, if_neg e]
      · rw [a24f (by simpa using hh)]
theorem mkd_ok {β : Nat} {a : Int} (ha : 0 ≤ a ∧ a < 20100) {first cnt n : Nat} (hc : first + cnt ≤ 300) (hn : n ≤ 1000000) {hit : Bool} {σ : zS} (h32 : σ.2.1 32 a = (first : Int) * 1000 + (cnt : Int)) : ∃ τ, zE tM_marked β σ [a, bi hit, (n : Int)] = some (τ, 0) ∧ MKd σ τ first first (first + cnt) n hit := by
  obtain ⟨τ, t1, t2⟩ := mkd_3 (β := β) ha hc hn (hit := hit) cnt 0 σ (by omega) h32
  exact ⟨τ, by rw [zq_marked, kZ_marked]; exact t1, t2⟩
theorem FrM.x {σ τ : zS} (f : FrC [] [24, 58] σ τ) : EX σ τ := ⟨⟨by rw [f.i 37]; exact Int.le_refl _, by rw [f.i 38]; exact Int.le_refl _, by rw [f.i 40]; exact Int.le_refl _⟩, fun j _ _ => ⟨f.a 34 j, f.a 35 j, f.a 36 j⟩, fun j _ _ => ⟨f.a 30 j, f.a 31 j, f.a 32 j, f.a 33 j⟩, fun j _ _ => ⟨f.a 41 j, f.a 42 j⟩⟩
theorem mk2_ok : ∀ (h : Nat) (f : Tm) (a : Int) (n : Nat) (σ : zS) (β : Nat), RFm σ h f a → FS (tt f) → σ.1 37 ≤ 20100 → n + 300 * h ≤ 1000000 → h + 1 ≤ β → ∃ τ, zE tM_mark2 β σ [a, (n : Int)] = some (τ, 0) ∧ MKs σ τ f n 3
  | 0, f, a, n, σ, β, hR, _, _, _, _ => hR.elim
  | h + 1, f, a, n, σ, β, hR, hf, h37, hn, hβ => by
    obtain ⟨r0, r1, r2, rc⟩ := hR
    have ra : zb a 20100 := ⟨r0, by omega⟩
    have e102 : ∀ (β : Nat) (ρ : zS) (x y z : Int), zE tM_mark2_102 β ρ [x, y, z] = some (ρ, 0) := fun β ρ x y z => by rw [zq_mark2_102, kZ_mark2_102]
    have e46 : ∀ (ρ : zS), zE tM_mark2_46 β ρ [a, (n : Int), 0] = zE tM_mark2_58 β ρ [a, (n : Int), 0] := fun ρ => by rw [zq_mark2_46, kZ_mark2_46, if_pos (Int.le_refl _)]
    rcases rc with ⟨l1, k1, l2, k2, c1, c2, c3, c4⟩ | ⟨l1, k1, l2, k2, b, c1, c2, c3, c4, c5, c6, c7, c8⟩ | ⟨l, k, p, c1, c2, c3, c4, c5, c6, c7, c8⟩ | ⟨g, c1, c2, c3⟩ | ⟨j, g1, g2, c1, c2, c3, c4, c5⟩ | ⟨kd, first, cnt, g, c1, c2, c3, c4, c5, c6, c7⟩
    · subst c1
      exact ⟨σ, by rw [zq_mark2, kZ_mark2, if_pos ra, c2, if_pos rfl], MK_at (by omega)⟩
    · subst c1
      refine ⟨σ, ?_, MK_at (by omega)⟩
      have hb : ∀ y, zE tM_mark2 (β - 1) σ [b, y] = some (σ, 0) := fun y => by rw [zq_mark2, kZ_mark2, if_pos ⟨by omega, by omega⟩, c6, if_pos rfl]
      rw [zq_mark2, kZ_mark2, if_pos ra, c2, if_neg (by decide), if_neg (by decide), if_neg (by decide), e46, zq_mark2_58, kZ_mark2_58, if_pos ra, if_pos ⟨by omega, by omega⟩, if_pos (by omega), c3, zbd_of (hb _), c2, if_pos (by decide), e102]
    · subst c1
      exact ⟨σ, by rw [zq_mark2, kZ_mark2, if_pos ra, c2, if_pos rfl], MK_at (by omega)⟩
    · subst c1
      obtain ⟨τ, t1, t2⟩ := mk2_ok h g (σ.2.1 31 a) n σ (β - 1) c3 (FS_3 hf) h37 (by omega) (by omega)
      refine ⟨τ, ?_, MK_not (w := 3) t2⟩
      rw [zq_mark2, kZ_mark2, if_pos ra, c2, if_neg (by decide), if_neg (by decide), if_neg (by decide), e46, zq_mark2_58, kZ_mark2_58, if_pos ra, if_pos ⟨by omega, by omega⟩, if_pos (by omega), Int.add_zero, zbd_of t1, t2.1.a 30, c2, if_pos (by decide), e102]
    · subst c2
      obtain ⟨f1, f2⟩ := FS_2 (by omega) (by omega) hf
      obtain ⟨ρ, t1, t2⟩ := mk2_ok h g1 (σ.2.1 31 a) n σ (β - 1) c4 f1 h37 (by omega) (by omega)
      obtain ⟨τ, u1, u2⟩ := mk2_ok h g2 (σ.2.1 32 a) n ρ (β - 1) (c5.x (FrM.x t2.1)) f2 (by rw [t2.1.i 37]; exact h37) (by omega) (by omega)
      refine ⟨τ, ?_, MK_bin (w1 := 3) (w2 := 3) (by omega) (by omega) t2 u2 (fun v => ?_)⟩
      · rw [zq_mark2, kZ_mark2, if_pos ra, c3, if_neg (by omega), if_neg (by omega), if_neg (by omega), e46, zq_mark2_58, kZ_mark2_58, if_pos ra, if_pos ⟨by omega, by omega⟩, if_pos (by omega), Int.add_zero, zbd_of t1, t2.1.a 30, c3, if_neg (by omega), if_neg (by omega), if_pos (by omega), t2.1.a 32, zbd_of u1, e102]
      · have hj : 4 + j ≤ 5 ∨ j = 2 ∨ j = 3 := by omega
        rcases hj with e | e | e
        · exact rqF_45 (by omega) e
        · subst e; exact rqF_6
        · subst e; exact rqF_7
    · subst c4
      have em : Int.tmod (σ.2.1 32 a) 1000 = (cnt : Int) := by rw [c6, Int.tmod_eq_emod_of_nonneg (by omega)]; omega
      obtain ⟨ρ, t1, t2⟩ := mkd_ok (β := β - 1) ra c3 (n := n) (by omega) (hit := true) c6
      obtain ⟨τ, u1, u2⟩ := mk2_ok h g (σ.2.1 31 a) (n + cnt) ρ (β - 1) (c7.x (FrM.x t2.1)) (FS_qn cnt hf) (by rw [t2.1.i 37]; exact h37) (by omega) (by omega)
      refine ⟨τ, ?_, MK_qnt c1 t2 u2 ⟨fun _ => Or.inl rfl, fun _ => rfl⟩⟩
      have t1' : zE tM_marked (β - 1) σ [a, 1, (n : Int)] = some (ρ, 0) := t1
      have u1' : zE tM_mark2 (β - 1) ρ [σ.2.1 31 a, (n : Int) + (cnt : Int)] = some (τ, 0) := by rw [← u1]; rfl
      have k30 : τ.2.1 30 a = 6 + (kd : Int) := by rw [u2.1.a 30, t2.1.a 30]; exact c5
      have e32 : zE tM_mark2_32 β σ [a, (n : Int)] = some (τ, 0) := by
        rw [zq_mark2_32, kZ_mark2_32, if_pos ra, em, zq_mark2_46, kZ_mark2_46, if_neg (by omega), if_pos (by omega), zbd_of t1', zq_mark2_58, kZ_mark2_58, if_pos ra, if_pos ⟨by omega, by omega⟩, if_pos (by omega), t2.1.a 31, zbd_of u1', k30, if_neg (by omega), if_pos (by omega), e102]
      rw [zq_mark2, kZ_mark2, if_pos ra, c5, if_neg (by omega)]
      have hkd : kd = 0 ∨ kd = 1 := by omega
      rcases hkd with e | e
      · rw [if_pos (by omega)]; exact e32
      · rw [if_neg (by omega), if_pos (by omega)]; exact e32
abbrev wy (is : Bool) : Nat := if is = true then 2 else 1
theorem mk_ok : ∀ (h : Nat) (f : Tm) (a : Int) (is : Bool) (n : Nat) (σ : zS) (β : Nat), RFm σ h f a → FS (tt f) → σ.1 37 ≤ 20100 → n + 300 * h ≤ 1000000 → h + 2 ≤ β → ∃ τ, zE tM_mark β σ [a, bi is, (n : Int)] = some (τ, 0) ∧ MKs σ τ f n (wy is)
  | 0, f, a, is, n, σ, β, hR, _, _, _, _ => hR.elim
  | h + 1, f, a, is, n, σ, β, hR, hf, h37, hn, hβ => by
    obtain ⟨r0, r1, r2, rc⟩ := hR
    have ra : zb a 20100 := ⟨r0, by omega⟩
    have e211 : ∀ (β : Nat) (ρ : zS) (x y z : Int), zE tM_mark_211 β ρ [x, y, z] = some (ρ, 0) := fun β ρ x y z => by rw [zq_mark_211, kZ_mark_211]
    have tws : tw3 (wy is) = wy (!is) := by cases is <;> rfl
    rcases rc with ⟨l1, k1, l2, k2, c1, c2, c3, c4⟩ | ⟨l1, k1, l2, k2, b, c1, c2, c3, c4, c5, c6, c7, c8⟩ | ⟨l, k, p, c1, c2, c3, c4, c5, c6, c7, c8⟩ | ⟨g, c1, c2, c3⟩ | ⟨j, g1, g2, c1, c2, c3, c4, c5⟩ | ⟨kd, first, cnt, g, c1, c2, c3, c4, c5, c6, c7⟩
    · subst c1
      exact ⟨σ, by rw [zq_mark, kZ_mark, if_pos ra, c2, if_neg (by omega), if_pos rfl, e211], MK_at (by omega)⟩
    · subst c1
      refine ⟨σ, ?_, MK_at (by omega)⟩
      have e63 : ∀ y, zE tM_mark_63 β σ [a, bi is, (n : Int), y, b] = some (σ, 0) := fun y => by
        have hb : zE tM_mark (β - 1) σ [b, y, (n : Int)] = some (σ, 0) := by rw [zq_mark, kZ_mark, if_pos ⟨by omega, by omega⟩, c6, if_neg (by omega), if_pos rfl, e211]
        rw [zq_mark_63, kZ_mark_63, if_pos (by omega), zbd_of hb, e211]
      rw [zq_mark, kZ_mark, if_pos ra, c2, if_neg (by omega), if_neg (by decide), if_pos rfl, c3]
      cases is
      · rw [if_pos (show bi false = 0 from rfl)]; exact e63 1
      · rw [if_neg (show ¬ bi true = 0 by decide)]; exact e63 0
    · subst c1
      exact ⟨σ, by rw [zq_mark, kZ_mark, if_pos ra, c2, if_neg (by omega), if_pos rfl, e211], MK_at (by omega)⟩
    · subst c1
      obtain ⟨τ, t1, t2⟩ := mk_ok h g (σ.2.1 31 a) (!is) n σ (β - 1) c3 (FS_3 hf) h37 (by omega) (by omega)
      refine ⟨τ, ?_, MK_not (by rw [tws]; exact t2)⟩
      have e63 : ∀ y, y = bi (!is) → zE tM_mark_63 β σ [a, bi is, (n : Int), y, σ.2.1 31 a] = some (τ, 0) := fun y hy => by
        rw [zq_mark_63, kZ_mark_63, if_pos (by omega), hy, zbd_of t1, e211]
      rw [zq_mark, kZ_mark, if_pos ra, c2, if_neg (by omega), if_neg (by decide), if_pos rfl]
      cases is
      · rw [if_pos (show bi false = 0 from rfl)]; exact e63 1 rfl
      · rw [if_neg (show ¬ bi true = 0 by decide)]; exact e63 0 rfl
    · subst c2
      obtain ⟨f1, f2⟩ := FS_2 (by omega) (by omega) hf
      have hj : j = 0 ∨ j = 1 ∨ j = 2 ∨ j = 3 := by omega
      -- one way for both
      have two : ∀ s, ∃ ρ τ, zE tM_mark (β - 1) σ [σ.2.1 31 a, bi s, (n : Int)] = some (ρ, 0) ∧ zE tM_mark (β - 1) ρ [ρ.2.1 32 a, bi is, (n : Int)] = some (τ, 0) ∧ MKs σ ρ g1 n (wy s) ∧ MKs ρ τ g2 n (wy is) := fun s => by
        obtain ⟨ρ, t1, t2⟩ := mk_ok h g1 (σ.2.1 31 a) s n σ (β - 1) c4 f1 h37 (by omega) (by omega)
        obtain ⟨τ, u1, u2⟩ := mk_ok h g2 (σ.2.1 32 a) is n ρ (β - 1) (c5.x (FrM.x t2.1)) f2 (by rw [t2.1.i 37]; exact h37) (by omega) (by omega)
        exact ⟨ρ, τ, t1, by rw [t2.1.a 32]; exact u1, t2, u2⟩
      rw [zq_mark, kZ_mark, if_pos ra, c3]
      rcases hj with e | e | e | e
      · subst e
        obtain ⟨ρ, τ, t1, u1, t2, u2⟩ := two is
        refine ⟨τ, ?_, MK_bin (by omega) (by omega) t2 u2 (fun v => rqF_45 (by omega) (by omega))⟩
        rw [if_neg (by omega), if_neg (by decide), if_neg (by decide), if_pos (by decide), if_pos (by omega), zbd_of t1, if_pos (by omega), zbd_of u1, e211]
      · subst e
        obtain ⟨ρ, τ, t1, u1, t2, u2⟩ := two is
        refine ⟨τ, ?_, MK_bin (by omega) (by omega) t2 u2 (fun v => rqF_45 (by omega) (by omega))⟩
        rw [if_neg (by omega), if_neg (by decide), if_neg (by decide), if_neg (by decide), if_pos (by decide), if_pos (by omega), zbd_of t1, if_pos (by omega), zbd_of u1, e211]
      · subst e
        obtain ⟨ρ, τ, t1, u1, t2, u2⟩ := two (!is)
        refine ⟨τ, ?_, MK_bin (by omega) (by omega) t2 u2 (fun v => by rw [← tws]; exact rqF_6)⟩
        have e113 : ∀ y, y = bi (!is) → zE tM_mark_113 β σ [a, bi is, (n : Int), y, σ.2.1 31 a] = some (τ, 0) := fun y hy => by
          rw [zq_mark_113, kZ_mark_113, if_pos (by omega), hy, zbd_of t1, if_pos ra, if_pos (by omega), zbd_of u1, e211]
        rw [if_neg (by omega), if_neg (by decide), if_neg (by decide), if_neg (by decide), if_neg (by decide), if_pos (by decide)]
        cases is
        · rw [if_pos (show bi false = 0 from rfl)]; exact e113 1 rfl
        · rw [if_neg (show ¬ bi true = 0 by decide)]; exact e113 0 rfl
      · subst e
        obtain ⟨ρ, t1, t2⟩ := mk2_ok h g1 (σ.2.1 31 a) n σ (β - 1) c4 f1 h37 (by omega) (by omega)
        obtain ⟨τ, u1, u2⟩ := mk2_ok h g2 (σ.2.1 32 a) n ρ (β - 1) (c5.x (FrM.x t2.1)) f2 (by rw [t2.1.i 37]; exact h37) (by omega) (by omega)
        refine ⟨τ, ?_, MK_bin (by omega) (by omega) t2 u2 (fun v => rqF_7)⟩
        rw [if_neg (by omega), if_neg (by decide), if_neg (by decide), if_neg (by decide), if_neg (by decide), if_neg (by decide), if_pos (by omega), zbd_of t1, if_pos (by omega), t2.1.a 32, zbd_of u1, e211]
    · subst c4
      have em : Int.tmod (σ.2.1 32 a) 1000 = (cnt : Int) := by rw [c6, Int.tmod_eq_emod_of_nonneg (by omega)]; omega
      obtain ⟨hit, hhit⟩ : ∃ x, x = ((kd == 0) != is) := ⟨_, rfl⟩
      obtain ⟨ρ, t1, t2⟩ := mkd_ok (β := β - 1) ra c3 (n := n) (by omega) (hit := hit) c6
      obtain ⟨τ, u1, u2⟩ := mk_ok h g (σ.2.1 31 a) is (n + cnt) ρ (β - 1) (c7.x (FrM.x t2.1)) (FS_qn cnt hf) (by rw [t2.1.i 37]; exact h37) (by omega) (by omega)
      have hkd : kd = 0 ∨ kd = 1 := by omega
      refine ⟨τ, ?_, MK_qnt c1 t2 u2 ?_⟩
      · have u1' : zE tM_mark (β - 1) ρ [σ.2.1 31 a, bi is, (n : Int) + (cnt : Int)] = some (τ, 0) := by rw [← u1]; rfl
        have e184 : ∀ y, y = bi hit → zE tM_mark_184 β σ [a, bi is, (n : Int), y, a] = some (τ, 0) := fun y hy => by
          rw [zq_mark_184, kZ_mark_184, if_pos (by omega), hy, zbd_of t1, if_pos ra, t2.1.a 32, em, if_pos ⟨by omega, by omega⟩, if_pos (by omega), t2.1.a 31, zbd_of u1', e211]
        rw [zq_mark, kZ_mark, if_pos ra, c5, if_pos (by omega)]
        rcases hkd with e | e <;> subst e
        · rw [if_pos (by decide), zq_mark_175, kZ_mark_175]
          cases is
          · rw [if_neg (by decide)]; exact e184 1 (by rw [hhit]; rfl)
          · rw [if_pos (by decide)]; exact e184 0 (by rw [hhit]; rfl)
        · rw [if_neg (by decide), zq_mark_175, kZ_mark_175]
          cases is
          · rw [if_pos (by decide)]; exact e184 0 (by rw [hhit]; rfl)
          · rw [if_neg (by decide)]; exact e184 1 (by rw [hhit]; rfl)
      · rw [hhit]
        rcases hkd with e | e <;> subst e <;> cases is <;> simp [hk, wy]
