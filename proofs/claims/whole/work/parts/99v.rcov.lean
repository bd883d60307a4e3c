/-! the reference: which CLAUSE is the GIVEN; SUBSUMES -/
theorem rg_skip {β : Nat} {σ : zS} {Cs : List CL} (hR : RC σ Cs) {x0 : Int} (x00 : 0 ≤ x0) : ∀ (m n : Nat), n + m = Cs.length → zE tM_given_21 β σ [x0, 1, (n : Int)] = some (σ, x0)
  | 0, n, hm => by
    have h1 := hR.1
    rw [zq_given_21, kZ_given_21, if_pos (by omega)]
  | m + 1, n, hm => by
    have h1 := hR.1
    have h2 := hR.2.1
    have e66 : zE tM_given_66 β σ [x0, 1, (n : Int)] = some (σ, x0) := by
      rw [zq_given_66, kZ_given_66, if_pos (by omega), show (n : Int) + 1 = ((n + 1 : Nat) : Int) by omega]
      exact rg_skip hR x00 m (n + 1) (by omega)
    rw [zq_given_21, kZ_given_21, if_neg (by omega), if_pos (by omega)]
    by_cases q : σ.2.1 80 (n : Int) = 0
    · rw [if_pos q, if_neg (by omega), if_neg (by decide)]; exact e66
    · rw [if_neg q]; exact e66
theorem rg_21 {β : Nat} {σ : zS} {Cs : List CL} (hR : RC σ Cs) {o : Int} (ho : o = 0 ∨ o = 1) : ∀ (X : List CL) (n : Nat) (b : Option (Nat × Nat)), Cs.drop n = X → (∀ z, b = some z → o = 0 ∧ ∃ c, Cs[z.1]? = some c ∧ z.2 = wtL c.1) → zE tM_given_21 β σ [no1 (b.map (fun z => z.1)), o, (n : Int)] = some (σ, no1 (chQ o X n b))
  | [], n, b, hX, hb => by
    have h1 := hR.1
    have := List.drop_eq_nil_iff.mp hX
    rw [zq_given_21, kZ_given_21, if_pos (by omega)]; rfl
  | c :: X, n, b, hX, hb => by
    have h1 := hR.1
    have h2 := hR.2.1
    have hlt : n < Cs.length := by
      have : ¬ Cs.length ≤ n := fun h => by rw [List.drop_eq_nil_iff.mpr h] at hX; cases hX
      omega
    have hcons := List.drop_eq_getElem_cons hlt
    rw [hX] at hcons
    injection hcons with e1 e2
    have hc : Cs[n]? = some c := by rw [List.getElem?_eq_getElem hlt, e1]
    obtain ⟨hk, _⟩ := hR.k hc
    obtain ⟨_, _, k3, _, _, _, _, k8, _⟩ := hk
    have g := fun b9 h9 => rg_21 (β := β) hR ho X (n + 1) b9 e2.symm h9
    have e66 : ∀ x0 : Int, zE tM_given_66 β σ [x0, o, (n : Int)] = zE tM_given_21 β σ [x0, o, ((n + 1 : Nat) : Int)] := fun x0 => by rw [zq_given_66, kZ_given_66, if_pos (by omega), show (n : Int) + 1 = ((n + 1 : Nat) : Int) by omega]
    rw [zq_given_21, kZ_given_21, if_neg (by omega), if_pos (by omega), k8]
    unfold chQ
    by_cases q : cst c = 0
    · rw [if_pos q, if_pos q]
      rcases ho with rfl | rfl
      · rw [if_pos rfl, if_pos rfl]
        have gn : zE tM_given_64 β σ [no1 (b.map (fun z => z.1)), 0, (n : Int)] = some (σ, no1 (chQ 0 X (n + 1) (some (n, wtL c.1)))) := by
          rw [zq_given_64, kZ_given_64, e66]
          exact g (some (n, wtL c.1)) (fun z hz => by cases hz; exact ⟨rfl, c, hc, rfl⟩)
        cases b with
        | none => rw [if_pos (show no1 (Option.map (fun z : Nat × Nat => z.1) none) < 0 by decide)]; exact gn
        | some z =>
          obtain ⟨_, d, hd, hw⟩ := hb z rfl
          obtain ⟨hkd, _⟩ := hR.k hd
          have hzl := (List.getElem?_eq_some_iff.mp hd).1
          have e0 : no1 ((some z).map (fun z => z.1)) = (z.1 : Int) := rfl
          rw [e0] at gn ⊢
          rw [if_neg (by omega), if_pos (by omega), hkd.2.2.1, k3]
          dsimp only
          by_cases h : z.2 ≤ wtL c.1
          · rw [if_pos (by omega), if_pos h, e66]
            exact g (some z) hb
          · rw [if_neg (by omega), if_neg h]; exact gn
      · cases b with
        | none =>
          rw [if_pos (show no1 (Option.map (fun z : Nat × Nat => z.1) none) < 0 by decide), zq_given_64, kZ_given_64, e66, if_neg (show ¬ (1 : Int) = 0 by decide)]
          exact rg_skip hR (by omega) X.length (n + 1) (by
            have := congrArg List.length e2
            rw [List.length_drop] at this; omega)
        | some z => exact absurd (hb z rfl).1 (by decide)
    · rw [if_neg q, if_neg q, e66]
      exact g b hb
theorem rg_ok {β : Nat} {σ : zS} {Cs : List CL} (hR : RC σ Cs) : zE tM_given β σ [] = some (σ, no1 (chQ (if Int.tmod (zwa (σ.1 89) 1) 5 = 0 then 1 else 0) Cs 0 none)) := by
  rw [zq_given, kZ_given]
  by_cases h : Int.tmod (zwa (σ.1 89) 1) 5 = 0
  · rw [if_pos h, if_pos h, zq_given_18, kZ_given_18]
    exact rg_21 hR (Or.inr rfl) Cs 0 none List.drop_zero (fun z hz => (by cases hz))
  · rw [if_neg h, if_neg h, zq_given_18, kZ_given_18]
    exact rg_21 hR (Or.inl rfl) Cs 0 none List.drop_zero (fun z hz => (by cases hz))
/-- values as array j has them -/
def Mk (ar : Int → Nat) (m9 : Int) (H j : Nat) (σ : zS) (M : Mv) : Prop := ∀ v, 0 ≤ v → v < 6 → (M v = none → σ.2.1 j v < 0) ∧ ∀ x, M v = some x → Px σ x (σ.2.1 j v) ∧ wf ar (lb m9) (tt x) ∧ ht x.2 ≤ H
theorem Mk.q {ar : Int → Nat} {m9 : Int} {H j j2 : Nat} {σ τ : zS} {M : Mv} (h : Mk ar m9 H j σ M) (e : ∀ v, 0 ≤ v → v < 6 → τ.2.1 j2 v = σ.2.1 j v) (p : ∀ {lo hi : Int}, Pq σ τ lo hi) : Mk ar m9 H j2 τ M := fun v v0 v1 => by
  rw [e v v0 v1]
  exact ⟨(h v v0 v1).1, fun x hx => ⟨Px_q ((h v v0 v1).2 x hx).1 p, ((h v v0 v1).2 x hx).2⟩⟩
theorem mt_tt {pd : Int → Prop} {M : Mv} {x y : Tm} : mtF pd M (tt x) (tt y) = mt1 pd M x.1 y.1 y.2 (mtF pd M x.2 y.2) := by
  show (match mt1 pd M x.1 y.1 y.2 (mtF pd M x.2 y.2) with | none => none | some M1 => some M1) = _
  cases mt1 pd M x.1 y.1 y.2 (mtF pd M x.2 y.2) <;> rfl
abbrev KL : List Nat := [115, 1000, 1001, 1002, 1003, 1004, 1005, 1006, 1007, 1008]
theorem k9 {n : Nat} (h : n ≤ 8) : KL.elem (1000 + n) = true := by
  have : n = 0 ∨ n = 1 ∨ n = 2 ∨ n = 3 ∨ n = 4 ∨ n = 5 ∨ n = 6 ∨ n = 7 ∨ n = 8 := by omega
  rcases this with rfl | rfl | rfl | rfl | rfl | rfl | rfl | rfl | rfl <;> decide
abbrev KF (σ τ : zS) : Prop := FrC [] KL σ τ
theorem zCp_s {σ : zS} {k j : Nat} {v : Int} (v0 : 0 ≤ v) (v1 : v < 6) : (zCp σ k j 0 0 6).2.1 j v = σ.2.1 k v := by
  show (if j = j ∧ 0 ≤ v ∧ v < 0 + 6 then σ.2.1 k (0 + (v - 0)) else _) = _
  rw [if_pos ⟨rfl, v0, by omega⟩, show 0 + (v - 0) = v by omega]
theorem zCp_o {σ : zS} {k j i : Nat} {q : Int} (h : i ≠ j) : (zCp σ k j 0 0 6).2.1 i q = σ.2.1 i q := by
  show (if i = j ∧ 0 ≤ q ∧ q < 0 + 6 then _ else σ.2.1 i q) = _
  rw [if_neg (fun w => h w.1)]
theorem RLi.s {σ : zS} {j : Int} {a : Lt} (h : RLi σ j a) : Px σ a.2.1 (σ.2.1 66 j) ∧ Px σ a.2.2 (σ.2.1 67 j) := ⟨h.1, h.2.1⟩
/-- one LITERAL of the one that may be SUBSUMED, its side s first -/
theorem rcov_88 {ar : Int → Nat} {pd : Int → Prop} {m9 : Int} {Cs : List CL} {k kd : Nat} {c d : CL} (hc : Cs[k]? = some c) (wc : Wc ar m9 c.1) (hd : Cs[kd]? = some d) (wd : Wc ar m9 d.1) {n i β : Nat} {a b : Lt} (ha : c.1[n]? = some a) (hb : d.1[i]? = some b) (hβ : 202 ≤ β) {M : Mv} {CV : Mv → Prop}
    (rec : ∀ (ρ : zS) (M1 : Mv), RC ρ Cs → Pd ρ m9 pd → Mt ar m9 100 ρ M1 → ∃ τ, zE tM_covers (β - 1) ρ [(k : Int), (kd : Int), ((n + 1 : Nat) : Int)] = some (τ, b2 (CV M1)) ∧ KF ρ τ ∧ ∀ j q, j ≤ n → τ.2.1 (1000 + j) q = ρ.2.1 (1000 + j) q)
    {σ : zS} (hR : RC σ Cs) (hp : Pd σ m9 pd) (hK : Mk ar m9 100 (1000 + n) σ M) {s : Int} (hs : s = 0 ∨ s = 1) :
    ∃ τ, KF σ τ ∧ (∀ j q, j ≤ n → τ.2.1 (1000 + j) q = σ.2.1 (1000 + j) q) ∧ (((∃ M1, mtL pd M a b s = some M1 ∧ CV M1) ∧ zE tM_covers_88 β σ [(k : Int), (kd : Int), (n : Int), lpos Cs k + (n : Int), lpos Cs kd + (i : Int), s] = some (τ, 1)) ∨ ((¬ ∃ M1, mtL pd M a b s = some M1 ∧ CV M1) ∧ zE tM_covers_88 β σ [(k : Int), (kd : Int), (n : Int), lpos Cs k + (n : Int), lpos Cs kd + (i : Int), s] = zE tM_covers_197 β τ [(k : Int), (kd : Int), (n : Int), lpos Cs k + (n : Int), lpos Cs kd + (i : Int), s])) := by
  obtain ⟨hk, k1, k2, k3, k4, k5⟩ := hR.k hc
  obtain ⟨hkd, q1, q2, q3, q4, q5⟩ := hR.k hd
  have nl := (List.getElem?_eq_some_iff.mp ha).1
  have il := (List.getElem?_eq_some_iff.mp hb).1
  obtain ⟨wa0, wa1, wa2⟩ := wc.2.2.2.2 a (List.mem_of_getElem? ha)
  obtain ⟨wb0, wb1, wb2⟩ := wd.2.2.2.2 b (List.mem_of_getElem? hb)
  have la : lwt a ≤ wtL c.1 := wtL_mm (List.mem_of_getElem? ha)
  have lb' : lwt b ≤ wtL d.1 := wtL_mm (List.mem_of_getElem? hb)
  have w100 := wc.2.1
  have w100' := wd.2.1
  have ea : lwt a = (1 + wt a.2.1.2) + (1 + wt a.2.2.2) := rfl
  have eb : lwt b = (1 + wt b.2.1.2) + (1 + wt b.2.2.2) := rfl
  have h1 := ht_le_wt a.2.1.2
  have h2 := ht_le_wt a.2.2.2
  have h3 := ht_le_wt b.2.1.2
  have h4 := ht_le_wt b.2.2.2
  obtain ⟨X, hX⟩ : ∃ z, z = lpos Cs k + (n : Int) := ⟨_, rfl⟩
  obtain ⟨Y, hY⟩ : ∃ z, z = lpos Cs kd + (i : Int) := ⟨_, rfl⟩
  have lA := hR.l hc ha
  have lB := hR.l hd hb
  rw [← hX] at lA ⊢
  rw [← hY] at lB ⊢
  obtain ⟨σ1, hσ1⟩ : ∃ z, z = zCp σ (1000 + n) 115 0 0 6 := ⟨_, rfl⟩
  have f1 : KF σ σ1 := by rw [hσ1]; exact FrC_C
  have o1 : ∀ j q, j ≠ 115 → σ1.2.1 j q = σ.2.1 j q := fun j q hj => by rw [hσ1, zCp_o hj]
  have p1 : ∀ {lo hi : Int}, Pq σ σ1 lo hi := fun {lo hi} => f1.pq
  have M1' : Mt ar m9 100 σ1 M := hK.q (fun v v0 v1 => by rw [hσ1, zCp_s v0 v1]) p1
  have R1 := hR.f f1 p1
  have P1 := hp.f f1
  have keep1 : ∀ j q, j ≤ n → σ1.2.1 (1000 + j) q = σ.2.1 (1000 + j) q := fun j q _ => o1 _ _ (by omega)
  -- the two sides of b, by s
  obtain ⟨u, y, hu, hy, sy, ly, wy, tu, ty, wu, bu, by'⟩ : ∃ u y : Int, u = (if s = 0 then σ1.2.1 66 Y else σ1.2.1 67 Y) ∧ y = (if s = 0 then σ1.2.1 67 Y else σ1.2.1 66 Y) ∧ Px σ1 (sdT b s) u ∧ Px σ1 (sdT b (1 - s)) y ∧ wf ar (lb m9) (tt (sdT b s)) ∧ ht (sdT b s).2 ≤ 100 ∧ ht (sdT b (1 - s)).2 ≤ 100 ∧ wf ar (lb m9) (tt (sdT b (1 - s))) ∧ u + (tw (sdT b s) : Int) ≤ σ.1 105 ∧ y + (tw (sdT b (1 - s)) : Int) ≤ σ.1 105 := by
    obtain ⟨l1, l2, l3, l4, _, _⟩ := lB
    rcases hs with rfl | rfl
    · exact ⟨_, _, rfl, rfl, by rw [if_pos rfl, o1 66 Y (by decide)]; exact Px_q l1 p1, by rw [if_pos rfl, o1 67 Y (by decide)]; exact Px_q l2 p1, wb1, by show ht b.2.1.2 ≤ 100; omega, by show ht b.2.2.2 ≤ 100; omega, wb2, by rw [if_pos rfl, o1 66 Y (by decide)]; exact l3, by rw [if_pos rfl, o1 67 Y (by decide)]; exact l4⟩
    · exact ⟨_, _, rfl, rfl, by rw [if_neg (by decide), o1 67 Y (by decide)]; exact Px_q l2 p1, by rw [if_neg (by decide), o1 66 Y (by decide)]; exact Px_q l1 p1, wb2, by show ht b.2.2.2 ≤ 100; omega, by show ht b.2.1.2 ≤ 100; omega, wb1, by rw [if_neg (by decide), o1 67 Y (by decide)]; exact l4, by rw [if_neg (by decide), o1 66 Y (by decide)]; exact l3⟩
  obtain ⟨l1, l2, l3, l4, _, _⟩ := lA
  have lx1 : Px σ1 a.2.1 (σ1.2.1 66 X) := by rw [o1 66 X (by decide)]; exact Px_q l1 p1
  obtain ⟨σ2, t1, t2, t3⟩ := match_ok (β := β - 1) P1 lx1 sy wa1 wy M1' (by omega) tu
  rw [← mt_tt] at t1 t3
  have f2 : KF σ1 σ2 := FrC_Sa t2
  have f12 : KF σ σ2 := f1.trans f2
  have p2 : ∀ {lo hi : Int}, Pq σ1 σ2 lo hi := fun {lo hi} => f2.pq
  have o2 : ∀ j q, j ≠ 115 → σ2.2.1 j q = σ.2.1 j q := fun j q hj => by rw [t2.2.2 j q hj, o1 j q hj]
  have go88 : zE tM_covers_88 β σ [(k : Int), (kd : Int), (n : Int), X, Y, s] = zE tM_covers_141 β σ1 [(k : Int), (kd : Int), (n : Int), X, Y, s, u, σ1.2.1 66 X] := by
    rw [zq_covers_88, kZ_covers_88, if_neg (by omega), if_pos (by omega), if_pos (by decide), Int.toNat_natCast, lt_e, ← hσ1, if_pos (by omega)]
    rcases hs with rfl | rfl
    · rw [if_pos rfl, if_pos (by omega), hu, if_pos rfl]
    · rw [if_neg (by decide), if_pos (by omega), hu, if_neg (by decide)]
  rw [go88, zq_covers_141, kZ_covers_141, if_pos (by omega), zbd_of t1]
  cases hm : mtF pd M (tt a.2.1) (tt (sdT b s)) with
  | none =>
    refine ⟨σ2, f12, fun j q hj => by rw [o2 _ _ (by omega)], Or.inr ⟨?_, by rw [b2_f (by simp), if_pos rfl]⟩⟩
    rintro ⟨M2, e, _⟩
    unfold mtL at e
    rw [hm] at e
    cases e
  | some M2 =>
    have hM2 := t3 M2 hm
    have lx2 : Px σ2 a.2.2 (σ2.2.1 67 X) := by rw [o2 67 X (by decide)]; exact Px_q (Px_q l2 p1) p2
    have hy2 : Px σ2 (sdT b (1 - s)) y := Px_q ly p2
    obtain ⟨σ3, v1, v2, v3⟩ := match_ok (β := β - 1) (P1.f f2) lx2 hy2 wa2 wu hM2 (by omega) ty
    rw [← mt_tt] at v1 v3
    have f3 : KF σ2 σ3 := FrC_Sa v2
    have f13 : KF σ σ3 := f12.trans f3
    have o3 : ∀ j q, j ≠ 115 → σ3.2.1 j q = σ.2.1 j q := fun j q hj => by rw [v2.2.2 j q hj, o2 j q hj]
    have e66 : σ2.2.1 66 Y = σ1.2.1 66 Y := t2.2.2 66 Y (by decide)
    have e67 : σ2.2.1 67 Y = σ1.2.1 67 Y := t2.2.2 67 Y (by decide)
    have go : (if s = 0 then (if zb Y 16100 then zE tM_covers_177 β σ2 [(k : Int), (kd : Int), (n : Int), X, Y, s, σ2.2.1 67 Y, σ2.2.1 67 X] else none) else if zb Y 16100 then zE tM_covers_177 β σ2 [(k : Int), (kd : Int), (n : Int), X, Y, s, σ2.2.1 66 Y, σ2.2.1 67 X] else none) = zE tM_covers_177 β σ2 [(k : Int), (kd : Int), (n : Int), X, Y, s, y, σ2.2.1 67 X] := by
      rcases hs with rfl | rfl
      · rw [if_pos rfl, if_pos (by omega), hy, if_pos rfl, e67]
      · rw [if_neg (by decide), if_pos (by omega), hy, if_neg (by decide), e66]
    rw [b2_t (by simp), if_neg (by decide), if_pos (by omega), go, zq_covers_177, kZ_covers_177, if_pos (by omega), zbd_of v1]
    cases hm2 : mtF pd M2 (tt a.2.2) (tt (sdT b (1 - s))) with
    | none =>
      refine ⟨σ3, f13, fun j q hj => by rw [o3 _ _ (by omega)], Or.inr ⟨?_, by rw [b2_f (by simp), if_pos rfl]⟩⟩
      rintro ⟨M3, e, _⟩
      unfold mtL at e
      rw [hm] at e
      dsimp only at e
      rw [hm2] at e
      cases e
    | some M3 =>
      have em : mtL pd M a b s = some M3 := by unfold mtL; rw [hm]; exact hm2
      obtain ⟨τ, r1, r2, r3⟩ := rec σ3 M3 (hR.f f13 f13.pq) (hp.f f13) (v3 M3 hm2)
      rw [b2_t (by simp), if_neg (by decide), if_pos (by omega), if_pos (by omega), show (n : Int) + 1 = ((n + 1 : Nat) : Int) by omega, zbd_of r1]
      by_cases cv : CV M3
      · rw [b2_t cv, if_neg (by decide)]
        exact ⟨τ, f13.trans r2, fun j q hj => by rw [r3 j q hj, o3 _ _ (by omega)], Or.inl ⟨⟨M3, em, cv⟩, rfl⟩⟩
      · rw [b2_f cv, if_pos rfl]
        refine ⟨τ, f13.trans r2, fun j q hj => by rw [r3 j q hj, o3 _ _ (by omega)], Or.inr ⟨?_, rfl⟩⟩
        rintro ⟨M4, e, h⟩
        rw [em] at e
        obtain rfl := Option.some.inj e
        exact cv h
