/-! one call of both: feed -/
variable {qo : Nat}
theorem and255 (x : Int32) : (x &&& 255).toInt = x.toInt % 256 := by
  have h : (x &&& 255).toInt = ((x.toBitVec &&& 255#32).toInt) := rfl
  have h2 : x.toInt = x.toBitVec.toInt := rfl
  rw [h, h2, BitVec.toInt_eq_toNat_cond, BitVec.toInt_eq_toNat_cond, BitVec.toNat_and]
  have e : (x.toBitVec.toNat &&& (255#32).toNat) = x.toBitVec.toNat % 256 := Nat.and_two_pow_sub_one_eq_mod _ 8
  have hl := x.toBitVec.isLt
  rw [e]
  split <;> split <;> omega
/-- a byte in both -/
theorem byte2 (a : Int) : (0 ≤ znb (zi2b a) ∧ znb (zi2b a) ≤ 127 ∧ zand a 255 = znb (zi2b a)) ∨ (-128 ≤ znb (zi2b a) ∧ znb (zi2b a) < 0 ∧ zand a 255 = znb (zi2b a) + 256) := by
  have h1 : zand a 255 = (i32 a).toInt % 256 := by
    unfold zand
    have : i32 255 = 255 := rfl
    rw [this, and255]
  have h2 : zi2b a = (i32 a).toInt.bmod 256 := by
    unfold zi2b
    rw [Int8.toInt_toInt32, Int32.toInt_toInt8]
  have h3 : -128 ≤ (i32 a).toInt.bmod 256 ∧ (i32 a).toInt.bmod 256 ≤ 127 := by
    have a1 := Int.le_bmod (x := (i32 a).toInt) (m := 256) (by decide)
    have a2 := Int.bmod_lt (x := (i32 a).toInt) (m := 256) (by decide)
    omega
  rw [h1, h2, znb_id h3]
  have h4 : (i32 a).toInt.bmod 256 = if (i32 a).toInt % 256 < 128 then (i32 a).toInt % 256 else (i32 a).toInt % 256 - 256 := by
    rw [Int.bmod_def]
    rfl
  rw [h4]
  have h5 := Int.emod_nonneg (i32 a).toInt (b := 256) (by decide)
  have h6 := Int.emod_lt_of_pos (i32 a).toInt (b := 256) (by decide)
  split <;> omega
def sel5 (a b c d e : Int) (k : Nat) : Int := if 4 ≤ k then (if 8 ≤ k then (if 12 ≤ k then (if 16 ≤ k then e else d) else c) else b) else a
/-- the k-th byte of what is fed -/
def bQ (a b c d e : Int) (k : Nat) : Int := zushr (sel5 a b c d e k) (24 - 8 * Int.tmod (k : Int) 4)
theorem ab_p3 {β : Nat} {v : Int} {s : Int} (h : 0 ≤ s ∧ s ≤ 24) {σ : zS} {X : List Int} (hX : RowC σ 101 2 X) (hM : Mb σ) (hR : RL σ) (hl : X.length ≤ 20000) (hc : σ.2.2 2 ≤ 50000) : ∃ τ, yE tG_CP_addBytes_p3 β σ [v, s] = yE tG_CP_addBytes_p3 β τ [v, s + -8] ∧ RowC τ 101 2 (X ++ [zand (zushr v s) 255]) ∧ FrC [101] [2] σ τ ∧ Mb τ ∧ RL τ ∧ τ.2.2 2 ≤ 50000 := by
  obtain ⟨P0, P1, P2, P3, P4, P5⟩ := radd (x := zand (zushr v s) 255) (B := 50000) hX hM hR (by omega) hc (by omega)
  refine ⟨_, ?_, P1, P2, P3, P4, P5⟩
  rw [yq_CP_addBytes_p3, kY_CP_addBytes_p3, if_neg (by omega), if_pos P0, lt_e, if_pos ⟨by omega, by omega⟩]
theorem ab_ok {β : Nat} {v : Int} {σ : zS} {X : List Int} (hX : RowC σ 101 2 X) (hM : Mb σ) (hR : RL σ) (hl : X.length ≤ 19900) (hc : σ.2.2 2 ≤ 50000) : ∃ τ, yE tG_CP_addBytes β σ [v] = some (τ, 0) ∧ RowC τ 101 2 (X ++ [zand (zushr v 24) 255, zand (zushr v 16) 255, zand (zushr v 8) 255, zand (zushr v 0) 255]) ∧ FrC [101] [2] σ τ ∧ Mb τ ∧ RL τ ∧ τ.2.2 2 ≤ 50000 := by
  obtain ⟨σ1, a1, a2, a3, a4, a5, a6⟩ := ab_p3 (β := β) (v := v) (s := 24) (by decide) hX hM hR (by omega) hc
  obtain ⟨σ2, b1, b2, b3, b4, b5, b6⟩ := ab_p3 (β := β) (v := v) (s := 16) (by decide) a2 a4 a5 (by simp; omega) a6
  obtain ⟨σ3, c1, c2, c3, c4, c5, c6⟩ := ab_p3 (β := β) (v := v) (s := 8) (by decide) b2 b4 b5 (by simp; omega) b6
  obtain ⟨σ4, d1, d2, d3, d4, d5, d6⟩ := ab_p3 (β := β) (v := v) (s := 0) (by decide) c2 c4 c5 (by simp; omega) c6
  refine ⟨σ4, ?_, ?_, ((a3.trans b3).trans c3).trans d3, d4, d5, d6⟩
  · have a1' : yE tG_CP_addBytes_p3 β σ [v, 24] = yE tG_CP_addBytes_p3 β σ1 [v, 16] := a1
    have b1' : yE tG_CP_addBytes_p3 β σ1 [v, 16] = yE tG_CP_addBytes_p3 β σ2 [v, 8] := b1
    have c1' : yE tG_CP_addBytes_p3 β σ2 [v, 8] = yE tG_CP_addBytes_p3 β σ3 [v, 0] := c1
    have d1' : yE tG_CP_addBytes_p3 β σ3 [v, 0] = yE tG_CP_addBytes_p3 β σ4 [v, -8] := d1
    rw [yq_CP_addBytes, kY_CP_addBytes, a1', b1', c1', d1', yq_CP_addBytes_p3, kY_CP_addBytes_p3, if_pos (by decide)]
  · simpa using d2
theorem fdZ {γ : Nat} {a b c d e : Int} : ∀ (m k n : Nat) (σ : zS), k + m = 20 → n + m ≤ 65536 → σ.1 2 = (n : Int) → ∃ τ, zE tM_feed_33 γ σ [a, b, c, d, e, (k : Int)] = some (τ, ((n + m : Nat) : Int)) ∧ FrC [2] [0] σ τ ∧ τ.1 2 = ((n + m : Nat) : Int) ∧ (∀ q : Int, q < (n : Int) → τ.2.1 0 q = σ.2.1 0 q) ∧ ∀ j : Nat, j < m → τ.2.1 0 ((n + j : Nat) : Int) = znb (zi2b (bQ a b c d e (k + j)))
  | 0, k, n, σ, hm, hn, h2 => by
    refine ⟨σ, ?_, FrC.refl, h2, fun _ _ => rfl, fun j hj => by omega⟩
    rw [zq_feed_33, kZ_feed_33, if_pos (by omega), h2]
    rfl
  | m + 1, k, n, σ, hm, hn, h2 => by
    obtain ⟨v, hv⟩ : ∃ v, v = znb (zi2b (bQ a b c d e k)) := ⟨_, rfl⟩
    obtain ⟨σ1, hσ1⟩ : ∃ z, z = zI σ 2 ((n : Int) + 1) := ⟨_, rfl⟩
    obtain ⟨σ2, hσ2⟩ : ∃ z, z = zA σ1 0 (n : Int) v := ⟨_, rfl⟩
    have f1 : FrC [2] [0] σ σ1 := by rw [hσ1]; exact FrC_I
    have f2 : FrC [2] [0] σ σ2 := by rw [hσ2]; exact f1.trans FrC_A
    obtain ⟨τ, t1, t2, t3, t4, t5⟩ := fdZ (γ := γ) (a := a) (b := b) (c := c) (d := d) (e := e) m (k + 1) (n + 1) σ2 (by omega) (by omega) (by rw [hσ2, zA_1, hσ1, zI_1]; rfl)
    have hk4 : Int.tmod (k : Int) 4 = ((k % 4 : Nat) : Int) := rfl
    have hk4' : k % 4 < 4 := Nat.mod_lt _ (by decide)
    have e86 : zE tM_feed_86 γ σ [a, b, c, d, e, (k : Int), sel5 a b c d e k] = zE tM_feed_33 γ σ2 [a, b, c, d, e, ((k + 1 : Nat) : Int)] := by
      rw [zq_feed_86, kZ_feed_86, h2, if_pos ⟨by omega, by omega⟩, lt_e, ← hσ1, if_pos (show zb (n : Int) 65536 from ⟨by omega, by omega⟩), if_pos (by rw [hk4]; exact ⟨by omega, by omega⟩), if_pos (by rw [hk4]; exact ⟨by omega, by omega⟩), lt_e]
      have ev : znb (zi2b (zushr (sel5 a b c d e k) (24 - 8 * Int.tmod (k : Int) 4))) = v := by rw [hv]; rfl
      rw [ev, ← hσ2, if_pos ⟨by omega, by omega⟩]
      rfl
    have e33 : zE tM_feed_33 γ σ [a, b, c, d, e, (k : Int)] = zE tM_feed_86 γ σ [a, b, c, d, e, (k : Int), sel5 a b c d e k] := by
      rw [zq_feed_33, kZ_feed_33, if_neg (by omega)]
      unfold sel5
      by_cases q4 : 4 ≤ k
      · by_cases q8 : 8 ≤ k
        · by_cases q12 : 12 ≤ k
          · by_cases q16 : 16 ≤ k
            · rw [if_pos (by omega), if_pos (by omega), if_pos (by omega), if_pos (by omega), if_pos q4, if_pos q8, if_pos q12, if_pos q16]
            · rw [if_pos (by omega), if_pos (by omega), if_pos (by omega), if_neg (by omega), if_pos q4, if_pos q8, if_pos q12, if_neg q16]
          · rw [if_pos (by omega), if_pos (by omega), if_neg (by omega), if_pos q4, if_pos q8, if_neg q12]
        · rw [if_pos (by omega), if_neg (by omega), if_pos q4, if_neg q8]
      · rw [if_neg (by omega), if_neg q4]
    refine ⟨τ, ?_, f2.trans t2, by rw [t3]; omega, fun q hq => ?_, fun j hj => ?_⟩
    · rw [e33, e86, t1, show n + 1 + m = n + (m + 1) by omega]
    · rw [t4 q (by omega), hσ2, zA_i (by omega), hσ1]; rfl
    · cases j with
      | zero =>
        rw [Nat.add_zero, Nat.add_zero, t4 _ (by omega), hσ2, zA_s, hv]
      | succ j =>
        have := t5 j (by omega)
        rw [show n + 1 + j = n + (j + 1) by omega, show k + 1 + j = k + (j + 1) by omega] at this
        exact this
theorem pfeed_ok {σ ρ : zS} {n : Nat} (h : TL qo σ ρ n) (hn : n + 20 ≤ 19900) (h3 : σ.2.2 3000 = 0) {β γ : Nat} (hβ : 1 ≤ β) (hγ : 1 ≤ γ) {a b c d e : Int} : An qo (yE tP_CP_feed β σ [a, b, c, d, e]) (zE tM_feed γ ρ [a, b, c, d, e]) σ mTZ (n + 20) := by
  obtain ⟨ar, pd, m9, A, P, T, nm, o, d', s, c', q, r, ⟨⟨a1, a2, a3, a4, a5, a6⟩, i2, i3, i4⟩⟩ := id h
  obtain ⟨X, hXd⟩ : ∃ X : List Int, X = (List.range n).map (fun i : Nat => σ.2.1 2 (i : Int)) := ⟨_, rfl⟩
  have hXl : X.length = n := by rw [hXd]; simp
  have hX : RowC σ 101 2 X := by
    refine ⟨by rw [hXl]; exact a1, by omega, a4, ?_⟩
    have : ∀ (L : List Int) (p : Int), (∀ (i : Nat) v, L[i]? = some v → σ.2.1 2 (p + (i : Int)) = v) → Fl (σ.2.1 2) p L := by
      intro L
      induction L with
      | nil => intro p _; trivial
      | cons x L ih =>
        intro p hp
        refine ⟨by have := hp 0 x rfl; simpa using this, ih (p + 1) (fun i v hv => ?_)⟩
        have := hp (i + 1) v hv
        rw [show p + 1 + (i : Int) = p + ((i + 1 : Nat) : Int) by omega]
        exact this
    refine this X 0 (fun i v hv => ?_)
    rw [hXd, List.getElem?_map] at hv
    by_cases hi : i < n
    · rw [List.getElem?_range hi] at hv
      cases hv
      rw [Int.zero_add]
    · rw [List.getElem?_eq_none (by simp; omega)] at hv
      cases hv
  have hM := s.1.2.2.2.2.1
  have hR := s.1.2.2.2.2.2.1
  obtain ⟨σ1, p1, p2, p3, p4, p5, p6⟩ := ab_ok (β := β - 1) (v := a) hX hM hR (by omega) a5
  obtain ⟨σ2, q1, q2, q3, q4, q5, q6⟩ := ab_ok (β := β - 1) (v := b) p2 p4 p5 (by simp; omega) p6
  obtain ⟨σ3, r1, r2, r3, r4, r5, r6⟩ := ab_ok (β := β - 1) (v := c) q2 q4 q5 (by simp; omega) q6
  obtain ⟨σ4, s1, s2, s3, s4, s5, s6⟩ := ab_ok (β := β - 1) (v := d) r2 r4 r5 (by simp; omega) r6
  obtain ⟨σ5, t1, t2, t3, t4, t5, t6⟩ := ab_ok (β := β - 1) (v := e) s2 s4 s5 (by simp; omega) s6
  have f5 : FrC [101] [2] σ σ5 := (((p3.trans q3).trans r3).trans s3).trans t3
  have hL : RowC σ5 101 2 (X ++ (List.range 20).map (fun k => zand (bQ a b c d e k) 255)) := by
    have eL : (List.range 20).map (fun k => zand (bQ a b c d e k) 255) = [zand (zushr a 24) 255, zand (zushr a 16) 255, zand (zushr a 8) 255, zand (zushr a 0) 255, zand (zushr b 24) 255, zand (zushr b 16) 255, zand (zushr b 8) 255, zand (zushr b 0) 255, zand (zushr c 24) 255, zand (zushr c 16) 255, zand (zushr c 8) 255, zand (zushr c 0) 255, zand (zushr d 24) 255, zand (zushr d 16) 255, zand (zushr d 8) 255, zand (zushr d 0) 255, zand (zushr e 24) 255, zand (zushr e 16) 255, zand (zushr e 8) 255, zand (zushr e 0) 255] := rfl
    rw [eL]
    simpa using t2
  have g : FrC [2, 4] [0] ρ (zI ρ 4 0) := FrC_I
  obtain ⟨κ, u1, u2, u3, u4, u5⟩ := fdZ (γ := γ) (a := a) (b := b) (c := c) (d := d) (e := e) 20 0 n (zI ρ 4 0) (by omega) (by omega) (by rw [zI_o]; exact a2)
  have g2 : FrC [2, 4] [0] ρ κ := g.trans u2.w
  obtain ⟨l1, l2, l3, l4⟩ := hL
  have ll : (X ++ (List.range 20).map (fun k => zand (bQ a b c d e k) 255)).length = n + 20 := by simp [hXl]
  refine An.ok (τ := σ5) (κ := κ) (r := ((n + 20 : Nat) : Int)) ?_ ?_ (by rw [f5.l 3000]; exact h3) (by rw [u2.i 4, zI_1]) rfl f5.2.2.2 ?_
  · rw [yq_CP_feed, kY_CP_feed, a1, if_pos ⟨by omega, by omega⟩, if_pos (by omega), if_pos hβ, zbd_of p1, if_pos hβ, zbd_of q1, if_pos hβ, zbd_of r1, if_pos hβ, zbd_of s1, if_pos hβ, zbd_of t1, l1, ll]
  · have e2 : (zI ρ 4 0).1 2 = (n : Int) := by rw [zI_o]; exact a2
    rw [zq_feed, kZ_feed, lt_e, e2, if_pos (by omega), zq_feed_22, kZ_feed_22, if_pos hγ, zbd_of ref_0, if_pos rfl]
    exact u1
  · refine ⟨ar, pd, m9, A, P, T, nm, o, d', s.f f5 t5, c'.f f5, q.f g2 g2.pq, r.f g2, ⟨by rw [l1, ll], u3, by omega, l3, t6, fun i i0 i1 => ?_⟩, ⟨by rw [f5.i 10, g2.i 5]; exact i2.1, by rw [f5.i 11, g2.i 6]; exact i2.2⟩, ⟨by rw [f5.i 301]; exact i3.1, by rw [g2.i 3]; exact i3.2.1, fun i i0 i1 => by rw [f5.a 4, g2.a 1]; exact i3.2.2 i i0 i1⟩, by rw [f5.l 4, g2.l 1]; exact IO4 (fun i => g2.a 1 i) i4⟩
    obtain ⟨k, hk⟩ : ∃ k : Nat, i = (k : Int) := ⟨i.toNat, by omega⟩
    subst hk
    by_cases hkn : k < n
    · have hv : (X ++ (List.range 20).map (fun k => zand (bQ a b c d e k) 255))[k]? = some (σ.2.1 2 (k : Int)) := by
        rw [List.getElem?_append_left (by omega), hXd, List.getElem?_map, List.getElem?_range hkn]; rfl
      have := Fl_get l4 hv
      rw [Int.zero_add] at this
      rw [this, u4 _ (by omega)]
      exact a6 (k : Int) (by omega) (by omega)
    · obtain ⟨j, hj⟩ : ∃ j, k = n + j := ⟨k - n, by omega⟩
      have hj20 : j < 20 := by omega
      have hv : (X ++ (List.range 20).map (fun k => zand (bQ a b c d e k) 255))[k]? = some (zand (bQ a b c d e j) 255) := by
        rw [List.getElem?_append_right (by omega), List.getElem?_map, show k - X.length = j by omega, List.getElem?_range hj20]; rfl
      have := Fl_get l4 hv
      rw [Int.zero_add] at this
      have hz := u5 j hj20
      rw [← hj, Nat.zero_add] at hz
      rw [this, hz]
      exact byte2 _
