/-! FORMULAS of the TEXT in the class -/
/-- what, its parts, how high, how many CLAUSES where it is false, where it is true -/
abbrev N6 : Type := Int × Int × Int × Int × Int × Int
def n6l (x : N6) : List Int := [x.1, x.2.1, x.2.2.1, x.2.2.2.1, x.2.2.2.2.1, x.2.2.2.2.2, 0]
def nfl : List N6 → List Int
  | [] => []
  | x :: L => n6l x ++ nfl L
theorem nfl_app : ∀ A B : List N6, nfl (A ++ B) = nfl A ++ nfl B
  | [], B => rfl
  | x :: A, B => by show n6l x ++ nfl (A ++ B) = n6l x ++ nfl A ++ nfl B; rw [nfl_app A B, List.append_assoc]
theorem nfl_len : ∀ A : List N6, (nfl A).length = 7 * A.length
  | [] => rfl
  | x :: A => by
    show (n6l x ++ nfl A).length = 7 * (A.length + 1)
    rw [List.length_append, nfl_len A]
    show 7 + _ = _
    omega
theorem nfl_get : ∀ {A : List N6} {i j : Nat} {x : N6} {c : Int}, A[i]? = some x → (n6l x)[j]? = some c → (nfl A)[7 * i + j]? = some c
  | [], i, j, x, c, h, _ => by cases h
  | y :: A, 0, j, x, c, h, hc => by
    cases h
    show (n6l y ++ nfl A)[7 * 0 + j]? = some c
    have hj := (List.getElem?_eq_some_iff.mp hc).1
    rw [show 7 * 0 + j = j by omega, List.getElem?_append_left hj]
    exact hc
  | y :: A, i + 1, j, x, c, h, hc => by
    show (n6l y ++ nfl A)[7 * (i + 1) + j]? = some c
    have hl : (n6l y).length = 7 := rfl
    rw [List.getElem?_append_right (by omega), hl, show 7 * (i + 1) + j - 7 = 7 * i + j by omega]
    exact nfl_get (A := A) h hc
def dN : N6 := (0, 0, 0, 0, 1, 1)
/-- both numbers of CLAUSES out of those of the parts -/
def cmk (k : Int) (x y : Int × Int) : Int × Int :=
  if k = 11 then (x.2, x.1) else if k = 14 then (x.1 * y.1, x.2 + y.2) else if k = 15 then (x.1 + y.1, x.2 * y.2) else if k = 16 then (x.2 + y.1, x.1 * y.2) else if k = 17 then (x.2 * y.2 + x.1 * y.1, x.1 * y.2 + y.1 * x.2) else x
def cp2 (x : Int × Int) : Int × Int := (if 201 < x.1 then 201 else x.1, if 201 < x.2 then 201 else x.2)
def mkN (k a b : Int) (x y : N6) : N6 := (k, a, b, max x.2.2.2.1 y.2.2.2.1 + 1, (cp2 (cmk k x.2.2.2.2 y.2.2.2.2)).1, (cp2 (cmk k x.2.2.2.2 y.2.2.2.2)).2)
def n6b (x : N6) : Prop := (0 ≤ x.2.2.2.1 ∧ x.2.2.2.1 ≤ 100000) ∧ (1 ≤ x.2.2.2.2.1 ∧ x.2.2.2.2.1 ≤ 201) ∧ (1 ≤ x.2.2.2.2.2 ∧ x.2.2.2.2.2 ≤ 201)
theorem mul201 {a b : Int} (h1 : 1 ≤ a) (h2 : a ≤ 201) (h3 : 1 ≤ b) (h4 : b ≤ 201) : 1 ≤ a * b ∧ a * b ≤ 40401 := by
  have e1 : a * b ≤ 201 * b := Int.mul_le_mul_of_nonneg_right h2 (by omega)
  have e2 : 1 * b ≤ a * b := Int.mul_le_mul_of_nonneg_right h1 (by omega)
  omega
theorem cmk_b {k : Int} {x y : Int × Int} (x1 : 1 ≤ x.1 ∧ x.1 ≤ 201) (x2 : 1 ≤ x.2 ∧ x.2 ≤ 201) (y1 : 1 ≤ y.1 ∧ y.1 ≤ 201) (y2 : 1 ≤ y.2 ∧ y.2 ≤ 201) : (1 ≤ (cmk k x y).1 ∧ (cmk k x y).1 ≤ 100000) ∧ (1 ≤ (cmk k x y).2 ∧ (cmk k x y).2 ≤ 100000) := by
  have m1 := mul201 x1.1 x1.2 y1.1 y1.2
  have m2 := mul201 x1.1 x1.2 y2.1 y2.2
  have m3 := mul201 x2.1 x2.2 y2.1 y2.2
  have m4 := mul201 y1.1 y1.2 x2.1 x2.2
  unfold cmk
  split
  · exact ⟨by dsimp only; omega, by dsimp only; omega⟩
  split
  · exact ⟨by dsimp only; omega, by dsimp only; omega⟩
  split
  · exact ⟨by dsimp only; omega, by dsimp only; omega⟩
  split
  · exact ⟨by dsimp only; omega, by dsimp only; omega⟩
  split
  · exact ⟨by dsimp only; omega, by dsimp only; omega⟩
  · exact ⟨by omega, by omega⟩
theorem cp2_b {x : Int × Int} (h : (1 ≤ x.1 ∧ x.1 ≤ 100000) ∧ (1 ≤ x.2 ∧ x.2 ≤ 100000)) : (1 ≤ (cp2 x).1 ∧ (cp2 x).1 ≤ 201) ∧ (1 ≤ (cp2 x).2 ∧ (cp2 x).2 ≤ 201) := by
  unfold cp2
  refine ⟨?_, ?_⟩ <;> dsimp only <;> split <;> omega
/-- the row of nodes -/
def NdR (σ : zS) (NN : List N6) : Prop := RowC σ 1801 19 (nfl NN) ∧ σ.2.2 19 ≤ 430000 ∧ ∀ (i : Nat) x, NN[i]? = some x → n6b x ∧ x.2.2.2.1 ≤ (i : Int) + 1
theorem NdR.g {σ : zS} {NN : List N6} (h : NdR σ NN) {i j : Nat} {x : N6} {c : Int} (hx : NN[i]? = some x) (hc : (n6l x)[j]? = some c) : σ.2.1 19 ((i : Int) * 7 + (j : Int)) = c ∧ zb ((i : Int) * 7 + (j : Int)) (σ.2.2 19) := by
  have h1 := Fl_get h.1.2.2.2 (nfl_get hx hc)
  have hi := (List.getElem?_eq_some_iff.mp hx).1
  have hj := (List.getElem?_eq_some_iff.mp hc).1
  have hj : j < 7 := hj
  have hl := h.1.2.1
  rw [nfl_len] at hl
  rw [show (0 : Int) + ((7 * i + j : Nat) : Int) = (i : Int) * 7 + (j : Int) by omega] at h1
  exact ⟨h1, by omega, by omega⟩
theorem NdR.f {σ τ : zS} {NN : List N6} {I A : List Nat} (h : NdR σ NN) (f : FrC I A σ τ) (hI : I.elem 1801 = false := by decide) (hA : A.elem 19 = false := by decide) : NdR τ NN := ⟨h.1.f f hI hA, by rw [f.2.2.1 19 hA (by decide) (by decide)]; exact h.2.1, h.2.2⟩
theorem addNode_ok {β : Nat} {σ : zS} {NN : List N6} {k a b : Int} {x y : N6} (hM : Mb σ) (hR : RL σ) (h : NdR σ NN) (hl : NN.length ≤ 30500) (hk : 9 ≤ k ∧ k ≤ 17) (hx : 11 ≤ k → 0 ≤ a ∧ NN[a.toNat]? = some x) (hx' : k < 11 → x = dN) (hy : 14 ≤ k → 0 ≤ b ∧ NN[b.toNat]? = some y) (hy' : k < 14 → y = dN) :
    ∃ τ, yE tG_For_addNode β σ [k, a, b] = some (τ, (NN.length : Int)) ∧ NdR τ (NN ++ [mkN k a b x y]) ∧ FrC [1801] [19] σ τ ∧ Mb τ ∧ RL τ := by
  obtain ⟨one, h1⟩ : ∃ o : Int, o = if k < 11 then -1 else a * 7 := ⟨_, rfl⟩
  obtain ⟨two, h2⟩ : ∃ o : Int, o = if k < 14 then -1 else b * 7 := ⟨_, rfl⟩
  have bd : n6b dN := ⟨⟨by decide, by decide⟩, ⟨by decide, by decide⟩, ⟨by decide, by decide⟩⟩
  have bx : n6b x ∧ x.2.2.2.1 ≤ (NN.length : Int) := by
    by_cases c : 11 ≤ k
    · obtain ⟨w1, w2⟩ := h.2.2 _ x (hx c).2
      have := (List.getElem?_eq_some_iff.mp (hx c).2).1
      exact ⟨w1, by omega⟩
    · rw [hx' (by omega)]; exact ⟨bd, by show (0 : Int) ≤ _; omega⟩
  have bY : n6b y ∧ y.2.2.2.1 ≤ (NN.length : Int) := by
    by_cases c : 14 ≤ k
    · obtain ⟨w1, w2⟩ := h.2.2 _ y (hy c).2
      have := (List.getElem?_eq_some_iff.mp (hy c).2).1
      exact ⟨w1, by omega⟩
    · rw [hy' (by omega)]; exact ⟨bd, by show (0 : Int) ≤ _; omega⟩
  have one_c : 11 ≤ k → one ≠ -1 ∧ 0 ≤ one ∧ one ≤ 280000 ∧ (σ.2.1 19 (one + 4) = x.2.2.2.2.1 ∧ zb (one + 4) (σ.2.2 19)) ∧ (σ.2.1 19 (one + 5) = x.2.2.2.2.2 ∧ zb (one + 5) (σ.2.2 19)) ∧ (σ.2.1 19 (one + 3) = x.2.2.2.1 ∧ zb (one + 3) (σ.2.2 19)) := fun c => by
    obtain ⟨p0, p1⟩ := hx c
    have hi := (List.getElem?_eq_some_iff.mp p1).1
    rw [if_neg (by omega)] at h1
    have e : a * 7 = ((a.toNat : Nat) : Int) * 7 := by rw [Int.toNat_of_nonneg p0]
    rw [h1, e]
    exact ⟨by omega, by omega, by omega, h.g p1 (j := 4) rfl, h.g p1 (j := 5) rfl, h.g p1 (j := 3) rfl⟩
  have two_c : 14 ≤ k → two ≠ -1 ∧ 0 ≤ two ∧ two ≤ 280000 ∧ (σ.2.1 19 (two + 4) = y.2.2.2.2.1 ∧ zb (two + 4) (σ.2.2 19)) ∧ (σ.2.1 19 (two + 5) = y.2.2.2.2.2 ∧ zb (two + 5) (σ.2.2 19)) ∧ (σ.2.1 19 (two + 3) = y.2.2.2.1 ∧ zb (two + 3) (σ.2.2 19)) := fun c => by
    obtain ⟨p0, p1⟩ := hy c
    have hi := (List.getElem?_eq_some_iff.mp p1).1
    rw [if_neg (by omega)] at h2
    have e : b * 7 = ((b.toNat : Nat) : Int) * 7 := by rw [Int.toNat_of_nonneg p0]
    rw [h2, e]
    exact ⟨by omega, by omega, by omega, h.g p1 (j := 4) rfl, h.g p1 (j := 5) rfl, h.g p1 (j := 3) rfl⟩
  have one_n : k < 11 → one = -1 := fun c => by rw [if_pos c] at h1; exact h1
  have two_n : k < 14 → two = -1 := fun c => by rw [if_pos c] at h2; exact h2
  have e0 : yE tG_For_addNode β σ [k, a, b] = yE tG_For_addNode_p14 β σ [k, a, b, one] := by
    rw [yq_For_addNode, kY_For_addNode]
    by_cases c : k < 11
    · rw [if_pos c, one_n c]
    · have := one_c (by omega)
      rw [if_neg c] at h1
      rw [if_neg c, ← h1, if_pos ⟨by omega, by omega⟩]
  have e1 : yE tG_For_addNode_p14 β σ [k, a, b, one] = yE tG_For_addNode_p30 β σ [k, a, b, one, two] := by
    rw [yq_For_addNode_p14, kY_For_addNode_p14]
    by_cases c : k < 14
    · rw [if_pos c, two_n c]
    · have := two_c (by omega)
      rw [if_neg c] at h2
      rw [if_neg c, ← h2, if_pos ⟨by omega, by omega⟩]
  have e2 : yE tG_For_addNode_p30 β σ [k, a, b, one, two] = yE tG_For_addNode_p54 β σ [k, a, b, one, two, x.2.2.2.2.1] := by
    rw [yq_For_addNode_p30, kY_For_addNode_p30]
    by_cases c : k < 11
    · rw [if_pos (one_n c), hx' c]; rfl
    · obtain ⟨q1, q2, q3, q4, q5, q6⟩ := one_c (by omega)
      rw [if_neg q1, if_pos ⟨by omega, by omega⟩, if_pos q4.2, q4.1]
  have e3 : yE tG_For_addNode_p54 β σ [k, a, b, one, two, x.2.2.2.2.1] = yE tG_For_addNode_p78 β σ [k, a, b, one, two, x.2.2.2.2.1, x.2.2.2.2.2] := by
    rw [yq_For_addNode_p54, kY_For_addNode_p54]
    by_cases c : k < 11
    · rw [if_pos (one_n c), hx' c]; rfl
    · obtain ⟨q1, q2, q3, q4, q5, q6⟩ := one_c (by omega)
      rw [if_neg q1, if_pos ⟨by omega, by omega⟩, if_pos q5.2, q5.1]
  have e4 : yE tG_For_addNode_p78 β σ [k, a, b, one, two, x.2.2.2.2.1, x.2.2.2.2.2] = yE tG_For_addNode_p102 β σ [k, a, b, one, two, x.2.2.2.2.1, x.2.2.2.2.2, y.2.2.2.2.1] := by
    rw [yq_For_addNode_p78, kY_For_addNode_p78]
    by_cases c : k < 14
    · rw [if_pos (two_n c), hy' c]; rfl
    · obtain ⟨q1, q2, q3, q4, q5, q6⟩ := two_c (by omega)
      rw [if_neg q1, if_pos ⟨by omega, by omega⟩, if_pos q4.2, q4.1]
  have e5 : yE tG_For_addNode_p102 β σ [k, a, b, one, two, x.2.2.2.2.1, x.2.2.2.2.2, y.2.2.2.2.1] = yE tG_For_addNode_p126 β σ [k, a, b, one, two, x.2.2.2.2.1, x.2.2.2.2.2, y.2.2.2.2.1, y.2.2.2.2.2] := by
    rw [yq_For_addNode_p102, kY_For_addNode_p102]
    by_cases c : k < 14
    · rw [if_pos (two_n c), hy' c]; rfl
    · obtain ⟨q1, q2, q3, q4, q5, q6⟩ := two_c (by omega)
      rw [if_neg q1, if_pos ⟨by omega, by omega⟩, if_pos q5.2, q5.1]
  obtain ⟨⟨⟨xh0, xh1⟩, xf, xt⟩, xh⟩ := bx
  obtain ⟨⟨⟨yh0, yh1⟩, yf, yt⟩, yh⟩ := bY
  obtain ⟨u, hu⟩ : ∃ u : Int × Int, u = cmk k x.2.2.2.2 y.2.2.2.2 := ⟨_, rfl⟩
  have ub := cmk_b (k := k) (x := x.2.2.2.2) (y := y.2.2.2.2) xf xt yf yt
  rw [← hu] at ub
  have e6 : yE tG_For_addNode_p126 β σ [k, a, b, one, two, x.2.2.2.2.1, x.2.2.2.2.2, y.2.2.2.2.1, y.2.2.2.2.2] = yE tG_For_addNode_p271 β σ [k, a, b, one, two, x.2.2.2.2.1, x.2.2.2.2.2, y.2.2.2.2.1, y.2.2.2.2.2, u.1, u.2] := by
    have m1 := mul201 xf.1 xf.2 yf.1 yf.2
    have m2 := mul201 xf.1 xf.2 yt.1 yt.2
    have m3 := mul201 xt.1 xt.2 yt.1 yt.2
    have m4 := mul201 yf.1 yf.2 xt.1 xt.2
    rw [yq_For_addNode_p126, kY_For_addNode_p126, hu]
    unfold cmk
    by_cases d1 : k < 11 ∨ 17 < k
    · rw [if_pos d1, if_neg (by omega), if_neg (by omega), if_neg (by omega), if_neg (by omega), if_neg (by omega)]
    rw [if_neg d1]
    by_cases d2 : k = 11
    · rw [if_pos d2, if_pos d2]
    rw [if_neg d2, if_neg d2]
    by_cases d3 : k = 12
    · rw [if_pos d3, if_neg (by omega), if_neg (by omega), if_neg (by omega), if_neg (by omega)]
    rw [if_neg d3]
    by_cases d4 : k = 13
    · rw [if_pos d4, if_neg (by omega), if_neg (by omega), if_neg (by omega), if_neg (by omega)]
    rw [if_neg d4]
    by_cases d5 : k = 14
    · rw [if_pos d5, if_pos d5, if_pos ⟨by omega, by omega⟩, if_pos ⟨by omega, by omega⟩]
    rw [if_neg d5, if_neg d5]
    by_cases d6 : k = 15
    · rw [if_pos d6, if_pos d6, if_pos ⟨by omega, by omega⟩, if_pos ⟨by omega, by omega⟩]
    rw [if_neg d6, if_neg d6]
    by_cases d7 : k = 16
    · rw [if_pos d7, if_pos d7, if_pos ⟨by omega, by omega⟩, if_pos ⟨by omega, by omega⟩]
    rw [if_neg d7, if_neg d7, if_pos (by omega : k = 17), if_pos ⟨by omega, by omega⟩, if_pos ⟨by omega, by omega⟩, if_pos ⟨by omega, by omega⟩, if_pos ⟨by omega, by omega⟩, if_pos ⟨by omega, by omega⟩, if_pos ⟨by omega, by omega⟩]
  have e7 : yE tG_For_addNode_p271 β σ [k, a, b, one, two, x.2.2.2.2.1, x.2.2.2.2.2, y.2.2.2.2.1, y.2.2.2.2.2, u.1, u.2] = yE tG_For_addNode_p293 β σ [k, a, b, one, two, x.2.2.2.2.1, x.2.2.2.2.2, y.2.2.2.2.1, y.2.2.2.2.2, u.1, u.2, x.2.2.2.1] := by
    rw [yq_For_addNode_p271, kY_For_addNode_p271]
    by_cases c : k < 11
    · rw [if_pos (one_n c), hx' c]; rfl
    · obtain ⟨q1, q2, q3, q4, q5, q6⟩ := one_c (by omega)
      rw [if_neg q1, if_pos ⟨by omega, by omega⟩, if_pos q6.2, q6.1]
  have e8 : yE tG_For_addNode_p293 β σ [k, a, b, one, two, x.2.2.2.2.1, x.2.2.2.2.2, y.2.2.2.2.1, y.2.2.2.2.2, u.1, u.2, x.2.2.2.1] = yE tG_For_addNode_p315 β σ [k, a, b, one, two, x.2.2.2.2.1, x.2.2.2.2.2, y.2.2.2.2.1, y.2.2.2.2.2, u.1, u.2, y.2.2.2.1, x.2.2.2.1] := by
    rw [yq_For_addNode_p293, kY_For_addNode_p293]
    by_cases c : k < 14
    · rw [if_pos (two_n c), hy' c]; rfl
    · obtain ⟨q1, q2, q3, q4, q5, q6⟩ := two_c (by omega)
      rw [if_neg q1, if_pos ⟨by omega, by omega⟩, if_pos q6.2, q6.1]
  obtain ⟨hX, hB, hN⟩ := h
  have lX := nfl_len NN
  have len1 : ∀ {L : List Int} {c : Int}, (L ++ [c]).length = L.length + 1 := fun {L c} => by rw [List.length_append]; rfl
  obtain ⟨hg, hhg⟩ : ∃ z : Int, z = (if x.2.2.2.1 < y.2.2.2.1 then y.2.2.2.1 else x.2.2.2.1) + 1 := ⟨_, rfl⟩
  have hgm : hg = max x.2.2.2.1 y.2.2.2.1 + 1 := by rw [hhg]; omega
  obtain ⟨a1, X1, f1, M1, R1, B1⟩ := radd (x := k) (B := 430000) hX hM hR (by omega) hB (by omega)
  obtain ⟨a2, X2, f2, M2, R2, B2⟩ := radd (x := a) (B := 430000) X1 M1 R1 (by rw [len1]; omega) B1 (by rw [len1]; omega)
  obtain ⟨a3, X3, f3, M3, R3, B3⟩ := radd (x := b) (B := 430000) X2 M2 R2 (by rw [len1, len1]; omega) B2 (by rw [len1, len1]; omega)
  obtain ⟨a4, X4, f4, M4, R4, B4⟩ := radd (x := hg) (B := 430000) X3 M3 R3 (by rw [len1, len1, len1]; omega) B3 (by rw [len1, len1, len1]; omega)
  obtain ⟨a5, X5, f5, M5, R5, B5⟩ := radd (x := (cp2 u).1) (B := 430000) X4 M4 R4 (by rw [len1, len1, len1, len1]; omega) B4 (by rw [len1, len1, len1, len1]; omega)
  obtain ⟨a6, X6, f6, M6, R6, B6⟩ := radd (x := (cp2 u).2) (B := 430000) X5 M5 R5 (by rw [len1, len1, len1, len1, len1]; omega) B5 (by rw [len1, len1, len1, len1, len1]; omega)
  obtain ⟨a7, X7, f7, M7, R7, B7⟩ := radd (x := 0) (B := 430000) X6 M6 R6 (by rw [len1, len1, len1, len1, len1, len1]; omega) B6 (by rw [len1, len1, len1, len1, len1, len1]; omega)
  refine ⟨_, ?_, ⟨?_, B7, ?_⟩, ((((((f1.trans f2).trans f3).trans f4).trans f5).trans f6).trans f7), M7, R7⟩
  · rw [e0, e1, e2, e3, e4, e5, e6, e7, e8, yq_For_addNode_p315, kY_For_addNode_p315, if_pos a1, lt_e, if_pos a2, lt_e, if_pos a3, lt_e, ← hhg, if_pos ⟨by omega, by omega⟩, if_pos a4, lt_e, show (if 201 < u.1 then 201 else u.1) = (cp2 u).1 from rfl, show (if 201 < u.2 then 201 else u.2) = (cp2 u).2 from rfl, if_pos a5, lt_e, if_pos a6, lt_e, if_pos a7, lt_e]
    have es := X7.1
    rw [len1, len1, len1, len1, len1, len1, len1, lX] at es
    have ed : Int.tdiv ((7 * NN.length + 1 + 1 + 1 + 1 + 1 + 1 + 1 : Nat) : Int) 7 = (NN.length : Int) + 1 := by
      rw [show ((7 * NN.length + 1 + 1 + 1 + 1 + 1 + 1 + 1 : Nat) : Int) = ((NN.length : Int) + 1) * 7 by omega]
      exact Int.mul_tdiv_cancel _ (by decide)
    rw [es, ed, if_pos ⟨by omega, by omega⟩, if_pos ⟨by omega, by omega⟩, show (NN.length : Int) + 1 - 1 = (NN.length : Int) by omega]
  · have : nfl (NN ++ [mkN k a b x y]) = nfl NN ++ [k] ++ [a] ++ [b] ++ [hg] ++ [(cp2 u).1] ++ [(cp2 u).2] ++ [0] := by
      rw [nfl_app, hgm, hu]
      simp [nfl, n6l, mkN]
    rw [this]
    exact X7
  · intro i z hz
    by_cases hi : i < NN.length
    · rw [List.getElem?_append_left hi] at hz
      exact hN i z hz
    · have hi2 : i = NN.length := by
        have := (List.getElem?_eq_some_iff.mp hz).1
        simp at this; omega
      subst hi2
      rw [List.getElem?_append_right (Nat.le_refl _), Nat.sub_self] at hz
      cases hz
      have := cp2_b ub
      rw [hu] at this
      exact ⟨⟨⟨by show 0 ≤ max _ _ + 1; omega, by show max _ _ + 1 ≤ 100000; omega⟩, this.1, this.2⟩, by show max _ _ + 1 ≤ _; omega⟩
/-- what a FORMULA's sign is in the class -/
def kk (l : Nat) : Int := if l ≤ 1 then 9 + (l : Int) else if l = 2 then 9 else if l = 3 then 11 else if l ≤ 7 then 10 + (l : Int) else if l % 2 = 0 then 12 else 13
/-- how many CLAUSES where it is false, where it is true -/
def cnn (l : Nat) (L : List (Int × Int)) : Int × Int := if l ≤ 2 then (1, 1) else cp2 (cmk (kk l) (L.getD 0 (1, 1)) (L.getD 1 (1, 1)))
def cns : T → List (Int × Int)
  | .leaf _ => []
  | .branch l k s => cnn l (cns k) :: cns s
/-- how many nodes -/
def szs : T → Nat
  | .leaf _ => 0
  | .branch l k s => (if l ≤ 2 then 1 else 1 + szs k) + szs s
def szn (l : Nat) (k : T) : Nat := if l ≤ 2 then 1 else 1 + szs k
theorem szs_nd {l : Nat} {k s : T} : szs (nd l k s) = szn l k + szs s := rfl
theorem szn_1 {l : Nat} {k : T} : 1 ≤ szn l k := by unfold szn; split <;> omega
/-- cells in the row of TERMS -/
def TTa (TT : List Int) (i : Int) (L : List Int) : Prop := 0 ≤ i ∧ ∃ B, TT.drop i.toNat = L ++ B
theorem TTa.app {TT : List Int} {i : Int} {L C : List Int} (h : TTa TT i L) : TTa (TT ++ C) i L := by
  obtain ⟨h0, B, h⟩ := h
  refine ⟨h0, B ++ C.drop (i.toNat - TT.length), ?_⟩
  rw [List.drop_append, h, List.append_assoc]
theorem TTa.last {TT L : List Int} : TTa (TT ++ L) (TT.length : Int) L := by
  refine ⟨by omega, [], ?_⟩
  rw [List.append_nil, Int.toNat_natCast, List.drop_left]
/-- FORMULAS one behind the other in the row of nodes -/
def CFs (σ : zS) (b : Nat) (NN : List N6) (TT : List Int) (sn : Int) : T → List Int → Nat → Prop
  | .leaf _, _, _ => True
  | .branch l k s, E, lo => (∃ i j : Int, NN[lo + szn l k - 1]? = some (kk l, i, j, hgt (l, k), (cnn l (cns k)).1, (cnn l (cns k)).2) ∧
      (if l ≤ 1 then ∃ l1 k1 l2 k2, k = nd l1 k1 (nd l2 k2 nl) ∧ TTa TT i (fl (nd l1 k1 nl)) ∧ TTa TT j (fl (nd l2 k2 nl))
       else if l = 2 then ∃ h g, k = nd h g nl ∧ j = -1 ∧ TTa TT i (cl h :: fl g)
       else if l = 3 then len k = 1 ∧ i = ((lo + szs k : Nat) : Int) - 1 ∧ CFs σ b NN TT sn k E lo
       else if l ≤ 7 then (∃ l1 k1 l2 k2, k = nd l1 k1 (nd l2 k2 nl) ∧ i = ((lo + szn l1 k1 : Nat) : Int) - 1 ∧ j = ((lo + szs k : Nat) : Int) - 1) ∧ CFs σ b NN TT sn k E lo
       else len k = 1 ∧ i = ((lo + szs k : Nat) : Int) - 1 ∧ j = (((l - 8) / 2 : Nat) : Int) ∧ j < (b : Int) ∧ chn σ (j :: E) j ∧ σ.2.1 25 j = sn ∧ CFs σ b NN TT sn k (j :: E) lo)) ∧ CFs σ b NN TT sn s E (lo + szn l k)
theorem CFs.m {σ τ : zS} {NN : List N6} {TT : List Int} {sn : Int} {b b2 : Nat} (hk : kV b σ τ) (hb : b ≤ b2) (N2 : List N6) (T2 : List Int) : ∀ {F : T} {E : List Int} {lo : Nat}, (∀ v ∈ E, v < (b : Int)) → CFs σ b NN TT sn F E lo → CFs τ b2 (NN ++ N2) (TT ++ T2) sn F E lo
  | .leaf _, _, _, _, _ => trivial
  | .branch l k s, E, lo, hE, h => by
    obtain ⟨⟨i, j, h1, h2⟩, h3⟩ := h
    refine ⟨⟨i, j, ?_, ?_⟩, CFs.m hk hb N2 T2 hE h3⟩
    · rw [List.getElem?_append_left (List.getElem?_eq_some_iff.mp h1).1]; exact h1
    · by_cases c1 : l ≤ 1
      · rw [if_pos c1] at h2 ⊢
        obtain ⟨l1, k1, l2, k2, g1, g2, g3⟩ := h2
        exact ⟨l1, k1, l2, k2, g1, g2.app, g3.app⟩
      rw [if_neg c1] at h2 ⊢
      by_cases c2 : l = 2
      · rw [if_pos c2] at h2 ⊢
        obtain ⟨h, g, g1, g2, g3⟩ := h2
        exact ⟨h, g, g1, g2, g3.app⟩
      rw [if_neg c2] at h2 ⊢
      by_cases c3 : l = 3
      · rw [if_pos c3] at h2 ⊢
        exact ⟨h2.1, h2.2.1, CFs.m hk hb N2 T2 hE h2.2.2⟩
      rw [if_neg c3] at h2 ⊢
      by_cases c4 : l ≤ 7
      · rw [if_pos c4] at h2 ⊢
        exact ⟨h2.1, CFs.m hk hb N2 T2 hE h2.2⟩
      rw [if_neg c4] at h2 ⊢
      obtain ⟨g1, g2, g3, g4, g5, g6, g7⟩ := h2
      have hE2 : ∀ v ∈ j :: E, v < (b : Int) := fun v hv => by
        rcases List.mem_cons.mp hv with h | h
        · omega
        · exact hE v h
      exact ⟨g1, g2, g3, by omega, g5.q (fun v hv => ⟨(hk v (hE2 v hv)).1, (hk v (hE2 v hv)).2.1⟩), by rw [(hk j g4).2.2]; exact g6, CFs.m hk hb N2 T2 hE2 g7⟩
/-- rows of open signs and parts -/
def capq (σ : zS) : Prop := (16 ≤ σ.2.2 19 ∧ σ.2.2 19 ≤ 430000) ∧ (16 ≤ σ.2.2 34 ∧ σ.2.2 34 ≤ 100000) ∧ (16 ≤ σ.2.2 36 ∧ σ.2.2 36 ≤ 100000) ∧ (16 ≤ σ.2.2 38 ∧ σ.2.2 38 ≤ 100000)
abbrev pIP : List Nat := [604, 605, 1001, 1402, 1403, 1414, 1501, 1801, 2001, 3100, 3101, 3108, 3202, 3203, 3204, 3205, 3206, 3207, 3301, 3501, 3701]
abbrev pAP : List Nat := [7, 8, 9, 11, 12, 16, 17, 19, 21, 22, 23, 24, 25, 28, 34, 36, 38]
def CFb (σ τ : zS) (k q : Int) : Prop := τ.1 3100 = k ∧ τ.1 3101 = q ∧ k ≠ 0 ∧ FrC pIP pAP σ τ ∧ (Mb τ ∧ RL τ) ∧ cap τ ∧ capq τ
theorem CFa.b {σ τ : zS} {k q : Int} (h : CFa σ τ k q) (hc : capq σ) : CFb σ τ k q := by
  obtain ⟨h1, h2, h3, h4, h5, h6⟩ := h
  refine ⟨h1, h2, h3, h4.w, h5, h6, ?_⟩
  unfold capq
  rw [h4.l 19, h4.l 34, h4.l 36, h4.l 38]
  exact hc
theorem CFb.pre {σ ρ τ : zS} {k q : Int} (f : FrC pIP pAP σ ρ) (h : CFb ρ τ k q) : CFb σ τ k q := ⟨h.1, h.2.1, h.2.2.1, f.trans h.2.2.2.1, h.2.2.2.2⟩
theorem capq.f {σ τ : zS} {I A : List Nat} (h : capq σ) (f : FrC I A σ τ) (hA : [19, 34, 36, 38].all (fun j => !(A.elem j)) = true := by decide) : capq τ := by
  simp only [List.all_cons, List.all_nil, Bool.and_true, Bool.and_eq_true, Bool.not_eq_true'] at hA
  unfold capq
  rw [f.2.2.1 19 hA.1 (by decide) (by decide), f.2.2.1 34 hA.2.1 (by decide) (by decide), f.2.2.1 36 hA.2.2.1 (by decide) (by decide), f.2.2.1 38 hA.2.2.2 (by decide) (by decide)]
  exact h
theorem cap.f {σ τ : zS} {I A : List Nat} (h : cap σ) (f : FrC I A σ τ) (hA : [11, 16, 21, 7, 12].all (fun j => !(A.elem j)) = true := by decide) : cap τ := by
  simp only [List.all_cons, List.all_nil, Bool.and_true, Bool.and_eq_true, Bool.not_eq_true'] at hA
  unfold cap
  rw [f.2.2.1 11 hA.1 (by decide) (by decide), f.2.2.1 16 hA.2.1 (by decide) (by decide), f.2.2.1 21 hA.2.2.1 (by decide) (by decide), f.2.1 7 _ hA.2.2.2.1, f.2.1 12 _ hA.2.2.2.2]
  exact h
theorem CPr.f {X Y : Int → Int} {n : Int} {SS : List Int} {pl pv : Int} {F0 : List Int} {σ τ : zS} {st : PS} {TT : List Int} {I A : List Nat} (h : CPr X Y n SS pl pv F0 σ st TT) (f : FrC I A σ τ) (hM : Mb τ ∧ RL τ) (hI : [604, 605, 1001, 1402, 1403, 1414, 1501, 2001, 3100].all (fun j => !(I.elem j)) = true := by decide) (hI2 : I.all (fun j => decide (¬ (3201 ≤ j ∧ j ≤ 3207))) = true := by decide) (hA : [2, 7, 8, 9, 11, 12, 16, 17, 21, 22, 23, 24, 28, 25].all (fun j => !(A.elem j)) = true := by decide) : CPr X Y n SS pl pv F0 τ st TT := by
  obtain ⟨h1, h2, ⟨h3, h4, h5⟩, h6, h7, h8, h9, h10, h11⟩ := h
  simp only [List.all_cons, List.all_nil, Bool.and_true, Bool.and_eq_true, Bool.not_eq_true'] at hI hA
  obtain ⟨i1, i2, i3, i4, i5, i6, i7, i8, i9⟩ := hI
  obtain ⟨a0, a1, a2, a3, a4, a5, a6, a7, a8, a9, a10, a11, a12, a13⟩ := hA
  refine ⟨h1.f f hI2 a0, h2.f f (by simp only [List.all_cons, List.all_nil, i1, i2, i3, Bool.not_false, Bool.and_true]) (by simp only [List.all_cons, List.all_nil, a1, a2, a3, a4, a5, Bool.not_false, Bool.and_true]), ⟨h3.f f i4 (by simp only [List.all_cons, List.all_nil, a9, a10, Bool.not_false, Bool.and_true]), by rw [f.1 1403 i5]; exact h4.f f (by simp only [List.all_cons, List.all_nil, a7, a11, Bool.not_false, Bool.and_true]), h5.f f (by simp only [List.all_cons, List.all_nil, i6, i8, Bool.not_false, Bool.and_true]) (by simp only [List.all_cons, List.all_nil, a7, a8, a11, a13, a12, Bool.not_false, Bool.and_true])⟩, h6, hM, by rw [f.1 3100 i9]; exact h8, h9.f f i7 a6, by rw [f.2.2.1 16 a6 (by decide) (by decide)]; exact h10, h11⟩
/-- a node that is a part -/
theorem nodeP {β : Nat} (hβ : 1 ≤ β) {σ : zS} {NN : List N6} {PP : List Int} {k a b : Int} {x y : N6} (hM : Mb σ ∧ RL σ) (h : NdR σ NN) (hl : NN.length ≤ 30500) (hP : RowC σ 3701 38 PP) (hc : σ.2.2 38 ≤ 100000) (hPl : PP.length ≤ 40000) (hk : 9 ≤ k ∧ k ≤ 17) (hx : 11 ≤ k → 0 ≤ a ∧ NN[a.toNat]? = some x) (hx' : k < 11 → x = dN) (hy : 14 ≤ k → 0 ≤ b ∧ NN[b.toNat]? = some y) (hy' : k < 14 → y = dN) {α : zS → Option zR} :
    ∃ τ, zbd (yE tG_For_addNode (β - 1) σ [k, a, b]) (fun σ2 r2 => if zrok σ2 3701 38 then lt_ (zAdd σ2 3701 38 r2) α else none) = α τ ∧ NdR τ (NN ++ [mkN k a b x y]) ∧ RowC τ 3701 38 (PP ++ [(NN.length : Int)]) ∧ FrC [1801, 3701] [19, 38] σ τ ∧ (Mb τ ∧ RL τ) ∧ 16 ≤ τ.2.2 19 ∧ τ.2.2 19 ≤ 430000 ∧ 16 ≤ τ.2.2 38 ∧ τ.2.2 38 ≤ 100000 := by
  obtain ⟨τ, t1, t2, t3, t4, t5⟩ := addNode_ok (β := β - 1) hM.1 hM.2 h hl hk hx hx' hy hy'
  have hP2 := hP.f t3
  obtain ⟨r1, r2, r3, r4, r5, r6⟩ := radd (x := (NN.length : Int)) (B := 100000) hP2 t4 t5 (by omega) (by rw [t3.l 38]; exact hc) (by omega)
  refine ⟨_, ?_, t2.f r3, r2, (FrC.w t3).trans (FrC.w r3), ⟨r4, r5⟩, ?_, ?_, r2.2.2.1, r6⟩
  · rw [zbd_of t1, if_pos r1, lt_e]
  · rw [r3.l 19]; exact t2.1.2.2.1
  · rw [r3.l 19]; exact t2.2.1
theorem cK_61 {k : Int} : cK k = 9 ↔ k = 61 := ⟨fun h => by unfold cK at h; omega, fun h => by rw [h]; rfl⟩
theorem cK_300 {k : Int} : cK k = 10 ↔ k = 300 := ⟨fun h => by unfold cK at h; omega, fun h => by rw [h]; rfl⟩
theorem mkN_0 {k a b : Int} (hk : k < 11) : mkN k a b dN dN = (k, a, b, 1, 1, 1) := by
  unfold mkN cmk
  rw [if_neg (by omega), if_neg (by omega), if_neg (by omega), if_neg (by omega), if_neg (by omega)]
  rfl
/-- rows at the beginning of an ATOM -/
def CRw (σ : zS) (NN : List N6) (PP : List Int) : Prop := NdR σ NN ∧ NN.length ≤ 30000 ∧ RowC σ 3701 38 PP ∧ PP.length ≤ 30000 ∧ capq σ
theorem CRw.f {σ τ : zS} {NN : List N6} {PP : List Int} {I A : List Nat} (h : CRw σ NN PP) (f : FrC I A σ τ) (hI : I.elem 1801 = false := by decide) (hI2 : I.elem 3701 = false := by decide) (hA : [19, 34, 36, 38].all (fun j => !(A.elem j)) = true := by decide) : CRw τ NN PP := by
  have h2 := h.2.2.2.2.f f hA
  simp only [List.all_cons, List.all_nil, Bool.and_true, Bool.and_eq_true, Bool.not_eq_true'] at hA
  exact ⟨h.1.f f hI hA.1, h.2.1, h.2.2.1.f f hI2 hA.2.2.2, h.2.2.2.1, h2⟩
/-- an ATOM's node -/
theorem nodeA {β : Nat} (hβ : 1 ≤ β) {σ : zS} {NN : List N6} {PP : List Int} {k a b : Int} (hM : Mb σ ∧ RL σ) (h : CRw σ NN PP) (hk : k = 9 ∨ k = 10) {α : zS → Option zR} :
    ∃ τ, zbd (yE tG_For_addNode (β - 1) σ [k, a, b]) (fun σ2 r2 => if zrok σ2 3701 38 then lt_ (zAdd σ2 3701 38 r2) α else none) = α τ ∧ NdR τ (NN ++ [(k, a, b, 1, 1, 1)]) ∧ RowC τ 3701 38 (PP ++ [(NN.length : Int)]) ∧ FrC [1801, 3701] [19, 38] σ τ ∧ (Mb τ ∧ RL τ) ∧ capq τ := by
  obtain ⟨h1, h2, h3, h4, h5⟩ := h
  obtain ⟨τ, t1, t2, t3, t4, t5, t6⟩ := nodeP hβ (x := dN) (y := dN) (a := a) (b := b) (α := α) hM h1 (by omega) h3 h5.2.2.2.2 (by omega) (k := k) (by omega) (fun h => by omega) (fun _ => rfl) (fun h => by omega) (fun _ => rfl)
  rw [mkN_0 (by omega)] at t2
  refine ⟨τ, t1, t2, t3, t4, t5, ⟨t6.1, t6.2.1⟩, ?_, ?_, ⟨t6.2.2.1, t6.2.2.2⟩⟩
  · rw [t4.l 34]; exact h5.2.1
  · rw [t4.l 36]; exact h5.2.2.1
theorem tree1 {F : T} (h : len F = 1) : ∃ l k, F = nd l k nl := by
  match F, h with
  | .branch l k (.leaf ()), _ => exact ⟨l, k, rfl⟩
  | .branch l k (.branch a b c), h =>
    have h : 1 + (1 + len c) = 1 := h
    omega
  | .leaf (), h => cases h
section ATM
variable (X Y : Int → Int) (n : Int) (SS : List Int) (pl pv : Int) (F0 : List Int)
/-- an ATOM was read -/
def AtO (σ τ : zS) (st : PS) (TT : List Int) (NN : List N6) (PP : List Int) (a : PS × Tm) : Prop := ∃ TX x, CPr X Y n SS pl pv F0 τ a.1 (TT ++ TX) ∧ NdR τ (NN ++ [x]) ∧ RowC τ 3701 38 (PP ++ [(NN.length : Int)]) ∧ capq τ ∧ (∀ E sn, CFs τ a.1.2.2.1.length (NN ++ [x]) (TT ++ TX) sn (nd a.2.1 a.2.2 nl) E NN.length) ∧ szn a.2.1 a.2.2 = 1 ∧ FrC pIP pAP σ τ ∧ FrC [604, 605, 1001, 1402, 1414, 1501, 1801, 3100, 3101, 3202, 3203, 3204, 3205, 3206, 3207, 3701] [7, 8, 9, 11, 12, 16, 17, 19, 21, 22, 23, 24, 25, 28, 38] σ τ ∧ kV st.2.2.1.length σ τ
end ATM
theorem ceq_ok {X Y : Int → Int} {n : Int} (hC : CTX X Y n) {SS : List Int} {pl pv : Int} {F0 : List Int} {m : Nat} {β : Nat} (hβ : 135 ≤ β) {σ : zS} {st : PS} {TT : List Int} {NN : List N6} {PP : List Int} {d : Int} (d0 : 0 ≤ d) (d6 : d ≤ 60) (h : CPr X Y n SS pl pv F0 σ st TT) (hd : σ.1 3108 = d) (hR : CRw σ NN PP) {i : Int} :
    (¬ (tk X n st.1 = 61 ∨ tk X n st.1 = 300) → ∃ τ, yE tG_Par_takeEquation β σ [i] = some (τ, 0) ∧ CFb σ τ 1 (tq X n st.1)) ∧
    (tk X n st.1 = 61 ∨ tk X n st.1 = 300 → ∀ l1 k1 r, TTa TT i (fl (nd l1 k1 nl)) → eqnS X n m (nd l1 k1 nl) d st = some r →
      (∀ e, r = .inl e → ∃ τ, yE tG_Par_takeEquation β σ [i] = some (τ, 0) ∧ CFb σ τ e.1 e.2) ∧
      (∀ a, r = .inr a → ∃ τ, yE tG_Par_takeEquation β σ [i] = some (τ, 0) ∧ AtO X Y n SS pl pv F0 σ τ st TT NN PP a)) := by
  have h8 := h.2.2.2.2.2.1
  have e0 : yE tG_Par_takeEquation β σ [i] = (if cK (tk X n st.1) = 9 ∨ cK (tk X n st.1) = 10 then yE tG_Par_takeEquation_p45 β σ [i, cK (tk X n st.1)] else zbd (yE tC_Par_refuse (β - 1) σ []) (fun σ3 _ => some (σ3, 0))) := by
    rw [yq_Par_takeEquation, kY_Par_takeEquation, h8, if_pos rfl, if_pos (by omega), zbd_of (isNow_ok h.1), h.1.2.1]
    by_cases c9 : cK (tk X n st.1) = 9
    · rw [b2_t c9, if_neg (by decide), if_pos (Or.inl c9)]
    · rw [b2_f c9, if_pos rfl, if_pos (by omega), zbd_of (isNow_ok h.1)]
      by_cases c10 : cK (tk X n st.1) = 10
      · rw [b2_t c10, if_neg (by decide), if_pos (Or.inr c10)]
      · rw [b2_f c10, if_pos rfl, if_pos (by omega), if_neg (by omega)]
  constructor
  · intro hk
    obtain ⟨τ, t1, t2⟩ := refuse_ok (β := β - 1) (by omega) h
    refine ⟨τ, ?_, t2.b hR.2.2.2.2⟩
    rw [e0, if_neg (fun hc => hk (by rcases hc with hc | hc; exact Or.inl (cK_61.mp hc); exact Or.inr (cK_300.mp hc))), zbd_of t1]
  · intro hk l1 k1 r hTA hr
    have hkk : cK (tk X n st.1) = 9 ∨ cK (tk X n st.1) = 10 := by
      rcases hk with hc | hc
      · exact Or.inl (cK_61.mpr hc)
      · exact Or.inr (cK_300.mpr hc)
    obtain ⟨σ1, a1, a2, a3⟩ := h.adv hC (β := β - 1) (by omega)
    have hd1 : σ1.1 3108 = d := by rw [a3.i 3108]; exact hd
    have ht1 : σ1.1 1501 = (TT.length : Int) := a2.2.2.2.2.2.2.1.1
    have hR1 := hR.f a3
    rw [e0, if_pos hkk, yq_Par_takeEquation_p45, kY_Par_takeEquation_p45, if_pos (by omega), zbd_of a1, hd1, ht1, if_pos (by omega)]
    unfold eqnS at hr
    rcases pb_r hr with ⟨k, q, o1, rfl⟩ | ⟨a, o1, o2⟩
    · obtain ⟨i1, _⟩ := (ctm_all hC m).1 d _ d0 d6 _ o1 (β - 1) σ1 TT (by omega) a2
      obtain ⟨σ2, t1, t2⟩ := i1 _ rfl
      have hR2 := hR1.f t2.2.2.2.1
      obtain ⟨τ, u1, u2, u3, u4, u5, u6⟩ := nodeA (β := β) (by omega) (k := cK (tk X n st.1)) (a := i) (b := (TT.length : Int)) (α := fun σ4 => some (σ4, 0)) t2.2.2.2.2.1 hR2 hkk
      refine ⟨fun e he => ?_, fun a ha => (by cases ha)⟩
      cases he
      refine ⟨τ, ?_, ?_⟩
      · rw [zbd_of t1, if_pos (by omega), u1]
      · refine ⟨by rw [u4.i 3100]; exact t2.1, by rw [u4.i 3101]; exact t2.2.1, t2.2.2.1, ((FrC.w a3).trans (FrC.w t2.2.2.2.1)).trans (FrC.w u4), u5, t2.2.2.2.2.2.f u4, u6⟩
    · obtain ⟨_, i2⟩ := (ctm_all hC m).1 d _ d0 d6 _ o1 (β - 1) σ1 TT (by omega) a2
      obtain ⟨σ2, t1, t2, t3, t4⟩ := i2 _ rfl
      have hR2 := hR1.f t3
      obtain ⟨τ, u1, u2, u3, u4, u5, u6⟩ := nodeA (β := β) (by omega) (k := cK (tk X n st.1)) (a := i) (b := (TT.length : Int)) (α := fun σ4 => some (σ4, 0)) t2.2.2.2.2.1 hR2 hkk
      obtain ⟨l2, k2, e2⟩ := tree1 (sdS_len o1)
      have o2 : pOk (a.1, ((if tk X n st.1 = 300 then 1 else 0 : Nat), cat (nd l1 k1 nl) a.2)) = some r := o2
      have hcat : cat (nd l1 k1 nl) a.2 = nd l1 k1 (nd l2 k2 nl) := by rw [e2]; rfl
      rw [hcat] at o2
      cases o2
      refine ⟨fun e he => (by cases he), fun b hb => ?_⟩
      cases hb
      refine ⟨τ, by rw [zbd_of t1, if_pos (by omega), u1], fl a.2, _, t2.f u4 u5, u2, u3, u6, fun E sn => ?_, ?_, ((FrC.w a3).trans (FrC.w t3)).trans (FrC.w u4), ((FrC.w a3).trans (FrC.w t3)).trans (FrC.w u4), ((kV.f a3).tr t4 (Nat.le_refl _)).tr (kV.f u4) (Nat.le_refl _)⟩
      · obtain ⟨l, hl⟩ : ∃ l : Nat, l = (if tk X n st.1 = 300 then 1 else 0 : Nat) := ⟨_, rfl⟩
        have hl1 : l ≤ 1 := by rw [hl]; split <;> omega
        have hlk : kk l = cK (tk X n st.1) := by
          unfold kk
          rw [if_pos hl1, hl]
          rcases hk with hc | hc <;> rw [hc] <;> rfl
        show CFs τ _ _ _ sn (nd (if tk X n st.1 = 300 then 1 else 0 : Nat) (nd l1 k1 (nd l2 k2 nl)) nl) E NN.length
        rw [← hl]
        have hs1 : szn l (nd l1 k1 (nd l2 k2 nl)) = 1 := if_pos (by omega)
        refine ⟨⟨i, (TT.length : Int), ?_, ?_⟩, trivial⟩
        · rw [hs1, Nat.add_sub_cancel, List.getElem?_append_right (Nat.le_refl _), Nat.sub_self, hlk]
          have h1 : hgt (l, nd l1 k1 (nd l2 k2 nl)) = 1 := if_pos (by show l ≤ 2; omega)
          have h2 : cnn l (cns (nd l1 k1 (nd l2 k2 nl))) = (1, 1) := if_pos (by omega)
          rw [h1, h2]
          rfl
        · rw [if_pos hl1]
          refine ⟨l1, k1, l2, k2, rfl, hTA.app, ?_⟩
          rw [e2]
          exact TTa.last
      · exact if_pos (by dsimp only; split <;> omega)
theorem AtO.pre {X Y : Int → Int} {n : Int} {SS : List Int} {pl pv : Int} {F0 : List Int} {σ ρ τ : zS} {st st2 : PS} {TT TX : List Int} {NN : List N6} {PP : List Int} {a : PS × Tm} (f : FrC pIT pAT σ ρ) (hk : kV st.2.2.1.length σ ρ) (hb : st.2.2.1.length ≤ st2.2.2.1.length) (h : AtO X Y n SS pl pv F0 ρ τ st2 (TT ++ TX) NN PP a) : AtO X Y n SS pl pv F0 σ τ st TT NN PP a := by
  obtain ⟨TZ, x, h1, h2, h3, h4, h5, h6, h7, h8, h9⟩ := h
  rw [List.append_assoc] at h1 h5
  exact ⟨TX ++ TZ, x, h1, h2, h3, h4, h5, h6, (FrC.w f).trans h7, (FrC.w f).trans h8, hk.tr h9 hb⟩
theorem catm_ok {X Y : Int → Int} {n : Int} (hC : CTX X Y n) {SS : List Int} {pl pv : Int} {F0 : List Int} {m : Nat} {β : Nat} (hβ : 140 ≤ β) {σ : zS} {st : PS} {TT : List Int} {NN : List N6} {PP : List Int} {d : Int} (d0 : 0 ≤ d) (d6 : d ≤ 60) (h : CPr X Y n SS pl pv F0 σ st TT) (hd : σ.1 3108 = d) (hR : CRw σ NN PP) :
    (¬ (tk X n st.1 = 1 ∨ tk X n st.1 = 2) → ∃ τ, yE tG_Par_takeAtom β σ [] = some (τ, 0) ∧ CFb σ τ 1 (tq X n st.1)) ∧
    (tk X n st.1 = 1 ∨ tk X n st.1 = 2 → ∀ r, atmS X n m d st = some r →
      (∀ e, r = .inl e → ∃ τ, yE tG_Par_takeAtom β σ [] = some (τ, 0) ∧ CFb σ τ e.1 e.2) ∧
      (∀ a, r = .inr a → ∃ τ, yE tG_Par_takeAtom β σ [] = some (τ, 0) ∧ AtO X Y n SS pl pv F0 σ τ st TT NN PP a)) := by
  have h8 := h.2.2.2.2.2.1
  have hq := hR.2.2.2.2
  have hT1 : σ.1 1501 = (TT.length : Int) := h.2.2.2.2.2.2.1.1
  obtain ⟨nm1, nm2⟩ := tname_ok hC (β := β - 1) (by omega) h
  have ev : tk X n st.1 = 1 → yE tG_Par_takeAtom β σ [] = zbd (yE tG_Par_takeVariable (β - 1) σ []) (fun σ4 _ => zbd (yE tG_Par_takeEquation (β - 1) σ4 [(TT.length : Int)]) (fun σ5 _ => some (σ5, 0))) := fun c1 => by
    rw [yq_Par_takeAtom, kY_Par_takeAtom, h8, if_pos rfl, if_pos (by omega), zbd_of (isNow_ok h.1), b2_t (cK_1.mpr c1), if_neg (by decide), if_pos (by omega), hT1]
    refine congrArg (zbd _) ?_
    funext σ4 r4
    rw [if_pos (by omega)]
  have en : tk X n st.1 ≠ 1 → yE tG_Par_takeAtom β σ [] = zbd (yE tG_Par_takeName (β - 1) σ []) (fun σ2 r2 => zbd (yE tG_Par_takeTerms (β - 1) σ2 [(σ2.1 3108)]) (fun σ3 r3 => if (σ3.1 3100) = 0 then (if (σ3.1 3202) = 9 ∨ (σ3.1 3202) = 10 then (yE tG_Par_takeAtom_p114 β σ3 [tq X n st.1, (TT.length : Int), r2, r3, 1, 2, r2]) else (yE tG_Par_takeAtom_p114 β σ3 [tq X n st.1, (TT.length : Int), r2, r3, 0, 1, r2])) else (some (σ3, 0)))) := fun c1 => by
    rw [yq_Par_takeAtom, kY_Par_takeAtom, h8, if_pos rfl, if_pos (by omega), zbd_of (isNow_ok h.1), b2_f (fun hc => c1 (cK_1.mp hc)), if_pos rfl, if_pos (by omega), hT1, h.1.2.2.1]
    refine congrArg (zbd _) ?_
    funext σ2 r2
    rw [if_pos (by omega)]
    refine congrArg (zbd _) ?_
    funext σ3 r3
    by_cases h3 : σ3.1 3100 = 0
    · rw [if_pos h3, if_pos h3]
      have e95 : yE tG_Par_takeAtom_p95 β σ3 [tq X n st.1, (TT.length : Int), r2, r3] = yE tG_Par_takeAtom_p114 β σ3 [tq X n st.1, (TT.length : Int), r2, r3, 1, 2, r2] := by
        rw [yq_Par_takeAtom_p95, kY_Par_takeAtom_p95, yq_Par_takeAtom_p100, kY_Par_takeAtom_p100, if_neg (by decide)]
      by_cases c9 : σ3.1 3202 = 9
      · rw [if_pos c9, if_pos (Or.inl c9), e95]
      · rw [if_neg c9]
        by_cases c10 : σ3.1 3202 = 10
        · rw [if_pos c10, if_pos (Or.inr c10), e95]
        · rw [if_neg c10, if_neg (by omega), yq_Par_takeAtom_p100, kY_Par_takeAtom_p100, if_pos rfl]
    · rw [if_neg h3, if_neg h3]
  have offn : ∀ {ρ : zS} {x : Int}, ρ.1 3100 ≠ 0 → zbd (yE tG_Par_takeTerms (β - 1) ρ [(ρ.1 3108)]) (fun σ3 r3 => if (σ3.1 3100) = 0 then (if (σ3.1 3202) = 9 ∨ (σ3.1 3202) = 10 then (yE tG_Par_takeAtom_p114 β σ3 [tq X n st.1, (TT.length : Int), x, r3, 1, 2, x]) else (yE tG_Par_takeAtom_p114 β σ3 [tq X n st.1, (TT.length : Int), x, r3, 0, 1, x])) else (some (σ3, 0))) = some (ρ, 0) := fun {ρ x} h3 => by
    have : yE tG_Par_takeTerms (β - 1) ρ [(ρ.1 3108)] = some (ρ, 0) := by rw [yq_Par_takeTerms, kY_Par_takeTerms, if_neg h3, yq_Par_takeTerms_p18, kY_Par_takeTerms_p18]
    rw [zbd_of this, if_neg h3]
  constructor
  · intro hk
    obtain ⟨τ, t1, t2⟩ := nm1 (fun hc => hk (Or.inr hc))
    refine ⟨τ, ?_, t2.b hq⟩
    rw [en (fun hc => hk (Or.inl hc)), zbd_of t1, offn (by rw [t2.1]; exact t2.2.2.1)]
  · intro hk r hr
    unfold atmS at hr
    by_cases c1 : tk X n st.1 = 1
    · rw [if_pos c1] at hr
      rw [ev c1]
      rcases pb_r hr with ⟨k, q, o1, rfl⟩ | ⟨a, o1, o2⟩
      · obtain ⟨i1, _⟩ := tvar_ok hC (β := β - 1) (by omega) h c1 o1
        obtain ⟨τ, t1, t2⟩ := i1 _ rfl
        refine ⟨fun e he => ?_, fun a ha => (by cases ha)⟩
        cases he
        have h3 : τ.1 3100 ≠ 0 := by rw [t2.1]; exact t2.2.2.1
        have eo : yE tG_Par_takeEquation (β - 1) τ [(TT.length : Int)] = some (τ, 0) := by rw [yq_Par_takeEquation, kY_Par_takeEquation, if_neg h3]
        exact ⟨τ, by rw [zbd_of t1, zbd_of eo], t2.b hq⟩
      · obtain ⟨_, i2⟩ := tvar_ok hC (β := β - 1) (by omega) h c1 o1
        obtain ⟨σ2, t1, t2, t3, t4⟩ := i2 _ rfl
        obtain ⟨s1, _⟩ := varS_i o1 h.1.1.2.2.2.2.2
        obtain ⟨q1, q2⟩ := ceq_ok hC (m := m) (β := β - 1) (by omega) d0 d6 t2 (by rw [t3.i 3108]; exact hd) (hR.f t3) (i := (TT.length : Int))
        rw [zbd_of t1]
        by_cases c2 : tk X n (adv X n a.1).1 = 61 ∨ tk X n (adv X n a.1).1 = 300
        · rw [if_pos c2] at o2
          have hTA : TTa (TT ++ [-1 - a.2]) (TT.length : Int) (fl (nd (cu (-1 - a.2)) nl nl)) := by
            have : fl (nd (cu (-1 - a.2)) nl nl) = [-1 - a.2] := by
              show cl (cu (-1 - a.2)) :: ([] ++ []) = _
              rw [cl_cu]; rfl
            rw [this]
            exact TTa.last
          obtain ⟨w1, w2⟩ := q2 c2 _ _ r hTA o2
          refine ⟨fun e he => ?_, fun b hb => ?_⟩
          · obtain ⟨τ, v1, v2⟩ := w1 e he
            exact ⟨τ, by rw [zbd_of v1], v2.pre t3.w⟩
          · obtain ⟨τ, v1, v2⟩ := w2 b hb
            exact ⟨τ, by rw [zbd_of v1], v2.pre t3 t4 s1.bd⟩
        · rw [if_neg c2] at o2
          cases o2
          obtain ⟨τ, v1, v2⟩ := q1 c2
          refine ⟨fun e he => ?_, fun a ha => (by cases ha)⟩
          cases he
          exact ⟨τ, by rw [zbd_of v1], v2.pre t3.w⟩
    · rw [if_neg c1] at hr
      rw [en c1]
      have c2 : tk X n st.1 = 2 := by omega
      rcases pb_r hr with ⟨k, q, o1, rfl⟩ | ⟨a, o1, o2⟩
      · obtain ⟨i1, _⟩ := nm2 c2 _ o1
        obtain ⟨τ, t1, t2⟩ := i1 _ rfl
        refine ⟨fun e he => ?_, fun a ha => (by cases ha)⟩
        cases he
        exact ⟨τ, by rw [zbd_of t1, offn (by rw [t2.1]; exact t2.2.2.1)], t2.b hq⟩
      · obtain ⟨_, i2⟩ := nm2 c2 _ o1
        obtain ⟨σ2, t1, t2, t3, t4, t5, t6⟩ := i2 _ rfl
        obtain ⟨s1, s2⟩ := symS_nm o1
        have hbd2 : (adv X n a.1).2.2.1.length = st.2.2.1.length := by show a.1.2.2.1.length = _; rw [s2]
        have hd2 : σ2.1 3108 = d := by rw [t3.i 3108]; exact hd
        rw [zbd_of t1, hd2]
        rcases pb_r o2 with ⟨k, q, u1, rfl⟩ | ⟨u, u1, u2⟩
        · obtain ⟨j1, _⟩ := cts_of hC (β := β - 1) d0 d6 (fun hd => (ctm_all hC m).2 (d + 1) _ (by omega) (by omega)) u1 (by omega) t2
          obtain ⟨τ, x, v1, v2⟩ := j1 _ rfl
          refine ⟨fun e he => ?_, fun a ha => (by cases ha)⟩
          cases he
          exact ⟨τ, by rw [zbd_of v1, if_neg (by rw [v2.1]; exact v2.2.2.1)], (v2.pre t3).b hq⟩
        · obtain ⟨_, j2⟩ := cts_of hC (β := β - 1) d0 d6 (fun hd => (ctm_all hC m).2 (d + 1) _ (by omega) (by omega)) u1 (by omega) t2
          obtain ⟨σ3, v1, v2, v3, v4⟩ := j2 _ rfl
          have hle : st.2.2.1.length ≤ u.1.2.2.1.length := by
            rw [← hbd2]
            by_cases c40 : tk X n (adv X n a.1).1 = 40
            · rw [if_pos c40] at u1
              obtain ⟨d1, w1, w2⟩ := pb_y u1
              exact sdS_bd (st := adv X n (adv X n a.1)) t2.1.1.2.2.2.2.2 (by exact t2.2.2.2.1.1) w2
            · rw [if_neg c40] at u1
              cases u1
              exact Nat.le_refl _
          rw [hbd2] at v4
          have h33 : σ3.1 3100 = 0 := v2.2.2.2.2.2.1
          have h32 : σ3.1 3202 = cK (tk X n u.1.1) := v2.1.2.1
          have f13 : FrC pIT pAT σ σ3 := t3.trans v3
          have k13 : kV st.2.2.1.length σ σ3 := t4.tr v4 (Nat.le_refl _)
          rw [zbd_of v1, if_pos h33, h32]
          have hq9 : (cK (tk X n u.1.1) = 9 ∨ cK (tk X n u.1.1) = 10) ↔ (tk X n u.1.1 = 61 ∨ tk X n u.1.1 = 300) := by rw [cK_61, cK_300]
          by_cases ceq : tk X n u.1.1 = 61 ∨ tk X n u.1.1 = 300
          · rw [if_pos (hq9.mpr ceq), yq_Par_takeAtom_p114, kY_Par_takeAtom_p114, if_pos (by omega)]
            rw [if_pos ceq] at u2
            rcases pb_r u2 with ⟨k, q, w1, rfl⟩ | ⟨s4, w1, w2⟩
            · obtain ⟨l1, _⟩ := settle_ok (β := β - 1) (by omega) v2 t5 t6 (by decide) w1
              obtain ⟨τ, m1, m2⟩ := l1 _ rfl
              refine ⟨fun e he => ?_, fun a ha => (by cases ha)⟩
              cases he
              have h3 : τ.1 3100 ≠ 0 := by rw [m2.1]; exact m2.2.2.1
              have eo : yE tG_Par_takeEquation (β - 1) τ [(TT.length : Int)] = some (τ, 0) := by rw [yq_Par_takeEquation, kY_Par_takeEquation, if_neg h3]
              refine ⟨τ, ?_, (m2.pre f13).b hq⟩
              rw [zbd_of m1, if_neg (by decide), if_pos (by omega), zbd_of eo, yq_Par_takeAtom_p151, kY_Par_takeAtom_p151]
            · rw [if_pos ceq] at w2
              obtain ⟨_, l2⟩ := settle_ok (β := β - 1) (by omega) v2 t5 t6 (by decide) w1
              obtain ⟨σ4, m1, m2, m3, m4⟩ := l2 _ rfl
              obtain ⟨c1', c2', c3'⟩ := chkS_i (by decide) w1
              have f14 : FrC pIT pAT σ σ4 := f13.trans m3
              have k14 : kV st.2.2.1.length σ σ4 := k13.tr m4 hle
              have hpos : s4.1 = u.1.1 := c2'
              rw [zbd_of m1, if_neg (by decide), if_pos (by omega)]
              obtain ⟨q1, q2⟩ := ceq_ok hC (m := m) (β := β - 1) (by omega) d0 d6 m2 (by rw [f14.i 3108]; exact hd) (hR.f f14) (i := (TT.length : Int))
              have hTA : TTa (TT ++ [a.2] ++ fl u.2) (TT.length : Int) (fl (nd (cu a.2) u.2 nl)) := by
                have : fl (nd (cu a.2) u.2 nl) = [a.2] ++ fl u.2 := by
                  show cl (cu a.2) :: (fl u.2 ++ []) = _
                  rw [cl_cu]; simp
                rw [this, List.append_assoc]
                exact TTa.last
              obtain ⟨x1, x2⟩ := q2 (by rw [hpos]; exact ceq) _ _ r hTA w2
              refine ⟨fun e he => ?_, fun b hb => ?_⟩
              · obtain ⟨τ, y1, y2⟩ := x1 e he
                exact ⟨τ, by rw [zbd_of y1, yq_Par_takeAtom_p151, kY_Par_takeAtom_p151], y2.pre f14.w⟩
              · obtain ⟨τ, y1, y2⟩ := x2 b hb
                rw [List.append_assoc] at y2
                exact ⟨τ, by rw [zbd_of y1, yq_Par_takeAtom_p151, kY_Par_takeAtom_p151], y2.pre f14 k14 (Nat.le_trans hle c1'.bd)⟩
          · rw [if_neg (fun hc => ceq (hq9.mp hc)), yq_Par_takeAtom_p114, kY_Par_takeAtom_p114, if_pos (by omega)]
            rw [if_neg ceq] at u2
            rcases pb_r u2 with ⟨k, q, w1, rfl⟩ | ⟨s4, w1, w2⟩
            · obtain ⟨l1, _⟩ := settle_ok (β := β - 1) (by omega) v2 t5 t6 (by decide) w1
              obtain ⟨σ4, m1, m2⟩ := l1 _ rfl
              refine ⟨fun e he => ?_, fun a ha => (by cases ha)⟩
              cases he
              have hR4 := hR.f (f13.trans m2.2.2.2.1)
              obtain ⟨τ, y1, y2, y3, y4, y5, y6⟩ := nodeA (β := β) (by omega) (k := 9) (a := (TT.length : Int)) (b := -1) (α := fun σ3 => yE tG_Par_takeAtom_p151 β σ3 [tq X n st.1, (TT.length : Int), a.2, (len u.2 : Int), 0]) m2.2.2.2.2.1 hR4 (Or.inl rfl)
              refine ⟨τ, ?_, ?_⟩
              · rw [zbd_of m1, if_pos rfl, if_pos (by omega), y1, yq_Par_takeAtom_p151, kY_Par_takeAtom_p151]
              · exact ⟨by rw [y4.i 3100]; exact m2.1, by rw [y4.i 3101]; exact m2.2.1, m2.2.2.1, (FrC.w (f13.trans m2.2.2.2.1)).trans (FrC.w y4), y5, m2.2.2.2.2.2.f y4, y6⟩
            · rw [if_neg ceq] at w2
              cases w2
              obtain ⟨_, l2⟩ := settle_ok (β := β - 1) (by omega) v2 t5 t6 (by decide) w1
              obtain ⟨σ4, m1, m2, m3, m4⟩ := l2 _ rfl
              have f14 : FrC pIT pAT σ σ4 := f13.trans m3
              have k14 : kV st.2.2.1.length σ σ4 := k13.tr m4 hle
              obtain ⟨τ, y1, y2, y3, y4, y5, y6⟩ := nodeA (β := β) (by omega) (k := 9) (a := (TT.length : Int)) (b := -1) (α := fun σ3 => yE tG_Par_takeAtom_p151 β σ3 [tq X n st.1, (TT.length : Int), a.2, (len u.2 : Int), 0]) m2.2.2.2.2.1 (hR.f f14) (Or.inl rfl)
              refine ⟨fun e he => (by cases he), fun b hb => ?_⟩
              cases hb
              refine ⟨τ, ?_, [a.2] ++ fl u.2, _, ?_, y2, y3, y6, fun E sn => ?_, rfl, (FrC.w f14).trans (FrC.w y4), (FrC.w f14).trans (FrC.w y4), k14.tr (kV.f y4) (Nat.le_refl _)⟩
              · rw [zbd_of m1, if_pos rfl, if_pos (by omega), y1, yq_Par_takeAtom_p151, kY_Par_takeAtom_p151]
              · rw [← List.append_assoc]; exact m2.f y4 y5
              · refine ⟨⟨(TT.length : Int), -1, ?_, ?_⟩, trivial⟩
                · show (NN ++ [_])[NN.length + 1 - 1]? = _
                  rw [Nat.add_sub_cancel, List.getElem?_append_right (Nat.le_refl _), Nat.sub_self]
                  rfl
                · show ∃ h g, nd (cu a.2) u.2 nl = nd h g nl ∧ (-1 : Int) = -1 ∧ TTa _ _ (cl h :: fl g)
                  refine ⟨_, _, rfl, rfl, ?_⟩
                  rw [cl_cu]
                  exact TTa.last
