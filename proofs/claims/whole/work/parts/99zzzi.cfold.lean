/-! signs and FORMULAS of a SENTENCE in the class -/
theorem RowC.top {σ : zS} {r a : Nat} {L : List Int} {x : Int} (h : RowC σ r a (L ++ [x])) : σ.1 r = (L.length : Int) + 1 ∧ σ.2.1 a (σ.1 r - 1) = x ∧ zb (σ.1 r - 1) (σ.2.2 a) := by
  obtain ⟨h1, h2, h3, h4⟩ := h
  rw [List.length_append] at h1 h2
  simp only [List.length_cons, List.length_nil] at h1 h2
  have := Fl_get h4 (i := L.length) (c := x) (by rw [List.getElem?_append_right (Nat.le_refl _), Nat.sub_self]; rfl)
  have e : σ.1 r - 1 = (0 : Int) + (L.length : Int) := by omega
  rw [e]
  exact ⟨by omega, this, by omega, by omega⟩
theorem RowC.pop {σ τ : zS} {r a : Nat} {L : List Int} {x : Int} (h : RowC σ r a (L ++ [x])) (h1 : τ.1 r = (L.length : Int)) (h2 : τ.2.1 a = σ.2.1 a) (h3 : τ.2.2 a = σ.2.2 a) : RowC τ r a L := by
  obtain ⟨g1, g2, g3, g4⟩ := h
  rw [List.length_append] at g2
  refine ⟨h1, by rw [h3]; omega, by rw [h3]; exact g3, ?_⟩
  rw [h2]
  exact Fl_of (fun i c hc => Fl_get g4 (by rw [List.getElem?_append_left (List.getElem?_eq_some_iff.mp hc).1]; exact hc))
theorem RowC.last {σ : zS} {r a : Nat} {L : List Int} {x y : Int} (h : RowC σ r a (L ++ [x])) : RowC (zA σ a (σ.1 r - 1) y) r a (L ++ [y]) := by
  have e := h.top.1
  have := h.set (i := L.length) (x := y) (by rw [List.length_append]; simp)
  rw [List.set_append_right _ _ (Nat.le_refl _), Nat.sub_self] at this
  rw [show σ.1 r - 1 = ((L.length : Nat) : Int) by omega]
  exact this
def sgk (k : Int) : Prop := k = 126 ∨ k = 40 ∨ k = 33 ∨ k = 63 ∨ k = 38 ∨ k = 124 ∨ k = 301 ∨ k = 302
def sgR (S : List (Int × Int)) : List Int := (S.map (fun x => cK x.1)).reverse
def bdR (S : List (Int × Int)) : List Int := (S.map (fun x => x.2)).reverse
theorem sgR_c {x : Int × Int} {S : List (Int × Int)} : sgR (x :: S) = sgR S ++ [cK x.1] := by simp [sgR]
theorem bdR_c {x : Int × Int} {S : List (Int × Int)} : bdR (x :: S) = bdR S ++ [x.2] := by simp [bdR]
theorem sgR_len {S : List (Int × Int)} : (sgR S).length = S.length := by simp [sgR]
theorem bdR_len {S : List (Int × Int)} : (bdR S).length = S.length := by simp [bdR]
/-- where the parts' FORMULAS end -/
def pix : List Tm → Nat → List Int
  | [], _ => []
  | w :: P, hi => ((hi : Int) - 1) :: pix P (hi - szn w.1 w.2)
theorem pix_len : ∀ {P : List Tm} {hi : Nat}, (pix P hi).length = P.length
  | [], _ => rfl
  | w :: P, hi => by show (pix P _).length + 1 = P.length + 1; rw [pix_len]
theorem pix_c {w : Tm} {P : List Tm} {lo hi : Nat} (h : lo + szn w.1 w.2 = hi) : (pix (w :: P) hi).reverse = (pix P lo).reverse ++ [(hi : Int) - 1] := by
  show (((hi : Int) - 1) :: pix P (hi - szn w.1 w.2)).reverse = _
  rw [List.reverse_cons, show hi - szn w.1 w.2 = lo by omega]
/-- how many nodes the FORMULAS of SENTENCES have -/
def szl : List SE → Nat
  | [] => 0
  | e :: L => szn e.2.2.1.1 e.2.2.1.2 + szl L
section MCH
variable (σ : zS) (b : Nat) (NN : List N6) (TT : List Int) (sn : Int) (B0 : Nat)
/-- open signs, with the parts in front of them -/
def CSt : List (Int × Int) → List Tm → List Int → Nat → Prop
  | [], P, sc, hi => P = [] ∧ sc = [] ∧ hi = B0
  | (k, bd) :: S, P, sc, hi =>
    if k = 126 ∨ k = 40 then CSt S P sc hi
    else if k = 33 ∨ k = 63 then 0 ≤ bd ∧ ∃ A B, sc = A ++ B ∧ (∀ v ∈ A, bd ≤ v) ∧ (∀ v ∈ B, v < bd) ∧ CSt S P B hi
    else (k = 38 ∨ k = 124 ∨ k = 301 ∨ k = 302) ∧ ∃ w P2 lo, P = w :: P2 ∧ lo + szn w.1 w.2 = hi ∧ CFs σ b NN TT sn (nd w.1 w.2 nl) sc lo ∧ CSt S P2 sc lo
/-- FORMULAS and free VARIABLES of the SENTENCES before -/
def GO (L : List SE) : Prop := ∀ (i : Nat) e, L[i]? = some e → CFs σ b NN TT (5 * (i : Int)) (nd e.2.2.1.1 e.2.2.1.2 nl) [] (szl (L.take i)) ∧ ∀ (j : Nat) v, e.2.2.2[j]? = some v → 0 ≤ v ∧ v < (b : Int) ∧ σ.2.1 17 v = -2 ∧ σ.2.1 24 v = (j : Int) ∧ σ.2.1 25 v = 5 * (i : Int)
end MCH
theorem CSt.m {σ τ : zS} {NN : List N6} {TT : List Int} {sn : Int} {B0 b b2 : Nat} (hk : kV b σ τ) (hb : b ≤ b2) (N2 : List N6) (T2 : List Int) : ∀ {S : List (Int × Int)} {P : List Tm} {sc : List Int} {hi : Nat}, (∀ v ∈ sc, v < (b : Int)) → CSt σ b NN TT sn B0 S P sc hi → CSt τ b2 (NN ++ N2) (TT ++ T2) sn B0 S P sc hi
  | [], P, sc, hi, _, h => h
  | (k, bd) :: S, P, sc, hi, hs, h => by
    unfold CSt at h ⊢
    by_cases c1 : k = 126 ∨ k = 40
    · rw [if_pos c1] at h ⊢
      exact CSt.m hk hb N2 T2 hs h
    rw [if_neg c1] at h ⊢
    by_cases c2 : k = 33 ∨ k = 63
    · rw [if_pos c2] at h ⊢
      obtain ⟨h0, A, B, h1, h2, h3, h4⟩ := h
      exact ⟨h0, A, B, h1, h2, h3, CSt.m hk hb N2 T2 (fun v hv => hs v (by rw [h1]; exact List.mem_append_right _ hv)) h4⟩
    · rw [if_neg c2] at h ⊢
      obtain ⟨h0, w, P2, lo, h1, h2, h3, h4⟩ := h
      exact ⟨h0, w, P2, lo, h1, h2, CFs.m hk hb N2 T2 hs h3, CSt.m hk hb N2 T2 hs h4⟩
theorem CSt.len {σ : zS} {NN : List N6} {TT : List Int} {sn : Int} {B0 b : Nat} : ∀ {S : List (Int × Int)} {P : List Tm} {sc : List Int} {hi : Nat}, CSt σ b NN TT sn B0 S P sc hi → P.length ≤ hi ∧ ∀ x ∈ S, sgk x.1
  | [], P, sc, hi, h => by
    obtain ⟨h1, h2, h3⟩ := h
    rw [h1]
    exact ⟨Nat.zero_le _, fun x hx => (by cases hx)⟩
  | (k, bd) :: S, P, sc, hi, h => by
    unfold CSt at h
    have key : P.length ≤ hi ∧ sgk k ∧ ∀ x ∈ S, sgk x.1 := by
      by_cases c1 : k = 126 ∨ k = 40
      · rw [if_pos c1] at h
        have := CSt.len h
        exact ⟨this.1, by unfold sgk; omega, this.2⟩
      rw [if_neg c1] at h
      by_cases c2 : k = 33 ∨ k = 63
      · rw [if_pos c2] at h
        obtain ⟨h0, A, B, h1, h2, h3, h4⟩ := h
        have := CSt.len h4
        exact ⟨this.1, by unfold sgk; omega, this.2⟩
      · rw [if_neg c2] at h
        obtain ⟨h0, w, P2, lo, h1, h2, h3, h4⟩ := h
        have := CSt.len h4
        have h1' := szn_1 (l := w.1) (k := w.2)
        rw [h1]
        exact ⟨by simp; omega, by unfold sgk; omega, this.2⟩
    refine ⟨key.1, fun x hx => ?_⟩
    rcases List.mem_cons.mp hx with h | h
    · rw [h]; exact key.2.1
    · exact key.2.2 x h
theorem GO.m {σ τ : zS} {NN : List N6} {TT : List Int} {b b2 : Nat} (hk : kV b σ τ) (hb : b ≤ b2) (N2 : List N6) (T2 : List Int) {L : List SE} (h : GO σ b NN TT L) : GO τ b2 (NN ++ N2) (TT ++ T2) L := fun i e he => by
  obtain ⟨h1, h2⟩ := h i e he
  refine ⟨CFs.m hk hb N2 T2 (fun v hv => (by cases hv)) h1, fun j v hv => ?_⟩
  obtain ⟨g0, g1, g2, g3, g4⟩ := h2 j v hv
  obtain ⟨k1, k2, k3⟩ := hk v g1
  exact ⟨g0, by omega, by rw [k1]; exact g2, by rw [k2]; exact g3, by rw [k3]; exact g4⟩
section MCH2
variable (X Y : Int → Int) (n : Int) (SS : List Int) (pl pv : Int) (F0 : List Int) (L : List SE) (B0 : Nat)
def CMf (σ : zS) (c : AC) (TT : List Int) (NN : List N6) : Prop := CPr X Y n SS pl pv F0 σ c.2.2 TT ∧ NdR σ NN ∧ (RowC σ 3301 34 (sgR c.1) ∧ RowC σ 3501 36 (bdR c.1) ∧ RowC σ 3701 38 (pix c.2.1 NN.length).reverse ∧ capq σ) ∧ (σ.1 3108 = dpS c.1 ∧ dpS c.1 ≤ 61) ∧ ((NN.length : Int) + (c.1.length : Int) + (c.2.2.2.2.2.1.length : Int) ≤ c.2.2.1) ∧ (∀ v ∈ c.2.2.2.2.2.1, σ.2.1 25 v = (SS.length : Int)) ∧ GO σ c.2.2.2.2.1.length NN TT L
/-- a FORMULA may begin -/
def CMt (σ : zS) (c : AC) (TT : List Int) (NN : List N6) : Prop := CMf X Y n SS pl pv F0 L σ c TT NN ∧ CSt σ c.2.2.2.2.1.length NN TT (SS.length : Int) B0 c.1 c.2.1 c.2.2.2.2.2.1 NN.length
/-- a sign is due -/
def CMn (σ : zS) (c : AC) (TT : List Int) (NN : List N6) : Prop := CMf X Y n SS pl pv F0 L σ c TT NN ∧ ∃ w P lo, c.2.1 = w :: P ∧ lo + szn w.1 w.2 = NN.length ∧ CFs σ c.2.2.2.2.1.length NN TT (SS.length : Int) (nd w.1 w.2 nl) c.2.2.2.2.2.1 lo ∧ CSt σ c.2.2.2.2.1.length NN TT (SS.length : Int) B0 c.1 P c.2.2.2.2.2.1 lo
end MCH2
theorem nsS_01 {k : Int} : 0 ≤ nsS k ∧ nsS k ≤ 1 := by unfold nsS; split <;> omega
theorem dpS_0 : ∀ {S : List (Int × Int)}, 0 ≤ dpS S
  | [] => Int.le_refl _
  | x :: S => by have := dpS_0 (S := S); have := nsS_01 (k := x.1); show 0 ≤ nsS x.1 + dpS S; omega
def tpC : List (Int × Int) → Int
  | [] => 0
  | x :: _ => cK x.1
theorem top_ok {β : Nat} {σ : zS} {S : List (Int × Int)} (h : RowC σ 3301 34 (sgR S)) (hl : S.length ≤ 30000) : yE tC_Par_top β σ [] = some (σ, tpC S) := by
  rw [yq_Par_top, kY_Par_top]
  cases S with
  | nil =>
    have h1 := h.1
    rw [sgR_len] at h1
    rw [if_pos (by rw [h1]; rfl), yq_Par_top_p31, kY_Par_top_p31]; rfl
  | cons x S =>
    rw [sgR_c] at h
    obtain ⟨t1, t2, t3⟩ := h.top
    rw [sgR_len] at t1
    simp only [List.length_cons] at hl
    rw [if_neg (by omega), if_pos ⟨by omega, by omega⟩, if_pos t3, t2, yq_Par_top_p31, kY_Par_top_p31]; rfl
theorem str_k {β : Nat} {σ : zS} {k : Int} (h : sgk k) : yE tC_Par_strength β σ [cK k] = some (σ, sgS k) := by
  rw [yq_Par_strength, kY_Par_strength]
  rcases h with h | h | h | h | h | h | h | h <;> subst h <;> rfl
theorem str_ok {β : Nat} {σ : zS} {S : List (Int × Int)} (h : ∀ x ∈ S, sgk x.1) : yE tC_Par_strength β σ [tpC S] = some (σ, tpS S) := by
  cases S with
  | nil =>
    rw [yq_Par_strength, kY_Par_strength]
    rfl
  | cons x S => exact str_k (h x List.mem_cons_self)
theorem nest_c {β : Nat} {σ : zS} {k : Int} (h : sgk k) : yE tC_Par_isNest β σ [cK k] = some (σ, nsS k) := by
  have e29 : ∀ x, yE tC_Par_isNest_p29 β σ [x] = some (σ, 1) := fun x => by
    rw [yq_Par_isNest_p29, kY_Par_isNest_p29, yq_Par_isNest_p34, kY_Par_isNest_p34, if_pos (Or.inr rfl)]
  have e34 : ∀ x, yE tC_Par_isNest_p34 β σ [x, 0] = some (σ, 0) := fun x => by
    rw [yq_Par_isNest_p34, kY_Par_isNest_p34, if_pos (Or.inl rfl)]
  rw [yq_Par_isNest, kY_Par_isNest]
  rcases h with h | h | h | h | h | h | h | h <;> subst h
  · exact e29 _
  · exact e29 _
  · exact e29 _
  · exact e29 _
  · exact e34 _
  · exact e34 _
  · exact e29 _
  · exact e34 _
theorem pop_ok {β : Nat} (hβ : 1 ≤ β) {σ : zS} {x : Int × Int} {S : List (Int × Int)} (h1 : RowC σ 3301 34 (sgR (x :: S))) (h2 : RowC σ 3501 36 (bdR (x :: S))) (hk : sgk x.1) (hd : σ.1 3108 = dpS (x :: S)) (hd6 : dpS (x :: S) ≤ 61) (hl : S.length < 30000) : ∃ τ, yE tC_Par_pop β σ [] = some (τ, 0) ∧ RowC τ 3301 34 (sgR S) ∧ RowC τ 3501 36 (bdR S) ∧ τ.1 3108 = dpS S ∧ FrC [3108, 3301, 3501] [] σ τ ∧ τ.2 = σ.2 := by
  have hn := nsS_01 (k := x.1)
  have hds := dpS_0 (S := S)
  have hdc : dpS (x :: S) = nsS x.1 + dpS S := rfl
  have s1 : σ.1 3301 = (S.length : Int) + 1 := by have := h1.1; rw [sgR_len] at this; rw [this]; rfl
  have s2 : σ.1 3501 = (S.length : Int) + 1 := by have := h2.1; rw [bdR_len] at this; rw [this]; rfl
  refine ⟨zI (zI (zI σ 3108 (dpS S)) 3301 (S.length : Int)) 3501 (S.length : Int), ?_, ?_, ?_, ?_, ?_, rfl⟩
  · have e20 : ∀ y, y = nsS x.1 → yE tC_Par_pop_p20 β σ [y, σ.1 3108] = some (zI (zI (zI σ 3108 (dpS S)) 3301 (S.length : Int)) 3501 (S.length : Int), 0) := fun y hy => by
      rw [yq_Par_pop_p20, kY_Par_pop_p20, hd, hdc, hy, show nsS x.1 + dpS S - nsS x.1 = dpS S by omega, if_pos ⟨by omega, by omega⟩, lt_e]
      have q1 : (zI σ 3108 (dpS S)).1 3301 = (S.length : Int) + 1 := by rw [zI_o (by decide)]; exact s1
      rw [q1, show (S.length : Int) + 1 - 1 = (S.length : Int) by omega, if_pos ⟨by omega, by omega⟩, lt_e]
      have q2 : (zI (zI σ 3108 (dpS S)) 3301 (S.length : Int)).1 3501 = (S.length : Int) + 1 := by rw [zI_o (by decide), zI_o (by decide)]; exact s2
      rw [q2, show (S.length : Int) + 1 - 1 = (S.length : Int) by omega, if_pos ⟨by omega, by omega⟩, lt_e]
    have ht : tpC (x :: S) = cK x.1 := rfl
    rw [yq_Par_pop, kY_Par_pop, if_pos hβ, zbd_of (top_ok h1 (by simp; omega)), if_pos hβ, ht, zbd_of (nest_c hk)]
    by_cases c : nsS x.1 = 0
    · rw [if_pos c, e20 0 c.symm]
    · rw [if_neg c, e20 1 (by omega)]
  · rw [sgR_c] at h1
    refine h1.pop ?_ rfl rfl
    rw [sgR_len, zI_o (by decide), zI_1]
  · rw [bdR_c] at h2
    refine h2.pop ?_ rfl rfl
    rw [bdR_len, zI_1]
  · rw [zI_o (by decide), zI_o (by decide), zI_1]
  · exact FrC.trans (FrC.trans FrC_I FrC_I) FrC_I
theorem CFs.r {σ : zS} {b : Nat} {NN : List N6} {TT : List Int} {sn : Int} {w : Tm} {E : List Int} {lo : Nat} (h : CFs σ b NN TT sn (nd w.1 w.2 nl) E lo) : ∃ x : N6, NN[lo + szn w.1 w.2 - 1]? = some x ∧ x.2.2.2 = (hgt w, cnn w.1 (cns w.2)) := by
  obtain ⟨⟨i, j, h1, _⟩, _⟩ := h
  exact ⟨_, h1, rfl⟩
theorem szs_1 {w : Tm} : szs (nd w.1 w.2 nl) = szn w.1 w.2 := by rw [szs_nd]; rfl
/-- ~ -/
theorem CFs.not {σ : zS} {b : Nat} {NN : List N6} {TT : List Int} {sn : Int} {w : Tm} {E : List Int} {lo : Nat} {x : N6} (h : CFs σ b (NN ++ [mkN 11 ((NN.length : Int) - 1) (-1) x dN]) TT sn (nd w.1 w.2 nl) E lo) (hl : lo + szn w.1 w.2 = NN.length) (hx : x.2.2.2 = (hgt w, cnn w.1 (cns w.2))) : CFs σ b (NN ++ [mkN 11 ((NN.length : Int) - 1) (-1) x dN]) TT sn (nd (mk1 3 w).1 (mk1 3 w).2 nl) E lo := by
  have h1 := szn_1 (l := w.1) (k := w.2)
  refine ⟨⟨(NN.length : Int) - 1, -1, ?_, ?_⟩, trivial⟩
  · have e : lo + szn 3 (nd w.1 w.2 nl) - 1 = NN.length := by
      show lo + (1 + szs (nd w.1 w.2 nl)) - 1 = _
      rw [szs_1]; omega
    show (NN ++ [_])[lo + szn 3 (nd w.1 w.2 nl) - 1]? = _
    rw [e, List.getElem?_append_right (Nat.le_refl _), Nat.sub_self]
    show some (mkN 11 ((NN.length : Int) - 1) (-1) x dN) = _
    unfold mkN
    have e1 : x.2.2.2.1 = hgt w := by rw [hx]
    have e2 : x.2.2.2.2 = cnn w.1 (cns w.2) := by rw [hx]
    rw [e1, e2]
    have e3 : max (hgt w) dN.2.2.2.1 + 1 = hgt (3, nd w.1 w.2 nl) := by
      show max (hgt w) 0 + 1 = 1 + max (hgt w) 0
      omega
    rw [e3]
    rfl
  · show len (nd w.1 w.2 nl) = 1 ∧ _ ∧ _
    refine ⟨rfl, ?_, h⟩
    show _ = ((lo + szs (nd w.1 w.2 nl) : Nat) : Int) - 1
    rw [szs_1, hl]
theorem opc_k {k : Int} (h : k = 38 ∨ k = 124 ∨ k = 301 ∨ k = 302) : kk (opc k) = cK k ∧ 4 ≤ opc k ∧ opc k ≤ 7 ∧ 14 ≤ cK k ∧ cK k ≤ 17 := by
  rcases h with h | h | h | h <;> subst h <;> exact ⟨rfl, by decide, by decide, by decide, by decide⟩
theorem CFs.bin {σ : zS} {b : Nat} {NN : List N6} {TT : List Int} {sn : Int} {a w : Tm} {E : List Int} {lo l2 : Nat} {x y : N6} {k : Int} (hk : k = 38 ∨ k = 124 ∨ k = 301 ∨ k = 302) (h : CFs σ b (NN ++ [mkN (cK k) ((l2 : Int) - 1) ((NN.length : Int) - 1) x y]) TT sn (nd a.1 a.2 nl) E lo) (h2 : CFs σ b (NN ++ [mkN (cK k) ((l2 : Int) - 1) ((NN.length : Int) - 1) x y]) TT sn (nd w.1 w.2 nl) E l2) (hl : lo + szn a.1 a.2 = l2) (hl2 : l2 + szn w.1 w.2 = NN.length) (hx : x.2.2.2 = (hgt a, cnn a.1 (cns a.2))) (hy : y.2.2.2 = (hgt w, cnn w.1 (cns w.2))) : CFs σ b (NN ++ [mkN (cK k) ((l2 : Int) - 1) ((NN.length : Int) - 1) x y]) TT sn (nd (mk2 (opc k) a w).1 (mk2 (opc k) a w).2 nl) E lo := by
  have h1 := szn_1 (l := a.1) (k := a.2)
  have h1' := szn_1 (l := w.1) (k := w.2)
  obtain ⟨k1, k2, k3, k4, k5⟩ := opc_k hk
  have es : szs (nd a.1 a.2 (nd w.1 w.2 nl)) = szn a.1 a.2 + szn w.1 w.2 := by rw [szs_nd, szs_1]
  refine ⟨⟨(l2 : Int) - 1, (NN.length : Int) - 1, ?_, ?_⟩, trivial⟩
  · have e0 : szn (opc k) (nd a.1 a.2 (nd w.1 w.2 nl)) = 1 + (szn a.1 a.2 + szn w.1 w.2) := by rw [← es]; exact if_neg (by omega)
    have e : lo + szn (opc k) (nd a.1 a.2 (nd w.1 w.2 nl)) - 1 = NN.length := by rw [e0]; omega
    show (NN ++ [_])[lo + szn (opc k) (nd a.1 a.2 (nd w.1 w.2 nl)) - 1]? = some (kk (opc k), _, _, hgt (opc k, nd a.1 a.2 (nd w.1 w.2 nl)), (cnn (opc k) (cns (nd a.1 a.2 (nd w.1 w.2 nl)))).1, (cnn (opc k) (cns (nd a.1 a.2 (nd w.1 w.2 nl)))).2)
    rw [e, List.getElem?_append_right (Nat.le_refl _), Nat.sub_self]
    show some (mkN (cK k) ((l2 : Int) - 1) ((NN.length : Int) - 1) x y) = _
    unfold mkN
    have e1 : x.2.2.2.1 = hgt a := by rw [hx]
    have e2 : x.2.2.2.2 = cnn a.1 (cns a.2) := by rw [hx]
    have e3 : y.2.2.2.1 = hgt w := by rw [hy]
    have e4 : y.2.2.2.2 = cnn w.1 (cns w.2) := by rw [hy]
    rw [e1, e2, e3, e4, k1]
    have e5 : hgt (opc k, nd a.1 a.2 (nd w.1 w.2 nl)) = max (hgt a) (hgt w) + 1 := by
      have h0 := hgt_1 w
      have : hgt (opc k, nd a.1 a.2 (nd w.1 w.2 nl)) = 1 + max (hgt a) (max (hgt w) 0) := if_neg (by show ¬ opc k ≤ 2; omega)
      rw [this]; omega
    have e6 : cnn (opc k) (cns (nd a.1 a.2 (nd w.1 w.2 nl))) = cp2 (cmk (cK k) (cnn a.1 (cns a.2)) (cnn w.1 (cns w.2))) := by
      rw [← k1]
      exact if_neg (by omega)
    rw [e5, e6]
  · show (if opc k ≤ 1 then _ else if opc k = 2 then _ else if opc k = 3 then _ else if opc k ≤ 7 then _ else _)
    rw [if_neg (by omega), if_neg (by omega), if_neg (by omega), if_pos k3]
    refine ⟨⟨a.1, a.2, w.1, w.2, rfl, ?_, ?_⟩, ?_⟩
    · rw [hl]
    · rw [show szs (mk2 (opc k) a w).2 = szn a.1 a.2 + szn w.1 w.2 from es]; omega
    · show CFs σ b _ TT sn (nd a.1 a.2 (nd w.1 w.2 nl)) E lo
      refine ⟨h.1, ?_⟩
      rw [hl]
      exact h2
theorem CFs.qn {σ : zS} {b : Nat} {NN : List N6} {TT : List Int} {sn : Int} {w : Tm} {E : List Int} {lo kd : Nat} {v : Int} {x : N6} (hkd : kd ≤ 1) (v0 : 0 ≤ v) (hv : v < (b : Int)) (hc : chn σ (v :: E) v) (h25 : σ.2.1 25 v = sn) (h : CFs σ b (NN ++ [mkN (12 + (kd : Int)) ((NN.length : Int) - 1) v x dN]) TT sn (nd w.1 w.2 nl) (v :: E) lo) (hl : lo + szn w.1 w.2 = NN.length) (hx : x.2.2.2 = (hgt w, cnn w.1 (cns w.2))) : CFs σ b (NN ++ [mkN (12 + (kd : Int)) ((NN.length : Int) - 1) v x dN]) TT sn (nd (mk1 (8 + kd + 2 * v.toNat) w).1 (mk1 (8 + kd + 2 * v.toNat) w).2 nl) E lo := by
  have h1 := szn_1 (l := w.1) (k := w.2)
  obtain ⟨l, hle⟩ : ∃ l, l = 8 + kd + 2 * v.toNat := ⟨_, rfl⟩
  have hkk : kk l = 12 + (kd : Int) := by
    unfold kk
    rw [if_neg (by omega), if_neg (by omega), if_neg (by omega), if_neg (by omega)]
    split <;> omega
  have hlv : (((l - 8) / 2 : Nat) : Int) = v := by omega
  show CFs σ b _ TT sn (nd (8 + kd + 2 * v.toNat) (nd w.1 w.2 nl) nl) E lo
  rw [← hle]
  refine ⟨⟨(NN.length : Int) - 1, v, ?_, ?_⟩, trivial⟩
  · have e0 : szn l (nd w.1 w.2 nl) = 1 + szn w.1 w.2 := by
      rw [← szs_1 (w := w)]
      exact if_neg (by omega)
    have e : lo + szn l (nd w.1 w.2 nl) - 1 = NN.length := by rw [e0]; omega
    rw [e, List.getElem?_append_right (Nat.le_refl _), Nat.sub_self]
    show some (mkN (12 + (kd : Int)) ((NN.length : Int) - 1) v x dN) = _
    unfold mkN
    have e1 : x.2.2.2.1 = hgt w := by rw [hx]
    have e2 : x.2.2.2.2 = cnn w.1 (cns w.2) := by rw [hx]
    rw [e1, e2, hkk]
    have e3 : hgt (l, nd w.1 w.2 nl) = max (hgt w) dN.2.2.2.1 + 1 := by
      have : hgt (l, nd w.1 w.2 nl) = 1 + max (hgt w) 0 := if_neg (by show ¬ l ≤ 2; omega)
      rw [this]
      show 1 + max (hgt w) 0 = max (hgt w) 0 + 1
      omega
    have e4 : cnn l (cns (nd w.1 w.2 nl)) = cp2 (cmk (12 + (kd : Int)) (cnn w.1 (cns w.2)) dN.2.2.2.2) := by
      rw [← hkk]
      exact if_neg (by omega)
    rw [e3, e4]
  · rw [if_neg (by omega), if_neg (by omega), if_neg (by omega), if_neg (by omega)]
    refine ⟨rfl, ?_, hlv.symm, hv, hc, h25, h⟩
    rw [szs_1, hl]
theorem CFs.m0 {σ τ : zS} {NN : List N6} {TT : List Int} {sn : Int} {b : Nat} (hk : kV b σ τ) (N2 : List N6) {F : T} {E : List Int} {lo : Nat} (hE : ∀ v ∈ E, v < (b : Int)) (h : CFs σ b NN TT sn F E lo) : CFs τ b (NN ++ N2) TT sn F E lo := by
  have := CFs.m hk (Nat.le_refl b) N2 [] hE h
  rw [List.append_nil] at this
  exact this
theorem CSt.m0 {σ τ : zS} {NN : List N6} {TT : List Int} {sn : Int} {B0 b : Nat} (hk : kV b σ τ) (N2 : List N6) {S : List (Int × Int)} {P : List Tm} {sc : List Int} {hi : Nat} (hE : ∀ v ∈ sc, v < (b : Int)) (h : CSt σ b NN TT sn B0 S P sc hi) : CSt τ b (NN ++ N2) TT sn B0 S P sc hi := by
  have := CSt.m hk (Nat.le_refl b) N2 [] hE h
  rw [List.append_nil] at this
  exact this
theorem GO.m0 {σ τ : zS} {NN : List N6} {TT : List Int} {b : Nat} (hk : kV b σ τ) (N2 : List N6) {L : List SE} (h : GO σ b NN TT L) : GO τ b (NN ++ N2) TT L := by
  have := GO.m hk (Nat.le_refl b) N2 [] h
  rw [List.append_nil] at this
  exact this
theorem wrp_c {kd : Nat} {v : Int} {A : List Int} {w : Tm} : wrp kd (v :: A) w = wrp kd A (mk1 (8 + kd + 2 * v.toNat) w) := rfl
theorem fq_67 {β : Nat} (hβ : 1 ≤ β) {kd : Nat} (hkd : kd ≤ 1) {b : Nat} (hb : b ≤ 300) {TT : List Int} {sn first : Int} (f0 : 0 ≤ first) {B : List Int} (hB : ∀ v ∈ B, v < first) : ∀ (A : List Int) (j : Nat) (σ : zS) (w : Tm) (NN : List N6) (lo : Nat) (x2 : Int), NdR σ NN → Mb σ → RL σ → NN.length + A.length ≤ 30000 → lo + szn w.1 w.2 = NN.length → CFs σ b NN TT sn (nd w.1 w.2 nl) (A ++ B) lo → chn σ (A ++ B) x2 → (∀ v ∈ A, first ≤ v) → (∀ v ∈ A ++ B, v < (b : Int)) → (∀ v ∈ A, σ.2.1 25 v = sn) → (zr (σ.1 3501 - 1) ∧ zb (σ.1 3501 - 1) (σ.2.2 36) ∧ σ.2.1 36 (σ.1 3501 - 1) = first) → j + A.length ≤ 300 →
    ∃ τ N2 x3 j2, yE tG_Par_foldTop_p67 β σ [12 + (kd : Int), (NN.length : Int) - 1, x2, (j : Int)] = yE tG_Par_foldTop_p123 β τ [12 + (kd : Int), ((NN ++ N2).length : Int) - 1, x3, j2] ∧ N2.length = A.length ∧ NdR τ (NN ++ N2) ∧ CFs τ b (NN ++ N2) TT sn (nd (wrp kd A w).1 (wrp kd A w).2 nl) B lo ∧ lo + szn (wrp kd A w).1 (wrp kd A w).2 = (NN ++ N2).length ∧ chn τ B x3 ∧ FrC [1801] [19] σ τ ∧ Mb τ ∧ RL τ
  | [], j, σ, w, NN, lo, x2, hN, hM, hR, hl, hlo, hF, hc, hA, hv, h25, h36, hj => by
    have hx2 : x2 < first := by
      cases B with
      | nil => have : x2 = -1 := hc; omega
      | cons u B => have := hc.1; have := hB u List.mem_cons_self; omega
    refine ⟨σ, [], x2, (j : Int), ?_, rfl, by rw [List.append_nil]; exact hN, by rw [List.append_nil]; exact hF, by rw [List.append_nil]; exact hlo, hc, FrC.refl, hM, hR⟩
    rw [yq_Par_foldTop_p67, kY_Par_foldTop_p67, List.append_nil]
    by_cases c : (300 : Int) ≤ (j : Int)
    · rw [if_pos c]
    · rw [if_neg c, if_pos h36.1, if_pos h36.2.1, h36.2.2, if_pos hx2]
  | v :: A, j, σ, w, NN, lo, x2, hN, hM, hR, hl, hlo, hF, hc, hA, hv, h25, h36, hj => by
    simp only [List.length_cons] at hl hj
    obtain ⟨x, hx, hx2⟩ := hF.r
    rw [hlo] at hx
    obtain ⟨c1, c2, c3, c4, c5⟩ := id hc
    subst c1
    have hx1 : 1 ≤ NN.length := by have := szn_1 (l := w.1) (k := w.2); omega
    obtain ⟨σ1, t1, t2, t3, t4, t5⟩ := addNode_ok (β := β - 1) (k := 12 + (kd : Int)) (a := (NN.length : Int) - 1) (b := x2) (x := x) (y := dN) hM hR hN (by omega) (by omega) (fun _ => ⟨by omega, by rw [show ((NN.length : Int) - 1).toNat = NN.length - 1 by omega]; exact hx⟩) (fun h => by omega) (fun h => by omega) (fun _ => rfl)
    have hkv : kV b σ σ1 := kV.f t3
    have hF1 := hF.m0 hkv [mkN (12 + (kd : Int)) ((NN.length : Int) - 1) x2 x dN] hv
    have hc1 : chn σ1 (x2 :: (A ++ B)) x2 := hc.f t3
    have hvb : x2 < (b : Int) := hv x2 List.mem_cons_self
    have hQ := CFs.qn (E := A ++ B) hkd c2 hvb hc1 (by rw [t3.a 25]; exact h25 x2 List.mem_cons_self) hF1 hlo hx2
    have hlen : (NN ++ [mkN (12 + (kd : Int)) ((NN.length : Int) - 1) x2 x dN]).length = NN.length + 1 := by rw [List.length_append]; rfl
    have hs1 : szn (mk1 (8 + kd + 2 * x2.toNat) w).1 (mk1 (8 + kd + 2 * x2.toNat) w).2 = 1 + szn w.1 w.2 := by
      rw [← szs_1 (w := w)]
      exact if_neg (by show ¬ 8 + kd + 2 * x2.toNat ≤ 2; omega)
    obtain ⟨τ, N2, x3, j2, r1, r2, r3, r4, r5, r6, r7, r8, r9⟩ := fq_67 hβ hkd hb f0 hB A (j + 1) σ1 (mk1 (8 + kd + 2 * x2.toNat) w) _ lo (σ1.2.1 17 x2) t2 t4 t5 (by rw [hlen]; omega) (by rw [hs1, hlen]; omega) hQ (hc1.2.2.2.2) (fun v hv => hA v (List.mem_cons_of_mem _ hv)) (fun u hu => hv u (List.mem_cons_of_mem _ hu)) (fun u hu => by rw [t3.a 25]; exact h25 u (List.mem_cons_of_mem _ hu)) (by rw [t3.i 3501, t3.l 36, t3.a 36]; exact h36) (by omega)
    refine ⟨τ, _ :: N2, x3, j2, ?_, by simp [r2], by rw [List.append_cons]; exact r3, by rw [wrp_c, List.append_cons]; exact r4, by rw [wrp_c, List.append_cons]; exact r5, r6, t3.trans r7, r8, r9⟩
    rw [yq_Par_foldTop_p67, kY_Par_foldTop_p67, if_neg (by omega), if_pos h36.1, if_pos h36.2.1, h36.2.2, if_neg (by have := hA x2 List.mem_cons_self; omega), if_pos hβ, zbd_of t1, if_pos ⟨c2, by show x2 < ((300 : Nat) : Int); omega⟩, if_pos ⟨by omega, by omega⟩, List.append_cons]
    rw [hlen, show ((NN.length + 1 : Nat) : Int) - 1 = (NN.length : Int) by omega, show ((j + 1 : Nat) : Int) = (j : Int) + 1 by omega] at r1
    exact r1
theorem f174_ok {β : Nat} (hβ : 2 ≤ β) {σ : zS} {x : Int × Int} {S : List (Int × Int)} {PL : List Int} {o q s : Int} (h1 : RowC σ 3301 34 (sgR (x :: S))) (h2 : RowC σ 3501 36 (bdR (x :: S))) (h3 : RowC σ 3701 38 (PL ++ [o])) (hk : sgk x.1) (hd : σ.1 3108 = dpS (x :: S)) (hd6 : dpS (x :: S) ≤ 61) (hl : S.length < 30000) (hP : PL.length ≤ 30000) : ∃ τ, yE tG_Par_foldTop_p174 β σ [s, q] = some (τ, 0) ∧ RowC τ 3301 34 (sgR S) ∧ RowC τ 3501 36 (bdR S) ∧ RowC τ 3701 38 (PL ++ [q]) ∧ τ.1 3108 = dpS S ∧ FrC [3108, 3301, 3501] [38] σ τ ∧ τ.2.2 = σ.2.2 := by
  obtain ⟨t1, t2, t3⟩ := h3.top
  have fA : FrC [3108, 3301, 3501] [38] σ (zA σ 38 (σ.1 3701 - 1) q) := FrC_A
  obtain ⟨τ, p1, p2, p3, p4, p5, p6⟩ := pop_ok (β := β - 1) (σ := zA σ 38 (σ.1 3701 - 1) q) (by omega) (h1.q rfl (fun i => by rw [zA_j]) rfl) (h2.q rfl (fun i => by rw [zA_j]) rfl) hk hd hd6 hl
  refine ⟨τ, ?_, p2, p3, ?_, p4, fA.trans (FrC.w p5), by rw [p6]; rfl⟩
  · rw [yq_Par_foldTop_p174, kY_Par_foldTop_p174, if_pos ⟨by omega, by omega⟩, if_pos t3, lt_e, if_pos (by omega), zbd_of p1]
  · exact (h3.last (y := q)).f p5
theorem asm {X Y : Int → Int} {n : Int} {SS : List Int} {pl pv : Int} {F0 : List Int} {L : List SE} {σ τ : zS} {x : Int × Int} {S : List (Int × Int)} {P P2 : List Tm} {st : PS} {TT : List Int} {NN N2 : List N6} {sc : List Int} (h : CMf X Y n SS pl pv F0 L σ (x :: S, P, st) TT NN) (f : FrC [1403, 1801, 3108, 3301, 3501, 3701] [19, 38] σ τ) (hN : NdR τ (NN ++ N2)) (h1 : RowC τ 3301 34 (sgR S)) (h2 : RowC τ 3501 36 (bdR S)) (h3 : RowC τ 3701 38 (pix P2 (NN ++ N2).length).reverse) (hd : τ.1 3108 = dpS S) (hM : Mb τ ∧ RL τ) (h38 : τ.2.2 38 ≤ 100000) (hc : chn τ sc (τ.1 1403)) (hs : ∀ v ∈ sc, v ∈ st.2.2.2.1) (hl : N2.length + sc.length ≤ 1 + st.2.2.2.1.length) (hl2 : sc.length ≤ st.2.2.2.1.length) : CMf X Y n SS pl pv F0 L τ (S, P2, (st.1, st.2.1, st.2.2.1, sc, st.2.2.2.2)) TT (NN ++ N2) := by
  obtain ⟨⟨a1, a2, ⟨a3, a4, a5⟩, a6, a7, a8, a9, a10, a11⟩, b1, ⟨c1, c2, c3, c4⟩, ⟨d1, d2⟩, e1, e2, e3⟩ := h
  have hn := nsS_01 (k := x.1)
  have d2 : nsS x.1 + dpS S ≤ 61 := d2
  have e1 : (NN.length : Int) + ((S.length + 1 : Nat) : Int) + (st.2.2.2.1.length : Int) ≤ st.1 := e1
  refine ⟨⟨a1.f f, a2.f f, ⟨a3.f f, hc, a5.f f⟩, ⟨fun v hv => ?_, ?_⟩, hM, by rw [f.i 3100]; exact a8, a9.f f, by rw [f.l 16]; exact a10, a11⟩, hN, ⟨h1, h2, h3, ?_⟩, ⟨hd, by show dpS S ≤ 61; omega⟩, ?_, fun v hv => ?_, e3.m0 (kV.f f) N2⟩
  · rcases hv with hv | hv
    · exact a6.1 v (Or.inl (hs v hv))
    · exact a6.1 v (Or.inr hv)
  · have : st.2.2.2.1.length ≤ st.2.2.1.length := a6.2
    show sc.length ≤ st.2.2.1.length
    omega
  · exact ⟨⟨hN.1.2.2.1, hN.2.1⟩, by rw [f.l 34]; exact c4.2.1, by rw [f.l 36]; exact c4.2.2.1, ⟨h3.2.2.1, h38⟩⟩
  · show ((NN ++ N2).length : Int) + (S.length : Int) + (sc.length : Int) ≤ st.1
    rw [List.length_append]
    omega
  · rw [f.a 25]; exact e2 v (hs v hv)
theorem foldTop_ok {X Y : Int → Int} {n : Int} {SS : List Int} {pl pv : Int} {F0 : List Int} {L : List SE} {B0 : Nat} {β : Nat} (hβ : 3 ≤ β) {σ : zS} {x : Int × Int} {S : List (Int × Int)} {P0 : List Tm} {st : PS} {TT : List Int} {NN : List N6} (h : CMn X Y n SS pl pv F0 L B0 σ (x :: S, P0, st) TT NN) (hs : 1 ≤ sgS x.1) : ∃ τ N2, yE tG_Par_foldTop β σ [] = some (τ, 0) ∧ CMn X Y n SS pl pv F0 L B0 τ (fT (x :: S, P0, st)) TT (NN ++ N2) ∧ (fT (x :: S, P0, st)).1 = S ∧ FrC [1403, 1801, 3108, 3301, 3501, 3701] [19, 38] σ τ := by
  obtain ⟨k, bd⟩ := x
  obtain ⟨hf, w, P, lo, hP, hlo, hF, hSt⟩ := h
  have hP : P0 = w :: P := hP
  subst hP
  obtain ⟨⟨a1, a2, ⟨a3, a4, a5⟩, a6, a7, a8, a9, a10, a11⟩, b1, ⟨c1, c2, c3, c4⟩, ⟨d1, d2⟩, e1, e2, e3⟩ := id hf
  have hn1 : st.1 ≤ n := a1.1.2.2.2.2.1
  have hn2 := a1.1.2.2.2.2.2
  have a6' : st.2.2.2.1.length ≤ st.2.2.1.length := a6.2
  have hsk := hSt.len.2
  have hk : sgk k := hsk _ List.mem_cons_self
  have e1' : (NN.length : Int) + ((S.length + 1 : Nat) : Int) + (st.2.2.2.1.length : Int) ≤ st.1 := e1
  have hPl := hSt.len.1
  have hw1 := szn_1 (l := w.1) (k := w.2)
  obtain ⟨xw, hxw, hxw2⟩ := hF.r
  rw [hlo] at hxw
  have hpx := pix_c (P := P) hlo
  have c3' : RowC σ 3701 38 ((pix P lo).reverse ++ [(NN.length : Int) - 1]) := by rw [← hpx]; exact c3
  obtain ⟨t1, t2, t3⟩ := c3'.top
  rw [List.length_reverse, pix_len] at t1
  have hscb : ∀ v ∈ st.2.2.2.1, v < (st.2.2.1.length : Int) := fun v hv => (a6.1 v (Or.inl hv)).2
  have eT : yE tC_Par_top (β - 1) σ [] = some (σ, cK k) := top_ok c1 (by simp; omega)
  have hzr : zr (σ.1 3701 - 1) := ⟨by omega, by omega⟩
  have pre : yE tG_Par_foldTop β σ [] = (if cK k = 11 then (zbd (yE tG_For_addNode (β - 1) σ [11, (NN.length : Int) - 1, (-1)]) (fun σ4 r4 => yE tG_Par_foldTop_p174 β σ4 [cK k, r4])) else (if cK k = 12 then (yE tG_Par_foldTop_p56 β σ [cK k, (NN.length : Int) - 1]) else (if cK k = 13 then (yE tG_Par_foldTop_p56 β σ [cK k, (NN.length : Int) - 1]) else (if zr (σ.1 3701 - 1 - 1) then (if zb (σ.1 3701 - 1 - 1) (σ.2.2 38) then (zbd (yE tG_For_addNode (β - 1) (zI σ 3701 (σ.1 3701 - 1)) [cK k, σ.2.1 38 (σ.1 3701 - 1 - 1), (NN.length : Int) - 1]) (fun σ3 r3 => yE tG_Par_foldTop_p174 β σ3 [cK k, r3])) else none) else none)))) := by
    have hβ1 : 1 ≤ β := by omega
    rw [yq_Par_foldTop, kY_Par_foldTop, if_pos hβ1, zbd_of eT, if_pos hzr, if_pos t3, t2, if_pos hβ1, lt_e, zI_1, if_pos hβ1]
    rfl
  rw [pre]
  unfold CSt at hSt
  by_cases k1 : k = 126 ∨ k = 40
  · have k126 : k = 126 := by
      rcases k1 with h | h
      · exact h
      · exfalso
        have hs : 1 ≤ sgS k := hs
        rw [h] at hs
        exact absurd hs (by decide)
    rw [if_pos k1] at hSt
    subst k126
    obtain ⟨σ1, n1, n2, n3, n4, n5⟩ := addNode_ok (β := β - 1) (k := 11) (a := (NN.length : Int) - 1) (b := -1) (x := xw) (y := dN) a7.1 a7.2 b1 (by omega) (by omega) (fun _ => ⟨by omega, by rw [show ((NN.length : Int) - 1).toNat = NN.length - 1 by omega]; exact hxw⟩) (fun h => by omega) (fun h => by omega) (fun _ => rfl)
    obtain ⟨τ, q1, q2, q3, q4, q5, q6, q7⟩ := f174_ok (β := β) (q := (NN.length : Int)) (s := cK 126) (by omega) (c1.f n3) (c2.f n3) (c3'.f n3) hk (by rw [n3.i 3108]; exact d1) d2 (by omega) (by rw [List.length_reverse, pix_len]; omega)
    have ff : FrC [1403, 1801, 3108, 3301, 3501, 3701] [19, 38] σ τ := (FrC.w n3).trans (FrC.w q6)
    have hlen : (NN ++ [mkN 11 ((NN.length : Int) - 1) (-1) xw dN]).length = NN.length + 1 := by rw [List.length_append]; rfl
    have hsz : szn (mk1 3 w).1 (mk1 3 w).2 = 1 + szn w.1 w.2 := by
      show 1 + szs (nd w.1 w.2 nl) = _
      rw [szs_1]
    have hlo2 : lo + szn (mk1 3 w).1 (mk1 3 w).2 = (NN ++ [mkN 11 ((NN.length : Int) - 1) (-1) xw dN]).length := by rw [hlen, hsz]; omega
    refine ⟨τ, _, ?_, ⟨asm hf ff (n2.f q6) q2 q3 ?_ q5 ?_ ?_ ?_ (fun v hv => hv) ?_ (Nat.le_refl _), mk1 3 w, P, lo, rfl, hlo2, ?_, ?_⟩, rfl, ff⟩
    · rw [if_pos (show cK 126 = 11 from rfl), zbd_of n1]; exact q1
    · rw [pix_c hlo2, hlen, show ((NN.length + 1 : Nat) : Int) - 1 = (NN.length : Int) by omega]; exact q4
    · exact ⟨n4.m q6.2.2.2, fun j hj => by rw [q7]; exact n5 j hj⟩
    · rw [q7, n3.l 38]; exact c4.2.2.2.2
    · have : τ.1 1403 = σ.1 1403 := by rw [q6.i 1403, n3.i 1403]
      rw [this]; exact a4.f ff
    · show 1 + st.2.2.2.1.length ≤ 1 + st.2.2.2.1.length; omega
    · exact CFs.not (hF.m0 (kV.f ff) _ hscb) hlo hxw2
    · exact hSt.m0 (kV.f ff) _ hscb
  rw [if_neg k1] at hSt
  by_cases k2 : k = 33 ∨ k = 63
  · rw [if_pos k2] at hSt
    obtain ⟨bd0, A, B, hAB, hA, hB, hSt⟩ := hSt
    have hAB : st.2.2.2.1 = A ++ B := hAB
    obtain ⟨kd, hkd, hkd1⟩ : ∃ kd : Nat, cK k = 12 + (kd : Int) ∧ kd ≤ 1 ∧ kd = (if k = 33 then 0 else 1) := by
      rcases k2 with h | h <;> rw [h]
      · exact ⟨0, rfl, by decide, rfl⟩
      · exact ⟨1, rfl, by decide, rfl⟩
    have h36 : zr (σ.1 3501 - 1) ∧ zb (σ.1 3501 - 1) (σ.2.2 36) ∧ σ.2.1 36 (σ.1 3501 - 1) = bd := by
      have c2' : RowC σ 3501 36 (bdR S ++ [bd]) := by have := c2; rw [bdR_c] at this; exact this
      obtain ⟨u1, u2, u3⟩ := c2'.top
      rw [bdR_len] at u1
      exact ⟨⟨by omega, by omega⟩, u3, u2⟩
    have hb3 : st.2.2.1.length ≤ 300 := a3.2.1
    have hlA : A.length + B.length = st.2.2.2.1.length := by rw [hAB, List.length_append]
    rw [hAB] at hF a4 hscb
    obtain ⟨σ1, N2, x3, j2, r1, r2, r3, r4, r5, r6, r7, r8, r9⟩ := fq_67 (β := β) (by omega) hkd1.1 hb3 bd0 hB A 0 σ w NN lo (σ.1 1403) b1 a7.1 a7.2 (by omega) hlo hF a4 hA hscb (fun v hv => e2 v (by show v ∈ st.2.2.2.1; rw [hAB]; exact List.mem_append_left _ hv)) h36 (by omega)
    have r1 : yE tG_Par_foldTop_p67 β σ [12 + (kd : Int), (NN.length : Int) - 1, σ.1 1403, 0] = _ := r1
    have fI : FrC [1403] [] σ1 (zI σ1 1403 x3) := FrC_I
    have hfl : (NN ++ N2).length = NN.length + A.length := by rw [List.length_append, r2]
    obtain ⟨τ, q1, q2, q3, q4, q5, q6, q7⟩ := f174_ok (β := β) (q := ((NN ++ N2).length : Int) - 1) (s := 12 + (kd : Int)) (by omega) ((c1.f r7).f fI) ((c2.f r7).f fI) ((c3'.f r7).f fI) hk (by rw [fI.i 3108, r7.i 3108]; exact d1) d2 (by omega) (by rw [List.length_reverse, pix_len]; omega)
    have ff : FrC [1403, 1801, 3108, 3301, 3501, 3701] [19, 38] σ τ := ((FrC.w r7).trans (FrC.w fI)).trans (FrC.w q6)
    have fe : fT ((k, bd) :: S, w :: P, st) = (S, wrp kd A w :: P, (st.1, st.2.1, st.2.2.1, B, st.2.2.2.2)) := by
      unfold fT
      obtain ⟨w1, w2⟩ := tw_all (p := fun v => decide (bd ≤ v)) (A := A) (B := B) (fun v hv => by simpa using hA v hv) (fun v hv => by have := hB v hv; simp; omega)
      dsimp only
      rw [if_neg (by omega), if_pos k2, hAB, w1, w2, hkd1.2]
    rw [fe]
    refine ⟨τ, N2, ?_, ⟨asm hf ff ((r3.f fI).f q6) q2 q3 ?_ q5 ?_ ?_ ?_ (fun v hv => by rw [hAB]; exact List.mem_append_right _ hv) ?_ ?_, wrp kd A w, P, lo, rfl, r5, ?_, ?_⟩, rfl, ff⟩
    · have e56 : yE tG_Par_foldTop_p56 β σ [cK k, (NN.length : Int) - 1] = some (τ, 0) := by
        rw [yq_Par_foldTop_p56, kY_Par_foldTop_p56, hkd, r1, yq_Par_foldTop_p123, kY_Par_foldTop_p123, lt_e]
        exact q1
      rw [e56]
      rw [if_neg (by omega)]
      by_cases c12 : cK k = 12
      · rw [if_pos c12]
      · rw [if_neg c12, if_pos (by omega)]
    · rw [pix_c r5]; exact q4
    · exact ⟨(r8.m fI.2.2.2).m q6.2.2.2, fun j hj => by rw [q7]; exact r9 j hj⟩
    · rw [q7]; show σ1.2.2 38 ≤ _; rw [r7.l 38]; exact c4.2.2.2.2
    · have : τ.1 1403 = x3 := by rw [q6.i 1403, zI_1]
      rw [this]; exact (r6.f fI).f q6
    · omega
    · omega
    · exact ((r4.m0 (kV.f ((FrC.w fI).trans (FrC.w q6) : FrC [1403, 3108, 3301, 3501] [38] σ1 τ)) [] (fun v hv => hscb v (List.mem_append_right _ hv)))) |> fun z => by rw [List.append_nil] at z; exact z
    · exact hSt.m0 (kV.f ff) _ (fun v hv => hscb v (List.mem_append_right _ hv))
  · rw [if_neg k2] at hSt
    obtain ⟨hk4, a, P2, l2, hP2, hl2, hFa, hSt⟩ := hSt
    subst hP2
    have ha1 := szn_1 (l := a.1) (k := a.2)
    obtain ⟨xa, hxa, hxa2⟩ := hFa.r
    rw [hl2] at hxa
    obtain ⟨o1, o2, o3, o4, o5⟩ := opc_k hk4
    have hpa := pix_c (P := P2) hl2
    have c3a : RowC (zI σ 3701 (σ.1 3701 - 1)) 3701 38 ((pix P2 l2).reverse ++ [(lo : Int) - 1]) := by
      rw [← hpa]
      refine c3'.pop ?_ rfl rfl
      rw [zI_1, t1, List.length_reverse, pix_len]
      omega
    obtain ⟨u1, u2, u3⟩ := c3a.top
    rw [zI_1] at u1 u2 u3
    have u2 : σ.2.1 38 (σ.1 3701 - 1 - 1) = (lo : Int) - 1 := u2
    have u3 : zb (σ.1 3701 - 1 - 1) (σ.2.2 38) := u3
    rw [List.length_reverse, pix_len] at u1
    have fI : FrC [3701] [] σ (zI σ 3701 (σ.1 3701 - 1)) := FrC_I
    obtain ⟨σ1, n1, n2, n3, n4, n5⟩ := addNode_ok (β := β - 1) (σ := zI σ 3701 (σ.1 3701 - 1)) (k := cK k) (a := (lo : Int) - 1) (b := (NN.length : Int) - 1) (x := xa) (y := xw) (a7.1.m fI.2.2.2) a7.2 (b1.f fI) (by omega) (by omega) (fun _ => ⟨by omega, by rw [show ((lo : Int) - 1).toNat = lo - 1 by omega, List.getElem?_eq_some_iff]; exact List.getElem?_eq_some_iff.mp hxa⟩) (fun h => by omega) (fun _ => ⟨by omega, by rw [show ((NN.length : Int) - 1).toNat = NN.length - 1 by omega]; exact hxw⟩) (fun h => by omega)
    obtain ⟨τ, q1, q2, q3, q4, q5, q6, q7⟩ := f174_ok (β := β) (q := (NN.length : Int)) (s := cK k) (by omega) ((c1.f fI).f n3) ((c2.f fI).f n3) (c3a.f n3) hk (by rw [n3.i 3108, fI.i 3108]; exact d1) d2 (by omega) (by rw [List.length_reverse, pix_len]; simp at hPl; omega)
    have ff : FrC [1403, 1801, 3108, 3301, 3501, 3701] [19, 38] σ τ := ((FrC.w fI).trans (FrC.w n3)).trans (FrC.w q6)
    have hlen : (NN ++ [mkN (cK k) ((lo : Int) - 1) ((NN.length : Int) - 1) xa xw]).length = NN.length + 1 := by rw [List.length_append]; rfl
    have hsz : szn (mk2 (opc k) a w).1 (mk2 (opc k) a w).2 = 1 + (szn a.1 a.2 + szn w.1 w.2) := by
      have es : szs (nd a.1 a.2 (nd w.1 w.2 nl)) = szn a.1 a.2 + szn w.1 w.2 := by rw [szs_nd, szs_1]
      rw [← es]
      exact if_neg (by show ¬ opc k ≤ 2; omega)
    have hlo2 : l2 + szn (mk2 (opc k) a w).1 (mk2 (opc k) a w).2 = (NN ++ [mkN (cK k) ((lo : Int) - 1) ((NN.length : Int) - 1) xa xw]).length := by rw [hlen, hsz]; omega
    have fe : fT ((k, bd) :: S, w :: a :: P2, st) = (S, mk2 (opc k) a w :: P2, st) := fT_bin (by omega) k2
    rw [fe]
    refine ⟨τ, _, ?_, ⟨asm hf ff (n2.f q6) q2 q3 ?_ q5 ?_ ?_ ?_ (fun v hv => hv) ?_ (Nat.le_refl _), mk2 (opc k) a w, P2, l2, rfl, hlo2, ?_, ?_⟩, rfl, ff⟩
    · rw [if_neg (by omega), if_neg (by omega), if_neg (by omega), if_pos ⟨by omega, by omega⟩, if_pos u3, u2, zbd_of n1]; exact q1
    · rw [pix_c hlo2, hlen, show ((NN.length + 1 : Nat) : Int) - 1 = (NN.length : Int) by omega]; exact q4
    · exact ⟨n4.m q6.2.2.2, fun j hj => by rw [q7]; exact n5 j hj⟩
    · rw [q7, n3.l 38]; exact c4.2.2.2.2
    · have : τ.1 1403 = σ.1 1403 := by rw [q6.i 1403, n3.i 1403, fI.i 1403]
      rw [this]; exact a4.f ff
    · show 1 + st.2.2.2.1.length ≤ 1 + st.2.2.2.1.length; omega
    · exact CFs.bin hk4 (hFa.m0 (kV.f ff) _ hscb) (hF.m0 (kV.f ff) _ hscb) hl2 hlo hxa2 hxw2
    · exact hSt.m0 (kV.f ff) _ hscb
abbrev fI6 : List Nat := [1403, 1801, 3108, 3301, 3501, 3701]
abbrev fA2 : List Nat := [19, 38]
theorem CMn.len {X Y : Int → Int} {n : Int} {SS : List Int} {pl pv : Int} {F0 : List Int} {L : List SE} {B0 : Nat} {σ : zS} {c : AC} {TT : List Int} {NN : List N6} (h : CMn X Y n SS pl pv F0 L B0 σ c TT NN) : c.1.length ≤ 20000 ∧ ∀ x ∈ c.1, sgk x.1 := by
  obtain ⟨⟨a1, b1, c1, d1, e1, _⟩, w, P, lo, h1, h2, h3, h4⟩ := h
  have hn := a1.1.1.2.2.2.2
  exact ⟨by omega, h4.len.2⟩
theorem fold_2 {X Y : Int → Int} {n : Int} {SS : List Int} {pl pv : Int} {F0 : List Int} {L : List SE} {B0 : Nat} {β : Nat} (hβ : 4 ≤ β) {l : Int} (hl : 1 ≤ l) {TT : List Int} : ∀ (N j : Nat) (σ : zS) (c : AC) (NN : List N6), c.1.length = N → j + N ≤ 30000 → CMn X Y n SS pl pv F0 L B0 σ c TT NN → ∃ τ N2, yE tG_Par_fold_p2 β σ [l, (j : Int)] = some (τ, 0) ∧ CMn X Y n SS pl pv F0 L B0 τ (flS l N c) TT (NN ++ N2) ∧ (flS l N c).1.length ≤ N ∧ tpS (flS l N c).1 < l ∧ FrC fI6 fA2 σ τ
  | 0, j, σ, c, NN, hN, hj, h => by
    have hc : c.1 = [] := List.length_eq_zero_iff.mp hN
    have hl2 := h.len
    refine ⟨σ, [], ?_, by rw [List.append_nil]; exact h, by show c.1.length ≤ 0; omega, by show tpS c.1 < l; rw [hc]; show (0 : Int) < l; omega, FrC.refl⟩
    rw [yq_Par_fold_p2, kY_Par_fold_p2, if_neg (by omega), if_pos (by omega), zbd_of (top_ok h.1.2.2.1.1 (by omega)), if_pos (by omega), zbd_of (str_ok hl2.2), hc, if_pos (by show (0 : Int) < l; omega), yq_Par_fold_p29, kY_Par_fold_p29]
  | N + 1, j, σ, c, NN, hN, hj, h => by
    have hl2 := h.len
    have e : yE tG_Par_fold_p2 β σ [l, (j : Int)] = (if tpS c.1 < l then some (σ, 0) else zbd (yE tG_Par_foldTop (β - 1) σ []) (fun σ3 _ => yE tG_Par_fold_p2 β σ3 [l, ((j + 1 : Nat) : Int)])) := by
      rw [yq_Par_fold_p2, kY_Par_fold_p2, if_neg (by omega), if_pos (by omega), zbd_of (top_ok h.1.2.2.1.1 (by omega)), if_pos (by omega), zbd_of (str_ok hl2.2), yq_Par_fold_p29, kY_Par_fold_p29]
      have hb1 : 1 ≤ β := by omega
      have hz : zr ((j : Int) + 1) := ⟨by omega, by omega⟩
      by_cases ht : tpS c.1 < l
      · rw [if_pos ht, if_pos ht]
      · rw [if_neg ht, if_neg ht, if_pos hb1]
        refine congrArg (zbd _) ?_
        funext σ3 r3
        rw [if_pos hz]
        rfl
    rw [e]
    show ∃ τ N2, _ ∧ CMn X Y n SS pl pv F0 L B0 τ (if l ≤ tpS c.1 then flS l N (fT c) else c) TT (NN ++ N2) ∧ (if l ≤ tpS c.1 then flS l N (fT c) else c).1.length ≤ N + 1 ∧ tpS (if l ≤ tpS c.1 then flS l N (fT c) else c).1 < l ∧ _
    by_cases ht : l ≤ tpS c.1
    · rw [if_pos ht, if_neg (by omega)]
      obtain ⟨S, P, st⟩ := c
      cases S with
      | nil => exfalso; have ht : l ≤ 0 := ht; omega
      | cons x S =>
        have hs : 1 ≤ sgS x.1 := Int.le_trans hl ht
        obtain ⟨σ1, N1, r1, r2, r3, r4⟩ := foldTop_ok (β := β - 1) (by omega) h hs
        have hN1 : (fT (x :: S, P, st)).1.length = N := by rw [r3]; simpa using hN
        obtain ⟨τ, N2, s1, s2, s3, s5, s4⟩ := fold_2 hβ hl N (j + 1) σ1 _ _ hN1 (by omega) r2
        refine ⟨τ, N1 ++ N2, by rw [zbd_of r1]; exact s1, by rw [← List.append_assoc]; exact s2, by omega, s5, r4.trans s4⟩
    · rw [if_neg ht, if_pos (by omega)]
      exact ⟨σ, [], rfl, by rw [List.append_nil]; exact h, by omega, by omega, FrC.refl⟩
theorem fold_ok {X Y : Int → Int} {n : Int} {SS : List Int} {pl pv : Int} {F0 : List Int} {L : List SE} {B0 : Nat} {β : Nat} (hβ : 4 ≤ β) {l : Int} (hl : 1 ≤ l) {σ : zS} {c : AC} {TT : List Int} {NN : List N6} (h : CMn X Y n SS pl pv F0 L B0 σ c TT NN) : ∃ τ N2, yE tG_Par_fold β σ [l] = some (τ, 0) ∧ CMn X Y n SS pl pv F0 L B0 τ (foS l c) TT (NN ++ N2) ∧ (foS l c).1.length ≤ c.1.length ∧ tpS (foS l c).1 < l ∧ FrC fI6 fA2 σ τ := by
  obtain ⟨τ, N2, r1, r2⟩ := fold_2 hβ hl _ 0 σ c NN rfl (by have := h.len; omega) h
  exact ⟨τ, N2, by rw [yq_Par_fold, kY_Par_fold]; exact r1, r2⟩
theorem tpCK {S : List (Int × Int)} (h : ∀ x ∈ S, sgk x.1) : (tpC S = 17 ↔ tpK S = 302) ∧ (tpC S = 12 ↔ tpK S = 33) ∧ (tpC S = 13 ↔ tpK S = 63) := by
  cases S with
  | nil => exact ⟨by decide, by decide, by decide⟩
  | cons x S =>
    have hk := h x List.mem_cons_self
    show (cK x.1 = 17 ↔ x.1 = 302) ∧ (cK x.1 = 12 ↔ x.1 = 33) ∧ (cK x.1 = 13 ↔ x.1 = 63)
    rcases hk with h | h | h | h | h | h | h | h <;> rw [h] <;> decide
theorem mb_11 {X Y : Int → Int} {n : Int} {SS : List Int} {pl pv : Int} {F0 : List Int} {L : List SE} {B0 : Nat} {β : Nat} (hβ : 5 ≤ β) {TT : List Int} : ∀ (N j : Nat) (σ : zS) (c : AC) (NN : List N6), c.1.length ≤ N → j + N ≤ 30000 → CMn X Y n SS pl pv F0 L B0 σ c TT NN →
    (mbE N c = none → ∃ τ c2 N2, yE tG_Par_mayBeEquivalent_p11 β σ [(j : Int)] = some (τ, 0) ∧ CMn X Y n SS pl pv F0 L B0 τ c2 TT (NN ++ N2) ∧ c2.2.2.1 = c.2.2.1 ∧ FrC fI6 fA2 σ τ) ∧
    (∀ e, mbE N c = some e → ∃ τ N2, yE tG_Par_mayBeEquivalent_p11 β σ [(j : Int)] = some (τ, 1) ∧ CMn X Y n SS pl pv F0 L B0 τ e TT (NN ++ N2) ∧ FrC fI6 fA2 σ τ)
  | N, j, σ, (S, P, st), NN, hN, hj, h => by
    have hl2 := h.len
    obtain ⟨k17, k12, k13⟩ := tpCK hl2.2
    have ht := top_ok (β := β - 1) h.1.2.2.1.1 (by omega)
    have stop : tpK S ≠ 302 → yE tG_Par_mayBeEquivalent_p11 β σ [(j : Int)] = some (σ, 1) := fun hc => by
      rw [yq_Par_mayBeEquivalent_p11, kY_Par_mayBeEquivalent_p11, if_neg (by omega), if_pos (by omega), zbd_of ht, if_neg (fun h => hc (k17.mp h)), yq_Par_mayBeEquivalent_p69, kY_Par_mayBeEquivalent_p69]
    match N, hN, hj with
    | 0, hN, hj =>
      have hS : S = [] := List.length_eq_zero_iff.mp (by have hN : S.length ≤ 0 := hN; omega)
      refine ⟨fun hc => (by cases hc), fun e he => ?_⟩
      cases he
      exact ⟨σ, [], stop (by rw [hS]; decide), by rw [List.append_nil]; exact h, FrC.refl⟩
    | N + 1, hN, hj =>
      by_cases hk : tpK S = 302
      · cases S with
        | nil => exact absurd hk (by decide)
        | cons x S =>
          have hk : x.1 = 302 := hk
          obtain ⟨σ1, N1, r1, r2, r3, r4⟩ := foldTop_ok (β := β - 1) (by omega) h (by rw [hk]; decide)
          have hl3 := r2.len
          obtain ⟨j17, j12, j13⟩ := tpCK hl3.2
          have ht1 := top_ok (β := β - 1) r2.1.2.2.1.1 (by omega)
          obtain ⟨c1, hc1⟩ : ∃ c, c = fT (x :: S, P, st) := ⟨_, rfl⟩
          have hp1 : c1.2.2.1 = st.1 := by rw [hc1]; exact fT_p _
          have hmb : mbE (N + 1) (x :: S, P, st) = (if tpK c1.1 = 33 ∨ tpK c1.1 = 63 then mbE N (foS 3 (fT c1)) else none) := by
            show (if x.1 = 302 then _ else _) = _
            rw [if_pos hk, hc1]
          rw [hmb]
          rw [← hc1] at r2 r3 hl3 j12 j13 ht1
          have e : yE tG_Par_mayBeEquivalent_p11 β σ [(j : Int)] = (if tpK c1.1 = 33 ∨ tpK c1.1 = 63 then yE tG_Par_mayBeEquivalent_p50 β σ1 [(j : Int)] else some (σ1, 0)) := by
            rw [yq_Par_mayBeEquivalent_p11, kY_Par_mayBeEquivalent_p11, if_neg (by omega), if_pos (by omega), zbd_of ht, if_pos (k17.mpr hk), if_pos (by omega), zbd_of r1, if_pos (by omega), zbd_of ht1]
            by_cases d12 : tpK c1.1 = 33
            · rw [if_pos (j12.mpr d12), if_pos (Or.inl d12)]
            · rw [if_neg (fun h => d12 (j12.mp h)), if_pos (by omega), zbd_of ht1]
              by_cases d13 : tpK c1.1 = 63
              · rw [if_pos (j13.mpr d13), if_pos (Or.inr d13)]
              · rw [if_neg (fun h => d13 (j13.mp h)), if_neg (by omega)]
          rw [e]
          by_cases hq : tpK c1.1 = 33 ∨ tpK c1.1 = 63
          · rw [if_pos hq, if_pos hq]
            obtain ⟨S1, P1, st1⟩ := c1
            cases S1 with
            | nil => exfalso; have hq : (0 : Int) = 33 ∨ (0 : Int) = 63 := hq; omega
            | cons y S1 =>
              have hq : y.1 = 33 ∨ y.1 = 63 := hq
              obtain ⟨σ2, N2, s1, s2, s3, s4⟩ := foldTop_ok (β := β - 1) (by omega) r2 (by rcases hq with hq | hq <;> rw [hq] <;> decide)
              obtain ⟨σ3, N3, u1, u2, u3, _, u4⟩ := fold_ok (β := β - 1) (by omega) (l := 3) (by decide) s2
              have hlen : (foS 3 (fT (y :: S1, P1, st1))).1.length ≤ N := by
                rw [s3] at u3
                have e1 : S1.length + 1 = S.length := by have := congrArg List.length r3; simpa using this
                have hN : S.length + 1 ≤ N + 1 := hN
                omega
              have hp2 : (foS 3 (fT (y :: S1, P1, st1))).2.2.1 = st1.1 := by
                have : ∀ (l : Int) (M : Nat) (c : AC), (flS l M c).2.2.1 = c.2.2.1 := fun l M => by
                  induction M with
                  | zero => intro c; rfl
                  | succ M ih =>
                    intro c
                    show (if l ≤ tpS c.1 then flS l M (fT c) else c).2.2.1 = _
                    split
                    · rw [ih, fT_p]
                    · rfl
                rw [show foS 3 (fT (y :: S1, P1, st1)) = flS 3 _ _ from rfl, this, fT_p]
              have e50 : yE tG_Par_mayBeEquivalent_p50 β σ1 [(j : Int)] = yE tG_Par_mayBeEquivalent_p11 β σ3 [((j + 1 : Nat) : Int)] := by
                have hs : yE tC_Par_strength (β - 1) σ2 [16] = some (σ2, 3) := str_k (k := 301) (by unfold sgk; omega)
                rw [yq_Par_mayBeEquivalent_p50, kY_Par_mayBeEquivalent_p50, if_pos (by omega), zbd_of s1, if_pos (by omega), zbd_of hs, if_pos (by omega), zbd_of u1, if_pos ⟨by omega, by omega⟩]
                rfl
              rw [e50]
              obtain ⟨v1, v2⟩ := mb_11 hβ N (j + 1) σ3 _ _ hlen (by omega) u2
              refine ⟨fun hc => ?_, fun e he => ?_⟩
              · obtain ⟨τ, c2, N4, w1, w2, w3, w4⟩ := v1 hc
                refine ⟨τ, c2, N1 ++ N2 ++ N3 ++ N4, w1, by simpa only [List.append_assoc] using w2, ?_, ((r4.trans s4).trans u4).trans w4⟩
                rw [w3, hp2]; exact hp1
              · obtain ⟨τ, N4, w1, w2, w4⟩ := v2 e he
                exact ⟨τ, N1 ++ N2 ++ N3 ++ N4, w1, by simpa only [List.append_assoc] using w2, ((r4.trans s4).trans u4).trans w4⟩
          · rw [if_neg hq, if_neg hq]
            refine ⟨fun _ => ⟨σ1, c1, N1, rfl, r2, hp1, r4⟩, fun e he => (by cases he)⟩
      · have hmb : mbE (N + 1) (S, P, st) = some (S, P, st) := by
          show (if tpK S = 302 then _ else _) = _
          rw [if_neg hk]
        rw [hmb]
        refine ⟨fun hc => (by cases hc), fun e he => ?_⟩
        cases he
        exact ⟨σ, [], stop hk, by rw [List.append_nil]; exact h, FrC.refl⟩
