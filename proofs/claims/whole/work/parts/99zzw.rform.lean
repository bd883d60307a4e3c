/-! FORMULAS of the TEXT in the reference: what they are made of -/
def hgs : T → Int
  | .leaf _ => 0
  | .branch l k s => max (if l ≤ 2 then 1 else 1 + hgs k) (hgs s)
/-- how high -/
def hgt (f : Tm) : Int := if f.1 ≤ 2 then 1 else 1 + hgs f.2
theorem hgs_0 : ∀ F : T, 0 ≤ hgs F
  | .leaf _ => Int.le_refl _
  | .branch l k s => by
    have := hgs_0 s
    show 0 ≤ max _ (hgs s)
    omega
theorem hgt_1 (f : Tm) : 1 ≤ hgt f := by
  unfold hgt
  have := hgs_0 f.2
  split <;> omega
theorem hgt_mk1 {l : Nat} {f : Tm} (h : 3 ≤ l) : hgt (mk1 l f) = 1 + hgt f := by
  unfold hgt mk1
  have e : hgs (nd f.1 f.2 nl) = max (if f.1 ≤ 2 then 1 else 1 + hgs f.2) 0 := rfl
  have := hgs_0 f.2
  rw [if_neg (by dsimp only; omega)]
  dsimp only
  rw [e]
  split <;> omega
theorem hgt_mk2 {l : Nat} {f g : Tm} (h : 3 ≤ l) : hgt (mk2 l f g) = 1 + max (hgt f) (hgt g) := by
  unfold hgt mk2
  have e : hgs (nd f.1 f.2 (nd g.1 g.2 nl)) = max (if f.1 ≤ 2 then 1 else 1 + hgs f.2) (max (if g.1 ≤ 2 then 1 else 1 + hgs g.2) 0) := rfl
  have := hgs_0 f.2
  have := hgs_0 g.2
  rw [if_neg (by dsimp only; omega)]
  dsimp only
  rw [e]
  split <;> split <;> omega
theorem hgt_qnt {k first : Nat} : ∀ (j : Nat) (f : Tm), hgt (qnt k first j f) = (j : Int) + hgt f
  | 0, f => by simp [qnt]
  | j + 1, f => by
    unfold qnt
    rw [hgt_qnt j, hgt_mk1 (by omega)]
    omega
/-- one TERM at t -/
def RTr (σ : zS) (l : Nat) (k : T) (t : Int) : Prop := 0 ≤ t ∧ t < σ.1 38 ∧ σ.2.1 34 t = cl l ∧ RTm σ k 0 t (σ.2.1 35 t)
def RFm (σ : zS) : Nat → Tm → Int → Prop
  | 0, _, _ => False
  | h + 1, f, a => 0 ≤ a ∧ a < σ.1 37 ∧ σ.2.1 33 a = hgt f ∧
    ((∃ l1 k1 l2 k2, f = (0, nd l1 k1 (nd l2 k2 nl)) ∧ σ.2.1 30 a = 0 ∧ RTr σ l1 k1 (σ.2.1 31 a) ∧ RTr σ l2 k2 (σ.2.1 32 a)) ∨
     (∃ l1 k1 l2 k2 b, f = (1, nd l1 k1 (nd l2 k2 nl)) ∧ σ.2.1 30 a = 1 ∧ σ.2.1 31 a = b ∧ 0 ≤ b ∧ b < σ.1 37 ∧ σ.2.1 30 b = 0 ∧ RTr σ l1 k1 (σ.2.1 31 b) ∧ RTr σ l2 k2 (σ.2.1 32 b)) ∨
     (∃ l k p, f = mk1 2 (l, k) ∧ σ.2.1 30 a = 0 ∧ σ.2.1 32 a = -1 ∧ σ.2.1 31 a = p ∧ 0 ≤ p ∧ p < σ.1 40 ∧ σ.2.1 41 p = cl l ∧ RTm σ k 0 (σ.1 38) (σ.2.1 42 p)) ∨
     (∃ g, f = mk1 3 g ∧ σ.2.1 30 a = 1 ∧ RFm σ h g (σ.2.1 31 a)) ∨
     (∃ j g1 g2, j ≤ 3 ∧ f = mk2 (4 + j) g1 g2 ∧ σ.2.1 30 a = 2 + (j : Int) ∧ RFm σ h g1 (σ.2.1 31 a) ∧ RFm σ h g2 (σ.2.1 32 a)) ∨
     (∃ kd first cnt g, kd ≤ 1 ∧ 1 ≤ cnt ∧ first + cnt ≤ 300 ∧ f = qnt kd first cnt g ∧ σ.2.1 30 a = 6 + (kd : Int) ∧ σ.2.1 32 a = (first : Int) * 1000 + (cnt : Int) ∧ RFm σ h g (σ.2.1 31 a)))
theorem RTr.x {σ τ : zS} {l : Nat} {k : T} {t : Int} (hE : EX σ τ) (h : RTr σ l k t) : RTr τ l k t := by
  obtain ⟨h0, h1, h2, h3⟩ := h
  obtain ⟨e1, e2, e3⟩ := hE.2.1 t h0 h1
  refine ⟨h0, by have := hE.1.2.1; omega, by rw [e1]; exact h2, ?_⟩
  rw [e2]
  exact h3.ext (fun i i0 _ i2 => hE.2.1 i i0 (by omega))
theorem RFm.x {σ τ : zS} (hE : EX σ τ) : ∀ {h : Nat} {f : Tm} {a : Int}, RFm σ h f a → RFm τ h f a
  | 0, f, a, h => h.elim
  | h + 1, f, a, hh => by
    obtain ⟨h0, h1, h2, hc⟩ := hh
    obtain ⟨e1, e2, e3, e4⟩ := hE.2.2.1 a h0 h1
    refine ⟨h0, by have := hE.1.1; omega, by rw [e4]; exact h2, ?_⟩
    rw [e1, e2, e3]
    rcases hc with ⟨l1, k1, l2, k2, c1, c2, c3, c4⟩ | ⟨l1, k1, l2, k2, b, c1, c2, c3, c4, c5, c6, c7, c8⟩ | ⟨l, k, p, c1, c2, c3, c4, c5, c6, c7, c8⟩ | ⟨g, c1, c2, c3⟩ | ⟨j, g1, g2, c1, c2, c3, c4, c5⟩ | ⟨kd, first, cnt, g, c1, c2, c3, c4, c5, c6, c7⟩
    · exact Or.inl ⟨l1, k1, l2, k2, c1, c2, c3.x hE, c4.x hE⟩
    · obtain ⟨b1, b2', b3, b4⟩ := hE.2.2.1 b c4 c5
      exact Or.inr (Or.inl ⟨l1, k1, l2, k2, b, c1, c2, c3, c4, by have := hE.1.1; omega, by rw [b1]; exact c6, by rw [b2']; exact c7.x hE, by rw [b3]; exact c8.x hE⟩)
    · obtain ⟨p1, p2⟩ := hE.2.2.2 p c5 c6
      refine Or.inr (Or.inr (Or.inl ⟨l, k, p, c1, c2, c3, c4, c5, by have := hE.1.2.2; omega, by rw [p1]; exact c7, ?_⟩))
      rw [p2]
      exact (c8.ext (fun i i0 _ i2 => hE.2.1 i i0 i2)).mono (Int.le_refl _) (Int.le_refl _) hE.1.2.1
    · exact Or.inr (Or.inr (Or.inr (Or.inl ⟨g, c1, c2, RFm.x hE c3⟩)))
    · exact Or.inr (Or.inr (Or.inr (Or.inr (Or.inl ⟨j, g1, g2, c1, c2, c3, RFm.x hE c4, RFm.x hE c5⟩))))
    · exact Or.inr (Or.inr (Or.inr (Or.inr (Or.inr ⟨kd, first, cnt, g, c1, c2, c3, c4, c5, c6, RFm.x hE c7⟩))))
theorem RFm.up {σ : zS} : ∀ {h h2 : Nat} {f : Tm} {a : Int}, h ≤ h2 → RFm σ h f a → RFm σ h2 f a
  | 0, h2, f, a, _, h => h.elim
  | h + 1, 0, f, a, hl, hh => absurd hl (by omega)
  | h + 1, h2 + 1, f, a, hl, hh => by
    obtain ⟨h0, h1, h2', hc⟩ := hh
    refine ⟨h0, h1, h2', ?_⟩
    rcases hc with c | c | c | ⟨g, c1, c2, c3⟩ | ⟨j, g1, g2, c1, c2, c3, c4, c5⟩ | ⟨kd, first, cnt, g, c1, c2, c3, c4, c5, c6, c7⟩
    · exact Or.inl c
    · exact Or.inr (Or.inl c)
    · exact Or.inr (Or.inr (Or.inl c))
    · exact Or.inr (Or.inr (Or.inr (Or.inl ⟨g, c1, c2, RFm.up (by omega) c3⟩)))
    · exact Or.inr (Or.inr (Or.inr (Or.inr (Or.inl ⟨j, g1, g2, c1, c2, c3, RFm.up (by omega) c4, RFm.up (by omega) c5⟩))))
    · exact Or.inr (Or.inr (Or.inr (Or.inr (Or.inr ⟨kd, first, cnt, g, c1, c2, c3, c4, c5, c6, RFm.up (by omega) c7⟩))))
def RFo (σ : zS) (f : Tm) (a : Int) : Prop := (∃ h, RFm σ h f a) ∧ hgt f ≤ 400 * σ.1 37
theorem RFo.x {σ τ : zS} {f : Tm} {a : Int} (hE : EX σ τ) (h : RFo σ f a) : RFo τ f a := by
  obtain ⟨⟨k, h⟩, hb⟩ := h
  exact ⟨⟨k, h.x hE⟩, by have := hE.1.1; omega⟩
theorem RFo.b {σ : zS} {f : Tm} {a : Int} (h : RFo σ f a) : 0 ≤ a ∧ a < σ.1 37 ∧ σ.2.1 33 a = hgt f := by
  obtain ⟨⟨k, h⟩, _⟩ := h
  match k, h with
  | k + 1, h => exact ⟨h.1, h.2.1, h.2.2.1⟩
theorem node_e {β : Nat} {σ : zS} {c x y z w : Int} (h : σ.1 37 = c) (h0 : 0 ≤ c) (h1 : c < 20100) : zE tM_node β σ [x, y, z, w] = some (zI (zA (zA (zA (zA σ 30 c x) 31 c y) 32 c z) 33 c w) 37 (c + 1), c) := by
  rw [zq_node, kZ_node, h, if_pos ⟨h0, by omega⟩]
  show (if zb (σ.1 37) 20100 then (if zb (σ.1 37) 20100 then (if zb (σ.1 37) 20100 then (if zr (σ.1 37 + 1) then some (zI (zA (zA (zA (zA σ 30 c x) 31 (σ.1 37) y) 32 (σ.1 37) z) 33 (σ.1 37) w) 37 (σ.1 37 + 1), σ.1 37) else none) else none) else none) else none) = _
  rw [h, if_pos ⟨h0, by omega⟩, if_pos ⟨h0, by omega⟩, if_pos ⟨h0, by omega⟩, if_pos ⟨by omega, by omega⟩]
/-- a FORMULA made -/
theorem RP.node {X : Int → Int} {n : Int} {σ τ : zS} {st : PS} {s c x y z w : Int} (h : RP X n σ st (s + 1)) (hs : 0 ≤ s) (h37 : σ.1 37 = c) (hτ : τ = zI (zA (zA (zA (zA σ 30 c x) 31 c y) 32 c z) 33 c w) 37 (c + 1)) : RP X n τ st s ∧ EX σ τ ∧ FrP σ τ ∧ τ.1 37 = c + 1 ∧ τ.2.1 30 c = x ∧ τ.2.1 31 c = y ∧ τ.2.1 32 c = z ∧ τ.2.1 33 c = w ∧ 0 ≤ c ∧ c < 20000 := by
  obtain ⟨hA, hN, hB, hC, hD, hl, hK⟩ := h
  obtain ⟨k1, k2, k3, k4, k5, k6⟩ := hK
  have hp := hA.1.2.2.2.1
  have hn := hA.1.2.2.2.2
  have ti : ∀ j, j ≠ 37 → τ.1 j = σ.1 j := fun j hj => by rw [hτ]; exact zI_o hj
  have ta : ∀ e, ¬ (30 ≤ e ∧ e ≤ 33) → τ.2.1 e = σ.2.1 e := fun e he => by
    rw [hτ]
    show (zA (zA (zA (zA σ 30 c x) 31 c y) 32 c z) 33 c w).2.1 e = _
    rw [zA_o (by omega), zA_o (by omega), zA_o (by omega), zA_o (by omega)]
  have t37 : τ.1 37 = c + 1 := by rw [hτ]; exact zI_1
  have a30 : τ.2.1 30 = (zA σ 30 c x).2.1 30 := by rw [hτ]; funext i; simp [zA, zI]
  have a31 : τ.2.1 31 = (zA σ 31 c y).2.1 31 := by rw [hτ]; funext i; simp [zA, zI]
  have a32 : τ.2.1 32 = (zA σ 32 c z).2.1 32 := by rw [hτ]; funext i; simp [zA, zI]
  have a33 : τ.2.1 33 = (zA σ 33 c w).2.1 33 := by rw [hτ]; funext i; simp [zA, zI]
  refine ⟨⟨hA.c (fun j hj => ti j (by omega)) (ta 0 (by omega)), hN.c ⟨ti _ (by decide), ti _ (by decide)⟩ (fun e he => ta e (by omega)), hB.c (ti _ (by decide)) ⟨ta _ (by omega), ta _ (by omega), ta _ (by omega)⟩, hC.c (Nat.le_refl _) (ti _ (by decide)) (ta _ (by omega)), hD.c (Nat.le_refl _) (ti _ (by decide)) (ta _ (by omega)), hl, ?_⟩, ?_, ?_, t37, by rw [a30, zA_s], by rw [a31, zA_s], by rw [a32, zA_s], by rw [a33, zA_s], by omega, by omega⟩
  · unfold RCt
    rw [ti 38 (by decide), ti 40 (by decide), t37]
    exact ⟨by omega, by omega, k3, by omega, k5, by omega⟩
  · refine ⟨⟨by rw [t37]; omega, by rw [ti 38 (by decide)]; exact Int.le_refl _, by rw [ti 40 (by decide)]; exact Int.le_refl _⟩, fun i i0 i1 => ?_, fun i _ _ => ?_, fun i _ _ => ?_⟩
    · rw [ta 34 (by omega), ta 35 (by omega), ta 36 (by omega)]; exact ⟨rfl, rfl, rfl⟩
    · rw [a30, a31, a32, a33, zA_q (by omega), zA_q (by omega), zA_q (by omega), zA_q (by omega)]; exact ⟨rfl, rfl, rfl, rfl⟩
    · rw [ta 41 (by omega), ta 42 (by omega)]; exact ⟨rfl, rfl⟩
  · rw [hτ]; exact FrP.tr (FrP.tr (FrP.tr (FrP.tr FrP.a FrP.a) FrP.a) FrP.a) FrP.i
/-- a WORD taken: as many bytes as it has -/
theorem RP.tkd {X : Int → Int} {n : Int} {β : Nat} (hβ : 4 ≤ β) {σ : zS} {st : PS} {s : Int} (h : RP X n σ st s) {z : Int} (hz : z ≤ te X n st.1 - tq X n st.1) : ∃ τ, zE tM_take β σ [] = some (τ, 0) ∧ RP X n τ (adv X n st) (s + z) ∧ FrT σ τ := by
  obtain ⟨τ, e1, hA, hF⟩ := take_ok hβ h.1
  have h2 := tq_ge (T := X) (n := n) (p := st.1)
  refine ⟨τ, e1, ⟨hA, ?_⟩, hF⟩
  obtain ⟨g1, g2, g3, g4, g5, g6⟩ := h.2.t hF (Int.le_refl _)
  exact ⟨g1, g2, g3, g4, g5, g6.c (by show st.1 - s ≤ te X n st.1 - (s + z); omega) ⟨rfl, rfl, rfl⟩⟩
theorem te_300 {X : Int → Int} {n p : Int} (h : tk X n p = 300) : te X n p - tq X n p = 2 := by
  unfold tk at h
  unfold te tq
  unfold tok at h ⊢
  by_cases hn : n ≤ sk X n p
  · rw [if_pos hn] at h; cases h
  rw [if_neg hn] at h ⊢
  by_cases hl : cLt (X (sk X n p))
  · rw [if_pos hl] at h
    exfalso
    revert h
    dsimp only
    split
    · split <;> (intro h; cases h)
    · intro h; cases h
  · rw [if_neg hl] at h ⊢
    unfold sgn at h ⊢
    revert h
    repeat' split
    all_goals (intro h; simp_all <;> omega)
/-- a FORMULA has come -/
def FmQ (X : Int → Int) (n : Int) (σ : zS) (st : PS) (s : Int) (a : PS × Tm) (τ : zS) (v : Int) : Prop := RFo τ a.2 v ∧ RP X n τ a.1 s ∧ EX σ τ ∧ a.1.2.2.2.1 = st.2.2.2.1
theorem joined_ok {X : Int → Int} {n : Int} {β : Nat} (hβ : 1 ≤ β) {σ : zS} {st : PS} {s a b : Int} {j : Nat} {f g : Tm} (hj : j ≤ 3) (s0 : 0 ≤ s) (h : RP X n σ st (s + 1)) (hf : RFo σ f a) (hg : RFo σ g b) : ∃ τ v, zE tM_joined1 β σ [2 + (j : Int), a, b] = some (τ, v) ∧ RFo τ (mk2 (4 + j) f g) v ∧ RP X n τ st s ∧ EX σ τ ∧ FrP σ τ := by
  obtain ⟨a0, a1, a2⟩ := hf.b
  obtain ⟨b0, b1, b2'⟩ := hg.b
  have hK := h.2.2.2.2.2.2
  have hp := h.1.1.2.2.2.1
  have hn := h.1.1.2.2.2.2
  have k2 := hK.2.1
  have f1 := hgt_1 f
  have g1 := hgt_1 g
  have f2 := hf.2
  have g2 := hg.2
  obtain ⟨k, hk⟩ : ∃ k, k = 1 + (if σ.2.1 33 a < σ.2.1 33 b then σ.2.1 33 b else σ.2.1 33 a) := ⟨_, rfl⟩
  have hkh : k = hgt (mk2 (4 + j) f g) := by
    rw [hk, hgt_mk2 (by omega), a2, b2']
    split <;> omega
  have hkb : 0 ≤ k ∧ k ≤ 400 * σ.1 37 + 1 := by
    rw [hk, a2, b2']
    split <;> omega
  rw [zq_joined1, kZ_joined1, if_pos ⟨a0, by show a < ((20100 : Nat) : Int); omega⟩, if_pos ⟨b0, by show b < ((20100 : Nat) : Int); omega⟩, ← hk, if_pos ⟨by omega, by omega⟩, if_pos hβ]
  obtain ⟨c, hc⟩ : ∃ c, σ.1 37 = c := ⟨_, rfl⟩
  obtain ⟨τ, hτ⟩ : ∃ t, t = zI (zA (zA (zA (zA σ 30 c (2 + (j : Int))) 31 c a) 32 c b) 33 c k) 37 (c + 1) := ⟨_, rfl⟩
  obtain ⟨t1, t2, t3, t4, t5, t6, t7, t8, t9, t10⟩ := RP.node h s0 hc hτ
  rw [zbd_of (node_e (β := β - 1) hc t9 (by omega)), ← hτ]
  obtain ⟨⟨h1, r1⟩, _⟩ := hf.x t2
  obtain ⟨⟨h2, r2⟩, _⟩ := hg.x t2
  refine ⟨τ, c, rfl, ⟨⟨max h1 h2 + 1, t9, by omega, by rw [t8]; exact hkh, ?_⟩, by rw [← hkh, t4]; omega⟩, t1, t2, t3⟩
  rw [t5, t6, t7]
  exact Or.inr (Or.inr (Or.inr (Or.inr (Or.inl ⟨j, f, g, hj, rfl, rfl, r1.up (Nat.le_max_left _ _), r2.up (Nat.le_max_right _ _)⟩))))
/-- TERMS on both sides of = or != -/
theorem equation_ok {X : Int → Int} {n : Int} (hX : TXT X n) {m β : Nat} {d t : Int} {σ : zS} {st : PS} {s : Int} {l : Nat} {k : T} {r : (Int × Int) ⊕ (PS × Tm)} (d0 : 0 ≤ d) (d1 : d ≤ 60) (hβ : 2 * (60 - d) + 9 ≤ (β : Int)) (s0 : 0 ≤ s) (hR : RP X n σ st s) (hq : tk X n st.1 = 61 ∨ tk X n st.1 = 300) (ht : RTr σ l k t) (hr : eqnS X n m (nd l k nl) d st = some r) : XR (xE tX_equation β σ [t, d]) σ r (fun a τ v => RFo τ a.2 v ∧ RP X n τ a.1 s ∧ EX σ τ ∧ a.1.2.2.2.1 = st.2.2.2.1) := by
  unfold eqnS at hr
  have hpn := hR.1.1.2.2.2.1
  have hnn := hR.1.1.2.2.2.2
  rw [xq_equation, kW_equation, if_pos (by omega)]
  obtain ⟨τ, e1, h1, hT, hF⟩ := hR.pk (β := β - 1) (by omega)
  rw [zbd_of e1]
  have go : ∀ (b z : Int), (b = 0 ∧ z = 1 ∧ tk X n st.1 = 61) ∨ (b = 1 ∧ z = 2 ∧ tk X n st.1 = 300) → XR (xE tX_equation_15 β τ [t, d, b]) σ r (fun a τ v => RFo τ a.2 v ∧ RP X n τ a.1 s ∧ EX σ τ ∧ a.1.2.2.2.1 = st.2.2.2.1) := fun b z hbz => by
    rw [xq_equation_15, kW_equation_15, if_pos (by omega)]
    have hz : z ≤ te X n st.1 - tq X n st.1 := by
      rcases hbz with ⟨_, hz, hk⟩ | ⟨_, hz, hk⟩
      · have := te_gt (T := X) (n := n) (p := st.1) (by omega) hpn; omega
      · have := te_300 (X := X) hk; omega
    obtain ⟨υ, e3, h5, hF3⟩ := h1.tkd (β := β - 1) (by omega) hz
    rw [zbd_of e3, if_pos (by omega)]
    have hfu : FrP σ υ := hF.p.tr hF3.p
    rcases pb_r hr with ⟨k9, q9, h2, rfl⟩ | ⟨a, h2, h3⟩
    · exact (XN.call ((sd_all hX m).1 (β - 1) d υ (adv X n st) (s + z) _ d0 d1 (by omega) (by omega) h5 h2)).fr hfu
    · cases h3
      obtain ⟨ρ, v, e4, hF4, l2, k2, g1, g2, g3, g4, g5, g6, g7, g8, g9, g10⟩ := XY.call (K := fun σ2 r2 => if 1 ≤ β then (zbd (zE tM_node (β - 1) σ2 [0, t, r2, 1]) (fun σ3 r3 => if b = 0 then (xE tX_equation_56 β σ3 [t, d, b, r2, r3, r3]) else (if 1 ≤ β then (zbd (zE tM_node (β - 1) σ3 [1, r3, 0, 1]) (fun σ4 r4 => xE tX_equation_56 β σ4 [t, d, b, r2, r3, r4])) else none))) else none) ((sd_all hX m).1 (β - 1) d υ (adv X n st) (s + z) _ d0 d1 (by omega) (by omega) h5 h2)
      rw [e4, if_pos (by omega)]
      have u0 : 0 ≤ υ.1 38 := h5.2.2.2.2.2.2.2.2.1
      have hxr : EX σ ρ := (hF.x.tr hF3.x).tr g8
      have ht2 : RTr ρ l k t := ht.x hxr
      have hv2 : RTr ρ l2 k2 v := ⟨by omega, by omega, g4, g5.mono (Int.le_refl _) u0 (Int.le_refl _)⟩
      obtain ⟨c, hc⟩ : ∃ c, ρ.1 37 = c := ⟨_, rfl⟩
      obtain ⟨ω, hω⟩ : ∃ w, w = zI (zA (zA (zA (zA ρ 30 c 0) 31 c t) 32 c v) 33 c 1) 37 (c + 1) := ⟨_, rfl⟩
      have h6 : RP X n ρ a.1 (s + z - 1 + 1) := by rw [show s + z - 1 + 1 = s + z by omega]; exact g7
      obtain ⟨t1, t2, t3, t4, t5, t6, t7, t8, t9, t10⟩ := RP.node h6 (by omega) hc hω
      rw [zbd_of (node_e (β := β - 1) hc t9 (by omega)), ← hω]
      have hsc : a.1.2.2.2.1 = st.2.2.2.1 := g10
      have hcat : cat (nd l k nl) a.2 = nd l k (nd l2 k2 nl) := by rw [g1]; rfl
      rcases hbz with ⟨rfl, rfl, hk⟩ | ⟨rfl, rfl, hk⟩
      · rw [if_pos rfl, xq_equation_56, kW_equation_56]
        rw [show s + 1 - 1 = s by omega] at t1
        have hx : EX ω (zI ω 3000 0) := EX.of ⟨zI_o, zI_o, zI_o⟩ (fun _ _ => rfl)
        refine (XY.ret (σ := ω) (r := c) ⟨RFo.x hx ⟨⟨1, t9, by omega, by rw [t8]; rw [if_neg (by omega)]; rfl, ?_⟩, ?_⟩, t1.f (by decide), (hxr.tr t2).tr hx, hsc⟩).fr ((hfu.tr hF4).tr t3)
        · rw [t5, t6, t7]
          refine Or.inl ⟨l, k, l2, k2, ?_, rfl, ht2.x t2, hv2.x t2⟩
          rw [hcat, if_neg (by omega)]
        · show hgt (_, _) ≤ _
          rw [if_neg (by omega), t4]
          show (1 : Int) ≤ _
          omega
      · rw [if_neg (by decide), if_pos (by omega)]
        obtain ⟨ψ, hψ⟩ : ∃ w, w = zI (zA (zA (zA (zA ω 30 (c + 1) 1) 31 (c + 1) c) 32 (c + 1) 0) 33 (c + 1) 1) 37 (c + 1 + 1) := ⟨_, rfl⟩
        rw [show s + 2 - 1 = s + 1 by omega] at t1
        obtain ⟨w1, w2, w3, w4, w5, w6, w7, w8, w9, w10⟩ := RP.node t1 s0 t4 hψ
        rw [zbd_of (node_e (β := β - 1) t4 w9 (by omega)), ← hψ, xq_equation_56, kW_equation_56]
        have hx : EX ψ (zI ψ 3000 0) := EX.of ⟨zI_o, zI_o, zI_o⟩ (fun _ _ => rfl)
        refine (XY.ret (σ := ψ) (r := c + 1) ⟨RFo.x hx ⟨⟨1, w9, by omega, by rw [w8]; rw [if_pos hk]; rfl, ?_⟩, ?_⟩, w1.f (by decide), ((hxr.tr t2).tr w2).tr hx, hsc⟩).fr (((hfu.tr hF4).tr t3).tr w3)
        · obtain ⟨b1, b2', b3, b4⟩ := w2.2.2.1 c t9 (by omega)
          refine Or.inr (Or.inl ⟨l, k, l2, k2, c, ?_, w5, w6, t9, by omega, by rw [b1]; exact t5, by rw [b2', t6]; exact (ht2.x t2).x w2, by rw [b3, t7]; exact (hv2.x t2).x w2⟩)
          rw [hcat, if_pos hk]
        · show hgt (_, _) ≤ _
          rw [if_pos hk, w4]
          show (1 : Int) ≤ _
          omega
  rcases hq with hq | hq
  · rw [if_neg (by omega)]
    exact go 0 1 (Or.inl ⟨rfl, rfl, hq⟩)
  · rw [if_pos hq]
    exact go 1 2 (Or.inr ⟨rfl, rfl, hq⟩)
