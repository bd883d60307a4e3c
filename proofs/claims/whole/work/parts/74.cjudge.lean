/-! which side is GREATER, which LITERALS are ELIGIBLE -/
def gTm (x y : Tm) : Prop := gT x.1 x.2 y.1 y.2
noncomputable def ordL (a : Lt) : Int := @ite _ (gTm a.2.1 a.2.2) (Classical.propDecidable _) 1 (@ite _ (gTm a.2.2 a.2.1) (Classical.propDecidable _) 2 0)
abbrev lwt (a : Lt) : Nat := tw a.2.1 + tw a.2.2
/-- the SELECTED one -/
def selQ : List Lt → Nat → Option Nat → Nat → Option Nat
  | [], _, b, _ => b
  | a :: C, i, b, w => if ¬ a.1 = 1 ∧ w < lwt a then selQ C (i + 1) (some i) (lwt a) else selQ C (i + 1) b w
def selI (C : List Lt) : Option Nat := selQ C 0 none 0
/-- what is in both goes -/
def rm (a b : Lt) (i j : Int) (Z : (Int → Prop) × (Int → Prop)) : (Int → Prop) × (Int → Prop) := (fun u => Z.1 u ∧ ¬ ((Z.1 i ∧ Z.2 j ∧ sdT a i = sdT b j) ∧ u = i), fun u => Z.2 u ∧ ¬ ((Z.1 i ∧ Z.2 j ∧ sdT a i = sdT b j) ∧ u = j))
def rm4 (a b : Lt) : (Int → Prop) × (Int → Prop) := rm a b 1 1 (rm a b 1 0 (rm a b 0 1 (rm a b 0 0 (fun _ => True, fun _ => True))))
/-- of two =, the first is GREATER -/
def gL (a b : Lt) : Prop := (∀ j, (j = 0 ∨ j = 1) → (rm4 a b).2 j → ∃ i, (i = 0 ∨ i = 1) ∧ (rm4 a b).1 i ∧ gTm (sdT a i) (sdT b j)) ∧ ((rm4 a b).1 0 ∨ (rm4 a b).1 1)
def elI (C : List Lt) (i : Nat) : Prop := match selI C with
  | some s => s = i
  | none => ∀ (j : Nat) (a b : Lt), j ≠ i → C[j]? = some a → C[i]? = some b → ¬ gL a b
/-- what is known of SYMBOLS and cells -/
def Cy (ar : Int → Nat) (m9 : Int) (σ : zS) : Prop := ArC σ ar (lb m9) ∧ m9 ≤ 551 ∧ 0 ≤ σ.1 4701 ∧ σ.1 4701 ≤ (σ.2.2 48 : Int) ∧ σ.2.2 48 ≤ 565000
theorem HL.gr {ar : Int → Nat} {m9 : Int} {σ : zS} (hC : Cy ar m9 σ) {p q : Int} {a b : Lt} (ha : HL σ p a) (hb : HL σ q b) {i j : Int} (wa : wf ar (lb m9) (tt (sdT a i))) (wb : wf ar (lb m9) (tt (sdT b j))) (t1 : tw (sdT a i) ≤ 100) {β : Nat} (hβ : 2 ≤ β) : ∃ τ, yE tC_Sym_greater_48_48 β σ [sdp p a i, sdp q b j] = some (τ, b2 (gTm (sdT a i) (sdT b j))) ∧ Sa 13 σ τ := by
  obtain ⟨h1, h2, h3⟩ := ha.sd (s := i)
  obtain ⟨g1, g2, g3⟩ := hb.sd (s := j)
  obtain ⟨c1, c2, c3, c4, c5⟩ := hC
  exact gre48_48 c2 c1 (by omega) (by omega) (by omega) hβ h1 g1 wa wb h2 (by omega) g2 (by omega)
theorem HL.sm {ar : Int → Nat} {m9 : Int} {σ : zS} (hC : Cy ar m9 σ) {p q : Int} {a b : Lt} (ha : HL σ p a) (hb : HL σ q b) {i j : Int} (wa : wf ar (lb m9) (tt (sdT a i))) (wb : wf ar (lb m9) (tt (sdT b j))) {β : Nat} (hβ : 1 ≤ β) : yE tC_Sym_same_48_48 β σ [sdp p a i, sdp q b j] = some (σ, b2 (sdT a i = sdT b j)) := by
  obtain ⟨h1, h2, h3⟩ := ha.sd (s := i)
  obtain ⟨g1, g2, g3⟩ := hb.sd (s := j)
  obtain ⟨c1, c2, c3, c4, c5⟩ := hC
  exact same48_48 c1 (by omega) hβ h1 g1 wa wb h2 (by omega) g2 (by omega)
/-- bits of two numbers tell what is left -/
theorem zand1 (x : Int) : zand x 1 = 0 ∨ zand x 1 = 1 := by
  have key : ∀ z : BitVec 32, z &&& 1#32 = 1#32 ∨ z &&& 1#32 = 0#32 := fun z => by
    by_cases hz : z.getLsbD 0 = true
    · left
      apply BitVec.eq_of_getLsbD_eq
      intro k hk
      rw [BitVec.getLsbD_and]
      by_cases k0 : k = 0
      · subst k0; rw [hz]; rfl
      · have : (1#32).getLsbD k = false := by simp [BitVec.getLsbD_one, k0]
        rw [this]; simp
    · right
      apply BitVec.eq_of_getLsbD_eq
      intro k hk
      rw [BitVec.getLsbD_and]
      by_cases k0 : k = 0
      · subst k0; rw [show z.getLsbD 0 = false from by cases h : z.getLsbD 0 with | true => exact absurd h hz | false => rfl]; simp
      · have : (1#32).getLsbD k = false := by simp [BitVec.getLsbD_one, k0]
        rw [this]; simp
  have e : zand x 1 = (i32 x &&& 1).toInt := rfl
  rcases key (i32 x).toBitVec with h | h
  · right
    have : (i32 x &&& 1) = 1 := Int32.toBitVec_inj.mp (by rw [Int32.toBitVec_and]; exact h)
    rw [e, this]; decide
  · left
    have : (i32 x &&& 1) = 0 := Int32.toBitVec_inj.mp (by rw [Int32.toBitVec_and]; exact h)
    rw [e, this]; decide
theorem zand_le {a b : Int} (h0 : 0 ≤ a) (h1 : a < 4096) : 0 ≤ zand a b ∧ zand a b ≤ a := by
  have e : (i32 a &&& i32 b).toBitVec.toNat ≤ a.toNat := by
    rw [Int32.toBitVec_and, BitVec.toNat_and, i32_nn h0 (by omega)]
    exact Nat.and_le_left
  have := to_nn (x := i32 a &&& i32 b) (by omega)
  unfold zand
  rw [this]; omega
def Bz (A : Int) (X : Int → Prop) : Prop := 0 ≤ A ∧ A ≤ 3 ∧ ∀ u, (u = 0 ∨ u = 1) → (bt A u ↔ X u)
theorem Bz.z {A : Int} {X : Int → Prop} (h : Bz A X) : A = 0 ↔ ¬ (X 0 ∨ X 1) := by
  obtain ⟨h0, h1, h2⟩ := h
  rw [← h2 0 (Or.inl rfl), ← h2 1 (Or.inr rfl)]
  have : A = 0 ∨ A = 1 ∨ A = 2 ∨ A = 3 := by omega
  rcases this with rfl | rfl | rfl | rfl
  · simp [bt_0]
  · have : bt 1 0 := by unfold bt; decide
    simp [this]
  · have : bt 2 1 := by unfold bt; decide
    simp [this]
  · have : bt 3 0 := by unfold bt; decide
    simp [this]
theorem ig_step {ar : Int → Nat} {m9 : Int} {σ : zS} (hC : Cy ar m9 σ) {p q : Int} {a b : Lt} (ha : HL σ p a) (hb : HL σ q b) (wa : ∀ i, wf ar (lb m9) (tt (sdT a i))) (wb : ∀ j, wf ar (lb m9) (tt (sdT b j))) {β : Nat} (hβ : 2 ≤ β) {A B i j : Int} {Z : (Int → Prop) × (Int → Prop)} (hA : Bz A Z.1) (hB : Bz B Z.2) (hi : i = 0 ∨ i = 1) (hj : j = 0 ∨ j = 1) : ∃ A2 B2, yE tC_Sto_isGreater_p17 β σ [p, q, A, B, i, j] = yE tC_Sto_isGreater_p17 β σ [p, q, A2, B2, i, j + 1] ∧ Bz A2 (rm a b i j Z).1 ∧ Bz B2 (rm a b i j Z).2 := by
  have e114 : ∀ A B x : Int, yE tC_Sto_isGreater_p114 β σ [p, q, A, B, i, j, x] = yE tC_Sto_isGreater_p17 β σ [p, q, A, B, i, j + 1] := fun A B x => by rw [yq_Sto_isGreater_p114, kY_Sto_isGreater_p114, if_pos (by omega)]
  have tA := bt_test (a := A) (i := i) (by omega) (by omega)
  have tB := bt_test (a := B) (i := j) (by omega) (by omega)
  rw [hA.2.2 i hi] at tA
  rw [hB.2.2 j hj] at tB
  have keep : ¬ (Z.1 i ∧ Z.2 j ∧ sdT a i = sdT b j) → Bz A (rm a b i j Z).1 ∧ Bz B (rm a b i j Z).2 := fun n => by
    refine ⟨⟨hA.1, hA.2.1, fun u hu => ?_⟩, ⟨hB.1, hB.2.1, fun u hu => ?_⟩⟩
    · rw [hA.2.2 u hu]; show Z.1 u ↔ Z.1 u ∧ ¬ (_ ∧ u = i); simp [n]
    · rw [hB.2.2 u hu]; show Z.2 u ↔ Z.2 u ∧ ¬ (_ ∧ u = j); simp [n]
  have e48 : yE tC_Sto_isGreater_p48 β σ [p, q, A, B, i, j] = yE tC_Sto_isGreater_p17 β σ [p, q, A, B, i, j + 1] := by rw [yq_Sto_isGreater_p48, kY_Sto_isGreater_p48, yq_Sto_isGreater_p49, kY_Sto_isGreater_p49, if_pos rfl, e114]
  rw [yq_Sto_isGreater_p17, kY_Sto_isGreater_p17, if_neg (by omega)]
  by_cases z1 : Z.1 i
  · rw [if_pos (tA.mpr z1)]
    by_cases z2 : Z.2 j
    · rw [if_pos (tB.mpr z2), yq_Sto_isGreater_p49, kY_Sto_isGreater_p49, if_neg (by decide), if_pos (by omega), zbd_of (side_ok ha hi), if_pos (by omega), zbd_of (side_ok hb hj), if_pos (by omega), zbd_of (HL.sm hC ha hb (wa i) (wb j) (by omega))]
      by_cases z3 : sdT a i = sdT b j
      · rw [b2_t z3, if_neg (by decide), e114]
        refine ⟨_, _, rfl, ?_, ?_⟩
        · have hA3 := hA.2.1
          obtain ⟨s1, s2⟩ := zand_le (b := -1 - zshl 1 i) hA.1 (by omega)
          refine ⟨s1, by omega, fun u hu => ?_⟩
          rw [bt_and, bt_not (by omega), bt_shl (by omega) (by omega) (by omega) (by omega), hA.2.2 u hu]
          show Z.1 u ∧ ¬ u = i ↔ Z.1 u ∧ ¬ (_ ∧ u = i)
          simp [z1, z2, z3]
        · have hB3 := hB.2.1
          obtain ⟨s1, s2⟩ := zand_le (b := -1 - zshl 1 j) hB.1 (by omega)
          refine ⟨s1, by omega, fun u hu => ?_⟩
          rw [bt_and, bt_not (by omega), bt_shl (by omega) (by omega) (by omega) (by omega), hB.2.2 u hu]
          show Z.2 u ∧ ¬ u = j ↔ Z.2 u ∧ ¬ (_ ∧ u = j)
          simp [z1, z2, z3]
      · rw [b2_f z3, if_pos rfl, e114]
        exact ⟨A, B, rfl, keep (fun w => z3 w.2.2)⟩
    · rw [if_neg (fun w => z2 (tB.mp w)), e48]
      exact ⟨A, B, rfl, keep (fun w => z2 w.2.1)⟩
  · rw [if_neg (fun w => z1 (tA.mp w)), e48]
    exact ⟨A, B, rfl, keep (fun w => z1 w.1)⟩
/-- is there a GREATER one among what is left -/
theorem ig_below {ar : Int → Nat} {m9 : Int} {p q : Int} {a b : Lt} (wa : ∀ i, wf ar (lb m9) (tt (sdT a i))) (wb : ∀ j, wf ar (lb m9) (tt (sdT b j))) (ta : ∀ i, tw (sdT a i) ≤ 100) {β : Nat} (hβ : 3 ≤ β) {A B : Int} {X : Int → Prop} (hA : Bz A X) {j : Int} (hj : j = 0 ∨ j = 1) : ∀ (m : Nat) (σ : zS) (i : Int), Cy ar m9 σ → HL σ p a → HL σ q b → 0 ≤ i → i + (m : Int) = 2 → ∃ τ x, yE tC_Sto_isGreater_p155 β σ [p, q, A, B, j, 0, i] = yE tC_Sto_isGreater_p227 β τ [p, q, A, B, j, b2 (∃ u, i ≤ u ∧ u < 2 ∧ X u ∧ gTm (sdT a u) (sdT b j)), x] ∧ Sa 13 σ τ
  | 0, σ, i, hC, ha, hb, h0, hm => by
    refine ⟨σ, i, ?_, Sa.refl⟩
    rw [yq_Sto_isGreater_p155, kY_Sto_isGreater_p155, if_pos (by omega), b2_f (fun ⟨u, x, y, _⟩ => by omega)]
  | m + 1, σ, i, hC, ha, hb, h0, hm => by
    have hi : i = 0 ∨ i = 1 := by omega
    have tA := bt_test (a := A) (i := i) (by omega) (by omega)
    rw [hA.2.2 i hi] at tA
    have go : ∀ τ : zS, Sa 13 σ τ → ¬ (X i ∧ gTm (sdT a i) (sdT b j)) → ∃ τ2 x, yE tC_Sto_isGreater_p218 β τ [p, q, A, B, j, 0, i] = yE tC_Sto_isGreater_p227 β τ2 [p, q, A, B, j, b2 (∃ u, i ≤ u ∧ u < 2 ∧ X u ∧ gTm (sdT a u) (sdT b j)), x] ∧ Sa 13 σ τ2 := fun τ S n => by
      have hC2 : Cy ar m9 τ := ⟨hC.1.q (fun q => S.2.2 7 q (by decide)), hC.2.1, by rw [S.1]; exact hC.2.2.1, by rw [S.1, S.2.1]; exact hC.2.2.2.1, by rw [S.2.1]; exact hC.2.2.2.2⟩
      have hl : ∀ {p : Int} {a : Lt}, HL σ p a → HL τ p a := fun h => by
        have e : ∀ q, τ.2.1 48 q = σ.2.1 48 q := fun q => S.2.2 48 q (by decide)
        obtain ⟨a1, a2, a3, a4, a5, a6, a7, a8, a9⟩ := h
        exact ⟨by rw [e]; exact a1, by rw [e]; exact a2, by rw [e]; exact a3, Fl_q (fun i _ _ => e i) a4, Fl_q (fun i _ _ => e i) a5, a6, by rw [S.1]; exact a7, by rw [S.1, S.2.1]; exact a8, by rw [S.2.1]; exact a9⟩
      obtain ⟨τ2, x, t1, t2⟩ := ig_below wa wb ta hβ (B := B) hA hj m τ (i + 1) hC2 (hl ha) (hl hb) (by omega) (by omega)
      refine ⟨τ2, x, ?_, S.trans t2⟩
      rw [yq_Sto_isGreater_p218, kY_Sto_isGreater_p218, yq_Sto_isGreater_p219, kY_Sto_isGreater_p219, if_pos (by omega), t1]
      congr 2
      have : b2 (∃ u, i + 1 ≤ u ∧ u < 2 ∧ X u ∧ gTm (sdT a u) (sdT b j)) = b2 (∃ u, i ≤ u ∧ u < 2 ∧ X u ∧ gTm (sdT a u) (sdT b j)) := b2_c ⟨fun ⟨u, h1, h2, h3⟩ => ⟨u, by omega, h2, h3⟩, fun ⟨u, h1, h2, h3⟩ => ⟨u, by
        by_cases e : u = i
        · subst e; exact absurd h3 n
        · omega, h2, h3⟩⟩
      rw [this]
    rw [yq_Sto_isGreater_p155, kY_Sto_isGreater_p155, if_neg (by omega), if_pos rfl]
    by_cases hX : X i
    · obtain ⟨τ, t1, S⟩ := HL.gr hC ha hb (wa i) (wb j) (ta i) (β := β - 1) (by omega)
      rw [if_pos (tA.mpr hX), if_pos (by omega), zbd_of (side_ok ha hi), if_pos (by omega), zbd_of (side_ok hb hj), if_pos (by omega), zbd_of t1]
      by_cases hg : gTm (sdT a i) (sdT b j)
      · refine ⟨τ, i + 1, ?_, S⟩
        rw [b2_t hg, if_neg (by decide), yq_Sto_isGreater_p219, kY_Sto_isGreater_p219, if_pos (by omega), b2_t ⟨i, by omega, by omega, hX, hg⟩, yq_Sto_isGreater_p155, kY_Sto_isGreater_p155]
        by_cases h2 : 2 ≤ i + 1
        · rw [if_pos h2]
        · rw [if_neg h2, if_neg (by decide)]
      · rw [b2_f hg, if_pos rfl]
        exact go τ S (fun w => hg w.2)
    · rw [if_neg (fun w => hX (tA.mp w))]
      exact go σ Sa.refl (fun w => hX w.1)
theorem HL.s {σ τ : zS} (S : Sa 13 σ τ) {p : Int} {a : Lt} (h : HL σ p a) : HL τ p a := by
  have e : ∀ q, τ.2.1 48 q = σ.2.1 48 q := fun q => S.2.2 48 q (by decide)
  obtain ⟨a1, a2, a3, a4, a5, a6, a7, a8, a9⟩ := h
  exact ⟨by rw [e]; exact a1, by rw [e]; exact a2, by rw [e]; exact a3, Fl_q (fun i _ _ => e i) a4, Fl_q (fun i _ _ => e i) a5, a6, by rw [S.1]; exact a7, by rw [S.1, S.2.1]; exact a8, by rw [S.2.1]; exact a9⟩
theorem Cy.s {ar : Int → Nat} {m9 : Int} {σ τ : zS} (S : Sa 13 σ τ) (hC : Cy ar m9 σ) : Cy ar m9 τ := ⟨hC.1.q (fun q => S.2.2 7 q (by decide)), hC.2.1, by rw [S.1]; exact hC.2.2.1, by rw [S.1, S.2.1]; exact hC.2.2.2.1, by rw [S.2.1]; exact hC.2.2.2.2⟩
theorem ig_all {ar : Int → Nat} {m9 : Int} {p q : Int} {a b : Lt} (wa : ∀ i, wf ar (lb m9) (tt (sdT a i))) (wb : ∀ j, wf ar (lb m9) (tt (sdT b j))) (ta : ∀ i, tw (sdT a i) ≤ 100) {β : Nat} (hβ : 3 ≤ β) {A B : Int} {X Y : Int → Prop} (hA : Bz A X) (hB : Bz B Y) : ∀ (m : Nat) (σ : zS) (j : Int), Cy ar m9 σ → HL σ p a → HL σ q b → 0 ≤ j → j + (m : Int) = 2 → ∃ τ, yE tC_Sto_isGreater_p129 β σ [p, q, A, B, j] = some (τ, b2 ((∀ u, j ≤ u → u < 2 → Y u → ∃ i, (i = 0 ∨ i = 1) ∧ X i ∧ gTm (sdT a i) (sdT b u)) ∧ (X 0 ∨ X 1))) ∧ Sa 13 σ τ
  | 0, σ, j, hC, ha, hb, h0, hm => by
    have hA0 := hA.z
    refine ⟨σ, ?_, Sa.refl⟩
    have e249 : ∀ r : Int, r = 0 ∨ r = 1 → yE tC_Sto_isGreater_p249 β σ [p, q, A, B, j, r] = some (σ, r) := fun r hr => by rw [yq_Sto_isGreater_p249, kY_Sto_isGreater_p249, if_pos hr]
    rw [yq_Sto_isGreater_p129, kY_Sto_isGreater_p129, if_pos (by omega)]
    by_cases hz : A = 0
    · rw [if_pos hz, e249 0 (Or.inl rfl), b2_f (fun w => hA0.mp hz w.2)]
    · rw [if_neg hz, e249 1 (Or.inr rfl), b2_t ⟨fun u x y => by omega, by
        by_cases w : X 0 ∨ X 1
        · exact w
        · exact absurd (hA0.mpr w) hz⟩]
  | m + 1, σ, j, hC, ha, hb, h0, hm => by
    have hj : j = 0 ∨ j = 1 := by omega
    have tB := bt_test (a := B) (i := j) (by omega) (by omega)
    rw [hB.2.2 j hj] at tB
    have t01 : zand (zshr B j) 1 = 0 ↔ ¬ Y j := by
      constructor
      · intro w hY; rw [tB.mpr hY] at w; cases w
      · intro hY
        rcases zand1 (zshr B j) with w | w
        · exact w
        · exact absurd (tB.mp w) hY
    -- the rest, once this one is below
    have go : ∀ (τ : zS) (x : Int), Sa 13 σ τ → (Y j → ∃ i, (i = 0 ∨ i = 1) ∧ X i ∧ gTm (sdT a i) (sdT b j)) → ∃ τ2, yE tC_Sto_isGreater_p227 β τ [p, q, A, B, j, 1, x] = some (τ2, b2 ((∀ u, j ≤ u → u < 2 → Y u → ∃ i, (i = 0 ∨ i = 1) ∧ X i ∧ gTm (sdT a i) (sdT b u)) ∧ (X 0 ∨ X 1))) ∧ Sa 13 σ τ2 := fun τ x S hd => by
      obtain ⟨τ2, t1, t2⟩ := ig_all wa wb ta hβ hA hB m τ (j + 1) (hC.s S) (ha.s S) (hb.s S) (by omega) (by omega)
      refine ⟨τ2, ?_, S.trans t2⟩
      rw [yq_Sto_isGreater_p227, kY_Sto_isGreater_p227, if_neg (by decide), if_pos (by omega), t1]
      congr 2
      refine b2_c ⟨fun w => ⟨fun u u0 u1 hu => ?_, w.2⟩, fun w => ⟨fun u u0 u1 hu => w.1 u (by omega) u1 hu, w.2⟩⟩
      by_cases e : u = j
      · subst e; exact hd hu
      · exact w.1 u (by omega) u1 hu
    rw [yq_Sto_isGreater_p129, kY_Sto_isGreater_p129, if_neg (by omega)]
    by_cases hY : Y j
    · obtain ⟨τ, x, t1, S⟩ := ig_below wa wb ta hβ (B := B) hA hj 2 σ 0 hC ha hb (by omega) (by omega)
      rw [if_neg (fun w => t01.mp w hY), yq_Sto_isGreater_p150, kY_Sto_isGreater_p150, t1]
      have eqv : (∃ u, 0 ≤ u ∧ u < 2 ∧ X u ∧ gTm (sdT a u) (sdT b j)) ↔ ∃ i, (i = 0 ∨ i = 1) ∧ X i ∧ gTm (sdT a i) (sdT b j) := ⟨fun ⟨u, h1, h2, h3⟩ => ⟨u, by omega, h3⟩, fun ⟨u, h1, h3⟩ => ⟨u, by omega, by omega, h3⟩⟩
      by_cases hd : ∃ u, 0 ≤ u ∧ u < 2 ∧ X u ∧ gTm (sdT a u) (sdT b j)
      · rw [b2_t hd]
        exact go τ x S (fun _ => eqv.mp hd)
      · refine ⟨τ, ?_, S⟩
        rw [b2_f hd, yq_Sto_isGreater_p227, kY_Sto_isGreater_p227, if_pos rfl, b2_f (fun w => hd (eqv.mpr (w.1 j (by omega) (by omega) hY)))]
    · rw [if_pos (t01.mpr hY), yq_Sto_isGreater_p150, kY_Sto_isGreater_p150, yq_Sto_isGreater_p155, kY_Sto_isGreater_p155, if_neg (by decide), if_neg (by decide)]
      exact go σ 0 Sa.refl (fun w => absurd w hY)
theorem isGreater_ok {ar : Int → Nat} {m9 : Int} {σ : zS} (hC : Cy ar m9 σ) {p q : Int} {a b : Lt} (ha : HL σ p a) (hb : HL σ q b) (wa : ∀ i, wf ar (lb m9) (tt (sdT a i))) (wb : ∀ j, wf ar (lb m9) (tt (sdT b j))) (ta : ∀ i, tw (sdT a i) ≤ 100) {β : Nat} (hβ : 3 ≤ β) : ∃ τ, yE tC_Sto_isGreater β σ [p, q] = some (τ, b2 (gL a b)) ∧ Sa 13 σ τ := by
  have b3 : Bz 3 (fun _ => True) := ⟨by omega, by omega, fun u hu => by
    have : bt 3 u := by rcases hu with rfl | rfl <;> · unfold bt; decide
    simp [this]⟩
  obtain ⟨A1, B1, e1, x1, y1⟩ := ig_step hC ha hb wa wb (β := β) (by omega) (Z := (fun _ => True, fun _ => True)) b3 b3 (Or.inl rfl) (Or.inl rfl)
  obtain ⟨A2, B2, e2, x2, y2⟩ := ig_step hC ha hb wa wb (β := β) (by omega) x1 y1 (Or.inl rfl) (Or.inr rfl)
  obtain ⟨A3, B3, e3, x3, y3⟩ := ig_step hC ha hb wa wb (β := β) (by omega) x2 y2 (Or.inr rfl) (Or.inl rfl)
  obtain ⟨A4, B4, e4, x4, y4⟩ := ig_step hC ha hb wa wb (β := β) (by omega) x3 y3 (Or.inr rfl) (Or.inr rfl)
  have en : ∀ A B i : Int, (i = 0 ∨ i = 1) → yE tC_Sto_isGreater_p17 β σ [p, q, A, B, i, 1 + 1] = yE tC_Sto_isGreater_p8 β σ [p, q, A, B, i + 1] := fun A B i hi => by rw [yq_Sto_isGreater_p17, kY_Sto_isGreater_p17, if_pos (by omega), if_pos (by omega)]
  have e8 : ∀ A B i : Int, (i = 0 ∨ i = 1) → yE tC_Sto_isGreater_p8 β σ [p, q, A, B, i] = yE tC_Sto_isGreater_p17 β σ [p, q, A, B, i, 0] := fun A B i hi => by rw [yq_Sto_isGreater_p8, kY_Sto_isGreater_p8, if_neg (by omega)]
  obtain ⟨τ, t1, S⟩ := ig_all wa wb ta hβ x4 y4 2 σ 0 hC ha hb (by omega) (by omega)
  refine ⟨τ, ?_, S⟩
  rw [yq_Sto_isGreater, kY_Sto_isGreater, e8 _ _ _ (Or.inl rfl), e1, show (0 : Int) + 1 = 1 from rfl, e2, en _ _ _ (Or.inl rfl), show (0 : Int) + 1 = 1 from rfl, e8 _ _ _ (Or.inr rfl), e3, show (0 : Int) + 1 = 1 from rfl, e4, en _ _ _ (Or.inr rfl), yq_Sto_isGreater_p8, kY_Sto_isGreater_p8, if_pos (by decide), t1]
  congr 2
  refine b2_c ⟨fun w => ⟨fun j hj hy => w.1 j (by omega) (by omega) hy, w.2⟩, fun w => ⟨fun u u0 u1 hu => w.1 u (by omega) hu, w.2⟩⟩
