/-! the reference: LITERALS are judged -/
theorem gl_ok {ar : Int → Nat} {m9 : Int} {a b : Lt} {β : Nat} (hβ : 211 ≤ β) {σ : zS} {i j : Int} (i0 : 0 ≤ i) (i1 : i < 16100) (j0 : 0 ≤ j) (j1 : j < 16100) (ha : RLi σ i a) (hb : RLi σ j b) (sa : a.1 = 1) (sb' : b.1 = 1) (wa1 : wf ar (lb m9) (tt a.2.1)) (wa2 : wf ar (lb m9) (tt a.2.2)) (wb1 : wf ar (lb m9) (tt b.2.1)) (wb2 : wf ar (lb m9) (tt b.2.2)) (la : lwt a ≤ 100) (lb' : lwt b ≤ 100) : ∃ τ, zE tM_greaterLiteral β σ [i, j] = some (τ, b2 (gL a b)) ∧ FrC [] [102, 103, 104] σ τ := by
  have ea : lwt a = tw a.2.1 + tw a.2.2 := rfl
  have eb : lwt b = tw b.2.1 + tw b.2.2 := rfl
  obtain ⟨σ1, hσ1⟩ : ∃ z, z = zA (zA σ 103 0 (σ.2.1 66 i)) 103 1 (σ.2.1 67 i) := ⟨_, rfl⟩
  have f1 : FrC [] [102, 103, 104] σ σ1 := by
    have c : FrC [] [102, 103, 104] σ (zA σ 103 0 (σ.2.1 66 i)) := FrC_A
    rw [hσ1]; exact c.trans FrC_A
  have s1 : zE tM_sides_many (β - 1) σ [i] = some (σ1, 2) := by
    rw [zq_sides_many, kZ_sides_many, if_pos (by omega), if_pos (by decide), lt_e, if_pos (by decide), zA_j, lt_e, ← hσ1, f1.a 68, ha.2.2.2.2.1, if_neg (by omega)]
  obtain ⟨σ2, hσ2⟩ : ∃ z, z = zA (zA σ1 104 0 (σ1.2.1 66 j)) 104 1 (σ1.2.1 67 j) := ⟨_, rfl⟩
  have f2 : FrC [] [102, 103, 104] σ1 σ2 := by
    have c : FrC [] [102, 103, 104] σ1 (zA σ1 104 0 (σ1.2.1 66 j)) := FrC_A
    rw [hσ2]; exact c.trans FrC_A
  have s2 : zE tM_sides_others (β - 1) σ1 [j] = some (σ2, 2) := by
    rw [zq_sides_others, kZ_sides_others, if_pos (by omega), if_pos (by decide), lt_e, if_pos (by decide), zA_j, lt_e, ← hσ2, f2.a 68, f1.a 68, hb.2.2.2.2.1, if_neg (by omega)]
  have f12 := f1.trans f2
  obtain ⟨A, hA⟩ : ∃ A : Int → Int, A = fun u => if u = 0 then σ.2.1 66 i else σ.2.1 67 i := ⟨_, rfl⟩
  obtain ⟨B, hB⟩ : ∃ B : Int → Int, B = fun u => if u = 0 then σ.2.1 66 j else σ.2.1 67 j := ⟨_, rfl⟩
  have SA : SdA ar m9 σ2 a A := fun u hu => by
    rw [hA]
    rcases hu with rfl | rfl
    · exact ⟨Px_q ha.1 f12.pq, wa1, by show tw a.2.1 ≤ 100; omega⟩
    · exact ⟨Px_q ha.2.1 f12.pq, wa2, by show tw a.2.2 ≤ 100; omega⟩
  have SB : SdA ar m9 σ2 b B := fun u hu => by
    rw [hB]
    rcases hu with rfl | rfl
    · exact ⟨Px_q hb.1 f12.pq, wb1, by show tw b.2.1 ≤ 100; omega⟩
    · exact ⟨Px_q hb.2.1 f12.pq, wb2, by show tw b.2.2 ≤ 100; omega⟩
  have Z0 : LMz σ2 A B (fun _ => True, fun _ => True) := fun u hu => by
    refine ⟨fun _ => ?_, fun w => absurd trivial w, fun _ => ?_, fun w => absurd trivial w⟩
    · rw [hσ2, zA_j, zA_j, hσ1, hA]
      rcases hu with rfl | rfl
      · rw [zA_i (by decide), zA_s]; rfl
      · rw [zA_s]; rfl
    · rw [hσ2, hB]
      rcases hu with rfl | rfl
      · rw [zA_i (by decide), zA_s, f1.a 66]; rfl
      · rw [zA_s, f1.a 67]; rfl
  obtain ⟨σ3, u1, g1, Z1⟩ := gl_st (β := β) (x0 := i) (x1 := j) (by omega) SA SB Z0 (p := 0) (q := 0) (Or.inl rfl) (Or.inl rfl)
  obtain ⟨σ4, u2, g2, Z2⟩ := gl_st (β := β) (x0 := i) (x1 := j) (by omega) (SA.f g1) (SB.f g1) Z1 (p := 0) (q := 1) (Or.inl rfl) (Or.inr rfl)
  have g12 := g1.trans g2
  obtain ⟨σ5, u3, g3, Z3⟩ := gl_st (β := β) (x0 := i) (x1 := j) (by omega) (SA.f g12) (SB.f g12) Z2 (p := 1) (q := 0) (Or.inr rfl) (Or.inl rfl)
  have g13 := g12.trans g3
  obtain ⟨σ6, u4, g4, Z4⟩ := gl_st (β := β) (x0 := i) (x1 := j) (by omega) (SA.f g13) (SB.f g13) Z3 (p := 1) (q := 1) (Or.inr rfl) (Or.inr rfl)
  have g14 := g13.trans g4
  have Z4' : LMz σ6 A B (rm4 a b) := Z4
  have fT : FrC [] [102, 103, 104] σ σ6 := f12.trans g14.w
  rw [show (0 : Int) + 1 = 1 by omega] at u1 u3
  rw [show (1 : Int) + 1 = 2 by omega] at u2 u4
  have go : zE tM_greaterLiteral β σ [i, j] = zE tM_greaterLiteral_118 β σ6 [i, j, 2, 2, 0, 0] := by
    rw [zq_greaterLiteral, kZ_greaterLiteral, if_pos (by omega), zbd_of s1, if_pos (by omega), zbd_of s2, zq_greaterLiteral_24, kZ_greaterLiteral_24, if_neg (by omega), u1, u2, zq_greaterLiteral_33, kZ_greaterLiteral_33, if_pos (by omega), if_pos (by omega), zq_greaterLiteral_24, kZ_greaterLiteral_24, if_neg (by omega), show (0 : Int) + 1 = 1 by omega, u3, u4, zq_greaterLiteral_33, kZ_greaterLiteral_33, if_pos (by omega), if_pos (by omega), zq_greaterLiteral_24, kZ_greaterLiteral_24, if_pos (by omega)]
  obtain ⟨k1, k2⟩ := gl_118 (β := β) (x0 := i) (x1 := j) (SA.f g14) Z4'
  rw [go]
  by_cases h : (rm4 a b).1 0 ∨ (rm4 a b).1 1
  · obtain ⟨τ, t1, t2⟩ := gl_162 (β := β) (x0 := i) (x1 := j) (by omega) (SA.f g14) (SB.f g14) Z4' (x4 := 1)
    refine ⟨τ, ?_, fT.trans t2.w⟩
    rw [k2 h, t1]
    congr 2
    exact b2_c ⟨fun w => ⟨w, h⟩, fun w => w.1⟩
  · exact ⟨σ6, by rw [k1 h, b2_f (fun w => h w.2)], fT⟩
theorem selQ_some : ∀ {C : List Lt} {i : Nat} {s : Nat} {w : Nat}, selQ C i (some s) w ≠ none
  | [], i, s, w => by simp [selQ]
  | a :: C, i, s, w => by
    unfold selQ
    split
    · exact selQ_some
    · exact selQ_some
theorem selI_all {C : List Lt} (h : selI C = none) : ∀ a ∈ C, a.1 = 1 := by
  have go : ∀ (C : List Lt) (i : Nat), selQ C i none 0 = none → ∀ a ∈ C, a.1 = 1 := by
    intro C
    induction C with
    | nil => intro i _ a ha; cases ha
    | cons b C ih =>
      intro i h a ha
      unfold selQ at h
      by_cases q : ¬ b.1 = 1 ∧ 0 < lwt b
      · rw [if_pos q] at h; exact absurd h selQ_some
      · rw [if_neg q] at h
        have lb : lwt b = (1 + wt b.2.1.2) + (1 + wt b.2.2.2) := rfl
        have hb : b.1 = 1 := by
          by_cases w : b.1 = 1
          · exact w
          · exact absurd ⟨w, by omega⟩ q
        rcases List.mem_cons.mp ha with rfl | ha
        · exact hb
        · exact ih (i + 1) h a ha
  exact go C 0 h
section lk
variable {ar : Int → Nat} {m9 : Int} {Cs : List CL} {k : Nat} {c : CL}
def lq (p : Int) : Option Nat → Int
  | none => -1
  | some s => p + (s : Int)
abbrev LK (σ τ : zS) : Prop := FrC [] [69, 71, 102, 103, 104] σ τ
/-- as far as n -/
theorem lk_22 (hc : Cs[k]? = some c) (wc : Wc ar m9 c.1) {β : Nat} (hβ : 211 ≤ β) : ∀ (m n : Nat) (σ : zS) (sl : Option Nat) (w : Nat), RC σ Cs → n + m = c.1.length → (∀ s, sl = some s → s < n ∧ ∃ a, c.1[s]? = some a ∧ w = lwt a) → (sl = none → w = 0) →
    ∃ τ, zE tM_looked_22 β σ [(k : Int), lpos Cs k, lpos Cs k + (c.1.length : Int), (lq (lpos Cs k) (sl)), lpos Cs k + (n : Int)] = zE tM_looked_131 β τ [(k : Int), lpos Cs k, lpos Cs k + (c.1.length : Int), (lq (lpos Cs k) (selQ (c.1.drop n) n sl w)), lpos Cs k] ∧ LK σ τ ∧ (∀ (i : Nat) a, n ≤ i → c.1[i]? = some a → τ.2.1 69 (lpos Cs k + (i : Int)) = ordL a) ∧ (∀ q, q < lpos Cs k + (n : Int) ∨ lpos Cs k + (c.1.length : Int) ≤ q → τ.2.1 69 q = σ.2.1 69 q) ∧ (∀ q, τ.2.1 71 q = σ.2.1 71 q)
  | 0, n, σ, sl, w, hR, hm, hs, hw => by
    obtain ⟨hk, k1, k2, k3, k4, k5⟩ := hR.k hc
    rw [List.drop_eq_nil_iff.mpr (by omega)]
    refine ⟨σ, ?_, FrC.refl, fun i a h1 h2 => ?_, fun _ _ => rfl, fun _ => rfl⟩
    · rw [zq_looked_22, kZ_looked_22, if_pos (by omega)]; rfl
    · have := (List.getElem?_eq_some_iff.mp h2).1
      omega
  | m + 1, n, σ, sl, w, hR, hm, hs, hw => by
    obtain ⟨hk, k1, k2, k3, k4, k5⟩ := hR.k hc
    obtain ⟨a, ha⟩ : ∃ a, c.1[n]? = some a := ⟨_, List.getElem?_eq_getElem (by omega)⟩
    obtain ⟨l1, l2, l3, l4, l5, l6⟩ := hR.l hc ha
    obtain ⟨wa0, wa1, wa2⟩ := wc.2.2.2.2 a (List.mem_of_getElem? ha)
    have lwm : lwt a ≤ wtL c.1 := wtL_mm (List.mem_of_getElem? ha)
    have ea : lwt a = (1 + wt a.2.1.2) + (1 + wt a.2.2.2) := rfl
    have w100 := wc.2.1
    have h1 := ht_le_wt a.2.1.2
    have h2 := ht_le_wt a.2.2.2
    have hdr : c.1.drop n = a :: c.1.drop (n + 1) := by
      rw [List.drop_eq_getElem_cons (by omega)]
      congr 1
      exact (List.getElem?_eq_some_iff.mp ha).2
    have v1 := wf_mono (fun c (h : lb m9 c) => lb8 h) wa1
    have v2 := wf_mono (fun c (h : lb m9 c) => lb8 h) wa2
    obtain ⟨J, hJ⟩ : ∃ z, z = lpos Cs k + (n : Int) := ⟨_, rfl⟩
    rw [← hJ] at l1 l2 l5 l6 ⊢
    -- its greater side
    obtain ⟨σ1, f1, e1⟩ : ∃ σ1, FrC [] [102] σ σ1 ∧ zE tM_looked_22 β σ [(k : Int), lpos Cs k, lpos Cs k + (c.1.length : Int), (lq (lpos Cs k) (sl)), J] = zE tM_looked_85 β σ1 [(k : Int), lpos Cs k, lpos Cs k + (c.1.length : Int), (lq (lpos Cs k) (sl)), J, ordL a, J] := by
      obtain ⟨ρ1, r1, r2⟩ := greater_ok (β := β - 1) l1.1 l1.2 l2.1 l2.2 v1 v2 (by omega) (by omega) (by omega) (by omega)
      have g1 : FrC [] [102] σ ρ1 := FrC_Sa r2
      rw [zq_looked_22, kZ_looked_22, if_neg (by omega), if_pos (by omega), if_pos (by omega), zbd_of r1]
      unfold ordL
      by_cases q : gTm a.2.1 a.2.2
      · have q' : gT a.2.1.1 a.2.1.2 a.2.2.1 a.2.2.2 := q
        rw [b2_t q', if_neg (by decide), if_pos q]
        exact ⟨ρ1, g1, rfl⟩
      · have q' : ¬ gT a.2.1.1 a.2.1.2 a.2.2.1 a.2.2.2 := q
        have e66 : ρ1.2.1 66 J = σ.2.1 66 J := g1.a 66 J
        have e67 : ρ1.2.1 67 J = σ.2.1 67 J := g1.a 67 J
        obtain ⟨ρ2, p1, p2⟩ := greater_ok (β := β - 1) (Px_q l2 g1.pq).1 l2.2 (Px_q l1 g1.pq).1 l1.2 v2 v1 (by omega) (by omega) (by omega) (by omega)
        have g2 : FrC [] [102] σ ρ2 := g1.trans (FrC_Sa p2)
        rw [b2_f q', if_pos rfl, if_pos (by omega), e66, e67, zbd_of p1, if_neg q]
        by_cases q2 : gTm a.2.2 a.2.1
        · have q2' : gT a.2.2.1 a.2.2.2 a.2.1.1 a.2.1.2 := q2
          rw [b2_t q2', if_neg (by decide), if_pos q2]
          exact ⟨ρ2, g2, rfl⟩
        · have q2' : ¬ gT a.2.2.1 a.2.2.2 a.2.1.1 a.2.1.2 := q2
          rw [b2_f q2', if_pos rfl, if_neg q2]
          exact ⟨ρ2, g2, rfl⟩
    obtain ⟨σ2, hσ2⟩ : ∃ z, z = zA σ1 69 J (ordL a) := ⟨_, rfl⟩
    have f2 : LK σ σ2 := by
      have c1 : LK σ σ1 := f1.w
      rw [hσ2]; exact c1.trans FrC_A
    have R2 := hR.f f2 f2.pq
    have e68 : σ2.2.1 68 J = a.1 := by rw [f2.a 68]; exact l5
    have e70 : σ2.2.1 70 J = (lwt a : Int) := by rw [f2.a 70]; exact l6
    -- the rest
    have rest : ∀ (sl2 : Option Nat) (w2 : Nat), (∀ s, sl2 = some s → s < n + 1 ∧ ∃ a, c.1[s]? = some a ∧ w2 = lwt a) → (sl2 = none → w2 = 0) → selQ (c.1.drop n) n sl w = selQ (c.1.drop (n + 1)) (n + 1) sl2 w2 → ∃ τ, zE tM_looked_122 β σ2 [(k : Int), lpos Cs k, lpos Cs k + (c.1.length : Int), (lq (lpos Cs k) (sl2)), J] = zE tM_looked_131 β τ [(k : Int), lpos Cs k, lpos Cs k + (c.1.length : Int), (lq (lpos Cs k) (selQ (c.1.drop n) n sl w)), lpos Cs k] ∧ LK σ τ ∧ (∀ (i : Nat) a, n ≤ i → c.1[i]? = some a → τ.2.1 69 (lpos Cs k + (i : Int)) = ordL a) ∧ (∀ q, q < J ∨ lpos Cs k + (c.1.length : Int) ≤ q → τ.2.1 69 q = σ.2.1 69 q) ∧ (∀ q, τ.2.1 71 q = σ.2.1 71 q) := fun sl2 w2 b1 b2 es => by
      obtain ⟨τ, t1, t2, t3, t4, t5⟩ := lk_22 hc wc hβ m (n + 1) σ2 sl2 w2 R2 (by omega) b1 b2
      refine ⟨τ, ?_, f2.trans t2, fun i d hi hd => ?_, fun q hq => ?_, fun q => by rw [t5, hσ2, zA_j, f1.a 71]⟩
      · rw [zq_looked_122, kZ_looked_122, if_pos (by omega), es, hJ, show lpos Cs k + (n : Int) + 1 = lpos Cs k + ((n + 1 : Nat) : Int) by omega]
        exact t1
      · by_cases e : i = n
        · rw [e, ha] at hd
          obtain rfl := Option.some.inj hd
          rw [e, t4 _ (Or.inl (by omega)), ← hJ, hσ2, zA_s]
        · exact t3 i d (by omega) hd
      · rw [t4 q (by omega), hσ2, zA_i (by omega), f1.a 69]
    rw [e1, zq_looked_85, kZ_looked_85, if_pos (by omega), lt_e, ← hσ2, if_pos (by omega), e68]
    have stp : selQ (c.1.drop n) n sl w = if ¬ a.1 = 1 ∧ w < lwt a then selQ (c.1.drop (n + 1)) (n + 1) (some n) (lwt a) else selQ (c.1.drop (n + 1)) (n + 1) sl w := by rw [hdr]; rfl
    have up : ¬ a.1 = 1 ∧ w < lwt a → ∃ τ, zE tM_looked_118 β σ2 [(k : Int), lpos Cs k, lpos Cs k + (c.1.length : Int), (lq (lpos Cs k) (sl)), J] = zE tM_looked_131 β τ [(k : Int), lpos Cs k, lpos Cs k + (c.1.length : Int), (lq (lpos Cs k) (selQ (c.1.drop n) n sl w)), lpos Cs k] ∧ LK σ τ ∧ (∀ (i : Nat) a, n ≤ i → c.1[i]? = some a → τ.2.1 69 (lpos Cs k + (i : Int)) = ordL a) ∧ (∀ q, q < J ∨ lpos Cs k + (c.1.length : Int) ≤ q → τ.2.1 69 q = σ.2.1 69 q) ∧ (∀ q, τ.2.1 71 q = σ.2.1 71 q) := fun h => by
      rw [zq_looked_118, kZ_looked_118]
      have := rest (some n) (lwt a) (fun s hs => by cases hs; exact ⟨by omega, a, ha, rfl⟩) (fun h => by cases h) (by rw [stp, if_pos h])
      have e9 : lq (lpos Cs k) (some n) = J := by rw [hJ]; rfl
      rw [e9] at this
      exact this
    have stay : ¬ (¬ a.1 = 1 ∧ w < lwt a) → ∃ τ, zE tM_looked_122 β σ2 [(k : Int), lpos Cs k, lpos Cs k + (c.1.length : Int), (lq (lpos Cs k) (sl)), J] = zE tM_looked_131 β τ [(k : Int), lpos Cs k, lpos Cs k + (c.1.length : Int), (lq (lpos Cs k) (selQ (c.1.drop n) n sl w)), lpos Cs k] ∧ LK σ τ ∧ (∀ (i : Nat) a, n ≤ i → c.1[i]? = some a → τ.2.1 69 (lpos Cs k + (i : Int)) = ordL a) ∧ (∀ q, q < J ∨ lpos Cs k + (c.1.length : Int) ≤ q → τ.2.1 69 q = σ.2.1 69 q) ∧ (∀ q, τ.2.1 71 q = σ.2.1 71 q) := fun h =>
      rest sl w (fun s hs' => ⟨by have := (hs s hs').1; omega, (hs s hs').2⟩) hw (by rw [stp, if_neg h])
    by_cases s0 : a.1 = 0
    · rw [if_pos s0]
      cases sl with
      | none =>
        have w0 := hw rfl
        rw [if_pos (show lq (lpos Cs k) none < 0 from (by decide : (-1 : Int) < 0))]
        exact up ⟨by omega, by omega⟩
      | some s =>
        obtain ⟨hsn, d, hd, hwd⟩ := hs s rfl
        have l6d := (R2.l hc hd).2.2.2.2.2
        have e9 : lq (lpos Cs k) (some s) = lpos Cs k + (s : Int) := rfl
        rw [e9] at up stay ⊢
        rw [if_neg (by omega), if_pos (by omega), e70, l6d]
        by_cases q : (lwt a : Int) ≤ (lwt d : Int)
        · rw [if_pos q]; exact stay (fun w => by omega)
        · rw [if_neg q]; exact up ⟨by omega, by omega⟩
    · rw [if_neg s0]
      exact stay (fun w => by omega)
end lk
