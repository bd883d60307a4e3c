/-! the reference: its tables of SYMBOLS -/
theorem nm_146 {β : Nat} {t : Int} {N : Nat} (hN : N ≤ 250) : ∀ (m k : Nat) (σ : zS), k + m = N → σ.1 20 = (N : Int) → ∃ τ, xE tX_clausify_146 β σ [t, (k : Int) + 1] = xE tX_clausify_195 β τ [t, 0] ∧ FrC [] [48, 49] σ τ ∧ ∀ q : Int, (((k : Int) + 1 ≤ q ∧ q ≤ (N : Int)) → τ.2.1 48 q = σ.2.1 15 q ∧ τ.2.1 49 q = (if σ.2.1 16 q = 1 then 1 else 0)) ∧ (¬ ((k : Int) + 1 ≤ q ∧ q ≤ (N : Int)) → τ.2.1 48 q = σ.2.1 48 q ∧ τ.2.1 49 q = σ.2.1 49 q)
  | 0, k, σ, hk, h20 => by
    refine ⟨σ, ?_, FrC.refl, fun q => ⟨fun h => by omega, fun _ => ⟨rfl, rfl⟩⟩⟩
    rw [xq_clausify_146, kW_clausify_146, h20, if_pos (by omega)]
  | m + 1, k, σ, hk, h20 => by
    obtain ⟨σ1, hσ1⟩ : ∃ z, z = zA σ 48 ((k : Int) + 1) (σ.2.1 15 ((k : Int) + 1)) := ⟨_, rfl⟩
    obtain ⟨y, hy⟩ : ∃ y : Int, y = (if σ.2.1 16 ((k : Int) + 1) = 1 then 1 else 0) := ⟨_, rfl⟩
    obtain ⟨σ2, hσ2⟩ : ∃ z, z = zA σ1 49 ((k : Int) + 1) y := ⟨_, rfl⟩
    have f1 : FrC [] [48, 49] σ σ1 := by rw [hσ1]; exact FrC_A
    have f2 : FrC [] [48, 49] σ σ2 := by rw [hσ2]; exact f1.trans FrC_A
    obtain ⟨τ, t1, t2, t3⟩ := nm_146 (β := β) (t := t) hN m (k + 1) σ2 (by omega) (by rw [f2.i 20]; exact h20)
    have y01 : y = 0 ∨ y = 1 := by rw [hy]; split <;> simp
    refine ⟨τ, ?_, f2.trans t2, fun q => ?_⟩
    · have e186 : xE tX_clausify_186 β σ1 [t, (k : Int) + 1, y, (k : Int) + 1] = xE tX_clausify_195 β τ [t, 0] := by
        rw [xq_clausify_186, kW_clausify_186, if_pos ⟨by omega, by omega⟩, if_pos y01, lt_e, ← hσ2, if_pos ⟨by omega, by omega⟩]
        exact t1
      rw [xq_clausify_146, kW_clausify_146, h20, if_neg (by omega), if_pos ⟨by omega, by omega⟩, lt_e, ← hσ1, f1.a 16]
      by_cases c : σ.2.1 16 ((k : Int) + 1) = 1
      · rw [if_pos c] at hy ⊢; rw [hy] at e186; exact e186
      · rw [if_neg c] at hy ⊢; rw [hy] at e186; exact e186
    · have a48 : ∀ q, q ≠ (k : Int) + 1 → σ2.2.1 48 q = σ.2.1 48 q ∧ σ2.2.1 49 q = σ.2.1 49 q := fun q hq => ⟨by rw [hσ2, zA_i hq, hσ1, zA_i hq], by rw [hσ2, zA_i hq, hσ1, zA_i hq]⟩
      have b48 : σ2.2.1 48 ((k : Int) + 1) = σ.2.1 15 ((k : Int) + 1) := by rw [hσ2, zA_j, hσ1, zA_s]
      have b49 : σ2.2.1 49 ((k : Int) + 1) = y := by rw [hσ2, zA_s]
      obtain ⟨p1, p2⟩ := t3 q
      have ck : ((k + 1 : Nat) : Int) = (k : Int) + 1 := by omega
      rw [ck] at p1 p2
      refine ⟨fun h => ?_, fun h => ?_⟩
      · by_cases c : q = (k : Int) + 1
        · obtain ⟨z1, z2⟩ := p2 (by omega)
          rw [z1, z2, c, b48, b49]
          exact ⟨rfl, hy⟩
        · obtain ⟨z1, z2⟩ := p1 ⟨by omega, h.2⟩
          rw [z1, z2, f2.a 15, f2.a 16]
          exact ⟨rfl, rfl⟩
      · obtain ⟨z1, z2⟩ := p2 (fun z => h ⟨by omega, z.2⟩)
        obtain ⟨w1, w2⟩ := a48 q (fun z => h (by omega))
        rw [z1, z2, w1, w2]
        exact ⟨rfl, rfl⟩
theorem rkR_1 {R : Nat → Prop} {v : Nat} (h : R v) : rkR R (v + 1) = rkR R v + 1 := by
  show rkR R v + _ = _
  rw [if_pos h]
theorem rkR_0 {R : Nat → Prop} {v : Nat} (h : ¬ R v) : rkR R (v + 1) = rkR R v := by
  show rkR R v + _ = _
  rw [if_neg h]; rfl
theorem rkR_c {R S : Nat → Prop} : ∀ {b : Nat}, (∀ v, v < b → (R v ↔ S v)) → rkR R b = rkR S b
  | 0, _ => rfl
  | b + 1, h => by
    have ih := rkR_c (b := b) (fun v hv => h v (by omega))
    by_cases c : R b
    · rw [rkR_1 c, rkR_1 ((h b (by omega)).mp c), ih]
    · rw [rkR_0 c, rkR_0 (fun z => c ((h b (by omega)).mpr z)), ih]
theorem wt_195 {β : Nat} {t : Int} {R : Nat → Prop} {s0 b : Nat} (hb : b ≤ 300) (hs : s0 ≤ 251) : ∀ (m v : Nat) (σ : zS), v + m = b → σ.1 19 = ((s0 + rkR R v : Nat) : Int) → (∀ u : Nat, u < b → (R u ↔ ¬ σ.2.1 24 (u : Int) = 0)) → σ.1 25 = (b : Int) → ∃ τ, xE tX_clausify_195 β σ [t, (v : Int)] = xE tX_clausify_267 β τ [t, 0, 0] ∧ FrC [19] [23, 48, 49] σ τ ∧ τ.1 19 = ((s0 + rkR R b : Nat) : Int) ∧ (∀ u : Nat, v ≤ u → u < b → R u → τ.2.1 23 (u : Int) = ((s0 + rkR R u : Nat) : Int) ∧ τ.2.1 48 ((s0 + rkR R u : Nat) : Int) = σ.2.1 58 (u : Int) ∧ τ.2.1 49 ((s0 + rkR R u : Nat) : Int) = 0) ∧ (∀ q : Int, q < ((s0 + rkR R v : Nat) : Int) → τ.2.1 48 q = σ.2.1 48 q ∧ τ.2.1 49 q = σ.2.1 49 q) ∧ ∀ q : Int, q < (v : Int) → τ.2.1 23 q = σ.2.1 23 q
  | 0, v, σ, hv, h19, hR, h25 => by
    have e : v = b := by omega
    subst e
    refine ⟨σ, ?_, FrC.refl, h19, fun u h1 h2 => by omega, fun _ _ => ⟨rfl, rfl⟩, fun _ _ => rfl⟩
    rw [xq_clausify_195, kW_clausify_195, h25, if_pos (Int.le_refl _)]
  | m + 1, v, σ, hv, h19, hR, h25 => by
    have hle := rkR_le R v
    have hv3 : (v : Int) < 300 := by omega
    by_cases c : R v
    · have n24 := (hR v (by omega)).mp c
      obtain ⟨K, hK⟩ : ∃ K : Int, K = ((s0 + rkR R v : Nat) : Int) := ⟨_, rfl⟩
      rw [← hK] at h19
      obtain ⟨σ1, hσ1⟩ : ∃ z, z = zA σ 48 K (σ.2.1 58 (v : Int)) := ⟨_, rfl⟩
      obtain ⟨σ2, hσ2⟩ : ∃ z, z = zA σ1 49 K 0 := ⟨_, rfl⟩
      obtain ⟨σ3, hσ3⟩ : ∃ z, z = zI σ2 19 (K + 1) := ⟨_, rfl⟩
      obtain ⟨σ4, hσ4⟩ : ∃ z, z = zA σ3 23 (v : Int) K := ⟨_, rfl⟩
      have f1 : FrC [19] [23, 48, 49] σ σ1 := by rw [hσ1]; exact FrC_A
      have f2 : FrC [19] [23, 48, 49] σ σ2 := by rw [hσ2]; exact f1.trans FrC_A
      have f3 : FrC [19] [23, 48, 49] σ σ3 := by rw [hσ3]; exact f2.trans FrC_I
      have f4 : FrC [19] [23, 48, 49] σ σ4 := by rw [hσ4]; exact f3.trans FrC_A
      have i1 : σ1.1 19 = K := by rw [hσ1]; exact h19
      have i2 : σ2.1 19 = K := by rw [hσ2]; exact i1
      have i4 : σ4.1 19 = K + 1 := by rw [hσ4, zA_1, hσ3, zI_1]
      obtain ⟨τ, t1, t2, t3, t4, t5, t6⟩ := wt_195 (β := β) (t := t) (R := R) hb hs m (v + 1) σ4 (by omega) (by rw [i4, rkR_1 c, hK]; omega) (fun u hu => by rw [f4.a 24]; exact hR u hu) (by rw [f4.i 25]; exact h25)
      rw [rkR_1 c] at t5
      have o48 : ∀ q : Int, σ4.2.1 48 q = if q = K then σ.2.1 58 (v : Int) else σ.2.1 48 q := fun q => by
        rw [hσ4, zA_j, hσ3, zI_2, hσ2, zA_j, hσ1]
        by_cases z : q = K
        · rw [if_pos z, z]; exact zA_s
        · rw [if_neg z]; exact zA_i z
      have o49 : ∀ q : Int, σ4.2.1 49 q = if q = K then 0 else σ.2.1 49 q := fun q => by
        rw [hσ4, zA_j, hσ3, zI_2, hσ2]
        by_cases z : q = K
        · rw [if_pos z, z]; exact zA_s
        · rw [if_neg z, zA_i z, hσ1]; exact zA_j
      have o23 : ∀ q : Int, σ4.2.1 23 q = if q = (v : Int) then K else σ.2.1 23 q := fun q => by
        rw [hσ4]
        by_cases z : q = (v : Int)
        · rw [if_pos z, z]; exact zA_s
        · rw [if_neg z, zA_i z, hσ3, zI_2, hσ2, zA_j, hσ1]; exact zA_j
      refine ⟨τ, ?_, f4.trans t2, t3, fun u h1 h2 h3 => ?_, fun q hq => ?_, fun q hq => ?_⟩
      · rw [← t1, xq_clausify_195, kW_clausify_195, h25, if_neg (by omega), if_pos ⟨by omega, by omega⟩, if_neg n24, h19, if_pos ⟨by omega, by omega⟩, lt_e, ← hσ1, i1, if_pos ⟨by omega, by omega⟩, lt_e, ← hσ2, i2, if_pos ⟨by omega, by omega⟩, lt_e, ← hσ3, lt_e, ← hσ4, xq_clausify_257, kW_clausify_257, if_pos ⟨by omega, by omega⟩]
        rfl
      · by_cases z : u = v
        · subst z
          obtain ⟨w1, w2⟩ := t5 K (by omega)
          rw [← hK, w1, w2, t6 _ (by omega), o48, o49, o23, if_pos rfl, if_pos rfl, if_pos rfl]
          exact ⟨rfl, rfl, rfl⟩
        · obtain ⟨w1, w2, w3⟩ := t4 u (by omega) h2 h3
          exact ⟨w1, by rw [w2, f4.a 58], w3⟩
      · obtain ⟨w1, w2⟩ := t5 q (by omega)
        rw [w1, w2, o48, o49, if_neg (by omega), if_neg (by omega)]
        exact ⟨rfl, rfl⟩
      · rw [t6 q (by omega), o23, if_neg (by omega)]
    · have n24 : σ.2.1 24 (v : Int) = 0 := Classical.byContradiction (fun z => c ((hR v (by omega)).mpr z))
      obtain ⟨τ, t1, t2, t3, t4, t5, t6⟩ := wt_195 (β := β) (t := t) (R := R) hb hs m (v + 1) σ (by omega) (by rw [rkR_0 c]; exact h19) hR h25
      rw [rkR_0 c] at t5
      refine ⟨τ, ?_, t2, t3, fun u h1 h2 h3 => ?_, t5, fun q hq => t6 q (by omega)⟩
      · rw [← t1, xq_clausify_195, kW_clausify_195, h25, if_neg (by omega), if_pos ⟨by omega, by omega⟩, if_pos n24, xq_clausify_257, kW_clausify_257, if_pos ⟨by omega, by omega⟩]
        rfl
      · by_cases z : u = v
        · subst z; exact absurd h3 c
        · exact t4 u (by omega) h2 h3
