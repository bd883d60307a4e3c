/-! the reference: ELIGIBLE -/
section lk3
variable {ar : Int → Nat} {m9 : Int} {Cs : List CL} {k : Nat} {c : CL}
abbrev LE (σ τ : zS) : Prop := FrC [] [71, 102, 103, 104] σ τ
/-- one LITERAL against all, where none is SELECTED -/
theorem lk_164 (hc : Cs[k]? = some c) (wc : Wc ar m9 c.1) (pos1 : ∀ a ∈ c.1, a.1 = 1) {β : Nat} (hβ : 212 ≤ β) {i : Nat} {b : Lt} (hb : c.1[i]? = some b) : ∀ (m n : Nat) (σ : zS), RC σ Cs → n + m = c.1.length → (σ.2.1 71 (lpos Cs k + (i : Int)) = b2 (∀ (j : Nat) (a : Lt), j < n → j ≠ i → c.1[j]? = some a → ¬ gL a b)) →
    ∃ (τ : zS) (x5 : Int), zE tM_looked_164 β σ [(k : Int), lpos Cs k, lpos Cs k + (c.1.length : Int), -1, lpos Cs k + (i : Int), lpos Cs k + (n : Int)] = zE tM_looked_207 β τ [(k : Int), lpos Cs k, lpos Cs k + (c.1.length : Int), -1, lpos Cs k + (i : Int), x5] ∧ LE σ τ ∧ τ.2.1 71 (lpos Cs k + (i : Int)) = b2 (∀ (j : Nat) (a : Lt), j ≠ i → c.1[j]? = some a → ¬ gL a b) ∧ ∀ q, q ≠ lpos Cs k + (i : Int) → τ.2.1 71 q = σ.2.1 71 q
  | 0, n, σ, hR, hm, h71 => by
    refine ⟨σ, lpos Cs k + (n : Int), ?_, FrC.refl, ?_, fun _ _ => rfl⟩
    · rw [zq_looked_164, kZ_looked_164, if_pos (by omega)]
    · rw [h71]
      refine b2_c ⟨fun w j a h1 h2 => w j a (by have := (List.getElem?_eq_some_iff.mp h2).1; omega) h1 h2, fun w j a _ h1 h2 => w j a h1 h2⟩
  | m + 1, n, σ, hR, hm, h71 => by
    obtain ⟨hk, k1, k2, k3, k4, k5⟩ := hR.k hc
    have il := (List.getElem?_eq_some_iff.mp hb).1
    obtain ⟨a, ha⟩ : ∃ a, c.1[n]? = some a := ⟨_, List.getElem?_eq_getElem (by omega)⟩
    have next : ∀ ρ : zS, LE σ ρ → (ρ.2.1 71 (lpos Cs k + (i : Int)) = b2 (∀ (j : Nat) (a : Lt), j < n + 1 → j ≠ i → c.1[j]? = some a → ¬ gL a b)) → (∀ q, q ≠ lpos Cs k + (i : Int) → ρ.2.1 71 q = σ.2.1 71 q) → ∃ (τ : zS) (x5 : Int), zE tM_looked_201 β ρ [(k : Int), lpos Cs k, lpos Cs k + (c.1.length : Int), -1, lpos Cs k + (i : Int), lpos Cs k + (n : Int)] = zE tM_looked_207 β τ [(k : Int), lpos Cs k, lpos Cs k + (c.1.length : Int), -1, lpos Cs k + (i : Int), x5] ∧ LE σ τ ∧ τ.2.1 71 (lpos Cs k + (i : Int)) = b2 (∀ (j : Nat) (a : Lt), j ≠ i → c.1[j]? = some a → ¬ gL a b) ∧ ∀ q, q ≠ lpos Cs k + (i : Int) → τ.2.1 71 q = σ.2.1 71 q := fun ρ fρ e71 o71 => by
      obtain ⟨τ, x5, t1, t2, t3, t4⟩ := lk_164 hc wc pos1 hβ hb m (n + 1) ρ (hR.f fρ fρ.pq) (by omega) e71
      refine ⟨τ, x5, ?_, fρ.trans t2, t3, fun q hq => by rw [t4 q hq, o71 q hq]⟩
      rw [zq_looked_201, kZ_looked_201, if_pos (by omega), show lpos Cs k + (n : Int) + 1 = lpos Cs k + ((n + 1 : Nat) : Int) by omega]
      exact t1
    rw [zq_looked_164, kZ_looked_164, if_neg (by omega), if_neg (by decide)]
    by_cases e : n = i
    · rw [if_pos (by omega)]
      refine next σ FrC.refl ?_ (fun _ _ => rfl)
      rw [h71]
      refine b2_c ⟨fun w j a h1 h2 h3 => w j a (by omega) h2 h3, fun w j a h1 h2 h3 => w j a (by omega) h2 h3⟩
    · rw [if_neg (by omega), if_pos (by omega)]
      obtain ⟨_, wa1, wa2⟩ := wc.2.2.2.2 a (List.mem_of_getElem? ha)
      obtain ⟨_, wb1, wb2⟩ := wc.2.2.2.2 b (List.mem_of_getElem? hb)
      have la : lwt a ≤ wtL c.1 := wtL_mm (List.mem_of_getElem? ha)
      have lb' : lwt b ≤ wtL c.1 := wtL_mm (List.mem_of_getElem? hb)
      have w100 := wc.2.1
      obtain ⟨σ1, t1, t2⟩ := gl_ok (ar := ar) (m9 := m9) (β := β - 1) (by omega) (i := lpos Cs k + (n : Int)) (j := lpos Cs k + (i : Int)) (by omega) (by omega) (by omega) (by omega) (hR.l hc ha) (hR.l hc hb) (pos1 a (List.mem_of_getElem? ha)) (pos1 b (List.mem_of_getElem? hb)) wa1 wa2 wb1 wb2 (by omega) (by omega)
      rw [zbd_of t1]
      have f1 : LE σ σ1 := t2.w
      by_cases g : gL a b
      · rw [b2_t g, if_neg (by decide), if_pos (by omega), lt_e]
        refine next _ (f1.trans FrC_A) ?_ (fun q hq => by rw [zA_i hq, t2.a 71])
        rw [zA_s, b2_f]
        intro w
        exact w n a (by omega) e ha g
      · rw [b2_f g, if_pos rfl]
        refine next σ1 f1 ?_ (fun q hq => t2.a 71 q)
        rw [t2.a 71, h71]
        refine b2_c ⟨fun w j d h1 h2 h3 => ?_, fun w j d h1 h2 h3 => w j d (by omega) h2 h3⟩
        by_cases q : j = n
        · rw [q, ha] at h3
          obtain rfl := Option.some.inj h3
          exact g
        · exact w j d (by omega) h2 h3
theorem lk_131 (hc : Cs[k]? = some c) (wc : Wc ar m9 c.1) {β : Nat} (hβ : 212 ≤ β) : ∀ (m n : Nat) (σ : zS), RC σ Cs → n + m = c.1.length → ∃ τ, zE tM_looked_131 β σ [(k : Int), lpos Cs k, lpos Cs k + (c.1.length : Int), lq (lpos Cs k) (selI c.1), lpos Cs k + (n : Int)] = some (τ, 0) ∧ LE σ τ ∧ (∀ i : Nat, n ≤ i → i < c.1.length → τ.2.1 71 (lpos Cs k + (i : Int)) = b2 (elI c.1 i)) ∧ ∀ q, q < lpos Cs k + (n : Int) ∨ lpos Cs k + (c.1.length : Int) ≤ q → τ.2.1 71 q = σ.2.1 71 q
  | 0, n, σ, hR, hm => by
    refine ⟨σ, ?_, FrC.refl, fun i a b => by omega, fun _ _ => rfl⟩
    rw [zq_looked_131, kZ_looked_131, if_pos (by omega)]
  | m + 1, n, σ, hR, hm => by
    obtain ⟨hk, k1, k2, k3, k4, k5⟩ := hR.k hc
    obtain ⟨b, hb⟩ : ∃ b, c.1[n]? = some b := ⟨_, List.getElem?_eq_getElem (by omega)⟩
    have fin : ∀ (ρ : zS) (x3 x5 : Int), x3 = lq (lpos Cs k) (selI c.1) → LE σ ρ → ρ.2.1 71 (lpos Cs k + (n : Int)) = b2 (elI c.1 n) → (∀ q, q ≠ lpos Cs k + (n : Int) → ρ.2.1 71 q = σ.2.1 71 q) → ∃ τ, zE tM_looked_207 β ρ [(k : Int), lpos Cs k, lpos Cs k + (c.1.length : Int), x3, lpos Cs k + (n : Int), x5] = some (τ, 0) ∧ LE σ τ ∧ (∀ i : Nat, n ≤ i → i < c.1.length → τ.2.1 71 (lpos Cs k + (i : Int)) = b2 (elI c.1 i)) ∧ ∀ q, q < lpos Cs k + (n : Int) ∨ lpos Cs k + (c.1.length : Int) ≤ q → τ.2.1 71 q = σ.2.1 71 q := fun ρ x3 x5 hx fρ e71 o71 => by
      obtain ⟨τ, t1, t2, t3, t4⟩ := lk_131 hc wc hβ m (n + 1) ρ (hR.f fρ fρ.pq) (by omega)
      refine ⟨τ, ?_, fρ.trans t2, fun i h1 h2 => ?_, fun q hq => by rw [t4 q (by omega), o71 q (by omega)]⟩
      · rw [hx, zq_looked_207, kZ_looked_207, if_pos (by omega), show lpos Cs k + (n : Int) + 1 = lpos Cs k + ((n + 1 : Nat) : Int) by omega]
        exact t1
      · by_cases e : i = n
        · rw [e, t4 _ (Or.inl (by omega))]; exact e71
        · exact t3 i (by omega) h2
    rw [zq_looked_131, kZ_looked_131, if_neg (by omega)]
    have e155 : ∀ x3 : Int, zE tM_looked_155 β σ [(k : Int), lpos Cs k, lpos Cs k + (c.1.length : Int), x3, lpos Cs k + (n : Int), lpos Cs k + (n : Int)] = zE tM_looked_164 β (zA σ 71 (lpos Cs k + (n : Int)) 1) [(k : Int), lpos Cs k, lpos Cs k + (c.1.length : Int), x3, lpos Cs k + (n : Int), lpos Cs k] := fun x3 => by
      rw [zq_looked_155, kZ_looked_155, zq_looked_160, kZ_looked_160, if_pos (by omega), if_pos (Or.inr rfl), lt_e]
    have f1 : ∀ x : Int, LE σ (zA σ 71 (lpos Cs k + (n : Int)) x) := fun x => FrC_A
    -- with one SELECTED nothing is compared
    have sel164 : ∀ (ρ : zS) (x3 : Int), 0 ≤ x3 → zE tM_looked_164 β ρ [(k : Int), lpos Cs k, lpos Cs k + (c.1.length : Int), x3, lpos Cs k + (n : Int), lpos Cs k] = zE tM_looked_207 β ρ [(k : Int), lpos Cs k, lpos Cs k + (c.1.length : Int), x3, lpos Cs k + (n : Int), lpos Cs k] := fun ρ x3 h => by
      rw [zq_looked_164, kZ_looked_164]
      by_cases q : lpos Cs k + (c.1.length : Int) ≤ lpos Cs k
      · rw [if_pos q]
      · rw [if_neg q, if_pos h]
    cases hs : selI c.1 with
    | none =>
      have e0 : lq (lpos Cs k) none = -1 := rfl
      rw [e0, if_pos (by decide), e155]
      have h1 : (zA σ 71 (lpos Cs k + (n : Int)) 1).2.1 71 (lpos Cs k + (n : Int)) = b2 (∀ (j : Nat) (a : Lt), j < 0 → j ≠ n → c.1[j]? = some a → ¬ gL a b) := by
        rw [zA_s, b2_t]
        intro j a h; omega
      obtain ⟨τ, x5, t1, t2, t3, t4⟩ := lk_164 hc wc (selI_all hs) hβ hb c.1.length 0 (zA σ 71 (lpos Cs k + (n : Int)) 1) (hR.f (f1 1) (f1 1).pq) (by omega) h1
      rw [show lpos Cs k + ((0 : Nat) : Int) = lpos Cs k by omega] at t1
      rw [t1]
      refine fin τ (-1) x5 (by rw [hs]; rfl) ((f1 1).trans t2) ?_ (fun q hq => by rw [t4 q hq, zA_i hq])
      rw [t3]
      refine b2_c ?_
      unfold elI
      rw [hs]
      exact ⟨fun w j a d h1 h2 h3 => by rw [hb] at h3; obtain rfl := Option.some.inj h3; exact w j a h1 h2, fun w j a h1 h2 => w j a b h1 h2 hb⟩
    | some s =>
      have e0 : lq (lpos Cs k) (some s) = lpos Cs k + (s : Int) := rfl
      rw [e0, if_neg (by omega)]
      have eli : elI c.1 n ↔ s = n := by unfold elI; rw [hs]
      by_cases e : s = n
      · rw [if_pos (by omega), e155, sel164 _ _ (by omega)]
        exact fin _ _ _ (by rw [hs]; rfl) (f1 1) (by rw [zA_s, b2_t (eli.mpr e)]) (fun q hq => zA_i hq)
      · rw [if_neg (by omega), zq_looked_160, kZ_looked_160, if_pos (by omega), if_pos (Or.inl rfl), lt_e, sel164 _ _ (by omega)]
        exact fin _ _ _ (by rw [hs]; rfl) (f1 0) (by rw [zA_s, b2_f (fun w => e (eli.mp w))]) (fun q hq => zA_i hq)
theorem lk_ok (hc : Cs[k]? = some c) (wc : Wc ar m9 c.1) {β : Nat} (hβ : 212 ≤ β) {σ : zS} (hR : RC σ Cs) : ∃ τ, zE tM_looked β σ [(k : Int)] = some (τ, 0) ∧ LK σ τ ∧ (∀ (i : Nat) a, c.1[i]? = some a → τ.2.1 69 (lpos Cs k + (i : Int)) = ordL a ∧ τ.2.1 71 (lpos Cs k + (i : Int)) = b2 (elI c.1 i)) ∧ ∀ q, q < lpos Cs k ∨ lpos Cs k + (c.1.length : Int) ≤ q → τ.2.1 69 q = σ.2.1 69 q ∧ τ.2.1 71 q = σ.2.1 71 q := by
  obtain ⟨hk, k1, k2, k3, k4, k5⟩ := hR.k hc
  obtain ⟨σ1, t1, t2, t3, t4, t5⟩ := lk_22 hc wc (β := β) (by omega) c.1.length 0 σ none 0 hR (by omega) (fun s h => by cases h) (fun _ => rfl)
  rw [List.drop_zero, show lpos Cs k + ((0 : Nat) : Int) = lpos Cs k by omega] at t1
  obtain ⟨τ, u1, u2, u3, u4⟩ := lk_131 hc wc hβ c.1.length 0 σ1 (hR.f t2 t2.pq) (by omega)
  rw [show lpos Cs k + ((0 : Nat) : Int) = lpos Cs k by omega] at u1 u4 t4
  refine ⟨τ, ?_, t2.trans u2.w, fun i a ha => ⟨?_, ?_⟩, fun q hq => ⟨?_, ?_⟩⟩
  · have t1' : zE tM_looked_22 β σ [(k : Int), lpos Cs k, lpos Cs k + (c.1.length : Int), -1, lpos Cs k] = zE tM_looked_131 β σ1 [(k : Int), lpos Cs k, lpos Cs k + (c.1.length : Int), lq (lpos Cs k) (selI c.1), lpos Cs k] := t1
    rw [zq_looked, kZ_looked, if_pos (by omega), hk.1, hk.2.1, if_pos (by omega), t1', u1]
  · rw [u2.a 69]; exact t3 i a (Nat.zero_le _) ha
  · exact u3 i (Nat.zero_le _) (List.getElem?_eq_some_iff.mp ha).1
  · rw [u2.a 69]; exact t4 q hq
  · rw [u4 q hq]; exact t5 q
end lk3
