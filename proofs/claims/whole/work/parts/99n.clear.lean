/-! what the GIVEN SUBSUMES goes, what it could REWRITE goes back -/
theorem CI.rf {ar : Int → Nat} {pd : Int → Prop} {m9 : Int} {σ τ : zS} {A : PA} (h : CI ar pd m9 σ A) (f : RF σ τ) : CI ar pd m9 τ A := by
  obtain ⟨c1, c2, c3, c4, c5, c6, c7, c8, c9, c10, c11, c12⟩ := id h
  refine h.f f ?_ (c7.f f) (c6.f f) (by rw [f.i 3905]; exact c9)
  obtain ⟨N, hN⟩ := c8; exact ⟨N, hN.f f⟩
def rwB (pd : Int → Prop) (G D : List Lt) : Prop := ∃ b, G = [b] ∧ b.1 = 1 ∧ ∃ (i : Nat) (a : Lt), D[i]? = some a ∧ ∃ o y, sbF o (lF a) = some y ∧ rwP pd b y
noncomputable def caS (pd : Int → Prop) (G : List Lt) (n : Nat) (A : PA) : PA := match A.1[n]? with
  | none => A
  | some c => if cst c = 1 then @ite _ (subL pd G c.1) (Classical.propDecidable _) (stA A.1 n 2, fu A.2 92 (zwa (A.2 92) 1)) (@ite _ (rwB pd G c.1) (Classical.propDecidable _) (stA A.1 n 0, A.2) A) else A
abbrev CF (σ τ : zS) : Prop := FrC [6603, 6605, 5304] [13, 67, 68, 52] σ τ
theorem ca_p8 {ar : Int → Nat} {pd : Int → Prop} {m9 : Int} {β : Nat} (hβ : 15 ≤ β) {g L : Nat} {G : List Lt} (wG : Wc ar m9 G) : ∀ (m n : Nat) (σ : zS) (A : PA), CI ar pd m9 σ A → A.1.length = L → (∃ d, A.1[g]? = some d ∧ d.1 = G) → n + m = L →
    ∃ τ, yE tC_Sat_clearAway_p8 β σ [(g : Int), b2 (sngL G), (n : Int)] = some (τ, 0) ∧ CI ar pd m9 τ (fo (caS pd G) m n A) ∧ CF σ τ
  | 0, n, σ, A, hI, hL, hg, hm => by
    have h2 := hI.2.2.1.2.1
    exact ⟨σ, by rw [yq_Sat_clearAway_p8, kY_Sat_clearAway_p8, if_pos (by omega)], hI, FrC.refl⟩
  | m + 1, n, σ, A, hI, hL, hg, hm => by
    obtain ⟨c1, c2, c3, c4, c5, c6, c7, c8, c9, c10, c11, c12⟩ := id hI
    have h2 := c3.2.1
    have h20 := c3.2.2.2.2.2.2.2
    obtain ⟨c, hc⟩ : ∃ c, A.1[n]? = some c := ⟨_, List.getElem?_eq_getElem (by omega)⟩
    obtain ⟨d, hd, hG⟩ := hg
    have next : ∀ (ρ : zS) (A2 : PA), CI ar pd m9 ρ A2 → CF σ ρ → A2.1.length = L → (∃ d, A2.1[g]? = some d ∧ d.1 = G) → caS pd G n A = A2 → ∃ τ, yE tC_Sat_clearAway_p90 β ρ [(g : Int), b2 (sngL G), (n : Int)] = some (τ, 0) ∧ CI ar pd m9 τ (fo (caS pd G) (m + 1) n A) ∧ CF σ τ := fun ρ A2 hI2 fρ l2 g2 e => by
      obtain ⟨τ, t1, t2, t3⟩ := ca_p8 hβ wG m (n + 1) ρ A2 hI2 l2 g2 (by omega)
      refine ⟨τ, ?_, ?_, fρ.trans t3⟩
      · rw [yq_Sat_clearAway_p90, kY_Sat_clearAway_p90, if_pos (by omega), show (n : Int) + 1 = ((n + 1 : Nat) : Int) by omega]; exact t1
      · show CI ar pd m9 τ (fo (caS pd G) m (n + 1) (caS pd G n A))
        rw [e]; exact t2
    have stg : ∀ x : Int, ∃ d, (stA A.1 n x)[g]? = some d ∧ d.1 = G := fun x => by
      by_cases e : g = n
      · subst e; exact ⟨cS d x, stA_s hd, hG⟩
      · exact ⟨d, by rw [stA_o e]; exact hd, hG⟩
    have wc := c10 c (List.mem_of_getElem? hc)
    rw [yq_Sat_clearAway_p8, kY_Sat_clearAway_p8, if_neg (by omega), if_pos (by omega), zbd_of (proc_ok (β := β - 1) (by omega) c3 hc)]
    by_cases q : cst c = 1
    · rw [b2_t q, if_neg (by decide), if_pos (by omega)]
      obtain ⟨σ1, f1, e1⟩ := sub_ok (pd := pd) (β := β - 1) (by omega) c1 c3 hd (by rw [hG]; exact wG) hc wc
      have e1' : yE tC_Mat_subsumes (β - 1) σ [(g : Int), (n : Int)] = some (σ1, b2 (subL pd G c.1)) := by rw [← hG]; exact e1
      rw [zbd_of e1']
      have I1 := hI.rf (τ := σ1) f1.w
      have S1 := I1.2.2.1
      by_cases s : subL pd G c.1
      · rw [b2_t s, if_neg (by decide), if_pos (by omega), zbd_of (setF (β := β - 1) S1 (k := (n : Int)) (w := 6) (x := 2) (by omega) (by omega) (by omega) (by omega)), lt_e]
        obtain ⟨σ2, hσ2⟩ : ∃ z, z = zA σ1 52 ((n : Int) * 11 + 6) 2 := ⟨_, rfl⟩
        rw [← hσ2]
        have I2 : CI ar pd m9 σ2 (stA A.1 n 2, A.2) := by rw [hσ2]; exact I1.st (by omega) (by decide)
        obtain ⟨σ3, hσ3⟩ : ∃ z, z = zI σ2 5304 (zwa (σ2.1 5304) 1) := ⟨_, rfl⟩
        rw [← hσ3]
        have K2 := I2.2.2.2.1
        have I3 : CI ar pd m9 σ3 (stA A.1 n 2, fu A.2 92 (zwa (A.2 92) 1)) := I2.c (by rw [hσ3]; exact FrC_I) (by rw [hσ3, K2.2.2.2.2.1]; exact K2.u4)
        have f3 : CF σ σ3 := by
          have b1 : CF σ σ1 := f1.w
          have b2 : CF σ1 σ2 := by rw [hσ2]; exact FrC_A
          have b3 : CF σ2 σ3 := by rw [hσ3]; exact FrC_I
          exact (b1.trans b2).trans b3
        exact next σ3 _ I3 f3 (by show (stA A.1 n 2).length = L; rw [stA_len]; exact hL) (stg 2) (by unfold caS; rw [hc]; dsimp only; rw [if_pos q, if_pos s])
      · rw [b2_f s, if_pos rfl]
        by_cases z : sngL G
        · obtain ⟨b, hb, hb1⟩ := id z
          rw [b2_t z, if_neg (by decide), if_pos (by omega)]
          obtain ⟨σ2, f2, e2⟩ := rin_ok (pd := pd) (β := β - 1) (by omega) I1.1 S1 hd (by rw [hG]; exact wG) (b := b) (by rw [hG, hb]; rfl) hc wc
          have I2 := I1.rf f2
          have f12 : CF σ σ2 := (f1.w).trans f2.w
          have S2 := I2.2.2.1
          rw [zbd_of e2]
          by_cases r : ∃ (i : Nat) (a : Lt), c.1[i]? = some a ∧ ∃ o y, sbF o (lF a) = some y ∧ rwP pd b y
          · rw [b2_t r, if_neg (by decide), if_pos (by omega), zbd_of (setF (β := β - 1) S2 (k := (n : Int)) (w := 6) (x := 0) (by omega) (by omega) (by omega) (by omega))]
            have nx := next (zA σ2 52 ((n : Int) * 11 + 6) 0) (stA A.1 n 0, A.2) (I2.st (by omega) (by decide)) (f12.trans FrC_A) (by show (stA A.1 n 0).length = L; rw [stA_len]; exact hL) (stg 0) (by unfold caS; rw [hc]; dsimp only; rw [if_pos q, if_neg s, if_pos ⟨b, hb, hb1, r⟩])
            rw [b2_t z] at nx
            exact nx
          · rw [b2_f r, if_pos rfl]
            have nx := next σ2 A I2 f12 hL ⟨d, hd, hG⟩ (by
              unfold caS; rw [hc]; dsimp only; rw [if_pos q, if_neg s, if_neg]
              rintro ⟨b', hb', _, hr⟩
              rw [hb] at hb'
              have : b = b' := by injection hb'
              subst this
              exact r hr)
            rw [b2_t z] at nx
            exact nx
        · rw [b2_f z, if_pos rfl]
          have nx := next σ1 A I1 f1.w hL ⟨d, hd, hG⟩ (by
            unfold caS; rw [hc]; dsimp only; rw [if_pos q, if_neg s, if_neg]
            rintro ⟨b', hb', h1, _⟩
            exact z ⟨b', hb', h1⟩)
          rw [b2_f z] at nx
          exact nx
    · rw [b2_f q, if_pos rfl]
      exact next σ A hI FrC.refl hL ⟨d, hd, hG⟩ (by unfold caS; rw [hc]; dsimp only; rw [if_neg q])
theorem ca_ok {ar : Int → Nat} {pd : Int → Prop} {m9 : Int} {β : Nat} (hβ : 15 ≤ β) {σ : zS} {A : PA} (hI : CI ar pd m9 σ A) {g : Nat} {c : CL} (hg : A.1[g]? = some c) : ∃ τ, yE tC_Sat_clearAway β σ [(g : Int)] = some (τ, 0) ∧ CI ar pd m9 τ (fo (caS pd c.1) A.1.length 0 A) ∧ CF σ τ := by
  have wc := hI.2.2.2.2.2.2.2.2.2.1 c (List.mem_of_getElem? hg)
  obtain ⟨τ, t1, t2⟩ := ca_p8 (pd := pd) hβ (g := g) wc A.1.length 0 σ A hI rfl ⟨c, hg, rfl⟩ (by omega)
  refine ⟨τ, ?_, t2⟩
  have t1' : yE tC_Sat_clearAway_p8 β σ [(g : Int), b2 (sngL c.1), 0] = _ := t1
  rw [yq_Sat_clearAway, kY_Sat_clearAway, if_pos (by omega), zbd_of (single_ok (β := β - 1) (by omega) hI.2.2.1 hg), t1']
