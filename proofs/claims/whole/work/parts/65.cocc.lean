/-! the class's unifier: root 60, place 61, shifts 62, met 63, meetings 64 and 65, valued 5905, bases 5906 and 5907 -/
def bs (σ : zS) (b : Int) : Int := if b = 0 then σ.1 5906 else σ.1 5907
/-- a forest at q of the CLAUSE of bank b -/
def FA (ar : Int → Nat) (m9 : Int) (σ : zS) (q b : Int) (F : T) : Prop := (b = 0 ∨ b = 6) ∧ Fl (σ.2.1 48) q (fl F) ∧ wf ar (lb m9) F ∧ 0 ≤ bs σ b ∧ bs σ b ≤ q ∧ q + (wt F : Int) ≤ bs σ b + 140 ∧ q + (wt F : Int) ≤ σ.1 4701 ∧ wt F ≤ 100
abbrev TA (ar : Int → Nat) (m9 : Int) (σ : zS) (q b : Int) (y : Tm) : Prop := FA ar m9 σ q b (tt y)
/-- SYMBOLS and cells -/
def Cx (ar : Int → Nat) (pd : Int → Prop) (m9 : Int) (σ : zS) : Prop := ArC σ ar (lb m9) ∧ m9 ≤ 551 ∧ (∀ c, 0 ≤ c → c < m9 → (σ.2.1 12 c = 1 ↔ pd c)) ∧ 0 ≤ σ.1 4701 ∧ σ.1 4701 ≤ (σ.2.2 48 : Int) ∧ σ.2.2 48 ≤ 10000000
theorem Cx.q {ar : Int → Nat} {pd : Int → Prop} {m9 : Int} {σ τ : zS} (h : Cx ar pd m9 σ) (h7 : ∀ q, τ.2.1 7 q = σ.2.1 7 q) (h12 : ∀ q, τ.2.1 12 q = σ.2.1 12 q) (h47 : τ.1 4701 = σ.1 4701) (h48 : τ.2.2 48 = σ.2.2 48) : Cx ar pd m9 τ := ⟨h.1.q h7, h.2.1, fun c a b => by rw [h12]; exact h.2.2.1 c a b, by rw [h47]; exact h.2.2.2.1, by rw [h47, h48]; exact h.2.2.2.2.1, by rw [h48]; exact h.2.2.2.2.2⟩
theorem Cx.f {I A : List Nat} {ar : Int → Nat} {pd : Int → Prop} {m9 : Int} {σ τ : zS} (h : Cx ar pd m9 σ) (f : FrC I A σ τ) (h1 : I.elem 4701 = false := by decide) (h2 : A.elem 7 = false := by decide) (h3 : A.elem 12 = false := by decide) (h4 : A.elem 48 = false := by decide) : Cx ar pd m9 τ := h.q (fun q => f.2.1 7 q h2) (fun q => f.2.1 12 q h3) (f.1 4701 h1) (f.2.2.1 48 h4 (by decide) (by decide))
theorem FA.f {I A : List Nat} {ar : Int → Nat} {m9 : Int} {σ τ : zS} {q b : Int} {F : T} (h : FA ar m9 σ q b F) (f : FrC I A σ τ) (h1 : I.elem 4701 = false := by decide) (h2 : I.elem 5906 = false := by decide) (h3 : I.elem 5907 = false := by decide) (h4 : A.elem 48 = false := by decide) : FA ar m9 τ q b F := by
  have e : bs τ b = bs σ b := by unfold bs; rw [f.1 5906 h2, f.1 5907 h3]
  unfold FA at *
  rw [e, f.1 4701 h1]
  exact ⟨h.1, Fl_q (fun i _ _ => f.2.1 48 i h4) h.2.1, h.2.2⟩
theorem vi_cat {v : Int} : ∀ {A B : T}, vi v (cat A B) ↔ vi v A ∨ vi v B
  | .leaf _, B => by simp [cat, vi]
  | .branch n k s, B => by simp only [cat, vi, vi_cat (A := s), or_assoc]
theorem vi_sh {b v : Int} (hb : 0 ≤ b) : ∀ {F : T}, vi v (sh b F) ↔ vi (v - b) F
  | .leaf _ => by simp [sh, vi]
  | .branch n k s => by
    simp only [sh, vi, vi_sh hb (F := k), vi_sh hb (F := s), sh_cl hb]
    by_cases h : cl n < 0
    · simp only [h, if_true]
      rw [if_pos (by omega)]
      constructor
      · rintro (w | w)
        · left; omega
        · exact Or.inr w
      · rintro (w | w)
        · left; omega
        · exact Or.inr w
    · simp only [h, if_false]
theorem vi_lb {ar : Int → Nat} {m9 v : Int} : ∀ {F : T}, wf ar (lb m9) F → vi v F → 0 ≤ v ∧ v < 6
  | .leaf _, _, h => h.elim
  | .branch n k s, w, h => by
    rcases h with h | h
    · by_cases hc : cl n < 0
      · rw [if_pos hc] at h
        have := w.2.1.1
        omega
      · rw [if_neg hc] at h; exact vi_lb w.2.2.1 h
    · exact vi_lb w.2.2.2 h
theorem FA.v {ar : Int → Nat} {m9 : Int} {σ : zS} {q b v : Int} {F : T} (h : FA ar m9 σ q b F) (hv : vi v (sh b F)) : 0 ≤ v ∧ v < 12 := by
  have hb : 0 ≤ b := by have := h.1; omega
  have := vi_lb h.2.2.1 ((vi_sh hb).mp hv)
  have := h.1
  omega
theorem scan_ok {ar : Int → Nat} {pd : Int → Prop} {m9 : Int} {σ : zS} {rt : Int → Int} (hC : Cx ar pd m9 σ) (hr : ∀ v, 0 ≤ v → v < 12 → σ.2.1 60 v = rt v ∧ 0 ≤ rt v ∧ rt v < 12) {β : Nat} {x0 x1 x2 d fr b rnd : Int} (hb : b = 0 ∨ b = 6) : ∀ (m : Nat) (F : T) (f i : Int), wt F ≤ m → Fl (σ.2.1 48) i (fl F) → wf ar (lb m9) F → 0 ≤ i → i + (wt F : Int) ≤ σ.1 4701 → 0 ≤ f → f < 4096 →
    ∃ f', 0 ≤ f' ∧ f' < 4096 ∧ (∀ u, 0 ≤ u → u < 12 → (bt f' u ↔ bt f u ∨ ∃ v, vi v (sh b F) ∧ rt v = u)) ∧ yE tC_Uni_occurs_p29 β σ [x0, x1, x2, f, d, fr, b, rnd, (len F : Int), i] = yE tC_Uni_occurs_p118 β σ [x0, x1, x2, f', d, fr, b, rnd, 0, i + (wt F : Int)]
  | m, .leaf (), f, i, _, _, _, _, _, f0, f1 => by
    refine ⟨f, f0, f1, fun u _ _ => by simp [sh, vi], ?_⟩
    have e : i + ((wt (.leaf ()) : Nat) : Int) = i := by simp [wt]
    have e2 : ((len (.leaf ()) : Nat) : Int) = 0 := by simp [len]
    rw [yq_Uni_occurs_p29, kY_Uni_occurs_p29, e, e2, if_pos (by omega)]
  | 0, .branch n k s, f, i, hm, _, _, _, _, _, _ => by simp only [wt] at hm; omega
  | m + 1, .branch n k s, f, i, hm, hF, hw, h0, hi, f0, f1 => by
    obtain ⟨h1, h2⟩ := hF
    obtain ⟨hA, hm9, hpd, c1, c2, c3⟩ := hC
    have e9 : i + 1 + (wt (cat k s) : Int) = i + (wt (.branch n k s) : Int) := by rw [wt_cat]; simp only [wt]; omega
    have hl : (len (cat k s) : Int) = (len k : Int) + (len s : Int) := by rw [len_cat]; omega
    have a1 := len_le_wt k
    have a2 := len_le_wt s
    have e3 : ((len (.branch n k s) : Nat) : Int) = 1 + (len s : Int) := by simp only [len]; omega
    have hi' := hi
    simp only [wt] at hi'
    have step := fun (g : Int) (g0 : 0 ≤ g) (g1 : g < 4096) => scan_ok ⟨hA, hm9, hpd, c1, c2, c3⟩ hr (β := β) (x0 := x0) (x1 := x1) (x2 := x2) (d := d) (fr := fr) (rnd := rnd) hb m (cat k s) g (i + 1) (by rw [wt_cat]; simp only [wt] at hm; omega) (by rw [fl_cat]; exact h2) (wf_cat hw.2.2.1 hw.2.2.2) (by omega) (by rw [e9]; exact hi) g0 g1
    have b3 := hw.1
    have hb0 : 0 ≤ b := by omega
    by_cases hc : 0 ≤ cl n
    · obtain ⟨b1, b2⟩ := hA _ hw.2.1 hc
      rw [if_neg (by omega)] at b3
      obtain ⟨z1, z2⟩ := zor_n f0 f1 (b := 0) (by omega) (by omega)
      obtain ⟨f', g0, g1, g2, g3⟩ := step (zor f 0) z1 z2
      refine ⟨f', g0, g1, fun u u0 u1 => ?_, ?_⟩
      · rw [g2 u u0 u1, bt_or, sh_cat]
        simp only [sh, vi, sh_cl hb0, vi_cat]
        have hn : ¬ cl n < 0 := by omega
        simp only [hn, if_false]
        constructor
        · rintro ((w | w) | ⟨v, w, w2⟩)
          · exact Or.inl w
          · exact absurd w bt_0
          · exact Or.inr ⟨v, w, w2⟩
        · rintro (w | ⟨v, w, w2⟩)
          · exact Or.inl (Or.inl w)
          · exact Or.inr ⟨v, w, w2⟩
      · rw [yq_Uni_occurs_p29, kY_Uni_occurs_p29, e3, if_neg (by omega), if_neg (by omega), if_pos (by omega), h1, if_pos hc, if_pos (by omega), b2, if_pos (by omega), yq_Uni_occurs_p81, kY_Uni_occurs_p81, if_pos hc, if_pos (by omega), yq_Uni_occurs_p109, kY_Uni_occurs_p109, if_pos (by omega), show (1 + (len s : Int) + ((ar (cl n) : Int) - 1)) = (len (cat k s) : Int) by rw [hl]; omega, g3, e9]
    · rw [if_pos (by omega)] at b3
      have lo := hw.2.1.1
      obtain ⟨r1, r2, r3⟩ := hr ((-1 - cl n) + b) (by omega) (by omega)
      obtain ⟨s1, s2⟩ := zshl_n r2 r3
      obtain ⟨z1, z2⟩ := zor_n f0 f1 s1 s2
      obtain ⟨f', g0, g1, g2, g3⟩ := step (zor f (zshl 1 (rt ((-1 - cl n) + b)))) z1 z2
      refine ⟨f', g0, g1, fun u u0 u1 => ?_, ?_⟩
      · rw [g2 u u0 u1, bt_or, bt_shl r2 r3 u0 (by omega), sh_cat]
        simp only [sh, vi, sh_cl hb0, vi_cat]
        have hn : cl n < 0 := by omega
        have hk : k = nl := len0 b3
        subst hk
        have hnb : cl n - b < 0 := by omega
        simp only [hn, hnb, if_true]
        constructor
        · rintro ((w | w) | ⟨v, w, w2⟩)
          · exact Or.inl w
          · exact Or.inr ⟨(-1 - cl n) + b, Or.inl (by omega), w.symm⟩
          · rcases w with w | w
            · exact w.elim
            · exact Or.inr ⟨v, Or.inr w, w2⟩
        · rintro (w | ⟨v, w | w, w2⟩)
          · exact Or.inl (Or.inl w)
          · refine Or.inl (Or.inr ?_)
            rw [← w2]; congr 1; omega
          · exact Or.inr ⟨v, Or.inr w, w2⟩
      · rw [yq_Uni_occurs_p29, kY_Uni_occurs_p29, e3, if_neg (by omega), if_neg (by omega), if_pos (by omega), h1, if_neg hc, yq_Uni_occurs_p81, kY_Uni_occurs_p81, if_neg hc, if_pos (by omega), if_pos (by omega), if_pos (by omega), r1, yq_Uni_occurs_p109, kY_Uni_occurs_p109, if_pos (by omega), show (1 + (len s : Int) + -1) = (len (cat k s) : Int) by rw [hl]; omega, g3, e9]
/-- values that obey -/
def Gd (rt : Int → Int) (vl : Int → Option Tm) (τ : Vs) : Prop := (∀ v, τ v = τ (rt v)) ∧ ∀ r y, vl r = some y → τ r = st τ y
/-- the place of a meeting -/
def ix (σ : zS) (x b q : Int) : Int := (2 * x + (if b = 0 then 0 else 1)) * 140 + q - bs σ b
/-- how root, value and meetings stand -/
def US (ar : Int → Nat) (m9 : Int) (σ : zS) (rt : Int → Int) (vl : Int → Option Tm) (V : Int → Tm → Prop) : Prop :=
  (∀ v, 0 ≤ v → v < 12 → σ.2.1 60 v = rt v) ∧
  (∀ r, 0 ≤ r → r < 12 → rt r = r → (vl r = none → σ.2.1 61 r = -1) ∧ ∀ x, vl r = some x → ∃ y, x = shT (σ.2.1 62 r) y ∧ TA ar m9 σ (σ.2.1 61 r) (σ.2.1 62 r) y) ∧
  (0 ≤ σ.1 5905 ∧ σ.1 5905 < 4096 ∧ ∀ r, 0 ≤ r → r < 12 → (bt (σ.1 5905) r ↔ rt r = r ∧ vl r ≠ none)) ∧
  (∀ x b q y, 0 ≤ x → x < 12 → TA ar m9 σ q b y → ¬ cl y.1 < 0 → σ.2.1 63 (ix σ x b q) ≠ 0 → V (rt x) (shT b y))
theorem st_lt {τ : Vs} {x : Tm} (hx : ¬ cl x.1 < 0) {v : Int} (hv : vi v (tt x)) : tw (τ v) < tw (st τ x) := by
  have h2 : vi v x.2 := by
    rcases hv with h | h
    · rw [if_neg hx] at h; exact h
    · exact h.elim
  have := su_wt (θ := τ) h2
  rw [st_f τ hx]
  simp only [tw] at this ⊢
  omega
theorem occ_loop {ar : Int → Nat} {pd : Int → Prop} {m9 : Int} {σ : zS} {rt : Int → Int} {vl : Int → Option Tm} {V : Int → Tm → Prop} (hC : Cx ar pd m9 σ) (hU : US ar m9 σ rt vl V) (hG1 : ∀ v, 0 ≤ v → v < 12 → 0 ≤ rt v ∧ rt v < 12 ∧ rt (rt v) = rt v) (hG2 : ∀ r x, vl r = some x → 0 ≤ r ∧ r < 12 ∧ rt r = r ∧ ¬ cl x.1 < 0) {β : Nat} (hβ : 1 ≤ β) {x p sf : Int} (hx0 : 0 ≤ x) (hx1 : x < 12) {X : Tm} (hRange : ∀ v, vi v (tt X) → 0 ≤ rt v) : ∀ (m : Nat) (f d fr b rnd : Int) (y : Tm), rnd + (m : Int) = 13 → 0 ≤ rnd → TA ar m9 σ fr b y → ¬ cl y.1 < 0 → 0 ≤ f → f < 4096 → 0 ≤ d → d < 4096 →
    (∀ u, 0 ≤ u → u < 12 → bt d u → bt f u ∧ ∃ z, vl u = some z ∧ (z = shT b y ∨ ∀ v, vi v (tt z) → bt f (rt v))) →
    (X = shT b y ∨ ∀ v, vi v (tt X) → bt f (rt v)) →
    (∀ τ, Gd rt vl τ → (∀ u, 0 ≤ u → u < 12 → bt f u → tw (τ u) < tw (st τ X)) ∧ tw (st τ (shT b y)) ≤ tw (st τ X)) →
    rnd ≤ (n12 (fun u => bt d u) : Int) →
    ∃ r, (r = 0 ∨ r = 1) ∧ yE tC_Uni_occurs_p15 β σ [x, p, sf, f, d, fr, b, rnd] = some (σ, r) ∧ (r = 1 → ∀ τ, Gd rt vl τ → tw (τ x) < tw (st τ X)) ∧ (r = 0 → ∀ v, vi v (tt X) → ¬ RZ rt vl (fun w => w = x) (rt v))
  | 0, f, d, fr, b, rnd, y, hm, _, _, _, _, _, _, _, _, _, _, I5 => by have := n12_le (fun u => bt d u); omega
  | m + 1, f, d, fr, b, rnd, y, hm, hn, hT, hy, f0, f1, d0, d1, I2, I3, I4, I5 => by
    have hb0 : 0 ≤ b := by have := hT.1; omega
    have hY : ¬ cl (shT b y).1 < 0 := fun w => hy ((shT_neg hb0).mp w)
    obtain ⟨f', g0, g1, g2, g3⟩ := scan_ok hC (fun v a c => ⟨hU.1 v a c, (hG1 v a c).1, (hG1 v a c).2.1⟩) (β := β) (x0 := x) (x1 := p) (x2 := sf) (d := d) (fr := fr) (rnd := rnd) hT.1 _ (tt y) f fr (Nat.le_refl _) hT.2.1 hT.2.2.1 (by have := hT.2.2.2; omega) (by have := hT.2.2.2; omega) f0 f1
    have e1 : ((len (tt y) : Nat) : Int) = 1 := by simp [tt, len]
    rw [e1] at g3
    -- what is found now
    have n1 : ∀ v, vi v (tt (shT b y)) → bt f' (rt v) := fun v hv => by
      obtain ⟨v0, v1⟩ := hT.v hv
      obtain ⟨q0, q1, q2⟩ := hG1 v v0 v1
      exact (g2 _ q0 q1).mpr (Or.inr ⟨v, hv, rfl⟩)
    have n2 : ∀ u, 0 ≤ u → u < 12 → bt f u → bt f' u := fun u u0 u1 h => (g2 u u0 u1).mpr (Or.inl h)
    have lo : ∀ u, bt f u → 0 ≤ u → u < 12 := fun u h h0 => by
      by_cases h1 : u < 12
      · exact h1
      · exact absurd h (bt_hi f0 f1 (by omega))
    have n4 : ∀ τ, Gd rt vl τ → ∀ u, 0 ≤ u → u < 12 → bt f' u → tw (τ u) < tw (st τ X) := fun τ hτ u u0 u1 h => by
      obtain ⟨q1, q2⟩ := I4 τ hτ
      rcases (g2 u u0 u1).mp h with h | ⟨v, hv, rfl⟩
      · exact q1 u u0 u1 h
      · have := st_lt (τ := τ) hY hv
        rw [← hτ.1 v]; omega
    have E : yE tC_Uni_occurs_p15 β σ [x, p, sf, f, d, fr, b, rnd] = yE tC_Uni_occurs_p118 β σ [x, p, sf, f', d, fr, b, rnd, 0, fr + ((wt (tt y) : Nat) : Int)] := by
      rw [yq_Uni_occurs_p15, kY_Uni_occurs_p15, if_neg (by omega), g3]
    rw [E, yq_Uni_occurs_p118, kY_Uni_occurs_p118]
    by_cases hx : bt f' x
    · refine ⟨1, Or.inr rfl, ?_, fun _ τ hτ => n4 τ hτ x hx0 hx1 hx, fun w => by omega⟩
      rw [if_pos ((bt_test hx0 (by omega)).mpr hx), yq_Uni_occurs_p190, kY_Uni_occurs_p190, if_pos ((bt_test hx0 (by omega)).mpr hx), yq_Uni_occurs_p205, kY_Uni_occurs_p205, if_pos (Or.inr rfl)]
    · rw [if_neg (fun w => hx ((bt_test hx0 (by omega)).mp w))]
      obtain ⟨v0, v1, v2⟩ := hU.2.2.1
      obtain ⟨w0, w1⟩ := zand_n (b := σ.1 5905) g0 g1
      obtain ⟨u0, u1⟩ := zand_n (b := -1 - d) w0 w1
      have fb : ∀ u, 0 ≤ u → u < 12 → (bt (zand (zand f' (σ.1 5905)) (-1 - d)) u ↔ bt f' u ∧ (rt u = u ∧ vl u ≠ none) ∧ ¬ bt d u) := fun u a c => by
        rw [bt_and, bt_and, bt_not (by omega), v2 u a c, and_assoc]
      by_cases hz : zand (zand f' (σ.1 5905)) (-1 - d) = 0
      · refine ⟨0, Or.inl rfl, ?_, fun w => by omega, fun _ v hv => ?_⟩
        · rw [if_pos hz, yq_Uni_occurs_p190, kY_Uni_occurs_p190, if_neg (fun w => hx ((bt_test hx0 (by omega)).mp w)), yq_Uni_occurs_p205, kY_Uni_occurs_p205, if_pos (Or.inl rfl)]
        · refine RZ.no (S := fun u => 0 ≤ u ∧ u < 12 ∧ bt f' u) (fun w hw e => by subst e; exact hx hw.2.2) (fun w z v2 hw hz2 hv2 => ?_) ?_
          · -- closed
            have hd : bt d w := by
              by_cases h : bt d w
              · exact h
              · exfalso
                have := (fb w hw.1 hw.2.1).mpr ⟨hw.2.2, ⟨(hG2 w z hz2).2.2.1, by rw [hz2]; simp⟩, h⟩
                rw [hz] at this
                exact bt_0 this
            obtain ⟨_, z2, z3, z4⟩ := I2 w hw.1 hw.2.1 hd
            rw [hz2] at z3
            obtain rfl := Option.some.inj z3
            have bz : bt f' (rt v2) := by
              rcases z4 with z4 | z4
              · subst z4; exact n1 v2 hv2
              · have h := z4 v2 hv2
                by_cases hr0 : 0 ≤ rt v2
                · exact n2 _ hr0 (lo _ h hr0) h
                · exfalso
                  have hv0 := vi_nn hv2
                  obtain ⟨yy, y1, y2⟩ := (hU.2.1 w hw.1 hw.2.1 (hG2 w z hz2).2.2.1).2 z hz2
                  rw [y1] at hv2
                  have := (hG1 v2 (y2.v hv2).1 (y2.v hv2).2).1
                  omega
            obtain ⟨yy, y1, y2⟩ := (hU.2.1 w hw.1 hw.2.1 (hG2 w z hz2).2.2.1).2 z hz2
            rw [y1] at hv2
            obtain ⟨k0, k1⟩ := y2.v hv2
            exact ⟨(hG1 v2 k0 k1).1, (hG1 v2 k0 k1).2.1, bz⟩
          · have hv0 := vi_nn hv
            rcases I3 with e | h
            · subst e
              obtain ⟨k0, k1⟩ := hT.v hv
              exact ⟨(hG1 v k0 k1).1, (hG1 v k0 k1).2.1, n1 v hv⟩
            · have hh := h v hv
              have r0 : 0 ≤ rt v := hRange v hv
              exact ⟨r0, lo _ hh r0, n2 _ r0 (lo _ hh r0) hh⟩
      · rw [if_neg hz, if_pos hβ]
        obtain ⟨r, r0, r1, r2, r3⟩ := ntz_ok (σ := σ) (β := β - 1) (f := zand (zand f' (σ.1 5905)) (-1 - d)) (by omega) u1
        obtain ⟨q1, ⟨q2, q3⟩, q4⟩ := (fb r r0 r1).mp r2
        obtain ⟨z, hzv⟩ : ∃ z, vl r = some z := by
          cases h : vl r with
          | none => exact absurd h q3
          | some z => exact ⟨z, rfl⟩
        obtain ⟨yy, y1, y2⟩ := (hU.2.1 r r0 r1 q2).2 z hzv
        have hb2 : 0 ≤ σ.2.1 62 r := by have := y2.1; omega
        obtain ⟨s1, s2⟩ := zshl_n r0 r1
        obtain ⟨o1, o2⟩ := zor_n d0 d1 s1 s2
        rw [zbd_of r3, if_pos (by omega), if_pos (by omega)]
        have db : ∀ u, 0 ≤ u → u < 12 → (bt (zor d (zshl 1 r)) u ↔ bt d u ∨ u = r) := fun u a c => by rw [bt_or, bt_shl r0 r1 a (by omega)]
        refine occ_loop hC hU hG1 hG2 hβ hx0 hx1 hRange m f' (zor d (zshl 1 r)) (σ.2.1 61 r) (σ.2.1 62 r) (rnd + 1) yy (by omega) (by omega) y2 (fun w => ?_) g0 g1 o1 o2 (fun u a c hd => ?_) (Or.inr (fun v hv => ?_)) (fun τ hτ => ⟨n4 τ hτ, ?_⟩) ?_
        · have := (hG2 r z hzv).2.2.2
          rw [y1] at this
          exact this ((shT_neg hb2).mpr w)
        · rcases (db u a c).mp hd with hd | rfl
          · obtain ⟨i1, zz, i2, i3⟩ := I2 u a c hd
            refine ⟨n2 u a c i1, zz, i2, Or.inr (fun v hv => ?_)⟩
            rcases i3 with e | h
            · subst e; exact n1 v hv
            · obtain ⟨yz, y3, y4⟩ := (hU.2.1 u a c (hG2 u zz i2).2.2.1).2 zz i2
              have hv2 := hv
              rw [y3] at hv2
              obtain ⟨k0, k1⟩ := y4.v hv2
              exact n2 _ (hG1 v k0 k1).1 (hG1 v k0 k1).2.1 (h v hv)
          · exact ⟨q1, z, hzv, Or.inl y1⟩
        · rcases I3 with e | h
          · subst e; exact n1 v hv
          · have hh := h v hv
            have r0' := hRange v hv
            exact n2 _ r0' (lo _ hh r0') hh
        · rw [← y1, ← hτ.2 r z hzv]
          have := n4 τ hτ r r0 r1 q1
          omega
        · have : n12 (fun u => bt d u) < n12 (fun u => bt (zor d (zshl 1 r)) u) := n12_lt (fun i hi => by rw [bt_or]; exact Or.inl hi) r0 r1 ((db r r0 r1).mpr (Or.inr rfl)) q4
          omega
theorem occ_ok {ar : Int → Nat} {pd : Int → Prop} {m9 : Int} {σ : zS} {rt : Int → Int} {vl : Int → Option Tm} {V : Int → Tm → Prop} (hC : Cx ar pd m9 σ) (hU : US ar m9 σ rt vl V) (hG1 : ∀ v, 0 ≤ v → v < 12 → 0 ≤ rt v ∧ rt v < 12 ∧ rt (rt v) = rt v) (hG2 : ∀ r x, vl r = some x → 0 ≤ r ∧ r < 12 ∧ rt r = r ∧ ¬ cl x.1 < 0) {β : Nat} (hβ : 1 ≤ β) {x p b : Int} (hx0 : 0 ≤ x) (hx1 : x < 12) {y : Tm} (hT : TA ar m9 σ p b y) (hy : ¬ cl y.1 < 0) :
    ∃ r, (r = 0 ∨ r = 1) ∧ yE tC_Uni_occurs β σ [x, p, b] = some (σ, r) ∧ (r = 1 → ∀ τ, Gd rt vl τ → tw (τ x) < tw (st τ (shT b y))) ∧ (r = 0 → ∀ v, vi v (tt (shT b y)) → ¬ RZ rt vl (fun w => w = x) (rt v)) := by
  rw [yq_Uni_occurs, kY_Uni_occurs]
  exact occ_loop hC hU hG1 hG2 hβ hx0 hx1 (X := shT b y) (fun v hv => (hG1 v (hT.v hv).1 (hT.v hv).2).1) 13 0 0 p b 0 y (by omega) (by omega) hT hy (by omega) (by omega) (by omega) (by omega) (fun u _ _ h => absurd h bt_0) (Or.inl rfl) (fun τ _ => ⟨fun u _ _ h => absurd h bt_0, Nat.le_refl _⟩) (by omega)
