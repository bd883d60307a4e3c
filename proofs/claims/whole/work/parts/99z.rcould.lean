/-! the reference: could a single = REWRITE within a CLAUSE -/
theorem rwI_v {pd : Int → Prop} {l r y : Tm} (h : cl y.1 < 0) : rwI pd l r y = none := by
  unfold rwI
  split
  · rfl
  · rw [if_neg]
    rintro ⟨_, hg⟩
    have := hg.1
    omega
theorem sb_lt : ∀ {F : T} {o : Nat} {x : Tm}, sbF o F = some x → o < wt F
  | .leaf _, o, x, h => by cases h
  | .branch n k s, o, x, h => by
    simp only [sbF] at h
    simp only [wt]
    by_cases e : o = 0
    · omega
    · rw [if_neg e] at h
      by_cases q : o ≤ wt k
      · omega
      · rw [if_neg q] at h
        have := sb_lt h
        omega
theorem sb_nd0 {n : Nat} {k s : T} : sbF 0 (nd n k s) = some (n, k) := rfl
theorem sb_ndk {n : Nat} {k s : T} {o : Nat} (h : o < wt k) : sbF (o + 1) (nd n k s) = sbF o k := by
  show (if o + 1 = 0 then _ else if o + 1 ≤ wt k then sbF (o + 1 - 1) k else _) = _
  rw [if_neg (by omega), if_pos (by omega), Nat.add_sub_cancel]
theorem sb_nds {n : Nat} {k s : T} {o : Nat} : sbF (1 + wt k + o) (nd n k s) = sbF o s := by
  show (if 1 + wt k + o = 0 then _ else if 1 + wt k + o ≤ wt k then _ else sbF (1 + wt k + o - 1 - wt k) s) = _
  rw [if_neg (by omega), if_neg (by omega), show 1 + wt k + o - 1 - wt k = o by omega]
theorem sb_any {P : Tm → Prop} {n : Nat} {k s : T} : (∃ o x, sbF o (nd n k s) = some x ∧ P x) ↔ P (n, k) ∨ (∃ o x, sbF o k = some x ∧ P x) ∨ (∃ o x, sbF o s = some x ∧ P x) := by
  constructor
  · rintro ⟨o, x, h, hp⟩
    by_cases e : o = 0
    · subst e
      rw [sb_nd0] at h
      obtain rfl := Option.some.inj h
      exact Or.inl hp
    · by_cases q : o ≤ wt k
      · obtain ⟨o', rfl⟩ : ∃ o', o = o' + 1 := ⟨o - 1, by omega⟩
        rw [sb_ndk (by omega)] at h
        exact Or.inr (Or.inl ⟨o', x, h, hp⟩)
      · obtain ⟨o', rfl⟩ : ∃ o', o = 1 + wt k + o' := ⟨o - 1 - wt k, by omega⟩
        rw [sb_nds] at h
        exact Or.inr (Or.inr ⟨o', x, h, hp⟩)
  · rintro (h | ⟨o, x, h, hp⟩ | ⟨o, x, h, hp⟩)
    · exact ⟨0, (n, k), sb_nd0, h⟩
    · exact ⟨o + 1, x, by rw [sb_ndk (sb_lt h)]; exact h, hp⟩
    · exact ⟨1 + wt k + o, x, by rw [sb_nds]; exact h, hp⟩
theorem sb_anc {P : Tm → Prop} {A B : T} : (∃ o x, sbF o (cat A B) = some x ∧ P x) ↔ (∃ o x, sbF o A = some x ∧ P x) ∨ (∃ o x, sbF o B = some x ∧ P x) := by
  constructor
  · rintro ⟨o, x, h, hp⟩
    rw [sbF_cat] at h
    by_cases q : o < wt A
    · rw [if_pos q] at h; exact Or.inl ⟨o, x, h, hp⟩
    · rw [if_neg q] at h; exact Or.inr ⟨_, x, h, hp⟩
  · rintro (⟨o, x, h, hp⟩ | ⟨o, x, h, hp⟩)
    · exact ⟨o, x, by rw [sbF_cat, if_pos (sb_lt h)]; exact h, hp⟩
    · exact ⟨wt A + o, x, by rw [sbF_cat, if_neg (by omega), Nat.add_sub_cancel_left]; exact h, hp⟩
abbrev CG (σ τ : zS) : Prop := FrC [47] BL σ τ ∧ PB σ τ
theorem CG.refl {σ : zS} : CG σ σ := ⟨FrC.refl, PB.refl⟩
theorem CG.trans {σ τ ρ : zS} (h : CG σ τ) (g : CG τ ρ) : CG σ ρ := ⟨h.1.trans g.1, h.2.trans g.2⟩
section could
variable {ar : Int → Nat} {pd : Int → Prop} {m9 : Int} {Cs : List CL} {e : Nat} {c : CL} {b : Lt}
theorem cou_of {β : Nat} (hβ : 211 ≤ β) (m0 : 0 ≤ m9) (hc : Cs[e]? = some c) (hb : c.1 = [b]) (wc : Wc ar m9 c.1) {σ : zS} (hR : RC σ Cs) (hp : Pd σ m9 pd) {x : Tm} {t : Int} (hx : Px σ x t) (hb2 : t + (tw x : Int) ≤ 205000) (wx : wf ar (lb m9) (tt x)) (tx : tw x ≤ 100) (go : ∀ ρ : zS, CG σ ρ → ∃ τ, zE tM_could_39 β ρ [(e : Int), t, ρ.2.1 44 t] = some (τ, b2 (∃ o y, sbF o x.2 = some y ∧ rwP pd b y)) ∧ CG ρ τ) : ∃ τ, zE tM_could β σ [(e : Int), t] = some (τ, b2 (∃ o y, sbF o (tt x) = some y ∧ rwP pd b y)) ∧ CG σ τ := by
  have t0 := hx.1.1
  have step : ∀ (s : Int) (ρ : zS), (s = 0 ∨ s = 1) → CG σ ρ → ∃ τ, CG σ τ ∧ ((rwI pd (sdT b s) (sdT b (1 - s)) x = none ∧ zE tM_could_2 β ρ [(e : Int), t, s] = zE tM_could_2 β τ [(e : Int), t, s + 1]) ∨ (rwI pd (sdT b s) (sdT b (1 - s)) x ≠ none ∧ zE tM_could_2 β ρ [(e : Int), t, s] = some (τ, 1))) := fun s ρ hs fρ => by
    obtain ⟨ρ1, hρ1⟩ : ∃ z, z = zI ρ 47 205000 := ⟨_, rfl⟩
    have g1 : CG σ ρ1 := fρ.trans ⟨by rw [hρ1]; exact FrC_I, fun k i _ _ _ => by rw [hρ1]; rfl⟩
    have i47 : ρ1.1 47 = 205000 := by rw [hρ1, zI_1]
    obtain ⟨τ, a1, a2, a3⟩ := bec_ok (pd := pd) (β := β - 1) (by omega) (hR.f g1.1 g1.2) (hp.f g1.1) m0 hc hb wc hs (y := x) (t := t) (Px_q hx (Pq.w g1.2 t0 (by have : tw x = 1 + wt x.2 := rfl; omega))) wx tx (by omega) (by omega) (by omega)
    rw [i47] at a2 a3
    have gτ : CG σ τ := g1.trans ⟨a1, a2⟩
    refine ⟨τ, gτ, ?_⟩
    have h1 : zE tM_could_2 β ρ [(e : Int), t, s] = zbd (zE tM_becomes (β - 1) ρ1 [(e : Int), s, t]) (fun σ2 r2 => if r2 < 0 then (if zr (s + 1) then zE tM_could_2 β σ2 [(e : Int), t, s + 1] else none) else some (σ2, 1)) := by
      rw [zq_could_2, kZ_could_2, if_neg (by omega), lt_e, ← hρ1, if_pos (by omega)]
    rw [h1]
    rcases a3 with ⟨n1, n2⟩ | ⟨z, n1, n2, _⟩
    · left
      refine ⟨n1, ?_⟩
      rw [zbd_of n2, if_pos (by decide), if_pos (by omega)]
    · right
      refine ⟨by rw [n1]; simp, ?_⟩
      rw [zbd_of n2, if_neg (by decide)]
  have yes : rwI pd b.2.1 b.2.2 x ≠ none ∨ rwI pd b.2.2 b.2.1 x ≠ none → b2 (∃ o y, sbF o (tt x) = some y ∧ rwP pd b y) = 1 := fun h => b2_t ⟨0, x, rfl, fun hv => by rcases h with h | h <;> exact h (rwI_v hv), h⟩
  obtain ⟨σ1, f1, u1⟩ := step 0 σ (Or.inl rfl) CG.refl
  rw [zq_could, kZ_could]
  rcases u1 with ⟨n1, n2⟩ | ⟨n1, n2⟩
  · obtain ⟨σ2, f2, u2⟩ := step 1 σ1 (Or.inr rfl) f1
    rw [n2, show (0 : Int) + 1 = 1 by omega]
    rcases u2 with ⟨v1, v2⟩ | ⟨v1, v2⟩
    · obtain ⟨τ, w1, w2⟩ := go σ2 f2
      refine ⟨τ, ?_, f2.trans w2⟩
      rw [v2, zq_could_2, kZ_could_2, if_pos (by omega), if_pos (by omega), w1]
      congr 2
      refine b2_c ?_
      rw [show tt x = nd x.1 x.2 nl from rfl, sb_any]
      constructor
      · exact fun h => Or.inr (Or.inl h)
      · rintro (⟨_, h⟩ | h | ⟨o, y, h, _⟩)
        · rcases h with h | h
          · exact absurd n1 h
          · exact absurd v1 h
        · exact h
        · cases h
    · exact ⟨σ2, by rw [v2, yes (Or.inr v1)], f2⟩
  · exact ⟨σ1, by rw [n2, yes (Or.inl n1)], f1⟩
theorem cou_loop (m0 : 0 ≤ m9) (hc : Cs[e]? = some c) (hb : c.1 = [b]) (wc : Wc ar m9 c.1) : ∀ (S : T) (β : Nat) (σ : zS) (x1 x2 : Int), RC σ Cs → Pd σ m9 pd → Pc σ S x2 → x2 + (wt S : Int) ≤ 205000 → wf ar (lb m9) S → wt S ≤ 100 → ht S + 211 ≤ β → ∃ τ, zE tM_could_39 β σ [(e : Int), x1, x2] = some (τ, b2 (∃ o y, sbF o S = some y ∧ rwP pd b y)) ∧ CG σ τ
  | .leaf (), β, σ, x1, x2, hR, hp, hP, _, _, _, _ => by
    have h1 : x2 < 0 := hP
    refine ⟨σ, ?_, CG.refl⟩
    rw [zq_could_39, kZ_could_39, if_pos h1, b2_f]
    rintro ⟨o, y, h, _⟩
    cases h
  | .branch n k s, β, σ, x1, x2, hR, hp, hP, hbd, hw, hwt, hd => by
    have kb := Pc_kid hP hbd (by omega)
    have sb' := Pc_bes hP hbd (by omega)
    have hPt := (Pc_nd.mp hP).1
    have hP6 := hP.2.2.2.2.2.1
    have hP4 := hPt.2.2.2.1
    simp only [ht] at hd
    simp only [wt] at hbd hwt
    obtain ⟨w1, w2, w3, w4⟩ := hw
    have t0 := hPt.1
    obtain ⟨σ1, a1, a2⟩ := cou_of (pd := pd) (β := β - 1) (by omega) m0 hc hb wc hR hp (x := (n, k)) (t := x2) ⟨hPt, by show x2 + 1 + (wt k : Int) ≤ 420000; omega⟩ (by show x2 + ((1 + wt k : Nat) : Int) ≤ 205000; omega) ⟨w1, w2, w3, trivial⟩ (by show 1 + wt k ≤ 100; omega) (fun ρ fρ => by
      have e44 : ρ.2.1 44 x2 = σ.2.1 44 x2 := fρ.2 44 x2 t0 (by omega) (by simp)
      rw [e44]
      have kq : Pc ρ k (σ.2.1 44 x2) := by
        rcases Pc_bd hP4 with ⟨q1, q2⟩ | ⟨q1, q2⟩
        · have := wt0 q1
          subst this; exact q2
        · exact Pc_q (Pq.w fρ.2 q2 (by omega)) hP4
      exact cou_loop m0 hc hb wc k (β - 1) ρ x2 (σ.2.1 44 x2) (hR.f fρ.1 fρ.2) (hp.f fρ.1) kq (by omega) w3 (by omega) (by omega))
    rw [zq_could_39, kZ_could_39, if_neg (by omega), if_pos (by omega), zbd_of a1]
    have en : (∃ o y, sbF o (tt ((n, k) : Tm)) = some y ∧ rwP pd b y) ∨ (∃ o y, sbF o s = some y ∧ rwP pd b y) ↔ ∃ o y, sbF o (.branch n k s) = some y ∧ rwP pd b y := by
      rw [show tt ((n, k) : Tm) = nd n k nl from rfl, sb_any, show (.branch n k s : T) = nd n k s from rfl, sb_any]
      constructor
      · rintro ((h | h | ⟨o, y, h, _⟩) | h)
        · exact Or.inl h
        · exact Or.inr (Or.inl h)
        · cases h
        · exact Or.inr (Or.inr h)
      · rintro (h | h | h)
        · exact Or.inl (Or.inl h)
        · exact Or.inl (Or.inr (Or.inl h))
        · exact Or.inr h
    by_cases h : ∃ o y, sbF o (tt ((n, k) : Tm)) = some y ∧ rwP pd b y
    · rw [b2_t h, if_neg (by decide), b2_t (en.mp (Or.inl h))]
      exact ⟨σ1, rfl, a2⟩
    · rw [b2_f h, if_pos rfl, if_pos (by omega)]
      have e45 : σ1.2.1 45 x2 = σ.2.1 45 x2 := a2.2 45 x2 t0 (by omega) (by simp)
      have sq : Pc σ1 s (σ.2.1 45 x2) := by
        rcases Pc_bd hP6 with ⟨q1, q2⟩ | ⟨q1, q2⟩
        · have := wt0 q1
          subst this; exact q2
        · exact Pc_q (Pq.w a2.2 q2 (by omega)) hP6
      obtain ⟨τ, v1, v2⟩ := cou_loop m0 hc hb wc s β σ1 x1 (σ.2.1 45 x2) (hR.f a2.1 a2.2) (hp.f a2.1) sq (by omega) w4 (by omega) (by omega)
      refine ⟨τ, ?_, a2.trans v2⟩
      rw [e45, v1]
      congr 2
      exact b2_c ⟨fun w => en.mp (Or.inr w), fun w => (en.mpr w).elim (fun z => absurd z h) id⟩
theorem cou_t (m0 : 0 ≤ m9) (hc : Cs[e]? = some c) (hb : c.1 = [b]) (wc : Wc ar m9 c.1) {β : Nat} (hβ : 311 ≤ β) {σ : zS} (hR : RC σ Cs) (hp : Pd σ m9 pd) {x : Tm} {t : Int} (hx : Px σ x t) (hb2 : t + (tw x : Int) ≤ 205000) (wx : wf ar (lb m9) (tt x)) (tx : tw x ≤ 100) : ∃ τ, zE tM_could β σ [(e : Int), t] = some (τ, b2 (∃ o y, sbF o (tt x) = some y ∧ rwP pd b y)) ∧ CG σ τ := by
  have ex : tw x = 1 + wt x.2 := rfl
  have hh := ht_le_wt x.2
  have t0 := hx.1.1
  have kb := Pt_kid (b := 205000) hx.1 (by omega) (by omega)
  have hP4 := hx.1.2.2.2.1
  refine cou_of (by omega) m0 hc hb wc hR hp hx hb2 wx tx (fun ρ fρ => ?_)
  have e44 : ρ.2.1 44 t = σ.2.1 44 t := fρ.2 44 t t0 (by omega) (by simp)
  rw [e44]
  have kq : Pc ρ x.2 (σ.2.1 44 t) := by
    rcases Pc_bd hP4 with ⟨q1, q2⟩ | ⟨q1, q2⟩
    · have := wt0 q1
      rw [this]; exact q2
    · exact Pc_q (Pq.w fρ.2 q2 (by omega)) hP4
  exact cou_loop m0 hc hb wc x.2 β ρ t (σ.2.1 44 t) (hR.f fρ.1 fρ.2) (hp.f fρ.1) kq (by omega) wx.2.2.1 (by omega) (by omega)
theorem crw_7 (m0 : 0 ≤ m9) (hc : Cs[e]? = some c) (hb : c.1 = [b]) (wc : Wc ar m9 c.1) {kd : Nat} {d : CL} (hd : Cs[kd]? = some d) (wd : Wc ar m9 d.1) {β : Nat} (hβ : 312 ≤ β) : ∀ (m n : Nat) (σ : zS), RC σ Cs → Pd σ m9 pd → n + m = d.1.length → ∃ τ, zE tM_couldRewrite_7 β σ [(e : Int), (kd : Int), lpos Cs kd + (n : Int)] = some (τ, b2 (∃ (i : Nat) (a : Lt), n ≤ i ∧ d.1[i]? = some a ∧ ∃ o y, sbF o (lF a) = some y ∧ rwP pd b y)) ∧ CG σ τ
  | 0, n, σ, hR, hp, hm => by
    obtain ⟨hkd, q1, q2, q3, q4, q5⟩ := hR.k hd
    refine ⟨σ, ?_, CG.refl⟩
    rw [zq_couldRewrite_7, kZ_couldRewrite_7, if_pos (by omega), hkd.1, hkd.2.1, if_pos (by omega), if_pos (by omega), b2_f]
    rintro ⟨i, a, h1, h2, _⟩
    have := (List.getElem?_eq_some_iff.mp h2).1
    omega
  | m + 1, n, σ, hR, hp, hm => by
    obtain ⟨hkd, q1, q2, q3, q4, q5⟩ := hR.k hd
    obtain ⟨r4', r4''⟩ := hR.2.2.2.1
    obtain ⟨a, ha⟩ : ∃ a, d.1[n]? = some a := ⟨_, List.getElem?_eq_getElem (by omega)⟩
    obtain ⟨l1, l2, l3, l4, _, _⟩ := hR.l hd ha
    obtain ⟨wa0, wa1, wa2⟩ := wd.2.2.2.2 a (List.mem_of_getElem? ha)
    have lwm : lwt a ≤ wtL d.1 := wtL_mm (List.mem_of_getElem? ha)
    have elw : lwt a = tw a.2.1 + tw a.2.2 := rfl
    have w100 := wd.2.1
    have e52 : ∀ ρ : zS, zE tM_couldRewrite_52 β ρ [(e : Int), (kd : Int), lpos Cs kd + (n : Int)] = some (ρ, 1) := fun ρ => by rw [zq_couldRewrite_52, kZ_couldRewrite_52]
    obtain ⟨σ1, t1, f1⟩ := cou_t (pd := pd) m0 hc hb wc (β := β - 1) (by omega) hR hp l1 (by omega) wa1 (by omega)
    rw [zq_couldRewrite_7, kZ_couldRewrite_7, if_pos (by omega), hkd.1, hkd.2.1, if_pos (by omega), if_neg (by omega), if_pos (by omega), if_pos (by omega), zbd_of t1]
    have en : (∃ o y, sbF o (tt a.2.1) = some y ∧ rwP pd b y) ∨ (∃ o y, sbF o (tt a.2.2) = some y ∧ rwP pd b y) ↔ ∃ o y, sbF o (lF a) = some y ∧ rwP pd b y := by
      unfold lF; rw [sb_anc]
    by_cases h1 : ∃ o y, sbF o (tt a.2.1) = some y ∧ rwP pd b y
    · rw [b2_t h1, if_neg (by decide), e52, b2_t ⟨n, a, Nat.le_refl _, ha, en.mp (Or.inl h1)⟩]
      exact ⟨σ1, rfl, f1⟩
    · rw [b2_f h1, if_pos rfl, if_pos (by omega)]
      have e67 : σ1.2.1 67 (lpos Cs kd + (n : Int)) = σ.2.1 67 (lpos Cs kd + (n : Int)) := f1.1.a 67 _
      have m2 := l2.1.1
      obtain ⟨σ2, t2, f2⟩ := cou_t (pd := pd) m0 hc hb wc (β := β - 1) (by omega) (hR.f f1.1 f1.2) (hp.f f1.1) (Px_q l2 (Pq.w f1.2 m2 (by have : tw a.2.2 = 1 + wt a.2.2.2 := rfl; omega))) (by omega) wa2 (by omega)
      rw [e67, zbd_of t2]
      have f12 := f1.trans f2
      by_cases h2 : ∃ o y, sbF o (tt a.2.2) = some y ∧ rwP pd b y
      · rw [b2_t h2, if_neg (by decide), e52, b2_t ⟨n, a, Nat.le_refl _, ha, en.mp (Or.inr h2)⟩]
        exact ⟨σ2, rfl, f12⟩
      · rw [b2_f h2, if_pos rfl, if_pos (by omega)]
        obtain ⟨τ, v1, v2⟩ := crw_7 m0 hc hb wc hd wd hβ m (n + 1) σ2 (hR.f f12.1 f12.2) (hp.f f12.1) (by omega)
        refine ⟨τ, ?_, f12.trans v2⟩
        rw [show lpos Cs kd + (n : Int) + 1 = lpos Cs kd + ((n + 1 : Nat) : Int) by omega, v1]
        congr 2
        refine b2_c ⟨?_, ?_⟩
        · rintro ⟨i, a', u1, u2⟩; exact ⟨i, a', by omega, u2⟩
        · rintro ⟨i, a', u1, u2, u3⟩
          by_cases e : i = n
          · rw [e, ha] at u2
            obtain rfl := Option.some.inj u2
            exact absurd (en.mpr u3) (fun w => w.elim h1 h2)
          · exact ⟨i, a', by omega, u2, u3⟩
theorem crw_ok (m0 : 0 ≤ m9) (hc : Cs[e]? = some c) (hb : c.1 = [b]) (wc : Wc ar m9 c.1) {kd : Nat} {d : CL} (hd : Cs[kd]? = some d) (wd : Wc ar m9 d.1) {β : Nat} (hβ : 312 ≤ β) {σ : zS} (hR : RC σ Cs) (hp : Pd σ m9 pd) : ∃ τ, zE tM_couldRewrite β σ [(e : Int), (kd : Int)] = some (τ, b2 (∃ (i : Nat) (a : Lt), d.1[i]? = some a ∧ ∃ o y, sbF o (lF a) = some y ∧ rwP pd b y)) ∧ CG σ τ := by
  obtain ⟨hkd, q1, q2, q3, q4, q5⟩ := hR.k hd
  obtain ⟨τ, t1, t2⟩ := crw_7 (pd := pd) m0 hc hb wc hd wd hβ d.1.length 0 σ hR hp (by omega)
  refine ⟨τ, ?_, t2⟩
  rw [show lpos Cs kd + ((0 : Nat) : Int) = lpos Cs kd by omega] at t1
  rw [zq_couldRewrite, kZ_couldRewrite, if_pos (by omega), hkd.1, t1]
  congr 2
  exact b2_c ⟨fun ⟨i, a, _, h⟩ => ⟨i, a, h⟩, fun ⟨i, a, h⟩ => ⟨i, a, Nat.zero_le _, h⟩⟩
end could
