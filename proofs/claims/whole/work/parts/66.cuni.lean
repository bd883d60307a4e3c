/-! meetings: which were, is also in the row -/
def n63 (g : Int → Int) : Nat := ((List.range 3360).filter (fun i : Nat => decide (g (i : Int) ≠ 0))).length
theorem n63_le (g : Int → Int) : n63 g ≤ 3360 := by
  unfold n63
  have := List.length_filter_le (fun i : Nat => decide (g (i : Int) ≠ 0)) (List.range 3360)
  simpa using this
def MT (σ : zS) : Prop := ∃ M, RowC σ 6401 65 M ∧ M.length ≤ n63 (σ.2.1 63) ∧ (∀ i ∈ M, 0 ≤ i ∧ i < 3360) ∧ (∀ i, 0 ≤ i → i < 3360 → σ.2.1 63 i ≠ 0 → i ∈ M) ∧ σ.2.2 65 ≤ 10000
theorem MT.f {I A : List Nat} {σ τ : zS} (h : MT σ) (f : FrC I A σ τ) (h1 : I.elem 6401 = false := by decide) (h2 : A.elem 63 = false := by decide) (h3 : A.elem 65 = false := by decide) : MT τ := by
  obtain ⟨M, m1, m2, m3, m4, m5⟩ := h
  have e : τ.2.1 63 = σ.2.1 63 := by funext q; exact f.2.1 63 q h2
  refine ⟨M, m1.f f h1 h3, by rw [e]; exact m2, m3, by rw [e]; exact m4, ?_⟩
  rw [f.2.2.1 65 h3 (by decide) (by decide)]; exact m5
abbrev UF (σ τ : zS) : Prop := FrC [5905, 6401] [60, 61, 62, 63, 65] σ τ
theorem UF.rl {σ τ : zS} (f : UF σ τ) (h : RL σ) (m : MT τ) : RL τ := fun j hj => by
  by_cases e : j = 65
  · subst e
    obtain ⟨M, _, _, _, _, m5⟩ := m
    omega
  · have hm : j ∈ rws := List.elem_iff.mp hj
    simp only [rws, List.mem_cons, List.not_mem_nil, or_false] at hm
    rw [f.2.2.1 j (by rcases hm with rfl | rfl | rfl | rfl | rfl | rfl | rfl | rfl | rfl | rfl | rfl | rfl | rfl | rfl | rfl | rfl <;> first | rfl | exact absurd rfl e) (by omega) (by omega)]
    exact h j hj
/-- one more meeting -/
theorem MT.add {σ : zS} (h : MT σ) (hM : Mb σ) (hR : RL σ) {k : Int} (k0 : 0 ≤ k) (k1 : k < 3360) (hk : σ.2.1 63 k = 0) : zrok (zA σ 63 k 1) 6401 65 ∧ MT (zAdd (zA σ 63 k 1) 6401 65 k) ∧ UF σ (zAdd (zA σ 63 k 1) 6401 65 k) ∧ ∀ q, (zAdd (zA σ 63 k 1) 6401 65 k).2.1 63 q = if q = k then 1 else σ.2.1 63 q := by
  obtain ⟨M, m1, m2, m3, m4, m5⟩ := h
  have f0 : UF σ (zA σ 63 k 1) := FrC_A
  have r0 : RowC (zA σ 63 k 1) 6401 65 M := m1.q rfl (fun q => zA_j) rfl
  obtain ⟨r1, f1, l1⟩ := zAdd_row (x := k) r0
  have e63 : ∀ q, (zAdd (zA σ 63 k 1) 6401 65 k).2.1 63 q = if q = k then 1 else σ.2.1 63 q := fun q => by
    rw [f1.a 63 q]
    by_cases e : q = k
    · rw [if_pos e, e, zA_s]
    · rw [if_neg e, zA_i e]
  have hlt : n63 (σ.2.1 63) < n63 ((zAdd (zA σ 63 k 1) 6401 65 k).2.1 63) := by
    refine filt_lt (fun a ha => ?_) ⟨k.toNat, List.mem_range.mpr (by omega), ?_, ?_⟩
    · simp only [decide_eq_true_eq] at ha ⊢
      rw [e63]
      split
      · decide
      · exact ha
    · simp only [decide_eq_true_eq]
      rw [Int.toNat_of_nonneg k0, e63, if_pos rfl]; decide
    · simp only [decide_eq_true_eq]
      rw [Int.toNat_of_nonneg k0, hk]; simp
  have b1 := n63_le (σ.2.1 63)
  refine ⟨zrok_of (hM.m f0.2.2.2) (fun j hj => hR j hj) r0, ⟨M ++ [k], r1, ?_, ?_, ?_, ?_⟩, f0.trans f1.w, e63⟩
  · simp only [List.length_append, List.length_cons, List.length_nil]; omega
  · intro i hi
    rcases List.mem_append.mp hi with w | w
    · exact m3 i w
    · simp at w; omega
  · intro i i0 i1 hi
    rw [e63] at hi
    by_cases e : i = k
    · simp [e]
    · rw [if_neg e] at hi
      exact List.mem_append.mpr (Or.inl (m4 i i0 i1 hi))
  · have : (zA σ 63 k 1).2.2 65 = σ.2.2 65 := rfl
    rcases l1 with l1 | l1 <;> omega
/-- what a step towards the same comes to -/
def UP (ar : Int → Nat) (pd : Int → Prop) (m9 : Int) (Sol : Vs → Prop) (P : Tm → Tm → Prop) (σ : zS) (rt : Int → Int) (V : Int → Tm → Prop) (L : Tm → Tm → Prop) (K : (Int → Int) → (Int → Tm → Prop) → Prop) (τ : zS) (r : Int) : Prop :=
  UF σ τ ∧ MT τ ∧ ((r = 1 ∧ ∃ rt2 vl2 V2 L2, US ar m9 τ rt2 vl2 V2 ∧ GI pd Sol P rt2 vl2 V2 L2 ∧ Mo rt V L rt2 V2 L2 ∧ K rt2 V2) ∨ (r = 0 ∧ ∀ θ, ¬ Sol θ))
theorem UP.r {ar : Int → Nat} {pd : Int → Prop} {m9 : Int} {Sol : Vs → Prop} {P : Tm → Tm → Prop} {σ : zS} {rt : Int → Int} {V : Int → Tm → Prop} {L : Tm → Tm → Prop} {K : (Int → Int) → (Int → Tm → Prop) → Prop} {τ : zS} {r : Int} (h : UP ar pd m9 Sol P σ rt V L K τ r) : r = 0 ∨ r = 1 := by
  rcases h.2.2 with ⟨h, _⟩ | ⟨h, _⟩
  · exact Or.inr h
  · exact Or.inl h
/-- before two TERMS at p and q are to become the same -/
def UB (ar : Int → Nat) (pd : Int → Prop) (m9 : Int) (Sol : Vs → Prop) (P : Tm → Tm → Prop) (σ : zS) (rt : Int → Int) (vl : Int → Option Tm) (V : Int → Tm → Prop) (L : Tm → Tm → Prop) : Prop := Cx ar pd m9 σ ∧ Mb σ ∧ RL σ ∧ MT σ ∧ US ar m9 σ rt vl V ∧ GI pd Sol P rt vl V L
theorem UB.n {ar : Int → Nat} {pd : Int → Prop} {m9 : Int} {Sol : Vs → Prop} {P P2 : Tm → Tm → Prop} {σ τ : zS} {rt rt2 : Int → Int} {vl vl2 : Int → Option Tm} {V V2 : Int → Tm → Prop} {L L2 : Tm → Tm → Prop} (h : UB ar pd m9 Sol P σ rt vl V L) (f : UF σ τ) (m : MT τ) (u : US ar m9 τ rt2 vl2 V2) (g : GI pd Sol P2 rt2 vl2 V2 L2) : UB ar pd m9 Sol P2 τ rt2 vl2 V2 L2 := ⟨h.1.f f, h.2.1.m f.2.2.2, f.rl h.2.2.1 m, m, u, g⟩
def UnOk (ar : Int → Nat) (pd : Int → Prop) (m9 : Int) (Sol : Vs → Prop) (dep : Int) : Prop := ∀ (β : Nat) (σ : zS) (P : Tm → Tm → Prop) (rt : Int → Int) (vl : Int → Option Tm) (V : Int → Tm → Prop) (L : Tm → Tm → Prop) (p b q c : Int) (x y : Tm), 3 * (49 - dep) + 6 ≤ (β : Int) → UB ar pd m9 Sol P σ rt vl V L → TA ar m9 σ p b x → TA ar m9 σ q c y → (∀ τ, Sol τ → st τ (shT b x) = st τ (shT c y)) → (dep = 0 ∨ (¬ cl x.1 < 0 ∧ ¬ cl y.1 < 0 ∧ ∀ τ, Sol τ → dep + (n12 (fun v => tw (τ v) < tw (st τ (shT b x))) : Int) ≤ 12)) →
  Ok (yE tG_Uni_unite β σ [p, b, q, c, dep]) (UP ar pd m9 Sol P σ rt V L (fun rt2 V2 => JF rt2 V2 (tt (shT b x)) (tt (shT c y))))
theorem GI.p {pd : Int → Prop} {Sol : Vs → Prop} {P P2 : Tm → Tm → Prop} {rt : Int → Int} {vl : Int → Option Tm} {V : Int → Tm → Prop} {L : Tm → Tm → Prop} (h : GI pd Sol P rt vl V L) (hp : ∀ x y, P x y → P2 x y) : GI pd Sol P2 rt vl V L := ⟨h.1, h.2.1, h.2.2.1, fun x y l => ⟨(h.2.2.2.1 x y l).1, (h.2.2.2.1 x y l).2.1, (h.2.2.2.1 x y l).2.2.imp (hp x y) id⟩, h.2.2.2.2⟩
theorem GI.gd {pd : Int → Prop} {Sol : Vs → Prop} {P : Tm → Tm → Prop} {rt : Int → Int} {vl : Int → Option Tm} {V : Int → Tm → Prop} {L : Tm → Tm → Prop} (h : GI pd Sol P rt vl V L) {τ : Vs} (hτ : Sol τ) : Gd rt vl τ := ⟨(h.2.2.2.2.2.1 τ hτ).1, fun r y hy => (h.2.2.2.2.2.1 τ hτ).2 r y (h.2.1 r y hy).2.2.2.2.2.1⟩
theorem GI.g2 {pd : Int → Prop} {Sol : Vs → Prop} {P : Tm → Tm → Prop} {rt : Int → Int} {vl : Int → Option Tm} {V : Int → Tm → Prop} {L : Tm → Tm → Prop} (h : GI pd Sol P rt vl V L) : ∀ r x, vl r = some x → 0 ≤ r ∧ r < 12 ∧ rt r = r ∧ ¬ cl x.1 < 0 := fun r x hx => by
  obtain ⟨a, b, c, d, _⟩ := h.2.1 r x hx
  exact ⟨a, b, c, d⟩
/-- the value of a root, as it lies -/
theorem US.at {ar : Int → Nat} {m9 : Int} {σ : zS} {rt : Int → Int} {vl : Int → Option Tm} {V : Int → Tm → Prop} (h : US ar m9 σ rt vl V) {r : Int} (r0 : 0 ≤ r) (r1 : r < 12) (hr : rt r = r) {x : Tm} (hx : vl r = some x) (hn : ¬ cl x.1 < 0) : ∃ y, x = shT (σ.2.1 62 r) y ∧ TA ar m9 σ (σ.2.1 61 r) (σ.2.1 62 r) y ∧ ¬ cl y.1 < 0 ∧ 0 ≤ σ.2.1 61 r := by
  obtain ⟨y, y1, y2⟩ := (h.2.1 r r0 r1 hr).2 x hx
  have hb : 0 ≤ σ.2.1 62 r := by have := y2.1; omega
  refine ⟨y, y1, y2, fun w => hn (by rw [y1]; exact (shT_neg hb).mpr w), ?_⟩
  have := y2.2.2.2
  omega
theorem shT_tw (b : Int) (x : Tm) : tw (shT b x) = tw x := by
  show 1 + wt (sh b x.2) = 1 + wt x.2
  rw [sh_wt]
theorem isPred_c {ar : Int → Nat} {pd : Int → Prop} {m9 : Int} {σ : zS} (hC : Cx ar pd m9 σ) {β : Nat} {c : Int} (h0 : 0 ≤ c) (h1 : c < m9) : yE tC_Sym_isPredicate β σ [c] = some (σ, b2 (pd c)) := by
  have := hC.2.1
  rw [yq_Sym_isPredicate, kY_Sym_isPredicate, if_pos (by omega)]
  by_cases h : pd c
  · rw [if_pos ((hC.2.2.1 c h0 h1).mpr h), yq_Sym_isPredicate_p15, kY_Sym_isPredicate_p15, if_pos (Or.inr rfl), b2_t h]
  · rw [if_neg (fun w => h ((hC.2.2.1 c h0 h1).mp w)), yq_Sym_isPredicate_p15, kY_Sym_isPredicate_p15, if_pos (Or.inl rfl), b2_f h]
theorem FA.bk {I A : List Nat} {ar : Int → Nat} {m9 : Int} {σ τ : zS} {q b : Int} {F : T} (h : FA ar m9 τ q b F) (f : FrC I A σ τ) (h1 : I.elem 4701 = false := by decide) (h2 : I.elem 5906 = false := by decide) (h3 : I.elem 5907 = false := by decide) (h4 : A.elem 48 = false := by decide) : FA ar m9 σ q b F := by
  have e : bs τ b = bs σ b := by unfold bs; rw [f.1 5906 h2, f.1 5907 h3]
  unfold FA at *
  rw [e, f.1 4701 h1] at h
  exact ⟨h.1, Fl_q (fun i _ _ => (f.2.1 48 i h4).symm) h.2.1, h.2.2⟩
theorem ix_f {I A : List Nat} {σ τ : zS} {x b q : Int} (f : FrC I A σ τ) (h2 : I.elem 5906 = false := by decide) (h3 : I.elem 5907 = false := by decide) : ix τ x b q = ix σ x b q := by
  unfold ix bs; rw [f.1 5906 h2, f.1 5907 h3]
/-- a value is set -/
theorem US.bind {ar : Int → Nat} {m9 : Int} {σ τ : zS} {rt : Int → Int} {vl : Int → Option Tm} {V : Int → Tm → Prop} (hU : US ar m9 σ rt vl V) {r p b : Int} {y : Tm} (r0 : 0 ≤ r) (r1 : r < 12) (hr : rt r = r) (f1 : UF σ τ) (hT : TA ar m9 σ p b y) (e60 : ∀ w, τ.2.1 60 w = σ.2.1 60 w) (e63 : ∀ w, τ.2.1 63 w = σ.2.1 63 w) (e61 : ∀ w, τ.2.1 61 w = if w = r then p else σ.2.1 61 w) (e62 : ∀ w, τ.2.1 62 w = if w = r then b else σ.2.1 62 w) (ev : τ.1 5905 = zor (σ.1 5905) (zshl 1 r)) : US ar m9 τ rt (fun w => if w = r then some (shT b y) else vl w) (fun w t => V w t ∨ (w = r ∧ t = shT b y)) := by
  obtain ⟨v0, v1, v2⟩ := hU.2.2.1
  obtain ⟨s1, s2⟩ := zshl_n r0 r1
  refine ⟨fun v a c => by rw [e60]; exact hU.1 v a c, fun w a c hw => ?_, ⟨?_, ?_, fun w a c => ?_⟩, fun x' b' q' y' a c d' e' g' => ?_⟩
  · rw [e61, e62]
    by_cases e : w = r
    · subst e
      refine ⟨fun z => by simp at z, fun z hz => ?_⟩
      simp only [if_true, Option.some.injEq] at hz ⊢
      subst hz
      exact ⟨y, rfl, hT.f f1⟩
    · simp only [e, if_false]
      obtain ⟨k1, k2⟩ := hU.2.1 w a c hw
      refine ⟨k1, fun z hz => ?_⟩
      obtain ⟨y2, y3, y4⟩ := k2 z hz
      exact ⟨y2, y3, y4.f f1⟩
  · rw [ev]; exact (zor_n v0 v1 s1 s2).1
  · rw [ev]; exact (zor_n v0 v1 s1 s2).2
  · rw [ev, bt_or, bt_shl r0 r1 a (by omega), v2 w a c]
    by_cases e : w = r
    · subst e; simp [hr]
    · simp [e]
  · rw [ix_f f1, e63] at g'
    exact Or.inl (hU.2.2.2 x' b' q' y' a c (d'.bk f1) e' g')
/-- a meeting is noted -/
theorem US.met {ar : Int → Nat} {m9 : Int} {σ τ : zS} {rt : Int → Int} {vl : Int → Option Tm} {V : Int → Tm → Prop} (hU : US ar m9 σ rt vl V) {r p b : Int} {y : Tm} (r0 : 0 ≤ r) (r1 : r < 12) (hr : rt r = r) (f1 : UF σ τ) (hT : TA ar m9 σ p b y) (e60 : ∀ w, τ.2.1 60 w = σ.2.1 60 w) (e63 : ∀ w, τ.2.1 63 w = if w = ix σ r b p then 1 else σ.2.1 63 w) (e61 : ∀ w, τ.2.1 61 w = σ.2.1 61 w) (e62 : ∀ w, τ.2.1 62 w = σ.2.1 62 w) (ev : τ.1 5905 = σ.1 5905) : US ar m9 τ rt vl (fun w t => V w t ∨ (w = r ∧ t = shT b y)) := by
  refine ⟨fun v a c => by rw [e60]; exact hU.1 v a c, fun w a c hw => ?_, by rw [ev]; exact hU.2.2.1, fun x' b' q' y' a c d' e' g' => ?_⟩
  · rw [e61, e62]
    obtain ⟨k1, k2⟩ := hU.2.1 w a c hw
    refine ⟨k1, fun z hz => ?_⟩
    obtain ⟨y2, y3, y4⟩ := k2 z hz
    exact ⟨y2, y3, y4.f f1⟩
  · rw [ix_f f1, e63] at g'
    have d2 := d'.bk f1
    by_cases e : ix σ x' b' q' = ix σ r b p
    · have t1 : 1 ≤ wt (tt y) := by simp only [tt, wt]; omega
      have t2 : 1 ≤ wt (tt y') := by simp only [tt, wt]; omega
      obtain ⟨u0, u1, u2, u3, u4, u5, u6, u7⟩ := hT
      obtain ⟨w0, w1, w2, w3, w4, w5, w6, w7⟩ := d2
      have hb : b' = b := by
        unfold ix at e
        rcases u0 with rfl | rfl <;> rcases w0 with rfl | rfl
        · rfl
        · simp only [if_true] at e; rw [if_neg (by omega)] at e; omega
        · simp only [if_true] at e; rw [if_neg (by omega)] at e; omega
        · rfl
      subst hb
      have hx : x' = r := by unfold ix at e; split at e <;> omega
      subst hx
      have hq : q' = p := by unfold ix at e; omega
      subst hq
      have := Fl_det w1 u1 w2 u2 rfl
      injection this with i1 i2 i3
      have : y' = y := Prod.ext i1 i2
      subst this
      exact Or.inr ⟨hr, rfl⟩
    · rw [if_neg e] at g'
      exact Or.inl (hU.2.2.2 x' b' q' y' a c d2 e' g')
theorem meet_ok {ar : Int → Nat} {pd : Int → Prop} {m9 : Int} {Sol : Vs → Prop} (hSol : ∀ τ, Sol τ → ∀ v, 0 ≤ v → ¬ (0 ≤ cl (τ v).1 ∧ pd (cl (τ v).1))) {dep : Int} (d0 : 0 ≤ dep) (d1 : dep ≤ 48) (ih : UnOk ar pd m9 Sol (dep + 1)) {β : Nat} {σ : zS} {P : Tm → Tm → Prop} {rt : Int → Int} {vl : Int → Option Tm} {V : Int → Tm → Prop} {L : Tm → Tm → Prop} {r p b : Int} {y : Tm} (hβ : 3 * (49 - dep) + 4 ≤ (β : Int)) (hB : UB ar pd m9 Sol P σ rt vl V L) (r0 : 0 ≤ r) (r1 : r < 12) (hr : rt r = r) (hT : TA ar m9 σ p b y) (hy : ¬ cl y.1 < 0) (hs : ∀ τ, Sol τ → τ r = st τ (shT b y)) (hd : ∀ τ, Sol τ → dep + 1 + (n12 (fun v => tw (τ v) < tw (τ r)) : Int) ≤ 12) :
    Ok (yE tG_Uni_meet β σ [r, p, b, dep]) (UP ar pd m9 Sol P σ rt V L (fun rt2 V2 => V2 (rt2 r) (shT b y))) := by
  have hB' := hB
  obtain ⟨hC, hM, hR, hm, hU, hG⟩ := hB
  have hb0 : 0 ≤ b := by have := hT.1; omega
  have tc : σ.2.1 48 p = cl y.1 := hT.2.1.1
  have t1 : 1 ≤ wt (tt y) := by simp only [tt, wt]; omega
  have tl : lb m9 (cl y.1) := hT.2.2.1.2.1
  obtain ⟨u1, u2, u3, u4, u5⟩ := hT.2.2.2
  obtain ⟨c1, c2, c3⟩ := hC.2.2.2
  have hsh : ¬ cl (shT b y).1 < 0 := fun w => hy ((shT_neg hb0).mp w)
  refine Ok.q yq_Uni_meet ?_
  unfold kY_Uni_meet
  refine Ok.g ⟨r0, by omega⟩ ?_
  cases hv : vl r with
  | none =>
    have e1 := (hU.2.1 r r0 r1 hr).1 hv
    refine Ok.g e1 (Ok.g (by omega) (Ok.g (by omega) ?_))
    rw [tc]
    refine Ok.c1 (isPred_c hC (by omega) tl.2) ?_
    by_cases hp : pd (cl y.1)
    · refine Ok.n (by rw [b2_t hp]; omega) (Ok.q yq_Uni_meet_p39 (Ok.ret ⟨FrC.refl, hm, Or.inr ⟨rfl, fun θ hθ => ?_⟩⟩))
      refine hSol θ hθ r r0 ?_
      rw [hs θ hθ, st_f θ (x := shT b y) hsh]
      show 0 ≤ cl (shT b y).1 ∧ pd (cl (shT b y).1)
      rw [shT_f hy]
      exact ⟨by omega, hp⟩
    · refine Ok.g (by rw [b2_f hp]) (Ok.g (by omega) ?_)
      obtain ⟨o, o1, o2, o3, o4⟩ := occ_ok hC hU hG.1 hG.g2 (β := β - 1) (by omega) (x := r) (p := p) (b := b) r0 r1 hT hy
      refine Ok.c1 o2 ?_
      rcases o1 with rfl | rfl
      · refine Ok.g rfl ?_
        have f0 : FrC [5905] [61, 62] σ (zI (zA (zA σ 61 r p) 62 r b) 5905 (zor ((zA (zA σ 61 r p) 62 r b).1 5905) (zshl 1 r))) := by
          have a1 : FrC [5905] [61, 62] σ (zA σ 61 r p) := FrC_A
          have a2 : FrC [5905] [61, 62] (zA σ 61 r p) (zA (zA σ 61 r p) 62 r b) := FrC_A
          exact (a1.trans a2).trans FrC_I
        have f1 : UF σ (zI (zA (zA σ 61 r p) 62 r b) 5905 (zor ((zA (zA σ 61 r p) 62 r b).1 5905) (zshl 1 r))) := f0.w
        obtain ⟨g1, g2⟩ := hG.bind r0 r1 hr hv hsh (by rw [shT_f hy]; exact hp) (fun v hv => (hT.v hv).2) (o4 rfl) hs
        refine Ok.ret ⟨f1, hm.f f0, Or.inl ⟨rfl, rt, _, _, L, hU.bind r0 r1 hr f1 hT (fun w => f0.a 60 w) (fun w => f0.a 63 w) (fun w => ?_) (fun w => ?_) zI_1, g1, g2, Or.inr ⟨hr, rfl⟩⟩⟩
        · rw [zI_2, zA_j]
          by_cases e : w = r
          · rw [if_pos e, e, zA_s]
          · rw [if_neg e, zA_i e]
        · rw [zI_2]
          by_cases e : w = r
          · rw [if_pos e, e, zA_s]
          · rw [if_neg e, zA_i e, zA_j]
      · refine Ok.n (by omega) (Ok.q yq_Uni_meet_p39 (Ok.ret ⟨FrC.refl, hm, Or.inr ⟨rfl, fun θ hθ => ?_⟩⟩))
        have := o3 rfl θ (hG.gd hθ)
        rw [hs θ hθ] at this
        exact Nat.lt_irrefl _ this
  | some z =>
    obtain ⟨z0, z1, z2, z3, z4, z5⟩ := hG.2.1 r z hv
    obtain ⟨yz, y1, y2, y3, y4⟩ := hU.at r0 r1 hr hv z3
    refine Ok.n (by omega) ?_
    obtain ⟨g1, g2⟩ := hG.meet (x := shT b y) hv hsh hs
    have hix : 0 ≤ ix σ r b p ∧ ix σ r b p < 3360 := by unfold ix; split <;> omega
    -- the meeting is new, or not
    have fin : ∀ h9 : Int, Ok (yE tG_Uni_meet_p107 β σ [r, p, b, dep, h9, bs σ b, ix σ r b p + bs σ b]) (UP ar pd m9 Sol P σ rt V L (fun rt2 V2 => V2 (rt2 r) (shT b y))) := fun h9 => by
      refine Ok.q yq_Uni_meet_p107 ?_
      unfold kY_Uni_meet_p107
      rw [show ix σ r b p + bs σ b - bs σ b = ix σ r b p by omega]
      refine Ok.g (by omega) (Ok.n (by omega) (Ok.n (by omega) (Ok.g (by omega) ?_)))
      by_cases h63 : σ.2.1 63 (ix σ r b p) = 0
      · obtain ⟨k1, k2, k3, k4⟩ := hm.add hM hR hix.1 hix.2 h63
        refine Ok.g h63 (Ok.g k1 ?_)
        have f9 : FrC [6401] [63, 65] σ (zAdd (zA σ 63 (ix σ r b p) 1) 6401 65 (ix σ r b p)) := by
          obtain ⟨M, m1, _⟩ := hm
          have r9 : RowC (zA σ 63 (ix σ r b p) 1) 6401 65 M := m1.q rfl (fun q => zA_j) rfl
          have a1 : FrC [6401] [63, 65] σ (zA σ 63 (ix σ r b p) 1) := FrC_A
          exact a1.trans (zAdd_row r9).2.1.w
        have U1 := hU.met r0 r1 hr k3 hT (fun w => f9.a 60 w) k4 (fun w => f9.a 61 w) (fun w => f9.a 62 w) (f9.i 5905)
        obtain ⟨yy, q1, q2, q3, q4⟩ := U1.at r0 r1 hr hv z3
        have hb2 : 0 ≤ (zAdd (zA σ 63 (ix σ r b p) 1) 6401 65 (ix σ r b p)).2.1 62 r := by have := q2.1; omega
        have B1 := hB'.n k3 k2 U1 g1
        have := ih (β - 1) _ _ rt vl _ _ _ _ p b yy y (by omega) B1 q2 (hT.f k3) (fun τ hτ => by rw [← q1, ← hs τ hτ]; exact ((hG.gd hτ).2 r z hv).symm) (Or.inr ⟨q3, hy, fun τ hτ => by rw [← q1, ← (hG.gd hτ).2 r z hv]; exact hd τ hτ⟩)
        refine Ok.q yq_Uni_meet_p154 ?_
        unfold kY_Uni_meet_p154
        refine Ok.g ⟨r0, by omega⟩ (Ok.g (by omega) (Ok.g (by omega) (Ok.c this (fun τ r2 hp => ?_))))
        refine Ok.g hp.r (Ok.ret ?_)
        obtain ⟨p1, p2, p3⟩ := hp
        refine ⟨k3.trans p1, p2, ?_⟩
        rcases p3 with ⟨e, rt2, vl2, V2, L2, w1, w2, w3, w4⟩ | ⟨e, w⟩
        · refine Or.inl ⟨e, rt2, vl2, V2, L2, w1, ?_, g2.trans w3, ?_⟩
          · rw [← q1] at w4
            exact w2.done w4
          · exact w3.2.1 r _ (Or.inr ⟨hr, rfl⟩)
        · exact Or.inr ⟨e, w⟩
      · refine Ok.n h63 (Ok.ret ⟨FrC.refl, hm, Or.inl ⟨rfl, rt, vl, V, L, hU, hG, Mo.refl, ?_⟩⟩)
        exact hU.2.2.2 r b p y r0 r1 hT hy h63
    have hbase : 0 ≤ bs σ b := u1
    by_cases hb : b = 0
    · refine Ok.g hb (Ok.q yq_Uni_meet_p78 ?_)
      unfold kY_Uni_meet_p78
      have e1 : (2 * r + 0) * 140 + p = ix σ r b p + bs σ b := by unfold ix; rw [if_pos hb]; omega
      have e2 : σ.1 5906 = bs σ b := by unfold bs; rw [if_pos hb]
      refine Ok.g hb (Ok.g (by omega) (Ok.g (by omega) (Ok.g (by omega) (Ok.g (by omega) ?_))))
      rw [e1, e2]
      exact fin 0
    · refine Ok.n hb (Ok.q yq_Uni_meet_p78 ?_)
      unfold kY_Uni_meet_p78
      have e1 : (2 * r + 1) * 140 + p = ix σ r b p + bs σ b := by unfold ix; rw [if_neg hb]; omega
      have e2 : σ.1 5907 = bs σ b := by unfold bs; rw [if_neg hb]
      refine Ok.n hb (Ok.g (by omega) (Ok.g (by omega) (Ok.g (by omega) (Ok.g (by omega) ?_))))
      rw [e1, e2]
      exact fin 1
