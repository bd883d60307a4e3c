/-! what stays true while TERMS become the same. Sol: the values looked for; P: links that are still under way -/
def GI (pd : Int → Prop) (Sol : Vs → Prop) (P : Tm → Tm → Prop) (rt : Int → Int) (vl : Int → Option Tm) (V : Int → Tm → Prop) (L : Tm → Tm → Prop) : Prop :=
  (∀ v, 0 ≤ v → v < 12 → 0 ≤ rt v ∧ rt v < 12 ∧ rt (rt v) = rt v) ∧
  (∀ r x, vl r = some x → 0 ≤ r ∧ r < 12 ∧ rt r = r ∧ ¬ cl x.1 < 0 ∧ ¬ pd (cl x.1) ∧ V r x ∧ ∀ v, vi v (tt x) → v < 12) ∧
  (∀ r x, V r x → rt r = r → ∃ y, vl r = some y ∧ Cn L y x) ∧
  (∀ x y, L x y → ¬ cl x.1 < 0 ∧ ¬ cl y.1 < 0 ∧ (P x y ∨ JF rt V (tt x) (tt y))) ∧
  (∃ (rk : Int → Nat) (B : Nat), (∀ u, rk u ≤ B) ∧ Ac rt vl rk) ∧
  (∀ τ, Sol τ → (∀ v, τ v = τ (rt v)) ∧ ∀ r x, V r x → τ r = st τ x) ∧
  (∀ v, ¬ (0 ≤ v ∧ v < 12) → rt v = v)
/-- what was tied stays tied -/
def Mo (rt : Int → Int) (V : Int → Tm → Prop) (L : Tm → Tm → Prop) (rt2 : Int → Int) (V2 : Int → Tm → Prop) (L2 : Tm → Tm → Prop) : Prop := (∀ v w, rt v = rt w → rt2 v = rt2 w) ∧ (∀ v x, V (rt v) x → V2 (rt2 v) x) ∧ ∀ x y, L x y → L2 x y
theorem Mo.refl {rt : Int → Int} {V : Int → Tm → Prop} {L : Tm → Tm → Prop} : Mo rt V L rt V L := ⟨fun _ _ h => h, fun _ _ h => h, fun _ _ h => h⟩
theorem Mo.trans {rt rt2 rt3 : Int → Int} {V V2 V3 : Int → Tm → Prop} {L L2 L3 : Tm → Tm → Prop} (h : Mo rt V L rt2 V2 L2) (g : Mo rt2 V2 L2 rt3 V3 L3) : Mo rt V L rt3 V3 L3 := ⟨fun v w e => g.1 v w (h.1 v w e), fun v x e => g.2.1 v x (h.2.1 v x e), fun x y e => g.2.2 x y (h.2.2 x y e)⟩
theorem Mo.jf {rt rt2 : Int → Int} {V V2 : Int → Tm → Prop} {L L2 : Tm → Tm → Prop} (h : Mo rt V L rt2 V2 L2) {F G : T} (j : JF rt V F G) : JF rt2 V2 F G := JF_mono h.1 h.2.1 j
/-- a link is done -/
theorem GI.done {pd : Int → Prop} {Sol : Vs → Prop} {P : Tm → Tm → Prop} {rt : Int → Int} {vl : Int → Option Tm} {V : Int → Tm → Prop} {L : Tm → Tm → Prop} {a b : Tm} (h : GI pd Sol (fun x y => P x y ∨ (x = a ∧ y = b)) rt vl V L) (j : JF rt V (tt a) (tt b)) : GI pd Sol P rt vl V L := by
  obtain ⟨h1, h2, h3, h4, h5, h6, h7⟩ := h
  refine ⟨h1, h2, h3, fun x y hl => ?_, h5, h6, h7⟩
  obtain ⟨q1, q2, q3⟩ := h4 x y hl
  refine ⟨q1, q2, ?_⟩
  rcases q3 with (q | ⟨rfl, rfl⟩) | q
  · exact Or.inl q
  · exact Or.inr j
  · exact Or.inr q
/-- a VARIABLE gets its value -/
theorem GI.bind {pd : Int → Prop} {Sol : Vs → Prop} {P : Tm → Tm → Prop} {rt : Int → Int} {vl : Int → Option Tm} {V : Int → Tm → Prop} {L : Tm → Tm → Prop} (h : GI pd Sol P rt vl V L) {r : Int} {x : Tm} (r0 : 0 ≤ r) (r1 : r < 12) (hr : rt r = r) (hn : vl r = none) (hx : ¬ cl x.1 < 0) (hp : ¬ pd (cl x.1)) (hv : ∀ v, vi v (tt x) → v < 12) (ho : ∀ v, vi v (tt x) → ¬ RZ rt vl (fun w => w = r) (rt v)) (hs : ∀ τ, Sol τ → τ r = st τ x) :
    GI pd Sol P rt (fun w => if w = r then some x else vl w) (fun w y => V w y ∨ (w = r ∧ y = x)) L ∧ Mo rt V L rt (fun w y => V w y ∨ (w = r ∧ y = x)) L := by
  obtain ⟨h1, h2, h3, h4, ⟨rk, B, hB, h5⟩, h6, h7⟩ := h
  have M : Mo rt V L rt (fun w y => V w y ∨ (w = r ∧ y = x)) L := ⟨fun _ _ e => e, fun _ _ e => Or.inl e, fun _ _ e => e⟩
  refine ⟨⟨h1, fun w y hy => ?_, fun w y hw hrt => ?_, fun a b hl => ?_, ?_, fun τ hτ => ?_, h7⟩, M⟩
  · by_cases e : w = r
    · subst e
      simp only [if_true, Option.some.injEq] at hy
      subst hy
      exact ⟨r0, r1, hr, hx, hp, Or.inr ⟨rfl, rfl⟩, hv⟩
    · simp only [e, if_false] at hy
      obtain ⟨a, b, c, d, f, g, i⟩ := h2 w y hy
      exact ⟨a, b, c, d, f, Or.inl g, i⟩
  · rcases hw with hw | ⟨rfl, rfl⟩
    · obtain ⟨z, z1, z2⟩ := h3 w y hw hrt
      have e : w ≠ r := fun e => by subst e; rw [hn] at z1; cases z1
      exact ⟨z, by simp only [e, if_false]; exact z1, z2⟩
    · exact ⟨y, by simp, Cn.refl y⟩
  · obtain ⟨q1, q2, q3⟩ := h4 a b hl
    exact ⟨q1, q2, q3.imp id M.jf⟩
  · refine Ac_shift hB h5 (Z := fun w => w = r) (b := r) rfl (fun y hy v hv => ?_) (fun u y hu hy => ?_) (fun v => Or.inl rfl)
    · simp only [if_true, Option.some.injEq] at hy
      subst hy
      exact ⟨rfl, ho v hv⟩
    · simp only [hu, if_false] at hy; exact hy
  · obtain ⟨a, b⟩ := h6 τ hτ
    refine ⟨a, fun w y hw => ?_⟩
    rcases hw with hw | ⟨rfl, rfl⟩
    · exact b w y hw
    · exact hs τ hτ
/-- a root that has a value meets one more TERM -/
theorem GI.meet {pd : Int → Prop} {Sol : Vs → Prop} {P : Tm → Tm → Prop} {rt : Int → Int} {vl : Int → Option Tm} {V : Int → Tm → Prop} {L : Tm → Tm → Prop} (h : GI pd Sol P rt vl V L) {r : Int} {x y : Tm} (hn : vl r = some y) (hx : ¬ cl x.1 < 0) (hs : ∀ τ, Sol τ → τ r = st τ x) :
    GI pd Sol (fun a b => P a b ∨ (a = y ∧ b = x)) rt vl (fun w z => V w z ∨ (w = r ∧ z = x)) (fun a b => L a b ∨ (a = y ∧ b = x)) ∧ Mo rt V L rt (fun w z => V w z ∨ (w = r ∧ z = x)) (fun a b => L a b ∨ (a = y ∧ b = x)) := by
  obtain ⟨h1, h2, h3, h4, h5, h6, h7⟩ := h
  have M : Mo rt V L rt (fun w z => V w z ∨ (w = r ∧ z = x)) (fun a b => L a b ∨ (a = y ∧ b = x)) := ⟨fun _ _ e => e, fun _ _ e => Or.inl e, fun _ _ e => Or.inl e⟩
  refine ⟨⟨h1, fun w z hz => ?_, fun w z hw hrt => ?_, fun a b hl => ?_, h5, fun τ hτ => ?_, h7⟩, M⟩
  · obtain ⟨a, b, c, d, f, g, i⟩ := h2 w z hz
    exact ⟨a, b, c, d, f, Or.inl g, i⟩
  · rcases hw with hw | ⟨rfl, rfl⟩
    · obtain ⟨u, u1, u2⟩ := h3 w z hw hrt
      exact ⟨u, u1, u2.mono (fun _ _ e => Or.inl e)⟩
    · exact ⟨y, hn, (Cn.refl y).step (Or.inl (Or.inr ⟨rfl, rfl⟩))⟩
  · rcases hl with hl | ⟨rfl, rfl⟩
    · obtain ⟨q1, q2, q3⟩ := h4 a b hl
      exact ⟨q1, q2, q3.imp Or.inl M.jf⟩
    · exact ⟨(h2 r a hn).2.2.2.1, hx, Or.inl (Or.inr ⟨rfl, rfl⟩)⟩
  · obtain ⟨a, b⟩ := h6 τ hτ
    refine ⟨a, fun w z hw => ?_⟩
    rcases hw with hw | ⟨rfl, rfl⟩
    · exact b w z hw
    · exact hs τ hτ
/-- two roots become one: a goes, b stays -/
theorem GI.join {pd : Int → Prop} {Sol : Vs → Prop} {P Q : Tm → Tm → Prop} {rt : Int → Int} {vl : Int → Option Tm} {V : Int → Tm → Prop} {L : Tm → Tm → Prop} (h : GI pd Sol P rt vl V L) {a b : Int} (hab : a ≠ b) (ha0 : 0 ≤ a) (ha1 : a < 12) (hb0 : 0 ≤ b) (hb1 : b < 12) (ha : rt a = a) (hb : rt b = b)
    (oa : ∀ x, vl a = some x → ∀ v, vi v (tt x) → ¬ RZ rt vl (fun w => w = b) (rt v)) (ob : ∀ x, vl b = some x → ∀ v, vi v (tt x) → ¬ RZ rt vl (fun w => w = a) (rt v)) (hs : ∀ τ, Sol τ → τ a = τ b) (hQ : ∀ x y, vl a = some x → vl b = some y → Q x y) (hQ2 : ∀ x y, Q x y → vl a = some x ∧ vl b = some y) (hv : vl a ≠ none → vl b ≠ none) :
    GI pd Sol (fun x y => P x y ∨ Q x y) (fun v => if rt v = a then b else rt v) (fun w => if w = a then none else vl w) (fun w x => V w x ∨ (w = b ∧ V a x)) (fun x y => L x y ∨ Q x y) ∧ Mo rt V L (fun v => if rt v = a then b else rt v) (fun w x => V w x ∨ (w = b ∧ V a x)) (fun x y => L x y ∨ Q x y) := by
  obtain ⟨h1, h2, h3, h4, ⟨rk, B, hB, h5⟩, h6, h7⟩ := h
  have M : Mo rt V L (fun v => if rt v = a then b else rt v) (fun w x => V w x ∨ (w = b ∧ V a x)) (fun x y => L x y ∨ Q x y) := by
    refine ⟨fun v w e => by simp only [e], fun v x e => ?_, fun _ _ e => Or.inl e⟩
    by_cases q : rt v = a
    · rw [q] at e; exact Or.inr ⟨by simp only [q, if_true], e⟩
    · simp only [q, if_false]; exact Or.inl e
  have hba : b ≠ a := Ne.symm hab
  refine ⟨⟨fun v v0 v1 => ?_, fun r x hx => ?_, fun r x hx hr => ?_, fun x y hl => ?_, ?_, fun τ hτ => ?_, fun v hv => ?_⟩, M⟩
  · obtain ⟨q1, q2, q3⟩ := h1 v v0 v1
    by_cases q : rt v = a
    · simp only [q, if_true, hb, hba, if_false]; exact ⟨hb0, hb1, trivial⟩
    · simp only [q, if_false, q3]; exact ⟨q1, q2, trivial⟩
  · by_cases e : r = a
    · simp only [e, if_true] at hx; cases hx
    · simp only [e, if_false] at hx
      obtain ⟨q1, q2, q3, q4, q5, q6, q7⟩ := h2 r x hx
      refine ⟨q1, q2, ?_, q4, q5, Or.inl q6, q7⟩
      simp only [q3, e, if_false]
  · have hra : r ≠ a := fun e => by subst e; simp only [ha, if_true] at hr; exact hba hr
    have hrt : rt r = r := by
      by_cases q : rt r = a
      · simp only [q, if_true] at hr
        subst hr; rw [hb] at q; exact absurd q hba
      · simp only [q, if_false] at hr; exact hr
    simp only [hra, if_false]
    rcases hx with hx | ⟨rfl, hx⟩
    · obtain ⟨y, y1, y2⟩ := h3 r x hx hrt
      exact ⟨y, y1, y2.mono (fun _ _ e => Or.inl e)⟩
    · obtain ⟨y, y1, y2⟩ := h3 a x hx ha
      cases hvb : vl r with
      | none => exact absurd hvb (hv (by rw [y1]; simp))
      | some z =>
        refine ⟨z, rfl, ?_⟩
        have l1 : Cn (fun x y => L x y ∨ Q x y) z y := (Cn.refl z).step (Or.inr (Or.inr (hQ y z y1 hvb)))
        exact l1.trans (y2.mono (fun _ _ e => Or.inl e))
  · rcases hl with hl | hl
    · obtain ⟨q1, q2, q3⟩ := h4 x y hl
      exact ⟨q1, q2, q3.imp Or.inl M.jf⟩
    · obtain ⟨q1, q2⟩ := hQ2 x y hl
      exact ⟨(h2 a x q1).2.2.2.1, (h2 b y q2).2.2.2.1, Or.inl (Or.inr hl)⟩
  · refine Ac_shift hB h5 (Z := fun w => w = a ∨ w = b) (b := b) (Or.inr rfl) (fun x hx v hv => ?_) (fun u x hu hx => ?_) (fun v => ?_)
    · simp only [hba, if_false] at hx
      have n1 := ob x hx v hv
      have n2 : ¬ RZ rt vl (fun w => w = b) (rt v) := fun w => by
        have lt := h5 b x hx v hv
        have := w (fun u => rk b ≤ rk u) (fun u e => by rw [e]; exact Nat.le_refl _) (fun u y v2 e1 e2 e3 => by have := h5 u y e1 v2 e2; omega)
        omega
      have n3 : ¬ RZ rt vl (fun w => w = a ∨ w = b) (rt v) := fun w => by
        have := w (fun u => RZ rt vl (fun w => w = a) u ∨ RZ rt vl (fun w => w = b) u) (fun u e => e.imp RZ.z RZ.z) (fun u y v2 e1 e2 e3 => e3.imp (RZ.s e1 e2) (RZ.s e1 e2))
        exact this.elim n1 n2
      have e : rt v ≠ a := fun w => n3 (RZ.z (Or.inl w))
      exact ⟨by simp only [e, if_false], n3⟩
    · by_cases e : u = a
      · simp only [e, if_true] at hx; cases hx
      · simp only [e, if_false] at hx; exact hx
    · by_cases q : rt v = a
      · exact Or.inr ⟨Or.inl q, by simp only [q, if_true]⟩
      · exact Or.inl (by simp only [q, if_false])
  · obtain ⟨q1, q2⟩ := h6 τ hτ
    have e := hs τ hτ
    refine ⟨fun v => ?_, fun r x hx => ?_⟩
    · by_cases q : rt v = a
      · simp only [q, if_true]; rw [q1 v, q, e]
      · simp only [q, if_false]; exact q1 v
    · rcases hx with hx | ⟨rfl, hx⟩
      · exact q2 r x hx
      · rw [← e]; exact q2 a x hx
  · have e := h7 v hv
    show (if rt v = a then b else rt v) = v
    rw [e, if_neg (by omega)]
/-- at the end: the values of B, put in -/
noncomputable def cE (rt : Int → Int) (vl : Int → Option Tm) : Ev := fun v => match vl (rt v) with
  | some x => some x
  | none => if rt v = v then none else some (vt (rt v))
theorem cE_cm {rt : Int → Int} {vl : Int → Option Tm} (hr : ∀ v, rt (rt v) = rt v) (h0 : ∀ v, 0 ≤ v → 0 ≤ rt v) {τ : Vs} (h : cm τ (cE rt vl)) : (∀ v, 0 ≤ v → τ v = τ (rt v)) ∧ ∀ v x, vl (rt v) = some x → τ (rt v) = st τ x := by
  have h2 : ∀ v x, vl (rt v) = some x → τ v = st τ x := fun v x hx => h v x (by unfold cE; rw [hx])
  refine ⟨fun v hv => ?_, fun v x hx => h2 (rt v) x (by rw [hr]; exact hx)⟩
  cases hx : vl (rt v) with
  | some x => rw [h2 v x hx, h2 (rt v) x (by rw [hr]; exact hx)]
  | none =>
    by_cases e : rt v = v
    · rw [e]
    · have := h v (vt (rt v)) (by unfold cE; rw [hx]; simp [e])
      rw [this, st_vt (h0 v hv)]
