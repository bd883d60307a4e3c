theorem lt_e {α β : Type} {a : α} {f : α → β} : lt_ a f = f a := rfl
/-! begin anew -/
theorem clear_p2 {β : Nat} {a b : Int} : ∀ (m : Nat) (σ : zS) (i : Int), 0 ≤ i → i + (m : Int) = 12 → ∃ τ, yE tC_Uni_clear_p2 β σ [a, b, i] = yE tC_Uni_clear_p2 β τ [a, b, 12] ∧ FrC [] [60, 61] σ τ ∧ ∀ v, (i ≤ v → v < 12 → τ.2.1 60 v = v ∧ τ.2.1 61 v = -1) ∧ (¬ (i ≤ v ∧ v < 12) → τ.2.1 60 v = σ.2.1 60 v ∧ τ.2.1 61 v = σ.2.1 61 v)
  | 0, σ, i, h0, hm => by
    have : i = 12 := by omega
    subst this
    exact ⟨σ, rfl, FrC.refl, fun v => ⟨fun x y => by omega, fun _ => ⟨rfl, rfl⟩⟩⟩
  | m + 1, σ, i, h0, hm => by
    obtain ⟨τ, t1, t2, t3⟩ := clear_p2 (β := β) (a := a) (b := b) m (zA (zA σ 60 i i) 61 i (-1)) (i + 1) (by omega) (by omega)
    have a1 : FrC [] [60, 61] σ (zA σ 60 i i) := FrC_A
    have a2 : FrC [] [60, 61] (zA σ 60 i i) (zA (zA σ 60 i i) 61 i (-1)) := FrC_A
    refine ⟨τ, ?_, (a1.trans a2).trans t2, fun v => ⟨fun x y => ?_, fun w => ?_⟩⟩
    · rw [yq_Uni_clear_p2, kY_Uni_clear_p2, if_neg (by omega), if_pos (by omega)]
      show (if zr (i + 1) then yE tC_Uni_clear_p2 β (zA (zA σ 60 i i) 61 i (-1)) [a, b, i + 1] else none) = _
      rw [if_pos (by omega), t1]
    · by_cases e : v = i
      · subst e
        obtain ⟨q1, q2⟩ := (t3 v).2 (by omega)
        rw [q1, q2, zA_j, zA_s, zA_s]; exact ⟨rfl, rfl⟩
      · exact (t3 v).1 (by omega) y
    · obtain ⟨q1, q2⟩ := (t3 v).2 (by omega)
      have e : v ≠ i := by omega
      rw [q1, q2, zA_i e, zA_i e, zA_i e, zA_i e]; exact ⟨rfl, rfl⟩
theorem clear_p45 {β : Nat} {a b : Int} : ∀ (X Y : List Int) (σ : zS), RowC σ 6401 65 (Y ++ X) → σ.2.2 65 ≤ 10000 → (∀ i ∈ X, 0 ≤ i ∧ i < 3360) → ∃ τ, yE tC_Uni_clear_p45 β σ [a, b, (Y.length : Int)] = some (τ, 0) ∧ FrC [6401] [63] σ τ ∧ τ.1 6401 = 0 ∧ ∀ q, τ.2.1 63 q = 0 ∨ (q ∉ X ∧ τ.2.1 63 q = σ.2.1 63 q)
  | [], Y, σ, hr, _, _ => by
    rw [List.append_nil] at hr
    refine ⟨zI σ 6401 0, ?_, FrC_I, zI_1, fun q => Or.inr ⟨by simp, rfl⟩⟩
    rw [yq_Uni_clear_p45, kY_Uni_clear_p45, if_pos (by rw [hr.1]; omega)]
    rfl
  | x :: X, Y, σ, hr, hl, hX => by
    have hx := hX x List.mem_cons_self
    have e1 : σ.2.1 65 (Y.length : Int) = x := by
      have := (Fl_app.mp hr.2.2.2).2.1
      rw [show (0 : Int) + (Y.length : Int) = (Y.length : Int) by omega] at this; exact this
    have hr1 := hr.1
    have hr2 := hr.2.1
    simp only [List.length_append, List.length_cons] at hr1 hr2
    have r2 : RowC (zA σ 63 x 0) 6401 65 ((Y ++ [x]) ++ X) := by
      have : RowC (zA σ 63 x 0) 6401 65 (Y ++ x :: X) := hr.q rfl (fun q => zA_j) rfl
      simpa using this
    obtain ⟨τ, t1, t2, t3, t4⟩ := clear_p45 (β := β) (a := a) (b := b) X (Y ++ [x]) (zA σ 63 x 0) r2 hl (fun i hi => hX i (List.mem_cons_of_mem _ hi))
    have el : ((Y ++ [x]).length : Int) = (Y.length : Int) + 1 := by simp
    have a1 : FrC [6401] [63] σ (zA σ 63 x 0) := FrC_A
    refine ⟨τ, ?_, a1.trans t2, t3, fun q => ?_⟩
    · rw [yq_Uni_clear_p45, kY_Uni_clear_p45, if_neg (by omega), if_pos (by omega), e1, if_pos (by omega)]
      rw [lt_e, if_pos (by omega), ← el, t1]
    · rcases t4 q with w | ⟨w1, w2⟩
      · exact Or.inl w
      · by_cases e : q = x
        · subst e
          left; rw [w2, zA_s]
        · right
          rw [w2, zA_i e]
          exact ⟨by simp [e, w1], rfl⟩
theorem clear_ok {β : Nat} {σ : zS} {a b : Int} (hm : MT σ) : ∃ τ, yE tC_Uni_clear β σ [a, b] = some (τ, 0) ∧ FrC [5905, 5906, 5907, 6401] [60, 61, 63] σ τ ∧ MT τ ∧ τ.1 5905 = 0 ∧ τ.1 5906 = a ∧ τ.1 5907 = b ∧ (∀ v, 0 ≤ v → v < 12 → τ.2.1 60 v = v ∧ τ.2.1 61 v = -1) ∧ ∀ i, 0 ≤ i → i < 3360 → τ.2.1 63 i = 0 := by
  obtain ⟨M, m1, m2, m3, m4, m5⟩ := hm
  obtain ⟨τ1, t1, t2, t3⟩ := clear_p2 (β := β) (a := a) (b := b) 12 σ 0 (by omega) (by omega)
  have f1 : FrC [5905, 5906, 5907] [60, 61] σ (zI (zI (zI τ1 5905 0) 5906 a) 5907 b) := by
    have a1 : FrC [5905, 5906, 5907] [60, 61] τ1 (zI τ1 5905 0) := FrC_I
    have a2 : FrC [5905, 5906, 5907] [60, 61] (zI τ1 5905 0) (zI (zI τ1 5905 0) 5906 a) := FrC_I
    have a3 : FrC [5905, 5906, 5907] [60, 61] (zI (zI τ1 5905 0) 5906 a) (zI (zI (zI τ1 5905 0) 5906 a) 5907 b) := FrC_I
    exact ((t2.w.trans a1).trans a2).trans a3
  obtain ⟨τ2, u1, u2, u3, u4⟩ := clear_p45 (β := β) (a := a) (b := b) M [] (zI (zI (zI τ1 5905 0) 5906 a) 5907 b) (m1.f f1) (by rw [f1.l 65]; exact m5) m3
  simp only [List.length_nil] at u1
  have z63 : ∀ i, 0 ≤ i → i < 3360 → τ2.2.1 63 i = 0 := fun i i0 i1 => by
    rcases u4 i with w | ⟨w1, w2⟩
    · exact w
    · rw [f1.a 63 i] at w2
      by_cases h : σ.2.1 63 i = 0
      · rw [w2, h]
      · exact absurd (m4 i i0 i1 h) w1
  refine ⟨τ2, ?_, f1.w.trans u2.w, ⟨[], ⟨?_, ?_, ?_, trivial⟩, by simp, (fun i hi => by cases hi), fun i i0 i1 hi => absurd (z63 i i0 i1) hi, ?_⟩, ?_, ?_, ?_, fun v a c => ?_, z63⟩
  · rw [yq_Uni_clear, kY_Uni_clear, t1, yq_Uni_clear_p2, kY_Uni_clear_p2, if_pos (by omega)]
    exact u1
  · rw [u3]; rfl
  · simp
  · rw [u2.l 65, f1.l 65]; exact m1.2.2.1
  · rw [u2.l 65, f1.l 65]; exact m5
  · rw [u2.i 5905, zI_o, zI_o, zI_1]
  · rw [u2.i 5906, zI_o, zI_1]
  · rw [u2.i 5907, zI_1]
  · rw [u2.a 60, u2.a 61]
    exact (t3 v).1 a c
/-! the most general values -/
/-- no VARIABLE stands for a TERM of a PREDICATE -/
def np (pd : Int → Prop) (τ : Vs) : Prop := ∀ v, 0 ≤ v → ¬ (0 ≤ cl (τ v).1 ∧ pd (cl (τ v).1))
def Sl (pd : Int → Prop) (X Y : Tm) (τ : Vs) : Prop := np pd τ ∧ st τ X = st τ Y
/-- θ is the most general of those -/
def Mgu (Sol : Vs → Prop) (θ : Vs) : Prop := Sol θ ∧ ∀ τ, Sol τ → ∀ v, 0 ≤ v → τ v = st τ (θ v)
theorem cE_mgu {pd : Int → Prop} {X Y : Tm} {rt : Int → Int} {vl : Int → Option Tm} {V : Int → Tm → Prop} {L : Tm → Tm → Prop} (h : GI pd (Sl pd X Y) (fun _ _ => False) rt vl V L) (j : JF rt V (tt X) (tt Y)) : Mgu (Sl pd X Y) (rs (cE rt vl)) ∧ cm (rs (cE rt vl)) (cE rt vl) := by
  obtain ⟨h1, h2, h3, h4, ⟨rk, B, hB, h5⟩, h6, h7⟩ := h
  have hrr : ∀ v, rt (rt v) = rt v := fun v => by
    by_cases hv : 0 ≤ v ∧ v < 12
    · exact (h1 v hv.1 hv.2).2.2
    · rw [h7 v hv, h7 v hv]
  have hr0 : ∀ v, 0 ≤ v → 0 ≤ rt v := fun v hv => by
    by_cases hv1 : v < 12
    · exact (h1 v hv hv1).1
    · rw [h7 v (by omega)]; exact hv
  have a12 := Ac_12 h5 (fun v x w hv hw => by
    have := (h2 v x hv).2.2.2.2.2.2 w hw
    have := vi_nn hw
    exact ⟨(h1 w (by omega) (by omega)).1, (h1 w (by omega) (by omega)).2.1⟩)
  -- numbers
  let r : Int → Nat := fun v => match vl (rt v) with
    | some _ => 2 * n12 (fun w => rk w < rk (rt v)) + 2
    | none => if rt v = v then 0 else 1
  have rsome : ∀ v x, vl (rt v) = some x → r v = 2 * n12 (fun w => rk w < rk (rt v)) + 2 := fun v x hx => by show (match vl (rt v) with | some _ => _ | none => _) = _; rw [hx]
  have rnone : ∀ v, vl (rt v) = none → r v = if rt v = v then 0 else 1 := fun v hx => by show (match vl (rt v) with | some _ => _ | none => _) = _; rw [hx]
  have hac : ac (cE rt vl) r := fun v x hx w hw => by
    unfold cE at hx
    cases hv : vl (rt v) with
    | some y =>
      rw [hv] at hx
      obtain rfl := Option.some.inj hx
      rw [rsome v y hv]
      cases hw2 : vl (rt w) with
      | some z =>
        rw [rsome w z hw2]
        have q := a12 (rt v) y hv w hw
        dsimp only at q
        omega
      | none => rw [rnone w hw2]; split <;> omega
    | none =>
      rw [hv] at hx
      by_cases e : rt v = v
      · simp [e] at hx
      · simp only [e, if_false, Option.some.injEq] at hx
        subst hx
        have hv0 : 0 ≤ rt v := by
          by_cases q : 0 ≤ v ∧ v < 12
          · exact (h1 v q.1 q.2).1
          · exact absurd (h7 v q) e
        have ew : w = rt v := by
          rcases hw with hw | hw
          · have c1 : cl (vt (rt v)).1 = -1 - rt v := cl_vt _
            rw [if_pos (by rw [c1]; omega), c1] at hw
            omega
          · exact hw.elim
        subst ew
        have e2 : vl (rt (rt v)) = none := by rw [hrr]; exact hv
        rw [rnone (rt v) e2, rnone v hv, if_pos (hrr v), if_neg e]
        omega
  have hcm : cm (rs (cE rt vl)) (cE rt vl) := rs_cm hac (fun v x hx => by
    have := n12_le (fun w => rk w < rk (rt v))
    cases hv : vl (rt v) with
    | some y => rw [rsome v y hv]; omega
    | none => rw [rnone v hv]; split <;> omega)
  obtain ⟨k1, k2⟩ := cE_cm hrr hr0 hcm
  have k1' : ∀ v, rs (cE rt vl) v = rs (cE rt vl) (rt v) := fun v => by
    by_cases hv : 0 ≤ v
    · exact k1 v hv
    · rw [h7 v (by omega)]
  have hnp : np pd (rs (cE rt vl)) := by
    have key : ∀ m v, 0 ≤ v → ¬ (0 ≤ cl (rv (cE rt vl) m v).1 ∧ pd (cl (rv (cE rt vl) m v).1)) := by
      intro m
      induction m with
      | zero => intro v hv w; have : cl (vt v).1 = -1 - v := cl_vt v; have := w.1; change 0 ≤ cl (vt v).1 at this; omega
      | succ m ih =>
        intro v hv
        show ¬ (0 ≤ cl (match cE rt vl v with | none => vt v | some x => st (rv (cE rt vl) m) x).1 ∧ pd (cl (match cE rt vl v with | none => vt v | some x => st (rv (cE rt vl) m) x).1))
        cases hx : cE rt vl v with
        | none => intro w; have : cl (vt v).1 = -1 - v := cl_vt v; have := w.1; change 0 ≤ cl (vt v).1 at this; omega
        | some x =>
          show ¬ (0 ≤ cl (st (rv (cE rt vl) m) x).1 ∧ pd (cl (st (rv (cE rt vl) m) x).1))
          unfold cE at hx
          cases hv2 : vl (rt v) with
          | some y =>
            rw [hv2] at hx
            obtain rfl := Option.some.inj hx
            obtain ⟨_, _, _, q1, q2, _⟩ := h2 _ _ hv2
            rw [st_f _ q1]
            exact fun w => q2 w.2
          | none =>
            rw [hv2] at hx
            by_cases e : rt v = v
            · simp [e] at hx
            · simp only [e, if_false, Option.some.injEq] at hx
              subst hx
              rw [st_vt (hr0 v hv)]
              exact ih (rt v) (hr0 v hv)
    exact fun v hv => key 40 v hv
  refine ⟨⟨⟨hnp, ?_⟩, fun τ hτ v hv => ?_⟩, hcm⟩
  · have := JF_same (τ := rs (cE rt vl)) k1' k2 (fun v x hx => h3 (rt v) x hx (hrr v)) (fun x y hl => by
      obtain ⟨q1, q2, q3⟩ := h4 x y hl
      exact ⟨q1, q2, q3.resolve_left (fun w => w)⟩) j
    have e1 : su (rs (cE rt vl)) (tt X) = tt (st (rs (cE rt vl)) X) := rfl
    have e2 : su (rs (cE rt vl)) (tt Y) = tt (st (rs (cE rt vl)) Y) := rfl
    rw [e1, e2] at this
    injection this with v1 v2 v3
    exact Prod.ext v1 v2
  · obtain ⟨q1, q2⟩ := h6 τ hτ
    refine cm_rv (fun w x hx => ?_) 40 v hv
    unfold cE at hx
    cases hv2 : vl (rt w) with
    | some y =>
      rw [hv2] at hx
      obtain rfl := Option.some.inj hx
      rw [q1 w]
      exact q2 _ _ (h2 _ _ hv2).2.2.2.2.2.1
    | none =>
      rw [hv2] at hx
      by_cases e : rt w = w
      · simp [e] at hx
      · simp only [e, if_false, Option.some.injEq] at hx
        subst hx
        have hw : 0 ≤ rt w := by
          by_cases q : 0 ≤ w ∧ w < 12
          · exact (h1 w q.1 q.2).1
          · exact absurd (h7 w q) e
        rw [st_vt hw]; exact q1 w
