/-- what is known when values are written: th: the values; rh: how deep they go -/
def WC (ar : Int → Nat) (pd : Int → Prop) (m9 : Int) (σ : zS) (rt : Int → Int) (vl : Int → Option Tm) (th : Vs) (rh : Int → Nat) : Prop :=
  Cx ar pd m9 σ ∧ (∀ v, 0 ≤ v → v < 12 → σ.2.1 60 v = rt v ∧ 0 ≤ rt v ∧ rt v < 12 ∧ rt (rt v) = rt v) ∧
  (∀ r, 0 ≤ r → r < 12 → rt r = r → (vl r = none → σ.2.1 61 r = -1) ∧ ∀ x, vl r = some x → ∃ y, x = shT (σ.2.1 62 r) y ∧ TA ar m9 σ (σ.2.1 61 r) (σ.2.1 62 r) y) ∧
  (∀ v, 0 ≤ v → v < 12 → (vl (rt v) = none → th v = vt (rt v)) ∧ ∀ x, vl (rt v) = some x → th v = st th x) ∧
  ∀ r x, vl r = some x → rh r ≤ 11 ∧ ∀ v, vi v (tt x) → vl (rt v) ≠ none → rh (rt v) < rh r
theorem fl_vt (u : Int) : fl (tt (vt u)) = [-1 - u] := by
  show cl (cu (-1 - u)) :: (fl nl ++ fl nl) = _
  rw [cl_cu]; rfl
theorem vi_fl {ar : Int → Nat} {p : Int → Prop} {c : Int} (hc : c < 0) : ∀ {F : T}, wf ar p F → c ∈ fl F → vi (-1 - c) F
  | .leaf _, _, h => by cases h
  | .branch n k s, w, h => by
    simp only [fl, List.mem_cons, List.mem_append] at h
    rcases h with h | h | h
    · left; rw [← h, if_pos hc]
    · by_cases hn : cl n < 0
      · have k0 : k = nl := len0 (by have := w.1; rw [if_pos hn] at this; exact this)
        subst k0; cases h
      · left; rw [if_neg hn]; exact vi_fl hc w.2.2.1 h
    · right; exact vi_fl hc w.2.2.2 h
/-- one cell; nest: what is within a value is written one level deeper -/
theorem uw_cell {ar : Int → Nat} {pd : Int → Prop} {m9 : Int} {σ : zS} {rt : Int → Int} {vl : Int → Option Tm} {th : Vs} {rh : Int → Nat} (hW : WC ar pd m9 σ rt vl th rh) {K : Nat} {d : Int} (d0 : 0 ≤ d) (dK : d + (K : Int) = 12) {b : Int} (hb : b = 0 ∨ b = 6)
    (nest : ∀ (u : Int) (x y : Tm), vl u = some x → x = shT (σ.2.1 62 u) y → TA ar m9 σ (σ.2.1 61 u) (σ.2.1 62 u) y → d + 1 + (rh u : Int) ≤ 12 → ∀ (ρ : zS) (D : Option (List Int × List Int)) (β : Nat), DF σ ρ → DS ρ D → K + 2 ≤ β → ∃ τ, yE tC_Uni_write β ρ [σ.2.1 61 u, σ.2.1 61 u + (tw y : Int), σ.2.1 62 u, d + 1] = some (τ, 0) ∧ DF σ τ ∧ DS τ (dput D (exL th (σ.2.1 62 u) (fl (tt y))))) : ∀ (L : List Int) (ρ : zS) (D : Option (List Int × List Int)) (fr to i : Int) (β : Nat), DF σ ρ → DS ρ D → Fl (σ.2.1 48) i L → (∀ c ∈ L, lb m9 c) → 0 ≤ i → i + (L.length : Int) = to → to ≤ σ.1 4701 → (∀ c ∈ L, c < 0 → vl (rt (-1 - c + b)) ≠ none → d + 1 + (rh (rt (-1 - c + b)) : Int) ≤ 12) → K + 3 ≤ β →
    ∃ τ, yE tC_Uni_write_p3 β ρ [fr, to, b, d, i] = some (τ, 0) ∧ DF σ τ ∧ DS τ (dput D (exL th b L))
  | [], ρ, D, fr, to, i, β, hf, hD, hF, hl, h0, hi, hto, hr, hβ => by
    simp only [List.length_nil] at hi
    refine ⟨ρ, ?_, hf, by rw [show exL th b [] = [] from rfl, dput_nil hD.b]; exact hD⟩
    rw [yq_Uni_write_p3, kY_Uni_write_p3, if_pos (by omega), yq_Uni_write_p147, kY_Uni_write_p147]
  | c :: L, ρ, D, fr, to, i, β, hf, hD, hF, hl, h0, hi, hto, hr, hβ => by
    obtain ⟨hC, w1, w2, w3, w4⟩ := id hW
    obtain ⟨c1, c2, c3⟩ := hC.2.2.2
    simp only [List.length_cons] at hi
    have hlc := hl c List.mem_cons_self
    have e48 : ρ.2.1 48 i = c := by rw [hf.a 48]; exact hF.1
    have l48 := hf.l 48
    -- what follows
    have rest := fun (ρ2 : zS) (D2 : Option (List Int × List Int)) (f2 : DF σ ρ2) (s2 : DS ρ2 D2) => uw_cell hW d0 dK hb nest L ρ2 D2 fr to (i + 1) β f2 s2 hF.2 (fun e he => hl e (List.mem_cons_of_mem _ he)) (by omega) (by omega) hto (fun e he => hr e (List.mem_cons_of_mem _ he)) hβ
    have e141 : ∀ (ρ2 : zS) (u : Int), yE tC_Uni_write_p141 β ρ2 [fr, to, b, d, i, c, u] = yE tC_Uni_write_p3 β ρ2 [fr, to, b, d, i + 1] := fun ρ2 u => by rw [yq_Uni_write_p141, kY_Uni_write_p141, if_pos (by omega)]
    have ex : exL th b (c :: L) = (if c < 0 then fl (tt (th (-1 - c + b))) else [c]) ++ exL th b L := rfl
    rw [ex, dput_app]
    by_cases hD0 : D = none
    · subst hD0
      refine ⟨ρ, ?_, hf, hD⟩
      rw [yq_Uni_write_p3, kY_Uni_write_p3, if_neg (by omega), if_neg (by rw [hD.1]; decide), yq_Uni_write_p147, kY_Uni_write_p147]
    · have hby : ρ.1 3907 = 0 := by
        cases D with
        | none => exact absurd rfl hD0
        | some q => exact hD.1
      by_cases hc : c < 0
      · obtain ⟨s1, s2, s3, s4⟩ := w1 (-1 - c + b) (by omega) (by omega)
        have e60 : ρ.2.1 60 (-1 - c + b) = rt (-1 - c + b) := by rw [hf.a 60]; exact s1
        have E : yE tC_Uni_write_p3 β ρ [fr, to, b, d, i] = yE tC_Uni_write_p56 β ρ [fr, to, b, d, i, c, rt (-1 - c + b)] := by
          rw [yq_Uni_write_p3, kY_Uni_write_p3, if_neg (by omega), if_pos hby, if_neg (by omega), if_pos (by omega), e48, if_neg (by omega), if_pos (by omega), if_pos (by omega), e60]
        rw [E, if_pos hc]
        cases hv : vl (rt (-1 - c + b)) with
        | none =>
          have e61 := (w2 _ s2 s3 s4).1 hv
          obtain ⟨τ1, r1, t1, t2, ρ2, t3, t4, t5⟩ := putv_ok (β := β - 1) (v := rt (-1 - c + b)) hD s2 (by omega)
          obtain ⟨τ, q1, q2, q3⟩ := rest ρ2 _ (hf.trans t4) t5
          refine ⟨τ, ?_, q2, ?_⟩
          · rw [yq_Uni_write_p56, kY_Uni_write_p56, if_neg (by omega), if_pos (by omega), hf.a 61, if_pos e61, if_pos (by omega), zbd_of t1, if_pos (by omega), zbd_of t3, e141, q1]
          · rw [(w3 (-1 - c + b) (by omega) (by omega)).1 hv, fl_vt]; exact q3
        | some x =>
          obtain ⟨y, y1, y2⟩ := (w2 _ s2 s3 s4).2 x hv
          have yb := y2.1
          obtain ⟨y3, y4, y5, y6, y7⟩ := y2.2.2.2
          have tY : (wt (tt y) : Int) = (tw y : Int) := by simp only [tt, wt, tw]; omega
          have hd1 := hr c List.mem_cons_self hc (by rw [hv]; simp)
          obtain ⟨τ1, t1, t2, t3⟩ := nest _ x y hv y1 y2 hd1 ρ D (β - 1) hf hD (by omega)
          have y2' := y2.f hf
          have hC' := hC.f hf
          have ha := aft48 (β := β - 1) hC'.1 (by have := hC'.2.2.2.2.2; omega) y2'.2.1 y2'.2.2.1 (by omega) (by have := hC'.2.2.2.2.1; have := hf.i 4701; omega)
          obtain ⟨τ, q1, q2, q3⟩ := rest τ1 _ t2 t3
          refine ⟨τ, ?_, q2, ?_⟩
          · rw [yq_Uni_write_p56, kY_Uni_write_p56, if_neg (by omega), if_pos (by omega), hf.a 61, if_neg (by omega), if_pos (by omega), zbd_of ha, if_pos (by omega), if_pos (by omega), hf.a 62, zbd_of t1, e141, q1]
          · have e9 : fl (tt (th (-1 - c + b))) = exL th (σ.2.1 62 (rt (-1 - c + b))) (fl (tt y)) := by
              rw [(w3 (-1 - c + b) (by omega) (by omega)).2 x hv, y1]
              exact fl_su (F := tt y) (by omega) y2.2.2.1
            rw [e9]; exact q3
      · have E : yE tC_Uni_write_p3 β ρ [fr, to, b, d, i] = yE tC_Uni_write_p56 β ρ [fr, to, b, d, i, c, -1] := by
          rw [yq_Uni_write_p3, kY_Uni_write_p3, if_neg (by omega), if_pos hby, if_neg (by omega), if_pos (by omega), e48, if_pos (by omega)]
        rw [E, if_neg hc]
        obtain ⟨ρ2, t1, t2, t3⟩ := put_ok (β := β - 1) (c := c) hD (by omega)
        obtain ⟨τ, q1, q2, q3⟩ := rest ρ2 _ (hf.trans t2) t3
        refine ⟨τ, ?_, q2, q3⟩
        rw [yq_Uni_write_p56, kY_Uni_write_p56, if_pos rfl, if_pos (by omega), zbd_of t1, e141, q1]
theorem uw_at {ar : Int → Nat} {pd : Int → Prop} {m9 : Int} {σ : zS} {rt : Int → Int} {vl : Int → Option Tm} {th : Vs} {rh : Int → Nat} (hW : WC ar pd m9 σ rt vl th rh) : ∀ (K : Nat) (d : Int), 0 ≤ d → d + (K : Int) = 12 → ∀ (L : List Int) (ρ : zS) (D : Option (List Int × List Int)) (fr to b i : Int) (β : Nat), (b = 0 ∨ b = 6) → DF σ ρ → DS ρ D → Fl (σ.2.1 48) i L → (∀ c ∈ L, lb m9 c) → 0 ≤ i → i + (L.length : Int) = to → to ≤ σ.1 4701 → (∀ c ∈ L, c < 0 → vl (rt (-1 - c + b)) ≠ none → d + 1 + (rh (rt (-1 - c + b)) : Int) ≤ 12) → K + 3 ≤ β →
    ∃ τ, yE tC_Uni_write_p3 β ρ [fr, to, b, d, i] = some (τ, 0) ∧ DF σ τ ∧ DS τ (dput D (exL th b L))
  | 0, d, d0, dK, L, ρ, D, fr, to, b, i, β, hb, hf, hD, hF, hl, h0, hi, hto, hr, hβ =>
    uw_cell hW d0 dK hb (fun u x y _ _ _ h12 => by omega) L ρ D fr to i β hf hD hF hl h0 hi hto hr hβ
  | K + 1, d, d0, dK, L, ρ, D, fr, to, b, i, β, hb, hf, hD, hF, hl, h0, hi, hto, hr, hβ => by
    refine uw_cell hW d0 dK hb (fun u x y hv y1 y2 h12 ρ2 D2 β2 f2 s2 hβ2 => ?_) L ρ D fr to i β hf hD hF hl h0 hi hto hr hβ
    have tY : ((fl (tt y)).length : Int) = (tw y : Int) := by rw [fl_length]; simp only [tt, wt, tw]; omega
    have tY2 : (wt (tt y) : Int) = (tw y : Int) := by simp only [tt, wt, tw]; omega
    have yb := y2.1
    obtain ⟨y3, y4, y5, y6, y7⟩ := y2.2.2.2
    rw [yq_Uni_write, kY_Uni_write]
    refine uw_at hW K (d + 1) (by omega) (by omega) (fl (tt y)) ρ2 D2 (σ.2.1 61 u) _ (σ.2.1 62 u) (σ.2.1 61 u) β2 yb f2 s2 y2.2.1 (fun c hc => wf_fl y2.2.2.1 c hc) (by omega) (by omega) (by omega) (fun c hc hneg hn => ?_) (by omega)
    have hvi : vi (-1 - c + σ.2.1 62 u) (tt x) := by
      rw [y1]
      refine (vi_sh (F := tt y) (by omega)).mpr ?_
      rw [show (-1 - c + σ.2.1 62 u - σ.2.1 62 u : Int) = -1 - c by omega]
      exact vi_fl hneg y2.2.2.1 hc
    have := (hW.2.2.2.2 u x hv).2 _ hvi hn
    omega
theorem uw_ok {ar : Int → Nat} {pd : Int → Prop} {m9 : Int} {σ : zS} {rt : Int → Int} {vl : Int → Option Tm} {th : Vs} {rh : Int → Nat} (hW : WC ar pd m9 σ rt vl th rh) {L : List Int} {ρ : zS} {D : Option (List Int × List Int)} {to b i : Int} {β : Nat} (hb : b = 0 ∨ b = 6) (hf : DF σ ρ) (hD : DS ρ D) (hF : Fl (σ.2.1 48) i L) (hl : ∀ c ∈ L, lb m9 c) (h0 : 0 ≤ i) (hi : i + (L.length : Int) = to) (hto : to ≤ σ.1 4701) (hβ : 15 ≤ β) :
    ∃ τ, yE tC_Uni_write β ρ [i, to, b, 0] = some (τ, 0) ∧ DF σ τ ∧ DS τ (dput D (exL th b L)) := by
  rw [yq_Uni_write, kY_Uni_write]
  refine uw_at hW 12 0 (by omega) (by omega) L ρ D i to b i β hb hf hD hF hl h0 hi hto (fun c hc hneg hn => ?_) hβ
  cases hv : vl (rt (-1 - c + b)) with
  | none => exact absurd hv hn
  | some x => have := (hW.2.2.2.2 _ x hv).1; omega
/-- behind a unification all is there -/
theorem WC_of {ar : Int → Nat} {pd : Int → Prop} {m9 : Int} {σ : zS} {X Y : Tm} {rt : Int → Int} {vl : Int → Option Tm} {V : Int → Tm → Prop} {L : Tm → Tm → Prop} (hC : Cx ar pd m9 σ) (hU : US ar m9 σ rt vl V) (h : GI pd (Sl pd X Y) (fun _ _ => False) rt vl V L) (hcm : cm (rs (cE rt vl)) (cE rt vl)) : ∃ rh, WC ar pd m9 σ rt vl (rs (cE rt vl)) rh := by
  obtain ⟨h1, h2, h3, h4, ⟨rk, B, hB, h5⟩, h6, h7⟩ := h
  refine ⟨fun u => n12 (fun w => vl w ≠ none ∧ rk w < rk u), hC, fun v a c => ⟨hU.1 v a c, h1 v a c⟩, hU.2.1, fun v a c => ⟨fun hv => ?_, fun x hx => ?_⟩, fun r x hx => ⟨?_, fun v hv hn => ?_⟩⟩
  · obtain ⟨q1, q2, q3⟩ := h1 v a c
    have en : cE rt vl (rt v) = none := by unfold cE; rw [q3, hv]; simp
    by_cases e : rt v = v
    · rw [e] at en ⊢; exact rs_none en
    · have := hcm v (vt (rt v)) (by unfold cE; rw [hv]; simp [e])
      rw [this, st_vt q1, rs_none en]
  · exact hcm v x (by unfold cE; rw [hx])
  · obtain ⟨r0, r1, _⟩ := h2 r x hx
    have := n12_lt (P := fun w => vl w ≠ none ∧ rk w < rk r) (Q := fun _ => True) (fun _ _ => trivial) r0 r1 trivial (fun w => Nat.lt_irrefl _ w.2)
    have := n12_le (fun _ => True)
    show n12 _ ≤ 11
    omega
  · have lt := h5 r x hx v hv
    have v0 := vi_nn hv
    have v1 := (h2 r x hx).2.2.2.2.2.2 v hv
    obtain ⟨q1, q2, q3⟩ := h1 v v0 v1
    exact n12_lt (P := fun w => vl w ≠ none ∧ rk w < rk (rt v)) (Q := fun w => vl w ≠ none ∧ rk w < rk r) (fun w hw => ⟨hw.1, by omega⟩) q1 q2 ⟨hn, lt⟩ (fun w => Nat.lt_irrefl _ w.2)
