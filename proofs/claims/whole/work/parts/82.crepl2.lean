theorem wlitG {σ : zS} {β : Nat} {q : Option (List QL)} (hQ : DQ σ q) (h8 : 0 ≤ σ.1 3905 ∧ σ.1 3905 ≤ 8) {s : Int} (hs : s = 0 ∨ s = 1) {W1 W2 : zS → Option zR} {L R : List Int} (h1 : ∀ ρ D, DG σ ρ → DS ρ D → ∃ τ, W1 ρ = some (τ, 0) ∧ DF ρ τ ∧ DS τ (dput D L)) (h2 : ∀ ρ D, DG σ ρ → DS ρ D → ∃ τ, W2 ρ = some (τ, 0) ∧ DF ρ τ ∧ DS τ (dput D R)) :
    ∃ σ1 σ2 σ3 σ4 σ5, yE tC_Dra_openLiteral β σ [s] = some (σ1, 0) ∧ W1 σ1 = some (σ2, 0) ∧ yE tC_Dra_openRight β σ2 [] = some (σ3, 0) ∧ W2 σ3 = some (σ4, 0) ∧ yE tC_Dra_closeLiteral β σ4 [] = some (σ5, 0) ∧ DG σ σ1 ∧ DG σ σ2 ∧ DG σ σ3 ∧ DG σ σ4 ∧ DG σ σ5 ∧ DQ σ5 (qadd q (s, L, R)) ∧ (0 ≤ σ5.1 3905 ∧ σ5.1 3905 ≤ 8) := by
  obtain ⟨σ1, e1, f1, o1⟩ := open_ok (β := β) hQ hs h8
  have g1 : DG σ σ1 := f1.w
  obtain ⟨D1, d1, d2⟩ := o1.w
  obtain ⟨σ2, e2, f2, d3⟩ := h1 σ1 D1 g1 d1
  have g2 : DG σ σ2 := g1.trans f2.w
  have o2 := d2 σ2 _ f2 d3
  rw [List.nil_append] at o2
  obtain ⟨σ3, e3, f3, o3⟩ := right_ok (β := β) o2
  have g3 : DG σ σ3 := g2.trans f3.w
  obtain ⟨D2, d4, d5⟩ := o3.w
  obtain ⟨σ4, e4, f4, d6⟩ := h2 σ3 D2 g3 d4
  have g4 : DG σ σ4 := g3.trans f4.w
  have o4 := d5 σ4 _ f4 d6
  rw [List.nil_append] at o4
  obtain ⟨σ5, e5, f5, o5, o6⟩ := close_ok (β := β) o4
  have g5 : DG σ σ5 := g4.trans f5.w
  have h905 : σ4.1 3905 = σ.1 3905 := by rw [f4.i 3905, f3.i 3905, f2.i 3905, f1.i 3905]
  exact ⟨σ1, σ2, σ3, σ4, σ5, e1, e2, e3, e4, e5, g1, g2, g3, g4, g5, o5, by omega⟩
/-- a side, with another TERM for the one at u -/
theorem range_ok {ar : Int → Nat} {pd : Int → Prop} {m9 : Int} {σ : zS} {rt : Int → Int} {vl : Int → Option Tm} {th : Vs} {rh : Int → Nat} (hW : WC ar pd m9 σ rt vl th rh) {β : Nat} (hβ : 16 ≤ β) {x : Tm} {p u : Int} (hx : Fl (σ.2.1 48) p (fl (tt x))) (wx : wf ar (lb m9) (tt x)) (p0 : 0 ≤ p) (p1 : p + (tw x : Int) ≤ σ.1 4701) {pa : Int} {a : Lt} (ha : HL σ pa a) {s : Int} (hs : s = 0 ∨ s = 1) (wr : wf ar (lb m9) (tt (sdT a s))) {D : Option (List Int × List Int)} (hD : DS σ D) : ∃ τ, yE tC_Sat_writeRange β σ [p, p + (tw x : Int), u, pa, s] = some (τ, 0) ∧ DF σ τ ∧ (¬ (p ≤ u ∧ u < p + (tw x : Int)) → DS τ (dput D (exL th 6 (fl (tt x))))) ∧ ∀ (o : Nat) (y : Tm), u = p + (o : Int) → sbF o (tt x) = some y → DS τ (dput D (wrR th (sdT a s) o x y)) := by
  obtain ⟨c1, c2, c3⟩ := hW.1.2.2.2
  have hl := fun c hc => wf_fl wx c hc
  by_cases hu : p ≤ u ∧ u < p + (tw x : Int)
  · obtain ⟨o, ho⟩ : ∃ o : Nat, u = p + (o : Int) := ⟨(u - p).toNat, by omega⟩
    have hot : o < wt (tt x) := by simp only [tt, wt]; simp only [tw] at hu; omega
    obtain ⟨y, hy⟩ := sb_ex hot
    obtain ⟨q1, q2⟩ := sb_Fl hx hy
    obtain ⟨wy, _⟩ := sb_wf wx hy
    obtain ⟨x1, x2, x3⟩ := ha.sd (s := s)
    have tX : (wt (tt x) : Int) = (tw x : Int) := by simp only [tt, wt, tw]; omega
    have lx := tt_len x
    have hsplit : fl (tt x) = (fl (tt x)).take o ++ (fl (tt x)).drop o := (List.take_append_drop _ _).symm
    have fpre : Fl (σ.2.1 48) p ((fl (tt x)).take o) := by
      have h := hx
      rw [hsplit] at h
      exact (Fl_app.mp h).1
    have fsuf : Fl (σ.2.1 48) (u + (tw y : Int)) ((fl (tt x)).drop (o + tw y)) := by
      have h := hx
      rw [(List.take_append_drop (o + tw y) (fl (tt x))).symm] at h
      have := (Fl_app.mp h).2
      rw [List.length_take, lx, Nat.min_eq_left (by omega)] at this
      rw [show u + (tw y : Int) = p + ((o + tw y : Nat) : Int) by omega]; exact this
    have lpre : (((fl (tt x)).take o).length : Int) = (o : Int) := by rw [List.length_take, lx, Nat.min_eq_left (by omega)]
    have lsuf : (((fl (tt x)).drop (o + tw y)).length : Int) = (tw x : Int) - (o : Int) - (tw y : Int) := by rw [List.length_drop, lx]; omega
    obtain ⟨σ1, e1, f1, d1⟩ := uw_ok hW (β := β - 1) (L := (fl (tt x)).take o) (i := p) (to := u) (Or.inr rfl) FrC.refl hD fpre (fun c hc => hl c (List.mem_of_mem_take hc)) p0 (by rw [lpre]; omega) (by omega) (by omega)
    have hW1 := hW.f f1
    obtain ⟨σ2, e2, f2, d2⟩ := uw_ok hW1 (β := β - 1) (L := fl (tt (sdT a s))) (i := sdp pa a s) (to := sdp pa a s + (tw (sdT a s) : Int)) (Or.inl rfl) FrC.refl d1 (Fl_q (fun i _ _ => f1.a 48 i) x1) (fun c hc => wf_fl wr c hc) x2 (by rw [tt_len]) (by rw [f1.i 4701]; exact x3) (by omega)
    have f12 := f1.trans f2
    have hW2 := hW.f f12
    have haf := aft48 (β := β - 1) (σ := σ2) (hW.1.f f12).1 (by rw [f12.l 48]; omega) (x := y) (q := u) (Fl_q (fun i _ _ => f12.a 48 i) (by rw [ho]; exact q1)) wy (by omega) (by rw [f12.l 48]; omega)
    obtain ⟨σ3, e3, f3, d3⟩ := uw_ok hW2 (β := β - 1) (L := (fl (tt x)).drop (o + tw y)) (i := u + (tw y : Int)) (to := p + (tw x : Int)) (Or.inr rfl) FrC.refl d2 (Fl_q (fun i _ _ => f12.a 48 i) fsuf) (fun c hc => hl c (List.mem_of_mem_drop hc)) (by omega) (by rw [lsuf]; omega) (by rw [f12.i 4701]; omega) (by omega)
    refine ⟨σ3, ?_, f12.trans f3, fun n => absurd hu n, fun o2 y2 ho2 hy2 => ?_⟩
    · rw [yq_Sat_writeRange, kY_Sat_writeRange, if_neg (by omega), if_pos (by omega), if_pos (by omega), zbd_of (side_ok ha hs), if_pos (by omega), zbd_of e1, if_pos (by omega), zbd_of (size_ok (ha.f f1) hs), if_pos (by omega), if_pos (by omega), zbd_of e2, if_pos (by omega), zbd_of haf, if_pos (by omega), zbd_of e3]
    · have : o2 = o := by omega
      subst this
      rw [hy] at hy2
      obtain rfl := Option.some.inj hy2
      unfold wrR
      rw [dput_app, dput_app]; exact d3
  · obtain ⟨τ, e, f, d⟩ := uw_ok hW (β := β - 1) (L := fl (tt x)) (i := p) (to := p + (tw x : Int)) (Or.inr rfl) FrC.refl hD hx hl p0 (by rw [tt_len]) p1 (by omega)
    refine ⟨τ, ?_, f, fun _ => d, fun o y ho hy => ?_⟩
    · have e10 : yE tC_Sat_writeRange_p10 β σ [p, p + (tw x : Int), u, pa, s] = some (τ, 0) := by rw [yq_Sat_writeRange_p10, kY_Sat_writeRange_p10, if_pos (by omega), zbd_of e]
      rw [yq_Sat_writeRange, kY_Sat_writeRange]
      by_cases h1 : u < p
      · rw [if_pos h1, e10]
      · rw [if_neg h1, if_neg (by omega), e10]
    · exfalso
      obtain ⟨q1, q2⟩ := sb_Fl hx hy
      have := tw_pos y
      have tX : (wt (tt x) : Int) = (tw x : Int) := by simp only [tt, wt, tw]; omega
      omega
/-- the LITERALS of B, one TERM replaced: that at u, which is in LITERAL j, side t, at o -/
def rpQ (th : Vs) (r : Tm) (j : Nat) (t : Int) (o : Nat) (y : Tm) (n : Nat) (a : Lt) : QL := (a.1, if n = j ∧ t = 0 then wrR th r o a.2.1 y else exL th 6 (fl (tt a.2.1)), if n = j ∧ t = 1 then wrR th r o a.2.2 y else exL th 6 (fl (tt a.2.2)))
def rpQs (th : Vs) (r : Tm) (j : Nat) (t : Int) (o : Nat) (y : Tm) : Nat → List Lt → List QL
  | _, [] => []
  | n, a :: C => rpQ th r j t o y n a :: rpQs th r j t o y (n + 1) C
theorem replaced_ok {ar : Int → Nat} {pd : Int → Prop} {m9 : Int} {σ : zS} {rt : Int → Int} {vl : Int → Option Tm} {th : Vs} {rh : Int → Nat} (hW : WC ar pd m9 σ rt vl th rh) {Cs : List CL} (hS : SC σ Cs) {k : Nat} {c : CL} (hc : Cs[k]? = some c) (wc : Wc ar m9 c.1) {j : Nat} {bl : Lt} (hj : c.1[j]? = some bl) {t : Int} (ht : t = 0 ∨ t = 1) {o : Nat} {y : Tm} (hy : sbF o (tt (sdT bl t)) = some y) {u : Int} (hu : u = sdp (hp (pos Cs k) c.1 j) bl t + (o : Int)) {pa : Int} {a : Lt} (ha : HL σ pa a) {s : Int} (hs : s = 0 ∨ s = 1) (wr : wf ar (lb m9) (tt (sdT a s))) {β : Nat} (hβ : 17 ≤ β) {q : Option (List QL)} (hQ : DQ σ q) (h8 : 0 ≤ σ.1 3905 ∧ σ.1 3905 ≤ 8) : ∃ τ, yE tC_Sat_writeReplaced β σ [(k : Int), u, pa, s] = some (τ, 0) ∧ DG σ τ ∧ DQ τ (qaddL q (rpQs th (sdT a s) j t o y 0 c.1)) ∧ (0 ≤ τ.1 3905 ∧ τ.1 3905 ≤ 8) := by
  have w8 := wc.1
  have hyt : o + tw y ≤ wt (tt (sdT bl t)) := fl_rp.sb_le hy
  have tY := tw_pos y
  have tB : (wt (tt (sdT bl t)) : Int) = (tw (sdT bl t) : Int) := by simp only [tt, wt, tw]; omega
  -- u is in that side alone
  have u_in : sdp (hp (pos Cs k) c.1 j) bl t ≤ u ∧ u < sdp (hp (pos Cs k) c.1 j) bl t + (tw (sdT bl t) : Int) := by omega
  have loop : ∀ (m n : Nat) (ρ : zS) (q : Option (List QL)), n + m = c.1.length → DG σ ρ → DQ ρ q → (0 ≤ ρ.1 3905 ∧ ρ.1 3905 ≤ 8) → ∃ τ, yE tC_Sat_writeReplaced_p15 β ρ [(k : Int), u, pa, s, hp (pos Cs k) c.1 n, (n : Int)] = some (τ, 0) ∧ DG σ τ ∧ DQ τ (qaddL q (rpQs th (sdT a s) j t o y n (c.1.drop n))) ∧ (0 ≤ τ.1 3905 ∧ τ.1 3905 ≤ 8) := by
    intro m
    induction m with
    | zero =>
      intro n ρ q hn f hQ h8
      have hS' := hS.f f
      refine ⟨ρ, ?_, f, ?_, h8⟩
      · rw [yq_Sat_writeReplaced_p15, kY_Sat_writeReplaced_p15, if_pos (by omega), zbd_of (hS'.f3 hc).1, if_pos (by omega)]
      · have : c.1.drop n = [] := List.drop_eq_nil_of_le (by omega)
        rw [this]; exact hQ
    | succ m ih =>
      intro n ρ q hn f hQ h8
      have hS' := hS.f f
      have hl : n < c.1.length := by omega
      have ea := List.getElem?_eq_getElem hl
      have ham : c.1[n] ∈ c.1 := List.getElem_mem hl
      have hA := hS'.hl hc ea
      have edr : c.1.drop n = c.1[n] :: c.1.drop (n + 1) := List.drop_eq_getElem_cons hl
      obtain ⟨s1, w1, w2⟩ := wc.2.2.2.2 _ ham
      obtain ⟨a1, a2, a3, a4, a5, a6, a7, a8, a9⟩ := id hA
      have hs1 : b2 (c.1[n].1 = 1) = c.1[n].1 := by
        rcases s1 with z | z
        · rw [b2_f (by omega), z]
        · rw [b2_t z, z]
      have t1 := tw_pos c.1[n].2.1
      have t2 := tw_pos c.1[n].2.2
      -- where u can be
      have far : n ≠ j → ¬ (hp (pos Cs k) c.1 n ≤ u ∧ u < hp (pos Cs k) c.1 n + 5 + (tw c.1[n].2.1 : Int) + (tw c.1[n].2.2 : Int)) := fun hne w => by
        have hb := hS'.hl hc hj
        obtain ⟨_, _, _, _, _, b6, _⟩ := hb
        have hs9 : hp (pos Cs k) c.1 (n + 1) = hp (pos Cs k) c.1 n + 5 + (tw c.1[n].2.1 : Int) + (tw c.1[n].2.2 : Int) := hp_s ea
        have hj9 : hp (pos Cs k) c.1 (j + 1) = hp (pos Cs k) c.1 j + 5 + (tw bl.2.1 : Int) + (tw bl.2.2 : Int) := hp_s hj
        have uj : hp (pos Cs k) c.1 j ≤ u ∧ u < hp (pos Cs k) c.1 j + 5 + (tw bl.2.1 : Int) + (tw bl.2.2 : Int) := by
          have v := u_in
          unfold sdp sdT at v
          rcases ht with rfl | rfl
          · simp only [if_true] at v; omega
          · simp only [show ¬ (1 : Int) = 0 by decide, if_false] at v; omega
        rcases Nat.lt_trichotomy n j with z | z | z
        · have : hp (pos Cs k) c.1 (n + 1) ≤ hp (pos Cs k) c.1 j := by
            rcases Nat.lt_or_ge (n + 1) j with zz | zz
            · have hl2 : n + 1 < c.1.length := by have := (List.getElem?_eq_some_iff.mp hj).1; omega
              have := hp_lt (p := pos Cs k) (List.getElem?_eq_getElem hl2) zz; omega
            · have : n + 1 = j := by omega
              rw [this]; omega
          omega
        · exact hne z
        · have : hp (pos Cs k) c.1 (j + 1) ≤ hp (pos Cs k) c.1 n := by
            rcases Nat.lt_or_ge (j + 1) n with zz | zz
            · have hl2 : j + 1 < c.1.length := by omega
              have := hp_lt (p := pos Cs k) (List.getElem?_eq_getElem hl2) zz; omega
            · have : j + 1 = n := by omega
              rw [this]; omega
          omega
      obtain ⟨σ1, σ2, σ3, σ4, σ5, e1, e2, e3, e4, e5, g1, g2, g3, g4, g5, o5, o6⟩ := wlitG (β := β - 1) hQ h8 s1 (W1 := fun ρ1 => yE tC_Sat_writeRange (β - 1) ρ1 [hp (pos Cs k) c.1 n + 5, hp (pos Cs k) c.1 n + 5 + (tw c.1[n].2.1 : Int), u, pa, s]) (W2 := fun ρ1 => yE tC_Sat_writeRange (β - 1) ρ1 [hp (pos Cs k) c.1 n + 5 + (tw c.1[n].2.1 : Int), hp (pos Cs k) c.1 n + 5 + (tw c.1[n].2.1 : Int) + (tw c.1[n].2.2 : Int), u, pa, s]) (L := if n = j ∧ t = 0 then wrR th (sdT a s) o c.1[n].2.1 y else exL th 6 (fl (tt c.1[n].2.1))) (R := if n = j ∧ t = 1 then wrR th (sdT a s) o c.1[n].2.2 y else exL th 6 (fl (tt c.1[n].2.2)))
        (fun ρ1 D f1 hD => by
          have ff := f.trans f1
          obtain ⟨τ, r1, r2, r3, r4⟩ := range_ok (hW.f ff) (β := β - 1) (by omega) (x := c.1[n].2.1) (p := hp (pos Cs k) c.1 n + 5) (u := u) (Fl_q (fun i _ _ => f1.a 48 i) a4) w1 (by omega) (by rw [f1.i 4701]; omega) (ha.f ff) hs wr hD
          refine ⟨τ, r1, r2, ?_⟩
          by_cases hne : n = j
          · subst hne
            rw [ea] at hj
            obtain rfl := Option.some.inj hj
            rcases ht with rfl | rfl
            · rw [if_pos ⟨rfl, rfl⟩]
              exact r4 o y (by rw [hu]; rfl) hy
            · rw [if_neg (fun w => by have := w.2; omega)]
              refine r3 (fun w => ?_)
              have v := u_in.1
              unfold sdp at v
              simp only [show ¬ (1 : Int) = 0 by decide, if_false] at v
              omega
          · rw [if_neg (fun w => hne w.1)]
            exact r3 (fun w => far hne (by omega)))
        (fun ρ1 D f1 hD => by
          have ff := f.trans f1
          obtain ⟨τ, r1, r2, r3, r4⟩ := range_ok (hW.f ff) (β := β - 1) (by omega) (x := c.1[n].2.2) (p := hp (pos Cs k) c.1 n + 5 + (tw c.1[n].2.1 : Int)) (u := u) (Fl_q (fun i _ _ => f1.a 48 i) a5) w2 (by omega) (by rw [f1.i 4701]; omega) (ha.f ff) hs wr hD
          refine ⟨τ, r1, r2, ?_⟩
          by_cases hne : n = j
          · subst hne
            rw [ea] at hj
            obtain rfl := Option.some.inj hj
            rcases ht with rfl | rfl
            · rw [if_neg (fun w => by have := w.2; omega)]
              refine r3 (fun w => ?_)
              have v := u_in.2
              unfold sdp sdT at v
              simp only [if_true] at v
              omega
            · rw [if_pos ⟨rfl, rfl⟩]
              exact r4 o y (by rw [hu]; rfl) hy
          · rw [if_neg (fun w => hne w.1)]
            exact r3 (fun w => far hne (by omega)))
      obtain ⟨τ, t3, t4, t5, t6⟩ := ih (n + 1) σ5 _ (by omega) (f.trans g5) o5 o6
      refine ⟨τ, ?_, t4, ?_, t6⟩
      · rw [yq_Sat_writeReplaced_p15, kY_Sat_writeReplaced_p15, if_pos (by omega), zbd_of (hS'.f3 hc).1, if_neg (by omega), if_pos (by omega), zbd_of (side1_ok hA), if_pos (by omega), zbd_of (pos_ok hA), hs1, if_pos (by omega), zbd_of e1, if_pos (by omega), zbd_of (side0_ok (hA.f g1)), if_pos (by omega), zbd_of e2, if_pos (by omega), zbd_of e3, if_pos (by omega), zbd_of (behind_ok (hA.f g3)), if_pos (by omega), zbd_of e4, if_pos (by omega), zbd_of e5, if_pos (by omega), zbd_of (behind_ok (hA.f g5)), if_pos (by omega), ← hp_s ea, show (n : Int) + 1 = ((n + 1 : Nat) : Int) by omega]
        exact t3
      · rw [edr]; exact t5
  obtain ⟨τ, t1, t2, t3, t4⟩ := loop c.1.length 0 σ q (by omega) FrC.refl hQ h8
  refine ⟨τ, ?_, t2, by simpa using t3, t4⟩
  rw [hp_0] at t1
  rw [yq_Sat_writeReplaced, kY_Sat_writeReplaced, if_pos (by omega), zbd_of (hS.f3 hc).2.1]
  exact t1
