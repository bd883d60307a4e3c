/-! the reference: what unify gives -/
theorem EB.np {ar : Int → Nat} {pd : Int → Prop} {m9 : Int} {σ : zS} {B : Ev} (hB : EB ar pd m9 σ B) (m0 : 0 ≤ m9) : np pd (rs B) ∧ ∀ v, 0 ≤ v → v < 12 → wf ar (fun c => c < m9) (tt (rs B v)) := by
  obtain ⟨r, hr, hr2⟩ := hB.2.2
  have go : ∀ (n : Nat) (v : Int), r v < n → 0 ≤ v → (¬ (0 ≤ cl (rs B v).1 ∧ pd (cl (rs B v).1))) ∧ wf ar (fun c => c < m9) (tt (rs B v)) := by
    intro n
    induction n with
    | zero => intro v h; omega
    | succ n ih =>
      intro v hn v0
      cases hBv : B v with
      | none =>
        rw [rs_none hBv]
        have e := cl_vt v
        refine ⟨fun w => by omega, ?_⟩
        exact ⟨by rw [if_pos (by omega)]; rfl, by show cl (vt v).1 < m9; omega, trivial, trivial⟩
      | some Z =>
        obtain ⟨_, _, z, hZ, hA, hnp⟩ := hB.2.1 v Z hBv
        have e := hB.cm v Z hBv
        rw [e]
        obtain ⟨_, wz, hb, _⟩ := id hA
        have wZ : wf ar (lw 12 m9) (tt Z) := by rw [hZ]; exact lb12 hb wz
        have sub : ∀ u, vi u (tt Z) → wf ar (fun c => c < m9) (tt (rs B u)) := fun u hu => (ih u (by have := hr v Z hBv u hu; omega) (vi_nn hu)).2
        refine ⟨?_, ?_⟩
        · by_cases hc : cl z.1 < 0
          · have sz : cl Z.1 = cl z.1 - σ.2.1 107 v := by rw [hZ]; exact shT_v (by omega) hc
            rw [st_v (rs B) (x := Z) (by omega)]
            refine (ih _ ?_ (by omega)).1
            have := hr v Z hBv (-1 - cl Z.1) (Or.inl (by rw [if_pos (by omega)]))
            omega
          · have sz : Z.1 = z.1 := by rw [hZ]; exact shT_f hc
            rw [st_f (rs B) (x := Z) (by rw [sz]; exact hc)]
            show ¬ (0 ≤ cl Z.1 ∧ pd (cl Z.1))
            rw [sz]; exact hnp
        · show wf ar (fun c => c < m9) (su (rs B) (tt Z))
          exact su_wf (p := lw 12 m9) (fun c _ hc => hc.2) wZ sub
  exact ⟨fun v v0 => (go (r v + 1) v (by omega) v0).1, fun v v0 _ => (go (r v + 1) v (by omega) v0).2⟩
theorem ru_ok {ar : Int → Nat} {pd : Int → Prop} {m9 : Int} {β : Nat} (hβ : 1440 ≤ β) {σ : zS} (hp : Pd σ m9 pd) (m0 : 0 ≤ m9) (h106 : ∀ v, 0 ≤ v → v < 12 → σ.2.1 106 v < 0) {t1 b1 t2 b2 : Int} {x y : Tm} (hx : AT ar m9 σ t1 b1 x) (hy : AT ar m9 σ t2 b2 y) : ∃ (τ : zS) (r : Int), zE tM_unify β σ [t1, b1, t2, b2] = some (τ, r) ∧ VB σ τ ∧ ((r = 1 ∧ ∃ B, EB ar pd m9 τ B ∧ MW ar pd m9 (shT b1 x) (shT b2 y) (rs B)) ∨ (r = 0 ∧ ∀ θ, ¬ Sl pd (shT b1 x) (shT b2 y) θ)) := by
  have B0 : EB ar pd m9 σ (fun _ => none) := ⟨fun v a b _ => h106 v a b, (fun v X h => nomatch h), (fun _ => 0), (fun v X h => nomatch h), (fun _ => Nat.zero_le _)⟩
  obtain ⟨τ, r, u1, u2, u3⟩ := (un_all (ar := ar) (pd := pd) (m9 := m9) (X0 := shT b1 x) (Y0 := shT b2 y) (un (fun _ => none)) (tw (st (rs (fun _ => none)) (shT b1 x)))).1 σ (fun _ => none) t1 b1 x t2 b2 y 0 0 β hp B0 (Nat.le_refl _) hx hy (Nat.le_refl _) ⟨t1, b1, x, rfl, hx⟩ ⟨t2, b2, y, rfl, hy⟩ Pth.z Pth.z (by omega) (by omega)
  refine ⟨τ, r, u1, u2, ?_⟩
  have c0 : ∀ θ : Vs, cm θ (fun _ => none) := fun θ v X h => by cases h
  rcases u3 with ⟨k1, B', k2, k3, k4, k5⟩ | ⟨k1, k2⟩
  · left
    refine ⟨k1, B', k2, ⟨⟨?_, ?_⟩, ?_⟩, ?_⟩
    · exact (k2.np m0).1
    · exact ((k5 (rs B') (k2.np m0).1).mpr k2.cm).2
    · intro θ hθ v v0
      exact cm_rv ((k5 θ hθ.1).mp ⟨c0 θ, hθ.2⟩) 40 v v0
    · exact (k2.np m0).2
  · exact Or.inr ⟨k1, fun θ h => k2 θ h.1 (c0 θ) h.2⟩
/-! the reference: how heavy it is with values -/
def mn (a : Nat) : Nat := if a < 1000 then a else 1000
theorem mn_le (a : Nat) : mn a ≤ 1000 ∧ mn a ≤ a := by unfold mn; split <;> omega
theorem mn_add (a b c : Nat) : mn (a + mn b + c) = mn (a + b + c) := by
  unfold mn
  by_cases h : b < 1000
  · rw [if_pos h]
  · rw [if_neg h, if_neg (by omega), if_neg (by omega)]
theorem mn_big {a b : Nat} (h : 1000 ≤ a) : mn a = mn (a + b) := by
  unfold mn
  rw [if_neg (by omega), if_neg (by omega)]
theorem wg_t {β : Nat} {σ : zS} {x0 x1 x2 x3 x4 x6 : Int} {a : Nat} : zE tM_weigh_127 β σ [x0, x1, x2, x3, x4, (a : Int), x6] = some (σ, (mn a : Int)) := by
  rw [zq_weigh_127, kZ_weigh_127]
  unfold mn
  by_cases h : a < 1000
  · rw [if_pos h, if_pos (by omega)]
  · rw [if_neg h, if_neg (by omega)]; rfl
/-- one more sibling -/
theorem wg_85 {β : Nat} {σ : zS} {t b P I bi u : Int} {a w : Nat} (u0 : 0 ≤ u) (u1 : u < 420000) (ha : a ≤ 2000) (h : zE tM_weigh β σ [u, b, P, I, bi] = some (σ, (mn w : Int))) {k : Nat} (hk : ∀ a' : Nat, a' ≤ 2000 → zE tM_weigh_85 (β + 1) σ [t, b, P, I, bi, (a' : Int), σ.2.1 45 u] = some (σ, (mn (a' + k) : Int))) : zE tM_weigh_85 (β + 1) σ [t, b, P, I, bi, (a : Int), u] = some (σ, (mn (a + (w + k)) : Int)) := by
  have hm := mn_le w
  rw [zq_weigh_85, kZ_weigh_85, if_neg (by omega)]
  by_cases q : 1000 ≤ a
  · rw [if_pos (by omega), wg_t, mn_big q]
  · rw [if_neg (by omega), if_pos (by omega), Nat.add_sub_cancel, zbd_of h, if_pos (by omega), if_pos (by omega), show (a : Int) + (mn w : Int) = ((a + mn w : Nat) : Int) by omega, hk (a + mn w) (by omega), mn_add, Nat.add_assoc]
theorem wgA {ar : Int → Nat} {pd : Int → Prop} {m9 : Int} {σ : zS} {B : Ev} (hB : EB ar pd m9 σ B) : ∀ (β : Nat) (t b : Int) (x : Tm), AT ar m9 σ t b x → DB B β (shT b x) → zE tM_weigh β σ [t, b, -1, -1, 0] = some (σ, (mn (tw (st (rs B) (shT b x))) : Int))
  | 0, t, b, x, hx, hd => hd.elim
  | β + 1, t, b, x, hx, hd => by
    obtain ⟨hP, hw, hb, h100⟩ := id hx
    have kb := Pt_kid hP.1 hP.2 (by omega)
    have hP4 := hP.1.2.2.2.1
    have c43 := hP.1.2.1
    have t0 := hP.1.1
    have t1 := hP.2
    have e73 : ∀ x5 x6 : Int, zE tM_weigh_73 (β + 1) σ [t, b, -1, -1, 0, x5, x6] = some (σ, x6) := fun x5 x6 => by rw [zq_weigh_73, kZ_weigh_73]
    rw [zq_weigh, kZ_weigh, if_neg (by omega), if_pos (by omega), c43]
    by_cases hc : cl x.1 < 0
    · have b6 := hw.2.1.1
      have hcs : cl (shT b x).1 = cl x.1 - b := shT_v (by omega) hc
      obtain ⟨w, hw0⟩ : ∃ w, w = -1 - cl x.1 + b := ⟨_, rfl⟩
      have est : st (rs B) (shT b x) = rs B w := by rw [st_v (rs B) (x := shT b x) (by omega)]; congr 1; omega
      rw [if_neg (by omega), if_pos (by omega), show (-1 : Int) - cl x.1 + b = w from hw0.symm, if_pos (by omega), if_pos (by omega), est]
      cases hBw : B w with
      | none =>
        have := hB.1 w (by omega) (by omega) hBw
        rw [if_neg (by omega), e73, rs_none hBw]
        rfl
      | some Y =>
        obtain ⟨_, _, y, hY, hA, _⟩ := hB.2.1 w Y hBw
        have a0 := hA.1.1.1
        have hdY : DB B β Y := by
          unfold DB at hd
          rw [if_pos (by omega)] at hd
          exact hd Y (by rw [show -1 - cl (shT b x).1 = w by omega]; exact hBw)
        rw [hY] at hdY
        have ih := wgA hB β _ _ y hA hdY
        rw [← hY, ← hB.cm w Y hBw] at ih
        rw [if_pos (by omega), if_pos (by omega), Nat.add_sub_cancel, zbd_of ih, e73]
    · have hcs' : ¬ cl (shT b x).1 < 0 := by rw [shT_neg (by omega)]; exact hc
      have hdk : ∀ z, kd z (sh b x.2) → DB B β z := by
        unfold DB at hd
        rw [if_neg hcs'] at hd
        exact hd
      have sib : ∀ (F : T) (u : Int) (a : Nat), Pc σ F u → u + (wt F : Int) ≤ 205000 → wf ar (lb m9) F → wt F ≤ 100 → (∀ z, kd z (sh b F) → DB B β z) → a ≤ 2000 → zE tM_weigh_85 (β + 1) σ [t, b, -1, -1, 0, (a : Int), u] = some (σ, (mn (a + wt (su (rs B) (sh b F))) : Int)) := fun F => by
        induction F using T.ind with
        | h0 =>
          intro u a hF _ _ _ _ _
          have h1 : u < 0 := hF
          rw [zq_weigh_85, kZ_weigh_85, if_pos h1, wg_t]; rfl
        | h1 n k s _ ihs =>
          intro u a hF hb2 hwF hwt hDB ha
          have sb' := Pc_bes hF hb2 (by omega)
          have hPt := (Pc_nd.mp hF).1
          have hF6 := hF.2.2.2.2.2.1
          simp only [wt] at hb2 hwt
          have u0 := hPt.1
          have ih := wgA hB β u b (n, k) ⟨⟨hPt, by show u + 1 + (wt k : Int) ≤ 205000; omega⟩, ⟨hwF.1, hwF.2.1, hwF.2.2.1, trivial⟩, hb, by show 1 + wt k ≤ 100; omega⟩ (hDB _ (Or.inl rfl))
          exact wg_85 (t := t) u0 (by omega) ha ih (fun a' ha' => ihs (σ.2.1 45 u) a' hF6 (by omega) hwF.2.2.2 (by omega) (fun z hz => hDB z (Or.inr hz)) ha')
      have ek : tw x = 1 + wt x.2 := rfl
      have := sib x.2 (σ.2.1 44 t) 1 hP4 (by omega) hw.2.2.1 (by omega) hdk (by omega)
      have this' : zE tM_weigh_85 (β + 1) σ [t, b, -1, -1, 0, 1, σ.2.1 44 t] = _ := this
      rw [if_pos (by omega), this', st_f (rs B) hcs']; rfl
/-- with another TERM in one place -/
def rpX (r : Tm) (P t : Int) (X : Tm) : Tm := if P = t then r else (X.1, rpA r P (t + 1) X.2)
theorem wgB {ar : Int → Nat} {pd : Int → Prop} {m9 : Int} {σ : zS} {B : Ev} (hB : EB ar pd m9 σ B) {P I b : Int} {r : Tm} (hI : 0 ≤ P → AT ar m9 σ I 0 r) (hb : b = 0 ∨ b = 6) : ∀ (F : T) (β : Nat) (t u : Int) (a : Nat), Pc σ F u → u + (wt F : Int) ≤ 205000 → wf ar (lb m9) F → wt F ≤ 100 → ht F + 1431 ≤ β → a ≤ 2000 → zE tM_weigh_85 (β + 1) σ [t, b, P, I, 0, (a : Int), u] = some (σ, (mn (a + wt (su (rs B) (rpA r P u (sh b F)))) : Int))
  | .leaf (), β, t, u, a, hF, _, _, _, _, _ => by
    have h1 : u < 0 := hF
    rw [zq_weigh_85, kZ_weigh_85, if_pos h1, wg_t, show sh b (.leaf ()) = nl from rfl, rpA_nl]; rfl
  | .branch n k s, β, t, u, a, hF, hb2, hwF, hwt, hd, ha => by
    have kb := Pc_kid hF hb2 (by omega)
    have sb' := Pc_bes hF hb2 (by omega)
    have hPt := (Pc_nd.mp hF).1
    have hF6 := hF.2.2.2.2.2.1
    have hF7 := hF.2.2.2.2.2.2
    have hF5 := hPt.2.2.2.2
    have hF4 := hPt.2.2.2.1
    have c43 := hPt.2.1
    simp only [wt] at hb2 hwt
    simp only [ht] at hd
    have u0 := hPt.1
    have A1 : AT ar m9 σ u b (n, k) := ⟨⟨hPt, by show u + 1 + (wt k : Int) ≤ 205000; omega⟩, ⟨hwF.1, hwF.2.1, hwF.2.2.1, trivial⟩, hb, by show 1 + wt k ≤ 100; omega⟩
    have eS : rpA r P (u + 1 + (wt k : Int)) (sh b s) = rpA r P (σ.2.1 45 u) (sh b s) := rpA_0 (fun h => by rw [sh_wt] at h; exact (hF7 h).symm)
    have eN : rpA r P u (sh b (.branch n k s)) = if P = u then nd r.1 r.2 (sh b s) else nd (shT b (n, k)).1 (rpA r P (u + 1) (sh b k)) (rpA r P (σ.2.1 45 u) (sh b s)) := by
      have := rpA_nd (z := r) (P := P) (x := u) (n := (shT b (n, k)).1) (k := sh b k) (s := sh b s)
      rw [sh_wt, eS] at this
      exact this
    have rest := fun a' ha' => wgB hB hI hb s β t (σ.2.1 45 u) a' hF6 (by omega) hwF.2.2.2 (by omega) (by omega) ha'
    -- the one here
    have key : ∃ w : Nat, zE tM_weigh β σ [u, b, P, I, 0] = some (σ, (mn w : Int)) ∧ wt (su (rs B) (rpA r P u (sh b (.branch n k s)))) = w + wt (su (rs B) (rpA r P (σ.2.1 45 u) (sh b s))) := by
      obtain ⟨β', rfl⟩ : ∃ β', β = β' + 1 := ⟨β - 1, by omega⟩
      by_cases hp : P = u
      · have hA := hI (by omega)
        have h0 : shT 0 r = r := shT_0 r
        have wA := wgA hB β' I 0 r hA (DB_m (DB_1430 hB hA) (by omega))
        rw [h0] at wA
        have eS2 : rpA r P (σ.2.1 45 u) (sh b s) = sh b s := by
          rw [← eS]; unfold rpA
          rw [if_neg (by omega)]
        refine ⟨tw (st (rs B) r), ?_, ?_⟩
        · rw [zq_weigh, kZ_weigh, if_pos hp.symm, if_pos (by omega), Nat.add_sub_cancel, zbd_of wA]
        · rw [eN, if_pos hp, eS2]; rfl
      · rw [eN, if_neg hp]
        have e73 : ∀ x5 x6 : Int, zE tM_weigh_73 (β' + 1) σ [u, b, P, I, 0, x5, x6] = some (σ, x6) := fun x5 x6 => by rw [zq_weigh_73, kZ_weigh_73]
        by_cases hc : cl n < 0
        · have b6 := hwF.2.1.1
          have k0 : k = nl := len0 (by have := hwF.1; rw [if_pos hc] at this; exact this)
          subst k0
          have hcs : cl (shT b (n, nl)).1 = cl n - b := shT_v (x := (n, nl)) (by omega) hc
          obtain ⟨w, hw0⟩ : ∃ w, w = -1 - cl n + b := ⟨_, rfl⟩
          have est : st (rs B) (shT b (n, nl)) = rs B w := by rw [st_v (rs B) (x := shT b (n, nl)) (by omega)]; congr 1; omega
          refine ⟨tw (rs B w), ?_, ?_⟩
          · rw [zq_weigh, kZ_weigh, if_neg (fun w => hp w.symm), if_pos (by omega), c43, if_neg (by omega), if_pos (by omega), show (-1 : Int) - cl n + b = w from hw0.symm, if_pos (by omega), if_pos (by omega)]
            cases hBw : B w with
            | none =>
              have := hB.1 w (by omega) (by omega) hBw
              rw [if_neg (by omega), e73, rs_none hBw]
              rfl
            | some Y =>
              obtain ⟨_, _, y, hY, hA, _⟩ := hB.2.1 w Y hBw
              have a0 := hA.1.1.1
              have ih := wgA hB β' _ _ y hA (DB_m (DB_1430 hB hA) (by omega))
              rw [← hY, ← hB.cm w Y hBw] at ih
              rw [if_pos (by omega), if_pos (by omega), Nat.add_sub_cancel, zbd_of ih, e73]
          · have e1 : rpA r P (u + 1) (sh b nl) = nl := rpA_nl
            rw [e1, ← est]; rfl
        · have hcs' : ¬ cl (shT b (n, k)).1 < 0 := by rw [shT_neg (by omega)]; exact hc
          have eK : rpA r P (u + 1) (sh b k) = rpA r P (σ.2.1 44 u) (sh b k) := rpA_0 (fun h => by rw [sh_wt] at h; exact (hF5 h).symm)
          have ih := wgB hB hI hb k β' u (σ.2.1 44 u) 1 hF4 (by omega) hwF.2.2.1 (by omega) (by omega) (by omega)
          have ih' : zE tM_weigh_85 (β' + 1) σ [u, b, P, I, 0, 1, σ.2.1 44 u] = _ := ih
          refine ⟨1 + wt (su (rs B) (rpA r P (σ.2.1 44 u) (sh b k))), ?_, ?_⟩
          · rw [zq_weigh, kZ_weigh, if_neg (fun w => hp w.symm), if_pos (by omega), c43, if_pos (by omega), ih']
          · rw [su_nd, st_f (rs B) (x := ((shT b (n, k)).1, rpA r P (u + 1) (sh b k))) hcs', eK]
            simp only [wt]
    obtain ⟨w, k1, k2⟩ := key
    rw [k2]
    exact wg_85 u0 (by omega) ha k1 rest
