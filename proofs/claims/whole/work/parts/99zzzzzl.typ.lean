/-! TERMS keep their kinds -/
section typ
variable {pd : Int → Prop}
theorem ty_su {θ : Vs} (hθ : ∀ v, 0 ≤ v → TyT pd (tt (θ v))) : ∀ {F : T}, TyT pd F → TyT pd (su θ F)
  | .leaf _, _ => trivial
  | .branch n k s, ⟨h1, h2, h3⟩ => by
    have hs := ty_su hθ h3
    show ¬ pd (cl (sbT θ n (su θ k)).1) ∧ (0 ≤ cl (sbT θ n (su θ k)).1 → TyT pd (sbT θ n (su θ k)).2) ∧ TyT pd (su θ s)
    by_cases c : cl n < 0
    · have e : sbT θ n (su θ k) = θ (-1 - cl n) := by unfold sbT; rw [if_pos c]
      rw [e]
      obtain ⟨q1, q2, _⟩ := hθ (-1 - cl n) (by omega)
      exact ⟨q1, q2, hs⟩
    · have e : sbT θ n (su θ k) = (n, su θ k) := by unfold sbT; rw [if_neg c]
      rw [e]
      exact ⟨h1, fun z => ty_su hθ (h2 z), hs⟩
theorem st_tt (θ : Vs) (x : Tm) : su θ (tt x) = tt (st θ x) := rfl
theorem ty_st {θ : Vs} (hθ : ∀ v, 0 ≤ v → TyT pd (tt (θ v))) {x : Tm} (h : TyT pd (tt x)) : TyT pd (tt (st θ x)) := by
  rw [← st_tt]; exact ty_su hθ h
theorem ty_us (hneg : ∀ c, c < 0 → ¬ pd c) {τ : Vs} : ∀ {F : T}, TyT pd (su τ F) → TyT pd F
  | .leaf _, _ => trivial
  | .branch n k s, h => by
    replace h : ¬ pd (cl (sbT τ n (su τ k)).1) ∧ (0 ≤ cl (sbT τ n (su τ k)).1 → TyT pd (sbT τ n (su τ k)).2) ∧ TyT pd (su τ s) := h
    obtain ⟨h1, h2, h3⟩ := h
    have hs := ty_us hneg h3
    by_cases c : cl n < 0
    · exact ⟨hneg _ c, fun z => by omega, hs⟩
    · have e : sbT τ n (su τ k) = (n, su τ k) := by unfold sbT; rw [if_neg c]
      rw [e] at h1 h2
      exact ⟨h1, fun z => ty_us hneg (h2 z), hs⟩
/-- PREDICATES within TERMS become a VARIABLE -/
noncomputable def clnF (pd : Int → Prop) : T → T
  | .leaf _ => nl
  | .branch n k s => @ite _ (pd (cl n)) (Classical.propDecidable _) (nd 1 nl (clnF pd s)) (nd n (clnF pd k) (clnF pd s))
noncomputable def clnT (pd : Int → Prop) (x : Tm) : Tm := @ite _ (pd (cl x.1)) (Classical.propDecidable _) (1, nl) (x.1, clnF pd x.2)
theorem cl_1 : cl 1 = -1 := rfl
theorem clnF_ty (hneg : ∀ c, c < 0 → ¬ pd c) : ∀ F : T, TyT pd (clnF pd F)
  | .leaf _ => trivial
  | .branch n k s => by
    have hk := clnF_ty hneg k
    have hs := clnF_ty hneg s
    unfold clnF
    by_cases c : pd (cl n)
    · rw [if_pos c]; exact ⟨hneg _ (by rw [cl_1]; decide), fun _ => trivial, hs⟩
    · rw [if_neg c]; exact ⟨c, fun _ => hk, hs⟩
theorem clnT_ty (hneg : ∀ c, c < 0 → ¬ pd c) (x : Tm) : TyT pd (tt (clnT pd x)) := by
  unfold clnT
  by_cases c : pd (cl x.1)
  · rw [if_pos c]; exact ⟨hneg _ (by rw [cl_1]; decide), fun _ => trivial, trivial⟩
  · rw [if_neg c]; exact ⟨c, fun _ => clnF_ty hneg _, trivial⟩
theorem clnF_nd (x : Tm) (s : T) : clnF pd (nd x.1 x.2 s) = nd (clnT pd x).1 (clnT pd x).2 (clnF pd s) := by
  show @ite _ (pd (cl x.1)) (Classical.propDecidable _) _ _ = _
  unfold clnT
  by_cases c : pd (cl x.1)
  · rw [if_pos c, if_pos c]
  · rw [if_neg c, if_neg c]
theorem su_cln {θ : Vs} : ∀ {F : T}, TyT pd F → su (fun v => clnT pd (θ v)) F = clnF pd (su θ F)
  | .leaf _, _ => rfl
  | .branch n k s, ⟨h1, h2, h3⟩ => by
    have hs := su_cln (θ := θ) h3
    have e1 : su θ (.branch n k s) = nd (sbT θ n (su θ k)).1 (sbT θ n (su θ k)).2 (su θ s) := rfl
    have e2 : su (fun v => clnT pd (θ v)) (.branch n k s) = nd (sbT (fun v => clnT pd (θ v)) n (su (fun v => clnT pd (θ v)) k)).1 (sbT (fun v => clnT pd (θ v)) n (su (fun v => clnT pd (θ v)) k)).2 (su (fun v => clnT pd (θ v)) s) := rfl
    rw [e1, e2, clnF_nd, hs]
    by_cases c : cl n < 0
    · have e3 : sbT θ n (su θ k) = θ (-1 - cl n) := by unfold sbT; rw [if_pos c]
      have e4 : sbT (fun v => clnT pd (θ v)) n (su (fun v => clnT pd (θ v)) k) = clnT pd (θ (-1 - cl n)) := by unfold sbT; rw [if_pos c]
      rw [e3, e4]
    · have hk := su_cln (θ := θ) (h2 (by omega))
      have e3 : sbT θ n (su θ k) = (n, su θ k) := by unfold sbT; rw [if_neg c]
      have e4 : sbT (fun v => clnT pd (θ v)) n (su (fun v => clnT pd (θ v)) k) = (n, su (fun v => clnT pd (θ v)) k) := by unfold sbT; rw [if_neg c]
      have e5 : clnT pd (n, su θ k) = (n, clnF pd (su θ k)) := by unfold clnT; rw [if_neg h1]
      rw [e3, e4, e5, hk]
/-- of a side: what lies within it -/
def TyK (pd : Int → Prop) (x : Tm) : Prop := 0 ≤ cl x.1 → TyT pd x.2
theorem st_cln {θ : Vs} (hn : np pd θ) (hneg : ∀ c, c < 0 → ¬ pd c) {x : Tm} (h : TyK pd x) : st (fun v => clnT pd (θ v)) x = ((st θ x).1, clnF pd (st θ x).2) := by
  by_cases c : cl x.1 < 0
  · rw [st_v _ c, st_v _ c]
    have : ¬ pd (cl (θ (-1 - cl x.1)).1) := fun z => by
      by_cases c2 : 0 ≤ cl (θ (-1 - cl x.1)).1
      · exact hn _ (by omega) ⟨c2, z⟩
      · exact hneg _ (by omega) z
    show clnT pd (θ (-1 - cl x.1)) = _
    unfold clnT
    rw [if_neg this]
  · rw [st_f _ c, st_f _ c, su_cln (h (by omega))]
/-- the values of a most general unifier hold no PREDICATES -/
theorem mw_ty (hneg : ∀ c, c < 0 → ¬ pd c) {X Y : Tm} {θ : Vs} (hX : TyK pd X) (hY : TyK pd Y) (h : Mgu (Sl pd X Y) θ) : ∀ v, 0 ≤ v → TyT pd (tt (θ v)) := fun v hv => by
  obtain ⟨⟨h1, h2⟩, h3⟩ := h
  have hs : Sl pd X Y (fun v => clnT pd (θ v)) := by
    refine ⟨fun u _ z => (clnT_ty hneg (θ u)).1 z.2, ?_⟩
    rw [st_cln h1 hneg hX, st_cln h1 hneg hY, h2]
  have e := h3 _ hs v hv
  have t := clnT_ty hneg (θ v)
  have e' : clnT pd (θ v) = st (fun v => clnT pd (θ v)) (θ v) := e
  rw [e', ← st_tt] at t
  exact ty_us hneg t
/-- a LITERAL that is being made -/
def TyP (pd : Int → Prop) (a : Lt) : Prop := TyL pd a ∨ (a.2.1 = (0, nl) ∧ a.2.2 = (0, nl))
theorem cl_0 : cl 0 = 0 := rfl
theorem st_0 (θ : Vs) : st θ (0, nl) = (0, nl) := rfl
theorem typ_st {θ : Vs} (hθ : ∀ v, 0 ≤ v → TyT pd (tt (θ v))) {a : Lt} (h : TyP pd a) : TyP pd (a.1, st θ a.2.1, st θ a.2.2) := by
  rcases h with (⟨h1, h2, h3, h4⟩ | ⟨h1, h2⟩) | ⟨h1, h2⟩
  · refine Or.inl (Or.inl ?_)
    have e : st θ a.2.1 = (a.2.1.1, su θ a.2.1.2) := st_f θ (by omega)
    show 0 < cl (st θ a.2.1).1 ∧ pd (cl (st θ a.2.1).1) ∧ TyT pd (st θ a.2.1).2 ∧ st θ a.2.2 = (0, nl)
    rw [e, h4, st_0]
    exact ⟨h1, h2, ty_su hθ h3, rfl⟩
  · exact Or.inl (Or.inr ⟨ty_st hθ h1, ty_st hθ h2⟩)
  · refine Or.inr ⟨?_, ?_⟩
    · show st θ a.2.1 = _; rw [h1, st_0]
    · show st θ a.2.2 = _; rw [h2, st_0]
theorem ty_sh (hneg : ∀ c, c < 0 → ¬ pd c) {b : Int} (hb : 0 ≤ b) : ∀ {F : T}, TyT pd F → TyT pd (sh b F)
  | .leaf _, _ => trivial
  | .branch n k s, ⟨h1, h2, h3⟩ => by
    have hs := ty_sh hneg hb h3
    by_cases c : cl n < 0
    · have e : sh b (.branch n k s) = nd (cu (cl n - b)) (sh b k) (sh b s) := by
        show nd (if cl n < 0 then cu (cl n - b) else n) _ _ = _
        rw [if_pos c]
      rw [e]
      exact ⟨hneg _ (by rw [cl_cu]; omega), fun z => by rw [cl_cu] at z; omega, hs⟩
    · have e : sh b (.branch n k s) = nd n (sh b k) (sh b s) := by
        show nd (if cl n < 0 then cu (cl n - b) else n) _ _ = _
        rw [if_neg c]
      rw [e]
      exact ⟨h1, fun z => ty_sh hneg hb (h2 z), hs⟩
theorem ty_shT (hneg : ∀ c, c < 0 → ¬ pd c) {b : Int} (hb : 0 ≤ b) {x : Tm} (h : TyT pd (tt x)) : TyT pd (tt (shT b x)) := by
  rw [← sh_tt]; exact ty_sh hneg hb h
theorem shT_nf {b : Int} {x : Tm} (h : ¬ cl x.1 < 0) : shT b x = (x.1, sh b x.2) := by unfold shT; rw [if_neg h]
theorem tyl_sh (hneg : ∀ c, c < 0 → ¬ pd c) {a : Lt} (h : TyL pd a) {b : Int} (hb : 0 ≤ b) : TyL pd (a.1, shT b a.2.1, shT b a.2.2) := by
  rcases h with ⟨h1, h2, h3, h4⟩ | ⟨h1, h2⟩
  · refine Or.inl ?_
    show 0 < cl (shT b a.2.1).1 ∧ pd (cl (shT b a.2.1).1) ∧ TyT pd (shT b a.2.1).2 ∧ shT b a.2.2 = (0, nl)
    rw [shT_nf (show ¬ cl a.2.1.1 < 0 by omega), h4]
    exact ⟨h1, h2, ty_sh hneg hb h3, rfl⟩
  · exact Or.inr ⟨ty_shT hneg hb h1, ty_shT hneg hb h2⟩
theorem ty_sb {ar : Int → Nat} {p : Int → Prop} : ∀ {F : T} {o : Nat} {y : Tm}, wf ar p F → TyT pd F → sbF o F = some y → TyT pd (tt y)
  | .leaf _, o, y, _, _, h => by cases h
  | .branch n k s, o, y, ⟨w1, w2, w3, w4⟩, ⟨h1, h2, h3⟩, h => by
    unfold sbF at h
    by_cases c0 : o = 0
    · rw [if_pos c0] at h; cases h; exact ⟨h1, h2, trivial⟩
    rw [if_neg c0] at h
    by_cases c1 : o ≤ wt k
    · rw [if_pos c1] at h
      by_cases c : cl n < 0
      · rw [if_pos c] at w1
        have hk : k = nl := by
          match k, w1 with
          | .leaf _, _ => rfl
          | .branch _ _ s', e => exact absurd e (by simp [len])
        rw [hk] at h; cases h
      · exact ty_sb w3 (h2 (by omega)) h
    · rw [if_neg c1] at h; exact ty_sb w4 h3 h
theorem ty_rp {r : Tm} (hr : TyT pd (tt r)) : ∀ {F : T} {o : Nat}, TyT pd F → TyT pd (rpF r o F)
  | .leaf _, o, _ => trivial
  | .branch n k s, o, ⟨h1, h2, h3⟩ => by
    unfold rpF
    by_cases c0 : o = 0
    · rw [if_pos c0]; exact ⟨hr.1, hr.2.1, h3⟩
    rw [if_neg c0]
    by_cases c1 : o ≤ wt k
    · rw [if_pos c1]; exact ⟨h1, fun z => ty_rp hr (h2 z), h3⟩
    · rw [if_neg c1]; exact ⟨h1, h2, ty_rp hr h3⟩
theorem ty_rpT {r : Tm} (hr : TyT pd (tt r)) {x : Tm} {o : Nat} (h : TyT pd (tt x)) : TyT pd (tt (rpT r o x)) := by
  unfold rpT
  by_cases c : o = 0
  · rw [if_pos c]; exact hr
  · rw [if_neg c]; exact ⟨h.1, fun z => ty_rp hr (h.2.1 z), trivial⟩
/-- P is GREATER than TRUE -/
theorem ord_p {a : Lt} (h1 : 0 < cl a.2.1.1) (h4 : a.2.2 = (0, nl)) : ordL a = 1 := by
  have hg : gTm a.2.1 a.2.2 := by
    rw [h4]
    refine ⟨by omega, fun v _ _ => ?_, ?_⟩
    · have : occ v (nd 0 nl nl) = 0 := rfl
      show occ v (nd 0 nl nl) ≤ _
      omega
    · by_cases c : 0 < wt a.2.1.2
      · exact Or.inl c
      · exact Or.inr ⟨by show wt a.2.1.2 = 0; omega, by decide, Or.inl h1⟩
  unfold ordL
  rw [if_pos hg]
/-- sides -/
theorem TyL.k {a : Lt} (h : TyL pd a) (s : Int) : TyK pd (sdT a s) := by
  unfold sdT
  rcases h with ⟨h1, h2, h3, h4⟩ | ⟨h1, h2⟩
  · by_cases c : s = 0
    · rw [if_pos c]; exact fun _ => h3
    · rw [if_neg c, h4]; exact fun _ => trivial
  · by_cases c : s = 0
    · rw [if_pos c]; exact h1.2.1
    · rw [if_neg c]; exact h2.2.1
/-- what unifies with a TERM that is no PREDICATE is none -/
theorem un_np (hneg : ∀ c, c < 0 → ¬ pd c) {X Y : Tm} {θ : Vs} (h : Sl pd X Y θ) (hX : ¬ pd (cl X.1)) (hθ : ∀ v, 0 ≤ v → ¬ pd (cl (θ v).1)) : ¬ pd (cl Y.1) := fun z => by
  have hY : ¬ cl Y.1 < 0 := fun q => hneg _ q z
  have e := h.2
  rw [st_f θ hY] at e
  by_cases c : cl X.1 < 0
  · rw [st_v θ c] at e
    have := hθ (-1 - cl X.1) (by omega)
    rw [e] at this
    exact this z
  · rw [st_f θ c] at e
    have := congrArg Prod.fst e
    have e1 : X.1 = Y.1 := this
    rw [e1] at hX; exact hX z
theorem un_p (hneg : ∀ c, c < 0 → ¬ pd c) {X Y : Tm} {θ : Vs} (h : Sl pd X Y θ) (hX : pd (cl X.1)) (hθ : ∀ v, 0 ≤ v → ¬ pd (cl (θ v).1)) : Y.1 = X.1 := by
  have cX : ¬ cl X.1 < 0 := fun q => hneg _ q hX
  have e := h.2
  rw [st_f θ cX] at e
  by_cases c : cl Y.1 < 0
  · rw [st_v θ c] at e
    have := hθ (-1 - cl Y.1) (by omega)
    rw [← e] at this
    exact absurd hX this
  · rw [st_f θ c] at e
    exact (congrArg Prod.fst e).symm
end typ
