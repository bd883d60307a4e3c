/-! what is inferred keeps its kinds -/
section typ2
variable {pd : Int → Prop}
theorem oth_typ {C : List Lt} (h : ∀ a ∈ C, TyL pd a) {i j n : Nat} : ∀ a ∈ oth i j n C, TyP pd a := fun a ha => Or.inl (h a (oth_mem ha))
/-- one place of a CLAUSE is replaced -/
theorem rpL_typ (hneg : ∀ c, c < 0 → ¬ pd c) {r : Tm} {j : Nat} {t : Int} {o : Nat} : ∀ {C : List Lt} {n : Nat}, (∀ a ∈ C, TyL pd a) → (∀ (m : Nat) a, C[m]? = some a → n + m = j → TyP pd (a.1, if t = 0 then rpT r o (shT 6 a.2.1) else shT 6 a.2.1, if t = 1 then rpT r o (shT 6 a.2.2) else shT 6 a.2.2)) → ∀ a ∈ rpL r j t o n C, TyP pd a
  | [], n, _, _, a, ha => by cases ha
  | b :: C, n, h, hj, a, ha => by
    rcases List.mem_cons.mp ha with rfl | ha
    · by_cases c : n = j
      · have := hj 0 b rfl (by omega)
        by_cases t0 : t = 0
        · rw [if_pos ⟨c, t0⟩, if_neg (fun z => by omega)]
          rw [if_pos t0, if_neg (by omega)] at this
          exact this
        · rw [if_neg (fun z => t0 z.2)]
          rw [if_neg t0] at this
          by_cases t1 : t = 1
          · rw [if_pos ⟨c, t1⟩]; rw [if_pos t1] at this; exact this
          · rw [if_neg (fun z => t1 z.2)]; rw [if_neg t1] at this; exact this
      · rw [if_neg (fun z => c z.1), if_neg (fun z => c z.1)]
        exact Or.inl (tyl_sh hneg (h b List.mem_cons_self) (by decide))
    · exact rpL_typ hneg (C := C) (n := n + 1) (fun d hd => h d (List.mem_cons_of_mem _ hd)) (fun m d hd e => hj (m + 1) d hd (by omega)) a ha
theorem sb_0 {x : Tm} {o : Nat} {y : Tm} (h : sbF o (tt x) = some y) : (o = 0 ∧ y = x) ∨ (o ≠ 0 ∧ sbF (o - 1) x.2 = some y) := by
  unfold sbF at h
  by_cases c : o = 0
  · rw [if_pos c] at h; cases h; exact Or.inl ⟨c, rfl⟩
  · rw [if_neg c] at h
    by_cases c2 : o ≤ wt x.2
    · rw [if_pos c2] at h; exact Or.inr ⟨c, h⟩
    · rw [if_neg c2] at h; cases h
theorem sup_typ (hneg : ∀ c, c < 0 → ¬ pd c) (h0 : pd 0) {ar : Int → Nat} {p : Int → Prop} {a b : Lt} (ha : TyL pd a) (hb : TyL pd b) {s t : Int} (hs : s = 0 ∨ s = 1) (ht : t = 0 ∨ t = 1) (hu : usL a s) (wb : wf ar p (tt (sdT b t))) {o : Nat} {y : Tm} (hy : sbF o (tt (sdT b t)) = some y) (nv : ¬ cl y.1 < 0) {θ : Vs} (hθ : Mgu (Sl pd (sdT a s) (shT 6 y)) θ) : TyK pd y ∧ TyP pd (b.1, if t = 0 then rpT (sdT a (1 - s)) o (shT 6 b.2.1) else shT 6 b.2.1, if t = 1 then rpT (sdT a (1 - s)) o (shT 6 b.2.2) else shT 6 b.2.2) := by
  -- what lies at o
  have hsub : (o = 0 ∧ y = sdT b t) ∨ (o ≠ 0 ∧ TyT pd (tt y)) := by
    rcases sb_0 hy with ⟨q1, q2⟩ | ⟨q1, q2⟩
    · exact Or.inl ⟨q1, q2⟩
    · refine Or.inr ⟨q1, ?_⟩
      by_cases c : cl (sdT b t).1 < 0
      · have w1 := wb.1
        rw [if_pos c] at w1
        have hk : (sdT b t).2 = nl := by
          have : ∀ k : T, len k = 0 → k = nl := fun k hk => by
            match k, hk with
            | .leaf _, _ => rfl
            | .branch _ _ s', e => exact absurd e (by simp [len])
          exact this _ w1
        rw [hk] at q2; cases q2
      · exact ty_sb wb.2.2.1 (hb.k t (by omega)) q2
  have hyK : TyK pd y := by
    rcases hsub with ⟨_, q⟩ | ⟨_, q⟩
    · rw [q]; exact hb.k t
    · exact q.2.1
  have hsh : shT 6 y = (y.1, sh 6 y.2) := shT_nf nv
  have hYK : TyK pd (shT 6 y) := by
    rw [hsh]; exact fun z => ty_sh hneg (by decide) (hyK z)
  have hty := mw_ty hneg (ha.k s) hYK hθ
  have htop : ∀ v, 0 ≤ v → ¬ pd (cl (θ v).1) := fun v hv => (hty v hv).1
  refine ⟨hyK, ?_⟩
  rcases ha with ⟨a1, a2, a3, a4⟩ | ⟨a1, a2⟩
  · -- P = TRUE
    have s0 : s = 0 := by
      have := ord_p a1 a4
      unfold usL at hu
      omega
    have eX : sdT a s = a.2.1 := by unfold sdT; rw [if_pos s0]
    have eR : sdT a (1 - s) = (0, nl) := by unfold sdT; rw [if_neg (by omega)]; exact a4
    rw [eX] at hθ
    have e1 : (shT 6 y).1 = a.2.1.1 := un_p hneg hθ.1 a2 htop
    rw [hsh] at e1
    have e1 : y.1 = a.2.1.1 := e1
    have py : pd (cl y.1) := by rw [e1]; exact a2
    rcases hsub with ⟨o0, q⟩ | ⟨_, q⟩
    · rcases hb with ⟨b1, b2, b3, b4⟩ | ⟨b1, b2⟩
      · rcases ht with t0 | t1
        · refine Or.inr ⟨?_, ?_⟩
          · show (if t = 0 then rpT (sdT a (1 - s)) o (shT 6 b.2.1) else shT 6 b.2.1) = (0, nl)
            rw [if_pos t0, eR, o0]; rfl
          · show (if t = 1 then rpT (sdT a (1 - s)) o (shT 6 b.2.2) else shT 6 b.2.2) = (0, nl)
            rw [if_neg (by omega), b4]; rfl
        · exfalso
          have : y = (0, nl) := by rw [q]; unfold sdT; rw [if_neg (by omega)]; exact b4
          rw [this] at e1
          have e2 : cl 0 = cl a.2.1.1 := congrArg cl e1
          rw [cl_0] at e2
          omega
      · exfalso
        have : TyT pd (tt (sdT b t)) := by
          unfold sdT
          by_cases c : t = 0
          · rw [if_pos c]; exact b1
          · rw [if_neg c]; exact b2
        rw [← q] at this
        exact this.1 py
    · exact absurd py q.1
  · -- an EQUATION
    have tX : TyT pd (tt (sdT a s)) := by
      unfold sdT
      by_cases c : s = 0
      · rw [if_pos c]; exact a1
      · rw [if_neg c]; exact a2
    have tR : TyT pd (tt (sdT a (1 - s))) := by
      unfold sdT
      by_cases c : 1 - s = 0
      · rw [if_pos c]; exact a1
      · rw [if_neg c]; exact a2
    have ny : ¬ pd (cl y.1) := by
      have := un_np hneg hθ.1 tX.1 htop
      rw [hsh] at this; exact this
    rcases hb with ⟨b1, b2, b3, b4⟩ | ⟨b1, b2⟩
    · -- within P
      rcases ht with t0 | t1
      · have o0 : o ≠ 0 := by
          rcases hsub with ⟨_, q⟩ | ⟨q, _⟩
          · exfalso
            have : y = b.2.1 := by rw [q]; unfold sdT; rw [if_pos t0]
            rw [this] at ny; exact ny b2
          · exact q
        refine Or.inl (Or.inl ?_)
        have e : rpT (sdT a (1 - s)) o (shT 6 b.2.1) = (b.2.1.1, rpF (sdT a (1 - s)) (o - 1) (sh 6 b.2.1.2)) := by
          rw [shT_nf (show ¬ cl b.2.1.1 < 0 by omega)]
          unfold rpT; rw [if_neg o0]
        show 0 < cl (if t = 0 then rpT (sdT a (1 - s)) o (shT 6 b.2.1) else shT 6 b.2.1).1 ∧ pd (cl (if t = 0 then rpT (sdT a (1 - s)) o (shT 6 b.2.1) else shT 6 b.2.1).1) ∧ TyT pd (if t = 0 then rpT (sdT a (1 - s)) o (shT 6 b.2.1) else shT 6 b.2.1).2 ∧ (if t = 1 then rpT (sdT a (1 - s)) o (shT 6 b.2.2) else shT 6 b.2.2) = (0, nl)
        rw [if_pos t0, if_neg (by omega), e, b4]
        exact ⟨b1, b2, ty_rp tR (ty_sh hneg (by decide) b3), rfl⟩
      · exfalso
        have eS : sdT b t = (0, nl) := by unfold sdT; rw [if_neg (by omega)]; exact b4
        rw [eS] at hy
        rcases sb_0 hy with ⟨_, q⟩ | ⟨_, q⟩
        · rw [q] at ny; exact ny h0
        · cases q
    · refine Or.inl (Or.inr ⟨?_, ?_⟩)
      · show TyT pd (tt (if t = 0 then rpT (sdT a (1 - s)) o (shT 6 b.2.1) else shT 6 b.2.1))
        by_cases c : t = 0
        · rw [if_pos c]; exact ty_rpT tR (ty_shT hneg (by decide) b1)
        · rw [if_neg c]; exact ty_shT hneg (by decide) b1
      · show TyT pd (tt (if t = 1 then rpT (sdT a (1 - s)) o (shT 6 b.2.2) else shT 6 b.2.2))
        by_cases c : t = 1
        · rw [if_pos c]; exact ty_rpT tR (ty_shT hneg (by decide) b2)
        · rw [if_neg c]; exact ty_shT hneg (by decide) b2
theorem fac_typ (hneg : ∀ c, c < 0 → ¬ pd c) (h0 : pd 0) {a b : Lt} (ha : TyL pd a) (hb : TyL pd b) {s t : Int} (hs : s = 0 ∨ s = 1) (ht : t = 0 ∨ t = 1) (hu : usL a s) {θ : Vs} (hθ : Mgu (Sl pd (sdT a s) (sdT b t)) θ) : TyP pd (0, sdT a (1 - s), sdT b (1 - t)) ∧ TyP pd (1, sdT a s, sdT b (1 - t)) := by
  have hty := mw_ty hneg (ha.k s) (hb.k t) hθ
  have htop : ∀ v, 0 ≤ v → ¬ pd (cl (θ v).1) := fun v hv => (hty v hv).1
  rcases ha with ⟨a1, a2, a3, a4⟩ | ⟨a1, a2⟩
  · have s0 : s = 0 := by
      have := ord_p a1 a4
      unfold usL at hu
      omega
    have eX : sdT a s = a.2.1 := by unfold sdT; rw [if_pos s0]
    have eR : sdT a (1 - s) = (0, nl) := by unfold sdT; rw [if_neg (by omega)]; exact a4
    rw [eX] at hθ
    have e1 : (sdT b t).1 = a.2.1.1 := un_p hneg hθ.1 a2 htop
    have pY : pd (cl (sdT b t).1) := by rw [e1]; exact a2
    have eB : sdT b (1 - t) = (0, nl) := by
      rcases hb with ⟨b1, b2, b3, b4⟩ | ⟨b1, b2⟩
      · rcases ht with t0 | t1
        · unfold sdT; rw [if_neg (by omega)]; exact b4
        · exfalso
          have : sdT b t = (0, nl) := by unfold sdT; rw [if_neg (by omega)]; exact b4
          rw [this] at e1
          have e2 : cl 0 = cl a.2.1.1 := congrArg cl e1
          rw [cl_0] at e2
          omega
      · exfalso
        have : TyT pd (tt (sdT b t)) := by
          unfold sdT
          by_cases c : t = 0
          · rw [if_pos c]; exact b1
          · rw [if_neg c]; exact b2
        exact this.1 pY
    rw [eR, eB, eX]
    exact ⟨Or.inr ⟨rfl, rfl⟩, Or.inl (Or.inl ⟨a1, a2, a3, rfl⟩)⟩
  · have tX : ∀ q : Int, TyT pd (tt (sdT a q)) := fun q => by
      unfold sdT
      by_cases c : q = 0
      · rw [if_pos c]; exact a1
      · rw [if_neg c]; exact a2
    have ny := un_np hneg hθ.1 (tX s).1 htop
    have tB : ∀ q : Int, TyT pd (tt (sdT b q)) := fun q => by
      rcases hb with ⟨b1, b2, b3, b4⟩ | ⟨b1, b2⟩
      · exfalso
        rcases ht with t0 | t1
        · have : sdT b t = b.2.1 := by unfold sdT; rw [if_pos t0]
          rw [this] at ny; exact ny b2
        · have : sdT b t = (0, nl) := by unfold sdT; rw [if_neg (by omega)]; exact b4
          rw [this] at ny; exact ny h0
      · unfold sdT
        by_cases c : q = 0
        · rw [if_pos c]; exact b1
        · rw [if_neg c]; exact b2
    exact ⟨Or.inl (Or.inr ⟨tX _, tB _⟩), Or.inl (Or.inr ⟨tX _, tB _⟩)⟩
/-- numbered anew -/
theorem ty_ren (hneg : ∀ c, c < 0 → ¬ pd c) : ∀ {F : T} {N : List Int}, TyT pd F → TyT pd (ren N F)
  | .leaf _, N, _ => trivial
  | .branch n k s, N, ⟨h1, h2, h3⟩ => by
    unfold ren
    by_cases c : cl n < 0
    · rw [if_pos c]
      exact ⟨hneg _ (by rw [cl_cu]; omega), fun z => by rw [cl_cu] at z; omega, ty_ren hneg h3⟩
    · rw [if_neg c]
      exact ⟨h1, fun z => ty_ren hneg (h2 z), ty_ren hneg h3⟩
theorem ty_renT (hneg : ∀ c, c < 0 → ¬ pd c) {x : Tm} {N : List Int} (h : TyT pd (tt x)) : TyT pd (tt (renT N x)) := by
  unfold renT
  by_cases c : cl x.1 < 0
  · rw [if_pos c, if_pos c]
    exact ⟨hneg _ (by rw [cl_cu]; omega), fun z => by rw [cl_cu] at z; omega, trivial⟩
  · rw [if_neg c, if_neg c]
    exact ⟨h.1, fun z => ty_ren hneg (h.2.1 z), trivial⟩
theorem renT_0 (N : List Int) : renT N (0, nl) = (0, nl) := rfl
theorem rnL_mem : ∀ {E : List Lt} {N : List Int} {a : Lt}, a ∈ rnL N E → ∃ e ∈ E, ∃ N1 N2, a = (e.1, renT N1 e.2.1, renT N2 e.2.2)
  | [], N, a, h => by cases h
  | e :: E, N, a, h => by
    rcases List.mem_cons.mp h with rfl | h
    · exact ⟨e, List.mem_cons_self, _, _, rfl⟩
    · obtain ⟨f, f1, f2⟩ := rnL_mem h
      exact ⟨f, List.mem_cons_of_mem _ f1, f2⟩
theorem rnL_ex : ∀ {E : List Lt} {N : List Int} {e : Lt}, e ∈ E → ∃ N1 N2, (e.1, renT N1 e.2.1, renT N2 e.2.2) ∈ rnL N E
  | [], N, e, h => by cases h
  | f :: E, N, e, h => by
    rcases List.mem_cons.mp h with rfl | h
    · exact ⟨_, _, List.mem_cons_self⟩
    · obtain ⟨N1, N2, q⟩ := rnL_ex (N := nt (nt N (tt f.2.1)) (tt f.2.2)) h
      exact ⟨N1, N2, List.mem_cons_of_mem _ q⟩
theorem ddL_ne : ∀ {R K : List Lt} {f : Lt}, f ∈ ddL K R → f ∈ K ∨ (f ∈ R ∧ ¬ (f.1 = 0 ∧ f.2.1 = f.2.2)) := by
  intro R
  induction R with
  | nil => intro K f h; exact Or.inl h
  | cons e R ih =>
    intro K f h
    simp only [ddL] at h
    by_cases w : ((e.1 = 0 ∧ e.2.1 = e.2.2) ∨ ∃ f ∈ K, f.1 = e.1 ∧ alikeL f e)
    · rw [if_pos w] at h
      rcases ih h with q | q
      · exact Or.inl q
      · exact Or.inr ⟨by simp [q.1], q.2⟩
    · rw [if_neg w] at h
      rcases ih h with q | q
      · rcases List.mem_append.mp q with z | z
        · exact Or.inl z
        · have : f = e := by simpa using z
          subst this
          exact Or.inr ⟨List.mem_cons_self, fun q => w (Or.inl q)⟩
      · exact Or.inr ⟨by simp [q.1], q.2⟩
/-- what is kept is of its kind -/
theorem kept_typ (hneg : ∀ c, c < 0 → ¬ pd c) {C : List Lt} (h : ∀ a ∈ C, TyP pd a) (ht : ¬ tautL (rnL [] (ddL [] C))) : ∀ a ∈ rnL [] (ddL [] C), TyL pd a := fun a ha => by
  obtain ⟨e, he, N1, N2, rfl⟩ := rnL_mem ha
  rcases ddL_ne he with q | ⟨q, nq⟩
  · cases q
  rcases h e q with (⟨h1, h2, h3, h4⟩ | ⟨h1, h2⟩) | ⟨h1, h2⟩
  · refine Or.inl ?_
    have e1 : renT N1 e.2.1 = (e.2.1.1, ren N1 e.2.1.2) := by unfold renT; rw [if_neg (by omega), if_neg (by omega)]
    show 0 < cl (renT N1 e.2.1).1 ∧ pd (cl (renT N1 e.2.1).1) ∧ TyT pd (renT N1 e.2.1).2 ∧ renT N2 e.2.2 = (0, nl)
    rw [e1, h4]
    exact ⟨h1, h2, ty_ren hneg h3, rfl⟩
  · exact Or.inr ⟨ty_renT hneg h1, ty_renT hneg h2⟩
  · exfalso
    by_cases c : e.1 = 0
    · exact nq ⟨c, by rw [h1, h2]⟩
    · obtain ⟨M1, M2, hm⟩ := rnL_ex (N := []) he
      refine ht ⟨_, hm, c, Or.inl ?_⟩
      show renT M1 e.2.1 = renT M2 e.2.2
      rw [h1, h2]; rfl
theorem PrA.add {Cs : List CL} (h : PrA Cs) {c : CL} (hc : c.2.2.1 < (Cs.length : Int) ∧ c.2.2.2.1 < (Cs.length : Int) ∧ ∀ u ∈ cus c, 0 ≤ u ∧ u < (Cs.length : Int)) : PrA (Cs ++ [c]) := fun k d hd => by
  by_cases q : k < Cs.length
  · rw [List.getElem?_append_left q] at hd; exact h k d hd
  · have hk := (List.getElem?_eq_some_iff.mp hd).1
    rw [List.length_append, List.length_singleton] at hk
    have : k = Cs.length := by omega
    subst this
    rw [List.getElem?_append_right (Nat.le_refl _), Nat.sub_self] at hd
    cases hd
    exact hc
theorem TyA.add {Cs : List CL} (h : TyA pd Cs) {c : CL} (hc : ∀ a ∈ c.1, TyL pd a) : TyA pd (Cs ++ [c]) := fun d hd => by
  rcases List.mem_append.mp hd with hd | hd
  · exact h d hd
  · rw [List.mem_singleton.mp hd]; exact hc
theorem keep_iv (hneg : ∀ c, c < 0 → ¬ pd c) {org p t : Int} {C : List Lt} {A : PA} (h : IvA pd A.1) (hC : ∀ a ∈ C, TyP pd a) (hp : p < (A.1.length : Int)) (ht : t < (A.1.length : Int)) : IvA pd (keepA org p t C A).1 := by
  unfold keepA
  by_cases c1 : inB C
  · rw [if_pos c1]
    by_cases c2 : tautL (rnL [] (ddL [] C))
    · rw [if_pos c2]; exact h
    · rw [if_neg c2]
      by_cases c3 : A.1.length = 2000
      · rw [if_pos c3]; exact h
      · rw [if_neg c3]
        exact ⟨h.1.add (kept_typ hneg hC c2), h.2.add ⟨hp, ht, fun u hu => by cases hu⟩⟩
  · rw [if_neg c1]; exact h
theorem inf_iv (hneg : ∀ c, c < 0 → ¬ pd c) {ar : Int → Nat} {m9 : Int} {org p t : Int} {X Y : Tm} {R : List Lt} {A : PA} (h : IvA pd A.1) (hR : ∀ θ, Mgu (Sl pd X Y) θ → TyK pd X ∧ TyK pd Y ∧ ∀ a ∈ R, TyP pd a) (hp : p < (A.1.length : Int)) (ht : t < (A.1.length : Int)) : IvA pd (infA ar pd m9 org p t X Y R A).1 := by
  unfold infA
  by_cases c : ∃ θ, MW ar pd m9 X Y θ
  · rw [dif_pos c]
    have hθ := (Classical.choose_spec c).1
    obtain ⟨k1, k2, k3⟩ := hR _ hθ
    refine keep_iv hneg h (fun a ha => ?_) hp ht
    obtain ⟨b, hb, rfl⟩ := List.mem_map.mp ha
    exact typ_st (mw_ty hneg k1 k2 hθ) (k3 b hb)
  · rw [dif_neg c]; exact h
end typ2
