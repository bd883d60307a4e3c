/-! all INFERENCES keep kinds and places -/
section typ3
variable {pd : Int → Prop} {ar : Int → Nat} {m9 : Int}
/-- more than X, and as it should be -/
def Jv (pd : Int → Prop) (X : List CL) (A : PA) : Prop := IvA pd A.1 ∧ ∃ Z, A.1 = X ++ Z
theorem Jv.l {X : List CL} {A : PA} (h : Jv pd X A) : X.length ≤ A.1.length := by
  obtain ⟨_, Z, hZ⟩ := h
  rw [hZ, List.length_append]; omega
theorem Jv.e {X : List CL} {A B : PA} (h : Jv pd X A) (hB : IvA pd B.1) (hZ : ∃ Z, B.1 = A.1 ++ Z) : Jv pd X B := by
  obtain ⟨_, Z, hZ1⟩ := h
  obtain ⟨Y, hY⟩ := hZ
  exact ⟨hB, Z ++ Y, by rw [hY, hZ1, List.append_assoc]⟩
theorem wh_iv {X : List CL} {f : Nat → PA → PA} {N : Nat} (hf : ∀ o A, o < N → Jv pd X A → Jv pd X (f o A)) : ∀ (m o : Nat) (A : PA), o + m ≤ N → Jv pd X A → Jv pd X (wh f m o A)
  | 0, o, A, _, h => h
  | m + 1, o, A, hm, h => by
    unfold wh
    split
    · exact wh_iv hf m (o + 1) (f o A) (by omega) (hf o A (by omega) h)
    · exact h
theorem fo_iv {X : List CL} {f : Nat → PA → PA} {N : Nat} (hf : ∀ o A, o < N → Jv pd X A → Jv pd X (f o A)) : ∀ (m o : Nat) (A : PA), o + m ≤ N → Jv pd X A → Jv pd X (fo f m o A)
  | 0, o, A, _, h => h
  | m + 1, o, A, hm, h => by
    unfold fo
    exact fo_iv hf m (o + 1) (f o A) (by omega) (hf o A (by omega) h)
theorem h01 (n : Nat) : ((n % 2 : Nat) : Int) = 0 ∨ ((n % 2 : Nat) : Int) = 1 := by
  have := Nat.mod_lt n (show 0 < 2 by decide)
  omega
theorem spS_iv (hneg : ∀ c, c < 0 → ¬ pd c) (h0 : pd 0) {X : List CL} {k1 k2 : Nat} {C1 C2 : List Lt} (t1 : ∀ a ∈ C1, TyL pd a) (t2 : ∀ a ∈ C2, TyL pd a) (w2 : WL ar (lb m9) C2) (l1 : k1 < X.length) (l2 : k2 < X.length) {i j : Nat} {a b : Lt} (ha : C1[i]? = some a) (hb : C2[j]? = some b) {s t : Int} (hs : s = 0 ∨ s = 1) (ht : t = 0 ∨ t = 1) (hu : usL a s) {o : Nat} {A : PA} (h : Jv pd X A) : Jv pd X (spS ar pd m9 k1 C1 i a s k2 C2 j b t o A) := by
  refine h.e ?_ spS_ext
  have hl := h.l
  unfold spS
  split
  · rename_i y hy
    split
    · exact h.1
    · rename_i nv
      refine inf_iv hneg h.1 (fun θ hθ => ?_) (by omega) (by omega)
      have wb := w2 b (List.mem_of_getElem? hb)
      have wbs : wf ar (lb m9) (tt (sdT b t)) := by
        unfold sdT
        by_cases c : t = 0
        · rw [if_pos c]; exact wb.2.1
        · rw [if_neg c]; exact wb.2.2
      have tb := t2 b (List.mem_of_getElem? hb)
      have ta := t1 a (List.mem_of_getElem? ha)
      obtain ⟨q1, q2⟩ := sup_typ hneg h0 ta tb hs ht hu wbs hy nv hθ
      refine ⟨ta.k s, ?_, fun d hd => ?_⟩
      · rw [shT_nf nv]; exact fun z => ty_sh hneg (by decide) (q1 z)
      · rcases List.mem_append.mp hd with hd | hd
        · exact oth_typ t1 d hd
        · refine rpL_typ hneg t2 (fun m e he hm => ?_) d hd
          rw [Nat.zero_add] at hm
          subst hm
          rw [hb] at he
          cases he
          exact q2
  · exact h.1
theorem spA_iv (hneg : ∀ c, c < 0 → ¬ pd c) (h0 : pd 0) {X : List CL} {k1 k2 : Nat} {C1 C2 : List Lt} (t1 : ∀ a ∈ C1, TyL pd a) (t2 : ∀ a ∈ C2, TyL pd a) (w2 : WL ar (lb m9) C2) (l1 : k1 < X.length) (l2 : k2 < X.length) {A : PA} (h : Jv pd X A) : Jv pd X (supA ar pd m9 k1 C1 k2 C2 A) := by
  unfold supA
  refine fo_iv (N := 2 * C1.length) (fun n A _ hA => ?_) _ 0 A (by omega) h
  unfold spA
  split
  · rename_i a ha
    split
    · rename_i hc
      refine fo_iv (N := 2 * C2.length) (fun m A _ hA => ?_) _ 0 A (by omega) hA
      unfold spB
      split
      · rename_i b hb
        split
        · refine wh_iv (N := tw (sdT b ((m % 2 : Nat) : Int))) (fun o A _ hA => ?_) _ 0 A (by omega) hA
          exact spS_iv hneg h0 t1 t2 w2 l1 l2 ha hb (h01 n) (h01 m) hc.2.2 hA
        · exact hA
      · exact hA
    · exact hA
  · exact hA
theorem resA_iv (hneg : ∀ c, c < 0 → ¬ pd c) {X : List CL} {k : Nat} {C : List Lt} (t1 : ∀ a ∈ C, TyL pd a) (l1 : k < X.length) {i : Nat} {A : PA} (h : Jv pd X A) : Jv pd X (resA ar pd m9 k C i A) := by
  refine h.e ?_ resA_ext
  have hl := h.l
  unfold resA
  split
  · rename_i a ha
    split
    · have ta := t1 a (List.mem_of_getElem? ha)
      exact inf_iv hneg h.1 (fun θ _ => ⟨ta.k 0, ta.k 1, oth_typ t1⟩) (by omega) (by omega)
    · exact h.1
  · exact h.1
theorem facA_iv (hneg : ∀ c, c < 0 → ¬ pd c) (h0 : pd 0) {X : List CL} {k : Nat} {C : List Lt} (t1 : ∀ a ∈ C, TyL pd a) (l1 : k < X.length) {A : PA} (h : Jv pd X A) : Jv pd X (facA ar pd m9 k C A) := by
  unfold facA
  refine fo_iv (N := C.length) (fun i A _ hA => ?_) _ 0 A (by omega) h
  unfold fcA
  split
  · rename_i a ha
    split
    · refine fo_iv (N := C.length) (fun j A _ hA => ?_) _ 0 A (by omega) hA
      unfold fcB
      split
      · exact hA
      · split
        · rename_i b hb
          refine wh_iv (N := 4) (fun n A hn hA => ?_) _ 0 A (by omega) hA
          refine hA.e ?_ (ftS_ext n A)
          have hl := hA.l
          unfold ftS
          split
          · rename_i hu
            have ta := t1 a (List.mem_of_getElem? ha)
            have tb := t1 b (List.mem_of_getElem? hb)
            refine inf_iv hneg hA.1 (fun θ hθ => ⟨ta.k _, tb.k _, fun d hd => ?_⟩) (by omega) (by omega)
            have hs : ((n / 2 : Nat) : Int) = 0 ∨ ((n / 2 : Nat) : Int) = 1 := by omega
            obtain ⟨q1, q2⟩ := fac_typ hneg h0 ta tb hs (h01 n) hu hθ
            rcases List.mem_append.mp hd with hd | hd
            · exact oth_typ t1 d hd
            · rcases List.mem_cons.mp hd with rfl | hd
              · exact q1
              · rw [List.mem_singleton.mp hd]; exact q2
          · exact hA.1
        · exact hA
    · exact hA
  · exact hA
theorem ifA_iv (hneg : ∀ c, c < 0 → ¬ pd c) (h0 : pd 0) {g : Nat} {c : CL} {A : PA} (hW : ∀ d ∈ A.1, WL ar (lb m9) d.1) (hg : A.1[g]? = some c) (h : IvA pd A.1) : IvA pd (ifA ar pd m9 g c.1 A).1 := by
  have hgl := (List.getElem?_eq_some_iff.mp hg).1
  have hgm := List.mem_of_getElem? hg
  have J0 : Jv pd A.1 A := ⟨h, [], by simp⟩
  have J1 : Jv pd A.1 (wh (ifS ar pd m9 g c.1) A.1.length 0 A) := by
    refine wh_iv (N := A.1.length) (fun k B hk hB => ?_) _ 0 A (by omega) J0
    unfold ifS
    split
    · rename_i d hd
      have hdA : A.1[k]? = some d := by
        obtain ⟨_, Z, hZ⟩ := hB
        rw [hZ, List.getElem?_append_left hk] at hd
        exact hd
      have hdm := List.mem_of_getElem? hdA
      split
      · split
        · exact spA_iv hneg h0 (h.1 d hdm) (h.1 c hgm) (hW c hgm) hk hgl hB
        · exact spA_iv hneg h0 (h.1 c hgm) (h.1 d hdm) (hW d hdm) hgl hk (spA_iv hneg h0 (h.1 d hdm) (h.1 c hgm) (hW c hgm) hk hgl hB)
      · exact hB
    · exact hB
  unfold ifA
  split
  · exact (facA_iv hneg h0 (h.1 c hgm) hgl J1).1
  · exact (resA_iv hneg (h.1 c hgm) hgl J1).1
/-- states change nothing of it -/
theorem stA_c {X : List CL} {k : Nat} {x : Int} {i : Nat} {d : CL} (h : (stA X k x)[i]? = some d) : ∃ c, X[i]? = some c ∧ d.1 = c.1 ∧ d.2.2.1 = c.2.2.1 ∧ d.2.2.2.1 = c.2.2.2.1 ∧ cus d = cus c := by
  by_cases e : i = k
  · subst e
    have hl := (List.getElem?_eq_some_iff.mp h).1
    rw [stA_len] at hl
    obtain ⟨c, hc⟩ : ∃ c, X[i]? = some c := ⟨_, List.getElem?_eq_getElem hl⟩
    rw [stA_s hc] at h
    cases h
    exact ⟨c, hc, rfl, rfl, rfl, rfl⟩
  · rw [stA_o e] at h
    exact ⟨d, h, rfl, rfl, rfl, rfl⟩
theorem iv_st {X : List CL} {k : Nat} {x : Int} (h : IvA pd X) : IvA pd (stA X k x) := by
  refine ⟨fun d hd a ha => ?_, fun i d hd => ?_⟩
  · obtain ⟨i, hi⟩ := List.getElem?_of_mem hd
    obtain ⟨c, c1, c2, _⟩ := stA_c hi
    rw [c2] at ha
    exact h.1 c (List.mem_of_getElem? c1) a ha
  · obtain ⟨c, c1, c2, c3, c4, c5⟩ := stA_c hd
    rw [c3, c4, c5]
    exact h.2 i c c1
theorem caS_iv {G : List Lt} : ∀ (m n : Nat) (A : PA), IvA pd A.1 → IvA pd (fo (caS pd G) m n A).1
  | 0, n, A, h => h
  | m + 1, n, A, h => by
    unfold fo
    refine caS_iv m (n + 1) _ ?_
    unfold caS
    split
    · exact h
    · split
      · split
        · exact iv_st h
        · split
          · exact iv_st h
          · exact h
      · exact h
/-- values of a match -/
def VQ (pd : Int → Prop) (ar : Int → Nat) (m9 : Int) (M : Mv) : Prop := ∀ v x, M v = some x → TyT pd (tt x) ∧ wf ar (lb m9) (tt x)
theorem mtF_q : ∀ {F G : T} {M M1 : Mv}, VQ pd ar m9 M → TyT pd G → wf ar (lb m9) G → mtF pd M F G = some M1 → VQ pd ar m9 M1
  | .leaf _, G, M, M1, hM, _, _, h => by
    unfold mtF at h; cases h; exact hM
  | .branch n k s, .leaf _, M, M1, hM, _, _, h => by
    unfold mtF at h; cases h
  | .branch n k s, .branch n2 k2 s2, M, M1, hM, ⟨g1, g2, g3⟩, ⟨w1, w2, w3, w4⟩, h => by
    unfold mtF at h
    cases hm : mt1 pd M n n2 k2 (mtF pd M k k2) with
    | none => rw [hm] at h; cases h
    | some M2 =>
      rw [hm] at h
      have h2 : VQ pd ar m9 M2 := by
        unfold mt1 at hm
        by_cases c : cl n < 0
        · rw [if_pos c] at hm
          cases hv : M (-1 - cl n) with
          | some x =>
            rw [hv] at hm
            dsimp only at hm
            by_cases e : x = (n2, k2)
            · rw [if_pos e] at hm; cases hm; exact hM
            · rw [if_neg e] at hm; cases hm
          | none =>
            rw [hv] at hm
            dsimp only at hm
            by_cases e : 0 ≤ cl n2 ∧ pd (cl n2)
            · rw [if_pos e] at hm; cases hm
            · rw [if_neg e] at hm
              cases hm
              intro v x hx
              unfold mup at hx
              by_cases ev : v = -1 - cl n
              · rw [if_pos ev] at hx
                cases hx
                exact ⟨⟨g1, g2, trivial⟩, w1, w2, w3, trivial⟩
              · rw [if_neg ev] at hx; exact hM v x hx
        · rw [if_neg c] at hm
          by_cases e : n = n2
          · rw [if_pos e] at hm
            subst e
            exact mtF_q hM (g2 (by omega)) w3 hm
          · rw [if_neg e] at hm; cases hm
      exact mtF_q h2 g3 w4 h
/-- a rule's left side, matched -/
theorem mtT_q (hneg : ∀ c, c < 0 → ¬ pd c) {l y : Tm} {M : Mv} (hy : TyK pd y) (wy : wf ar (lb m9) (tt y)) (nv : ¬ cl y.1 < 0) (h : mtF pd (fun _ => none) (tt l) (tt y) = some M) : VQ pd ar m9 M ∧ (¬ pd (cl l.1) → ¬ pd (cl y.1)) ∧ (¬ cl l.1 < 0 → y.1 = l.1) := by
  have v0 : VQ pd ar m9 (fun _ => none) := fun v x hx => by cases hx
  unfold mtF at h
  cases hm : mt1 pd (fun _ => none) l.1 y.1 y.2 (mtF pd (fun _ => none) l.2 y.2) with
  | none => rw [hm] at h; cases h
  | some M2 =>
    rw [hm] at h
    have hM : M2 = M := by
      have : mtF pd M2 nl nl = some M := h
      unfold mtF at this
      cases this; rfl
    subst hM
    unfold mt1 at hm
    by_cases c : cl l.1 < 0
    · rw [if_pos c] at hm
      dsimp only at hm
      by_cases e : 0 ≤ cl y.1 ∧ pd (cl y.1)
      · rw [if_pos e] at hm; cases hm
      · rw [if_neg e] at hm
        cases hm
        have ny : ¬ pd (cl y.1) := fun z => e ⟨by omega, z⟩
        refine ⟨fun v x hx => ?_, fun _ => ny, fun z => absurd c z⟩
        unfold mup at hx
        by_cases ev : v = -1 - cl l.1
        · rw [if_pos ev] at hx
          cases hx
          exact ⟨⟨ny, hy, trivial⟩, wy⟩
        · rw [if_neg ev] at hx; cases hx
    · rw [if_neg c] at hm
      by_cases e : l.1 = y.1
      · rw [if_pos e] at hm
        exact ⟨mtF_q v0 (hy (by omega)) wy.2.2.1 hm, fun z => by rw [← e]; exact z, fun _ => e.symm⟩
      · rw [if_neg e] at hm; cases hm
theorem thM_ty (hneg : ∀ c, c < 0 → ¬ pd c) {M : Mv} (h : VQ pd ar m9 M) : ∀ v, 0 ≤ v → TyT pd (tt (thM M v)) := fun v hv => by
  unfold thM
  cases hM : M v with
  | some x => exact (h v x hM).1
  | none => exact ⟨hneg _ (by rw [cl_vt]; omega), fun _ => trivial, trivial⟩
/-- what a rule puts in -/
theorem rwI_typ (hneg : ∀ c, c < 0 → ¬ pd c) (har : ar 0 = 0) {b : Lt} (hb : TyL pd b) (wl : wf ar (lb m9) (tt b.2.1)) (wr : wf ar (lb m9) (tt b.2.2)) {y z : Tm} (hy : TyK pd y) (wy : wf ar (lb m9) (tt y)) (nv : ¬ cl y.1 < 0) (h : rwI pd b.2.1 b.2.2 y = some z ∨ rwI pd b.2.2 b.2.1 y = some z) : wf ar (lb m9) (tt z) ∧ ((TyT pd (tt z) ∧ ¬ pd (cl y.1)) ∨ (z = (0, nl) ∧ pd (cl y.1) ∧ 0 < cl y.1)) := by
  have key : ∀ {l r : Tm}, rwI pd l r y = some z → ∃ M, mtF pd (fun _ => none) (tt l) (tt y) = some M ∧ z = st (thM M) r ∧ gTm y z ∧ ∀ c ∈ fl (tt r), c < 0 → M (-1 - c) ≠ none := fun {l r} h => by
    unfold rwI at h
    cases hm : mtF pd (fun _ => none) (tt l) (tt y) with
    | none => rw [hm] at h; cases h
    | some M =>
      rw [hm] at h
      dsimp only at h
      by_cases c : (∀ c ∈ fl (tt r), c < 0 → M (-1 - c) ≠ none) ∧ gTm y (st (thM M) r)
      · rw [if_pos c] at h
        cases h
        exact ⟨M, rfl, rfl, c.2, c.1⟩
      · rw [if_neg c] at h; cases h
  have wz : ∀ {l r : Tm} {M : Mv}, wf ar (lb m9) (tt r) → VQ pd ar m9 M → (∀ c ∈ fl (tt r), c < 0 → M (-1 - c) ≠ none) → wf ar (lb m9) (tt (st (thM M) r)) := fun {l r M} w hM hc => by
    rw [← st_tt]
    refine su_wf (fun _ _ h => h) w (fun v hv => ?_)
    have h0v := vi_nn hv
    have := hc _ (vi_mem hv) (by omega)
    rw [show -1 - (-1 - v) = v by omega] at this
    unfold thM
    cases hx : M v with
    | none => exact absurd hx this
    | some x => exact (hM v x hx).2
  rcases h with h | h
  · obtain ⟨M, m1, m2, m3, m4⟩ := key h
    obtain ⟨q1, q2, q3⟩ := mtT_q hneg hy wy nv m1
    have w := wz (l := b.2.1) wr q1 m4
    rw [← m2] at w
    refine ⟨w, ?_⟩
    rcases hb with ⟨b1, b2, b3, b4⟩ | ⟨b1, b2⟩
    · refine Or.inr ⟨by rw [m2, b4]; rfl, ?_, ?_⟩
      · rw [q3 (by omega)]; exact b2
      · rw [q3 (by omega)]; exact b1
    · exact Or.inl ⟨by rw [m2]; exact ty_st (thM_ty hneg q1) b2, q2 b1.1⟩
  · obtain ⟨M, m1, m2, m3, m4⟩ := key h
    obtain ⟨q1, q2, q3⟩ := mtT_q hneg hy wy nv m1
    have w := wz (l := b.2.2) wl q1 m4
    rw [← m2] at w
    refine ⟨w, ?_⟩
    rcases hb with ⟨b1, b2, b3, b4⟩ | ⟨b1, b2⟩
    · exfalso
      have e1 : y.1 = 0 := by
        have := q3 (by rw [b4]; decide)
        rw [b4] at this; exact this
      have ez : z = (b.2.1.1, su (thM M) b.2.1.2) := by rw [m2, st_f _ (show ¬ cl b.2.1.1 < 0 by omega)]
      have hk : y.2 = nl := by
        have w1 := wy.1
        rw [if_neg nv, e1, cl_0, har] at w1
        have : ∀ k : T, len k = 0 → k = nl := fun k hk => by
          match k, hk with
          | .leaf _, _ => rfl
          | .branch _ _ s', e => exact absurd e (by simp [len])
        exact this _ w1
      obtain ⟨_, _, g⟩ := m3
      rw [hk, e1, ez] at g
      rcases g with g | ⟨_, _, g | ⟨g, _⟩⟩
      · have : wt nl = 0 := rfl
        have g : wt (su (thM M) b.2.1.2) < wt nl := g
        omega
      · have g : cl b.2.1.1 < cl 0 := g
        rw [cl_0] at g; omega
      · have g : 0 = b.2.1.1 := g
        rw [← g, cl_0] at b1; omega
    · exact Or.inl ⟨by rw [m2]; exact ty_st (thM_ty hneg q1) b1, q2 b2.1⟩
theorem rw1_s {y : Tm} {k : Nat} {z : Tm} : ∀ {L : List (Nat × Lt)}, rw1 pd L y = some (k, z) → ∃ b, (k, b) ∈ L ∧ (rwI pd b.2.1 b.2.2 y = some z ∨ rwI pd b.2.2 b.2.1 y = some z)
  | [], h => by cases h
  | b :: L, h => by
    unfold rw1 at h
    cases h1 : rwI pd b.2.2.1 b.2.2.2 y with
    | some w =>
      rw [h1] at h
      cases h
      exact ⟨b.2, List.mem_cons_self, Or.inl h1⟩
    | none =>
      rw [h1] at h
      dsimp only at h
      cases h2 : rwI pd b.2.2.2 b.2.2.1 y with
      | some w =>
        rw [h2] at h
        cases h
        exact ⟨b.2, List.mem_cons_self, Or.inr h2⟩
      | none =>
        rw [h2] at h
        obtain ⟨d, d1, d2⟩ := rw1_s (L := L) h
        exact ⟨d, List.mem_cons_of_mem _ d1, d2⟩
theorem rfF_s {L : List (Nat × Lt)} {F : T} {o k : Nat} {z : Tm} : ∀ {m p : Nat}, rfF pd L F m p = some (o, k, z) → ∃ y, sbF o F = some y ∧ ¬ cl y.1 < 0 ∧ rw1 pd L y = some (k, z)
  | 0, p, h => by cases h
  | m + 1, p, h => by
    unfold rfF at h
    cases hs : sbF p F with
    | none => rw [hs] at h; cases h
    | some y =>
      rw [hs] at h
      dsimp only at h
      by_cases c : cl y.1 < 0
      · rw [if_pos c] at h; exact rfF_s h
      · rw [if_neg c] at h
        cases hr : rw1 pd L y with
        | none => rw [hr] at h; exact rfF_s h
        | some q =>
          rw [hr] at h
          cases h
          exact ⟨y, hs, c, hr⟩
/-- a place of a side -/
theorem side_at {x : Tm} (wx : wf ar (lb m9) (tt x)) (hx : TyK pd x) {o : Nat} {y : Tm} (h : sbF o (tt x) = some y) : (o = 0 ∧ y = x) ∨ (o ≠ 0 ∧ TyT pd (tt y)) := by
  rcases sb_0 h with ⟨q1, q2⟩ | ⟨q1, q2⟩
  · exact Or.inl ⟨q1, q2⟩
  · refine Or.inr ⟨q1, ?_⟩
    by_cases c : cl x.1 < 0
    · have w1 := wx.1
      rw [if_pos c] at w1
      have hk : x.2 = nl := by
        have : ∀ k : T, len k = 0 → k = nl := fun k hk => by
          match k, hk with
          | .leaf _, _ => rfl
          | .branch _ _ s', e => exact absurd e (by simp [len])
        exact this _ w1
      rw [hk] at q2; cases q2
    · exact ty_sb wx.2.2.1 (hx (by omega)) q2
theorem TyP.k {a : Lt} (h : TyP pd a) : TyK pd a.2.1 ∧ TyK pd a.2.2 := by
  rcases h with h | ⟨h1, h2⟩
  · have k0 := h.k 0
    have k1 := h.k 1
    exact ⟨k0, k1⟩
  · rw [h1, h2]; exact ⟨fun _ => trivial, fun _ => trivial⟩
/-- one side of a LITERAL is REWRITTEN -/
theorem rw_side (h0 : pd 0) {a : Lt} (h : TyP pd a) (w1 : wf ar (lb m9) (tt a.2.1)) (w2 : wf ar (lb m9) (tt a.2.2)) {y z : Tm} {o : Nat} (hz : (TyT pd (tt z) ∧ ¬ pd (cl y.1)) ∨ (z = (0, nl) ∧ pd (cl y.1) ∧ 0 < cl y.1)) : (sbF o (tt a.2.1) = some y → TyP pd (a.1, rpT z o a.2.1, a.2.2)) ∧ (sbF o (tt a.2.2) = some y → TyP pd (a.1, a.2.1, rpT z o a.2.2)) := by
  obtain ⟨k1, k2⟩ := h.k
  have no0 : y = (0, nl) → False := fun e => by
    rw [e] at hz
    rcases hz with hz | hz
    · exact hz.2 h0
    · have := hz.2.2
      rw [show cl ((0, nl) : Tm).1 = 0 from rfl] at this
      omega
  have nil0 : sbF o (tt (0, nl)) = some y → False := fun e => by
    rcases sb_0 e with ⟨_, q⟩ | ⟨_, q⟩
    · exact no0 q
    · cases q
  refine ⟨fun hs => ?_, fun hs => ?_⟩
  · rcases h with (⟨h1, h2, h3, h4⟩ | ⟨h1, h2⟩) | ⟨h1, h2⟩
    · rcases side_at w1 k1 hs with ⟨q1, q2⟩ | ⟨q1, q2⟩
      · rcases hz with hz | hz
        · rw [q2] at hz; exact absurd h2 hz.2
        · refine Or.inr ⟨?_, h4⟩
          show rpT z o a.2.1 = (0, nl)
          rw [q1, hz.1]; rfl
      · rcases hz with hz | hz
        · refine Or.inl (Or.inl ?_)
          have e : rpT z o a.2.1 = (a.2.1.1, rpF z (o - 1) a.2.1.2) := by unfold rpT; rw [if_neg q1]
          show 0 < cl (rpT z o a.2.1).1 ∧ pd (cl (rpT z o a.2.1).1) ∧ TyT pd (rpT z o a.2.1).2 ∧ a.2.2 = (0, nl)
          rw [e]
          exact ⟨h1, h2, ty_rp hz.1 h3, h4⟩
        · exact absurd hz.2.1 q2.1
    · have ty : TyT pd (tt y) := by
        rcases side_at w1 k1 hs with ⟨_, q2⟩ | ⟨_, q2⟩
        · rw [q2]; exact h1
        · exact q2
      rcases hz with hz | hz
      · exact Or.inl (Or.inr ⟨ty_rpT hz.1 h1, h2⟩)
      · exact absurd hz.2.1 ty.1
    · rw [h1] at hs; exact (nil0 hs).elim
  · rcases h with (⟨h1, h2, h3, h4⟩ | ⟨h1, h2⟩) | ⟨h1, h2⟩
    · rw [h4] at hs; exact (nil0 hs).elim
    · have ty : TyT pd (tt y) := by
        rcases side_at w2 k2 hs with ⟨_, q2⟩ | ⟨_, q2⟩
        · rw [q2]; exact h2
        · exact q2
      rcases hz with hz | hz
      · exact Or.inl (Or.inr ⟨h1, ty_rpT hz.1 h2⟩)
      · exact absurd hz.2.1 ty.1
    · rw [h2] at hs; exact (nil0 hs).elim
/-- what lies at a place of a CLAUSE -/
theorem cF_at : ∀ {E : List Lt} {o : Nat} {y : Tm}, (∀ a ∈ E, TyP pd a) → WL ar (lb m9) E → sbF o (cF E) = some y → TyK pd y ∧ wf ar (lb m9) (tt y)
  | [], o, y, _, _, h => by cases h
  | a :: E, o, y, ht, hw, h => by
    obtain ⟨k1, k2⟩ := (ht a List.mem_cons_self).k
    obtain ⟨_, w1, w2⟩ := hw a List.mem_cons_self
    have side : ∀ {x : Tm} {p : Nat}, TyK pd x → wf ar (lb m9) (tt x) → sbF p (tt x) = some y → TyK pd y ∧ wf ar (lb m9) (tt y) := fun {x p} hk hwx hs => by
      refine ⟨?_, (sb_wf hwx hs).1⟩
      rcases side_at hwx hk hs with ⟨_, q⟩ | ⟨_, q⟩
      · rw [q]; exact hk
      · exact q.2.1
    have h : sbF o (cat (lF a) (cF E)) = some y := h
    rw [sbF_cat] at h
    by_cases c : o < wt (lF a)
    · rw [if_pos c] at h
      have h : sbF o (cat (tt a.2.1) (tt a.2.2)) = some y := h
      rw [sbF_cat] at h
      by_cases c2 : o < wt (tt a.2.1)
      · rw [if_pos c2] at h; exact side k1 w1 h
      · rw [if_neg c2] at h; exact side k2 w2 h
    · rw [if_neg c] at h
      exact cF_at (fun b hb => ht b (List.mem_cons_of_mem _ hb)) (fun b hb => hw b (List.mem_cons_of_mem _ hb)) h
theorem rpE_typ (h0 : pd 0) {y z : Tm} (hz : (TyT pd (tt z) ∧ ¬ pd (cl y.1)) ∨ (z = (0, nl) ∧ pd (cl y.1) ∧ 0 < cl y.1)) : ∀ {E : List Lt} {o : Nat}, (∀ a ∈ E, TyP pd a) → WL ar (lb m9) E → sbF o (cF E) = some y → ∀ a ∈ rpE z o E, TyP pd a
  | [], o, _, _, h, a, _ => by cases h
  | b :: E, o, ht, hw, h, a, ha => by
    obtain ⟨_, w1, w2⟩ := hw b List.mem_cons_self
    have tb := ht b List.mem_cons_self
    have tE : ∀ a ∈ E, TyP pd a := fun c hc => ht c (List.mem_cons_of_mem _ hc)
    have h : sbF o (cat (lF b) (cF E)) = some y := h
    rw [sbF_cat, lF_wt] at h
    have e1 : wt (tt b.2.1) = tw b.2.1 := tt_wt _
    unfold rpE at ha
    by_cases c1 : o < tw b.2.1
    · rw [if_pos c1] at ha
      have c2 : o < tw b.2.1 + tw b.2.2 := by omega
      rw [if_pos c2] at h
      have h : sbF o (cat (tt b.2.1) (tt b.2.2)) = some y := h
      rw [sbF_cat, e1, if_pos c1] at h
      rcases List.mem_cons.mp ha with rfl | ha
      · exact (rw_side h0 tb w1 w2 hz).1 h
      · exact tE a ha
    · rw [if_neg c1] at ha
      by_cases c2 : o < lwt b
      · rw [if_pos c2] at ha
        have c2' : o < tw b.2.1 + tw b.2.2 := c2
        rw [if_pos c2'] at h
        have h : sbF o (cat (tt b.2.1) (tt b.2.2)) = some y := h
        rw [sbF_cat, e1, if_neg c1] at h
        rcases List.mem_cons.mp ha with rfl | ha
        · exact (rw_side h0 tb w1 w2 hz).2 h
        · exact tE a ha
      · rw [if_neg c2] at ha
        have c2' : ¬ o < tw b.2.1 + tw b.2.2 := c2
        rw [if_neg c2'] at h
        rcases List.mem_cons.mp ha with rfl | ha
        · exact tb
        · exact rpE_typ h0 hz tE (fun b hb => hw b (List.mem_cons_of_mem _ hb)) h a ha
theorem rwN_typ (hneg : ∀ c, c < 0 → ¬ pd c) (h0 : pd 0) (har : ar 0 = 0) {L : List (Nat × Lt)} {N : Nat} (hL : ∀ k b, (k, b) ∈ L → k < N ∧ TyL pd b ∧ wf ar (lb m9) (tt b.2.1) ∧ wf ar (lb m9) (tt b.2.2)) : ∀ (m : Nat) (E : List Lt) (U : List Int) (n : Nat), (∀ a ∈ E, TyP pd a) → WL ar (lb m9) E → (∀ u ∈ U, 0 ≤ u ∧ u < (N : Int)) → (∀ a ∈ (rwN pd L m E U n).1, TyP pd a) ∧ ∀ u ∈ (rwN pd L m E U n).2.1, 0 ≤ u ∧ u < (N : Int)
  | 0, E, U, n, hE, hw, hU => ⟨hE, hU⟩
  | m + 1, E, U, n, hE, hw, hU => by
    unfold rwN
    cases hr : rf pd L E with
    | none => exact ⟨hE, hU⟩
    | some q =>
      obtain ⟨o, k, z⟩ := q
      obtain ⟨y, y1, y2, y3⟩ := rfF_s (show rfF pd L (cF E) (wtL E) 0 = some (o, k, z) from hr)
      obtain ⟨b, b1, b2⟩ := rw1_s y3
      obtain ⟨l1, l2, l3, l4⟩ := hL k b b1
      obtain ⟨ky, wy⟩ := cF_at hE hw y1
      obtain ⟨wz, hz⟩ := rwI_typ hneg har l2 l3 l4 ky wy y2 b2
      refine rwN_typ hneg h0 har hL m (rpE z o E) (adU U (k : Int)) (n + 1) (rpE_typ h0 hz hE hw y1) (rpE_wf wz hw) (fun u hu => ?_)
      unfold adU at hu
      split at hu
      · exact hU u hu
      · rcases List.mem_append.mp hu with hu | hu
        · exact hU u hu
        · rw [List.mem_singleton.mp hu]; omega
theorem rwA_iv (hneg : ∀ c, c < 0 → ¬ pd c) (h0 : pd 0) (har : ar 0 = 0) {g : Nat} {c : CL} {A : PA} (hW : ∀ d ∈ A.1, WL ar (lb m9) d.1) (hc : ∃ d ∈ A.1, d.1 = c.1) (hg : g < A.1.length) (h : IvA pd A.1) : IvA pd (rwA pd g c.1 A).1.1 := by
  obtain ⟨d, hd, ed⟩ := hc
  have tc : ∀ a ∈ c.1, TyL pd a := by rw [← ed]; exact h.1 d hd
  have wc : WL ar (lb m9) c.1 := by rw [← ed]; exact hW d hd
  obtain ⟨q1, q2⟩ := rwN_typ hneg h0 har (L := sgL A.1 0) (N := A.1.length) (fun k b hb => by
    obtain ⟨e, e1, e2, e3, e4, e5⟩ := sgL_m hb
    rw [Nat.sub_zero] at e2
    have em := List.mem_of_getElem? e2
    have hbm : b ∈ e.1 := by rw [e3]; exact List.mem_singleton.mpr rfl
    have w := hW e em b hbm
    exact ⟨(List.getElem?_eq_some_iff.mp e2).1, h.1 e em b hbm, w.2.1, w.2.2⟩) 60 c.1 [] 0 (fun a ha => Or.inl (tc a ha)) wc (fun u hu => by cases hu)
  unfold rwA
  split
  · exact h
  · split
    · exact h
    · rename_i ht
      split
      · exact h
      · exact ⟨h.1.add (kept_typ hneg q1 ht), h.2.add ⟨by show (g : Int) < _; omega, by show (-1 : Int) < _; omega, q2⟩⟩
theorem gvB_iv {R : PA × Option Nat} (h : IvA pd R.1.1) : IvA pd (gvB pd R).1.1 := by
  unfold gvB
  split
  · exact h
  split
  · exact h
  split
  · exact h
  split
  · exact h
  · exact iv_st (caS_iv _ _ _ h)
theorem gvA_iv (hneg : ∀ c, c < 0 → ¬ pd c) (h0 : pd 0) (har : ar 0 = 0) {A : PA} (hW : ∀ d ∈ A.1, WL ar (lb m9) d.1) (h : IvA pd A.1) : IvA pd (gvA pd A).1.1 := by
  unfold gvA
  split
  · exact h
  split
  · exact h
  rename_i g _ _ c hc
  split
  · exact gvB_iv (iv_st h)
  · refine gvB_iv (rwA_iv (ar := ar) (m9 := m9) hneg h0 har (fun d hd => ?_) ?_ ?_ (iv_st h))
    · obtain ⟨i, hi⟩ := List.getElem?_of_mem hd
      obtain ⟨e, e1, e2, _⟩ := stA_c hi
      rw [e2]; exact hW e (List.mem_of_getElem? e1)
    · exact ⟨cS c 2, List.mem_of_getElem? (stA_s hc), rfl⟩
    · show g < (stA A.1 g 2).length
      rw [stA_len]; exact (List.getElem?_eq_some_iff.mp hc).1
theorem runA_iv (hneg : ∀ c, c < 0 → ¬ pd c) (h0 : pd 0) (har : ar 0 = 0) : ∀ (n : Nat) (σ : zS) (A : PA) (P : List Int), SI ar pd m9 σ A P → IvA pd A.1 → IvA pd (runA ar pd m9 n (A, P)).1.1
  | 0, σ, A, P, _, h => h
  | n + 1, σ, A, P, hI, h => by
    show IvA pd (if A.2 87 = 0 then runA ar pd m9 n (stepA ar pd m9 A) else (A, P)).1.1
    by_cases c : A.2 87 = 0
    · rw [if_pos c]
      have wl : ∀ {τ : zS} {B : PA} {Q : List Int}, SI ar pd m9 τ B Q → ∀ d ∈ B.1, WL ar (lb m9) d.1 := fun {τ B Q} s d hd => (s.1.2.2.2.2.2.2.2.2.2.1 d hd).2.2.2.2
      obtain ⟨σ1, _, g2, _, _⟩ := given_ok (β := 16) (Nat.le_refl _) hI c
      obtain ⟨σ2, _, _, s2, _⟩ := step_ok (β := 174) (Nat.le_refl _) hI c (x0 := 1) (x1 := 0)
      have hg := gvA_iv (ar := ar) (m9 := m9) hneg h0 har (wl hI) h
      have hs : IvA pd (stepA ar pd m9 A).1.1 := by
        unfold stepA
        split
        · exact hg
        split
        · exact hg
        · rename_i c' hc'
          exact ifA_iv hneg h0 (wl g2) hc' hg
      exact runA_iv hneg h0 har n σ2 _ _ s2 hs
    · rw [if_neg c]; exact h
end typ3
