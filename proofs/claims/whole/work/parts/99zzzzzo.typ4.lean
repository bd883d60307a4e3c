/-! the CLAUSES of a TEXT are of their kinds -/
variable {qo : Nat}
theorem pdS_neg {nm : PN} : ∀ c, c < 0 → ¬ pdS nm c := fun c hc z => by rcases z with z | z <;> omega
theorem WT_ty {nm : PN} {V : Int → Prop} : ∀ {F : T}, WT nm V F → TyT (pdS nm) F
  | .leaf _, _ => trivial
  | .branch l k s, ⟨h1, h2, h3⟩ => by
    refine ⟨?_, fun _ => WT_ty h2, WT_ty h3⟩
    rcases h1 with ⟨a, _, _⟩ | ⟨a, x, b, c, d⟩
    · exact pdS_neg _ a
    · rintro (z | ⟨_, y, hy, hy1⟩)
      · omega
      · rw [b] at hy; cases hy; omega
theorem eT_ty {pd : Int → Prop} : ∀ {E : VE}, (∀ x ∈ E, TyT pd (tt x.2)) → TyT pd (eT E)
  | [], _ => trivial
  | x :: E, h => ⟨(h x List.mem_cons_self).1, (h x List.mem_cons_self).2.1, eT_ty (fun y hy => h y (List.mem_cons_of_mem _ hy))⟩
theorem eV_ty {pd : Int → Prop} (hneg : ∀ c, c < 0 → ¬ pd c) : ∀ {E : VE}, (∀ x ∈ E, TyT pd (tt x.2)) → ∀ v, 0 ≤ v → TyT pd (tt (eV E v))
  | [], _, v, hv => ⟨hneg _ (by show cl (vt v).1 < 0; rw [cl_vt]; omega), fun _ => trivial, trivial⟩
  | x :: E, h, v, hv => by
    unfold eV
    by_cases c : (x.1 : Int) = v
    · rw [if_pos c]; exact h x List.mem_cons_self
    · rw [if_neg c]; exact eV_ty hneg (fun y hy => h y (List.mem_cons_of_mem _ hy)) v hv
theorem bE_ty {pd : Int → Prop} (hneg : ∀ c, c < 0 → ¬ pd c) {w : Nat → Nat} (hw : ∀ v, ¬ pd (cl (w v))) {E : VE} (h : ∀ x ∈ E, TyT pd (tt x.2)) {v : Nat} {stay : Bool} : ∀ x ∈ bE w E v stay, TyT pd (tt x.2) := fun x hx => by
  rcases List.mem_append.mp hx with hx | hx
  · exact h x hx
  · rw [List.mem_singleton.mp hx]
    by_cases c : stay = true
    · show TyT pd (tt (if stay = true then _ else _))
      rw [if_pos c]
      exact ⟨hneg _ (by show cl (vt (v : Int)).1 < 0; rw [cl_vt]; omega), fun _ => trivial, trivial⟩
    · show TyT pd (tt (if stay = true then _ else _))
      rw [if_neg c]
      exact ⟨hw v, fun _ => eT_ty h, trivial⟩
theorem frE_ty {pd : Int → Prop} (hneg : ∀ c, c < 0 → ¬ pd c) {w : Nat → Nat} (hw : ∀ v, ¬ pd (cl (w v))) {stay : Bool} : ∀ {L : List Int} {E : VE}, (∀ x ∈ E, TyT pd (tt x.2)) → ∀ x ∈ frE w stay L E, TyT pd (tt x.2)
  | [], E, h => h
  | v :: L, E, h => frE_ty hneg hw (L := L) (bE_ty hneg hw h)
def CsT (pd : Int → Prop) (A : List (List Lt)) : Prop := ∀ c ∈ A, ∀ a ∈ c, TyL pd a
theorem eaE_ty {pd : Int → Prop} {A B : List (List Lt)} (h1 : CsT pd A) (h2 : CsT pd B) : CsT pd (eaE A B) := fun c hc a ha => by
  obtain ⟨x, hx, hc⟩ := List.mem_flatMap.mp hc
  obtain ⟨y, hy, rfl⟩ := List.mem_map.mp hc
  rcases List.mem_append.mp ha with ha | ha
  · exact h1 x hx a ha
  · exact h2 y hy a ha
theorem jn_ty {pd : Int → Prop} {b : Bool} {A B : List (List Lt)} (h1 : CsT pd A) (h2 : CsT pd B) : CsT pd (jn b A B) := by
  unfold jn
  split
  · intro c hc
    rcases List.mem_append.mp hc with hc | hc
    · exact h1 c hc
    · exact h2 c hc
  · exact eaE_ty h1 h2
theorem cFm_ty {nm : PN} {w : Nat → Nat} (hw : ∀ v, ¬ pdS nm (cl (w v))) : ∀ f, FS (tt f) → ∀ (is : Bool) (E : VE) (V : Int → Prop), (∀ x ∈ E, TyT (pdS nm) (tt x.2)) → WFo1 nm f V → CsT (pdS nm) (cFm w f E is) := by
  refine FO_ind ?_ ?_ ?_ ?_ ?_
  · intro l1 k1 l2 k2 l hl is E V hE hW c hc a ha
    have hW1 : (if l ≤ 1 then len (nd l1 k1 (nd l2 k2 nl)) = 2 ∧ WT nm V (nd l1 k1 (nd l2 k2 nl)) else _) := hW.1
    rw [if_pos hl] at hW1
    have wt1 := WT_ty hW1.2
    rw [cFm_at (by omega)] at hc
    have := List.mem_singleton.mp hc
    subst this
    have := List.mem_singleton.mp ha
    subst this
    unfold clt
    rw [if_pos hl, if_pos hl]
    exact Or.inr ⟨ty_st (eV_ty pdS_neg hE) (x := (l1, k1)) ⟨wt1.1, wt1.2.1, trivial⟩, ty_st (eV_ty pdS_neg hE) (x := (l2, k2)) ⟨wt1.2.2.1, wt1.2.2.2.1, trivial⟩⟩
  · intro h g is E V hE hW c hc a ha
    have hW1 : ∃ h' g'' x, (nd h g nl) = nd h' g'' nl ∧ 1 ≤ cl h' ∧ nm[(cl h' - 1).toNat]? = some x ∧ x.2.1 = 1 ∧ x.2.2 = (len g'' : Int) ∧ WT nm V g'' := hW.1
    obtain ⟨_, _, x, e6, p1, p2, p3, p4, p5⟩ := hW1
    cases e6
    rw [cFm_at (by omega)] at hc
    have := List.mem_singleton.mp hc
    subst this
    have := List.mem_singleton.mp ha
    subst this
    refine Or.inl ⟨by show 0 < cl h; omega, Or.inr ⟨p1, x, p2, p3⟩, ty_su (eV_ty pdS_neg hE) (WT_ty p5), rfl⟩
  · intro g _ ih is E V hE hW
    exact ih (!is) E V hE hW.1.2
  · intro l g h l4 l7 fg fh ig ih is E V hE hW
    have hW1 : (if l ≤ 1 then _ else if l = 2 then _ else if l = 3 then _ else if l ≤ 7 then len (nd g.1 g.2 (nd h.1 h.2 nl)) = 2 ∧ WFo nm (nd g.1 g.2 (nd h.1 h.2 nl)) V else _) := hW.1
    rw [if_neg (by omega), if_neg (by omega), if_neg (by omega), if_pos l7] at hW1
    have wg : WFo1 nm g V := ⟨hW1.2.1, trivial⟩
    have wh : WFo1 nm h V := hW1.2.2
    rw [cFm_bin l4 l7]
    unfold cbin
    split
    · exact jn_ty (ig _ E V hE wg) (ih _ E V hE wh)
    split
    · exact jn_ty (ig _ E V hE wg) (ih _ E V hE wh)
    split
    · exact jn_ty (ig _ E V hE wg) (ih _ E V hE wh)
    · intro c hc
      rcases List.mem_append.mp hc with hc | hc
      · exact eaE_ty (ig _ E V hE wg) (ih _ E V hE wh) c hc
      · split at hc
        · exact eaE_ty (ih _ E V hE wh) (ig _ E V hE wg) c hc
        · exact eaE_ty (ig _ E V hE wg) (ih _ E V hE wh) c hc
  · intro l g l8 fg ih is E V hE hW
    have hW1 : (if l ≤ 1 then _ else if l = 2 then _ else if l = 3 then _ else if l ≤ 7 then _ else len (nd g.1 g.2 nl) = 1 ∧ WFo nm (nd g.1 g.2 nl) (fun u => V u ∨ u = (((l - 8) / 2 : Nat) : Int))) := hW.1
    rw [if_neg (by omega), if_neg (by omega), if_neg (by omega), if_neg (by omega)] at hW1
    rw [cFm_q l8]
    exact ih is _ _ (bE_ty pdS_neg hw hE) hW1.2
theorem txF_iv {nm : PN} : ∀ {L : List (List Lt)} {Cs : List CL}, CsT (pdS nm) L → IvA (pdS nm) Cs → IvA (pdS nm) (txF L Cs)
  | [], Cs, _, h => h
  | c :: L, Cs, hL, h => by
    show IvA (pdS nm) (txF L (txA c Cs))
    refine txF_iv (fun d hd => hL d (List.mem_cons_of_mem _ hd)) ?_
    unfold txA
    by_cases t : tautL (rnL [] (ddL [] c))
    · rw [if_pos t]; exact h
    · rw [if_neg t]
      exact ⟨h.1.add (kept_typ pdS_neg (fun a ha => Or.inl (hL c List.mem_cons_self a ha)) t), h.2.add ⟨by show (-1 : Int) < _; omega, by show (-1 : Int) < _; omega, fun u hu => by cases hu⟩⟩
theorem mkS_iv {nm : PN} {w : Nat → Nat} (hw : ∀ v, ¬ pdS nm (cl (w v))) : ∀ {L : List SE} {n : Nat} {Cs D : List CL}, (∀ e ∈ L, FS (tt e.2.2.1) ∧ WFo1 nm e.2.2.1 (fun v => v ∈ e.2.2.2)) → IvA (pdS nm) Cs → mkS w L n Cs = .inr D → IvA (pdS nm) D
  | [], n, Cs, D, _, h, e => by cases e; exact h
  | x :: L, n, Cs, D, hL, h, e => by
    replace e : (if 200 < hgt x.2.2.1 ∨ 200 < n + nF x.2.2.1 (!x.2.1) then .inl x.1 else @ite _ (∀ c ∈ csE w x, inB c) (Classical.propDecidable _) (mkS w L (n + nF x.2.2.1 (!x.2.1)) (txF (csE w x) Cs)) (.inl x.1)) = (Sum.inr D : Int ⊕ List CL) := e
    by_cases c : 200 < hgt x.2.2.1 ∨ 200 < n + nF x.2.2.1 (!x.2.1)
    · rw [if_pos c] at e; cases e
    rw [if_neg c] at e
    by_cases c2 : ∀ c ∈ csE w x, inB c
    · rw [if_pos c2] at e
      obtain ⟨f1, f2⟩ := hL x List.mem_cons_self
      exact mkS_iv hw (fun y hy => hL y (List.mem_cons_of_mem _ hy)) (txF_iv (cFm_ty hw x.2.2.1 f1 _ _ _ (frE_ty pdS_neg hw (fun y hy => by cases hy)) f2) h) e
    · rw [if_neg c2] at e; cases e
theorem read_iv (nm : PN) (SL : List SE) (b : Nat) (Cs : List CL) (hT : TXo nm SL b) (h : mkS (wS nm SL) SL 0 [] = .inr Cs) : IvA (pdS nm) Cs := by
  refine mkS_iv (w := wS nm SL) (fun v z => ?_) (fun e he => ?_) ⟨(by intro c hc; cases hc), fun k c hc => (by cases hc)⟩ h
  · have e1 : cl (wS nm SL v) = ((nm.length + 1 + rkR (RPs SL) v : Nat) : Int) := by unfold wS; rw [cl_cu]
    rw [e1] at z
    rcases z with z | ⟨_, x, hx, _⟩
    · omega
    · have := (List.getElem?_eq_some_iff.mp hx).1
      omega
  · obtain ⟨k, hk⟩ := List.getElem?_of_mem he
    obtain ⟨_, _, _, _, _, q4, _⟩ := hT.1.at hk
    exact ⟨FS_of q4, q4⟩
/-- run and read of both, without a proviso -/
theorem prun_all {σ ρ : zS} {n : Nat} (h : TL qo σ ρ n) (h3 : σ.2.2 3000 = 0) {β γ : Nat} (hβ : 174 ≤ β) (hγ : 1646 ≤ γ) {x : Int} : An qo (yE tP_CP_run β σ [x]) (zE tM_run γ ρ [x]) σ mTI n := prun_ok (fun ar pd m9 A P k ⟨σ', hI⟩ h1 h2 h4 h5 => runA_iv h4 h2 h1 k σ' A P hI h5) h h3 hβ hγ
theorem pread_all {σ ρ : zS} {n : Nat} (h : TL qo σ ρ n) (hn : n ≤ 20000) {β γ : Nat} (hβ : 160 ≤ β) (hγ : 1002 ≤ γ) : ∃ τ r κ, yE tG_CP_read β σ [] = some (τ, r) ∧ xE tX_read γ ρ [] = some (κ, r) ∧ τ.2.2 3000 = σ.2.2 3000 ∧ Mg σ τ ∧ TL qo τ κ 0 := pread_ok (fun nm SL b Cs hT _ _ hm => read_iv nm SL b Cs hT hm) h hn hβ hγ
