/-! is a CLAUSE true -/
theorem mvF_c {pd : Int → Prop} {sd m : Int} {e1 e2 : Int → Int} : ∀ {F : T} {h : Int}, (∀ v, vi v F → e1 v = e2 v) → mvF pd sd m e1 h F = mvF pd sd m e2 h F
  | .leaf _, h, _ => rfl
  | .branch n k s, h, q => by
    have hs : ∀ h, mvF pd sd m e1 h s = mvF pd sd m e2 h s := fun h => mvF_c (fun v w => q v (Or.inr w))
    have ex : (if cl n < 0 then e1 (-1 - cl n) else if cl n = 0 then 1 else hfn pd m (cl n) (mvF pd sd m e1 (hmx sd (cl n)) k)) = (if cl n < 0 then e2 (-1 - cl n) else if cl n = 0 then 1 else hfn pd m (cl n) (mvF pd sd m e2 (hmx sd (cl n)) k)) := by
      by_cases hc : cl n < 0
      · rw [if_pos hc, if_pos hc]
        exact q _ (Or.inl (by simp only [hc, if_true]))
      · rw [if_neg hc, if_neg hc]
        have hk : mvF pd sd m e1 (hmx sd (cl n)) k = mvF pd sd m e2 (hmx sd (cl n)) k := mvF_c (fun v w => q v (Or.inl (by simp only [hc, if_false]; exact w)))
        rw [hk]
    simp only [mvF]
    rw [hs, ex]
theorem mvT_c {pd : Int → Prop} {sd m : Int} {e1 e2 : Int → Int} {x : Tm} (q : ∀ v, vi v (tt x) → e1 v = e2 v) : mvT pd sd m e1 x = mvT pd sd m e2 x := by
  unfold mvT
  by_cases hc : cl x.1 < 0
  · rw [if_pos hc, if_pos hc]
    exact q _ (Or.inl (by simp only [hc, if_true]))
  · rw [if_neg hc, if_neg hc]
    have hk : mvF pd sd m e1 (hmx sd (cl x.1)) x.2 = mvF pd sd m e2 (hmx sd (cl x.1)) x.2 := mvF_c (fun v w => q v (Or.inl (by simp only [hc, if_false]; exact w)))
    rw [hk]
theorem rnF_b : ∀ {L N : List Int} {c : Int}, c ∈ rnF N L → c < 0 → -1 - c < ((ntF N L).length : Int)
  | [], N, c, h, _ => by cases h
  | d :: L, N, c, h, h0 => by
    simp only [rnF, ntF] at h ⊢
    by_cases q : d < 0
    · rw [if_pos q] at h ⊢
      rcases List.mem_cons.mp h with w | w
      · have := (add1_idx N d)
        have := ntF_len L (add1 N d)
        rw [w]; omega
      · exact rnF_b w h0
    · rw [if_neg q] at h ⊢
      rcases List.mem_cons.mp h with w | w
      · omega
      · exact rnF_b w h0
/-- the VARIABLES of a CLAUSE have the numbers below their count -/
theorem Wc.v {ar : Int → Nat} {m9 : Int} {C : List Lt} (h : Wc ar m9 C) {a : Lt} (ha : a ∈ C) {v : Int} (hv : vi v (tt a.2.1) ∨ vi v (tt a.2.2)) : 0 ≤ v ∧ v < ((ntL [] C).length : Int) := by
  obtain ⟨_, _, _, h4, h5⟩ := h
  obtain ⟨x1, x2, _⟩ := rnL_F (N := []) h5
  rw [h4] at x1
  have v0 : 0 ≤ v := hv.elim vi_nn vi_nn
  have hm : (-1 - v) ∈ flQ (toQ C) := toQ_mem ha (hv.elim (fun w => Or.inl (vi_mem w)) (fun w => Or.inr (vi_mem w)))
  rw [x1] at hm
  have := rnF_b hm (by omega)
  rw [x2]
  exact ⟨v0, by omega⟩
theorem hoL_c {ar : Int → Nat} {m9 : Int} {pd : Int → Prop} {sd m : Int} {e1 e2 : Int → Int} {C : List Lt} (w : Wc ar m9 C) (q : ∀ v : Int, 0 ≤ v → v < ((ntL [] C).length : Int) → e1 v = e2 v) : hoL pd sd m e1 C ↔ hoL pd sd m e2 C := by
  have e : ∀ a ∈ C, mvT pd sd m e1 a.2.1 = mvT pd sd m e2 a.2.1 ∧ mvT pd sd m e1 a.2.2 = mvT pd sd m e2 a.2.2 := fun a ha => ⟨mvT_c (fun v hv => by obtain ⟨v0, v1⟩ := w.v ha (Or.inl hv); exact q v v0 v1), mvT_c (fun v hv => by obtain ⟨v0, v1⟩ := w.v ha (Or.inr hv); exact q v v0 v1)⟩
  constructor
  · rintro ⟨a, ha, h⟩
    obtain ⟨e3, e4⟩ := e a ha
    exact ⟨a, ha, by rw [← e3, ← e4]; exact h⟩
  · rintro ⟨a, ha, h⟩
    obtain ⟨e3, e4⟩ := e a ha
    exact ⟨a, ha, by rw [e3, e4]; exact h⟩
/-- the w-th way -/
def dg (m w : Nat) : Int → Int := fun v => ((w / m ^ v.toNat % m : Nat) : Int)
def mkT (pd : Int → Prop) (sd : Int) (m : Nat) (C : List Lt) : Prop := ∀ w, w < m ^ (ntL [] C).length → hoL pd sd (m : Int) (dg m w) C
theorem nx_p2 {β : Nat} {m n : Nat} (m1 : 1 ≤ m) (m3 : m ≤ 3) (n6 : n ≤ 6) : ∀ (j v u : Nat) (σ : zS), v + j = n → σ.1 6905 = (m : Int) → (∀ i : Nat, v ≤ i → i < n → σ.2.1 70 (i : Int) = ((u / m ^ (i - v) % m : Nat) : Int)) → ∃ τ, yE tC_Mod_nextElements_p2 β σ [(n : Int), (v : Int)] = some (τ, 0) ∧ FrC [] [70] σ τ ∧ (∀ i : Nat, v ≤ i → i < n → τ.2.1 70 (i : Int) = (((u + 1) / m ^ (i - v) % m : Nat) : Int)) ∧ ∀ i : Int, i < (v : Int) → τ.2.1 70 i = σ.2.1 70 i
  | 0, v, u, σ, hj, hm, hu => by
    refine ⟨σ, ?_, FrC.refl, fun i a b => by omega, fun _ _ => rfl⟩
    rw [yq_Mod_nextElements_p2, kY_Mod_nextElements_p2, if_pos (by omega)]
  | j + 1, v, u, σ, hj, hm, hu => by
    have u0 := hu v (Nat.le_refl _) (by omega)
    rw [Nat.sub_self, Nat.pow_zero, Nat.div_one] at u0
    have ul := Nat.mod_lt u (show 0 < m by omega)
    obtain ⟨σ1, hσ1⟩ : ∃ z, z = zA σ 70 (v : Int) (((u % m : Nat) : Int) + 1) := ⟨_, rfl⟩
    have f1 : FrC [] [70] σ σ1 := by rw [hσ1]; exact FrC_A
    have e1 : σ1.2.1 70 (v : Int) = ((u % m : Nat) : Int) + 1 := by rw [hσ1, zA_s]
    have e1' : ∀ q, q ≠ (v : Int) → σ1.2.1 70 q = σ.2.1 70 q := fun q hq => by rw [hσ1, zA_i hq]
    have dm := Nat.div_add_mod u m
    have dv : ∀ i, v + 1 ≤ i → ∀ x, x / m / m ^ (i - (v + 1)) = x / m ^ (i - v) := fun i hi x => by
      rw [Nat.div_div_eq_div_mul, show i - v = (i - (v + 1)) + 1 by omega, Nat.pow_succ, Nat.mul_comm]
    rw [yq_Mod_nextElements_p2, kY_Mod_nextElements_p2, if_neg (by omega), if_pos (by omega), u0, if_pos (by omega), lt_e, ← hσ1, f1.i 6905, hm, e1]
    by_cases h : u % m + 1 < m
    · rw [if_neg (by omega)]
      have q1 : (u + 1) % m = u % m + 1 := by
        have : u + 1 = (u % m + 1) + m * (u / m) := by omega
        rw [this, Nat.add_mul_mod_self_left, Nat.mod_eq_of_lt h]
      have q2 : (u + 1) / m = u / m := by
        have : u + 1 = (u % m + 1) + m * (u / m) := by omega
        rw [this, Nat.add_mul_div_left _ _ (by omega), Nat.div_eq_of_lt h]
        have : m * (u / m) + u % m = u := dm
        omega
      refine ⟨σ1, rfl, f1, fun i a b => ?_, fun i a => e1' i (by omega)⟩
      by_cases e : i = v
      · rw [e, Nat.sub_self, Nat.pow_zero, Nat.div_one, e1, q1]; omega
      · rw [e1' _ (by omega), hu i a b, ← dv i (by omega) u, ← dv i (by omega) (u + 1), q2]
    · have q0 : u % m + 1 = m := by omega
      have q1 : u + 1 = m * (u / m + 1) := by
        have : m * (u / m + 1) = m * (u / m) + m := by rw [Nat.mul_add, Nat.mul_one]
        omega
      have q2 : (u + 1) / m = u / m + 1 := by rw [q1, Nat.mul_div_cancel_left _ (by omega)]
      have q3 : (u + 1) % m = 0 := by rw [q1, Nat.mul_mod_right]
      rw [if_pos (by omega), lt_e, if_pos (by omega)]
      obtain ⟨σ2, hσ2⟩ : ∃ z, z = zA σ1 70 (v : Int) 0 := ⟨_, rfl⟩
      rw [← hσ2]
      have f2 : FrC [] [70] σ σ2 := f1.trans (by rw [hσ2]; exact FrC_A)
      have e2 : σ2.2.1 70 (v : Int) = 0 := by rw [hσ2, zA_s]
      have e2' : ∀ q, q ≠ (v : Int) → σ2.2.1 70 q = σ.2.1 70 q := fun q hq => by rw [hσ2, zA_i hq, e1' q hq]
      obtain ⟨τ, t1, t2, t3, t4⟩ := nx_p2 (β := β) m1 m3 n6 j (v + 1) (u / m) σ2 (by omega) (by rw [f2.i 6905]; exact hm) (fun i a b => by rw [e2' _ (by omega), hu i (by omega) b, dv i a u])
      refine ⟨τ, by rw [show (v : Int) + 1 = ((v + 1 : Nat) : Int) by omega]; exact t1, f2.trans t2, fun i a b => ?_, fun i a => by rw [t4 i (by omega), e2' i (by omega)]⟩
      by_cases e : i = v
      · rw [e, t4 _ (by omega), e2, Nat.sub_self, Nat.pow_zero, Nat.div_one, q3]; rfl
      · rw [t3 i (by omega) b, ← q2, dv i (by omega) (u + 1)]
theorem mt_p45 {ar : Int → Nat} {pd : Int → Prop} {m9 : Int} {β : Nat} (hβ : 4 ≤ β) (h00 : ar 0 = 0) {Cs : List CL} {k : Nat} {c : CL} (hc : Cs[k]? = some c) (wc : Wc ar m9 c.1) {m : Nat} (m1 : 1 ≤ m) (m3 : m ≤ 3) (hp : m ^ (ntL [] c.1).length ≤ 1000) : ∀ (j w : Nat) (σ : zS), Cx ar pd m9 σ → SC σ Cs → σ.1 6905 = (m : Int) → (∀ i : Nat, i < (ntL [] c.1).length → σ.2.1 70 (i : Int) = dg m w (i : Int)) → w + j = m ^ (ntL [] c.1).length → ∃ τ, yE tC_Mod_makesTrue_p45 β σ [(k : Int), ((ntL [] c.1).length : Int), ((m ^ (ntL [] c.1).length : Nat) : Int), (w : Int)] = some (τ, b2 (∀ w', w ≤ w' → w' < m ^ (ntL [] c.1).length → hoL pd (σ.1 6904) (m : Int) (dg m w') c.1)) ∧ FrC [] [70, 71] σ τ
  | 0, w, σ, hC, hS, hm, he, hj => by
    refine ⟨σ, ?_, FrC.refl⟩
    rw [yq_Mod_makesTrue_p45, kY_Mod_makesTrue_p45, if_pos (by omega), b2_t]
    intro w' a b; omega
  | j + 1, w, σ, hC, hS, hm, he, hj => by
    have h6 := wc.2.2.1
    obtain ⟨σ1, t1, t2⟩ := hold_ok (pd := pd) (β := β - 1) (by omega) h00 hc wc hC hS (by rw [hm]; omega)
    rw [yq_Mod_makesTrue_p45, kY_Mod_makesTrue_p45, if_neg (by omega), if_pos (by omega), zbd_of t1, hm]
    have cg : hoL pd (σ.1 6904) (m : Int) (fun v => σ.2.1 70 v) c.1 ↔ hoL pd (σ.1 6904) (m : Int) (dg m w) c.1 := hoL_c wc (fun v v0 v1 => by
      obtain ⟨i, rfl⟩ := Int.eq_ofNat_of_zero_le v0
      exact he i (by omega))
    by_cases h : hoL pd (σ.1 6904) (m : Int) (fun v => σ.2.1 70 v) c.1
    · rw [b2_t h, if_neg (by decide), if_pos (by omega)]
      obtain ⟨σ2, u1, u2, u3, u4⟩ := nx_p2 (β := β - 1) (n := (ntL [] c.1).length) m1 m3 h6 (ntL [] c.1).length 0 w σ1 (by omega) (by rw [t2.i 6905]; exact hm) (fun i a b => by rw [t2.a 70, he i b]; simp [dg])
      have u1' : yE tC_Mod_nextElements (β - 1) σ1 [((ntL [] c.1).length : Int)] = some (σ2, 0) := by
        rw [yq_Mod_nextElements, kY_Mod_nextElements]; exact u1
      rw [zbd_of u1', if_pos (by omega)]
      have f2 : FrC [] [70, 71] σ σ2 := t2.w.trans u2.w
      obtain ⟨τ, v1, v2⟩ := mt_p45 hβ h00 hc wc m1 m3 hp j (w + 1) σ2 (hC.f f2) (hS.f f2) (by rw [f2.i 6905]; exact hm) (fun i hi => by rw [u3 i (Nat.zero_le _) hi]; simp [dg]) (by omega)
      refine ⟨τ, ?_, f2.trans v2⟩
      rw [show (w : Int) + 1 = ((w + 1 : Nat) : Int) by omega, v1, f2.i 6904]
      congr 2
      refine b2_c ⟨fun q w' a b => ?_, fun q w' a b => q w' (by omega) b⟩
      by_cases e : w' = w
      · rw [e]; exact cg.mp h
      · exact q w' (by omega) b
    · rw [b2_f h, if_pos rfl]
      refine ⟨σ1, ?_, t2.w⟩
      rw [b2_f]
      intro q
      exact h (cg.mpr (q w (Nat.le_refl _) (by omega)))
theorem mt_p15 {β : Nat} {m n : Nat} {k : Int} (m1 : 1 ≤ m) (m3 : m ≤ 3) (n6 : n ≤ 6) : ∀ (j v : Nat) (σ : zS), v + j = n → σ.1 6905 = (m : Int) → (∀ i : Nat, i < v → σ.2.1 70 (i : Int) = 0) → ∃ τ, yE tC_Mod_makesTrue_p15 β σ [k, (n : Int), ((m ^ v : Nat) : Int), (v : Int)] = yE tC_Mod_makesTrue_p45 β τ [k, (n : Int), ((m ^ n : Nat) : Int), 0] ∧ FrC [] [70, 71] σ τ ∧ ∀ i : Nat, i < n → τ.2.1 70 (i : Int) = 0
  | 0, v, σ, hj, hm, h0 => by
    have : v = n := by omega
    subst this
    refine ⟨σ, ?_, FrC.refl, h0⟩
    rw [yq_Mod_makesTrue_p15, kY_Mod_makesTrue_p15, if_pos (by omega)]
  | j + 1, v, σ, hj, hm, h0 => by
    obtain ⟨σ1, hσ1⟩ : ∃ z, z = zA σ 70 (v : Int) 0 := ⟨_, rfl⟩
    have f1 : FrC [] [70, 71] σ σ1 := by rw [hσ1]; exact FrC_A
    have pw : m ^ v ≤ 3 ^ 6 := Nat.le_trans (Nat.pow_le_pow_left m3 v) (Nat.pow_le_pow_right (by omega) (by omega))
    have pm : m ^ v * m ≤ 3 ^ 6 * 3 := Nat.mul_le_mul pw m3
    have e1 : ((m ^ v : Nat) : Int) * (m : Int) = ((m ^ (v + 1) : Nat) : Int) := by rw [Nat.pow_succ, Int.natCast_mul]
    have pb : (3 : Nat) ^ 6 * 3 = 2187 := by decide
    have pn : m ^ (v + 1) ≤ 2187 := by rw [Nat.pow_succ]; omega
    obtain ⟨τ, t1, t2, t3⟩ := mt_p15 (β := β) (k := k) m1 m3 n6 j (v + 1) σ1 (by omega) (by rw [f1.i 6905]; exact hm) (fun i hi => by
      by_cases e : i = v
      · rw [hσ1, e, zA_s]
      · rw [hσ1, zA_i (by omega)]; exact h0 i (by omega))
    refine ⟨τ, ?_, f1.trans t2, t3⟩
    rw [yq_Mod_makesTrue_p15, kY_Mod_makesTrue_p15, if_neg (by omega), if_pos (by omega), lt_e, ← hσ1, f1.i 6905, hm, e1, if_pos (by omega), if_pos (by omega), show (v : Int) + 1 = ((v + 1 : Nat) : Int) by omega]
    exact t1
theorem mt_ok {ar : Int → Nat} {pd : Int → Prop} {m9 : Int} {β : Nat} (hβ : 4 ≤ β) (h00 : ar 0 = 0) {σ : zS} {Cs : List CL} {k : Nat} {c : CL} (hc : Cs[k]? = some c) (wc : Wc ar m9 c.1) {m : Nat} (m1 : 1 ≤ m) (m3 : m ≤ 3) (hC : Cx ar pd m9 σ) (hS : SC σ Cs) (hm : σ.1 6905 = (m : Int)) : ∃ τ, yE tC_Mod_makesTrue β σ [(k : Int)] = some (τ, b2 (mkT pd (σ.1 6904) m c.1)) ∧ FrC [] [70, 71] σ τ := by
  have h6 := wc.2.2.1
  obtain ⟨σ1, t1, t2, t3⟩ := mt_p15 (β := β) (k := (k : Int)) (n := (ntL [] c.1).length) m1 m3 h6 (ntL [] c.1).length 0 σ (by omega) hm (fun i hi => by omega)
  have pw : m ^ (ntL [] c.1).length ≤ 3 ^ 6 := Nat.le_trans (Nat.pow_le_pow_left m3 _) (Nat.pow_le_pow_right (by omega) h6)
  have pb : (3 : Nat) ^ 6 = 729 := by decide
  obtain ⟨τ, u1, u2⟩ := mt_p45 (pd := pd) hβ h00 hc wc m1 m3 (by omega) (m ^ (ntL [] c.1).length) 0 σ1 (hC.f t2) (hS.f t2) (by rw [t2.i 6905]; exact hm) (fun i hi => by rw [t3 i hi]; simp [dg]) (by omega)
  refine ⟨τ, ?_, t2.trans u2⟩
  have f5 : yE tC_Sto_fact (β - 1) σ [(k : Int), 5] = some (σ, ((ntL [] c.1).length : Int)) := by
    obtain ⟨s, s0, s1, s2⟩ := hS.k hc
    rw [fact_ok hS (by omega) (by omega) (by omega) (by omega), s.1.2.2.2.2.2.1]
  rw [Nat.pow_zero] at t1
  have t1' : yE tC_Mod_makesTrue_p15 β σ [(k : Int), ((ntL [] c.1).length : Int), 1, 0] = _ := t1
  have u1' : yE tC_Mod_makesTrue_p45 β σ1 [(k : Int), ((ntL [] c.1).length : Int), ((m ^ (ntL [] c.1).length : Nat) : Int), 0] = _ := u1
  rw [yq_Mod_makesTrue, kY_Mod_makesTrue, if_pos (by omega), zbd_of f5, t1', u1', t2.i 6904]
  congr 2
  exact b2_c ⟨fun q w h => q w (Nat.zero_le _) h, fun q w _ h => q w h⟩
/-- the CLAUSES of the text -/
def txT (pd : Int → Prop) (sd : Int) (m : Nat) (Cs : List CL) (n : Nat) : Prop := ∀ (k : Nat) c, k < n → Cs[k]? = some c → mkT pd sd m c.1
abbrev OF (σ τ : zS) : Prop := FrC [6904, 6905] [70, 71] σ τ
theorem suit_k {ar : Int → Nat} {pd : Int → Prop} {m9 : Int} {β : Nat} (hβ : 5 ≤ β) (h00 : ar 0 = 0) {Cs : List CL} (wC : ∀ c ∈ Cs, Wc ar m9 c.1) {m L : Nat} (m1 : 1 ≤ m) (m3 : m ≤ 3) (hL : L ≤ Cs.length) {x0 x1 : Int} : ∀ (j k : Nat) (σ : zS), Cx ar pd m9 σ → SC σ Cs → σ.1 6905 = (m : Int) → σ.1 5403 = (L : Int) → k + j = L → ∃ τ, yE tC_Mod_suitsText_p12 β σ [x0, x1, (k : Int)] = some (τ, b2 (∀ (i : Nat) c, k ≤ i → i < L → Cs[i]? = some c → mkT pd (σ.1 6904) m c.1)) ∧ FrC [] [70, 71] σ τ
  | 0, k, σ, hC, hS, hm, hl, hj => by
    refine ⟨σ, ?_, FrC.refl⟩
    rw [yq_Mod_suitsText_p12, kY_Mod_suitsText_p12, if_pos (by omega), b2_t]
    intro i c a b; omega
  | j + 1, k, σ, hC, hS, hm, hl, hj => by
    have h20 := hS.2.2.2.2.2.2.2
    obtain ⟨c, hc⟩ : ∃ c, Cs[k]? = some c := ⟨_, List.getElem?_eq_getElem (by omega)⟩
    obtain ⟨σ1, t1, t2⟩ := mt_ok (pd := pd) (β := β - 1) (by omega) h00 hc (wC c (List.mem_of_getElem? hc)) m1 m3 hC hS hm
    rw [yq_Mod_suitsText_p12, kY_Mod_suitsText_p12, if_neg (by omega), if_pos (by omega), zbd_of t1]
    by_cases h : mkT pd (σ.1 6904) m c.1
    · rw [b2_t h, if_neg (by decide), if_pos (by omega)]
      obtain ⟨τ, u1, u2⟩ := suit_k hβ h00 wC m1 m3 hL (x0 := x0) (x1 := x1) j (k + 1) σ1 (hC.f t2) (hS.f t2) (by rw [t2.i 6905]; exact hm) (by rw [t2.i 5403]; exact hl) (by omega)
      refine ⟨τ, ?_, t2.trans u2⟩
      rw [show (k : Int) + 1 = ((k + 1 : Nat) : Int) by omega, u1, t2.i 6904]
      congr 2
      refine b2_c ⟨fun q i d a b hd => ?_, fun q i d a b hd => q i d (by omega) b hd⟩
      by_cases e : i = k
      · rw [e, hc] at hd
        obtain rfl := Option.some.inj hd
        exact h
      · exact q i d (by omega) b hd
    · rw [b2_f h, if_pos rfl]
      refine ⟨σ1, ?_, t2⟩
      rw [b2_f]
      intro q
      exact h (q k c (Nat.le_refl _) (by omega) hc)
theorem suit_ok {ar : Int → Nat} {pd : Int → Prop} {m9 : Int} {β : Nat} (hβ : 5 ≤ β) (h00 : ar 0 = 0) {σ : zS} {Cs : List CL} (wC : ∀ c ∈ Cs, Wc ar m9 c.1) {m L : Nat} (m1 : 1 ≤ m) (m3 : m ≤ 3) (hL : L ≤ Cs.length) (hC : Cx ar pd m9 σ) (hS : SC σ Cs) (hl : σ.1 5403 = (L : Int)) {sd : Int} : ∃ τ, yE tC_Mod_suitsText β σ [sd, (m : Int)] = some (τ, b2 (txT pd sd m Cs L)) ∧ OF σ τ ∧ τ.1 6904 = sd ∧ τ.1 6905 = (m : Int) := by
  obtain ⟨σ1, hσ1⟩ : ∃ z, z = zI (zI σ 6904 sd) 6905 (m : Int) := ⟨_, rfl⟩
  have f1 : OF σ σ1 := by
    have b : OF σ (zI σ 6904 sd) := FrC_I
    rw [hσ1]; exact b.trans FrC_I
  have i4 : σ1.1 6904 = sd := by rw [hσ1, zI_o, zI_1]
  have i5 : σ1.1 6905 = (m : Int) := by rw [hσ1, zI_1]
  obtain ⟨τ, t1, t2, t3, t4⟩ : ∃ τ, yE tC_Mod_suitsText_p12 β σ1 [sd, (m : Int), ((0 : Nat) : Int)] = some (τ, b2 (∀ (i : Nat) c, 0 ≤ i → i < L → Cs[i]? = some c → mkT pd (σ1.1 6904) m c.1)) ∧ OF σ1 τ ∧ τ.1 6904 = sd ∧ τ.1 6905 = (m : Int) := by
    obtain ⟨τ, a, b⟩ := suit_k (pd := pd) hβ h00 wC m1 m3 hL (x0 := sd) (x1 := (m : Int)) L 0 σ1 (hC.f f1) (hS.f f1) i5 (by rw [f1.i 5403]; exact hl) (by omega)
    exact ⟨τ, a, b.w, by rw [b.i 6904]; exact i4, by rw [b.i 6905]; exact i5⟩
  refine ⟨τ, ?_, f1.trans t2, t3, t4⟩
  have t1' : yE tC_Mod_suitsText_p12 β σ1 [sd, (m : Int), 0] = _ := t1
  rw [yq_Mod_suitsText, kY_Mod_suitsText, lt_e, lt_e, ← hσ1, t1', i4]
  congr 2
  exact b2_c ⟨fun q k c a b => q k c (Nat.zero_le _) a b, fun q k c _ a b => q k c a b⟩
