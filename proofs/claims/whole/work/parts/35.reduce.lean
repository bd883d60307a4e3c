/-! LITERALS that are being made: is (0, 1), left, right; where the sides lie -/
abbrev Tm : Type := Nat × T
abbrev Lt : Type := Int × Tm × Tm
abbrev En : Type := Lt × Int × Int
abbrev tw (x : Tm) : Nat := 1 + wt x.2
abbrev tt (x : Tm) : T := nd x.1 x.2 nl
/-- a TERM at t, and it ends before 420000 -/
def Px (σ : zS) (x : Tm) (t : Int) : Prop := Pt σ x.1 x.2 t ∧ t + 1 + (wt x.2 : Int) ≤ 420000
def alikeL (a b : Lt) : Prop := (a.2.1 = b.2.1 ∧ a.2.2 = b.2.2) ∨ (a.2.1 = b.2.2 ∧ a.2.2 = b.2.1)
/-- well formed, and not deeper than H -/
def Lw (ar : Int → Nat) (p : Int → Prop) (H : Nat) (a : Lt) : Prop := (a.1 = 0 ∨ a.1 = 1) ∧ wf ar p (tt a.2.1) ∧ wf ar p (tt a.2.2) ∧ ht a.2.1.2 ≤ H ∧ ht a.2.2.2 ≤ H
/-- entry e stands in slot i of the new ones: newLeft 95, newRight 96, newIs 97 -/
def Ns (σ : zS) (i : Int) (e : En) : Prop := σ.2.1 95 i = e.2.1 ∧ σ.2.1 96 i = e.2.2 ∧ σ.2.1 97 i = e.1.1
/-- its sides lie in the pool -/
def Ne (σ : zS) (e : En) : Prop := Px σ e.1.2.1 e.2.1 ∧ Px σ e.1.2.2 e.2.2
def Nss (σ : zS) : Int → List En → Prop
  | _, [] => True
  | i, e :: E => Ns σ i e ∧ Nss σ (i + 1) E
theorem Px_q {σ τ : zS} {x : Tm} {t : Int} (h : Px σ x t) (q : Pq σ τ t (t + 1 + (wt x.2 : Int))) : Px τ x t := ⟨Pt_q q h.1, h.2⟩
theorem same_x {σ : zS} {ar : Int → Nat} {p : Int → Prop} {x y : Tm} {β : Nat} {t u : Int} (h1 : Px σ x t) (h2 : Px σ y u) (w1 : wf ar p (tt x)) (w2 : wf ar p (tt y)) (hd : ht x.2 ≤ β) : zE tM_same β σ [t, u] = some (σ, b2 (x = y)) := by
  rw [same_ok h1.1 h1.2 h2.1 h2.2 w1 w2 hd]
  congr 2
  exact b2_c ⟨fun w => Prod.ext w.1 w.2, fun w => by rw [w]; exact ⟨rfl, rfl⟩⟩
theorem alike_81_ok {σ : zS} {β : Nat} {a b : Int} : zE tM_alike_76 β σ [a, b] = some (σ, 1) ∧ zE tM_alike_80 β σ [a, b] = some (σ, 0) := by
  constructor
  · rw [zq_alike_76, kZ_alike_76, zq_alike_81, kZ_alike_81, if_pos (by omega)]
  · rw [zq_alike_80, kZ_alike_80, zq_alike_81, kZ_alike_81, if_pos (by omega)]
theorem alike_ok {σ : zS} {ar : Int → Nat} {p : Int → Prop} {H β : Nat} {a b : Int} {e f : En} (ha : 0 ≤ a ∧ a < 40) (hb : 0 ≤ b ∧ b < 40) (he : Ns σ a e) (hf : Ns σ b f) (qe : Ne σ e) (qf : Ne σ f) (we : Lw ar p H e.1) (wf' : Lw ar p H f.1) (hd : H + 1 ≤ β) : zE tM_alike β σ [a, b] = some (σ, b2 (alikeL e.1 f.1)) := by
  have s1 := same_x (β := β - 1) qe.1 qf.1 we.2.1 wf'.2.1 (by have := we.2.2.2.1; omega)
  have s2 := same_x (β := β - 1) qe.2 qf.2 we.2.2.1 wf'.2.2.1 (by have := we.2.2.2.2; omega)
  have s3 := same_x (β := β - 1) qe.1 qf.2 we.2.1 wf'.2.2.1 (by have := we.2.2.2.1; omega)
  have s4 := same_x (β := β - 1) qe.2 qf.1 we.2.2.1 wf'.2.1 (by have := we.2.2.2.2; omega)
  have t38 : ¬ (e.1.2.1 = f.1.2.1 ∧ e.1.2.2 = f.1.2.2) → zE tM_alike_38 β σ [a, b] = some (σ, b2 (alikeL e.1 f.1)) := fun hn => by
    rw [zq_alike_38, kZ_alike_38, if_pos (by omega), if_pos (by omega), if_pos (by omega), he.1, hf.2.1, zbd_of s3]
    by_cases h3 : e.1.2.1 = f.1.2.2
    · rw [b2_t h3, if_neg (by omega), if_pos (by omega), he.2.1, hf.1, zbd_of s4]
      by_cases h4 : e.1.2.2 = f.1.2.1
      · rw [b2_t h4, if_neg (by omega), alike_81_ok.1, b2_t (show alikeL e.1 f.1 from Or.inr ⟨h3, h4⟩)]
      · rw [b2_f h4, if_pos rfl, alike_81_ok.2, b2_f]
        intro w; rcases w with w | w
        · exact hn w
        · exact h4 w.2
    · rw [b2_f h3, if_pos rfl, alike_81_ok.2, b2_f]
      intro w; rcases w with w | w
      · exact hn w
      · exact h3 w.1
  rw [zq_alike, kZ_alike, if_pos (by omega), if_pos (by omega), if_pos (by omega), he.1, hf.1, zbd_of s1]
  by_cases h1 : e.1.2.1 = f.1.2.1
  · rw [b2_t h1, if_neg (by omega), if_pos (by omega), he.2.1, hf.2.1, zbd_of s2]
    by_cases h2 : e.1.2.2 = f.1.2.2
    · rw [b2_t h2, if_neg (by omega), alike_81_ok.1, b2_t (show alikeL e.1 f.1 from Or.inl ⟨h1, h2⟩)]
    · rw [b2_f h2, if_pos rfl]; exact t38 (fun w => h2 w.2)
  · rw [b2_f h1, if_pos rfl]; exact t38 (fun w => h1 w.1)
theorem sameLiteral_ok {σ : zS} {ar : Int → Nat} {p : Int → Prop} {H β : Nat} {a b : Int} {e f : En} (ha : 0 ≤ a ∧ a < 40) (hb : 0 ≤ b ∧ b < 40) (he : Ns σ a e) (hf : Ns σ b f) (qe : Ne σ e) (qf : Ne σ f) (we : Lw ar p H e.1) (wf' : Lw ar p H f.1) (hd : H + 2 ≤ β) : zE tM_sameLiteral β σ [a, b] = some (σ, b2 (e.1.1 = f.1.1 ∧ alikeL e.1 f.1)) := by
  have s1 := alike_ok (β := β - 1) ha hb he hf qe qf we wf' (by omega)
  rw [zq_sameLiteral, kZ_sameLiteral, if_pos (by omega), if_pos (by omega), he.2.2, hf.2.2]
  by_cases h1 : e.1.1 = f.1.1
  · rw [if_pos h1, if_pos (by omega), zbd_of s1]
    by_cases h2 : alikeL e.1 f.1
    · rw [b2_t h2, if_neg (by omega), zq_sameLiteral_29, kZ_sameLiteral_29, if_pos (by omega), b2_t ⟨h1, h2⟩]
    · rw [b2_f h2, if_pos rfl, zq_sameLiteral_28, kZ_sameLiteral_28, zq_sameLiteral_29, kZ_sameLiteral_29, if_pos (by omega), b2_f (fun w => h2 w.2)]
  · rw [if_neg h1, zq_sameLiteral_28, kZ_sameLiteral_28, zq_sameLiteral_29, kZ_sameLiteral_29, if_pos (by omega), b2_f (fun w => h1 w.1)]
/-- what of R is kept behind K: no s != s, and none that came before -/
noncomputable def dd : List En → List En → List En
  | K, [] => K
  | K, e :: R => @ite _ ((e.1.1 = 0 ∧ e.1.2.1 = e.1.2.2) ∨ ∃ f ∈ K, f.1.1 = e.1.1 ∧ alikeL f.1 e.1) (Classical.propDecidable _) (dd K R) (dd (K ++ [e]) R)
theorem Nss_q {σ τ : zS} : ∀ {E : List En} {i : Int}, Nss σ i E → (∀ j q, (j = 95 ∨ j = 96 ∨ j = 97) → i ≤ q → q < i + (E.length : Int) → τ.2.1 j q = σ.2.1 j q) → Nss τ i E
  | [], _, _, _ => trivial
  | e :: E, i, h, q => by
    simp only [List.length_cons] at q
    refine ⟨⟨?_, ?_, ?_⟩, Nss_q h.2 (fun j x a b c => q j x a (by omega) (by omega))⟩
    · rw [q 95 i (by simp) (by omega) (by omega)]; exact h.1.1
    · rw [q 96 i (by simp) (by omega) (by omega)]; exact h.1.2.1
    · rw [q 97 i (by simp) (by omega) (by omega)]; exact h.1.2.2
theorem Nss_get {σ : zS} : ∀ {E : List En} {i : Int} {m : Nat} {e : En}, Nss σ i E → E[m]? = some e → Ns σ (i + (m : Int)) e
  | [], i, m, e, _, h => by simp at h
  | f :: E, i, 0, e, hE, h => by simp at h; subst h; simpa using hE.1
  | f :: E, i, m + 1, e, hE, h => by
    have := Nss_get (i := i + 1) (m := m) hE.2 (by simpa using h)
    have e2 : i + 1 + (m : Int) = i + ((m + 1 : Nat) : Int) := by omega
    rw [← e2]; exact this
theorem Nss_app {σ : zS} : ∀ {E F : List En} {i : Int}, Nss σ i E → Nss σ (i + (E.length : Int)) F → Nss σ i (E ++ F)
  | [], F, i, _, h => by simpa using h
  | e :: E, F, i, h, g => by
    refine ⟨h.1, Nss_app h.2 ?_⟩
    have e2 : i + 1 + (E.length : Int) = i + (((e :: E).length : Nat) : Int) := by simp only [List.length_cons]; omega
    rw [e2]; exact g
theorem reduce_84_1 {σ : zS} {β : Nat} {x0 x1 : Int} (h9 : x0 < 1000) : ∀ (m : Nat) (i : Int), 0 ≤ i → i + (m : Int) = x0 → zE tM_reduce_84 β σ [x0, x1, 1, i] = zE tM_reduce_123 β σ [x0, x1]
  | 0, i, h0, h => by rw [zq_reduce_84, kZ_reduce_84, if_pos (by omega), if_neg (by omega)]
  | m + 1, i, h0, h => by
    rw [zq_reduce_84, kZ_reduce_84, if_neg (by omega), if_neg (by omega), zq_reduce_104, kZ_reduce_104, zq_reduce_109, kZ_reduce_109, if_pos (by omega)]
    exact reduce_84_1 h9 m (i + 1) (by omega) (by omega)
theorem reduce_84_ok {σ : zS} {ar : Int → Nat} {p : Int → Prop} {H β : Nat} {x1 : Int} {K : List En} {e : En} (hK : Nss σ 0 K) (hl : K.length < 40) (he : Ns σ (K.length : Int) e) (qK : ∀ f ∈ K, Ne σ f ∧ Lw ar p H f.1) (qe : Ne σ e) (we : Lw ar p H e.1) (hd : H + 3 ≤ β) : ∀ (m : Nat) (i : Nat), i + m = K.length → (∀ j f, j < i → K[j]? = some f → ¬ (f.1.1 = e.1.1 ∧ alikeL f.1 e.1)) →
    ((∃ f ∈ K, f.1.1 = e.1.1 ∧ alikeL f.1 e.1) → zE tM_reduce_84 β σ [(K.length : Int), x1, 0, (i : Int)] = zE tM_reduce_123 β σ [(K.length : Int), x1]) ∧
    (¬ (∃ f ∈ K, f.1.1 = e.1.1 ∧ alikeL f.1 e.1) → zE tM_reduce_84 β σ [(K.length : Int), x1, 0, (i : Int)] = zE tM_reduce_123 β σ [(K.length : Int) + 1, x1])
  | 0, i, hi, hb => by
    constructor
    · intro ⟨f, hf, hs⟩
      obtain ⟨j, hj, hj2⟩ := List.getElem_of_mem hf
      exact absurd hs (hb j f (by omega) (by rw [List.getElem?_eq_getElem hj, hj2]))
    · intro _
      rw [zq_reduce_84, kZ_reduce_84, if_pos (by omega), if_pos rfl, if_pos (by omega)]
  | m + 1, i, hi, hb => by
    obtain ⟨f, hf⟩ : ∃ f, K[i]? = some f := ⟨K[i]'(by omega), List.getElem?_eq_getElem (by omega)⟩
    have hm : f ∈ K := List.mem_of_getElem? hf
    have hs := Nss_get hK hf
    simp only [Int.zero_add] at hs
    have s1 := sameLiteral_ok (β := β - 1) (a := (i : Int)) (b := (K.length : Int)) ⟨by omega, by omega⟩ ⟨by omega, by omega⟩ hs he (qK f hm).1 qe (qK f hm).2 we (by omega)
    by_cases h : f.1.1 = e.1.1 ∧ alikeL f.1 e.1
    · rw [b2_t h] at s1
      refine ⟨fun _ => ?_, fun w => absurd ⟨f, hm, h⟩ w⟩
      rw [zq_reduce_84, kZ_reduce_84, if_neg (by omega), if_pos rfl, if_pos (by omega), zbd_of s1, if_neg (by omega), zq_reduce_104, kZ_reduce_104, zq_reduce_109, kZ_reduce_109, if_pos (by omega)]
      exact reduce_84_1 (by omega) m ((i : Int) + 1) (by omega) (by omega)
    · rw [b2_f h] at s1
      have IH := reduce_84_ok (x1 := x1) hK hl he qK qe we hd m (i + 1) (by omega) (fun j g hj hg => by
        rcases Nat.lt_or_ge j i with q | q
        · exact hb j g q hg
        · have : j = i := by omega
          subst this
          rw [hf] at hg
          cases hg
          exact h)
      have E : zE tM_reduce_84 β σ [(K.length : Int), x1, 0, (i : Int)] = zE tM_reduce_84 β σ [(K.length : Int), x1, 0, ((i + 1 : Nat) : Int)] := by
        rw [zq_reduce_84 (x3 := (i : Int)), kZ_reduce_84, if_neg (by omega), if_pos rfl, if_pos (by omega), zbd_of s1, if_pos rfl, zq_reduce_109, kZ_reduce_109, if_pos (by omega)]
        rfl
      rw [E]; exact IH
/-- rows 95 to 97, and the ints 98 and 101, may change -/
def Sr (σ τ : zS) : Prop := (∀ j, j ≠ 98 → j ≠ 101 → τ.1 j = σ.1 j) ∧ τ.2.2 = σ.2.2 ∧ ∀ j q, j ≠ 95 → j ≠ 96 → j ≠ 97 → τ.2.1 j q = σ.2.1 j q
theorem Sr.trans {σ τ ρ : zS} (h : Sr σ τ) (g : Sr τ ρ) : Sr σ ρ := ⟨fun j a b => by rw [g.1 j a b, h.1 j a b], by rw [g.2.1, h.2.1], fun j q a b c => by rw [g.2.2 j q a b c, h.2.2 j q a b c]⟩
theorem Sr.pq {σ τ : zS} (h : Sr σ τ) {lo hi : Int} : Pq σ τ lo hi := fun k i _ _ w => h.2.2 k i (by omega) (by omega) (by omega)
theorem Ne_q {σ τ : zS} (h : ∀ {lo hi : Int}, Pq σ τ lo hi) {e : En} (q : Ne σ e) : Ne τ e := ⟨Px_q q.1 h, Px_q q.2 h⟩
theorem reduce_4_ok {ar : Int → Nat} {p : Int → Prop} {H β : Nat} (hd : H + 3 ≤ β) : ∀ (R K : List En) (σ : zS) (i : Nat), Nss σ 0 K → Nss σ (i : Int) R → K.length ≤ i → ((i + R.length : Nat) : Int) = σ.1 98 → i + R.length ≤ 40 → (∀ f ∈ K, Ne σ f ∧ Lw ar p H f.1) → (∀ f ∈ R, Ne σ f ∧ Lw ar p H f.1) →
    ∃ τ, zE tM_reduce_4 β σ [(K.length : Int), (i : Int)] = zE tM_reduce_141 β τ [((dd K R).length : Int), 0] ∧ τ.1 98 = ((dd K R).length : Int) ∧ τ.1 101 = 0 ∧ Sr σ τ ∧ Nss τ 0 (dd K R)
  | [], K, σ, i, hK, hR, hl, hn, h40, qK, qR => by
    refine ⟨zI (zI σ 98 (K.length : Int)) 101 0, ?_, by simp [zI, dd], by simp [zI], ⟨fun j a b => by simp [zI, a, b], rfl, fun _ _ _ _ _ => rfl⟩, ?_⟩
    · simp only [List.length_nil] at hn
      rw [zq_reduce_4, kZ_reduce_4, if_pos (by omega)]; rfl
    · exact Nss_q hK (fun j q _ _ _ => rfl)
  | e :: R, K, σ, i, hK, hR, hl, hn, h40, qK, qR => by
    simp only [List.length_cons] at hn h40
    have qe := qR e (by simp)
    obtain ⟨n1, n2, n3⟩ := hR.1
    -- slot K.length gets what stands in slot i
    let τ := zA (zA (zA σ 95 (K.length : Int) e.2.1) 96 (K.length : Int) e.2.2) 97 (K.length : Int) e.1.1
    have S1 : Sr σ τ := ⟨fun _ _ _ => rfl, rfl, fun j q a b c => by simp [τ, zA, a, b, c]⟩
    have K1 : Nss τ 0 K := Nss_q hK (fun j q a b c => by
      have : ¬ q = (K.length : Int) := by omega
      simp [τ, zA, this])
    have R1 : Nss τ ((i + 1 : Nat) : Int) R := Nss_q hR.2 (fun j q a b c => by
      have : ¬ q = (K.length : Int) := by omega
      simp [τ, zA, this])
    have e1 : Ns τ (K.length : Int) e := ⟨by simp [τ, zA], by simp [τ, zA], by simp [τ, zA]⟩
    have QK : ∀ f ∈ K, Ne τ f ∧ Lw ar p H f.1 := fun f hf => ⟨Ne_q S1.pq (qK f hf).1, (qK f hf).2⟩
    have QR : ∀ f ∈ R, Ne τ f ∧ Lw ar p H f.1 := fun f hf => ⟨Ne_q S1.pq (qR f (by simp [hf])).1, (qR f (by simp [hf])).2⟩
    have h01 := qe.2.1
    have E43 : zE tM_reduce_43 β σ [(K.length : Int), (i : Int)] = zE tM_reduce_84 β τ [(K.length : Int), (i : Int), 0, 0] := by
      have f2 : (zA σ 95 (K.length : Int) e.2.1).2.1 96 (i : Int) = e.2.2 := by simp [zA, n2]
      have f3 : (zA (zA σ 95 (K.length : Int) e.2.1) 96 (K.length : Int) e.2.2).2.1 97 (i : Int) = e.1.1 := by simp [zA, n3]
      rw [zq_reduce_43, kZ_reduce_43, if_pos (by omega), if_pos (by omega), n1]
      simp only [lt_]
      rw [f2, f3, if_pos h01]
    have A := reduce_84_ok (x1 := (i : Int)) K1 (by omega) e1 QK (Ne_q S1.pq qe.1) qe.2 hd K.length 0 (by omega) (fun j f hj => by omega)
    replace A : ((∃ f ∈ K, f.1.1 = e.1.1 ∧ alikeL f.1 e.1) → zE tM_reduce_84 β τ [(K.length : Int), (i : Int), 0, 0] = zE tM_reduce_123 β τ [(K.length : Int), (i : Int)]) ∧ (¬ (∃ f ∈ K, f.1.1 = e.1.1 ∧ alikeL f.1 e.1) → zE tM_reduce_84 β τ [(K.length : Int), (i : Int), 0, 0] = zE tM_reduce_123 β τ [(K.length : Int) + 1, (i : Int)]) := A
    have B : ∀ (ρ : zS) (m : Int), zE tM_reduce_123 β ρ [m, (i : Int)] = zE tM_reduce_4 β ρ [m, ((i + 1 : Nat) : Int)] := fun ρ m => by
      rw [zq_reduce_123, kZ_reduce_123, if_pos (by omega)]; rfl
    by_cases hs : e.1.1 = 0 ∧ e.1.2.1 = e.1.2.2
    · -- s != s
      have s1 := same_x (β := β - 1) qe.1.1 qe.1.2 qe.2.2.1 qe.2.2.2.1 (by have := qe.2.2.2.2.1; omega)
      rw [b2_t hs.2] at s1
      obtain ⟨ρ, c1, c2, c3, c4, c5⟩ := reduce_4_ok hd R K σ (i + 1) hK hR.2 (by omega) (by omega) (by omega) qK (fun f hf => qR f (by simp [hf]))
      have hdd : dd K (e :: R) = dd K R := by simp only [dd]; exact if_pos (Or.inl hs)
      rw [hdd]
      refine ⟨ρ, ?_, c2, c3, c4, c5⟩
      rw [zq_reduce_4, kZ_reduce_4, if_neg (by omega), if_pos (by omega), n3, if_pos hs.1, if_pos (by omega), n1, n2, zbd_of s1, if_neg (by omega), B]
      exact c1
    · have E4 : zE tM_reduce_4 β σ [(K.length : Int), (i : Int)] = zE tM_reduce_84 β τ [(K.length : Int), (i : Int), 0, 0] := by
        rw [zq_reduce_4, kZ_reduce_4, if_neg (by omega), if_pos (by omega), n3]
        by_cases h0 : e.1.1 = 0
        · have s1 := same_x (β := β - 1) qe.1.1 qe.1.2 qe.2.2.1 qe.2.2.2.1 (by have := qe.2.2.2.2.1; omega)
          rw [b2_f (fun w => hs ⟨h0, w⟩)] at s1
          rw [if_pos h0, if_pos (by omega), n1, n2, zbd_of s1, if_pos rfl]; exact E43
        · rw [if_neg h0]; exact E43
      by_cases hx : ∃ f ∈ K, f.1.1 = e.1.1 ∧ alikeL f.1 e.1
      · obtain ⟨ρ, c1, c2, c3, c4, c5⟩ := reduce_4_ok hd R K τ (i + 1) K1 R1 (by omega) (by show _ = σ.1 98; omega) (by omega) QK QR
        have hdd : dd K (e :: R) = dd K R := by simp only [dd]; exact if_pos (Or.inr hx)
        rw [hdd]
        exact ⟨ρ, by rw [E4, A.1 hx, B]; exact c1, c2, c3, S1.trans c4, c5⟩
      · have hKe : Nss τ 0 (K ++ [e]) := Nss_app K1 (by simpa using ⟨e1, trivial⟩)
        have hle : (K ++ [e]).length = K.length + 1 := by simp
        obtain ⟨ρ, c1, c2, c3, c4, c5⟩ := reduce_4_ok hd R (K ++ [e]) τ (i + 1) hKe R1 (by omega) (by show _ = σ.1 98; omega) (by omega) (fun f hf => by
          rcases List.mem_append.mp hf with q | q
          · exact QK f q
          · simp at q; subst q; exact ⟨Ne_q S1.pq qe.1, qe.2⟩) QR
        have hdd : dd K (e :: R) = dd (K ++ [e]) R := by simp only [dd]; exact if_neg (fun w => w.elim hs hx)
        rw [hdd]
        have hle2 : ((K ++ [e]).length : Int) = (K.length : Int) + 1 := by rw [hle]; omega
        rw [hle2] at c1
        exact ⟨ρ, by rw [E4, A.2 hx, B]; exact c1, c2, c3, S1.trans c4, c5⟩
/-! the numbers of their VARIABLES -/
noncomputable def renT (N : List Int) (x : Tm) : Tm := (if cl x.1 < 0 then cu (-1 - (idx N (cl x.1) : Int)) else x.1, if cl x.1 < 0 then x.2 else ren N x.2)
theorem renT_wt (N : List Int) (x : Tm) : wt (renT N x).2 = wt x.2 := by
  unfold renT
  split <;> simp [ren_wt]
noncomputable def rnE : List Int → List En → List En
  | _, [] => []
  | N, e :: E => ((e.1.1, renT N e.1.2.1, renT (nt N (tt e.1.2.1)) e.1.2.2), e.2) :: rnE (nt (nt N (tt e.1.2.1)) (tt e.1.2.2)) E
def ntE : List Int → List En → List Int
  | N, [] => N
  | N, e :: E => ntE (nt (nt N (tt e.1.2.1)) (tt e.1.2.2)) E
def wtE : List En → Nat
  | [] => 0
  | e :: E => tw e.1.2.1 + tw e.1.2.2 + wtE E
def dj (a : Int) (x : Tm) (b : Int) (y : Tm) : Prop := a + 1 + (wt x.2 : Int) ≤ b ∨ b + 1 + (wt y.2 : Int) ≤ a
def djE (a : Int) (x : Tm) (E : List En) : Prop := ∀ f ∈ E, dj a x f.2.1 f.1.2.1 ∧ dj a x f.2.2 f.1.2.2
def Dj : List En → Prop
  | [] => True
  | e :: E => dj e.2.1 e.1.2.1 e.2.2 e.1.2.2 ∧ djE e.2.1 e.1.2.1 E ∧ djE e.2.2 e.1.2.2 E ∧ Dj E
/-- q lies in a side of one of them -/
def inE (q : Int) (E : List En) : Prop := ∃ f ∈ E, (f.2.1 ≤ q ∧ q < f.2.1 + 1 + (wt f.1.2.1.2 : Int)) ∨ (f.2.2 ≤ q ∧ q < f.2.2 + 1 + (wt f.1.2.2.2 : Int))
theorem rnE_Nss {σ : zS} : ∀ {E : List En} {N : List Int} {i : Int}, Nss σ i E → Nss σ i (rnE N E)
  | [], _, _, _ => trivial
  | e :: E, N, i, h => ⟨h.1, rnE_Nss h.2⟩
theorem reduce_141_ok {ar : Int → Nat} {p : Int → Prop} {H β : Nat} {x0 : Int} (hd : H + 1 ≤ β) : ∀ (E : List En) (σ : zS) (i : Nat) (N : List Int), Nss σ (i : Int) E → ((i + E.length : Nat) : Int) = σ.1 98 → i + E.length ≤ 40 → (∀ f ∈ E, Ne σ f ∧ Lw ar p H f.1) → Dj E → Nm σ N → N.length + wtE E ≤ 400 →
    ∃ τ, zE tM_reduce_141 β σ [x0, (i : Int)] = some (τ, 0) ∧ (∀ f ∈ rnE N E, Ne τ f) ∧ Nm τ (ntE N E) ∧ (∀ j, j ≠ 101 → τ.1 j = σ.1 j) ∧ τ.2.2 = σ.2.2 ∧ ∀ j q, j ≠ 100 → ¬ (j = 43 ∧ inE q E) → τ.2.1 j q = σ.2.1 j q
  | [], σ, i, N, hE, hn, h40, qE, dE, hN, hl => by
    simp only [List.length_nil] at hn
    refine ⟨σ, ?_, fun f hf => by simp [rnE] at hf, hN, fun _ _ => rfl, rfl, fun _ _ _ _ => rfl⟩
    rw [zq_reduce_141, kZ_reduce_141, if_pos (by omega)]
  | e :: E, σ, i, N, hE, hn, h40, qE, dE, hN, hl => by
    simp only [List.length_cons] at hn h40
    simp only [wtE, tw] at hl
    obtain ⟨n1, n2, n3⟩ := hE.1
    obtain ⟨qe, we⟩ := qE e (by simp)
    obtain ⟨d1, d2, d3, d4⟩ := dE
    obtain ⟨τ1, e1, S1, N1, P1⟩ := number_ok (β := β - 1) qe.1.1 qe.1.2 we.2.1 hN (by omega) (by have := we.2.2.2.1; omega)
    have l1 := nt_len (nd e.1.2.1.1 e.1.2.1.2 nl) N
    simp only [wt] at l1
    have q2 : Px τ1 e.1.2.2 e.2.2 := Px_q qe.2 (S1.pq (by rcases d1 with w | w <;> omega))
    obtain ⟨τ2, e2, S2, N2, P2⟩ := number_ok (β := β - 1) q2.1 q2.2 we.2.2.1 N1 (by omega) (by have := we.2.2.2.2; omega)
    have l2 := nt_len (nd e.1.2.2.1 e.1.2.2.2 nl) (nt N (nd e.1.2.1.1 e.1.2.1.2 nl))
    simp only [wt] at l2
    have F12 : ∀ j q, j ≠ 100 → ¬ (j = 43 ∧ ((e.2.1 ≤ q ∧ q < e.2.1 + 1 + (wt e.1.2.1.2 : Int)) ∨ (e.2.2 ≤ q ∧ q < e.2.2 + 1 + (wt e.1.2.2.2 : Int)))) → τ2.2.1 j q = σ.2.1 j q := fun j q a b => by
      rw [S2.2.2 j q a (fun w => b ⟨w.1, Or.inr w.2⟩), S1.2.2 j q a (fun w => b ⟨w.1, Or.inl w.2⟩)]
    have QE : ∀ f ∈ E, Ne τ2 f ∧ Lw ar p H f.1 := fun f hf => by
      obtain ⟨g1, g2⟩ := d2 f hf
      obtain ⟨g3, g4⟩ := d3 f hf
      obtain ⟨u1, u2⟩ := qE f (by simp [hf])
      refine ⟨⟨Px_q u1.1 (fun k q a b c => F12 k q (by omega) ?_), Px_q u1.2 (fun k q a b c => F12 k q (by omega) ?_)⟩, u2⟩
      · intro w; rcases g1 with g | g <;> rcases g3 with g' | g' <;> rcases w.2 with w | w <;> omega
      · intro w; rcases g2 with g | g <;> rcases g4 with g' | g' <;> rcases w.2 with w | w <;> omega
    obtain ⟨τ3, e3, Q3, N3, I3, L3, F3⟩ := reduce_141_ok hd E τ2 (i + 1) _ (Nss_q hE.2 (fun j q a _ _ => F12 j q (by omega) (by omega))) (by rw [S2.1 98 (by omega), S1.1 98 (by omega)]; omega) (by omega) QE d4 N2 (by omega)
    refine ⟨τ3, ?_, ?_, N3, ?_, ?_, ?_⟩
    · rw [zq_reduce_141, kZ_reduce_141, if_neg (by omega), if_pos (by omega), if_pos (by omega), n1, zbd_of e1, if_pos (by omega), S1.2.2 96 _ (by omega) (by omega), n2, zbd_of e2, if_pos (by omega)]
      exact e3
    · intro f hf
      simp only [rnE, List.mem_cons] at hf
      rcases hf with rfl | hf
      · have z1 : Px τ2 (renT N e.1.2.1) e.2.1 := ⟨Pt_q (S2.pq (by rw [renT_wt]; rcases d1 with w | w <;> omega)) P1, by rw [renT_wt]; exact qe.1.2⟩
        have z2 : Px τ2 (renT (nt N (tt e.1.2.1)) e.1.2.2) e.2.2 := ⟨P2, by rw [renT_wt]; exact qe.2.2⟩
        refine ⟨Px_q z1 (fun k q a b c => F3 k q (by omega) ?_), Px_q z2 (fun k q a b c => F3 k q (by omega) ?_)⟩
        · intro ⟨_, g, hg, w⟩
          simp only [renT_wt] at a b
          obtain ⟨g1, g2⟩ := d2 g hg
          rcases g1 with g1 | g1 <;> rcases g2 with g2 | g2 <;> rcases w with w | w <;> omega
        · intro ⟨_, g, hg, w⟩
          simp only [renT_wt] at a b
          obtain ⟨g1, g2⟩ := d3 g hg
          rcases g1 with g1 | g1 <;> rcases g2 with g2 | g2 <;> rcases w with w | w <;> omega
      · exact Q3 f hf
    · intro j w; rw [I3 j w, S2.1 j w, S1.1 j w]
    · rw [L3, S2.2.1, S1.2.1]
    · intro j q a b
      rw [F3 j q a (fun w => b ⟨w.1, by obtain ⟨g, hg, u⟩ := w.2; exact ⟨g, by simp [hg], u⟩⟩)]
      exact F12 j q a (fun w => b ⟨w.1, e, by simp, w.2⟩)
/-- the new ones: so many, where they stand, and that they are well formed -/
def Nw (ar : Int → Nat) (p : Int → Prop) (H : Nat) (σ : zS) (E : List En) : Prop := σ.1 98 = (E.length : Int) ∧ E.length ≤ 40 ∧ Nss σ 0 E ∧ ∀ f ∈ E, Ne σ f ∧ Lw ar p H f.1
theorem reduce_ok {ar : Int → Nat} {p : Int → Prop} {H β : Nat} {σ : zS} {E : List En} (hd : H + 3 ≤ β) (h : Nw ar p H σ E) (hj : Dj (dd [] E)) (hw : wtE (dd [] E) ≤ 400) (hL : ∀ f ∈ dd [] E, f ∈ E) :
    ∃ τ, zE tM_reduce β σ [] = some (τ, 0) ∧ τ.1 98 = ((dd [] E).length : Int) ∧ Nss τ 0 (rnE [] (dd [] E)) ∧ (∀ f ∈ rnE [] (dd [] E), Ne τ f) ∧ Nm τ (ntE [] (dd [] E)) ∧ (∀ j, j ≠ 98 → j ≠ 101 → τ.1 j = σ.1 j) ∧ τ.2.2 = σ.2.2 ∧ ∀ j q, j ≠ 95 → j ≠ 96 → j ≠ 97 → j ≠ 100 → ¬ (j = 43 ∧ inE q (dd [] E)) → τ.2.1 j q = σ.2.1 j q := by
  obtain ⟨h1, h2, h3, h4⟩ := h
  obtain ⟨τ1, e1, c1, c2, c3, c4⟩ := reduce_4_ok hd E [] σ 0 trivial h3 (by simp) (by simpa using h1.symm) (by simpa using h2) (fun f hf => by cases hf) h4
  have hlen : (dd [] E).length ≤ 40 := by
    have : ∀ (R K : List En), (dd K R).length ≤ K.length + R.length := by
      intro R
      induction R with
      | nil => intro K; simp [dd]
      | cons e R ih =>
        intro K
        simp only [dd, List.length_cons]
        split
        · have := ih K; omega
        · have := ih (K ++ [e]); simp only [List.length_append, List.length_cons, List.length_nil] at this; omega
    have := this E []
    simp at this; omega
  obtain ⟨τ2, e2, q2, n2, i2, l2, f2⟩ := reduce_141_ok (x0 := ((dd [] E).length : Int)) (ar := ar) (p := p) (H := H) (β := β) (by omega) (dd [] E) τ1 0 [] c4 (by rw [c1]; simp) (by simpa using hlen) (fun f hf => ⟨Ne_q c3.pq (h4 f (hL f hf)).1, (h4 f (hL f hf)).2⟩) hj ⟨by rw [c2]; rfl, fun i c w => by simp at w⟩ (by simpa using hw)
  refine ⟨τ2, ?_, ?_, ?_, q2, n2, ?_, ?_, ?_⟩
  · rw [zq_reduce, kZ_reduce]
    have := e1
    simp only [List.length_nil] at this
    exact this.trans e2
  · rw [i2 98 (by omega)]; exact c1
  · exact rnE_Nss (Nss_q c4 (fun j q a _ _ => f2 j q (by omega) (by omega)))
  · intro j a b; rw [i2 j b]; exact c3.1 j a b
  · rw [l2]; exact c3.2.1
  · intro j q a b c d w
    rw [f2 j q d w]; exact c3.2.2 j q a b c
theorem dd_mem : ∀ {R K : List En} {f : En}, f ∈ dd K R → f ∈ K ∨ f ∈ R := by
  intro R
  induction R with
  | nil => intro K f h; exact Or.inl h
  | cons e R ih =>
    intro K f h
    simp only [dd] at h
    by_cases w : ((e.1.1 = 0 ∧ e.1.2.1 = e.1.2.2) ∨ ∃ f ∈ K, f.1.1 = e.1.1 ∧ alikeL f.1 e.1)
    · rw [if_pos w] at h
      rcases ih h with q | q
      · exact Or.inl q
      · exact Or.inr (by simp [q])
    · rw [if_neg w] at h
      rcases ih h with q | q
      · rcases List.mem_append.mp q with z | z
        · exact Or.inl z
        · exact Or.inr (by simp at z; simp [z])
      · exact Or.inr (by simp [q])
/-! TAUTOLOGY -/
def taut (E : List En) : Prop := ∃ e ∈ E, ¬ e.1.1 = 0 ∧ (e.1.2.1 = e.1.2.2 ∨ ∃ f ∈ E, f.1.1 = 0 ∧ alikeL e.1 f.1)
theorem tautology_45_ok {ar : Int → Nat} {p : Int → Prop} {H β : Nat} {σ : zS} {E : List En} (hd : H + 2 ≤ β) (h : Nw ar p H σ E) {i : Nat} {e : En} (he : E[i]? = some e) : ∀ (m j : Nat), j + m = E.length →
    ((∃ q f, j ≤ q ∧ E[q]? = some f ∧ f.1.1 = 0 ∧ alikeL e.1 f.1) → zE tM_tautology_45 β σ [(i : Int), (j : Int)] = some (σ, 1)) ∧
    (¬ (∃ q f, j ≤ q ∧ E[q]? = some f ∧ f.1.1 = 0 ∧ alikeL e.1 f.1) → zE tM_tautology_45 β σ [(i : Int), (j : Int)] = zE tM_tautology_79 β σ [(i : Int)])
  | 0, j, hj => by
    constructor
    · intro ⟨q, f, h1, h2, _⟩
      have : q < E.length := (List.getElem?_eq_some_iff.mp h2).1
      omega
    · intro _
      rw [zq_tautology_45, kZ_tautology_45, h.1, if_pos (by omega)]
  | m + 1, j, hj => by
    obtain ⟨f, hf⟩ : ∃ f, E[j]? = some f := ⟨E[j]'(by omega), List.getElem?_eq_getElem (by omega)⟩
    have hi : i < E.length := (List.getElem?_eq_some_iff.mp he).1
    have sf := Nss_get h.2.2.1 hf
    have se := Nss_get h.2.2.1 he
    simp only [Int.zero_add] at sf se
    have h40 := h.2.1
    obtain ⟨qe, we⟩ := h.2.2.2 e (List.mem_of_getElem? he)
    obtain ⟨qf, wf'⟩ := h.2.2.2 f (List.mem_of_getElem? hf)
    have IH := tautology_45_ok hd h he m (j + 1) (by omega)
    have hstep : ¬ (f.1.1 = 0 ∧ alikeL e.1 f.1) → zE tM_tautology_45 β σ [(i : Int), (j : Int)] = zE tM_tautology_45 β σ [(i : Int), ((j + 1 : Nat) : Int)] := fun hn => by
      have E73 : zE tM_tautology_73 β σ [(i : Int), (j : Int)] = zE tM_tautology_45 β σ [(i : Int), ((j + 1 : Nat) : Int)] := by
        rw [zq_tautology_73, kZ_tautology_73, if_pos (by omega)]; rfl
      rw [zq_tautology_45 (x1 := (j : Int)), kZ_tautology_45, h.1, if_neg (by omega), if_pos (by omega), sf.2.2]
      by_cases h0 : f.1.1 = 0
      · have s1 := alike_ok (β := β - 1) (a := (i : Int)) (b := (j : Int)) ⟨by omega, by omega⟩ ⟨by omega, by omega⟩ se sf qe qf we wf' (by omega)
        rw [b2_f (fun w => hn ⟨h0, w⟩)] at s1
        rw [if_pos h0, if_pos (by omega), zbd_of s1, if_pos rfl]; exact E73
      · rw [if_neg h0]; exact E73
    by_cases hq : f.1.1 = 0 ∧ alikeL e.1 f.1
    · refine ⟨fun _ => ?_, fun w => absurd ⟨j, f, Nat.le_refl _, hf, hq⟩ w⟩
      have s1 := alike_ok (β := β - 1) (a := (i : Int)) (b := (j : Int)) ⟨by omega, by omega⟩ ⟨by omega, by omega⟩ se sf qe qf we wf' (by omega)
      rw [b2_t hq.2] at s1
      rw [zq_tautology_45, kZ_tautology_45, h.1, if_neg (by omega), if_pos (by omega), sf.2.2, if_pos hq.1, if_pos (by omega), zbd_of s1, if_neg (by omega)]
    · rw [hstep hq]
      refine ⟨fun ⟨q, g, h1, h2, h3⟩ => IH.1 ⟨q, g, ?_, h2, h3⟩, fun w => IH.2 (fun ⟨q, g, h1, h2⟩ => w ⟨q, g, by omega, h2⟩)⟩
      rcases Nat.lt_or_ge j q with z | z
      · omega
      · have : q = j := by omega
        subst this
        rw [hf] at h2
        cases h2
        exact absurd h3 hq
theorem tautology_2_ok {ar : Int → Nat} {p : Int → Prop} {H β : Nat} {σ : zS} {E : List En} (hd : H + 2 ≤ β) (h : Nw ar p H σ E) : ∀ (m i : Nat), i + m = E.length →
    zE tM_tautology_2 β σ [(i : Int)] = some (σ, b2 (∃ q e, i ≤ q ∧ E[q]? = some e ∧ ¬ e.1.1 = 0 ∧ (e.1.2.1 = e.1.2.2 ∨ ∃ f ∈ E, f.1.1 = 0 ∧ alikeL e.1 f.1)))
  | 0, i, hi => by
    rw [zq_tautology_2, kZ_tautology_2, h.1, if_pos (by omega), b2_f]
    intro ⟨q, f, h1, h2, _⟩
    have : q < E.length := (List.getElem?_eq_some_iff.mp h2).1
    omega
  | m + 1, i, hi => by
    obtain ⟨e, he⟩ : ∃ f, E[i]? = some f := ⟨E[i]'(by omega), List.getElem?_eq_getElem (by omega)⟩
    have se := Nss_get h.2.2.1 he
    simp only [Int.zero_add] at se
    have h40 := h.2.1
    obtain ⟨qe, we⟩ := h.2.2.2 e (List.mem_of_getElem? he)
    have IH := tautology_2_ok hd h m (i + 1) (by omega)
    have E79 : zE tM_tautology_79 β σ [(i : Int)] = zE tM_tautology_2 β σ [((i + 1 : Nat) : Int)] := by
      rw [zq_tautology_79, kZ_tautology_79, if_pos (by omega)]; rfl
    have next : ¬ (¬ e.1.1 = 0 ∧ (e.1.2.1 = e.1.2.2 ∨ ∃ f ∈ E, f.1.1 = 0 ∧ alikeL e.1 f.1)) → zE tM_tautology_79 β σ [(i : Int)] = some (σ, b2 (∃ q e, i ≤ q ∧ E[q]? = some e ∧ ¬ e.1.1 = 0 ∧ (e.1.2.1 = e.1.2.2 ∨ ∃ f ∈ E, f.1.1 = 0 ∧ alikeL e.1 f.1))) := fun hn => by
      rw [E79, IH]
      congr 2
      refine b2_c ⟨fun ⟨q, g, h1, h2⟩ => ⟨q, g, by omega, h2⟩, fun ⟨q, g, h1, h2, h3⟩ => ⟨q, g, ?_, h2, h3⟩⟩
      rcases Nat.lt_or_ge i q with z | z
      · omega
      · have : q = i := by omega
        subst this
        rw [he] at h2
        cases h2
        exact absurd h3 hn
    rw [zq_tautology_2, kZ_tautology_2, h.1, if_neg (by omega), if_pos (by omega), se.2.2]
    by_cases h0 : e.1.1 = 0
    · rw [if_pos h0]; exact next (fun w => w.1 h0)
    · have s1 := same_x (β := β - 1) qe.1 qe.2 we.2.1 we.2.2.1 (by have := we.2.2.2.1; omega)
      rw [if_neg h0, if_pos (by omega), se.1, se.2.1, zbd_of s1]
      by_cases hs : e.1.2.1 = e.1.2.2
      · rw [b2_t hs, if_neg (by omega), b2_t ⟨i, e, Nat.le_refl _, he, h0, Or.inl hs⟩]
      · rw [b2_f hs, if_pos rfl]
        have A := tautology_45_ok hd h he E.length 0 (by omega)
        by_cases hx : ∃ f ∈ E, f.1.1 = 0 ∧ alikeL e.1 f.1
        · obtain ⟨f, hf, hx1⟩ := hx
          obtain ⟨q, hq, hq2⟩ := List.getElem_of_mem hf
          rw [b2_t ⟨i, e, Nat.le_refl _, he, h0, Or.inr ⟨f, hf, hx1⟩⟩]
          exact A.1 ⟨q, f, Nat.zero_le _, by rw [List.getElem?_eq_getElem hq, hq2], hx1⟩
        · have := A.2 (fun ⟨q, f, _, h2, h3⟩ => hx ⟨f, List.mem_of_getElem? h2, h3⟩)
          refine Eq.trans this (next (fun w => w.2.elim hs hx))
theorem tautology_ok {ar : Int → Nat} {p : Int → Prop} {H β : Nat} {σ : zS} {E : List En} (hd : H + 2 ≤ β) (h : Nw ar p H σ E) : zE tM_tautology β σ [] = some (σ, b2 (taut E)) := by
  rw [zq_tautology, kZ_tautology]
  have := tautology_2_ok hd h E.length 0 (by omega)
  refine Eq.trans this ?_
  congr 2
  refine b2_c ⟨fun ⟨q, e, _, h2, h3⟩ => ⟨e, List.mem_of_getElem? h2, h3⟩, fun ⟨e, he, h3⟩ => ?_⟩
  obtain ⟨q, hq, hq2⟩ := List.getElem_of_mem he
  exact ⟨q, e, Nat.zero_le _, by rw [List.getElem?_eq_getElem hq, hq2], h3⟩
