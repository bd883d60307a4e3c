/-! the SYMBOLS of a TEXT: NAMES, then WITNESSES in the order of their VARIABLES -/
noncomputable def wS (nm : PN) (SL : List SE) (v : Nat) : Nat := cu ((nm.length + 1 + rkR (RPs SL) v : Nat) : Int)
noncomputable def m9S (nm : PN) (SL : List SE) (b : Nat) : Int := ((nm.length + 1 + rkR (RPs SL) b : Nat) : Int)
def acS (SL : List SE) (v m : Nat) : Prop := ∃ e ∈ SL, arE e v m
noncomputable def arW (SL : List SE) (v : Nat) : Nat := @dite _ (∃ m, acS SL v m) (Classical.propDecidable _) (fun h => Classical.choose h) (fun _ => 0)
noncomputable def vW (SL : List SE) (r : Nat) : Nat := @dite _ (∃ v, RPs SL v ∧ rkR (RPs SL) v = r) (Classical.propDecidable _) (fun h => Classical.choose h) (fun _ => 0)
noncomputable def arS (nm : PN) (SL : List SE) (c : Int) : Nat := if c ≤ 0 then 0 else if c ≤ (nm.length : Int) then ((nm.getD (c - 1).toNat ([], 0, 0)).2.2).toNat else arW SL (vW SL (c - 1 - (nm.length : Int)).toNat)
def pdS (nm : PN) (c : Int) : Prop := c = 0 ∨ (1 ≤ c ∧ ∃ x, nm[(c - 1).toNat]? = some x ∧ x.2.1 = 1)
def pS (m9 c : Int) : Prop := -300 ≤ c ∧ c < m9
/-- one number of those around for each VARIABLE -/
def UA (SL : List SE) : Prop := ∀ v m m2, acS SL v m → acS SL v m2 → m = m2
theorem arW_e {SL : List SE} (hU : UA SL) {v m : Nat} (h : acS SL v m) : arW SL v = m := by
  unfold arW
  rw [dif_pos ⟨m, h⟩]
  exact hU v _ _ (Classical.choose_spec (⟨m, h⟩ : ∃ m, acS SL v m)) h
theorem vW_e {SL : List SE} {v : Nat} (h : RPs SL v) : vW SL (rkR (RPs SL) v) = v := by
  unfold vW
  have hx : ∃ u, RPs SL u ∧ rkR (RPs SL) u = rkR (RPs SL) v := ⟨v, h, rfl⟩
  rw [dif_pos hx]
  obtain ⟨h1, h2⟩ := Classical.choose_spec hx
  generalize Classical.choose hx = u at *
  rcases Nat.lt_trichotomy u v with c | c | c
  · have := rkR_lt (RPs SL) c h1; omega
  · exact c
  · have := rkR_lt (RPs SL) c h; omega
theorem arS_w {nm : PN} {SL : List SE} (hU : UA SL) {v m : Nat} (h : RPs SL v) (ha : acS SL v m) : arS nm SL ((nm.length + 1 + rkR (RPs SL) v : Nat) : Int) = m := by
  unfold arS
  rw [if_neg (by omega), if_neg (by omega), show ((((nm.length + 1 + rkR (RPs SL) v : Nat) : Int) - 1 - (nm.length : Int)).toNat) = rkR (RPs SL) v by omega, vW_e h]
  exact arW_e hU ha
theorem arS_n {nm : PN} {SL : List SE} {b : Nat} (hv : ∀ x ∈ nm, (x.2.1 = 1 ∨ x.2.1 = 2) ∧ 0 ≤ x.2.2) : ∀ (j : Nat) x, nm[j]? = some x → x.2.1 = 1 ∨ x.2.1 = 2 → x.2.2 = (arS nm SL ((j : Int) + 1) : Int) ∧ pS (m9S nm SL b) ((j : Int) + 1) := fun j x hx _ => by
  have hj := (List.getElem?_eq_some_iff.mp hx).1
  have h0 := (hv x (List.mem_of_getElem? hx)).2
  refine ⟨?_, by unfold pS m9S; omega⟩
  unfold arS
  rw [if_neg (by omega), if_pos (by omega), show ((j : Int) + 1 - 1).toNat = j by omega]
  have : nm.getD j ([], 0, 0) = x := by rw [List.getD_eq_getElem?_getD, hx]; rfl
  rw [this]
  omega
theorem SQ.at {nm : PN} : ∀ {L : List SE} {lo hi : Nat}, SQ nm L lo hi → ∀ {k : Nat} {e : SE}, L[k]? = some e → ∃ a c, QV (fun v => a ≤ v ∧ v < c) (tt e.2.2.1) ∧ (∀ v ∈ e.2.2.2, (a : Int) ≤ v ∧ v < (c : Int)) ∧ (∀ s, rF e.2.2.1 s ≤ 61) ∧ WFo1 nm e.2.2.1 (fun v => v ∈ e.2.2.2) ∧ c ≤ hi
  | [], lo, hi, _, k, e, h => by cases h
  | x :: L, lo, hi, ⟨mid, a, b, c, d, f, g⟩, 0, e, h => by
    cases h
    have hle : ∀ {L : List SE} {lo hi : Nat}, SQ nm L lo hi → lo ≤ hi := by
      intro L
      induction L with
      | nil => intro lo hi h; exact h
      | cons y L ih => intro lo hi h; obtain ⟨m, q, _, _, _, _, r⟩ := h; have := ih r; omega
    exact ⟨lo, mid, b, c, d, f, hle g⟩
  | x :: L, lo, hi, ⟨mid, a, b, c, d, f, g⟩, k + 1, e, h => SQ.at g h
theorem rk_in {nm : PN} {SL : List SE} {b : Nat} (hT : TXo nm SL b) {v : Nat} (h : RPs SL v) : v < b ∧ rkR (RPs SL) v < rkR (RPs SL) b := by
  obtain ⟨e, he, hr⟩ := id h
  obtain ⟨k, hk⟩ := List.getElem?_of_mem he
  obtain ⟨_, _, _, _, _, hw, _⟩ := hT.1.at hk
  have := hT.2.1.rg hk (rpSe_in (FS_of hw) hr)
  exact ⟨this.2, rkR_lt _ this.2 h⟩
theorem wS_q {nm : PN} {SL : List SE} {b : Nat} (hT : TXo nm SL b) (hU : UA SL) {v m : Nat} (h : RPs SL v) (ha : acS SL v m) : 0 ≤ cl (wS nm SL v) ∧ arS nm SL (cl (wS nm SL v)) = m ∧ pS (m9S nm SL b) (cl (wS nm SL v)) := by
  unfold wS
  rw [cl_cu]
  have := (rk_in hT h).2
  exact ⟨by omega, arS_w hU h ha, by unfold pS m9S; omega⟩
theorem wS_k {nm : PN} {SL : List SE} {q : Nat → Nat → Prop} {e : SE} (he : e ∈ SL) (hf : FS (tt e.2.2.1)) (hq : ∀ v m, RPs SL v → acS SL v m → q v m) : wK2 q e.2.2.1 e.2.2.2.length (!e.2.1) ∧ (e.2.1 = true → ∀ (i : Nat) v, e.2.2.2[i]? = some v → 0 ≤ v → q v.toNat i) := by
  refine ⟨wK2_of _ hf _ (wyE e) _ ?_ (fun v m h1 h2 => hq v m ⟨e, he, Or.inr h2⟩ ⟨e, he, Or.inr h1⟩), fun hp i v hv h0 => ?_⟩
  · unfold cvW wyE
    cases e.2.1 <;> exact Or.inr rfl
  · have hc : ((v.toNat : Nat) : Int) = v := Int.toNat_of_nonneg h0
    exact hq _ _ ⟨e, he, Or.inl ⟨by rw [hc]; exact List.mem_of_getElem? hv, hp⟩⟩ ⟨e, he, Or.inl (by rw [hc]; exact hv)⟩
/-- the CLAUSES of a SENTENCE are well made -/
theorem csE_wl {nm : PN} {SL : List SE} {b : Nat} (hT : TXo nm SL b) (hb : b ≤ 300) (hU : UA SL) {e : SE} (he : e ∈ SL) : ∀ c ∈ csE (wS nm SL) e, WL (arS nm SL) (pS (m9S nm SL b)) c := by
  obtain ⟨k, hk⟩ := List.getElem?_of_mem he
  obtain ⟨a, c, q1, q2, q3, q4, q5⟩ := hT.1.at hk
  have hf := FS_of q4
  obtain ⟨w1, w2⟩ := wS_k (nm := nm) (q := fun v n => 0 ≤ cl (wS nm SL v) ∧ arS nm SL (cl (wS nm SL v)) = n ∧ pS (m9S nm SL b) (cl (wS nm SL v))) he hf (fun v m h1 h2 => wS_q hT hU h1 h2)
  have v0 : ∀ v ∈ e.2.2.2, 0 ≤ v := fun v hv => by have := q2 v hv; omega
  have hpv : ∀ v, 0 ≤ v → v < 300 → pS (m9S nm SL b) (-1 - v) := fun v h1 h2 => by unfold pS m9S; omega
  have hkeys := frE_keys (w := wS nm SL) (stay := !e.2.1) (L := e.2.2.2) (E := []) v0
  have hlen : (frE (wS nm SL) (!e.2.1) e.2.2.2 []).length = e.2.2.2.length := by
    have := congrArg List.length hkeys
    rw [List.length_map] at this
    simpa using this
  refine cFm_wl (arS_n hT.2.2) hpv (by unfold arS; rw [if_pos (by decide)]) (by unfold pS m9S; omega) e.2.2.1 hf (!e.2.1) _ (frE_wf (fun x hx => by cases hx) (fun v hv => ⟨v0 v hv, hpv v (v0 v hv) (by have := q2 v hv; omega)⟩) (fun hs i v hv => ?_)) (WFo.mono NmE.rf (fun v hv => ?_) q4) (q1.mono (fun v hv => by omega)) (by rw [hlen]; exact w1)
  · have := w2 (by simpa using hs) i v hv (v0 v (List.mem_of_getElem? hv))
    rw [List.length_nil, Nat.zero_add]
    exact this
  · have : v ∈ (frE (wS nm SL) (!e.2.1) e.2.2.2 []).map (fun x => (x.1 : Int)) := by rw [hkeys]; exact hv
    obtain ⟨x, hx, h2⟩ := List.mem_map.mp this
    exact ⟨x, hx, h2⟩
