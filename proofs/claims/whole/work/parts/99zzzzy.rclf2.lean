/-! the reference: clausify: all SENTENCES become CLAUSES -/
theorem SU.lt : ∀ {L : List SE} {lo hi : Nat}, SU L lo hi → ∀ {k k2 : Nat} {e e2 : SE} {v u : Nat}, L[k]? = some e → L[k2]? = some e2 → k < k2 → inE2 e v → inE2 e2 u → v < u
  | [], lo, hi, _, k, k2, e, e2, v, u, h, _, _, _, _ => by cases h
  | x :: L, lo, hi, ⟨mid, a, b, c, d⟩, 0, k2 + 1, e, e2, v, u, h, h2, _, hv, hu => by
    cases h
    have q1 := SU.rg (L := [x]) (lo := lo) (hi := mid) ⟨mid, a, b, c, rfl⟩ (k := 0) (e := x) rfl hv
    have q2 := SU.rg d (k := k2) h2 hu
    omega
  | x :: L, lo, hi, ⟨mid, a, b, c, d⟩, k + 1, k2 + 1, e, e2, v, u, h, h2, hk, hv, hu => SU.lt d (k := k) (k2 := k2) h h2 (by omega) hv hu
theorem SU.at : ∀ {L : List SE} {lo hi : Nat}, SU L lo hi → ∀ {k : Nat} {e : SE}, L[k]? = some e → ∃ a c, UQs (tt e.2.2.1) a c ∧ c ≤ hi
  | [], lo, hi, _, k, e, h => by cases h
  | x :: L, lo, hi, ⟨mid, a, b, c, d⟩, 0, e, h => by
    cases h
    exact ⟨lo, mid, a, d.le⟩
  | x :: L, lo, hi, ⟨mid, a, b, c, d⟩, k + 1, e, h => SU.at d h
theorem TXo.fs {nm : PN} {SL : List SE} {b : Nat} (hT : TXo nm SL b) {k : Nat} {e : SE} (he : SL[k]? = some e) : FS (tt e.2.2.1) := by
  obtain ⟨_, _, _, _, _, hw, _⟩ := hT.1.at he
  exact FS_of hw
theorem rk_take {nm : PN} {SL : List SE} {b t : Nat} (hT : TXo nm SL b) {k : Nat} {e : SE} (he : SL[k]? = some e) (hk : k < t) {v : Nat} (hv : inE2 e v) : rkR (RPs (SL.take t)) v = rkR (RPs SL) v := rkR_c (fun u hu => ⟨fun ⟨e2, h1, h2⟩ => ⟨e2, List.mem_of_mem_take h1, h2⟩, fun ⟨e2, h1, h2⟩ => by
  obtain ⟨k2, hk2⟩ := List.getElem?_of_mem h1
  by_cases c : k2 < t
  · refine ⟨e2, List.mem_of_getElem? (i := k2) ?_, h2⟩
    rw [List.getElem?_take_of_lt c]; exact hk2
  · have := hT.2.1.lt he hk2 (by omega) hv (rpSe_in (hT.fs hk2) h2)
    omega⟩)
theorem SCo_of {nm : PN} {SL : List SE} {b t : Nat} (hT : TXo nm SL b) (hb : b ≤ 300) (hU : UA SL) (hH : ∀ e ∈ SL, FH (tt e.2.2.1)) {σ : zS} {k : Nat} {e : SE} (he : SL[k]? = some e) (hk : k < t) (h23 : ∀ u : Nat, u < b → RPs (SL.take t) u → σ.2.1 23 (u : Int) = ((nm.length + 1 + rkR (RPs (SL.take t)) u : Nat) : Int)) : SCo nm (wS nm SL) σ e := by
  have hem := List.mem_of_getElem? he
  have htk : e ∈ SL.take t := List.mem_of_getElem? (i := k) (by rw [List.getElem?_take_of_lt hk]; exact he)
  obtain ⟨a, c, q1, q2, q3, q4, q5⟩ := hT.1.at he
  have hf := FS_of q4
  obtain ⟨lo, hi, u1, u2⟩ := hT.2.1.at he
  have v0 : ∀ v ∈ e.2.2.2, 0 ≤ v := fun v hv => by have := q2 v hv; omega
  have key : ∀ v, rpSe e v → 0 ≤ cl (wS nm SL v) ∧ σ.2.1 23 (v : Int) = cl (wS nm SL v) := fun v hv => by
    have hin := rpSe_in hf hv
    have hr := hT.2.1.rg he hin
    have e1 : cl (wS nm SL v) = ((nm.length + 1 + rkR (RPs SL) v : Nat) : Int) := by unfold wS; rw [cl_cu]
    rw [e1]
    refine ⟨by omega, ?_⟩
    rw [h23 v hr.2 ⟨e, htk, hv⟩, rk_take hT he hk hin]
  refine ⟨hf, hH e hem, ⟨lo, hi, u1, by omega⟩, q4, ?_, fun v hv => ⟨v0 v hv, by have := q2 v hv; omega, fun hbn => ?_⟩, ?_, fun hp v hv => ?_, q3 _⟩
  · refine List.pairwise_iff_getElem.mpr (fun i j hi hj hij hE => ?_)
    have g1 : e.2.2.2[i]? = some e.2.2.2[i] := List.getElem?_eq_getElem hi
    have g2 : e.2.2.2[j]? = some e.2.2.2[j] := List.getElem?_eq_getElem hj
    have z := v0 _ (List.mem_of_getElem? g1)
    have z2 : ((e.2.2.2[i].toNat : Nat) : Int) = e.2.2.2[i] := Int.toNat_of_nonneg z
    have := hU e.2.2.2[i].toNat i j ⟨e, hem, Or.inl (by rw [z2]; exact g1)⟩ ⟨e, hem, Or.inl (by rw [z2, hE]; exact g2)⟩
    omega
  · obtain ⟨i, hi⟩ := List.getElem?_of_mem hv
    have z2 : ((v.toNat : Nat) : Int) = v := Int.toNat_of_nonneg (v0 v hv)
    obtain ⟨m, hm⟩ := bnF_d (n := e.2.2.2.length) hbn
    have := hU v.toNat i m ⟨e, hem, Or.inl (by rw [z2]; exact hi)⟩ ⟨e, hem, Or.inr hm⟩
    have hd := u1.dp hm
    have := (List.getElem?_eq_some_iff.mp hi).1
    omega
  · refine wK2_1 (q := fun v _ => 0 ≤ cl (wS nm SL v) ∧ σ.2.1 23 (v : Int) = cl (wS nm SL v)) (fun v n h => h) _ hf e.2.2.2.length _ (wK2_of _ hf _ (wyE e) _ ?_ (fun v m h1 h2 => key v (Or.inr h2)))
    unfold cvW wyE
    cases e.2.1 <;> exact Or.inr rfl
  · have z2 : ((v.toNat : Nat) : Int) = v := Int.toNat_of_nonneg (v0 v hv)
    have := key v.toNat (Or.inl ⟨by rw [z2]; exact hv, hp⟩)
    rw [z2] at this
    exact this
theorem mk_267 {nm : PN} {SL : List SE} {b t : Nat} (hT : TXo nm SL b) (hb : b ≤ 300) (hU : UA SL) (hH : ∀ e ∈ SL, FH (tt e.2.2.1)) {β : Nat} (hβ : 1001 ≤ β) (hL : SL.length ≤ 20100) (hf : frL SL ≤ 300) (ht : t ≤ SL.length) (hh : ∀ (i : Nat) e, i < t → SL[i]? = some e → hgt e.2.2.1 ≤ 200) (hh2 : ∀ e, SL[t]? = some e → 200 < hgt e.2.2.1) {σ0 : zS} (hS : RSe σ0 SL) (h20 : σ0.1 37 ≤ 20100 ∧ σ0.1 38 ≤ 20100 ∧ σ0.1 40 ≤ 20100) (h23 : ∀ u : Nat, u < b → RPs (SL.take t) u → σ0.2.1 23 (u : Int) = ((nm.length + 1 + rkR (RPs (SL.take t)) u : Nat) : Int)) {ar : Int → Nat} {pd : Int → Prop} {m9 : Int} {p : Int → Prop} (hp' : ∀ c, p c → c < m9) (hwl : ∀ e ∈ SL, ∀ c ∈ csE (wS nm SL) e, WL ar p c) {fc : Nat → Int} :
    ∀ (m i n : Nat) (σ : zS) (Cs : List CL), i + m = SL.length → i ≤ t → ScF σ0 σ → RI ar pd m9 σ (Cs, fc) → Cs.length ≤ n → n ≤ 200 → ∃ τ Cs', xE tX_clausify_267 β σ [(t : Int), (n : Int), (i : Int)] = some (τ, 0) ∧ ScF σ0 τ ∧ RI ar pd m9 τ (Cs', fc) ∧ ((mkS (wS nm SL) (SL.drop i) n Cs = .inr Cs' ∧ τ.1 3000 = 0) ∨ (∃ q, mkS (wS nm SL) (SL.drop i) n Cs = .inl q ∧ τ.1 3000 = 1 ∧ τ.1 3003 = 3 ∧ τ.1 3004 = q))
  | 0, i, n, σ, Cs, hi, hit, hF, hI, hc, hn => by
    have s55 := (hS.c hF).1
    have e : SL.drop i = [] := List.drop_eq_nil_of_le (by omega)
    refine ⟨zI σ 3000 0, Cs, ?_, hF.trans FrC_I, ?_, Or.inl ⟨by rw [e]; rfl, zI_1⟩⟩
    · rw [xq_clausify_267, kW_clausify_267, s55, if_pos (by omega), lt_e]
    · have b : FrC [3000] [] σ (zI σ 3000 0) := FrC_I
      exact hI.f b b.pq
  | m + 1, i, n, σ, Cs, hi, hit, hF, hI, hc, hn => by
    have hS' := hS.c hF
    obtain ⟨e, he⟩ : ∃ e, SL[i]? = some e := ⟨_, List.getElem?_eq_getElem (by omega)⟩
    obtain ⟨hlt, heq⟩ := List.getElem?_eq_some_iff.mp he
    have hd : SL.drop i = e :: SL.drop (i + 1) := by rw [List.drop_eq_getElem_cons hlt, heq]
    have hem := List.mem_of_getElem? he
    obtain ⟨s1, s2, ⟨⟨h, s3⟩, _⟩, s4, s5, s6⟩ := hS'.2.2 i e he
    have fail : ∀ {σ1 : zS}, ScF σ0 σ1 → RI ar pd m9 σ1 (Cs, fc) → σ1.2.1 50 (i : Int) = e.1 → mkS (wS nm SL) (SL.drop i) n Cs = .inl e.1 → xE tX_clausify_267 β σ [(t : Int), (n : Int), (i : Int)] = some (zI (zI (zI σ1 3003 3) 3004 (σ1.2.1 50 (i : Int))) 3000 1, 0) → ∃ τ Cs', xE tX_clausify_267 β σ [(t : Int), (n : Int), (i : Int)] = some (τ, 0) ∧ ScF σ0 τ ∧ RI ar pd m9 τ (Cs', fc) ∧ ((mkS (wS nm SL) (SL.drop i) n Cs = .inr Cs' ∧ τ.1 3000 = 0) ∨ (∃ q, mkS (wS nm SL) (SL.drop i) n Cs = .inl q ∧ τ.1 3000 = 1 ∧ τ.1 3003 = 3 ∧ τ.1 3004 = q)) := fun {σ1} f1 I1 s50 hm hx => by
      refine ⟨_, Cs, hx, ((f1.trans FrC_I).trans FrC_I).trans FrC_I, ?_, Or.inr ⟨e.1, hm, zI_1, by rw [zI_o, zI_o, zI_1], by rw [zI_o, zI_1]; exact s50⟩⟩
      have b0 : FrC [3000, 3003, 3004] [] σ1 (zI σ1 3003 3) := FrC_I
      have b := (b0.trans (FrC_I (k := 3004) (x := σ1.2.1 50 (i : Int)))).trans (FrC_I (k := 3000) (x := 1))
      exact I1.f b b.pq
    by_cases cit : i = t
    · subst cit
      have h2 := hh2 e he
      refine fail hF hI s1 ?_ ?_
      · rw [hd]; unfold mkS; rw [if_pos (Or.inl h2)]
      · rw [xq_clausify_267, kW_clausify_267, hS'.1, if_neg (by omega), if_pos rfl, if_pos ⟨by omega, by omega⟩, lt_e, lt_e, lt_e]
    have hi' : i < t := by omega
    have hhe := hh i e hi' he
    have hfs := hT.fs he
    have s3' : RFm σ 200 e.2.2.1 (σ.2.1 51 (i : Int)) := s3.lo.up (by omega)
    have f37 : σ.1 37 ≤ 20100 := by rw [hF.i 37]; exact h20.1
    have hcnt := cnt_ok f37 200 e.2.2.1 (σ.2.1 51 (i : Int)) (!e.2.1) (β - 1) s3' hfs (by omega)
    obtain ⟨c0, c1⟩ := cp1_b (nF e.2.2.1 (!e.2.1))
    have hiff : (n : Int) + cp1 (nF e.2.2.1 (!e.2.1)) ≤ 200 ↔ ¬ 200 < n + nF e.2.2.1 (!e.2.1) := by unfold cp1; split <;> omega
    have go : ∀ {o : Option zR}, xE tX_clausify_317 β σ [(t : Int), (n : Int), (i : Int), bi (!e.2.1), σ.2.1 51 (i : Int), (n : Int)] = o → xE tX_clausify_267 β σ [(t : Int), (n : Int), (i : Int)] = o := fun {o} ho => by
      rw [xq_clausify_267, kW_clausify_267, hS'.1, if_neg (by omega), if_neg (by omega), if_pos ⟨by omega, by omega⟩, s2, ← ho]
      cases hb : e.2.1
      · rw [if_pos (by simp)]; rfl
      · rw [if_neg (by simp)]; rfl
    by_cases c2 : 200 < n + nF e.2.2.1 (!e.2.1)
    · refine fail hF hI s1 ?_ (go ?_)
      · rw [hd]; unfold mkS; rw [if_pos (Or.inr c2)]
      · rw [xq_clausify_317, kW_clausify_317, if_pos (by omega), zbd_of hcnt, if_pos ⟨by omega, by omega⟩, if_neg (fun z => hiff.mp z c2), if_pos ⟨by omega, by omega⟩, lt_e, lt_e, lt_e]
    have hC := SCo_of hT hb hU hH (σ := σ) he hi' (fun u hu hr => by rw [hF.a 23]; exact h23 u hu hr)
    have h20' : σ.1 37 ≤ 20100 ∧ σ.1 38 ≤ 20100 ∧ σ.1 40 ≤ 20100 := ⟨f37, by rw [hF.i 38]; exact h20.2.1, by rw [hF.i 40]; exact h20.2.2⟩
    obtain ⟨τ, t1, t2, t3⟩ := sc_ok hp' (nm := nm) (w := wS nm SL) (β := β - 1) (by omega) hS' he (by omega) hf (frL_tk he) hC hhe (by omega) h20' (hwl e hem) hI (by omega)
    have f2 : ScF σ0 τ := hF.trans t2
    have e317 : xE tX_clausify_317 β σ [(t : Int), (n : Int), (i : Int), bi (!e.2.1), σ.2.1 51 (i : Int), (n : Int)] = (if (τ.1 3000) = 0 then (xE tX_clausify_267 β τ [(t : Int), ((n + nF e.2.2.1 (!e.2.1) : Nat) : Int), ((i + 1 : Nat) : Int)]) else (some (τ, 0))) := by
      have ec : (n : Int) + cp1 (nF e.2.2.1 (!e.2.1)) = ((n + nF e.2.2.1 (!e.2.1) : Nat) : Int) := by unfold cp1; split <;> omega
      rw [xq_clausify_317, kW_clausify_317, if_pos (by omega), zbd_of hcnt, if_pos ⟨by omega, by omega⟩, if_pos (hiff.mpr c2), if_pos (show 1 ≤ β by omega), zbd_of t1, if_pos (show zr ((i : Int) + 1) from ⟨by omega, by omega⟩), ec]
      rfl
    rcases t3 with ⟨g1, g2, g3⟩ | ⟨g1, g2, g3, g4, g5⟩
    · have hl2 := txF_len (csE (wS nm SL) e) Cs
      have cl2 : (csE (wS nm SL) e).length = nF e.2.2.1 (!e.2.1) := cFm_len e.2.2.1 hfs _ _
      have hm : mkS (wS nm SL) (SL.drop i) n Cs = mkS (wS nm SL) (SL.drop (i + 1)) (n + nF e.2.2.1 (!e.2.1)) (txF (csE (wS nm SL) e) Cs) := by
        rw [hd]
        show (if _ then _ else _) = _
        rw [if_neg (by omega), if_pos g1]
      rw [hm]
      obtain ⟨τ2, Cs2, r1, r2⟩ := mk_267 hT hb hU hH hβ hL hf ht hh hh2 hS h20 h23 hp' hwl (fc := fc) m (i + 1) (n + nF e.2.2.1 (!e.2.1)) τ (txF (csE (wS nm SL) e) Cs) (by omega) (by omega) f2 g3 (by omega) (by omega)
      refine ⟨τ2, Cs2, ?_, r2⟩
      rw [← r1]
      exact go (by rw [e317, if_pos g2])
    · refine ⟨τ, Cs, go (by rw [e317, if_neg (by omega)]), f2, g5, Or.inr ⟨e.1, ?_, g2, g3, g4⟩⟩
      rw [hd]
      show (if _ then _ else _) = _
      rw [if_neg (by omega), if_neg g1]
