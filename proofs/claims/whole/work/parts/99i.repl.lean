/-! a TERM in the draft is replaced by one that is not larger -/
def cF : List Lt → T
  | [] => nl
  | a :: E => cat (lF a) (cF E)
theorem tt_wt (x : Tm) : wt (tt x) = tw x := by simp only [tt, wt, tw]; omega
theorem cF_fl : ∀ E : List Lt, fl (cF E) = flQ (toQ E)
  | [] => rfl
  | a :: E => by
    show fl (cat (cat (tt a.2.1) (tt a.2.2)) (cF E)) = fl (tt a.2.1) ++ fl (tt a.2.2) ++ flQ (toQ E)
    rw [fl_cat, fl_cat, cF_fl E]
theorem cF_wt (E : List Lt) : wt (cF E) = wtL E := by rw [← fl_length, cF_fl, toQ_len]
theorem cF_wf {ar : Int → Nat} {p : Int → Prop} : ∀ {E : List Lt}, WL ar p E → wf ar p (cF E)
  | [], _ => trivial
  | a :: E, h => by
    obtain ⟨_, h1, h2⟩ := h a List.mem_cons_self
    exact wf_cat (wf_cat h1 h2) (cF_wf (fun b hb => h b (List.mem_cons_of_mem _ hb)))
theorem rp_cat {r : Tm} : ∀ {A B : T} {o : Nat}, rpF r o (cat A B) = if o < wt A then cat (rpF r o A) B else cat A (rpF r (o - wt A) B)
  | .leaf _, B, o => by
    show rpF r o B = if o < 0 then cat nl B else rpF r (o - 0) B
    rw [if_neg (by omega), Nat.sub_zero]
  | .branch n k s, B, o => by
    have hw : wt (.branch n k s) = 1 + wt k + wt s := rfl
    obtain ⟨W, hW⟩ : ∃ W, W = wt (.branch n k s) := ⟨_, rfl⟩
    rw [← hW]
    rw [← hW] at hw
    show (if o = 0 then nd r.1 r.2 (cat s B) else if o ≤ wt k then nd n (rpF r (o - 1) k) (cat s B) else nd n k (rpF r (o - 1 - wt k) (cat s B))) = if o < W then cat (if o = 0 then nd r.1 r.2 s else if o ≤ wt k then nd n (rpF r (o - 1) k) s else nd n k (rpF r (o - 1 - wt k) s)) B else nd n k (cat s (rpF r (o - W) B))
    by_cases e : o = 0
    · rw [if_pos e, if_pos (show o < W by omega), if_pos e]; rfl
    · by_cases q : o ≤ wt k
      · rw [if_neg e, if_pos q, if_pos (show o < W by omega), if_neg e, if_pos q]; rfl
      · rw [if_neg e, if_neg q, rp_cat]
        by_cases g : o - 1 - wt k < wt s
        · rw [if_pos g, if_pos (show o < W by omega), if_neg e, if_neg q]; rfl
        · rw [if_neg g, if_neg (show ¬ o < W by omega), show o - 1 - wt k - wt s = o - W by omega]
theorem sbF_cat : ∀ {A B : T} {o : Nat}, sbF o (cat A B) = if o < wt A then sbF o A else sbF (o - wt A) B
  | .leaf _, B, o => by
    show sbF o B = if o < 0 then none else sbF (o - 0) B
    rw [if_neg (by omega), Nat.sub_zero]
  | .branch n k s, B, o => by
    have hw : wt (.branch n k s) = 1 + wt k + wt s := rfl
    obtain ⟨W, hW⟩ : ∃ W, W = wt (.branch n k s) := ⟨_, rfl⟩
    rw [← hW]
    rw [← hW] at hw
    show (if o = 0 then some (n, k) else if o ≤ wt k then sbF (o - 1) k else sbF (o - 1 - wt k) (cat s B)) = if o < W then (if o = 0 then some (n, k) else if o ≤ wt k then sbF (o - 1) k else sbF (o - 1 - wt k) s) else sbF (o - W) B
    by_cases e : o = 0
    · rw [if_pos e, if_pos (show o < W by omega), if_pos e]
    · by_cases q : o ≤ wt k
      · rw [if_neg e, if_pos q, if_pos (show o < W by omega), if_neg e, if_pos q]
      · rw [if_neg e, if_neg q, sbF_cat]
        by_cases g : o - 1 - wt k < wt s
        · rw [if_pos g, if_pos (show o < W by omega), if_neg e, if_neg q]
        · rw [if_neg g, if_neg (show ¬ o < W by omega), show o - 1 - wt k - wt s = o - W by omega]
def rpE (z : Tm) : Nat → List Lt → List Lt
  | _, [] => []
  | o, a :: E => if o < tw a.2.1 then (a.1, rpT z o a.2.1, a.2.2) :: E else if o < lwt a then (a.1, a.2.1, rpT z (o - tw a.2.1) a.2.2) :: E else a :: rpE z (o - lwt a) E
theorem rpE_F {z : Tm} : ∀ {E : List Lt} {o : Nat}, o < wtL E → rpF z o (cF E) = cF (rpE z o E)
  | [], o, h => by simp [wtL] at h
  | a :: E, o, h => by
    have el : lwt a = tw a.2.1 + tw a.2.2 := rfl
    simp only [wtL] at h
    show rpF z o (cat (lF a) (cF E)) = cF (if o < tw a.2.1 then (a.1, rpT z o a.2.1, a.2.2) :: E else if o < lwt a then (a.1, a.2.1, rpT z (o - tw a.2.1) a.2.2) :: E else a :: rpE z (o - lwt a) E)
    rw [rp_cat, lF_wt]
    by_cases h1 : o < tw a.2.1
    · rw [if_pos (by omega), if_pos h1]
      show cat (rpF z o (cat (tt a.2.1) (tt a.2.2))) (cF E) = cat (cat (tt (rpT z o a.2.1)) (tt a.2.2)) (cF E)
      rw [rp_cat, tt_wt, if_pos h1, rp_tt h1]
    · by_cases h2 : o < lwt a
      · rw [if_pos (by omega), if_neg h1, if_pos h2]
        show cat (rpF z o (cat (tt a.2.1) (tt a.2.2))) (cF E) = cat (cat (tt a.2.1) (tt (rpT z (o - tw a.2.1) a.2.2))) (cF E)
        rw [rp_cat, tt_wt, if_neg h1, rp_tt (by omega)]
      · rw [if_neg (by omega), if_neg h1, if_neg h2]
        show cat (lF a) (rpF z (o - (tw a.2.1 + tw a.2.2)) (cF E)) = cat (lF a) (cF (rpE z (o - lwt a) E))
        rw [← rpE_F (by omega), el]
theorem rpE_wf {ar : Int → Nat} {p : Int → Prop} {z : Tm} (wz : wf ar p (tt z)) : ∀ {E : List Lt} {o : Nat}, WL ar p E → WL ar p (rpE z o E)
  | [], o, h => h
  | a :: E, o, h => by
    have el : lwt a = tw a.2.1 + tw a.2.2 := rfl
    obtain ⟨h0, h1, h2⟩ := h a List.mem_cons_self
    have hE : WL ar p E := fun b hb => h b (List.mem_cons_of_mem _ hb)
    unfold rpE
    by_cases g1 : o < tw a.2.1
    · rw [if_pos g1]
      intro b hb
      rcases List.mem_cons.mp hb with rfl | hb
      · exact ⟨h0, by show wf ar p (tt (rpT z o a.2.1)); rw [← rp_tt g1]; exact rp_wf wz h1, h2⟩
      · exact hE b hb
    · rw [if_neg g1]
      by_cases g2 : o < lwt a
      · rw [if_pos g2]
        intro b hb
        rcases List.mem_cons.mp hb with rfl | hb
        · exact ⟨h0, h1, by show wf ar p (tt (rpT z (o - tw a.2.1) a.2.2)); rw [← rp_tt (by omega)]; exact rp_wf wz h2⟩
        · exact hE b hb
      · rw [if_neg g2]
        intro b hb
        rcases List.mem_cons.mp hb with rfl | hb
        · exact ⟨h0, h1, h2⟩
        · exact rpE_wf wz hE b hb
theorem rpE_len {z : Tm} : ∀ {E : List Lt} {o : Nat}, (rpE z o E).length = E.length
  | [], o => rfl
  | a :: E, o => by
    unfold rpE
    by_cases g1 : o < tw a.2.1
    · rw [if_pos g1]; rfl
    · rw [if_neg g1]
      by_cases g2 : o < lwt a
      · rw [if_pos g2]; rfl
      · rw [if_neg g2, List.length_cons, List.length_cons, rpE_len]
theorem rp_w {ar : Int → Nat} {p : Int → Prop} {r x : Tm} {F : T} {o : Nat} (w : wf ar p F) (h : sbF o F = some x) : wt (rpF r o F) + tw x = wt F + tw r := by
  have h2 := (sb_wf w h).2
  have := congrArg List.length (fl_rp (r := r) h)
  rw [fl_length, List.length_append, List.length_append, List.length_take, List.length_drop, fl_length, tt_len] at this
  omega
theorem SG_ge {σ : zS} : ∀ {Q : List QL} {i o : Int}, SG σ i o Q → ∀ j, i ≤ j → j < i + (Q.length : Int) → o ≤ σ.2.1 42 j ∧ o ≤ σ.2.1 41 (j + 1)
  | [], i, o, _, j, h1, h2 => by simp at h2; omega
  | a :: Q, i, o, h, j, h1, h2 => by
    obtain ⟨a1, a2, a3, a4, a5⟩ := h
    simp only [List.length_cons] at h2
    by_cases e : j = i
    · subst e; rw [a2, a3]; omega
    · have := SG_ge a5 j (by omega) (by omega); omega
theorem SG_sh {σ τ : zS} {d : Int} : ∀ {Q : List QL} {i o : Int}, SG σ i o Q → (1 ≤ Q.length → τ.2.1 41 i = o - d) → (∀ j, i ≤ j → j < i + (Q.length : Int) → τ.2.1 42 j = σ.2.1 42 j - d ∧ τ.2.1 41 (j + 1) = σ.2.1 41 (j + 1) - d ∧ τ.2.1 43 j = σ.2.1 43 j) → SG τ i (o - d) Q
  | [], i, o, _, _, _ => trivial
  | a :: Q, i, o, h, h0, h1 => by
    simp only [List.length_cons] at h0 h1
    obtain ⟨a1, a2, a3, a4, a5⟩ := h
    obtain ⟨b1, b2, b3⟩ := h1 i (by omega) (by omega)
    refine ⟨h0 (by omega), by rw [b1, a2]; omega, by rw [b2, a3]; omega, by rw [b3]; exact a4, ?_⟩
    have := SG_sh (τ := τ) (d := d) a5 (fun _ => by rw [b2, a3]) (fun j x y => h1 j (by omega) (by omega))
    rw [show o - d + (a.2.1.length : Int) + (a.2.2.length : Int) = o + (a.2.1.length : Int) + (a.2.2.length : Int) - d by omega]
    exact this
def shv (P d v : Int) : Int := if v ≤ P then v else v - d
theorem SG_rp {ar : Int → Nat} {q : Int → Prop} {σ τ : zS} {z y : Tm} {d P : Int} (hd : d = (tw y : Int) - (tw z : Int)) : ∀ {E : List Lt} {i o : Int} {p : Nat}, WL ar q E → SG σ i o (toQ E) → sbF p (cF E) = some y → P = o + (p : Int) → τ.2.1 41 i = o → (∀ j, i ≤ j → j < i + (E.length : Int) → τ.2.1 42 j = shv P d (σ.2.1 42 j) ∧ τ.2.1 41 (j + 1) = shv P d (σ.2.1 41 (j + 1)) ∧ τ.2.1 43 j = σ.2.1 43 j) → SG τ i o (toQ (rpE z p E))
  | [], i, o, p, _, _, _, _, _, _ => trivial
  | a :: E, i, o, p, w, h, hs, hP, h0, h1 => by
    obtain ⟨_, w1, w2⟩ := w a List.mem_cons_self
    have wE : WL ar q E := fun b hb => w b (List.mem_cons_of_mem _ hb)
    have el : lwt a = tw a.2.1 + tw a.2.2 := rfl
    have tl := tw_pos a.2.1
    have tr := tw_pos a.2.2
    obtain ⟨a1, a2, a3, a4, a5⟩ := h
    dsimp only at a2 a3 a4 a5
    rw [tt_len] at a2
    rw [tt_len, tt_len] at a3 a5
    simp only [List.length_cons] at h1
    obtain ⟨b1, b2, b3⟩ := h1 i (by omega) (by omega)
    have hs' : sbF p (cat (lF a) (cF E)) = some y := hs
    rw [sbF_cat, lF_wt] at hs'
    have tail : ∀ n : Int, P < o + (tw a.2.1 : Int) + (tw a.2.2 : Int) → n = o + (tw a.2.1 : Int) + (tw a.2.2 : Int) - d → SG τ (i + 1) n (toQ E) := fun n hlt hn => by
      have lq : (toQ E).length = E.length := by simp [toQ]
      rw [hn]
      refine SG_sh a5 (fun _ => by rw [b2, a3]; unfold shv; rw [if_neg (by omega)]) (fun j x y => ?_)
      rw [lq] at y
      obtain ⟨c1, c2, c3⟩ := h1 j (by omega) (by omega)
      obtain ⟨g1, g2⟩ := SG_ge a5 j x (by rw [List.length_map]; exact y)
      unfold shv at c1 c2
      rw [if_neg (by omega)] at c1 c2
      exact ⟨c1, c2, c3⟩
    unfold rpE
    by_cases g1 : p < tw a.2.1
    · rw [if_pos (by omega)] at hs'
      unfold lF at hs'
      rw [sbF_cat, tt_wt, if_pos g1] at hs'
      have hw := rp_w (r := z) w1 hs'
      rw [rp_tt g1, tt_wt, tt_wt] at hw
      rw [if_pos g1]
      refine ⟨h0, ?_, ?_, by rw [b3]; exact a4, ?_⟩
      · show τ.2.1 42 i = o + ((fl (tt (rpT z p a.2.1))).length : Int)
        rw [tt_len, b1, a2]; unfold shv; rw [if_neg (by omega)]; omega
      · show τ.2.1 41 (i + 1) = o + ((fl (tt (rpT z p a.2.1))).length : Int) + ((fl (tt a.2.2)).length : Int)
        rw [tt_len, tt_len, b2, a3]; unfold shv; rw [if_neg (by omega)]; omega
      · show SG τ (i + 1) (o + ((fl (tt (rpT z p a.2.1))).length : Int) + ((fl (tt a.2.2)).length : Int)) (toQ E)
        rw [tt_len, tt_len]
        exact tail _ (by omega) (by omega)
    · rw [if_neg g1]
      by_cases g2 : p < lwt a
      · rw [if_pos (by omega)] at hs'
        unfold lF at hs'
        rw [sbF_cat, tt_wt, if_neg g1] at hs'
        have hw := rp_w (r := z) w2 hs'
        rw [rp_tt (by omega), tt_wt, tt_wt] at hw
        rw [if_pos g2]
        refine ⟨h0, ?_, ?_, by rw [b3]; exact a4, ?_⟩
        · show τ.2.1 42 i = o + ((fl (tt a.2.1)).length : Int)
          rw [tt_len, b1, a2]; unfold shv; rw [if_pos (by omega)]
        · show τ.2.1 41 (i + 1) = o + ((fl (tt a.2.1)).length : Int) + ((fl (tt (rpT z (p - tw a.2.1) a.2.2))).length : Int)
          rw [tt_len, tt_len, b2, a3]; unfold shv; rw [if_neg (by omega)]; omega
        · show SG τ (i + 1) (o + ((fl (tt a.2.1)).length : Int) + ((fl (tt (rpT z (p - tw a.2.1) a.2.2))).length : Int)) (toQ E)
          rw [tt_len, tt_len]
          exact tail _ (by omega) (by omega)
      · rw [if_neg (by omega)] at hs'
        rw [if_neg g2]
        have b2' : τ.2.1 41 (i + 1) = o + (tw a.2.1 : Int) + (tw a.2.2 : Int) := by rw [b2, a3]; unfold shv; rw [if_pos (by omega)]
        refine ⟨h0, ?_, ?_, by rw [b3]; exact a4, ?_⟩
        · show τ.2.1 42 i = o + ((fl (tt a.2.1)).length : Int)
          rw [tt_len, b1, a2]; unfold shv; rw [if_pos (by omega)]
        · show τ.2.1 41 (i + 1) = o + ((fl (tt a.2.1)).length : Int) + ((fl (tt a.2.2)).length : Int)
          rw [tt_len, tt_len]; exact b2'
        · show SG τ (i + 1) (o + ((fl (tt a.2.1)).length : Int) + ((fl (tt a.2.2)).length : Int)) (toQ (rpE z (p - lwt a) E))
          rw [tt_len, tt_len]
          exact SG_rp hd wE a5 hs' (by omega) b2' (fun j x y => h1 j (by omega) (by omega))
theorem rep_p70 {β : Nat} {x0 x1 x2 d : Int} {n8 : Nat} (h8 : n8 ≤ 8) (d0 : 0 ≤ d) (d1 : d ≤ 100) : ∀ (m n : Nat) (σ : zS), σ.1 3905 = (n8 : Int) → n + m = n8 → (∀ j : Int, (n : Int) ≤ j → j < (n8 : Int) → (0 ≤ σ.2.1 42 j ∧ σ.2.1 42 j ≤ 100) ∧ 0 ≤ σ.2.1 41 (j + 1) ∧ σ.2.1 41 (j + 1) ≤ 100) → ∃ τ, yE tC_Dra_replace_68_p70 β σ [x0, x1, x2, d, (n : Int)] = some (τ, 0) ∧ FrC [] [41, 42] σ τ ∧ (∀ j : Int, (n : Int) ≤ j → j < (n8 : Int) → τ.2.1 42 j = shv x0 d (σ.2.1 42 j) ∧ τ.2.1 41 (j + 1) = shv x0 d (σ.2.1 41 (j + 1))) ∧ (∀ j : Int, j < (n : Int) → τ.2.1 42 j = σ.2.1 42 j) ∧ (∀ j : Int, j ≤ (n : Int) → τ.2.1 41 j = σ.2.1 41 j)
  | 0, n, σ, h5, hm, hb => by
    refine ⟨σ, by rw [yq_Dra_replace_68_p70, kY_Dra_replace_68_p70, if_pos (by omega)], FrC.refl, fun j a b => by omega, fun _ _ => rfl, fun _ _ => rfl⟩
  | m + 1, n, σ, h5, hm, hb => by
    obtain ⟨⟨u1, u2⟩, u3, u4⟩ := hb (n : Int) (by omega) (by omega)
    have go : ∀ x5 : Int, 0 ≤ x5 → x5 ≤ 100 → σ.2.1 42 (n : Int) - x5 = shv x0 d (σ.2.1 42 (n : Int)) → ∃ τ, yE tC_Dra_replace_68_p104 β σ [x0, x1, x2, d, (n : Int), x5, σ.2.1 42 (n : Int), (n : Int)] = some (τ, 0) ∧ FrC [] [41, 42] σ τ ∧ (∀ j : Int, (n : Int) ≤ j → j < (n8 : Int) → τ.2.1 42 j = shv x0 d (σ.2.1 42 j) ∧ τ.2.1 41 (j + 1) = shv x0 d (σ.2.1 41 (j + 1))) ∧ (∀ j : Int, j < (n : Int) → τ.2.1 42 j = σ.2.1 42 j) ∧ (∀ j : Int, j ≤ (n : Int) → τ.2.1 41 j = σ.2.1 41 j) := fun x5 y0 y1 hx => by
      obtain ⟨σ1, hσ1⟩ : ∃ s, s = zA σ 42 (n : Int) (σ.2.1 42 (n : Int) - x5) := ⟨_, rfl⟩
      have f1 : FrC [] [41, 42] σ σ1 := by rw [hσ1]; exact FrC_A
      have e41 : ∀ q, σ1.2.1 41 q = σ.2.1 41 q := fun q => by rw [hσ1, zA_j]
      have e42 : ∀ q, q ≠ (n : Int) → σ1.2.1 42 q = σ.2.1 42 q := fun q hq => by rw [hσ1, zA_i hq]
      have e42n : σ1.2.1 42 (n : Int) = shv x0 d (σ.2.1 42 (n : Int)) := by rw [hσ1, zA_s, hx]
      have go2 : ∀ x6 : Int, 0 ≤ x6 → x6 ≤ 100 → σ.2.1 41 ((n : Int) + 1) - x6 = shv x0 d (σ.2.1 41 ((n : Int) + 1)) → ∃ τ, yE tC_Dra_replace_68_p135 β σ1 [x0, x1, x2, d, (n : Int), x6, σ.2.1 41 ((n : Int) + 1), (n : Int) + 1] = some (τ, 0) ∧ FrC [] [41, 42] σ τ ∧ (∀ j : Int, (n : Int) ≤ j → j < (n8 : Int) → τ.2.1 42 j = shv x0 d (σ.2.1 42 j) ∧ τ.2.1 41 (j + 1) = shv x0 d (σ.2.1 41 (j + 1))) ∧ (∀ j : Int, j < (n : Int) → τ.2.1 42 j = σ.2.1 42 j) ∧ (∀ j : Int, j ≤ (n : Int) → τ.2.1 41 j = σ.2.1 41 j) := fun x6 v0 v1 hx6 => by
        obtain ⟨σ2, hσ2⟩ : ∃ s, s = zA σ1 41 ((n : Int) + 1) (σ.2.1 41 ((n : Int) + 1) - x6) := ⟨_, rfl⟩
        have f2 : FrC [] [41, 42] σ1 σ2 := by rw [hσ2]; exact FrC_A
        have g41 : ∀ q, q ≠ (n : Int) + 1 → σ2.2.1 41 q = σ.2.1 41 q := fun q hq => by rw [hσ2, zA_i hq, e41]
        have g41n : σ2.2.1 41 ((n : Int) + 1) = shv x0 d (σ.2.1 41 ((n : Int) + 1)) := by rw [hσ2, zA_s, hx6]
        have g42 : ∀ q, σ2.2.1 42 q = σ1.2.1 42 q := fun q => by rw [hσ2, zA_j]
        obtain ⟨τ, t1, t2, t3, t4, t5⟩ := rep_p70 (β := β) (x0 := x0) (x1 := x1) (x2 := x2) h8 d0 d1 m (n + 1) σ2 (by rw [f2.i 3905, f1.i 3905]; exact h5) (by omega) (fun j j0 j1 => by
          rw [g42, e42 j (by omega), g41 (j + 1) (by omega)]
          exact hb j (by omega) j1)
        refine ⟨τ, ?_, (f1.trans f2).trans t2, fun j a b => ?_, fun j a => ?_, fun j a => ?_⟩
        · rw [yq_Dra_replace_68_p135, kY_Dra_replace_68_p135, if_pos (by omega), if_pos (by omega), lt_e, ← hσ2, if_pos (by omega)]
          rw [show (n : Int) + 1 = ((n + 1 : Nat) : Int) by omega]
          exact t1
        · by_cases e : j = (n : Int)
          · subst e
            rw [t4 _ (by omega), g42, e42n, t5 _ (by omega), g41n]
            exact ⟨rfl, rfl⟩
          · obtain ⟨p1, p2⟩ := t3 j (by omega) b
            rw [p1, p2, g42, e42 j e, g41 (j + 1) (by omega)]
            exact ⟨rfl, rfl⟩
        · rw [t4 j (by omega), g42, e42 j (by omega)]
        · rw [t5 j (by omega), g41 j (by omega)]
      rw [yq_Dra_replace_68_p104, kY_Dra_replace_68_p104, if_pos (by omega), if_pos (by omega), lt_e, ← hσ1, if_pos (by omega), if_pos (by omega), e41]
      by_cases h : σ.2.1 41 ((n : Int) + 1) ≤ x0
      · rw [if_pos h]
        exact go2 0 (by omega) (by omega) (by unfold shv; rw [if_pos h]; omega)
      · rw [if_neg h]
        exact go2 d d0 d1 (by unfold shv; rw [if_neg h])
    rw [yq_Dra_replace_68_p70, kY_Dra_replace_68_p70, if_neg (by omega), if_pos (by omega)]
    by_cases h : σ.2.1 42 (n : Int) ≤ x0
    · rw [if_pos h]
      exact go 0 (by omega) (by omega) (by unfold shv; rw [if_pos h]; omega)
    · rw [if_neg h]
      exact go d d0 d1 (by unfold shv; rw [if_neg h])
theorem RS_SG {σ : zS} : ∀ {E : List Lt} {i o : Int}, RS σ i o E → SG σ i o (toQ E)
  | [], i, o, _ => trivial
  | a :: E, i, o, h => by
    obtain ⟨⟨a1, a2, a3, a4, _⟩, hr⟩ := h
    have e1 : ((fl (tt a.2.1)).length : Int) = (tw a.2.1 : Int) := by rw [tt_len]
    have e2 : ((fl (tt a.2.2)).length : Int) = (tw a.2.2 : Int) := by rw [tt_len]
    refine ⟨a1, ?_, ?_, a4, ?_⟩
    · show σ.2.1 42 i = o + ((fl (tt a.2.1)).length : Int)
      rw [e1]; exact a2
    · show σ.2.1 41 (i + 1) = o + ((fl (tt a.2.1)).length : Int) + ((fl (tt a.2.2)).length : Int)
      rw [e1, e2]; exact a3
    · show SG σ (i + 1) (o + ((fl (tt a.2.1)).length : Int) + ((fl (tt a.2.2)).length : Int)) (toQ E)
      rw [e1, e2]; exact RS_SG hr
theorem RS_bd {σ : zS} : ∀ {E : List Lt} {i o : Int}, RS σ i o E → ∀ j, i ≤ j → j < i + (E.length : Int) → (0 ≤ σ.2.1 42 j ∧ σ.2.1 42 j ≤ 100) ∧ 0 ≤ σ.2.1 41 (j + 1) ∧ σ.2.1 41 (j + 1) ≤ 100
  | [], i, o, _, j, a, b => by simp at b; omega
  | a :: E, i, o, h, j, h1, h2 => by
    obtain ⟨⟨a1, a2, a3, a4, a5, a6, a7, a8⟩, hr⟩ := h
    simp only [List.length_cons] at h2
    by_cases e : j = i
    · subst e; rw [a2, a3]; omega
    · exact RS_bd hr j (by omega) (by omega)
theorem rep_ok {ar : Int → Nat} {m9 : Int} {β : Nat} (hβ : 1 ≤ β) {σ : zS} (hA : ArC σ ar (lb m9)) {E : List Lt} (hD : DE σ E) (hw : WL ar (lb m9) E) {p : Nat} {y z : Tm} (hs : sbF p (cF E) = some y) (hz : Fl (σ.2.1 68) 0 (fl (tt z))) (hzy : tw z ≤ tw y) : ∃ τ, yE tC_Dra_replace_68 β σ [(p : Int), (tw z : Int)] = some (τ, 0) ∧ FrC [3904] [40, 41, 42] σ τ ∧ DE τ (rpE z p E) := by
  obtain ⟨d1, d2, d3, d4, d5⟩ := id hD
  have wF := cF_wf hw
  have hF : Fl (σ.2.1 40) 0 (fl (cF E)) := by rw [cF_fl]; exact RS_Fl d5
  obtain ⟨q1, q2⟩ := sb_Fl hF hs
  have wy := (sb_wf wF hs).1
  rw [cF_wt] at q2
  have ty := tw_pos y
  have tz := tw_pos z
  rw [show (0 : Int) + (p : Int) = (p : Int) by omega] at q1
  have ea := aft40 (β := β - 1) hA (by decide) (x := y) (q := (p : Int)) q1 wy (by omega) (by omega)
  obtain ⟨σ1, hσ1⟩ : ∃ s, s = zCp σ 68 40 0 (p : Int) (tw z : Int) := ⟨_, rfl⟩
  have c1 : ∀ q, σ1.2.1 40 q = if (p : Int) ≤ q ∧ q < (p : Int) + (tw z : Int) then σ.2.1 68 (0 + (q - (p : Int))) else σ.2.1 40 q := fun q => by
    rw [hσ1]
    show (if 40 = 40 ∧ (p : Int) ≤ q ∧ q < (p : Int) + (tw z : Int) then _ else _) = _
    simp
  have f1 : FrC [3904] [40, 41, 42] σ σ1 := by rw [hσ1]; exact FrC_C
  obtain ⟨σ2, hσ2⟩ : ∃ s, s = zCp σ1 40 40 ((p : Int) + (tw y : Int)) ((p : Int) + (tw z : Int)) ((wtL E : Int) - ((p : Int) + (tw y : Int))) := ⟨_, rfl⟩
  have c2 : ∀ q, σ2.2.1 40 q = if (p : Int) + (tw z : Int) ≤ q ∧ q < (p : Int) + (tw z : Int) + ((wtL E : Int) - ((p : Int) + (tw y : Int))) then σ1.2.1 40 ((p : Int) + (tw y : Int) + (q - ((p : Int) + (tw z : Int)))) else σ1.2.1 40 q := fun q => by
    rw [hσ2]
    show (if 40 = 40 ∧ (p : Int) + (tw z : Int) ≤ q ∧ q < (p : Int) + (tw z : Int) + ((wtL E : Int) - ((p : Int) + (tw y : Int))) then _ else _) = _
    simp
  have f2 : FrC [3904] [40, 41, 42] σ σ2 := by
    have b : FrC [3904] [40, 41, 42] σ1 σ2 := by rw [hσ2]; exact FrC_C
    exact f1.trans b
  have j2 : ∀ j q, j ≠ 40 → σ2.2.1 j q = σ.2.1 j q := fun j q hj => by
    rw [hσ2, hσ1]
    simp [zCp, hj]
  have i2 : ∀ j, σ2.1 j = σ.1 j := fun j => by rw [hσ2, hσ1]; rfl
  obtain ⟨d, hd⟩ : ∃ d : Int, d = (tw y : Int) - (tw z : Int) := ⟨_, rfl⟩
  obtain ⟨σ3, hσ3⟩ : ∃ s, s = zI σ2 3904 ((wtL E : Int) - d) := ⟨_, rfl⟩
  have f3 : FrC [3904] [40, 41, 42] σ σ3 := by
    have b : FrC [3904] [40, 41, 42] σ2 σ3 := by rw [hσ3]; exact FrC_I
    exact f2.trans b
  have j3 : ∀ j q, j ≠ 40 → σ3.2.1 j q = σ.2.1 j q := fun j q hj => by rw [hσ3, zI_2]; exact j2 j q hj
  have b3 := RS_bd d5
  obtain ⟨τ, t1, t2, t3, t4, t5⟩ := rep_p70 (β := β) (x0 := (p : Int)) (x1 := (tw z : Int)) (x2 := (p : Int) + (tw y : Int)) (d := d) (n8 := E.length) d2 (by omega) (by omega) E.length 0 σ3 (by rw [f3.i 3905]; exact d1) (by omega) (fun j j0 j1 => by
    rw [j3 42 j (by decide), j3 41 (j + 1) (by decide)]
    exact b3 j (by omega) (by omega))
  have fτ : FrC [3904] [40, 41, 42] σ τ := f3.trans t2.w
  refine ⟨τ, ?_, fτ, ?_⟩
  · rw [yq_Dra_replace_68, kY_Dra_replace_68, if_pos hβ, zbd_of ea, if_pos (by omega), lt_e, ← hσ1, if_pos (by omega)]
    have u1 : σ1.1 3904 = (wtL E : Int) := by rw [hσ1]; exact d3
    have u2 : σ2.1 3904 = (wtL E : Int) := by rw [i2]; exact d3
    rw [u1, if_pos (by omega), if_pos (by omega), lt_e, ← hσ2, if_pos (by omega), if_pos (by omega), u2, show (p : Int) + (tw y : Int) - (p : Int) - (tw z : Int) = d by omega, if_pos (by omega), lt_e, ← hσ3]
    exact t1
  · have e40 : ∀ q, τ.2.1 40 q = σ2.2.1 40 q := fun q => by rw [t2.a 40, hσ3, zI_2]
    have lo := rpE_F (z := z) (E := E) (o := p) (by omega)
    have fr := fl_rp (r := z) hs
    rw [lo, cF_fl, cF_fl] at fr
    have hL : (flQ (toQ E)).length = wtL E := toQ_len E
    have wl : wtL (rpE z p E) + tw y = wtL E + tw z := by
      have := rp_w (r := z) wF hs
      rw [lo, cF_wt, cF_wt] at this; exact this
    have hFl : Fl (σ.2.1 40) 0 (flQ (toQ E)) := RS_Fl d5
    have newF : Fl (τ.2.1 40) 0 (flQ (toQ (rpE z p E))) := by
      rw [fr]
      have s1 : Fl (σ.2.1 40) 0 ((flQ (toQ E)).take p ++ (flQ (toQ E)).drop p) := by rw [List.take_append_drop]; exact hFl
      have l1 : ((flQ (toQ E)).take p).length = p := by rw [List.length_take, hL]; omega
      refine Fl_app.mpr ⟨Fl_q (fun i i0 i1 => ?_) (Fl_app.mp s1).1, Fl_app.mpr ⟨Fl_of (fun i c hc => ?_), Fl_of (fun i c hc => ?_)⟩⟩
      · rw [l1] at i1
        rw [e40, c2, if_neg (by omega), c1, if_neg (by omega)]
      · have hi := (List.getElem?_eq_some_iff.mp hc).1
        rw [tt_len] at hi
        rw [l1, e40, c2, if_neg (by omega), c1, if_pos (by omega)]
        have := Fl_get hz hc
        rw [show (0 : Int) + (0 + (p : Int) + (i : Int) - (p : Int)) = 0 + (i : Int) by omega]
        exact this
      · have hi := (List.getElem?_eq_some_iff.mp hc).1
        rw [List.length_drop, hL] at hi
        rw [List.getElem?_drop] at hc
        have := Fl_get hFl hc
        rw [l1, tt_len, e40, c2, if_pos (by omega), c1, if_neg (by omega)]
        rw [show (p : Int) + (tw y : Int) + (0 + (p : Int) + (tw z : Int) + (i : Int) - ((p : Int) + (tw z : Int))) = 0 + ((p + tw y + i : Nat) : Int) by omega]
        exact this
    refine ⟨by rw [fτ.i 3905, rpE_len]; exact d1, by rw [rpE_len]; exact d2, ?_, by omega, SG_RS (SG_rp (σ := σ) (τ := τ) (z := z) (y := y) (d := d) (P := (p : Int)) hd hw (RS_SG d5) hs (by omega) ?_ (fun j j0 j1 => ?_)) rfl newF (Int.le_refl _) (by omega)⟩
    · rw [t2.i 3904, hσ3, zI_1]; omega
    · rw [t5 0 (by omega), j3 41 0 (by decide)]
      cases E with
      | nil => simp [wtL] at q2
      | cons a E => exact d5.1.1
    · obtain ⟨p1, p2⟩ := t3 j (by omega) (by omega)
      rw [p1, p2, j3 42 j (by decide), j3 41 (j + 1) (by decide), t2.a 43, j3 43 j (by decide)]
      exact ⟨rfl, rfl, rfl⟩
