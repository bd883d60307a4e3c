/-! SUPERPOSITION of CLAUSE k1, LITERAL i, side s, into CLAUSE k2, LITERAL j, side t, at o -/
theorem sh_0 (F : T) : sh 0 F = F := by
  refine T.ind (P := fun G => sh 0 G = G) rfl (fun n k s hk hs => ?_) F
  show nd (if cl n < 0 then cu (cl n - 0) else n) (sh 0 k) (sh 0 s) = _
  rw [hk, hs, Int.sub_zero, cu_cl, ite_self]
theorem shT_0 (x : Tm) : shT 0 x = x := by
  unfold shT
  rw [sh_0, Int.sub_zero, cu_cl, ite_self]
theorem slL_0 (a : Lt) : slL 0 a = a := by unfold slL; rw [shT_0, shT_0]
theorem pos_app {Cs X : List CL} {k : Nat} (h : k < Cs.length) : pos (Cs ++ X) k = pos Cs k := by unfold pos; rw [List.take_append_of_le_length (by omega)]
theorem get_app {Cs X : List CL} {k : Nat} {c : CL} (h : Cs[k]? = some c) : (Cs ++ X)[k]? = some c := by
  rw [List.getElem?_append_left (List.getElem?_eq_some_iff.mp h).1]; exact h
/-- all of C, with r for what lies at o on side t of LITERAL j -/
def rpL (r : Tm) (j : Nat) (t : Int) (o : Nat) : Nat → List Lt → List Lt
  | _, [] => []
  | n, a :: C => (a.1, if n = j ∧ t = 0 then rpT r o (shT 6 a.2.1) else shT 6 a.2.1, if n = j ∧ t = 1 then rpT r o (shT 6 a.2.2) else shT 6 a.2.2) :: rpL r j t o (n + 1) C
theorem lb12 {ar : Int → Nat} {m9 b : Int} (hb : b = 0 ∨ b = 6) {x : Tm} (w : wf ar (lb m9) (tt x)) : wf ar (lw 12 m9) (tt (shT b x)) := by
  have : wf ar (lw (6 + b) m9) (sh b (tt x)) := sh_wf (by omega) w
  exact wf_mono (fun c hc => by unfold lw at *; omega) this
theorem rp_wfT {ar : Int → Nat} {p : Int → Prop} {r x : Tm} {o : Nat} (wr : wf ar p (tt r)) (w : wf ar p (tt x)) (ho : o < tw x) : wf ar p (tt (rpT r o x)) := by
  rw [← rp_tt ho]; exact rp_wf wr w
theorem rpL_wf {ar : Int → Nat} {m9 : Int} {r : Tm} {j : Nat} {t : Int} {o : Nat} (wr : wf ar (lb m9) (tt r)) : ∀ {C : List Lt} {n : Nat}, WL ar (lb m9) C → (∀ m a, C[m]? = some a → n + m = j → (t = 0 → o < tw a.2.1) ∧ (t = 1 → o < tw a.2.2)) → WL ar (lw 12 m9) (rpL r j t o n C)
  | [], n, _, _ => fun a ha => (by cases ha)
  | a :: C, n, w, h => by
    obtain ⟨w0, w1, w2⟩ := w a List.mem_cons_self
    have h0 := h 0 a rfl
    have wr' : wf ar (lw 12 m9) (tt r) := by have := lb12 (b := 0) (Or.inl rfl) wr; rw [shT_0] at this; exact this
    have s1 := lb12 (b := 6) (Or.inr rfl) w1
    have s2 := lb12 (b := 6) (Or.inr rfl) w2
    intro b hb
    rcases List.mem_cons.mp hb with rfl | hb
    · refine ⟨w0, ?_, ?_⟩
      · show wf ar _ (tt (if n = j ∧ t = 0 then _ else _))
        by_cases e : n = j ∧ t = 0
        · rw [if_pos e]; exact rp_wfT wr' s1 (by rw [shT_tw]; exact (h0 (by omega)).1 e.2)
        · rw [if_neg e]; exact s1
      · show wf ar _ (tt (if n = j ∧ t = 1 then _ else _))
        by_cases e : n = j ∧ t = 1
        · rw [if_pos e]; exact rp_wfT wr' s2 (by rw [shT_tw]; exact (h0 (by omega)).2 e.2)
        · rw [if_neg e]; exact s2
    · exact rpL_wf wr (C := C) (n := n + 1) (fun d hd => w d (List.mem_cons_of_mem _ hd)) (fun m d hd e => h (m + 1) d hd (by omega)) b hb
theorem rpQs_to {ar : Int → Nat} {m9 : Int} {th : Vs} {r y : Tm} {j : Nat} {t : Int} {o : Nat} (wr : wf ar (lb m9) (tt r)) : ∀ {C : List Lt} {n : Nat}, WL ar (lb m9) C → (∀ m a, C[m]? = some a → n + m = j → (t = 0 → o < tw a.2.1 ∧ sbF o (tt a.2.1) = some y) ∧ (t = 1 → o < tw a.2.2 ∧ sbF o (tt a.2.2) = some y)) → rpQs th r j t o y n C = toQ (mpL (st th) (rpL r j t o n C))
  | [], n, _, _ => rfl
  | a :: C, n, w, h => by
    obtain ⟨w0, w1, w2⟩ := w a List.mem_cons_self
    have h0 := h 0 a rfl
    have wr' : wf ar (lw 12 m9) (tt r) := by have := lb12 (b := 0) (Or.inl rfl) wr; rw [shT_0] at this; exact this
    have s1 := lb12 (b := 6) (Or.inr rfl) w1
    have s2 := lb12 (b := 6) (Or.inr rfl) w2
    have e1 : fl (tt (st th (shT 6 a.2.1))) = exL th 6 (fl (tt a.2.1)) := fl_su (F := tt a.2.1) (by decide) w1
    have e2 : fl (tt (st th (shT 6 a.2.2))) = exL th 6 (fl (tt a.2.2)) := fl_su (F := tt a.2.2) (by decide) w2
    have ih := rpQs_to (th := th) (y := y) (j := j) (t := t) (o := o) wr (C := C) (n := n + 1) (fun d hd => w d (List.mem_cons_of_mem _ hd)) (fun m d hd e => h (m + 1) d hd (by omega))
    show rpQ th r j t o y n a :: rpQs th r j t o y (n + 1) C = (a.1, fl (tt (st th (if n = j ∧ t = 0 then rpT r o (shT 6 a.2.1) else shT 6 a.2.1))), fl (tt (st th (if n = j ∧ t = 1 then rpT r o (shT 6 a.2.2) else shT 6 a.2.2)))) :: toQ (mpL (st th) (rpL r j t o (n + 1) C))
    rw [ih]
    congr 1
    unfold rpQ
    have g1 : (if n = j ∧ t = 0 then wrR th r o a.2.1 y else exL th 6 (fl (tt a.2.1))) = fl (tt (st th (if n = j ∧ t = 0 then rpT r o (shT 6 a.2.1) else shT 6 a.2.1))) := by
      by_cases e : n = j ∧ t = 0
      · obtain ⟨q1, q2⟩ := (h0 (by omega)).1 e.2
        rw [if_pos e, if_pos e, wrR_rp (p := lw 12 m9) s1 wr' q2 q1]
      · rw [if_neg e, if_neg e, e1]
    have g2 : (if n = j ∧ t = 1 then wrR th r o a.2.2 y else exL th 6 (fl (tt a.2.2))) = fl (tt (st th (if n = j ∧ t = 1 then rpT r o (shT 6 a.2.2) else shT 6 a.2.2))) := by
      by_cases e : n = j ∧ t = 1
      · obtain ⟨q1, q2⟩ := (h0 (by omega)).2 e.2
        rw [if_pos e, if_pos e, wrR_rp (p := lw 12 m9) s2 wr' q2 q1]
      · rw [if_neg e, if_neg e, e2]
    rw [g1, g2]
theorem oth_wf {ar : Int → Nat} {m9 : Int} {i j : Nat} {C : List Lt} (w : WL ar (lb m9) C) : WL ar (lw 12 m9) (oth i j 0 C) := fun a ha => by
  obtain ⟨w0, w1, w2⟩ := w a (oth_mem ha)
  have s1 := lb12 (b := 0) (Or.inl rfl) w1
  have s2 := lb12 (b := 0) (Or.inl rfl) w2
  rw [shT_0] at s1 s2
  exact ⟨w0, s1, s2⟩
/-- a TERM within a LITERAL -/
theorem TA_of {ar : Int → Nat} {m9 : Int} {σ : zS} {Cs : List CL} (hS : SC σ Cs) {k : Nat} {c : CL} (hc : Cs[k]? = some c) (wc : Wc ar m9 c.1) {i : Nat} {a : Lt} (ha : c.1[i]? = some a) {s : Int} (hs : s = 0 ∨ s = 1) {o : Nat} {y : Tm} (hy : sbF o (tt (sdT a s)) = some y) {b : Int} (hb : b = 0 ∨ b = 6) (hbs : bs σ b = pos Cs k) : TA ar m9 σ (sdp (hp (pos Cs k) c.1 i) a s + (o : Int)) b y := by
  have hl := hS.hl hc ha
  obtain ⟨_, k2, k3, k4⟩ := hS.k hc
  obtain ⟨w1, w2, w3, w4, w5⟩ := wc
  obtain ⟨_, wa, wb⟩ := w5 a (List.mem_of_getElem? ha)
  obtain ⟨_, _, _, l1, l2, l3, l4, l5, l6⟩ := hl
  have hp1 := hp_s (p := pos Cs k) ha
  have hp2 : hp (pos Cs k) c.1 (i + 1) ≤ pos Cs k + (szL c.1 : Int) := by
    unfold hp
    have : szL c.1 = szL (c.1.take (i + 1)) + szL (c.1.drop (i + 1)) := by rw [← szL_app, List.take_append_drop]
    omega
  have hp3 : pos Cs k ≤ hp (pos Cs k) c.1 i := by unfold hp; omega
  have sz := szL_wt c.1
  have lw : lwt a ≤ wtL c.1 := wtL_mem (List.mem_of_getElem? ha)
  simp only [lwt] at lw
  have ey : (wt (tt y) : Int) = (tw y : Int) := by simp only [tt, wt, tw]; omega
  have e1 : wt (tt a.2.1) = tw a.2.1 := by simp only [tt, wt, tw]; omega
  have e2 : wt (tt a.2.2) = tw a.2.2 := by simp only [tt, wt, tw]; omega
  rcases hs with rfl | rfl
  · have es : sdT a 0 = a.2.1 := rfl
    rw [es] at hy
    obtain ⟨q1, q2⟩ := sb_Fl l1 hy
    have q3 := (sb_wf wa hy).1
    refine ⟨hb, ?_, q3, ?_, ?_, ?_, ?_, ?_⟩
    · exact q1
    · omega
    · rw [hbs]; show _ ≤ hp _ _ _ + 5 + (o : Int); omega
    · rw [hbs]; show hp _ _ _ + 5 + (o : Int) + _ ≤ _; omega
    · show hp _ _ _ + 5 + (o : Int) + _ ≤ _; omega
    · omega
  · have es : sdT a 1 = a.2.2 := rfl
    rw [es] at hy
    obtain ⟨q1, q2⟩ := sb_Fl l2 hy
    have q3 := (sb_wf wb hy).1
    refine ⟨hb, ?_, q3, ?_, ?_, ?_, ?_, ?_⟩
    · exact q1
    · omega
    · rw [hbs]; show _ ≤ hp _ _ _ + 5 + (tw a.2.1 : Int) + (o : Int); omega
    · rw [hbs]; show hp _ _ _ + 5 + (tw a.2.1 : Int) + (o : Int) + _ ≤ _; omega
    · show hp _ _ _ + 5 + (tw a.2.1 : Int) + (o : Int) + _ ≤ _; omega
    · omega
where
  wtL_mem : ∀ {C : List Lt} {a : Lt}, a ∈ C → lwt a ≤ wtL C := fun {C a} h => by
    induction C with
    | nil => cases h
    | cons b C ih =>
      rcases List.mem_cons.mp h with rfl | h
      · simp only [wtL, lwt]; omega
      · have := ih h; simp only [wtL]; omega
