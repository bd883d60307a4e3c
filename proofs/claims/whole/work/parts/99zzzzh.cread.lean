/-! THE CLASS READS A TEXT -/
/-- what no TEXT changes but in size -/
def CB1 (σ : zS) : Prop := (16 ≤ σ.2.2 48 ∧ σ.2.2 48 ≤ 565000) ∧ (16 ≤ σ.2.2 52 ∧ σ.2.2 52 ≤ 45000) ∧ (16 ≤ σ.2.2 50 ∧ σ.2.2 50 ≤ 265000) ∧ MT σ ∧ (∃ N, DN σ N) ∧ (0 ≤ σ.1 3905 ∧ σ.1 3905 ≤ 8) ∧ (16 ≤ σ.2.2 56 ∧ σ.2.2 56 ≤ 10000) ∧ (16 ≤ σ.2.2 58 ∧ σ.2.2 58 ≤ 10000)
theorem CB1.f {I A : List Nat} {σ τ : zS} (h : CB1 σ) (f : FrC I A σ τ) (hI : ([3905, 3911, 6401].all (fun j => !(I.elem j))) = true := by decide) (hA : ([44, 46, 48, 50, 52, 56, 58, 63, 65].all (fun j => !(A.elem j))) = true := by decide) : CB1 τ := by
  obtain ⟨a, b, c, d, ⟨N, e⟩, g, i, j⟩ := h
  simp only [List.all_cons, List.all_nil, Bool.and_true, Bool.and_eq_true, Bool.not_eq_true'] at hI hA
  obtain ⟨i1, i2, i3⟩ := hI
  obtain ⟨a1, a2, a3, a4, a5, a6, a7, a8, a9⟩ := hA
  refine ⟨?_, ?_, ?_, d.f f i3 a8 a9, ⟨N, e.f f i2 a1 a2⟩, ?_, ?_, ?_⟩
  · rw [f.2.2.1 48 a3 (by decide) (by decide)]; exact a
  · rw [f.2.2.1 52 a5 (by decide) (by decide)]; exact b
  · rw [f.2.2.1 50 a4 (by decide) (by decide)]; exact c
  · rw [f.1 3905 i1]; exact g
  · rw [f.2.2.1 56 a6 (by decide) (by decide)]; exact i
  · rw [f.2.2.1 58 a7 (by decide) (by decide)]; exact j
/-- nothing is stored, nothing counted -/
def CB0 (σ : zS) : Prop := (σ.1 4701 = 0 ∧ σ.1 4901 = 0 ∧ σ.1 5101 = 0 ∧ σ.1 5402 = 0) ∧ (σ.1 5300 = 0 ∧ σ.1 5301 = 0 ∧ σ.1 5302 = 0 ∧ σ.1 5303 = 0 ∧ σ.1 5304 = 0 ∧ σ.1 5305 = 0 ∧ σ.1 5306 = 0) ∧ σ.1 5501 = 0
theorem CB0.f {I A : List Nat} {σ τ : zS} (h : CB0 σ) (f : FrC I A σ τ) (hI : ([4701, 4901, 5101, 5402, 5300, 5301, 5302, 5303, 5304, 5305, 5306, 5501].all (fun j => !(I.elem j))) = true := by decide) : CB0 τ := by
  simp only [List.all_cons, List.all_nil, Bool.and_true, Bool.and_eq_true, Bool.not_eq_true'] at hI
  obtain ⟨i1, i2, i3, i4, i5, i6, i7, i8, i9, i10, i11, i12⟩ := hI
  obtain ⟨⟨a1, a2, a3, a4⟩, ⟨b1, b2, b3, b4, b5, b6, b7⟩, c⟩ := h
  exact ⟨⟨by rw [f.1 _ i1]; exact a1, by rw [f.1 _ i2]; exact a2, by rw [f.1 _ i3]; exact a3, by rw [f.1 _ i4]; exact a4⟩, ⟨by rw [f.1 _ i5]; exact b1, by rw [f.1 _ i6]; exact b2, by rw [f.1 _ i7]; exact b3, by rw [f.1 _ i8]; exact b4, by rw [f.1 _ i9]; exact b5, by rw [f.1 _ i10]; exact b6, by rw [f.1 _ i11]; exact b7⟩, by rw [f.1 _ i12]; exact c⟩
abbrev fc0 : Nat → Int := fun _ => 0
theorem CI_0 {ar : Int → Nat} {pd : Int → Prop} {m9 : Int} {σ : zS} (h1 : CB1 σ) (h0 : CB0 σ) (hM : Mb σ ∧ RL σ) (hA : ArC σ ar (lb m9)) (hm : 0 ≤ m9 ∧ m9 ≤ 551) (hp : ∀ c, 0 ≤ c → c < m9 → (σ.2.1 12 c = 1 ↔ pd c)) : CI ar pd m9 σ ([], fc0) := by
  obtain ⟨a, b, c, d, e, g, i, j⟩ := h1
  obtain ⟨⟨a1, a2, a3, a4⟩, ⟨b1, b2, b3, b4, b5, b6, b7⟩, _⟩ := h0
  refine ⟨⟨hA, hm.2, hp, by omega, by omega, by omega⟩, hm.1, ⟨trivial, a4, a1, by rw [a3]; rfl, ⟨by omega, a.2, a.1⟩, ⟨by omega, b.2, b.1⟩, ⟨by omega, by omega, c.2, c.1⟩, by simp⟩, ⟨b1, b2, b3, b4, b5, b6, b7⟩, hM.1, hM.2, d, e, g, fun c hc => (by cases hc), fun k c hk => (by cases hk), ⟨fun k k0 k1 => absurd k1 (by simp; omega), by rw [a2]; simp⟩⟩
theorem SI_of {ar : Int → Nat} {pd : Int → Prop} {m9 : Int} {σ : zS} {Cs : List CL} (h : CI ar pd m9 σ (Cs, fc0)) (h5 : σ.1 5501 = 0) (h56 : 16 ≤ σ.2.2 56 ∧ σ.2.2 56 ≤ 10000) (h58 : 16 ≤ σ.2.2 58 ∧ σ.2.2 58 ≤ 10000) : SI ar pd m9 σ (Cs, fc0) [] := by
  obtain ⟨c1, c2, c3, c4, c5, c6, c7, c8, c9, c10, c11, c12⟩ := id h
  exact ⟨⟨c1, c2, c3, c4, c5, c6, c7, c8, c9, c10, c11⟩, fun _ => ⟨c12, rfl⟩, ⟨h5, by simp, h56.1, trivial⟩, h56.2, h58.1, h58.2⟩
theorem SI.b1 {ar : Int → Nat} {pd : Int → Prop} {m9 : Int} {σ : zS} {A : PA} {P : List Int} (h : SI ar pd m9 σ A P) : CB1 σ ∧ Mb σ ∧ RL σ := by
  obtain ⟨⟨c1, c2, c3, c4, c5, c6, c7, c8, c9, _⟩, _, r, s, t, u⟩ := h
  obtain ⟨_, _, _, _, ⟨_, x1, x2⟩, ⟨_, y1, y2⟩, ⟨_, _, z1, z2⟩, _⟩ := c3
  exact ⟨⟨⟨x2, x1⟩, ⟨y2, y1⟩, ⟨z2, z1⟩, c7, c8, c9, ⟨r.2.2.1, s⟩, t, u⟩, c5, c6⟩
theorem CI.b1 {ar : Int → Nat} {pd : Int → Prop} {m9 : Int} {σ : zS} {A : PA} (h : CI ar pd m9 σ A) (h56 : 16 ≤ σ.2.2 56 ∧ σ.2.2 56 ≤ 10000) (h58 : 16 ≤ σ.2.2 58 ∧ σ.2.2 58 ≤ 10000) : CB1 σ ∧ Mb σ ∧ RL σ := by
  obtain ⟨c1, c2, c3, c4, c5, c6, c7, c8, c9, _⟩ := h
  obtain ⟨_, _, _, _, ⟨_, x1, x2⟩, ⟨_, y1, y2⟩, ⟨_, _, z1, z2⟩, _⟩ := c3
  exact ⟨⟨⟨x2, x1⟩, ⟨y2, y1⟩, ⟨z2, z1⟩, c7, c8, c9, h56, h58⟩, c5, c6⟩
abbrev cpI : List Nat := [604, 605, 1001, 1402, 1403, 1414, 1501, 1801, 2001, 3100, 3101, 3108, 3201, 3202, 3203, 3204, 3205, 3206, 3207, 3301, 3501, 3701, 2901, 3904, 3905, 3906, 3907, 3911, 4701, 4901, 5101, 5402, 5403, 5300, 5301, 5302, 5303, 5304, 5305, 5306, 5501, 10, 11, 101]
abbrev cpA : List Nat := [7, 8, 9, 11, 12, 16, 17, 19, 21, 22, 23, 24, 25, 26, 27, 28, 30, 34, 36, 38, 40, 41, 42, 43, 44, 45, 46, 48, 52]
theorem symclr {β : Nat} {σ : zS} : yE tC_Sym_clear β σ [] = some (zI (zI (zI σ 604 0) 605 1) 1001 0, 0) := by rw [yq_Sym_clear, kY_Sym_clear]; rfl
theorem stoclr {β : Nat} {σ : zS} : yE tC_Sto_clear β σ [] = some (zI (zI (zI (zI (zI σ 4701 0) 4901 0) 5101 0) 5402 0) 5403 0, 0) := by rw [yq_Sto_clear, kY_Sto_clear]; rfl
theorem satclr {β : Nat} {σ : zS} : yE tC_Sat_clear β σ [] = some (zI (zI (zI (zI (zI (zI (zI (zI σ 5300 0) 5301 0) 5302 0) 5303 0) 5304 0) 5305 0) 5306 0) 5501 0, 0) := by rw [yq_Sat_clear, kY_Sat_clear]; rfl
/-- the class after a FAULT -/
def CFt (τ : zS) (k q : Int) : Prop := SI (fun _ => 0) (fun c => c = 0) 1 τ ([], fc0) [] ∧ (cap τ ∧ capq τ ∧ l30 τ) ∧ τ.1 10 = k ∧ τ.1 11 = q ∧ τ.1 101 = 0 ∧ τ.1 604 = 0 ∧ τ.1 605 = 1 ∧ τ.1 1001 = 0 ∧ τ.1 5403 = 0
theorem rd_130 {β : Nat} (hβ : 1 ≤ β) {σ : zS} {k q : Int} (h1 : CB1 σ) (hM : Mb σ ∧ RL σ) (hk : σ.1 10 = k ∧ k ≠ 0) (hq : σ.1 11 = q) (h101 : σ.1 101 = 0) (hc : cap σ ∧ capq σ ∧ l30 σ) (hz : (σ.1 5300 = 0 ∧ σ.1 5301 = 0 ∧ σ.1 5302 = 0 ∧ σ.1 5303 = 0 ∧ σ.1 5304 = 0 ∧ σ.1 5305 = 0 ∧ σ.1 5306 = 0) ∧ σ.1 5501 = 0) : ∃ τ, yE tG_CP_read_p130 β σ [] = some (τ, -1) ∧ CFt τ k q ∧ FrC cpI cpA σ τ := by
  obtain ⟨τ, hτ⟩ : ∃ x, x = zI (zI (zI (zI (zI (zI (zI (zI σ 604 0) 605 1) 1001 0) 4701 0) 4901 0) 5101 0) 5402 0) 5403 0 := ⟨_, rfl⟩
  have f : FrC [604, 605, 1001, 4701, 4901, 5101, 5402, 5403] [] σ τ := by
    rw [hτ]
    exact FrC.trans (FrC.trans (FrC.trans (FrC.trans (FrC.trans (FrC.trans (FrC.trans FrC_I FrC_I) FrC_I) FrC_I) FrC_I) FrC_I) FrC_I) FrC_I
  have e2 : τ.2 = σ.2 := by rw [hτ]; rfl
  have b1 := h1.f f
  have b0 : CB0 τ := by
    refine ⟨⟨by simp [hτ, zI], by simp [hτ, zI], by simp [hτ, zI], by simp [hτ, zI]⟩, ?_, ?_⟩
    · rw [f.i 5300, f.i 5301, f.i 5302, f.i 5303, f.i 5304, f.i 5305, f.i 5306]; exact hz.1
    · rw [f.i 5501]; exact hz.2
  have hM2 : Mb τ ∧ RL τ := ⟨hM.1.m f.2.2.2, hM.2.f f⟩
  have hca : cap τ ∧ capq τ ∧ l30 τ := by
    unfold cap capq l30
    rw [e2]
    exact hc
  have hI := CI_0 (ar := fun _ => 0) (pd := fun c => c = 0) (m9 := 1) b1 b0 hM2 (fun c hc0 h0 => ⟨by have := hc0.2; omega, by
    have : c = 0 := by have := hc0.2; omega
    rw [this]; exact hca.1.2.2.2.1⟩) ⟨by decide, by decide⟩ (fun c h0 h1 => by
    have : c = 0 := by omega
    rw [this]
    exact ⟨fun _ => rfl, fun _ => hca.1.2.2.2.2⟩)
  refine ⟨τ, ?_, ⟨SI_of hI b0.2.2 b1.2.2.2.2.2.2.1 b1.2.2.2.2.2.2.2, hca, by rw [f.i 10]; exact hk.1, by rw [f.i 11]; exact hq, by rw [f.i 101]; exact h101, by simp [hτ, zI], by simp [hτ, zI], by simp [hτ, zI], by simp [hτ, zI]⟩, f.w⟩
  rw [yq_CP_read_p130, kY_CP_read_p130, if_neg (by omega), if_pos hβ, zbd_of symclr, if_pos hβ, zbd_of stoclr, ← hτ]
theorem CPa.g {X Y : Int → Int} {n : Int} {σ τ : zS} {st : PS} {SL : List SE} {TT : List Int} {NN : List N6} (h : CPa X Y n σ st SL TT NN) (f : FrC [10, 11, 101] [] σ τ) : CPa X Y n τ st SL TT NN := by
  obtain ⟨⟨a1, a2, a3⟩, ⟨b1, bb2, b3⟩, ⟨c1, c2, c3⟩, d, e, g, ⟨g1, g2, g3, g4⟩, i⟩ := h
  refine ⟨⟨a1.f f, a2.f f, a3.f f⟩, ⟨b1.f f, by rw [f.l 21]; exact bb2, b3⟩, ⟨by rw [f.i 1414]; exact c1, c2, fun k v hv => by rw [f.a 28]; exact c3 k v hv⟩, ⟨d.1.m f.2.2.2, d.2.f f⟩, by rw [f.i 3100]; exact e, ⟨g.1.f f, by rw [f.l 16]; exact g.2.1, g.2.2⟩, ⟨g1.f f, g2, g3, ?_⟩, i.q (fun v => ⟨f.a 17 v, f.a 24 v, f.a 25 v⟩)⟩
  unfold capq
  rw [f.l 19, f.l 34, f.l 36, f.l 38]
  exact g4
theorem mkS_in {w : Nat → Nat} {q : Int} : ∀ {L : List SE} {n : Nat} {Cs : List CL}, mkS w L n Cs = .inl q → ∃ e ∈ L, e.1 = q
  | [], n, Cs, h => by cases h
  | e :: L, n, Cs, h => by
    unfold mkS at h
    split at h
    · cases h; exact ⟨e, by simp, rfl⟩
    · split at h
      · obtain ⟨x, hx, hq⟩ := mkS_in h
        exact ⟨x, by simp [hx], hq⟩
      · cases h; exact ⟨e, by simp, rfl⟩
theorem seS_p {X : Int → Int} {n : Int} (hn : n ≤ 20000) : ∀ (m : Nat) (st : PS) (L : List SE) (a : PS × List SE), 0 ≤ st.1 → (∀ e ∈ L, 0 ≤ e.1) → seS X n m st L = pOk a → ∀ e ∈ a.2, 0 ≤ e.1
  | 0, st, L, a, _, _, h => by cases h
  | m + 1, st, L, a, h0, hL, h => by
    unfold seS at h
    by_cases c0 : tk X n st.1 = 0
    · rw [if_pos c0] at h; cases h; exact hL
    rw [if_neg c0] at h
    obtain ⟨r, h1, h2⟩ := pb_y h
    by_cases c46 : tk X n r.1.1 = 46
    · rw [if_pos c46] at h2
      have hq := tq_ge (T := X) (n := n) (p := st.1)
      have ht := te_ge (T := X) (n := n) (p := st.1)
      have ht2 := te_ge (T := X) (n := n) (p := r.1.1)
      have i1 := (fmS_i hn m 0 0 (0, nl) _ r (fun v hv => by rcases hv with hv | hv <;> cases hv) (by intro h; omega) h1).1.1
      have i1 : (if prvS X n st.1 = true then te X n st.1 else st.1) ≤ r.1.1 := i1
      refine seS_p hn m (adv X n r.1) _ a (by show 0 ≤ te X n r.1.1; split at i1 <;> omega) (fun e he => ?_) h2
      rcases List.mem_append.mp he with he | he
      · exact hL e he
      · cases List.mem_singleton.mp he
        show 0 ≤ tq X n st.1
        omega
    · rw [if_neg c46] at h2; cases h2
theorem cread_ok {X Y : Int → Int} {n : Int} (hC : CTX X Y n) {β : Nat} (hβ : 160 ≤ β) {ar : Int → Nat} {pd : Int → Prop} {m9 : Int} {σ : zS} {A : PA} {P : List Int} (hI : SI ar pd m9 σ A P) (hY : σ.2.1 2 = Y) (hl : n ≤ (σ.2.2 2 : Int)) (h0 : 0 ≤ n) (hn : n ≤ 20000) (h101 : σ.1 101 = n) (hcp : cap σ ∧ capq σ ∧ l30 σ) {m : Nat} {r : (Int × Int) ⊕ (PS × List SE)} (hr : seS X n m (0, [], [], [], []) [] = some r) :
    (∀ e, r = .inl e → ∃ τ, yE tG_CP_read β σ [] = some (τ, -1) ∧ CFt τ e.1 e.2 ∧ FrC cpI cpA σ τ) ∧
    (∀ a, r = .inr a → UA a.2 ∧ TXo a.1.2.1 a.2 a.1.2.2.1.length ∧ a.1.2.2.1.length ≤ 300 ∧
      (∀ q, mkS (wS a.1.2.1 a.2) a.2 0 [] = .inl q → ∃ τ, yE tG_CP_read β σ [] = some (τ, -1) ∧ CFt τ 3 q ∧ FrC cpI cpA σ τ) ∧
      (∀ Cs, mkS (wS a.1.2.1 a.2) a.2 0 [] = .inr Cs → ∃ τ, yE tG_CP_read β σ [] = some (τ, (Cs.length : Int)) ∧ SI (arS a.1.2.1 a.2) (pdS a.1.2.1) (m9S a.1.2.1 a.2 a.1.2.2.1.length) τ (Cs, fc0) [] ∧ (cap τ ∧ capq τ ∧ l30 τ) ∧ τ.1 10 = 0 ∧ τ.1 11 = 0 ∧ τ.1 101 = 0 ∧ τ.1 5403 = (Cs.length : Int) ∧ τ.1 605 = m9S a.1.2.1 a.2 a.1.2.2.1.length ∧ CNm (zI τ 605 ((a.1.2.1.length : Int) + 1)) a.1.2.1 ∧ FrC cpI cpA σ τ)) := by
  obtain ⟨hB, hM⟩ := hI.b1
  obtain ⟨σ1, hs1⟩ : ∃ x, x = zI (zI (zI σ 604 0) 605 1) 1001 0 := ⟨_, rfl⟩
  obtain ⟨σ2, hs2⟩ : ∃ x, x = zI (zI (zI (zI (zI σ1 4701 0) 4901 0) 5101 0) 5402 0) 5403 0 := ⟨_, rfl⟩
  obtain ⟨σ3, hs3⟩ : ∃ x, x = zI (zI (zI (zI (zI (zI (zI (zI σ2 5300 0) 5301 0) 5302 0) 5303 0) 5304 0) 5305 0) 5306 0) 5501 0 := ⟨_, rfl⟩
  have e3 : σ3.2 = σ.2 := by rw [hs3, hs2, hs1]; rfl
  have f1 : FrC [604, 605, 1001] [] σ σ1 := by rw [hs1]; exact FrC.trans (FrC.trans FrC_I FrC_I) FrC_I
  have f2 : FrC [4701, 4901, 5101, 5402, 5403] [] σ1 σ2 := by rw [hs2]; exact FrC.trans (FrC.trans (FrC.trans (FrC.trans FrC_I FrC_I) FrC_I) FrC_I) FrC_I
  have f3 : FrC [5300, 5301, 5302, 5303, 5304, 5305, 5306, 5501] [] σ2 σ3 := by rw [hs3]; exact FrC.trans (FrC.trans (FrC.trans (FrC.trans (FrC.trans (FrC.trans (FrC.trans FrC_I FrC_I) FrC_I) FrC_I) FrC_I) FrC_I) FrC_I) FrC_I
  have g3 : FrC cpI cpA σ σ3 := (f1.w.trans f2.w).trans f3.w
  have k3 : FrC [604, 605, 1001, 4701, 4901, 5101, 5402, 5403, 5300, 5301, 5302, 5303, 5304, 5305, 5306, 5501] [] σ σ3 := (f1.w.trans f2.w).trans f3.w
  have hB3 : CB1 σ3 := hB.f k3
  have hZ3 : CB0 σ3 := by
    refine ⟨⟨?_, ?_, ?_, ?_⟩, ⟨?_, ?_, ?_, ?_, ?_, ?_, ?_⟩, ?_⟩ <;> (rw [hs3, hs2]; simp [zI])
  have hM3 : Mb σ3 ∧ RL σ3 := ⟨hM.1.m k3.2.2.2, hM.2.f k3⟩
  have hc3 : cap σ3 ∧ capq σ3 ∧ l30 σ3 := by
    unfold cap capq l30
    rw [e3]; exact hcp
  have hN3 : CNm σ3 [] := by
    refine ⟨by rw [hs3, hs2, hs1]; simp [zI], by simp, (by intro x hx; cases hx), by rw [hs3, hs2, hs1]; simp [zI], ⟨⟨by rw [hs3, hs2, hs1]; simp [zI, nmC], by simp [nmC], hc3.1.1.1, trivial⟩, hc3.1.1.2, hc3.1.2.2.2⟩, fun i x hx => (by cases hx)⟩
  have h101' : σ3.1 101 = n := by rw [k3.i 101]; exact h101
  obtain ⟨p1, p2⟩ := cparse_ok hC (β := β - 1) (by omega) (by rw [e3]; exact hY) (by rw [e3]; exact hl) h0 hn hN3 hM3 hc3.1 hc3.2.1 hr
  have start : ∀ (τ4 : zS) (R : Option zR), yE tG_Par_parse_2 (β - 1) σ3 [n] = some (τ4, 0) → (if ((zI (zI (zI τ4 101 0) 10 (τ4.1 3100)) 11 (τ4.1 3101)).1 10) = 0 then (if 1 ≤ β then (zbd (yE tC_For_makeWitnesses (β - 1) (zI (zI (zI τ4 101 0) 10 (τ4.1 3100)) 11 (τ4.1 3101)) []) (fun σ8 r8 => if 1 ≤ β then (zbd (yE tG_For_makeClauses (β - 1) σ8 []) (fun σ9 r9 => if r9 = (-1) then (yE tG_CP_read_p113 β σ9 [r9, 0]) else (yE tG_CP_read_p113 β σ9 [r9, 3]))) else none)) else none) else (yE tG_CP_read_p130 β (zI (zI (zI τ4 101 0) 10 (τ4.1 3100)) 11 (τ4.1 3101)) [])) = R → yE tG_CP_read β σ [] = R := fun τ4 R h1 h2 => by
    rw [yq_CP_read, kY_CP_read, if_pos (by omega), zbd_of symclr, ← hs1, if_pos (by omega), zbd_of stoclr, ← hs2, if_pos (by omega), zbd_of satclr, ← hs3, if_pos (by omega), h101', zbd_of h1, lt_e, lt_e, lt_e]
    exact h2
  refine ⟨fun e he => ?_, fun a ha => ?_⟩
  · obtain ⟨τ4, t1, t2, t3, t4, t5, t6, t7, t8⟩ := p1 e he
    obtain ⟨σ7, hs7⟩ : ∃ x, x = zI (zI (zI τ4 101 0) 10 (τ4.1 3100)) 11 (τ4.1 3101) := ⟨_, rfl⟩
    have f7 : FrC [10, 11, 101] [] τ4 σ7 := by rw [hs7]; exact FrC.trans (FrC.trans FrC_I FrC_I) FrC_I
    have e7 : σ7.2 = τ4.2 := by rw [hs7]; rfl
    have z7 : (σ7.1 5300 = 0 ∧ σ7.1 5301 = 0 ∧ σ7.1 5302 = 0 ∧ σ7.1 5303 = 0 ∧ σ7.1 5304 = 0 ∧ σ7.1 5305 = 0 ∧ σ7.1 5306 = 0) ∧ σ7.1 5501 = 0 := ((hZ3.f t5).f f7).2
    have h10 : σ7.1 10 = e.1 := by rw [hs7, ← t2]; simp [zI]
    obtain ⟨τ, u1, u2, u3⟩ := rd_130 (β := β) (by omega) ((hB3.f t5).f f7) ⟨t6.1.m f7.2.2.2, t6.2.f f7⟩ ⟨h10, t4⟩ (q := e.2) (by rw [hs7, ← t3]; simp [zI]) (by rw [hs7]; simp [zI]) (by
      have q1 : l30 τ4 := by unfold l30; rw [t5.l 30]; exact hc3.2.2
      unfold cap capq l30
      rw [e7]
      exact ⟨t7, t8, q1⟩) z7
    refine ⟨τ, start τ4 _ t1 ?_, u2, ((g3.trans t5.w).trans f7.w).trans u3⟩
    rw [← hs7, if_neg (by rw [h10]; exact t4)]
    exact u1
  · subst ha
    obtain ⟨τ4, TT, NN, t1, t2, t3⟩ := p2 a rfl
    obtain ⟨σ7, hs7⟩ : ∃ x, x = zI (zI (zI τ4 101 0) 10 (τ4.1 3100)) 11 (τ4.1 3101) := ⟨_, rfl⟩
    have f7 : FrC [10, 11, 101] [] τ4 σ7 := by rw [hs7]; exact FrC.trans (FrC.trans FrC_I FrC_I) FrC_I
    have hP7 := t2.g f7
    have h3100 : τ4.1 3100 = 0 := t2.2.2.2.2.1
    have hT := TXo_of hn hr
    have hp : a.1.1 ≤ n := hP7.1.1.1.2.2.2.2.1
    have hb3 : a.1.2.2.1.length ≤ 300 := hP7.1.2.2.2.1
    obtain ⟨hUA, τ8, w1, w2, w3, w4, w5, w6, w7, w8⟩ := mw_ok (β := β - 1) (by omega) hP7 hn hp hT
    have hB8 : CB1 τ8 := ((hB3.f t3).f f7).f w2
    have hZ8 : CB0 τ8 := ((hZ3.f t3).f f7).f w2
    have hM7 := hP7.2.2.2.1
    have hR8 : RL τ8 := fun j hj => by
      by_cases c : j = 19
      · subst c
        have := w3.1.1.1.2.1
        omega
      · have hm : j ∈ rws := List.elem_iff.mp hj
        simp only [rws, List.mem_cons, List.not_mem_nil, or_false] at hm
        rw [w2.2.2.1 j (by rcases hm with h | h | h | h | h | h | h | h | h | h | h | h | h | h | h | h <;> (subst h; first | decide | exact absurd rfl c)) (by omega) (by omega)]
        exact hM7.2 j hj
    have hM8 : Mb τ8 ∧ RL τ8 := ⟨hM7.1.m w2.2.2.2, hR8⟩
    have hI8 : CI (arS a.1.2.1 a.2) (pdS a.1.2.1) (m9S a.1.2.1 a.2 a.1.2.2.1.length) τ8 ([], fc0) := CI_0 hB8 hZ8 hM8 (fun c hc h0 => w3.1.2.2.1 c ⟨by have := hc.1; omega, hc.2⟩ h0) ⟨by unfold m9S; omega, w5⟩ w6
    have h30 : l30 τ8 := by unfold l30; rw [w2.l 30, f7.l 30, t3.l 30]; exact hc3.2.2
    obtain ⟨y1, y2⟩ := mk_5 (β := β - 1) (fc := fc0) (by omega) (fun c hc => hc.2) (fun e he => csE_wl hT hb3 hUA he) a.2 0 0 τ8 [] rfl hI8 w3 h30 (by simp) (by omega)
    have emk : yE tG_For_makeClauses (β - 1) τ8 [] = yE tG_For_makeClauses_p5 (β - 1) τ8 [((0 : Nat) : Int), 5 * ((0 : Nat) : Int)] := by rw [yq_For_makeClauses, kY_For_makeClauses]; rfl
    have h10 : σ7.1 10 = 0 := by rw [hs7, h3100]; simp [zI]
    have h101 : σ7.1 101 = 0 := by rw [hs7]; simp [zI]
    have caps : ∀ τ9 : zS, FrC tI tA τ8 τ9 → cap τ9 ∧ capq τ9 := fun τ9 f9 => by
      have c4 : cap τ4 := t2.cap
      have q4 : capq τ4 := t2.2.2.2.2.2.2.1.2.2.2
      unfold cap capq
      rw [f9.l 11, f9.l 16, f9.l 21, f9.l 19, f9.l 34, f9.l 36, f9.l 38, f9.a 7, f9.a 12, w2.l 11, w2.l 16, w2.l 21, w2.l 34, w2.l 36, w2.l 38, f7.l 11, f7.l 16, f7.l 21, f7.l 34, f7.l 36, f7.l 38]
      have n19 := w3.1.1.1
      exact ⟨⟨c4.1, c4.2.1, c4.2.2.1, w7⟩, ⟨⟨n19.2.2, n19.2.1⟩, q4.2⟩⟩
    have f38 : FrC cpI cpA σ τ8 := ((g3.trans t3.w).trans f7.w).trans w2.w
    have hbeg : ∀ (τ9 : zS) (r9 : Int) (R : Option zR), yE tG_For_makeClauses (β - 1) τ8 [] = some (τ9, r9) → (if r9 = (-1) then (yE tG_CP_read_p113 β τ9 [r9, 0]) else (yE tG_CP_read_p113 β τ9 [r9, 3])) = R → yE tG_CP_read β σ [] = R := fun τ9 r9 R q1 q2 => by
      refine start τ4 R t1 ?_
      rw [← hs7, if_pos h10, if_pos (by omega), zbd_of w1, if_pos (by omega), zbd_of q1]
      exact q2
    refine ⟨hUA, hT, hb3, fun q hq => ?_, fun Cs hCs => ?_⟩
    · obtain ⟨τ9, Cs2, x1, x2, x3, x4⟩ := y1 q hq
      obtain ⟨e, he, heq⟩ := mkS_in hq
      have hq0 : 0 ≤ q := by rw [← heq]; exact seS_p hn m (0, [], [], [], []) [] a (Int.le_refl _) (fun e he => by cases he) hr e he
      obtain ⟨σb, hsb⟩ : ∃ x, x = zI (zI τ9 10 3) 11 q := ⟨_, rfl⟩
      have fb : FrC [10, 11, 101] [] τ9 σb := by
        rw [hsb]
        have b1 : FrC [10, 11, 101] [] τ9 (zI τ9 10 3) := FrC_I
        exact b1.trans FrC_I
      have eb : σb.2 = τ9.2 := by rw [hsb]; rfl
      obtain ⟨hB9, hM9⟩ := x3.b1 (by rw [x2.l 56]; exact hB8.2.2.2.2.2.2.1) (by rw [x2.l 58]; exact hB8.2.2.2.2.2.2.2)
      have hK := x3.2.2.2.1
      obtain ⟨τ, u1, u2, u3⟩ := rd_130 (β := β) (by omega) (hB9.f fb) ⟨hM9.1.m fb.2.2.2, hM9.2.f fb⟩ (k := 3) ⟨by rw [hsb]; simp [zI], by decide⟩ (q := q) (by rw [hsb]; simp [zI]) (by rw [hsb]; simp [zI]; rw [x2.i 101, w2.i 101]; exact h101) (by
        obtain ⟨q1, q2⟩ := caps τ9 x2
        unfold cap capq l30
        rw [eb]
        exact ⟨q1, q2, x4⟩) (by
        rw [fb.i 5300, fb.i 5301, fb.i 5302, fb.i 5303, fb.i 5304, fb.i 5305, fb.i 5306, fb.i 5501, x2.i 5501]
        exact ⟨hK, hZ8.2.2⟩)
      refine ⟨τ, hbeg τ9 q _ (emk.trans x1) ?_, u2, ((f38.trans x2.w).trans fb.w).trans u3⟩
      rw [if_neg (by omega), yq_CP_read_p113, kY_CP_read_p113, lt_e, if_neg (by omega), yq_CP_read_p127, kY_CP_read_p127, lt_e, ← hsb]
      exact u1
    · obtain ⟨τ9, x1, x2, x3, x4⟩ := y2 Cs hCs
      obtain ⟨σb, hsb⟩ : ∃ x, x = zI (zI τ9 10 0) 11 0 := ⟨_, rfl⟩
      obtain ⟨τ, hτ⟩ : ∃ x, x = zI σb 5403 (σb.1 5402) := ⟨_, rfl⟩
      have fb : FrC [10, 11, 5403] [] τ9 τ := by
        rw [hτ, hsb]
        exact FrC.trans (FrC.trans FrC_I FrC_I) FrC_I
      have eb : τ.2 = τ9.2 := by rw [hτ, hsb]; rfl
      have h5402 : τ9.1 5402 = (Cs.length : Int) := x3.2.2.1.2.1
      obtain ⟨c1, c2, c3, c4, c5, c6, c7, c8, c9, c10, c11, c12⟩ := id x3
      have hI9 : CI (arS a.1.2.1 a.2) (pdS a.1.2.1) (m9S a.1.2.1 a.2 a.1.2.2.1.length) τ (Cs, fc0) := by
        refine ⟨c1.f fb, c2, c3.f fb, c4.f fb, c5.m fb.2.2.2, c6.f fb, c7.f fb, ?_, by rw [fb.i 3905]; exact c9, c10, fun k c hk hs => ?_, c12.f (A := (Cs, fc0)) fb⟩
        · obtain ⟨N, hN⟩ := c8; exact ⟨N, hN.f fb⟩
        · have := c11 k c hk hs
          unfold JG at *
          intro i a ha
          rw [fb.a 48, fb.a 48]; exact this i a ha
      have fτ : FrC cpI cpA σ τ := (f38.trans x2.w).trans fb.w
      refine ⟨τ, hbeg τ9 (-1) _ (emk.trans x1) ?_, SI_of hI9 (by rw [fb.i 5501, x2.i 5501]; exact hZ8.2.2) (by rw [fb.l 56, x2.l 56]; exact hB8.2.2.2.2.2.2.1) (by rw [fb.l 58, x2.l 58]; exact hB8.2.2.2.2.2.2.2), ?_, by rw [hτ, hsb]; simp [zI], by rw [hτ, hsb]; simp [zI], by rw [fb.i 101, x2.i 101, w2.i 101]; exact h101, ?_, by rw [fb.i 605, x2.i 605]; exact w4, ?_, fτ⟩
      · rw [if_pos rfl, yq_CP_read_p113, kY_CP_read_p113, lt_e, if_pos rfl, yq_CP_read_p127, kY_CP_read_p127, lt_e, ← hsb, yq_CP_read_p130, kY_CP_read_p130, if_pos (by rw [hsb]; simp [zI]), lt_e, ← hτ]
        have : τ.1 5402 = (Cs.length : Int) := by rw [fb.i 5402]; exact h5402
        rw [this]
      · obtain ⟨q1, q2⟩ := caps τ9 x2
        unfold cap capq l30
        rw [eb]
        exact ⟨q1, q2, x4⟩
      · rw [hτ, zI_1, hsb]
        simp [zI]
        exact h5402
      · obtain ⟨n1, n2, n3, n4, ⟨n5, n5'⟩, n6⟩ := hP7.1.2.1
        have fz : FrC [605, 10, 11, 5403, 2901, 3904, 3905, 3906, 3907, 3911, 4701, 5101, 5402] [7, 12, 19, 26, 27, 30, 40, 41, 42, 43, 44, 45, 46, 48, 52] σ7 (zI τ 605 ((a.1.2.1.length : Int) + 1)) := ((w2.w.trans x2.w).trans fb.w).trans FrC_I
        have c7 : ∀ q : Int, q ≤ (a.1.2.1.length : Int) → (zI τ 605 ((a.1.2.1.length : Int) + 1)).2.1 7 q = σ7.2.1 7 q ∧ (zI τ 605 ((a.1.2.1.length : Int) + 1)).2.1 12 q = σ7.2.1 12 q := fun q hq => by
          obtain ⟨q1, q2⟩ := w8 q hq
          exact ⟨by show τ.2.1 7 q = _; rw [fb.a 7, x2.a 7]; exact q1, by show τ.2.1 12 q = _; rw [fb.a 12, x2.a 12]; exact q2⟩
        refine ⟨by rw [fz.i 604]; exact n1, n2, n3, zI_1, ⟨n5.f fz, by rw [fz.l 11]; exact n5'.1, by rw [(c7 0 (by omega)).1]; exact n5'.2.1, by rw [(c7 0 (by omega)).2]; exact n5'.2.2⟩, fun i x hx => ?_⟩
        have hi := (List.getElem?_eq_some_iff.mp hx).1
        rw [fz.a 9, fz.a 8, (c7 _ (by omega)).1, (c7 _ (by omega)).2]
        exact n6 i x hx
