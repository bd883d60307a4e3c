/-! forests: a label (zigzag: a SYMBOL, or a VARIABLE below 0), the TERMS within, those beside -/
abbrev T : Type := Lean.RArray Unit
abbrev nl : T := .leaf ()
abbrev nd (n : Nat) (k s : T) : T := .branch n k s
def cl (n : Nat) : Int := if n % 2 = 0 then ((n / 2 : Nat) : Int) else -1 - ((n / 2 : Nat) : Int)
def cu (c : Int) : Nat := if 0 ≤ c then 2 * c.toNat else 2 * (-1 - c).toNat + 1
theorem cl_cu (c : Int) : cl (cu c) = c := by
  unfold cl cu
  by_cases h : 0 ≤ c
  · rw [if_pos h, if_pos (by omega)]; omega
  · rw [if_neg h, if_neg (by omega)]; omega
theorem cu_cl (n : Nat) : cu (cl n) = n := by
  unfold cl cu
  by_cases h : n % 2 = 0
  · rw [if_pos h, if_pos (by omega)]; omega
  · rw [if_neg h, if_neg (by omega)]; omega
theorem cl_inj {a b : Nat} (h : cl a = cl b) : a = b := by rw [← cu_cl a, h, cu_cl]
theorem T.ind {P : T → Prop} (h0 : P nl) (h1 : ∀ n k s, P k → P s → P (nd n k s)) : ∀ F, P F
  | .leaf () => h0
  | .branch n k s => h1 n k s (T.ind h0 h1 k) (T.ind h0 h1 s)
/-- how many VARIABLES and SYMBOLS -/
def wt : T → Nat
  | .leaf _ => 0
  | .branch _ k s => 1 + wt k + wt s
/-- how many stand side by side -/
def len : T → Nat
  | .leaf _ => 0
  | .branch _ _ s => 1 + len s
/-- how deep -/
def ht : T → Nat
  | .leaf _ => 0
  | .branch _ k s => max (1 + ht k) (ht s)
/-- flat: each before those within it -/
def fl : T → List Int
  | .leaf _ => []
  | .branch n k s => cl n :: (fl k ++ fl s)
def cat : T → T → T
  | .leaf _, G => G
  | .branch n k s, G => nd n k (cat s G)
/-- each SYMBOL has as many TERMS as ar says, a VARIABLE none, and every label fulfils p -/
def wf (ar : Int → Nat) (p : Int → Prop) : T → Prop
  | .leaf _ => True
  | .branch n k s => len k = (if cl n < 0 then 0 else ar (cl n)) ∧ p (cl n) ∧ wf ar p k ∧ wf ar p s
theorem len_le_wt : ∀ F : T, len F ≤ wt F
  | .leaf _ => Nat.le_refl _
  | .branch n k s => by have := len_le_wt s; simp only [len, wt]; omega
theorem ht_le_wt : ∀ F : T, ht F ≤ wt F
  | .leaf _ => Nat.le_refl _
  | .branch n k s => by have := ht_le_wt s; have := ht_le_wt k; simp only [ht, wt]; omega
theorem len0 {F : T} (h : len F = 0) : F = nl := by
  match F with
  | .leaf () => rfl
  | .branch n k s => simp only [len] at h; omega
theorem wt0 {F : T} (h : wt F = 0) : F = nl := by
  match F with
  | .leaf () => rfl
  | .branch n k s => simp only [wt] at h; omega
theorem fl_length : ∀ F : T, (fl F).length = wt F
  | .leaf _ => rfl
  | .branch n k s => by simp only [fl, wt, List.length_cons, List.length_append, fl_length k, fl_length s]; omega
theorem fl_cat : ∀ F G : T, fl (cat F G) = fl F ++ fl G
  | .leaf _, G => rfl
  | .branch n k s, G => by simp only [fl, cat, fl_cat s G, List.cons_append, List.append_assoc]
theorem wt_cat : ∀ F G : T, wt (cat F G) = wt F + wt G
  | .leaf _, G => by simp [cat, wt]
  | .branch n k s, G => by simp only [wt, cat, wt_cat s G]; omega
theorem len_cat : ∀ F G : T, len (cat F G) = len F + len G
  | .leaf _, G => by simp [cat, len]
  | .branch n k s, G => by simp only [len, cat, len_cat s G]; omega
theorem cat_nl : ∀ F : T, cat F nl = F
  | .leaf () => rfl
  | .branch n k s => by simp only [cat, cat_nl s]
theorem cat_assoc : ∀ F G H : T, cat (cat F G) H = cat F (cat G H)
  | .leaf _, G, H => rfl
  | .branch n k s, G, H => by simp only [cat, cat_assoc s G H]
theorem wf_cat {ar : Int → Nat} {p : Int → Prop} : ∀ {F G : T}, wf ar p F → wf ar p G → wf ar p (cat F G)
  | .leaf _, G, _, h => h
  | .branch n k s, G, h, hG => ⟨h.1, h.2.1, h.2.2.1, wf_cat h.2.2.2 hG⟩
theorem wf_mono {ar : Int → Nat} {p q : Int → Prop} (h : ∀ c, p c → q c) : ∀ {F : T}, wf ar p F → wf ar q F
  | .leaf _, _ => trivial
  | .branch n k s, w => ⟨w.1, h _ w.2.1, wf_mono h w.2.2.1, wf_mono h w.2.2.2⟩
/-- flat rows are read in one way -/
theorem fl_inj {ar : Int → Nat} {p : Int → Prop} : ∀ {F G : T} {A B : List Int}, wf ar p F → wf ar p G → len F = len G → fl F ++ A = fl G ++ B → F = G ∧ A = B
  | .leaf (), .leaf (), A, B, _, _, _, h => ⟨rfl, h⟩
  | .leaf (), .branch n k s, A, B, _, _, hl, h => by simp only [len] at hl; omega
  | .branch n k s, .leaf (), A, B, _, _, hl, h => by simp only [len] at hl; omega
  | .branch n k s, .branch n2 k2 s2, A, B, w, w2, hl, h => by
    simp only [fl, List.cons_append, List.append_assoc, List.cons.injEq] at h
    obtain ⟨h1, h2⟩ := h
    have e := cl_inj h1
    subst e
    obtain ⟨e1, h3⟩ := fl_inj w.2.2.1 w2.2.2.1 (w.1.trans w2.1.symm) h2
    obtain ⟨e2, h4⟩ := fl_inj w.2.2.2 w2.2.2.2 (by simp only [len] at hl; omega) h3
    exact ⟨by rw [e1, e2], h4⟩
/-! a forest in the reference's pool: of 43, kid 44, beside 45, weight 46; it lies without gaps from t on, each before those within it -/
def Pc (σ : zS) : T → Int → Prop
  | .leaf _, t => t < 0
  | .branch n k s, t => 0 ≤ t ∧ σ.2.1 43 t = cl n ∧ σ.2.1 46 t = 1 + (wt k : Int) ∧ Pc σ k (σ.2.1 44 t) ∧ (0 < wt k → σ.2.1 44 t = t + 1) ∧ Pc σ s (σ.2.1 45 t) ∧ (0 < wt s → σ.2.1 45 t = t + 1 + (wt k : Int))
/-- a TERM there, whatever is beside it -/
def Pt (σ : zS) (n : Nat) (k : T) (t : Int) : Prop := 0 ≤ t ∧ σ.2.1 43 t = cl n ∧ σ.2.1 46 t = 1 + (wt k : Int) ∧ Pc σ k (σ.2.1 44 t) ∧ (0 < wt k → σ.2.1 44 t = t + 1)
theorem Pc_nd {σ : zS} {n : Nat} {k s : T} {t : Int} : Pc σ (nd n k s) t ↔ Pt σ n k t ∧ Pc σ s (σ.2.1 45 t) ∧ (0 < wt s → σ.2.1 45 t = t + 1 + (wt k : Int)) := by
  simp only [Pc, Pt]
  constructor
  · intro ⟨a, b, c, d, e, f, g⟩; exact ⟨⟨a, b, c, d, e⟩, f, g⟩
  · intro ⟨⟨a, b, c, d, e⟩, f, g⟩; exact ⟨a, b, c, d, e, f, g⟩
theorem Pc_bd {σ : zS} : ∀ {F : T} {t : Int}, Pc σ F t → (wt F = 0 ∧ t < 0) ∨ (0 < wt F ∧ 0 ≤ t)
  | .leaf _, t, h => Or.inl ⟨rfl, h⟩
  | .branch n k s, t, h => Or.inr ⟨by simp only [wt]; omega, h.1⟩
/-- the pool is the same at lo .. hi - 1 -/
def Pq (σ τ : zS) (lo hi : Int) : Prop := ∀ k i, lo ≤ i → i < hi → (k = 43 ∨ k = 44 ∨ k = 45 ∨ k = 46) → τ.2.1 k i = σ.2.1 k i
theorem Pq.w {σ τ : zS} {lo hi lo2 hi2 : Int} (h : Pq σ τ lo hi) (h1 : lo ≤ lo2) (h2 : hi2 ≤ hi) : Pq σ τ lo2 hi2 := fun k i a b c => h k i (by omega) (by omega) c
theorem Pc_q {σ τ : zS} : ∀ {F : T} {t : Int}, Pq σ τ t (t + (wt F : Int)) → Pc σ F t → Pc τ F t
  | .leaf _, t, h, q => q
  | .branch n k s, t, h, q => by
    obtain ⟨a, b, c, d, e, f, g⟩ := q
    simp only [wt] at h
    have e4 := h 44 t (by omega) (by omega) (by simp)
    have e5 := h 45 t (by omega) (by omega) (by simp)
    refine ⟨a, ?_, ?_, ?_, ?_, ?_, ?_⟩
    · rw [h 43 t (by omega) (by omega) (by simp)]; exact b
    · rw [h 46 t (by omega) (by omega) (by simp)]; exact c
    · rw [e4]
      rcases Pc_bd d with ⟨w1, w2⟩ | ⟨w1, w2⟩
      · exact Pc_q (fun j i u1 u2 u3 => by omega) d
      · exact Pc_q (h.w (by have := e w1; omega) (by have := e w1; omega)) d
    · rw [e4]; exact e
    · rw [e5]
      rcases Pc_bd f with ⟨w1, w2⟩ | ⟨w1, w2⟩
      · exact Pc_q (fun j i u1 u2 u3 => by omega) f
      · exact Pc_q (h.w (by have := g w1; omega) (by have := g w1; omega)) f
    · rw [e5]; exact g
theorem Pt_q {σ τ : zS} {n : Nat} {k : T} {t : Int} (h : Pq σ τ t (t + 1 + (wt k : Int))) (q : Pt σ n k t) : Pt τ n k t := by
  obtain ⟨a, b, c, d, e⟩ := q
  have e4 := h 44 t (by omega) (by omega) (by simp)
  refine ⟨a, ?_, ?_, ?_, ?_⟩
  · rw [h 43 t (by omega) (by omega) (by simp)]; exact b
  · rw [h 46 t (by omega) (by omega) (by simp)]; exact c
  · rw [e4]
    rcases Pc_bd d with ⟨w1, w2⟩ | ⟨w1, w2⟩
    · exact Pc_q (fun j i u1 u2 u3 => by omega) d
    · exact Pc_q (h.w (by have := e w1; omega) (by have := e w1; omega)) d
  · rw [e4]; exact e
/-- within bounds: what is within a TERM, and beside it -/
theorem Pc_kid {σ : zS} {n : Nat} {k s : T} {t b : Int} (h : Pc σ (nd n k s) t) (hb : t + (wt (nd n k s) : Int) ≤ b) (h9 : 0 ≤ b) : σ.2.1 44 t + (wt k : Int) ≤ b := by
  obtain ⟨_, _, _, d, e, _, _⟩ := h
  simp only [wt] at hb
  rcases Pc_bd d with ⟨w1, w2⟩ | ⟨w1, w2⟩
  · omega
  · have := e w1; omega
theorem Pc_bes {σ : zS} {n : Nat} {k s : T} {t b : Int} (h : Pc σ (nd n k s) t) (hb : t + (wt (nd n k s) : Int) ≤ b) (h9 : 0 ≤ b) : σ.2.1 45 t + (wt s : Int) ≤ b := by
  obtain ⟨_, _, _, _, _, d, e⟩ := h
  simp only [wt] at hb
  rcases Pc_bd d with ⟨w1, w2⟩ | ⟨w1, w2⟩
  · omega
  · have := e w1; omega
theorem Pt_kid {σ : zS} {n : Nat} {k : T} {t b : Int} (h : Pt σ n k t) (hb : t + 1 + (wt k : Int) ≤ b) (h9 : 0 ≤ b) : σ.2.1 44 t + (wt k : Int) ≤ b := by
  obtain ⟨_, _, _, d, e⟩ := h
  rcases Pc_bd d with ⟨w1, w2⟩ | ⟨w1, w2⟩
  · omega
  · have := e w1; omega
