/-! TERMS of two CLAUSES: the VARIABLES of one are moved by b -/
def sh (b : Int) : T → T
  | .leaf _ => nl
  | .branch n k s => nd (if cl n < 0 then cu (cl n - b) else n) (sh b k) (sh b s)
def shT (b : Int) (x : Tm) : Tm := (if cl x.1 < 0 then cu (cl x.1 - b) else x.1, sh b x.2)
theorem sh_tt (b : Int) (x : Tm) : sh b (tt x) = tt (shT b x) := rfl
theorem sh_wt (b : Int) : ∀ F : T, wt (sh b F) = wt F
  | .leaf _ => rfl
  | .branch n k s => by simp only [sh, wt, sh_wt b k, sh_wt b s]
theorem sh_len (b : Int) : ∀ F : T, len (sh b F) = len F
  | .leaf _ => rfl
  | .branch n k s => by simp only [sh, len, sh_len b s]
theorem sh_ht (b : Int) : ∀ F : T, ht (sh b F) = ht F
  | .leaf _ => rfl
  | .branch n k s => by simp only [sh, ht, sh_ht b k, sh_ht b s]
theorem sh_cat (b : Int) : ∀ F G : T, sh b (cat F G) = cat (sh b F) (sh b G)
  | .leaf _, G => rfl
  | .branch n k s, G => by simp only [sh, cat, sh_cat b s G]
theorem sh_cl {b : Int} (hb : 0 ≤ b) {n : Nat} : cl (if cl n < 0 then cu (cl n - b) else n) = if cl n < 0 then cl n - b else cl n := by
  by_cases h : cl n < 0
  · rw [if_pos h, if_pos h, cl_cu]
  · rw [if_neg h, if_neg h]
theorem shT_v {b : Int} (hb : 0 ≤ b) {x : Tm} (h : cl x.1 < 0) : cl (shT b x).1 = cl x.1 - b := by
  show cl (if cl x.1 < 0 then cu (cl x.1 - b) else x.1) = _
  rw [sh_cl hb, if_pos h]
theorem shT_f {b : Int} {x : Tm} (h : ¬ cl x.1 < 0) : (shT b x).1 = x.1 := by
  show (if cl x.1 < 0 then cu (cl x.1 - b) else x.1) = _
  rw [if_neg h]
theorem shT_neg {b : Int} (hb : 0 ≤ b) {x : Tm} : cl (shT b x).1 < 0 ↔ cl x.1 < 0 := by
  by_cases h : cl x.1 < 0
  · rw [shT_v hb h]; omega
  · rw [shT_f h]
/-- labels -m .. below k -/
def lw (m k c : Int) : Prop := -m ≤ c ∧ c < k
theorem sh_wf {ar : Int → Nat} {b m k : Int} (hb : 0 ≤ b) : ∀ {F : T}, wf ar (lw m k) F → wf ar (lw (m + b) k) (sh b F)
  | .leaf _, _ => trivial
  | .branch n kk s, w => by
    refine ⟨?_, ?_, sh_wf hb w.2.2.1, sh_wf hb w.2.2.2⟩
    · rw [sh_len, w.1, sh_cl hb]
      by_cases h : cl n < 0
      · rw [if_pos h, if_pos h, if_pos (by omega)]
      · rw [if_neg h, if_neg h, if_neg h]
    · rw [sh_cl hb]
      have := w.2.1
      unfold lw at *
      by_cases h : cl n < 0
      · rw [if_pos h]; omega
      · rw [if_neg h]; omega
/-! what ties two TERMS that are to become the same: rt: the root of a VARIABLE; V: the TERMS that a root has met -/
def JF (rt : Int → Int) (V : Int → Tm → Prop) : T → T → Prop
  | .leaf _, .leaf _ => True
  | .branch n k s, .branch n2 k2 s2 => (if cl n < 0 then (if cl n2 < 0 then rt (-1 - cl n) = rt (-1 - cl n2) else V (rt (-1 - cl n)) (n2, k2)) else (if cl n2 < 0 then V (rt (-1 - cl n2)) (n, k) else n = n2 ∧ JF rt V k k2)) ∧ JF rt V s s2
  | _, _ => False
theorem JF_mono {rt rt2 : Int → Int} {V V2 : Int → Tm → Prop} (h1 : ∀ v w, rt v = rt w → rt2 v = rt2 w) (h2 : ∀ v x, V (rt v) x → V2 (rt2 v) x) : ∀ {F G : T}, JF rt V F G → JF rt2 V2 F G
  | .leaf _, .leaf _, _ => trivial
  | .leaf _, .branch _ _ _, h => h.elim
  | .branch _ _ _, .leaf _, h => h.elim
  | .branch n k s, .branch n2 k2 s2, h => by
    refine ⟨?_, JF_mono h1 h2 h.2⟩
    have h := h.1
    by_cases a : cl n < 0
    · rw [if_pos a] at h ⊢
      by_cases b : cl n2 < 0
      · rw [if_pos b] at h ⊢; exact h1 _ _ h
      · rw [if_neg b] at h ⊢; exact h2 _ _ h
    · rw [if_neg a] at h ⊢
      by_cases b : cl n2 < 0
      · rw [if_pos b] at h ⊢; exact h2 _ _ h
      · rw [if_neg b] at h ⊢; exact ⟨h.1, JF_mono h1 h2 h.2⟩
theorem JF_cat {rt : Int → Int} {V : Int → Tm → Prop} : ∀ {A B C D : T}, len A = len B → (JF rt V (cat A C) (cat B D) ↔ JF rt V A B ∧ JF rt V C D)
  | .leaf (), .leaf (), C, D, _ => by simp [cat, JF]
  | .leaf (), .branch n k s, C, D, h => by simp only [len] at h; omega
  | .branch n k s, .leaf (), C, D, h => by simp only [len] at h; omega
  | .branch n k s, .branch n2 k2 s2, C, D, h => by
    simp only [cat, JF]
    rw [JF_cat (A := s) (B := s2) (by simp only [len] at h; omega)]
    exact and_assoc.symm
/-- tied by links, there and back -/
def Cn (L : Tm → Tm → Prop) (x y : Tm) : Prop := ∀ S : Tm → Prop, S x → (∀ a b, S a → L a b ∨ L b a → S b) → S y
theorem Cn.refl {L : Tm → Tm → Prop} (x : Tm) : Cn L x x := fun _ h _ => h
theorem Cn.step {L : Tm → Tm → Prop} {x y z : Tm} (h : Cn L x y) (g : L y z ∨ L z y) : Cn L x z := fun S a b => b y z (h S a b) g
theorem Cn.trans {L : Tm → Tm → Prop} {x y z : Tm} (h : Cn L x y) (g : Cn L y z) : Cn L x z := fun S a b => g S (h S a b) b
theorem Cn.symm {L : Tm → Tm → Prop} {x y : Tm} (h : Cn L x y) : Cn L y x := h (fun a => Cn L a x) (Cn.refl x) (fun a b ha hl => by
  have : Cn L b a := (Cn.refl b).step hl.symm
  exact this.trans ha)
theorem Cn.mono {L L2 : Tm → Tm → Prop} (hL : ∀ a b, L a b → L2 a b) {x y : Tm} (h : Cn L x y) : Cn L2 x y := fun S a b => h S a (fun c d q w => b c d q (w.imp (hL c d) (hL d c)))
/-- where all is tied, and no value is within itself, values that obey make the same -/
theorem JF_sound {rt : Int → Int} {V : Int → Tm → Prop} {L : Tm → Tm → Prop} {vl : Int → Option Tm} {τ : Vs} (h1 : ∀ v, τ v = τ (rt v)) (h2 : ∀ v x, vl (rt v) = some x → τ (rt v) = st τ x) (h3 : ∀ v x, V (rt v) x → ∃ y, vl (rt v) = some y ∧ Cn L y x) (h4 : ∀ x y, L x y → ¬ cl x.1 < 0 ∧ ¬ cl y.1 < 0 ∧ JF rt V (tt x) (tt y)) : ∀ (N : Nat), (∀ x y, L x y → (tw (st τ x) ≤ N ∨ tw (st τ y) ≤ N) → st τ x = st τ y) ∧ ∀ F G, JF rt V F G → (wt (su τ F) ≤ N ∨ wt (su τ G) ≤ N) → su τ F = su τ G := by
  have PF : ∀ N, (∀ x y, L x y → (tw (st τ x) ≤ N ∨ tw (st τ y) ≤ N) → st τ x = st τ y) → ∀ F G, JF rt V F G → (wt (su τ F) ≤ N ∨ wt (su τ G) ≤ N) → su τ F = su τ G := by
    intro N hQ
    have chain : ∀ x y, Cn L x y → tw (st τ x) ≤ N → st τ y = st τ x := fun x y hc hx => by
      refine (hc (fun a => tw (st τ a) ≤ N ∧ st τ a = st τ x) ⟨hx, rfl⟩ (fun a b ha hl => ?_)).2
      have e : st τ b = st τ a := by
        rcases hl with hl | hl
        · exact (hQ a b hl (Or.inl ha.1)).symm
        · exact hQ b a hl (Or.inr ha.1)
      rw [e]; exact ha
    intro F
    refine T.ind (P := fun F => ∀ G, JF rt V F G → (wt (su τ F) ≤ N ∨ wt (su τ G) ≤ N) → su τ F = su τ G) ?_ ?_ F
    · intro G h _
      match G, h with
      | .leaf (), _ => rfl
    · intro n k s ik is G h hw
      match G, h with
      | .branch n2 k2 s2, h =>
        have es : su τ s = su τ s2 := is s2 h.2 (by rw [su_nd, su_nd] at hw; simp only [wt] at hw; omega)
        have e : st τ (n, k) = st τ (n2, k2) := by
          have hw1 : tw (st τ (n, k)) ≤ N ∨ tw (st τ (n2, k2)) ≤ N := by rw [su_nd, su_nd] at hw; simp only [wt] at hw; simp only [tw]; omega
          have h := h.1
          by_cases a : cl n < 0
          · rw [if_pos a] at h
            have ea : st τ (n, k) = τ (rt (-1 - cl n)) := by rw [st_v τ (x := (n, k)) a]; exact h1 _
            by_cases b : cl n2 < 0
            · rw [if_pos b] at h
              rw [ea, st_v τ (x := (n2, k2)) b, h]
              exact (h1 _).symm
            · rw [if_neg b] at h
              obtain ⟨y, y1, y2⟩ := h3 _ _ h
              have ey := h2 _ _ y1
              rw [ea, ey]
              rw [ea, ey] at hw1
              rcases hw1 with hw1 | hw1
              · exact (chain _ _ y2 hw1).symm
              · exact chain _ _ y2.symm hw1
          · rw [if_neg a] at h
            by_cases b : cl n2 < 0
            · rw [if_pos b] at h
              have eb : st τ (n2, k2) = τ (rt (-1 - cl n2)) := by rw [st_v τ (x := (n2, k2)) b]; exact h1 _
              obtain ⟨y, y1, y2⟩ := h3 _ _ h
              have ey := h2 _ _ y1
              rw [eb, ey]
              rw [eb, ey] at hw1
              rcases hw1 with hw1 | hw1
              · exact (chain _ _ y2.symm hw1).symm
              · exact chain _ _ y2 hw1
            · rw [if_neg b] at h
              have ek : su τ k = su τ k2 := ik k2 h.2 (by
                rw [st_f τ (x := (n, k)) a, st_f τ (x := (n2, k2)) b] at hw1
                simp only [tw] at hw1; omega)
              rw [st_f τ (x := (n, k)) a, st_f τ (x := (n2, k2)) b, h.1, ek]
        rw [su_nd, su_nd, e, es]
  intro N
  induction N with
  | zero =>
    have q0 : ∀ x y, L x y → (tw (st τ x) ≤ 0 ∨ tw (st τ y) ≤ 0) → st τ x = st τ y := fun x y _ h => by simp only [tw] at h; omega
    exact ⟨q0, PF 0 q0⟩
  | succ N ih =>
    have q1 : ∀ x y, L x y → (tw (st τ x) ≤ N + 1 ∨ tw (st τ y) ≤ N + 1) → st τ x = st τ y := fun x y hl hw => by
      obtain ⟨a, b, c⟩ := h4 x y hl
      have c := c.1
      rw [if_neg a, if_neg b] at c
      rw [st_f τ a, st_f τ b] at hw ⊢
      have := ih.2 x.2 y.2 c.2 (by simp only [tw] at hw; omega)
      rw [this, c.1]
    exact ⟨q1, PF (N + 1) q1⟩
theorem JF_same {rt : Int → Int} {V : Int → Tm → Prop} {L : Tm → Tm → Prop} {vl : Int → Option Tm} {τ : Vs} (h1 : ∀ v, τ v = τ (rt v)) (h2 : ∀ v x, vl (rt v) = some x → τ (rt v) = st τ x) (h3 : ∀ v x, V (rt v) x → ∃ y, vl (rt v) = some y ∧ Cn L y x) (h4 : ∀ x y, L x y → ¬ cl x.1 < 0 ∧ ¬ cl y.1 < 0 ∧ JF rt V (tt x) (tt y)) {F G : T} (h : JF rt V F G) : su τ F = su τ G :=
  (JF_sound h1 h2 h3 h4 (wt (su τ F))).2 F G h (Or.inl (Nat.le_refl _))
/-! CLAUSES that are being made, without their places -/
noncomputable def ddL : List Lt → List Lt → List Lt
  | K, [] => K
  | K, e :: R => @ite _ ((e.1 = 0 ∧ e.2.1 = e.2.2) ∨ ∃ f ∈ K, f.1 = e.1 ∧ alikeL f e) (Classical.propDecidable _) (ddL K R) (ddL (K ++ [e]) R)
noncomputable def rnL : List Int → List Lt → List Lt
  | _, [] => []
  | N, e :: E => (e.1, renT N e.2.1, renT (nt N (tt e.2.1)) e.2.2) :: rnL (nt (nt N (tt e.2.1)) (tt e.2.2)) E
def ntL : List Int → List Lt → List Int
  | N, [] => N
  | N, e :: E => ntL (nt (nt N (tt e.2.1)) (tt e.2.2)) E
def wtL : List Lt → Nat
  | [] => 0
  | e :: E => tw e.2.1 + tw e.2.2 + wtL E
def tautL (E : List Lt) : Prop := ∃ e ∈ E, ¬ e.1 = 0 ∧ (e.2.1 = e.2.2 ∨ ∃ f ∈ E, f.1 = 0 ∧ alikeL e f)
theorem dd_L : ∀ (R K : List En), (dd K R).map (fun e => e.1) = ddL (K.map (fun e => e.1)) (R.map (fun e => e.1)) := by
  intro R
  induction R with
  | nil => intro K; simp [dd, ddL]
  | cons e R ih =>
    intro K
    simp only [dd, List.map_cons, ddL]
    have h : (∃ f ∈ K, f.1.1 = e.1.1 ∧ alikeL f.1 e.1) ↔ ∃ f ∈ K.map (fun e => e.1), f.1 = e.1.1 ∧ alikeL f e.1 := by
      constructor
      · rintro ⟨f, a, b⟩; exact ⟨f.1, List.mem_map.mpr ⟨f, a, rfl⟩, b⟩
      · rintro ⟨f, a, b⟩
        obtain ⟨g, c, rfl⟩ := List.mem_map.mp a
        exact ⟨g, c, b⟩
    by_cases w : ((e.1.1 = 0 ∧ e.1.2.1 = e.1.2.2) ∨ ∃ f ∈ K, f.1.1 = e.1.1 ∧ alikeL f.1 e.1)
    · rw [if_pos w, if_pos (by rw [← h]; exact w), ih K]
    · rw [if_neg w, if_neg (by rw [← h]; exact w), ih (K ++ [e])]; simp
theorem rn_L : ∀ (E : List En) (N : List Int), (rnE N E).map (fun e => e.1) = rnL N (E.map (fun e => e.1))
  | [], _ => rfl
  | e :: E, N => by simp only [rnE, rnL, List.map_cons, rn_L E]
theorem nt_L : ∀ (E : List En) (N : List Int), ntE N E = ntL N (E.map (fun e => e.1))
  | [], _ => rfl
  | e :: E, N => by simp only [ntE, ntL, List.map_cons, nt_L E]
theorem wt_L : ∀ (E : List En), wtE E = wtL (E.map (fun e => e.1))
  | [] => rfl
  | e :: E => by simp only [wtE, wtL, List.map_cons, wt_L E]
theorem taut_L (E : List En) : taut E ↔ tautL (E.map (fun e => e.1)) := by
  constructor
  · rintro ⟨e, a, b, c⟩
    refine ⟨e.1, List.mem_map.mpr ⟨e, a, rfl⟩, b, ?_⟩
    rcases c with c | ⟨f, f1, f2, f3⟩
    · exact Or.inl c
    · exact Or.inr ⟨f.1, List.mem_map.mpr ⟨f, f1, rfl⟩, f2, f3⟩
  · rintro ⟨e, a, b, c⟩
    obtain ⟨g, g1, rfl⟩ := List.mem_map.mp a
    refine ⟨g, g1, b, ?_⟩
    rcases c with c | ⟨f, f1, f2, f3⟩
    · exact Or.inl c
    · obtain ⟨h, h1, rfl⟩ := List.mem_map.mp f1
      exact Or.inr ⟨h, h1, f2, f3⟩
theorem ddL_mem : ∀ {R K : List Lt} {f : Lt}, f ∈ ddL K R → f ∈ K ∨ f ∈ R := by
  intro R
  induction R with
  | nil => intro K f h; exact Or.inl h
  | cons e R ih =>
    intro K f h
    simp only [ddL] at h
    by_cases w : ((e.1 = 0 ∧ e.2.1 = e.2.2) ∨ ∃ f ∈ K, f.1 = e.1 ∧ alikeL f e)
    · rw [if_pos w] at h
      rcases ih h with q | q
      · exact Or.inl q
      · exact Or.inr (by simp [q])
    · rw [if_neg w] at h
      rcases ih h with q | q
      · rcases List.mem_append.mp q with z | z
        · exact Or.inl z
        · exact Or.inr (by simp at z; simp [z])
      · exact Or.inr (by simp [q])
/-- each side by f -/
def mpL (f : Tm → Tm) (C : List Lt) : List Lt := C.map (fun a => (a.1, f a.2.1, f a.2.2))
/-- a TERM of C -/
def inL (x : Tm) (C : List Lt) : Prop := ∃ a ∈ C, x = a.2.1 ∨ x = a.2.2
theorem mpL_app (f : Tm → Tm) (A B : List Lt) : mpL f (A ++ B) = mpL f A ++ mpL f B := List.map_append
theorem alike_mp {f : Tm → Tm} {P : Tm → Prop} (hf : ∀ x y, P x → P y → f x = f y → x = y) {a b : Lt} (a1 : P a.2.1) (a2 : P a.2.2) (b1 : P b.2.1) (b2 : P b.2.2) : alikeL (a.1, f a.2.1, f a.2.2) (b.1, f b.2.1, f b.2.2) ↔ alikeL a b := by
  unfold alikeL
  constructor
  · rintro (⟨u, v⟩ | ⟨u, v⟩)
    · exact Or.inl ⟨hf _ _ a1 b1 u, hf _ _ a2 b2 v⟩
    · exact Or.inr ⟨hf _ _ a1 b2 u, hf _ _ a2 b1 v⟩
  · rintro (⟨u, v⟩ | ⟨u, v⟩)
    · exact Or.inl ⟨by simp [u], by simp [v]⟩
    · exact Or.inr ⟨by simp [u], by simp [v]⟩
theorem ddL_mp {f : Tm → Tm} {P : Tm → Prop} (hf : ∀ x y, P x → P y → f x = f y → x = y) : ∀ (R K : List Lt), (∀ a ∈ K, P a.2.1 ∧ P a.2.2) → (∀ a ∈ R, P a.2.1 ∧ P a.2.2) → ddL (mpL f K) (mpL f R) = mpL f (ddL K R) := by
  intro R
  induction R with
  | nil => intro K _ _; rfl
  | cons e R ih =>
    intro K hK hR
    have he := hR e List.mem_cons_self
    have hR2 : ∀ a ∈ R, P a.2.1 ∧ P a.2.2 := fun a ha => hR a (List.mem_cons_of_mem _ ha)
    show ddL (mpL f K) ((e.1, f e.2.1, f e.2.2) :: mpL f R) = _
    simp only [ddL]
    have h : ((e.1 = 0 ∧ f e.2.1 = f e.2.2) ∨ ∃ g ∈ mpL f K, g.1 = e.1 ∧ alikeL g (e.1, f e.2.1, f e.2.2)) ↔ ((e.1 = 0 ∧ e.2.1 = e.2.2) ∨ ∃ g ∈ K, g.1 = e.1 ∧ alikeL g e) := by
      constructor
      · rintro (⟨a, b⟩ | ⟨g, a, b, c⟩)
        · exact Or.inl ⟨a, hf _ _ he.1 he.2 b⟩
        · obtain ⟨g2, g3, rfl⟩ := List.mem_map.mp a
          exact Or.inr ⟨g2, g3, b, (alike_mp hf (hK _ g3).1 (hK _ g3).2 he.1 he.2).mp c⟩
      · rintro (⟨a, b⟩ | ⟨g, a, b, c⟩)
        · exact Or.inl ⟨a, by rw [b]⟩
        · exact Or.inr ⟨_, List.mem_map.mpr ⟨g, a, rfl⟩, b, (alike_mp hf (hK _ a).1 (hK _ a).2 he.1 he.2).mpr c⟩
    by_cases w : ((e.1 = 0 ∧ e.2.1 = e.2.2) ∨ ∃ g ∈ K, g.1 = e.1 ∧ alikeL g e)
    · rw [if_pos w, if_pos (h.mpr w), ih K hK hR2]
    · rw [if_neg w, if_neg (fun z => w (h.mp z)), ← ih (K ++ [e]) (fun a ha => by
        rcases List.mem_append.mp ha with z | z
        · exact hK a z
        · simp at z; subst z; exact he) hR2, mpL_app]
      rfl
theorem tautL_mp {f : Tm → Tm} {P : Tm → Prop} (hf : ∀ x y, P x → P y → f x = f y → x = y) {C : List Lt} (hC : ∀ a ∈ C, P a.2.1 ∧ P a.2.2) : tautL (mpL f C) ↔ tautL C := by
  constructor
  · rintro ⟨e, a, b, c⟩
    obtain ⟨g, g1, rfl⟩ := List.mem_map.mp a
    refine ⟨g, g1, b, ?_⟩
    rcases c with c | ⟨h, h1, h2, h3⟩
    · exact Or.inl (hf _ _ (hC _ g1).1 (hC _ g1).2 c)
    · obtain ⟨i, i1, rfl⟩ := List.mem_map.mp h1
      exact Or.inr ⟨i, i1, h2, (alike_mp hf (hC _ g1).1 (hC _ g1).2 (hC _ i1).1 (hC _ i1).2).mp h3⟩
  · rintro ⟨e, a, b, c⟩
    refine ⟨_, List.mem_map.mpr ⟨e, a, rfl⟩, b, ?_⟩
    rcases c with c | ⟨h, h1, h2, h3⟩
    · exact Or.inl (by simp [c])
    · exact Or.inr ⟨_, List.mem_map.mpr ⟨h, h1, rfl⟩, h2, (alike_mp hf (hC _ a).1 (hC _ a).2 (hC _ h1).1 (hC _ h1).2).mpr h3⟩
/-! other names -/
theorem idx_map {ρ : Int → Int} {S : Int → Prop} (hi : ∀ a b, S a → S b → ρ a = ρ b → a = b) : ∀ {N : List Int} {c : Int}, (∀ a ∈ N, S a) → S c → idx (N.map ρ) (ρ c) = idx N c
  | [], c, _, _ => rfl
  | a :: N, c, hN, hc => by
    have ih := idx_map hi (N := N) (fun b hb => hN b (List.mem_cons_of_mem _ hb)) hc
    simp only [List.map_cons, idx, ih]
    by_cases e : a = c
    · rw [if_pos e, if_pos (by rw [e])]
    · rw [if_neg e, if_neg (fun w => e (hi _ _ (hN a List.mem_cons_self) hc w))]
theorem add1_map {ρ : Int → Int} {S : Int → Prop} (hi : ∀ a b, S a → S b → ρ a = ρ b → a = b) {N : List Int} {c : Int} (hN : ∀ a ∈ N, S a) (hc : S c) : add1 (N.map ρ) (ρ c) = (add1 N c).map ρ := by
  unfold add1
  rw [idx_map hi hN hc, List.length_map]
  by_cases h : idx N c < N.length
  · rw [if_pos h, if_pos h]
  · rw [if_neg h, if_neg h]; simp
theorem add1_S {S : Int → Prop} {N : List Int} {c : Int} (hN : ∀ a ∈ N, S a) (hc : S c) : ∀ a ∈ add1 N c, S a := by
  unfold add1
  split
  · exact hN
  · intro a ha
    rcases List.mem_append.mp ha with z | z
    · exact hN a z
    · simp at z; subst z; exact hc
theorem nt_S {S : Int → Prop} : ∀ {F : T} {N : List Int}, (∀ a ∈ N, S a) → (∀ v, vi v F → S (-1 - v)) → ∀ a ∈ nt N F, S a
  | .leaf _, N, hN, _ => hN
  | .branch n k s, N, hN, hF => by
    simp only [nt]
    by_cases h : cl n < 0
    · rw [if_pos h]
      exact nt_S (add1_S hN (by have := hF (-1 - cl n) (Or.inl (by rw [if_pos h])); rw [show (-1 - (-1 - cl n) : Int) = cl n by omega] at this; exact this)) (fun v hv => hF v (Or.inr hv))
    · rw [if_neg h]
      exact nt_S (nt_S hN (fun v hv => hF v (Or.inl (by rw [if_neg h]; exact hv)))) (fun v hv => hF v (Or.inr hv))
/-- θ gives VARIABLES of S names by ρ -/
def nam (θ : Vs) (ρ : Int → Int) (S : Int → Prop) : Prop := (∀ a b, S a → S b → ρ a = ρ b → a = b) ∧ ∀ c, S c → c < 0 → θ (-1 - c) = (cu (ρ c), nl) ∧ ρ c < 0
theorem su_nt {θ : Vs} {ρ : Int → Int} {S : Int → Prop} (h : nam θ ρ S) {ar : Int → Nat} {p : Int → Prop} : ∀ {F : T} {N : List Int}, wf ar p F → (∀ a ∈ N, S a) → (∀ v, vi v F → S (-1 - v)) → nt (N.map ρ) (su θ F) = (nt N F).map ρ ∧ ren (N.map ρ) (su θ F) = ren N F
  | .leaf (), N, _, _, _ => ⟨rfl, rfl⟩
  | .branch n k s, N, w, hN, hF => by
    have hs : ∀ v, vi v s → S (-1 - v) := fun v hv => hF v (Or.inr hv)
    rw [su_nd]
    by_cases hc : cl n < 0
    · have k0 : k = nl := len0 (by have := w.1; rw [if_pos hc] at this; exact this)
      have sc : S (cl n) := by have := hF (-1 - cl n) (Or.inl (by rw [if_pos hc])); rw [show (-1 - (-1 - cl n) : Int) = cl n by omega] at this; exact this
      obtain ⟨e1, e2⟩ := h.2 _ sc hc
      have e3 : st θ (n, k) = (cu (ρ (cl n)), nl) := by rw [st_v θ (x := (n, k)) hc]; exact e1
      obtain ⟨i1, i2⟩ := su_nt h w.2.2.2 (add1_S hN sc) hs
      rw [e3]
      simp only [nt, ren, cl_cu]
      rw [if_pos e2, if_pos e2, if_pos hc, if_pos hc, add1_map h.1 hN sc, idx_map h.1 hN sc, k0]
      exact ⟨i1, by rw [i2]⟩
    · have hk : ∀ v, vi v k → S (-1 - v) := fun v hv => hF v (Or.inl (by rw [if_neg hc]; exact hv))
      obtain ⟨i1, i2⟩ := su_nt h w.2.2.1 hN hk
      obtain ⟨j1, j2⟩ := su_nt h w.2.2.2 (nt_S hN hk) hs
      rw [st_f θ (x := (n, k)) hc]
      simp only [nt, ren]
      rw [if_neg hc, if_neg hc, if_neg hc, if_neg hc, i1, i2]
      exact ⟨j1, by rw [j2]⟩
theorem renT_nd (N : List Int) {x : Tm} {ar : Int → Nat} {p : Int → Prop} (w : wf ar p (tt x)) : ren N (tt x) = tt (renT N x) := by
  unfold renT tt
  simp only [ren]
  by_cases hc : cl x.1 < 0
  · rw [if_pos hc, if_pos hc, if_pos hc]
  · rw [if_neg hc, if_neg hc, if_neg hc]
theorem st_nt {θ : Vs} {ρ : Int → Int} {S : Int → Prop} (h : nam θ ρ S) {ar : Int → Nat} {p q : Int → Prop} {x : Tm} {N : List Int} (w : wf ar p (tt x)) (w2 : wf ar q (tt (st θ x))) (hN : ∀ a ∈ N, S a) (hF : ∀ v, vi v (tt x) → S (-1 - v)) : nt (N.map ρ) (tt (st θ x)) = (nt N (tt x)).map ρ ∧ renT (N.map ρ) (st θ x) = renT N x := by
  obtain ⟨a, b⟩ := su_nt h w hN hF
  have e : su θ (tt x) = tt (st θ x) := rfl
  rw [e] at a b
  refine ⟨a, ?_⟩
  rw [renT_nd _ w2, renT_nd _ w] at b
  injection b with b1 b2 b3
  exact Prod.ext b1 b2
theorem rnL_st {θ : Vs} {ρ : Int → Int} {S : Int → Prop} (h : nam θ ρ S) {ar : Int → Nat} {p q : Int → Prop} : ∀ {C : List Lt} {N : List Int}, (∀ a ∈ C, wf ar p (tt a.2.1) ∧ wf ar p (tt a.2.2) ∧ wf ar q (tt (st θ a.2.1)) ∧ wf ar q (tt (st θ a.2.2)) ∧ (∀ v, vi v (tt a.2.1) → S (-1 - v)) ∧ ∀ v, vi v (tt a.2.2) → S (-1 - v)) → (∀ a ∈ N, S a) → rnL (N.map ρ) (mpL (st θ) C) = rnL N C ∧ ntL (N.map ρ) (mpL (st θ) C) = (ntL N C).map ρ
  | [], N, _, _ => ⟨rfl, rfl⟩
  | a :: C, N, hC, hN => by
    obtain ⟨w1, w2, w3, w4, w5, w6⟩ := hC a List.mem_cons_self
    obtain ⟨a1, a2⟩ := st_nt h w1 w3 hN w5
    have hN2 := nt_S hN w5
    obtain ⟨b1, b2⟩ := st_nt h w2 w4 hN2 w6
    obtain ⟨c1, c2⟩ := rnL_st h (C := C) (fun b hb => hC b (List.mem_cons_of_mem _ hb)) (nt_S hN2 w6)
    show (a.1, renT (N.map ρ) (st θ a.2.1), renT (nt (N.map ρ) (tt (st θ a.2.1))) (st θ a.2.2)) :: rnL (nt (nt (N.map ρ) (tt (st θ a.2.1))) (tt (st θ a.2.2))) (mpL (st θ) C) = _ ∧ ntL (nt (nt (N.map ρ) (tt (st θ a.2.1))) (tt (st θ a.2.2))) (mpL (st θ) C) = _
    rw [a1, b1, a2, b2, c1, c2]
    exact ⟨rfl, rfl⟩
theorem su_fix {η : Vs} {ar : Int → Nat} {p : Int → Prop} : ∀ {F : T}, wf ar p F → su η F = F → ∀ v, vi v F → η v = vt v
  | .leaf _, _, _, v, h => h.elim
  | .branch n k s, w, e, v, h => by
    rw [su_nd] at e
    injection e with e1 e2 e3
    rcases h with h | h
    · by_cases hc : cl n < 0
      · rw [if_pos hc] at h
        have k0 : k = nl := len0 (by have := w.1; rw [if_pos hc] at this; exact this)
        rw [st_v η (x := (n, k)) hc] at e1 e2
        rw [h] at e1 e2
        refine Prod.ext ?_ ?_
        · rw [e1]; show n = cu (-1 - v); rw [← h, show (-1 - (-1 - cl n) : Int) = cl n by omega, cu_cl]
        · rw [e2, k0]; rfl
      · rw [if_neg hc] at h
        rw [st_f η (x := (n, k)) hc] at e2
        exact su_fix w.2.2.1 e2 v h
    · exact su_fix w.2.2.2 e3 v h
theorem st_fix {η : Vs} {ar : Int → Nat} {p : Int → Prop} {x : Tm} (w : wf ar p (tt x)) (e : st η x = x) : ∀ v, vi v (tt x) → η v = vt v := su_fix w (by show tt (st η x) = _; rw [e])
/-- a VARIABLE of a TERM, with its value, stands in the TERM with values -/
theorem wf_val {θ : Vs} {ar : Int → Nat} {p : Int → Prop} {v : Int} : ∀ {F : T}, wf ar p (su θ F) → vi v F → wf ar p (tt (θ v))
  | .leaf _, _, h => h.elim
  | .branch n k s, w, h => by
    rw [su_nd] at w
    rcases h with h | h
    · by_cases hc : cl n < 0
      · rw [if_pos hc] at h
        rw [st_v θ (x := (n, k)) hc, h] at w
        exact ⟨w.1, w.2.1, w.2.2.1, trivial⟩
      · rw [if_neg hc] at h
        rw [st_f θ (x := (n, k)) hc] at w
        exact wf_val w.2.2.1 h
    · exact wf_val w.2.2.2 h
/-- two CLAUSES, each the other with values put in: REDUCED they are the same -/
theorem variant {θ τ : Vs} {ar : Int → Nat} {p q : Int → Prop} {C D : List Lt} (hC : ∀ a ∈ C, wf ar p (tt a.2.1) ∧ wf ar p (tt a.2.2)) (hD : ∀ a ∈ D, wf ar q (tt a.2.1) ∧ wf ar q (tt a.2.2)) (e1 : D = mpL (st θ) C) (e2 : C = mpL (st τ) D) : rnL [] (ddL [] D) = rnL [] (ddL [] C) ∧ (ntL [] (ddL [] D)).length = (ntL [] (ddL [] C)).length ∧ (ntL [] D).length = (ntL [] C).length ∧ (tautL (rnL [] (ddL [] D)) ↔ tautL (rnL [] (ddL [] C))) := by
  let S : Int → Prop := fun c => ∃ a ∈ C, vi (-1 - c) (tt a.2.1) ∨ vi (-1 - c) (tt a.2.2)
  let ρ : Int → Int := fun c => cl (θ (-1 - c)).1
  have eC : ∀ a ∈ C, st τ (st θ a.2.1) = a.2.1 ∧ st τ (st θ a.2.2) = a.2.2 := by
    have e3 : mpL (st τ) (mpL (st θ) C) = C := by rw [← e1]; exact e2.symm
    have gen : ∀ (X : List Lt), mpL (st τ) (mpL (st θ) X) = X → ∀ a ∈ X, st τ (st θ a.2.1) = a.2.1 ∧ st τ (st θ a.2.2) = a.2.2 := by
      intro X
      induction X with
      | nil => intro _ a ha; cases ha
      | cons b X ih =>
        intro e a ha
        have e' : (b.1, st τ (st θ b.2.1), st τ (st θ b.2.2)) :: mpL (st τ) (mpL (st θ) X) = b :: X := e
        injection e' with u1 u2
        rcases List.mem_cons.mp ha with rfl | z
        · have v1 := congrArg (fun z => z.2.1) u1
          have v2 := congrArg (fun z => z.2.2) u1
          exact ⟨v1, v2⟩
        · exact ih u2 a z
    exact gen C e3
  have key : ∀ v, S (-1 - v) → st τ (θ v) = vt v ∧ wf ar q (tt (θ v)) := by
    rintro v ⟨a, ha, hv⟩
    rw [show (-1 - (-1 - v) : Int) = v by omega] at hv
    obtain ⟨c1, c2⟩ := eC a ha
    have hd := hD (a.1, st θ a.2.1, st θ a.2.2) (by rw [e1]; exact List.mem_map.mpr ⟨a, ha, rfl⟩)
    rcases hv with hv | hv
    · rw [st_st] at c1
      exact ⟨st_fix (hC a ha).1 c1 v hv, wf_val (F := tt a.2.1) hd.1 hv⟩
    · rw [st_st] at c2
      exact ⟨st_fix (hC a ha).2 c2 v hv, wf_val (F := tt a.2.2) hd.2 hv⟩
  have isv : ∀ v, 0 ≤ v → S (-1 - v) → cl (θ v).1 < 0 ∧ (θ v).2 = nl := fun v h0 hv => by
    obtain ⟨k1, k2⟩ := key v hv
    by_cases hc : cl (θ v).1 < 0
    · exact ⟨hc, len0 (by have := k2.1; rw [if_pos hc] at this; exact this)⟩
    · exfalso
      rw [st_f τ hc] at k1
      have := congrArg (fun z => cl z.1) k1
      simp only [cl_vt] at this
      omega
  have hnam : nam θ ρ S := by
    refine ⟨fun a b ha hb e => ?_, fun c hc h0 => ?_⟩
    · have ha' : S (-1 - (-1 - a)) := by rw [show (-1 - (-1 - a) : Int) = a by omega]; exact ha
      have hb' : S (-1 - (-1 - b)) := by rw [show (-1 - (-1 - b) : Int) = b by omega]; exact hb
      have na : 0 ≤ -1 - a := by obtain ⟨x, _, hx⟩ := ha; rcases hx with hx | hx <;> exact vi_nn hx
      have nb : 0 ≤ -1 - b := by obtain ⟨x, _, hx⟩ := hb; rcases hx with hx | hx <;> exact vi_nn hx
      have e3 : θ (-1 - a) = θ (-1 - b) := Prod.ext (cl_inj e) (by rw [(isv _ na ha').2, (isv _ nb hb').2])
      have u := (key _ ha').1
      rw [e3, (key _ hb').1] at u
      have := congrArg (fun z => cl z.1) u
      simp only [cl_vt] at this
      omega
    · have hc' : S (-1 - (-1 - c)) := by rw [show (-1 - (-1 - c) : Int) = c by omega]; exact hc
      obtain ⟨i1, i2⟩ := isv _ (by omega) hc'
      exact ⟨Prod.ext (by show (θ (-1 - c)).1 = cu (cl (θ (-1 - c)).1); rw [cu_cl]) i2, i1⟩
  have inj : ∀ x y : Tm, inL x C → inL y C → st θ x = st θ y → x = y := by
    have back : ∀ x, inL x C → st τ (st θ x) = x := by
      rintro x ⟨a, ha, rfl | rfl⟩
      · exact (eC a ha).1
      · exact (eC a ha).2
    intro x y hx hy e
    rw [← back x hx, e, back y hy]
  have hP : ∀ a ∈ C, inL a.2.1 C ∧ inL a.2.2 C := fun a ha => ⟨⟨a, ha, Or.inl rfl⟩, ⟨a, ha, Or.inr rfl⟩⟩
  have hdd : ddL [] D = mpL (st θ) (ddL [] C) := by
    have := ddL_mp inj C [] (fun a ha => by cases ha) hP
    rw [e1]; exact this
  have cond : ∀ X : List Lt, (∀ a ∈ X, a ∈ C) → ∀ a ∈ X, wf ar p (tt a.2.1) ∧ wf ar p (tt a.2.2) ∧ wf ar q (tt (st θ a.2.1)) ∧ wf ar q (tt (st θ a.2.2)) ∧ (∀ v, vi v (tt a.2.1) → S (-1 - v)) ∧ ∀ v, vi v (tt a.2.2) → S (-1 - v) := fun X hX a ha => by
    have hd := hD (a.1, st θ a.2.1, st θ a.2.2) (by rw [e1]; exact List.mem_map.mpr ⟨a, hX a ha, rfl⟩)
    refine ⟨(hC a (hX a ha)).1, (hC a (hX a ha)).2, hd.1, hd.2, fun v hv => ⟨a, hX a ha, Or.inl ?_⟩, fun v hv => ⟨a, hX a ha, Or.inr ?_⟩⟩ <;> · rw [show (-1 - (-1 - v) : Int) = v by omega]; exact hv
  have cd : ∀ a ∈ ddL [] C, a ∈ C := fun a ha => (ddL_mem ha).elim (fun z => by cases z) id
  obtain ⟨r1, r2⟩ := rnL_st hnam (N := []) (cond _ cd) (fun a ha => by cases ha)
  obtain ⟨r3, r4⟩ := rnL_st hnam (N := []) (cond C (fun a h => h)) (fun a ha => by cases ha)
  simp only [List.map_nil] at r1 r2 r3 r4
  refine ⟨by rw [hdd]; exact r1, by rw [hdd, r2, List.length_map], by rw [e1, r4, List.length_map], by rw [hdd, r1]⟩
