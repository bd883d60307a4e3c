theorem gJ_CP_writeNumber (β : Nat) (σ : zS) (x0 : Int) : gz (fun rec => kJ_CP_writeNumber rec β σ x0) := by
  unfold kJ_CP_writeNumber
  exact (gz_if (gz_if (gz_call _ _ _ _) (gz_call _ _ _ _)) (gz_call _ _ _ _))
theorem gJ_CP_writeNumber_p23 (β : Nat) (σ : zS) (x0 x1 : Int) : gz (fun rec => kJ_CP_writeNumber_p23 rec β σ x0 x1) := by
  unfold kJ_CP_writeNumber_p23
  exact (gz_call _ _ _ _)
theorem gJ_CP_writeNumber_p24 (β : Nat) (σ : zS) (x0 x1 : Int) : gz (fun rec => kJ_CP_writeNumber_p24 rec β σ x0 x1) := by
  unfold kJ_CP_writeNumber_p24
  exact (gz_if (gz_const _) (gz_if (gz_const _) (gz_if (gz_if (gz_if (gz_let (fun _ => (gz_if (gz_call _ _ _ _) (gz_const _)))) (gz_const _)) (gz_const _)) (gz_const _))))
theorem gJ_Sym_isWitness (β : Nat) (σ : zS) (x0 : Int) : gz (fun rec => kJ_Sym_isWitness rec β σ x0) := by
  unfold kJ_Sym_isWitness
  exact (gz_if (gz_call _ _ _ _) (gz_call _ _ _ _))
theorem gJ_Sym_isWitness_p13 (β : Nat) (σ : zS) (x0 x1 : Int) : gz (fun rec => kJ_Sym_isWitness_p13 rec β σ x0 x1) := by
  unfold kJ_Sym_isWitness_p13
  exact (gz_if (gz_const _) (gz_const _))
theorem gJ_CP_writeWord (β : Nat) (σ : zS) (x0 : Int) : gz (fun rec => kJ_CP_writeWord rec β σ x0) := by
  unfold kJ_CP_writeWord
  exact (gz_if (gz_if (gz_bnd (gz_call _ _ _ _) (fun _ _ => (gz_if (gz_if (gz_call _ _ _ _) (gz_call _ _ _ _)) (gz_if (gz_let (fun _ => (gz_if (gz_if (gz_if (gz_bnd (gz_call _ _ _ _) (fun _ _ => (gz_call _ _ _ _))) (gz_const _)) (gz_const _)) (gz_const _)))) (gz_const _))))) (gz_const _)) (gz_if (gz_let (fun _ => (gz_if (gz_bnd (gz_call _ _ _ _) (fun _ _ => (gz_call _ _ _ _))) (gz_const _)))) (gz_const _)))
theorem gJ_CP_writeWord_p61 (β : Nat) (σ : zS) (x0 x1 : Int) : gz (fun rec => kJ_CP_writeWord_p61 rec β σ x0 x1) := by
  unfold kJ_CP_writeWord_p61
  exact (gz_if (gz_if (gz_call _ _ _ _) (gz_if (gz_if (gz_if (gz_let (fun _ => (gz_if (gz_call _ _ _ _) (gz_const _)))) (gz_const _)) (gz_const _)) (gz_const _))) (gz_const _))
theorem gJ_CP_writeWord_p109 (β : Nat) (σ : zS) (x0 : Int) : gz (fun rec => kJ_CP_writeWord_p109 rec β σ x0) := by
  unfold kJ_CP_writeWord_p109
  exact (gz_const _)
theorem gJ_CP_writeTerm (β : Nat) (σ : zS) (x0 x1 : Int) : gz (fun rec => kJ_CP_writeTerm rec β σ x0 x1) := by
  unfold kJ_CP_writeTerm
  exact (gz_call _ _ _ _)
theorem gJ_CP_writeTerm_p5 (β : Nat) (σ : zS) (x0 x1 x2 x3 : Int) : gz (fun rec => kJ_CP_writeTerm_p5 rec β σ x0 x1 x2 x3) := by
  unfold kJ_CP_writeTerm_p5
  exact (gz_if (gz_const _) (gz_if (gz_if (gz_bnd (gz_call _ _ _ _) (fun _ _ => (gz_if (gz_if (gz_call _ _ _ _) (gz_const _)) (gz_call _ _ _ _)))) (gz_const _)) (gz_const _)))
theorem gJ_CP_writeTerm_p51 (β : Nat) (σ : zS) (x0 x1 x2 x3 x4 x5 : Int) : gz (fun rec => kJ_CP_writeTerm_p51 rec β σ x0 x1 x2 x3 x4 x5) := by
  unfold kJ_CP_writeTerm_p51
  exact (gz_if (gz_call _ _ _ _) (gz_if (gz_call _ _ _ _) (gz_if (gz_let (fun _ => (gz_if (gz_let (fun _ => (gz_if (gz_call _ _ _ _) (gz_const _)))) (gz_const _)))) (gz_const _))))
theorem gJ_CP_writeTerm_p87 (β : Nat) (σ : zS) (x0 x1 x2 x3 x4 x5 : Int) : gz (fun rec => kJ_CP_writeTerm_p87 rec β σ x0 x1 x2 x3 x4 x5) := by
  unfold kJ_CP_writeTerm_p87
  exact (gz_if (gz_call _ _ _ _) (gz_if (gz_if (gz_if (gz_if (gz_let (fun _ => (gz_if (gz_call _ _ _ _) (gz_const _)))) (gz_const _)) (gz_call _ _ _ _)) (gz_const _)) (gz_const _)))
theorem gJ_CP_writeTerm_p115 (β : Nat) (σ : zS) (x0 x1 x2 x3 x4 x5 : Int) : gz (fun rec => kJ_CP_writeTerm_p115 rec β σ x0 x1 x2 x3 x4 x5) := by
  unfold kJ_CP_writeTerm_p115
  exact (gz_if (gz_call _ _ _ _) (gz_if (gz_let (fun _ => (gz_if (gz_if (gz_if (gz_let (fun _ => (gz_call _ _ _ _))) (gz_const _)) (gz_const _)) (gz_const _)))) (gz_const _)))
theorem gJ_CP_writeTerm_p137 (β : Nat) (σ : zS) (x0 x1 x2 x3 x4 x5 : Int) : gz (fun rec => kJ_CP_writeTerm_p137 rec β σ x0 x1 x2 x3 x4 x5) := by
  unfold kJ_CP_writeTerm_p137
  exact (gz_if (gz_call _ _ _ _) (gz_const _))
theorem gJ_Sto_sideAt (β : Nat) (σ : zS) (x0 x1 : Int) : gz (fun rec => kJ_Sto_sideAt rec β σ x0 x1) := by
  unfold kJ_Sto_sideAt
  exact (gz_if (gz_if (gz_call _ _ _ _) (gz_const _)) (gz_if (gz_if (gz_if (gz_call _ _ _ _) (gz_const _)) (gz_const _)) (gz_const _)))
theorem gJ_Sto_sideAt_p22 (β : Nat) (σ : zS) (x0 x1 x2 x3 : Int) : gz (fun rec => kJ_Sto_sideAt_p22 rec β σ x0 x1 x2 x3) := by
  unfold kJ_Sto_sideAt_p22
  exact (gz_if (gz_const _) (gz_const _))
theorem gJ_CP_writeLiteral (β : Nat) (σ : zS) (x0 : Int) : gz (fun rec => kJ_CP_writeLiteral rec β σ x0) := by
  unfold kJ_CP_writeLiteral
  exact (gz_if (gz_if (gz_if (gz_call _ _ _ _) (gz_call _ _ _ _)) (gz_const _)) (gz_const _))
theorem gJ_CP_writeLiteral_p25 (β : Nat) (σ : zS) (x0 x1 : Int) : gz (fun rec => kJ_CP_writeLiteral_p25 rec β σ x0 x1) := by
  unfold kJ_CP_writeLiteral_p25
  exact (gz_if (gz_bnd (gz_call _ _ _ _) (fun _ _ => (gz_if (gz_bnd (gz_call _ _ _ _) (fun _ _ => (gz_if (gz_if (gz_if (gz_if (gz_let (fun _ => (gz_if (gz_bnd (gz_call _ _ _ _) (fun _ _ => (gz_const _))) (gz_const _)))) (gz_const _)) (gz_if (gz_bnd (gz_call _ _ _ _) (fun _ _ => (gz_const _))) (gz_const _))) (gz_if (gz_bnd (gz_call _ _ _ _) (fun _ _ => (gz_if (gz_if (gz_let (fun _ => (gz_if (gz_let (fun _ => (gz_if (gz_let (fun _ => (gz_if (gz_let (fun _ => (gz_if (gz_if (gz_if (gz_if (gz_bnd (gz_call _ _ _ _) (fun _ _ => (gz_const _))) (gz_const _)) (gz_const _)) (gz_const _)) (gz_const _)))) (gz_const _)))) (gz_const _)))) (gz_const _)))) (gz_const _)) (gz_if (gz_let (fun _ => (gz_if (gz_let (fun _ => (gz_if (gz_let (fun _ => (gz_if (gz_if (gz_if (gz_if (gz_bnd (gz_call _ _ _ _) (fun _ _ => (gz_const _))) (gz_const _)) (gz_const _)) (gz_const _)) (gz_const _)))) (gz_const _)))) (gz_const _)))) (gz_const _))))) (gz_const _))) (gz_const _)))) (gz_const _)))) (gz_const _))
theorem gJ_Sto_has (β : Nat) (σ : zS) (x0 : Int) : gz (fun rec => kJ_Sto_has rec β σ x0) := by
  unfold kJ_Sto_has
  exact (gz_if (gz_call _ _ _ _) (gz_if (gz_call _ _ _ _) (gz_call _ _ _ _)))
theorem gJ_Sto_has_p16 (β : Nat) (σ : zS) (x0 : Int) : gz (fun rec => kJ_Sto_has_p16 rec β σ x0) := by
  unfold kJ_Sto_has_p16
  exact (gz_call _ _ _ _)
theorem gJ_Sto_has_p17 (β : Nat) (σ : zS) (x0 x1 : Int) : gz (fun rec => kJ_Sto_has_p17 rec β σ x0 x1) := by
  unfold kJ_Sto_has_p17
  exact (gz_if (gz_const _) (gz_const _))
theorem gJ_Sto_fact (β : Nat) (σ : zS) (x0 x1 : Int) : gz (fun rec => kJ_Sto_fact rec β σ x0 x1) := by
  unfold kJ_Sto_fact
  exact (gz_if (gz_if (gz_if (gz_const _) (gz_const _)) (gz_const _)) (gz_const _))
theorem gJ_Sto_behind (β : Nat) (σ : zS) (x0 : Int) : gz (fun rec => kJ_Sto_behind rec β σ x0) := by
  unfold kJ_Sto_behind
  exact (gz_if (gz_if (gz_if (gz_if (gz_if (gz_if (gz_if (gz_const _) (gz_const _)) (gz_const _)) (gz_const _)) (gz_const _)) (gz_const _)) (gz_const _)) (gz_const _))
theorem gJ_CP_show (β : Nat) (σ : zS) (x0 : Int) : gz (fun rec => kJ_CP_show rec β σ x0) := by
  unfold kJ_CP_show
  exact (gz_if (gz_bnd (gz_call _ _ _ _) (fun _ _ => (gz_if (gz_const _) (gz_let (fun _ => (gz_if (gz_bnd (gz_call _ _ _ _) (fun _ _ => (gz_if (gz_if (gz_let (fun _ => (gz_if (gz_let (fun _ => (gz_if (gz_let (fun _ => (gz_if (gz_let (fun _ => (gz_if (gz_let (fun _ => (gz_call _ _ _ _))) (gz_const _)))) (gz_const _)))) (gz_const _)))) (gz_const _)))) (gz_const _)) (gz_call _ _ _ _)))) (gz_const _))))))) (gz_const _))
theorem gJ_CP_show_p49 (β : Nat) (σ : zS) (x0 x1 : Int) : gz (fun rec => kJ_CP_show_p49 rec β σ x0 x1) := by
  unfold kJ_CP_show_p49
  exact (gz_if (gz_bnd (gz_call _ _ _ _) (fun _ _ => (gz_call _ _ _ _))) (gz_const _))
theorem gJ_CP_show_p63 (β : Nat) (σ : zS) (x0 x1 x2 x3 : Int) : gz (fun rec => kJ_CP_show_p63 rec β σ x0 x1 x2 x3) := by
  unfold kJ_CP_show_p63
  exact (gz_if (gz_const _) (gz_if (gz_call _ _ _ _) (gz_if (gz_let (fun _ => (gz_if (gz_let (fun _ => (gz_if (gz_let (fun _ => (gz_call _ _ _ _))) (gz_const _)))) (gz_const _)))) (gz_const _))))
theorem gJ_CP_show_p80 (β : Nat) (σ : zS) (x0 x1 x2 x3 : Int) : gz (fun rec => kJ_CP_show_p80 rec β σ x0 x1 x2 x3) := by
  unfold kJ_CP_show_p80
  exact (gz_if (gz_bnd (gz_call _ _ _ _) (fun _ _ => (gz_if (gz_bnd (gz_call _ _ _ _) (fun _ _ => (gz_if (gz_call _ _ _ _) (gz_const _)))) (gz_const _)))) (gz_const _))
def jBlk : List zK := [fun rec β σ xs => uz_1 (kJ_CP_writeNumber rec β σ) xs, fun rec β σ xs => uz_2 (kJ_CP_writeNumber_p23 rec β σ) xs, fun rec β σ xs => uz_2 (kJ_CP_writeNumber_p24 rec β σ) xs, fun rec β σ xs => uz_1 (kJ_Sym_isWitness rec β σ) xs, fun rec β σ xs => uz_2 (kJ_Sym_isWitness_p13 rec β σ) xs, fun rec β σ xs => uz_1 (kJ_CP_writeWord rec β σ) xs, fun rec β σ xs => uz_2 (kJ_CP_writeWord_p61 rec β σ) xs, fun rec β σ xs => uz_1 (kJ_CP_writeWord_p109 rec β σ) xs, fun rec β σ xs => uz_2 (kJ_CP_writeTerm rec β σ) xs, fun rec β σ xs => uz_4 (kJ_CP_writeTerm_p5 rec β σ) xs, fun rec β σ xs => uz_6 (kJ_CP_writeTerm_p51 rec β σ) xs, fun rec β σ xs => uz_6 (kJ_CP_writeTerm_p87 rec β σ) xs, fun rec β σ xs => uz_6 (kJ_CP_writeTerm_p115 rec β σ) xs, fun rec β σ xs => uz_6 (kJ_CP_writeTerm_p137 rec β σ) xs, fun rec β σ xs => uz_2 (kJ_Sto_sideAt rec β σ) xs, fun rec β σ xs => uz_4 (kJ_Sto_sideAt_p22 rec β σ) xs, fun rec β σ xs => uz_1 (kJ_CP_writeLiteral rec β σ) xs, fun rec β σ xs => uz_2 (kJ_CP_writeLiteral_p25 rec β σ) xs, fun rec β σ xs => uz_1 (kJ_Sto_has rec β σ) xs, fun rec β σ xs => uz_1 (kJ_Sto_has_p16 rec β σ) xs, fun rec β σ xs => uz_2 (kJ_Sto_has_p17 rec β σ) xs, fun rec β σ xs => uz_2 (kJ_Sto_fact rec β σ) xs, fun rec β σ xs => uz_1 (kJ_Sto_behind rec β σ) xs, fun rec β σ xs => uz_1 (kJ_CP_show rec β σ) xs, fun rec β σ xs => uz_2 (kJ_CP_show_p49 rec β σ) xs, fun rec β σ xs => uz_4 (kJ_CP_show_p63 rec β σ) xs, fun rec β σ xs => uz_4 (kJ_CP_show_p80 rec β σ) xs]
def hAllS (l : Launch) (D : va_G) (kA : Nat → ClassId) (adK adV u : Nat → Nat) : List (mS → List Int32 → mR → Prop) → List (mF → mS → List Int32 → Option mR) → Prop
  | s :: ss, k :: ks => (∀ (rec : mF), GMh rec → (∀ t σ xs res, rec t σ xs = some res → hSem l D kA adK adV u t σ xs res) → ∀ (σ : mS) (xs : List Int32) (res : mR), k rec σ xs = some res → s σ xs res) ∧ hAllS l D kA adK adV u ss ks
  | [], [] => True
  | _, _ => False
theorem hAllS_get {l : Launch} {D : va_G} {kA : Nat → ClassId} {adK adV u : Nat → Nat} : ∀ {L : List (mS → List Int32 → mR → Prop)} {K : List (mF → mS → List Int32 → Option mR)}, hAllS l D kA adK adV u L K → ∀ {t : Nat} {k : mF → mS → List Int32 → Option mR}, K[t]? = some k → ∀ (rec : mF), GMh rec → (∀ t σ xs res, rec t σ xs = some res → hSem l D kA adK adV u t σ xs res) → ∀ (σ : mS) (xs : List Int32) (res : mR), k rec σ xs = some res → (L.getD t (fun _ _ _ => True)) σ xs res
  | [], [], _, t, k, h => by simp at h
  | s :: L, a :: K, hL, 0, k, h => by simp at h; subst h; exact hL.1
  | s :: L, a :: K, hL, t + 1, k, h => by simpa using hAllS_get hL.2 (t := t) (k := k) (by simpa using h)
  | [], _ :: _, hL, _, _, _ => hL.elim
  | _ :: _, [], hL, _, _, _ => hL.elim

def hEx : Nat → mF
  | 0 => fun _ _ _ => none
  | n + 1 => fun t σ xs => match hBlk[t]? with
    | some k => k (hEx n) σ xs
    | none => none
def jEx : Nat → zF
  | 0 => fun _ _ _ _ => none
  | n + 1 => fun t β σ xs => match jBlk[t]? with
    | some k => k (jEx n) β σ xs
    | none => none

set_option maxRecDepth 100000 in
set_option maxHeartbeats 4000000 in
theorem jBlk_good : zAllG jBlk := ⟨fun β σ xs => gz_u1 (gJ_CP_writeNumber β σ) xs, ⟨fun β σ xs => gz_u2 (gJ_CP_writeNumber_p23 β σ) xs, ⟨fun β σ xs => gz_u2 (gJ_CP_writeNumber_p24 β σ) xs, ⟨fun β σ xs => gz_u1 (gJ_Sym_isWitness β σ) xs, ⟨fun β σ xs => gz_u2 (gJ_Sym_isWitness_p13 β σ) xs, ⟨fun β σ xs => gz_u1 (gJ_CP_writeWord β σ) xs, ⟨fun β σ xs => gz_u2 (gJ_CP_writeWord_p61 β σ) xs, ⟨fun β σ xs => gz_u1 (gJ_CP_writeWord_p109 β σ) xs, ⟨fun β σ xs => gz_u2 (gJ_CP_writeTerm β σ) xs, ⟨fun β σ xs => gz_u4 (gJ_CP_writeTerm_p5 β σ) xs, ⟨fun β σ xs => gz_u6 (gJ_CP_writeTerm_p51 β σ) xs, ⟨fun β σ xs => gz_u6 (gJ_CP_writeTerm_p87 β σ) xs, ⟨fun β σ xs => gz_u6 (gJ_CP_writeTerm_p115 β σ) xs, ⟨fun β σ xs => gz_u6 (gJ_CP_writeTerm_p137 β σ) xs, ⟨fun β σ xs => gz_u2 (gJ_Sto_sideAt β σ) xs, ⟨fun β σ xs => gz_u4 (gJ_Sto_sideAt_p22 β σ) xs, ⟨fun β σ xs => gz_u1 (gJ_CP_writeLiteral β σ) xs, ⟨fun β σ xs => gz_u2 (gJ_CP_writeLiteral_p25 β σ) xs, ⟨fun β σ xs => gz_u1 (gJ_Sto_has β σ) xs, ⟨fun β σ xs => gz_u1 (gJ_Sto_has_p16 β σ) xs, ⟨fun β σ xs => gz_u2 (gJ_Sto_has_p17 β σ) xs, ⟨fun β σ xs => gz_u2 (gJ_Sto_fact β σ) xs, ⟨fun β σ xs => gz_u1 (gJ_Sto_behind β σ) xs, ⟨fun β σ xs => gz_u1 (gJ_CP_show β σ) xs, ⟨fun β σ xs => gz_u2 (gJ_CP_show_p49 β σ) xs, ⟨fun β σ xs => gz_u4 (gJ_CP_show_p63 β σ) xs, ⟨fun β σ xs => gz_u4 (gJ_CP_show_p80 β σ) xs, trivial⟩⟩⟩⟩⟩⟩⟩⟩⟩⟩⟩⟩⟩⟩⟩⟩⟩⟩⟩⟩⟩⟩⟩⟩⟩⟩⟩
set_option maxRecDepth 100000 in
set_option maxHeartbeats 4000000 in
theorem jBlk_rel : zAllR jBlk hBlk := ⟨fun rz rm hR β σ xs hσ hx => uR_1 (rJ_CP_writeNumber rz rm hR β σ hσ) xs hx, ⟨fun rz rm hR β σ xs hσ hx => uR_2 (rJ_CP_writeNumber_p23 rz rm hR β σ hσ) xs hx, ⟨fun rz rm hR β σ xs hσ hx => uR_2 (rJ_CP_writeNumber_p24 rz rm hR β σ hσ) xs hx, ⟨fun rz rm hR β σ xs hσ hx => uR_1 (rJ_Sym_isWitness rz rm hR β σ hσ) xs hx, ⟨fun rz rm hR β σ xs hσ hx => uR_2 (rJ_Sym_isWitness_p13 rz rm hR β σ hσ) xs hx, ⟨fun rz rm hR β σ xs hσ hx => uR_1 (rJ_CP_writeWord rz rm hR β σ hσ) xs hx, ⟨fun rz rm hR β σ xs hσ hx => uR_2 (rJ_CP_writeWord_p61 rz rm hR β σ hσ) xs hx, ⟨fun rz rm hR β σ xs hσ hx => uR_1 (rJ_CP_writeWord_p109 rz rm hR β σ hσ) xs hx, ⟨fun rz rm hR β σ xs hσ hx => uR_2 (rJ_CP_writeTerm rz rm hR β σ hσ) xs hx, ⟨fun rz rm hR β σ xs hσ hx => uR_4 (rJ_CP_writeTerm_p5 rz rm hR β σ hσ) xs hx, ⟨fun rz rm hR β σ xs hσ hx => uR_6 (rJ_CP_writeTerm_p51 rz rm hR β σ hσ) xs hx, ⟨fun rz rm hR β σ xs hσ hx => uR_6 (rJ_CP_writeTerm_p87 rz rm hR β σ hσ) xs hx, ⟨fun rz rm hR β σ xs hσ hx => uR_6 (rJ_CP_writeTerm_p115 rz rm hR β σ hσ) xs hx, ⟨fun rz rm hR β σ xs hσ hx => uR_6 (rJ_CP_writeTerm_p137 rz rm hR β σ hσ) xs hx, ⟨fun rz rm hR β σ xs hσ hx => uR_2 (rJ_Sto_sideAt rz rm hR β σ hσ) xs hx, ⟨fun rz rm hR β σ xs hσ hx => uR_4 (rJ_Sto_sideAt_p22 rz rm hR β σ hσ) xs hx, ⟨fun rz rm hR β σ xs hσ hx => uR_1 (rJ_CP_writeLiteral rz rm hR β σ hσ) xs hx, ⟨fun rz rm hR β σ xs hσ hx => uR_2 (rJ_CP_writeLiteral_p25 rz rm hR β σ hσ) xs hx, ⟨fun rz rm hR β σ xs hσ hx => uR_1 (rJ_Sto_has rz rm hR β σ hσ) xs hx, ⟨fun rz rm hR β σ xs hσ hx => uR_1 (rJ_Sto_has_p16 rz rm hR β σ hσ) xs hx, ⟨fun rz rm hR β σ xs hσ hx => uR_2 (rJ_Sto_has_p17 rz rm hR β σ hσ) xs hx, ⟨fun rz rm hR β σ xs hσ hx => uR_2 (rJ_Sto_fact rz rm hR β σ hσ) xs hx, ⟨fun rz rm hR β σ xs hσ hx => uR_1 (rJ_Sto_behind rz rm hR β σ hσ) xs hx, ⟨fun rz rm hR β σ xs hσ hx => uR_1 (rJ_CP_show rz rm hR β σ hσ) xs hx, ⟨fun rz rm hR β σ xs hσ hx => uR_2 (rJ_CP_show_p49 rz rm hR β σ hσ) xs hx, ⟨fun rz rm hR β σ xs hσ hx => uR_4 (rJ_CP_show_p63 rz rm hR β σ hσ) xs hx, ⟨fun rz rm hR β σ xs hσ hx => uR_4 (rJ_CP_show_p80 rz rm hR β σ hσ) xs hx, trivial⟩⟩⟩⟩⟩⟩⟩⟩⟩⟩⟩⟩⟩⟩⟩⟩⟩⟩⟩⟩⟩⟩⟩⟩⟩⟩⟩
set_option maxRecDepth 100000 in
set_option maxHeartbeats 4000000 in
theorem hBlk_sound (l : Launch) (D : va_G) (kA : Nat → ClassId) (adK adV u : Nat → Nat) : hAllS l D kA adK adV u (hTab l D kA adK adV u) hBlk := ⟨oH_CP_writeNumber l D kA adK adV u, ⟨oH_CP_writeNumber_p23 l D kA adK adV u, ⟨oH_CP_writeNumber_p24 l D kA adK adV u, ⟨oH_Sym_isWitness l D kA adK adV u, ⟨oH_Sym_isWitness_p13 l D kA adK adV u, ⟨oH_CP_writeWord l D kA adK adV u, ⟨oH_CP_writeWord_p61 l D kA adK adV u, ⟨oH_CP_writeWord_p109 l D kA adK adV u, ⟨oH_CP_writeTerm l D kA adK adV u, ⟨oH_CP_writeTerm_p5 l D kA adK adV u, ⟨oH_CP_writeTerm_p51 l D kA adK adV u, ⟨oH_CP_writeTerm_p87 l D kA adK adV u, ⟨oH_CP_writeTerm_p115 l D kA adK adV u, ⟨oH_CP_writeTerm_p137 l D kA adK adV u, ⟨oH_Sto_sideAt l D kA adK adV u, ⟨oH_Sto_sideAt_p22 l D kA adK adV u, ⟨oH_CP_writeLiteral l D kA adK adV u, ⟨oH_CP_writeLiteral_p25 l D kA adK adV u, ⟨oH_Sto_has l D kA adK adV u, ⟨oH_Sto_has_p16 l D kA adK adV u, ⟨oH_Sto_has_p17 l D kA adK adV u, ⟨oH_Sto_fact l D kA adK adV u, ⟨oH_Sto_behind l D kA adK adV u, ⟨oH_CP_show l D kA adK adV u, ⟨oH_CP_show_p49 l D kA adK adV u, ⟨oH_CP_show_p63 l D kA adK adV u, ⟨oH_CP_show_p80 l D kA adK adV u, trivial⟩⟩⟩⟩⟩⟩⟩⟩⟩⟩⟩⟩⟩⟩⟩⟩⟩⟩⟩⟩⟩⟩⟩⟩⟩⟩⟩
def hAllQ : List (mF → mS → List Int32 → Option mR) → Prop
  | [] => True
  | k :: ks => (∀ (rec : mF), GMh rec → ∀ σ xs, gm σ (k rec σ xs)) ∧ hAllQ ks
theorem hAllQ_get : ∀ {K : List (mF → mS → List Int32 → Option mR)}, hAllQ K → ∀ {t : Nat} {k : mF → mS → List Int32 → Option mR}, K[t]? = some k → ∀ (rec : mF), GMh rec → ∀ σ xs, gm σ (k rec σ xs)
  | [], _, t, k, h => by simp at h
  | a :: K, hL, 0, k, h => by simp at h; subst h; exact hL.1
  | a :: K, hL, t + 1, k, h => hAllQ_get hL.2 (by simpa using h)
set_option maxRecDepth 100000 in
set_option maxHeartbeats 4000000 in
theorem hBlk_gm : hAllQ hBlk := ⟨fun rec hG σ xs => um_1 (qH_CP_writeNumber rec hG σ) xs, ⟨fun rec hG σ xs => um_2 (qH_CP_writeNumber_p23 rec hG σ) xs, ⟨fun rec hG σ xs => um_2 (qH_CP_writeNumber_p24 rec hG σ) xs, ⟨fun rec hG σ xs => um_1 (qH_Sym_isWitness rec hG σ) xs, ⟨fun rec hG σ xs => um_2 (qH_Sym_isWitness_p13 rec hG σ) xs, ⟨fun rec hG σ xs => um_1 (qH_CP_writeWord rec hG σ) xs, ⟨fun rec hG σ xs => um_2 (qH_CP_writeWord_p61 rec hG σ) xs, ⟨fun rec hG σ xs => um_1 (qH_CP_writeWord_p109 rec hG σ) xs, ⟨fun rec hG σ xs => um_2 (qH_CP_writeTerm rec hG σ) xs, ⟨fun rec hG σ xs => um_4 (qH_CP_writeTerm_p5 rec hG σ) xs, ⟨fun rec hG σ xs => um_6 (qH_CP_writeTerm_p51 rec hG σ) xs, ⟨fun rec hG σ xs => um_6 (qH_CP_writeTerm_p87 rec hG σ) xs, ⟨fun rec hG σ xs => um_6 (qH_CP_writeTerm_p115 rec hG σ) xs, ⟨fun rec hG σ xs => um_6 (qH_CP_writeTerm_p137 rec hG σ) xs, ⟨fun rec hG σ xs => um_2 (qH_Sto_sideAt rec hG σ) xs, ⟨fun rec hG σ xs => um_4 (qH_Sto_sideAt_p22 rec hG σ) xs, ⟨fun rec hG σ xs => um_1 (qH_CP_writeLiteral rec hG σ) xs, ⟨fun rec hG σ xs => um_2 (qH_CP_writeLiteral_p25 rec hG σ) xs, ⟨fun rec hG σ xs => um_1 (qH_Sto_has rec hG σ) xs, ⟨fun rec hG σ xs => um_1 (qH_Sto_has_p16 rec hG σ) xs, ⟨fun rec hG σ xs => um_2 (qH_Sto_has_p17 rec hG σ) xs, ⟨fun rec hG σ xs => um_2 (qH_Sto_fact rec hG σ) xs, ⟨fun rec hG σ xs => um_1 (qH_Sto_behind rec hG σ) xs, ⟨fun rec hG σ xs => um_1 (qH_CP_show rec hG σ) xs, ⟨fun rec hG σ xs => um_2 (qH_CP_show_p49 rec hG σ) xs, ⟨fun rec hG σ xs => um_4 (qH_CP_show_p63 rec hG σ) xs, ⟨fun rec hG σ xs => um_4 (qH_CP_show_p80 rec hG σ) xs, trivial⟩⟩⟩⟩⟩⟩⟩⟩⟩⟩⟩⟩⟩⟩⟩⟩⟩⟩⟩⟩⟩⟩⟩⟩⟩⟩⟩
theorem hEx_gm : ∀ n, GMh (hEx n)
  | 0 => fun t σ xs res h => by cases h
  | n + 1 => fun t σ xs res h => by
    replace h : (match hBlk[t]? with | some k => k (hEx n) σ xs | none => none) = some res := h
    cases hk : hBlk[t]? with
    | none => simp only [hk] at h; cases h
    | some k => simp only [hk] at h; exact hAllQ_get hBlk_gm hk (hEx n) (hEx_gm n) σ xs res h
theorem hSound (l : Launch) (D : va_G) (kA : Nat → ClassId) (adK adV u : Nat → Nat) : ∀ (n t : Nat) (σ : mS) (xs : List Int32) (res : mR), hEx n t σ xs = some res → hSem l D kA adK adV u t σ xs res
  | 0, t, σ, xs, res, h => by cases h
  | n + 1, t, σ, xs, res, h => by
    replace h : (match hBlk[t]? with | some k => k (hEx n) σ xs | none => none) = some res := h
    cases hk : hBlk[t]? with
    | none => simp only [hk] at h; cases h
    | some k => simp only [hk] at h; exact hAllS_get (hBlk_sound l D kA adK adV u) hk (hEx n) (hEx_gm n) (fun t σ xs res q => hSound l D kA adK adV u n t σ xs res q) σ xs res h
theorem jRel : ∀ n, Rc (jEx n) (hEx n)
  | 0 => fun t β σ xs hσ hx => Rf_none
  | n + 1 => fun t β σ xs hσ hx => by
    show Rf (match jBlk[t]? with | some k => k (jEx n) β σ xs | none => none) (match hBlk[t]? with | some k => k (hEx n) (cv σ) (xs.map i32) | none => none) β
    cases hk : jBlk[t]? with
    | none => exact Rf_none
    | some k =>
      obtain ⟨m, h1, h2⟩ := zAllR_get jBlk_rel hk
      simp only [h1]
      exact h2 (jEx n) (hEx n) (jRel n) β σ xs hσ hx
theorem jEx_le : ∀ n, zLe (jEx n) (jEx (n + 1))
  | 0 => fun t β σ xs r h => by cases h
  | n + 1 => fun t β σ xs r h => by
    show (match jBlk[t]? with | some k => k (jEx (n + 1)) β σ xs | none => none) = some r
    replace h : (match jBlk[t]? with | some k => k (jEx n) β σ xs | none => none) = some r := h
    cases hk : jBlk[t]? with
    | none => simp only [hk] at h; cases h
    | some k => simp only [hk] at h ⊢; exact (zAllG_get jBlk_good hk β σ xs).1 _ _ (jEx_le n) _ h
noncomputable def jE : zF := fun t β σ xs => @dite _ (∃ r n, jEx n t β σ xs = some r) (Classical.propDecidable _) (fun h => some (Classical.choose h)) (fun _ => none)
theorem jEx_det {t β : Nat} {σ : zS} {xs : List Int} {r q : zR} {n k : Nat} (h : jEx n t β σ xs = some r) (h2 : jEx k t β σ xs = some q) : r = q := by
  have a := zLe_up jEx_le k n _ _ _ _ _ h
  have b := zLe_up jEx_le n k _ _ _ _ _ h2
  rw [Nat.add_comm k n, a] at b
  exact Option.some.inj b
theorem jE_of {t β : Nat} {σ : zS} {xs : List Int} {r : zR} {n : Nat} (h : jEx n t β σ xs = some r) : jE t β σ xs = some r := by
  have hx : ∃ r n, jEx n t β σ xs = some r := ⟨r, n, h⟩
  unfold jE
  rw [dif_pos hx]
  obtain ⟨k, hk⟩ := Classical.choose_spec hx
  rw [jEx_det hk h]
theorem jE_ex {t β : Nat} {σ : zS} {xs : List Int} {r : zR} (h : jE t β σ xs = some r) : ∃ n, jEx n t β σ xs = some r := by
  unfold jE at h
  by_cases hx : ∃ r n, jEx n t β σ xs = some r
  · rw [dif_pos hx] at h
    obtain ⟨k, hk⟩ := Classical.choose_spec hx
    rw [Option.some.inj h] at hk
    exact ⟨k, hk⟩
  · rw [dif_neg hx] at h; cases h
theorem jE_eq {t : Nat} {k : zK} (hk : jBlk[t]? = some k) (β : Nat) (σ : zS) (xs : List Int) : jE t β σ xs = k jE β σ xs := by
  have hG := zAllG_get jBlk_good hk β σ xs
  cases h : k jE β σ xs with
  | some r =>
    obtain ⟨n, hn⟩ := hG.2 jEx jEx_le jE (fun t β σ xs r q => jE_ex q) r h
    refine jE_of (n := n + 1) ?_
    show (match jBlk[t]? with | some k => k (jEx n) β σ xs | none => none) = some r
    simp only [hk]; exact hn
  | none =>
    cases h2 : jE t β σ xs with
    | none => rfl
    | some r =>
      obtain ⟨n, hn⟩ := jE_ex h2
      cases n with
      | zero => cases hn
      | succ n =>
        replace hn : (match jBlk[t]? with | some k => k (jEx n) β σ xs | none => none) = some r := hn
        simp only [hk] at hn
        have h9 : k jE β σ xs = some r := hG.1 (jEx n) jE (fun t β σ xs r q => jE_of q) r hn
        rw [h] at h9; cases h9
theorem jE_sound (l : Launch) (D : va_G) (kA : Nat → ClassId) (adK adV u : Nat → Nat) {t β : Nat} {σ : zS} {xs : List Int} {σ1 : zS} {r : Int} (hσ : zOK σ) (hx : ∀ x ∈ xs, zr x) (h : jE t β σ xs = some (σ1, r)) : zOK σ1 ∧ zr r ∧ gle (cv σ) (cv σ1) ∧ ∃ d, d ≤ β ∧ hSem l D kA adK adV u t (cv σ) (xs.map i32) (cv σ1, i32 r, d) := by
  obtain ⟨n, hn⟩ := jE_ex h
  obtain ⟨a, b, d, hd, e⟩ := jRel n t β σ xs hσ hx σ1 r hn
  exact ⟨a, b, hEx_gm n _ _ _ _ e, d, hd, hSound l D kA adK adV u n t (cv σ) _ _ e⟩

theorem jq_CP_writeNumber {β : Nat} {σ : zS} {x0 : Int} : jE tH_CP_writeNumber β σ [x0] = kJ_CP_writeNumber jE β σ x0 := jE_eq (t := tH_CP_writeNumber) rfl β σ _
theorem jq_CP_writeNumber_p23 {β : Nat} {σ : zS} {x0 x1 : Int} : jE tH_CP_writeNumber_p23 β σ [x0, x1] = kJ_CP_writeNumber_p23 jE β σ x0 x1 := jE_eq (t := tH_CP_writeNumber_p23) rfl β σ _
theorem jq_CP_writeNumber_p24 {β : Nat} {σ : zS} {x0 x1 : Int} : jE tH_CP_writeNumber_p24 β σ [x0, x1] = kJ_CP_writeNumber_p24 jE β σ x0 x1 := jE_eq (t := tH_CP_writeNumber_p24) rfl β σ _
theorem jq_Sym_isWitness {β : Nat} {σ : zS} {x0 : Int} : jE tH_Sym_isWitness β σ [x0] = kJ_Sym_isWitness jE β σ x0 := jE_eq (t := tH_Sym_isWitness) rfl β σ _
theorem jq_Sym_isWitness_p13 {β : Nat} {σ : zS} {x0 x1 : Int} : jE tH_Sym_isWitness_p13 β σ [x0, x1] = kJ_Sym_isWitness_p13 jE β σ x0 x1 := jE_eq (t := tH_Sym_isWitness_p13) rfl β σ _
theorem jq_CP_writeWord {β : Nat} {σ : zS} {x0 : Int} : jE tH_CP_writeWord β σ [x0] = kJ_CP_writeWord jE β σ x0 := jE_eq (t := tH_CP_writeWord) rfl β σ _
theorem jq_CP_writeWord_p61 {β : Nat} {σ : zS} {x0 x1 : Int} : jE tH_CP_writeWord_p61 β σ [x0, x1] = kJ_CP_writeWord_p61 jE β σ x0 x1 := jE_eq (t := tH_CP_writeWord_p61) rfl β σ _
theorem jq_CP_writeWord_p109 {β : Nat} {σ : zS} {x0 : Int} : jE tH_CP_writeWord_p109 β σ [x0] = kJ_CP_writeWord_p109 jE β σ x0 := jE_eq (t := tH_CP_writeWord_p109) rfl β σ _
theorem jq_CP_writeTerm {β : Nat} {σ : zS} {x0 x1 : Int} : jE tH_CP_writeTerm β σ [x0, x1] = kJ_CP_writeTerm jE β σ x0 x1 := jE_eq (t := tH_CP_writeTerm) rfl β σ _
theorem jq_CP_writeTerm_p5 {β : Nat} {σ : zS} {x0 x1 x2 x3 : Int} : jE tH_CP_writeTerm_p5 β σ [x0, x1, x2, x3] = kJ_CP_writeTerm_p5 jE β σ x0 x1 x2 x3 := jE_eq (t := tH_CP_writeTerm_p5) rfl β σ _
theorem jq_CP_writeTerm_p51 {β : Nat} {σ : zS} {x0 x1 x2 x3 x4 x5 : Int} : jE tH_CP_writeTerm_p51 β σ [x0, x1, x2, x3, x4, x5] = kJ_CP_writeTerm_p51 jE β σ x0 x1 x2 x3 x4 x5 := jE_eq (t := tH_CP_writeTerm_p51) rfl β σ _
theorem jq_CP_writeTerm_p87 {β : Nat} {σ : zS} {x0 x1 x2 x3 x4 x5 : Int} : jE tH_CP_writeTerm_p87 β σ [x0, x1, x2, x3, x4, x5] = kJ_CP_writeTerm_p87 jE β σ x0 x1 x2 x3 x4 x5 := jE_eq (t := tH_CP_writeTerm_p87) rfl β σ _
theorem jq_CP_writeTerm_p115 {β : Nat} {σ : zS} {x0 x1 x2 x3 x4 x5 : Int} : jE tH_CP_writeTerm_p115 β σ [x0, x1, x2, x3, x4, x5] = kJ_CP_writeTerm_p115 jE β σ x0 x1 x2 x3 x4 x5 := jE_eq (t := tH_CP_writeTerm_p115) rfl β σ _
theorem jq_CP_writeTerm_p137 {β : Nat} {σ : zS} {x0 x1 x2 x3 x4 x5 : Int} : jE tH_CP_writeTerm_p137 β σ [x0, x1, x2, x3, x4, x5] = kJ_CP_writeTerm_p137 jE β σ x0 x1 x2 x3 x4 x5 := jE_eq (t := tH_CP_writeTerm_p137) rfl β σ _
theorem jq_Sto_sideAt {β : Nat} {σ : zS} {x0 x1 : Int} : jE tH_Sto_sideAt β σ [x0, x1] = kJ_Sto_sideAt jE β σ x0 x1 := jE_eq (t := tH_Sto_sideAt) rfl β σ _
theorem jq_Sto_sideAt_p22 {β : Nat} {σ : zS} {x0 x1 x2 x3 : Int} : jE tH_Sto_sideAt_p22 β σ [x0, x1, x2, x3] = kJ_Sto_sideAt_p22 jE β σ x0 x1 x2 x3 := jE_eq (t := tH_Sto_sideAt_p22) rfl β σ _
theorem jq_CP_writeLiteral {β : Nat} {σ : zS} {x0 : Int} : jE tH_CP_writeLiteral β σ [x0] = kJ_CP_writeLiteral jE β σ x0 := jE_eq (t := tH_CP_writeLiteral) rfl β σ _
theorem jq_CP_writeLiteral_p25 {β : Nat} {σ : zS} {x0 x1 : Int} : jE tH_CP_writeLiteral_p25 β σ [x0, x1] = kJ_CP_writeLiteral_p25 jE β σ x0 x1 := jE_eq (t := tH_CP_writeLiteral_p25) rfl β σ _
theorem jq_Sto_has {β : Nat} {σ : zS} {x0 : Int} : jE tH_Sto_has β σ [x0] = kJ_Sto_has jE β σ x0 := jE_eq (t := tH_Sto_has) rfl β σ _
theorem jq_Sto_has_p16 {β : Nat} {σ : zS} {x0 : Int} : jE tH_Sto_has_p16 β σ [x0] = kJ_Sto_has_p16 jE β σ x0 := jE_eq (t := tH_Sto_has_p16) rfl β σ _
theorem jq_Sto_has_p17 {β : Nat} {σ : zS} {x0 x1 : Int} : jE tH_Sto_has_p17 β σ [x0, x1] = kJ_Sto_has_p17 jE β σ x0 x1 := jE_eq (t := tH_Sto_has_p17) rfl β σ _
theorem jq_Sto_fact {β : Nat} {σ : zS} {x0 x1 : Int} : jE tH_Sto_fact β σ [x0, x1] = kJ_Sto_fact jE β σ x0 x1 := jE_eq (t := tH_Sto_fact) rfl β σ _
theorem jq_Sto_behind {β : Nat} {σ : zS} {x0 : Int} : jE tH_Sto_behind β σ [x0] = kJ_Sto_behind jE β σ x0 := jE_eq (t := tH_Sto_behind) rfl β σ _
theorem jq_CP_show {β : Nat} {σ : zS} {x0 : Int} : jE tH_CP_show β σ [x0] = kJ_CP_show jE β σ x0 := jE_eq (t := tH_CP_show) rfl β σ _
theorem jq_CP_show_p49 {β : Nat} {σ : zS} {x0 x1 : Int} : jE tH_CP_show_p49 β σ [x0, x1] = kJ_CP_show_p49 jE β σ x0 x1 := jE_eq (t := tH_CP_show_p49) rfl β σ _
theorem jq_CP_show_p63 {β : Nat} {σ : zS} {x0 x1 x2 x3 : Int} : jE tH_CP_show_p63 β σ [x0, x1, x2, x3] = kJ_CP_show_p63 jE β σ x0 x1 x2 x3 := jE_eq (t := tH_CP_show_p63) rfl β σ _
theorem jq_CP_show_p80 {β : Nat} {σ : zS} {x0 x1 x2 x3 : Int} : jE tH_CP_show_p80 β σ [x0, x1, x2, x3] = kJ_CP_show_p80 jE β σ x0 x1 x2 x3 := jE_eq (t := tH_CP_show_p80) rfl β σ _
