theorem gV_refuse (β : Nat) (σ : zS) (x0 x1 : Int) : gz (fun rec => kV_refuse rec β σ x0 x1) := by
  unfold kV_refuse
  exact (gz_if (gz_call _ _ _ _) (gz_let (fun _ => (gz_call _ _ _ _))))
theorem gV_refuse_9 (β : Nat) (σ : zS) (x0 x1 : Int) : gz (fun rec => kV_refuse_9 rec β σ x0 x1) := by
  unfold kV_refuse_9
  exact (gz_if (gz_const _) (gz_const _))
theorem gV_none (β : Nat) (σ : zS) (x0 : Int) : gz (fun rec => kV_none rec β σ x0) := by
  unfold kV_none
  exact (gz_let (fun _ => (gz_if (gz_call _ _ _ _) (gz_if (gz_call _ _ _ _) (gz_call _ _ _ _)))))
theorem gV_none_19 (β : Nat) (σ : zS) (x0 x1 : Int) : gz (fun rec => kV_none_19 rec β σ x0 x1) := by
  unfold kV_none_19
  exact (gz_call _ _ _ _)
theorem gV_none_24 (β : Nat) (σ : zS) (x0 x1 x2 : Int) : gz (fun rec => kV_none_24 rec β σ x0 x1 x2) := by
  unfold kV_none_24
  exact (gz_if (gz_bnd (gz_call _ _ _ _) (fun _ _ => (gz_if (gz_const _) (gz_const _)))) (gz_const _))
theorem gV_isPredicate (β : Nat) (σ : zS) (x0 : Int) : gz (fun rec => kV_isPredicate rec β σ x0) := by
  unfold kV_isPredicate
  exact (gz_if (gz_if (gz_call _ _ _ _) (gz_if (gz_if (gz_call _ _ _ _) (gz_call _ _ _ _)) (gz_const _))) (gz_const _))
theorem gV_isPredicate_27 (β : Nat) (σ : zS) (x0 : Int) : gz (fun rec => kV_isPredicate_27 rec β σ x0) := by
  unfold kV_isPredicate_27
  exact (gz_call _ _ _ _)
theorem gV_isPredicate_28 (β : Nat) (σ : zS) (x0 x1 : Int) : gz (fun rec => kV_isPredicate_28 rec β σ x0 x1) := by
  unfold kV_isPredicate_28
  exact (gz_if (gz_const _) (gz_const _))
theorem gV_sayNumber (β : Nat) (σ : zS) (x0 : Int) : gz (fun rec => kV_sayNumber rec β σ x0) := by
  unfold kV_sayNumber
  exact (gz_if (gz_call _ _ _ _) (gz_if (gz_if (gz_bnd (gz_call _ _ _ _) (fun _ _ => (gz_call _ _ _ _))) (gz_const _)) (gz_const _)))
theorem gV_sayNumber_14 (β : Nat) (σ : zS) (x0 : Int) : gz (fun rec => kV_sayNumber_14 rec β σ x0) := by
  unfold kV_sayNumber_14
  exact (gz_if (gz_if (gz_let (fun _ => (gz_const _))) (gz_const _)) (gz_const _))
theorem gV_sayTerm (β : Nat) (σ : zS) (x0 : Int) : gz (fun rec => kV_sayTerm rec β σ x0) := by
  unfold kV_sayTerm
  exact (gz_if (gz_if (gz_if (gz_call _ _ _ _) (gz_if (gz_let (fun _ => (gz_if (gz_if (gz_if (gz_bnd (gz_call _ _ _ _) (fun _ _ => (gz_call _ _ _ _))) (gz_const _)) (gz_const _)) (gz_const _)))) (gz_const _))) (gz_if (gz_let (fun _ => (gz_if (gz_if (gz_bnd (gz_call _ _ _ _) (fun _ _ => (gz_const _))) (gz_const _)) (gz_const _)))) (gz_const _))) (gz_const _))
theorem gV_sayTerm_69 (β : Nat) (σ : zS) (x0 x1 : Int) : gz (fun rec => kV_sayTerm_69 rec β σ x0 x1) := by
  unfold kV_sayTerm_69
  exact (gz_if (gz_if (gz_if (gz_call _ _ _ _) (gz_if (gz_if (gz_if (gz_let (fun _ => (gz_if (gz_call _ _ _ _) (gz_const _)))) (gz_const _)) (gz_const _)) (gz_const _))) (gz_const _)) (gz_const _))
theorem gV_sayTerm_112 (β : Nat) (σ : zS) (x0 : Int) : gz (fun rec => kV_sayTerm_112 rec β σ x0) := by
  unfold kV_sayTerm_112
  exact (gz_if (gz_if (gz_call _ _ _ _) (gz_const _)) (gz_const _))
theorem gV_sayTerm_132 (β : Nat) (σ : zS) (x0 x1 x2 : Int) : gz (fun rec => kV_sayTerm_132 rec β σ x0 x1 x2) := by
  unfold kV_sayTerm_132
  exact (gz_if (gz_if (gz_let (fun _ => (gz_const _))) (gz_const _)) (gz_if (gz_let (fun _ => (gz_if (gz_bnd (gz_call _ _ _ _) (fun _ _ => (gz_if (gz_call _ _ _ _) (gz_const _)))) (gz_const _)))) (gz_const _)))
theorem gV_sayLiteral (β : Nat) (σ : zS) (x0 : Int) : gz (fun rec => kV_sayLiteral rec β σ x0) := by
  unfold kV_sayLiteral
  exact (gz_if (gz_if (gz_bnd (gz_call _ _ _ _) (fun _ _ => (gz_if (gz_call _ _ _ _) (gz_if (gz_if (gz_call _ _ _ _) (gz_call _ _ _ _)) (gz_const _))))) (gz_const _)) (gz_const _))
theorem gV_sayLiteral_36 (β : Nat) (σ : zS) (x0 : Int) : gz (fun rec => kV_sayLiteral_36 rec β σ x0) := by
  unfold kV_sayLiteral_36
  exact (gz_if (gz_if (gz_bnd (gz_call _ _ _ _) (fun _ _ => (gz_if (gz_call _ _ _ _) (gz_if (gz_if (gz_call _ _ _ _) (gz_call _ _ _ _)) (gz_const _))))) (gz_const _)) (gz_const _))
theorem gV_sayLiteral_72 (β : Nat) (σ : zS) (x0 : Int) : gz (fun rec => kV_sayLiteral_72 rec β σ x0) := by
  unfold kV_sayLiteral_72
  exact (gz_call _ _ _ _)
theorem gV_sayLiteral_73 (β : Nat) (σ : zS) (x0 x1 : Int) : gz (fun rec => kV_sayLiteral_73 rec β σ x0 x1) := by
  unfold kV_sayLiteral_73
  exact (gz_if (gz_if (gz_if (gz_bnd (gz_call _ _ _ _) (fun _ _ => (gz_if (gz_let (fun _ => (gz_if (gz_if (gz_let (fun _ => (gz_call _ _ _ _))) (gz_const _)) (gz_call _ _ _ _)))) (gz_const _)))) (gz_const _)) (gz_const _)) (gz_if (gz_if (gz_if (gz_let (fun _ => (gz_call _ _ _ _))) (gz_const _)) (gz_call _ _ _ _)) (gz_const _)))
theorem gV_sayLiteral_93 (β : Nat) (σ : zS) (x0 x1 : Int) : gz (fun rec => kV_sayLiteral_93 rec β σ x0 x1) := by
  unfold kV_sayLiteral_93
  exact (gz_if (gz_bnd (gz_call _ _ _ _) (fun _ _ => (gz_const _))) (gz_const _))
theorem gV_sayLiteral_130 (β : Nat) (σ : zS) (x0 x1 : Int) : gz (fun rec => kV_sayLiteral_130 rec β σ x0 x1) := by
  unfold kV_sayLiteral_130
  exact (gz_if (gz_let (fun _ => (gz_if (gz_let (fun _ => (gz_if (gz_if (gz_bnd (gz_call _ _ _ _) (fun _ _ => (gz_const _))) (gz_const _)) (gz_const _)))) (gz_const _)))) (gz_const _))
theorem gV_show (β : Nat) (σ : zS) (x0 : Int) : gz (fun rec => kV_show rec β σ x0) := by
  unfold kV_show
  exact (gz_if (gz_bnd (gz_call _ _ _ _) (fun _ _ => (gz_if (gz_let (fun _ => (gz_if (gz_call _ _ _ _) (gz_const _)))) (gz_const _)))) (gz_const _))
theorem gV_show_22 (β : Nat) (σ : zS) (x0 x1 : Int) : gz (fun rec => kV_show_22 rec β σ x0 x1) := by
  unfold kV_show_22
  exact (gz_if (gz_if (gz_if (gz_if (gz_if (gz_let (fun _ => (gz_if (gz_let (fun _ => (gz_if (gz_let (fun _ => (gz_if (gz_let (fun _ => (gz_if (gz_let (fun _ => (gz_call _ _ _ _))) (gz_const _)))) (gz_const _)))) (gz_const _)))) (gz_const _)))) (gz_const _)) (gz_call _ _ _ _)) (gz_if (gz_call _ _ _ _) (gz_if (gz_let (fun _ => (gz_if (gz_let (fun _ => (gz_if (gz_let (fun _ => (gz_call _ _ _ _))) (gz_const _)))) (gz_const _)))) (gz_const _)))) (gz_const _)) (gz_const _))
theorem gV_show_67 (β : Nat) (σ : zS) (x0 x1 : Int) : gz (fun rec => kV_show_67 rec β σ x0 x1) := by
  unfold kV_show_67
  exact (gz_if (gz_bnd (gz_call _ _ _ _) (fun _ _ => (gz_if (gz_call _ _ _ _) (gz_const _)))) (gz_const _))
theorem gV_show_117 (β : Nat) (σ : zS) (x0 x1 : Int) : gz (fun rec => kV_show_117 rec β σ x0 x1) := by
  unfold kV_show_117
  exact (gz_const _)
def vBlk : List zK := [fun rec β σ xs => uz_2 (kV_refuse rec β σ) xs, fun rec β σ xs => uz_2 (kV_refuse_9 rec β σ) xs, fun rec β σ xs => uz_1 (kV_none rec β σ) xs, fun rec β σ xs => uz_2 (kV_none_19 rec β σ) xs, fun rec β σ xs => uz_3 (kV_none_24 rec β σ) xs, fun rec β σ xs => uz_1 (kV_isPredicate rec β σ) xs, fun rec β σ xs => uz_1 (kV_isPredicate_27 rec β σ) xs, fun rec β σ xs => uz_2 (kV_isPredicate_28 rec β σ) xs, fun rec β σ xs => uz_1 (kV_sayNumber rec β σ) xs, fun rec β σ xs => uz_1 (kV_sayNumber_14 rec β σ) xs, fun rec β σ xs => uz_1 (kV_sayTerm rec β σ) xs, fun rec β σ xs => uz_2 (kV_sayTerm_69 rec β σ) xs, fun rec β σ xs => uz_1 (kV_sayTerm_112 rec β σ) xs, fun rec β σ xs => uz_3 (kV_sayTerm_132 rec β σ) xs, fun rec β σ xs => uz_1 (kV_sayLiteral rec β σ) xs, fun rec β σ xs => uz_1 (kV_sayLiteral_36 rec β σ) xs, fun rec β σ xs => uz_1 (kV_sayLiteral_72 rec β σ) xs, fun rec β σ xs => uz_2 (kV_sayLiteral_73 rec β σ) xs, fun rec β σ xs => uz_2 (kV_sayLiteral_93 rec β σ) xs, fun rec β σ xs => uz_2 (kV_sayLiteral_130 rec β σ) xs, fun rec β σ xs => uz_1 (kV_show rec β σ) xs, fun rec β σ xs => uz_2 (kV_show_22 rec β σ) xs, fun rec β σ xs => uz_2 (kV_show_67 rec β σ) xs, fun rec β σ xs => uz_2 (kV_show_117 rec β σ) xs]
def sAllS (l : Launch) (D : va_G) (kA : Nat → ClassId) (z : Nat) : List (mS → List Int32 → mR → Prop) → List (mF → mS → List Int32 → Option mR) → Prop
  | s :: ss, k :: ks => (∀ (rec : mF), GMs rec → (∀ t σ xs res, rec t σ xs = some res → sSem l D kA z t σ xs res) → ∀ (σ : mS) (xs : List Int32) (res : mR), k rec σ xs = some res → s σ xs res) ∧ sAllS l D kA z ss ks
  | [], [] => True
  | _, _ => False
theorem sAllS_get {l : Launch} {D : va_G} {kA : Nat → ClassId} {z : Nat} : ∀ {L : List (mS → List Int32 → mR → Prop)} {K : List (mF → mS → List Int32 → Option mR)}, sAllS l D kA z L K → ∀ {t : Nat} {k : mF → mS → List Int32 → Option mR}, K[t]? = some k → ∀ (rec : mF), GMs rec → (∀ t σ xs res, rec t σ xs = some res → sSem l D kA z t σ xs res) → ∀ (σ : mS) (xs : List Int32) (res : mR), k rec σ xs = some res → (L.getD t (fun _ _ _ => True)) σ xs res
  | [], [], _, t, k, h => by simp at h
  | s :: L, a :: K, hL, 0, k, h => by simp at h; subst h; exact hL.1
  | s :: L, a :: K, hL, t + 1, k, h => by simpa using sAllS_get hL.2 (t := t) (k := k) (by simpa using h)
  | [], _ :: _, hL, _, _, _ => hL.elim
  | _ :: _, [], hL, _, _, _ => hL.elim

def sEx : Nat → mF
  | 0 => fun _ _ _ => none
  | n + 1 => fun t σ xs => match sBlk[t]? with
    | some k => k (sEx n) σ xs
    | none => none
def vEx : Nat → zF
  | 0 => fun _ _ _ _ => none
  | n + 1 => fun t β σ xs => match vBlk[t]? with
    | some k => k (vEx n) β σ xs
    | none => none

set_option maxRecDepth 100000 in
set_option maxHeartbeats 4000000 in
theorem vBlk_good : zAllG vBlk := ⟨fun β σ xs => gz_u2 (gV_refuse β σ) xs, ⟨fun β σ xs => gz_u2 (gV_refuse_9 β σ) xs, ⟨fun β σ xs => gz_u1 (gV_none β σ) xs, ⟨fun β σ xs => gz_u2 (gV_none_19 β σ) xs, ⟨fun β σ xs => gz_u3 (gV_none_24 β σ) xs, ⟨fun β σ xs => gz_u1 (gV_isPredicate β σ) xs, ⟨fun β σ xs => gz_u1 (gV_isPredicate_27 β σ) xs, ⟨fun β σ xs => gz_u2 (gV_isPredicate_28 β σ) xs, ⟨fun β σ xs => gz_u1 (gV_sayNumber β σ) xs, ⟨fun β σ xs => gz_u1 (gV_sayNumber_14 β σ) xs, ⟨fun β σ xs => gz_u1 (gV_sayTerm β σ) xs, ⟨fun β σ xs => gz_u2 (gV_sayTerm_69 β σ) xs, ⟨fun β σ xs => gz_u1 (gV_sayTerm_112 β σ) xs, ⟨fun β σ xs => gz_u3 (gV_sayTerm_132 β σ) xs, ⟨fun β σ xs => gz_u1 (gV_sayLiteral β σ) xs, ⟨fun β σ xs => gz_u1 (gV_sayLiteral_36 β σ) xs, ⟨fun β σ xs => gz_u1 (gV_sayLiteral_72 β σ) xs, ⟨fun β σ xs => gz_u2 (gV_sayLiteral_73 β σ) xs, ⟨fun β σ xs => gz_u2 (gV_sayLiteral_93 β σ) xs, ⟨fun β σ xs => gz_u2 (gV_sayLiteral_130 β σ) xs, ⟨fun β σ xs => gz_u1 (gV_show β σ) xs, ⟨fun β σ xs => gz_u2 (gV_show_22 β σ) xs, ⟨fun β σ xs => gz_u2 (gV_show_67 β σ) xs, ⟨fun β σ xs => gz_u2 (gV_show_117 β σ) xs, trivial⟩⟩⟩⟩⟩⟩⟩⟩⟩⟩⟩⟩⟩⟩⟩⟩⟩⟩⟩⟩⟩⟩⟩⟩
set_option maxRecDepth 100000 in
set_option maxHeartbeats 4000000 in
theorem vBlk_rel : zAllR vBlk sBlk := ⟨fun rz rm hR β σ xs hσ hx => uR_2 (rV_refuse rz rm hR β σ hσ) xs hx, ⟨fun rz rm hR β σ xs hσ hx => uR_2 (rV_refuse_9 rz rm hR β σ hσ) xs hx, ⟨fun rz rm hR β σ xs hσ hx => uR_1 (rV_none rz rm hR β σ hσ) xs hx, ⟨fun rz rm hR β σ xs hσ hx => uR_2 (rV_none_19 rz rm hR β σ hσ) xs hx, ⟨fun rz rm hR β σ xs hσ hx => uR_3 (rV_none_24 rz rm hR β σ hσ) xs hx, ⟨fun rz rm hR β σ xs hσ hx => uR_1 (rV_isPredicate rz rm hR β σ hσ) xs hx, ⟨fun rz rm hR β σ xs hσ hx => uR_1 (rV_isPredicate_27 rz rm hR β σ hσ) xs hx, ⟨fun rz rm hR β σ xs hσ hx => uR_2 (rV_isPredicate_28 rz rm hR β σ hσ) xs hx, ⟨fun rz rm hR β σ xs hσ hx => uR_1 (rV_sayNumber rz rm hR β σ hσ) xs hx, ⟨fun rz rm hR β σ xs hσ hx => uR_1 (rV_sayNumber_14 rz rm hR β σ hσ) xs hx, ⟨fun rz rm hR β σ xs hσ hx => uR_1 (rV_sayTerm rz rm hR β σ hσ) xs hx, ⟨fun rz rm hR β σ xs hσ hx => uR_2 (rV_sayTerm_69 rz rm hR β σ hσ) xs hx, ⟨fun rz rm hR β σ xs hσ hx => uR_1 (rV_sayTerm_112 rz rm hR β σ hσ) xs hx, ⟨fun rz rm hR β σ xs hσ hx => uR_3 (rV_sayTerm_132 rz rm hR β σ hσ) xs hx, ⟨fun rz rm hR β σ xs hσ hx => uR_1 (rV_sayLiteral rz rm hR β σ hσ) xs hx, ⟨fun rz rm hR β σ xs hσ hx => uR_1 (rV_sayLiteral_36 rz rm hR β σ hσ) xs hx, ⟨fun rz rm hR β σ xs hσ hx => uR_1 (rV_sayLiteral_72 rz rm hR β σ hσ) xs hx, ⟨fun rz rm hR β σ xs hσ hx => uR_2 (rV_sayLiteral_73 rz rm hR β σ hσ) xs hx, ⟨fun rz rm hR β σ xs hσ hx => uR_2 (rV_sayLiteral_93 rz rm hR β σ hσ) xs hx, ⟨fun rz rm hR β σ xs hσ hx => uR_2 (rV_sayLiteral_130 rz rm hR β σ hσ) xs hx, ⟨fun rz rm hR β σ xs hσ hx => uR_1 (rV_show rz rm hR β σ hσ) xs hx, ⟨fun rz rm hR β σ xs hσ hx => uR_2 (rV_show_22 rz rm hR β σ hσ) xs hx, ⟨fun rz rm hR β σ xs hσ hx => uR_2 (rV_show_67 rz rm hR β σ hσ) xs hx, ⟨fun rz rm hR β σ xs hσ hx => uR_2 (rV_show_117 rz rm hR β σ hσ) xs hx, trivial⟩⟩⟩⟩⟩⟩⟩⟩⟩⟩⟩⟩⟩⟩⟩⟩⟩⟩⟩⟩⟩⟩⟩⟩
set_option maxRecDepth 100000 in
set_option maxHeartbeats 4000000 in
theorem sBlk_sound (l : Launch) (D : va_G) (kA : Nat → ClassId) (z : Nat) : sAllS l D kA z (sTab l D kA z) sBlk := ⟨oS_refuse l D kA z, ⟨oS_refuse_9 l D kA z, ⟨oS_none l D kA z, ⟨oS_none_19 l D kA z, ⟨oS_none_24 l D kA z, ⟨oS_isPredicate l D kA z, ⟨oS_isPredicate_27 l D kA z, ⟨oS_isPredicate_28 l D kA z, ⟨oS_sayNumber l D kA z, ⟨oS_sayNumber_14 l D kA z, ⟨oS_sayTerm l D kA z, ⟨oS_sayTerm_69 l D kA z, ⟨oS_sayTerm_112 l D kA z, ⟨oS_sayTerm_132 l D kA z, ⟨oS_sayLiteral l D kA z, ⟨oS_sayLiteral_36 l D kA z, ⟨oS_sayLiteral_72 l D kA z, ⟨oS_sayLiteral_73 l D kA z, ⟨oS_sayLiteral_93 l D kA z, ⟨oS_sayLiteral_130 l D kA z, ⟨oS_show l D kA z, ⟨oS_show_22 l D kA z, ⟨oS_show_67 l D kA z, ⟨oS_show_117 l D kA z, trivial⟩⟩⟩⟩⟩⟩⟩⟩⟩⟩⟩⟩⟩⟩⟩⟩⟩⟩⟩⟩⟩⟩⟩⟩
def sAllQ : List (mF → mS → List Int32 → Option mR) → Prop
  | [] => True
  | k :: ks => (∀ (rec : mF), GMs rec → ∀ σ xs, gm σ (k rec σ xs)) ∧ sAllQ ks
theorem sAllQ_get : ∀ {K : List (mF → mS → List Int32 → Option mR)}, sAllQ K → ∀ {t : Nat} {k : mF → mS → List Int32 → Option mR}, K[t]? = some k → ∀ (rec : mF), GMs rec → ∀ σ xs, gm σ (k rec σ xs)
  | [], _, t, k, h => by simp at h
  | a :: K, hL, 0, k, h => by simp at h; subst h; exact hL.1
  | a :: K, hL, t + 1, k, h => sAllQ_get hL.2 (by simpa using h)
theorem gmu_1 {σ : mS} {f : Int32 → Option mR} (h : ∀ x0, gm σ (f x0)) (xs : List Int32) : gm σ (u_1 f xs) := by
  match xs with
  | [x0] => exact h x0
  | [] => exact gm_none
  | _ :: _ :: _ => exact gm_none
theorem gmu_2 {σ : mS} {f : Int32 → Int32 → Option mR} (h : ∀ x0 x1, gm σ (f x0 x1)) (xs : List Int32) : gm σ (u_2 f xs) := by
  match xs with
  | [x0, x1] => exact h x0 x1
  | [] => exact gm_none
  | [_] => exact gm_none
  | _ :: _ :: _ :: _ => exact gm_none
theorem gmu_3 {σ : mS} {f : Int32 → Int32 → Int32 → Option mR} (h : ∀ x0 x1 x2, gm σ (f x0 x1 x2)) (xs : List Int32) : gm σ (u_3 f xs) := by
  match xs with
  | [x0, x1, x2] => exact h x0 x1 x2
  | [] => exact gm_none
  | [_] => exact gm_none
  | [_, _] => exact gm_none
  | _ :: _ :: _ :: _ :: _ => exact gm_none
set_option maxRecDepth 100000 in
set_option maxHeartbeats 4000000 in
theorem sBlk_gm : sAllQ sBlk := ⟨fun rec hG σ xs => gmu_2 (qS_refuse rec hG σ) xs, ⟨fun rec hG σ xs => gmu_2 (qS_refuse_9 rec hG σ) xs, ⟨fun rec hG σ xs => gmu_1 (qS_none rec hG σ) xs, ⟨fun rec hG σ xs => gmu_2 (qS_none_19 rec hG σ) xs, ⟨fun rec hG σ xs => gmu_3 (qS_none_24 rec hG σ) xs, ⟨fun rec hG σ xs => gmu_1 (qS_isPredicate rec hG σ) xs, ⟨fun rec hG σ xs => gmu_1 (qS_isPredicate_27 rec hG σ) xs, ⟨fun rec hG σ xs => gmu_2 (qS_isPredicate_28 rec hG σ) xs, ⟨fun rec hG σ xs => gmu_1 (qS_sayNumber rec hG σ) xs, ⟨fun rec hG σ xs => gmu_1 (qS_sayNumber_14 rec hG σ) xs, ⟨fun rec hG σ xs => gmu_1 (qS_sayTerm rec hG σ) xs, ⟨fun rec hG σ xs => gmu_2 (qS_sayTerm_69 rec hG σ) xs, ⟨fun rec hG σ xs => gmu_1 (qS_sayTerm_112 rec hG σ) xs, ⟨fun rec hG σ xs => gmu_3 (qS_sayTerm_132 rec hG σ) xs, ⟨fun rec hG σ xs => gmu_1 (qS_sayLiteral rec hG σ) xs, ⟨fun rec hG σ xs => gmu_1 (qS_sayLiteral_36 rec hG σ) xs, ⟨fun rec hG σ xs => gmu_1 (qS_sayLiteral_72 rec hG σ) xs, ⟨fun rec hG σ xs => gmu_2 (qS_sayLiteral_73 rec hG σ) xs, ⟨fun rec hG σ xs => gmu_2 (qS_sayLiteral_93 rec hG σ) xs, ⟨fun rec hG σ xs => gmu_2 (qS_sayLiteral_130 rec hG σ) xs, ⟨fun rec hG σ xs => gmu_1 (qS_show rec hG σ) xs, ⟨fun rec hG σ xs => gmu_2 (qS_show_22 rec hG σ) xs, ⟨fun rec hG σ xs => gmu_2 (qS_show_67 rec hG σ) xs, ⟨fun rec hG σ xs => gmu_2 (qS_show_117 rec hG σ) xs, trivial⟩⟩⟩⟩⟩⟩⟩⟩⟩⟩⟩⟩⟩⟩⟩⟩⟩⟩⟩⟩⟩⟩⟩⟩
theorem sEx_gm : ∀ n, GMs (sEx n)
  | 0 => fun t σ xs res h => by cases h
  | n + 1 => fun t σ xs res h => by
    replace h : (match sBlk[t]? with | some k => k (sEx n) σ xs | none => none) = some res := h
    cases hk : sBlk[t]? with
    | none => simp only [hk] at h; cases h
    | some k => simp only [hk] at h; exact sAllQ_get sBlk_gm hk (sEx n) (sEx_gm n) σ xs res h
theorem sSound (l : Launch) (D : va_G) (kA : Nat → ClassId) (z : Nat) : ∀ (n t : Nat) (σ : mS) (xs : List Int32) (res : mR), sEx n t σ xs = some res → sSem l D kA z t σ xs res
  | 0, t, σ, xs, res, h => by cases h
  | n + 1, t, σ, xs, res, h => by
    replace h : (match sBlk[t]? with | some k => k (sEx n) σ xs | none => none) = some res := h
    cases hk : sBlk[t]? with
    | none => simp only [hk] at h; cases h
    | some k => simp only [hk] at h; exact sAllS_get (sBlk_sound l D kA z) hk (sEx n) (sEx_gm n) (fun t σ xs res q => sSound l D kA z n t σ xs res q) σ xs res h
theorem vRel : ∀ n, Rc (vEx n) (sEx n)
  | 0 => fun t β σ xs hσ hx => Rf_none
  | n + 1 => fun t β σ xs hσ hx => by
    show Rf (match vBlk[t]? with | some k => k (vEx n) β σ xs | none => none) (match sBlk[t]? with | some k => k (sEx n) (cv σ) (xs.map i32) | none => none) β
    cases hk : vBlk[t]? with
    | none => exact Rf_none
    | some k =>
      obtain ⟨m, h1, h2⟩ := zAllR_get vBlk_rel hk
      simp only [h1]
      exact h2 (vEx n) (sEx n) (vRel n) β σ xs hσ hx
theorem vEx_le : ∀ n, zLe (vEx n) (vEx (n + 1))
  | 0 => fun t β σ xs r h => by cases h
  | n + 1 => fun t β σ xs r h => by
    show (match vBlk[t]? with | some k => k (vEx (n + 1)) β σ xs | none => none) = some r
    replace h : (match vBlk[t]? with | some k => k (vEx n) β σ xs | none => none) = some r := h
    cases hk : vBlk[t]? with
    | none => simp only [hk] at h; cases h
    | some k => simp only [hk] at h ⊢; exact (zAllG_get vBlk_good hk β σ xs).1 _ _ (vEx_le n) _ h
noncomputable def sE : zF := fun t β σ xs => @dite _ (∃ r n, vEx n t β σ xs = some r) (Classical.propDecidable _) (fun h => some (Classical.choose h)) (fun _ => none)
theorem vEx_det {t β : Nat} {σ : zS} {xs : List Int} {r q : zR} {n k : Nat} (h : vEx n t β σ xs = some r) (h2 : vEx k t β σ xs = some q) : r = q := by
  have a := zLe_up vEx_le k n _ _ _ _ _ h
  have b := zLe_up vEx_le n k _ _ _ _ _ h2
  rw [Nat.add_comm k n, a] at b
  exact Option.some.inj b
theorem sE_of {t β : Nat} {σ : zS} {xs : List Int} {r : zR} {n : Nat} (h : vEx n t β σ xs = some r) : sE t β σ xs = some r := by
  have hx : ∃ r n, vEx n t β σ xs = some r := ⟨r, n, h⟩
  unfold sE
  rw [dif_pos hx]
  obtain ⟨k, hk⟩ := Classical.choose_spec hx
  rw [vEx_det hk h]
theorem sE_ex {t β : Nat} {σ : zS} {xs : List Int} {r : zR} (h : sE t β σ xs = some r) : ∃ n, vEx n t β σ xs = some r := by
  unfold sE at h
  by_cases hx : ∃ r n, vEx n t β σ xs = some r
  · rw [dif_pos hx] at h
    obtain ⟨k, hk⟩ := Classical.choose_spec hx
    rw [Option.some.inj h] at hk
    exact ⟨k, hk⟩
  · rw [dif_neg hx] at h; cases h
theorem sE_eq {t : Nat} {k : zK} (hk : vBlk[t]? = some k) (β : Nat) (σ : zS) (xs : List Int) : sE t β σ xs = k sE β σ xs := by
  have hG := zAllG_get vBlk_good hk β σ xs
  cases h : k sE β σ xs with
  | some r =>
    obtain ⟨n, hn⟩ := hG.2 vEx vEx_le sE (fun t β σ xs r q => sE_ex q) r h
    refine sE_of (n := n + 1) ?_
    show (match vBlk[t]? with | some k => k (vEx n) β σ xs | none => none) = some r
    simp only [hk]; exact hn
  | none =>
    cases h2 : sE t β σ xs with
    | none => rfl
    | some r =>
      obtain ⟨n, hn⟩ := sE_ex h2
      cases n with
      | zero => cases hn
      | succ n =>
        replace hn : (match vBlk[t]? with | some k => k (vEx n) β σ xs | none => none) = some r := hn
        simp only [hk] at hn
        have h9 : k sE β σ xs = some r := hG.1 (vEx n) sE (fun t β σ xs r q => sE_of q) r hn
        rw [h] at h9; cases h9
theorem sE_sound (l : Launch) (D : va_G) (kA : Nat → ClassId) (z : Nat) {t β : Nat} {σ : zS} {xs : List Int} {σ1 : zS} {r : Int} (hσ : zOK σ) (hx : ∀ x ∈ xs, zr x) (h : sE t β σ xs = some (σ1, r)) : zOK σ1 ∧ zr r ∧ gle (cv σ) (cv σ1) ∧ ∃ d, d ≤ β ∧ sSem l D kA z t (cv σ) (xs.map i32) (cv σ1, i32 r, d) := by
  obtain ⟨n, hn⟩ := sE_ex h
  obtain ⟨a, b, d, hd, e⟩ := vRel n t β σ xs hσ hx σ1 r hn
  exact ⟨a, b, sEx_gm n _ _ _ _ e, d, hd, sSound l D kA z n t (cv σ) _ _ e⟩

theorem sq_refuse {β : Nat} {σ : zS} {x0 x1 : Int} : sE tS_refuse β σ [x0, x1] = kV_refuse sE β σ x0 x1 := sE_eq (t := tS_refuse) rfl β σ _
theorem sq_refuse_9 {β : Nat} {σ : zS} {x0 x1 : Int} : sE tS_refuse_9 β σ [x0, x1] = kV_refuse_9 sE β σ x0 x1 := sE_eq (t := tS_refuse_9) rfl β σ _
theorem sq_none {β : Nat} {σ : zS} {x0 : Int} : sE tS_none β σ [x0] = kV_none sE β σ x0 := sE_eq (t := tS_none) rfl β σ _
theorem sq_none_19 {β : Nat} {σ : zS} {x0 x1 : Int} : sE tS_none_19 β σ [x0, x1] = kV_none_19 sE β σ x0 x1 := sE_eq (t := tS_none_19) rfl β σ _
theorem sq_none_24 {β : Nat} {σ : zS} {x0 x1 x2 : Int} : sE tS_none_24 β σ [x0, x1, x2] = kV_none_24 sE β σ x0 x1 x2 := sE_eq (t := tS_none_24) rfl β σ _
theorem sq_isPredicate {β : Nat} {σ : zS} {x0 : Int} : sE tS_isPredicate β σ [x0] = kV_isPredicate sE β σ x0 := sE_eq (t := tS_isPredicate) rfl β σ _
theorem sq_isPredicate_27 {β : Nat} {σ : zS} {x0 : Int} : sE tS_isPredicate_27 β σ [x0] = kV_isPredicate_27 sE β σ x0 := sE_eq (t := tS_isPredicate_27) rfl β σ _
theorem sq_isPredicate_28 {β : Nat} {σ : zS} {x0 x1 : Int} : sE tS_isPredicate_28 β σ [x0, x1] = kV_isPredicate_28 sE β σ x0 x1 := sE_eq (t := tS_isPredicate_28) rfl β σ _
theorem sq_sayNumber {β : Nat} {σ : zS} {x0 : Int} : sE tS_sayNumber β σ [x0] = kV_sayNumber sE β σ x0 := sE_eq (t := tS_sayNumber) rfl β σ _
theorem sq_sayNumber_14 {β : Nat} {σ : zS} {x0 : Int} : sE tS_sayNumber_14 β σ [x0] = kV_sayNumber_14 sE β σ x0 := sE_eq (t := tS_sayNumber_14) rfl β σ _
theorem sq_sayTerm {β : Nat} {σ : zS} {x0 : Int} : sE tS_sayTerm β σ [x0] = kV_sayTerm sE β σ x0 := sE_eq (t := tS_sayTerm) rfl β σ _
theorem sq_sayTerm_69 {β : Nat} {σ : zS} {x0 x1 : Int} : sE tS_sayTerm_69 β σ [x0, x1] = kV_sayTerm_69 sE β σ x0 x1 := sE_eq (t := tS_sayTerm_69) rfl β σ _
theorem sq_sayTerm_112 {β : Nat} {σ : zS} {x0 : Int} : sE tS_sayTerm_112 β σ [x0] = kV_sayTerm_112 sE β σ x0 := sE_eq (t := tS_sayTerm_112) rfl β σ _
theorem sq_sayTerm_132 {β : Nat} {σ : zS} {x0 x1 x2 : Int} : sE tS_sayTerm_132 β σ [x0, x1, x2] = kV_sayTerm_132 sE β σ x0 x1 x2 := sE_eq (t := tS_sayTerm_132) rfl β σ _
theorem sq_sayLiteral {β : Nat} {σ : zS} {x0 : Int} : sE tS_sayLiteral β σ [x0] = kV_sayLiteral sE β σ x0 := sE_eq (t := tS_sayLiteral) rfl β σ _
theorem sq_sayLiteral_36 {β : Nat} {σ : zS} {x0 : Int} : sE tS_sayLiteral_36 β σ [x0] = kV_sayLiteral_36 sE β σ x0 := sE_eq (t := tS_sayLiteral_36) rfl β σ _
theorem sq_sayLiteral_72 {β : Nat} {σ : zS} {x0 : Int} : sE tS_sayLiteral_72 β σ [x0] = kV_sayLiteral_72 sE β σ x0 := sE_eq (t := tS_sayLiteral_72) rfl β σ _
theorem sq_sayLiteral_73 {β : Nat} {σ : zS} {x0 x1 : Int} : sE tS_sayLiteral_73 β σ [x0, x1] = kV_sayLiteral_73 sE β σ x0 x1 := sE_eq (t := tS_sayLiteral_73) rfl β σ _
theorem sq_sayLiteral_93 {β : Nat} {σ : zS} {x0 x1 : Int} : sE tS_sayLiteral_93 β σ [x0, x1] = kV_sayLiteral_93 sE β σ x0 x1 := sE_eq (t := tS_sayLiteral_93) rfl β σ _
theorem sq_sayLiteral_130 {β : Nat} {σ : zS} {x0 x1 : Int} : sE tS_sayLiteral_130 β σ [x0, x1] = kV_sayLiteral_130 sE β σ x0 x1 := sE_eq (t := tS_sayLiteral_130) rfl β σ _
theorem sq_show {β : Nat} {σ : zS} {x0 : Int} : sE tS_show β σ [x0] = kV_show sE β σ x0 := sE_eq (t := tS_show) rfl β σ _
theorem sq_show_22 {β : Nat} {σ : zS} {x0 x1 : Int} : sE tS_show_22 β σ [x0, x1] = kV_show_22 sE β σ x0 x1 := sE_eq (t := tS_show_22) rfl β σ _
theorem sq_show_67 {β : Nat} {σ : zS} {x0 x1 : Int} : sE tS_show_67 β σ [x0, x1] = kV_show_67 sE β σ x0 x1 := sE_eq (t := tS_show_67) rfl β σ _
theorem sq_show_117 {β : Nat} {σ : zS} {x0 x1 : Int} : sE tS_show_117 β σ [x0, x1] = kV_show_117 sE β σ x0 x1 := sE_eq (t := tS_show_117) rfl β σ _
