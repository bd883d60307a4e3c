/-! the class and the reference at their start -/
def sg0 : zS := (fun k => if k = 605 then 1 else if k = 6905 then 1 else 0, fun k i => if k = 12 then (if i = 0 then 1 else 0) else if k = 46 then (if i < 300 then -1 else 0) else 0, fun k => if k = 2 then 256 else if k = 4 then 64 else if k = 11 then 128 else if k = 16 then 128 else if k = 19 then 256 else if k = 21 then 64 else if k = 30 then 64 else if k = 34 then 64 else if k = 36 then 64 else if k = 38 then 64 else if k = 48 then 512 else if k = 50 then 16 else if k = 52 then 256 else if k = 56 then 16 else if k = 58 then 16 else if k = 65 then 16 else 0)
def rg0 : zS := (fun k => if k = 19 then 1 else if k = 88 then -1 else if k = 113 then -1 else if k = 116 then -1 else if k = 117 then -1 else if k = 118 then -1 else 0, fun k i => if k = 49 then (if i = 0 then 1 else 0) else 0, fun k => if k = 1 then 400 else 0)
theorem ite_512 {c : Prop} [Decidable c] {a b : Nat} (ha : a ≤ 512) (hb : b ≤ 512) : (if c then a else b) ≤ 512 := by split <;> assumption
theorem sg_512 (k : Nat) : sg0.2.2 k ≤ 512 := by
  simp only [sg0]
  repeat (refine ite_512 (by decide) ?_)
  decide
theorem zOK_sg : zOK sg0 := by
  refine ⟨fun k => ?_, fun k i => ?_, fun k => ?_⟩
  · simp only [sg0]; repeat' split
    all_goals (constructor <;> decide)
  · simp only [sg0]; repeat' split
    all_goals (constructor <;> decide)
  · have := sg_512 k
    constructor <;> omega
theorem zOK_rg : zOK rg0 := by
  refine ⟨fun k => ?_, fun k i => ?_, fun k => ?_⟩
  · simp only [rg0]; repeat' split
    all_goals (constructor <;> decide)
  · simp only [rg0]; repeat' split
    all_goals (constructor <;> decide)
  · simp only [rg0]; repeat' split
    all_goals (constructor <;> decide)
theorem rl_sg : rl sg0 = 1984 := by decide
theorem TL_0 : TL 400 sg0 rg0 0 := by
  refine ⟨fun _ => 0, fun c => c = 0, 1, ([], fc0), [], 0, [], 0, ⟨Nat.le_refl _, rfl, by decide, rfl, ⟨fun c hc => (by cases hc), fun k c hc => (by simp at hc)⟩, fun c h e => by omega⟩, ?_, ?_, Or.inr ?_, ?_, ?_⟩
  · refine ⟨⟨⟨?_, by decide, fun c c0 c1 => ?_, by decide, by decide, by decide⟩, by decide, ?_, ?_, ?_, ?_, ?_, ⟨[], ?_⟩, by decide, fun c hc => (by cases hc), fun k c hc => (by simp at hc)⟩, fun _ => ⟨⟨fun k k0 k1 => ?_, by decide⟩, rfl⟩, ?_, by decide, by decide, by decide⟩
    · intro c hc c0; exact ⟨by simp only [lb] at hc; omega, rfl⟩
    · have e : c = 0 := by omega
      subst e
      simp [sg0]
    · refine ⟨?_, by decide, by decide, by decide, by decide, by decide, by decide, by decide⟩
      unfold SCr
      first | trivial | exact ⟨⟩ | simp
    · refine ⟨?_, ?_, ?_, ?_, ?_, ?_, ?_⟩ <;> rfl
    · refine ⟨?_, ?_⟩ <;> decide
    · intro j hj
      have := sg_512 j
      omega
    · refine ⟨[], ⟨rfl, by decide, by decide, trivial⟩, Nat.zero_le _, fun i hi => (by cases hi), fun i i0 i1 hn => absurd (by simp [sg0]) hn, by decide⟩
    · refine ⟨rfl, by decide, fun i c h => (by simp at h), fun v v0 v1 => ?_⟩
      simp [sg0, idx, v1]
    · simp at k1; omega
    · exact ⟨rfl, by decide, by decide, trivial⟩
  · refine ⟨⟨?_, ?_, ?_⟩, rfl, rfl, ?_⟩
    · exact ⟨by decide, by decide, by decide, by decide, by decide⟩
    · exact ⟨by decide, by decide, by decide, by decide⟩
    · exact ⟨by decide, by decide⟩
    · refine ⟨rfl, by decide, fun x hx => (by cases hx), zI_1, ⟨⟨rfl, by decide, by decide, trivial⟩, by decide, rfl, by decide⟩, fun i x hx => (by simp at hx)⟩
  · refine ⟨rfl, rfl, rfl, ⟨rfl, rfl, rfl, rfl, rfl, rfl, rfl⟩, by decide, rfl, by decide⟩
  · refine ⟨⟨rfl, fun c c0 c1 => rfl⟩, ⟨by decide, fun c c0 c1 => ?_⟩, rfl, rfl, fun i x hx => (by simp at hx)⟩
    have e : c = 0 := by omega
    subst e
    simp [rg0]
  · refine ⟨⟨rfl, rfl, by decide, by decide, by decide, fun i i0 i1 => by omega⟩, ⟨rfl, rfl⟩, ⟨rfl, rfl, fun i i0 i1 => by omega⟩, by decide, by decide, by decide, by decide, by decide, ⟨by decide, by decide, fun i => (by have e : rg0.2.1 1 i = 0 := rfl; rw [e]; decide)⟩, by decide⟩
theorem LI_0 : LI 0 sg0 rg0 159 2335231 := ⟨400, ⟨0, TL_0, Nat.le_refl _⟩, zOK_sg, zOK_rg, ⟨rfl, rfl, rfl⟩, by rw [rl_sg]; decide, by rw [rl_sg]; decide⟩
