/-! the room is never wanting -/
theorem rl_cap (σ ρ : zS) (n : Nat) (h : TL σ ρ n) : rl σ ≤ 2400000 := by
  obtain ⟨ar, pd, m9, A, P, T, nm, o, _, ⟨⟨_, _, ⟨_, _, _, _, ⟨_, a48, _⟩, ⟨_, a52, _⟩, ⟨_, _, a50, _⟩, _⟩, _, _, _, ⟨M, _, _, _, _, a65⟩, _⟩, _, _, a56, _, a58⟩, ⟨⟨⟨a11, a16, a21, _⟩, ⟨a19, a34, a36, a38⟩, a30⟩, _⟩, _, _, ⟨⟨_, _, _, _, a2, _⟩, _, _, ⟨_, _, a4, _⟩⟩⟩ := h
  unfold rl
  omega
