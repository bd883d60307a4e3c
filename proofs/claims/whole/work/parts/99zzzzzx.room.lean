/-! the room is never wanting -/
theorem rl_cap (qo : Nat) (σ ρ : zS) (n : Nat) (h : TL qo σ ρ n) : rl σ + qo ≤ 2400000 := by
  obtain ⟨ar, pd, m9, A, P, T, nm, o, _, ⟨⟨_, _, ⟨_, _, _, _, ⟨_, a48, _⟩, ⟨_, a52, _⟩, ⟨_, _, a50, _⟩, _⟩, _, _, _, ⟨M, _, _, _, _, a65⟩, _⟩, _, _, a56, _, a58⟩, ⟨⟨⟨a11, a16, a21, _⟩, ⟨a19, a34, a36, a38⟩, a30⟩, _⟩, _, _, ⟨⟨_, _, _, _, a2, _⟩, _, _, ⟨_, _, a4, _, _, ⟨_, aq, _⟩, a1⟩⟩⟩ := h
  unfold rl
  omega
