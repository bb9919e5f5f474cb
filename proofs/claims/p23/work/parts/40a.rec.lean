/-! a receiver -/
theorem rec_X4_startRound : oz_rec s_X4_startRound 0 3 2 := by
  intro Φ a N G R J hN h hl
  obtain ⟨x, y, rfl, h1, h2, h3⟩ := oz_t2_e h
  exact ⟨1, _, rfl, rfl, Nat.lt_trans (by decide) h2⟩
