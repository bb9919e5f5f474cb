/-! arguments and receivers of the words that have a shape of their own -/
theorem fit_X3_endsAmongSeeds : ∀ a N G R J Φ, s_X3_endsAmongSeeds a N G R J Φ → oz_fit a 5 := by
  intro a N G R J Φ h
  unfold s_X3_endsAmongSeeds at h
  split at h
  · exact oz_fit_of (Nat.le_of_ble_eq_true rfl) rfl
  · exact h.elim
theorem rec_X3_endsAmongSeeds : oz_rec s_X3_endsAmongSeeds 44 2 1 := by
  intro Φ a N G R J hN h _
  unfold s_X3_endsAmongSeeds at h
  split at h
  · refine ⟨_, _, rfl, ?_⟩
    rcases h.1 with rfl | rfl
    · exact ⟨rfl, Nat.lt_of_lt_of_le (by decide) hN⟩
    · exact ⟨rfl, Nat.lt_of_lt_of_le (by decide) hN⟩
  · exact h.elim
theorem fit_X3_make : ∀ a N G R J Φ, s_X3_make a N G R J Φ → oz_fit a 6 := by
  intro a N G R J Φ h
  unfold s_X3_make at h
  split at h
  · exact oz_fit_of (Nat.le_of_ble_eq_true rfl) rfl
  · exact h.elim
theorem rec_X3_make : oz_rec s_X3_make 44 2 3 := by
  intro Φ a N G R J hN h _
  unfold s_X3_make at h
  split at h
  · refine ⟨_, _, rfl, ?_⟩
    rcases h.1 with rfl | rfl
    · exact ⟨rfl, Nat.lt_of_lt_of_le (by decide) hN⟩
    · exact ⟨rfl, Nat.lt_of_lt_of_le (by decide) hN⟩
  · exact h.elim
theorem fit_X4_copyFrom : ∀ a N G R J Φ, s_X4_copyFrom a N G R J Φ → oz_fit a 2 := by
  intro a N G R J Φ h
  unfold s_X4_copyFrom at h
  split at h
  · exact oz_fit_of (Nat.le_of_ble_eq_true rfl) rfl
  · exact h.elim
theorem rec_X4_copyFrom : oz_rec s_X4_copyFrom 0 3 1 := by
  intro Φ a N G R J hN h _
  unfold s_X4_copyFrom at h
  split at h
  · exact ⟨_, _, rfl, h.1.1.1, Nat.lt_of_le_of_lt (Nat.le_add_right _ 4) h.1.2.2.2⟩
  · exact h.elim
