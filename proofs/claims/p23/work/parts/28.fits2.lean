/-! arguments and receivers: the search -/
theorem fit_X2_visit (k : Nat) : ∀ a N G R J Φ, (s_X2_visit k) a N G R J Φ → oz_fit a 10 := by
  intro a N G R J Φ h
  unfold s_X2_visit at h
  split at h
  · exact oz_fit_of (Nat.le_of_ble_eq_true rfl) rfl
  · exact h.elim
theorem fit_X2_explore : ∀ a N G R J Φ, s_X2_explore a N G R J Φ → oz_fit a 3 := by
  intro a N G R J Φ h
  unfold s_X2_explore at h
  split at h
  · exact oz_fit_of (Nat.le_of_ble_eq_true rfl) rfl
  · exact h.elim
theorem fit_X2_mostFrom : ∀ a N G R J Φ, s_X2_mostFrom a N G R J Φ → oz_fit a 3 := by
  intro a N G R J Φ h
  unfold s_X2_mostFrom at h
  split at h
  · exact oz_fit_of (Nat.le_of_ble_eq_true rfl) rfl
  · exact h.elim
theorem fit_X2_firstMove : ∀ a N G R J Φ, s_X2_firstMove a N G R J Φ → oz_fit a 5 := by
  intro a N G R J Φ h
  unfold s_X2_firstMove at h
  split at h
  · exact oz_fit_of (Nat.le_of_ble_eq_true rfl) rfl
  · exact h.elim
theorem rec_X2_explore : oz_rec s_X2_explore 44 1 1 := by
  intro Φ a N G R J hN h _
  unfold s_X2_explore at h
  split at h
  · refine ⟨_, _, rfl, ?_⟩
    rw [h.1]
    exact ⟨rfl, Nat.lt_of_lt_of_le (by decide) hN⟩
  · exact h.elim
theorem rec_X2_mostFrom : oz_rec s_X2_mostFrom 44 1 2 := by
  intro Φ a N G R J hN h _
  unfold s_X2_mostFrom at h
  split at h
  · refine ⟨_, _, rfl, ?_⟩
    rw [h.1]
    exact ⟨rfl, Nat.lt_of_lt_of_le (by decide) hN⟩
  · exact h.elim
theorem rec_X2_firstMove : oz_rec s_X2_firstMove 44 1 2 := by
  intro Φ a N G R J hN h _
  unfold s_X2_firstMove at h
  split at h
  · refine ⟨_, _, rfl, ?_⟩
    rw [h.1]
    exact ⟨rfl, Nat.lt_of_lt_of_le (by decide) hN⟩
  · exact h.elim
