/-! the class's constructors -/
def t_X3_init : oz_T := (P_X3_init, e_X3, [(3, 2, 1, 0, oz_Sobj)], (false, 0, some 2, false, 0), (0, fun _ => 0))
def s_X3_init : oz_S := fun a N G R J Φ => match a with
  | [.ref b] => (oz_k b = 2 ∧ b < N) ∧ Φ none N G R J
  | _ => False
theorem I_X3_init : oz_Imp t_X3_init 1 s_X3_init := by
  intro Φ A a N G R J hN hS hC
  obtain ⟨b, rfl, hb, h⟩ : ∃ b : Nat, a = [.ref b] ∧ (oz_k b = 2 ∧ b < N) ∧ Φ none N G R J := by
    unfold s_X3_init at hS
    split at hS
    · exact ⟨_, rfl, hS⟩
    · exact hS.elim
  exact hC.1 [] 40 0 _ _ _ _ _ _ _ h
theorem fit_X3_init : ∀ a N G R J Φ, s_X3_init a N G R J Φ → oz_fit a 1 := by
  intro a N G R J Φ h
  unfold s_X3_init at h
  split at h
  · exact oz_fit_of (Nat.le_of_ble_eq_true rfl) rfl
  · exact h.elim
theorem rec_X3_init : oz_rec s_X3_init 0 2 0 := by
  intro Φ a N G R J hN h _
  unfold s_X3_init at h
  split at h
  · exact ⟨_, _, rfl, h.1⟩
  · exact h.elim
def t_X0_init : oz_T := (P_X0_init, e_X0, [(3, 2, 1, 0, oz_Sobj)], (false, 0, some 0, false, 41), (0, fun _ => 0))
def s_X0_init : oz_S := oz_t0 8 fun N G R J Φ => N = 9 ∧ Φ none 10 (oz2 (ozz G 9 0) 8 1 (nI 0)) (oz2 R 8 0 (some 9)) J
theorem I_X0_init : oz_Imp t_X0_init 1 s_X0_init := by
  intro Φ A a N G R J hN hS hC
  obtain ⟨rfl, rfl, h⟩ := oz_t0_e hS
  exact hC.1 [] 40 0 _ _ _ _ _ _ _ ⟨40, rfl, ⟨rfl, rfl, by decide⟩, ⟨rfl, by decide⟩, ⟨rfl, by decide⟩, h⟩
def t_X2_init : oz_T := (P_X2_init, e_X2, [(5, 2, 1, 0, oz_Sobj), (17, 2, 1, 0, s_X3_init)], (false, 0, some 1, false, 4103), (0, fun _ => 0))
def s_X2_init : oz_S := oz_t0 11 fun N G R J Φ => N = 12 ∧ Φ none 14 (ozz G 13 0) (oz2 (ozz (oz2 R 11 0 (some 12)) 13 none) 11 1 (some 13)) (ozz J 12 0)
theorem I_X2_init : oz_Imp t_X2_init 1 s_X2_init := by
  intro Φ A a N G R J hN hS hC
  obtain ⟨rfl, rfl, h⟩ := oz_t0_e hS
  exact hC.1 [] 60 0 _ _ _ _ _ _ _ ⟨4096, rfl, ⟨rfl, rfl, by decide⟩, ⟨rfl, by decide⟩, ⟨rfl, by decide⟩, ⟨rfl, by decide⟩, ⟨rfl, by decide⟩, h⟩
theorem rec_X0_init : oz_rec s_X0_init 0 0 0 := by
  intro Φ a N G R J hN h _
  obtain ⟨rfl, rfl, h3⟩ := oz_t0_e h
  exact ⟨8, _, rfl, rfl, by decide⟩
theorem rec_X2_init : oz_rec s_X2_init 0 1 0 := by
  intro Φ a N G R J hN h _
  obtain ⟨rfl, rfl, h3⟩ := oz_t0_e h
  exact ⟨11, _, rfl, rfl, by decide⟩
