theorem hi0_ok : hiOk hi0 := by
  refine ⟨fun k hk => ?_, fun j k hj hk hne => ?_⟩
  · unfold hi0; omega
  · unfold hi0; omega
theorem law_init {n : Nat} {xs : Nat → Int32} {A : oz_Y} (hC : oz_Cl (t_lawA n xs) lwF A) (G : oz_G) (J : oz_J) (h : ∀ (G' : oz_G) (J' : oz_J), CR 44 G' (rmR hi0 sl0) W00 → A 10 [some (.retAddr 0), some (.ref 0), some (.int (nI 0)), none, none, none, none, none] [] 44 G' (rmR hi0 sl0) J' 4710) : A 0 [some (.retAddr 0), none, none, none, none, none, none, none] [] 0 G R00 J 0 := by
  have hR : ozz R00 0 none = R00 := by
    funext a b
    unfold ozz
    split
    · rfl
    · rfl
  exact hC.1 [10] 90 0 _ _ _ _ _ _ _ ⟨⟨rfl, Nat.le_of_ble_eq_true rfl⟩, Nat.le_of_ble_eq_true rfl, rfl, hR, fun G' J' g1 g2 g3 => h G' J' ⟨hi0, sl0, rfl, hi0_ok, ⟨(fun k b _ hb => by cases hb), (fun b hb => by cases hb), Nat.le_refl _, Nat.le_refl _⟩, g1, g2, trivial, rfl, rfl, g3, Nat.zero_le _, fun j hj => absurd hj (Nat.not_lt_zero _)⟩⟩
