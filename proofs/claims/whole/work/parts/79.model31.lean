/-! the model's constructor -/
def W00 : Wd := (S0, [], none, none, fun _ => 0, 0)
def cm0 : oz_R := ozz (rmR hi0 sl0) 44 none
def cm1 : oz_R := oz2 (oz2 (oz2 (oz2 (oz2 cm0 44 0 (some 45)) 44 1 (some 46)) 44 2 (some 47)) 44 3 (some 48)) 44 4 (some 49)
def cm2 : oz_R := oz2 (oz2 (oz2 (oz2 cm1 44 6 (some 50)) 44 9 (some 51)) 44 10 (some 52)) 44 12 (some 53)
def cmR : oz_R := oz2 (oz2 (oz2 (oz2 cm2 44 17 (some 54)) 44 18 (some 55)) 44 19 (some 56)) 44 20 (some 57)
theorem cm_44 : ∀ k, k < oz_w 44 → cmR 44 k = rmR hi0 sl0 44 k := by decide +kernel
theorem cm_e (i : Nat) (k : Nat) (hk : k < oz_w i) : cmR i k = rmR hi0 sl0 i k := by
  by_cases q : i = 44
  · subst q; exact cm_44 k hk
  · unfold cmR cm2 cm1 cm0 ozz
    rw [oz2_row q, oz2_row q, oz2_row q, oz2_row q, oz2_row q, oz2_row q, oz2_row q, oz2_row q, oz2_row q, oz2_row q, oz2_row q, oz2_row q, oz2_row q, if_neg q]
def cmG (G : oz_G) : oz_G := ozz (ozz (ozz (ozz (ozz (ozz (ozz (ozz (ozz (ozz (ozz (ozz (ozz G 45 0) 46 0) 47 0) 48 0) 49 0) 50 0) 51 0) 52 0) 53 0) 54 0) 55 0) 56 0) 57 0
def t_X6_init : oz_T := (P_X6_init, e_X6, [(1, 2, 1, 0, oz_Sobj)], (false, 0, some 5, false, 373299), (0, fun _ => 0))
def s_X6_init : oz_S := oz_t0 44 fun N G R J Φ => N = 45 ∧ R = cm0 ∧ (∀ k, G 44 k = nI 0) ∧ ∀ G' : oz_G, (∀ i, i < 44 → G' i = G i) → MR G' W00 → SrI G' → Φ none 58 G' (rmR hi0 sl0) J
theorem I_X6_init : oz_Imp t_X6_init 2 s_X6_init := by
  intro Φ A a N G R J hN hS hC
  obtain ⟨rfl, rfl, rfl, h0, h⟩ := oz_t0_e hS
  have z : ∀ i, 45 ≤ i → i ≤ 57 → ∀ j, cmG G i j = nI 0 := by
    intro i a1 a2 j
    have q : i = 45 ∨ i = 46 ∨ i = 47 ∨ i = 48 ∨ i = 49 ∨ i = 50 ∨ i = 51 ∨ i = 52 ∨ i = 53 ∨ i = 54 ∨ i = 55 ∨ i = 56 ∨ i = 57 := by omega
    rcases q with rfl | rfl | rfl | rfl | rfl | rfl | rfl | rfl | rfl | rfl | rfl | rfl | rfl <;> rfl
  have lo44 : ∀ i, i < 45 → cmG G i = G i := fun i hi => by
    unfold cmG ozz
    simp only [if_neg (show ¬ i = 45 by omega), if_neg (show ¬ i = 46 by omega), if_neg (show ¬ i = 47 by omega), if_neg (show ¬ i = 48 by omega), if_neg (show ¬ i = 49 by omega), if_neg (show ¬ i = 50 by omega), if_neg (show ¬ i = 51 by omega), if_neg (show ¬ i = 52 by omega), if_neg (show ¬ i = 53 by omega), if_neg (show ¬ i = 54 by omega), if_neg (show ¬ i = 55 by omega), if_neg (show ¬ i = 56 by omega), if_neg (show ¬ i = 57 by omega)]
  have loop : ∀ f k (G2 : oz_G), k + f = 4 → (∀ i, i ≠ 45 → G2 i = cmG G i) → (∀ j, G2 45 j = if j = 0 then nI 1 else if j = 3 then nI 4 else if 4 ≤ j ∧ j < 4 + k then nI 2 else nI 0) → A 127 [some (.ref 44), some (.int (nI k))] [] 58 G2 (rmR hi0 sl0) J 373299 := by
    intro f
    induction f with
    | zero =>
      intro k G2 hk g1 g2
      have hk : k = 4 := by omega
      subst hk
      have zz : ∀ i, 46 ≤ i → i ≤ 57 → ∀ j, G2 i j = nI 0 := fun i a1 a2 j => by rw [g1 i (by omega)]; exact z i (by omega) a2 j
      have z44 : ∀ j, G2 44 j = nI 0 := fun j => by rw [g1 44 (by decide), lo44 44 (by decide)]; exact h0 j
      have hrow : RowR G2 45 0 S0 := by
        intro j hj
        have hj : j < 15 := hj
        rw [Nat.zero_add, g2 j]
        have q : j = 0 ∨ j = 1 ∨ j = 2 ∨ j = 3 ∨ j = 4 ∨ j = 5 ∨ j = 6 ∨ j = 7 ∨ j = 8 ∨ j = 9 ∨ j = 10 ∨ j = 11 ∨ j = 12 ∨ j = 13 ∨ j = 14 := by omega
        rcases q with rfl | rfl | rfl | rfl | rfl | rfl | rfl | rfl | rfl | rfl | rfl | rfl | rfl | rfl | rfl <;> decide
      have hf := h G2 (fun i hi => by rw [g1 i (by omega), lo44 i (by omega)]) ⟨hrow, z44 5, trivial, zz 49 (by decide) (by decide) 0, zz 49 (by decide) (by decide) 1, z44 7, Nat.zero_le _, fun j hj => absurd hj (Nat.not_lt_zero _)⟩ ⟨0, by decide, z44 21, (fun i hi => absurd hi (Nat.not_lt_zero _)), fun s _ => Or.inl (zz 54 (by decide) (by decide) s)⟩
      exact hC.1 [] 40 127 _ _ _ _ _ _ _ ⟨fun _ => hf, fun q => absurd (show nI 4 ≤ nI 4 by decide) q⟩
    | succ f ih =>
      intro k G2 hk g1 g2
      have hih := ih (k + 1) (oz2 G2 45 (4 + k) (nI 2)) (by omega) (fun i hi => by rw [oz2_row hi]; exact g1 i hi) (fun j => by
        by_cases q : j = 4 + k
        · rw [q, oz2_self, if_neg (by omega), if_neg (by omega), if_pos (by omega)]
        · rw [oz2_ne q, g2 j]
          by_cases q0 : j = 0
          · rw [if_pos q0, if_pos q0]
          · rw [if_neg q0, if_neg q0]
            by_cases q3 : j = 3
            · rw [if_pos q3, if_pos q3]
            · rw [if_neg q3, if_neg q3]
              by_cases q4 : 4 ≤ j ∧ j < 4 + k
              · rw [if_pos q4, if_pos (by omega)]
              · rw [if_neg q4, if_neg (by omega)])
      rw [← nI_add k 1] at hih
      exact hC.1 [127] 40 127 _ _ _ _ _ _ _ ⟨fun q => absurd (show nI 4 ≤ nI k from q) (nI_ge (by omega) (by decide)), fun _ => ⟨⟨rfl, by decide⟩, ⟨rfl, by decide⟩, 4 + k, nI_add 4 k, by show 4 + k < 215; omega, hih⟩⟩
  have h1 := loop 4 0 (oz2 (oz2 (cmG G) 45 0 (nI 1)) 45 3 (nI 4)) (by decide) (fun i hi => by rw [oz2_row hi, oz2_row hi]) (fun j => by
    by_cases q3 : j = 3
    · rw [q3, oz2_self]; rfl
    · rw [oz2_ne q3]
      by_cases q0 : j = 0
      · rw [q0, oz2_self]; rfl
      · rw [oz2_ne q0, z 45 (by decide) (by decide), if_neg q0, if_neg q3, if_neg (by omega)])
  have a111 : A 111 [some (.ref 44), none] [] 58 (cmG G) (rmR hi0 sl0) J 373299 := hC.1 [127] 90 111 _ _ _ _ _ _ _ ⟨⟨rfl, by decide⟩, ⟨rfl, by decide⟩, 0, rfl, by decide, ⟨rfl, by decide⟩, ⟨rfl, by decide⟩, 3, rfl, by decide, h1⟩
  have a111' : A 111 [some (.ref 44), none] [] 58 (cmG G) cmR J 373299 := hC.2.2 _ _ _ _ _ _ _ _ _ _ _ (fun i hi k hk => ⟨rfl, cm_e i k hk, rfl⟩) a111
  exact hC.1 [111] 300 0 _ _ _ _ _ _ _ ⟨215, rfl, ⟨rfl, rfl, by decide⟩, ⟨rfl, by decide⟩, 1290, rfl, ⟨rfl, rfl, by decide⟩, ⟨rfl, by decide⟩, 215, rfl, ⟨rfl, rfl, by decide⟩, ⟨rfl, by decide⟩, 430, rfl, ⟨rfl, rfl, by decide⟩, ⟨rfl, by decide⟩, 2, rfl, ⟨rfl, rfl, by decide⟩, ⟨rfl, by decide⟩, 40, rfl, ⟨rfl, rfl, by decide⟩, ⟨rfl, by decide⟩, 8, rfl, ⟨rfl, rfl, by decide⟩, ⟨rfl, by decide⟩, 7, rfl, ⟨rfl, rfl, by decide⟩, ⟨rfl, by decide⟩, 7, rfl, ⟨rfl, rfl, by decide⟩, ⟨rfl, by decide⟩, 131072, rfl, ⟨rfl, rfl, by decide⟩, ⟨rfl, by decide⟩, 80000, rfl, ⟨rfl, rfl, by decide⟩, ⟨rfl, by decide⟩, 80000, rfl, ⟨rfl, rfl, by decide⟩, ⟨rfl, by decide⟩, 80000, rfl, ⟨rfl, rfl, by decide⟩, ⟨rfl, by decide⟩, a111'⟩
theorem rec_X6_init : oz_rec s_X6_init 0 5 0 := by
  intro Φ a N G R J hN h _
  obtain ⟨rfl, rfl, h3⟩ := oz_t0_e h
  exact ⟨44, _, rfl, rfl, by decide⟩
