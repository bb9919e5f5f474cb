/-! the model: a round begun -/
def AnF (G G1 : oz_G) (n st m : Nat) : Prop := (∀ i, i ≠ 45 → G1 i = G i) ∧ (∀ k, k < 3 → G1 45 k = G 45 k) ∧ G1 45 3 = nI n ∧ G1 45 10 = nI st ∧ G1 45 11 = G 45 2 ∧ G1 45 12 = nI 0 ∧ G1 45 13 = nI 0 ∧ G1 45 14 = nI 0 ∧ ∀ k, k < m → G1 45 (4 + k) = nI 0
def t_X6_anew : oz_T := (P_X6_anew, e_X6, [], (true, 58, none, false, 0), (0, fun _ => 0))
def s_X6_anew : oz_S := oz_t2 44 fun x y N G R J Φ => ∃ hi sl n st, R = rmR hi sl ∧ x = nI n ∧ y = nI st ∧ ∀ G' : oz_G, AnF G G' n st 6 → Φ none N G' R J
theorem I_X6_anew : oz_Imp t_X6_anew 4 s_X6_anew := by
  intro Φ A a N G R J hN hS hC
  obtain ⟨x, y, rfl, hi, sl, n, st, rfl, rfl, rfl, h⟩ := oz_t2_e hS
  have l2 : ∀ f i (G1 : oz_G), i + f = 215 → 15 ≤ i → AnF G G1 n st 6 → A 78 [some (.ref 44), some (.int (nI n)), some (.int (nI st)), some (.int (nI i))] [] N G1 (rmR hi sl) J 0 := by
    intro f
    induction f with
    | zero =>
      intro i G1 hif h15 g
      have hi : i = 215 := by omega
      subst hi
      exact hC.1 [] 30 78 _ _ _ _ _ _ _ ⟨fun _ => h G1 g, fun q => absurd (show nI 215 ≤ nI 215 by decide) q⟩
    | succ f ih =>
      intro i G1 hif h15 g
      obtain ⟨g1, g2, g3, g4, g5, g6, g7, g8, g9⟩ := g
      have hih := ih (i + 1) (oz2 G1 45 i (nI 0)) (by omega) (by omega) ⟨fun j hj => by rw [oz2_row hj]; exact g1 j hj, fun k hk => by rw [oz2_ne (by omega)]; exact g2 k hk, by rw [oz2_ne (by omega)]; exact g3, by rw [oz2_ne (by omega)]; exact g4, by rw [oz2_ne (by omega)]; exact g5, by rw [oz2_ne (by omega)]; exact g6, by rw [oz2_ne (by omega)]; exact g7, by rw [oz2_ne (by omega)]; exact g8, fun k hk => by rw [oz2_ne (by omega)]; exact g9 k hk⟩
      rw [← nI_add i 1] at hih
      exact hC.1 [78] 40 78 _ _ _ _ _ _ _ ⟨fun q => absurd (show nI 215 ≤ nI i from q) (nI_ge (by omega) (by decide)), fun _ => ⟨i, rfl, by show i < 215; omega, hih⟩⟩
  have l1 : ∀ f i (G1 : oz_G), i + f = 6 → AnF G G1 n st i → A 54 [some (.ref 44), some (.int (nI n)), some (.int (nI st)), some (.int (nI i))] [] N G1 (rmR hi sl) J 0 := by
    intro f
    induction f with
    | zero =>
      intro i G1 hif g
      have hi : i = 6 := by omega
      subst hi
      exact hC.1 [78] 30 54 _ _ _ _ _ _ _ ⟨fun _ => l2 200 15 G1 (by decide) (by decide) g, fun q => absurd (show nI 6 ≤ nI 6 by decide) q⟩
    | succ f ih =>
      intro i G1 hif g
      obtain ⟨g1, g2, g3, g4, g5, g6, g7, g8, g9⟩ := g
      have hih := ih (i + 1) (oz2 G1 45 (4 + i) (nI 0)) (by omega) ⟨fun j hj => by rw [oz2_row hj]; exact g1 j hj, fun k hk => by rw [oz2_ne (by omega)]; exact g2 k hk, by rw [oz2_ne (by omega)]; exact g3, by rw [oz2_ne (by omega)]; exact g4, by rw [oz2_ne (by omega)]; exact g5, by rw [oz2_ne (by omega)]; exact g6, by rw [oz2_ne (by omega)]; exact g7, by rw [oz2_ne (by omega)]; exact g8, fun k hk => by
        by_cases q : k = i
        · rw [q, oz2_self]
        · rw [oz2_ne (by omega)]; exact g9 k (by omega)⟩
      rw [← nI_add i 1] at hih
      exact hC.1 [54] 40 54 _ _ _ _ _ _ _ ⟨fun q => absurd (show nI 6 ≤ nI i from q) (nI_ge (by omega) (by decide)), fun _ => ⟨4 + i, nI_add 4 i, by show 4 + i < 215; omega, hih⟩⟩
  have h0 := l1 6 0 (oz2 (oz2 (oz2 (oz2 (oz2 (oz2 G 45 3 (nI n)) 45 10 (nI st)) 45 11 (G 45 2)) 45 12 (nI 0)) 45 13 (nI 0)) 45 14 (nI 0)) (by decide) ⟨fun i hi => by rw [oz2_row hi, oz2_row hi, oz2_row hi, oz2_row hi, oz2_row hi, oz2_row hi], fun k hk => by rw [oz2_ne (by omega), oz2_ne (by omega), oz2_ne (by omega), oz2_ne (by omega), oz2_ne (by omega), oz2_ne (by omega)], rfl, rfl, rfl, rfl, rfl, rfl, fun k hk => absurd hk (Nat.not_lt_zero _)⟩
  exact hC.1 [54] 90 0 _ _ _ _ _ _ _ ⟨3, rfl, by decide, 10, rfl, by decide, 2, rfl, by decide, 11, rfl, by decide, 12, rfl, by decide, 13, rfl, by decide, 14, rfl, by decide, h0⟩
theorem new_d {c0 lv : Nat} (hc : c0 < 2 ^ 28) (hv : lv ≤ 1) : (∀ i, i < 7 → dg (c0 + lvb lv) i = dg c0 i) ∧ lf (c0 + lvb lv) = lv ∧ lo (c0 + lvb lv) = 0 := by
  unfold lvb
  by_cases q : lv = 1
  · rw [if_pos q]
    refine ⟨fun i hi => dg_low (a := c0) (b := 1) (j := 7) hi, ?_, ?_⟩
    · unfold lf; omega
    · unfold lo; omega
  · rw [if_neg q, Nat.add_zero]
    refine ⟨fun _ _ => rfl, ?_, ?_⟩
    · unfold lf; omega
    · unfold lo; omega
/-- behind anew and its seeds the row tells the new round -/
theorem an_R {G G1 : oz_G} {S : St} {n c0 : Nat} (hS : RowR G 45 0 S) (hv : sLv S ≤ 1) (hc : c0 < 2 ^ 28) (hn : n ≤ 6) (g2 : ∀ k, k < 3 → G1 45 k = G 45 k) (g3 : G1 45 3 = nI n) (g4 : G1 45 10 = nI (dg c0 n)) (g5 : G1 45 11 = G 45 2) (g6 : G1 45 12 = nI 0) (g7 : G1 45 13 = nI 0) (g8 : G1 45 14 = nI 0) (g9 : ∀ k, k < 6 → G1 45 (4 + k) = nI (sd n c0 k)) : RowR G1 45 0 (sNew S n c0) := by
  obtain ⟨d1, d2, d3⟩ := new_d hc hv
  intro k hk
  have hk : k < 15 := hk
  rw [Nat.zero_add]
  have r2 : G 45 2 = nI (sLv S) := row_g hS (by decide)
  have e11 : rowV (sNew S n c0) 11 = lf (c0 + lvb (sLv S)) := rfl
  have e12 : rowV (sNew S n c0) 12 = lo (c0 + lvb (sLv S)) := rfl
  have e10 : rowV (sNew S n c0) 10 = dg (c0 + lvb (sLv S)) n := rfl
  have ep : ∀ j, j < 6 → rowV (sNew S n c0) (4 + j) = sd n c0 j := fun j hj => by
    rw [rowV_p hj]
    show sd n (c0 + lvb (sLv S)) j = _
    unfold sd
    split
    · rw [d1 j (by omega)]
    · rfl
  by_cases q : k < 4
  · have q : k = 0 ∨ k = 1 ∨ k = 2 ∨ k = 3 := by omega
    rcases q with rfl | rfl | rfl | rfl
    · rw [g2 0 (by decide), row_g hS (by decide)]; rfl
    · rw [g2 1 (by decide), row_g hS (by decide)]; rfl
    · rw [g2 2 (by decide), row_g hS (by decide)]; rfl
    · rw [g3]; rfl
  · by_cases q2 : k < 10
    · obtain ⟨j, rfl⟩ : ∃ j, k = 4 + j := ⟨k - 4, by omega⟩
      rw [g9 j (by omega), ep j (by omega)]
    · have q : k = 10 ∨ k = 11 ∨ k = 12 ∨ k = 13 ∨ k = 14 := by omega
      rcases q with rfl | rfl | rfl | rfl | rfl
      · rw [g4, e10, d1 n (by omega)]
      · rw [g5, r2, e11, d2]
      · rw [g6, e12, d3]
      · rw [g7]; rfl
      · rw [g8]; rfl
