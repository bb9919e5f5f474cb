/-! the model: how a round is -/
/-- the model's places hold a position of n pits, EXACT as told -/
def PsR (G : oz_G) (n ex c : Nat) : Prop := G 45 3 = nI n ∧ G 45 1 = nI ex ∧ 2 ≤ n ∧ n ≤ 6 ∧ ex ≤ 1 ∧ PlR G n c
def t_X6_canSow : oz_T := (P_X6_canSow, e_X6, [], (true, 58, none, true, 0), (0, fun _ => 0))
def s_X6_canSow : oz_S := oz_t1 44 fun x N G R J Φ => ∃ hi sl n ex c i, R = rmR hi sl ∧ PsR G n ex c ∧ lo c = 0 ∧ x = nI i ∧ i < n ∧ Φ (some (.int (nI (lg n ex c i)))) N G R J
theorem I_X6_canSow : oz_Imp t_X6_canSow 3 s_X6_canSow := by
  intro Φ A a N G R J hN hS hC
  obtain ⟨x, rfl, hi, sl, n, ex, c, i, rfl, ⟨e3, e1, hn2, hn6, hex, hP⟩, hlo, rfl, hin, h⟩ := oz_t1_e hS
  have hd := dg_lt c i
  have ep : G 53 i = nI (dg c i) := hP.1 i hin
  have no : lg n ex c i = 0 → oz_bz (nI 0) ∧ Φ (some (.int (nI 0))) N G (rmR hi sl) J := fun q => by rw [q] at h; exact ⟨Or.inl rfl, h⟩
  have yes : lg n ex c i = 1 → oz_bz (nI 1) ∧ Φ (some (.int (nI 1))) N G (rmR hi sl) J := fun q => by rw [q] at h; exact ⟨Or.inr rfl, h⟩
  refine hC.1 [] 60 0 _ _ _ _ _ _ _ ⟨3, rfl, by decide, i, rfl, by show i < 7; omega, fun q => no ?_, fun q => ⟨1, rfl, by decide, fun q2 => yes ?_, fun q2 => ⟨i, rfl, by show i < 7; omega, ?_, 3, rfl, by decide, fun q3 => no ?_, fun q3 => yes ?_⟩⟩⟩
  · have q : G 53 i ≤ nI 0 := q
    rw [ep, nI_leI (by omega) (by decide)] at q
    unfold lg
    rw [if_neg (fun z => by omega)]
  · have q : ¬ G 53 i ≤ nI 0 := q
    have q2 : G 45 1 = nI 0 := q2
    rw [ep, nI_leI (by omega) (by decide)] at q
    rw [e1, nI_eq (by omega) (by decide)] at q2
    unfold lg
    rw [if_pos ⟨hlo, by omega, Or.inl q2⟩]
  · show ¬ G 45 3 + nI 1 = nI 0
    rw [e3, nI_add, nI_eq (by omega) (by decide)]
    omega
  · have q2 : ¬ G 45 1 = nI 0 := q2
    have q3 : ¬ nI i + G 53 i - (nI i + G 53 i) / (G 45 3 + nI 1) * (G 45 3 + nI 1) = G 45 3 := q3
    rw [e1, nI_eq (by omega) (by decide)] at q2
    rw [e3, ep, nI_add, nI_add, pk_rem (by omega) (by omega) (by omega), nI_eq (by have := Nat.mod_lt (i + dg c i) (show 0 < n + 1 by omega); omega) (by omega)] at q3
    unfold lg
    rw [if_neg (fun z => z.2.2.elim q2 q3)]
  · have q : ¬ G 53 i ≤ nI 0 := q
    have q3 : ¬ ¬ nI i + G 53 i - (nI i + G 53 i) / (G 45 3 + nI 1) * (G 45 3 + nI 1) = G 45 3 := q3
    have q3 := Classical.not_not.mp q3
    rw [ep, nI_leI (by omega) (by decide)] at q
    rw [e3, ep, nI_add, nI_add, pk_rem (by omega) (by omega) (by omega), nI_eq (by have := Nat.mod_lt (i + dg c i) (show 0 < n + 1 by omega); omega) (by omega)] at q3
    unfold lg
    rw [if_pos ⟨hlo, by omega, Or.inr q3⟩]
def t_X6_isEmpty : oz_T := (P_X6_isEmpty, e_X6, [], (true, 58, none, true, 0), (0, fun _ => 0))
def s_X6_isEmpty : oz_S := oz_t0 44 fun N G R J Φ => ∃ hi sl n ex c, R = rmR hi sl ∧ PsR G n ex c ∧ Φ (some (.int (b2 (decide (sm c n = 0))))) N G R J
theorem I_X6_isEmpty : oz_Imp t_X6_isEmpty 2 s_X6_isEmpty := by
  intro Φ A a N G R J hN hS hC
  obtain ⟨rfl, hi, sl, n, ex, c, rfl, ⟨e3, e1, hn2, hn6, hex, hP⟩, h⟩ := oz_t0_e hS
  have no : ¬ sm c n = 0 → oz_bz (nI 0) ∧ Φ (some (.int (nI 0))) N G (rmR hi sl) J := fun q => by rw [decide_eq_false q] at h; exact ⟨Or.inl rfl, h⟩
  have yes : sm c n = 0 → oz_bz (nI 1) ∧ Φ (some (.int (nI 1))) N G (rmR hi sl) J := fun q => by rw [decide_eq_true q] at h; exact ⟨Or.inr rfl, h⟩
  have loop : ∀ f i, i + f = n → sm c i = 0 → A 2 [some (.ref 44), some (.int (nI i))] [] N G (rmR hi sl) J 0 := by
    intro f
    induction f with
    | zero =>
      intro i hif hz
      have hin : i = n := by omega
      subst hin
      exact hC.1 [] 40 2 _ _ _ _ _ _ _ ⟨3, rfl, by decide, fun _ => yes hz, fun q => absurd (show G 45 3 ≤ nI i by rw [e3]; exact nI_le (Nat.le_refl _) (by omega)) q⟩
    | succ f ih =>
      intro i hif hz
      have hin : i < n := by omega
      have hd := dg_lt c i
      have ep : G 53 i = nI (dg c i) := hP.1 i hin
      refine hC.1 [2] 40 2 _ _ _ _ _ _ _ ⟨3, rfl, by decide, fun q => absurd (show G 45 3 ≤ nI i from q) (by rw [e3]; exact nI_ge hin (by omega)), fun _ => ⟨i, rfl, by show i < 7; omega, fun q => ?_, fun q => no ?_⟩⟩
      · have q : G 53 i ≤ nI 0 := q
        rw [ep, nI_leI (by omega) (by decide)] at q
        have hih := ih (i + 1) (by omega) (by show sm c i + dg c i = 0; omega)
        rw [← nI_add i 1] at hih
        exact hih
      · have q : ¬ G 53 i ≤ nI 0 := q
        rw [ep, nI_leI (by omega) (by decide)] at q
        have := sm_le c n i hin
        omega
  exact hC.1 [2] 30 0 _ _ _ _ _ _ _ (loop n 0 (by omega) rfl)
def t_X6_isStuck : oz_T := (P_X6_isStuck, e_X6, [(80, 1, 2, 0, s_X6_canSow)], (true, 58, none, true, 0), (0, fun _ => 0))
def s_X6_isStuck : oz_S := oz_t0 44 fun N G R J Φ => ∃ hi sl n ex c, R = rmR hi sl ∧ PsR G n ex c ∧ lo c = 0 ∧ Φ (some (.int (b2 (decide (ms n ex c n = 0))))) N G R J
theorem ms_le {n ex c : Nat} : ∀ m i, i < m → ms n ex c m = 0 → lg n ex c i = 0
  | m + 1, i, hi, h => by
    have h : ms n ex c m + lg n ex c m * 2 ^ m = 0 := h
    by_cases q : i = m
    · subst q
      rcases Nat.eq_zero_or_pos (lg n ex c i) with z | z
      · exact z
      · have : 0 < lg n ex c i * 2 ^ i := Nat.mul_pos z (Nat.pow_pos (by decide))
        omega
    · exact ms_le m i (by omega) (by omega)
theorem I_X6_isStuck : oz_Imp t_X6_isStuck 2 s_X6_isStuck := by
  intro Φ A a N G R J hN hS hC
  obtain ⟨rfl, hi, sl, n, ex, c, rfl, hPs, hlo, h⟩ := oz_t0_e hS
  obtain ⟨e3, e1, hn2, hn6, hex, hP⟩ := id hPs
  have no : ¬ ms n ex c n = 0 → oz_bz (nI 0) ∧ Φ (some (.int (nI 0))) N G (rmR hi sl) J := fun q => by rw [decide_eq_false q] at h; exact ⟨Or.inl rfl, h⟩
  have yes : ms n ex c n = 0 → oz_bz (nI 1) ∧ Φ (some (.int (nI 1))) N G (rmR hi sl) J := fun q => by rw [decide_eq_true q] at h; exact ⟨Or.inr rfl, h⟩
  have loop : ∀ f i, i + f = n → ms n ex c i = 0 → A 2 [some (.ref 44), some (.int (nI i))] [] N G (rmR hi sl) J 0 := by
    intro f
    induction f with
    | zero =>
      intro i hif hz
      have hin : i = n := by omega
      rw [hin]
      rw [hin] at hz
      exact hC.1 [] 40 2 _ _ _ _ _ _ _ ⟨3, rfl, by decide, fun _ => yes hz, fun q => absurd (show G 45 3 ≤ nI n by rw [e3]; exact nI_le (Nat.le_refl _) (by omega)) q⟩
    | succ f ih =>
      intro i hif hz
      have hin : i < n := by omega
      have hlg := lg_le (n := n) (ex := ex) (c := c) (i := i)
      refine hC.1 [2] 40 2 _ _ _ _ _ _ _ ⟨3, rfl, by decide, fun q => absurd (show G 45 3 ≤ nI i from q) (by rw [e3]; exact nI_ge hin (by omega)), fun _ => ⟨hi, sl, n, ex, c, i, rfl, hPs, hlo, rfl, hin, fun q => ?_, fun q => no ?_⟩⟩
      · have q : nI (lg n ex c i) = nI 0 := q
        rw [nI_eq (by omega) (by decide)] at q
        have hih := ih (i + 1) (by omega) (by show ms n ex c i + lg n ex c i * 2 ^ i = 0; rw [q, hz, Nat.zero_mul])
        rw [← nI_add i 1] at hih
        exact hih
      · have q : ¬ nI (lg n ex c i) = nI 0 := q
        rw [nI_eq (by omega) (by decide)] at q
        exact fun z => q (ms_le n i hin z)
  exact hC.1 [2] 30 0 _ _ _ _ _ _ _ (loop n 0 (by omega) rfl)
def t_X6_how : oz_T := (P_X6_how, e_X6, [(84, 1, 1, 0, s_X6_isEmpty), (88, 1, 1, 0, s_X6_isStuck)], (true, 58, none, false, 0), (0, fun _ => 0))
def s_X6_how : oz_S := oz_t1 44 fun x N G R J Φ => ∃ hi sl n ex c, R = rmR hi sl ∧ PsR G n ex c ∧ x = nI (lo c) ∧ Φ (some (.int (nI (hw n ex c)))) N G R J
theorem I_X6_how : oz_Imp t_X6_how 2 s_X6_how := by
  intro Φ A a N G R J hN hS hC
  obtain ⟨x, rfl, hi, sl, n, ex, c, rfl, hPs, rfl, h⟩ := oz_t1_e hS
  have hlo := lo_le (c := c)
  unfold hw at h
  refine hC.1 [] 60 0 _ _ _ _ _ _ _ ⟨fun q => ⟨hi, sl, n, ex, c, rfl, hPs, fun q2 => ⟨hi, sl, n, ex, c, rfl, hPs, ?_, fun q3 => ?_, fun q3 => ?_⟩, fun q2 => ?_⟩, fun q => ?_⟩
  · have q : nI (lo c) = nI 0 := q
    rw [nI_eq (by omega) (by decide)] at q
    exact q
  · have q : nI (lo c) = nI 0 := q
    rw [nI_eq (by omega) (by decide)] at q
    have q2 : b2 (decide (sm c n = 0)) = nI 0 := q2
    have q3 : b2 (decide (ms n ex c n = 0)) = nI 0 := q3
    rw [b2_f] at q2 q3
    rw [if_neg (by omega), if_neg (of_decide_eq_false q2), if_neg (of_decide_eq_false q3)] at h
    exact h
  · have q : nI (lo c) = nI 0 := q
    rw [nI_eq (by omega) (by decide)] at q
    have q2 : b2 (decide (sm c n = 0)) = nI 0 := q2
    have q3 : ¬ b2 (decide (ms n ex c n = 0)) = nI 0 := q3
    rw [b2_f] at q2
    rw [b2_t] at q3
    rw [if_neg (by omega), if_neg (of_decide_eq_false q2), if_pos (of_decide_eq_true q3)] at h
    exact h
  · have q : nI (lo c) = nI 0 := q
    rw [nI_eq (by omega) (by decide)] at q
    have q2 : ¬ b2 (decide (sm c n = 0)) = nI 0 := q2
    rw [b2_t] at q2
    rw [if_neg (by omega), if_pos (of_decide_eq_true q2)] at h
    exact h
  · have q : ¬ nI (lo c) = nI 0 := q
    rw [nI_eq (by omega) (by decide)] at q
    rw [if_pos (by omega)] at h
    exact h
def t_X6_now : oz_T := (P_X6_now, e_X6, [(91, 1, 1, 0, s_X6_takeNow), (94, 1, 2, 0, s_X6_how)], (true, 58, none, false, 0), (0, fun _ => 0))
def s_X6_now : oz_S := oz_t0 44 fun N G R J Φ => ∃ hi sl S, R = rmR hi sl ∧ StOk S ∧ RowR G 45 0 S ∧ ∀ G' : oz_G, PsR G' (sN S) (sEx S) (sC S) → (∀ i, i ≠ 44 → i ≠ 53 → G' i = G i) → (∀ k, k ≠ 13 → G' 44 k = G 44 k) → Φ (some (.int (nI (hw (sN S) (sEx S) (sC S))))) N G' R J
theorem I_X6_now : oz_Imp t_X6_now 1 s_X6_now := by
  intro Φ A a N G R J hN hS hC
  obtain ⟨rfl, hi, sl, S, rfl, hok, hR, h⟩ := oz_t0_e hS
  refine hC.1 [] 60 0 _ _ _ _ _ _ _ ⟨hi, sl, S, rfl, hok, hR, fun G' g1 g2 g3 => ?_⟩
  have hlo := lo_le (c := sC S)
  have r : ∀ k, G' 45 k = G 45 k := fun k => by rw [g2 45 (by decide) (by decide)]
  have e12 : G' 45 12 = nI (lo (sC S)) := by rw [r]; exact row_g hR (by decide)
  have hPs : PsR G' (sN S) (sEx S) (sC S) := ⟨by rw [r]; exact row_g hR (by decide), by rw [r]; exact row_g hR (by decide), hok.1, hok.2.1, hok.2.2.2.1, g1⟩
  have hf := h G' hPs g2 g3
  refine ⟨12, rfl, by decide, fun q => ⟨hi, sl, sN S, sEx S, sC S, rfl, hPs, ?_, hf⟩, fun q => ⟨hi, sl, sN S, sEx S, sC S, rfl, hPs, ?_, hf⟩⟩
  · have q : ¬ G' 45 12 = nI 1 := q
    rw [e12, nI_eq (by omega) (by decide)] at q
    rw [show lo (sC S) = 0 by omega]
    rfl
  · have q : ¬ ¬ G' 45 12 = nI 1 := q
    have q := Classical.not_not.mp q
    rw [e12] at q
    exact q.symm
