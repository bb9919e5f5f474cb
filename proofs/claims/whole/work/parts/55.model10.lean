/-! the model: all seeds, which pits can be sown -/
def t_X6_all : oz_T := (P_X6_all, e_X6, [], (true, 58, none, false, 0), (0, fun _ => 0))
def s_X6_all : oz_S := oz_t0 44 fun N G R J Φ => ∃ hi sl S, R = rmR hi sl ∧ StOk S ∧ RowR G 45 0 S ∧ Φ (some (.int (nI (dg (sC S) (sN S) + sm (sC S) (sN S))))) N G R J
theorem I_X6_all : oz_Imp t_X6_all 3 s_X6_all := by
  intro Φ A a N G R J hN hS hC
  obtain ⟨rfl, hi, sl, S, rfl, hok, hR, h⟩ := oz_t0_e hS
  have hn6 := hok.2.1
  have e3 : G 45 3 = nI (sN S) := row_g hR (by decide)
  have e10 : G 45 10 = nI (dg (sC S) (sN S)) := row_g hR (by decide)
  have loop : ∀ f i, i + f = sN S → A 10 [some (.ref 44), some (.int (nI (dg (sC S) (sN S) + sm (sC S) i))), some (.int (nI i))] [] N G (rmR hi sl) J 0 := by
    intro f
    induction f with
    | zero =>
      intro i hif
      have hi' : i = sN S := by omega
      rw [hi']
      exact hC.1 [] 40 10 _ _ _ _ _ _ _ ⟨3, rfl, by decide, fun _ => h, fun q => absurd (show G 45 3 ≤ nI (sN S) by rw [e3]; exact nI_le (Nat.le_refl _) (by omega)) q⟩
    | succ f ih =>
      intro i hif
      have hin : i < sN S := by omega
      have e : G 45 (4 + i) = nI (dg (sC S) i) := by
        rw [row_g hR (show 4 + i < 15 by omega), rowV_p (by omega)]
        unfold sd
        rw [if_pos hin]
      have hih := ih (i + 1) (by omega)
      have e2 : nI (dg (sC S) (sN S) + sm (sC S) (i + 1)) = nI (dg (sC S) (sN S) + sm (sC S) i) + G 45 (4 + i) := by
        rw [e, nI_add]
        show nI (dg (sC S) (sN S) + (sm (sC S) i + dg (sC S) i)) = _
        rw [← Nat.add_assoc]
      rw [e2, ← nI_add i 1] at hih
      exact hC.1 [10] 60 10 _ _ _ _ _ _ _ ⟨3, rfl, by decide, fun q => absurd (show G 45 3 ≤ nI i from q) (by rw [e3]; exact nI_ge hin (by omega)), fun _ => ⟨4 + i, nI_add 4 i, by show 4 + i < 215; omega, hih⟩⟩
  have h0 := loop (sN S) 0 (by omega)
  have e2 : nI (dg (sC S) (sN S) + sm (sC S) 0) = G 45 10 := by rw [e10]; rfl
  rw [e2] at h0
  exact hC.1 [10] 30 0 _ _ _ _ _ _ _ ⟨10, rfl, by decide, h0⟩
theorem ms_0 {n ex c : Nat} (h : ¬ hw n ex c = 0) : ms n ex c n = 0 := by
  have key : (∀ i, i < n → lg n ex c i = 0) → ∀ m, m ≤ n → ms n ex c m = 0 := by
    intro hz m
    induction m with
    | zero => intro _; rfl
    | succ m ih =>
      intro hm
      show ms n ex c m + lg n ex c m * 2 ^ m = 0
      rw [ih (by omega), hz m (by omega), Nat.zero_mul]
  unfold hw at h
  by_cases q1 : lo c = 1
  · exact key (fun i _ => by unfold lg; rw [if_neg (fun z => by omega)]) n (Nat.le_refl _)
  · rw [if_neg q1] at h
    by_cases q2 : sm c n = 0
    · exact key (fun i hi => by
        have := sm_le c n i hi
        unfold lg; rw [if_neg (fun z => by omega)]) n (Nat.le_refl _)
    · rw [if_neg q2] at h
      by_cases q3 : ms n ex c n = 0
      · exact q3
      · rw [if_neg q3] at h
        exact absurd rfl h
theorem hw_0 {n ex c : Nat} (h : hw n ex c = 0) : lo c = 0 := by
  have := lo_le (c := c)
  unfold hw at h
  by_cases q1 : lo c = 1
  · rw [if_pos q1] at h; omega
  · omega
theorem hw_le {n ex c : Nat} : hw n ex c ≤ 3 := by
  unfold hw
  split
  · decide
  · split
    · decide
    · split <;> decide
def t_X6_sowable : oz_T := (P_X6_sowable, e_X6, [(149, 1, 1, 0, s_X6_now), (80, 1, 2, 0, s_X6_canSow)], (true, 58, none, false, 0), (0, fun _ => 0))
def s_X6_sowable : oz_S := oz_t0 44 fun N G R J Φ => ∃ hi sl S, R = rmR hi sl ∧ StOk S ∧ RowR G 45 0 S ∧ ∀ G' : oz_G, (∀ i, i ≠ 44 → i ≠ 53 → G' i = G i) → (∀ k, k ≠ 13 → G' 44 k = G 44 k) → Φ (some (.int (nI (ms (sN S) (sEx S) (sC S) (sN S))))) N G' R J
theorem I_X6_sowable : oz_Imp t_X6_sowable 3 s_X6_sowable := by
  intro Φ A a N G R J hN hS hC
  obtain ⟨rfl, hi, sl, S, rfl, hok, hR, h⟩ := oz_t0_e hS
  have hwl := hw_le (n := sN S) (ex := sEx S) (c := sC S)
  refine hC.1 [9, 11] 60 0 _ _ _ _ _ _ _ ⟨hi, sl, S, rfl, hok, hR, fun G' g1 g2 g3 => ⟨fun q => ?_, fun q => ?_⟩⟩
  · have q : ¬ nI (hw (sN S) (sEx S) (sC S)) = nI 0 := q
    rw [nI_eq (by omega) (by decide)] at q
    have hf := h G' g2 g3
    rw [ms_0 q] at hf
    exact hf
  · have q : ¬ ¬ nI (hw (sN S) (sEx S) (sC S)) = nI 0 := q
    have q := Classical.not_not.mp q
    rw [nI_eq (by omega) (by decide)] at q
    have hlo := hw_0 q
    have hf := h G' g2 g3
    obtain ⟨e3, e1, hn2, hn6, hex, hP⟩ := id g1
    have loop : ∀ f i, i + f = sN S → A 11 [some (.ref 44), some (.int (nI (ms (sN S) (sEx S) (sC S) i))), some (.int (nI i))] [] N G' (rmR hi sl) J 0 := by
      intro f
      induction f with
      | zero =>
        intro i hif
        have hi' : i = sN S := by omega
        rw [hi']
        exact hC.1 [] 40 11 _ _ _ _ _ _ _ ⟨3, rfl, by decide, fun _ => hf, fun q => absurd (show G' 45 3 ≤ nI (sN S) by rw [e3]; exact nI_le (Nat.le_refl _) (by omega)) q⟩
      | succ f ih =>
        intro i hif
        have hin : i < sN S := by omega
        have hlg := lg_le (n := sN S) (ex := sEx S) (c := sC S) (i := i)
        have hih := ih (i + 1) (by omega)
        refine hC.1 [11] 60 11 _ _ _ _ _ _ _ ⟨3, rfl, by decide, fun q => absurd (show G' 45 3 ≤ nI i from q) (by rw [e3]; exact nI_ge hin (by omega)), fun _ => ⟨hi, sl, sN S, sEx S, sC S, i, rfl, g1, hlo, rfl, hin, fun q => ?_, fun q => ?_⟩⟩
        · have q : nI (lg (sN S) (sEx S) (sC S) i) = nI 0 := q
          rw [nI_eq (by omega) (by decide)] at q
          have e : nI (ms (sN S) (sEx S) (sC S) (i + 1)) = nI (ms (sN S) (sEx S) (sC S) i) ||| nI 0 := by
            have e0 : nI (ms (sN S) (sEx S) (sC S) i) ||| nI 0 = nI (ms (sN S) (sEx S) (sC S) i) := Int32.or_zero
            rw [e0]
            show nI (ms (sN S) (sEx S) (sC S) i + lg (sN S) (sEx S) (sC S) i * 2 ^ i) = _
            rw [q, Nat.zero_mul, Nat.add_zero]
          rw [e, ← nI_add i 1] at hih
          exact hih
        · have q : ¬ nI (lg (sN S) (sEx S) (sC S) i) = nI 0 := q
          rw [nI_eq (by omega) (by decide)] at q
          have hl : lg (sN S) (sEx S) (sC S) i = 1 := by omega
          have e : nI (ms (sN S) (sEx S) (sC S) (i + 1)) = nI (ms (sN S) (sEx S) (sC S) i) ||| (nI 1 <<< (nI i &&& 31)) := by
            rw [mx_shl1 i (by omega), mx_or (ms_lt (sN S) (sEx S) (sC S) i)]
            show nI (ms (sN S) (sEx S) (sC S) i + lg (sN S) (sEx S) (sC S) i * 2 ^ i) = _
            rw [hl, Nat.one_mul]
          rw [e, ← nI_add i 1] at hih
          exact hih
    exact hC.1 [11] 30 9 _ _ _ _ _ _ _ (loop (sN S) 0 (by omega))
