/-! the law's methods: state, same -/
theorem len16 {W : Wd} (ok : wOk W) : (sK (wS W)).length ≤ 16 := by
  obtain ⟨u, hu, hg, hK⟩ := ok.1.2.2.2.2.2
  have := KOk_len _ _ hg hK
  omega
theorem qm_n {W : Wd} (ok : wOk W) : q_move W (nI (sK (wS W)).length) = (oz_c (-6), W) := by
  have := len16 ok
  unfold q_move
  rw [if_neg (nI_pos (by omega)), if_pos (nI_le (Nat.le_refl _) (by omega))]
theorem qm_m {W : Wd} : q_move W (oz_c (-1)) = (oz_c (-1), W) := by
  unfold q_move
  rw [if_pos (by decide)]
theorem qm_0 {W : Wd} {k : Kp} {K : List Kp} (h : sK (wS W) = k :: K) (ok : wOk W) : q_move W (nI 0) = (nI k.1, W) := by
  have := len16 ok
  unfold q_move
  rw [h] at this ⊢
  rw [List.length_cons] at this ⊢
  rw [if_neg (by decide), if_neg (nI_ge (by omega) (by omega)), nt_nI (by decide)]
  rfl
def mb (S : St) : Nat → Nat
  | 0 => 0
  | k + 1 => mb S k + cb S k * 2 ^ k
theorem cb_le {S : St} {i : Nat} : cb S i ≤ 1 := by unfold cb; split <;> decide
theorem mb_lt (S : St) : ∀ k, mb S k < 2 ^ k
  | 0 => Nat.one_pos
  | k + 1 => by
    have h1 := mb_lt S k
    have h2 : cb S k * 2 ^ k ≤ 1 * 2 ^ k := Nat.mul_le_mul_right _ cb_le
    show mb S k + _ < _
    rw [Nat.pow_succ]; omega
theorem cb_lg {S : St} {i : Nat} (h : lo (sC S) = 0) : cb S i = lg (sN S) (sEx S) (sC S) i := by
  unfold cb lg
  by_cases q : 0 < dg (sC S) i ∧ (sEx S = 0 ∨ (i + dg (sC S) i) % (sN S + 1) = sN S)
  · rw [if_pos q, if_pos ⟨h, q⟩]
  · rw [if_neg q, if_neg (fun z => q z.2)]
theorem mb_ms {S : St} (h : lo (sC S) = 0) : ∀ k, mb S k = ms (sN S) (sEx S) (sC S) k
  | 0 => rfl
  | k + 1 => by
    show mb S k + _ = ms _ _ _ k + _
    rw [mb_ms h k, cb_lg h]
theorem lg_lo {n ex c i : Nat} (h : ¬ lo c = 0) : lg n ex c i = 0 := by unfold lg; rw [if_neg (fun z => h z.1)]
theorem ms_lo {n ex c : Nat} (h : ¬ lo c = 0) : ∀ k, ms n ex c k = 0
  | 0 => rfl
  | k + 1 => by
    show ms n ex c k + _ = 0
    rw [ms_lo h k, lg_lo h, Nat.zero_mul]
theorem ms_sm {n ex c : Nat} : ∀ k, sm c k = 0 → ms n ex c k = 0
  | 0, _ => rfl
  | k + 1, h => by
    have h : sm c k + dg c k = 0 := h
    show ms n ex c k + _ = 0
    rw [ms_sm k (by omega)]
    unfold lg
    rw [if_neg (fun z => by omega), Nat.zero_mul]
/-- how the round is: what state reads off the pits -/
theorem hw_c (S : St) : (hw (sN S) (sEx S) (sC S) = 2 ∧ ms (sN S) (sEx S) (sC S) (sN S) = 0) ∨ (hw (sN S) (sEx S) (sC S) = 1 ∧ sm (sC S) (sN S) = 0 ∧ ms (sN S) (sEx S) (sC S) (sN S) = 0) ∨ (hw (sN S) (sEx S) (sC S) = 3 ∧ ¬ sm (sC S) (sN S) = 0 ∧ mb S (sN S) = 0 ∧ ms (sN S) (sEx S) (sC S) (sN S) = 0) ∨ (hw (sN S) (sEx S) (sC S) = 0 ∧ ¬ sm (sC S) (sN S) = 0 ∧ ¬ mb S (sN S) = 0 ∧ ms (sN S) (sEx S) (sC S) (sN S) = mb S (sN S) ∧ lo (sC S) = 0) := by
  unfold hw
  have hl := lo_le (c := sC S)
  by_cases q : lo (sC S) = 1
  · rw [if_pos q]
    exact Or.inl ⟨rfl, ms_lo (by omega) _⟩
  · have e := mb_ms (S := S) (by omega) (sN S)
    rw [if_neg q]
    by_cases q2 : sm (sC S) (sN S) = 0
    · rw [if_pos q2]
      exact Or.inr (Or.inl ⟨rfl, q2, ms_sm _ q2⟩)
    · rw [if_neg q2]
      by_cases q3 : ms (sN S) (sEx S) (sC S) (sN S) = 0
      · rw [if_pos q3]
        exact Or.inr (Or.inr (Or.inl ⟨rfl, q2, by rw [e]; exact q3, q3⟩))
      · rw [if_neg q3]
        exact Or.inr (Or.inr (Or.inr ⟨rfl, q2, by rw [e]; exact q3, e.symm, by omega⟩))
theorem csK {Φ : oz_C} {N0 N : Nat} {G0 G : oz_G} {R : oz_R} {W : Wd} {i : Nat} (hi : i < sN (wS W)) (s : Rn N0 G0 W N G R) (k : ∀ (N' : Nat) (G' : oz_G) (R' : oz_R) (J' : oz_J), Rn N0 G0 W N' G' R' → Φ (some (.int (nI (cb (wS W) i)))) N' G' R' J') : ∃ W' i', CR N G R W' ∧ wOk W' ∧ nI i = nI i' ∧ i' < sN (wS W') ∧ pQ N G W' Φ (nI (cb (wS W') i'), W') := ⟨W, i, s.2.2.1, s.2.2.2, rfl, hi, qK rfl s.2.2.2 s k⟩
def t_L_state : oz_T := (P_L_state, e_L, [(9, 1, 2, 0, s_X5_count), (18, 0, 2, 0, s_L_canSow), (15, 1, 2, 0, s_X5_pit), (24, 1, 2, 0, s_X5_move)], (true, 44, none, true, 0), (0, fun _ => 0))
def s_L_state : oz_S := oz_t0 0 fun N G R J Φ => ∃ W, CR N G R W ∧ wOk W ∧ pQ N G W Φ (nI 1, W)
theorem I_L_state : oz_Imp t_L_state 5 s_L_state := by
  intro Φ A a N G R J hN hS hC
  obtain ⟨rfl, W, c0, ok, h⟩ := oz_t0_e hS
  have h6 := ok.1.2.1
  have hmb := mb_lt (wS W) (sN (wS W))
  have hp : (2 : Nat) ^ sN (wS W) ≤ 2 ^ 6 := Nat.pow_le_pow_right (by decide) h6
  have hsm := sm_lt (sC (wS W)) (sN (wS W))
  have hms := ms_lt (sN (wS W)) (sEx (wS W)) (sC (wS W)) (sN (wS W))
  have hdn := dg_lt (sC (wS W)) (sN (wS W))
  have hcs := hw_c (wS W)
  have a109 : ∀ (v3 v4 v5 : Option Value) (N1 : Nat) (G1 : oz_G) (R1 : oz_R) (J1 : oz_J), Rn N G W N1 G1 R1 → A 109 [some (.ref 0), v3, some (.int (nI (sm (sC (wS W)) (sN (wS W))))), v4, v5] [] N1 G1 R1 J1 0 := fun v3 v4 v5 N1 G1 R1 J1 s1 =>
    hC.1 [] 90 109 _ _ _ _ _ _ _ (ctK (qc 2 (by decide)) s1 fun N2 G2 R2 J2 s2 => ctK (qc 1 (by decide)) s2 fun N3 G3 R3 J3 s3 => ⟨fun z => absurd (show nI (dg (sC (wS W)) (sN (wS W)) + sm (sC (wS W)) (sN (wS W))) = nI (sm (sC (wS W)) (sN (wS W))) + nI (dg (sC (wS W)) (sN (wS W))) by rw [nI_add, Nat.add_comm]) z, fun _ => ctK (qc 0 (by decide)) s3 fun N4 G4 R4 J4 s4 => ptK (qp_n ok) s4 fun N5 G5 R5 J5 s5 => ⟨fun z => absurd rfl z, fun _ => ptK qp_m s5 fun N6 G6 R6 J6 s6 => ⟨fun z => absurd rfl z, fun _ => ctK (qc 6 (by decide)) s6 fun N7 G7 R7 J7 s7 => mvK (qm_n ok) s7 fun N8 G8 R8 J8 s8 => ⟨fun z => absurd rfl z, fun _ => mvK qm_m s8 fun N9 G9 R9 J9 s9 => ⟨fun z => absurd rfl z, fun _ => ⟨Or.inr rfl, Rn_q h s9⟩⟩⟩⟩⟩⟩)
  have a84 : ∀ (v5 : Option Value) (N1 : Nat) (G1 : oz_G) (R1 : oz_R) (J1 : oz_J), Rn N G W N1 G1 R1 → A 84 [some (.ref 0), some (.int (nI (mb (wS W) (sN (wS W))))), some (.int (nI (sm (sC (wS W)) (sN (wS W))))), some (.int (nI (hw (sN (wS W)) (sEx (wS W)) (sC (wS W))))), v5] [.int (nI 1)] N1 G1 R1 J1 0 := fun v5 N1 G1 R1 J1 s1 => by
    refine hC.1 [109] 60 84 _ _ _ _ _ _ _ ⟨fun z => absurd z (show ¬ nI 1 = nI 0 by decide), fun _ => ctK (qc 8 (by decide)) s1 fun N2 G2 R2 J2 s2 => ⟨fun z => ⟨fun z2 => absurd ?_ z2, fun _ => a109 _ _ _ _ _ _ _ s2⟩, fun z => ⟨fun z2 => absurd ?_ z2, fun _ => a109 _ _ _ _ _ _ _ s2⟩⟩⟩
    · have z : ¬ nI (hw (sN (wS W)) (sEx (wS W)) (sC (wS W))) = nI 0 := z
      show nI (ms (sN (wS W)) (sEx (wS W)) (sC (wS W)) (sN (wS W))) = nI 0
      rcases hcs with ⟨e, e2⟩ | ⟨e, e1, e2⟩ | ⟨e, e1, e3, e2⟩ | ⟨e, e1⟩
      · rw [e2]
      · rw [e2]
      · rw [e2]
      · exact absurd (by rw [e]) z
    · have z : ¬ ¬ nI (hw (sN (wS W)) (sEx (wS W)) (sC (wS W))) = nI 0 := z
      have z := Classical.not_not.mp z
      show nI (ms (sN (wS W)) (sEx (wS W)) (sC (wS W)) (sN (wS W))) = nI (mb (wS W) (sN (wS W)))
      rcases hcs with ⟨e, e2⟩ | ⟨e, e1, e2⟩ | ⟨e, e1, e3, e2⟩ | ⟨e, e1, e3, e4, e5⟩
      · rw [e] at z; exact absurd z (by decide)
      · rw [e] at z; exact absurd z (by decide)
      · rw [e] at z; exact absurd z (by decide)
      · rw [e4]
  have a47 : ∀ (v4 v5 : Option Value) (N1 : Nat) (G1 : oz_G) (R1 : oz_R) (J1 : oz_J), Rn N G W N1 G1 R1 → A 47 [some (.ref 0), some (.int (nI (mb (wS W) (sN (wS W))))), some (.int (nI (sm (sC (wS W)) (sN (wS W))))), v4, v5] [] N1 G1 R1 J1 0 := fun v4 v5 N1 G1 R1 J1 s1 => by
    refine hC.1 [84] 60 47 _ _ _ _ _ _ _ (ctK (qc 3 (by decide)) s1 fun N2 G2 R2 J2 s2 => ⟨fun _ => a84 _ _ _ _ _ s2, fun q => ⟨fun qs => ⟨fun qm => ⟨fun z => absurd ?_ z, fun _ => a84 _ _ _ _ _ s2⟩, fun qm => ⟨fun z => absurd ?_ z, fun _ => a84 _ _ _ _ _ s2⟩⟩, fun qs => ⟨fun z => absurd ?_ z, fun _ => a84 _ _ _ _ _ s2⟩⟩⟩)
    all_goals
      have q : ¬ nI (hw (sN (wS W)) (sEx (wS W)) (sC (wS W))) = nI 2 := q
    · have qs : ¬ nI (sm (sC (wS W)) (sN (wS W))) = nI 0 := qs
      have qm : ¬ nI (mb (wS W) (sN (wS W))) = nI 0 := qm
      show nI (hw (sN (wS W)) (sEx (wS W)) (sC (wS W))) = nI 0
      rcases hcs with ⟨e, e2⟩ | ⟨e, e1, e2⟩ | ⟨e, e1, e3, e2⟩ | ⟨e, e1⟩
      · exact absurd (by rw [e]) q
      · exact absurd (by rw [e1]) qs
      · exact absurd (by rw [e3]) qm
      · rw [e]
    · have qs : ¬ nI (sm (sC (wS W)) (sN (wS W))) = nI 0 := qs
      have qm : ¬ ¬ nI (mb (wS W) (sN (wS W))) = nI 0 := qm
      have qm := Classical.not_not.mp qm
      rw [nI_eq (by omega) (by decide)] at qm
      show nI (hw (sN (wS W)) (sEx (wS W)) (sC (wS W))) = nI 3
      rcases hcs with ⟨e, e2⟩ | ⟨e, e1, e2⟩ | ⟨e, e1, e3, e2⟩ | ⟨e, e1, e3, e4⟩
      · exact absurd (by rw [e]) q
      · exact absurd (by rw [e1]) qs
      · rw [e]
      · exact absurd qm e3
    · have qs : ¬ ¬ nI (sm (sC (wS W)) (sN (wS W))) = nI 0 := qs
      have qs := Classical.not_not.mp qs
      rw [nI_eq (by omega) (by decide)] at qs
      show nI (hw (sN (wS W)) (sEx (wS W)) (sC (wS W))) = nI 1
      rcases hcs with ⟨e, e2⟩ | ⟨e, e1, e2⟩ | ⟨e, e1, e3, e2⟩ | ⟨e, e1, e3, e4⟩
      · exact absurd (by rw [e]) q
      · rw [e]
      · exact absurd qs e1
      · exact absurd qs e1
  have loop : ∀ f i, i + f = sN (wS W) → ∀ (N1 : Nat) (G1 : oz_G) (R1 : oz_R) (J1 : oz_J), Rn N G W N1 G1 R1 → A 6 [some (.ref 0), some (.int (nI (mb (wS W) i))), some (.int (nI (sm (sC (wS W)) i))), some (.int (nI i)), none] [] N1 G1 R1 J1 0 := by
    intro f
    induction f with
    | zero =>
      intro i hi N1 G1 R1 J1 s1
      have hi : i = sN (wS W) := by omega
      subst hi
      exact hC.1 [47] 40 6 _ _ _ _ _ _ _ (ctK (qc 0 (by decide)) s1 fun N2 G2 R2 J2 s2 => ⟨fun _ => a47 _ _ _ _ _ _ s2, fun q => absurd (nI_le (Nat.le_refl _) (by omega)) q⟩)
    | succ f ih =>
      intro i hi N1 G1 R1 J1 s1
      have hin : i < sN (wS W) := by omega
      have hcb := cb_le (S := wS W) (i := i)
      refine hC.1 [6] 60 6 _ _ _ _ _ _ _ (ctK (qc 0 (by decide)) s1 fun N2 G2 R2 J2 s2 => ⟨fun q => absurd q (nI_ge hin (by omega)), fun _ => csK hin s2 fun N3 G3 R3 J3 s3 => ⟨fun q => ptK (qp ok hin) s3 fun N4 G4 R4 J4 s4 => ?_, fun q => ptK (qp ok hin) s3 fun N4 G4 R4 J4 s4 => ?_⟩⟩)
      · have q : nI (cb (wS W) i) = nI 0 := q
        rw [nI_eq (by omega) (by decide)] at q
        have hih := ih (i + 1) (by omega) N4 G4 R4 J4 s4
        have e : nI (mb (wS W) (i + 1)) = nI (mb (wS W) i) ||| nI 0 := by
          show nI (mb (wS W) i + cb (wS W) i * 2 ^ i) = _
          rw [q, Nat.zero_mul, Nat.add_zero]
          exact (Int32.or_zero).symm
        have e2 : nI (sm (sC (wS W)) (i + 1)) = nI (sm (sC (wS W)) i) + nI (dg (sC (wS W)) i) := by rw [nI_add]; rfl
        rw [e, e2, ← nI_add i 1] at hih
        exact hih
      · have q : ¬ nI (cb (wS W) i) = nI 0 := q
        have q1 : cb (wS W) i = 1 := by
          rcases Nat.eq_zero_or_pos (cb (wS W) i) with z | z
          · exact absurd (by rw [z]) q
          · omega
        have hih := ih (i + 1) (by omega) N4 G4 R4 J4 s4
        have e : nI (mb (wS W) (i + 1)) = nI (mb (wS W) i) ||| (nI 1 <<< (nI i &&& 31)) := by
          rw [mx_shl1 i (by omega), mx_or (mb_lt (wS W) i)]
          show nI (mb (wS W) i + cb (wS W) i * 2 ^ i) = _
          rw [q1, Nat.one_mul]
        have e2 : nI (sm (sC (wS W)) (i + 1)) = nI (sm (sC (wS W)) i) + nI (dg (sC (wS W)) i) := by rw [nI_add]; rfl
        rw [e, e2, ← nI_add i 1] at hih
        exact hih
  exact hC.1 [6] 30 0 _ _ _ _ _ _ _ (loop (sN (wS W)) 0 (by omega) _ _ _ _ (Rn_0 c0 ok))
/-! same -/
def t_L_same : oz_T := (P_L_same, e_L, [(9, 1, 2, 0, s_X5_count), (15, 1, 2, 0, s_X5_pit)], (false, 44, none, true, 0), (0, fun _ => 0))
def arO (N b : Nat) : Prop := 44 ≤ b ∧ oz_k b = 6 ∧ oz_l b = 7 ∧ b < N
def s_L_same : oz_S := fun a N G R J Φ => match a with
  | [.ref z, .ref b] => z = 0 ∧ ∃ W, CR N G R W ∧ wOk W ∧ arO N b ∧ (∀ k, k ≤ sN (wS W) → G b k = nI (dg (sC (wS W)) k)) ∧ pQ N G W Φ (nI 1, W)
  | _ => False
theorem fit_L_same : ∀ a N G R J Φ, s_L_same a N G R J Φ → oz_fit a 3 := by
  intro a N G R J Φ h
  unfold s_L_same at h
  split at h
  · exact oz_fit_of (Nat.le_of_ble_eq_true rfl) rfl
  · exact h.elim
theorem I_L_same : oz_Imp t_L_same 3 s_L_same := by
  intro Φ A a N G R J hN hS hC
  obtain ⟨b, rfl, W, c0, ok, ⟨hb, hk, hl, hbN⟩, hv, h⟩ : ∃ b, a = [.ref 0, .ref b] ∧ ∃ W, CR N G R W ∧ wOk W ∧ arO N b ∧ (∀ k, k ≤ sN (wS W) → G b k = nI (dg (sC (wS W)) k)) ∧ pQ N G W Φ (nI 1, W) := by
    unfold s_L_same at hS
    split at hS
    · obtain ⟨rfl, hS⟩ := hS
      exact ⟨_, rfl, hS⟩
    · exact hS.elim
  have h6 := ok.1.2.1
  have loop : ∀ f i, i + f = sN (wS W) + 1 → ∀ (N1 : Nat) (G1 : oz_G) (R1 : oz_R) (J1 : oz_J), Rn N G W N1 G1 R1 → A 2 [some (.ref 0), some (.ref b), some (.int (nI i))] [] N1 G1 R1 J1 0 := by
    intro f
    induction f with
    | zero =>
      intro i hi N1 G1 R1 J1 s1
      exact hC.1 [] 40 2 _ _ _ _ _ _ _ (ctK (qc 0 (by decide)) s1 fun N2 G2 R2 J2 s2 => ⟨fun _ => ⟨Or.inr rfl, Rn_q h s2⟩, fun q => absurd (nI_lt (show sN (wS W) < i by omega) (by omega)) q⟩)
    | succ f ih =>
      intro i hi N1 G1 R1 J1 s1
      have fin : ∀ (N3 : Nat) (G3 : oz_G) (R3 : oz_R) (J3 : oz_J), Rn N G W N3 G3 R3 → A 33 [some (.ref 0), some (.ref b), some (.int (nI i))] [.int (nI (dg (sC (wS W)) i))] N3 G3 R3 J3 0 := fun N3 G3 R3 J3 s3 => by
        have hih := ih (i + 1) (by omega) N3 G3 R3 J3 s3
        rw [← nI_add i 1] at hih
        refine hC.1 [2] 40 33 _ _ _ _ _ _ _ ⟨⟨hk, Nat.lt_of_lt_of_le hbN s3.1⟩, i, rfl, by rw [hl]; omega, fun _ => hih, fun z => absurd ?_ z⟩
        show nI (dg (sC (wS W)) i) = G3 b i
        rw [s3.2.1 b hb (by omega), hv i (by omega)]
      refine hC.1 [33] 40 2 _ _ _ _ _ _ _ (ctK (qc 0 (by decide)) s1 fun N2 G2 R2 J2 s2 => ⟨fun q => absurd q (nI_nlt (show i ≤ sN (wS W) by omega) (by omega)), fun _ => ctK (qc 0 (by decide)) s2 fun N3 G3 R3 J3 s3 => ⟨fun q => ctK (qc 1 (by decide)) s3 fun N4 G4 R4 J4 s4 => ?_, fun q => ptK (qp ok ?_) s3 fun N4 G4 R4 J4 s4 => fin _ _ _ _ s4⟩⟩)
      · have q : nI (sN (wS W)) ≤ nI i := q
        rw [nI_leI (by omega) (by omega)] at q
        have hin : i = sN (wS W) := by omega
        have hf := fin N4 G4 R4 J4 s4
        rw [hin] at hf ⊢
        exact hf
      · have q : ¬ nI (sN (wS W)) ≤ nI i := q
        rw [nI_leI (by omega) (by omega)] at q
        omega
  exact hC.1 [2] 30 0 _ _ _ _ _ _ _ (loop (sN (wS W) + 1) 0 (by omega) _ _ _ _ (Rn_0 c0 ok))
