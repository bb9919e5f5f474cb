/-! the class's state -/
abbrev e_X4 : List (Nat × Nat × Nat) × List (Nat × Int32) × List (Nat × Int64) × List (Nat × Nat) := (fl_X4, kt_X4, lt_X4, cn_X4)
def Ev (G : oz_G) (n rl ex : Nat) : Prop := G 1 1 = nI n ∧ G 2 0 = nI rl ∧ G 2 1 = nI ex ∧ 2 ≤ n ∧ n ≤ 6 ∧ rl ≤ 1 ∧ ex ≤ 1
/-- can a pit be sown -/
def lg (n ex c i : Nat) : Nat := if lo c = 0 ∧ 0 < dg c i ∧ (ex = 0 ∨ (i + dg c i) % (n + 1) = n) then 1 else 0
/-- which can, as a mask -/
def ms (n ex c : Nat) : Nat → Nat
  | 0 => 0
  | k + 1 => ms n ex c k + lg n ex c k * 2 ^ k
def hw (n ex c : Nat) : Nat := if lo c = 1 then 2 else if sm c n = 0 then 1 else if ms n ex c n = 0 then 3 else 0
theorem lg_le {n ex c i : Nat} : lg n ex c i ≤ 1 := by unfold lg; split <;> decide
theorem ms_lt (n ex c : Nat) : ∀ k, ms n ex c k < 2 ^ k
  | 0 => Nat.one_pos
  | k + 1 => by
    have h1 := ms_lt n ex c k
    have h2 : lg n ex c k * 2 ^ k ≤ 1 * 2 ^ k := Nat.mul_le_mul_right _ lg_le
    show ms n ex c k + _ < _
    rw [Nat.pow_succ]; omega
theorem lo_le {c : Nat} : lo c ≤ 1 := by unfold lo; omega
theorem lf_le {c : Nat} : lf c ≤ 1 := by unfold lf; omega
def t_X4_store : oz_T := (P_X4_store, e_X4, [(46, 0, 2, 0, s_X1_seedsAt)], (true, 44, none, false, 0), (0, fun _ => 0))
def s_X4_store : oz_S := oz_t0 1 fun N G R J Φ => Φ (some (.int (rw_at (G 1 2) (G 1 1)))) N G R J
theorem I_X4_store : oz_Imp t_X4_store 1 s_X4_store := by
  intro Φ A a N G R J hN hS hC
  obtain ⟨rfl, h⟩ := oz_t0_e hS
  exact hC.1 [] 20 0 _ _ _ _ _ _ _ h
def t_X4_canSow : oz_T := (P_X4_canSow, e_X4, [(50, 0, 1, 0, s_X1_isLost), (46, 0, 2, 0, s_X1_seedsAt), (54, 0, 3, 0, s_X1_lastOfFirstLap)], (true, 44, none, true, 0), (0, fun _ => 0))
def s_X4_canSow : oz_S := oz_t2 1 fun x y N G R J Φ => ∃ hi sl n rl ex c i, R = rmR hi sl ∧ Ev G n rl ex ∧ x = nI c ∧ y = nI i ∧ c < 2 ^ 30 ∧ i < n ∧ Φ (some (.int (nI (lg n ex c i)))) N G R J
theorem I_X4_canSow : oz_Imp t_X4_canSow 3 s_X4_canSow := by
  intro Φ A a N G R J hN hS hC
  obtain ⟨x, y, rfl, hi, sl, n, rl, ex, c, i, rfl, ⟨e1, e2, e3, e4, e5, e6, e7⟩, rfl, rfl, hc, hin, h⟩ := oz_t2_e hS
  have hd := dg_lt c i
  have hlo := lo_le (c := c)
  have r0 : rw_lo (nI c) = nI (lo c) := rw_lo_n
  have r1 : rw_at (nI c) (nI i) = nI (dg c i) := rw_at_n (by omega) (by omega)
  have no : lg n ex c i = 0 → Φ (some (.int (nI 0))) N G (rmR hi sl) J := fun q => by rw [q] at h; exact h
  have yes : lg n ex c i = 1 → Φ (some (.int (nI 1))) N G (rmR hi sl) J := fun q => by rw [q] at h; exact h
  refine hC.1 [] 60 0 _ _ _ _ _ _ _ ⟨fun hq => ?_, fun hq => ⟨fun hq2 => ⟨1, rfl, by decide, fun hq3 => ?_, fun hq3 => ?_⟩, fun hq2 => ?_⟩⟩
  · have hq : ¬ rw_lo (nI c) = 0 := hq
    rw [r0] at hq
    refine ⟨Or.inl rfl, no ?_⟩
    unfold lg
    rw [if_neg]
    intro z
    exact hq (by rw [z.1]; rfl)
  · have hq : ¬ ¬ rw_lo (nI c) = 0 := hq
    have hq := Classical.not_not.mp hq
    have hq3 : G 2 1 = 0 := hq3
    have hq2 : ¬ rw_at (nI c) (nI i) = 0 := hq2
    rw [r0] at hq
    rw [r1] at hq2
    refine ⟨Or.inr rfl, yes ?_⟩
    unfold lg
    rw [if_pos]
    refine ⟨?_, ?_, Or.inl ?_⟩
    · have : nI (lo c) = nI 0 := hq
      rwa [nI_eq (by omega) (by decide)] at this
    · rcases Nat.eq_zero_or_pos (dg c i) with z | z
      · rw [z] at hq2; exact absurd rfl hq2
      · exact z
    · rw [e3] at hq3
      have : nI ex = nI 0 := hq3
      rwa [nI_eq (by omega) (by decide)] at this
  · have hq : ¬ ¬ rw_lo (nI c) = 0 := hq
    have hq := Classical.not_not.mp hq
    have hq3 : ¬ G 2 1 = 0 := hq3
    have hq2 : ¬ rw_at (nI c) (nI i) = 0 := hq2
    rw [r0] at hq
    rw [r1] at hq2
    have h1 : lo c = 0 := by
      have : nI (lo c) = nI 0 := hq
      rwa [nI_eq (by omega) (by decide)] at this
    have h2 : 0 < dg c i := by
      rcases Nat.eq_zero_or_pos (dg c i) with z | z
      · rw [z] at hq2; exact absurd rfl hq2
      · exact z
    have h3 : ¬ ex = 0 := fun z => hq3 (by rw [e3, z]; rfl)
    refine ⟨c, n, i, rfl, e1, rfl, by omega, by omega, by omega, fun hq4 => ?_, fun hq4 => ?_⟩
    · have hq4 : ¬ nI (nxs n (dg c i) i) = G 1 1 := hq4
      rw [e1] at hq4
      refine ⟨Or.inl rfl, no ?_⟩
      unfold lg
      rw [if_neg]
      intro z
      rcases z.2.2 with z | z
      · exact h3 z
      · exact hq4 (by rw [nxs_mod _ _ (by omega), z])
    · have hq4 : ¬ ¬ nI (nxs n (dg c i) i) = G 1 1 := hq4
      have hq4 := Classical.not_not.mp hq4
      have hle := nxs_le (n := n) (dg c i) i (by omega)
      rw [e1, nI_eq (by omega) (by omega), nxs_mod _ _ (by omega)] at hq4
      refine ⟨Or.inr rfl, yes ?_⟩
      unfold lg
      rw [if_pos ⟨h1, h2, Or.inr hq4⟩]
  · have hq2 : ¬ ¬ rw_at (nI c) (nI i) = 0 := hq2
    have hq2 := Classical.not_not.mp hq2
    rw [r1] at hq2
    refine ⟨Or.inl rfl, no ?_⟩
    unfold lg
    rw [if_neg]
    intro z
    exact nI_ne0 z.2.1 (by omega) hq2
theorem mx_shl1 : ∀ i, i < 8 → (nI 1 <<< (nI i &&& 31) : Int32) = nI (2 ^ i) := by decide
theorem mx_or {a i : Nat} (h : a < 2 ^ i) : nI a ||| nI (2 ^ i) = nI (a + 2 ^ i) := by
  have h0 : nI a ||| nI (2 ^ i) = nI (a ||| 2 ^ i) := by
    apply Int32.toBitVec_inj.1
    show BitVec.ofNat 32 a ||| BitVec.ofNat 32 (2 ^ i) = BitVec.ofNat 32 (a ||| 2 ^ i)
    apply BitVec.eq_of_getLsbD_eq
    intro j hj
    simp [hj]
  have h2 := Nat.two_pow_add_eq_or_of_lt h 1
  rw [Nat.mul_one] at h2
  rw [h0, Nat.or_comm, ← h2, Nat.add_comm]
def t_X4_sowable : oz_T := (P_X4_sowable, e_X4, [(58, 1, 3, 0, s_X4_canSow)], (true, 44, none, false, 0), (0, fun _ => 0))
def s_X4_sowable : oz_S := oz_t1 1 fun x N G R J Φ => ∃ hi sl n rl ex c, R = rmR hi sl ∧ Ev G n rl ex ∧ x = nI c ∧ c < 2 ^ 30 ∧ Φ (some (.int (nI (ms n ex c n)))) N G R J
theorem I_X4_sowable : oz_Imp t_X4_sowable 4 s_X4_sowable := by
  intro Φ A a N G R J hN hS hC
  obtain ⟨x, rfl, hi, sl, n, rl, ex, c, rfl, hev, rfl, hc, h⟩ := oz_t1_e hS
  obtain ⟨e1, e2, e3, e4, e5, e6, e7⟩ := id hev
  have loop : ∀ f i, i + f = n → A 4 [some (.ref 1), some (.int (nI c)), some (.int (nI (ms n ex c i))), some (.int (nI i))] [] N G (rmR hi sl) J 0 := by
    intro f
    induction f with
    | zero =>
      intro i hif
      have : i = n := by omega
      subst this
      refine hC.1 [4] 30 4 _ _ _ _ _ _ _ ⟨fun _ => h, fun hq => absurd ?_ hq⟩
      show G 1 1 ≤ nI i
      rw [e1]
      exact nI_le (Nat.le_refl _) (by omega)
    | succ f ih =>
      intro i hif
      have hih := ih (i + 1) (by omega)
      refine hC.1 [4] 30 4 _ _ _ _ _ _ _ ⟨fun hq => absurd hq ?_, fun _ => ⟨hi, sl, n, rl, ex, c, i, rfl, hev, rfl, rfl, hc, by omega, fun hq => ?_, fun hq => ?_⟩⟩
      · show ¬ G 1 1 ≤ nI i
        rw [e1]
        exact nI_ge (by omega) (by omega)
      · have hq : nI (lg n ex c i) = nI 0 := hq
        rw [nI_eq (by have := lg_le (n := n) (ex := ex) (c := c) (i := i); omega) (by decide)] at hq
        have e : ms n ex c (i + 1) = ms n ex c i := by show ms n ex c i + _ = _; rw [hq, Nat.zero_mul, Nat.add_zero]
        rw [e, ← nI_add i 1] at hih
        exact hih
      · have hq : ¬ nI (lg n ex c i) = nI 0 := hq
        have hl : lg n ex c i = 1 := by
          have := lg_le (n := n) (ex := ex) (c := c) (i := i)
          rcases Nat.eq_zero_or_pos (lg n ex c i) with z | z
          · exact absurd (by rw [z]) hq
          · omega
        have e : nI (ms n ex c (i + 1)) = nI (ms n ex c i) ||| (nI 1 <<< (nI i &&& 31)) := by
          rw [mx_shl1 i (by omega), mx_or (ms_lt n ex c i)]
          show nI (ms n ex c i + lg n ex c i * 2 ^ i) = _
          rw [hl, Nat.one_mul]
        rw [e, ← nI_add i 1] at hih
        exact hih
  exact hC.1 [4] 30 0 _ _ _ _ _ _ _ (loop n 0 (by omega))
def t_X4_how : oz_T := (P_X4_how, e_X4, [(50, 0, 1, 0, s_X1_isLost), (62, 0, 2, 0, s_X1_inPits), (65, 1, 2, 0, s_X4_sowable)], (true, 44, none, false, 0), (0, fun _ => 0))
def s_X4_how : oz_S := oz_t1 1 fun x N G R J Φ => ∃ hi sl n rl ex c, R = rmR hi sl ∧ Ev G n rl ex ∧ x = nI c ∧ c < 2 ^ 30 ∧ Φ (some (.int (nI (hw n ex c)))) N G R J
theorem sm_lt (c : Nat) : ∀ n, sm c n ≤ 16 * n
  | 0 => Nat.le_refl _
  | n + 1 => by
    have := sm_lt c n
    have := dg_lt c n
    show sm c n + dg c n ≤ _
    omega
theorem I_X4_how : oz_Imp t_X4_how 2 s_X4_how := by
  intro Φ A a N G R J hN hS hC
  obtain ⟨x, rfl, hi, sl, n, rl, ex, c, rfl, hev, rfl, hc, h⟩ := oz_t1_e hS
  obtain ⟨e1, e2, e3, e4, e5, e6, e7⟩ := id hev
  have hsm := sm_lt c n
  have hms := ms_lt n ex c n
  have h26 : (2 : Nat) ^ n ≤ 2 ^ 6 := Nat.pow_le_pow_right (by decide) e5
  have hlo := lo_le (c := c)
  unfold hw at h
  refine hC.1 [] 60 0 _ _ _ _ _ _ _ ⟨fun hq => ⟨c, n, rfl, e1, by omega, by omega, fun hq2 => ⟨hi, sl, n, rl, ex, c, rfl, hev, rfl, hc, fun hq3 => ?_, fun hq3 => ?_⟩, fun hq2 => ?_⟩, fun hq => ?_⟩
  · have hq : rw_lo (nI c) = nI 0 := hq
    rw [rw_lo_n, nI_eq (by omega) (by decide)] at hq
    rw [if_neg (by omega)] at h
    have hq2 : ¬ nI (sm c n) = 0 := hq2
    have hq3 : ¬ nI (ms n ex c n) = 0 := hq3
    rw [if_neg (fun z => hq2 (by rw [z]; rfl)), if_neg (fun z => hq3 (by rw [z]; rfl))] at h
    exact h
  · have hq : rw_lo (nI c) = nI 0 := hq
    rw [rw_lo_n, nI_eq (by omega) (by decide)] at hq
    rw [if_neg (by omega)] at h
    have hq2 : ¬ nI (sm c n) = 0 := hq2
    have hq3 : ¬ ¬ nI (ms n ex c n) = nI 0 := hq3
    have hq3 := Classical.not_not.mp hq3
    rw [nI_eq (by omega) (by decide)] at hq3
    rw [if_neg (fun z => hq2 (by rw [z]; rfl)), if_pos hq3] at h
    exact h
  · have hq : rw_lo (nI c) = nI 0 := hq
    rw [rw_lo_n, nI_eq (by omega) (by decide)] at hq
    rw [if_neg (by omega)] at h
    have hq2 : ¬ ¬ nI (sm c n) = nI 0 := hq2
    have hq2 := Classical.not_not.mp hq2
    rw [nI_eq (by omega) (by decide)] at hq2
    rw [if_pos hq2] at h
    exact h
  · have hq : ¬ rw_lo (nI c) = nI 0 := hq
    rw [rw_lo_n] at hq
    have h1 : lo c = 1 := by
      rcases Nat.eq_zero_or_pos (lo c) with z | z
      · exact absurd (by rw [z]) hq
      · omega
    rw [if_pos h1] at h
    exact h
def t_X4_keep : oz_T := (P_X4_keep, e_X4, [], (true, 44, none, false, 0), (0, fun _ => 0))
def s_X4_keep : oz_S := oz_t2 1 fun x y N G R J Φ => ∃ hi sl len, R = rmR hi sl ∧ G 1 4 = nI len ∧ len < 20 ∧ Φ none N (oz2 (oz2 (oz2 (oz2 (oz2 G 3 len x) 4 len y) 5 len (G 1 2)) 1 4 (nI len + nI 1)) 1 3 (G 1 3 + nI 1)) R J
theorem I_X4_keep : oz_Imp t_X4_keep 3 s_X4_keep := by
  intro Φ A a N G R J hN hS hC
  obtain ⟨x, y, rfl, hi, sl, len, rfl, e1, hlen, h⟩ := oz_t2_e hS
  rw [← e1] at h
  refine hC.1 [] 80 0 _ _ _ _ _ _ _ ⟨fun _ => ⟨len, e1, by exact hlen, len, e1, by exact hlen, len, e1, by exact hlen, h⟩, fun hq => absurd ?_ hq⟩
  show G 1 4 < nI 20
  rw [e1]
  exact nI_lt hlen (by decide)
def t_X4_takeBack : oz_T := (P_X4_takeBack, e_X4, [], (true, 44, none, false, 0), (0, fun _ => 0))
def s_X4_takeBack : oz_S := oz_t0 1 fun N G R J Φ => ∃ hi sl len, R = rmR hi sl ∧ G 1 4 = nI (len + 1) ∧ len < 20 ∧ Φ (some (.int (G 3 len))) N (oz2 (oz2 (oz2 G 1 4 (nI len)) 1 3 (G 1 3 - nI 1)) 1 2 (G 5 len)) R J
theorem I_X4_takeBack : oz_Imp t_X4_takeBack 1 s_X4_takeBack := by
  intro Φ A a N G R J hN hS hC
  obtain ⟨rfl, hi, sl, len, rfl, e1, hlen, h⟩ := oz_t0_e hS
  have e2 : G 1 4 - nI 1 = nI len := by rw [e1, pk_sub (by omega)]; rfl
  rw [← e2] at h
  refine hC.1 [] 80 0 _ _ _ _ _ _ _ ⟨fun _ => ⟨len, e2, by exact hlen, len, e2, by exact hlen, h⟩, fun hq => absurd ?_ hq⟩
  show nI 0 < G 1 4
  rw [e1]
  exact nI_lt (by omega) (by omega)
def t_X4_keptPit : oz_T := (P_X4_keptPit, e_X4, [], (true, 44, none, false, 0), (0, fun _ => 0))
def s_X4_keptPit : oz_S := oz_t1 1 fun x N G R J Φ => ∃ hi sl len, R = rmR hi sl ∧ G 1 4 = nI len ∧ len ≤ 20 ∧ (∀ j, x = nI j → j < len → Φ (some (.int (G 3 (len - 1 - j)))) N G R J) ∧ (x < 0 ∨ nI len ≤ x → Φ (some (.int (oz_c (-6)))) N G R J)
theorem I_X4_keptPit : oz_Imp t_X4_keptPit 2 s_X4_keptPit := by
  intro Φ A a N G R J hN hS hC
  obtain ⟨x, rfl, hi, sl, len, rfl, e1, hlen, h1, h2⟩ := oz_t1_e hS
  refine hC.1 [] 80 0 _ _ _ _ _ _ _ ⟨fun hq => h2 (Or.inl hq), fun hq => ⟨fun hq2 => h2 (Or.inr ?_), fun hq2 => ?_⟩⟩
  · have hq2 : G 1 4 ≤ x := hq2
    rw [e1] at hq2
    exact hq2
  · have hq : ¬ x < 0 := hq
    have hq2 : ¬ G 1 4 ≤ x := hq2
    rw [e1] at hq2
    obtain ⟨j, hj, hx, -, -, -⟩ := pk_mu hq hq2 (by omega)
    refine ⟨len - 1 - j, ?_, by show _ < 20; omega, h1 j hx hj⟩
    show G 1 4 - nI 1 - x = _
    rw [e1, hx, pk_sub (by omega), pk_sub (by omega)]
def t_X4_latestLaps : oz_T := (P_X4_latestLaps, e_X4, [], (true, 44, none, false, 0), (0, fun _ => 0))
def s_X4_latestLaps : oz_S := oz_t0 1 fun N G R J Φ => ∃ hi sl len, R = rmR hi sl ∧ G 1 4 = nI len ∧ len ≤ 20 ∧ Φ (some (.int (if len = 0 then oz_c (-6) else G 4 (len - 1)))) N G R J
theorem I_X4_latestLaps : oz_Imp t_X4_latestLaps 1 s_X4_latestLaps := by
  intro Φ A a N G R J hN hS hC
  obtain ⟨rfl, hi, sl, len, rfl, e1, hlen, h⟩ := oz_t0_e hS
  refine hC.1 [] 80 0 _ _ _ _ _ _ _ ⟨fun hq => ?_, fun hq => ?_⟩
  · have hq : G 1 4 ≤ 0 := hq
    rw [e1] at hq
    have : len = 0 := by
      rcases Nat.eq_zero_or_pos len with z | z
      · exact z
      · exact absurd hq (nI_nle z (by omega))
    rw [if_pos this] at h
    exact h
  · have hq : ¬ G 1 4 ≤ 0 := hq
    rw [e1] at hq
    have : ¬ len = 0 := fun z => hq (by rw [z]; decide)
    rw [if_neg this] at h
    refine ⟨len - 1, ?_, by show _ < 20; omega, h⟩
    show G 1 4 - nI 1 = _
    rw [e1, pk_sub (by omega)]
