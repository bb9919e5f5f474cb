/-! the packed row's methods with loops -/
def pw (c : Nat) : Nat → Nat
  | 0 => 0
  | n + 1 => pw c n + (if 0 < dg c n then 1 else 0)
theorem pw_le (c : Nat) : ∀ n, pw c n ≤ n
  | 0 => Nat.le_refl _
  | n + 1 => by
    have := pw_le c n
    show pw c n + _ ≤ _
    split <;> omega
def t_X1_pitsWithSeeds : oz_T := (P_X1_pitsWithSeeds, e_X1, [(17, 0, 2, 0, s_X1_seedsAt)], (true, 0, none, false, 0), (0, fun _ => 0))
def s_X1_pitsWithSeeds : oz_S := oz_i2 fun x y N G R J Φ => ∃ P n, x = nI P ∧ y = nI n ∧ P < 2 ^ 32 ∧ n < 8 ∧ Φ (some (.int (nI (pw P n)))) N G R J
theorem I_X1_pitsWithSeeds : oz_Imp t_X1_pitsWithSeeds 4 s_X1_pitsWithSeeds := by
  intro Φ A a N G R J hN hS hC
  obtain ⟨x, y, rfl, P, n, rfl, rfl, hP, hn, h⟩ := oz_i2_e hS
  have loop : ∀ f i, i + f = n → A 4 [some (.int (nI P)), some (.int (nI n)), some (.int (nI (pw P i))), some (.int (nI i))] [] N G R J 0 := by
    intro f
    induction f with
    | zero =>
      intro i hi
      have : i = n := by omega
      subst this
      exact hC.1 [4] 30 4 _ _ _ _ _ _ _ ⟨fun _ => h, fun hc => absurd (nI_le (Nat.le_refl _) (by omega)) hc⟩
    | succ f ih =>
      intro i hi
      have hih := ih (i + 1) (by omega)
      have hd := dg_lt P i
      refine hC.1 [4] 30 4 _ _ _ _ _ _ _ ⟨fun hc => absurd hc (nI_ge (by omega) (by omega)), fun _ => ⟨fun hc => ?_, fun hc => ?_⟩⟩
      · have hc : rw_at (nI P) (nI i) ≤ 0 := hc
        rw [rw_at_n hP (by omega)] at hc
        have h0 : ¬ 0 < dg P i := fun q => nI_nle q (by omega) hc
        have e1 : pw P (i + 1) = pw P i := by show pw P i + _ = _; rw [if_neg h0]; rfl
        rw [e1, ← nI_add] at hih
        exact hih
      · have hc : ¬ rw_at (nI P) (nI i) ≤ 0 := hc
        rw [rw_at_n hP (by omega)] at hc
        have h0 : 0 < dg P i := by
          rcases Nat.eq_zero_or_pos (dg P i) with q | q
          · rw [q] at hc; exact absurd (by decide) hc
          · exact q
        have e1 : pw P (i + 1) = pw P i + 1 := by show pw P i + _ = _; rw [if_pos h0]
        rw [e1, ← nI_add, ← nI_add] at hih
        exact hih
  exact hC.1 [4] 30 0 _ _ _ _ _ _ _ (loop n 0 (by omega))
/-- as many seeds in each pit -/
def ev (s : Nat) : Nat → Nat
  | 0 => 0
  | n + 1 => ev s n + s * 16 ^ n
def t_X1_evenly : oz_T := (P_X1_evenly, e_X1, [(21, 0, 2, 0, s_X1_seeds)], (true, 0, none, false, 0), (0, fun _ => 0))
def s_X1_evenly : oz_S := oz_i2 fun x y N G R J Φ => ∃ n s, x = nI n ∧ y = nI s ∧ n < 8 ∧ s < 16 ∧ Φ (some (.int (nI (ev s n)))) N G R J
theorem mx_sd {a q : Nat} (ha : a < 16) (hq : q < 8) : a * 16 ^ q < 2 ^ 32 := by
  have h1 : (16 : Nat) ^ q ≤ 16 ^ 7 := Nat.pow_le_pow_right (by decide) (by omega)
  have h2 : a * 16 ^ q ≤ 15 * 16 ^ 7 := Nat.mul_le_mul (by omega) h1
  exact Nat.lt_of_le_of_lt h2 (by decide)
theorem I_X1_evenly : oz_Imp t_X1_evenly 4 s_X1_evenly := by
  intro Φ A a N G R J hN hS hC
  obtain ⟨x, y, rfl, n, s, rfl, rfl, hn, hs, h⟩ := oz_i2_e hS
  have loop : ∀ f i, i + f = n → A 4 [some (.int (nI n)), some (.int (nI s)), some (.int (nI (ev s i))), some (.int (nI i))] [] N G R J 0 := by
    intro f
    induction f with
    | zero =>
      intro i hi
      have : i = n := by omega
      subst this
      exact hC.1 [4] 30 4 _ _ _ _ _ _ _ ⟨fun _ => h, fun hc => absurd (nI_le (Nat.le_refl _) (by omega)) hc⟩
    | succ f ih =>
      intro i hi
      have := ih (i + 1) (by omega)
      have e1 : nI (ev s (i + 1)) = nI (ev s i) + rw_sd (nI s) (nI i) := by rw [rw_sd_n (by omega) (mx_sd hs (by omega)), nI_add]; rfl
      rw [e1, ← nI_add] at this
      exact hC.1 [4] 30 4 _ _ _ _ _ _ _ ⟨fun hc => absurd hc (nI_ge (by omega) (by omega)), fun _ => this⟩
  exact hC.1 [4] 30 0 _ _ _ _ _ _ _ (loop n 0 (by omega))
def t_X1_lastOfFirstLap : oz_T := (P_X1_lastOfFirstLap, e_X1, [(17, 0, 2, 0, s_X1_seedsAt), (24, 0, 2, 0, s_X1_next)], (true, 0, none, false, 0), (0, fun _ => 0))
def s_X1_lastOfFirstLap : oz_S := oz_i3 fun x y z N G R J Φ => ∃ P n i, x = nI P ∧ y = nI n ∧ z = nI i ∧ P < 2 ^ 32 ∧ n < 8 ∧ i ≤ n ∧ Φ (some (.int (nI (nxs n (dg P i) i)))) N G R J
theorem I_X1_lastOfFirstLap : oz_Imp t_X1_lastOfFirstLap 5 s_X1_lastOfFirstLap := by
  intro Φ A a N G R J hN hS hC
  obtain ⟨x, y, z, rfl, P, n, i, rfl, rfl, rfl, hP, hn, hi, h⟩ := oz_i3_e hS
  have loop : ∀ f la, la ≤ n → f < 16 → nxs n f la = nxs n (dg P i) i → A 9 [some (.int (nI P)), some (.int (nI n)), some (.int (nI i)), some (.int (nI la)), some (.int (nI f))] [] N G R J 0 := by
    intro f
    induction f with
    | zero =>
      intro la hla hf e
      have e : la = nxs n (dg P i) i := e
      rw [← e] at h
      exact hC.1 [9] 30 9 _ _ _ _ _ _ _ ⟨fun _ => h, fun hc => absurd (show nI 0 ≤ (0 : Int32) by decide) hc⟩
    | succ f ih =>
      intro la hla hf e
      have := ih (nx n la) nx_le (by omega) e
      have e1 : nI (nx n la) = rw_nx (nI la) (nI n) := (rw_nx_n (by omega) (by omega)).symm
      have e2 : nI f = nI (f + 1) + oz_c (-1) := (pk_m1 f).symm
      rw [e1, e2] at this
      exact hC.1 [9] 30 9 _ _ _ _ _ _ _ ⟨fun hc => absurd hc (nI_nle (by omega) (by omega)), fun _ => this⟩
  have h0 := loop (dg P i) i hi (dg_lt P i) rfl
  rw [← rw_at_n hP (by omega)] at h0
  exact hC.1 [9] 30 0 _ _ _ _ _ _ _ h0
/-- the greatest distance that has seeds, up to so many -/
def fa (c : Nat) : Nat → Nat
  | 0 => 0
  | n + 1 => if 0 < dg c n then n + 1 else fa c n
theorem fa_le (c : Nat) : ∀ n, fa c n ≤ n
  | 0 => Nat.le_refl _
  | n + 1 => by
    have := fa_le c n
    show (if _ then _ else _) ≤ _
    split
    · exact Nat.le_refl _
    · exact Nat.le_succ_of_le this
def t_X1_farthest : oz_T := (P_X1_farthest, e_X1, [(17, 0, 2, 0, s_X1_seedsAt)], (true, 0, none, false, 0), (0, fun _ => 0))
def s_X1_farthest : oz_S := oz_i1 fun x N G R J Φ => ∃ P, x = nI P ∧ P < 2 ^ 32 ∧ Φ (some (.int (nI (fa P 6)))) N G R J
theorem I_X1_farthest : oz_Imp t_X1_farthest 3 s_X1_farthest := by
  intro Φ A a N G R J hN hS hC
  obtain ⟨x, rfl, P, rfl, hP, h⟩ := oz_i1_e hS
  have loop : ∀ f i, i + f = 6 → A 4 [some (.int (nI P)), some (.int (nI (fa P i))), some (.int (nI (i + 1)))] [] N G R J 0 := by
    intro f
    induction f with
    | zero =>
      intro i hi
      have : i = 6 := by omega
      subst this
      exact hC.1 [4] 30 4 _ _ _ _ _ _ _ ⟨fun _ => h, fun hc => absurd (show (oz_c 6) < nI 7 by decide) hc⟩
    | succ f ih =>
      intro i hi
      have hih := ih (i + 1) (by omega)
      have hd := dg_lt P i
      have e0 : nI (i + 1) - oz_c 1 = nI i := by
        rw [show oz_c 1 = nI 1 from rfl, pk_sub (by omega)]; rfl
      refine hC.1 [4] 30 4 _ _ _ _ _ _ _ ⟨fun hc => absurd hc (nI_nlt (a := 6) (b := i + 1) (by omega) (by omega)), fun _ => ⟨fun hc => ?_, fun hc => ?_⟩⟩
      · have hc : rw_at (nI P) (nI (i + 1) - oz_c 1) ≤ 0 := hc
        rw [e0, rw_at_n hP (by omega)] at hc
        have h0 : ¬ 0 < dg P i := fun q => nI_nle q (by omega) hc
        have e1 : fa P (i + 1) = fa P i := by show (if _ then _ else _) = _; rw [if_neg h0]
        rw [e1, ← nI_add (i + 1) 1] at hih
        exact hih
      · have hc : ¬ rw_at (nI P) (nI (i + 1) - oz_c 1) ≤ 0 := hc
        rw [e0, rw_at_n hP (by omega)] at hc
        have h0 : 0 < dg P i := by
          rcases Nat.eq_zero_or_pos (dg P i) with q | q
          · rw [q] at hc; exact absurd (by decide) hc
          · exact q
        have e1 : fa P (i + 1) = i + 1 := by show (if _ then _ else _) = _; rw [if_pos h0]
        rw [e1, ← nI_add (i + 1) 1] at hih
        exact hih
  exact hC.1 [4] 30 0 _ _ _ _ _ _ _ (loop 6 0 (by omega))
/-- the other way round -/
def tr (c n : Nat) : Nat → Nat
  | 0 => 0
  | i + 1 => tr c n i + dg c (n - 1 - i) * 16 ^ i
def t_X1_turnedRound : oz_T := (P_X1_turnedRound, e_X1, [(17, 0, 2, 0, s_X1_seedsAt), (21, 0, 2, 0, s_X1_seeds)], (true, 0, none, false, 0), (0, fun _ => 0))
def s_X1_turnedRound : oz_S := oz_i2 fun x y N G R J Φ => ∃ P n, x = nI P ∧ y = nI n ∧ P < 2 ^ 32 ∧ n < 8 ∧ Φ (some (.int (nI (tr P n n)))) N G R J
theorem I_X1_turnedRound : oz_Imp t_X1_turnedRound 4 s_X1_turnedRound := by
  intro Φ A a N G R J hN hS hC
  obtain ⟨x, y, rfl, P, n, rfl, rfl, hP, hn, h⟩ := oz_i2_e hS
  have loop : ∀ f i, i + f = n → A 4 [some (.int (nI P)), some (.int (nI n)), some (.int (nI (tr P n i))), some (.int (nI i))] [] N G R J 0 := by
    intro f
    induction f with
    | zero =>
      intro i hi
      have : i = n := by omega
      subst this
      exact hC.1 [4] 30 4 _ _ _ _ _ _ _ ⟨fun _ => h, fun hc => absurd (nI_le (Nat.le_refl _) (by omega)) hc⟩
    | succ f ih =>
      intro i hi
      have := ih (i + 1) (by omega)
      have e0 : nI n - oz_c 1 - nI i = nI (n - 1 - i) := by
        rw [show oz_c 1 = nI 1 from rfl, pk_sub (by omega), pk_sub (by omega)]
      have e1 : nI (tr P n (i + 1)) = nI (tr P n i) + rw_sd (rw_at (nI P) (nI n - oz_c 1 - nI i)) (nI i) := by
        rw [e0, rw_at_n hP (by omega), rw_sd_n (by omega) (mx_sd (dg_lt _ _) (by omega)), nI_add]; rfl
      rw [e1, ← nI_add] at this
      exact hC.1 [4] 40 4 _ _ _ _ _ _ _ ⟨fun hc => absurd hc (nI_ge (by omega) (by omega)), fun _ => this⟩
  exact hC.1 [4] 30 0 _ _ _ _ _ _ _ (loop n 0 (by omega))
/-- the exact position, from the store: a seed more -/
def xi : Nat → Nat → Nat → Nat × Nat
  | 0, r, e => (r, e)
  | f + 1, r, e => if 0 < dg r e then xi f (r - 16 ^ e) (e + 1) else (r, e)
def xf : Nat → Nat
  | 0 => 0
  | s + 1 => (xi 6 (xf s) 0).1 + ((xi 6 (xf s) 0).2 + 1) * 16 ^ (xi 6 (xf s) 0).2
def t_X1_exactFromStore : oz_T := (P_X1_exactFromStore, e_X1, [(17, 0, 2, 0, s_X1_seedsAt), (21, 0, 2, 0, s_X1_seeds)], (true, 0, none, false, 0), (0, fun _ => 0))
def s_X1_exactFromStore : oz_S := oz_i1 fun x N G R J Φ => ∃ s, x = nI s ∧ s < 15 ∧ Φ (some (.int (nI (xf s)))) N G R J
theorem xf_lt : ∀ s, s < 15 → xf s < 2 ^ 28 := by decide
theorem xi_le : ∀ (f r e : Nat), (xi f r e).1 ≤ r ∧ (xi f r e).2 ≤ e + f
  | 0, r, e => ⟨Nat.le_refl _, Nat.le_refl _⟩
  | f + 1, r, e => by
    show (if 0 < dg r e then xi f (r - 16 ^ e) (e + 1) else (r, e)).1 ≤ r ∧ (if 0 < dg r e then xi f (r - 16 ^ e) (e + 1) else (r, e)).2 ≤ _
    split
    · have := xi_le f (r - 16 ^ e) (e + 1)
      exact ⟨Nat.le_trans this.1 (Nat.sub_le _ _), by omega⟩
    · exact ⟨Nat.le_refl _, Nat.le_add_right _ _⟩
theorem I_X1_exactFromStore : oz_Imp t_X1_exactFromStore 4 s_X1_exactFromStore := by
  intro Φ A a N G R J hN hS hC
  obtain ⟨x, rfl, s, rfl, hs, h⟩ := oz_i1_e hS
  have inner : ∀ (i : Nat), i < s → A 4 [some (.int (nI s)), some (.int (nI (xf (i + 1)))), some (.int (nI (i + 1))), none] [] N G R J 0 → ∀ f r e, e + f = 6 → r < 2 ^ 28 → xi f r e = xi 6 (xf i) 0 → A 11 [some (.int (nI s)), some (.int (nI r)), some (.int (nI i)), some (.int (nI e))] [] N G R J 0 := by
    intro i hi hnext
    have out : ∀ r e, e ≤ 6 → r < 2 ^ 28 → (r, e) = xi 6 (xf i) 0 → A 39 [some (.int (nI s)), some (.int (nI r)), some (.int (nI i)), some (.int (nI e))] [] N G R J 0 := by
      intro r e he hr hx
      have e1 : nI (xf (i + 1)) = nI r + rw_sd (nI e + oz_c 1) (nI e) := by
        rw [show oz_c 1 = nI 1 from rfl, nI_add, rw_sd_n (by omega) (mx_sd (by omega) (by omega)), nI_add]
        show nI ((xi 6 (xf i) 0).1 + ((xi 6 (xf i) 0).2 + 1) * 16 ^ (xi 6 (xf i) 0).2) = _
        rw [← hx]
      rw [e1, ← nI_add i 1] at hnext
      refine hC.1 [4] 30 39 _ _ _ _ _ _ _ (hC.2.1 4 _ _ _ _ _ _ _ _ ?_ ?_ hnext)
      · rfl
      · intro j v hv
        match j, hv with
        | 0, hv => exact hv
        | 1, hv => exact hv
        | 2, hv => exact hv
        | 3, hv => cases hv
        | j + 4, hv => cases hv
    intro f
    induction f with
    | zero =>
      intro r e he hr hx
      have : e = 6 := by omega
      subst this
      exact hC.1 [39] 30 11 _ _ _ _ _ _ _ ⟨fun _ => out r 6 (by omega) hr hx, fun hc => absurd (show (oz_c 6) ≤ nI 6 by decide) hc⟩
    | succ f ih =>
      intro r e he hr hx
      have hd := dg_lt r e
      refine hC.1 [11, 39] 30 11 _ _ _ _ _ _ _ ⟨fun hc => absurd hc (nI_ge (a := e) (b := 6) (by omega) (by omega)), fun _ => ⟨fun hc => ?_, fun hc => ?_⟩⟩
      · have hc : rw_at (nI r) (nI e) ≤ 0 := hc
        rw [rw_at_n (by omega) (by omega)] at hc
        have h0 : ¬ 0 < dg r e := fun q => nI_nle q (by omega) hc
        have e1 : xi (f + 1) r e = (r, e) := by show (if _ then _ else _) = _; rw [if_neg h0]
        exact out r e (by omega) hr (by rw [← e1]; exact hx)
      · have hc : ¬ rw_at (nI r) (nI e) ≤ 0 := hc
        rw [rw_at_n (by omega) (by omega)] at hc
        have h0 : 0 < dg r e := by
          rcases Nat.eq_zero_or_pos (dg r e) with q | q
          · rw [q] at hc; exact absurd (by decide) hc
          · exact q
        have e1 : xi (f + 1) r e = xi f (r - 16 ^ e) (e + 1) := by show (if _ then _ else _) = _; rw [if_pos h0]
        have hle : 16 ^ e ≤ r := Nat.le_trans (by
          have := Nat.mul_le_mul_right (16 ^ e) h0
          omega) (dg_le r e)
        have := ih (r - 16 ^ e) (e + 1) (by omega) (Nat.lt_of_le_of_lt (Nat.sub_le _ _) hr) (by rw [← e1]; exact hx)
        have e2 : nI (r - 16 ^ e) = nI r - rw_sd (oz_c 1) (nI e) := by
          rw [show oz_c 1 = nI 1 from rfl, rw_sd_n (by omega) (mx_sd (by omega) (by omega)), Nat.one_mul, pk_sub hle]
        rw [e2, ← nI_add e 1] at this
        exact this
  have loop : ∀ f i, i + f = s → A 4 [some (.int (nI s)), some (.int (nI (xf i))), some (.int (nI i)), none] [] N G R J 0 := by
    intro f
    induction f with
    | zero =>
      intro i hi
      have : i = s := by omega
      subst this
      exact hC.1 [4] 30 4 _ _ _ _ _ _ _ ⟨fun _ => h, fun hc => absurd (nI_le (Nat.le_refl _) (by omega)) hc⟩
    | succ f ih =>
      intro i hi
      have := inner i (by omega) (ih (i + 1) (by omega)) 6 (xf i) 0 (by omega) (xf_lt i (by omega)) rfl
      exact hC.1 [11] 30 4 _ _ _ _ _ _ _ ⟨fun hc => absurd hc (nI_ge (by omega) (by omega)), fun _ => this⟩
  exact hC.1 [4] 30 0 _ _ _ _ _ _ _ (loop s 0 (by omega))
