/-! the packed row's methods -/
abbrev e_X1 : List (Nat × Nat × Nat) × List (Nat × Int32) × List (Nat × Int64) × List (Nat × Nat) := (fl_X1, kt_X1, lt_X1, cn_X1)
def lf (c : Nat) : Nat := c / 2 ^ 28 % 2
def lo (c : Nat) : Nat := c / 2 ^ 29 % 2
def rw_lf (x : Int32) : Int32 := if x &&& nI 268435456 = 0 then nI 0 else nI 1
def rw_lo (x : Int32) : Int32 := if x &&& nI 536870912 = 0 then nI 0 else nI 1
def rw_aw (x : Int32) : Int32 := if rw_lf x ≤ 0 then x ||| nI 536870912 else x - nI 268435456
theorem mx_bit {c j : Nat} (hj : j < 31) : (nI c &&& nI (2 ^ j) = 0) ↔ c / 2 ^ j % 2 = 0 := by
  have h0 : nI c &&& nI (2 ^ j) = nI (c &&& 2 ^ j) := by
    apply Int32.toBitVec_inj.1
    show BitVec.ofNat 32 c &&& BitVec.ofNat 32 (2 ^ j) = BitVec.ofNat 32 (c &&& 2 ^ j)
    apply BitVec.eq_of_getLsbD_eq
    intro i hi
    simp [hi]
  have h2 : (2 : Nat) ^ j < 2 ^ 31 := Nat.pow_lt_pow_right (by decide) hj
  have hle : c &&& 2 ^ j ≤ 2 ^ j := Nat.and_le_right
  have e : c &&& 2 ^ j = 0 ↔ c / 2 ^ j % 2 = 0 := by
    have ht : c.testBit j = decide (c / 2 ^ j % 2 = 1) := Nat.testBit_eq_decide_div_mod_eq
    constructor
    · intro h
      have h1 : (c &&& 2 ^ j).testBit j = false := by rw [h]; simp
      rw [Nat.testBit_and, Nat.testBit_two_pow_self, Bool.and_true, ht] at h1
      have := of_decide_eq_false h1
      omega
    · intro h
      apply Nat.eq_of_testBit_eq
      intro i
      rw [Nat.testBit_and, Nat.zero_testBit]
      by_cases hi : j = i
      · subst hi
        rw [ht, Nat.testBit_two_pow_self]
        simp [h]
      · rw [Nat.testBit_two_pow_of_ne hi]
        simp
  rw [h0]
  constructor
  · intro h
    have : nI (c &&& 2 ^ j) = nI 0 := h
    rw [nI_eq (by omega) (by decide)] at this
    exact e.mp this
  · intro h
    rw [e.mpr h]; rfl
theorem rw_lf_n {c : Nat} : rw_lf (nI c) = nI (lf c) := by
  unfold rw_lf lf
  have := mx_bit (c := c) (j := 28) (by decide)
  rw [show (2 : Nat) ^ 28 = 268435456 by decide] at *
  by_cases h : c / 268435456 % 2 = 0
  · rw [if_pos (this.mpr h), h]
  · rw [if_neg (fun q => h (this.mp q)), show c / 268435456 % 2 = 1 by omega]
theorem rw_lo_n {c : Nat} : rw_lo (nI c) = nI (lo c) := by
  unfold rw_lo lo
  have := mx_bit (c := c) (j := 29) (by decide)
  rw [show (2 : Nat) ^ 29 = 536870912 by decide] at *
  by_cases h : c / 536870912 % 2 = 0
  · rw [if_pos (this.mpr h), h]
  · rw [if_neg (fun q => h (this.mp q)), show c / 536870912 % 2 = 1 by omega]
/-- a wrong move: a life, or the round -/
def aw (c : Nat) : Nat := if lf c = 0 then c + 2 ^ 29 else c - 2 ^ 28
theorem mx_or29 {c : Nat} (h : lo c = 0) (hc : c < 2 ^ 30) : nI c ||| nI 536870912 = nI (c + 2 ^ 29) := by
  have h1 : c < 2 ^ 29 := by unfold lo at h; omega
  have h0 : nI c ||| nI 536870912 = nI (c ||| 536870912) := by
    apply Int32.toBitVec_inj.1
    show BitVec.ofNat 32 c ||| BitVec.ofNat 32 536870912 = BitVec.ofNat 32 (c ||| 536870912)
    apply BitVec.eq_of_getLsbD_eq
    intro i hi
    simp [hi]
  have h2 := Nat.two_pow_add_eq_or_of_lt h1 1
  rw [h0, Nat.or_comm, show (536870912 : Nat) = 2 ^ 29 * 1 by decide, ← h2, Nat.mul_one, Nat.add_comm]
theorem rw_aw_n {c : Nat} (h : lo c = 0) (hc : c < 2 ^ 30) : rw_aw (nI c) = nI (aw c) := by
  unfold rw_aw aw
  rw [rw_lf_n]
  have h1 : c < 2 ^ 29 := by unfold lo at h; omega
  by_cases q : lf c = 0
  · rw [if_pos q, q, if_pos (by decide), mx_or29 h hc]
  · have e1 : lf c = 1 := by unfold lf at *; omega
    rw [if_neg q, e1, if_neg (by decide), pk_sub (by unfold lf at e1; omega)]
def t_X1_seedsAt : oz_T := (P_X1_seedsAt, e_X1, [], (true, 0, none, false, 0), (0, fun _ => 0))
def s_X1_seedsAt : oz_S := oz_i2 fun x q N G R J Φ => Φ (some (.int (rw_at x q))) N G R J
theorem I_X1_seedsAt : oz_Imp t_X1_seedsAt 2 s_X1_seedsAt := by
  intro Φ A a N G R J hN hS hC
  obtain ⟨x, q, rfl, h⟩ := oz_i2_e hS
  exact hC.1 [] 20 0 _ _ _ _ _ _ _ h
def t_X1_seeds : oz_T := (P_X1_seeds, e_X1, [], (true, 0, none, false, 0), (0, fun _ => 0))
def s_X1_seeds : oz_S := oz_i2 fun x q N G R J Φ => Φ (some (.int (rw_sd x q))) N G R J
theorem I_X1_seeds : oz_Imp t_X1_seeds 2 s_X1_seeds := by
  intro Φ A a N G R J hN hS hC
  obtain ⟨x, q, rfl, h⟩ := oz_i2_e hS
  exact hC.1 [] 20 0 _ _ _ _ _ _ _ h
def rw_nx (x q : Int32) : Int32 := if x < q then x + nI 1 else nI 0
theorem rw_nx_n {j n : Nat} (hj : j < 2 ^ 31) (hn : n < 2 ^ 31) : rw_nx (nI j) (nI n) = nI (nx n j) := by
  unfold rw_nx nx
  by_cases h : n ≤ j
  · rw [if_pos h, if_neg (nI_nlt h hj)]
  · rw [if_neg h, if_pos (nI_lt (by omega) hn), nI_add]
def t_X1_next : oz_T := (P_X1_next, e_X1, [], (true, 0, none, false, 0), (0, fun _ => 0))
def s_X1_next : oz_S := oz_i2 fun x q N G R J Φ => Φ (some (.int (rw_nx x q))) N G R J
theorem I_X1_next : oz_Imp t_X1_next 2 s_X1_next := by
  intro Φ A a N G R J hN hS hC
  obtain ⟨x, q, rfl, h⟩ := oz_i2_e hS
  unfold rw_nx at h
  refine hC.1 [] 20 0 _ _ _ _ _ _ _ ⟨fun hc => ?_, fun hc => ?_⟩
  · have hc : x < q := hc
    rw [if_pos hc] at h
    exact h
  · have hc : ¬ x < q := hc
    rw [if_neg hc] at h
    exact h
def t_X1_lives : oz_T := (P_X1_lives, e_X1, [], (true, 0, none, false, 0), (0, fun _ => 0))
def s_X1_lives : oz_S := oz_i1 fun x N G R J Φ => Φ (some (.int (rw_lf x))) N G R J
theorem I_X1_lives : oz_Imp t_X1_lives 1 s_X1_lives := by
  intro Φ A a N G R J hN hS hC
  obtain ⟨x, rfl, h⟩ := oz_i1_e hS
  unfold rw_lf at h
  refine hC.1 [] 20 0 _ _ _ _ _ _ _ ⟨fun hc => ?_, fun hc => ?_⟩
  · have hc : ¬ x &&& nI 268435456 = 0 := hc
    rw [if_neg hc] at h
    exact h
  · have hc : ¬ ¬ x &&& nI 268435456 = 0 := hc
    rw [if_pos (Classical.not_not.mp hc)] at h
    exact h
def t_X1_isLost : oz_T := (P_X1_isLost, e_X1, [], (true, 0, none, true, 0), (0, fun _ => 0))
def s_X1_isLost : oz_S := oz_i1 fun x N G R J Φ => Φ (some (.int (rw_lo x))) N G R J
theorem I_X1_isLost : oz_Imp t_X1_isLost 1 s_X1_isLost := by
  intro Φ A a N G R J hN hS hC
  obtain ⟨x, rfl, h⟩ := oz_i1_e hS
  unfold rw_lo at h
  refine hC.1 [] 20 0 _ _ _ _ _ _ _ ⟨fun hc => ?_, fun hc => ?_⟩
  · have hc : x &&& nI 536870912 = 0 := hc
    rw [if_pos hc] at h
    exact ⟨Or.inl rfl, h⟩
  · have hc : ¬ x &&& nI 536870912 = 0 := hc
    rw [if_neg hc] at h
    exact ⟨Or.inr rfl, h⟩
def t_X1_afterWrongMove : oz_T := (P_X1_afterWrongMove, e_X1, [(13, 0, 1, 0, s_X1_lives)], (true, 0, none, false, 0), (0, fun _ => 0))
def s_X1_afterWrongMove : oz_S := oz_i1 fun x N G R J Φ => Φ (some (.int (rw_aw x))) N G R J
theorem I_X1_afterWrongMove : oz_Imp t_X1_afterWrongMove 1 s_X1_afterWrongMove := by
  intro Φ A a N G R J hN hS hC
  obtain ⟨x, rfl, h⟩ := oz_i1_e hS
  unfold rw_aw at h
  refine hC.1 [] 20 0 _ _ _ _ _ _ _ ⟨fun hc => ?_, fun hc => ?_⟩
  · have hc : rw_lf x ≤ 0 := hc
    rw [if_pos hc] at h
    exact h
  · have hc : ¬ rw_lf x ≤ 0 := hc
    rw [if_neg hc] at h
    exact h
def t_X1_inPits : oz_T := (P_X1_inPits, e_X1, [(17, 0, 2, 0, s_X1_seedsAt)], (true, 0, none, false, 0), (0, fun _ => 0))
def s_X1_inPits : oz_S := oz_i2 fun x y N G R J Φ => ∃ P n, x = nI P ∧ y = nI n ∧ P < 2 ^ 32 ∧ n < 8 ∧ Φ (some (.int (nI (sm P n)))) N G R J
theorem I_X1_inPits : oz_Imp t_X1_inPits 4 s_X1_inPits := by
  intro Φ A a N G R J hN hS hC
  obtain ⟨x, y, rfl, P, n, rfl, rfl, hP, hn, h⟩ := oz_i2_e hS
  have loop : ∀ f i, i + f = n → A 4 [some (.int (nI P)), some (.int (nI n)), some (.int (nI (sm P i))), some (.int (nI i))] [] N G R J 0 := by
    intro f
    induction f with
    | zero =>
      intro i hi
      have : i = n := by omega
      subst this
      exact hC.1 [4] 30 4 _ _ _ _ _ _ _ ⟨fun _ => h, fun hc => absurd (nI_le (Nat.le_refl _) (by omega)) hc⟩
    | succ f ih =>
      intro i hi
      have := ih (i + 1) (by omega)
      have e1 : nI (sm P (i + 1)) = nI (sm P i) + rw_at (nI P) (nI i) := by rw [rw_at_n hP (by omega), nI_add]; rfl
      rw [e1, ← nI_add] at this
      exact hC.1 [4] 30 4 _ _ _ _ _ _ _ ⟨fun hc => absurd hc (nI_ge (by omega) (by omega)), fun _ => this⟩
  exact hC.1 [4] 30 0 _ _ _ _ _ _ _ (loop n 0 (by omega))
