/-! the packed row: straight methods -/
def rw_at (x q : Int32) : Int32 := ((x.toUInt32 >>> ((nI 4 * q).toUInt32 &&& Int32.toUInt32 31)).toInt32) &&& nI 15
def rw_sd (x q : Int32) : Int32 := x <<< ((nI 4 * q) &&& 31)
abbrev e_X1 : List (Nat × Nat × Nat) × List (Nat × Int32) × List (Nat × Int64) × List (Nat × Nat) := (fl_X1, kt_X1, lt_X1, cn_X1)
def t_X1_seedsAt : oz_T := (P_X1_seedsAt, e_X1, [], (true, 0, none, false, 0), (0, fun _ => 0))
def s_X1_seedsAt : oz_S := oz_i2 fun x q N G R J Φ => Φ (some (.int (rw_at x q))) N G R J
theorem I_X1_seedsAt : oz_Imp t_X1_seedsAt 2 s_X1_seedsAt := by
  intro Φ A a N G R J hN hS hC
  obtain ⟨x, q, rfl, h⟩ := oz_i2_e hS
  exact hC.1 [] 20 0 _ _ _ _ _ _ _ h
def t_X1_next : oz_T := (P_X1_next, e_X1, [], (true, 0, none, false, 0), (0, fun _ => 0))
def s_X1_next : oz_S := oz_i2 fun x q N G R J Φ => Φ (some (.int (if q ≤ x then nI 0 else x + nI 1))) N G R J
theorem I_X1_next : oz_Imp t_X1_next 2 s_X1_next := by
  intro Φ A a N G R J hN hS hC
  obtain ⟨x, q, rfl, h⟩ := oz_i2_e hS
  refine hC.1 [] 20 0 _ _ _ _ _ _ _ ⟨fun hc => ?_, fun hc => ?_⟩
  · trace_state
    rw [if_neg hc] at h
    exact h
  · rw [if_pos hc] at h
    exact h
