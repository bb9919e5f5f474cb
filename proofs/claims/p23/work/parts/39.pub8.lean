/-! the class's public methods: put -/
def byt (X i : Nat) : Nat := X / 256 ^ i % 256
theorem cin_ok : ∀ f X k, cin f X k ≠ 0 → ∃ m, cin f X k = k + m ∧ m ≤ f ∧ ∀ i, i < m → 33 ≤ byt X i ∧ byt X i ≤ 126
  | 0, X, k, h => by
    unfold cin at h ⊢
    split
    · exact ⟨0, rfl, Nat.le_refl _, fun i hi => absurd hi (Nat.not_lt_zero _)⟩
    · next q => rw [if_neg q] at h; exact absurd rfl h
  | f + 1, X, k, h => by
    unfold cin at h ⊢
    by_cases q : X % 256 = 0
    · rw [if_pos q] at h ⊢
      split
      · exact ⟨0, rfl, Nat.zero_le _, fun i hi => absurd hi (Nat.not_lt_zero _)⟩
      · next q2 => rw [if_neg q2] at h; exact absurd rfl h
    · rw [if_neg q] at h ⊢
      by_cases q2 : X % 256 < 33 ∨ 126 < X % 256
      · rw [if_pos q2] at h; exact absurd rfl h
      · rw [if_neg q2] at h ⊢
        obtain ⟨m, h1, h2, h3⟩ := cin_ok f (X / 256) (k + 1) h
        refine ⟨m + 1, by rw [h1]; omega, by omega, fun i hi => ?_⟩
        cases i with
        | zero =>
          have e : byt X 0 = X % 256 := by unfold byt; rw [Nat.pow_zero, Nat.div_one]
          rw [e]; omega
        | succ i =>
          have e : byt X (i + 1) = byt (X / 256) i := by
            unfold byt
            rw [Nat.pow_succ, Nat.mul_comm, ← Nat.div_div_eq_div_mul]
          rw [e]
          exact h3 i (by omega)
/-- the pad with a number's characters behind it -/
def ptW (w : Nat → Nat) (len n X : Nat) : Nat → Nat := fun j => if j < len then w j else byt X (n - 1 - (j - len))
def q_put (W : Wd) (x : Int64) : Int32 × Wd := if cin 8 x.toBitVec.toNat 0 = 0 then (oz_c (-2), W) else if 40 < wL W + cin 8 x.toBitVec.toNat 0 then (oz_c (-4), W) else (nI (wL W + cin 8 x.toBitVec.toNat 0), wPad W (ptW (wP W) (wL W) (cin 8 x.toBitVec.toNat 0) x.toBitVec.toNat) (wL W + cin 8 x.toBitVec.toNat 0))
def s_X5_put : oz_S := fun a N G R J Φ => match a with
  | [.ref t, .long x] => t = 0 ∧ ∃ W, CR N G R W ∧ wOk W ∧ pQ N G W Φ (q_put W x)
  | _ => False
theorem lN_of (x : Int64) : x = lN x.toBitVec.toNat := by
  apply wb_inj
  rw [wb_tb]
  exact (BitVec.ofNat_toNat ..).symm ▸ (by simp)
theorem mx_dn (x : Int32) : x + oz_c (-1) = x - nI 1 := by
  rw [show (oz_c (-1) : Int32) = -(nI 1) by decide, Int32.sub_eq_add_neg]
theorem mx_byt {X i : Nat} (hX : X < 2 ^ 64) (hi : i < 8) : (((lN X).toUInt64 >>> ((nI 8 * nI i).toInt64.toUInt64 &&& Int64.toUInt64 63)).toInt64).toInt32 &&& nI 255 = nI (byt X i) := by
  rw [pk_mul, wb_shr (k := 8 * i) hX (by omega), lN_i, nI_m, show nI 255 = nI (2 ^ 8 - 1) by rfl, pk_andN (Nat.mod_lt _ (by decide)) 8 (by decide)]
  congr 1
  unfold byt
  rw [Nat.pow_mul]
  have e : (2 : Nat) ^ 8 = 256 := by decide
  rw [e]
  have e2 : (2 : Nat) ^ 32 = 256 * 16777216 := by decide
  rw [e2, Nat.mod_mul_right_mod]
theorem fit_X5_put : ∀ a N G R J Φ, s_X5_put a N G R J Φ → oz_fit a 5 := by
  intro a N G R J Φ h
  unfold s_X5_put at h
  split at h
  · exact oz_fit_of (Nat.le_of_ble_eq_true rfl) rfl
  · exact h.elim
theorem rec_X5_put : oz_rec s_X5_put 44 4 1 := by
  intro Φ a N G R J hN h _
  unfold s_X5_put at h
  split at h
  · refine ⟨_, _, rfl, ?_⟩
    rw [h.1]
    exact ⟨rfl, Nat.lt_of_lt_of_le (by decide) hN⟩
  · exact h.elim
