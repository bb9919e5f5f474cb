/-! mathematics: numbers as the class packs them -/
theorem mx_u : ∀ q, q < 8 → (((nI (4 * q)).toUInt32 &&& Int32.toUInt32 31).toBitVec % 32).toNat = 4 * q := by decide
theorem mx_s : ∀ q, q < 8 → ((nI (4 * q) &&& 31).toBitVec.smod 32).toNat = 4 * q := by decide
def rw_at (x q : Int32) : Int32 := ((x.toUInt32 >>> ((nI 4 * q).toUInt32 &&& Int32.toUInt32 31)).toInt32) &&& nI 15
def rw_sd (x q : Int32) : Int32 := x <<< ((nI 4 * q) &&& 31)
/-- a place's digit -/
def dg (c i : Nat) : Nat := c / 16 ^ i % 16
theorem rw_at_n {P q : Nat} (hP : P < 2 ^ 32) (hq : q < 8) : rw_at (nI P) (nI q) = nI (dg P q) := by
  unfold rw_at
  rw [pk_mul, pk_ushrN hP (nI (4 * q)) (4 * q) (mx_u q hq), pk_andN (Nat.lt_of_le_of_lt (Nat.div_le_self _ _) hP) 4 (by decide)]
  rw [show (2 : Nat) ^ (4 * q) = 16 ^ q by rw [Nat.pow_mul]]
  rfl
theorem rw_sd_n {a q : Nat} (hq : q < 8) (h : a * 16 ^ q < 2 ^ 32) : rw_sd (nI a) (nI q) = nI (a * 16 ^ q) := by
  have e : (2 : Nat) ^ (4 * q) = 16 ^ q := by rw [Nat.pow_mul]
  unfold rw_sd
  rw [pk_mul, pk_shlN (nI (4 * q) &&& 31) (4 * q) (mx_s q hq) (by rw [e]; exact h), e]
theorem dg_lt (c i : Nat) : dg c i < 16 := Nat.mod_lt _ (by decide)
/-- splitting a number at a place -/
theorem dg_split (c j : Nat) : c = c % 16 ^ j + dg c j * 16 ^ j + c / 16 ^ (j + 1) * 16 ^ (j + 1) := by
  have h1 := Nat.div_add_mod c (16 ^ j)
  have h2 := Nat.div_add_mod (c / 16 ^ j) 16
  have h3 : c / 16 ^ j / 16 = c / 16 ^ (j + 1) := by rw [Nat.div_div_eq_div_mul, Nat.pow_succ]
  rw [h3] at h2
  have h4 : 16 ^ (j + 1) = 16 * 16 ^ j := by rw [Nat.pow_succ, Nat.mul_comm]
  unfold dg
  calc c = 16 ^ j * (c / 16 ^ j) + c % 16 ^ j := h1.symm
    _ = 16 ^ j * (16 * (c / 16 ^ (j + 1)) + c / 16 ^ j % 16) + c % 16 ^ j := by rw [h2]
    _ = _ := by
      rw [h4, Nat.mul_add]
      have e1 : 16 ^ j * (16 * (c / (16 * 16 ^ j))) = c / (16 * 16 ^ j) * (16 * 16 ^ j) := by
        rw [Nat.mul_comm (c / _) _, ← Nat.mul_assoc, Nat.mul_comm (16 ^ j) 16]
      rw [e1, Nat.mul_comm (16 ^ j) (c / 16 ^ j % 16)]
      omega
theorem dg_mk {a d b j : Nat} (ha : a < 16 ^ j) (hd : d < 16) : dg (a + d * 16 ^ j + b * 16 ^ (j + 1)) j = d := by
  have hp : 0 < 16 ^ j := Nat.pow_pos (by decide)
  unfold dg
  have e : a + d * 16 ^ j + b * 16 ^ (j + 1) = a + 16 ^ j * (d + b * 16) := by
    rw [Nat.pow_succ, Nat.mul_add, Nat.mul_comm (16 ^ j) d, ← Nat.mul_assoc, Nat.mul_comm (16 ^ j) (b * 16), Nat.mul_assoc, Nat.mul_assoc, Nat.mul_comm 16 (16 ^ j)]
    omega
  rw [e, Nat.add_mul_div_left _ _ hp, Nat.div_eq_of_lt ha, Nat.zero_add, Nat.add_mul_mod_self_right]
  exact Nat.mod_eq_of_lt hd
theorem dg_low {a b i j : Nat} (h : i < j) : dg (a + b * 16 ^ j) i = dg a i := by
  unfold dg
  obtain ⟨k, rfl⟩ : ∃ k, j = i + (k + 1) := ⟨j - i - 1, by omega⟩
  have e : a + b * 16 ^ (i + (k + 1)) = a + 16 ^ i * (b * 16 ^ k * 16) := by
    rw [Nat.pow_add, Nat.pow_succ]
    rw [show 16 ^ i * (b * 16 ^ k * 16) = b * (16 ^ i * (16 ^ k * 16)) by ac_rfl]
  rw [e, Nat.add_mul_div_left _ _ (Nat.pow_pos (by decide)), Nat.add_mul_mod_self_right]
theorem dg_high {a b i j : Nat} (ha : a < 16 ^ j) (h : j ≤ i) : dg (a + b * 16 ^ j) i = dg b (i - j) := by
  unfold dg
  obtain ⟨k, rfl⟩ : ∃ k, i = j + k := ⟨i - j, by omega⟩
  rw [Nat.add_sub_cancel_left, Nat.pow_add, ← Nat.div_div_eq_div_mul, Nat.mul_comm b, Nat.add_mul_div_left _ _ (Nat.pow_pos (by decide)), Nat.div_eq_of_lt ha, Nat.zero_add]
/-- the digit at j made v, the others as they are -/
theorem dg_set {c j v : Nat} (hv : v < 16) (i : Nat) : dg (c - dg c j * 16 ^ j + v * 16 ^ j) i = if i = j then v else dg c i := by
  have hs := dg_split c j
  have hm : c % 16 ^ j < 16 ^ j := Nat.mod_lt _ (Nat.pow_pos (by decide))
  have e : c - dg c j * 16 ^ j + v * 16 ^ j = c % 16 ^ j + v * 16 ^ j + c / 16 ^ (j + 1) * 16 ^ (j + 1) := by
    generalize c / 16 ^ (j + 1) * 16 ^ (j + 1) = B at hs ⊢
    generalize c % 16 ^ j = A at hs ⊢
    generalize dg c j * 16 ^ j = D at hs ⊢
    omega
  rw [e]
  by_cases hi : i = j
  · subst hi
    rw [if_pos rfl, dg_mk hm hv]
  · rw [if_neg hi]
    have low : ∀ w, i < j → dg (c % 16 ^ j + w * 16 ^ j + c / 16 ^ (j + 1) * 16 ^ (j + 1)) i = dg (c % 16 ^ j) i := by
      intro w hij
      rw [dg_low (by omega), dg_low hij]
    have high : ∀ w, w < 16 → j < i → dg (c % 16 ^ j + w * 16 ^ j + c / 16 ^ (j + 1) * 16 ^ (j + 1)) i = dg (c / 16 ^ (j + 1)) (i - (j + 1)) := by
      intro w hw hij
      refine dg_high ?_ hij
      have : w * 16 ^ j + 16 ^ j ≤ 16 * 16 ^ j := by
        rw [← Nat.succ_mul]
        exact Nat.mul_le_mul_right _ hw
      rw [Nat.pow_succ]
      omega
    rcases Nat.lt_or_gt_of_ne hi with h | h
    · rw [low v h]
      conv => rhs; rw [hs]
      rw [low _ h]
    · rw [high v hv h]
      conv => rhs; rw [hs]
      rw [high _ (dg_lt c j) h]
theorem dg_le (c j : Nat) : dg c j * 16 ^ j ≤ c := by
  have hs := dg_split c j
  omega
theorem dg_add {c j a : Nat} (h : dg c j + a < 16) (i : Nat) : dg (c + a * 16 ^ j) i = if i = j then dg c i + a else dg c i := by
  have h1 := dg_set (c := c) (j := j) h i
  have h2 := dg_le c j
  have e : c - dg c j * 16 ^ j + (dg c j + a) * 16 ^ j = c + a * 16 ^ j := by
    rw [Nat.add_mul]
    generalize dg c j * 16 ^ j = D at h2 ⊢
    omega
  rw [e] at h1
  rw [h1]
  by_cases hi : i = j
  · subst hi; simp
  · simp [hi]
theorem dg_sub0 {c j : Nat} (i : Nat) : dg (c - dg c j * 16 ^ j) i = if i = j then 0 else dg c i := by
  have := dg_set (c := c) (j := j) (v := 0) (by decide) i
  rw [Nat.zero_mul, Nat.add_zero] at this
  exact this
theorem dg_subA {c j a : Nat} (h : a ≤ dg c j) (i : Nat) : dg (c - a * 16 ^ j) i = if i = j then dg c i - a else dg c i := by
  have hl := dg_lt c j
  have h1 := dg_set (c := c) (j := j) (v := dg c j - a) (by omega) i
  have h2 := dg_le c j
  have e : c - dg c j * 16 ^ j + (dg c j - a) * 16 ^ j = c - a * 16 ^ j := by
    rw [Nat.sub_mul]
    have h3 : a * 16 ^ j ≤ dg c j * 16 ^ j := Nat.mul_le_mul_right _ h
    generalize dg c j * 16 ^ j = D at h2 h3 ⊢
    omega
  rw [e] at h1
  rw [h1]
  by_cases hi : i = j
  · subst hi; simp
  · simp [hi]
/-- the first n digits' sum -/
def sm (c : Nat) : Nat → Nat
  | 0 => 0
  | n + 1 => sm c n + dg c n
theorem sm_le (c : Nat) : ∀ (n i : Nat), i < n → dg c i ≤ sm c n
  | 0, _, h => by omega
  | n + 1, i, h => by
    by_cases hi : i = n
    · subst hi; exact Nat.le_add_left _ _
    · exact Nat.le_trans (sm_le c n i (by omega)) (Nat.le_add_right _ _)
theorem sm_congr {c c' : Nat} : ∀ (n : Nat), (∀ i, i < n → dg c i = dg c' i) → sm c n = sm c' n
  | 0, _ => rfl
  | n + 1, h => by
    show sm c n + dg c n = sm c' n + dg c' n
    rw [sm_congr n (fun i hi => h i (by omega)), h n (by omega)]
theorem sm_upd {c c' j : Nat} : ∀ (n : Nat), j < n → (∀ i, i < n → i ≠ j → dg c' i = dg c i) → sm c' n + dg c j = sm c n + dg c' j
  | 0, h, _ => by omega
  | n + 1, h, hd => by
    show sm c' n + dg c' n + dg c j = sm c n + dg c n + dg c' j
    by_cases hj : j = n
    · subst hj
      rw [sm_congr j (fun i hi => hd i (by omega) (by omega))]
      omega
    · have := sm_upd n (by omega) (fun i hi hne => hd i (by omega) hne)
      rw [hd n (by omega) (fun q => hj q.symm)]
      omega
theorem sm_mono (c : Nat) : ∀ (n m : Nat), n ≤ m → sm c n ≤ sm c m
  | n, 0, h => by
    have : n = 0 := by omega
    subst this; exact Nat.le_refl _
  | n, m + 1, h => by
    by_cases hn : n = m + 1
    · subst hn; exact Nat.le_refl _
    · exact Nat.le_trans (sm_mono c n m (by omega)) (Nat.le_add_right _ _)
