/-! the model's public methods: back -/
theorem rowV_k {n rl ex lv c : Nat} {k : Kp} {K : List Kp} {r : Nat} (hr : r < 10) : rowV (n, rl, ex, lv, c, k :: K) (15 + 10 * K.length + r) = kpV n k r := by
  unfold rowV
  rw [if_neg (by omega), if_neg (by omega), if_neg (by omega), if_neg (by omega), if_neg (by omega), if_neg (by omega), if_neg (by omega), if_neg (by omega), if_neg (by omega)]
  show kpV n ((k :: K).getD ((k :: K).length - 1 - (15 + 10 * K.length + r - 15) / 10) (0, 0, 0)) ((15 + 10 * K.length + r - 15) % 10) = _
  rw [List.length_cons, show K.length + 1 - 1 - (15 + 10 * K.length + r - 15) / 10 = 0 by omega, show (15 + 10 * K.length + r - 15) % 10 = r by omega]
  rfl
theorem rowV_o {n rl ex lv c ca : Nat} {k : Kp} {K : List Kp} {j : Nat} (h1 : 15 ≤ j) (h2 : j < 15 + 10 * K.length) : rowV (n, rl, ex, lv, ca, K) j = rowV (n, rl, ex, lv, c, k :: K) j := by
  unfold rowV
  rw [if_neg (by omega), if_neg (by omega), if_neg (by omega), if_neg (by omega), if_neg (by omega), if_neg (by omega), if_neg (by omega), if_neg (by omega), if_neg (by omega), if_neg (by omega), if_neg (by omega), if_neg (by omega), if_neg (by omega), if_neg (by omega), if_neg (by omega), if_neg (by omega), if_neg (by omega), if_neg (by omega)]
  show kpV n (K.getD (K.length - 1 - (j - 15) / 10) (0, 0, 0)) ((j - 15) % 10) = kpV n ((k :: K).getD ((k :: K).length - 1 - (j - 15) / 10) (0, 0, 0)) ((j - 15) % 10)
  rw [List.length_cons, show K.length + 1 - 1 - (j - 15) / 10 = (K.length - 1 - (j - 15) / 10) + 1 by omega, List.getD_cons_succ]
/-- behind back the row tells the state ahead -/
theorem bk_R {G G5 : oz_G} {n rl ex lv c : Nat} {k : Kp} {K : List Kp} (hS : RowR G 45 0 (n, rl, ex, lv, c, k :: K)) (hlo : lo k.2.2 = 0) (f0 : ∀ j, (j < 4 ∨ 15 ≤ j) → j < 15 + 10 * K.length → G5 45 j = G 45 j) (f1 : ∀ j, j < 6 → G5 45 (4 + j) = nI (sd n k.2.2 j)) (f10 : G5 45 10 = nI (dg k.2.2 n)) (f11 : G5 45 11 = nI (lf k.2.2)) (f12 : G5 45 12 = nI 0) (f13 : G5 45 13 = nI K.length) (f14 : G5 45 14 = nI K.length) : RowR G5 45 0 (n, rl, ex, lv, k.2.2, K) := by
  intro j hj
  have hj : j < 15 + 10 * K.length := hj
  rw [Nat.zero_add]
  have old : j < 15 + 10 * (K.length + 1) → G 45 j = nI (rowV (n, rl, ex, lv, c, k :: K) j) := fun h => by
    have := hS j h
    rw [Nat.zero_add] at this
    exact this
  by_cases q : 15 ≤ j
  · rw [f0 j (Or.inr q) hj, old (by omega), rowV_o (c := c) (k := k) q hj]
  · by_cases q2 : j < 4
    · have q3 : j = 0 ∨ j = 1 ∨ j = 2 ∨ j = 3 := by omega
      rcases q3 with rfl | rfl | rfl | rfl
      · rw [f0 0 (by omega) (by omega), old (by omega)]; rfl
      · rw [f0 1 (by omega) (by omega), old (by omega)]; rfl
      · rw [f0 2 (by omega) (by omega), old (by omega)]; rfl
      · rw [f0 3 (by omega) (by omega), old (by omega)]; rfl
    · by_cases q3 : j < 10
      · obtain ⟨i, rfl⟩ : ∃ i, j = 4 + i := ⟨j - 4, by omega⟩
        rw [f1 i (by omega), rowV_p (by omega)]
        rfl
      · have q4 : j = 10 ∨ j = 11 ∨ j = 12 ∨ j = 13 ∨ j = 14 := by omega
        rcases q4 with rfl | rfl | rfl | rfl | rfl
        · rw [f10]; rfl
        · rw [f11]; rfl
        · rw [f12, ← hlo]; rfl
        · rw [f13]; rfl
        · rw [f14]; rfl
