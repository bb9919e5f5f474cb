/-! mathematics: sowing, on packed positions -/
theorem hi_add {c j a m : Nat} (h : dg c j + a < 16) (hm : j < m) : (c + a * 16 ^ j) / 16 ^ m = c / 16 ^ m := by
  obtain ⟨k, rfl⟩ : ∃ k, m = j + 1 + k := ⟨m - (j + 1), by omega⟩
  have key : ∀ x d, x % 16 ^ j + d * 16 ^ j + c / 16 ^ (j + 1) * 16 ^ (j + 1) = x % 16 ^ j + d * 16 ^ j + c / 16 ^ (j + 1) * 16 ^ (j + 1) → d < 16 → (x % 16 ^ j + d * 16 ^ j + c / 16 ^ (j + 1) * 16 ^ (j + 1)) / 16 ^ (j + 1) = c / 16 ^ (j + 1) := by
    intro x d _ hd
    have hm : x % 16 ^ j < 16 ^ j := Nat.mod_lt _ (Nat.pow_pos (by decide))
    have hlt : x % 16 ^ j + d * 16 ^ j < 16 ^ (j + 1) := by
      have : d * 16 ^ j + 16 ^ j ≤ 16 * 16 ^ j := by rw [← Nat.succ_mul]; exact Nat.mul_le_mul_right _ hd
      rw [Nat.pow_succ]; omega
    rw [Nat.mul_comm (c / 16 ^ (j + 1)), Nat.add_mul_div_left _ _ (Nat.pow_pos (by decide)), Nat.div_eq_of_lt hlt, Nat.zero_add]
  rw [Nat.pow_add, ← Nat.div_div_eq_div_mul, ← Nat.div_div_eq_div_mul]
  congr 1
  have hs := dg_split c j
  have e : c + a * 16 ^ j = c % 16 ^ j + (dg c j + a) * 16 ^ j + c / 16 ^ (j + 1) * 16 ^ (j + 1) := by
    rw [Nat.add_mul]
    generalize c / 16 ^ (j + 1) * 16 ^ (j + 1) = B at hs ⊢
    generalize c % 16 ^ j = A at hs ⊢
    generalize dg c j * 16 ^ j = D at hs ⊢
    omega
  rw [e, key c (dg c j + a) rfl h]
theorem hi_sub {c j m : Nat} (hm : j < m) : (c - dg c j * 16 ^ j) / 16 ^ m = c / 16 ^ m := by
  have h1 := dg_le c j
  have h2 : dg (c - dg c j * 16 ^ j) j = 0 := by rw [dg_sub0, if_pos rfl]
  have := hi_add (c := c - dg c j * 16 ^ j) (j := j) (a := dg c j) (m := m) (by rw [h2]; have := dg_lt c j; omega) hm
  rw [Nat.sub_add_cancel h1] at this
  exact this.symm
def nx (n j : Nat) : Nat := if n ≤ j then 0 else j + 1
/-- so many seeds, one by one, from a place on: the position, the place of the last one, what was there ahead of it -/
def dl (n : Nat) : Nat → Nat → Nat → Nat → Nat × Nat × Nat
  | 0, c, la, th => (c, la, th)
  | k + 1, c, la, _ => dl n k (c + 16 ^ nx n la) (nx n la) (dg c (nx n la))
/-- one lap -/
def lp (n c la : Nat) : Nat × Nat × Nat := dl n (dg c la) (c - dg c la * 16 ^ la) la 0
/-- laps, at most so many: the position, the last place, how many -/
def mk (n rl : Nat) : Nat → Nat → Nat → Nat → Nat × Nat × Nat
  | 0, c, la, k => (c, la, k)
  | f + 1, c, la, k => if (lp n c la).2.1 ≠ n ∧ 0 < (lp n c la).2.2 ∧ rl = 1 then mk n rl f (lp n c la).1 (lp n c la).2.1 (k + 1) else ((lp n c la).1, (lp n c la).2.1, k + 1)
/-- flags above the digits as F, so many seeds -/
def Iv (n F t c : Nat) : Prop := c / 16 ^ (n + 1) = F ∧ sm c (n + 1) = t
theorem nx_le {n j : Nat} : nx n j ≤ n := by unfold nx; split <;> omega
theorem Iv_add {n F t c j : Nat} (h : Iv n F t c) (ht : t < 14) (hj : j ≤ n) : Iv n F (t + 1) (c + 16 ^ j) ∧ (∀ i, dg (c + 16 ^ j) i = if i = j then dg c i + 1 else dg c i) := by
  have hle := sm_le c (n + 1) j (by omega)
  rw [h.2] at hle
  have hd : ∀ i, dg (c + 16 ^ j) i = if i = j then dg c i + 1 else dg c i := by
    intro i
    have := dg_add (c := c) (j := j) (a := 1) (by omega) i
    rwa [Nat.one_mul] at this
  refine ⟨⟨?_, ?_⟩, hd⟩
  · have := hi_add (c := c) (j := j) (a := 1) (m := n + 1) (by omega) (by omega)
    rw [Nat.one_mul] at this
    rw [this]; exact h.1
  · have := sm_upd (c := c) (c' := c + 16 ^ j) (j := j) (n + 1) (by omega) (fun i _ hne => by rw [hd, if_neg hne])
    rw [hd j, if_pos rfl, h.2] at this
    omega
theorem Iv_sub {n F t c j : Nat} (h : Iv n F t c) (hj : j ≤ n) : Iv n F (t - dg c j) (c - dg c j * 16 ^ j) := by
  refine ⟨by rw [hi_sub (by omega)]; exact h.1, ?_⟩
  have hle := sm_le c (n + 1) j (by omega)
  have := sm_upd (c := c) (c' := c - dg c j * 16 ^ j) (j := j) (n + 1) (by omega) (fun i _ hne => by rw [dg_sub0, if_neg hne])
  rw [dg_sub0, if_pos rfl, h.2] at this
  rw [h.2] at hle
  omega
theorem dl_ok {n F : Nat} : ∀ (k c la th t : Nat), Iv n F t c → t + k ≤ 14 → la ≤ n →
    Iv n F (t + k) (dl n k c la th).1 ∧ (dl n k c la th).2.1 ≤ n ∧ dg c n ≤ dg (dl n k c la th).1 n ∧ (0 < k → dg (dl n k c la th).1 (dl n k c la th).2.1 = (dl n k c la th).2.2 + 1) ∧ (0 < k → (dl n k c la th).2.1 = n → dg c n + 1 ≤ dg (dl n k c la th).1 n) ∧ (la < n → dg (dl n k c la th).1 n = dg c n → (dl n k c la th).2.1 = la + k)
  | 0, c, la, th, t, h, ht, hla => ⟨h, hla, Nat.le_refl _, fun q => by omega, fun q => by omega, fun _ _ => rfl⟩
  | k + 1, c, la, th, t, h, ht, hla => by
    obtain ⟨h1, hd⟩ := Iv_add h (by omega) (nx_le (n := n) (j := la))
    obtain ⟨a1, a2, a3, a4, a5, a6⟩ := dl_ok k (c + 16 ^ nx n la) (nx n la) (dg c (nx n la)) (t + 1) h1 (by omega) nx_le
    have e : dl n (k + 1) c la th = dl n k (c + 16 ^ nx n la) (nx n la) (dg c (nx n la)) := rfl
    rw [e]
    have hn : dg c n ≤ dg (c + 16 ^ nx n la) n := by rw [hd]; split <;> omega
    refine ⟨by rw [show t + (k + 1) = t + 1 + k by omega]; exact a1, a2, Nat.le_trans hn a3, fun _ => ?_, fun _ hl => ?_, fun hlt he => ?_⟩
    · cases k with
      | zero => show dg (c + 16 ^ nx n la) (nx n la) = dg c (nx n la) + 1; rw [hd, if_pos rfl]
      | succ k => exact a4 (by omega)
    · cases k with
      | zero =>
        have hl : nx n la = n := hl
        show dg c n + 1 ≤ dg (c + 16 ^ nx n la) n
        rw [hd, if_pos hl.symm]
        exact Nat.le_refl _
      | succ k => exact Nat.le_trans (Nat.add_le_add_right hn 1) (a5 (by omega) hl)
    · have hx : nx n la = la + 1 := by unfold nx; rw [if_neg (by omega)]
      have hne : nx n la ≠ n := by
        intro q
        have : dg (c + 16 ^ nx n la) n = dg c n + 1 := by rw [hd, if_pos q.symm]
        omega
      have h0 : dg (c + 16 ^ nx n la) n = dg c n := by rw [hd, if_neg (fun q => hne q.symm)]
      have := a6 (by have := nx_le (n := n) (j := la); omega) (by rw [he, h0])
      rw [this, hx]; omega
/-- a measure that falls from lap to lap -/
def mu (n c la : Nat) : Nat := 7 * (14 - dg c n) + (6 - la)
theorem lp_ok {n F t c la : Nat} (h : Iv n F t c) (ht : t ≤ 14) (hn : n ≤ 6) (hla : la < n) (hd : 0 < dg c la) :
    Iv n F t (lp n c la).1 ∧ (lp n c la).2.1 ≤ n ∧ dg c n ≤ dg (lp n c la).1 n ∧ dg (lp n c la).1 (lp n c la).2.1 = (lp n c la).2.2 + 1 ∧ ((lp n c la).2.1 = n → dg c n + 1 ≤ dg (lp n c la).1 n) ∧ ((lp n c la).2.1 ≠ n → mu n (lp n c la).1 (lp n c la).2.1 < mu n c la) := by
  have hs := Iv_sub h (j := la) (by omega)
  have hle := sm_le c (n + 1) la (by omega)
  rw [h.2] at hle
  have hn0 : dg (c - dg c la * 16 ^ la) n = dg c n := by rw [dg_sub0, if_neg (by omega)]
  obtain ⟨a1, a2, a3, a4, a5, a6⟩ := dl_ok (dg c la) (c - dg c la * 16 ^ la) la 0 (t - dg c la) hs (by omega) (by omega)
  have e : lp n c la = dl n (dg c la) (c - dg c la * 16 ^ la) la 0 := rfl
  rw [← e] at a1 a2 a3 a4 a5 a6
  rw [hn0] at a3 a5 a6
  have ht2 : t - dg c la + dg c la = t := by omega
  rw [ht2] at a1
  refine ⟨a1, a2, a3, a4 hd, a5 hd, fun hne => ?_⟩
  have hb := sm_le (lp n c la).1 (n + 1) n (by omega)
  rw [a1.2] at hb
  unfold mu
  by_cases q : dg (lp n c la).1 n = dg c n
  · have := a6 hla q
    omega
  · omega
theorem mk_ok {n rl F t : Nat} (ht : t ≤ 14) (hn : n ≤ 6) : ∀ (f c la k : Nat), Iv n F t c → la < n → 0 < dg c la → mu n c la < f →
    Iv n F t (mk n rl f c la k).1 ∧ (mk n rl f c la k).2.1 ≤ n ∧ dg c n ≤ dg (mk n rl f c la k).1 n ∧ ((mk n rl f c la k).2.1 = n → dg c n + 1 ≤ dg (mk n rl f c la k).1 n) ∧ (∀ g, mu n c la < g → mk n rl g c la k = mk n rl f c la k) ∧ (mk n rl f c la k).2.2 ≤ k + f
  | 0, c, la, k, _, _, _, hm => by omega
  | f + 1, c, la, k, h, hla, hd, hm => by
    obtain ⟨a1, a2, a3, a4, a5, a6⟩ := lp_ok h ht hn hla hd
    by_cases q : (lp n c la).2.1 ≠ n ∧ 0 < (lp n c la).2.2 ∧ rl = 1
    · have hmu := a6 q.1
      obtain ⟨b1, b2, b3, b4, b5, b6⟩ := mk_ok (rl := rl) ht hn f (lp n c la).1 (lp n c la).2.1 (k + 1) a1 (by omega) (by omega) (by omega)
      have e : mk n rl (f + 1) c la k = mk n rl f (lp n c la).1 (lp n c la).2.1 (k + 1) := by
        show (if _ then _ else _) = _
        rw [if_pos q]
      rw [e]
      refine ⟨b1, b2, Nat.le_trans a3 b3, fun hl => Nat.le_trans (Nat.add_le_add_right a3 1) (b4 hl), fun g hg => ?_, by omega⟩
      cases g with
      | zero => omega
      | succ g =>
        have e2 : mk n rl (g + 1) c la k = mk n rl g (lp n c la).1 (lp n c la).2.1 (k + 1) := by
          show (if _ then _ else _) = _
          rw [if_pos q]
        rw [e2]
        exact b5 g (by omega)
    · have e : ∀ g, mk n rl (g + 1) c la k = ((lp n c la).1, (lp n c la).2.1, k + 1) := by
        intro g
        show (if _ then _ else _) = _
        rw [if_neg q]
      rw [e]
      refine ⟨a1, a2, a3, a5, fun g hg => ?_, by show k + 1 ≤ _; omega⟩
      cases g with
      | zero => omega
      | succ g => rw [e]
theorem mu_lt {n c la : Nat} : mu n c la < 1000 := by unfold mu; omega
/-- steps along the row -/
def nxs (n : Nat) : Nat → Nat → Nat
  | 0, la => la
  | k + 1, la => nxs n k (nx n la)
theorem nxs_mod {n : Nat} : ∀ (k la : Nat), la ≤ n → nxs n k la = (la + k) % (n + 1)
  | 0, la, h => by
    show la = (la + 0) % (n + 1)
    rw [Nat.add_zero, Nat.mod_eq_of_lt (by omega)]
  | k + 1, la, h => by
    show nxs n k (nx n la) = _
    rw [nxs_mod k (nx n la) nx_le]
    unfold nx
    by_cases q : n ≤ la
    · have : la = n := by omega
      subst this
      rw [if_pos q, Nat.zero_add, show la + (k + 1) = k + 1 * (la + 1) by omega, Nat.add_mul_mod_self_right]
    · rw [if_neg q, show la + 1 + k = la + (k + 1) by omega]
theorem nxs_le {n : Nat} : ∀ (k la : Nat), la ≤ n → nxs n k la ≤ n
  | 0, _, h => h
  | k + 1, la, _ => nxs_le k (nx n la) nx_le
theorem nxs_succ {n : Nat} : ∀ (k la : Nat), nxs n (k + 1) la = nx n (nxs n k la)
  | 0, _ => rfl
  | k + 1, la => nxs_succ k (nx n la)
