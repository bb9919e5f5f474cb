/-! mathematics: good positions, and what falls with each move -/
def Gd (n u c : Nat) : Prop := Iv n ((lf c + 2 * lo c) * 16 ^ (6 - n)) u c ∧ u ≤ 14 ∧ n ≤ 6
def pot (n c : Nat) : Nat := sm c n + lf c + (1 - lo c)
theorem p16 {n : Nat} (h : n ≤ 6) : (16 : Nat) ^ 7 = 16 ^ (6 - n) * 16 ^ (n + 1) := by
  rw [← Nat.pow_add, show 6 - n + (n + 1) = 7 by omega]
theorem Gd_mk {n u c l o : Nat} (h : Iv n ((l + 2 * o) * 16 ^ (6 - n)) u c) (hl : l ≤ 1) (ho : o ≤ 1) (hu : u ≤ 14) (hn : n ≤ 6) : Gd n u c ∧ lf c = l ∧ lo c = o := by
  have e28 : c / 2 ^ 28 = l + 2 * o := by
    rw [mx_F h (by omega), show 2 ^ (28 - 4 * (n + 1)) = 16 ^ (6 - n) by rw [show (16 : Nat) = 2 ^ 4 by rfl, ← Nat.pow_mul]; congr 1; omega]
    exact Nat.mul_div_cancel _ (Nat.pow_pos (by decide))
  have e29 : c / 2 ^ 29 = c / 2 ^ 28 / 2 := by rw [Nat.div_div_eq_div_mul]
  have h1 : lf c = l := by unfold lf; rw [e28]; omega
  have h2 : lo c = o := by unfold lo; rw [e29, e28]; omega
  exact ⟨⟨by rw [h1, h2]; exact h, hu, hn⟩, h1, h2⟩
theorem Gd_Pv {n u c : Nat} (h : Gd n u c) : Pv n ((lf c + 2 * lo c) * 16 ^ (6 - n)) u c := by
  refine ⟨h.1, h.2.1, h.2.2, ?_⟩
  have h1 := lf_le (c := c)
  have h2 := lo_le (c := c)
  exact Nat.mul_lt_mul_of_pos_right (by omega) (Nat.pow_pos (by decide))
theorem Gd_lt {n u c : Nat} (h : Gd n u c) : c < 2 ^ 30 := Pv_lt (Gd_Pv h)
theorem Iv_up {n F u c : Nat} (a : Nat) (hn : n ≤ 6) (h : Iv n F u c) : Iv n (F + a * 16 ^ (6 - n)) u (c + a * 16 ^ 7) := by
  refine ⟨?_, ?_⟩
  · rw [p16 hn, ← Nat.mul_assoc, Nat.add_mul_div_right _ _ (Nat.pow_pos (by decide)), h.1]
  · rw [← h.2]
    exact sm_congr _ (fun i hi => dg_low (by omega))
theorem Iv_dn {n F u c : Nat} (a : Nat) (hn : n ≤ 6) (h : Iv n (F + a * 16 ^ (6 - n)) u (c + a * 16 ^ 7)) : Iv n F u c := by
  refine ⟨?_, ?_⟩
  · have h1 := h.1
    rw [p16 hn, ← Nat.mul_assoc, Nat.add_mul_div_right _ _ (Nat.pow_pos (by decide))] at h1
    omega
  · rw [← h.2]
    exact sm_congr _ (fun i hi => (dg_low (by omega)).symm)
theorem Gd_aw {n u c : Nat} (h : Gd n u c) (hlo : lo c = 0) : Gd n u (aw c) ∧ lf (aw c) + (1 - lo (aw c)) + 1 = lf c + (1 - lo c) ∧ ∀ i, i ≤ n → dg (aw c) i = dg c i := by
  have hlf := lf_le (c := c)
  obtain ⟨h1, hu, hn⟩ := h
  unfold aw
  by_cases q : lf c = 0
  · rw [if_pos q]
    rw [q, hlo] at h1
    have h2 : Iv n ((0 + 2 * 1) * 16 ^ (6 - n)) u (c + 2 ^ 29) := by
      have := Iv_up 2 hn h1
      simpa using this
    obtain ⟨a1, a2, a3⟩ := Gd_mk h2 (by decide) (by decide) hu hn
    refine ⟨a1, by rw [a2, a3, q, hlo], fun i hi => ?_⟩
    exact dg_low (a := c) (b := 2) (j := 7) (by omega)
  · rw [if_neg q]
    have q1 : lf c = 1 := by omega
    rw [q1, hlo] at h1
    have hc : 2 ^ 28 ≤ c := by
      unfold lf at q1
      rcases Nat.lt_or_ge c (2 ^ 28) with z | z
      · rw [Nat.div_eq_of_lt z] at q1; omega
      · exact z
    obtain ⟨c', rfl⟩ : ∃ c', c = c' + 1 * 16 ^ 7 := ⟨c - 2 ^ 28, by omega⟩
    have e : c' + 1 * 16 ^ 7 - 2 ^ 28 = c' := by omega
    rw [e]
    have h2 : Iv n ((0 + 2 * 0) * 16 ^ (6 - n)) u c' := by
      refine Iv_dn 1 hn ?_
      simpa using h1
    obtain ⟨a1, a2, a3⟩ := Gd_mk h2 (by decide) (by decide) hu hn
    refine ⟨a1, by rw [a2, a3, q1, hlo], fun i hi => ?_⟩
    exact (dg_low (a := c') (b := 1) (j := 7) (by omega)).symm
theorem Gd_mv {n rl u c i : Nat} (h : Gd n u c) (hi : i < n) (hd : 0 < dg c i) (hlo : lo c = 0) : Gd n u (mvc n rl c i) ∧ pot n (mvc n rl c i) + 1 ≤ pot n c := by
  obtain ⟨b1, b2, b3, b4, b5, b6⟩ := mv_ok (rl := rl) (Gd_Pv h) hi hd
  have hl := lf_F (Gd_Pv h).1 b1.1 h.2.2
  have ho := lo_F (Gd_Pv h).1 b1.1 h.2.2
  have g : Gd n u (mv n rl c i).1 := (Gd_mk b1.1 lf_le lo_le h.2.1 h.2.2).1
  have s1 : sm c n + dg c n = u := h.1.2
  have s2 : sm (mv n rl c i).1 n + dg (mv n rl c i).1 n = u := g.1.2
  unfold mvc pot
  by_cases q : (mv n rl c i).2.1 = n
  · rw [if_pos q]
    have := b4 q
    refine ⟨g, ?_⟩
    rw [hl, ho]; omega
  · rw [if_neg q]
    obtain ⟨a1, a2, a3⟩ := Gd_aw g (by rw [ho]; exact hlo)
    refine ⟨a1, ?_⟩
    have e : sm (aw (mv n rl c i).1) n = sm (mv n rl c i).1 n := sm_congr _ (fun i hi => a3 i (by omega))
    rw [e]
    rw [hl, ho] at a2
    omega
theorem pot_le {n u c : Nat} (h : Gd n u c) : pot n c ≤ u + 2 := by
  have s1 : sm c n + dg c n = u := h.1.2
  have := lf_le (c := c)
  unfold pot; omega
theorem Gd_dg {n u c i : Nat} (h : Gd n u c) (hi : i ≤ n) : dg c i ≤ u := by
  rw [← h.1.2]
  exact sm_le c (n + 1) i (by omega)
theorem dg_z (i : Nat) : dg 0 i = 0 := by unfold dg; simp
theorem sm_z : ∀ n, sm 0 n = 0
  | 0 => rfl
  | n + 1 => by show sm 0 n + dg 0 n = 0; rw [sm_z n, dg_z]
theorem Gd_ne {n u c : Nat} (h : Gd n u c) (hu : 0 < u) : c ≠ 0 := by
  rintro rfl
  have := h.1.2
  rw [sm_z] at this
  omega
theorem lg_e {n ex c i : Nat} (h : lg n ex c i = 1) : lo c = 0 ∧ 0 < dg c i := by
  unfold lg at h
  split at h
  · next q => exact ⟨q.1, q.2.1⟩
  · omega
/-! the search's values -/
def fo (f : Nat → Nat → Nat) (a : Nat) : Nat → Nat
  | 0 => a
  | k + 1 => f k (fo f a k)
theorem fo_congr {f g : Nat → Nat → Nat} {a : Nat} : ∀ n, (∀ k x, k < n → f k x = g k x) → fo f a n = fo g a n
  | 0, _ => rfl
  | n + 1, h => by
    show f n (fo f a n) = g n (fo g a n)
    rw [fo_congr n (fun k x hk => h k x (by omega)), h n _ (by omega)]
def bz (n rl ex c : Nat) (B : Nat → Nat) (k a : Nat) : Nat := if lg n ex c k = 1 then Nat.max a (if lo (mvc n rl c k) = 1 then dg (mvc n rl c k) n else B (mvc n rl c k)) else a
def fz (n rl ex c : Nat) (B : Nat → Nat) (k a : Nat) : Nat := if lg n ex c k = 1 ∧ lo (mvc n rl c k) = 0 then Nat.min a (B (mvc n rl c k) + 1) else a
def bs (n rl ex : Nat) : Nat → Nat → Nat
  | 0, c => dg c n
  | f + 1, c => fo (bz n rl ex c (bs n rl ex f)) (dg c n) n
def f0 (n c : Nat) : Nat := if sm c n = 0 then 0 else 63
def fs (n rl ex : Nat) : Nat → Nat → Nat
  | 0, c => f0 n c
  | f + 1, c => fo (fz n rl ex c (fs n rl ex f)) (f0 n c) n
theorem pot_lo {n c : Nat} (h : lo c = 0) : 0 < pot n c := by unfold pot; omega
theorem fo_id {f : Nat → Nat → Nat} {a : Nat} : ∀ n, (∀ k x, k < n → f k x = x) → fo f a n = a
  | 0, _ => rfl
  | n + 1, h => by
    show f n (fo f a n) = a
    rw [fo_id n (fun k x hk => h k x (by omega)), h n _ (by omega)]
theorem bs_fuel {n rl ex u : Nat} : ∀ f g c, Gd n u c → pot n c ≤ f → pot n c ≤ g → bs n rl ex f c = bs n rl ex g c
  | 0, 0, _, _, _, _ => rfl
  | 0, g + 1, c, h, h1, h2 => by
    have hl : ¬ lo c = 0 := fun z => by have := pot_lo (n := n) z; omega
    exact (fo_id n (fun k x hk => if_neg (fun q => hl (lg_e q).1))).symm
  | f + 1, 0, c, h, h1, h2 => by
    have hl : ¬ lo c = 0 := fun z => by have := pot_lo (n := n) z; omega
    exact fo_id n (fun k x hk => if_neg (fun q => hl (lg_e q).1))
  | f + 1, g + 1, c, h, h1, h2 => by
    refine fo_congr n (fun k x hk => ?_)
    unfold bz
    by_cases q : lg n ex c k = 1
    · obtain ⟨a1, a2⟩ := Gd_mv (rl := rl) h hk (lg_e q).2 (lg_e q).1
      rw [if_pos q, if_pos q, bs_fuel f g _ a1 (by omega) (by omega)]
    · rw [if_neg q, if_neg q]
theorem fs_fuel {n rl ex u : Nat} : ∀ f g c, Gd n u c → pot n c ≤ f → pot n c ≤ g → fs n rl ex f c = fs n rl ex g c
  | 0, 0, _, _, _, _ => rfl
  | 0, g + 1, c, h, h1, h2 => by
    have hl : ¬ lo c = 0 := fun z => by have := pot_lo (n := n) z; omega
    exact (fo_id n (fun k x hk => if_neg (fun q => hl (lg_e q.1).1))).symm
  | f + 1, 0, c, h, h1, h2 => by
    have hl : ¬ lo c = 0 := fun z => by have := pot_lo (n := n) z; omega
    exact fo_id n (fun k x hk => if_neg (fun q => hl (lg_e q.1).1))
  | f + 1, g + 1, c, h, h1, h2 => by
    refine fo_congr n (fun k x hk => ?_)
    unfold fz
    by_cases q : lg n ex c k = 1
    · obtain ⟨a1, a2⟩ := Gd_mv (rl := rl) h hk (lg_e q).2 (lg_e q).1
      rw [fs_fuel f g _ a1 (by omega) (by omega)]
    · rw [if_neg (fun z => q z.1), if_neg (fun z => q z.1)]
/-- the best store from a position, lost ones counted; the fewest moves to a won one, 63 if none -/
def Bv (n rl ex c : Nat) : Nat := bs n rl ex 16 c
def Fw (n rl ex c : Nat) : Nat := fs n rl ex 16 c
theorem pot16 {n u c : Nat} (h : Gd n u c) : pot n c ≤ 16 := by
  have := pot_le h
  have := h.2.1
  omega
theorem Bv_eq {n rl ex u c : Nat} (h : Gd n u c) : Bv n rl ex c = fo (bz n rl ex c (Bv n rl ex)) (dg c n) n := by
  show bs n rl ex 16 c = _
  have hp := pot16 h
  rw [bs_fuel 16 17 c h hp (by omega)]
  rfl
theorem Fw_eq {n rl ex u c : Nat} (h : Gd n u c) : Fw n rl ex c = fo (fz n rl ex c (Fw n rl ex)) (f0 n c) n := by
  show fs n rl ex 16 c = _
  have hp := pot16 h
  rw [fs_fuel 16 17 c h hp (by omega)]
  rfl
theorem fo_le {f : Nat → Nat → Nat} {a b : Nat} (ha : a ≤ b) : ∀ n, (∀ k x, k < n → x ≤ b → f k x ≤ b) → fo f a n ≤ b
  | 0, _ => ha
  | n + 1, h => h n _ (by omega) (fo_le ha n (fun k x hk => h k x (by omega)))
theorem bs_le {n rl ex u : Nat} : ∀ f c, Gd n u c → bs n rl ex f c ≤ 14
  | 0, c, h => Nat.le_trans (Gd_dg h (Nat.le_refl _)) h.2.1
  | f + 1, c, h => by
    refine fo_le (Nat.le_trans (Gd_dg h (Nat.le_refl _)) h.2.1) n (fun k x hk hx => ?_)
    unfold bz
    by_cases q : lg n ex c k = 1
    · obtain ⟨a1, a2⟩ := Gd_mv (rl := rl) h hk (lg_e q).2 (lg_e q).1
      rw [if_pos q]
      refine Nat.max_le.mpr ⟨hx, ?_⟩
      split
      · exact Nat.le_trans (Gd_dg a1 (Nat.le_refl _)) h.2.1
      · exact bs_le f _ a1
    · rw [if_neg q]; exact hx
theorem fs_le {n rl ex : Nat} : ∀ f c, fs n rl ex f c ≤ 63
  | 0, c => by show f0 n c ≤ 63; unfold f0; split <;> decide
  | f + 1, c => by
    refine fo_le (by unfold f0; split <;> decide) n (fun k x hk hx => ?_)
    unfold fz
    split
    · exact Nat.le_trans (Nat.min_le_left _ _) hx
    · exact hx
