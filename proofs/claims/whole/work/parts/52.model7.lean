/-! the model's public methods: set, move -/
theorem rowV_set {S : St} {j v : Nat} (hj : j < 3) (k : Nat) : rowV (sSet S j v) k = if k = j then v else rowV S k := by
  have hj : j = 0 ∨ j = 1 ∨ j = 2 := by omega
  rcases hj with rfl | rfl | rfl
  · by_cases q : k = 0
    · subst q; rfl
    · rw [if_neg q]
      unfold rowV
      rw [if_neg q, if_neg q]
      rfl
  · by_cases q : k = 1
    · subst q; rfl
    · rw [if_neg q]
      unfold rowV
      rw [if_neg q, if_neg q]
      rfl
  · by_cases q : k = 2
    · subst q; rfl
    · rw [if_neg q]
      unfold rowV
      rw [if_neg q, if_neg q]
      rfl
theorem rowV_j {S : St} {j : Nat} (hj : j < 3) : rowV S j = sGet S j := by
  have hj : j = 0 ∨ j = 1 ∨ j = 2 := by omega
  rcases hj with rfl | rfl | rfl <;> rfl
def t_X6_set : oz_T := (P_X6_set, e_X6, [(52, 0, 3, 0, s_X6_inn), (60, 1, 1, 0, s_X6_remember), (63, 1, 2, 0, s_X6_record)], (true, 58, none, false, 0), (0, fun _ => 0))
def s_X6_set : oz_S := oz_t2 44 fun x y N G R J Φ => ∃ hi sl W, R = rmR hi sl ∧ MR G W ∧ wOk W ∧ pM N G R J Φ (q_set W x y)
theorem I_X6_set : oz_Imp t_X6_set 4 s_X6_set := by
  intro Φ A a N G R J hN hS hC
  obtain ⟨x, y, rfl, hi, sl, W, rfl, hM, hok, h⟩ := oz_t2_e hS
  obtain ⟨m1, m2, m3, m4, m5, m6, m7, m8⟩ := id hM
  unfold q_set at h
  have a20 : ((x < 0 ∨ nI 3 ≤ x) ∨ (y < 0 ∨ nI 1 < y)) → A 20 [some (.ref 44), some (.int x), some (.int y), none] [] N G (rmR hi sl) J 0 := fun q => by
    rw [if_pos q] at h
    exact hC.1 [] 20 20 _ _ _ _ _ _ _ (pM_0 h hM)
  have a23 : ¬ ((x < 0 ∨ nI 3 ≤ x) ∨ (y < 0 ∨ nI 1 < y)) → A 23 [some (.ref 44), some (.int x), some (.int y), none] [] N G (rmR hi sl) J 0 := fun q => by
    rw [if_neg q] at h
    obtain ⟨hx, hk⟩ := rng2 (x := x) (b := 3) (fun z => q (Or.inl (Or.inl z))) (fun z => q (Or.inl (Or.inr z))) (by decide)
    obtain ⟨hy, -, hy1⟩ := rng (x := y) (a := 0) (b := 1) (fun z => q (Or.inr (Or.inl z))) (fun z => q (Or.inr (Or.inr z))) (by decide) (by decide)
    generalize nt x = k at hx hk h
    generalize nt y = v at hy hy1 h
    clear q a20
    subst hx
    subst hy
    have b47 : RowR (oz2 (cpo G 45 0 47 0 215) 45 k (nI v)) 47 0 (wS W) := RowR_fr (fun r hr => by rw [oz2_row (by decide)]) (cpo_R (b := 47) (p := 0) hok.1 m1)
    have b45 : RowR (oz2 (cpo G 45 0 47 0 215) 45 k (nI v)) 45 0 (sSet (wS W) k v) := fun r hr => by
      rw [Nat.zero_add, rowV_set hk]
      by_cases z : r = k
      · rw [if_pos z, z, oz2_self]
      · rw [if_neg z, oz2_ne z, cpo_o (by decide)]
        have := m1 r hr
        rw [Nat.zero_add] at this
        exact this
    have far : ∀ i, i ≠ 45 → i ≠ 47 → oz2 (cpo G 45 0 47 0 215) 45 k (nI v) i = G i := fun i h1 h2 => by rw [oz2_row h1, cpo_o h2]
    have ev : cpo G 45 0 47 0 215 45 k = nI (sGet (wS W) k) := by rw [cpo_o (by decide), row_g m1 (by omega), rowV_j hk]
    refine hC.1 [] 80 23 _ _ _ _ _ _ _ ⟨hi, sl, rfl, k, rfl, by show k < 215; omega, k, rfl, by show k < 215; omega, hi, sl, wS W, wH W, rfl, hok.1, hok.2.1, hok.2.2.2.2, b47, by rw [far 44 (by decide) (by decide)]; exact m2, HsM_fr (far 46 (by decide) (by decide)) _ m3, fun G' r1 r2 r3 r4 => ?_⟩
    have hf := h G' (MR_rec hM b45 (by rw [far 44 (by decide) (by decide)]) (fun i hi => far i (by omega) (by omega)) r1 r2 r3 r4) (fun i hi => by rw [r1 i (by omega) (by omega)]; exact far i (by omega) (by omega)) (by rw [r2 21 (by decide), far 44 (by decide) (by decide)])
    have hf : Φ (some (.int (nI (sGet (wS W) k)))) N G' (rmR hi sl) J := hf
    rw [← ev] at hf
    exact hf
  refine hC.1 [20, 23] 40 0 _ _ _ _ _ _ _ ⟨x, rfl, fun q => a20 (Or.inl ?_), fun q => ⟨y, rfl, fun q2 => a23 ?_, fun q2 => a20 (Or.inr ?_)⟩⟩
  · have q : b2 (inb x (nI 0) (nI 2)) = nI 0 := q
    rw [b2_f, inb_f] at q
    exact q.elim Or.inl (fun z => Or.inr ((le_lt1 (k := 2) (by decide)).mpr z))
  · have q : ¬ b2 (inb x (nI 0) (nI 2)) = nI 0 := q
    have q2 : ¬ b2 (inb y (nI 0) (nI 1)) = nI 0 := q2
    rw [b2_t, inb_t] at q q2
    exact fun z => z.elim (fun z => q (z.elim Or.inl (fun z => Or.inr ((le_lt1 (k := 2) (by decide)).mp z)))) q2
  · have q2 : ¬ ¬ b2 (inb y (nI 0) (nI 1)) = nI 0 := q2
    have q2 := Classical.not_not.mp q2
    rw [b2_f, inb_f] at q2
    exact q2
def t_X6_move : oz_T := (P_X6_move, e_X6, [], (true, 58, none, false, 0), (0, fun _ => 0))
def s_X6_move : oz_S := oz_t1 44 fun x N G R J Φ => ∃ hi sl W, R = rmR hi sl ∧ MR G W ∧ wOk W ∧ pM N G R J Φ (q_move W x)
theorem I_X6_move : oz_Imp t_X6_move 2 s_X6_move := by
  intro Φ A a N G R J hN hS hC
  obtain ⟨x, rfl, hi, sl, W, rfl, hM, hok, h⟩ := oz_t1_e hS
  have m1 := hM.1
  have h16 := StOk_20 hok.1
  have e14 : G 45 14 = nI (sK (wS W)).length := row_g m1 (by decide)
  unfold q_move at h
  refine hC.1 [] 60 0 _ _ _ _ _ _ _ ⟨fun q => ⟨14, rfl, by decide, fun q2 => ?_, fun q2 => ⟨14, rfl, by decide, ?_⟩⟩, fun q => ?_⟩
  · have q : nI 0 ≤ x := q
    have q2 : G 45 14 ≤ x := q2
    rw [e14] at q2
    have hx0 : ¬ x < 0 := Int32.not_lt.mpr q
    rw [if_neg hx0, if_pos q2] at h
    exact pM_0 h hM
  · have q : nI 0 ≤ x := q
    have q2 : ¬ G 45 14 ≤ x := q2
    rw [e14] at q2
    have hx0 : ¬ x < 0 := Int32.not_lt.mpr q
    obtain ⟨hx, hk⟩ := rng2 hx0 q2 (by omega)
    rw [if_neg hx0, if_neg q2] at h
    generalize nt x = k at hx hk h
    subst hx
    have hv : G 45 (15 + 10 * ((sK (wS W)).length - 1 - k)) = nI ((sK (wS W)).getD k (0, 0, 0)).1 := by
      have hr := m1 (15 + 10 * ((sK (wS W)).length - 1 - k)) (by omega)
      rw [Nat.zero_add] at hr
      rw [hr]
      unfold rowV
      rw [if_neg (by omega), if_neg (by omega), if_neg (by omega), if_neg (by omega), if_neg (by omega), if_neg (by omega), if_neg (by omega), if_neg (by omega), if_neg (by omega)]
      rw [show (sK (wS W)).length - 1 - (15 + 10 * ((sK (wS W)).length - 1 - k) - 15) / 10 = k by omega, show (15 + 10 * ((sK (wS W)).length - 1 - k) - 15) % 10 = 0 by omega]
      rfl
    rw [← hv] at h
    refine ⟨15 + 10 * ((sK (wS W)).length - 1 - k), ?_, by show 15 + 10 * ((sK (wS W)).length - 1 - k) < 215; omega, pM_0 h hM⟩
    show nI 15 + nI 10 * (G 45 14 - nI 1 - nI k) = _
    rw [e14, pk_sub (by omega), pk_sub (by omega), pk_mul, nI_add]
  · have q : ¬ nI 0 ≤ x := q
    have hx0 : x < 0 := Int32.not_le.mp q
    rw [if_pos hx0] at h
    exact pM_0 h hM
