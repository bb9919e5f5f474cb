/-! mathematics: sowing lap by lap, for counting -/
def dgF (c i : Nat) : Nat := Nat.mod (Nat.div c (Nat.pow 16 i)) 16
def onF (k : Nat) : Nat := Nat.mod 286331153 (Nat.pow 16 k)
def lpG (n1 p la e : Nat) : Nat := Nat.sub (Nat.add (Nat.add (Nat.sub p (Nat.mul (Nat.sub e la) (Nat.pow 16 la))) (Nat.mul (Nat.div e n1) (onF n1))) (onF (Nat.succ (Nat.mod e n1)))) (onF (Nat.succ la))
noncomputable def mvG (n n1 rl M f : Nat) : Nat → Nat → Nat :=
  Nat.rec (fun _ _ => 0) (fun _ ih p la => (fun e => (fun l2 => (fun p2 => Bool.rec (Bool.rec (Nat.mul 2 (Nat.mod p2 M)) (ih p2 l2) (Nat.ble 2 (Nat.mul rl (dgF p2 l2)))) (Nat.succ (Nat.mul 2 (Nat.mod p2 M))) (Nat.beq l2 n)) (lpG n1 p la e)) (Nat.mod e n1)) (Nat.add la (dgF p la))) f
theorem dgF_e (c i : Nat) : dgF c i = dg c i := rfl
theorem onF_s : ∀ k, k < 8 → onF (k + 1) = onF k + 16 ^ k := by decide
theorem dl_f {n : Nat} (hn : n ≤ 6) : ∀ k c la th, la ≤ n → (dl n k c la th).1 + onF (la + 1) = c + ((la + k) / (n + 1)) * onF (n + 1) + onF ((la + k) % (n + 1) + 1) ∧ (dl n k c la th).2.1 = (la + k) % (n + 1)
  | 0, c, la, th, h => by
    have e1 : (la + 0) / (n + 1) = 0 := Nat.div_eq_of_lt (by omega)
    have e2 : (la + 0) % (n + 1) = la := Nat.mod_eq_of_lt (by omega)
    rw [e1, e2, Nat.zero_mul]
    exact ⟨rfl, rfl⟩
  | k + 1, c, la, th, h => by
    obtain ⟨a1, a2⟩ := dl_f hn k (c + 16 ^ nx n la) (nx n la) (dg c (nx n la)) nx_le
    have e : dl n (k + 1) c la th = dl n k (c + 16 ^ nx n la) (nx n la) (dg c (nx n la)) := rfl
    rw [e]
    by_cases q : n ≤ la
    · have hla : la = n := by omega
      subst hla
      have hx : nx la la = 0 := if_pos (Nat.le_refl _)
      rw [hx] at a1 a2 ⊢
      have e1 : (la + (k + 1)) / (la + 1) = k / (la + 1) + 1 := by
        rw [show la + (k + 1) = k + (la + 1) by omega, Nat.add_div_right _ (Nat.succ_pos _)]
      have e2 : (la + (k + 1)) % (la + 1) = k % (la + 1) := by
        rw [show la + (k + 1) = k + (la + 1) by omega, Nat.add_mod_right]
      rw [Nat.zero_add k] at a1 a2
      rw [e1, e2, Nat.add_mul, Nat.one_mul]
      have o1 : onF (0 + 1) = 1 := by decide
      rw [o1] at a1
      generalize (dl la k (c + 16 ^ 0) 0 (dg c 0)).1 = X at a1 ⊢
      rw [Nat.pow_zero] at a1
      exact ⟨by omega, a2⟩
    · have hx : nx n la = la + 1 := if_neg q
      rw [hx] at a1 a2 ⊢
      have o1 := onF_s (la + 1) (by omega)
      rw [o1] at a1
      rw [show la + 1 + k = la + (k + 1) by omega] at a1 a2
      exact ⟨by omega, a2⟩
theorem lp_f {n p la : Nat} (hn : n ≤ 6) (hla : la ≤ n) : lpG (n + 1) p la (la + dg p la) = (lp n p la).1 ∧ (la + dg p la) % (n + 1) = (lp n p la).2.1 := by
  obtain ⟨a1, a2⟩ := dl_f hn (dg p la) (p - dg p la * 16 ^ la) la 0 hla
  have e : lp n p la = dl n (dg p la) (p - dg p la * 16 ^ la) la 0 := rfl
  rw [← e] at a1 a2
  refine ⟨?_, a2.symm⟩
  show (p - (la + dg p la - la) * 16 ^ la) + ((la + dg p la) / (n + 1)) * onF (n + 1) + onF ((la + dg p la) % (n + 1) + 1) - onF (la + 1) = _
  rw [Nat.add_sub_cancel_left]
  omega
theorem mvG_s (n n1 rl M f p la : Nat) : mvG n n1 rl M (f + 1) p la = Bool.rec (Bool.rec (2 * (lpG n1 p la (la + dg p la) % M)) (mvG n n1 rl M f (lpG n1 p la (la + dg p la)) ((la + dg p la) % n1)) (Nat.ble 2 (rl * dg (lpG n1 p la (la + dg p la)) ((la + dg p la) % n1)))) (2 * (lpG n1 p la (la + dg p la) % M) + 1) (Nat.beq ((la + dg p la) % n1) n) := rfl
theorem mvG_e {n rl F t M : Nat} (ht : t ≤ 14) (hn : n ≤ 6) (hrl : rl ≤ 1) : ∀ f p la k, Iv n F t p → la < n → 0 < dg p la → mu n p la < f → mvG n (n + 1) rl M f p la = if (mk n rl f p la k).2.1 = n then 2 * ((mk n rl f p la k).1 % M) + 1 else 2 * ((mk n rl f p la k).1 % M)
  | 0, p, la, k, _, _, _, hm => by omega
  | f + 1, p, la, k, h, hla, hd, hm => by
    obtain ⟨a1, a2, a3, a4, a5, a6⟩ := lp_ok h ht hn hla hd
    obtain ⟨l1, l2⟩ := lp_f (p := p) hn (show la ≤ n by omega)
    rw [mvG_s, l1, l2]
    by_cases q : (lp n p la).2.1 = n
    · have e : mk n rl (f + 1) p la k = ((lp n p la).1, (lp n p la).2.1, k + 1) := if_neg (fun z => z.1 q)
      rw [e]
      have hb : Nat.beq (lp n p la).2.1 n = true := by rw [q]; exact Nat.beq_refl n
      rw [hb]
      show _ = if (lp n p la).2.1 = n then _ else _
      rw [if_pos q]
    · have hb : Nat.beq (lp n p la).2.1 n = false := beq_ne q
      rw [hb]
      by_cases q2 : 0 < (lp n p la).2.2 ∧ rl = 1
      · have e : mk n rl (f + 1) p la k = mk n rl f (lp n p la).1 (lp n p la).2.1 (k + 1) := if_pos ⟨q, q2⟩
        have hm2 := a6 q
        rw [e]
        have hbl : Nat.ble 2 (rl * dg (lp n p la).1 (lp n p la).2.1) = true := by
          rw [q2.2, Nat.one_mul, a4]
          exact Nat.ble_eq_true_of_le (by omega)
        rw [hbl]
        exact mvG_e ht hn hrl f (lp n p la).1 (lp n p la).2.1 (k + 1) a1 (by omega) (by omega) (by omega)
      · have e : mk n rl (f + 1) p la k = ((lp n p la).1, (lp n p la).2.1, k + 1) := if_neg (fun z => q2 ⟨z.2.1, z.2.2⟩)
        rw [e]
        have hbl : Nat.ble 2 (rl * dg (lp n p la).1 (lp n p la).2.1) = false := by
          cases z : Nat.ble 2 (rl * dg (lp n p la).1 (lp n p la).2.1) with
          | false => rfl
          | true =>
            have z := Nat.le_of_ble_eq_true z
            rw [a4] at z
            exfalso
            by_cases r : rl = 1
            · rw [r, Nat.one_mul] at z
              exact q2 ⟨by omega, r⟩
            · rw [show rl = 0 by omega, Nat.zero_mul] at z
              omega
        rw [hbl]
        show _ = if (lp n p la).2.1 = n then _ else _
        rw [if_neg q]
/-! what a move does to the pits is told by the pits -/
theorem dl_sim {n F F' : Nat} : ∀ k c v la th th' t t', Iv n F t c → Iv n F' t' v → t + k ≤ 14 → t' + k ≤ 14 → la ≤ n → (∀ j, j < n → dg c j = dg v j) → (k = 0 → la < n → th = th') → (∀ j, j < n → dg (dl n k c la th).1 j = dg (dl n k v la th').1 j) ∧ (dl n k c la th).2.1 = (dl n k v la th').2.1 ∧ ((dl n k c la th).2.1 < n → (dl n k c la th).2.2 = (dl n k v la th').2.2)
  | 0, c, v, la, th, th', t, t', h, h', ht, ht', hla, hs, hth => ⟨hs, rfl, fun z => hth rfl z⟩
  | k + 1, c, v, la, th, th', t, t', h, h', ht, ht', hla, hs, hth => by
    obtain ⟨a1, a2⟩ := Iv_add h (by omega) (nx_le (n := n) (j := la))
    obtain ⟨b1, b2⟩ := Iv_add h' (by omega) (nx_le (n := n) (j := la))
    exact dl_sim k (c + 16 ^ nx n la) (v + 16 ^ nx n la) (nx n la) (dg c (nx n la)) (dg v (nx n la)) (t + 1) (t' + 1) a1 b1 (by omega) (by omega) nx_le (fun j hj => by rw [a2 j, b2 j, hs j hj]) (fun _ z => hs _ z)
theorem lp_sim {n F F' u u' c v la : Nat} (h : Iv n F u c) (h' : Iv n F' u' v) (hu : u ≤ 14) (hu' : u' ≤ 14) (hla : la < n) (hd : 0 < dg c la) (hs : ∀ j, j < n → dg c j = dg v j) : (∀ j, j < n → dg (lp n c la).1 j = dg (lp n v la).1 j) ∧ (lp n c la).2.1 = (lp n v la).2.1 ∧ ((lp n c la).2.1 < n → (lp n c la).2.2 = (lp n v la).2.2) := by
  have e := hs la hla
  have h1 := Iv_sub h (j := la) (by omega)
  have h2 := Iv_sub h' (j := la) (by omega)
  have l1 := sm_le c (n + 1) la (by omega)
  have l2 := sm_le v (n + 1) la (by omega)
  rw [h.2] at l1
  rw [h'.2] at l2
  have e1 : lp n v la = dl n (dg c la) (v - dg v la * 16 ^ la) la 0 := by unfold lp; rw [e]
  rw [e1]
  exact dl_sim (dg c la) (c - dg c la * 16 ^ la) (v - dg v la * 16 ^ la) la 0 0 (u - dg c la) (u' - dg v la) h1 h2 (by omega) (by omega) (by omega) (fun j hj => by
    rw [dg_sub0, dg_sub0]
    split
    · rfl
    · exact hs j hj) (fun z => by omega)
theorem mk_sim {n rl F F' u u' : Nat} (hn : n ≤ 6) (hu : u ≤ 14) (hu' : u' ≤ 14) : ∀ f c v la k, Iv n F u c → Iv n F' u' v → la < n → 0 < dg c la → (∀ j, j < n → dg c j = dg v j) → (∀ j, j < n → dg (mk n rl f c la k).1 j = dg (mk n rl f v la k).1 j) ∧ (mk n rl f c la k).2.1 = (mk n rl f v la k).2.1
  | 0, c, v, la, k, _, _, _, _, hs => ⟨hs, rfl⟩
  | f + 1, c, v, la, k, h, h', hla, hd, hs => by
    obtain ⟨s1, s2, s3⟩ := lp_sim h h' hu hu' hla hd hs
    obtain ⟨a1, a2, a3, a4, a5, a6⟩ := lp_ok h hu hn hla hd
    obtain ⟨b1, b2, b3, b4, b5, b6⟩ := lp_ok h' hu' hn hla (by rw [← hs la hla]; exact hd)
    by_cases q : (lp n c la).2.1 ≠ n ∧ 0 < (lp n c la).2.2 ∧ rl = 1
    · have hlt : (lp n c la).2.1 < n := by omega
      have q' : (lp n v la).2.1 ≠ n ∧ 0 < (lp n v la).2.2 ∧ rl = 1 := by rw [← s2, ← s3 hlt]; exact q
      have e1 : mk n rl (f + 1) c la k = mk n rl f (lp n c la).1 (lp n c la).2.1 (k + 1) := if_pos q
      have e2 : mk n rl (f + 1) v la k = mk n rl f (lp n v la).1 (lp n v la).2.1 (k + 1) := if_pos q'
      rw [e1, e2, ← s2]
      exact mk_sim hn hu hu' f _ _ _ _ a1 b1 hlt (by omega) s1
    · have q' : ¬ ((lp n v la).2.1 ≠ n ∧ 0 < (lp n v la).2.2 ∧ rl = 1) := fun z => q ⟨by rw [s2]; exact z.1, by rw [s3 (by have := z.1; omega)]; exact z.2.1, z.2.2⟩
      have e1 : mk n rl (f + 1) c la k = ((lp n c la).1, (lp n c la).2.1, k + 1) := if_neg q
      have e2 : mk n rl (f + 1) v la k = ((lp n v la).1, (lp n v la).2.1, k + 1) := if_neg q'
      rw [e1, e2]
      exact ⟨s1, s2⟩
theorem mod_dg {a b : Nat} : ∀ n, (∀ j, j < n → dg a j = dg b j) → a % 16 ^ n = b % 16 ^ n
  | 0, _ => by rw [Nat.pow_zero, Nat.mod_one, Nat.mod_one]
  | n + 1, h => by rw [mod_s, mod_s, mod_dg n (fun j hj => h j (by omega)), h n (by omega)]
theorem dg_mod {c n j : Nat} (h : j < n) : dg (c % 16 ^ n) j = dg c j := by
  conv => rhs; rw [← Nat.mod_add_div c (16 ^ n), Nat.mul_comm (16 ^ n)]
  rw [dg_low h]
/-- a move, told by the pits alone -/
theorem mv_pits {n rl u c i : Nat} (hg : Gd n u c) (hlo : lo c = 0) (hrl : rl ≤ 1) (hi : i < n) (hd : 0 < dg c i) : mvG n (n + 1) rl (16 ^ n) 1000 (c % 16 ^ n) i = 2 * (mvc n rl c i % 16 ^ n) + (if (mv n rl c i).2.1 = n then 1 else 0) ∧ sm (mvc n rl c i) n ≤ sm c n ∧ (lf c = 1 ∧ lo (mvc n rl c i) = 0 ∨ lf c = 0 ∧ (lo (mvc n rl c i) = 0 → (mv n rl c i).2.1 = n)) ∧ (lo (mvc n rl c i) = 0 → lf (mvc n rl c i) = if (mv n rl c i).2.1 = n then lf c else 0) := by
  have hn := hg.2.2
  have hu := hg.2.1
  have hv : c % 16 ^ n < 16 ^ n := Nat.mod_lt _ (Nat.pow_pos (by decide))
  have hsv : sm (c % 16 ^ n) (n + 1) = sm c n := by
    rw [sm_up hv]
    exact sm_congr n (fun j hj => dg_mod hj)
  have hs1 : sm c n + dg c n = u := hg.1.2
  have hIv : Iv n 0 (sm c n) (c % 16 ^ n) := ⟨Nat.div_eq_of_lt (Nat.lt_of_lt_of_le hv (Nat.pow_le_pow_right (by decide) (Nat.le_succ n))), hsv⟩
  have hdv : 0 < dg (c % 16 ^ n) i := by rw [dg_mod hi]; exact hd
  have e := mvG_e (M := 16 ^ n) (show sm c n ≤ 14 by omega) hn hrl 1000 (c % 16 ^ n) i 0 hIv hi hdv mu_lt
  obtain ⟨d1, d2⟩ := mk_sim (rl := rl) hn hu (show sm c n ≤ 14 by omega) 1000 c (c % 16 ^ n) i 0 hg.1 hIv hi hd (fun j hj => (dg_mod hj).symm)
  obtain ⟨b1, b2, b3, b4, b5, b6⟩ := mv_ok (rl := rl) (Gd_Pv hg) hi hd
  obtain ⟨c1, -, -, -⟩ := mvc_dg (rl := rl) hg hlo hi hd
  have hl := lf_F (Gd_Pv hg).1 b1.1 hn
  have ho := lo_F (Gd_Pv hg).1 b1.1 hn
  have em : mvc n rl c i % 16 ^ n = (mk n rl 1000 (c % 16 ^ n) i 0).1 % 16 ^ n := mod_dg n (fun j hj => by rw [c1 j (by omega)]; exact d1 j hj)
  have hlf := lf_le (c := c)
  refine ⟨?_, ?_, ?_, ?_⟩
  · rw [e, ← d2, em]
    show (if (mv n rl c i).2.1 = n then _ else _) = _
    by_cases q : (mv n rl c i).2.1 = n
    · rw [if_pos q, if_pos q]
    · rw [if_neg q, if_neg q, Nat.add_zero]
  · have s2 : sm (mv n rl c i).1 n + dg (mv n rl c i).1 n = u := b1.1.2
    have s3 : sm (mvc n rl c i) n = sm (mv n rl c i).1 n := sm_congr n (fun j hj => c1 j (by omega))
    omega
  · by_cases q : (mv n rl c i).2.1 = n
    · have em2 : mvc n rl c i = (mv n rl c i).1 := if_pos q
      rw [em2, ho]
      rcases Nat.eq_zero_or_pos (lf c) with z | z
      · exact Or.inr ⟨z, fun _ => q⟩
      · exact Or.inl ⟨by omega, hlo⟩
    · have em2 : mvc n rl c i = aw (mv n rl c i).1 := if_neg q
      obtain ⟨w1, w2⟩ := aw_fl (c := (mv n rl c i).1) (by rw [ho]; exact hlo)
      rw [em2, w2, hl]
      rcases Nat.eq_zero_or_pos (lf c) with z | z
      · exact Or.inr ⟨z, fun y => by omega⟩
      · exact Or.inl ⟨by omega, by omega⟩
  · intro _
    by_cases q : (mv n rl c i).2.1 = n
    · have em2 : mvc n rl c i = (mv n rl c i).1 := if_pos q
      rw [em2, if_pos q, hl]
    · have em2 : mvc n rl c i = aw (mv n rl c i).1 := if_neg q
      obtain ⟨w1, w2⟩ := aw_fl (c := (mv n rl c i).1) (by rw [ho]; exact hlo)
      rw [em2, if_neg q, w1]
