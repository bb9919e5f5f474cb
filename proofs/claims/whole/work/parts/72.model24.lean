/-! the model's search: a position as a number -/
theorem nI_or (a b : Nat) : nI a ||| nI b = nI (a ||| b) := by
  apply Int32.toBitVec_inj.1
  show BitVec.ofNat 32 a ||| BitVec.ofNat 32 b = BitVec.ofNat 32 (a ||| b)
  apply BitVec.eq_of_getLsbD_eq
  intro i hi
  simp [hi]
def mco (n c : Nat) : Nat := c % 16 ^ n + lf c * 2 ^ 24
theorem p6 {k : Nat} (hk : k ≤ 6) : (16 : Nat) ^ k ≤ 2 ^ 24 := by
  have h := Nat.pow_le_pow_right (n := 16) (by decide) hk
  have e : (16 : Nat) ^ 6 = 2 ^ 24 := by decide
  omega
theorem mc_or {L a d k : Nat} (ha : a < 16 ^ k) (hd : d < 16) (hk : k < 6) : (L * 2 ^ 24 + a) ||| (d * 16 ^ k) = L * 2 ^ 24 + (a + d * 16 ^ k) := by
  have e4 : (16 : Nat) ^ k = 2 ^ (4 * k) := by rw [Nat.pow_mul]
  have h1 : a + d * 16 ^ k < 2 ^ 24 := by
    have h2 : d * 16 ^ k ≤ 15 * 16 ^ k := Nat.mul_le_mul_right _ (by omega)
    have h3 := p6 (show k + 1 ≤ 6 by omega)
    rw [Nat.pow_succ] at h3
    omega
  have h2 : a < 2 ^ 24 := by omega
  have e1 : L * 2 ^ 24 + a = 2 ^ 24 * L ||| a := by rw [Nat.mul_comm]; exact Nat.two_pow_add_eq_or_of_lt h2 L
  have e2 : L * 2 ^ 24 + (a + d * 16 ^ k) = 2 ^ 24 * L ||| (a + d * 16 ^ k) := by rw [Nat.mul_comm]; exact Nat.two_pow_add_eq_or_of_lt h1 L
  have e3 : a + d * 16 ^ k = a ||| d * 16 ^ k := by
    rw [e4] at ha ⊢
    have := Nat.two_pow_add_eq_or_of_lt ha d
    rw [Nat.mul_comm d, Nat.add_comm, this, Nat.or_comm]
  rw [e1, e2, Nat.or_assoc, ← e3]
theorem mod_s (c k : Nat) : c % 16 ^ (k + 1) = c % 16 ^ k + dg c k * 16 ^ k := by
  rw [Nat.mod_pow_succ, Nat.mul_comm]
  rfl
theorem mco_lt {n c : Nat} (hn : n ≤ 6) : mco n c < 2 ^ 25 := by
  have h1 : c % 16 ^ n < 16 ^ n := Nat.mod_lt _ (Nat.pow_pos (by decide))
  have h2 := p6 hn
  have h3 := lf_le (c := c)
  unfold mco
  omega
theorem mco_d {n c k : Nat} (hk : k < n) (hn : n ≤ 6) : dg (mco n c) k = dg c k := by
  have e : mco n c = c % 16 ^ n + lf c * 16 ^ 6 := by unfold mco; rw [show (2 : Nat) ^ 24 = 16 ^ 6 by decide]
  rw [e, dg_low (show k < 6 by omega)]
  conv => rhs; rw [← Nat.mod_add_div c (16 ^ n), Nat.mul_comm (16 ^ n)]
  rw [dg_low hk]
theorem mco_l {n c : Nat} (hn : n ≤ 6) : mco n c / 2 ^ 24 = lf c := by
  have h1 : c % 16 ^ n < 16 ^ n := Nat.mod_lt _ (Nat.pow_pos (by decide))
  have h2 := p6 hn
  unfold mco
  omega
/-- a good position that isn't lost is told by its number -/
theorem mco_inj {n u c c' : Nat} (h : Gd n u c) (h' : Gd n u c') (ho : lo c = 0) (ho' : lo c' = 0) (e : mco n c = mco n c') : c = c' := by
  have hn := h.2.2
  have hl : lf c = lf c' := by rw [← mco_l hn, e, mco_l hn]
  have hd : ∀ k, k < n → dg c k = dg c' k := fun k hk => by rw [← mco_d hk hn, e, mco_d hk hn]
  have s1 : sm c n + dg c n = u := h.1.2
  have s2 : sm c' n + dg c' n = u := h'.1.2
  have hs := sm_congr n hd
  have hdn : dg c n = dg c' n := by omega
  have hm : c % 16 ^ n = c' % 16 ^ n := by
    have e1 : mco n c = c % 16 ^ n + lf c * 2 ^ 24 := rfl
    have e2 : mco n c' = c' % 16 ^ n + lf c' * 2 ^ 24 := rfl
    rw [e1, e2, hl] at e
    omega
  have hm1 : c % 16 ^ (n + 1) = c' % 16 ^ (n + 1) := by rw [mod_s, mod_s, hm, hdn]
  have hq : c / 16 ^ (n + 1) = c' / 16 ^ (n + 1) := by
    have a1 := h.1.1
    have a2 := h'.1.1
    rw [ho, hl] at a1
    rw [ho'] at a2
    rw [a1, a2]
  rw [← Nat.mod_add_div c (16 ^ (n + 1)), ← Nat.mod_add_div c' (16 ^ (n + 1)), hm1, hq]
def t_X6_code : oz_T := (P_X6_code, e_X6, [], (true, 58, none, false, 0), (0, fun _ => 0))
def s_X6_code : oz_S := oz_t0 44 fun N G R J Φ => ∃ hi sl n ex c, R = rmR hi sl ∧ PsR G n ex c ∧ Φ (some (.int (nI (mco n c)))) N G R J
theorem I_X6_code : oz_Imp t_X6_code 3 s_X6_code := by
  intro Φ A a N G R J hN hS hC
  obtain ⟨rfl, hi, sl, n, ex, c, rfl, ⟨e3, e1, hn2, hn6, hex, hP⟩, h⟩ := oz_t0_e hS
  have hlf := lf_le (c := c)
  have loop : ∀ f k, k + f = n → A 10 [some (.ref 44), some (.int (nI (lf c * 2 ^ 24 + c % 16 ^ k))), some (.int (nI k))] [] N G (rmR hi sl) J 0 := by
    intro f
    induction f with
    | zero =>
      intro k hk
      have hk : k = n := by omega
      subst hk
      have e : lf c * 2 ^ 24 + c % 16 ^ k = mco k c := by unfold mco; omega
      rw [e]
      exact hC.1 [] 40 10 _ _ _ _ _ _ _ ⟨3, rfl, by decide, fun _ => h, fun q => absurd (show G 45 3 ≤ nI k by rw [e3]; exact nI_le (Nat.le_refl _) (by omega)) q⟩
    | succ f ih =>
      intro k hk
      have hkn : k < n := by omega
      have hd := dg_lt c k
      have hih := ih (k + 1) (by omega)
      have e : nI (lf c * 2 ^ 24 + c % 16 ^ k) ||| (G 53 k <<< (nI 4 * nI k &&& 31)) = nI (lf c * 2 ^ 24 + c % 16 ^ (k + 1)) := by
        have e5 : G 53 k <<< (nI 4 * nI k &&& 31) = nI (dg c k * 16 ^ k) := by
          rw [hP.1 k hkn]
          exact rw_sd_n (by omega) (mx_sd hd (by omega))
        rw [e5, nI_or, mc_or (Nat.mod_lt _ (Nat.pow_pos (by decide))) hd (by omega), mod_s]
      rw [← e, ← nI_add k 1] at hih
      exact hC.1 [10] 60 10 _ _ _ _ _ _ _ ⟨3, rfl, by decide, fun q => absurd (show G 45 3 ≤ nI k from q) (by rw [e3]; exact nI_ge hkn (by omega)), fun _ => ⟨k, rfl, by show k < 7; omega, hih⟩⟩
  have h0 := loop n 0 (by omega)
  have e0 : G 44 13 <<< (nI 24 &&& 31) = nI (lf c * 2 ^ 24 + c % 16 ^ 0) := by
    rw [hP.2.2, pk_shlN (nI 24 &&& 31) 24 (by decide) (by omega), Nat.pow_zero, Nat.mod_one, Nat.add_zero]
  rw [← e0] at h0
  exact hC.1 [10] 40 0 _ _ _ _ _ _ _ h0
def t_X6_open : oz_T := (P_X6_open, e_X6, [], (true, 58, none, false, 0), (0, fun _ => 0))
def s_X6_open : oz_S := oz_t2 44 fun x y N G R J Φ => ∃ hi sl n u c, R = rmR hi sl ∧ G 45 3 = nI n ∧ Gd n u c ∧ x = nI (mco n c) ∧ y = nI u ∧ ∀ G' : oz_G, (∀ a, a ≠ 44 → a ≠ 53 → G' a = G a) → (∀ k, k ≠ 13 → G' 44 k = G 44 k) → PlR G' n c → Φ none N G' R J
theorem I_X6_open : oz_Imp t_X6_open 5 s_X6_open := by
  intro Φ A a N G R J hN hS hC
  obtain ⟨x, y, rfl, hi, sl, n, u, c, rfl, e3, hg, rfl, rfl, h⟩ := oz_t2_e hS
  have hn6 := hg.2.2
  have hu := hg.2.1
  have hX := mco_lt (c := c) hn6
  have hs : sm c n + dg c n = u := hg.1.2
  have loop : ∀ f k (G2 : oz_G), k + f = n → (∀ a, a ≠ 53 → G2 a = G a) → (∀ j, j < k → G2 53 j = nI (dg c j)) → A 5 [some (.ref 44), some (.int (nI (mco n c))), some (.int (nI u)), some (.int (nI (u - sm c k))), some (.int (nI k))] [] N G2 (rmR hi sl) J 0 := by
    intro f
    induction f with
    | zero =>
      intro k G2 hk g1 g2
      have hk : k = n := by omega
      subst hk
      have g3 : G2 45 3 = nI k := by rw [g1 45 (by decide)]; exact e3
      have e : (nI (mco k c) >>> (nI 24 &&& 31)) = nI (lf c) := by
        rw [pk_shrN (by omega) (nI 24 &&& 31) 24 (by decide), mco_l hn6]
      have hf := h (oz2 (oz2 G2 53 k (nI (u - sm c k))) 44 13 (nI (mco k c) >>> (nI 24 &&& 31))) (fun a a1 a2 => by rw [oz2_row a1, oz2_row a2]; exact g1 a a2) (fun j hj => by rw [oz2_ne hj, oz2_row (by decide), g1 44 (by decide)]) ⟨fun j hj => by rw [oz2_row (by decide), oz2_ne (by omega)]; exact g2 j hj, by rw [oz2_row (by decide), oz2_self]; congr 1; omega, by rw [oz2_self]; exact e⟩
      exact hC.1 [] 60 5 _ _ _ _ _ _ _ ⟨3, rfl, by decide, fun _ => ⟨3, rfl, by decide, k, g3, by show k < 7; omega, hf⟩, fun q => absurd (show G2 45 3 ≤ nI k by rw [g3]; exact nI_le (Nat.le_refl _) (by omega)) q⟩
    | succ f ih =>
      intro k G2 hk g1 g2
      have hkn : k < n := by omega
      have hd := dg_lt c k
      have g3 : G2 45 3 = nI n := by rw [g1 45 (by decide)]; exact e3
      have hmono := sm_mono c (k + 1) n (by omega)
      have hsk : sm c (k + 1) = sm c k + dg c k := rfl
      have ev : (nI (mco n c) >>> (nI 4 * nI k &&& 31)) &&& nI 15 = nI (dg c k) := by
        rw [pk_mul, pk_shrN (by omega) (nI (4 * k) &&& 31) (4 * k) (mx_s k (by omega)), pk_andN (Nat.lt_of_le_of_lt (Nat.div_le_self _ _) (by omega)) 4 (by decide)]
        rw [← mco_d hkn hn6]
        unfold dg
        rw [show (2 : Nat) ^ (4 * k) = 16 ^ k by rw [Nat.pow_mul]]
      have hih := ih (k + 1) (oz2 G2 53 k (nI (dg c k))) (by omega) (fun a ha => by rw [oz2_row ha]; exact g1 a ha) (fun j hj => by
        by_cases z : j = k
        · rw [z, oz2_self]
        · rw [oz2_ne z]; exact g2 j (by omega))
      have el : nI (u - sm c k) - oz2 G2 53 k (nI (dg c k)) 53 k = nI (u - sm c (k + 1)) := by
        rw [oz2_self, pk_sub (by omega)]
        congr 1
        omega
      rw [← el, ← nI_add k 1, ← ev] at hih
      exact hC.1 [5] 80 5 _ _ _ _ _ _ _ ⟨3, rfl, by decide, fun q => absurd (show G2 45 3 ≤ nI k from q) (by rw [g3]; exact nI_ge hkn (by omega)), fun _ => ⟨k, rfl, by show k < 7; omega, k, rfl, by show k < 7; omega, hih⟩⟩
  have h0 := loop n 0 G (by omega) (fun _ _ => rfl) (fun j hj => absurd hj (Nat.not_lt_zero _))
  exact hC.1 [5] 40 0 _ _ _ _ _ _ _ h0
