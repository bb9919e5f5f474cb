/-! the class's public methods: put -/
def byt (X i : Nat) : Nat := X / 256 ^ i % 256
theorem cin_ok : ∀ f X k, cin f X k ≠ 0 → ∃ m, cin f X k = k + m ∧ m ≤ f ∧ ∀ i, i < m → 33 ≤ byt X i ∧ byt X i ≤ 126
  | 0, X, k, h => by
    unfold cin at h ⊢
    split
    · exact ⟨0, rfl, Nat.le_refl _, fun i hi => absurd hi (Nat.not_lt_zero _)⟩
    · next q => rw [if_neg q] at h; exact absurd rfl h
  | f + 1, X, k, h => by
    unfold cin at h ⊢
    by_cases q : X % 256 = 0
    · rw [if_pos q] at h ⊢
      split
      · exact ⟨0, rfl, Nat.zero_le _, fun i hi => absurd hi (Nat.not_lt_zero _)⟩
      · next q2 => rw [if_neg q2] at h; exact absurd rfl h
    · rw [if_neg q] at h ⊢
      by_cases q2 : X % 256 < 33 ∨ 126 < X % 256
      · rw [if_pos q2] at h; exact absurd rfl h
      · rw [if_neg q2] at h ⊢
        obtain ⟨m, h1, h2, h3⟩ := cin_ok f (X / 256) (k + 1) h
        refine ⟨m + 1, by rw [h1]; omega, by omega, fun i hi => ?_⟩
        cases i with
        | zero =>
          have e : byt X 0 = X % 256 := by unfold byt; rw [Nat.pow_zero, Nat.div_one]
          rw [e]; omega
        | succ i =>
          have e : byt X (i + 1) = byt (X / 256) i := by
            unfold byt
            rw [Nat.pow_succ, Nat.mul_comm, ← Nat.div_div_eq_div_mul]
          rw [e]
          exact h3 i (by omega)
/-- the pad with a number's characters behind it -/
def ptW (w : Nat → Nat) (len n X : Nat) : Nat → Nat := fun j => if j < len then w j else byt X (n - 1 - (j - len))
def q_put (W : Wd) (x : Int64) : Int32 × Wd := if cin 8 x.toBitVec.toNat 0 = 0 then (oz_c (-2), W) else if 40 < wL W + cin 8 x.toBitVec.toNat 0 then (oz_c (-4), W) else (nI (wL W + cin 8 x.toBitVec.toNat 0), wPad W (ptW (wP W) (wL W) (cin 8 x.toBitVec.toNat 0) x.toBitVec.toNat) (wL W + cin 8 x.toBitVec.toNat 0))
def t_X5_put : oz_T := (P_X5_put, e_X5, [(183, 0, 1, 0, s_X0_charactersIn), (187, 1, 2, 0, s_X0_append)], (true, 58, none, false, 0), (0, fun _ => 0))
def s_X5_put : oz_S := fun a N G R J Φ => match a with
  | [.ref t, .long x] => t = 0 ∧ ∃ W, CR N G R W ∧ wOk W ∧ pQ N G W Φ (q_put W x)
  | _ => False
theorem lN_of (x : Int64) : x = lN x.toBitVec.toNat := by
  apply wb_inj
  rw [wb_tb]
  exact (BitVec.ofNat_toNat ..).symm ▸ (by simp)
theorem mx_dn (x : Int32) : x + oz_c (-1) = x - nI 1 := by
  rw [show (oz_c (-1) : Int32) = -(nI 1) by decide, Int32.sub_eq_add_neg]
theorem mx_byt {X i : Nat} (hX : X < 2 ^ 64) (hi : i < 8) : (((lN X).toUInt64 >>> ((nI 8 * nI i).toInt64.toUInt64 &&& Int64.toUInt64 63)).toInt64).toInt32 &&& nI 255 = nI (byt X i) := by
  rw [pk_mul, wb_shr (k := 8 * i) hX (by omega), lN_i, nI_m, show nI 255 = nI (2 ^ 8 - 1) by rfl, pk_andN (Nat.mod_lt _ (by decide)) 8 (by decide)]
  congr 1
  unfold byt
  rw [Nat.pow_mul]
  have e : (2 : Nat) ^ 8 = 256 := by decide
  rw [e]
  have e2 : (2 : Nat) ^ 32 = 256 * 16777216 := by decide
  rw [e2, Nat.mod_mul_right_mod]
theorem I_X5_put : oz_Imp t_X5_put 5 s_X5_put := by
  intro Φ A a N G R J hN hS hC
  obtain ⟨t, x, rfl, rfl, W, hCR, hok, h⟩ : ∃ t x, a = [.ref t, .long x] ∧ t = 0 ∧ ∃ W, CR N G R W ∧ wOk W ∧ pQ N G W Φ (q_put W x) := by
    unfold s_X5_put at hS
    split at hS
    · exact ⟨_, _, rfl, hS⟩
    · exact hS.elim
  obtain ⟨hi, sl, rfl, hh, hs, hSt, -, -, -, -, hP⟩ := id hCR
  have hL := hP.2.1
  unfold q_put at h
  have hX : x.toBitVec.toNat < 2 ^ 64 := x.toBitVec.isLt
  have hx := lN_of x
  generalize x.toBitVec.toNat = X at hX hx h
  subst hx
  have hn8 : cin 8 X 0 ≤ 8 := by
    by_cases z : cin 8 X 0 = 0
    · omega
    · obtain ⟨m, h1, h2, -⟩ := cin_ok 8 X 0 z
      omega
  have loop : ∀ m, m ≤ 8 → wL W + m ≤ 40 → (∀ i, i < m → 33 ≤ byt X i ∧ byt X i ≤ 126) → pQ N G W Φ (nI (wL W + m), wPad W (ptW (wP W) (wL W) m X) (wL W + m)) → ∀ k t (G2 : oz_G), k + t = m → PdC G2 (ptW (wP W) (wL W) m X) (wL W + t) → (∀ i, i ≠ 8 → i ≠ 9 → G2 i = G i) → A 34 [some (.ref 0), some (.long (lN X)), none, some (.int (nI m)), some (.int (nI k - nI 1))] [] N G2 (rmR hi sl) J 0 := by
    intro m hm8 hm40 hb hf k
    induction k with
    | zero =>
      intro t G2 hkt hP2 hG2
      have ht : t = m := by omega
      subst ht
      have hf := hf N G2 _ J (Nat.le_refl _) (CR_pad hCR hok.2.2.2.2 hP2 hG2) (fun i a1 a2 => hG2 i (by omega) (by omega))
      have hf : Φ (some (.int (nI (wL W + t)))) N G2 (rmR hi sl) J := hf
      rw [← hP2.1] at hf
      exact hC.1 [] 40 34 _ _ _ _ _ _ _ ⟨fun _ => hf, fun q => absurd (show nI 0 - nI 1 < 0 by decide) q⟩
    | succ k ih =>
      intro t G2 hkt hP2 hG2
      obtain ⟨p1, p2, p3⟩ := hP2
      have e1 : nI (k + 1) - nI 1 = nI k := by rw [pk_sub (by omega)]; rfl
      have eb : ptW (wP W) (wL W) m X (wL W + t) = byt X k := by
        unfold ptW
        rw [if_neg (by omega)]
        congr 1
        omega
      have hbk := hb k (by omega)
      have hP3 : PdC (oz2 (oz2 G2 9 (wL W + t) (nI (byt X k))) 8 1 (nI (wL W + t + 1))) (ptW (wP W) (wL W) m X) (wL W + (t + 1)) := by
        refine ⟨rfl, by omega, fun j hj => ?_⟩
        show (if j = wL W + t then nI (byt X k) else G2 9 j) = _ ∧ _
        by_cases q : j = wL W + t
        · rw [if_pos q, q, eb]
          exact ⟨rfl, by omega⟩
        · rw [if_neg q]
          exact p3 j (by omega)
      have hih := ih (t + 1) _ (by omega) hP3 (fun i a1 a2 => by rw [oz2_row a1, oz2_row a2]; exact hG2 i a1 a2)
      rw [← mx_byt hX (show k < 8 by omega), ← mx_dn (nI k), ← e1] at hih
      exact hC.1 [34] 60 34 _ _ _ _ _ _ _ ⟨fun q => absurd (show nI (k + 1) - nI 1 < 0 from q) (by rw [e1]; exact nI_pos (by omega)), fun _ => ⟨hi, sl, wL W + t, rfl, p1, by omega, hih⟩⟩
  refine hC.1 [29] 40 0 _ _ _ _ _ _ _ ⟨X, rfl, hX, fun q => ⟨fun q2 => ?_, fun q2 => ?_⟩, fun q => ?_⟩
  · have q : ¬ nI (cin 8 X 0) = nI 0 := q
    rw [nI_eq (by omega) (by decide)] at q
    rw [if_neg q] at h
    obtain ⟨m, h1, h2, h3⟩ := cin_ok 8 X 0 q
    rw [Nat.zero_add] at h1
    rw [h1] at h
    have q2 : G 8 1 + nI (cin 8 X 0) ≤ nI 40 := q2
    rw [hP.1, h1, nI_add, nI_leI (by omega) (by decide)] at q2
    rw [if_neg (by omega)] at h
    have hP0 : PdC G (ptW (wP W) (wL W) m X) (wL W + 0) := by
      refine ⟨hP.1, hL, fun j hj => ?_⟩
      have e : ptW (wP W) (wL W) m X j = wP W j := if_pos hj
      rw [e]
      exact hP.2.2 j hj
    have h0 := loop m h2 q2 h3 h m 0 G (by omega) hP0 (fun _ _ _ => rfl)
    show A 29 [some (.ref 0), some (.long (lN X)), none, some (.int (nI (cin 8 X 0))), none] [] N G (rmR hi sl) J 0
    rw [h1]
    exact hC.1 [34] 40 29 _ _ _ _ _ _ _ h0
  · have q : ¬ nI (cin 8 X 0) = nI 0 := q
    rw [nI_eq (by omega) (by decide)] at q
    rw [if_neg q] at h
    have q2 : ¬ G 8 1 + nI (cin 8 X 0) ≤ nI 40 := q2
    rw [hP.1, nI_add, nI_leI (by omega) (by decide)] at q2
    rw [if_pos (by omega)] at h
    exact pQ_0 h hCR
  · have q : ¬ ¬ nI (cin 8 X 0) = nI 0 := q
    have q := Classical.not_not.mp q
    rw [nI_eq (by omega) (by decide)] at q
    rw [if_pos q] at h
    exact pQ_0 h hCR
theorem fit_X5_put : ∀ a N G R J Φ, s_X5_put a N G R J Φ → oz_fit a 5 := by
  intro a N G R J Φ h
  unfold s_X5_put at h
  split at h
  · exact oz_fit_of (Nat.le_of_ble_eq_true rfl) rfl
  · exact h.elim
theorem rec_X5_put : oz_rec s_X5_put 58 4 1 := by
  intro Φ a N G R J hN h _
  unfold s_X5_put at h
  split at h
  · refine ⟨_, _, rfl, ?_⟩
    rw [h.1]
    exact ⟨rfl, Nat.lt_of_lt_of_le (by decide) hN⟩
  · exact h.elim
