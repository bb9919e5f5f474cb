/-! the law's methods: what they ask of the class, one answer behind the other -/
abbrev e_L : List (Nat × Nat × Nat) × List (Nat × Int32) × List (Nat × Int64) × List (Nat × Nat) := (fl_L, kt_L, lt_L, cn_L)
/-- the class says W; since (N0, G0) nothing behind its cells was changed -/
def Rn (N0 : Nat) (G0 : oz_G) (W : Wd) (N : Nat) (G : oz_G) (R : oz_R) : Prop := N0 ≤ N ∧ FrC G0 G ∧ CR N G R W ∧ wOk W
theorem Rn_0 {N : Nat} {G : oz_G} {R : oz_R} {W : Wd} (c : CR N G R W) (o : wOk W) : Rn N G W N G R := ⟨Nat.le_refl _, fun _ _ _ => rfl, c, o⟩
theorem Rn_q {N0 N : Nat} {G0 G : oz_G} {R : oz_R} {J : oz_J} {W W' : Wd} {Φ : oz_C} {v : Int32} (h : pQ N0 G0 W Φ (v, W')) (s : Rn N0 G0 W' N G R) : Φ (some (.int v)) N G R J := h N G R J s.1 s.2.2.1 s.2.1
theorem qK {Φ : oz_C} {N0 N : Nat} {G0 G : oz_G} {R : oz_R} {W W' : Wd} {v : Int32} {r : Int32 × Wd} (hr : r = (v, W')) (ok' : wOk W') (s : Rn N0 G0 W N G R) (k : ∀ (N' : Nat) (G' : oz_G) (R' : oz_R) (J' : oz_J), Rn N0 G0 W' N' G' R' → Φ (some (.int v)) N' G' R' J') : pQ N G W Φ r := by
  subst hr
  exact fun N' G' R' J' a b c => k N' G' R' J' ⟨Nat.le_trans s.1 a, FrC_t s.2.1 c, b, ok'⟩
section QKS
variable {Φ : oz_C} {N0 N : Nat} {G0 G : oz_G} {R : oz_R} {W W' : Wd} {v x y : Int32}
theorem ctK (hr : q_count W x = (v, W)) (s : Rn N0 G0 W N G R) (k : ∀ (N' : Nat) (G' : oz_G) (R' : oz_R) (J' : oz_J), Rn N0 G0 W N' G' R' → Φ (some (.int v)) N' G' R' J') : ∃ W, CR N G R W ∧ wOk W ∧ pQ N G W Φ (q_count W x) := ⟨W, s.2.2.1, s.2.2.2, qK hr s.2.2.2 s k⟩
theorem ptK (hr : q_pit W x = (v, W)) (s : Rn N0 G0 W N G R) (k : ∀ (N' : Nat) (G' : oz_G) (R' : oz_R) (J' : oz_J), Rn N0 G0 W N' G' R' → Φ (some (.int v)) N' G' R' J') : ∃ W, CR N G R W ∧ wOk W ∧ pQ N G W Φ (q_pit W x) := ⟨W, s.2.2.1, s.2.2.2, qK hr s.2.2.2 s k⟩
theorem mvK (hr : q_move W x = (v, W)) (s : Rn N0 G0 W N G R) (k : ∀ (N' : Nat) (G' : oz_G) (R' : oz_R) (J' : oz_J), Rn N0 G0 W N' G' R' → Φ (some (.int v)) N' G' R' J') : ∃ W, CR N G R W ∧ wOk W ∧ pQ N G W Φ (q_move W x) := ⟨W, s.2.2.1, s.2.2.2, qK hr s.2.2.2 s k⟩
theorem ifK (hr : q_ifSown W x y = (v, W)) (s : Rn N0 G0 W N G R) (k : ∀ (N' : Nat) (G' : oz_G) (R' : oz_R) (J' : oz_J), Rn N0 G0 W N' G' R' → Φ (some (.int v)) N' G' R' J') : ∃ W, CR N G R W ∧ wOk W ∧ pQ N G W Φ (q_ifSown W x y) := ⟨W, s.2.2.1, s.2.2.2, qK hr s.2.2.2 s k⟩
theorem ihK (hr : q_ifSownHas W x y = (v, W)) (s : Rn N0 G0 W N G R) (k : ∀ (N' : Nat) (G' : oz_G) (R' : oz_R) (J' : oz_J), Rn N0 G0 W N' G' R' → Φ (some (.int v)) N' G' R' J') : ∃ W, CR N G R W ∧ wOk W ∧ pQ N G W Φ (q_ifSownHas W x y) := ⟨W, s.2.2.1, s.2.2.2, qK hr s.2.2.2 s k⟩
theorem exK (hr : q_exact W x y = (v, W)) (s : Rn N0 G0 W N G R) (k : ∀ (N' : Nat) (G' : oz_G) (R' : oz_R) (J' : oz_J), Rn N0 G0 W N' G' R' → Φ (some (.int v)) N' G' R' J') : ∃ W, CR N G R W ∧ wOk W ∧ pQ N G W Φ (q_exact W x y) := ⟨W, s.2.2.1, s.2.2.2, qK hr s.2.2.2 s k⟩
theorem beK (hb : sHb (wS W)) (hr : q_best W x = (v, W)) (s : Rn N0 G0 W N G R) (k : ∀ (N' : Nat) (G' : oz_G) (R' : oz_R) (J' : oz_J), Rn N0 G0 W N' G' R' → Φ (some (.int v)) N' G' R' J') : ∃ W, CR N G R W ∧ wOk W ∧ sHb (wS W) ∧ pQ N G W Φ (q_best W x) := ⟨W, s.2.2.1, s.2.2.2, hb, qK hr s.2.2.2 s k⟩
theorem swK (hr : q_sow W x = (v, W')) (s : Rn N0 G0 W N G R) (k : ∀ (N' : Nat) (G' : oz_G) (R' : oz_R) (J' : oz_J), Rn N0 G0 W' N' G' R' → Φ (some (.int v)) N' G' R' J') : ∃ W, CR N G R W ∧ wOk W ∧ pQ N G W Φ (q_sow W x) := ⟨W, s.2.2.1, s.2.2.2, qK hr (by have := sow_ok (x := x) s.2.2.2; rw [hr] at this; exact this) s k⟩
theorem bkK (hr : q_back W = (v, W')) (s : Rn N0 G0 W N G R) (k : ∀ (N' : Nat) (G' : oz_G) (R' : oz_R) (J' : oz_J), Rn N0 G0 W' N' G' R' → Φ (some (.int v)) N' G' R' J') : ∃ W, CR N G R W ∧ wOk W ∧ pQ N G W Φ (q_back W) := ⟨W, s.2.2.1, s.2.2.2, qK hr (by have := back_ok s.2.2.2; rw [hr] at this; exact this) s k⟩
theorem stK (hr : q_set W x y = (v, W')) (s : Rn N0 G0 W N G R) (k : ∀ (N' : Nat) (G' : oz_G) (R' : oz_R) (J' : oz_J), Rn N0 G0 W' N' G' R' → Φ (some (.int v)) N' G' R' J') : ∃ W, CR N G R W ∧ wOk W ∧ pQ N G W Φ (q_set W x y) := ⟨W, s.2.2.1, s.2.2.2, qK hr (by have := set_ok (x := x) (y := y) s.2.2.2; rw [hr] at this; exact this) s k⟩
theorem bgK (hr : q_begin W x y = (v, W')) (s : Rn N0 G0 W N G R) (k : ∀ (N' : Nat) (G' : oz_G) (R' : oz_R) (J' : oz_J), Rn N0 G0 W' N' G' R' → Φ (some (.int v)) N' G' R' J') : ∃ W, CR N G R W ∧ wOk W ∧ pQ N G W Φ (q_begin W x y) := ⟨W, s.2.2.1, s.2.2.2, qK hr (by have := begin_ok (x := x) (y := y) s.2.2.2; rw [hr] at this; exact this) s k⟩
theorem leK (hr : q_loadExact W x y = (v, W')) (s : Rn N0 G0 W N G R) (k : ∀ (N' : Nat) (G' : oz_G) (R' : oz_R) (J' : oz_J), Rn N0 G0 W' N' G' R' → Φ (some (.int v)) N' G' R' J') : ∃ W, CR N G R W ∧ wOk W ∧ pQ N G W Φ (q_loadExact W x y) := ⟨W, s.2.2.1, s.2.2.2, qK hr (by have := loadExact_ok (x := x) (y := y) s.2.2.2; rw [hr] at this; exact this) s k⟩
end QKS
theorem qc {W : Wd} (j : Nat) (hj : j ≤ 13) : q_count W (nI j) = (sCt W j, W) := by
  unfold q_count
  rw [if_neg, nt_nI (by omega)]
  rintro (z | z)
  · exact nI_pos (by omega) z
  · exact nI_nlt (by omega) (by omega) z
theorem ip_n {n i : Nat} (hn : n < 2 ^ 31) (hi : i < 2 ^ 31) : ip n (nI i) = decide (i < n) := by
  unfold ip
  by_cases q : i < n
  · rw [decide_eq_true (nI_pos hi), decide_eq_true (nI_ge q hn), decide_eq_true q]; rfl
  · rw [decide_eq_true (nI_pos hi), decide_eq_false (fun z => z (nI_le (by omega) hi)), decide_eq_false q]; rfl
theorem ip_m {n : Nat} : ip n (oz_c (-1)) = false := by
  unfold ip
  rw [decide_eq_false (fun z => z (by decide))]
  rfl
theorem qp {W : Wd} {i : Nat} (ok : wOk W) (h : i < sN (wS W)) : q_pit W (nI i) = (nI (dg (sC (wS W)) i), W) := by
  have h6 := ok.1.2.1
  unfold q_pit
  rw [ip_n (by omega) (by omega), if_pos (decide_eq_true h), nt_nI (by omega)]
theorem qp_n {W : Wd} (ok : wOk W) : q_pit W (nI (sN (wS W))) = (oz_c (-1), W) := by
  have h6 := ok.1.2.1
  unfold q_pit
  rw [ip_n (by omega) (by omega), decide_eq_false (by omega), if_neg (by decide)]
theorem qp_m {W : Wd} : q_pit W (oz_c (-1)) = (oz_c (-1), W) := by
  unfold q_pit
  rw [ip_m, if_neg (by decide)]
/-! low, cell -/
theorem and_m {x : Int32} {M : Nat} (hM : M < 2 ^ 31) : ∃ m, m < 2 ^ 31 ∧ x &&& nI M = nI m := by
  refine ⟨(x.toBitVec &&& BitVec.ofNat 32 M).toNat, ?_, ?_⟩
  · rw [BitVec.toNat_and, BitVec.toNat_ofNat, Nat.mod_eq_of_lt (by omega)]
    exact Nat.lt_of_le_of_lt Nat.and_le_right hM
  · apply Int32.toBitVec_inj.1
    show x.toBitVec &&& BitVec.ofNat 32 M = BitVec.ofNat 32 _
    rw [BitVec.ofNat_toNat, BitVec.setWidth_eq]
def t_L_low : oz_T := (P_L_low, e_L, [], (true, 0, none, false, 0), (0, fun _ => 0))
def s_L_low : oz_S := oz_i2 fun x y N G R J Φ => ∃ n, y = nI n ∧ 0 < n ∧ n < 2 ^ 31 ∧ ∀ r, r < n → Φ (some (.int (nI r))) N G R J
theorem I_L_low : oz_Imp t_L_low 2 s_L_low := by
  intro Φ A a N G R J hN hS hC
  obtain ⟨x, y, rfl, n, rfl, h0, hn, h⟩ := oz_i2_e hS
  obtain ⟨m, hm, e⟩ := and_m (x := x) (M := 2147483647) (by decide)
  have hf := h (m % n) (Nat.mod_lt _ h0)
  rw [← pk_rem hm h0 hn, ← e] at hf
  exact hC.1 [] 20 0 _ _ _ _ _ _ _ ⟨nI_ne0 h0 hn, hf⟩
def t_L_cell (n : Nat) (xs : Nat → Int32) : oz_T := (P_L_cell, e_L, [], (true, 0, none, false, 0), (n + 1, xs))
def s_L_cell : oz_S := fun a N G R J Φ => match a with
  | [.retAddr _, .int x] => (∃ j, x = nI j ∧ j < 2 ^ 31) ∧ ∀ v, Φ (some (.int v)) N G R J
  | _ => False
theorem I_L_cell {n : Nat} {xs : Nat → Int32} (hn : n < 2 ^ 31) : oz_Imp (t_L_cell n xs) 2 s_L_cell := by
  intro Φ A a N G R J hN hS hC
  obtain ⟨b, x, rfl, ⟨j, rfl, hj⟩, h⟩ : ∃ b x, a = [.retAddr b, .int x] ∧ (∃ j, x = nI j ∧ j < 2 ^ 31) ∧ ∀ v, Φ (some (.int v)) N G R J := by
    unfold s_L_cell at hS
    split at hS
    · exact ⟨_, _, rfl, hS⟩
    · exact hS.elim
  refine hC.1 [] 40 0 _ _ _ _ _ _ _ ⟨fun _ => h _, fun q => ⟨j, rfl, ?_, h _⟩⟩
  have q : ¬ nI n ≤ nI j := q
  show j + 1 < n + 1
  rw [nI_leI hn hj] at q
  omega
theorem fit_L_cell : ∀ a N G R J Φ, s_L_cell a N G R J Φ → oz_fit a 2 := by
  intro a N G R J Φ h
  unfold s_L_cell at h
  split at h
  · exact oz_fit_of (Nat.le_of_ble_eq_true rfl) rfl
  · exact h.elim
/-! canSow -/
def cb (S : St) (i : Nat) : Nat := if 0 < dg (sC S) i ∧ (sEx S = 0 ∨ (i + dg (sC S) i) % (sN S + 1) = sN S) then 1 else 0
def t_L_canSow : oz_T := (P_L_canSow, e_L, [(9, 1, 2, 0, s_X5_count), (15, 1, 2, 0, s_X5_pit)], (true, 44, none, true, 0), (0, fun _ => 0))
def s_L_canSow : oz_S := oz_t1 0 fun x N G R J Φ => ∃ W i, CR N G R W ∧ wOk W ∧ x = nI i ∧ i < sN (wS W) ∧ pQ N G W Φ (nI (cb (wS W) i), W)
theorem I_L_canSow : oz_Imp t_L_canSow 3 s_L_canSow := by
  intro Φ A a N G R J hN hS hC
  obtain ⟨x, rfl, W, i, c0, ok, rfl, hi, h⟩ := oz_t1_e hS
  have h6 := ok.1.2.1
  have hd := dg_lt (sC (wS W)) i
  have hex := ok.1.2.2.2.1
  have no : cb (wS W) i = 0 → pQ N G W Φ (nI 0, W) := fun q => by rw [q] at h; exact h
  have yes : cb (wS W) i = 1 → pQ N G W Φ (nI 1, W) := fun q => by rw [q] at h; exact h
  refine hC.1 [] 60 0 _ _ _ _ _ _ _ (ctK (qc 0 (by decide)) (Rn_0 c0 ok) fun N1 G1 R1 J1 s1 => ptK (qp ok hi) s1 fun N2 G2 R2 J2 s2 => ⟨fun q => ⟨Or.inl rfl, Rn_q (no ?_) s2⟩, fun q => ctK (qc 10 (by decide)) s2 fun N3 G3 R3 J3 s3 => ⟨fun q2 => ⟨Or.inr rfl, Rn_q (yes ?_) s3⟩, fun q2 => ptK (qp ok hi) s3 fun N4 G4 R4 J4 s4 => ⟨?_, ctK (qc 0 (by decide)) s4 fun N5 G5 R5 J5 s5 => ⟨fun q3 => ⟨Or.inl rfl, Rn_q (no ?_) s5⟩, fun q3 => ⟨Or.inr rfl, Rn_q (yes ?_) s5⟩⟩⟩⟩⟩)
  · have q : nI (dg (sC (wS W)) i) ≤ nI 0 := q
    rw [nI_leI (by omega) (by decide)] at q
    unfold cb
    rw [if_neg (fun z => by omega)]
  · have q : ¬ nI (dg (sC (wS W)) i) ≤ nI 0 := q
    rw [nI_leI (by omega) (by decide)] at q
    have q2 : nI (sEx (wS W)) = nI 0 := q2
    rw [nI_eq (by omega) (by decide)] at q2
    unfold cb
    rw [if_pos ⟨by omega, Or.inl q2⟩]
  · show ¬ nI (sN (wS W)) + nI 1 = nI 0
    rw [nI_add, nI_eq (by omega) (by decide)]
    omega
  · have q2 : ¬ nI (sEx (wS W)) = nI 0 := q2
    have q3 : ¬ (nI i + nI (dg (sC (wS W)) i)) - (nI i + nI (dg (sC (wS W)) i)) / (nI (sN (wS W)) + nI 1) * (nI (sN (wS W)) + nI 1) = nI (sN (wS W)) := q3
    rw [nI_add, nI_add, pk_rem (by omega) (by omega) (by omega), nI_eq (by have := Nat.mod_lt (i + dg (sC (wS W)) i) (show 0 < sN (wS W) + 1 by omega); omega) (by omega)] at q3
    unfold cb
    rw [if_neg]
    rintro ⟨z, z1 | z1⟩
    · exact q2 (by rw [z1])
    · exact q3 z1
  · have q : ¬ nI (dg (sC (wS W)) i) ≤ nI 0 := q
    rw [nI_leI (by omega) (by decide)] at q
    have q3 : ¬ ¬ (nI i + nI (dg (sC (wS W)) i)) - (nI i + nI (dg (sC (wS W)) i)) / (nI (sN (wS W)) + nI 1) * (nI (sN (wS W)) + nI 1) = nI (sN (wS W)) := q3
    have q3 := Classical.not_not.mp q3
    rw [nI_add, nI_add, pk_rem (by omega) (by omega) (by omega), nI_eq (by have := Nat.mod_lt (i + dg (sC (wS W)) i) (show 0 < sN (wS W) + 1 by omega); omega) (by omega)] at q3
    unfold cb
    rw [if_pos ⟨by omega, Or.inr q3⟩]
