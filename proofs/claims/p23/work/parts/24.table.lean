/-! the class's table of the search -/
abbrev e_X2 : List (Nat × Nat × Nat) × List (Nat × Int32) × List (Nat × Int64) × List (Nat × Nat) := (fl_X2, kt_X2, lt_X2, cn_X2)
def so (lw : Nat → Nat) (c : Nat) : Nat → Nat → Nat
  | 0, s => s
  | f + 1, s => if lw s = 0 ∨ lw s = c then s else so lw c f ((s + 1) % 4096)
def hs (c : Nat) : Nat := c * 2654435761 % 2 ^ 32 / 2 ^ 20
def sot (lw : Nat → Nat) (c : Nat) : Nat := so lw c 4096 (hs c)
theorem hs_lt (c : Nat) : hs c < 4096 := by unfold hs; omega
theorem so_lt {lw : Nat → Nat} {c : Nat} : ∀ f s, s < 4096 → so lw c f s < 4096
  | 0, s, h => h
  | f + 1, s, h => by
    unfold so
    split
    · exact h
    · exact so_lt f _ (Nat.mod_lt _ (by decide))
theorem sot_lt (lw : Nat → Nat) (c : Nat) : sot lw c < 4096 := so_lt _ _ (hs_lt c)
def up (g : Nat → Nat) (r v : Nat) : Nat → Nat := fun s => if s = r then v else g s
theorem up_s {g : Nat → Nat} {r v : Nat} : up g r v r = v := if_pos rfl
theorem up_n {g : Nat → Nat} {r v s : Nat} (h : s ≠ r) : up g r v s = g s := if_neg h
theorem so_keep {lw : Nat → Nat} {c r v : Nat} (hr : lw r = 0) (hc : c ≠ 0) : ∀ f s, lw (so lw c f s) = c → so (up lw r v) c f s = so lw c f s
  | 0, _, _ => rfl
  | f + 1, s, h => by
    unfold so at h ⊢
    by_cases q : lw s = 0 ∨ lw s = c
    · rw [if_pos q] at h ⊢
      have hs : s ≠ r := by rintro rfl; omega
      rw [if_pos (by rw [up_n hs]; exact q)]
    · rw [if_neg q] at h ⊢
      have hs : s ≠ r := by rintro rfl; exact q (Or.inl hr)
      rw [if_neg (by rw [up_n hs]; exact q)]
      exact so_keep hr hc f _ h
theorem so_new {lw : Nat → Nat} {c r : Nat} (hr : lw r = 0) : ∀ f s, so lw c f s = r → so (up lw r c) c f s = r
  | 0, _, h => h
  | f + 1, s, h => by
    unfold so at h ⊢
    by_cases q : lw s = 0 ∨ lw s = c
    · rw [if_pos q] at h
      subst h
      rw [if_pos (Or.inr up_s)]
    · rw [if_neg q] at h
      have hs : s ≠ r := by rintro rfl; exact q (Or.inl hr)
      rw [if_neg (by rw [up_n hs]; exact q)]
      exact so_new hr f _ h
theorem so_end {lw : Nat → Nat} {c : Nat} : ∀ f s, s < 4096 → (∃ k, k < f ∧ lw ((s + k) % 4096) = 0) → lw (so lw c f s) = 0 ∨ lw (so lw c f s) = c
  | 0, _, _, ⟨_, h, _⟩ => absurd h (Nat.not_lt_zero _)
  | f + 1, s, hs, ⟨k, hk, h⟩ => by
    unfold so
    by_cases q : lw s = 0 ∨ lw s = c
    · rw [if_pos q]; exact q
    · rw [if_neg q]
      refine so_end f _ (Nat.mod_lt _ (by decide)) ?_
      rcases k with _ | k
      · rw [Nat.add_zero, Nat.mod_eq_of_lt hs] at h
        exact absurd (Or.inl h) q
      · refine ⟨k, by omega, ?_⟩
        rw [show ((s + 1) % 4096 + k) % 4096 = (s + (k + 1)) % 4096 by omega]
        exact h
theorem sot_end {lw : Nat → Nat} {c : Nat} (h : ∃ s, s < 4096 ∧ lw s = 0) : lw (sot lw c) = 0 ∨ lw (sot lw c) = c := by
  obtain ⟨s, h1, h2⟩ := h
  have := hs_lt c
  refine so_end 4096 _ this ⟨(s + 4096 - hs c) % 4096, Nat.mod_lt _ (by decide), ?_⟩
  rw [show (hs c + (s + 4096 - hs c) % 4096) % 4096 = s by omega]
  exact h2
def nz (lw : Nat → Nat) : Nat → Nat
  | 0 => 0
  | k + 1 => nz lw k + (if lw k = 0 then 0 else 1)
theorem nz_lt {lw : Nat → Nat} : ∀ m, nz lw m < m → ∃ s, s < m ∧ lw s = 0
  | 0, h => absurd h (Nat.not_lt_zero _)
  | m + 1, h => by
    by_cases q : lw m = 0
    · exact ⟨m, by omega, q⟩
    · have h : nz lw m + (if lw m = 0 then 0 else 1) < m + 1 := h
      rw [if_neg q] at h
      obtain ⟨s, h1, h2⟩ := nz_lt (lw := lw) m (by omega)
      exact ⟨s, by omega, h2⟩
theorem nz_up {lw : Nat → Nat} {r v : Nat} : ∀ m, nz (up lw r v) m ≤ nz lw m + (if r < m then 1 else 0)
  | 0 => Nat.zero_le _
  | m + 1 => by
    have h := nz_up (lw := lw) (r := r) (v := v) m
    show nz (up lw r v) m + (if up lw r v m = 0 then 0 else 1) ≤ nz lw m + (if lw m = 0 then 0 else 1) + _
    by_cases q : m = r
    · subst q
      rw [if_neg (Nat.lt_irrefl _)] at h
      rw [if_pos (Nat.lt_succ_self _)]
      have h1 : (if up lw m v m = 0 then 0 else 1) ≤ 1 := by split <;> decide
      omega
    · rw [up_n q]
      generalize (if lw m = 0 then 0 else 1) = z
      by_cases q2 : r < m
      · rw [if_pos q2] at h
        rw [if_pos (show r < m + 1 by omega)]
        omega
      · rw [if_neg q2] at h
        rw [if_neg (show ¬ r < m + 1 by omega)]
        omega
theorem nz_z : ∀ m, nz (fun _ => 0) m = 0
  | 0 => rfl
  | m + 1 => by show nz (fun _ => 0) m + 0 = 0; rw [nz_z m]
def en (lw mo fe : Nat → Nat) (s : Nat) : Nat := lw s + mo s * 2 ^ 32 + fe s * 2 ^ 40
def Tb (J : oz_J) (lw mo fe : Nat → Nat) : Prop := ∀ s, s < 4096 → J 12 s = lN (en lw mo fe s) ∧ lw s < 2 ^ 30 ∧ mo s < 256 ∧ fe s < 256
theorem nI_m (x : Nat) : nI x = nI (x % 2 ^ 32) := by
  apply Int32.toBitVec_inj.1
  show BitVec.ofNat 32 x = BitVec.ofNat 32 (x % 2 ^ 32)
  apply BitVec.eq_of_toNat_eq
  rw [BitVec.toNat_ofNat, BitVec.toNat_ofNat, Nat.mod_mod]
theorem en_lt {lw mo fe : Nat → Nat} {s : Nat} (h1 : lw s < 2 ^ 30) (h2 : mo s < 256) (h3 : fe s < 256) : en lw mo fe s < 2 ^ 64 := by unfold en; omega
theorem en_lw {lw mo fe : Nat → Nat} {s : Nat} (h1 : lw s < 2 ^ 30) : en lw mo fe s % 2 ^ 32 = lw s := by unfold en; omega
theorem Tb_i {J : oz_J} {lw mo fe : Nat → Nat} {s : Nat} (h : Tb J lw mo fe) (hs : s < 4096) : (J 12 s).toInt32 = nI (lw s) := by
  obtain ⟨h1, h2, -, -⟩ := h s hs
  rw [h1, lN_i, nI_m, en_lw h2]
def t_X2_slotOf : oz_T := (P_X2_slotOf, e_X2, [], (true, 44, none, false, 0), (0, fun _ => 0))
def s_X2_slotOf : oz_S := oz_t1 11 fun x N G R J Φ => ∃ hi sl c lw mo fe, R = rmR hi sl ∧ x = nI c ∧ c < 2 ^ 30 ∧ Tb J lw mo fe ∧ Φ (some (.int (nI (sot lw c)))) N G R J
theorem mx_hs (c : Nat) : ((nI c * (-1640531535)).toUInt32 >>> ((nI 20).toUInt32 &&& Int32.toUInt32 31)).toInt32 = nI (hs c) := by
  have e : nI c * (-1640531535) = nI (c * 2654435761 % 2 ^ 32) := by
    rw [show ((-1640531535 : Int32)) = nI 2654435761 by decide, pk_mul, ← nI_m]
  rw [e, pk_ushrN (Nat.mod_lt _ (by decide)) (nI 20) 20 (by decide)]
  rfl
theorem mx_nx {s : Nat} (h : s < 4096) : nI s + nI 1 &&& nI 4095 = nI ((s + 1) % 4096) := by
  rw [nI_add, show nI 4095 = nI (2 ^ 12 - 1) by rfl, pk_andN (by omega) 12 (by decide)]
theorem I_X2_slotOf : oz_Imp t_X2_slotOf 5 s_X2_slotOf := by
  intro Φ A a N G R J hN hS hC
  obtain ⟨x, rfl, hi, sl, c, lw, mo, fe, rfl, rfl, hc, hT, h⟩ := oz_t1_e hS
  have loop : ∀ f s k (v : Option Value), k + f = 4096 → s < 4096 → so lw c f s = sot lw c → A 10 [some (.ref 11), some (.int (nI c)), some (.int (nI s)), some (.int (nI k)), v] [] N G (rmR hi sl) J 0 := by
    intro f
    induction f with
    | zero =>
      intro s k v hk hs e
      have hk : k = 4096 := by omega
      subst hk
      rw [← e] at h
      exact hC.1 [] 30 10 _ _ _ _ _ _ _ ⟨fun _ => h, fun hq => absurd (show nI 4096 ≤ nI 4096 by decide) hq⟩
    | succ f ih =>
      intro s k v hk hs e
      have el := Tb_i hT hs
      obtain ⟨-, hl, -, -⟩ := hT s hs
      unfold so at e
      have same : (lw s = 0 ∨ lw s = c) → Φ (some (.int (nI s))) N G (rmR hi sl) J := fun q => by
        rw [if_pos q] at e
        rw [← e] at h
        exact h
      refine hC.1 [10] 40 10 _ _ _ _ _ _ _ ⟨fun hq => absurd (show nI 4096 ≤ nI k from hq) (nI_ge (by omega) (by decide)), fun _ => ⟨s, rfl, by show s < 4096; omega, fun hq => same (Or.inl ?_), fun hq => ⟨fun hq2 => ?_, fun hq2 => same (Or.inr ?_)⟩⟩⟩
      · have hq : (J 12 s).toInt32 = nI 0 := hq
        rw [el, nI_eq (by omega) (by decide)] at hq
        exact hq
      · have hq : ¬ (J 12 s).toInt32 = nI 0 := hq
        have hq2 : ¬ (J 12 s).toInt32 = nI c := hq2
        rw [el, nI_eq (by omega) (by decide)] at hq
        rw [el, nI_eq (by omega) (by omega)] at hq2
        rw [if_neg (fun z => z.elim hq hq2)] at e
        have hih := ih ((s + 1) % 4096) (k + 1) (some (.int ((J 12 s).toInt32))) (by omega) (Nat.mod_lt _ (by decide)) e
        rw [← mx_nx hs, ← nI_add k 1] at hih
        exact hih
      · have hq2 : ¬ ¬ (J 12 s).toInt32 = nI c := hq2
        have hq2 := Classical.not_not.mp hq2
        rw [el, nI_eq (by omega) (by omega)] at hq2
        exact hq2
  have h0 := loop 4096 (hs c) 0 none (by omega) (hs_lt c) rfl
  rw [← mx_hs c] at h0
  exact hC.1 [10] 40 0 _ _ _ _ _ _ _ h0
def t_X2_mostIn : oz_T := (P_X2_mostIn, e_X2, [], (true, 44, none, false, 0), (0, fun _ => 0))
def s_X2_mostIn : oz_S := oz_t1 11 fun x N G R J Φ => ∃ hi sl s lw mo fe, R = rmR hi sl ∧ x = nI s ∧ s < 4096 ∧ Tb J lw mo fe ∧ Φ (some (.int (nI (mo s)))) N G R J
theorem mx_e {lw mo fe : Nat → Nat} {s k : Nat} (h1 : lw s < 2 ^ 30) (h2 : mo s < 256) (h3 : fe s < 256) (hk : k < 64) : (((lN (en lw mo fe s)).toUInt64 >>> ((nI k).toInt64.toUInt64 &&& Int64.toUInt64 63)).toInt64).toInt32 &&& nI 255 = nI (en lw mo fe s / 2 ^ k % 2 ^ 32 % 2 ^ 8) := by
  rw [wb_shr (en_lt h1 h2 h3) hk, lN_i, nI_m, show nI 255 = nI (2 ^ 8 - 1) by rfl, pk_andN (Nat.mod_lt _ (by decide)) 8 (by decide)]
theorem I_X2_mostIn : oz_Imp t_X2_mostIn 2 s_X2_mostIn := by
  intro Φ A a N G R J hN hS hC
  obtain ⟨x, rfl, hi, sl, s, lw, mo, fe, rfl, rfl, hs, hT, h⟩ := oz_t1_e hS
  obtain ⟨e1, h1, h2, h3⟩ := hT s hs
  have e : (((J 12 s).toUInt64 >>> ((nI 32).toInt64.toUInt64 &&& Int64.toUInt64 63)).toInt64).toInt32 &&& nI 255 = nI (mo s) := by
    rw [e1, mx_e h1 h2 h3 (by decide)]
    congr 1
    unfold en; omega
  rw [← e] at h
  exact hC.1 [] 30 0 _ _ _ _ _ _ _ ⟨s, rfl, hs, h⟩
def t_X2_fewestIn : oz_T := (P_X2_fewestIn, e_X2, [], (true, 44, none, false, 0), (0, fun _ => 0))
def s_X2_fewestIn : oz_S := oz_t1 11 fun x N G R J Φ => ∃ hi sl s lw mo fe, R = rmR hi sl ∧ x = nI s ∧ s < 4096 ∧ Tb J lw mo fe ∧ Φ (some (.int (nI (fe s)))) N G R J
theorem I_X2_fewestIn : oz_Imp t_X2_fewestIn 2 s_X2_fewestIn := by
  intro Φ A a N G R J hN hS hC
  obtain ⟨x, rfl, hi, sl, s, lw, mo, fe, rfl, rfl, hs, hT, h⟩ := oz_t1_e hS
  obtain ⟨e1, h1, h2, h3⟩ := hT s hs
  have e : (((J 12 s).toUInt64 >>> ((nI 40).toInt64.toUInt64 &&& Int64.toUInt64 63)).toInt64).toInt32 &&& nI 255 = nI (fe s) := by
    rw [e1, mx_e h1 h2 h3 (by decide)]
    congr 1
    unfold en; omega
  rw [← e] at h
  exact hC.1 [] 30 0 _ _ _ _ _ _ _ ⟨s, rfl, hs, h⟩
theorem mx_i2l {a : Nat} (h : a < 2 ^ 31) : (nI a).toInt64 = lN a := by
  apply Int64.toBitVec_inj.1
  show (BitVec.ofNat 32 a).signExtend 64 = BitVec.ofNat 64 a
  rw [BitVec.signExtend_eq_setWidth_of_msb_false]
  · apply BitVec.eq_of_toNat_eq
    simp [BitVec.toNat_setWidth]
    omega
  · rw [BitVec.msb_eq_decide]
    simp
    omega
