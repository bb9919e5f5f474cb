/-! the class's pad -/
abbrev e_X0 : List (Nat × Nat × Nat) × List (Nat × Int32) × List (Nat × Int64) × List (Nat × Nat) := (fl_X0, kt_X0, lt_X0, cn_X0)
/-- how many characters a number holds, 0 if it isn't well made -/
def cin : Nat → Nat → Nat → Nat
  | 0, X, k => if X = 0 then k else 0
  | f + 1, X, k => if X % 256 = 0 then (if X = 0 then k else 0) else if X % 256 < 33 ∨ 126 < X % 256 then 0 else cin f (X / 256) (k + 1)
def t_X0_charactersIn : oz_T := (P_X0_charactersIn, e_X0, [], (true, 0, none, false, 0), (0, fun _ => 0))
def s_X0_charactersIn : oz_S := fun a N G R J Φ => match a with
  | [.long x] => ∃ X, x = lN X ∧ X < 2 ^ 64 ∧ Φ (some (.int (nI (cin 8 X 0)))) N G R J
  | _ => False
theorem mx_l0 {X : Nat} (h : X < 2 ^ 64) : lN X = lN 0 ↔ X = 0 := by
  constructor
  · intro q
    have := congrArg (fun z => z.toBitVec.toNat) q
    simp only [wb_tn h, wb_tn (n := 0) (by decide)] at this
    exact this
  · intro q; rw [q]
theorem mx_l2i (X : Nat) : (lN X).toInt32 = nI X := lN_i X
theorem mx_m255 {X : Nat} (h : X < 2 ^ 64) : lN X &&& lN 255 = lN (X % 256) := wb_mask (k := 8) h (by decide)
theorem mx_sh8 {X : Nat} (h : X < 2 ^ 64) : ((lN X).toUInt64 >>> ((nI 8).toInt64.toUInt64 &&& Int64.toUInt64 63)).toInt64 = lN (X / 256) := wb_shr (k := 8) h (by decide)
theorem I_X0_charactersIn : oz_Imp t_X0_charactersIn 6 s_X0_charactersIn := by
  intro Φ A a N G R J hN hS hC
  obtain ⟨x, rfl, X, rfl, hX, h⟩ : ∃ x, a = [.long x] ∧ ∃ X, x = lN X ∧ X < 2 ^ 64 ∧ Φ (some (.int (nI (cin 8 X 0)))) N G R J := by
    unfold s_X0_charactersIn at hS
    split at hS
    · exact ⟨_, rfl, hS⟩
    · exact hS.elim
  have fin : ∀ (Y k : Nat) (v : Option Value), Y < 2 ^ 64 → (if Y = 0 then k else 0) = cin 8 X 0 → A 57 [some (.long (lN X)), none, some (.long (lN Y)), none, some (.int (nI k)), v] [] N G R J 0 := by
    intro Y k v hY e
    rw [← e] at h
    refine hC.1 [] 20 57 _ _ _ _ _ _ _ ⟨fun hq => ?_, fun hq => ?_⟩
    · have hq : ¬ lg_cmp (lN Y) (lN 0) = 0 := hq
      rw [lg_cmp_eq, mx_l0 hY] at hq
      rw [if_neg hq] at h
      exact h
    · have hq : ¬ ¬ lg_cmp (lN Y) (lN 0) = 0 := hq
      have hq := Classical.not_not.mp hq
      rw [lg_cmp_eq, mx_l0 hY] at hq
      rw [if_pos hq] at h
      exact h
  have loop : ∀ f Y k (v : Option Value), k + f = 8 → Y < 2 ^ 64 → cin f Y k = cin 8 X 0 → A 5 [some (.long (lN X)), none, some (.long (lN Y)), none, some (.int (nI k)), v] [] N G R J 0 := by
    intro f
    induction f with
    | zero =>
      intro Y k v hk hY e
      have hk : k = 8 := by omega
      subst hk
      exact hC.1 [57] 30 5 _ _ _ _ _ _ _ ⟨fun _ => fin Y 8 v hY e, fun hq => absurd (show oz_c 8 ≤ nI 8 by decide) hq⟩
    | succ f ih =>
      intro Y k v hk hY e
      have hm : Y % 256 < 256 := Nat.mod_lt _ (by decide)
      refine hC.1 [5, 57] 40 5 _ _ _ _ _ _ _ ⟨fun hq => absurd (show oz_c 8 ≤ nI k from hq) (nI_ge (a := k) (b := 8) (by omega) (by decide)), fun _ => ⟨fun hq => ?_, fun hq => ?_⟩⟩
      · have hq : lg_cmp (lN Y &&& lN 255) (lN 0) = 0 := hq
        rw [lg_cmp_eq, mx_m255 hY, mx_l0 (by omega)] at hq
        refine fin Y k v hY ?_
        rw [← e]
        show _ = (if Y % 256 = 0 then _ else _)
        rw [if_pos hq]
      · have hq : ¬ lg_cmp (lN Y &&& lN 255) (lN 0) = 0 := hq
        rw [lg_cmp_eq, mx_m255 hY, mx_l0 (by omega)] at hq
        have e0 : cin (f + 1) Y k = if Y % 256 < 33 ∨ 126 < Y % 256 then 0 else cin f (Y / 256) (k + 1) := by
          show (if Y % 256 = 0 then _ else _) = _
          rw [if_neg hq]
        rw [e0] at e
        have ec : (lN Y &&& lN 255).toInt32 = nI (Y % 256) := by rw [mx_m255 hY, mx_l2i]
        refine ⟨fun hq2 => ?_, fun hq2 => ⟨fun hq3 => ?_, fun hq3 => ?_⟩⟩
        · have hq2 : (lN Y &&& lN 255).toInt32 < nI 33 := hq2
          rw [ec, nI_ltI (by omega) (by decide)] at hq2
          rw [if_pos (Or.inl hq2)] at e
          rw [← e] at h
          exact h
        · have hq2 : ¬ (lN Y &&& lN 255).toInt32 < nI 33 := hq2
          have hq3 : (lN Y &&& lN 255).toInt32 ≤ nI 126 := hq3
          rw [ec, nI_ltI (by omega) (by decide)] at hq2
          rw [ec, nI_leI (by omega) (by decide)] at hq3
          rw [if_neg (by omega)] at e
          have hih := ih (Y / 256) (k + 1) (some (.int ((lN Y &&& lN 255).toInt32))) (by omega) (by omega) e
          rw [← mx_sh8 hY, ← nI_add k 1] at hih
          exact hih
        · have hq3 : ¬ (lN Y &&& lN 255).toInt32 ≤ nI 126 := hq3
          rw [ec, nI_leI (by omega) (by decide)] at hq3
          rw [if_pos (Or.inr (by omega))] at e
          rw [← e] at h
          exact h
  exact hC.1 [5] 20 0 _ _ _ _ _ _ _ (loop 8 X 0 none (by omega) hX rfl)
def t_X0_append : oz_T := (P_X0_append, e_X0, [], (true, 58, none, false, 0), (0, fun _ => 0))
def s_X0_append : oz_S := oz_t1 8 fun x N G R J Φ => ∃ hi sl len, R = rmR hi sl ∧ G 8 1 = nI len ∧ len < 40 ∧ Φ none N (oz2 (oz2 G 9 len x) 8 1 (nI (len + 1))) R J
theorem I_X0_append : oz_Imp t_X0_append 2 s_X0_append := by
  intro Φ A a N G R J hN hS hC
  obtain ⟨x, rfl, hi, sl, len, rfl, e1, hlen, h⟩ := oz_t1_e hS
  rw [← nI_add len 1, ← e1] at h
  refine hC.1 [] 80 0 _ _ _ _ _ _ _ ⟨fun hq => absurd (show G 8 1 < 0 from hq) (by rw [e1]; exact nI_pos (by omega)), fun _ => ⟨fun hq => absurd (show nI 40 ≤ G 8 1 from hq) (by rw [e1]; exact nI_ge (by omega) (by decide)), fun _ => ⟨len, e1, hlen, h⟩⟩⟩
/-- a number that is read, or none -/
def nu : Option Nat → Int32
  | none => oz_c (-6)
  | some v => nI v
def cg (o : Option Nat) (ch : Nat) : Bool := decide (48 ≤ ch) && decide (ch ≤ 57) && (match o with
  | none => true
  | some v => !(decide (v = 0)) && decide (v * 10 + ch - 48 ≤ 14))
def b2 (b : Bool) : Int32 := match b with
  | true => nI 1
  | false => nI 0
theorem nu_none : (oz_c (-6) : Int32) ≠ nI 0 := by decide
theorem nu_ne (v : Nat) (h : v < 100) : nI v ≠ oz_c (-6) := by
  have key : ∀ v, v < 100 → nI v ≠ oz_c (-6) := by decide
  exact key v h
def t_X0_canGrow : oz_T := (P_X0_canGrow, e_X0, [], (true, 0, none, true, 0), (0, fun _ => 0))
def s_X0_canGrow : oz_S := oz_i2 fun x y N G R J Φ => ∃ o ch, x = nu o ∧ y = nI ch ∧ ch < 128 ∧ (∀ v, o = some v → v ≤ 14) ∧ Φ (some (.int (b2 (cg o ch)))) N G R J
theorem I_X0_canGrow : oz_Imp t_X0_canGrow 2 s_X0_canGrow := by
  intro Φ A a N G R J hN hS hC
  obtain ⟨x, y, rfl, o, ch, rfl, rfl, hch, ho, h⟩ := oz_i2_e hS
  have no : cg o ch = false → oz_bz (nI 0) ∧ Φ (some (.int (nI 0))) N G R J := fun q => by rw [q] at h; exact ⟨Or.inl rfl, h⟩
  have yes : cg o ch = true → oz_bz (nI 1) ∧ Φ (some (.int (nI 1))) N G R J := fun q => by rw [q] at h; exact ⟨Or.inr rfl, h⟩
  refine hC.1 [] 40 0 _ _ _ _ _ _ _ ⟨fun hq => no ?_, fun hq => ⟨fun hq2 => ?_, fun hq2 => no ?_⟩⟩
  · have hq : nI ch < nI 48 := hq
    rw [nI_ltI (by omega) (by decide)] at hq
    unfold cg
    rw [decide_eq_false (by omega)]; rfl
  · have hq : ¬ nI ch < nI 48 := hq
    have hq2 : nI ch ≤ nI 57 := hq2
    rw [nI_ltI (by omega) (by decide)] at hq
    rw [nI_leI (by omega) (by decide)] at hq2
    cases o with
    | none =>
      refine ⟨fun _ => yes ?_, fun hq3 => absurd rfl hq3⟩
      unfold cg
      rw [decide_eq_true (by omega), decide_eq_true (by omega)]; rfl
    | some v =>
      have hv := ho v rfl
      refine ⟨fun hq3 => absurd hq3 (nu_ne v (by omega)), fun _ => ⟨fun hq4 => no ?_, fun hq4 => ⟨fun hq5 => no ?_, fun hq5 => yes ?_⟩⟩⟩
      · have hq4 : nI v = nI 0 := hq4
        rw [nI_eq (by omega) (by decide)] at hq4
        unfold cg
        simp [hq4]
      · have hq5 : nI 14 < nI v * nI 10 + nI ch - nI 48 := hq5
        rw [pk_mul, nI_add, pk_sub (by omega), nI_ltI (by decide) (by omega)] at hq5
        unfold cg
        have : ¬ v * 10 + ch - 48 ≤ 14 := by omega
        simp [this]
      · have hq4 : ¬ nI v = nI 0 := hq4
        have hq5 : ¬ nI 14 < nI v * nI 10 + nI ch - nI 48 := hq5
        rw [pk_mul, nI_add, pk_sub (by omega), nI_ltI (by decide) (by omega)] at hq5
        have h0 : ¬ v = 0 := fun z => hq4 (by rw [z])
        unfold cg
        rw [decide_eq_true (by omega), decide_eq_true (by omega)]
        show (!(decide (v = 0)) && decide (v * 10 + ch - 48 ≤ 14)) = true
        rw [decide_eq_false h0, decide_eq_true (by omega)]; rfl
  · have hq2 : ¬ nI ch ≤ nI 57 := hq2
    rw [nI_leI (by omega) (by decide)] at hq2
    unfold cg
    rw [decide_eq_false (p := ch ≤ 57) (by omega)]; simp
def cs (cnt ch : Nat) : Bool := decide (ch = 47) || (decide (ch = 44) && decide (cnt + 2 ≤ 6))
def t_X0_canSeparate : oz_T := (P_X0_canSeparate, e_X0, [], (true, 58, none, true, 0), (0, fun _ => 0))
def s_X0_canSeparate : oz_S := oz_t1 8 fun x N G R J Φ => ∃ cnt ch, G 8 2 = nI cnt ∧ cnt < 100 ∧ x = nI ch ∧ ch < 128 ∧ Φ (some (.int (b2 (cs cnt ch)))) N G R J
theorem I_X0_canSeparate : oz_Imp t_X0_canSeparate 2 s_X0_canSeparate := by
  intro Φ A a N G R J hN hS hC
  obtain ⟨x, rfl, cnt, ch, e1, hcnt, rfl, hch, h⟩ := oz_t1_e hS
  have no : cs cnt ch = false → oz_bz (nI 0) ∧ Φ (some (.int (nI 0))) N G R J := fun q => by rw [q] at h; exact ⟨Or.inl rfl, h⟩
  have yes : cs cnt ch = true → oz_bz (nI 1) ∧ Φ (some (.int (nI 1))) N G R J := fun q => by rw [q] at h; exact ⟨Or.inr rfl, h⟩
  refine hC.1 [] 40 0 _ _ _ _ _ _ _ ⟨fun hq => yes ?_, fun hq => ⟨fun hq2 => no ?_, fun hq2 => ⟨fun hq3 => no ?_, fun hq3 => yes ?_⟩⟩⟩
  · have hq : nI ch = nI 47 := hq
    rw [nI_eq (by omega) (by decide)] at hq
    unfold cs; simp [hq]
  · have hq : ¬ nI ch = nI 47 := hq
    have hq2 : ¬ nI ch = nI 44 := hq2
    rw [nI_eq (by omega) (by decide)] at hq hq2
    unfold cs; simp [hq, hq2]
  · have hq : ¬ nI ch = nI 47 := hq
    have hq3 : nI 6 < G 8 2 + nI 2 := hq3
    rw [nI_eq (by omega) (by decide)] at hq
    rw [e1, nI_add, nI_ltI (by decide) (by omega)] at hq3
    unfold cs; simp [hq]; omega
  · have hq2 : ¬ ¬ nI ch = nI 44 := hq2
    have hq2 := Classical.not_not.mp hq2
    have hq3 : ¬ nI 6 < G 8 2 + nI 2 := hq3
    rw [nI_eq (by omega) (by decide)] at hq2
    rw [e1, nI_add, nI_ltI (by decide) (by omega)] at hq3
    unfold cs; simp [hq2]; omega
def t_X0_takePit : oz_T := (P_X0_takePit, e_X0, [(45, 0, 2, 0, s_X1_seeds)], (true, 58, none, false, 0), (0, fun _ => 0))
def s_X0_takePit : oz_S := oz_t1 8 fun x N G R J Φ => Φ none N (oz2 (oz2 (oz2 G 8 4 (G 8 4 + rw_sd x (G 8 2))) 8 3 (G 8 3 + x)) 8 2 (G 8 2 + nI 1)) R J
theorem I_X0_takePit : oz_Imp t_X0_takePit 2 s_X0_takePit := by
  intro Φ A a N G R J hN hS hC
  obtain ⟨x, rfl, h⟩ := oz_t1_e hS
  exact hC.1 [] 60 0 _ _ _ _ _ _ _ h
def t_X0_takeStore : oz_T := (P_X0_takeStore, e_X0, [(45, 0, 2, 0, s_X1_seeds)], (true, 58, none, false, 0), (0, fun _ => 0))
def s_X0_takeStore : oz_S := oz_t1 8 fun x N G R J Φ => Φ none N (oz2 (oz2 G 8 4 (G 8 4 + rw_sd x (G 8 2))) 8 3 (G 8 3 + x)) R J
theorem I_X0_takeStore : oz_Imp t_X0_takeStore 2 s_X0_takeStore := by
  intro Φ A a N G R J hN hS hC
  obtain ⟨x, rfl, h⟩ := oz_t1_e hS
  exact hC.1 [] 60 0 _ _ _ _ _ _ _ h
