/-! the class's sowing -/
/-- the references of a run behind the constructors: the rows of states may change -/
def rcR (i k : Nat) : Option Nat := match oz_k i with
  | 0 => oz_nth [some 9] k none
  | 1 => oz_nth [some 12, some 13] k none
  | 3 => oz_nth [some (i + 1), none, none, none, none, some (i + 2), some (i + 3), some (i + 4)] k none
  | 4 => oz_nth [some 1, some 6, none, some 7, some 8, some 10, some 11] k none
  | 5 => oz_nth [some 45, some 46, some 47, some 48, some 49, none, some 50, none, none, some 51, some 52, none, some 53, none, none, none, none, some 54, some 55, some 56, some 57] k none
  | _ => none
def rmR (hi : Nat → Nat) (sl : Nat → Option Nat) : oz_R := fun i k => match Nat.beq i 6 with
  | true => some (hi k)
  | false => (match Nat.beq i 7 with
    | true => sl k
    | false => rcR i k)
/-- a Sowing at t: position, last place, laps -/
def sg (G : oz_G) (t : Nat) (c la k : Nat) : oz_G := fun i => if i = t then (fun f => if f = 0 then nI c else if f = 1 then nI la else if f = 2 then nI k else G t f) else G i
theorem sg_p {G : oz_G} {t c la k c' : Nat} : oz2 (sg G t c la k) t 0 (nI c') = sg G t c' la k := by
  funext i f
  by_cases hi : i = t
  · subst hi
    by_cases hf : f = 0 <;> simp [oz2, sg, hf]
  · simp [oz2, sg, hi]
theorem sg_l {G : oz_G} {t c la k la' : Nat} : oz2 (sg G t c la k) t 1 (nI la') = sg G t c la' k := by
  funext i f
  by_cases hi : i = t
  · subst hi
    by_cases hf : f = 1 <;> simp [oz2, sg, hf]
  · simp [oz2, sg, hi]
theorem sg_k {G : oz_G} {t c la k k' : Nat} : oz2 (sg G t c la k) t 2 (nI k') = sg G t c la k' := by
  funext i f
  by_cases hi : i = t
  · subst hi
    by_cases hf : f = 2 <;> simp [oz2, sg, hf]
  · simp [oz2, sg, hi]
abbrev e_X3 : List (Nat × Nat × Nat) × List (Nat × Int32) × List (Nat × Int64) × List (Nat × Nat) := (fl_X3, kt_X3, lt_X3, cn_X3)
def t_X3_endsAmongSeeds : oz_T := (P_X3_endsAmongSeeds, e_X3, [(34, 0, 2, 0, s_X1_seedsAt), (51, 0, 2, 0, s_X1_seeds), (54, 0, 2, 0, s_X1_next)], (true, 44, none, true, 0), (0, fun _ => 0))
def ends (n : Nat) (r : Nat × Nat × Nat) : Nat := if r.2.1 ≠ n ∧ 0 < r.2.2 then 1 else 0
/-- digits and flags small enough -/
def Pv (n F t c : Nat) : Prop := Iv n F t c ∧ t ≤ 14 ∧ n ≤ 6 ∧ F < 4 * 16 ^ (6 - n)
theorem Pv_lt {n F t c : Nat} (h : Pv n F t c) : c < 2 ^ 30 := by
  obtain ⟨⟨h1, -⟩, -, h3, h4⟩ := h
  have hd : c < 16 ^ (n + 1) * (F + 1) := by
    have := Nat.lt_mul_div_succ c (b := 16 ^ (n + 1)) (Nat.pow_pos (by decide))
    rw [h1] at this
    exact this
  refine Nat.lt_of_lt_of_le hd ?_
  have e : (2 : Nat) ^ 30 = 16 ^ (n + 1) * (4 * 16 ^ (6 - n)) := by
    rw [Nat.mul_left_comm, ← Nat.pow_add, show n + 1 + (6 - n) = 7 by omega]
  rw [e]
  exact Nat.mul_le_mul_left _ h4
def s_X3_endsAmongSeeds : oz_S := fun a N G R J Φ => match a with
  | [.ref t, .int x] => (t = 10 ∨ t = 13) ∧ ∃ (G0 : oz_G) (n F u c la k : Nat), x = nI n ∧ G = sg G0 t c la k ∧ Pv n F u c ∧ la ≤ n ∧ k < 2 ^ 30 ∧ Φ (some (.int (nI (ends n (lp n c la))))) N (sg G0 t (lp n c la).1 (lp n c la).2.1 (k + 1)) R J
  | _ => False
theorem ea_10 {Φ : oz_C} {A : oz_Y} {N : Nat} {G0 : oz_G} {R : oz_R} {J : oz_J} (hC : oz_Cl t_X3_endsAmongSeeds Φ A) {n F u c la k : Nat} (hv : Pv n F u c) (hla : la ≤ n) (hk : k < 2 ^ 30) (h : Φ (some (.int (nI (ends n (lp n c la))))) N (sg G0 10 (lp n c la).1 (lp n c la).2.1 (k + 1)) R J) : A 0 [some (.ref 10), some (.int (nI n)), none, none, none] [] N (sg G0 10 c la k) R J 0 := by
  have hn := hv.2.2.1
  have ht := hv.2.1
  have hc := Pv_lt hv
  have hle := sm_le c (n + 1) la (by omega)
  rw [hv.1.2] at hle
  have last : A 86 [some (.ref 10), some (.int (nI n)), some (.int (nI (dg c la))), some (.int (nI (lp n c la).2.2)), some (.int (nI 0))] [] N (sg G0 10 (lp n c la).1 (lp n c la).2.1 k) R J 0 := by
    have hl2 : (lp n c la).2.1 ≤ n := (dl_ok (dg c la) (c - dg c la * 16 ^ la) la 0 (u - dg c la) (Iv_sub hv.1 hla) (by omega) hla).2.1
    have h16 : (lp n c la).2.2 < 2 ^ 31 := by
      have : ∀ q c la th, th < 16 → (dl n q c la th).2.2 < 16 := by
        intro q
        induction q with
        | zero => intro c la th h; exact h
        | succ q ih => intro c la th h; exact ih _ _ _ (dg_lt _ _)
      exact Nat.lt_trans (this (dg c la) (c - dg c la * 16 ^ la) la 0 (by decide)) (by decide)
    have e1 : sg G0 10 (lp n c la).1 (lp n c la).2.1 (k + 1) = oz2 (sg G0 10 (lp n c la).1 (lp n c la).2.1 k) 10 2 (nI k + nI 1) := by rw [nI_add, sg_k]
    rw [e1] at h
    unfold ends at h
    refine hC.1 [] 40 86 _ _ _ _ _ _ _ ⟨fun hc1 => ?_, fun hc1 => ⟨fun hc2 => ?_, fun hc2 => ?_⟩⟩
    · have hc1 : nI (lp n c la).2.1 = nI n := hc1
      rw [nI_eq (by omega) (by omega)] at hc1
      rw [if_neg (fun q => q.1 hc1)] at h
      exact ⟨Or.inl rfl, h⟩
    · have hc2 : nI (lp n c la).2.2 ≤ 0 := hc2
      rw [if_neg (fun q => nI_nle q.2 h16 hc2)] at h
      exact ⟨Or.inl rfl, h⟩
    · have hc1 : ¬ nI (lp n c la).2.1 = nI n := hc1
      have hc2 : ¬ nI (lp n c la).2.2 ≤ 0 := hc2
      have h3 : (lp n c la).2.1 ≠ n := fun q => hc1 (by rw [q])
      have h4 : 0 < (lp n c la).2.2 := by
        rcases Nat.eq_zero_or_pos (lp n c la).2.2 with q | q
        · rw [q] at hc2; exact absurd (by decide) hc2
        · exact q
      rw [if_pos ⟨h3, h4⟩] at h
      exact ⟨Or.inr rfl, h⟩
  have loop : ∀ f c1 la1 th, Iv n F (u - f) c1 → f ≤ u → la1 ≤ n → dl n f c1 la1 th = lp n c la → A 34 [some (.ref 10), some (.int (nI n)), some (.int (nI (dg c la))), some (.int (nI th)), some (.int (nI f))] [] N (sg G0 10 c1 la1 k) R J 0 := by
    intro f
    induction f with
    | zero =>
      intro c1 la1 th hiv hfu hl1 e
      have e : (c1, la1, th) = lp n c la := e
      rw [← e] at last
      exact hC.1 [86] 30 34 _ _ _ _ _ _ _ ⟨fun _ => last, fun hc => absurd (show nI 0 ≤ (0 : Int32) by decide) hc⟩
    | succ f ih =>
      intro c1 la1 th hiv hfu hl1 e
      have hnx := nx_le (n := n) (j := la1)
      have hc1 : c1 < 2 ^ 30 := Pv_lt (n := n) (F := F) (t := u - (f + 1)) ⟨hiv, by omega, hn, hv.2.2.2⟩
      have hiv2 := (Iv_add hiv (by omega) hnx).1
      have := ih (c1 + 16 ^ nx n la1) (nx n la1) (dg c1 (nx n la1)) (by rw [show u - f = u - (f + 1) + 1 by omega]; exact hiv2) (by omega) hnx e
      have e1 : sg G0 10 (c1 + 16 ^ nx n la1) (nx n la1) k = oz2 (oz2 (sg G0 10 c1 la1 k) 10 1 (nI (nx n la1))) 10 0 (nI c1 + rw_sd (nI 1) (nI (nx n la1))) := by
        rw [sg_l, rw_sd_n (by omega) (mx_sd (by decide) (by omega)), Nat.one_mul, nI_add, sg_p]
      have e2 : nI (dg c1 (nx n la1)) = rw_at (nI c1) (nI (nx n la1)) := (rw_at_n (by omega) (by omega)).symm
      have e3 : nI (nx n la1) = rw_nx (nI la1) (nI n) := (rw_nx_n (by omega) (by omega)).symm
      have e4 : nI f = nI (f + 1) + oz_c (-1) := (pk_m1 f).symm
      rw [e1, e2, e3, e4] at this
      exact hC.1 [34] 40 34 _ _ _ _ _ _ _ ⟨fun hc => absurd hc (nI_nle (by omega) (by omega)), fun _ => this⟩
  have h0 := loop (dg c la) (c - dg c la * 16 ^ la) la 0 (Iv_sub hv.1 hla) (by omega) hla rfl
  have hdg := dg_lt c la
  have e1 : sg G0 10 (c - dg c la * 16 ^ la) la k = oz2 (sg G0 10 c la k) 10 0 (nI c - rw_sd (rw_at (nI c) (nI la)) (nI la)) := by
    rw [rw_at_n (by omega) (by omega), rw_sd_n (by omega) (mx_sd hdg (by omega)), pk_sub (dg_le c la), sg_p]
  have e2 : nI (dg c la) = rw_at (nI c) (nI la) := (rw_at_n (by omega) (by omega)).symm
  rw [e1, e2] at h0
  exact hC.1 [34] 40 0 _ _ _ _ _ _ _ h0
theorem ea_13 {Φ : oz_C} {A : oz_Y} {N : Nat} {G0 : oz_G} {R : oz_R} {J : oz_J} (hC : oz_Cl t_X3_endsAmongSeeds Φ A) {n F u c la k : Nat} (hv : Pv n F u c) (hla : la ≤ n) (hk : k < 2 ^ 30) (h : Φ (some (.int (nI (ends n (lp n c la))))) N (sg G0 13 (lp n c la).1 (lp n c la).2.1 (k + 1)) R J) : A 0 [some (.ref 13), some (.int (nI n)), none, none, none] [] N (sg G0 13 c la k) R J 0 := by
  have hn := hv.2.2.1
  have ht := hv.2.1
  have hc := Pv_lt hv
  have hle := sm_le c (n + 1) la (by omega)
  rw [hv.1.2] at hle
  have last : A 86 [some (.ref 13), some (.int (nI n)), some (.int (nI (dg c la))), some (.int (nI (lp n c la).2.2)), some (.int (nI 0))] [] N (sg G0 13 (lp n c la).1 (lp n c la).2.1 k) R J 0 := by
    have hl2 : (lp n c la).2.1 ≤ n := (dl_ok (dg c la) (c - dg c la * 16 ^ la) la 0 (u - dg c la) (Iv_sub hv.1 hla) (by omega) hla).2.1
    have h16 : (lp n c la).2.2 < 2 ^ 31 := by
      have : ∀ q c la th, th < 16 → (dl n q c la th).2.2 < 16 := by
        intro q
        induction q with
        | zero => intro c la th h; exact h
        | succ q ih => intro c la th h; exact ih _ _ _ (dg_lt _ _)
      exact Nat.lt_trans (this (dg c la) (c - dg c la * 16 ^ la) la 0 (by decide)) (by decide)
    have e1 : sg G0 13 (lp n c la).1 (lp n c la).2.1 (k + 1) = oz2 (sg G0 13 (lp n c la).1 (lp n c la).2.1 k) 13 2 (nI k + nI 1) := by rw [nI_add, sg_k]
    rw [e1] at h
    unfold ends at h
    refine hC.1 [] 40 86 _ _ _ _ _ _ _ ⟨fun hc1 => ?_, fun hc1 => ⟨fun hc2 => ?_, fun hc2 => ?_⟩⟩
    · have hc1 : nI (lp n c la).2.1 = nI n := hc1
      rw [nI_eq (by omega) (by omega)] at hc1
      rw [if_neg (fun q => q.1 hc1)] at h
      exact ⟨Or.inl rfl, h⟩
    · have hc2 : nI (lp n c la).2.2 ≤ 0 := hc2
      rw [if_neg (fun q => nI_nle q.2 h16 hc2)] at h
      exact ⟨Or.inl rfl, h⟩
    · have hc1 : ¬ nI (lp n c la).2.1 = nI n := hc1
      have hc2 : ¬ nI (lp n c la).2.2 ≤ 0 := hc2
      have h3 : (lp n c la).2.1 ≠ n := fun q => hc1 (by rw [q])
      have h4 : 0 < (lp n c la).2.2 := by
        rcases Nat.eq_zero_or_pos (lp n c la).2.2 with q | q
        · rw [q] at hc2; exact absurd (by decide) hc2
        · exact q
      rw [if_pos ⟨h3, h4⟩] at h
      exact ⟨Or.inr rfl, h⟩
  have loop : ∀ f c1 la1 th, Iv n F (u - f) c1 → f ≤ u → la1 ≤ n → dl n f c1 la1 th = lp n c la → A 34 [some (.ref 13), some (.int (nI n)), some (.int (nI (dg c la))), some (.int (nI th)), some (.int (nI f))] [] N (sg G0 13 c1 la1 k) R J 0 := by
    intro f
    induction f with
    | zero =>
      intro c1 la1 th hiv hfu hl1 e
      have e : (c1, la1, th) = lp n c la := e
      rw [← e] at last
      exact hC.1 [86] 30 34 _ _ _ _ _ _ _ ⟨fun _ => last, fun hc => absurd (show nI 0 ≤ (0 : Int32) by decide) hc⟩
    | succ f ih =>
      intro c1 la1 th hiv hfu hl1 e
      have hnx := nx_le (n := n) (j := la1)
      have hc1 : c1 < 2 ^ 30 := Pv_lt (n := n) (F := F) (t := u - (f + 1)) ⟨hiv, by omega, hn, hv.2.2.2⟩
      have hiv2 := (Iv_add hiv (by omega) hnx).1
      have := ih (c1 + 16 ^ nx n la1) (nx n la1) (dg c1 (nx n la1)) (by rw [show u - f = u - (f + 1) + 1 by omega]; exact hiv2) (by omega) hnx e
      have e1 : sg G0 13 (c1 + 16 ^ nx n la1) (nx n la1) k = oz2 (oz2 (sg G0 13 c1 la1 k) 13 1 (nI (nx n la1))) 13 0 (nI c1 + rw_sd (nI 1) (nI (nx n la1))) := by
        rw [sg_l, rw_sd_n (by omega) (mx_sd (by decide) (by omega)), Nat.one_mul, nI_add, sg_p]
      have e2 : nI (dg c1 (nx n la1)) = rw_at (nI c1) (nI (nx n la1)) := (rw_at_n (by omega) (by omega)).symm
      have e3 : nI (nx n la1) = rw_nx (nI la1) (nI n) := (rw_nx_n (by omega) (by omega)).symm
      have e4 : nI f = nI (f + 1) + oz_c (-1) := (pk_m1 f).symm
      rw [e1, e2, e3, e4] at this
      exact hC.1 [34] 40 34 _ _ _ _ _ _ _ ⟨fun hc => absurd hc (nI_nle (by omega) (by omega)), fun _ => this⟩
  have h0 := loop (dg c la) (c - dg c la * 16 ^ la) la 0 (Iv_sub hv.1 hla) (by omega) hla rfl
  have hdg := dg_lt c la
  have e1 : sg G0 13 (c - dg c la * 16 ^ la) la k = oz2 (sg G0 13 c la k) 13 0 (nI c - rw_sd (rw_at (nI c) (nI la)) (nI la)) := by
    rw [rw_at_n (by omega) (by omega), rw_sd_n (by omega) (mx_sd hdg (by omega)), pk_sub (dg_le c la), sg_p]
  have e2 : nI (dg c la) = rw_at (nI c) (nI la) := (rw_at_n (by omega) (by omega)).symm
  rw [e1, e2] at h0
  exact hC.1 [34] 40 0 _ _ _ _ _ _ _ h0
theorem I_X3_endsAmongSeeds : oz_Imp t_X3_endsAmongSeeds 5 s_X3_endsAmongSeeds := by
  intro Φ A a N G R J hN hS hC
  obtain ⟨t, x, rfl, ht, G0, n, F, u, c, la, k, rfl, hG, hv, hla, hk, h⟩ : ∃ t x, a = [.ref t, .int x] ∧ (t = 10 ∨ t = 13) ∧ ∃ (G0 : oz_G) (n F u c la k : Nat), x = nI n ∧ G = sg G0 t c la k ∧ Pv n F u c ∧ la ≤ n ∧ k < 2 ^ 30 ∧ Φ (some (.int (nI (ends n (lp n c la))))) N (sg G0 t (lp n c la).1 (lp n c la).2.1 (k + 1)) R J := by
    unfold s_X3_endsAmongSeeds at hS
    split at hS
    · exact ⟨_, _, rfl, hS⟩
    · exact hS.elim
  rw [hG]
  rcases ht with rfl | rfl
  · exact ea_10 hC hv hla hk h
  · exact ea_13 hC hv hla hk h
