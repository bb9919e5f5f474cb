/-! the class's search: its other methods -/
def clJ (J : oz_J) (i : Nat) : oz_J := fun a => if a = 12 then (fun s => if s < i then lN 0 else J 12 s) else J a
theorem clJ_s {J : oz_J} {i : Nat} : oz2 (clJ J i) 12 i (lN 0) = clJ J (i + 1) := by
  funext a s
  unfold oz2 clJ
  by_cases ha : a = 12
  · subst ha
    by_cases hs : s = i
    · subst hs; simp
    · by_cases h2 : s < i
      · have : s < i + 1 := by omega
        simp [hs, h2, this]
      · have : ¬ s < i + 1 := by omega
        simp [hs, h2, this]
  · simp [ha]
theorem clJ_0 {J : oz_J} : clJ J 0 = J := by
  funext a s
  unfold clJ
  by_cases ha : a = 12
  · subst ha; simp
  · simp [ha]
theorem clJ_T {J : oz_J} : Tb (clJ J 4096) (fun _ => 0) (fun _ => 0) (fun _ => 0) := by
  intro s hs
  refine ⟨?_, (by decide : (0 : Nat) < 2 ^ 30), (by decide : (0 : Nat) < 256), (by decide : (0 : Nat) < 256)⟩
  unfold clJ en
  simp [hs]
theorem tab_0 {n rl ex u c0 : Nat} : Tab n rl ex u c0 (fun _ => 0) (fun _ => 0) (fun _ => 0) [] [] :=
  ⟨List.nodup_nil, fun _ h => absurd h List.not_mem_nil, fun _ h => absurd h List.not_mem_nil, fun _ _ h => absurd rfl h, by rw [nz_z]; exact Nat.zero_le _, fun _ _ _ => ⟨rfl, rfl⟩, fun _ h => absurd h List.not_mem_nil⟩
def s_X2_explore : oz_S := fun a N G R J Φ => match a with
  | [.ref t, .ref o] => t = 11 ∧ o = 1 ∧ ∃ (hi : Nat → Nat) (sl : Nat → Option Nat) (n rl ex u c : Nat), R = rmR hi sl ∧ Ev G n rl ex ∧ G 1 2 = nI c ∧ Hb n rl ex c ∧ Gd n u c ∧
    ∀ (G' : oz_G) (J' : oz_J) (lw mo fe : Nat → Nat) (L : List Nat), FrG G G' → FrJ J J' → G' 11 2 = nI L.length → Tb J' lw mo fe → (lo c = 0 → Tab n rl ex u c lw mo fe L [] ∧ c ∈ L) → (lo c = 1 → L = []) → Φ none N G' R J'
  | _ => False
def t_X2_explore : oz_T := (P_X2_explore, e_X2, [(31, 0, 1, 0, s_X1_isLost), (37, 0, 4, 0, s_X2_visit 17)], (true, 44, none, false, 0), (0, fun _ => 0))
theorem I_X2_explore : oz_Imp t_X2_explore 3 s_X2_explore := by
  intro Φ A a N G R J hN hS hC
  obtain ⟨t, o, rfl, rfl, rfl, hi, sl, n, rl, ex, u, c, rfl, hev, e1, hb, hg, h⟩ : ∃ t o, a = [.ref t, .ref o] ∧ t = 11 ∧ o = 1 ∧ ∃ (hi : Nat → Nat) (sl : Nat → Option Nat) (n rl ex u c : Nat), R = rmR hi sl ∧ Ev G n rl ex ∧ G 1 2 = nI c ∧ Hb n rl ex c ∧ Gd n u c ∧
    ∀ (G' : oz_G) (J' : oz_J) (lw mo fe : Nat → Nat) (L : List Nat), FrG G G' → FrJ J J' → G' 11 2 = nI L.length → Tb J' lw mo fe → (lo c = 0 → Tab n rl ex u c lw mo fe L [] ∧ c ∈ L) → (lo c = 1 → L = []) → Φ none N G' R J' := by
    unfold s_X2_explore at hS
    split at hS
    · exact ⟨_, _, rfl, hS⟩
    · exact hS.elim
  have hlo := lo_le (c := c)
  have hp := pot16 hg
  have hfr : FrG G (oz2 G 11 2 (nI 0)) := fun a h1 _ => oz2_row h1
  have hfj : FrJ J (clJ J 4096) := fun a h1 => by unfold clJ; rw [if_neg h1]
  have hev2 := Ev_fr hfr hev
  have last : ∀ v, A 22 [some (.ref 11), some (.ref 1), v] [] N G (rmR hi sl) (clJ J 4096) 0 := by
    intro v
    refine hC.1 [] 60 22 _ _ _ _ _ _ _ ⟨fun hq => ?_, fun hq => ?_⟩
    · have hq : ¬ rw_lo (G 1 2) = nI 0 := hq
      rw [e1, rw_lo_n, nI_eq (by omega) (by decide)] at hq
      exact h (oz2 G 11 2 (nI 0)) (clJ J 4096) _ _ _ [] hfr hfj (by rw [oz2_self]; rfl) clJ_T (fun z => absurd z hq) (fun _ => rfl)
    · have hq : ¬ ¬ rw_lo (G 1 2) = nI 0 := hq
      have hq := Classical.not_not.mp hq
      rw [e1, rw_lo_n, nI_eq (by omega) (by decide)] at hq
      refine ⟨rfl, rfl, hi, sl, n, rl, ex, u, c, c, 0, _, _, _, [], [], rfl, hev2, e1, rfl, by omega, by omega, hb, hg, hq, ⟨0, rfl⟩, oz2_self, clJ_T, tab_0, fun _ hz => absurd hz List.not_mem_nil, Or.inr rfl, ?_⟩
      intro G' J' lw mo fe L f1 f2 f3 f4 f5 f6 f7
      exact h G' J' lw mo fe L (FrG_t hfr f1) (FrJ_t hfj f2) f3 f4 (fun _ => ⟨f5, f7⟩) (fun z => by omega)
  have loop : ∀ f i, i + f = 4096 → A 2 [some (.ref 11), some (.ref 1), some (.int (nI i))] [] N G (rmR hi sl) (clJ J i) 0 := by
    intro f
    induction f with
    | zero =>
      intro i hif
      have : i = 4096 := by omega
      subst this
      exact hC.1 [22] 30 2 _ _ _ _ _ _ _ ⟨fun _ => last _, fun hq => absurd (show nI 4096 ≤ nI 4096 by decide) hq⟩
    | succ f ih =>
      intro i hif
      have hih := ih (i + 1) (by omega)
      rw [← clJ_s, ← nI_add i 1] at hih
      exact hC.1 [2] 30 2 _ _ _ _ _ _ _ ⟨fun hq => absurd (show nI 4096 ≤ nI i from hq) (nI_ge (by omega) (by decide)), fun _ => ⟨i, rfl, by show i < 4096; omega, hih⟩⟩
  have h0 := loop 4096 0 (by omega)
  rw [clJ_0] at h0
  exact hC.1 [2] 30 0 _ _ _ _ _ _ _ h0
def mf (n rl ex c : Nat) : Nat := if lo c = 1 then dg c n else Bv n rl ex c
def s_X2_mostFrom : oz_S := fun a N G R J Φ => match a with
  | [.ref t, .ref o, .int x] => t = 11 ∧ o = 1 ∧ ∃ (hi : Nat → Nat) (sl : Nat → Option Nat) (n rl ex u c0 c : Nat) (lw mo fe : Nat → Nat) (L : List Nat), R = rmR hi sl ∧ Ev G n rl ex ∧ x = nI c ∧ Gd n u c ∧ Tb J lw mo fe ∧ (lo c = 0 → Tab n rl ex u c0 lw mo fe L [] ∧ c ∈ L) ∧ Φ (some (.int (nI (mf n rl ex c)))) N G R J
  | _ => False
def t_X2_mostFrom : oz_T := (P_X2_mostFrom, e_X2, [(31, 0, 1, 0, s_X1_isLost), (48, 0, 2, 0, s_X1_seedsAt), (41, 1, 2, 0, s_X2_slotOf), (69, 1, 2, 0, s_X2_mostIn)], (true, 44, none, false, 0), (0, fun _ => 0))
theorem I_X2_mostFrom : oz_Imp t_X2_mostFrom 3 s_X2_mostFrom := by
  intro Φ A a N G R J hN hS hC
  obtain ⟨t, o, x, rfl, rfl, rfl, hi, sl, n, rl, ex, u, c0, c, lw, mo, fe, L, rfl, hev, rfl, hg, hTb, hTab, h⟩ : ∃ t o x, a = [.ref t, .ref o, .int x] ∧ t = 11 ∧ o = 1 ∧ ∃ (hi : Nat → Nat) (sl : Nat → Option Nat) (n rl ex u c0 c : Nat) (lw mo fe : Nat → Nat) (L : List Nat), R = rmR hi sl ∧ Ev G n rl ex ∧ x = nI c ∧ Gd n u c ∧ Tb J lw mo fe ∧ (lo c = 0 → Tab n rl ex u c0 lw mo fe L [] ∧ c ∈ L) ∧ Φ (some (.int (nI (mf n rl ex c)))) N G R J := by
    unfold s_X2_mostFrom at hS
    split at hS
    · exact ⟨_, _, _, rfl, hS⟩
    · exact hS.elim
  have hlo := lo_le (c := c)
  have hc := Gd_lt hg
  have hn := hg.2.2
  refine hC.1 [] 60 0 _ _ _ _ _ _ _ ⟨fun hq => ?_, fun hq => ?_⟩
  · have hq : rw_lo (nI c) = nI 0 := hq
    rw [rw_lo_n, nI_eq (by omega) (by decide)] at hq
    obtain ⟨q1, q2⟩ := hTab hq
    obtain ⟨v1, -, -⟩ := q1.2.2.2.2.2.2 c q2 List.not_mem_nil
    unfold mf at h
    rw [if_neg (by omega), ← v1] at h
    exact ⟨hi, sl, c, lw, mo, fe, rfl, rfl, hc, hTb, hi, sl, sot lw c, lw, mo, fe, rfl, rfl, sot_lt _ _, hTb, h⟩
  · have hq : ¬ rw_lo (nI c) = nI 0 := hq
    rw [rw_lo_n, nI_eq (by omega) (by decide)] at hq
    unfold mf at h
    rw [if_pos (by omega)] at h
    have e : rw_at (nI c) (G 1 1) = nI (dg c n) := by rw [hev.1]; exact rw_at_n (by omega) (by omega)
    rw [← e] at h
    exact h
def ff (n rl ex c : Nat) : Int32 := if lo c = 1 then oz_c (-6) else if Fw n rl ex c = 63 then oz_c (-6) else nI (Fw n rl ex c)
def s_X2_fewestFrom : oz_S := oz_t1 11 fun x N G R J Φ => ∃ (hi : Nat → Nat) (sl : Nat → Option Nat) (n rl ex u c0 c : Nat) (lw mo fe : Nat → Nat) (L : List Nat), R = rmR hi sl ∧ x = nI c ∧ Gd n u c ∧ Tb J lw mo fe ∧ (lo c = 0 → Tab n rl ex u c0 lw mo fe L [] ∧ c ∈ L) ∧ Φ (some (.int (ff n rl ex c))) N G R J
def t_X2_fewestFrom : oz_T := (P_X2_fewestFrom, e_X2, [(31, 0, 1, 0, s_X1_isLost), (41, 1, 2, 0, s_X2_slotOf), (72, 1, 2, 0, s_X2_fewestIn)], (true, 44, none, false, 0), (0, fun _ => 0))
theorem I_X2_fewestFrom : oz_Imp t_X2_fewestFrom 3 s_X2_fewestFrom := by
  intro Φ A a N G R J hN hS hC
  obtain ⟨x, rfl, hi, sl, n, rl, ex, u, c0, c, lw, mo, fe, L, rfl, rfl, hg, hTb, hTab, h⟩ := oz_t1_e hS
  have hlo := lo_le (c := c)
  have hc := Gd_lt hg
  have hn := hg.2.2
  have hf63 : Fw n rl ex c ≤ 63 := fs_le 16 _
  unfold ff at h
  refine hC.1 [] 60 0 _ _ _ _ _ _ _ ⟨fun hq => ?_, fun hq => ?_⟩
  · have hq : rw_lo (nI c) = nI 0 := hq
    rw [rw_lo_n, nI_eq (by omega) (by decide)] at hq
    obtain ⟨q1, q2⟩ := hTab hq
    obtain ⟨-, v1, -⟩ := q1.2.2.2.2.2.2 c q2 List.not_mem_nil
    rw [if_neg (by omega)] at h
    refine ⟨hi, sl, c, lw, mo, fe, rfl, rfl, hc, hTb, hi, sl, sot lw c, lw, mo, fe, rfl, rfl, sot_lt _ _, hTb, fun hq2 => ?_, fun hq2 => ?_⟩
    · have hq2 : ¬ nI (fe (sot lw c)) = nI 63 := hq2
      rw [v1, nI_eq (by omega) (by decide)] at hq2
      rw [if_neg hq2, ← v1] at h
      exact h
    · have hq2 : ¬ ¬ nI (fe (sot lw c)) = nI 63 := hq2
      have hq2 := Classical.not_not.mp hq2
      rw [v1, nI_eq (by omega) (by decide)] at hq2
      rw [if_pos hq2] at h
      exact h
  · have hq : ¬ rw_lo (nI c) = nI 0 := hq
    rw [rw_lo_n, nI_eq (by omega) (by decide)] at hq
    rw [if_pos (by omega)] at h
    exact h
/-- the first pit behind which the best store is -/
def fmo (n rl ex c m : Nat) : Nat → Nat → Option Nat
  | 0, _ => none
  | f + 1, i => if lg n ex c i = 1 ∧ mf n rl ex (mvc n rl c i) = m then some i else fmo n rl ex c m f (i + 1)
def fm (n rl ex c : Nat) : Int32 := if dg c n = mf n rl ex c then oz_c (-6) else fI (fmo n rl ex c (mf n rl ex c) n 0)
def s_X2_firstMove : oz_S := fun a N G R J Φ => match a with
  | [.ref t, .ref o, .int x] => t = 11 ∧ o = 1 ∧ ∃ (hi : Nat → Nat) (sl : Nat → Option Nat) (n rl ex u c0 c : Nat) (lw mo fe : Nat → Nat) (L : List Nat), R = rmR hi sl ∧ Ev G n rl ex ∧ x = nI c ∧ Gd n u c ∧ Tb J lw mo fe ∧ (lo c = 0 → Tab n rl ex u c0 lw mo fe L [] ∧ c ∈ L) ∧ ∀ G' : oz_G, (∀ a, a ≠ 13 → G' a = G a) → Φ (some (.int (fm n rl ex c))) N G' R J
  | _ => False
theorem mf_le {n rl ex u c : Nat} (h : Gd n u c) : mf n rl ex c ≤ 14 := by
  unfold mf
  split
  · exact Nat.le_trans (Gd_dg h (Nat.le_refl _)) h.2.1
  · exact bs_le 16 _ h
def t_X2_firstMove : oz_T := (P_X2_firstMove, e_X2, [(79, 1, 3, 0, s_X2_mostFrom), (48, 0, 2, 0, s_X1_seedsAt), (55, 1, 3, 0, s_X4_canSow), (59, 1, 4, 0, s_X3_make)], (true, 44, none, false, 0), (0, fun _ => 0))
theorem I_X2_firstMove : oz_Imp t_X2_firstMove 5 s_X2_firstMove := by
  intro Φ A a N G R J hN hS hC
  obtain ⟨t, o, x, rfl, rfl, rfl, hi, sl, n, rl, ex, u, c0, c, lw, mo, fe, L, rfl, hev, rfl, hg, hTb, hTab, h⟩ : ∃ t o x, a = [.ref t, .ref o, .int x] ∧ t = 11 ∧ o = 1 ∧ ∃ (hi : Nat → Nat) (sl : Nat → Option Nat) (n rl ex u c0 c : Nat) (lw mo fe : Nat → Nat) (L : List Nat), R = rmR hi sl ∧ Ev G n rl ex ∧ x = nI c ∧ Gd n u c ∧ Tb J lw mo fe ∧ (lo c = 0 → Tab n rl ex u c0 lw mo fe L [] ∧ c ∈ L) ∧ ∀ G' : oz_G, (∀ a, a ≠ 13 → G' a = G a) → Φ (some (.int (fm n rl ex c))) N G' R J := by
    unfold s_X2_firstMove at hS
    split at hS
    · exact ⟨_, _, _, rfl, hS⟩
    · exact hS.elim
  have hlo := lo_le (c := c)
  have hc := Gd_lt hg
  have hn := hg.2.2
  have hm14 := mf_le (rl := rl) (ex := ex) hg
  have hd14 : dg c n ≤ 14 := Nat.le_trans (Gd_dg hg (Nat.le_refl _)) hg.2.1
  have loop : ∀ f i (G2 : oz_G), i + f = n → (∀ a, a ≠ 13 → G2 a = G a) → fI (fmo n rl ex c (mf n rl ex c) f i) = fm n rl ex c → A 25 [some (.ref 11), some (.ref 1), some (.int (nI c)), some (.int (nI (mf n rl ex c))), some (.int (nI i))] [] N G2 (rmR hi sl) J 0 := by
    intro f
    induction f with
    | zero =>
      intro i G2 hif g1 g2
      have hin : i = n := by omega
      subst hin
      have hf := h G2 g1
      rw [← g2] at hf
      have e1' : G2 1 1 = nI i := by rw [g1 1 (by decide)]; exact hev.1
      exact hC.1 [] 30 25 _ _ _ _ _ _ _ ⟨fun _ => hf, fun hq => absurd (show G2 1 1 ≤ nI i by rw [e1']; exact nI_le (Nat.le_refl _) (by omega)) hq⟩
    | succ f ih =>
      intro i G2 hif g1 g2
      have hin : i < n := by omega
      have hev2 : Ev G2 n rl ex := Ev_fr (fun a _ h2 => g1 a h2) hev
      have e1' : G2 1 1 = nI n := hev2.1
      have hlg := lg_le (n := n) (ex := ex) (c := c) (i := i)
      have g2 : fI (if lg n ex c i = 1 ∧ mf n rl ex (mvc n rl c i) = mf n rl ex c then some i else fmo n rl ex c (mf n rl ex c) f (i + 1)) = fm n rl ex c := g2
      refine hC.1 [25] 90 25 _ _ _ _ _ _ _ ⟨fun hq => absurd (show G2 1 1 ≤ nI i from hq) (by rw [e1']; exact nI_ge (by omega) (by omega)), fun _ => ⟨hi, sl, n, rl, ex, c, i, rfl, hev2, rfl, rfl, hc, hin, fun hq => ?_, fun hq => ?_⟩⟩
      · have hq : nI (lg n ex c i) = nI 0 := hq
        rw [nI_eq (by omega) (by decide)] at hq
        rw [if_neg (fun z => by omega)] at g2
        have hih := ih (i + 1) G2 (by omega) g1 g2
        rw [← nI_add i 1] at hih
        exact hih
      · have hq : ¬ nI (lg n ex c i) = nI 0 := hq
        have hl : lg n ex c i = 1 := by
          rcases Nat.eq_zero_or_pos (lg n ex c i) with z | z
          · exact absurd (by rw [z]) hq
          · omega
        have hdp := (lg_e hl).2
        have hl0 := (lg_e hl).1
        obtain ⟨m1, m2⟩ := Gd_mv (rl := rl) hg hin hdp hl0
        have hm := Gd_lt m1
        obtain ⟨q1, q2⟩ := hTab hl0
        have hev3 : Ev (mG G2 13 n rl c i) n rl ex := Ev_fr (fun a _ h2 => mG_n h2) hev2
        have hmm := mf_le (rl := rl) (ex := ex) m1
        refine ⟨Or.inr rfl, rfl, hi, sl, n, rl, _, u, c, i, rfl, rfl, rfl, e1', hev2.2.1, hev2.2.2.2.2.2.1, Gd_Pv hg, hin, hdp, hl0, rfl, rfl, hi, sl, n, rl, ex, u, c0, mvc n rl c i, lw, mo, fe, L, rfl, hev3, rfl, m1, hTb, fun z => ⟨q1, (q1.2.2.2.2.2.2 c q2 List.not_mem_nil).2.2 i hin hl z⟩, fun hq2 => ?_, fun hq2 => ?_⟩
        · have hq2 : ¬ nI (mf n rl ex (mvc n rl c i)) = nI (mf n rl ex c) := hq2
          rw [nI_eq (by omega) (by omega)] at hq2
          rw [if_neg (fun z => hq2 z.2)] at g2
          have hih := ih (i + 1) (mG G2 13 n rl c i) (by omega) (fun a ha => by rw [mG_n ha]; exact g1 a ha) g2
          rw [← nI_add i 1] at hih
          exact hih
        · have hq2 : ¬ ¬ nI (mf n rl ex (mvc n rl c i)) = nI (mf n rl ex c) := hq2
          have hq2 := Classical.not_not.mp hq2
          rw [nI_eq (by omega) (by omega)] at hq2
          rw [if_pos ⟨hl, hq2⟩] at g2
          have hf := h (mG G2 13 n rl c i) (fun a ha => by rw [mG_n ha]; exact g1 a ha)
          rw [← g2] at hf
          exact hf
  have e0 : rw_at (nI c) (G 1 1) = nI (dg c n) := by rw [hev.1]; exact rw_at_n (by omega) (by omega)
  refine hC.1 [25] 60 0 _ _ _ _ _ _ _ ⟨rfl, rfl, hi, sl, n, rl, ex, u, c0, c, lw, mo, fe, L, rfl, hev, rfl, hg, hTb, hTab, fun hq => ?_, fun hq => ?_⟩
  · have hq : ¬ rw_at (nI c) (G 1 1) = nI (mf n rl ex c) := hq
    rw [e0, nI_eq (by omega) (by omega)] at hq
    exact loop n 0 G (by omega) (fun _ _ => rfl) (by unfold fm; rw [if_neg hq])
  · have hq : ¬ ¬ rw_at (nI c) (G 1 1) = nI (mf n rl ex c) := hq
    have hq := Classical.not_not.mp hq
    rw [e0, nI_eq (by omega) (by omega)] at hq
    have hf := h G (fun _ _ => rfl)
    unfold fm at hf
    rw [if_pos hq] at hf
    exact hf
