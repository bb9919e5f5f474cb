/-! the class's search: visiting a position -/
def FrG (G G' : oz_G) : Prop := ∀ i, i ≠ 11 → i ≠ 13 → G' i = G i
def FrJ (J J' : oz_J) : Prop := ∀ i, i ≠ 12 → J' i = J i
theorem mG_n {G : oz_G} {t n rl c i a : Nat} (h : a ≠ t) : mG G t n rl c i a = G a := by unfold mG; rw [if_neg h]
theorem FrG_m {G G' : oz_G} {n rl c i : Nat} (h : FrG G G') : FrG G (mG G' 13 n rl c i) := fun a h1 h2 => by rw [mG_n h2]; exact h a h1 h2
theorem FrG_t {G G' G'' : oz_G} (h : FrG G G') (h' : FrG G' G'') : FrG G G'' := fun a h1 h2 => by rw [h' a h1 h2, h a h1 h2]
theorem FrJ_t {G G' G'' : oz_J} (h : FrJ G G') (h' : FrJ G' G'') : FrJ G G'' := fun a h1 => by rw [h' a h1, h a h1]
theorem Ev_fr {G G' : oz_G} {n rl ex : Nat} (h : FrG G G') (e : Ev G n rl ex) : Ev G' n rl ex := by
  unfold Ev at e ⊢
  rw [h 1 (by decide) (by decide), h 2 (by decide) (by decide)]
  exact e
theorem mx_max {a b : Nat} (ha : a < 2 ^ 31) (hb : b < 2 ^ 31) : (if nI a < nI b then nI b else nI a) = nI (Nat.max a b) := by
  by_cases q : a < b
  · rw [if_pos ((nI_ltI ha hb).mpr q), show Nat.max a b = b from Nat.max_eq_right (by omega)]
  · rw [if_neg (fun z => q ((nI_ltI ha hb).mp z)), show Nat.max a b = a from Nat.max_eq_left (by omega)]
theorem mx_min {a b : Nat} (ha : a < 2 ^ 31) (hb : b < 2 ^ 31) : (if nI b < nI a then nI b else nI a) = nI (Nat.min a b) := by
  by_cases q : b < a
  · rw [if_pos ((nI_ltI hb ha).mpr q), show Nat.min a b = b from Nat.min_eq_right (by omega)]
  · rw [if_neg (fun z => q ((nI_ltI hb ha).mp z)), show Nat.min a b = a from Nat.min_eq_left (by omega)]
def s_X2_visit (k : Nat) : oz_S := fun a N G R J Φ => match a with
  | [.ref t, .ref o, .int x, .int y] => t = 11 ∧ o = 1 ∧ ∃ (hi : Nat → Nat) (sl : Nat → Option Nat) (n rl ex u c0 c d : Nat) (lw mo fe : Nat → Nat) (L S : List Nat), R = rmR hi sl ∧ Ev G n rl ex ∧ x = nI c ∧ y = nI d ∧ d + pot n c ≤ 16 ∧ pot n c < k ∧ Hb n rl ex c0 ∧ Gd n u c ∧ lo c = 0 ∧ Rch n rl ex c0 c ∧ G 11 2 = nI L.length ∧ Tb J lw mo fe ∧ Tab n rl ex u c0 lw mo fe L S ∧ (∀ z, z ∈ S → pot n c < pot n z) ∧ (0 < u ∨ L = []) ∧
    ∀ (G' : oz_G) (J' : oz_J) (lw' mo' fe' : Nat → Nat) (L' : List Nat), FrG G G' → FrJ J J' → G' 11 2 = nI L'.length → Tb J' lw' mo' fe' → Tab n rl ex u c0 lw' mo' fe' L' S → (∀ z, z ∈ L → z ∈ L' ∧ sot lw' z = sot lw z) → c ∈ L' → Φ (some (.int (nI (sot lw' c)))) N G' R J'
  | _ => False
def t_X2_visit (k : Nat) : oz_T := (P_X2_visit, e_X2, [(41, 1, 2, 0, s_X2_slotOf), (48, 0, 2, 0, s_X1_seedsAt), (52, 0, 2, 0, s_X1_inPits), (55, 1, 3, 0, s_X4_canSow), (59, 1, 4, 0, s_X3_make), (31, 0, 1, 0, s_X1_isLost), (64, 0, 2, 0, oz_Smax), (37, 0, 4, 0, s_X2_visit k), (69, 1, 2, 0, s_X2_mostIn), (72, 1, 2, 0, s_X2_fewestIn), (75, 0, 2, 0, oz_Smin)], (true, 44, none, false, 0), (0, fun _ => 0))
theorem I_X2_visit (k : Nat) : oz_Imp (t_X2_visit k) 10 (s_X2_visit (k + 1)) := by
  intro Φ A a N G R J hN hS hC
  obtain ⟨t, o, x, y, rfl, rfl, rfl, hi, sl, n, rl, ex, u, c0, c, d, lw, mo, fe, L, S, rfl, hev, rfl, rfl, hd, hk, hb, hg, hlo, hR, hf, hTb, hTab, hS2, hu0, h⟩ : ∃ t o x y, a = [.ref t, .ref o, .int x, .int y] ∧ t = 11 ∧ o = 1 ∧ ∃ (hi : Nat → Nat) (sl : Nat → Option Nat) (n rl ex u c0 c d : Nat) (lw mo fe : Nat → Nat) (L S : List Nat), R = rmR hi sl ∧ Ev G n rl ex ∧ x = nI c ∧ y = nI d ∧ d + pot n c ≤ 16 ∧ pot n c < k + 1 ∧ Hb n rl ex c0 ∧ Gd n u c ∧ lo c = 0 ∧ Rch n rl ex c0 c ∧ G 11 2 = nI L.length ∧ Tb J lw mo fe ∧ Tab n rl ex u c0 lw mo fe L S ∧ (∀ z, z ∈ S → pot n c < pot n z) ∧ (0 < u ∨ L = []) ∧
    ∀ (G' : oz_G) (J' : oz_J) (lw' mo' fe' : Nat → Nat) (L' : List Nat), FrG G G' → FrJ J J' → G' 11 2 = nI L'.length → Tb J' lw' mo' fe' → Tab n rl ex u c0 lw' mo' fe' L' S → (∀ z, z ∈ L → z ∈ L' ∧ sot lw' z = sot lw z) → c ∈ L' → Φ (some (.int (nI (sot lw' c)))) N G' R J' := by
    unfold s_X2_visit at hS
    split at hS
    · exact ⟨_, _, _, _, rfl, hS⟩
    · exact hS.elim
  obtain ⟨e1, e2, e3, e4, e5, e6, e7⟩ := id hev
  have hc := Gd_lt hg
  have hr := sot_lt lw c
  have hB : ∀ i, i ≤ n → fo (bz n rl ex c (Bv n rl ex)) (dg c n) i ≤ 14 := fun i hin => by
    refine fo_le (Nat.le_trans (Gd_dg hg (Nat.le_refl _)) hg.2.1) i (fun k x hk hx => ?_)
    unfold bz
    by_cases q : lg n ex c k = 1
    · obtain ⟨a1, a2⟩ := Gd_mv (rl := rl) hg (show k < n by omega) (lg_e q).2 (lg_e q).1
      rw [if_pos q]
      refine Nat.max_le.mpr ⟨hx, ?_⟩
      split
      · exact Nat.le_trans (Gd_dg a1 (Nat.le_refl _)) hg.2.1
      · exact bs_le 16 _ a1
    · rw [if_neg q]; exact hx
  have hF : ∀ i, fo (fz n rl ex c (Fw n rl ex)) (f0 n c) i ≤ 63 := fun i => by
    refine fo_le (by unfold f0; split <;> decide) i (fun k x hk hx => ?_)
    unfold fz
    split
    · exact Nat.le_trans (Nat.min_le_left _ _) hx
    · exact hx
  have loop : ∀ f i (G2 : oz_G) (J2 : oz_J) (lw2 mo2 fe2 : Nat → Nat) (L2 : List Nat) (v8 v9 : Option Value), i + f = n → FrG G G2 → FrJ J J2 → G2 11 2 = nI L2.length → Tb J2 lw2 mo2 fe2 → Tab n rl ex u c0 lw2 mo2 fe2 L2 (c :: S) → (∀ z, z ∈ L → z ∈ L2 ∧ sot lw2 z = sot lw z) → c ∈ L2 → sot lw2 c = sot lw c → (∀ j, j < i → lg n ex c j = 1 → lo (mvc n rl c j) = 0 → mvc n rl c j ∈ L2) →
      A 79 [some (.ref 11), some (.ref 1), some (.int (nI c)), some (.int (nI d)), some (.int (nI (sot lw c))), some (.int (nI (fo (bz n rl ex c (Bv n rl ex)) (dg c n) i))), some (.int (nI (fo (fz n rl ex c (Fw n rl ex)) (f0 n c) i))), some (.int (nI i)), v8, v9] [] N G2 (rmR hi sl) J2 0 := by
    intro f
    induction f with
    | zero =>
      intro i G2 J2 lw2 mo2 fe2 L2 v8 v9 hif g1 g2 g3 g4 g5 g6 g7 g8 g9
      have hin : i = n := by omega
      subst hin
      have e1' : G2 1 1 = nI i := by rw [g1 1 (by decide) (by decide)]; exact e1
      have hBn := hB i (Nat.le_refl _)
      have hFn := hF i
      refine hC.1 [194] 30 79 _ _ _ _ _ _ _ ⟨fun _ => ?_, fun hq => absurd (show G2 1 1 ≤ nI i by rw [e1']; exact nI_le (Nat.le_refl _) (by omega)) hq⟩
      have hc2 : lw2 (sot lw c) = c := by rw [← g8]; exact g5.2.2.1 c g7
      have hfin := h G2 (oz2 J2 12 (sot lw c) (lN (fo (fz i rl ex c (Fw i rl ex)) (f0 i c) i * 2 ^ 40 + fo (bz i rl ex c (Bv i rl ex)) (dg c i) i * 2 ^ 32 + lw2 (sot lw c)))) lw2 (up mo2 (sot lw c) (Bv i rl ex c)) (up fe2 (sot lw c) (Fw i rl ex c)) L2 g1
        (fun a ha => by rw [oz2_row ha]; exact g2 a ha) g3 (by
          have := Tb_fin (r := sot lw c) g4 (m := Bv i rl ex c) (f := Fw i rl ex c) (by rw [Bv_eq hg]; omega) (by rw [Fw_eq hg]; omega)
          rw [← Bv_eq hg, ← Fw_eq hg]
          exact this) (by
          have := tab_fin g5 g7 g9
          rw [g8] at this
          exact this) g6 g7
      rw [hc2, g8, ← mx_ent hc (by omega) (by omega)] at hfin
      exact hC.1 [] 40 194 _ _ _ _ _ _ _ ⟨sot lw c, rfl, by show _ < 4096; omega, hfin⟩
    | succ f ih =>
      intro i G2 J2 lw2 mo2 fe2 L2 v8 v9 hif g1 g2 g3 g4 g5 g6 g7 g8 g9
      have hin : i < n := by omega
      have hev2 := Ev_fr g1 hev
      have e1' : G2 1 1 = nI n := hev2.1
      have hBi := hB i (by omega)
      have hFi := hF i
      have hlg := lg_le (n := n) (ex := ex) (c := c) (i := i)
      refine hC.1 [79] 100 79 _ _ _ _ _ _ _ ⟨fun hq => absurd (show G2 1 1 ≤ nI i from hq) (by rw [e1']; exact nI_ge (by omega) (by omega)), fun _ => ⟨hi, sl, n, rl, ex, c, i, rfl, hev2, rfl, rfl, hc, hin, fun hq => ?_, fun hq => ?_⟩⟩
      · have hq : ¬ nI (lg n ex c i) = nI 0 := hq
        have hl : lg n ex c i = 1 := by
          rcases Nat.eq_zero_or_pos (lg n ex c i) with z | z
          · exact absurd (by rw [z]) hq
          · omega
        have hdp := (lg_e hl).2
        obtain ⟨m1, m2⟩ := Gd_mv (rl := rl) hg hin hdp hlo
        have hm := Gd_lt m1
        have hup : 0 < u := Nat.lt_of_lt_of_le hdp (Gd_dg hg (by omega))
        have hev3 : Ev (mG G2 13 n rl c i) n rl ex := Ev_fr (FrG_m g1) hev
        refine ⟨Or.inr rfl, rfl, hi, sl, n, rl, _, u, c, i, rfl, rfl, rfl, e1', hev2.2.1, e6, Gd_Pv hg, hin, hdp, hlo, fun hq2 => ?_, fun hq2 => ?_⟩
        · have hq2 : rw_lo (nI (mvc n rl c i)) = nI 0 := hq2
          have hlm := lo_le (c := mvc n rl c i)
          rw [rw_lo_n, nI_eq (by omega) (by decide)] at hq2
          refine ⟨rfl, rfl, hi, sl, n, rl, ex, u, c0, mvc n rl c i, d + 1, lw2, mo2, fe2, L2, c :: S, rfl, hev3, rfl, nI_add d 1, by omega, by omega, hb, m1, hq2, Rch_s hR hin hl hq2, g3, g4, g5, fun z hz => ?_, Or.inl hup, ?_⟩
          · rcases List.mem_cons.mp hz with rfl | hz
            · omega
            · have := hS2 z hz; omega
          · intro G3 J3 lw3 mo3 fe3 L3 f1 f2 f3 f4 f5 f6 f7
            have hn : mvc n rl c i ∉ c :: S := fun hz => by
              rcases List.mem_cons.mp hz with q | hz
              · rw [q] at m2; omega
              · have := hS2 _ hz; omega
            obtain ⟨v1, v2, v3⟩ := f5.2.2.2.2.2.2 _ f7 hn
            have hb14 : Bv n rl ex (mvc n rl c i) ≤ 14 := bs_le 16 _ m1
            have hf63 : Fw n rl ex (mvc n rl c i) ≤ 63 := fs_le 16 _
            have s1 : nI (fo (bz n rl ex c (Bv n rl ex)) (dg c n) (i + 1)) = (if nI (fo (bz n rl ex c (Bv n rl ex)) (dg c n) i) < nI (mo3 (sot lw3 (mvc n rl c i))) then nI (mo3 (sot lw3 (mvc n rl c i))) else nI (fo (bz n rl ex c (Bv n rl ex)) (dg c n) i)) := by
              rw [v1, mx_max (by omega) (by omega)]
              show nI (bz n rl ex c (Bv n rl ex) i _) = _
              unfold bz
              rw [if_pos hl, if_neg (show ¬ lo (mvc n rl c i) = 1 by omega)]
            have s2 : nI (fo (fz n rl ex c (Fw n rl ex)) (f0 n c) (i + 1)) = (if nI (fe3 (sot lw3 (mvc n rl c i))) + nI 1 < nI (fo (fz n rl ex c (Fw n rl ex)) (f0 n c) i) then nI (fe3 (sot lw3 (mvc n rl c i))) + nI 1 else nI (fo (fz n rl ex c (Fw n rl ex)) (f0 n c) i)) := by
              rw [v2, nI_add, mx_min (by omega) (by omega)]
              show nI (fz n rl ex c (Fw n rl ex) i _) = _
              unfold fz
              rw [if_pos ⟨hl, hq2⟩]
            have hih := ih (i + 1) G3 J3 lw3 mo3 fe3 L3 (some (.int (nI (mvc n rl c i)))) (some (.int (nI (sot lw3 (mvc n rl c i))))) (by omega) (FrG_t (FrG_m g1) f1) (FrJ_t g2 f2) f3 f4 f5 (fun z hz => ⟨(f6 z (g6 z hz).1).1, by rw [(f6 z (g6 z hz).1).2]; exact (g6 z hz).2⟩) (f6 c g7).1 (by rw [(f6 c g7).2]; exact g8) (fun j hj h1 h2 => by
              rcases Nat.lt_succ_iff_lt_or_eq.mp hj with z | z
              · exact (f6 _ (g9 j z h1 h2)).1
              · rw [z]; exact f7)
            rw [s1, s2, ← nI_add i 1] at hih
            exact ⟨hi, sl, sot lw3 (mvc n rl c i), lw3, mo3, fe3, rfl, rfl, sot_lt _ _, f4, hi, sl, sot lw3 (mvc n rl c i), lw3, mo3, fe3, rfl, rfl, sot_lt _ _, f4, hih⟩
        · have hq2 : ¬ rw_lo (nI (mvc n rl c i)) = nI 0 := hq2
          have hlm := lo_le (c := mvc n rl c i)
          rw [rw_lo_n, nI_eq (by omega) (by decide)] at hq2
          have hl1 : lo (mvc n rl c i) = 1 := by omega
          have hdm := dg_lt (mvc n rl c i) n
          have s0 : rw_at (nI (mvc n rl c i)) (G2 1 1) = nI (dg (mvc n rl c i) n) := by rw [e1']; exact rw_at_n (by omega) (by omega)
          have s1 : nI (fo (bz n rl ex c (Bv n rl ex)) (dg c n) (i + 1)) = (if nI (fo (bz n rl ex c (Bv n rl ex)) (dg c n) i) < rw_at (nI (mvc n rl c i)) (G2 1 1) then rw_at (nI (mvc n rl c i)) (G2 1 1) else nI (fo (bz n rl ex c (Bv n rl ex)) (dg c n) i)) := by
            rw [s0, mx_max (by omega) (by omega)]
            show nI (bz n rl ex c (Bv n rl ex) i _) = _
            unfold bz
            rw [if_pos hl, if_pos hl1]
          have s2 : fo (fz n rl ex c (Fw n rl ex)) (f0 n c) (i + 1) = fo (fz n rl ex c (Fw n rl ex)) (f0 n c) i := by
            show fz n rl ex c (Fw n rl ex) i _ = _
            unfold fz
            rw [if_neg (fun z => hq2 z.2)]
          have hih := ih (i + 1) (mG G2 13 n rl c i) J2 lw2 mo2 fe2 L2 (some (.int (nI (mvc n rl c i)))) v9 (by omega) (FrG_m g1) g2 g3 g4 g5 g6 g7 g8 (fun j hj h1 h2 => by
            rcases Nat.lt_succ_iff_lt_or_eq.mp hj with z | z
            · exact g9 j z h1 h2
            · rw [z] at h2; exact absurd h2 hq2)
          rw [s1, s2, ← nI_add i 1] at hih
          exact hih
      · have hq : ¬ ¬ nI (lg n ex c i) = nI 0 := hq
        have hq := Classical.not_not.mp hq
        rw [nI_eq (by omega) (by decide)] at hq
        have s1 : fo (bz n rl ex c (Bv n rl ex)) (dg c n) (i + 1) = fo (bz n rl ex c (Bv n rl ex)) (dg c n) i := by
          show bz n rl ex c (Bv n rl ex) i _ = _
          unfold bz
          rw [if_neg (by omega)]
        have s2 : fo (fz n rl ex c (Fw n rl ex)) (f0 n c) (i + 1) = fo (fz n rl ex c (Fw n rl ex)) (f0 n c) i := by
          show fz n rl ex c (Fw n rl ex) i _ = _
          unfold fz
          rw [if_neg (fun z => by omega)]
        have hih := ih (i + 1) G2 J2 lw2 mo2 fe2 L2 v8 v9 (by omega) g1 g2 g3 g4 g5 g6 g7 g8 (fun j hj h1 h2 => by
          rcases Nat.lt_succ_iff_lt_or_eq.mp hj with z | z
          · exact g9 j z h1 h2
          · rw [z] at h1; omega)
        rw [s1, s2, ← nI_add i 1] at hih
        exact hih
  have hJ := hTb (sot lw c) hr
  have hz0 : J 12 (sot lw c) = lN 0 ↔ lw (sot lw c) = 0 := by
    rw [hJ.1, mx_l0 (en_lt hJ.2.1 hJ.2.2.1 hJ.2.2.2)]
    constructor
    · intro q
      rw [← en_lw (mo := mo) (fe := fe) hJ.2.1, q]
    · intro q
      obtain ⟨z1, z2⟩ := hTab.2.2.2.2.2.1 _ hr q
      unfold en
      rw [q, z1, z2]
  refine hC.1 [79] 90 0 _ _ _ _ _ _ _ ⟨hi, sl, c, lw, mo, fe, rfl, rfl, hc, hTb, sot lw c, rfl, hr, fun hq => ?_, fun hq => ?_⟩
  · have hq : ¬ lg_cmp (J 12 (sot lw c)) (lN 0) = 0 := hq
    rw [lg_cmp_eq, hz0] at hq
    rcases tab_find hTab hb hg hu0 with ⟨q1, q2, q3⟩ | ⟨q1, q2⟩
    · exact h G J lw mo fe L (fun _ _ _ => rfl) (fun _ _ => rfl) hf hTb hTab (fun z hz => ⟨hz, rfl⟩) q3
    · exact absurd q1 hq
  · have hq : ¬ ¬ lg_cmp (J 12 (sot lw c)) (lN 0) = 0 := hq
    have hq := Classical.not_not.mp hq
    rw [lg_cmp_eq, hz0] at hq
    have hcn : c ∉ L := by
      rcases tab_find hTab hb hg hu0 with ⟨q1, q2, q3⟩ | ⟨q1, q2⟩
      · exact absurd (by rw [← q1, hq]) q2
      · exact q2
    refine ⟨fun _ => ?_, fun hq2 => absurd (show nI d ≤ nI 40 from nI_le (by omega) (by decide)) hq2⟩
    obtain ⟨i1, i2, i3⟩ := tab_ins hTab hq hcn hg hlo hR hu0
    obtain ⟨z1, z2⟩ := hTab.2.2.2.2.2.1 _ hr hq
    have hTb1 := Tb_in hTb hc z1 z2
    have hsm := sm_lt c n
    have h0 := loop n 0 (oz2 G 11 2 (G 11 2 + nI 1)) (oz2 J 12 (sot lw c) (lN c)) (up lw (sot lw c) c) mo fe (c :: L) none none (by omega) (fun a h1 h2 => by rw [oz2_row h1]) (fun a h1 => by rw [oz2_row h1]) (by rw [oz2_self, hf, nI_add]; rfl) hTb1 i1 (fun z hz => ⟨List.mem_cons_of_mem _ hz, i2 z hz⟩) List.mem_cons_self i3 (fun j hj => absurd hj (Nat.not_lt_zero _))
    have s1 : nI (fo (bz n rl ex c (Bv n rl ex)) (dg c n) 0) = rw_at (nI c) (G 1 1) := by
      rw [e1, rw_at_n (by omega) (by omega)]
      rfl
    rw [s1, ← mx_i2l (show c < 2 ^ 31 by omega)] at h0
    refine ⟨sot lw c, rfl, hr, c, n, rfl, e1, by omega, by omega, fun hq3 => ?_, fun hq3 => ?_⟩
    · have hq3 : ¬ nI (sm c n) = nI 0 := hq3
      rw [nI_eq (by omega) (by decide)] at hq3
      have s2 : fo (fz n rl ex c (Fw n rl ex)) (f0 n c) 0 = 63 := by
        show f0 n c = 63
        unfold f0
        rw [if_neg hq3]
      rw [s2] at h0
      exact h0
    · have hq3 : ¬ ¬ nI (sm c n) = nI 0 := hq3
      have hq3 := Classical.not_not.mp hq3
      rw [nI_eq (by omega) (by decide)] at hq3
      have s2 : fo (fz n rl ex c (Fw n rl ex)) (f0 n c) 0 = 0 := by
        show f0 n c = 0
        unfold f0
        rw [if_pos hq3]
      rw [s2] at h0
      exact h0
