/-! the model's search: what is told of now -/
theorem Hb_st {n rl ex c i : Nat} (h : Hb n rl ex c) (hi : i < n) (hl : lg n ex c i = 1) (ho : lo (mvc n rl c i) = 0) : Hb n rl ex (mvc n rl c i) := fun L h1 h2 => h L h1 (fun x hx => by
  obtain ⟨d, hd⟩ := h2 x hx
  exact ⟨d + 1, Rk_cons hi hl ho d x hd⟩)
theorem Hb_lost {n rl ex c : Nat} (h : lo c = 1) : Hb n rl ex c := fun L h1 h2 => by
  have key : ∀ d x, Rk n rl ex c d x → x = c := by
    intro d
    induction d with
    | zero => intro x hx; exact hx
    | succ d ih =>
      intro x hx
      obtain ⟨y, i, a1, a2, a3, a4, a5⟩ := hx
      have hy := ih y a1
      rw [hy] at a3
      have := (lg_e a3).1
      omega
  have hle := nd_le L [c] h1 (fun x hx => by
    obtain ⟨d, hd⟩ := h2 x hx
    rw [key d x hd]
    exact List.mem_cons_self)
  have : [c].length = 1 := rfl
  omega
theorem Hb_mv {n rl ex c i : Nat} (h : Hb n rl ex c) (hi : i < n) (hl : lg n ex c i = 1) : Hb n rl ex (mvc n rl c i) := by
  have := lo_le (c := mvc n rl c i)
  by_cases q : lo (mvc n rl c i) = 1
  · exact Hb_lost q
  · exact Hb_st h hi hl (by omega)
theorem SrI_fr {G G' : oz_G} (h : SrI G) (h1 : G' 54 = G 54) (h2 : G' 57 = G 57) (h3 : G' 44 21 = G 44 21) : SrI G' := by
  obtain ⟨m, a1, a2, a3, a4⟩ := h
  refine ⟨m, a1, by rw [h3]; exact a2, ?_, ?_⟩
  · rw [h2]; exact a3
  · rw [h1, h2]; exact a4
def t_X6_bestNow : oz_T := (P_X6_bestNow, e_X6, [(91, 1, 1, 0, s_X6_takeNow), (121, 1, 1, 0, s_X6_code), (125, 1, 1, 0, s_X6_all), (128, 1, 3, 0, s_X6_search)], (true, 58, none, false, 0), (0, fun _ => 0))
def s_X6_bestNow : oz_S := oz_t0 44 fun N G R J Φ => ∃ hi sl S, R = rmR hi sl ∧ StOk S ∧ RowR G 45 0 S ∧ sHb S ∧ SrI G ∧ ∀ G' : oz_G, FrS G G' → SrI G' → (lo (sC S) = 0 → G' 44 21 = nI (fnd (sN S) (sRl S) (sEx S) (sC S)) ∧ G' 44 23 = if Fw (sN S) (sRl S) (sEx S) (sC S) = 63 then oz_c (-6) else nI (Fw (sN S) (sRl S) (sEx S) (sC S))) → Φ (some (.int (nI (mf (sN S) (sRl S) (sEx S) (sC S))))) N G' R J
theorem I_X6_bestNow : oz_Imp t_X6_bestNow 1 s_X6_bestNow := by
  intro Φ A a N G R J hN hS hC
  obtain ⟨rfl, hi, sl, S, rfl, hok, hR, hb, hsr, h⟩ := oz_t0_e hS
  obtain ⟨u, hu0, hg, hK⟩ := hok.2.2.2.2.2
  have hlo := lo_le (c := sC S)
  have e0 : G 45 0 = nI (sRl S) := row_g hR (by decide)
  have e1 : G 45 1 = nI (sEx S) := row_g hR (by decide)
  have e3 : G 45 3 = nI (sN S) := row_g hR (by decide)
  have e10 : G 45 10 = nI (dg (sC S) (sN S)) := row_g hR (by decide)
  have e12 : G 45 12 = nI (lo (sC S)) := row_g hR (by decide)
  refine hC.1 [] 120 0 _ _ _ _ _ _ _ ⟨12, rfl, by decide, fun q => ⟨hi, sl, S, rfl, hok, hR, fun G1 p1 p2 p3 => ?_⟩, fun q => ⟨10, rfl, by decide, ?_⟩⟩
  · have q : ¬ G 45 12 = nI 1 := q
    rw [e12, nI_eq (by omega) (by decide)] at q
    have c45 : G1 45 = G 45 := p2 45 (by decide) (by decide)
    have hR1 : RowR G1 45 0 S := RowR_fr (fun k _ => by rw [c45]) hR
    have hs : sm (sC S) (sN S) + dg (sC S) (sN S) = u := hg.1.2
    refine ⟨hi, sl, sN S, sEx S, sC S, rfl, ⟨by rw [c45]; exact e3, by rw [c45]; exact e1, hok.1, hok.2.1, hok.2.2.2.1, p1⟩, hi, sl, S, rfl, hok, hR1, hi, sl, sN S, sRl S, sEx S, u, sC S, rfl, by rw [c45]; exact e3, by rw [c45]; exact e1, by rw [c45]; exact e0, hok.1, hok.2.2.2.1, hok.2.2.1, hg, by omega, hb, SrI_fr hsr (p2 54 (by decide) (by decide)) (p2 57 (by decide) (by decide)) (p3 21 (by decide)), rfl, ?_, fun G2 f1 f2 f3 f4 f5 => ?_⟩
    · congr 1
      omega
    · have hf := h G2 ⟨fun a ha => by rw [f1.1 a ha, p2 a (by omega) (by omega)], fun k hk => by rw [f1.2 k hk, p3 k (by omega)]⟩ f2 (fun _ => ⟨f5, f4⟩)
      have e : mf (sN S) (sRl S) (sEx S) (sC S) = Bv (sN S) (sRl S) (sEx S) (sC S) := if_neg (by omega)
      rw [e, ← f3] at hf
      exact hf
  · have q : ¬ ¬ G 45 12 = nI 1 := q
    have q := Classical.not_not.mp q
    rw [e12, nI_eq (by omega) (by decide)] at q
    have hf := h G ⟨fun _ _ => rfl, fun _ _ => rfl⟩ hsr (fun z => by omega)
    have e : mf (sN S) (sRl S) (sEx S) (sC S) = dg (sC S) (sN S) := if_pos q
    rw [e, ← e10] at hf
    exact hf
def t_X6_worth : oz_T := (P_X6_worth, e_X6, [(91, 1, 1, 0, s_X6_takeNow), (118, 1, 2, 0, s_X6_loses), (121, 1, 1, 0, s_X6_code), (125, 1, 1, 0, s_X6_all), (128, 1, 3, 0, s_X6_search)], (true, 58, none, false, 0), (0, fun _ => 0))
def s_X6_worth : oz_S := oz_t1 44 fun x N G R J Φ => ∃ hi sl S i, R = rmR hi sl ∧ StOk S ∧ RowR G 45 0 S ∧ sHb S ∧ SrI G ∧ x = nI i ∧ i < sN S ∧ lg (sN S) (sEx S) (sC S) i = 1 ∧ ∀ G' : oz_G, FrS G G' → SrI G' → Φ (some (.int (nI (mf (sN S) (sRl S) (sEx S) (mvc (sN S) (sRl S) (sC S) i))))) N G' R J
theorem I_X6_worth : oz_Imp t_X6_worth 3 s_X6_worth := by
  intro Φ A a N G R J hN hS hC
  obtain ⟨x, rfl, hi, sl, S, i, rfl, hok, hR, hb, hsr, rfl, hin, hl, h⟩ := oz_t1_e hS
  obtain ⟨u, hu0, hg, hK⟩ := hok.2.2.2.2.2
  obtain ⟨hlo, hd⟩ := lg_e hl
  have hn6 := hok.2.1
  obtain ⟨m1, m2⟩ := Gd_mv (rl := sRl S) hg hin hd hlo
  have hlm := lo_le (c := mvc (sN S) (sRl S) (sC S) i)
  have e0 : G 45 0 = nI (sRl S) := row_g hR (by decide)
  have e1 : G 45 1 = nI (sEx S) := row_g hR (by decide)
  have e3 : G 45 3 = nI (sN S) := row_g hR (by decide)
  refine hC.1 [] 140 0 _ _ _ _ _ _ _ ⟨hi, sl, S, rfl, hok, hR, fun G1 p1 p2 p3 => ?_⟩
  have c45 : G1 45 = G 45 := p2 45 (by decide) (by decide)
  refine ⟨hi, sl, sN S, sRl S, sEx S, u, sC S, i, rfl, ⟨by rw [c45]; exact e3, by rw [c45]; exact e1, hok.1, hok.2.1, hok.2.2.2.1, p1⟩, by rw [c45]; exact e0, hok.2.2.1, hg, hlo, rfl, hin, hd, fun G2 g1 g2 g3 g4 g5 => ?_⟩
  have d45 : G2 45 = G 45 := by rw [g1.1 45 (by decide) (by decide)]; exact c45
  have fr : FrS G G2 := ⟨fun a ha => by rw [g1.1 a (by omega) (by omega), p2 a (by omega) (by omega)], fun k hk => by rw [g1.2 k (by omega), p3 k (by omega)]⟩
  have sr : SrI G2 := SrI_fr hsr (by rw [g1.1 54 (by decide) (by decide), p2 54 (by decide) (by decide)]) (by rw [g1.1 57 (by decide) (by decide), p2 57 (by decide) (by decide)]) (by rw [g1.2 21 (by decide), p3 21 (by decide)])
  have k3 : G2 45 3 = nI (sN S) := by rw [d45]; exact e3
  refine ⟨fun q => ?_, fun q => ⟨3, rfl, by decide, sN S, k3, by show sN S < 7; omega, ?_⟩⟩
  · have q : nI (lo (mvc (sN S) (sRl S) (sC S) i)) = nI 0 := q
    rw [nI_eq (by omega) (by decide)] at q
    have hR2 : RowR G2 45 0 S := RowR_fr (fun k _ => by rw [d45]) hR
    have hs : sm (sC S) (sN S) + dg (sC S) (sN S) = u := hg.1.2
    refine ⟨hi, sl, sN S, sEx S, mvc (sN S) (sRl S) (sC S) i, rfl, ⟨k3, by rw [d45]; exact e1, hok.1, hok.2.1, hok.2.2.2.1, g2⟩, hi, sl, S, rfl, hok, hR2, hi, sl, sN S, sRl S, sEx S, u, mvc (sN S) (sRl S) (sC S) i, rfl, k3, by rw [d45]; exact e1, by rw [d45]; exact e0, hok.1, hok.2.2.2.1, hok.2.2.1, m1, q, Hb_st hb hin hl q, sr, rfl, ?_, fun G3 f1 f2 f3 f4 f5 => ?_⟩
    · congr 1
      omega
    · have hf := h G3 ⟨fun a ha => by rw [f1.1 a ha]; exact fr.1 a ha, fun k hk => by rw [f1.2 k hk]; exact fr.2 k hk⟩ f2
      have e : mf (sN S) (sRl S) (sEx S) (mvc (sN S) (sRl S) (sC S) i) = Bv (sN S) (sRl S) (sEx S) (mvc (sN S) (sRl S) (sC S) i) := if_neg (by omega)
      rw [e, ← f3] at hf
      exact hf
  · have q : ¬ nI (lo (mvc (sN S) (sRl S) (sC S) i)) = nI 0 := q
    rw [nI_eq (by omega) (by decide)] at q
    have hf := h G2 fr sr
    have e : mf (sN S) (sRl S) (sEx S) (mvc (sN S) (sRl S) (sC S) i) = dg (mvc (sN S) (sRl S) (sC S) i) (sN S) := if_pos (by omega)
    rw [e, ← g2.2.1] at hf
    exact hf
def t_X6_firstMove : oz_T := (P_X6_firstMove, e_X6, [(131, 1, 1, 0, s_X6_bestNow), (91, 1, 1, 0, s_X6_takeNow), (80, 1, 2, 0, s_X6_canSow), (134, 1, 2, 0, s_X6_worth)], (true, 58, none, false, 0), (0, fun _ => 0))
def s_X6_firstMove : oz_S := oz_t0 44 fun N G R J Φ => ∃ hi sl S, R = rmR hi sl ∧ StOk S ∧ RowR G 45 0 S ∧ sHb S ∧ SrI G ∧ ∀ G' : oz_G, FrS G G' → SrI G' → Φ (some (.int (fm (sN S) (sRl S) (sEx S) (sC S)))) N G' R J
theorem FrS_t {G G' G2 : oz_G} (h : FrS G G') (h' : FrS G' G2) : FrS G G2 := ⟨fun a ha => by rw [h'.1 a ha]; exact h.1 a ha, fun k hk => by rw [h'.2 k hk]; exact h.2 k hk⟩
theorem I_X6_firstMove : oz_Imp t_X6_firstMove 3 s_X6_firstMove := by
  intro Φ A a N G R J hN hS hC
  obtain ⟨rfl, hi, sl, S, rfl, hok, hR, hb, hsr, h⟩ := oz_t0_e hS
  obtain ⟨u, hu0, hg, hK⟩ := hok.2.2.2.2.2
  have hn6 := hok.2.1
  have hm14 := mf_le (rl := sRl S) (ex := sEx S) hg
  have hd14 : dg (sC S) (sN S) ≤ 14 := Nat.le_trans (Gd_dg hg (Nat.le_refl _)) hg.2.1
  have e1 : G 45 1 = nI (sEx S) := row_g hR (by decide)
  have e3 : G 45 3 = nI (sN S) := row_g hR (by decide)
  have e10 : G 45 10 = nI (dg (sC S) (sN S)) := row_g hR (by decide)
  have hlo := lo_le (c := sC S)
  have loop : ¬ dg (sC S) (sN S) = mf (sN S) (sRl S) (sEx S) (sC S) → ∀ f i (G2 : oz_G), i + f = sN S → FrS G G2 → SrI G2 → fI (fmo (sN S) (sRl S) (sEx S) (sC S) (mf (sN S) (sRl S) (sEx S) (sC S)) f i) = fm (sN S) (sRl S) (sEx S) (sC S) → A 21 [some (.ref 44), some (.int (nI (mf (sN S) (sRl S) (sEx S) (sC S)))), some (.int (nI i))] [] N G2 (rmR hi sl) J 0 := by
    intro hne f
    have hl0 : lo (sC S) = 0 := by
      by_cases z : lo (sC S) = 1
      · have : mf (sN S) (sRl S) (sEx S) (sC S) = dg (sC S) (sN S) := if_pos z
        omega
      · omega
    induction f with
    | zero =>
      intro i G2 hif f1 f2 f3
      have hi' : i = sN S := by omega
      have g3 : G2 45 3 = nI (sN S) := by rw [f1.1 45 (by decide)]; exact e3
      have hf := h G2 f1 f2
      rw [← f3] at hf
      rw [hi']
      exact hC.1 [] 40 21 _ _ _ _ _ _ _ ⟨3, rfl, by decide, fun _ => hf, fun q => absurd (show G2 45 3 ≤ nI (sN S) by rw [g3]; exact nI_le (Nat.le_refl _) (by omega)) q⟩
    | succ f ih =>
      intro i G2 hif f1 f2 f3
      have hin : i < sN S := by omega
      have c45 : G2 45 = G 45 := f1.1 45 (by decide)
      have g3 : G2 45 3 = nI (sN S) := by rw [c45]; exact e3
      have hlg := lg_le (n := sN S) (ex := sEx S) (c := sC S) (i := i)
      have f3 : fI (if lg (sN S) (sEx S) (sC S) i = 1 ∧ mf (sN S) (sRl S) (sEx S) (mvc (sN S) (sRl S) (sC S) i) = mf (sN S) (sRl S) (sEx S) (sC S) then some i else fmo (sN S) (sRl S) (sEx S) (sC S) (mf (sN S) (sRl S) (sEx S) (sC S)) f (i + 1)) = fm (sN S) (sRl S) (sEx S) (sC S) := f3
      have a54 : ∀ G4 : oz_G, FrS G G4 → SrI G4 → ¬ (lg (sN S) (sEx S) (sC S) i = 1 ∧ mf (sN S) (sRl S) (sEx S) (mvc (sN S) (sRl S) (sC S) i) = mf (sN S) (sRl S) (sEx S) (sC S)) → A 54 [some (.ref 44), some (.int (nI (mf (sN S) (sRl S) (sEx S) (sC S)))), some (.int (nI i))] [] N G4 (rmR hi sl) J 0 := fun G4 w1 w2 w3 => by
        rw [if_neg w3] at f3
        have hih := ih (i + 1) G4 (by omega) w1 w2 f3
        rw [← nI_add i 1] at hih
        exact hC.1 [21] 30 54 _ _ _ _ _ _ _ hih
      refine hC.1 [54] 90 21 _ _ _ _ _ _ _ ⟨3, rfl, by decide, fun q => absurd (show G2 45 3 ≤ nI i from q) (by rw [g3]; exact nI_ge hin (by omega)), fun _ => ⟨hi, sl, S, rfl, hok, RowR_fr (fun k _ => by rw [c45]) hR, fun G3 p1 p2 p3 => ?_⟩⟩
      have d45 : G3 45 = G 45 := by rw [p2 45 (by decide) (by decide)]; exact c45
      have fr3 : FrS G G3 := FrS_t f1 ⟨fun a ha => p2 a (by omega) (by omega), fun k hk => p3 k (by omega)⟩
      have sr3 : SrI G3 := SrI_fr f2 (p2 54 (by decide) (by decide)) (p2 57 (by decide) (by decide)) (p3 21 (by decide))
      refine ⟨hi, sl, sN S, sEx S, sC S, i, rfl, ⟨by rw [d45]; exact e3, by rw [d45]; exact e1, hok.1, hok.2.1, hok.2.2.2.1, p1⟩, hl0, rfl, hin, fun q => ?_, fun q => ?_⟩
      · have q : nI (lg (sN S) (sEx S) (sC S) i) = nI 0 := q
        rw [nI_eq (by omega) (by decide)] at q
        exact a54 G3 fr3 sr3 (fun z => by omega)
      · have q : ¬ nI (lg (sN S) (sEx S) (sC S) i) = nI 0 := q
        rw [nI_eq (by omega) (by decide)] at q
        have hl : lg (sN S) (sEx S) (sC S) i = 1 := by omega
        obtain ⟨m1, m2⟩ := Gd_mv (rl := sRl S) hg hin (lg_e hl).2 hl0
        have hmm := mf_le (rl := sRl S) (ex := sEx S) m1
        refine ⟨hi, sl, S, i, rfl, hok, RowR_fr (fun k _ => by rw [d45]) hR, hb, sr3, rfl, hin, hl, fun G4 w1 w2 => ⟨fun q2 => ?_, fun q2 => ?_⟩⟩
        · have q2 : ¬ nI (mf (sN S) (sRl S) (sEx S) (mvc (sN S) (sRl S) (sC S) i)) = nI (mf (sN S) (sRl S) (sEx S) (sC S)) := q2
          rw [nI_eq (by omega) (by omega)] at q2
          exact a54 G4 (FrS_t fr3 w1) w2 (fun z => q2 z.2)
        · have q2 : ¬ ¬ nI (mf (sN S) (sRl S) (sEx S) (mvc (sN S) (sRl S) (sC S) i)) = nI (mf (sN S) (sRl S) (sEx S) (sC S)) := q2
          have q2 := Classical.not_not.mp q2
          rw [nI_eq (by omega) (by omega)] at q2
          rw [if_pos ⟨hl, q2⟩] at f3
          have hf := h G4 (FrS_t fr3 w1) w2
          rw [← f3] at hf
          exact hf
  refine hC.1 [21] 60 0 _ _ _ _ _ _ _ ⟨hi, sl, S, rfl, hok, hR, hb, hsr, fun G1 f1 f2 _ => ⟨10, rfl, by decide, fun q => ?_, fun q => ?_⟩⟩
  · have k10 : G1 45 10 = nI (dg (sC S) (sN S)) := by rw [f1.1 45 (by decide)]; exact e10
    have q : ¬ nI (mf (sN S) (sRl S) (sEx S) (sC S)) = G1 45 10 := q
    rw [k10, nI_eq (by omega) (by omega)] at q
    exact loop (fun z => q z.symm) (sN S) 0 G1 (by omega) f1 f2 (by unfold fm; rw [if_neg (fun z => q z.symm)])
  · have k10 : G1 45 10 = nI (dg (sC S) (sN S)) := by rw [f1.1 45 (by decide)]; exact e10
    have q : ¬ ¬ nI (mf (sN S) (sRl S) (sEx S) (sC S)) = G1 45 10 := q
    have q := Classical.not_not.mp q
    rw [k10, nI_eq (by omega) (by omega)] at q
    have hf := h G1 f1 f2
    unfold fm at hf
    rw [if_pos q.symm] at hf
    exact hf
