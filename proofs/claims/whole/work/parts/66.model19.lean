/-! the model's public methods: sow, ifSown, ifSownHas -/
theorem MR_fl {G G' : oz_G} {W : Wd} (h : MR G W) (h1 : ∀ i, i ≠ 44 → i ≠ 53 → G' i = G i) (h5 : G' 44 5 = G 44 5) (h7 : G' 44 7 = G 44 7) : MR G' W :=
  MR_now h (RowR_fr (fun k _ => by rw [h1 45 (by decide) (by decide)]) h.1) h5 h7 (fun i hi => h1 i (by omega) (by omega))
def t_X6_sow : oz_T := (P_X6_sow, e_X6, [(152, 1, 2, 0, s_X6_refusal), (60, 1, 1, 0, s_X6_remember), (155, 1, 2, 0, s_X6_moves), (63, 1, 2, 0, s_X6_record)], (true, 58, none, false, 0), (0, fun _ => 0))
def s_X6_sow : oz_S := oz_t1 44 fun x N G R J Φ => ∃ hi sl W, R = rmR hi sl ∧ MR G W ∧ wOk W ∧ pM N G R J Φ (q_sow W x)
theorem I_X6_sow : oz_Imp t_X6_sow 3 s_X6_sow := by
  intro Φ A a N G R J hN hS hC
  obtain ⟨x, rfl, hi, sl, W, rfl, hM, hok, h⟩ := oz_t1_e hS
  obtain ⟨m1, m2, m3, m4, m5, m6, m7, m8⟩ := id hM
  have hn6 := hok.1.2.1
  unfold q_sow at h
  refine hC.1 [12] 60 0 _ _ _ _ _ _ _ ⟨hi, sl, wS W, rfl, hok.1, m1, fun q => ?_, fun q G' g1 g2 g3 => ?_⟩
  · rw [if_pos q] at h
    exact ⟨fun z => absurd z (show ¬ nI 0 ≤ oz_c (-1) by decide), fun _ => pM_0 h hM⟩
  · rw [if_neg (by rw [q]; decide)] at h
    obtain ⟨hx, hlt⟩ := ip_t q (by omega)
    generalize nt x = i at hx hlt h
    clear q
    subst hx
    have hlg := lg_le (n := sN (wS W)) (ex := sEx (wS W)) (c := sC (wS W)) (i := i)
    have hM' := MR_pl hM g2 g3
    by_cases q : lg (sN (wS W)) (sEx (wS W)) (sC (wS W)) i = 0
    · rw [if_pos q]
      rw [if_pos q] at h
      exact ⟨fun z => absurd z (show ¬ nI 0 ≤ oz_c (-5) by decide), fun _ => h G' hM' (fun i hi => g2 i (by omega) (by omega)) (g3 21 (by decide))⟩
    · rw [if_neg q]
      rw [if_neg q] at h
      have b45 := hM'.1
      have bR : RowR (cpo G' 45 0 47 0 215) 45 0 (wS W) := RowR_fr (fun r hr => by rw [cpo_o (by decide)]) b45
      have b47 : RowR (cpo G' 45 0 47 0 215) 47 0 (wS W) := cpo_R (b := 47) (p := 0) hok.1 b45
      refine ⟨fun _ => ?_, fun z => absurd (show nI 0 ≤ nI 0 by decide) z⟩
      refine hC.1 [] 60 12 _ _ _ _ _ _ _ ⟨hi, sl, rfl, hi, sl, wS W, i, rfl, hok.1, bR, rfl, hlt, by omega, fun G2 f r => ?_⟩
      have far : ∀ j, j ≠ 44 → j ≠ 45 → j ≠ 47 → j ≠ 53 → G2 j = G j := fun j h1 h2 h3 h4 => by rw [f.1 j h1 h2 h4, cpo_o h3, g2 j h1 h4]
      have f44 : ∀ k, (k < 13 ∨ 16 < k) → G2 44 k = G 44 k := fun k hk => by rw [f.2 k hk, cpo_o (by decide), g3 k (by omega)]
      refine ⟨hi, sl, wS W, wH W, rfl, hok.1, hok.2.1, hok.2.2.2.2, RowR_fr (fun k hk => by rw [f.1 47 (by decide) (by decide) (by decide)]) b47, by rw [f44 5 (by decide)]; exact m2, HsM_fr (far 46 (by decide) (by decide) (by decide) (by decide)) _ m3, fun G3 r1 r2 r3 r4 => ?_⟩
      exact h G3 (MR_rec hM r (f44 7 (by decide)) (fun i hi => far i (by omega) (by omega) (by omega) (by omega)) r1 r2 r3 r4) (fun i hi => by rw [r1 i (by omega) (by omega)]; exact far i (by omega) (by omega) (by omega) (by omega)) (by rw [r2 21 (by decide)]; exact f44 21 (by decide))
def t_X6_ifSown : oz_T := (P_X6_ifSown, e_X6, [(146, 1, 2, 0, s_X6_isPit), (52, 0, 3, 0, s_X6_inn), (152, 1, 2, 0, s_X6_refusal), (118, 1, 2, 0, s_X6_loses), (94, 1, 2, 0, s_X6_how)], (true, 58, none, false, 0), (0, fun _ => 0))
def s_X6_ifSown : oz_S := oz_t2 44 fun x y N G R J Φ => ∃ hi sl W, R = rmR hi sl ∧ MR G W ∧ wOk W ∧ pM N G R J Φ (q_ifSown W x y)
theorem I_X6_ifSown : oz_Imp t_X6_ifSown 4 s_X6_ifSown := by
  intro Φ A a N G R J hN hS hC
  obtain ⟨x, y, rfl, hi, sl, W, rfl, hM, hok, h⟩ := oz_t2_e hS
  obtain ⟨m1, m2, m3, m4, m5, m6, m7, m8⟩ := id hM
  obtain ⟨u, hu, hg, hK⟩ := hok.1.2.2.2.2.2
  have hn2 := hok.1.1
  have hn6 := hok.1.2.1
  have e3 : G 45 3 = nI (sN (wS W)) := row_g m1 (by decide)
  unfold q_ifSown at h
  have a23 : ip (sN (wS W)) x = true → ¬ (y < nI 0 ∨ nI 4 < y) → A 23 [some (.ref 44), some (.int x), some (.int y), none] [] N G (rmR hi sl) J 0 := fun q q2 => by
    rw [if_neg (by rw [q]; decide), if_neg q2] at h
    refine hC.1 [34] 60 23 _ _ _ _ _ _ _ ⟨hi, sl, wS W, rfl, hok.1, m1, fun z => absurd q (by rw [z]; decide), fun _ G' g1 g2 g3 => ?_⟩
    obtain ⟨hx, hlt⟩ := ip_t q (by omega)
    generalize nt x = i at hx hlt h
    clear q
    subst hx
    have hlg := lg_le (n := sN (wS W)) (ex := sEx (wS W)) (c := sC (wS W)) (i := i)
    have hM' := MR_pl hM g2 g3
    by_cases q : lg (sN (wS W)) (sEx (wS W)) (sC (wS W)) i = 0
    · rw [if_pos q]
      rw [if_pos q] at h
      exact ⟨fun z => absurd z (show ¬ nI 0 ≤ oz_c (-5) by decide), fun _ => h G' hM' (fun i hi => g2 i (by omega) (by omega)) (g3 21 (by decide))⟩
    · rw [if_neg q]
      rw [if_neg q] at h
      refine ⟨fun _ => ?_, fun z => absurd (show nI 0 ≤ nI 0 by decide) z⟩
      obtain ⟨hlo, hd⟩ := lg_e (show lg (sN (wS W)) (sEx (wS W)) (sC (wS W)) i = 1 by omega)
      obtain ⟨d1, d2, d3, d4⟩ := mvc_dg (rl := sRl (wS W)) hg hlo hlt hd
      have g0 : G' 45 0 = nI (sRl (wS W)) := row_g hM'.1 (by decide)
      have g10 : G' 45 10 = nI (dg (sC (wS W)) (sN (wS W))) := row_g hM'.1 (by decide)
      refine hC.1 [] 80 34 _ _ _ _ _ _ _ ⟨hi, sl, sN (wS W), sRl (wS W), sEx (wS W), u, sC (wS W), i, rfl, g1, g0, hok.1.2.2.1, hg, hlo, rfl, hlt, hd, fun G2 f1 f2 f3 f4 f5 => ?_⟩
      have hf := h G2 (MR_fl hM' f1.1 (f1.2 5 (by decide)) (f1.2 7 (by decide))) (fun i hi => by rw [f1.1 i (by omega) (by omega)]; exact g2 i (by omega) (by omega)) (by rw [f1.2 21 (by decide)]; exact g3 21 (by decide))
      have hf : Φ (some (.int (sIf (wS W) i y))) N G2 (rmR hi sl) J := hf
      unfold sIf at hf
      have k3 : G2 45 3 = nI (sN (wS W)) := by rw [f1.1 45 (by decide) (by decide)]; exact g1.1
      refine ⟨fun k => ?_, fun k0 => ⟨fun k => ?_, fun k1 => ⟨fun k => ?_, fun k2 => ⟨fun k => ⟨fun w => ?_, fun w => ?_⟩, fun k3' => ⟨hi, sl, sN (wS W), sEx (wS W), mvc (sN (wS W)) (sRl (wS W)) (sC (wS W)) i, rfl, ⟨k3, by rw [f1.1 45 (by decide) (by decide)]; exact g1.2.1, hn2, hn6, hok.1.2.2.2.1, f2⟩, rfl, ?_⟩⟩⟩⟩⟩
      · rw [if_pos (sw_i (k := 0) (by decide) k), ← f3] at hf
        exact hf
      · rw [if_neg (sw_n (k := 0) (by decide) k0), if_pos (sw_i (k := 1) (by decide) k), ← f4] at hf
        exact hf
      · rw [if_neg (sw_n (k := 0) (by decide) k0), if_neg (sw_n (k := 1) (by decide) k1), if_pos (sw_i (k := 2) (by decide) k)] at hf
        have e : G2 53 (sN (wS W)) - G2 45 10 = nI (sGn (wS W) i) := by
          rw [f2.2.1, d1 _ (Nat.le_refl _), f1.1 45 (by decide) (by decide), g10, pk_sub d2]
          rfl
        rw [← e] at hf
        exact ⟨3, rfl, by decide, sN (wS W), k3, by show sN (wS W) < 7; omega, 10, rfl, by decide, hf⟩
      · rw [if_neg (sw_n (k := 0) (by decide) k0), if_neg (sw_n (k := 1) (by decide) k1), if_neg (sw_n (k := 2) (by decide) k2), if_pos (sw_i (k := 3) (by decide) k), ← f5] at hf
        have w : G2 44 16 = nI 0 := w
        rw [w] at hf
        exact hf
      · rw [if_neg (sw_n (k := 0) (by decide) k0), if_neg (sw_n (k := 1) (by decide) k1), if_neg (sw_n (k := 2) (by decide) k2), if_pos (sw_i (k := 3) (by decide) k)] at hf
        have w : ¬ G2 44 16 = nI 0 := w
        rw [f5] at w
        by_cases z : (mv (sN (wS W)) (sRl (wS W)) (sC (wS W)) i).2.1 = sN (wS W)
        · rw [if_pos z] at w
          exact absurd rfl w
        · rw [if_neg z] at hf
          exact hf
      · rw [if_neg (sw_n (k := 0) (by decide) k0), if_neg (sw_n (k := 1) (by decide) k1), if_neg (sw_n (k := 2) (by decide) k2), if_neg (sw_n (k := 3) (by decide) k3')] at hf
        exact hf
  refine hC.1 [10, 23] 60 0 _ _ _ _ _ _ _ ⟨hi, sl, sN (wS W), rfl, e3, by omega, by omega, fun q => ?_, fun q => ?_⟩
  · have q : ¬ b2 (ip (sN (wS W)) x) = nI 0 := q
    rw [b2_t] at q
    refine hC.1 [23] 40 10 _ _ _ _ _ _ _ ⟨y, rfl, fun q2 => a23 q ?_, fun q2 => ?_⟩
    · have q2 : ¬ b2 (inb y (nI 0) (nI 4)) = nI 0 := q2
      rw [b2_t, inb_t] at q2
      exact q2
    · have q2 : ¬ ¬ b2 (inb y (nI 0) (nI 4)) = nI 0 := q2
      have q2 := Classical.not_not.mp q2
      rw [b2_f, inb_f] at q2
      rw [if_neg (by rw [q]; decide), if_pos q2] at h
      exact pM_0 h hM
  · have q : ¬ ¬ b2 (ip (sN (wS W)) x) = nI 0 := q
    have q := Classical.not_not.mp q
    rw [b2_f] at q
    rw [if_pos q] at h
    exact pM_0 h hM
def t_X6_ifSownHas : oz_T := (P_X6_ifSownHas, e_X6, [(146, 1, 2, 0, s_X6_isPit), (52, 0, 3, 0, s_X6_inn), (152, 1, 2, 0, s_X6_refusal), (118, 1, 2, 0, s_X6_loses)], (true, 58, none, false, 0), (0, fun _ => 0))
def s_X6_ifSownHas : oz_S := oz_t2 44 fun x y N G R J Φ => ∃ hi sl W, R = rmR hi sl ∧ MR G W ∧ wOk W ∧ pM N G R J Φ (q_ifSownHas W x y)
theorem I_X6_ifSownHas : oz_Imp t_X6_ifSownHas 4 s_X6_ifSownHas := by
  intro Φ A a N G R J hN hS hC
  obtain ⟨x, y, rfl, hi, sl, W, rfl, hM, hok, h⟩ := oz_t2_e hS
  obtain ⟨m1, m2, m3, m4, m5, m6, m7, m8⟩ := id hM
  obtain ⟨u, hu, hg, hK⟩ := hok.1.2.2.2.2.2
  have hn2 := hok.1.1
  have hn6 := hok.1.2.1
  have e3 : G 45 3 = nI (sN (wS W)) := row_g m1 (by decide)
  unfold q_ifSownHas at h
  have a23 : (ip (sN (wS W)) x = false ∨ y < nI 0 ∨ nI (sN (wS W)) < y) → A 23 [some (.ref 44), some (.int x), some (.int y), none] [] N G (rmR hi sl) J 0 := fun q => by
    rw [if_pos q] at h
    exact hC.1 [] 20 23 _ _ _ _ _ _ _ (pM_0 h hM)
  have a25 : ¬ (ip (sN (wS W)) x = false ∨ y < nI 0 ∨ nI (sN (wS W)) < y) → A 25 [some (.ref 44), some (.int x), some (.int y), none] [] N G (rmR hi sl) J 0 := fun q0 => by
    rw [if_neg q0] at h
    have q : ip (sN (wS W)) x = true := by
      cases z : ip (sN (wS W)) x
      · exact absurd (Or.inl z) q0
      · rfl
    obtain ⟨hy, -, hyn⟩ := rng (x := y) (a := 0) (b := sN (wS W)) (fun z => q0 (Or.inr (Or.inl z))) (fun z => q0 (Or.inr (Or.inr z))) (by decide) (by omega)
    generalize nt y = j at hy hyn h
    clear q0 a23
    subst hy
    refine hC.1 [36] 60 25 _ _ _ _ _ _ _ ⟨hi, sl, wS W, rfl, hok.1, m1, fun z => absurd q (by rw [z]; decide), fun _ G' g1 g2 g3 => ?_⟩
    obtain ⟨hx, hlt⟩ := ip_t q (by omega)
    generalize nt x = i at hx hlt h
    clear q
    subst hx
    have hlg := lg_le (n := sN (wS W)) (ex := sEx (wS W)) (c := sC (wS W)) (i := i)
    have hM' := MR_pl hM g2 g3
    by_cases q : lg (sN (wS W)) (sEx (wS W)) (sC (wS W)) i = 0
    · rw [if_pos q]
      rw [if_pos q] at h
      exact ⟨fun z => absurd z (show ¬ nI 0 ≤ oz_c (-5) by decide), fun _ => h G' hM' (fun i hi => g2 i (by omega) (by omega)) (g3 21 (by decide))⟩
    · rw [if_neg q]
      rw [if_neg q] at h
      refine ⟨fun _ => ?_, fun z => absurd (show nI 0 ≤ nI 0 by decide) z⟩
      obtain ⟨hlo, hd⟩ := lg_e (show lg (sN (wS W)) (sEx (wS W)) (sC (wS W)) i = 1 by omega)
      have g0 : G' 45 0 = nI (sRl (wS W)) := row_g hM'.1 (by decide)
      refine hC.1 [] 80 36 _ _ _ _ _ _ _ ⟨hi, sl, sN (wS W), sRl (wS W), sEx (wS W), u, sC (wS W), i, rfl, g1, g0, hok.1.2.2.1, hg, hlo, rfl, hlt, hd, fun G2 f1 f2 f3 f4 f5 => ?_⟩
      have hf := h G2 (MR_fl hM' f1.1 (f1.2 5 (by decide)) (f1.2 7 (by decide))) (fun i hi => by rw [f1.1 i (by omega) (by omega)]; exact g2 i (by omega) (by omega)) (by rw [f1.2 21 (by decide)]; exact g3 21 (by decide))
      have hf : Φ (some (.int (nI (dg (mvc (sN (wS W)) (sRl (wS W)) (sC (wS W)) i) j)))) N G2 (rmR hi sl) J := hf
      have e : G2 53 j = nI (dg (mvc (sN (wS W)) (sRl (wS W)) (sC (wS W)) i) j) := by
        by_cases z : j = sN (wS W)
        · rw [z]; exact f2.2.1
        · exact f2.1 j (by omega)
      rw [← e] at hf
      exact ⟨j, rfl, by show j < 7; omega, hf⟩
  refine hC.1 [23, 25] 60 0 _ _ _ _ _ _ _ ⟨hi, sl, sN (wS W), rfl, e3, by omega, by omega, fun q => a23 (Or.inl ?_), fun q => ⟨3, rfl, by decide, y, rfl, fun q2 => a25 ?_, fun q2 => a23 (Or.inr ?_)⟩⟩
  · have q : b2 (ip (sN (wS W)) x) = nI 0 := q
    exact b2_f.mp q
  · have q : ¬ b2 (ip (sN (wS W)) x) = nI 0 := q
    have q2 : ¬ b2 (inb y (nI 0) (G 45 3)) = nI 0 := q2
    rw [b2_t] at q
    rw [b2_t, inb_t, e3] at q2
    exact fun z => z.elim (fun z => by rw [q] at z; cases z) q2
  · have q2 : ¬ ¬ b2 (inb y (nI 0) (G 45 3)) = nI 0 := q2
    have q2 := Classical.not_not.mp q2
    rw [b2_f, inb_f, e3] at q2
    exact q2
