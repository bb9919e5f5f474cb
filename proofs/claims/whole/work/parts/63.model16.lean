/-! the model's exact positions -/
def rpu (d : Nat) : Nat := (16 ^ d - 1) / 15
def xe (i : Nat) : Nat := (xi 6 (xf i) 0).2
theorem xe_0 : ∀ i, i < 14 → xe i < 6 ∧ dg (xf i - rpu (xe i)) (xe i) = 0 := by decide +kernel
theorem xe_1 : ∀ i, i < 14 → ∀ d, d < 6 → d < xe i → 0 < dg (xf i - rpu d) d ∧ ∀ k, k < 7 → dg (xf i - rpu (d + 1)) k = if k = d then dg (xf i - rpu d) k - 1 else dg (xf i - rpu d) k := by decide +kernel
theorem xe_2 : ∀ i, i < 14 → ∀ k, k < 7 → dg (xf (i + 1)) k = if k = xe i then xe i + 1 else dg (xf i - rpu (xe i)) k := by decide +kernel
theorem xe_3 : ∀ i, i < 14 → fa (xf (i + 1)) 6 = if xe i + 1 ≤ fa (xf i) 6 then fa (xf i) 6 else xe i + 1 := by decide +kernel
theorem xe_4 : ∀ s, s < 15 → ∀ k, k < 6 → fa (xf s) 6 ≤ k → dg (xf s) k = 0 := by decide +kernel
def t_X6_laysExact : oz_T := (P_X6_laysExact, e_X6, [], (true, 58, none, false, 0), (0, fun _ => 0))
def s_X6_laysExact : oz_S := oz_t1 44 fun x N G R J Φ => ∃ hi sl s, R = rmR hi sl ∧ x = nI s ∧ s < 15 ∧ ∀ G' : oz_G, (∀ i, i ≠ 53 → G' i = G i) → (∀ k, k < 7 → G' 53 k = nI (dg (xf s) k)) → Φ (some (.int (nI (fa (xf s) 6)))) N G' R J
theorem I_X6_laysExact : oz_Imp t_X6_laysExact 5 s_X6_laysExact := by
  intro Φ A a N G R J hN hS hC
  obtain ⟨x, rfl, hi, sl, s, rfl, rfl, hs, h⟩ := oz_t1_e hS
  have inner : ∀ i (G0 : oz_G), i < s → (∀ j, j ≠ 53 → G0 j = G j) → (∀ (G2 : oz_G) (v : Option Value), (∀ j, j ≠ 53 → G2 j = G j) → (∀ k, k < 7 → G2 53 k = nI (dg (xf (i + 1)) k)) → A 25 [some (.ref 44), some (.int (nI s)), some (.int (nI (fa (xf (i + 1)) 6))), some (.int (nI (i + 1))), v] [] N G2 (rmR hi sl) J 0) → ∀ f d (G3 : oz_G), d + f = xe i → (∀ j, j ≠ 53 → G3 j = G j) → (∀ k, k < 7 → G3 53 k = nI (dg (xf i - rpu d) k)) → A 33 [some (.ref 44), some (.int (nI s)), some (.int (nI (fa (xf i) 6))), some (.int (nI i)), some (.int (nI d))] [] N G3 (rmR hi sl) J 0 := by
    intro i G0 his _ hnext f
    have hi14 : i < 14 := by omega
    obtain ⟨x0, x1⟩ := xe_0 i hi14
    have x3 := xe_3 i hi14
    have hfa := fa_le (xf i) 6
    induction f with
    | zero =>
      intro d G3 hdf g1 g2
      have hd : d = xe i := by omega
      subst hd
      have e : G3 53 (xe i) = nI 0 := by rw [g2 _ (by omega), x1]
      have hf := hnext (oz2 G3 53 (xe i) (nI (xe i + 1))) (some (.int (nI (xe i)))) (fun j hj => by rw [oz2_row hj]; exact g1 j hj) (fun k hk => by
        rw [xe_2 i hi14 k hk]
        by_cases q : k = xe i
        · rw [if_pos q, q, oz2_self]
        · rw [if_neg q, oz2_ne q]; exact g2 k hk)
      rw [← nI_add i 1, x3, ← nI_add (xe i) 1] at hf
      refine hC.1 [25] 80 33 _ _ _ _ _ _ _ ⟨xe i, rfl, by show xe i < 7; omega, fun _ => ⟨xe i, rfl, by show xe i < 7; omega, fun q => ?_, fun q => ?_⟩, fun q => absurd (show G3 53 (xe i) ≤ nI 0 by rw [e]; decide) q⟩
      · have q : nI (xe i) + nI 1 ≤ nI (fa (xf i) 6) := q
        rw [nI_add, nI_leI (by omega) (by omega)] at q
        rw [if_pos q] at hf
        exact hf
      · have q : ¬ nI (xe i) + nI 1 ≤ nI (fa (xf i) 6) := q
        rw [nI_add, nI_leI (by omega) (by omega)] at q
        rw [if_neg q, ← nI_add (xe i) 1] at hf
        exact hf
    | succ f ih =>
      intro d G3 hdf g1 g2
      obtain ⟨y1, y2⟩ := xe_1 i hi14 d (by omega) (by omega)
      have hd16 := dg_lt (xf i - rpu d) d
      have e : G3 53 d = nI (dg (xf i - rpu d) d) := g2 d (by omega)
      have e1 : G3 53 d - nI 1 = nI (dg (xf i - rpu d) d - 1) := by rw [e, pk_sub (by omega)]
      have hih := ih (d + 1) (oz2 G3 53 d (nI (dg (xf i - rpu d) d - 1))) (by omega) (fun j hj => by rw [oz2_row hj]; exact g1 j hj) (fun k hk => by
        rw [y2 k hk]
        by_cases q : k = d
        · rw [if_pos q, q, oz2_self]
        · rw [if_neg q, oz2_ne q]; exact g2 k hk)
      rw [← nI_add d 1, ← e1] at hih
      refine hC.1 [33] 60 33 _ _ _ _ _ _ _ ⟨d, rfl, by show d < 7; omega, fun q => absurd (show G3 53 d ≤ nI 0 from q) (by rw [e, nI_leI (by omega) (by decide)]; omega), fun _ => ⟨d, rfl, by show d < 7; omega, d, rfl, by show d < 7; omega, hih⟩⟩
  have loop : ∀ f i (G2 : oz_G) (v : Option Value), i + f = s → (∀ j, j ≠ 53 → G2 j = G j) → (∀ k, k < 7 → G2 53 k = nI (dg (xf i) k)) → A 25 [some (.ref 44), some (.int (nI s)), some (.int (nI (fa (xf i) 6))), some (.int (nI i)), v] [] N G2 (rmR hi sl) J 0 := by
    intro f
    induction f with
    | zero =>
      intro i G2 v hif g1 g2
      have hi : i = s := by omega
      subst hi
      have hf := h G2 g1 g2
      exact hC.1 [] 30 25 _ _ _ _ _ _ _ ⟨fun _ => hf, fun q => absurd (show nI i ≤ nI i from nI_le (Nat.le_refl _) (by omega)) q⟩
    | succ f ih =>
      intro i G2 v hif g1 g2
      have h0 := inner i G2 (by omega) g1 (fun G4 w k1 k2 => ih (i + 1) G4 w (by omega) k1 k2) (xe i) 0 G2 (by omega) g1 g2
      exact hC.1 [33] 30 25 _ _ _ _ _ _ _ ⟨fun q => absurd (show nI s ≤ nI i from q) (nI_ge (by omega) (by omega)), fun _ => h0⟩
  have zero : ∀ f k (G1 : oz_G), k + f = 7 → (∀ j, j ≠ 53 → G1 j = G j) → (∀ j, j < k → G1 53 j = nI 0) → A 2 [some (.ref 44), some (.int (nI s)), some (.int (nI k)), none, none] [] N G1 (rmR hi sl) J 0 := by
    intro f
    induction f with
    | zero =>
      intro k G1 hk g1 g2
      have hk : k = 7 := by omega
      subst hk
      have h0 := loop s 0 G1 none (by omega) g1 (fun j hj => by
        rw [g2 j hj, show xf 0 = 0 from rfl, dg_z])
      exact hC.1 [25] 40 2 _ _ _ _ _ _ _ ⟨fun _ => h0, fun q => absurd (show nI 7 ≤ nI 7 by decide) q⟩
    | succ f ih =>
      intro k G1 hk g1 g2
      have hih := ih (k + 1) (oz2 G1 53 k (nI 0)) (by omega) (fun j hj => by rw [oz2_row hj]; exact g1 j hj) (fun j hj => by
        by_cases q : j = k
        · rw [q, oz2_self]
        · rw [oz2_ne q]; exact g2 j (by omega))
      rw [← nI_add k 1] at hih
      exact hC.1 [2] 40 2 _ _ _ _ _ _ _ ⟨fun q => absurd (show nI 7 ≤ nI k from q) (nI_ge (by omega) (by decide)), fun _ => ⟨k, rfl, by show k < 7; omega, hih⟩⟩
  exact hC.1 [2] 30 0 _ _ _ _ _ _ _ (zero 7 0 G (by decide) (fun _ _ => rfl) (fun j hj => absurd hj (Nat.not_lt_zero _)))
def t_X6_exact : oz_T := (P_X6_exact, e_X6, [(52, 0, 3, 0, s_X6_inn), (143, 1, 2, 0, s_X6_laysExact)], (true, 58, none, false, 0), (0, fun _ => 0))
def s_X6_exact : oz_S := oz_t2 44 fun x y N G R J Φ => ∃ hi sl W, R = rmR hi sl ∧ MR G W ∧ wOk W ∧ pM N G R J Φ (q_exact W x y)
theorem I_X6_exact : oz_Imp t_X6_exact 4 s_X6_exact := by
  intro Φ A a N G R J hN hS hC
  obtain ⟨x, y, rfl, hi, sl, W, rfl, hM, hok, h⟩ := oz_t2_e hS
  unfold q_exact at h
  have a22 : ((x < nI 0 ∨ nI 14 < x) ∨ (y < nI 1 ∨ nI 6 < y)) → A 22 [some (.ref 44), some (.int x), some (.int y), none] [] N G (rmR hi sl) J 0 := fun q => by
    rw [if_pos q] at h
    exact hC.1 [] 20 22 _ _ _ _ _ _ _ (pM_0 h hM)
  have a25 : ¬ ((x < nI 0 ∨ nI 14 < x) ∨ (y < nI 1 ∨ nI 6 < y)) → A 25 [some (.ref 44), some (.int x), some (.int y), none] [] N G (rmR hi sl) J 0 := fun q => by
    rw [if_neg q] at h
    obtain ⟨hx, -, hx2⟩ := rng (x := x) (a := 0) (b := 14) (fun z => q (Or.inl (Or.inl z))) (fun z => q (Or.inl (Or.inr z))) (by decide) (by decide)
    obtain ⟨hy, hy1, hy2⟩ := rng (x := y) (a := 1) (b := 6) (fun z => q (Or.inr (Or.inl z))) (fun z => q (Or.inr (Or.inr z))) (by decide) (by decide)
    generalize nt x = s at hx hx2 h
    generalize nt y = d at hy hy1 hy2 h
    clear q a22
    subst hx
    subst hy
    have hfa := fa_le (xf s) 6
    refine hC.1 [] 60 25 _ _ _ _ _ _ _ ⟨hi, sl, s, rfl, rfl, by omega, fun G' g1 g2 => ⟨fun q => ?_, fun q => ?_⟩⟩
    · have q : nI d ≤ nI (fa (xf s) 6) := q
      have hf := h G' (MR_pl hM (fun i _ h2 => g1 i h2) (fun k _ => by rw [g1 44 (by decide)])) (fun i hi => g1 i (by omega)) (by rw [g1 44 (by decide)])
      have hf : Φ (some (.int (nI (dg (xf s) (d - 1))))) N G' (rmR hi sl) J := hf
      rw [← g2 (d - 1) (by omega)] at hf
      exact ⟨d - 1, by show nI d - nI 1 = _; rw [pk_sub (by omega)], by show d - 1 < 7; omega, hf⟩
    · have q : ¬ nI d ≤ nI (fa (xf s) 6) := q
      rw [nI_leI (by omega) (by omega)] at q
      have hf := h G' (MR_pl hM (fun i _ h2 => g1 i h2) (fun k _ => by rw [g1 44 (by decide)])) (fun i hi => g1 i (by omega)) (by rw [g1 44 (by decide)])
      have hf : Φ (some (.int (nI (dg (xf s) (d - 1))))) N G' (rmR hi sl) J := hf
      rw [xe_4 s (by omega) (d - 1) (by omega) (by omega)] at hf
      exact hf
  refine hC.1 [22, 25] 40 0 _ _ _ _ _ _ _ ⟨x, rfl, fun q => a22 (Or.inl ?_), fun q => ⟨y, rfl, fun q2 => a25 ?_, fun q2 => a22 (Or.inr ?_)⟩⟩
  · have q : b2 (inb x (nI 0) (nI 14)) = nI 0 := q
    rw [b2_f, inb_f] at q
    exact q
  · have q : ¬ b2 (inb x (nI 0) (nI 14)) = nI 0 := q
    have q2 : ¬ b2 (inb y (nI 1) (nI 6)) = nI 0 := q2
    rw [b2_t, inb_t] at q q2
    exact fun z => z.elim q q2
  · have q2 : ¬ ¬ b2 (inb y (nI 1) (nI 6)) = nI 0 := q2
    have q2 := Classical.not_not.mp q2
    rw [b2_f, inb_f] at q2
    exact q2
theorem tr_dg (c n : Nat) : ∀ m k, k < m → dg (tr c n m) k = dg c (n - 1 - k)
  | m + 1, k, hk => by
    show dg (tr c n m + dg c (n - 1 - m) * 16 ^ m) k = _
    by_cases q : k = m
    · subst q
      have := dg_mk (a := tr c n k) (d := dg c (n - 1 - k)) (b := 0) (j := k) (tr_lt c n k) (dg_lt _ _)
      rw [Nat.zero_mul, Nat.add_zero] at this
      exact this
    · rw [dg_low (by omega)]
      exact tr_dg c n m k (by omega)
def t_X6_loadExact : oz_T := (P_X6_loadExact, e_X6, [(52, 0, 3, 0, s_X6_inn), (143, 1, 2, 0, s_X6_laysExact), (60, 1, 1, 0, s_X6_remember), (140, 1, 3, 0, s_X6_anew), (63, 1, 2, 0, s_X6_record)], (true, 58, none, false, 0), (0, fun _ => 0))
def s_X6_loadExact : oz_S := oz_t2 44 fun x y N G R J Φ => ∃ hi sl W, R = rmR hi sl ∧ MR G W ∧ wOk W ∧ pM N G R J Φ (q_loadExact W x y)
theorem I_X6_loadExact : oz_Imp t_X6_loadExact 5 s_X6_loadExact := by
  intro Φ A a N G R J hN hS hC
  obtain ⟨x, y, rfl, hi, sl, W, rfl, hM, hok, h⟩ := oz_t2_e hS
  obtain ⟨m1, m2, m3, m4, m5, m6, m7, m8⟩ := id hM
  unfold q_loadExact at h
  have a22 : (rl6 x = false ∨ y < nI 1 ∨ nI 14 < y) → A 22 [some (.ref 44), some (.int x), some (.int y), none, none] [] N G (rmR hi sl) J 0 := fun q => by
    rw [if_pos q] at h
    exact hC.1 [] 20 22 _ _ _ _ _ _ _ (pM_0 h hM)
  have a25 : ¬ (rl6 x = false ∨ y < nI 1 ∨ nI 14 < y) → A 25 [some (.ref 44), some (.int x), some (.int y), none, none] [] N G (rmR hi sl) J 0 := fun q => by
    rw [if_neg q] at h
    have hr : rl6 x = true := by
      cases z : rl6 x
      · exact absurd (Or.inl z) q
      · rfl
    obtain ⟨hx, hx2, hx6⟩ := rl6_t hr
    obtain ⟨hy, hy1, hy7⟩ := rng (x := y) (a := 1) (b := 14) (fun z => q (Or.inr (Or.inl z))) (fun z => q (Or.inr (Or.inr z))) (by decide) (by decide)
    generalize nt x = n at hx hx2 hx6 h
    generalize nt y = s at hy hy1 hy7 h
    clear hr q a22
    subst hx
    subst hy
    have hfa := fa_le (xf s) 6
    refine hC.1 [47] 60 25 _ _ _ _ _ _ _ ⟨hi, sl, s, rfl, rfl, by omega, fun G1 p1 p2 => ⟨fun q => ⟨hi, sl, rfl, hi, sl, n, 0, rfl, rfl, rfl, fun G2 g => ?_⟩, fun q => ?_⟩⟩
    · have q : nI (fa (xf s) 6) ≤ nI n := q
      rw [nI_leI (by omega) (by omega)] at q
      rw [if_neg (by omega)] at h
      obtain ⟨g1, g2, g3, g4, g5, g6, g7, g8, g9⟩ := g
      have htr := tr_lt (xf s) n n
      have c1 : ∀ j, j ≠ 45 → j ≠ 47 → j ≠ 53 → G2 j = G j := fun j h1 h2 h3 => by rw [g1 j h1, cpo_o h2, p1 j h3]
      have e53 : ∀ k, k < 7 → G2 53 k = nI (dg (xf s) k) := fun k hk => by rw [g1 53 (by decide), cpo_o (by decide)]; exact p2 k hk
      have loop : ∀ f i (G3 : oz_G), i + f = n → (∀ j, j ≠ 45 → G3 j = G2 j) → (∀ k, (k < 4 ∨ 10 ≤ k) → G3 45 k = G2 45 k) → (∀ k, k < 6 → G3 45 (4 + k) = if k < i then nI (dg (tr (xf s) n n) k) else nI 0) → A 52 [some (.ref 44), some (.int (nI n)), some (.int (nI s)), some (.int (nI (pw (tr (xf s) n n) i))), some (.int (nI i))] [] N G3 (rmR hi sl) J 0 := by
        intro f
        induction f with
        | zero =>
          intro i G3 hif k1 k2 k3
          have hi : i = n := by omega
          subst hi
          have c : ∀ k, cpo G1 45 0 47 0 215 45 k = G 45 k := fun k => by rw [cpo_o (by decide), p1 45 (by decide)]
          have b45 : RowR G3 45 0 (sNew (wS W) i (tr (xf s) i i)) := an_R m1 hok.1.2.2.2.2.1 (lt28 htr (by omega)) hx6 (fun k hk => by rw [k2 k (by omega), g2 k hk, c]) (by rw [k2 3 (by omega)]; exact g3) (by rw [k2 10 (by omega), g4, dg_top htr]) (by rw [k2 11 (by omega), g5, c]) (by rw [k2 12 (by omega)]; exact g6) (by rw [k2 13 (by omega)]; exact g7) (by rw [k2 14 (by omega)]; exact g8) (fun k hk => by
            rw [k3 k hk]
            unfold sd
            by_cases z : k < i
            · rw [if_pos z, if_pos z]
            · rw [if_neg z, if_neg z])
          have far : ∀ j, j ≠ 45 → j ≠ 47 → j ≠ 53 → G3 j = G j := fun j h1 h2 h3 => by rw [k1 j h1, c1 j h1 h2 h3]
          have b1 : RowR G1 45 0 (wS W) := RowR_fr (fun r hr => by rw [p1 45 (by decide)]) m1
          have b47 : RowR G3 47 0 (wS W) := RowR_fr (fun r hr => by rw [k1 47 (by decide), g1 47 (by decide)]) (cpo_R (b := 47) (p := 0) hok.1 b1)
          refine hC.1 [] 60 52 _ _ _ _ _ _ _ ⟨fun _ => ⟨hi, sl, wS W, wH W, rfl, hok.1, hok.2.1, hok.2.2.2.2, b47, by rw [far 44 (by decide) (by decide) (by decide)]; exact m2, HsM_fr (far 46 (by decide) (by decide) (by decide)) _ m3, fun G' r1 r2 r3 r4 => ?_⟩, fun q => absurd (show nI i ≤ nI i from nI_le (Nat.le_refl _) (by omega)) q⟩
          exact h G' (MR_rec hM b45 (by rw [far 44 (by decide) (by decide) (by decide)]) (fun i hi => far i (by omega) (by omega) (by omega)) r1 r2 r3 r4) (fun i hi => by rw [r1 i (by omega) (by omega)]; exact far i (by omega) (by omega) (by omega)) (by rw [r2 21 (by decide), far 44 (by decide) (by decide) (by decide)])
        | succ f ih =>
          intro i G3 hif k1 k2 k3
          have hin : i < n := by omega
          have et : dg (xf s) (n - 1 - i) = dg (tr (xf s) n n) i := (tr_dg (xf s) n n i hin).symm
          have hd := dg_lt (tr (xf s) n n) i
          have ev : G3 53 (n - 1 - i) = nI (dg (tr (xf s) n n) i) := by rw [k1 53 (by decide), e53 _ (by omega), et]
          have hih := ih (i + 1) (oz2 G3 45 (4 + i) (nI (dg (tr (xf s) n n) i))) (by omega) (fun j hj => by rw [oz2_row hj]; exact k1 j hj) (fun k hk => by rw [oz2_ne (by omega)]; exact k2 k hk) (fun k hk => by
            by_cases z : k = i
            · rw [z, oz2_self, if_pos (by omega)]
            · rw [oz2_ne (by omega), k3 k hk]
              by_cases z2 : k < i
              · rw [if_pos z2, if_pos (by omega)]
              · rw [if_neg z2, if_neg (by omega)])
          have ep : pw (tr (xf s) n n) (i + 1) = pw (tr (xf s) n n) i + (if 0 < dg (tr (xf s) n n) i then 1 else 0) := rfl
          rw [ep, ← nI_add i 1, ← nI_add (pw (tr (xf s) n n) i) _, ← ev] at hih
          refine hC.1 [52] 80 52 _ _ _ _ _ _ _ ⟨fun q => absurd (show nI n ≤ nI i from q) (nI_ge hin (by omega)), fun _ => ⟨n - 1 - i, by show nI n - nI 1 - nI i = _; rw [pk_sub (by omega), pk_sub (by omega)], by show n - 1 - i < 7; omega, 4 + i, nI_add 4 i, by show 4 + i < 215; omega, 4 + i, nI_add 4 i, by show 4 + i < 215; omega, fun q => ?_, fun q => ?_⟩⟩
          · have q : oz2 G3 45 (4 + i) (G3 53 (n - 1 - i)) 45 (4 + i) ≤ nI 0 := q
            rw [oz2_self, ev, nI_leI (by omega) (by decide)] at q
            rw [if_neg (by omega)] at hih
            exact hih
          · have q : ¬ oz2 G3 45 (4 + i) (G3 53 (n - 1 - i)) 45 (4 + i) ≤ nI 0 := q
            rw [oz2_self, ev, nI_leI (by omega) (by decide)] at q
            rw [if_pos (by omega)] at hih
            exact hih
      have h0 := loop n 0 G2 (by omega) (fun _ _ => rfl) (fun _ _ => rfl) (fun k hk => by rw [g9 k hk, if_neg (Nat.not_lt_zero _)])
      exact hC.1 [52] 30 47 _ _ _ _ _ _ _ h0
    · have q : ¬ nI (fa (xf s) 6) ≤ nI n := q
      rw [nI_leI (by omega) (by omega)] at q
      rw [if_pos (by omega)] at h
      exact h G1 (MR_pl hM (fun i _ h2 => p1 i h2) (fun k _ => by rw [p1 44 (by decide)])) (fun i hi => p1 i (by omega)) (by rw [p1 44 (by decide)])
  refine hC.1 [22, 25] 40 0 _ _ _ _ _ _ _ ⟨x, rfl, fun q => a22 (Or.inl ?_), fun q => ⟨y, rfl, fun q2 => a25 ?_, fun q2 => a22 (Or.inr ?_)⟩⟩
  · have q : b2 (inb x (nI 2) (nI 6)) = nI 0 := q
    exact b2_f.mp q
  · have q : ¬ b2 (inb x (nI 2) (nI 6)) = nI 0 := q
    have q2 : ¬ b2 (inb y (nI 1) (nI 14)) = nI 0 := q2
    rw [b2_t] at q
    rw [b2_t, inb_t] at q2
    have q : rl6 x = true := q
    exact fun z => z.elim (fun z => by rw [q] at z; cases z) q2
  · have q2 : ¬ ¬ b2 (inb y (nI 1) (nI 14)) = nI 0 := q2
    have q2 := Classical.not_not.mp q2
    rw [b2_f, inb_f] at q2
    exact q2
