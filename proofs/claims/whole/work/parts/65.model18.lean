/-! the model: a move made -/
theorem mvc_dg {n rl u c i : Nat} (hg : Gd n u c) (hlo : lo c = 0) (hin : i < n) (hd : 0 < dg c i) : (∀ j, j ≤ n → dg (mvc n rl c i) j = dg (mv n rl c i).1 j) ∧ dg c n ≤ dg (mv n rl c i).1 n ∧ (mv n rl c i).2.1 ≤ n ∧ (mv n rl c i).2.2 ≤ 1000 := by
  obtain ⟨b1, b2, b3, b4, b5, b6⟩ := mv_ok (rl := rl) (Gd_Pv hg) hin hd
  have ho := lo_F (Gd_Pv hg).1 b1.1 hg.2.2
  have gm : Gd n u (mv n rl c i).1 := (Gd_mk b1.1 lf_le lo_le hg.2.1 hg.2.2).1
  refine ⟨fun j hj => ?_, b3, b2, b5⟩
  unfold mvc
  by_cases q : (mv n rl c i).2.1 = n
  · rw [if_pos q]
  · rw [if_neg q]
    exact (Gd_aw gm (by rw [ho]; exact hlo)).2.2 j hj
/-- behind a move the row tells the state behind it -/
theorem mo_R {G G5 : oz_G} {n rl ex lv c m : Nat} {k : Kp} {K : List Kp} (hS : RowR G 45 0 (n, rl, ex, lv, c, K)) (f0 : ∀ j, (j < 4 ∨ 15 ≤ j) → j < 15 + 10 * K.length → G5 45 j = G 45 j) (f1 : ∀ j, j < 6 → G5 45 (4 + j) = nI (sd n m j)) (f10 : G5 45 10 = nI (dg m n)) (f11 : G5 45 11 = nI (lf m)) (f12 : G5 45 12 = nI (lo m)) (f13 : G5 45 13 = nI (K.length + 1)) (f14 : G5 45 14 = nI (K.length + 1)) (fk : ∀ r, r < 10 → G5 45 (15 + 10 * K.length + r) = nI (kpV n k r)) : RowR G5 45 0 (n, rl, ex, lv, m, k :: K) := by
  intro j hj
  have hj : j < 15 + 10 * (k :: K).length := hj
  rw [List.length_cons] at hj
  rw [Nat.zero_add]
  have old : j < 15 + 10 * K.length → G 45 j = nI (rowV (n, rl, ex, lv, c, K) j) := fun h => by
    have := hS j h
    rw [Nat.zero_add] at this
    exact this
  by_cases q0 : 15 + 10 * K.length ≤ j
  · obtain ⟨r, rfl⟩ : ∃ r, j = 15 + 10 * K.length + r := ⟨j - (15 + 10 * K.length), by omega⟩
    rw [rowV_k (by omega)]
    exact fk r (by omega)
  by_cases q : 15 ≤ j
  · rw [f0 j (Or.inr q) (by omega), old (by omega), rowV_o (c := m) (k := k) q (by omega)]
  · by_cases q2 : j < 4
    · have q3 : j = 0 ∨ j = 1 ∨ j = 2 ∨ j = 3 := by omega
      rcases q3 with rfl | rfl | rfl | rfl
      · rw [f0 0 (by omega) (by omega), old (by omega)]; rfl
      · rw [f0 1 (by omega) (by omega), old (by omega)]; rfl
      · rw [f0 2 (by omega) (by omega), old (by omega)]; rfl
      · rw [f0 3 (by omega) (by omega), old (by omega)]; rfl
    · by_cases q3 : j < 10
      · obtain ⟨i, rfl⟩ : ∃ i, j = 4 + i := ⟨j - 4, by omega⟩
        rw [f1 i (by omega), rowV_p (by omega)]
        rfl
      · have q4 : j = 10 ∨ j = 11 ∨ j = 12 ∨ j = 13 ∨ j = 14 := by omega
        rcases q4 with rfl | rfl | rfl | rfl | rfl
        · rw [f10]; rfl
        · rw [f11]; rfl
        · rw [f12]; rfl
        · rw [f13]; rfl
        · rw [f14]; rfl
def FrN (G G' : oz_G) : Prop := (∀ a, a ≠ 44 → a ≠ 45 → a ≠ 53 → G' a = G a) ∧ ∀ k, (k < 13 ∨ 16 < k) → G' 44 k = G 44 k
def t_X6_moves : oz_T := (P_X6_moves, e_X6, [(91, 1, 1, 0, s_X6_takeNow), (118, 1, 2, 0, s_X6_loses)], (true, 58, none, false, 0), (0, fun _ => 0))
def s_X6_moves : oz_S := oz_t1 44 fun x N G R J Φ => ∃ hi sl S i, R = rmR hi sl ∧ StOk S ∧ RowR G 45 0 S ∧ x = nI i ∧ i < sN S ∧ lg (sN S) (sEx S) (sC S) i = 1 ∧ ∀ G' : oz_G, FrN G G' → RowR G' 45 0 (sMv S i) → Φ (some (.int (nI (sGn S i)))) N G' R J
theorem I_X6_moves : oz_Imp t_X6_moves 5 s_X6_moves := by
  intro Φ A a N G R J hN hS hC
  obtain ⟨x, rfl, hi, sl, S, i, rfl, hok, hR, rfl, hin, hl, h⟩ := oz_t1_e hS
  have h16 := StOk_20 hok
  obtain ⟨n, rl, ex, lv, c, K⟩ := S
  obtain ⟨hn2, hn6, hrl, hex, hlv, u, hu0, hg, hK⟩ := id hok
  have hn2 : 2 ≤ n := hn2
  have hn6 : n ≤ 6 := hn6
  have hrl : rl ≤ 1 := hrl
  have hex : ex ≤ 1 := hex
  have hg : Gd n u c := hg
  have hin : i < n := hin
  have hl : lg n ex c i = 1 := hl
  have h16 : K.length ≤ 16 := h16
  obtain ⟨hlo, hd⟩ := lg_e hl
  obtain ⟨d1, d2, d3, d4⟩ := mvc_dg (rl := rl) hg hlo hin hd
  have e3 : G 45 3 = nI n := row_g hR (by decide)
  have e0 : G 45 0 = nI rl := row_g hR (by decide)
  have e1 : G 45 1 = nI ex := row_g hR (by decide)
  have e10 : G 45 10 = nI (dg c n) := row_g hR (by decide)
  have e11 : G 45 11 = nI (lf c) := row_g hR (by decide)
  have e13 : G 45 13 = nI K.length := row_g hR (by decide)
  have e14 : G 45 14 = nI K.length := row_g hR (by decide)
  have ep : ∀ k, k < 6 → G 45 (4 + k) = nI (sd n c k) := fun k hk => by rw [row_g hR (show 4 + k < 15 by omega), rowV_p hk]; rfl
  generalize hB : 15 + 10 * K.length = B
  have l2 : ∀ f k (G6 : oz_G), k + f = n → (∀ a, a ≠ 44 → a ≠ 45 → a ≠ 53 → G6 a = G a) → (∀ k, (k < 13 ∨ 16 < k) → G6 44 k = G 44 k) → PlR G6 n (mvc n rl c i) → (∀ j, (j < 4 ∨ j = 10 ∨ 15 ≤ j) → j < B → G6 45 j = G 45 j) → G6 45 13 = nI (K.length + 1) → G6 45 14 = nI (K.length + 1) → (∀ r, r < 10 → G6 45 (B + r) = nI (kpV n (i, (mv n rl c i).2.2, c) r)) → (∀ j, j < 6 → G6 45 (4 + j) = if j < k then nI (sd n (mvc n rl c i) j) else nI (sd n c j)) → A 186 [some (.ref 44), some (.int (nI i)), some (.int (nI B)), some (.int (nI (lo (mvc n rl c i)))), some (.int (nI k))] [] N G6 (rmR hi sl) J 0 := by
    intro f
    induction f with
    | zero =>
      intro k G6 hkf f1 f2 f3 f4 f5 f6 f7 f8
      have hk : k = n := by omega
      subst hk
      have g3 : G6 45 3 = nI k := by rw [f4 3 (by decide) (by omega)]; exact e3
      have g10 : G6 45 10 = nI (dg c k) := by rw [f4 10 (by decide) (by omega)]; exact e10
      have gp : G6 53 k = nI (dg (mvc k rl c i) k) := f3.2.1
      have hlm := lo_le (c := mvc k rl c i)
      have hr : ∀ v, v = nI (lo (mvc k rl c i)) → Φ (some (.int (G6 53 k - G6 45 10))) N (oz2 (oz2 (oz2 G6 45 10 (G6 53 k)) 45 11 (G6 44 13)) 45 12 v) (rmR hi sl) J := fun v hv => by
        have hRow : RowR (oz2 (oz2 (oz2 G6 45 10 (G6 53 k)) 45 11 (G6 44 13)) 45 12 v) 45 0 (k, rl, ex, lv, mvc k rl c i, (i, (mv k rl c i).2.2, c) :: K) := mo_R (n := k) (rl := rl) (ex := ex) (lv := lv) (c := c) (m := mvc k rl c i) (k := (i, (mv k rl c i).2.2, c)) (K := K) hR (fun j hj hj2 => by rw [oz2_ne (by omega), oz2_ne (by omega), oz2_ne (by omega)]; exact f4 j (by omega) (by omega)) (fun j hj => by
          rw [oz2_ne (by omega), oz2_ne (by omega), oz2_ne (by omega), f8 j hj]
          split
          · rfl
          · next z => show nI (sd k c j) = nI (sd k (mvc k rl c i) j); unfold sd; rw [if_neg z, if_neg z]) (by rw [oz2_ne (by decide), oz2_ne (by decide), oz2_self]; exact gp) (by rw [oz2_ne (by decide), oz2_self]; exact f3.2.2) (by rw [oz2_self]; exact hv) (by rw [oz2_ne (by decide), oz2_ne (by decide), oz2_ne (by decide)]; exact f5) (by rw [oz2_ne (by decide), oz2_ne (by decide), oz2_ne (by decide)]; exact f6) (fun r hr => by rw [hB, oz2_ne (by omega), oz2_ne (by omega), oz2_ne (by omega)]; exact f7 r hr)
        have hf := h (oz2 (oz2 (oz2 G6 45 10 (G6 53 k)) 45 11 (G6 44 13)) 45 12 v) ⟨fun a h1 h2 h3 => by rw [oz2_row h2, oz2_row h2, oz2_row h2]; exact f1 a h1 h2 h3, fun j hj => by rw [oz2_row (by decide), oz2_row (by decide), oz2_row (by decide)]; exact f2 j hj⟩ hRow
        have eg : G6 53 k - G6 45 10 = nI (sGn (k, rl, ex, lv, c, K) i) := by
          rw [gp, g10, d1 k (Nat.le_refl _), pk_sub d2]
          rfl
        rw [eg]
        exact hf
      refine hC.1 [] 120 186 _ _ _ _ _ _ _ ⟨3, rfl, by decide, fun _ => ⟨3, rfl, by decide, k, g3, by show k < 7; omega, 10, rfl, by decide, 3, rfl, by decide, k, g3, by show k < 7; omega, 10, rfl, by decide, 11, rfl, by decide, fun z => ?_, fun z => ?_⟩, fun q => absurd (show G6 45 3 ≤ nI k by rw [g3]; exact nI_le (Nat.le_refl _) (by omega)) q⟩
      · have z : nI (lo (mvc k rl c i)) = nI 0 := z
        exact ⟨12, rfl, by decide, hr _ z.symm⟩
      · have z : ¬ nI (lo (mvc k rl c i)) = nI 0 := z
        rw [nI_eq (by omega) (by decide)] at z
        have hr1 := hr (nI 1) (by rw [show lo (mvc k rl c i) = 1 by omega])
        exact ⟨12, rfl, by decide, hr1⟩
    | succ f ih =>
      intro k G6 hkf f1 f2 f3 f4 f5 f6 f7 f8
      have hkn : k < n := by omega
      have g3 : G6 45 3 = nI n := by rw [f4 3 (by decide) (by omega)]; exact e3
      have gp : G6 53 k = nI (sd n (mvc n rl c i) k) := by
        rw [f3.1 k hkn]
        unfold sd
        rw [if_pos hkn]
      have hih := ih (k + 1) (oz2 G6 45 (4 + k) (G6 53 k)) (by omega) (fun a h1 h2 h3 => by rw [oz2_row h2]; exact f1 a h1 h2 h3) (fun j hj => by rw [oz2_row (by decide)]; exact f2 j hj) ⟨fun j hj => by rw [oz2_row (by decide)]; exact f3.1 j hj, by rw [oz2_row (by decide)]; exact f3.2.1, by rw [oz2_row (by decide)]; exact f3.2.2⟩ (fun j hj hj2 => by rw [oz2_ne (by omega)]; exact f4 j hj hj2) (by rw [oz2_ne (by omega)]; exact f5) (by rw [oz2_ne (by omega)]; exact f6) (fun r hr => by rw [oz2_ne (by omega)]; exact f7 r hr) (fun j hj => by
        by_cases z : j = k
        · rw [z, oz2_self, gp, if_pos (by omega)]
        · rw [oz2_ne (by omega), f8 j hj]
          by_cases z2 : j < k
          · rw [if_pos z2, if_pos (by omega)]
          · rw [if_neg z2, if_neg (by omega)])
      rw [← nI_add k 1] at hih
      exact hC.1 [186] 80 186 _ _ _ _ _ _ _ ⟨3, rfl, by decide, fun q => absurd (show G6 45 3 ≤ nI k from q) (by rw [g3]; exact nI_ge hkn (by omega)), fun _ => ⟨k, rfl, by show k < 7; omega, 4 + k, nI_add 4 k, by show 4 + k < 215; omega, hih⟩⟩
  have l1 : ∀ f k (G1 : oz_G), k + f = 6 → (∀ a, a ≠ 45 → G1 a = G a) → (∀ j, (j < B ∨ B + 8 ≤ j) → G1 45 j = G 45 j) → (∀ j, j < k → G1 45 (B + 2 + j) = nI (sd n c j)) → A 70 [some (.ref 44), some (.int (nI i)), some (.int (nI B)), some (.int (nI k)), none] [] N G1 (rmR hi sl) J 0 := by
    intro f
    induction f with
    | zero =>
      intro k G1 hkf f1 f2 f3
      have hk : k = 6 := by omega
      subst hk
      have far : ∀ j, (j < B ∨ B + 10 ≤ j) → oz2 (oz2 (oz2 G1 45 B (nI i)) 45 (B + 8) (G1 45 10)) 45 (B + 9) (G1 45 11) 45 j = G 45 j := fun j hj => by rw [oz2_ne (by omega), oz2_ne (by omega), oz2_ne (by omega)]; exact f2 j (by omega)
      have hR2 : RowR (oz2 (oz2 (oz2 G1 45 B (nI i)) 45 (B + 8) (G1 45 10)) 45 (B + 9) (G1 45 11)) 45 0 (n, rl, ex, lv, c, K) := RowR_fr (fun r hr => by
        have hr : r < 15 + 10 * K.length := hr
        exact far _ (by omega)) hR
      have v10 : oz2 G1 45 B (nI i) 45 10 = G1 45 10 := oz2_ne (by omega)
      have v11 : oz2 (oz2 G1 45 B (nI i)) 45 (B + 8) (G1 45 10) 45 11 = G1 45 11 := by rw [oz2_ne (by omega), oz2_ne (by omega)]
      have key : A 139 [some (.ref 44), some (.int (nI i)), some (.int (nI B)), some (.int (nI 6)), none] [] N (oz2 (oz2 (oz2 G1 45 B (nI i)) 45 (B + 8) (G1 45 10)) 45 (B + 9) (G1 45 11)) (rmR hi sl) J 0 := by
        generalize hG2 : oz2 (oz2 (oz2 G1 45 B (nI i)) 45 (B + 8) (G1 45 10)) 45 (B + 9) (G1 45 11) = G2 at far hR2
        have k0 : G2 45 B = nI i := by rw [← hG2, oz2_ne (by omega), oz2_ne (by omega), oz2_self]
        have k2 : ∀ j, j < 6 → G2 45 (B + 2 + j) = nI (sd n c j) := fun j hj => by rw [← hG2, oz2_ne (by omega), oz2_ne (by omega), oz2_ne (by omega)]; exact f3 j hj
        have k8 : G2 45 (B + 8) = nI (dg c n) := by rw [← hG2, oz2_ne (by omega), oz2_self, f2 10 (by omega)]; exact e10
        have k9 : G2 45 (B + 9) = nI (lf c) := by rw [← hG2, oz2_self, f2 11 (by omega)]; exact e11
        have o2 : ∀ a, a ≠ 45 → G2 a = G a := fun a ha => by rw [← hG2, oz2_row ha, oz2_row ha, oz2_row ha]; exact f1 a ha
        refine hC.1 [186] 140 139 _ _ _ _ _ _ _ ⟨hi, sl, (n, rl, ex, lv, c, K), rfl, hok, hR2, fun G3 p1 p2 p3 => ⟨hi, sl, n, rl, ex, u, c, i, rfl, ⟨by rw [p2 45 (by decide) (by decide), far 3 (by omega)]; exact e3, by rw [p2 45 (by decide) (by decide), far 1 (by omega)]; exact e1, hn2, hn6, hex, p1⟩, by rw [p2 45 (by decide) (by decide), far 0 (by omega)]; exact e0, hrl, hg, hlo, rfl, hin, hd, fun G4 g1 g2 g3 g4 g5 => ?_⟩⟩
        have r45 : G4 45 = G2 45 := by rw [g1.1 45 (by decide) (by decide), p2 45 (by decide) (by decide)]
        have h0 := l2 n 0 (oz2 (oz2 (oz2 G4 45 (B + 1) (nI (mv n rl c i).2.2)) 45 14 (nI (K.length + 1))) 45 13 (nI (K.length + 1))) (by omega) (fun a h1 h2 h3 => by rw [oz2_row h2, oz2_row h2, oz2_row h2, g1.1 a h1 h3, p2 a h1 h3]; exact o2 a h2) (fun j hj => by rw [oz2_row (by decide), oz2_row (by decide), oz2_row (by decide), g1.2 j hj, p3 j (by omega), o2 44 (by decide)]) ⟨fun j hj => by rw [oz2_row (by decide), oz2_row (by decide), oz2_row (by decide)]; exact g2.1 j hj, by rw [oz2_row (by decide), oz2_row (by decide), oz2_row (by decide)]; exact g2.2.1, by rw [oz2_row (by decide), oz2_row (by decide), oz2_row (by decide)]; exact g2.2.2⟩ (fun j hj hj2 => by rw [oz2_ne (by omega), oz2_ne (by omega), oz2_ne (by omega), r45]; exact far j (by omega)) (by rw [oz2_self]) (by rw [oz2_ne (by decide), oz2_self]) (fun r hr => by
          rw [oz2_ne (by omega), oz2_ne (by omega)]
          by_cases z1 : r = 1
          · rw [z1, oz2_self]; rfl
          · rw [oz2_ne (by omega), r45]
            by_cases z0 : r = 0
            · rw [z0]; exact k0
            · by_cases z8 : r = 8
              · rw [z8]; exact k8
              · by_cases z9 : r = 9
                · rw [z9]; exact k9
                · obtain ⟨j, rfl⟩ : ∃ j, r = 2 + j := ⟨r - 2, by omega⟩
                  rw [← Nat.add_assoc, k2 j (by omega)]
                  unfold kpV
                  rw [if_neg z0, if_neg z1, if_pos (by omega), Nat.add_sub_cancel_left]) (fun j hj => by
          rw [if_neg (Nat.not_lt_zero _), oz2_ne (by omega), oz2_ne (by omega), oz2_ne (by omega), r45, far _ (by omega)]
          exact ep j hj)
        have a14 : oz2 G4 45 (B + 1) (nI (mv n rl c i).2.2) 45 14 + nI 1 = nI (K.length + 1) := by
          rw [oz2_ne (by omega), r45, far 14 (by omega), e14, nI_add]
        have a13 : oz2 (oz2 G4 45 (B + 1) (nI (mv n rl c i).2.2)) 45 14 (nI (K.length + 1)) 45 13 + nI 1 = nI (K.length + 1) := by
          rw [oz2_ne (by decide), oz2_ne (by omega), r45, far 13 (by omega), e13, nI_add]
        refine ⟨B + 1, nI_add B 1, by show B + 1 < 215; omega, 14, rfl, by decide, 14, rfl, by decide, 13, rfl, by decide, 13, rfl, by decide, ?_⟩
        show A 186 [some (.ref 44), some (.int (nI i)), some (.int (nI B)), some (.int (nI (lo (mvc n rl c i)))), some (.int (nI 0))] [] N (oz2 (oz2 (oz2 G4 45 (B + 1) (G4 44 15)) 45 14 (oz2 G4 45 (B + 1) (G4 44 15) 45 14 + nI 1)) 45 13 (oz2 (oz2 G4 45 (B + 1) (G4 44 15)) 45 14 (oz2 G4 45 (B + 1) (G4 44 15) 45 14 + nI 1) 45 13 + nI 1)) (rmR hi sl) J 0
        rw [g4, a14, a13]
        exact h0
      refine hC.1 [139] 90 70 _ _ _ _ _ _ _ ⟨fun _ => ⟨B, rfl, by show B < 215; omega, 10, rfl, by decide, B + 8, nI_add B 8, by show B + 8 < 215; omega, 11, rfl, by decide, B + 9, nI_add B 9, by show B + 9 < 215; omega, ?_⟩, fun q => absurd (show nI 6 ≤ nI 6 by decide) q⟩
      show A 139 [some (.ref 44), some (.int (nI i)), some (.int (nI B)), some (.int (nI 6)), none] [] N (oz2 (oz2 (oz2 G1 45 B (nI i)) 45 (B + 8) (oz2 G1 45 B (nI i) 45 10)) 45 (B + 9) (oz2 (oz2 G1 45 B (nI i)) 45 (B + 8) (oz2 G1 45 B (nI i) 45 10) 45 11)) (rmR hi sl) J 0
      rw [v10, v11]
      exact key
    | succ f ih =>
      intro k G1 hkf f1 f2 f3
      have e : G1 45 (4 + k) = nI (sd n c k) := by rw [f2 _ (by omega)]; exact ep k (by omega)
      have hih := ih (k + 1) (oz2 G1 45 (B + 2 + k) (nI (sd n c k))) (by omega) (fun a ha => by rw [oz2_row ha]; exact f1 a ha) (fun j hj => by rw [oz2_ne (by omega)]; exact f2 j hj) (fun j hj => by
        by_cases z : j = k
        · rw [z, oz2_self]
        · rw [oz2_ne (by omega)]; exact f3 j (by omega))
      rw [← e, ← nI_add k 1] at hih
      exact hC.1 [70] 60 70 _ _ _ _ _ _ _ ⟨fun q => absurd (show nI 6 ≤ nI k from q) (nI_ge (by omega) (by decide)), fun _ => ⟨4 + k, nI_add 4 k, by show 4 + k < 215; omega, B + 2 + k, by show nI B + nI 2 + nI k = _; rw [nI_add, nI_add], by show B + 2 + k < 215; omega, hih⟩⟩
  have h0 := l1 6 0 G (by decide) (fun _ _ => rfl) (fun _ _ => rfl) (fun j hj => absurd hj (Nat.not_lt_zero _))
  have eB : nI 15 + nI 10 * G 45 14 = nI B := by rw [e14, pk_mul, nI_add, hB]
  rw [← eB] at h0
  exact hC.1 [70] 60 0 _ _ _ _ _ _ _ ⟨14, rfl, by decide, fun _ => ⟨14, rfl, by decide, h0⟩, fun q => absurd (fun z => by have z : G 45 14 = nI 20 := z; rw [e14, nI_eq (by omega) (by decide)] at z; omega) q⟩
