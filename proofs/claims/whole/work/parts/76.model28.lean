/-! the model's search: the method, continued -/
theorem mx_mx {a b : Nat} (ha : a < 2 ^ 31) (hb : b < 2 ^ 31) : (nI b ≤ nI a → nI a = nI (Nat.max a b)) ∧ (¬ nI b ≤ nI a → nI b = nI (Nat.max a b)) := by
  rw [nI_leI hb ha]
  refine ⟨fun q => ?_, fun q => ?_⟩
  · rw [show Nat.max a b = a from Nat.max_eq_left q]
  · rw [show Nat.max a b = b from Nat.max_eq_right (by omega)]
def t_X6_search : oz_T := (P_X6_search, e_X6, [(111, 1, 3, 0, s_X6_meet), (115, 1, 3, 0, s_X6_open), (84, 1, 1, 0, s_X6_isEmpty), (80, 1, 2, 0, s_X6_canSow), (118, 1, 2, 0, s_X6_loses), (121, 1, 1, 0, s_X6_code)], (true, 58, none, false, 0), (0, fun _ => 0))
def s_X6_search : oz_S := oz_t2 44 fun x y N G R J Φ => ∃ hi sl n rl ex u c, R = rmR hi sl ∧ G 45 3 = nI n ∧ G 45 1 = nI ex ∧ G 45 0 = nI rl ∧ 2 ≤ n ∧ ex ≤ 1 ∧ rl ≤ 1 ∧ Gd n u c ∧ lo c = 0 ∧ Hb n rl ex c ∧ SrI G ∧ x = nI (mco n c) ∧ y = nI u ∧ ∀ G' : oz_G, FrS G G' → SrI G' → G' 44 22 = nI (Bv n rl ex c) → G' 44 23 = (if Fw n rl ex c = 63 then oz_c (-6) else nI (Fw n rl ex c)) → G' 44 21 = nI (fnd n rl ex c) → Φ none N G' R J
theorem I_X6_search : oz_Imp t_X6_search 5 s_X6_search := by
  intro Φ A a N G R J hN hS hC
  obtain ⟨x, y, rfl, hi, sl, n, rl, ex, u, c, rfl, e3, e1, e0, hn2, hex, hrl, hg, h0, hb, ⟨m, hm, s1, s2, s3⟩, rfl, rfl, h⟩ := oz_t2_e hS
  have hn6 := hg.2.2
  have hu := hg.2.1
  have hB14 : Bv n rl ex c ≤ 14 := bs_le 16 c hg
  have hp16 := pot16 hg
  have c45 : ∀ G2 : oz_G, FrS G G2 → G2 45 = G 45 := fun G2 f => f.1 45 (by decide)
  -- one position
  have outer : ∀ f d (G2 : oz_G) (L : List Nat) (D t : Nat → Nat) (B : Nat) (F : Option Nat) (v : Option Value), d + f = 4096 → d ≤ L.length → SI G G2 n rl ex u c L D t B F d d 0 → A 52 [some (.ref 44), some (.int (nI (mco n c))), some (.int (nI u)), some (.int (nI d)), v] [] N G2 (rmR hi sl) J 0 := by
    intro f
    induction f with
    | zero =>
      intro d G2 L D t B F v hdf hdl hs
      have := BI_len hs.2.2.1 hb
      omega
    | succ f ih =>
      intro d G2 L D t B F v hdf hdl hs
      obtain ⟨z1, z2, z3, z4, z5, z6, z7⟩ := id hs
      have hlen := BI_len z3 hb
      by_cases hd : d = L.length
      · subst hd
        have hmet : fnd n rl ex c = L.length := fnd_eq h0 z3.1 (BI_all z3)
        have hf := h G2 z1 (QR_S z2 (by omega)) (by rw [z6, BM_end z3 z4]) (by rw [z7]; exact FM_end z3 hg h0 z5.1 z5.2) (by rw [hmet]; exact z2.1)
        exact hC.1 [] 40 52 _ _ _ _ _ _ _ ⟨fun _ => hf, fun q => absurd (show G2 44 21 ≤ nI L.length by rw [z2.1]; exact nI_le (Nat.le_refl _) (by omega)) q⟩
      have hd : d < L.length := by omega
      obtain ⟨g1, g2, g3⟩ := z3.2.1 d hd
      obtain ⟨-, -, r3⟩ := Rk_ok hg h0 _ _ g3
      -- its pits
      have inner : ∀ g k (G5 : oz_G) (L' : List Nat) (D' t' : Nat → Nat) (B' : Nat) (F' : Option Nat), k + g = n → d < L'.length → SI G G5 n rl ex u c L' D' t' B' F' (d + 1) d k → A 147 [some (.ref 44), some (.int (nI (mco n c))), some (.int (nI u)), some (.int (nI d)), some (.int (nI k))] [] N G5 (rmR hi sl) J 0 := by
        intro g
        induction g with
        | zero =>
          intro k G5 L' D' t' B' F' hkg hd' hs'
          have hk : k = n := by omega
          subst hk
          obtain ⟨y1, y2, y3, y4, y5, y6, y7⟩ := id hs'
          have g3' : G5 45 3 = nI k := by rw [c45 G5 y1]; exact e3
          have hnext := ih (d + 1) G5 L' D' t' B' F' (some (.int (nI k))) (by omega) (by omega) ⟨y1, y2, BI_next y3 hd', BM_next y4, y5, y6, y7⟩
          rw [← nI_add d 1] at hnext
          exact hC.1 [52] 60 147 _ _ _ _ _ _ _ ⟨3, rfl, by decide, fun _ => hnext, fun q => absurd (show G5 45 3 ≤ nI k by rw [g3']; exact nI_le (Nat.le_refl _) (by omega)) q⟩
        | succ g ihg =>
          intro k G5 L' D' t' B' F' hkg hd' hs'
          have hkn : k < n := by omega
          obtain ⟨y1, y2, y3, y4, y5, y6, y7⟩ := id hs'
          have hlen' := BI_len y3 hb
          obtain ⟨x1, x2, x3⟩ := y3.2.1 d hd'
          obtain ⟨-, -, x4⟩ := Rk_ok hg h0 _ _ x3
          generalize hx : L'.getD d 0 = x at x1 x2 x3 x4
          have g3' : G5 45 3 = nI n := by rw [c45 G5 y1]; exact e3
          have q55 : G5 55 d = nI (mco n x) := by rw [← hx]; exact (y2.2.1 d hd').1
          have hB' : B' ≤ 14 := Nat.le_trans y4.2.2 hB14
          have go : ∀ (G9 : oz_G) (L9 : List Nat) (D9 t9 : Nat → Nat) (B9 : Nat) (F9 : Option Nat), d < L9.length → SI G G9 n rl ex u c L9 D9 t9 B9 F9 (d + 1) d (k + 1) → A 249 [some (.ref 44), some (.int (nI (mco n c))), some (.int (nI u)), some (.int (nI d)), some (.int (nI k))] [] N G9 (rmR hi sl) J 0 := fun G9 L9 D9 t9 B9 F9 w1 w2 => by
            have hh := ihg (k + 1) G9 L9 D9 t9 B9 F9 (by omega) w1 w2
            rw [← nI_add k 1] at hh
            exact hC.1 [147] 30 249 _ _ _ _ _ _ _ hh
          refine hC.1 [181, 249] 90 147 _ _ _ _ _ _ _ ⟨3, rfl, by decide, fun q => absurd (show G5 45 3 ≤ nI k from q) (by rw [g3']; exact nI_ge hkn (by omega)), fun _ => ⟨d, rfl, by show d < 80000; omega, hi, sl, n, u, x, rfl, g3', x1, q55, rfl, fun G6 f1 f2 f3 => ?_⟩⟩
          have hs6 : SI G G6 n rl ex u c L' D' t' B' F' (d + 1) d k := SI_pl hs' f1 (fun j hj => f2 j (by omega))
          have r6 : G6 45 = G 45 := c45 G6 hs6.1
          have hps : PsR G6 n ex x := ⟨by rw [r6]; exact e3, by rw [r6]; exact e1, hn2, hn6, hex, f3⟩
          have hlg := lg_le (n := n) (ex := ex) (c := x) (i := k)
          have a181 : lg n ex x k = 1 → A 181 [some (.ref 44), some (.int (nI (mco n c))), some (.int (nI u)), some (.int (nI d)), some (.int (nI k))] [] N G6 (rmR hi sl) J 0 := fun hl => by
            obtain ⟨-, hdp⟩ := lg_e hl
            obtain ⟨m1, m2⟩ := Gd_mv (rl := rl) x1 hkn hdp x2
            have hlm := lo_le (c := mvc n rl x k)
            refine hC.1 [249] 140 181 _ _ _ _ _ _ _ ⟨hi, sl, n, rl, ex, u, x, k, rfl, hps, by rw [r6]; exact e0, hrl, x1, x2, rfl, hkn, hdp, fun G7 p1 p2 p3 p4 p5 => ⟨fun q => ?_, fun q => ?_⟩⟩
            · have q : nI (lo (mvc n rl x k)) = nI 0 := q
              rw [nI_eq (by omega) (by decide)] at q
              have hs7 := SI_pl hs6 p1.1 p1.2
              obtain ⟨w1, w2, w3, w4, w5, w6, w7⟩ := id hs7
              have r7 : G7 45 = G 45 := c45 G7 w1
              have e56 : G7 56 d = nI (D' d) := (w2.2.1 d hd').2.1
              have b2 := w3.2.1
              refine ⟨hi, sl, n, ex, mvc n rl x k, rfl, ⟨by rw [r7]; exact e3, by rw [r7]; exact e1, hn2, hn6, hex, p2⟩, d, rfl, by show d < 80000; omega, hi, sl, n, u, L', D', t', mvc n rl x k, D' d + 1, rfl, w2, by omega, fun z hz => ⟨(BI_mem w3 hz).1, (BI_mem w3 hz).2.1⟩, m1, q, rfl, by rw [← nI_add (D' d) 1, ← e56]; rfl, fun hin => ?_, fun hnin G8 t8 n1 n2 => ?_⟩
              · refine go G7 L' D' t' B' F' hd' ⟨w1, w2, BI_old w3 hd' (by rw [hx]; exact hin), BM_skip w4 (fun z => ?_), w5, w6, w7⟩
                rw [hx] at z
                omega
              · have hI := BI_new w3 hd' hkn (by rw [hx]; exact hl) (by rw [hx]; exact q) (by rw [hx]; exact hnin)
                rw [hx] at hI
                have len : (L' ++ [mvc n rl x k]).length = L'.length + 1 := by rw [List.length_append]; rfl
                refine go G8 (L' ++ [mvc n rl x k]) (up D' L'.length (D' d + 1)) t8 B' F' (by omega) ⟨⟨fun a ha => by rw [n1.1 a (by omega)]; exact w1.1 a ha, fun j hj => by rw [n1.2 j (by omega)]; exact w1.2 j hj⟩, n2, hI, BM_skip (BM_app w4 (by omega) hd') (fun z => ?_), FO_app w5 (by omega), by rw [n1.2 22 (by decide)]; exact w6, by rw [n1.2 23 (by decide)]; exact w7⟩
                rw [getD_l hd', hx] at z
                omega
            · have q : ¬ nI (lo (mvc n rl x k)) = nI 0 := q
              rw [nI_eq (by omega) (by decide)] at q
              have hs7 := SI_pl hs6 p1.1 p1.2
              obtain ⟨w1, w2, w3, w4, w5, w6, w7⟩ := id hs7
              have r7 : G7 45 = G 45 := c45 G7 w1
              have k3 : G7 45 3 = nI n := by rw [r7]; exact e3
              have hst : dg (mvc n rl x k) n ≤ Bv n rl ex c := by
                have hst := Bv_st (rl := rl) x1 hkn hl
                rw [if_pos (by omega)] at hst
                exact Nat.le_trans hst (Bv_path hg h0 _ _ x3)
              have hbl := BM_lose w4 (by rw [hx]; exact hst)
              rw [hx] at hbl
              have fin : ∀ v, v = nI (Nat.max B' (dg (mvc n rl x k) n)) → A 249 [some (.ref 44), some (.int (nI (mco n c))), some (.int (nI u)), some (.int (nI d)), some (.int (nI k))] [] N (oz2 G7 44 22 v) (rmR hi sl) J 0 := fun v hv => by
                refine go _ L' D' t' _ F' hd' ⟨FrS_i w1 (by decide), QR_fr w2 (fun a a1 a2 => oz2_row (by omega)) (oz2_ne (by decide)), BI_skip w3 (fun z => ?_), hbl, w5, by rw [oz2_self]; exact hv, by rw [oz2_ne (by decide)]; exact w7⟩
                rw [hx] at z
                omega
              obtain ⟨mx1, mx2⟩ := mx_mx (a := B') (b := dg (mvc n rl x k) n) (by omega) (by omega)
              refine ⟨3, rfl, by decide, n, k3, by show n < 7; omega, fun q2 => ?_, fun q2 => ⟨3, rfl, by decide, n, k3, by show n < 7; omega, ?_⟩⟩
              · have q2 : G7 53 n ≤ G7 44 22 := q2
                rw [p2.2.1, w6] at q2
                exact fin _ (by rw [w6]; exact mx1 q2)
              · have q2 : ¬ G7 53 n ≤ G7 44 22 := q2
                rw [p2.2.1, w6] at q2
                exact fin _ (by rw [p2.2.1]; exact mx2 q2)
          refine ⟨hi, sl, n, ex, x, k, rfl, hps, x2, rfl, hkn, fun q => ?_, fun q => ?_⟩
          · have q : ¬ nI (lg n ex x k) = nI 0 := q
            rw [nI_eq (by omega) (by decide)] at q
            exact a181 (by omega)
          · have q : ¬ ¬ nI (lg n ex x k) = nI 0 := q
            have q := Classical.not_not.mp q
            rw [nI_eq (by omega) (by decide)] at q
            obtain ⟨w1, w2, w3, w4, w5, w6, w7⟩ := id hs6
            exact go G6 L' D' t' B' F' hd' ⟨w1, w2, BI_skip w3 (fun z => by rw [hx] at z; omega), BM_skip w4 (fun z => by rw [hx] at z; omega), w5, w6, w7⟩
      generalize hx : L.getD d 0 = x at g1 g2 g3 r3
      have g3' : G2 45 3 = nI n := by rw [c45 G2 z1]; exact e3
      have q55 : G2 55 d = nI (mco n x) := by rw [← hx]; exact (z2.2.1 d hd).1
      have hB : B ≤ 14 := Nat.le_trans z4.2.2 hB14
      refine hC.1 [111] 120 52 _ _ _ _ _ _ _ ⟨fun q => absurd (show G2 44 21 ≤ nI d from q) (by rw [z2.1]; exact nI_ge hd (by omega)), fun _ => ⟨d, rfl, by show d < 80000; omega, hi, sl, n, u, x, rfl, g3', g1, q55, rfl, fun G3 f1 f2 f3 => ?_⟩⟩
      have hs3 := SI_pl hs f1 (fun j hj => f2 j (by omega))
      obtain ⟨w1, w2, w3, w4, w5, w6, w7⟩ := id hs3
      have r3' : G3 45 = G 45 := c45 G3 w1
      have k3 : G3 45 3 = nI n := by rw [r3']; exact e3
      have hst : dg x n ≤ Bv n rl ex c := Nat.le_trans (Bv_own g1) (Bv_path hg h0 _ _ g3)
      have hbo := BM_own w4 (by rw [hx]; exact hst)
      rw [hx] at hbo
      have hdg14 := Nat.le_trans (Gd_dg g1 (Nat.le_refl n)) hu
      have a144 : ∀ (G5 : oz_G) (F5 : Option Nat), SI G G5 n rl ex u c L D t (Nat.max B (dg x n)) F5 (d + 1) d 0 → A 144 [some (.ref 44), some (.int (nI (mco n c))), some (.int (nI u)), some (.int (nI d)), v] [] N G5 (rmR hi sl) J 0 := fun G5 F5 w => hC.1 [147] 30 144 _ _ _ _ _ _ _ (inner n 0 G5 L D t _ F5 (by omega) hd w)
      have a111 : ∀ w, w = nI (Nat.max B (dg x n)) → A 111 [some (.ref 44), some (.int (nI (mco n c))), some (.int (nI u)), some (.int (nI d)), v] [] N (oz2 G3 44 22 w) (rmR hi sl) J 0 := fun w hw => by
        have k23 : oz2 G3 44 22 w 44 23 = fI F := by rw [oz2_ne (by decide)]; exact w7
        have k56 : oz2 G3 44 22 w 56 d = nI (D d) := by rw [oz2_row (by decide)]; exact (w2.2.1 d hd).2.1
        have fr4 : FrS G (oz2 G3 44 22 w) := FrS_i w1 (by decide)
        have q4 : QR (oz2 G3 44 22 w) n L D t := QR_fr w2 (fun a a1 a2 => oz2_row (by omega)) (oz2_ne (by decide))
        refine hC.1 [144] 90 111 _ _ _ _ _ _ _ ⟨hi, sl, n, ex, x, rfl, ⟨by rw [oz2_row (by decide)]; exact k3, by rw [oz2_row (by decide), r3']; exact e1, hn2, hn6, hex, fun j hj => by rw [oz2_row (by decide)]; exact f3.1 j hj, by rw [oz2_row (by decide)]; exact f3.2.1, by rw [oz2_ne (by decide)]; exact f3.2.2⟩, fun q => ?_, fun q => ⟨fun q2 => ?_, fun q2 => ⟨d, rfl, by show d < 80000; omega, ?_⟩⟩⟩
        · have q : b2 (decide (sm x n = 0)) = nI 0 := q
          rw [b2_f, decide_eq_false_iff_not] at q
          exact a144 _ F ⟨fr4, q4, w3, hbo, FO_skip w5 (by rw [hx]; exact q), by rw [oz2_self]; exact hw, k23⟩
        · have q : ¬ b2 (decide (sm x n = 0)) = nI 0 := q
          rw [b2_t, decide_eq_true_eq] at q
          have q2 : ¬ oz2 G3 44 22 w 44 23 = oz_c (-6) := q2
          rw [k23] at q2
          cases hF : F with
          | none => rw [hF] at q2; exact absurd rfl q2
          | some m' =>
            rw [hF] at w5 k23
            exact a144 _ (some m') ⟨FrS_i fr4 (by decide), QR_fr q4 (fun a a1 a2 => oz2_row (by omega)) (oz2_ne (by decide)), w3, hbo, FO_more w5 (fun i hi => w3.2.2.2.1 i d (by omega) hd), by rw [oz2_ne (by decide), oz2_self]; exact hw, by rw [oz2_self]; exact k23⟩
        · have q : ¬ b2 (decide (sm x n = 0)) = nI 0 := q
          rw [b2_t, decide_eq_true_eq] at q
          have q2 : ¬ ¬ oz2 G3 44 22 w 44 23 = oz_c (-6) := q2
          have q2 := Classical.not_not.mp q2
          rw [k23] at q2
          cases hF : F with
          | none =>
            rw [hF] at w5
            exact a144 _ (some (D d)) ⟨FrS_i fr4 (by decide), QR_fr q4 (fun a a1 a2 => oz2_row (by omega)) (oz2_ne (by decide)), w3, hbo, FO_first w5 (by rw [hx]; exact q), by rw [oz2_ne (by decide), oz2_self]; exact hw, by rw [oz2_self]; exact k56⟩
          | some m' =>
            rw [hF] at q2 w5
            obtain ⟨i, b1, b2, -⟩ := w5.1.2 m' rfl
            obtain ⟨-, -, b3⟩ := w3.2.1 i (by omega)
            obtain ⟨-, -, b4⟩ := Rk_ok hg h0 _ _ b3
            exact absurd q2 (nI_n6 (by omega))
      obtain ⟨mx1, mx2⟩ := mx_mx (a := B) (b := dg x n) (by omega) (by omega)
      refine ⟨3, rfl, by decide, n, k3, by show n < 7; omega, fun q2 => ?_, fun q2 => ⟨3, rfl, by decide, n, k3, by show n < 7; omega, ?_⟩⟩
      · have q2 : G3 53 n ≤ G3 44 22 := q2
        rw [f3.2.1, w6] at q2
        exact a111 _ (by rw [w6]; exact mx1 q2)
      · have q2 : ¬ G3 53 n ≤ G3 44 22 := q2
        rw [f3.2.1, w6] at q2
        exact a111 _ (by rw [f3.2.1]; exact mx2 q2)
  have a28 : ∀ (G2 : oz_G), (∀ a, a ≠ 54 → G2 a = G a) → (∀ s, s < 131071 → G2 54 s = nI 0) → ∀ v, A 28 [some (.ref 44), some (.int (nI (mco n c))), some (.int (nI u)), v, none] [] N G2 (rmR hi sl) J 0 := by
    intro G2 g1 g2 v
    have hq : QR (oz2 (oz2 (oz2 G2 44 21 (nI 0)) 44 22 (nI 0)) 44 23 (oz_c (-6))) n [] (fun _ => 0) (fun _ => 0) := QR_nil (by rw [oz2_ne (by decide), oz2_ne (by decide), oz2_self]) (fun s hs => by rw [oz2_row (by decide), oz2_row (by decide), oz2_row (by decide)]; exact g2 s hs)
    have fr : FrS G (oz2 (oz2 (oz2 G2 44 21 (nI 0)) 44 22 (nI 0)) 44 23 (oz_c (-6))) := FrS_i (FrS_i (FrS_i ⟨fun a ha => g1 a (by omega), fun k _ => by rw [g1 44 (by decide)]⟩ (by decide)) (by decide)) (by decide)
    refine hC.1 [52] 90 28 _ _ _ _ _ _ _ ⟨hi, sl, n, u, [], (fun _ => 0), (fun _ => 0), c, 0, rfl, hq, by decide, (fun z hz => by cases hz), hg, h0, rfl, rfl, (fun hc => by cases hc), fun _ G4 t4 n1 n2 => ?_⟩
    exact outer 4096 0 G4 [c] (up (fun _ => 0) 0 0) t4 0 none none (by decide) (Nat.zero_le _) ⟨⟨fun a ha => by rw [n1.1 a (by omega)]; exact fr.1 a ha, fun k hk => by rw [n1.2 k (by omega)]; exact fr.2 k hk⟩, n2, BI_0 hg h0, ⟨(fun i hi => absurd hi (Nat.not_lt_zero _)), (fun i p _ hp => by omega), Nat.zero_le _⟩, ⟨⟨(fun _ i hi => absurd hi (Nat.not_lt_zero _)), (fun m hm => by cases hm)⟩, (fun m hm => by cases hm)⟩, by rw [n1.2 22 (by decide), oz2_ne (by decide), oz2_self]; rfl, by rw [n1.2 23 (by decide), oz2_self]; rfl⟩
  have clear : ∀ f k (G2 : oz_G), k + f = m → (∀ a, a ≠ 54 → G2 a = G a) → (∀ s, s < 131071 → G2 54 s = nI 0 ∨ ∃ i, k ≤ i ∧ i < m ∧ G 57 i = nI s) → A 2 [some (.ref 44), some (.int (nI (mco n c))), some (.int (nI u)), some (.int (nI k)), none] [] N G2 (rmR hi sl) J 0 := by
    intro f
    induction f with
    | zero =>
      intro k G2 hk g1 g2
      have hk : k = m := by omega
      subst hk
      have e21 : G2 44 21 = nI k := by rw [g1 44 (by decide)]; exact s1
      exact hC.1 [28] 40 2 _ _ _ _ _ _ _ ⟨fun _ => a28 G2 g1 (fun s hs => (g2 s hs).elim id (fun ⟨i, a1, a2, _⟩ => by omega)) _, fun q => absurd (show G2 44 21 ≤ nI k by rw [e21]; exact nI_le (Nat.le_refl _) (by omega)) q⟩
    | succ f ih =>
      intro k G2 hk g1 g2
      obtain ⟨s, hs, es⟩ := s2 k (by omega)
      have e21 : G2 44 21 = nI m := by rw [g1 44 (by decide)]; exact s1
      have hih := ih (k + 1) (oz2 G2 54 s (nI 0)) (by omega) (fun a ha => by rw [oz2_row ha]; exact g1 a ha) (fun r hr => by
        by_cases z : r = s
        · exact Or.inl (by rw [z, oz2_self])
        · rw [oz2_ne z]
          rcases g2 r hr with y | ⟨i, a1, a2, a3⟩
          · exact Or.inl y
          · refine Or.inr ⟨i, ?_, a2, a3⟩
            by_cases y : i = k
            · rw [y, es, nI_eq (by omega) (by omega)] at a3
              exact absurd a3.symm z
            · omega)
      rw [← nI_add k 1] at hih
      exact hC.1 [2] 60 2 _ _ _ _ _ _ _ ⟨fun q => absurd (show G2 44 21 ≤ nI k from q) (by rw [e21]; exact nI_ge (by omega) (by omega)), fun _ => ⟨k, rfl, by show k < 80000; omega, s, by rw [g1 57 (by decide)]; exact es, by show s < 131072; omega, hih⟩⟩
  exact hC.1 [2] 30 0 _ _ _ _ _ _ _ (clear m 0 G (by omega) (fun _ _ => rfl) (fun s hs => (s3 s hs).elim Or.inl (fun ⟨i, a1, a2⟩ => Or.inr ⟨i, Nat.zero_le _, a1, a2⟩)))
