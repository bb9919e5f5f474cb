/-! the class's public methods: rounds begun, moves -/
theorem ev_lt {s : Nat} (hs : s < 16) : ∀ n, ev s n < 16 ^ n
  | 0 => Nat.one_pos
  | n + 1 => by
    have h1 := ev_lt hs n
    have h2 : s * 16 ^ n ≤ 15 * 16 ^ n := Nat.mul_le_mul_right _ (by omega)
    show ev s n + s * 16 ^ n < 16 ^ (n + 1)
    rw [Nat.pow_succ]; omega
theorem tr_lt (c n : Nat) : ∀ k, tr c n k < 16 ^ k
  | 0 => Nat.one_pos
  | k + 1 => by
    have h1 := tr_lt c n k
    have h2 : dg c (n - 1 - k) * 16 ^ k ≤ 15 * 16 ^ k := Nat.mul_le_mul_right _ (by have := dg_lt c (n - 1 - k); omega)
    show tr c n k + dg c (n - 1 - k) * 16 ^ k < 16 ^ (k + 1)
    rw [Nat.pow_succ]; omega
theorem lt28 {c n : Nat} (h : c < 16 ^ n) (hn : n ≤ 7) : c < 2 ^ 28 := by
  have h1 : (16 : Nat) ^ n ≤ 16 ^ 7 := Nat.pow_le_pow_right (by decide) hn
  have h2 : (16 : Nat) ^ 7 = 2 ^ 28 := by decide
  omega
theorem wPsh_ok {W : Wd} (h : wOk W) : wOk (wPsh W) := by
  refine ⟨h.1, fun S hS => ?_, h.2.2.1, h.2.2.2.1, (psh_len h.2.2.2.2).1⟩
  rcases psh_mem hS with q | q
  · rw [q]; exact h.1
  · exact h.2.1 S q
def q_begin (W : Wd) (x y : Int32) : Int32 × Wd := if rl6 x = false ∨ y < nI 1 ∨ nI 7 < y then (oz_c (-2), W) else if 14 < nt x * nt y then (oz_c (-4), W) else (nI (nt x * nt y), wRec W (sNew (wS W) (nt x) (ev (nt y) (nt x))))
def t_X5_begin : oz_T := (P_X5_begin, e_X5, [(65, 0, 1, 0, s_X5_isRowLength), (58, 1, 1, 0, s_X5_record), (48, 0, 2, 0, s_X1_evenly), (54, 1, 3, 0, s_X4_startRound)], (true, 44, none, false, 0), (0, fun _ => 0))
def s_X5_begin : oz_S := oz_t2 0 fun x y N G R J Φ => ∃ W, CR N G R W ∧ wOk W ∧ pQ N G W Φ (q_begin W x y)
theorem I_X5_begin : oz_Imp t_X5_begin 3 s_X5_begin := by
  intro Φ A a N G R J hN hS hC
  obtain ⟨x, y, rfl, W, hCR, hok, h⟩ := oz_t2_e hS
  obtain ⟨hi, sl, rfl, hh, hs, hSt, -⟩ := id hCR
  have hN58 := hs.2.2.1
  unfold q_begin at h
  have a18 : (rl6 x = false ∨ y < nI 1 ∨ nI 7 < y) → A 18 [some (.ref 0), some (.int x), some (.int y)] [] N G (rmR hi sl) J 0 := fun q => by
    rw [if_pos q] at h
    exact hC.1 [] 20 18 _ _ _ _ _ _ _ (pQ_0 h hCR)
  have a21 : ¬ (rl6 x = false ∨ y < nI 1 ∨ nI 7 < y) → A 21 [some (.ref 0), some (.int x), some (.int y)] [] N G (rmR hi sl) J 0 := fun q => by
    rw [if_neg q] at h
    have hr : rl6 x = true := by
      cases z : rl6 x
      · exact absurd (Or.inl z) q
      · rfl
    obtain ⟨hx, hx2, hx6⟩ := rl6_t hr
    obtain ⟨hy, hy1, hy7⟩ := rng (x := y) (a := 1) (b := 7) (fun z => q (Or.inr (Or.inl z))) (fun z => q (Or.inr (Or.inr z))) (by decide) (by decide)
    generalize nt x = n at hx hx2 hx6 h
    generalize nt y = s at hy hy1 hy7 h
    clear hr q a18
    subst hx
    subst hy
    have hp : n * s ≤ 6 * 7 := Nat.mul_le_mul hx6 hy7
    refine hC.1 [36] 60 21 _ _ _ _ _ _ _ ⟨fun q => ⟨W, hCR, hok, fun G' R' c1 c2 c3 => ?_⟩, fun q => ?_⟩
    · have q : nI n * nI s ≤ nI 14 := q
      rw [pk_mul, nI_leI (by omega) (by decide)] at q
      rw [if_neg (by omega)] at h
      obtain ⟨hi', sl', rfl, -, -, hSt', -⟩ := id c1
      have hSt' : StR G' 1 (wS W) := hSt'
      have hlen := (psh_len (S := wS W) hok.2.2.2.2).1
      have hf := h N _ _ J (Nat.le_refl _) (CR_now c1 hlen (sr_R (n := n) (c0 := ev s n) hSt' hok.1.2.2.2.2.1 (lt28 (ev_lt (by omega) n) (by omega))) (fun i hi => by rw [oz2_row (by omega), oz2_row (by omega), oz2_row (by omega), oz2_row (by omega)])) (fun i a1 a2 => by rw [oz2_row (by omega), oz2_row (by omega), oz2_row (by omega), oz2_row (by omega)]; exact c2 i a1 a2)
      rw [← pk_mul] at hf
      exact hC.1 [] 60 36 _ _ _ _ _ _ _ ⟨n, s, rfl, rfl, by omega, by omega, rfl, by omega, hf⟩
    · have q : ¬ nI n * nI s ≤ nI 14 := q
      rw [pk_mul, nI_leI (by omega) (by decide)] at q
      rw [if_pos (by omega)] at h
      exact pQ_0 h hCR
  refine hC.1 [18, 21] 40 0 _ _ _ _ _ _ _ ⟨fun q => a18 (Or.inl ?_), fun q => ⟨fun q2 => a18 (Or.inr (Or.inl q2)), fun q2 => ⟨fun q3 => a21 ?_, fun q3 => a18 (Or.inr (Or.inr ?_))⟩⟩⟩
  · have q : b2 (rl6 x) = nI 0 := q
    exact b2_f.mp q
  · have q : ¬ b2 (rl6 x) = nI 0 := q
    have q3 : y ≤ nI 7 := q3
    rw [b2_t] at q
    exact fun z => z.elim (fun z => by rw [q] at z; cases z) (fun z => z.elim q2 (fun z => Int32.not_lt.mpr q3 z))
  · have q3 : ¬ y ≤ nI 7 := q3
    exact Int32.not_le.mp q3
def q_loadExact (W : Wd) (x y : Int32) : Int32 × Wd := if rl6 x = false ∨ y < nI 1 ∨ nI 14 < y then (oz_c (-2), W) else if nt x < fa (xf (nt y)) 6 then (oz_c (-5), W) else (nI (pw (tr (xf (nt y)) (nt x) (nt x)) (nt x)), wRec W (sNew (wS W) (nt x) (tr (xf (nt y)) (nt x) (nt x))))
def t_X5_loadExact : oz_T := (P_X5_loadExact, e_X5, [(65, 0, 1, 0, s_X5_isRowLength), (85, 0, 1, 0, s_X1_exactFromStore), (89, 0, 1, 0, s_X1_farthest), (58, 1, 1, 0, s_X5_record), (92, 0, 2, 0, s_X1_turnedRound), (54, 1, 3, 0, s_X4_startRound), (95, 0, 2, 0, s_X1_pitsWithSeeds)], (true, 44, none, false, 0), (0, fun _ => 0))
def s_X5_loadExact : oz_S := oz_t2 0 fun x y N G R J Φ => ∃ W, CR N G R W ∧ wOk W ∧ pQ N G W Φ (q_loadExact W x y)
theorem I_X5_loadExact : oz_Imp t_X5_loadExact 5 s_X5_loadExact := by
  intro Φ A a N G R J hN hS hC
  obtain ⟨x, y, rfl, W, hCR, hok, h⟩ := oz_t2_e hS
  obtain ⟨hi, sl, rfl, hh, hs, hSt, -⟩ := id hCR
  have hN58 := hs.2.2.1
  unfold q_loadExact at h
  have a18 : (rl6 x = false ∨ y < nI 1 ∨ nI 14 < y) → A 18 [some (.ref 0), some (.int x), some (.int y), none, none] [] N G (rmR hi sl) J 0 := fun q => by
    rw [if_pos q] at h
    exact hC.1 [] 20 18 _ _ _ _ _ _ _ (pQ_0 h hCR)
  have a21 : ¬ (rl6 x = false ∨ y < nI 1 ∨ nI 14 < y) → A 21 [some (.ref 0), some (.int x), some (.int y), none, none] [] N G (rmR hi sl) J 0 := fun q => by
    rw [if_neg q] at h
    have hr : rl6 x = true := by
      cases z : rl6 x
      · exact absurd (Or.inl z) q
      · rfl
    obtain ⟨hx, hx2, hx6⟩ := rl6_t hr
    obtain ⟨hy, hy1, hy7⟩ := rng (x := y) (a := 1) (b := 14) (fun z => q (Or.inr (Or.inl z))) (fun z => q (Or.inr (Or.inr z))) (by decide) (by decide)
    generalize nt x = n at hx hx2 hx6 h
    generalize nt y = s at hy hy1 hy7 h
    clear hr q a18
    subst hx
    subst hy
    have hxf := xf_lt s (by omega)
    have hfa := fa_le (xf s) 6
    have htr := lt28 (tr_lt (xf s) n n) (show n ≤ 7 by omega)
    refine hC.1 [41] 60 21 _ _ _ _ _ _ _ ⟨s, rfl, by omega, xf s, rfl, by omega, fun q => ⟨W, hCR, hok, fun G' R' c1 c2 c3 => ?_⟩, fun q => ?_⟩
    · have q : nI (fa (xf s) 6) ≤ nI n := q
      rw [nI_leI (by omega) (by omega)] at q
      rw [if_neg (by omega)] at h
      obtain ⟨hi', sl', rfl, -, -, hSt', -⟩ := id c1
      have hSt' : StR G' 1 (wS W) := hSt'
      have hlen := (psh_len (S := wS W) hok.2.2.2.2).1
      have hf := h N _ _ J (Nat.le_refl _) (CR_now c1 hlen (sr_R (n := n) (c0 := tr (xf s) n n) hSt' hok.1.2.2.2.2.1 htr) (fun i hi => by rw [oz2_row (by omega), oz2_row (by omega), oz2_row (by omega), oz2_row (by omega)])) (fun i a1 a2 => by rw [oz2_row (by omega), oz2_row (by omega), oz2_row (by omega), oz2_row (by omega)]; exact c2 i a1 a2)
      exact hC.1 [] 60 41 _ _ _ _ _ _ _ ⟨xf s, n, rfl, rfl, by omega, by omega, rfl, by omega, tr (xf s) n n, n, rfl, rfl, by omega, by omega, hf⟩
    · have q : ¬ nI (fa (xf s) 6) ≤ nI n := q
      rw [nI_leI (by omega) (by omega)] at q
      rw [if_pos (by omega)] at h
      exact pQ_0 h hCR
  refine hC.1 [18, 21] 40 0 _ _ _ _ _ _ _ ⟨fun q => a18 (Or.inl ?_), fun q => ⟨fun q2 => a18 (Or.inr (Or.inl q2)), fun q2 => ⟨fun q3 => a21 ?_, fun q3 => a18 (Or.inr (Or.inr ?_))⟩⟩⟩
  · have q : b2 (rl6 x) = nI 0 := q
    exact b2_f.mp q
  · have q : ¬ b2 (rl6 x) = nI 0 := q
    have q3 : y ≤ nI 14 := q3
    rw [b2_t] at q
    exact fun z => z.elim (fun z => by rw [q] at z; cases z) (fun z => z.elim q2 (fun z => Int32.not_lt.mpr q3 z))
  · have q3 : ¬ y ≤ nI 14 := q3
    exact Int32.not_le.mp q3
def sGn (S : St) (i : Nat) : Nat := dg (mv (sN S) (sRl S) (sC S) i).1 (sN S) - dg (sC S) (sN S)
def q_sow (W : Wd) (x : Int32) : Int32 × Wd := if ip (sN (wS W)) x = false then (oz_c (-1), W) else if lg (sN (wS W)) (sEx (wS W)) (sC (wS W)) (nt x) = 0 then (oz_c (-5), W) else (nI (sGn (wS W) (nt x)), wRec W (sMv (wS W) (nt x)))
def t_X5_sow : oz_T := (P_X5_sow, e_X5, [(98, 1, 2, 0, s_X5_isPit), (104, 1, 3, 0, s_X4_canSow), (58, 1, 1, 0, s_X5_record), (108, 1, 2, 0, s_X5_makeMove)], (true, 44, none, false, 0), (0, fun _ => 0))
def s_X5_sow : oz_S := oz_t1 0 fun x N G R J Φ => ∃ W, CR N G R W ∧ wOk W ∧ pQ N G W Φ (q_sow W x)
theorem I_X5_sow : oz_Imp t_X5_sow 2 s_X5_sow := by
  intro Φ A a N G R J hN hS hC
  obtain ⟨x, rfl, W, hCR, hok, h⟩ := oz_t1_e hS
  obtain ⟨hi, sl, rfl, hh, hs, hSt, -⟩ := id hCR
  obtain ⟨u, hu, hg, hK⟩ := hok.1.2.2.2.2.2
  have hc := Gd_lt hg
  have hev := StR_Ev hSt hok.1
  unfold q_sow at h
  refine hC.1 [10] 30 0 _ _ _ _ _ _ _ ⟨hi, sl, sN (wS W), rfl, hSt.1, fun q => ?_, fun q => ?_⟩
  · have q : ¬ b2 (ip (sN (wS W)) x) = nI 0 := q
    rw [b2_t] at q
    rw [if_neg (by rw [q]; decide)] at h
    obtain ⟨hx, hlt⟩ := ip_t q (by have := hok.1.2.1; omega)
    generalize nt x = i at hx hlt h
    clear q
    subst hx
    have hlg := lg_le (n := sN (wS W)) (ex := sEx (wS W)) (c := sC (wS W)) (i := i)
    refine hC.1 [35] 60 10 _ _ _ _ _ _ _ ⟨hi, sl, sN (wS W), sRl (wS W), sEx (wS W), sC (wS W), i, rfl, hev, hSt.2.1, rfl, hc, hlt, fun q => ⟨W, hCR, hok, fun G' R' c1 c2 c3 => ?_⟩, fun q => ?_⟩
    · have q : ¬ nI (lg (sN (wS W)) (sEx (wS W)) (sC (wS W)) i) = nI 0 := q
      rw [nI_eq (by omega) (by decide)] at q
      rw [if_neg q] at h
      obtain ⟨hi', sl', rfl, -⟩ := id c1
      refine hC.1 [] 60 35 _ _ _ _ _ _ _ ⟨wPsh W, i, c1, wPsh_ok hok, rfl, hlt, (by show lg (sN (wS W)) (sEx (wS W)) (sC (wS W)) i = 1; omega), fun G2 d1 d2 d3 => ?_⟩
      have hf := h N G2 _ J (Nat.le_refl _) d1 (fun i a1 a2 => by rw [d2 i (Or.inr ⟨by omega, by omega⟩)]; exact c2 i a1 a2)
      have d3 : G2 10 3 = nI (sGn (wS W) i) := d3
      rw [← d3] at hf
      exact hf
    · have q : ¬ ¬ nI (lg (sN (wS W)) (sEx (wS W)) (sC (wS W)) i) = nI 0 := q
      have q := Classical.not_not.mp q
      rw [nI_eq (by omega) (by decide)] at q
      rw [if_pos q] at h
      exact pQ_0 h hCR
  · have q : ¬ ¬ b2 (ip (sN (wS W)) x) = nI 0 := q
    have q := Classical.not_not.mp q
    rw [b2_f] at q
    rw [if_pos q] at h
    exact pQ_0 h hCR
def q_back (W : Wd) : Int32 × Wd := match sK (wS W) with
  | [] => (oz_c (-5), W)
  | k :: K => (nI k.1, wRec W (sN (wS W), sRl (wS W), sEx (wS W), sLv (wS W), k.2.2, K))
def t_X5_back : oz_T := (P_X5_back, e_X5, [(58, 1, 1, 0, s_X5_record), (118, 1, 1, 0, s_X4_takeBack)], (true, 44, none, false, 0), (0, fun _ => 0))
def s_X5_back : oz_S := oz_t0 0 fun N G R J Φ => ∃ W, CR N G R W ∧ wOk W ∧ pQ N G W Φ (q_back W)
theorem tb_R {G : oz_G} {n rl ex lv c : Nat} {k : Kp} {K : List Kp} (hS : StR G 1 (n, rl, ex, lv, c, k :: K)) : StR (oz2 (oz2 (oz2 G 1 4 (nI K.length)) 1 3 (G 1 3 - nI 1)) 1 2 (G 5 K.length)) 1 (n, rl, ex, lv, k.2.2, K) := by
  obtain ⟨g1, g2, g3, g4, g5, g6, g7, g8⟩ := hS
  refine ⟨g1, g8.2.2.1, ?_, rfl, g5, g6, g7, ?_⟩
  · show G 1 3 - nI 1 = nI K.length
    have g3 : G 1 3 = nI (K.length + 1) := g3
    rw [g3, pk_sub (by omega)]
    rfl
  · exact KpR_fr (G := G) (G' := oz2 (oz2 (oz2 G 1 4 (nI K.length)) 1 3 (G 1 3 - nI 1)) 1 2 (G 5 K.length)) (b := 1) (b' := 1) (m := K.length) (fun _ _ => rfl) (fun _ _ => rfl) (fun _ _ => rfl) K (Nat.le_refl _) g8.2.2.2
theorem I_X5_back : oz_Imp t_X5_back 1 s_X5_back := by
  intro Φ A a N G R J hN hS hC
  obtain ⟨rfl, W, hCR, hok, h⟩ := oz_t0_e hS
  obtain ⟨hi, sl, rfl, hh, hs, hSt, -⟩ := id hCR
  obtain ⟨u, hu, hg, hK⟩ := hok.1.2.2.2.2.2
  have hK16 := KOk_len _ _ hg hK
  obtain ⟨⟨n, rl, ex, lv, c, K⟩, H, s0, s1, w, len⟩ := W
  unfold q_back at h
  cases K with
  | nil =>
    refine hC.1 [] 30 0 _ _ _ _ _ _ _ ⟨fun q => absurd (show nI 0 < G 1 4 from q) ?_, fun _ => pQ_0 h hCR⟩
    have e : G 1 4 = nI 0 := hSt.2.2.2.1
    rw [e]; decide
  | cons k K =>
    have hK16 : (k :: K).length + pot n c ≤ 16 := hK16
    rw [List.length_cons] at hK16
    have e : G 1 4 = nI (K.length + 1) := hSt.2.2.2.1
    refine hC.1 [17] 30 0 _ _ _ _ _ _ _ ⟨fun _ => ⟨_, hCR, hok, fun G' R' c1 c2 c3 => ?_⟩, fun q => absurd (show nI 0 < G 1 4 by rw [e]; exact nI_lt (by omega) (by omega)) q⟩
    obtain ⟨hi', sl', rfl, -, -, hSt', -⟩ := id c1
    have hSt' : StR G' 1 (n, rl, ex, lv, c, k :: K) := hSt'
    have hlen := (psh_len (S := (n, rl, ex, lv, c, k :: K)) hok.2.2.2.2).1
    have hf := h N _ _ J (Nat.le_refl _) (CR_now c1 hlen (tb_R hSt') (fun i hi => by rw [oz2_row (by omega), oz2_row (by omega), oz2_row (by omega)])) (fun i a1 a2 => by rw [oz2_row (by omega), oz2_row (by omega), oz2_row (by omega)]; exact c2 i a1 a2)
    have e3 : G' 3 K.length = nI k.1 := hSt'.2.2.2.2.2.2.2.1
    have hf : Φ (some (.int (nI k.1))) N (oz2 (oz2 (oz2 G' 1 4 (nI K.length)) 1 3 (G' 1 3 - nI 1)) 1 2 (G' 5 K.length)) (rmR hi' sl') J := hf
    rw [← e3] at hf
    exact hC.1 [] 40 17 _ _ _ _ _ _ _ ⟨hi', sl', K.length, rfl, hSt'.2.2.2.1, by omega, hf⟩
