/-! the law: its loop, its calls -/
theorem D_L_law : oz_dec code P_L_law = true := by decide +kernel
theorem C_L_law : oz_chain P_L_law = true := by decide +kernel
abbrev e_L : List (Nat × Nat × Nat) × List (Nat × Int32) × List (Nat × Int64) × List (Nat × Nat) := (fl_L, kt_L, lt_L, cn_L)
def t_lawA (n : Nat) (xs : Nat → Int32) : oz_T := (P_L_law, e_L, [(9, 2, 1, 4702, s_X5_init), (12, 2, 1, 373299, s_X6_init)], (false, 0, none, true, 417000), (n + 1, xs))
def t_lawB (n : Nat) (xs : Nat → Int32) : oz_T := (P_L_law, e_L, [(13, 1, 3, 0, s_X5_set), (18, 1, 3, 0, s_X5_begin), (22, 1, 1, 0, s_X5_load), (27, 1, 3, 0, s_X5_loadExact), (31, 1, 2, 0, s_X5_sow), (36, 1, 1, 0, s_X5_back), (40, 1, 1, 0, s_X5_play), (44, 1, 2, 0, s_X5_pit), (48, 1, 2, 0, s_X5_count), (52, 1, 2, 0, s_X5_move), (56, 1, 3, 0, s_X5_ifSown), (60, 1, 3, 0, s_X5_ifSownHas), (64, 1, 2, 0, s_X5_best), (68, 1, 3, 0, s_X5_exact), (74, 1, 2, 0, s_X5_put), (79, 1, 1, 0, s_X5_wipe), (83, 1, 1, 0, s_X5_fault), (87, 1, 1, 0, s_X5_undo), (91, 1, 2, 76, s_X5_save), (95, 1, 2, 0, s_X5_restore), (90, 1, 1, 0, s_X6_undo), (94, 1, 2, 0, s_X6_save), (98, 1, 2, 0, s_X6_restore), (67, 1, 2, 0, s_X6_best), (17, 1, 3, 0, s_X6_set), (21, 1, 3, 0, s_X6_begin), (71, 1, 3, 0, s_X6_exact), (30, 1, 3, 0, s_X6_loadExact), (35, 1, 2, 0, s_X6_sow), (39, 1, 1, 0, s_X6_back), (43, 1, 1, 0, s_X6_play), (47, 1, 2, 0, s_X6_pit), (51, 1, 2, 0, s_X6_count), (55, 1, 2, 0, s_X6_move), (59, 1, 3, 0, s_X6_ifSown), (63, 1, 3, 0, s_X6_ifSownHas), (78, 1, 2, 0, s_X6_put), (82, 1, 1, 0, s_X6_wipe), (86, 1, 1, 0, s_X6_fault), (26, 1, 1, 0, s_X6_load)], (false, 58, none, true, 417000), (n + 1, xs))
def lwF : oz_C := fun r _ _ _ _ => r = some (.int 1)
def LI (N : Nat) (G : oz_G) (R : oz_R) (W : Wd) : Prop := CR N G R W ∧ MR G W ∧ wOk W ∧ SrI G
theorem MR_C {G G' : oz_G} {W : Wd} (h : MR G W) (f : FrC G G') : MR G' W := MR_g h (fun i hi => f i (by omega) (by omega)) (by rw [f 44 (by decide) (by decide)]) (by rw [f 44 (by decide) (by decide)])
theorem SrI_C {G G' : oz_G} (h : SrI G) (f : FrC G G') : SrI G' := SrI_fr h (f 54 (by decide) (by decide)) (f 57 (by decide) (by decide)) (by rw [f 44 (by decide) (by decide)])
theorem CR_Y {N : Nat} {G G' : oz_G} {R : oz_R} {W : Wd} (h : CR N G R W) (hlen : (wH W).length ≤ 6) (f : FrY G G') : CR N G' R W := by
  obtain ⟨hi, sl, rfl, hh, hs, hS, hl, hH, h0, h1, hP⟩ := h
  exact ⟨hi, sl, rfl, hh, hs, StR_fr (fun i a1 a2 => f i (by omega)) hS, by rw [f 0 (by decide)]; exact hl, HsR_fr hh (fun i a1 a2 => f i (by omega)) _ hlen hH, SlR_fr hs (fun i a1 a2 => f i (by omega)) (by decide) h0, SlR_fr hs (fun i a1 a2 => f i (by omega)) (by decide) h1, PdC_fr (by rw [f 8 (by decide)]) (by rw [f 9 (by decide)]) hP⟩
theorem LI_2 {N : Nat} {G' G2 : oz_G} {R : oz_R} {W : Wd} (c1 : CR N G' R W) (m2 : FrX G' G2) (m1 : MR G2 W) (ok : wOk W) (s : SrI G') (m3 : G2 44 21 = G' 44 21) : LI N G2 R W := ⟨CR_Y c1 ok.2.2.2.2 (fun i hi => m2 i (by omega)), m1, ok, SrI_fr s (m2 54 (by decide)) (m2 57 (by decide)) m3⟩
theorem LI_3 {N : Nat} {G' G2 : oz_G} {R : oz_R} {W : Wd} (c1 : CR N G' R W) (m2 : FrY G' G2) (m1 : MR G2 W) (ok : wOk W) (m3 : SrI G2) : LI N G2 R W := ⟨CR_Y c1 ok.2.2.2.2 m2, m1, ok, m3⟩
theorem exact_ok {W : Wd} {x y : Int32} (h : wOk W) : wOk (q_exact W x y).2 := by
  unfold q_exact
  split
  · exact h
  · exact h
theorem mx_end {n t : Nat} (hn : n < 2000) (ht : t < 2000) (h : ¬ nI n - nI 3 < nI (3 * t)) : 3 * t + 3 ≤ n := by
  rcases Nat.lt_or_ge n 3 with q | q
  · have h0 : nI n - nI 3 < 0 := by
      have : n = 0 ∨ n = 1 ∨ n = 2 := by omega
      rcases this with rfl | rfl | rfl <;> decide
    have h1 : ¬ nI (3 * t) < 0 := nI_pos (by omega)
    exact absurd (by rw [Int32.lt_iff_toInt_lt] at h0 h1 ⊢; omega) h
  · rw [pk_sub q, nI_ltI (by omega) (by omega)] at h
    omega
theorem law_loop (hH : ∀ S, StOk S → sHb S) {n : Nat} {xs : Nat → Int32} (hn : n ≤ 1536) {A : oz_Y} (hC : oz_Cl (t_lawB n xs) lwF A) : ∀ f t k (N : Nat) (G : oz_G) (R : oz_R) (J : oz_J) (W : Wd), n < 3 * (t + f) → 3 * t ≤ n + 2 → k ≤ 378034 + 76 * t → LI N G R W → A 18 [some (.retAddr 0), some (.ref 0), some (.ref 44), some (.int (nI (3 * t)))] [] N G R J k := by
  intro f
  induction f with
  | zero =>
    intro t k N G R J W hf ht hk hL
    exact hC.1 [] 30 18 _ _ _ _ _ _ _ ⟨fun _ => ⟨Or.inr rfl, rfl⟩, fun q => absurd (mx_end (by omega) (by omega) q) (by omega)⟩
  | succ f ih =>
    intro t k N G R J W hf ht hk hL
    obtain ⟨w1, w2, w3, w4⟩ := id hL
    have a26 : 3 * t + 3 ≤ n → A 26 [some (.retAddr 0), some (.ref 0), some (.ref 44), some (.int (nI (3 * t)))] [] N G R J k := fun hb => by
      have b0 : 3 * t + 1 < n + 1 := by omega
      have b1 : 3 * t + 1 + 1 < n + 1 := by omega
      have b2 : 3 * t + 2 + 1 < n + 1 := by omega
      have fin : ∀ (N' : Nat) (G' : oz_G) (R' : oz_R) (J' : oz_J) (k' : Nat) (W' : Wd), k' ≤ 378034 + 76 * (t + 1) → LI N' G' R' W' → A 618 [some (.retAddr 0), some (.ref 0), some (.ref 44), some (.int (nI (3 * t)))] [] N' G' R' J' k' := fun N' G' R' J' k' W' h1 h2 => by
        have hh := ih (t + 1) k' N' G' R' J' W' (by omega) (by omega) h1 h2
        rw [show 3 * (t + 1) = 3 * t + 3 by omega, ← nI_add (3 * t) 3] at hh
        exact hC.1 [18] 30 618 _ _ _ _ _ _ _ hh
      have c128 : A 128 [some (.retAddr 0), some (.ref 0), some (.ref 44), some (.int (nI (3 * t)))] [] N G R J k := hC.1 [618] 90 128 _ _ _ _ _ _ _ ⟨3 * t + 1, nI_add _ 1, b1, 3 * t + 2, nI_add _ 2, b2, W, w1, w3, fun N' G' R' J' n1 c1 c2 => by
        obtain ⟨hi, sl, rfl, -⟩ := id c1
        exact ⟨3 * t + 1, nI_add _ 1, b1, 3 * t + 2, nI_add _ 2, b2, hi, sl, W, rfl, MR_C w2 c2, w3, fun G2 m1 m2 m3 => ⟨fun _ => fin N' G2 _ J' k _ (by omega) (LI_2 c1 m2 m1 (set_ok w3) (SrI_C w4 c2) m3), fun y => absurd rfl y⟩⟩⟩
      have c161 : A 161 [some (.retAddr 0), some (.ref 0), some (.ref 44), some (.int (nI (3 * t)))] [] N G R J k := hC.1 [618] 90 161 _ _ _ _ _ _ _ ⟨3 * t + 1, nI_add _ 1, b1, 3 * t + 2, nI_add _ 2, b2, W, w1, w3, fun N' G' R' J' n1 c1 c2 => by
        obtain ⟨hi, sl, rfl, -⟩ := id c1
        exact ⟨3 * t + 1, nI_add _ 1, b1, 3 * t + 2, nI_add _ 2, b2, hi, sl, W, rfl, MR_C w2 c2, w3, fun G2 m1 m2 m3 => ⟨fun _ => fin N' G2 _ J' k _ (by omega) (LI_2 c1 m2 m1 (begin_ok w3) (SrI_C w4 c2) m3), fun y => absurd rfl y⟩⟩⟩
      have c194 : A 194 [some (.retAddr 0), some (.ref 0), some (.ref 44), some (.int (nI (3 * t)))] [] N G R J k := hC.1 [618] 90 194 _ _ _ _ _ _ _ ⟨W, w1, w3, fun N' G' R' J' n1 c1 c2 => by
        obtain ⟨hi, sl, rfl, -⟩ := id c1
        exact ⟨hi, sl, W, rfl, MR_C w2 c2, w3, fun G2 m1 m2 m3 => ⟨fun _ => fin N' G2 _ J' k _ (by omega) (LI_2 c1 m2 m1 (load_ok w3) (SrI_C w4 c2) m3), fun y => absurd rfl y⟩⟩⟩
      have c207 : A 207 [some (.retAddr 0), some (.ref 0), some (.ref 44), some (.int (nI (3 * t)))] [] N G R J k := hC.1 [618] 90 207 _ _ _ _ _ _ _ ⟨3 * t + 1, nI_add _ 1, b1, 3 * t + 2, nI_add _ 2, b2, W, w1, w3, fun N' G' R' J' n1 c1 c2 => by
        obtain ⟨hi, sl, rfl, -⟩ := id c1
        exact ⟨3 * t + 1, nI_add _ 1, b1, 3 * t + 2, nI_add _ 2, b2, hi, sl, W, rfl, MR_C w2 c2, w3, fun G2 m1 m2 m3 => ⟨fun _ => fin N' G2 _ J' k _ (by omega) (LI_2 c1 m2 m1 (loadExact_ok w3) (SrI_C w4 c2) m3), fun y => absurd rfl y⟩⟩⟩
      have c240 : A 240 [some (.retAddr 0), some (.ref 0), some (.ref 44), some (.int (nI (3 * t)))] [] N G R J k := hC.1 [618] 90 240 _ _ _ _ _ _ _ ⟨3 * t + 1, nI_add _ 1, b1, W, w1, w3, fun N' G' R' J' n1 c1 c2 => by
        obtain ⟨hi, sl, rfl, -⟩ := id c1
        exact ⟨3 * t + 1, nI_add _ 1, b1, hi, sl, W, rfl, MR_C w2 c2, w3, fun G2 m1 m2 m3 => ⟨fun _ => fin N' G2 _ J' k _ (by omega) (LI_2 c1 m2 m1 (sow_ok w3) (SrI_C w4 c2) m3), fun y => absurd rfl y⟩⟩⟩
      have c263 : A 263 [some (.retAddr 0), some (.ref 0), some (.ref 44), some (.int (nI (3 * t)))] [] N G R J k := hC.1 [618] 90 263 _ _ _ _ _ _ _ ⟨W, w1, w3, fun N' G' R' J' n1 c1 c2 => by
        obtain ⟨hi, sl, rfl, -⟩ := id c1
        exact ⟨hi, sl, W, rfl, MR_C w2 c2, w3, fun G2 m1 m2 m3 => ⟨fun _ => fin N' G2 _ J' k _ (by omega) (LI_2 c1 m2 m1 (back_ok w3) (SrI_C w4 c2) m3), fun y => absurd rfl y⟩⟩⟩
      have c276 : A 276 [some (.retAddr 0), some (.ref 0), some (.ref 44), some (.int (nI (3 * t)))] [] N G R J k := hC.1 [618] 90 276 _ _ _ _ _ _ _ ⟨W, w1, w3, hH _ w3.1, fun N' G' R' J' n1 c1 c2 => by
        obtain ⟨hi, sl, rfl, -⟩ := id c1
        exact ⟨hi, sl, W, rfl, MR_C w2 c2, w3, hH _ w3.1, SrI_C w4 c2, fun G2 m1 m2 m3 => ⟨fun _ => fin N' G2 _ J' k _ (by omega) (LI_3 c1 m2 m1 (play_ok w3) m3), fun y => absurd rfl y⟩⟩⟩
      have c289 : A 289 [some (.retAddr 0), some (.ref 0), some (.ref 44), some (.int (nI (3 * t)))] [] N G R J k := hC.1 [618] 90 289 _ _ _ _ _ _ _ ⟨3 * t + 1, nI_add _ 1, b1, W, w1, w3, fun N' G' R' J' n1 c1 c2 => by
        obtain ⟨hi, sl, rfl, -⟩ := id c1
        exact ⟨3 * t + 1, nI_add _ 1, b1, hi, sl, W, rfl, MR_C w2 c2, w3, fun G2 m1 m2 m3 => ⟨fun _ => fin N' G2 _ J' k _ (by omega) (LI_2 c1 m2 m1 w3 (SrI_C w4 c2) m3), fun y => absurd rfl y⟩⟩⟩
      have c312 : A 312 [some (.retAddr 0), some (.ref 0), some (.ref 44), some (.int (nI (3 * t)))] [] N G R J k := hC.1 [618] 90 312 _ _ _ _ _ _ _ ⟨3 * t + 1, nI_add _ 1, b1, W, w1, w3, fun N' G' R' J' n1 c1 c2 => by
        obtain ⟨hi, sl, rfl, -⟩ := id c1
        exact ⟨3 * t + 1, nI_add _ 1, b1, hi, sl, W, rfl, MR_C w2 c2, w3, fun G2 m1 m2 m3 => ⟨fun _ => fin N' G2 _ J' k _ (by omega) (LI_2 c1 m2 m1 w3 (SrI_C w4 c2) m3), fun y => absurd rfl y⟩⟩⟩
      have c335 : A 335 [some (.retAddr 0), some (.ref 0), some (.ref 44), some (.int (nI (3 * t)))] [] N G R J k := hC.1 [618] 90 335 _ _ _ _ _ _ _ ⟨3 * t + 1, nI_add _ 1, b1, W, w1, w3, fun N' G' R' J' n1 c1 c2 => by
        obtain ⟨hi, sl, rfl, -⟩ := id c1
        exact ⟨3 * t + 1, nI_add _ 1, b1, hi, sl, W, rfl, MR_C w2 c2, w3, fun G2 m1 m2 m3 => ⟨fun _ => fin N' G2 _ J' k _ (by omega) (LI_2 c1 m2 m1 w3 (SrI_C w4 c2) m3), fun y => absurd rfl y⟩⟩⟩
      have c358 : A 358 [some (.retAddr 0), some (.ref 0), some (.ref 44), some (.int (nI (3 * t)))] [] N G R J k := hC.1 [618] 90 358 _ _ _ _ _ _ _ ⟨3 * t + 1, nI_add _ 1, b1, 3 * t + 2, nI_add _ 2, b2, W, w1, w3, fun N' G' R' J' n1 c1 c2 => by
        obtain ⟨hi, sl, rfl, -⟩ := id c1
        exact ⟨3 * t + 1, nI_add _ 1, b1, 3 * t + 2, nI_add _ 2, b2, hi, sl, W, rfl, MR_C w2 c2, w3, fun G2 m1 m2 m3 => ⟨fun _ => fin N' G2 _ J' k _ (by omega) (LI_2 c1 m2 m1 w3 (SrI_C w4 c2) m3), fun y => absurd rfl y⟩⟩⟩
      have c391 : A 391 [some (.retAddr 0), some (.ref 0), some (.ref 44), some (.int (nI (3 * t)))] [] N G R J k := hC.1 [618] 90 391 _ _ _ _ _ _ _ ⟨3 * t + 1, nI_add _ 1, b1, 3 * t + 2, nI_add _ 2, b2, W, w1, w3, fun N' G' R' J' n1 c1 c2 => by
        obtain ⟨hi, sl, rfl, -⟩ := id c1
        exact ⟨3 * t + 1, nI_add _ 1, b1, 3 * t + 2, nI_add _ 2, b2, hi, sl, W, rfl, MR_C w2 c2, w3, fun G2 m1 m2 m3 => ⟨fun _ => fin N' G2 _ J' k _ (by omega) (LI_2 c1 m2 m1 w3 (SrI_C w4 c2) m3), fun y => absurd rfl y⟩⟩⟩
      have c424 : A 424 [some (.retAddr 0), some (.ref 0), some (.ref 44), some (.int (nI (3 * t)))] [] N G R J k := hC.1 [618] 90 424 _ _ _ _ _ _ _ ⟨3 * t + 1, nI_add _ 1, b1, W, w1, w3, hH _ w3.1, fun N' G' R' J' n1 c1 c2 => by
        obtain ⟨hi, sl, rfl, -⟩ := id c1
        exact ⟨3 * t + 1, nI_add _ 1, b1, hi, sl, W, rfl, MR_C w2 c2, w3, hH _ w3.1, SrI_C w4 c2, fun G2 m1 m2 m3 => ⟨fun _ => fin N' G2 _ J' k _ (by omega) (LI_3 c1 m2 m1 w3 m3), fun y => absurd rfl y⟩⟩⟩
      have c447 : A 447 [some (.retAddr 0), some (.ref 0), some (.ref 44), some (.int (nI (3 * t)))] [] N G R J k := hC.1 [618] 90 447 _ _ _ _ _ _ _ ⟨3 * t + 1, nI_add _ 1, b1, 3 * t + 2, nI_add _ 2, b2, W, w1, w3, fun N' G' R' J' n1 c1 c2 => by
        obtain ⟨hi, sl, rfl, -⟩ := id c1
        exact ⟨3 * t + 1, nI_add _ 1, b1, 3 * t + 2, nI_add _ 2, b2, hi, sl, W, rfl, MR_C w2 c2, w3, fun G2 m1 m2 m3 => ⟨fun _ => fin N' G2 _ J' k _ (by omega) (LI_2 c1 m2 m1 (exact_ok w3) (SrI_C w4 c2) m3), fun y => absurd rfl y⟩⟩⟩
      have c480 : A 480 [some (.retAddr 0), some (.ref 0), some (.ref 44), some (.int (nI (3 * t)))] [] N G R J k := hC.1 [618] 90 480 _ _ _ _ _ _ _ ⟨3 * t + 1, nI_add _ 1, b1, 3 * t + 2, nI_add _ 2, b2, rfl, W, w1, w3, fun N' G' R' J' n1 c1 c2 => by
        obtain ⟨hi, sl, rfl, -⟩ := id c1
        exact ⟨3 * t + 1, nI_add _ 1, b1, 3 * t + 2, nI_add _ 2, b2, rfl, hi, sl, W, rfl, MR_C w2 c2, w3, fun G2 m1 m2 m3 => ⟨fun _ => fin N' G2 _ J' k _ (by omega) (LI_2 c1 m2 m1 (put_ok w3) (SrI_C w4 c2) m3), fun y => absurd rfl y⟩⟩⟩
      have c533 : A 533 [some (.retAddr 0), some (.ref 0), some (.ref 44), some (.int (nI (3 * t)))] [] N G R J k := hC.1 [618] 90 533 _ _ _ _ _ _ _ ⟨W, w1, w3, fun N' G' R' J' n1 c1 c2 => by
        obtain ⟨hi, sl, rfl, -⟩ := id c1
        exact ⟨hi, sl, W, rfl, MR_C w2 c2, w3, fun G2 m1 m2 m3 => ⟨fun _ => fin N' G2 _ J' k _ (by omega) (LI_2 c1 m2 m1 w3 (SrI_C w4 c2) m3), fun y => absurd rfl y⟩⟩⟩
      have c546 : A 546 [some (.retAddr 0), some (.ref 0), some (.ref 44), some (.int (nI (3 * t)))] [] N G R J k := hC.1 [618] 90 546 _ _ _ _ _ _ _ ⟨W, w1, w3, fun N' G' R' J' n1 c1 c2 => by
        obtain ⟨hi, sl, rfl, -⟩ := id c1
        exact ⟨hi, sl, W, rfl, MR_C w2 c2, w3, fun G2 m1 m2 m3 => ⟨fun _ => fin N' G2 _ J' k _ (by omega) (LI_2 c1 m2 m1 w3 (SrI_C w4 c2) m3), fun y => absurd rfl y⟩⟩⟩
      have c559 : A 559 [some (.retAddr 0), some (.ref 0), some (.ref 44), some (.int (nI (3 * t)))] [] N G R J k := hC.1 [618] 90 559 _ _ _ _ _ _ _ ⟨W, w1, w3, fun N' G' R' J' n1 c1 c2 => by
        obtain ⟨hi, sl, rfl, -⟩ := id c1
        exact ⟨hi, sl, W, rfl, MR_C w2 c2, w3, fun G2 m1 m2 m3 => ⟨fun _ => fin N' G2 _ J' k _ (by omega) (LI_2 c1 m2 m1 (undo_ok w3) (SrI_C w4 c2) m3), fun y => absurd rfl y⟩⟩⟩
      have c572 : A 572 [some (.retAddr 0), some (.ref 0), some (.ref 44), some (.int (nI (3 * t)))] [] N G R J k := hC.1 [618] 90 572 _ _ _ _ _ _ _ ⟨3 * t + 1, nI_add _ 1, b1, (by show k + 76 ≤ 417000; omega), W, w1, w3, fun N' G' R' J' n1 c1 c2 => by
        obtain ⟨hi, sl, rfl, -⟩ := id c1
        exact ⟨3 * t + 1, nI_add _ 1, b1, hi, sl, W, rfl, MR_C w2 c2, w3, fun G2 m1 m2 m3 => ⟨fun _ => fin N' G2 _ J' (k + 76) _ (by omega) (LI_2 c1 m2 m1 (save_ok w3) (SrI_C w4 c2) m3), fun y => absurd rfl y⟩⟩⟩
      have c595 : A 595 [some (.retAddr 0), some (.ref 0), some (.ref 44), some (.int (nI (3 * t)))] [] N G R J k := hC.1 [618] 90 595 _ _ _ _ _ _ _ ⟨3 * t + 1, nI_add _ 1, b1, W, w1, w3, fun N' G' R' J' n1 c1 c2 => by
        obtain ⟨hi, sl, rfl, -⟩ := id c1
        exact ⟨3 * t + 1, nI_add _ 1, b1, hi, sl, W, rfl, MR_C w2 c2, w3, fun G2 m1 m2 m3 => ⟨fun _ => fin N' G2 _ J' k _ (by omega) (LI_2 c1 m2 m1 (restore_ok w3) (SrI_C w4 c2) m3), fun y => absurd rfl y⟩⟩⟩
      exact hC.1 [128, 161, 194, 207, 240, 263, 276, 289, 312, 335, 358, 391, 424, 447, 480, 533, 546, 559, 572, 595, 618] 60 26 _ _ _ _ _ _ _ ⟨3 * t, rfl, b0, ⟨fun _ => c128, fun _ => ⟨fun _ => c161, fun _ => ⟨fun _ => c194, fun _ => ⟨fun _ => c207, fun _ => ⟨fun _ => c240, fun _ => ⟨fun _ => c263, fun _ => ⟨fun _ => c276, fun _ => ⟨fun _ => c289, fun _ => ⟨fun _ => c312, fun _ => ⟨fun _ => c335, fun _ => ⟨fun _ => c358, fun _ => ⟨fun _ => c391, fun _ => ⟨fun _ => c424, fun _ => ⟨fun _ => c447, fun _ => ⟨fun _ => c480, fun _ => ⟨fun _ => c533, fun _ => ⟨fun _ => c546, fun _ => ⟨fun _ => c559, fun _ => ⟨fun _ => c572, fun _ => ⟨fun _ => c595, fun _ => fin N G R J k W (by omega) hL⟩⟩⟩⟩⟩⟩⟩⟩⟩⟩⟩⟩⟩⟩⟩⟩⟩⟩⟩⟩⟩
    exact hC.1 [26] 40 18 _ _ _ _ _ _ _ ⟨fun _ => ⟨Or.inr rfl, rfl⟩, fun q => a26 (mx_end (by omega) (by omega) q)⟩
theorem hi0_ok : hiOk hi0 := by
  refine ⟨fun k hk => ?_, fun j k hj hk hne => ?_⟩
  · unfold hi0; omega
  · unfold hi0; omega
theorem law_init {n : Nat} {xs : Nat → Int32} {A : oz_Y} (hC : oz_Cl (t_lawA n xs) lwF A) (G : oz_G) (J : oz_J) (h : ∀ (G' : oz_G) (J' : oz_J), LI 58 G' (rmR hi0 sl0) W00 → A 18 [some (.retAddr 0), some (.ref 0), some (.ref 44), some (.int (nI 0))] [] 58 G' (rmR hi0 sl0) J' 378034) : A 0 [some (.retAddr 0), none, none, none] [] 0 G R00 J 0 := by
  have hR : ozz R00 0 none = R00 := by
    funext a b
    unfold ozz
    split
    · rfl
    · rfl
  refine hC.1 [18] 90 0 _ _ _ _ _ _ _ ⟨⟨rfl, Nat.le_of_ble_eq_true rfl⟩, Nat.le_of_ble_eq_true rfl, rfl, hR, fun G' J' g1 g2 g3 => ⟨⟨rfl, Nat.le_of_ble_eq_true rfl⟩, Nat.le_of_ble_eq_true rfl, rfl, rfl, fun k => ozz_self, fun G2 f1 f2 f3 => ?_⟩⟩
  have far : ∀ i, i < 44 → G2 i = G' i := fun i hi => by rw [f1 i hi, ozz_row (by omega)]
  refine h G2 J' ⟨⟨hi0, sl0, rfl, hi0_ok, ⟨(fun k b _ hb => by cases hb), (fun b hb => by cases hb), Nat.le_refl _, rfl⟩, StR_fr (fun i a1 a2 => far i (by omega)) g1, by rw [far 0 (by decide)]; exact g2, trivial, rfl, rfl, by rw [far 8 (by decide)]; exact g3, Nat.zero_le _, fun j hj => absurd hj (Nat.not_lt_zero _)⟩, f2, W00_ok, f3⟩
