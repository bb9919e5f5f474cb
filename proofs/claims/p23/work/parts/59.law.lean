/-! the law: its body -/
theorem qset {W : Wd} {j v : Nat} (hj : j ≤ 2) (hv : v ≤ 1) : q_set W (nI j) (nI v) = (nI (sGet (wS W) j), wRec W (sSet (wS W) j v)) := by
  unfold q_set
  rw [if_neg, nt_nI (by omega), nt_nI (by omega)]
  rintro ((z | z) | (z | z))
  · exact nI_pos (by omega) z
  · exact nI_ge (show j < 3 by omega) (by decide) z
  · exact nI_pos (by omega) z
  · exact nI_nlt (show v ≤ 1 by omega) (by decide) z
theorem qbeg {W : Wd} {P sd : Nat} (h2 : 2 ≤ P) (h6 : P ≤ 6) (h1 : 1 ≤ sd) (h7 : sd ≤ 7) (h14 : P * sd ≤ 14) : q_begin W (nI P) (nI sd) = (nI (P * sd), wRec W (sNew (wS W) P (ev sd P))) := by
  unfold q_begin
  rw [rl6_n h2 h6, if_neg, nt_nI (by omega), nt_nI (by omega), if_neg (by omega)]
  rintro (z | z | z)
  · cases z
  · exact nI_nlt h1 (by omega) z
  · exact nI_nlt h7 (by decide) z
theorem new_lf {S : St} {n c0 u : Nat} (h : StOk S) (h6 : n ≤ 6) (hc : c0 < 16 ^ (n + 1)) (hs : sm c0 (n + 1) = u) (h14 : u ≤ 14) : lf (c0 + lvb (sLv S)) = sLv S := by
  obtain ⟨a1, a2, a3, a4, a5, -⟩ := h
  have hI : Iv n 0 u c0 := ⟨Nat.div_eq_of_lt hc, hs⟩
  have hU := Iv_up (sLv S) h6 hI
  have e : lvb (sLv S) = sLv S * 16 ^ 7 := by
    unfold lvb
    by_cases q : sLv S = 1
    · rw [if_pos q, q]
    · rw [if_neg q, show sLv S = 0 by omega, Nat.zero_mul]
  have hU2 : Iv n ((sLv S + 2 * 0) * 16 ^ (6 - n)) u (c0 + lvb (sLv S)) := by
    rw [e, Nat.mul_zero, Nat.add_zero]
    rw [Nat.zero_add] at hU
    exact hU
  exact (Gd_mk hU2 a5 (by decide) h14 h6).2.1
theorem beg_lf {W : Wd} {P sd : Nat} (ok : wOk W) (h6 : P ≤ 6) (h7 : sd ≤ 7) (h14 : P * sd ≤ 14) : lf (ev sd P + lvb (sLv (wS W))) = sLv (wS W) := by
  have hlt := ev_lt (show sd < 16 by omega) P
  refine new_lf (u := P * sd) ok.1 h6 (Nat.lt_of_lt_of_le hlt (Nat.pow_le_pow_right (by decide) (Nat.le_succ _))) ?_ h14
  rw [sm_up hlt, sm_ev (by omega) P P (Nat.le_refl _), Nat.mul_comm]
theorem div14 : ∀ P, P < 7 → 2 ≤ P → nI 14 / nI P = nI (14 / P) ∧ 14 / P ≤ 7 ∧ 0 < 14 / P ∧ P * (14 / P) ≤ 14 := by decide
theorem taK {Φ : oz_C} {N0 N : Nat} {G0 G : oz_G} {R : oz_R} {W : Wd} (s : Rn N0 G0 W N G R) (k : ∀ (N' : Nat) (G' : oz_G) (R' : oz_R) (J' : oz_J), Rn N0 G0 W N' G' R' → Φ (some (.int (nI 1))) N' G' R' J') : ∃ W, CR N G R W ∧ wOk W ∧ pQ N G W Φ (nI 1, W) := ⟨W, s.2.2.1, s.2.2.2, qK rfl s.2.2.2 s k⟩
def t_lawA (n : Nat) (xs : Nat → Int32) : oz_T := (P_L_law, e_L, [(54, 2, 1, 4702, s_X5_init)], (false, 0, none, true, 6000), (n + 1, xs))
def t_lawB (n : Nat) (xs : Nat → Int32) : oz_T := (P_L_law, e_L, [(55, 0, 2, 0, s_L_cell), (59, 0, 2, 0, s_L_low), (62, 1, 3, 0, s_X5_set), (65, 1, 3, 0, s_X5_begin), (9, 1, 2, 0, s_X5_count), (41, 1, 1, 0, s_X5_back), (68, 0, 1, 0, s_L_state), (72, 0, 2, 16, s_L_sown), (75, 0, 2, 0, s_L_exact), (45, 1, 3, 0, s_X5_exact), (48, 1, 3, 0, s_X5_loadExact), (51, 1, 2, 0, s_X5_best)], (false, 44, none, true, 6000), (n + 1, xs))
def lwF : oz_C := fun r _ _ _ _ => r = some (.int 1)
theorem sow_nn (a : Nat) (h : a < 2 ^ 31) : ¬ nI a < nI 0 := nI_nlt (Nat.zero_le _) h
section LAWB
variable {n : Nat} {xs : Nat → Int32} {A : oz_Y}
theorem law_375 (hH : ∀ S, StOk S → sHb S) (hC : oz_Cl (t_lawB n xs) lwF A) {t : Nat} (v3 v4 v5 v6 v7 : Option Value) (N : Nat) (G : oz_G) (R : oz_R) (J : oz_J) (k : Nat) (W : Wd) (c0 : CR N G R W) (ok : wOk W) : A 375 [some (.retAddr 0), some (.ref 0), some (.int (nI t)), v3, v4, v5, v6, v7] [] N G R J k := by
  have b1 : q_begin W (nI 7) (nI 1) = (oz_c (-2), W) := by unfold q_begin; rw [if_pos (Or.inl (by decide))]
  have b2 : q_begin W (nI 2) (nI 8) = (oz_c (-2), W) := by unfold q_begin; rw [if_pos (Or.inr (Or.inr (by decide)))]
  have b3 : q_begin W (nI 3) (nI 5) = (oz_c (-4), W) := by
    unfold q_begin
    rw [if_neg (by decide), if_pos (by decide)]
  have b4 : q_set W (nI 3) (nI 0) = (oz_c (-2), W) := by unfold q_set; rw [if_pos (Or.inl (Or.inr (by decide)))]
  have b5 : q_set W (nI 0) (nI 2) = (oz_c (-2), W) := by unfold q_set; rw [if_pos (Or.inr (Or.inr (by decide)))]
  have b6 : q_exact W (nI 15) (nI 1) = (oz_c (-2), W) := by unfold q_exact; rw [if_pos (Or.inl (Or.inr (by decide)))]
  have b7 : q_exact W (nI 1) (nI 7) = (oz_c (-2), W) := by unfold q_exact; rw [if_pos (Or.inr (Or.inr (by decide)))]
  have b8 : q_loadExact W (nI 1) (nI 1) = (oz_c (-2), W) := by unfold q_loadExact; rw [if_pos (Or.inl (by decide))]
  have b9 : q_best W (nI 4) = (oz_c (-2), W) := by unfold q_best; rw [if_pos (Or.inr (by decide))]
  have b10 : q_count W (nI 14) = (oz_c (-2), W) := by unfold q_count; rw [if_pos (Or.inr (by decide))]
  exact hC.1 [] 120 375 _ _ _ _ _ _ _ (bgK b1 (Rn_0 c0 ok) fun N1 G1 R1 J1 s1 => ⟨fun z => absurd rfl z, fun _ => bgK b2 s1 fun N2 G2 R2 J2 s2 => ⟨fun z => absurd rfl z, fun _ => bgK b3 s2 fun N3 G3 R3 J3 s3 => ⟨fun z => absurd rfl z, fun _ => stK b4 s3 fun N4 G4 R4 J4 s4 => ⟨fun z => absurd rfl z, fun _ => stK b5 s4 fun N5 G5 R5 J5 s5 => ⟨fun z => absurd rfl z, fun _ => exK b6 s5 fun N6 G6 R6 J6 s6 => ⟨fun z => absurd rfl z, fun _ => exK b7 s6 fun N7 G7 R7 J7 s7 => ⟨fun z => absurd rfl z, fun _ => leK b8 s7 fun N8 G8 R8 J8 s8 => ⟨fun z => absurd rfl z, fun _ => beK (hH _ ok.1) b9 s8 fun N9 G9 R9 J9 s9 => ⟨fun z => absurd rfl z, fun _ => ctK b10 s9 fun Na Ga Ra Ja sa => ⟨fun z => absurd rfl z, fun _ => ⟨Or.inr rfl, rfl⟩⟩⟩⟩⟩⟩⟩⟩⟩⟩⟩)
theorem law_342 (hH : ∀ S, StOk S → sHb S) (hC : oz_Cl (t_lawB n xs) lwF A) {t K P : Nat} (ht : t < 4) (h10 : ∀ (v3 v4 v5 v6 v7 : Option Value) (N : Nat) (G : oz_G) (R : oz_R) (J : oz_J) (k : Nat) (W : Wd), k ≤ K → CR N G R W → wOk W → A 10 [some (.retAddr 0), some (.ref 0), some (.int (nI (t + 1))), v3, v4, v5, v6, v7] [] N G R J k) (v3 v5 v6 v7 : Option Value) (N : Nat) (G : oz_G) (R : oz_R) (J : oz_J) (k : Nat) (W : Wd) (hk : k ≤ K) (c0 : CR N G R W) (ok : wOk W) : A 342 [some (.retAddr 0), some (.ref 0), some (.int (nI t)), v3, some (.int (nI P)), v5, v6, v7] [] N G R J k := by
  refine hC.1 [10] 60 342 _ _ _ _ _ _ _ ⟨⟨16 * t + 14, by show nI 16 * nI t + nI 14 = _; rw [pk_mul, nI_add], by omega⟩, fun v => ⟨14, rfl, by decide, by decide, fun r hr => ⟨W, 1 + r, c0, ok, hH, nI_add 1 r, by omega, by omega, fun W' N' G' R' J' hN' c' ok' => ⟨fun _ => ?_, fun z => absurd (show ¬ nI 1 = nI 0 by decide) z⟩⟩⟩⟩
  have hh := h10 v3 (some (.int (nI P))) v5 v6 v7 N' G' R' J' k W' hk c' ok'
  rw [← nI_add t 1] at hh
  exact hh
theorem law_336 (hC : oz_Cl (t_lawB n xs) lwF A) {t K P sd i : Nat} {v3 : Option Value} (h191 : ∀ (v7 : Option Value) (N : Nat) (G : oz_G) (R : oz_R) (J : oz_J) (k : Nat) (W : Wd), k ≤ K → CR N G R W → wOk W → A 191 [some (.retAddr 0), some (.ref 0), some (.int (nI t)), v3, some (.int (nI P)), some (.int (nI sd)), some (.int (nI (i + 1))), v7] [] N G R J k) (v7 : Option Value) (N : Nat) (G : oz_G) (R : oz_R) (J : oz_J) (k : Nat) (W : Wd) (hk : k ≤ K) (c0 : CR N G R W) (ok : wOk W) : A 336 [some (.retAddr 0), some (.ref 0), some (.int (nI t)), v3, some (.int (nI P)), some (.int (nI sd)), some (.int (nI i)), v7] [] N G R J k := by
  have hh := h191 v7 N G R J k W hk c0 ok
  rw [← nI_add i 1] at hh
  exact hC.1 [191] 30 336 _ _ _ _ _ _ _ hh
theorem law_290 (hC : oz_Cl (t_lawB n xs) lwF A) {t K P sd i : Nat} {v3 : Option Value} (h191 : ∀ (v7 : Option Value) (N : Nat) (G : oz_G) (R : oz_R) (J : oz_J) (k : Nat) (W : Wd), k ≤ K → CR N G R W → wOk W → A 191 [some (.retAddr 0), some (.ref 0), some (.int (nI t)), v3, some (.int (nI P)), some (.int (nI sd)), some (.int (nI (i + 1))), v7] [] N G R J k) (vv : Int32) (N : Nat) (G : oz_G) (R : oz_R) (J : oz_J) (k : Nat) (W : Wd) (hk : k ≤ K) (c0 : CR N G R W) (ok : wOk W) : A 290 [some (.retAddr 0), some (.ref 0), some (.int (nI t)), v3, some (.int (nI P)), some (.int (nI sd)), some (.int (nI i)), some (.int (vv))] [] N G R J k := by
  have h16 := len16 ok
  refine hC.1 [336] 90 290 _ _ _ _ _ _ _ (ctK (qc 3 (by decide)) (Rn_0 c0 ok) fun N1 G1 R1 J1 s1 => ⟨fun _ => law_336 hC h191 _ _ _ _ _ _ W hk s1.2.2.1 ok, fun _ => ⟨2, rfl, by decide, by decide, fun r hr => ⟨fun _ => law_336 hC h191 _ _ _ _ _ _ W hk s1.2.2.1 ok, fun _ => ctK (qc 6 (by decide)) s1 fun N2 G2 R2 J2 s2 => ⟨fun _ => law_336 hC h191 _ _ _ _ _ _ W hk s2.2.2.1 ok, fun q => ?_⟩⟩⟩⟩)
  have q : ¬ nI (sK (wS W)).length ≤ nI 0 := q
  rw [nI_leI (by omega) (by decide)] at q
  obtain ⟨kp, Kr, eK⟩ : ∃ kp Kr, sK (wS W) = kp :: Kr := by
    cases z : sK (wS W) with
    | nil => rw [z] at q; exact absurd (Nat.le_refl _) q
    | cons a b => exact ⟨a, b, rfl⟩
  have hb : q_back W = (nI kp.1, wRec W (sN (wS W), sRl (wS W), sEx (wS W), sLv (wS W), kp.2.2, Kr)) := by
    unfold q_back
    rw [eK]
  obtain ⟨u, hu, hg, hK⟩ := ok.1.2.2.2.2.2
  rw [eK] at hK
  have h6 := ok.1.2.1
  have hlt : kp.1 < 2 ^ 31 := by have := hK.2.2.2.1; omega
  exact bkK hb s2 fun N3 G3 R3 J3 s3 => ⟨fun z => absurd z (sow_nn _ hlt), fun _ => taK s3 fun N4 G4 R4 J4 s4 => ⟨fun _ => law_336 hC h191 _ _ _ _ _ _ _ hk s4.2.2.1 s4.2.2.2, fun z => absurd z (show ¬ ¬ ¬ nI 1 = nI 0 from fun q => q (by decide))⟩⟩
theorem law_271 (hC : oz_Cl (t_lawB n xs) lwF A) {t K P sd i b : Nat} {v3 : Option Value} (hP : 2 ≤ P ∧ P ≤ 6) (hb : b ≤ 1) (hK : K ≤ 6000) (h191 : ∀ (v7 : Option Value) (N : Nat) (G : oz_G) (R : oz_R) (J : oz_J) (k : Nat) (W : Wd), k ≤ K → CR N G R W → wOk W → A 191 [some (.retAddr 0), some (.ref 0), some (.int (nI t)), v3, some (.int (nI P)), some (.int (nI sd)), some (.int (nI (i + 1))), v7] [] N G R J k) (vv : Int32) (N : Nat) (G : oz_G) (R : oz_R) (J : oz_J) (k : Nat) (W : Wd) (hk : k + 16 ≤ K) (c0 : CR N G R W) (ok : wOk W) : A 271 [some (.retAddr 0), some (.ref 0), some (.int (nI t)), v3, some (.int (nI P)), some (.int (nI sd)), some (.int (nI i)), some (.int (vv))] [.int (nI b), .int (nI P), .int vv, .ref 0] N G R J k :=
  hC.1 [290] 60 271 _ _ _ _ _ _ _ ⟨P + b, nI_add P b, by omega, by omega, fun r hr => ⟨show k + 16 ≤ 6000 by omega, W, r, c0, ok, rfl, by omega, fun W' N' G' R' J' hN' c' ok' => ⟨fun z => absurd z (show ¬ nI 1 = nI 0 by decide), fun _ => taK (Rn_0 c' ok') fun N2 G2 R2 J2 s2 => ⟨fun _ => law_290 hC h191 vv N2 G2 R2 J2 _ W' hk s2.2.2.1 s2.2.2.2, fun z => absurd z (show ¬ ¬ ¬ nI 1 = nI 0 from fun q => q (by decide))⟩⟩⟩⟩
theorem law_248 (hC : oz_Cl (t_lawB n xs) lwF A) {t K P sd i : Nat} {v3 : Option Value} (hP : 2 ≤ P ∧ P ≤ 6) (hK : K ≤ 6000) (h191 : ∀ (v7 : Option Value) (N : Nat) (G : oz_G) (R : oz_R) (J : oz_J) (k : Nat) (W : Wd), k ≤ K → CR N G R W → wOk W → A 191 [some (.retAddr 0), some (.ref 0), some (.int (nI t)), v3, some (.int (nI P)), some (.int (nI sd)), some (.int (nI (i + 1))), v7] [] N G R J k) (vv : Int32) (N : Nat) (G : oz_G) (R : oz_R) (J : oz_J) (k : Nat) (W : Wd) (hk : k + 16 ≤ K) (c0 : CR N G R W) (ok : wOk W) : A 248 [some (.retAddr 0), some (.ref 0), some (.int (nI t)), v3, some (.int (nI P)), some (.int (nI sd)), some (.int (nI i)), some (.int (vv))] [] N G R J k :=
  hC.1 [271] 60 248 _ _ _ _ _ _ _ ⟨8, rfl, by decide, by decide, fun r hr => ⟨fun _ => law_271 (b := 0) hC hP (by decide) hK h191 vv N G R J k W hk c0 ok, fun _ => law_271 (b := 1) hC hP (by decide) hK h191 vv N G R J k W hk c0 ok⟩⟩
theorem law_198 (hC : oz_Cl (t_lawB n xs) lwF A) {t K P sd i : Nat} {v3 : Option Value} (ht : t < 4) (hi : i < 12) (hP : 2 ≤ P ∧ P ≤ 6) (hK : K ≤ 6000) (h191 : ∀ (v7 : Option Value) (N : Nat) (G : oz_G) (R : oz_R) (J : oz_J) (k : Nat) (W : Wd), k ≤ K → CR N G R W → wOk W → A 191 [some (.retAddr 0), some (.ref 0), some (.int (nI t)), v3, some (.int (nI P)), some (.int (nI sd)), some (.int (nI (i + 1))), v7] [] N G R J k) (v7 : Option Value) (N : Nat) (G : oz_G) (R : oz_R) (J : oz_J) (k : Nat) (W : Wd) (hk : k + 16 ≤ K) (c0 : CR N G R W) (ok : wOk W) : A 198 [some (.retAddr 0), some (.ref 0), some (.int (nI t)), v3, some (.int (nI P)), some (.int (nI sd)), some (.int (nI i)), v7] [] N G R J k := by
  refine hC.1 [248] 90 198 _ _ _ _ _ _ _ ⟨⟨16 * t + 1 + i, by show nI 16 * nI t + nI 1 + nI i = _; rw [pk_mul, nI_add, nI_add], by omega⟩, fun v => ⟨9, rfl, by decide, by decide, fun r hr => ⟨fun _ => law_248 hC hP hK h191 v N G R J k W hk c0 ok, fun _ => ⟨2, rfl, by decide, by decide, fun r2 hr2 => ⟨2, rfl, by decide, by decide, fun r3 hr3 => stK (qset (show r2 ≤ 2 by omega) (show r3 ≤ 1 by omega)) (Rn_0 c0 ok) fun N2 G2 R2 J2 s2 => ⟨fun _ => law_248 hC hP hK h191 v N2 G2 R2 J2 k _ hk s2.2.2.1 s2.2.2.2, fun z => absurd ?_ z⟩⟩⟩⟩⟩⟩
  obtain ⟨g1, g2, g3, g4, g5, -⟩ := ok.1
  have hg : sGet (wS W) r2 ≤ 1 := by
    unfold sGet
    split
    · exact g3
    · split
      · exact g4
      · exact g5
  exact Int32.not_lt.mp (sow_nn _ (by omega))
theorem law_191 (hH : ∀ S, StOk S → sHb S) (hC : oz_Cl (t_lawB n xs) lwF A) {t K P sd : Nat} (ht : t < 4) (hP : 2 ≤ P ∧ P ≤ 6) (hK : K ≤ 6000) (h10 : ∀ (v3 v4 v5 v6 v7 : Option Value) (N : Nat) (G : oz_G) (R : oz_R) (J : oz_J) (k : Nat) (W : Wd), k ≤ K → CR N G R W → wOk W → A 10 [some (.retAddr 0), some (.ref 0), some (.int (nI (t + 1))), v3, v4, v5, v6, v7] [] N G R J k) (v3 : Option Value) : ∀ f i, i + f = 12 → ∀ (v7 : Option Value) (N : Nat) (G : oz_G) (R : oz_R) (J : oz_J) (k : Nat) (W : Wd), k + 16 * f ≤ K → CR N G R W → wOk W → A 191 [some (.retAddr 0), some (.ref 0), some (.int (nI t)), v3, some (.int (nI P)), some (.int (nI sd)), some (.int (nI i)), v7] [] N G R J k := by
  intro f
  induction f with
  | zero =>
    intro i hi v7 N G R J k W hk c0 ok
    have hi : i = 12 := by omega
    subst hi
    exact hC.1 [342] 30 191 _ _ _ _ _ _ _ ⟨fun _ => law_342 hH hC ht h10 v3 (some (.int (nI sd))) (some (.int (nI 12))) v7 N G R J k W hk c0 ok, fun q => absurd (show nI 12 ≤ nI 12 by decide) q⟩
  | succ f ih =>
    intro i hi v7 N G R J k W hk c0 ok
    exact hC.1 [198] 30 191 _ _ _ _ _ _ _ ⟨fun q => absurd q (nI_ge (show i < 12 by omega) (by decide)), fun _ => law_198 (K := K - 16 * f) hC ht (by omega) hP (by omega) (fun v7 N G R J k W h1 h2 h3 => ih (i + 1) (by omega) v7 N G R J k W (by omega) h2 h3) v7 N G R J k W (by omega) c0 ok⟩
theorem law_112 (hH : ∀ S, StOk S → sHb S) (hC : oz_Cl (t_lawB n xs) lwF A) {t K P sd : Nat} (ht : t < 4) (hP : 2 ≤ P ∧ P ≤ 6) (h1 : 1 ≤ sd) (h7 : sd ≤ 7) (h14 : P * sd ≤ 14) (hK : K ≤ 6000) (h10 : ∀ (v3 v4 v5 v6 v7 : Option Value) (N : Nat) (G : oz_G) (R : oz_R) (J : oz_J) (k : Nat) (W : Wd), k ≤ K → CR N G R W → wOk W → A 10 [some (.retAddr 0), some (.ref 0), some (.int (nI (t + 1))), v3, v4, v5, v6, v7] [] N G R J k) (v3 v6 v7 : Option Value) (N : Nat) (G : oz_G) (R : oz_R) (J : oz_J) (k : Nat) (W : Wd) (hk : k + 192 ≤ K) (c0 : CR N G R W) (ok : wOk W) : A 112 [some (.retAddr 0), some (.ref 0), some (.int (nI t)), v3, some (.int (nI P)), some (.int (nI sd)), v6, v7] [] N G R J k := by
  have hl := beg_lf ok hP.2 h7 h14
  exact hC.1 [191] 120 112 _ _ _ _ _ _ _ (bgK (qbeg hP.1 hP.2 h1 h7 h14) (Rn_0 c0 ok) fun N1 G1 R1 J1 s1 => ⟨fun z => absurd (pk_mul P sd).symm z, fun _ => ctK (qc 4 (by decide)) s1 fun N2 G2 R2 J2 s2 => ctK (qc 11 (by decide)) s2 fun N3 G3 R3 J3 s3 => ⟨fun z => absurd (show nI (lf (ev sd P + lvb (sLv (wS W)))) = nI (sLv (wS W)) by rw [hl]) z, fun _ => ctK (qc 5 (by decide)) s3 fun N4 G4 R4 J4 s4 => ⟨fun z => absurd rfl z, fun _ => ctK (qc 6 (by decide)) s4 fun N5 G5 R5 J5 s5 => ⟨fun z => absurd rfl z, fun _ => ctK (qc 7 (by decide)) s5 fun N6 G6 R6 J6 s6 => ⟨fun z => absurd rfl z, fun _ => bkK (show q_back (wRec W (sNew (wS W) P (ev sd P))) = (oz_c (-5), wRec W (sNew (wS W) P (ev sd P))) from rfl) s6 fun N7 G7 R7 J7 s7 => ⟨fun z => absurd rfl z, fun _ => taK s7 fun N8 G8 R8 J8 s8 => ⟨fun _ => law_191 hH hC ht hP hK h10 v3 12 0 (by decide) _ N8 G8 R8 J8 k _ (by omega) s8.2.2.1 s8.2.2.2, fun z => absurd z (show ¬ ¬ ¬ nI 1 = nI 0 from fun q => q (by decide))⟩⟩⟩⟩⟩⟩⟩)
theorem law_98 (hH : ∀ S, StOk S → sHb S) (hC : oz_Cl (t_lawB n xs) lwF A) {t K P sd : Nat} (ht : t < 4) (hP : 2 ≤ P ∧ P ≤ 6) (h1 : 1 ≤ sd) (h7 : sd ≤ 7) (h14 : P * sd ≤ 14) (hK : K ≤ 6000) (h10 : ∀ (v3 v4 v5 v6 v7 : Option Value) (N : Nat) (G : oz_G) (R : oz_R) (J : oz_J) (k : Nat) (W : Wd), k ≤ K → CR N G R W → wOk W → A 10 [some (.retAddr 0), some (.ref 0), some (.int (nI (t + 1))), v3, v4, v5, v6, v7] [] N G R J k) (g : Int32) (v6 v7 : Option Value) (N : Nat) (G : oz_G) (R : oz_R) (J : oz_J) (k : Nat) (W : Wd) (hk : k + 192 ≤ K) (c0 : CR N G R W) (ok : wOk W) : A 98 [some (.retAddr 0), some (.ref 0), some (.int (nI t)), some (.int (g)), some (.int (nI P)), some (.int (nI sd)), v6, v7] [] N G R J k :=
  hC.1 [112] 60 98 _ _ _ _ _ _ _ ⟨2, rfl, by decide, by decide, fun r hr => stK (qset (j := 2) (by decide) (show r ≤ 1 by omega)) (Rn_0 c0 ok) fun N1 G1 R1 J1 s1 => law_112 hH hC ht hP h1 h7 h14 hK h10 _ _ _ N1 G1 R1 J1 k _ hk s1.2.2.1 s1.2.2.2⟩
theorem law_66 (hH : ∀ S, StOk S → sHb S) (hC : oz_Cl (t_lawB n xs) lwF A) {t K P sd : Nat} (ht : t < 4) (hP : 2 ≤ P ∧ P ≤ 6) (h1 : 1 ≤ sd) (h7 : sd ≤ 7) (h14 : P * sd ≤ 14) (hK : K ≤ 6000) (h10 : ∀ (v3 v4 v5 v6 v7 : Option Value) (N : Nat) (G : oz_G) (R : oz_R) (J : oz_J) (k : Nat) (W : Wd), k ≤ K → CR N G R W → wOk W → A 10 [some (.retAddr 0), some (.ref 0), some (.int (nI (t + 1))), v3, v4, v5, v6, v7] [] N G R J k) (g : Int32) (v6 v7 : Option Value) (N : Nat) (G : oz_G) (R : oz_R) (J : oz_J) (k : Nat) (W : Wd) (hk : k + 192 ≤ K) (c0 : CR N G R W) (ok : wOk W) : A 66 [some (.retAddr 0), some (.ref 0), some (.int (nI t)), some (.int (g)), some (.int (nI P)), some (.int (nI sd)), v6, v7] [] N G R J k :=
  hC.1 [98] 60 66 _ _ _ _ _ _ _ ⟨2, rfl, by decide, by decide, fun r hr => stK (qset (j := 0) (by decide) (show r ≤ 1 by omega)) (Rn_0 c0 ok) fun N1 G1 R1 J1 s1 => ⟨4, rfl, by decide, by decide, fun r2 hr2 => ⟨fun _ => stK (qset (j := 1) (v := 0) (by decide) (by decide)) s1 fun N2 G2 R2 J2 s2 => law_98 hH hC ht hP h1 h7 h14 hK h10 g _ _ N2 G2 R2 J2 k _ hk s2.2.2.1 s2.2.2.2, fun _ => stK (qset (j := 1) (v := 1) (by decide) (by decide)) s1 fun N2 G2 R2 J2 s2 => law_98 hH hC ht hP h1 h7 h14 hK h10 g _ _ N2 G2 R2 J2 k _ hk s2.2.2.1 s2.2.2.2⟩⟩⟩
theorem law_10 (hH : ∀ S, StOk S → sHb S) (hC : oz_Cl (t_lawB n xs) lwF A) : ∀ f t, t + f = 4 → ∀ (v3 v4 v5 v6 v7 : Option Value) (N : Nat) (G : oz_G) (R : oz_R) (J : oz_J) (k : Nat) (W : Wd), k + 192 * f ≤ 6000 → CR N G R W → wOk W → A 10 [some (.retAddr 0), some (.ref 0), some (.int (nI t)), v3, v4, v5, v6, v7] [] N G R J k := by
  intro f
  induction f with
  | zero =>
    intro t ht v3 v4 v5 v6 v7 N G R J k W hk c0 ok
    have ht : t = 4 := by omega
    subst ht
    exact hC.1 [375] 30 10 _ _ _ _ _ _ _ ⟨fun _ => law_375 hH hC _ _ _ _ _ N G R J k W c0 ok, fun q => absurd (show nI 4 ≤ nI 4 by decide) q⟩
  | succ f ih =>
    intro t ht v3 v4 v5 v6 v7 N G R J k W hk c0 ok
    refine hC.1 [66] 120 10 _ _ _ _ _ _ _ ⟨fun q => absurd q (nI_ge (show t < 4 by omega) (by decide)), fun _ => ⟨⟨16 * t, by show nI 16 * nI t = _; rw [pk_mul], by omega⟩, fun g => ⟨5, rfl, by decide, by decide, fun r hr => ?_⟩⟩⟩
    obtain ⟨d1, d2, d3, d4⟩ := div14 (2 + r) (by omega) (by omega)
    have e2 : nI 2 + nI r = nI (2 + r) := nI_add 2 r
    have hne : ¬ nI 2 + nI r = nI 0 := by rw [e2, nI_eq (by omega) (by decide)]; omega
    have hle : nI 14 / (nI 2 + nI r) ≤ nI 7 := by rw [e2, d1]; exact nI_le d2 (by decide)
    refine ⟨hne, fun _ => ⟨hne, 14 / (2 + r), by show nI 14 / (nI 2 + nI r) = _; rw [e2, d1], d3, by omega, fun r2 hr2 => ?_⟩, fun q => absurd hle q⟩
    have hm : (2 + r) * (1 + r2) ≤ (2 + r) * (14 / (2 + r)) := Nat.mul_le_mul_left _ (by omega)
    have hf := law_66 hH hC (t := t) (K := k + 192) (P := 2 + r) (sd := 1 + r2) (by omega) (by omega) (by omega) (by omega) (by omega) (by omega) (fun v3 v4 v5 v6 v7 N G R J k' W h1 h2 h3 => ih (t + 1) (by omega) v3 v4 v5 v6 v7 N G R J k' W (by omega) h2 h3) g v6 v7 N G R J k W (Nat.le_refl _) c0 ok
    rw [← nI_add 2 r, ← nI_add 1 r2] at hf
    exact hf
end LAWB
