/-! the law's methods: sown, from behind -/
def t_L_sown : oz_T := (P_L_sown, e_L, [(9, 1, 2, 0, s_X5_count), (27, 1, 2, 0, s_X5_sow), (30, 1, 3, 0, s_X5_ifSown), (34, 1, 3, 0, s_X5_ifSownHas), (18, 0, 2, 0, s_L_canSow), (15, 1, 2, 0, s_X5_pit), (37, 0, 2, 0, s_L_same), (24, 1, 2, 0, s_X5_move), (41, 1, 1, 0, s_X5_back)], (false, 44, none, true, 16), (0, fun _ => 0))
def s_L_sown : oz_S := oz_t1 0 fun x N G R J Φ => ∃ W p, CR N G R W ∧ wOk W ∧ x = nI p ∧ p < 2 ^ 31 ∧ ∀ (W' : Wd) (N' : Nat) (G' : oz_G) (R' : oz_R) (J' : oz_J), N ≤ N' → CR N' G' R' W' → wOk W' → Φ (some (.int (nI 1))) N' G' R' J'
def SwX (S : St) (b p N1 : Nat) (G1 : oz_G) : Prop := StOk S ∧ 44 ≤ b ∧ b + 1 < N1 ∧ ArH b (sN S) (sMd S p) (sC S) G1 ∧ p < sN S ∧ lg (sN S) (sEx S) (sC S) p = 1 ∧ hw (sN S) (sEx S) (sC S) = 0
theorem sx_at {S : St} {b p N1 N : Nat} {G1 G : oz_G} {R : oz_R} {W : Wd} (hx : SwX S b p N1 G1) (s : Rn N1 G1 W N G R) : ArH b (sN S) (sMd S p) (sC S) G := ArH_fr hx.2.1 hx.2.2.2.1 s
theorem sx_0 {S : St} {b p N1 N : Nat} {G1 G : oz_G} {R : oz_R} {W : Wd} (hx : SwX S b p N1 G1) (s : Rn N1 G1 W N G R) : (oz_k b = 6 ∧ b < N) ∧ (oz_k (b + 1) = 6 ∧ b + 1 < N) := by
  have h1 := hx.2.1
  have h2 := hx.2.2.1
  have h3 := s.1
  exact ⟨⟨ar_k h1, by omega⟩, ar_k (by omega), by omega⟩
theorem sx_l {S : St} {b p N1 j : Nat} {G1 : oz_G} (hx : SwX S b p N1 G1) (hj : j ≤ sN S) : j < oz_l b ∧ j < oz_l (b + 1) := by
  have h1 := hx.2.1
  have h6 := hx.1.2.1
  rw [ar_l h1, ar_l (by omega)]
  omega
theorem sx_M {S : St} {b p N1 N : Nat} {G1 G : oz_G} {R : oz_R} {W : Wd} (hx : SwX S b p N1 G1) (s : Rn N1 G1 W N G R) : ∀ k, k ≤ sN S → G b k = nI (dg (sCc S p) k) := fun k hk => by
  rw [(sx_at hx s k hk).1, (sw_f hx.1 hx.2.2.2.2.1 hx.2.2.2.2.2.1).2.2.1 k hk]
theorem sx_C {S : St} {b p N1 N : Nat} {G1 G : oz_G} {R : oz_R} {W : Wd} (hx : SwX S b p N1 G1) (s : Rn N1 G1 W N G R) : ∀ k, k ≤ sN S → G (b + 1) k = nI (dg (sC S) k) := fun k hk => (sx_at hx s k hk).2
theorem sx_g {S : St} {b p N1 N : Nat} {G1 G : oz_G} {R : oz_R} {W : Wd} (hx : SwX S b p N1 G1) (s : Rn N1 G1 W N G R) : nI (sGn S p) = G b (sN S) - G (b + 1) (sN S) := by
  rw [(sx_at hx s _ (Nat.le_refl _)).1, (sx_at hx s _ (Nat.le_refl _)).2, pk_sub (sw_f hx.1 hx.2.2.2.2.1 hx.2.2.2.2.2.1).2.2.2.1]
  rfl
theorem qb_y {W : Wd} {S : St} {p : Nat} (e : wS W = sMv S p) : q_back W = (nI p, wRec W S) := by
  unfold q_back
  rw [e]
  rfl
theorem sown_616 {Φ : oz_C} {A : oz_Y} (hC : oz_Cl t_L_sown Φ A) {S : St} {b p N1 : Nat} {G1 : oz_G} (hx : SwX S b p N1 G1) (dn : ∀ (W : Wd) (N : Nat) (G : oz_G) (R : oz_R) (J : oz_J), N1 ≤ N → CR N G R W → wOk W → Φ (some (.int (nI 1))) N G R J) {W : Wd} (e : wS W = S) {N : Nat} {G : oz_G} {R : oz_R} {J : oz_J} (s : Rn N1 G1 W N G R) (v3 v6 v7 v8 v9 v10 v11 v13 v14 : Option Value) : A 616 [some (.ref 0), some (.int (nI p)), some (.int (nI (sN S))), v3, some (.ref b), some (.ref (b + 1)), v6, v7, v8, v9, v10, v11, some (.int (nI (hw (sN S) (sEx S) (sCc S p)))), v13, v14] [] N G R J 16 := by
  subst e
  have h6 := hx.1.2.1
  exact hC.1 [] 90 616 _ _ _ _ _ _ _ (swK (qs_y s.2.2.2 hx.2.2.2.2.1 hx.2.2.2.2.2.1) s fun N2 G2 R2 J2 s2 => ⟨(sx_0 hx s2).1, sN (wS W), rfl, (sx_l hx (Nat.le_refl _)).1, (sx_0 hx s2).2, sN (wS W), rfl, (sx_l hx (Nat.le_refl _)).2, fun z => absurd (sx_g hx s2) z, fun _ => smK hx.2.1 (Nat.lt_of_succ_lt hx.2.2.1) (sx_M hx s2) s2 fun N3 G3 R3 J3 s3 => ⟨fun z => absurd z (show ¬ nI 1 = nI 0 by decide), fun _ => ctK (qc 3 (by decide)) s3 fun N4 G4 R4 J4 s4 => ⟨fun z => absurd rfl z, fun _ => ⟨Or.inr rfl, dn _ N4 G4 R4 J4 s4.1 s4.2.2.1 s4.2.2.2⟩⟩⟩⟩)
theorem sown_569 {Φ : oz_C} {A : oz_Y} (hC : oz_Cl t_L_sown Φ A) {S : St} {b p N1 : Nat} {G1 : oz_G} (hx : SwX S b p N1 G1) (dn : ∀ (W : Wd) (N : Nat) (G : oz_G) (R : oz_R) (J : oz_J), N1 ≤ N → CR N G R W → wOk W → Φ (some (.int (nI 1))) N G R J) {W : Wd} (e : wS W = sMv S p) {N : Nat} {G : oz_G} {R : oz_R} {J : oz_J} (s : Rn N1 G1 W N G R) (v3 v6 v7 v8 v10 v11 v14 : Option Value) : A 569 [some (.ref 0), some (.int (nI p)), some (.int (nI (sN S))), v3, some (.ref b), some (.ref (b + 1)), v6, v7, v8, some (.int (nI (lf (sC S)))), v10, v11, some (.int (nI (hw (sN S) (sEx S) (sCc S p)))), some (.int (nI (sK S).length)), v14] [] N G R J 16 := by
  have h6 := hx.1.2.1
  exact hC.1 [616] 90 569 _ _ _ _ _ _ _ (bkK (qb_y e) s fun N2 G2 R2 J2 s2 => ⟨fun z => absurd rfl z, fun _ => smK (W := wRec W S) (Nat.le_succ_of_le hx.2.1) hx.2.2.1 (sx_C hx s2) s2 fun N3 G3 R3 J3 s3 => ⟨fun z => absurd z (show ¬ nI 1 = nI 0 by decide), fun _ => ctK (qc 3 (by decide)) s3 fun N4 G4 R4 J4 s4 => ⟨fun z => absurd (show nI (hw (sN S) (sEx S) (sC S)) = nI 0 by rw [hx.2.2.2.2.2.2]) z, fun _ => ctK (qc 4 (by decide)) s4 fun N5 G5 R5 J5 s5 => ⟨fun z => absurd rfl z, fun _ => ctK (qc 5 (by decide)) s5 fun N6 G6 R6 J6 s6 => ⟨fun _ => sown_616 hC hx dn rfl s6 _ _ _ _ _ _ _ _ _, fun z => absurd rfl z⟩⟩⟩⟩⟩)
theorem sown_513 {Φ : oz_C} {A : oz_Y} (hC : oz_Cl t_L_sown Φ A) {S : St} {b p N1 : Nat} {G1 : oz_G} (hx : SwX S b p N1 G1) (dn : ∀ (W : Wd) (N : Nat) (G : oz_G) (R : oz_R) (J : oz_J), N1 ≤ N → CR N G R W → wOk W → Φ (some (.int (nI 1))) N G R J) {W : Wd} (e : wS W = sMv S p) {N : Nat} {G : oz_G} {R : oz_R} {J : oz_J} (s : Rn N1 G1 W N G R) (v3 v6 v8 v10 v11 : Option Value) : A 513 [some (.ref 0), some (.int (nI p)), some (.int (nI (sN S))), v3, some (.ref b), some (.ref (b + 1)), v6, some (.int (nI (sLp S p))), v8, some (.int (nI (lf (sC S)))), v10, v11, some (.int (nI (hw (sN S) (sEx S) (sCc S p)))), some (.int (nI (sK S).length)), some (.int (nI (sK S).length))] [] N G R J 16 := by
  have h6 := hx.1.2.1
  have eN : sN (wS W) = sN S := by rw [e]; rfl
  have eC : sC (wS W) = sCc S p := by rw [e]; rfl
  have eK : sK (wS W) = (p, sLp S p, sC S) :: sK S := by rw [e]; rfl
  have h16 := len16 s.2.2.2
  rw [eK, List.length_cons] at h16
  have e7 : q_count W (nI 7) = (nI (sLp S p), W) := by
    rw [qc 7 (by decide)]
    show ((match sK (wS W) with
      | [] => oz_c (-6)
      | k :: _ => nI k.2.1), W) = _
    rw [eK]
  have e6 : q_count W (nI 6) = (nI ((sK S).length + 1), W) := by
    rw [qc 6 (by decide)]
    show (nI (sK (wS W)).length, W) = _
    rw [eK]
    rfl
  refine hC.1 [569] 90 513 _ _ _ _ _ _ _ (smK hx.2.1 (Nat.lt_of_succ_lt hx.2.2.1) (by rw [eN, eC]; exact sx_M hx s) s fun N3 G3 R3 J3 s3 => ⟨fun z => absurd z (show ¬ nI 1 = nI 0 by decide), fun _ => mvK (qm_0 eK s.2.2.2) s3 fun N4 G4 R4 J4 s4 => ⟨fun z => absurd rfl z, fun _ => ctK e7 s4 fun N5 G5 R5 J5 s5 => ⟨fun z => absurd rfl z, fun _ => ctK e6 s5 fun N6 G6 R6 J6 s6 => ⟨fun _ => ⟨fun _ => sown_569 hC hx dn e s6 _ _ _ _ _ _ _, fun z => absurd (nI_add _ 1).symm z⟩, fun z => absurd ?_ z⟩⟩⟩⟩)
  show ¬ nI (sK S).length = nI 20
  rw [nI_eq (by omega) (by decide)]
  omega
theorem sown_499 {Φ : oz_C} {A : oz_Y} (hC : oz_Cl t_L_sown Φ A) {S : St} {b p N1 : Nat} {G1 : oz_G} (hx : SwX S b p N1 G1) (dn : ∀ (W : Wd) (N : Nat) (G : oz_G) (R : oz_R) (J : oz_J), N1 ≤ N → CR N G R W → wOk W → Φ (some (.int (nI 1))) N G R J) {W : Wd} (e : wS W = sMv S p) {N : Nat} {G : oz_G} {R : oz_R} {J : oz_J} (s : Rn N1 G1 W N G R) (v3 v6 v8 : Option Value) : A 499 [some (.ref 0), some (.int (nI p)), some (.int (nI (sN S))), v3, some (.ref b), some (.ref (b + 1)), v6, some (.int (nI (sLp S p))), v8, some (.int (nI (lf (sC S)))), some (.int (nI (sWr S p))), some (.int (nI (sLs S p))), some (.int (nI (hw (sN S) (sEx S) (sCc S p)))), some (.int (nI (sK S).length)), some (.int (nI (sK S).length))] [] N G R J 16 := by
  have e5 : q_count W (nI 5) = (nI ((sK S).length + 1), W) := by
    rw [qc 5 (by decide)]
    show (nI (sK (wS W)).length, W) = _
    rw [e]
    rfl
  exact hC.1 [513] 40 499 _ _ _ _ _ _ _ (ctK e5 s fun N2 G2 R2 J2 s2 => ⟨fun _ => sown_513 hC hx dn e s2 _ _ _ _ _, fun z => absurd (nI_add _ 1).symm z⟩)
theorem sown_472 {Φ : oz_C} {A : oz_Y} (hC : oz_Cl t_L_sown Φ A) {S : St} {b p N1 : Nat} {G1 : oz_G} (hx : SwX S b p N1 G1) (dn : ∀ (W : Wd) (N : Nat) (G : oz_G) (R : oz_R) (J : oz_J), N1 ≤ N → CR N G R W → wOk W → Φ (some (.int (nI 1))) N G R J) {W : Wd} (e : wS W = sMv S p) {N : Nat} {G : oz_G} {R : oz_R} {J : oz_J} (s : Rn N1 G1 W N G R) (v3 v6 v8 : Option Value) : A 472 [some (.ref 0), some (.int (nI p)), some (.int (nI (sN S))), v3, some (.ref b), some (.ref (b + 1)), v6, some (.int (nI (sLp S p))), v8, some (.int (nI (lf (sC S)))), some (.int (nI (sWr S p))), some (.int (nI (sLs S p))), some (.int (nI (hw (sN S) (sEx S) (sCc S p)))), some (.int (nI (sK S).length)), some (.int (nI (sK S).length))] [] N G R J 16 := by
  obtain ⟨f1, f2, f3, f4, f5, f6, f7, f8⟩ := sw_f hx.1 hx.2.2.2.2.1 hx.2.2.2.2.2.1
  have hlf := lf_le (c := sC S)
  have e4 : q_count W (nI 4) = (nI (lf (sCc S p)), W) := by
    rw [qc 4 (by decide)]
    show (nI (lf (sC (wS W))), W) = _
    rw [e]
    rfl
  refine hC.1 [499] 60 472 _ _ _ _ _ _ _ (ctK e4 s fun N2 G2 R2 J2 s2 => ⟨fun q => ⟨fun z => absurd ?_ z, fun _ => sown_499 hC hx dn e s2 _ _ _⟩, fun q => ⟨fun q2 => ⟨fun z => absurd ?_ z, fun _ => sown_499 hC hx dn e s2 _ _ _⟩, fun q2 => ⟨fun z => absurd ?_ z, fun _ => sown_499 hC hx dn e s2 _ _ _⟩⟩⟩)
  · have q : nI (sWr S p) = nI 0 := q
    rw [nI_eq (by have := sWr_le (S := S) (p := p); omega) (by decide)] at q
    show nI (lf (sCc S p)) = nI (lf (sC S))
    rw [f8, if_pos]
    unfold sWr at q
    by_cases z : sAt S p = sN S
    · exact z
    · rw [if_neg z] at q; cases q
  · have q : ¬ nI (sWr S p) = nI 0 := q
    have q2 : ¬ nI (sLs S p) = nI 0 := q2
    have z : ¬ sAt S p = sN S := fun z => q (by unfold sWr; rw [if_pos z])
    have z2 : lf (sC S) = 0 := by
      rcases Nat.eq_zero_or_pos (lf (sC S)) with y | y
      · exact y
      · exact absurd (by unfold sLs; rw [if_neg z, show 1 - lf (sC S) = 0 by omega]) q2
    show nI (lf (sCc S p)) = nI (lf (sC S))
    rw [f8, if_neg z, z2]
  · have q : ¬ nI (sWr S p) = nI 0 := q
    have q2 : ¬ ¬ nI (sLs S p) = nI 0 := q2
    have q2 := Classical.not_not.mp q2
    have z : ¬ sAt S p = sN S := fun z => q (by unfold sWr; rw [if_pos z])
    rw [nI_eq (by have := sLs_le (S := S) (p := p); omega) (by decide)] at q2
    unfold sLs at q2
    rw [if_neg z] at q2
    show nI (lf (sCc S p)) = nI (lf (sC S)) - nI 1
    rw [f8, if_neg z, show lf (sC S) = 1 by omega]
    rfl
theorem sown_414 {Φ : oz_C} {A : oz_Y} (hC : oz_Cl t_L_sown Φ A) {S : St} {b p N1 : Nat} {G1 : oz_G} (hx : SwX S b p N1 G1) (dn : ∀ (W : Wd) (N : Nat) (G : oz_G) (R : oz_R) (J : oz_J), N1 ≤ N → CR N G R W → wOk W → Φ (some (.int (nI 1))) N G R J) {W : Wd} (e : wS W = S) {N : Nat} {G : oz_G} {R : oz_R} {J : oz_J} (s : Rn N1 G1 W N G R) (v3 v6 v8 v13 v14 : Option Value) : A 414 [some (.ref 0), some (.int (nI p)), some (.int (nI (sN S))), v3, some (.ref b), some (.ref (b + 1)), v6, some (.int (nI (sLp S p))), v8, some (.int (nI (lf (sC S)))), some (.int (nI (sWr S p))), some (.int (nI (sLs S p))), some (.int (nI (hw (sN S) (sEx S) (sCc S p)))), v13, v14] [] N G R J 16 := by
  subst e
  obtain ⟨f1, f2, f3, f4, f5, f6, f7, f8⟩ := sw_f hx.1 hx.2.2.2.2.1 hx.2.2.2.2.2.1
  have hls := sLs_le (S := wS W) (p := p)
  have hwl := hw_le (n := sN (wS W)) (ex := sEx (wS W)) (c := sCc (wS W) p)
  refine hC.1 [472] 90 414 _ _ _ _ _ _ _ (ctK (qc 5 (by decide)) s fun N2 G2 R2 J2 s2 => ctK (qc 6 (by decide)) s2 fun N3 G3 R3 J3 s3 => swK (qs_y s.2.2.2 hx.2.2.2.2.1 hx.2.2.2.2.2.1) s3 fun N4 G4 R4 J4 s4 => ⟨(sx_0 hx s4).1, sN (wS W), rfl, (sx_l hx (Nat.le_refl _)).1, (sx_0 hx s4).2, sN (wS W), rfl, (sx_l hx (Nat.le_refl _)).2, fun z => absurd (sx_g hx s4) z, fun _ => ctK (qc 3 (by decide)) s4 fun N5 G5 R5 J5 s5 => ⟨fun z => absurd rfl z, fun _ => ⟨fun q => ⟨fun z => absurd ?_ z, fun _ => sown_472 hC hx dn rfl s5 _ _ _⟩, fun q => ⟨fun z => absurd ?_ z, fun _ => sown_472 hC hx dn rfl s5 _ _ _⟩⟩⟩⟩)
  · have q : ¬ nI (hw (sN (wS W)) (sEx (wS W)) (sCc (wS W) p)) = nI 2 := q
    rw [nI_eq (by omega) (by decide), hw_2, f7] at q
    show nI 0 = nI (sLs (wS W) p)
    rw [show sLs (wS W) p = 0 by omega]
  · have q : ¬ ¬ nI (hw (sN (wS W)) (sEx (wS W)) (sCc (wS W) p)) = nI 2 := q
    have q := Classical.not_not.mp q
    rw [nI_eq (by omega) (by decide), hw_2, f7] at q
    show nI 1 = nI (sLs (wS W) p)
    rw [q]
theorem sown_385 {Φ : oz_C} {A : oz_Y} (hC : oz_Cl t_L_sown Φ A) {S : St} {b p N1 : Nat} {G1 : oz_G} (hx : SwX S b p N1 G1) (dn : ∀ (W : Wd) (N : Nat) (G : oz_G) (R : oz_R) (J : oz_J), N1 ≤ N → CR N G R W → wOk W → Φ (some (.int (nI 1))) N G R J) {W : Wd} (e : wS W = S) (v3 v6 v8 v14 : Option Value) : ∀ f i, i + f = sN S + 1 → ∀ (N : Nat) (G : oz_G) (R : oz_R) (J : oz_J), Rn N1 G1 W N G R → A 385 [some (.ref 0), some (.int (nI p)), some (.int (nI (sN S))), v3, some (.ref b), some (.ref (b + 1)), v6, some (.int (nI (sLp S p))), v8, some (.int (nI (lf (sC S)))), some (.int (nI (sWr S p))), some (.int (nI (sLs S p))), some (.int (nI (hw (sN S) (sEx S) (sCc S p)))), some (.int (nI i)), v14] [] N G R J 16 := by
  subst e
  have h6 := hx.1.2.1
  obtain ⟨f1, f2, f3, f4, f5, f6, f7, f8⟩ := sw_f hx.1 hx.2.2.2.2.1 hx.2.2.2.2.2.1
  intro f
  induction f with
  | zero =>
    intro i hi N G R J s
    exact hC.1 [414] 40 385 _ _ _ _ _ _ _ ⟨fun _ => sown_414 hC hx dn rfl s _ _ _ _ _, fun q => absurd (nI_lt (show sN (wS W) < i by omega) (by omega)) q⟩
  | succ f ih =>
    intro i hi N G R J s
    refine hC.1 [385] 60 385 _ _ _ _ _ _ _ ⟨fun q => absurd q (nI_nlt (show i ≤ sN (wS W) by omega) (by omega)), fun _ => ihK (qh_y s.2.2.2 hx.2.2.2.2.1 (show i ≤ sN (wS W) by omega) hx.2.2.2.2.2.1) s fun N2 G2 R2 J2 s2 => ⟨(sx_0 hx s2).1, i, rfl, (sx_l hx (show i ≤ sN (wS W) by omega)).1, fun _ => ?_, fun z => absurd (sx_M hx s2 i (by omega)).symm z⟩⟩
    have hih := ih (i + 1) (by omega) N2 G2 R2 J2 s2
    rw [← nI_add i 1] at hih
    exact hih
theorem sIf_4 {S : St} {p : Nat} : sIf S p (nI 4) = nI (hw (sN S) (sEx S) (sCc S p)) := by
  unfold sIf
  rw [if_neg (by decide), if_neg (by decide), if_neg (by decide), if_neg (by decide)]
  rfl
theorem sIf_3 {S : St} {p : Nat} : sIf S p (nI 3) = nI (sWr S p) := by
  unfold sIf
  rw [if_neg (by decide), if_neg (by decide), if_neg (by decide), if_pos rfl]
  rfl
theorem sIf_2 {S : St} {p : Nat} : sIf S p (nI 2) = nI (sGn S p) := by
  unfold sIf
  rw [if_neg (by decide), if_neg (by decide), if_pos rfl]
theorem sIf_1 {S : St} {p : Nat} : sIf S p (nI 1) = nI (sLp S p) := by
  unfold sIf
  rw [if_neg (by decide), if_pos rfl]
  rfl
theorem sIf_0 {S : St} {p : Nat} : sIf S p (nI 0) = nI (sAt S p) := by
  unfold sIf
  rw [if_pos rfl]
  rfl
theorem sown_374 {Φ : oz_C} {A : oz_Y} (hC : oz_Cl t_L_sown Φ A) {S : St} {b p N1 : Nat} {G1 : oz_G} (hx : SwX S b p N1 G1) (dn : ∀ (W : Wd) (N : Nat) (G : oz_G) (R : oz_R) (J : oz_J), N1 ≤ N → CR N G R W → wOk W → Φ (some (.int (nI 1))) N G R J) {W : Wd} (e : wS W = S) {N : Nat} {G : oz_G} {R : oz_R} {J : oz_J} (s : Rn N1 G1 W N G R) (v3 v6 v8 v12 v13 v14 : Option Value) : A 374 [some (.ref 0), some (.int (nI p)), some (.int (nI (sN S))), v3, some (.ref b), some (.ref (b + 1)), v6, some (.int (nI (sLp S p))), v8, some (.int (nI (lf (sC S)))), some (.int (nI (sWr S p))), some (.int (nI (sLs S p))), v12, v13, v14] [] N G R J 16 := by
  subst e
  have hq := qi_y (j := 4) s.2.2.2 hx.2.2.2.2.1 (by decide) hx.2.2.2.2.2.1
  rw [sIf_4] at hq
  exact hC.1 [385] 40 374 _ _ _ _ _ _ _ (ifK hq s fun N2 G2 R2 J2 s2 => sown_385 hC hx dn rfl _ _ _ _ (sN (wS W) + 1) 0 (by omega) N2 G2 R2 J2 s2)
theorem sown_313 {Φ : oz_C} {A : oz_Y} (hC : oz_Cl t_L_sown Φ A) {S : St} {b p N1 : Nat} {G1 : oz_G} (hx : SwX S b p N1 G1) (dn : ∀ (W : Wd) (N : Nat) (G : oz_G) (R : oz_R) (J : oz_J), N1 ≤ N → CR N G R W → wOk W → Φ (some (.int (nI 1))) N G R J) {W : Wd} (e : wS W = S) {N : Nat} {G : oz_G} {R : oz_R} {J : oz_J} (s : Rn N1 G1 W N G R) (v3 v8 v12 v13 v14 : Option Value) : A 313 [some (.ref 0), some (.int (nI p)), some (.int (nI (sN S))), v3, some (.ref b), some (.ref (b + 1)), some (.int (nI (sAt S p))), some (.int (nI (sLp S p))), v8, some (.int (nI (lf (sC S)))), some (.int (nI (sWr S p))), some (.int (nI (sLs S p))), v12, v13, v14] [] N G R J 16 := by
  subst e
  have hwr := sWr_le (S := wS W) (p := p)
  have q0 := qi_y (j := 0) s.2.2.2 hx.2.2.2.2.1 (by decide) hx.2.2.2.2.2.1
  have q1 := qi_y (j := 1) s.2.2.2 hx.2.2.2.2.1 (by decide) hx.2.2.2.2.2.1
  have q2 := qi_y (j := 2) s.2.2.2 hx.2.2.2.2.1 (by decide) hx.2.2.2.2.2.1
  have q3 := qi_y (j := 3) s.2.2.2 hx.2.2.2.2.1 (by decide) hx.2.2.2.2.2.1
  rw [sIf_0] at q0
  rw [sIf_1] at q1
  rw [sIf_2] at q2
  rw [sIf_3] at q3
  refine hC.1 [374] 90 313 _ _ _ _ _ _ _ (ifK q0 s fun N2 G2 R2 J2 s2 => ⟨fun z => absurd rfl z, fun _ => ifK q1 s2 fun N3 G3 R3 J3 s3 => ⟨fun z => absurd rfl z, fun _ => ifK q2 s3 fun N4 G4 R4 J4 s4 => ⟨(sx_0 hx s4).1, sN (wS W), rfl, (sx_l hx (Nat.le_refl _)).1, (sx_0 hx s4).2, sN (wS W), rfl, (sx_l hx (Nat.le_refl _)).2, fun z => absurd (sx_g hx s4) z, fun _ => ifK q3 s4 fun N5 G5 R5 J5 s5 => ⟨fun q => ⟨fun _ => sown_374 hC hx dn rfl s5 _ _ _ _ _ _, fun z => absurd q z⟩, fun q => ⟨fun _ => sown_374 hC hx dn rfl s5 _ _ _ _ _ _, fun z => absurd ?_ z⟩⟩⟩⟩⟩)
  have q : ¬ nI (sWr (wS W) p) = nI 0 := q
  show nI (sWr (wS W) p) = nI 1
  rcases Nat.eq_zero_or_pos (sWr (wS W) p) with y | y
  · exact absurd (by rw [y]) q
  · rw [show sWr (wS W) p = 1 by omega]
