/-! the law's methods: exact -/
theorem qx {W : Wd} {s i : Nat} (hs : s < 15) (hi : i < 6) : q_exact W (nI s) (nI (i + 1)) = (nI (dg (xf s) i), W) := by
  unfold q_exact
  rw [if_neg, nt_nI (by omega), nt_nI (by omega), Nat.add_sub_cancel]
  rintro ((z | z) | (z | z))
  · exact nI_pos (by omega) z
  · exact nI_nlt (by omega) (by omega) z
  · exact nI_nlt (show 1 ≤ i + 1 by omega) (by omega) z
  · exact nI_nlt (show i + 1 ≤ 6 by omega) (by omega) z
theorem qx1 {W : Wd} {s i : Nat} (hs : s < 15) (h0 : 0 < s) (hi : i < 6) : q_exact W (nI s - nI 1) (nI (i + 1)) = (nI (dg (xf (s - 1)) i), W) := by
  rw [pk_sub h0]
  exact qx (by omega) hi
theorem rl6_n {p : Nat} (h2 : 2 ≤ p) (h6 : p ≤ 6) : rl6 (nI p) = true := by
  unfold rl6
  rw [decide_eq_true (nI_nlt h2 (by omega)), decide_eq_true (nI_nlt h6 (by decide))]
  rfl
theorem ld_5 {W : Wd} {p s : Nat} (h2 : 2 ≤ p) (h6 : p ≤ 6) (h0 : 0 < s) (hs : s < 15) (hf : p < fa (xf s) 6) : q_loadExact W (nI p) (nI s) = (oz_c (-5), W) := by
  unfold q_loadExact
  rw [rl6_n h2 h6, if_neg, nt_nI (by omega), nt_nI (by omega), if_pos hf]
  rintro (z | z | z)
  · cases z
  · exact nI_nlt (show 1 ≤ s by omega) (by omega) z
  · exact nI_nlt (show s ≤ 14 by omega) (by decide) z
theorem ld_y {W : Wd} {p s : Nat} (h2 : 2 ≤ p) (h6 : p ≤ 6) (h0 : 0 < s) (hs : s < 15) (hf : fa (xf s) 6 ≤ p) : q_loadExact W (nI p) (nI s) = (nI (pw (tr (xf s) p p) p), wRec W (sNew (wS W) p (tr (xf s) p p))) := by
  unfold q_loadExact
  rw [rl6_n h2 h6, if_neg, nt_nI (by omega), nt_nI (by omega), if_neg (by omega)]
  rintro (z | z | z)
  · cases z
  · exact nI_nlt (show 1 ≤ s by omega) (by omega) z
  · exact nI_nlt (show s ≤ 14 by omega) (by decide) z
theorem qb0 {W : Wd} : q_best W (nI 0) = (nI (mf (sN (wS W)) (sRl (wS W)) (sEx (wS W)) (sC (wS W))), W) := by
  unfold q_best sBst
  rw [if_neg (by decide), if_pos rfl]
theorem qb3 {W : Wd} : q_best W (nI 3) = (ff (sN (wS W)) (sRl (wS W)) (sEx (wS W)) (sC (wS W)), W) := by
  unfold q_best sBst
  rw [if_neg (by decide), if_neg (by decide), if_neg (by decide), if_neg (by decide)]
def sP (s : Nat) : Nat := if 2 ≤ fa (xf s) 6 then fa (xf s) 6 else 2
theorem fi_le (c : Nat) : ∀ f d, d ≤ fi c f d ∧ fi c f d ≤ d + f
  | 0, d => ⟨Nat.le_refl _, Nat.le_refl _⟩
  | f + 1, d => by
    have := fi_le c f (d + 1)
    unfold fi
    split <;> omega
def t_L_exact : oz_T := (P_L_exact, e_L, [(45, 1, 3, 0, s_X5_exact), (48, 1, 3, 0, s_X5_loadExact), (9, 1, 2, 0, s_X5_count), (15, 1, 2, 0, s_X5_pit), (51, 1, 2, 0, s_X5_best)], (true, 44, none, true, 0), (0, fun _ => 0))
def s_L_exact : oz_S := oz_t1 0 fun x N G R J Φ => ∃ W s, CR N G R W ∧ wOk W ∧ (∀ S, StOk S → sHb S) ∧ x = nI s ∧ 0 < s ∧ s < 15 ∧ ∀ (W' : Wd) (N' : Nat) (G' : oz_G) (R' : oz_R) (J' : oz_J), N ≤ N' → CR N' G' R' W' → wOk W' → Φ (some (.int (nI 1))) N' G' R' J'
theorem I_L_exact : oz_Imp t_L_exact 8 s_L_exact := by
  intro Φ A a N G R J hN hS hC
  obtain ⟨x, rfl, W, s, c0, ok, hH, rfl, h0, hs, dn⟩ := oz_t1_e hS
  have hfar := fa_le (xf s) 6
  have hfar0 := (ex_fa s hs h0).2
  have hP2 : 2 ≤ sP s := by unfold sP; split <;> omega
  have hP6 : sP s ≤ 6 := by unfold sP; split <;> omega
  have hPf : fa (xf s) 6 ≤ sP s := by unfold sP; split <;> omega
  have hlv := ok.1.2.2.2.2.1
  obtain ⟨f1, f2, f3, f4, f5⟩ := ex_f (sP s) (by omega) hP2 s hs h0 hPf (sLv (wS W)) (by omega)
  have a227 : ∀ (v2 v3 v4 v7 : Option Value) (N1 : Nat) (G1 : oz_G) (R1 : oz_R) (J1 : oz_J), Rn N G W N1 G1 R1 → A 227 [some (.ref 0), some (.int (nI s)), v2, v3, v4, some (.int (nI (sP s))), some (.int (nI (pw (xf s) 6))), v7] [] N1 G1 R1 J1 0 := fun v2 v3 v4 v7 N1 G1 R1 J1 s1 => by
    have okn : wOk (wRec W (sNew (wS W) (sP s) (tr (xf s) (sP s) (sP s)))) := by
      have := loadExact_ok (x := nI (sP s)) (y := nI s) ok
      rw [ld_y hP2 hP6 h0 hs hPf] at this
      exact this
    obtain ⟨u, hu0, hg, -⟩ := okn.1.2.2.2.2.2
    have hg : Gd (sP s) u (tr (xf s) (sP s) (sP s) + lvb (sLv (wS W))) := hg
    obtain ⟨m1, w, m2, m3, m4⟩ := ex_mf (ex := sEx (wS W)) hP2 hP6 hlv ok.1.2.2.1 hs h0 hPf hg
    have hb : sHb (wS (wRec W (sNew (wS W) (sP s) (tr (xf s) (sP s) (sP s))))) := hH _ okn.1
    have ep : q_pit (wRec W (sNew (wS W) (sP s) (tr (xf s) (sP s) (sP s)))) (nI (sP s) - nI 1) = (nI (dg (xf s) 0), wRec W (sNew (wS W) (sP s) (tr (xf s) (sP s) (sP s)))) := by
      rw [pk_sub (by omega), qp okn (show sP s - 1 < sP s by omega), ← f2]
      rfl
    refine hC.1 [] 120 227 _ _ _ _ _ _ _ (leK (ld_y hP2 hP6 h0 hs hPf) s1 fun N2 G2 R2 J2 s2 => ⟨fun z => absurd (show nI (pw (tr (xf s) (sP s) (sP s)) (sP s)) = nI (pw (xf s) 6) by rw [f5]) z, fun _ => ctK (qc 2 (by decide)) s2 fun N3 G3 R3 J3 s3 => ⟨fun z => absurd (show nI (dg (tr (xf s) (sP s) (sP s) + lvb (sLv (wS W))) (sP s) + sm (tr (xf s) (sP s) (sP s) + lvb (sLv (wS W))) (sP s)) = nI s by rw [f1]) z, fun _ => ctK (qc 0 (by decide)) s3 fun N4 G4 R4 J4 s4 => ⟨fun z => absurd rfl z, fun _ => ptK ep s4 fun N5 G5 R5 J5 s5 => exK (qx (i := 0) hs (by decide)) s5 fun N6 G6 R6 J6 s6 => ⟨fun z => absurd rfl z, fun _ => beK hb qb0 s6 fun N7 G7 R7 J7 s7 => ⟨fun z => absurd (show nI (mf (sP s) (sRl (wS W)) (sEx (wS W)) (tr (xf s) (sP s) (sP s) + lvb (sLv (wS W)))) = nI s by rw [m1]) z, fun _ => beK hb qb3 s7 fun N8 G8 R8 J8 s8 => ⟨fun z => ?_, fun _ => ⟨Or.inr rfl, dn _ N8 G8 R8 J8 s8.1 s8.2.2.1 s8.2.2.2⟩⟩⟩⟩⟩⟩⟩)
    have z : ff (sP s) (sRl (wS W)) (sEx (wS W)) (tr (xf s) (sP s) (sP s) + lvb (sLv (wS W))) < nI 1 := z
    rw [m2] at z
    exact absurd z (nI_nlt m3 (by omega))
  have a194 : ∀ f i, i + f = 6 → ∀ (v2 v3 v4 : Option Value) (N1 : Nat) (G1 : oz_G) (R1 : oz_R) (J1 : oz_J), Rn N G W N1 G1 R1 → A 194 [some (.ref 0), some (.int (nI s)), v2, v3, v4, some (.int (nI (sP s))), some (.int (nI (pw (xf s) i))), some (.int (nI (i + 1)))] [] N1 G1 R1 J1 0 := by
    intro f
    induction f with
    | zero =>
      intro i hi v2 v3 v4 N1 G1 R1 J1 s1
      have hi : i = 6 := by omega
      subst hi
      exact hC.1 [227] 40 194 _ _ _ _ _ _ _ ⟨fun _ => a227 _ _ _ _ _ _ _ _ s1, fun q => absurd (show nI 6 < nI (6 + 1) by decide) q⟩
    | succ f ih =>
      intro i hi v2 v3 v4 N1 G1 R1 J1 s1
      have hd := dg_lt (xf s) i
      refine hC.1 [194] 60 194 _ _ _ _ _ _ _ ⟨fun q => absurd q (nI_nlt (a := 6) (b := i + 1) (by omega) (by omega)), fun _ => exK (qx hs (show i < 6 by omega)) s1 fun N2 G2 R2 J2 s2 => ⟨fun q => ?_, fun q => ?_⟩⟩
      · have q : nI (dg (xf s) i) ≤ nI 0 := q
        rw [nI_leI (by omega) (by decide)] at q
        have hih := ih (i + 1) (by omega) v2 v3 v4 N2 G2 R2 J2 s2
        rw [show pw (xf s) (i + 1) = pw (xf s) i + 0 by show pw (xf s) i + _ = _; rw [if_neg (by omega)], ← nI_add (pw (xf s) i) 0, ← nI_add (i + 1) 1] at hih
        exact hih
      · have q : ¬ nI (dg (xf s) i) ≤ nI 0 := q
        rw [nI_leI (by omega) (by decide)] at q
        have hih := ih (i + 1) (by omega) v2 v3 v4 N2 G2 R2 J2 s2
        rw [show pw (xf s) (i + 1) = pw (xf s) i + 1 by show pw (xf s) i + _ = _; rw [if_pos (by omega)], ← nI_add (pw (xf s) i) 1, ← nI_add (i + 1) 1] at hih
        exact hih
  have a156 : ∀ (v2 v5 v6 v7 : Option Value) (N1 : Nat) (G1 : oz_G) (R1 : oz_R) (J1 : oz_J), Rn N G W N1 G1 R1 → A 156 [some (.ref 0), some (.int (nI s)), v2, some (.int (nI (fa (xf s) 6))), some (.int (nI (eF s))), v5, v6, v7] [] N1 G1 R1 J1 0 := fun v2 v5 v6 v7 N1 G1 R1 J1 s1 => by
    have hl := fun (N2 : Nat) (G2 : oz_G) (R2 : oz_R) (J2 : oz_J) (s2 : Rn N G W N2 G2 R2) => a194 6 0 (by omega) v2 (some (.int (nI (fa (xf s) 6)))) (some (.int (nI (eF s)))) N2 G2 R2 J2 s2
    refine hC.1 [194] 90 156 _ _ _ _ _ _ _ ⟨fun q => ⟨fun q2 => ?_, fun q2 => leK (W' := W) (?_ : q_loadExact W (nI (fa (xf s) 6) - nI 1) (nI s) = (oz_c (-5), W)) s1 fun N2 G2 R2 J2 s2 => ⟨fun _ => ?_, fun z => absurd rfl z⟩⟩, fun q => ⟨fun q2 => ?_, fun q2 => absurd ?_ q2⟩⟩
    · have q : nI 2 ≤ nI (fa (xf s) 6) := q
      rw [nI_leI (by decide) (by omega)] at q
      have hf := hl _ _ _ J1 s1
      rw [show sP s = fa (xf s) 6 from if_pos q] at hf
      exact hf
    · have q2 : ¬ nI (fa (xf s) 6) ≤ nI 2 := q2
      rw [nI_leI (by omega) (by decide)] at q2
      rw [pk_sub (by omega)]
      exact ld_5 (by omega) (by omega) h0 hs (by omega)
    · have q : nI 2 ≤ nI (fa (xf s) 6) := q
      rw [nI_leI (by decide) (by omega)] at q
      have hf := hl _ _ _ J2 s2
      rw [show sP s = fa (xf s) 6 from if_pos q] at hf
      exact hf
    · have q : ¬ nI 2 ≤ nI (fa (xf s) 6) := q
      rw [nI_leI (by decide) (by omega)] at q
      have hf := hl _ _ _ J1 s1
      rw [show sP s = 2 from if_neg q] at hf
      exact hf
    · have q : ¬ nI 2 ≤ nI (fa (xf s) 6) := q
      rw [nI_leI (by decide) (by omega)] at q
      exact nI_le (show fa (xf s) 6 ≤ 2 by omega) (by decide)
  have hF := fi_le (xf (s - 1)) 6 1
  have hF : 1 ≤ eF s ∧ eF s ≤ 1 + 6 := hF
  have a85 : ∀ f i, i + f = 6 → ∀ (v2 v6 v7 : Option Value) (N1 : Nat) (G1 : oz_G) (R1 : oz_R) (J1 : oz_J), Rn N G W N1 G1 R1 → A 85 [some (.ref 0), some (.int (nI s)), v2, some (.int (nI (fa (xf s) 6))), some (.int (nI (eF s))), some (.int (nI (i + 1))), v6, v7] [] N1 G1 R1 J1 0 := by
    intro f
    induction f with
    | zero =>
      intro i hi v2 v6 v7 N1 G1 R1 J1 s1
      have hi : i = 6 := by omega
      subst hi
      exact hC.1 [156] 40 85 _ _ _ _ _ _ _ ⟨fun _ => a156 _ _ _ _ _ _ _ _ s1, fun q => absurd (show nI 6 < nI (6 + 1) by decide) q⟩
    | succ f ih =>
      intro i hi v2 v6 v7 N1 G1 R1 J1 s1
      have hdu := ex_du s hs h0 i (by omega)
      have a134 : ∀ (v : Int32) (N2 : Nat) (G2 : oz_G) (R2 : oz_R) (J2 : oz_J), Rn N G W N2 G2 R2 → nI (dg (xf s) i) = v → A 134 [some (.ref 0), some (.int (nI s)), v2, some (.int (nI (fa (xf s) 6))), some (.int (nI (eF s))), some (.int (nI (i + 1))), v6, v7] [.int v] N2 G2 R2 J2 0 := fun v N2 G2 R2 J2 s2 e =>
        hC.1 [85] 40 134 _ _ _ _ _ _ _ (exK (qx hs (show i < 6 by omega)) s2 fun N3 G3 R3 J3 s3 => ⟨fun _ => by
          have hih := ih (i + 1) (by omega) v2 (some (.int v)) v7 N3 G3 R3 J3 s3
          rw [← nI_add (i + 1) 1] at hih
          exact hih, fun z => absurd e z⟩)
      refine hC.1 [134] 60 85 _ _ _ _ _ _ _ ⟨fun q => absurd q (nI_nlt (a := 6) (b := i + 1) (by omega) (by omega)), fun _ => ⟨fun q => ⟨fun q2 => exK (qx1 hs h0 (show i < 6 by omega)) s1 fun N2 G2 R2 J2 s2 => a134 _ N2 G2 R2 J2 s2 ?_, fun q2 => a134 _ N1 G1 R1 J1 s1 ?_⟩, fun q => exK (qx1 hs h0 (show i < 6 by omega)) s1 fun N2 G2 R2 J2 s2 => a134 _ N2 G2 R2 J2 s2 ?_⟩⟩
      · have q : nI (eF s) ≤ nI (i + 1) := q
        rw [nI_leI (by omega) (by omega)] at q
        have q2 : ¬ nI (i + 1) = nI (eF s) := q2
        rw [nI_eq (by omega) (by omega)] at q2
        rw [hdu, if_neg (by omega), if_neg q2]
      · have q : nI (eF s) ≤ nI (i + 1) := q
        rw [nI_leI (by omega) (by omega)] at q
        have q2 : ¬ ¬ nI (i + 1) = nI (eF s) := q2
        have q2 := Classical.not_not.mp q2
        rw [nI_eq (by omega) (by omega)] at q2
        rw [hdu, if_neg (by omega), if_pos q2]
      · have q : ¬ nI (eF s) ≤ nI (i + 1) := q
        rw [nI_leI (by omega) (by omega)] at q
        rw [hdu, if_pos (by omega)]
        rfl
  have a82 : ∀ (v2 v5 v6 v7 : Option Value) (N1 : Nat) (G1 : oz_G) (R1 : oz_R) (J1 : oz_J), Rn N G W N1 G1 R1 → A 82 [some (.ref 0), some (.int (nI s)), v2, some (.int (nI (fa (xf s) 6))), some (.int (nI (eF s))), v5, v6, v7] [] N1 G1 R1 J1 0 := fun v2 v5 v6 v7 N1 G1 R1 J1 s1 => hC.1 [85] 30 82 _ _ _ _ _ _ _ (a85 6 0 (by omega) v2 v6 v7 N1 G1 R1 J1 s1)
  have a57 : ∀ f d, d + f = 7 → 0 < d → fi (xf (s - 1)) f d = eF s → ∀ (v2 v5 v6 v7 : Option Value) (N1 : Nat) (G1 : oz_G) (R1 : oz_R) (J1 : oz_J), Rn N G W N1 G1 R1 → A 57 [some (.ref 0), some (.int (nI s)), v2, some (.int (nI (fa (xf s) 6))), some (.int (nI d)), v5, v6, v7] [] N1 G1 R1 J1 0 := by
    intro f
    induction f with
    | zero =>
      intro d hd hd0 he v2 v5 v6 v7 N1 G1 R1 J1 s1
      have he : d = eF s := he
      have hd : d = 7 := by omega
      rw [he] at hd ⊢
      refine hC.1 [82] 40 57 _ _ _ _ _ _ _ ⟨fun _ => a82 _ _ _ _ _ _ _ _ s1, fun q => absurd ?_ q⟩
      show nI 7 ≤ nI (eF s)
      rw [hd]
      decide
    | succ f ih =>
      intro d hd hd0 he v2 v5 v6 v7 N1 G1 R1 J1 s1
      obtain ⟨i, rfl⟩ : ∃ i, d = i + 1 := ⟨d - 1, by omega⟩
      have hdg := dg_lt (xf (s - 1)) i
      have he : (if 0 < dg (xf (s - 1)) i then fi (xf (s - 1)) f (i + 1 + 1) else i + 1) = eF s := he
      refine hC.1 [57, 82] 40 57 _ _ _ _ _ _ _ ⟨fun q => absurd (show nI 7 ≤ nI (i + 1) from q) (nI_ge (by omega) (by omega)), fun _ => exK (qx1 hs h0 (show i < 6 by omega)) s1 fun N2 G2 R2 J2 s2 => ⟨fun q => ?_, fun q => ?_⟩⟩
      · have q : nI (dg (xf (s - 1)) i) ≤ nI 0 := q
        rw [nI_leI (by omega) (by decide)] at q
        rw [if_neg (by omega)] at he
        have hf := a82 v2 v5 v6 v7 N2 G2 R2 J2 s2
        rw [← he] at hf
        exact hf
      · have q : ¬ nI (dg (xf (s - 1)) i) ≤ nI 0 := q
        rw [nI_leI (by omega) (by decide)] at q
        rw [if_pos (by omega)] at he
        have hih := ih (i + 1 + 1) (by omega) (by omega) he v2 v5 v6 v7 N2 G2 R2 J2 s2
        rw [← nI_add (i + 1) 1] at hih
        exact hih
  have a7 : ∀ f i, i + f = 6 → ∀ (N1 : Nat) (G1 : oz_G) (R1 : oz_R) (J1 : oz_J), Rn N G W N1 G1 R1 → A 7 [some (.ref 0), some (.int (nI s)), some (.int (nI (sm (xf s) i))), some (.int (nI (fa (xf s) i))), some (.int (nI (i + 1))), none, none, none] [] N1 G1 R1 J1 0 := by
    intro f
    induction f with
    | zero =>
      intro i hi N1 G1 R1 J1 s1
      have hi : i = 6 := by omega
      subst hi
      exact hC.1 [57] 40 7 _ _ _ _ _ _ _ ⟨fun _ => ⟨fun _ => a57 6 1 (by omega) (by decide) rfl _ _ _ _ _ _ _ _ s1, fun z => absurd (show nI (sm (xf s) 6) = nI s by rw [ex_sm s hs]) z⟩, fun q => absurd (show nI 6 < nI (6 + 1) by decide) q⟩
    | succ f ih =>
      intro i hi N1 G1 R1 J1 s1
      have hd := dg_lt (xf s) i
      refine hC.1 [7] 60 7 _ _ _ _ _ _ _ ⟨fun q => absurd q (nI_nlt (a := 6) (b := i + 1) (by omega) (by omega)), fun _ => exK (qx hs (show i < 6 by omega)) s1 fun N2 G2 R2 J2 s2 => exK (qx hs (show i < 6 by omega)) s2 fun N3 G3 R3 J3 s3 => ⟨fun q => ?_, fun q => ?_⟩⟩
      · have q : nI (dg (xf s) i) ≤ nI 0 := q
        rw [nI_leI (by omega) (by decide)] at q
        have hih := ih (i + 1) (by omega) N3 G3 R3 J3 s3
        rw [show fa (xf s) (i + 1) = fa (xf s) i by show (if _ then _ else _) = _; rw [if_neg (by omega)], show sm (xf s) (i + 1) = sm (xf s) i + dg (xf s) i from rfl, ← nI_add (sm (xf s) i), ← nI_add (i + 1) 1] at hih
        exact hih
      · have q : ¬ nI (dg (xf s) i) ≤ nI 0 := q
        rw [nI_leI (by omega) (by decide)] at q
        have hih := ih (i + 1) (by omega) N3 G3 R3 J3 s3
        rw [show fa (xf s) (i + 1) = i + 1 by show (if _ then _ else _) = _; rw [if_pos (by omega)], show sm (xf s) (i + 1) = sm (xf s) i + dg (xf s) i from rfl, ← nI_add (sm (xf s) i), ← nI_add (i + 1) 1] at hih
        exact hih
  exact hC.1 [7] 30 0 _ _ _ _ _ _ _ (a7 6 0 (by omega) N G R J (Rn_0 c0 ok))
