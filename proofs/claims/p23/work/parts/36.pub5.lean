/-! the class's public methods: ifSown, ifSownHas, count -/
theorem sw_i {x : Int32} {k : Nat} (hk : k < 2 ^ 31) (h : x.toInt = (k : Int)) : x = nI k := by
  apply Int32.toInt_inj.1
  rw [ti hk]; exact h
theorem sw_n {x : Int32} {k : Nat} (hk : k < 2 ^ 31) (h : ¬ x.toInt = (k : Int)) : ¬ x = nI k := fun z => h (by rw [z, ti hk])
/-- what a move would be: the last place, laps, what came, whether it is wrong, how the round would be -/
def sIf (S : St) (i : Nat) (y : Int32) : Int32 :=
  if y = nI 0 then nI (mv (sN S) (sRl S) (sC S) i).2.1 else if y = nI 1 then nI (mv (sN S) (sRl S) (sC S) i).2.2 else if y = nI 2 then nI (sGn S i) else if y = nI 3 then nI (if (mv (sN S) (sRl S) (sC S) i).2.1 = sN S then 0 else 1) else nI (hw (sN S) (sEx S) (mvc (sN S) (sRl S) (sC S) i))
def q_ifSown (W : Wd) (x y : Int32) : Int32 × Wd := (if ip (sN (wS W)) x = false then oz_c (-1) else if y < nI 0 ∨ nI 4 < y then oz_c (-2) else if lg (sN (wS W)) (sEx (wS W)) (sC (wS W)) (nt x) = 0 then oz_c (-5) else sIf (wS W) (nt x) y, W)
def t_X5_ifSown : oz_T := (P_X5_ifSown, e_X5, [(98, 1, 2, 0, s_X5_isPit), (104, 1, 3, 0, s_X4_canSow), (162, 1, 4, 0, s_X3_make), (144, 1, 2, 0, s_X4_how)], (true, 44, none, false, 0), (0, fun _ => 0))
def s_X5_ifSown : oz_S := oz_t2 0 fun x y N G R J Φ => ∃ W, CR N G R W ∧ wOk W ∧ pQ N G W Φ (q_ifSown W x y)
theorem I_X5_ifSown : oz_Imp t_X5_ifSown 3 s_X5_ifSown := by
  intro Φ A a N G R J hN hS hC
  obtain ⟨x, y, rfl, W, hCR, hok, h⟩ := oz_t2_e hS
  obtain ⟨hi, sl, rfl, hh, hs, hSt, -⟩ := id hCR
  obtain ⟨u, hu, hg, hK⟩ := hok.1.2.2.2.2.2
  have hc := Gd_lt hg
  have hev := StR_Ev hSt hok.1
  have hn6 := hok.1.2.1
  unfold q_ifSown at h
  refine hC.1 [10] 30 0 _ _ _ _ _ _ _ ⟨hi, sl, sN (wS W), rfl, hSt.1, fun q => ?_, fun q => ?_⟩
  · have q : ¬ b2 (ip (sN (wS W)) x) = nI 0 := q
    rw [b2_t] at q
    rw [if_neg (by rw [q]; decide)] at h
    obtain ⟨hx, hlt⟩ := ip_t q (by omega)
    generalize nt x = i at hx hlt h
    clear q
    subst hx
    have hlg := lg_le (n := sN (wS W)) (ex := sEx (wS W)) (c := sC (wS W)) (i := i)
    have a19 : (y < nI 0 ∨ nI 4 < y) → A 19 [some (.ref 0), some (.int (nI i)), some (.int y)] [] N G (rmR hi sl) J 0 := fun q => by
      rw [if_pos q] at h
      exact hC.1 [] 20 19 _ _ _ _ _ _ _ (pQ_0 h hCR)
    have a22 : ¬ (y < nI 0 ∨ nI 4 < y) → A 22 [some (.ref 0), some (.int (nI i)), some (.int y)] [] N G (rmR hi sl) J 0 := fun q0 => by
      rw [if_neg q0] at h
      refine hC.1 [43] 60 22 _ _ _ _ _ _ _ ⟨hi, sl, sN (wS W), sRl (wS W), sEx (wS W), sC (wS W), i, rfl, hev, hSt.2.1, rfl, hc, hlt, fun q => ?_, fun q => ?_⟩
      · have q : ¬ nI (lg (sN (wS W)) (sEx (wS W)) (sC (wS W)) i) = nI 0 := q
        rw [nI_eq (by omega) (by decide)] at q
        rw [if_neg q] at h
        have hl : lg (sN (wS W)) (sEx (wS W)) (sC (wS W)) i = 1 := by omega
        obtain ⟨m1, m2⟩ := Gd_mv (rl := sRl (wS W)) hg hlt (lg_e hl).2 (lg_e hl).1
        have hm := Gd_lt m1
        have cm : CR N (mG G 10 (sN (wS W)) (sRl (wS W)) (sC (wS W)) i) (rmR hi sl) W := CR_fr hCR hok.2.2.2.2 (fun a ha => mG_n (by omega))
        have hf := h N _ _ J (Nat.le_refl _) cm (fun a a1 a2 => mG_n (by omega))
        have hf : Φ (some (.int (sIf (wS W) i y))) N (mG G 10 (sN (wS W)) (sRl (wS W)) (sC (wS W)) i) (rmR hi sl) J := hf
        unfold sIf at hf
        refine hC.1 [] 80 43 _ _ _ _ _ _ _ ⟨Or.inl rfl, rfl, hi, sl, _, _, _, u, _, i, rfl, hSt.2.1, rfl, hev.1, hev.2.1, hev.2.2.2.2.2.1, Gd_Pv hg, hlt, (lg_e hl).2, (lg_e hl).1, fun k => ?_, fun k0 => ⟨fun k => ?_, fun k1 => ⟨fun k => ?_, fun k2 => ⟨fun k => ⟨fun w => ?_, fun w => ?_⟩, fun k3 => ⟨hi, sl, sN (wS W), sRl (wS W), sEx (wS W), mvc (sN (wS W)) (sRl (wS W)) (sC (wS W)) i, rfl, hev, rfl, hm, ?_⟩⟩⟩⟩⟩
        · rw [if_pos (sw_i (k := 0) (by decide) k)] at hf
          exact hf
        · rw [if_neg (sw_n (k := 0) (by decide) k0), if_pos (sw_i (k := 1) (by decide) k)] at hf
          exact hf
        · rw [if_neg (sw_n (k := 0) (by decide) k0), if_neg (sw_n (k := 1) (by decide) k1), if_pos (sw_i (k := 2) (by decide) k)] at hf
          exact hf
        · rw [if_neg (sw_n (k := 0) (by decide) k0), if_neg (sw_n (k := 1) (by decide) k1), if_neg (sw_n (k := 2) (by decide) k2), if_pos (sw_i (k := 3) (by decide) k)] at hf
          have w : nI (if (mv (sN (wS W)) (sRl (wS W)) (sC (wS W)) i).2.1 = sN (wS W) then 0 else 1) = nI 0 := w
          rw [w] at hf
          exact hf
        · rw [if_neg (sw_n (k := 0) (by decide) k0), if_neg (sw_n (k := 1) (by decide) k1), if_neg (sw_n (k := 2) (by decide) k2), if_pos (sw_i (k := 3) (by decide) k)] at hf
          have w : ¬ nI (if (mv (sN (wS W)) (sRl (wS W)) (sC (wS W)) i).2.1 = sN (wS W) then 0 else 1) = nI 0 := w
          have w2 : ¬ (mv (sN (wS W)) (sRl (wS W)) (sC (wS W)) i).2.1 = sN (wS W) := fun z => w (by rw [if_pos z])
          rw [if_neg w2] at hf
          exact hf
        · rw [if_neg (sw_n (k := 0) (by decide) k0), if_neg (sw_n (k := 1) (by decide) k1), if_neg (sw_n (k := 2) (by decide) k2), if_neg (sw_n (k := 3) (by decide) k3)] at hf
          exact hf
      · have q : ¬ ¬ nI (lg (sN (wS W)) (sEx (wS W)) (sC (wS W)) i) = nI 0 := q
        have q := Classical.not_not.mp q
        rw [nI_eq (by omega) (by decide)] at q
        rw [if_pos q] at h
        exact pQ_0 h hCR
    refine hC.1 [19, 22] 30 10 _ _ _ _ _ _ _ ⟨fun q => a19 (Or.inl q), fun q => ⟨fun q2 => a22 ?_, fun q2 => a19 (Or.inr ?_)⟩⟩
    · have q2 : y ≤ nI 4 := q2
      exact fun z => z.elim q (fun z => Int32.not_lt.mpr q2 z)
    · have q2 : ¬ y ≤ nI 4 := q2
      exact Int32.not_le.mp q2
  · have q : ¬ ¬ b2 (ip (sN (wS W)) x) = nI 0 := q
    have q := Classical.not_not.mp q
    rw [b2_f] at q
    rw [if_pos q] at h
    exact pQ_0 h hCR
def q_ifSownHas (W : Wd) (x y : Int32) : Int32 × Wd := (if ip (sN (wS W)) x = false ∨ y < nI 0 ∨ nI (sN (wS W)) < y then oz_c (-1) else if lg (sN (wS W)) (sEx (wS W)) (sC (wS W)) (nt x) = 0 then oz_c (-5) else nI (dg (mvc (sN (wS W)) (sRl (wS W)) (sC (wS W)) (nt x)) (nt y)), W)
def t_X5_ifSownHas : oz_T := (P_X5_ifSownHas, e_X5, [(98, 1, 2, 0, s_X5_isPit), (104, 1, 3, 0, s_X4_canSow), (162, 1, 4, 0, s_X3_make), (135, 0, 2, 0, s_X1_seedsAt)], (true, 44, none, false, 0), (0, fun _ => 0))
def s_X5_ifSownHas : oz_S := oz_t2 0 fun x y N G R J Φ => ∃ W, CR N G R W ∧ wOk W ∧ pQ N G W Φ (q_ifSownHas W x y)
theorem I_X5_ifSownHas : oz_Imp t_X5_ifSownHas 3 s_X5_ifSownHas := by
  intro Φ A a N G R J hN hS hC
  obtain ⟨x, y, rfl, W, hCR, hok, h⟩ := oz_t2_e hS
  obtain ⟨hi, sl, rfl, hh, hs, hSt, -⟩ := id hCR
  obtain ⟨u, hu, hg, hK⟩ := hok.1.2.2.2.2.2
  have hc := Gd_lt hg
  have hev := StR_Ev hSt hok.1
  have hn6 := hok.1.2.1
  unfold q_ifSownHas at h
  have a23 : (ip (sN (wS W)) x = false ∨ y < nI 0 ∨ nI (sN (wS W)) < y) → A 23 [some (.ref 0), some (.int x), some (.int y)] [] N G (rmR hi sl) J 0 := fun q => by
    rw [if_pos q] at h
    exact hC.1 [] 20 23 _ _ _ _ _ _ _ (pQ_0 h hCR)
  have a25 : ¬ (ip (sN (wS W)) x = false ∨ y < nI 0 ∨ nI (sN (wS W)) < y) → A 25 [some (.ref 0), some (.int x), some (.int y)] [] N G (rmR hi sl) J 0 := fun q0 => by
    rw [if_neg q0] at h
    have hp : ip (sN (wS W)) x = true := by
      cases z : ip (sN (wS W)) x
      · exact absurd (Or.inl z) q0
      · rfl
    obtain ⟨hx, hlt⟩ := ip_t hp (by omega)
    obtain ⟨hy, -, hy2⟩ := rng (x := y) (a := 0) (b := sN (wS W)) (fun z => q0 (Or.inr (Or.inl z))) (fun z => q0 (Or.inr (Or.inr z))) (by decide) (by omega)
    generalize nt x = i at hx hlt h
    generalize nt y = j at hy hy2 h
    clear hp q0 a23
    subst hx
    subst hy
    have hlg := lg_le (n := sN (wS W)) (ex := sEx (wS W)) (c := sC (wS W)) (i := i)
    refine hC.1 [46] 60 25 _ _ _ _ _ _ _ ⟨hi, sl, sN (wS W), sRl (wS W), sEx (wS W), sC (wS W), i, rfl, hev, hSt.2.1, rfl, hc, hlt, fun q => ?_, fun q => ?_⟩
    · have q : ¬ nI (lg (sN (wS W)) (sEx (wS W)) (sC (wS W)) i) = nI 0 := q
      rw [nI_eq (by omega) (by decide)] at q
      rw [if_neg q] at h
      have hl : lg (sN (wS W)) (sEx (wS W)) (sC (wS W)) i = 1 := by omega
      obtain ⟨m1, m2⟩ := Gd_mv (rl := sRl (wS W)) hg hlt (lg_e hl).2 (lg_e hl).1
      have hm := Gd_lt m1
      have cm : CR N (mG G 10 (sN (wS W)) (sRl (wS W)) (sC (wS W)) i) (rmR hi sl) W := CR_fr hCR hok.2.2.2.2 (fun a ha => mG_n (by omega))
      have hf := h N _ _ J (Nat.le_refl _) cm (fun a a1 a2 => mG_n (by omega))
      have e : nI (dg (mvc (sN (wS W)) (sRl (wS W)) (sC (wS W)) i) j) = rw_at (nI (mvc (sN (wS W)) (sRl (wS W)) (sC (wS W)) i)) (nI j) := (rw_at_n (by omega) (by omega)).symm
      rw [e] at hf
      exact hC.1 [] 80 46 _ _ _ _ _ _ _ ⟨Or.inl rfl, rfl, hi, sl, _, _, _, u, _, i, rfl, hSt.2.1, rfl, hev.1, hev.2.1, hev.2.2.2.2.2.1, Gd_Pv hg, hlt, (lg_e hl).2, (lg_e hl).1, hf⟩
    · have q : ¬ ¬ nI (lg (sN (wS W)) (sEx (wS W)) (sC (wS W)) i) = nI 0 := q
      have q := Classical.not_not.mp q
      rw [nI_eq (by omega) (by decide)] at q
      rw [if_pos q] at h
      exact pQ_0 h hCR
  refine hC.1 [23, 25] 40 0 _ _ _ _ _ _ _ ⟨hi, sl, sN (wS W), rfl, hSt.1, fun q => a23 (Or.inl ?_), fun q => ⟨fun q2 => a23 (Or.inr (Or.inl q2)), fun q2 => ⟨fun q3 => a25 ?_, fun q3 => a23 (Or.inr (Or.inr ?_))⟩⟩⟩
  · have q : b2 (ip (sN (wS W)) x) = nI 0 := q
    exact b2_f.mp q
  · have q : ¬ b2 (ip (sN (wS W)) x) = nI 0 := q
    rw [b2_t] at q
    have q3 : y ≤ G 1 1 := q3
    rw [hSt.1] at q3
    exact fun z => z.elim (fun z => by rw [q] at z; cases z) (fun z => z.elim q2 (fun z => Int32.not_lt.mpr q3 z))
  · have q3 : ¬ y ≤ G 1 1 := q3
    rw [hSt.1] at q3
    exact Int32.not_le.mp q3
def sCt (W : Wd) (k : Nat) : Int32 := match k with
  | 0 => nI (sN (wS W))
  | 1 => nI (dg (sC (wS W)) (sN (wS W)))
  | 2 => nI (dg (sC (wS W)) (sN (wS W)) + sm (sC (wS W)) (sN (wS W)))
  | 3 => nI (hw (sN (wS W)) (sEx (wS W)) (sC (wS W)))
  | 4 => nI (lf (sC (wS W)))
  | 5 => nI (sK (wS W)).length
  | 6 => nI (sK (wS W)).length
  | 7 => (match sK (wS W) with
    | [] => oz_c (-6)
    | k :: _ => nI k.2.1)
  | 8 => nI (ms (sN (wS W)) (sEx (wS W)) (sC (wS W)) (sN (wS W)))
  | 9 => nI (sRl (wS W))
  | 10 => nI (sEx (wS W))
  | 11 => nI (sLv (wS W))
  | 12 => nI (wL W)
  | 13 => nI (wH W).length
  | _ => oz_c (-2)
def q_count (W : Wd) (x : Int32) : Int32 × Wd := (if x < nI 0 ∨ nI 13 < x then oz_c (-2) else sCt W (nt x), W)
def t_X5_count : oz_T := (P_X5_count, e_X5, [(129, 1, 1, 0, s_X4_store), (141, 0, 2, 0, s_X1_inPits), (144, 1, 2, 0, s_X4_how), (147, 0, 1, 0, s_X1_lives), (153, 1, 1, 0, s_X4_latestLaps), (156, 1, 2, 0, s_X4_sowable)], (true, 44, none, false, 0), (0, fun _ => 0))
def s_X5_count : oz_S := oz_t1 0 fun x N G R J Φ => ∃ W, CR N G R W ∧ wOk W ∧ pQ N G W Φ (q_count W x)
theorem I_X5_count : oz_Imp t_X5_count 2 s_X5_count := by
  intro Φ A a N G R J hN hS hC
  obtain ⟨x, rfl, W, hCR, hok, h⟩ := oz_t1_e hS
  obtain ⟨hi, sl, rfl, hh, hs, hSt, hHl, -, -, -, hP⟩ := id hCR
  obtain ⟨u, hu, hg, hK⟩ := hok.1.2.2.2.2.2
  have hc := Gd_lt hg
  have hev := StR_Ev hSt hok.1
  have hn6 := hok.1.2.1
  have hK16 := KOk_len _ _ hg hK
  have hst : rw_at (G 1 2) (G 1 1) = nI (dg (sC (wS W)) (sN (wS W))) := by rw [hSt.1, hSt.2.1]; exact rw_at_n (by omega) (by omega)
  unfold q_count at h
  have go : ∀ k : Nat, k < 14 → x.toInt = (k : Int) → Φ (some (.int (sCt W k))) N G (rmR hi sl) J := fun k hk e => by
    have hx := sw_i (by omega) e
    rw [hx, nt_nI (by omega), if_neg (fun z => z.elim (nI_pos (by omega)) (fun z => by rw [nI_ltI (by decide) (by omega)] at z; omega))] at h
    exact pQ_0 h hCR
  refine hC.1 [72, 80, 88, 114, 129, 140, 148, 156, 164, 179, 189, 199, 209, 217, 222] 30 0 _ _ _ _ _ _ _ ⟨fun e => ?_, fun n0 => ⟨fun e => ?_, fun n1 => ⟨fun e => ?_, fun n2 => ⟨fun e => ?_, fun n3 => ⟨fun e => ?_, fun n4 => ⟨fun e => ?_, fun n5 => ⟨fun e => ?_, fun n6 => ⟨fun e => ?_, fun n7 => ⟨fun e => ?_, fun n8 => ⟨fun e => ?_, fun n9 => ⟨fun e => ?_, fun n10 => ⟨fun e => ?_, fun n11 => ⟨fun e => ?_, fun n12 => ⟨fun e => ?_, fun n13 => ?_⟩⟩⟩⟩⟩⟩⟩⟩⟩⟩⟩⟩⟩⟩
  · have hf := go 0 (by decide) e
    have e1 : sCt W 0 = G 1 1 := hSt.1.symm
    rw [e1] at hf
    exact hC.1 [] 40 72 _ _ _ _ _ _ _ hf
  · have hf := go 1 (by decide) e
    have e1 : sCt W 1 = rw_at (G 1 2) (G 1 1) := hst.symm
    rw [e1] at hf
    exact hC.1 [] 40 80 _ _ _ _ _ _ _ hf
  · have hf := go 2 (by decide) e
    have e1 : sCt W 2 = rw_at (G 1 2) (G 1 1) + nI (sm (sC (wS W)) (sN (wS W))) := by rw [hst, nI_add]; rfl
    rw [e1] at hf
    exact hC.1 [] 60 88 _ _ _ _ _ _ _ ⟨sC (wS W), sN (wS W), hSt.2.1, hSt.1, by omega, by omega, hf⟩
  · have hf := go 3 (by decide) e
    exact hC.1 [] 60 114 _ _ _ _ _ _ _ ⟨hi, sl, sN (wS W), sRl (wS W), sEx (wS W), sC (wS W), rfl, hev, hSt.2.1, hc, hf⟩
  · have hf := go 4 (by decide) e
    have e1 : sCt W 4 = rw_lf (G 1 2) := (by show nI (lf (sC (wS W))) = _; rw [hSt.2.1, rw_lf_n])
    rw [e1] at hf
    exact hC.1 [] 40 129 _ _ _ _ _ _ _ hf
  · have hf := go 5 (by decide) e
    have e1 : sCt W 5 = G 1 3 := hSt.2.2.1.symm
    rw [e1] at hf
    exact hC.1 [] 40 140 _ _ _ _ _ _ _ hf
  · have hf := go 6 (by decide) e
    have e1 : sCt W 6 = G 1 4 := hSt.2.2.2.1.symm
    rw [e1] at hf
    exact hC.1 [] 40 148 _ _ _ _ _ _ _ hf
  · have hf := go 7 (by decide) e
    have e1 : sCt W 7 = if (sK (wS W)).length = 0 then oz_c (-6) else G 4 ((sK (wS W)).length - 1) := by
      have h8 := hSt.2.2.2.2.2.2.2
      show (match sK (wS W) with
        | [] => oz_c (-6)
        | k :: _ => nI k.2.1) = _
      cases hK : sK (wS W) with
      | nil => rfl
      | cons k K =>
        rw [hK] at h8
        show nI k.2.1 = if K.length + 1 = 0 then oz_c (-6) else G 4 (K.length + 1 - 1)
        rw [if_neg (by omega), Nat.add_sub_cancel]
        exact h8.2.1.symm
    rw [e1] at hf
    exact hC.1 [] 60 156 _ _ _ _ _ _ _ ⟨hi, sl, (sK (wS W)).length, rfl, hSt.2.2.2.1, by omega, hf⟩
  · have hf := go 8 (by decide) e
    exact hC.1 [] 60 164 _ _ _ _ _ _ _ ⟨hi, sl, sN (wS W), sRl (wS W), sEx (wS W), sC (wS W), rfl, hev, hSt.2.1, hc, hf⟩
  · have hf := go 9 (by decide) e
    have e1 : sCt W 9 = G 2 0 := hSt.2.2.2.2.1.symm
    rw [e1] at hf
    exact hC.1 [] 40 179 _ _ _ _ _ _ _ ⟨0, rfl, by decide, hf⟩
  · have hf := go 10 (by decide) e
    have e1 : sCt W 10 = G 2 1 := hSt.2.2.2.2.2.1.symm
    rw [e1] at hf
    exact hC.1 [] 40 189 _ _ _ _ _ _ _ ⟨1, rfl, by decide, hf⟩
  · have hf := go 11 (by decide) e
    have e1 : sCt W 11 = G 2 2 := hSt.2.2.2.2.2.2.1.symm
    rw [e1] at hf
    exact hC.1 [] 40 199 _ _ _ _ _ _ _ ⟨2, rfl, by decide, hf⟩
  · have hf := go 12 (by decide) e
    have e1 : sCt W 12 = G 8 1 := hP.1.symm
    rw [e1] at hf
    exact hC.1 [] 40 209 _ _ _ _ _ _ _ hf
  · have hf := go 13 (by decide) e
    have e1 : sCt W 13 = G 0 2 := hHl.symm
    rw [e1] at hf
    exact hC.1 [] 40 217 _ _ _ _ _ _ _ hf
  · have hx : x < nI 0 ∨ nI 13 < x := by
      rcases Decidable.em (x < nI 0 ∨ nI 13 < x) with z | z
      · exact z
      · exfalso
        obtain ⟨hx, -, hx2⟩ := rng (x := x) (a := 0) (b := 13) (fun y => z (Or.inl y)) (fun y => z (Or.inr y)) (by decide) (by decide)
        have ht : x.toInt = (nt x : Int) := by
          conv => lhs; rw [hx]
          exact ti (by omega)
        rw [ht] at n0 n1 n2 n3 n4 n5 n6 n7 n8 n9 n10 n11 n12 n13
        omega
    rw [if_pos hx] at h
    exact hC.1 [] 20 222 _ _ _ _ _ _ _ (pQ_0 h hCR)
