/-! the model's public methods: count -/
theorem MR_pl {G G' : oz_G} {W : Wd} (h : MR G W) (h1 : ∀ i, i ≠ 44 → i ≠ 53 → G' i = G i) (h2 : ∀ k, k ≠ 13 → G' 44 k = G 44 k) : MR G' W :=
  MR_now h (RowR_fr (fun k _ => by rw [h1 45 (by decide) (by decide)]) h.1) (h2 5 (by decide)) (h2 7 (by decide)) (fun i hi => h1 i (by omega) (by omega))
def t_X6_count : oz_T := (P_X6_count, e_X6, [(52, 0, 3, 0, s_X6_inn), (125, 1, 1, 0, s_X6_all), (149, 1, 1, 0, s_X6_now), (158, 1, 1, 0, s_X6_sowable)], (true, 58, none, false, 0), (0, fun _ => 0))
def s_X6_count : oz_S := oz_t1 44 fun x N G R J Φ => ∃ hi sl W, R = rmR hi sl ∧ MR G W ∧ wOk W ∧ pM N G R J Φ (q_count W x)
theorem I_X6_count : oz_Imp t_X6_count 2 s_X6_count := by
  intro Φ A a N G R J hN hS hC
  obtain ⟨x, rfl, hi, sl, W, rfl, hM, hok, h⟩ := oz_t1_e hS
  obtain ⟨m1, m2, m3, m4, m5, m6, m7, m8⟩ := id hM
  have h16 := StOk_20 hok.1
  unfold q_count at h
  have val : ∀ k : Nat, k < 14 → x = nI k → pM N G (rmR hi sl) J Φ (sCt W k, W) := fun k hk hx => by
    rw [hx, nt_nI (by omega), if_neg (fun z => z.elim (nI_pos (by omega)) (fun z => by rw [nI_ltI (by decide) (by omega)] at z; omega))] at h
    exact h
  have go : ∀ k : Nat, k < 14 → x.toInt = (k : Int) → Φ (some (.int (sCt W k))) N G (rmR hi sl) J := fun k hk e => pM_0 (val k hk (sw_i (by omega) e)) hM
  have r0 : G 45 0 = nI (sRl (wS W)) := row_g m1 (by decide)
  have r1 : G 45 1 = nI (sEx (wS W)) := row_g m1 (by decide)
  have r2 : G 45 2 = nI (sLv (wS W)) := row_g m1 (by decide)
  have r3 : G 45 3 = nI (sN (wS W)) := row_g m1 (by decide)
  have r10 : G 45 10 = nI (dg (sC (wS W)) (sN (wS W))) := row_g m1 (by decide)
  have r11 : G 45 11 = nI (lf (sC (wS W))) := row_g m1 (by decide)
  have r13 : G 45 13 = nI (sK (wS W)).length := row_g m1 (by decide)
  have r14 : G 45 14 = nI (sK (wS W)).length := row_g m1 (by decide)
  refine hC.1 [22] 40 0 _ _ _ _ _ _ _ ⟨x, rfl, fun q => ?_, fun q => ?_⟩
  · have q : b2 (inb x (nI 9) (nI 11)) = nI 0 := q
    rw [b2_f, inb_f] at q
    have no : ∀ k : Nat, 9 ≤ k → k ≤ 11 → ¬ x.toInt = (k : Int) := fun k h1 h2 e => by
      rw [sw_i (by omega) e, nI_ltI (by omega) (by decide), nI_ltI (by decide) (by omega)] at q
      omega
    refine hC.1 [92, 99, 107, 112, 117, 125, 133, 141, 179, 184, 189, 194] 30 22 _ _ _ _ _ _ _ ⟨fun e => ?_, fun n0 => ⟨fun e => ?_, fun n1 => ⟨fun e => ?_, fun n2 => ⟨fun e => ?_, fun n3 => ⟨fun e => ?_, fun n4 => ⟨fun e => ?_, fun n5 => ⟨fun e => ?_, fun n6 => ⟨fun e => ?_, fun n7 => ⟨fun e => ?_, fun n8 => ⟨fun e => ?_, fun n9 => ⟨fun e => ?_, fun n10 => ⟨fun e => ?_, fun n11 => ⟨fun e => ?_, fun n12 => ⟨fun e => ?_, fun n13 => ?_⟩⟩⟩⟩⟩⟩⟩⟩⟩⟩⟩⟩⟩⟩
    · have hf := go 0 (by decide) e
      have e1 : sCt W 0 = G 45 3 := r3.symm
      rw [e1] at hf
      exact hC.1 [] 40 92 _ _ _ _ _ _ _ ⟨3, rfl, by decide, hf⟩
    · have hf := go 1 (by decide) e
      have e1 : sCt W 1 = G 45 10 := r10.symm
      rw [e1] at hf
      exact hC.1 [] 40 99 _ _ _ _ _ _ _ ⟨10, rfl, by decide, hf⟩
    · have hf := go 2 (by decide) e
      exact hC.1 [] 40 107 _ _ _ _ _ _ _ ⟨hi, sl, wS W, rfl, hok.1, m1, hf⟩
    · have hv := val 3 (by decide) (sw_i (by decide) e)
      exact hC.1 [] 40 112 _ _ _ _ _ _ _ ⟨hi, sl, wS W, rfl, hok.1, m1, fun G' _ g2 g3 => hv G' (MR_pl hM g2 g3) (fun i hi => g2 i (by omega) (by omega)) (g3 21 (by decide))⟩
    · have hf := go 4 (by decide) e
      have e1 : sCt W 4 = G 45 11 := r11.symm
      rw [e1] at hf
      exact hC.1 [] 40 117 _ _ _ _ _ _ _ ⟨11, rfl, by decide, hf⟩
    · have hf := go 5 (by decide) e
      have e1 : sCt W 5 = G 45 13 := r13.symm
      rw [e1] at hf
      exact hC.1 [] 40 125 _ _ _ _ _ _ _ ⟨13, rfl, by decide, hf⟩
    · have hf := go 6 (by decide) e
      have e1 : sCt W 6 = G 45 14 := r14.symm
      rw [e1] at hf
      exact hC.1 [] 40 133 _ _ _ _ _ _ _ ⟨14, rfl, by decide, hf⟩
    · have hf := go 7 (by decide) e
      have hf : Φ (some (.int (match sK (wS W) with
        | [] => oz_c (-6)
        | k :: _ => nI k.2.1))) N G (rmR hi sl) J := hf
      cases hK : sK (wS W) with
      | nil =>
        rw [hK] at hf r14
        exact hC.1 [] 40 141 _ _ _ _ _ _ _ ⟨14, rfl, by decide, fun q => absurd r14 q, fun _ => hf⟩
      | cons k K =>
        rw [hK] at hf h16
        have r14' : G 45 14 = nI (K.length + 1) := by rw [r14, hK]; rfl
        rw [List.length_cons] at h16
        have hv : G 45 (15 + 10 * K.length + 1) = nI k.2.1 := by
          have hr := m1 (15 + 10 * K.length + 1) (by rw [hK, List.length_cons]; omega)
          rw [Nat.zero_add] at hr
          rw [hr]
          unfold rowV
          rw [if_neg (by omega), if_neg (by omega), if_neg (by omega), if_neg (by omega), if_neg (by omega), if_neg (by omega), if_neg (by omega), if_neg (by omega), if_neg (by omega), hK, List.length_cons]
          rw [show K.length + 1 - 1 - (15 + 10 * K.length + 1 - 15) / 10 = 0 by omega, show (15 + 10 * K.length + 1 - 15) % 10 = 1 by omega]
          rfl
        have hf : Φ (some (.int (nI k.2.1))) N G (rmR hi sl) J := hf
        rw [← hv] at hf
        refine hC.1 [] 60 141 _ _ _ _ _ _ _ ⟨14, rfl, by decide, fun _ => ⟨14, rfl, by decide, 15 + 10 * K.length + 1, ?_, by show 15 + 10 * K.length + 1 < 215; omega, hf⟩, fun q => absurd (fun z => by have z : G 45 14 = nI 0 := z; rw [r14', nI_eq (by omega) (by decide)] at z; omega) q⟩
        show nI 15 + nI 10 * (G 45 14 - nI 1) + nI 1 = _
        rw [r14', pk_sub (by omega), Nat.add_sub_cancel, pk_mul, nI_add, nI_add]
    · have hv := val 8 (by decide) (sw_i (by decide) e)
      exact hC.1 [] 40 179 _ _ _ _ _ _ _ ⟨hi, sl, wS W, rfl, hok.1, m1, fun G' g2 g3 => hv G' (MR_pl hM g2 g3) (fun i hi => g2 i (by omega) (by omega)) (g3 21 (by decide))⟩
    · exact absurd e (no 9 (by decide) (by decide))
    · exact absurd e (no 10 (by decide) (by decide))
    · exact absurd e (no 11 (by decide) (by decide))
    · have hf := go 12 (by decide) e
      have e1 : sCt W 12 = G 44 7 := m6.symm
      rw [e1] at hf
      exact hC.1 [] 40 184 _ _ _ _ _ _ _ hf
    · have hf := go 13 (by decide) e
      have e1 : sCt W 13 = G 44 5 := m2.symm
      rw [e1] at hf
      exact hC.1 [] 40 189 _ _ _ _ _ _ _ hf
    · have hx : x < nI 0 ∨ nI 13 < x := by
        rcases Decidable.em (x < nI 0 ∨ nI 13 < x) with z | z
        · exact z
        · exfalso
          obtain ⟨hx, -, hx2⟩ := rng (x := x) (a := 0) (b := 13) (fun y => z (Or.inl y)) (fun y => z (Or.inr y)) (by decide) (by decide)
          have ht : x.toInt = (nt x : Int) := by
            conv => lhs; rw [hx]
            exact ti (by omega)
          rw [ht] at n0 n1 n2 n3 n4 n5 n6 n7 n8 n9 n10 n11 n12 n13
          omega
      rw [if_pos hx] at h
      exact hC.1 [] 20 194 _ _ _ _ _ _ _ (pM_0 h hM)
  · have q : ¬ b2 (inb x (nI 9) (nI 11)) = nI 0 := q
    rw [b2_t, inb_t] at q
    obtain ⟨hx, hx1, hx2⟩ := rng (x := x) (a := 9) (b := 11) (fun z => q (Or.inl z)) (fun z => q (Or.inr z)) (by decide) (by decide)
    have hv := val (nt x) (by omega) hx
    have e : G 45 (nt x - 9) = sCt W (nt x) := by
      have h3 : nt x = 9 ∨ nt x = 10 ∨ nt x = 11 := by omega
      rcases h3 with z | z | z <;> rw [z]
      · exact r0
      · exact r1
      · exact r2
    have hf := pM_0 hv hM
    rw [← e] at hf
    refine ⟨nt x - 9, ?_, by show nt x - 9 < 215; omega, hf⟩
    show x - nI 9 = _
    conv => lhs; rw [hx]
    exact pk_sub (by omega)
