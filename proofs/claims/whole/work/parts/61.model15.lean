/-! the model's public methods: back, the method -/
def t_X6_back : oz_T := (P_X6_back, e_X6, [(60, 1, 1, 0, s_X6_remember), (63, 1, 2, 0, s_X6_record)], (true, 58, none, false, 0), (0, fun _ => 0))
def s_X6_back : oz_S := oz_t0 44 fun N G R J Φ => ∃ hi sl W, R = rmR hi sl ∧ MR G W ∧ wOk W ∧ pM N G R J Φ (q_back W)
theorem I_X6_back : oz_Imp t_X6_back 4 s_X6_back := by
  intro Φ A a N G R J hN hS hC
  obtain ⟨rfl, hi, sl, W, rfl, hM, hok, h⟩ := oz_t0_e hS
  obtain ⟨u, hu, hg, hK⟩ := hok.1.2.2.2.2.2
  have h16 := StOk_20 hok.1
  have hn6 := hok.1.2.1
  obtain ⟨⟨n, rl, ex, lv, c, K⟩, H, s0, s1, w, len⟩ := W
  obtain ⟨m1, m2, m3, m4, m5, m6, m7, m8⟩ := id hM
  unfold q_back at h
  cases K with
  | nil =>
    have e : G 45 14 = nI 0 := row_g m1 (by decide)
    exact hC.1 [] 30 0 _ _ _ _ _ _ _ ⟨14, rfl, by decide, fun q => absurd e q, fun _ => pM_0 h hM⟩
  | cons k K =>
    have h16 : (k :: K).length ≤ 16 := h16
    rw [List.length_cons] at h16
    have hlo : lo k.2.2 = 0 := hK.2.1
    have c1 : ∀ j, cpo G 45 0 47 0 215 45 j = G 45 j := fun j => by rw [cpo_o (by decide)]
    have e14 : cpo G 45 0 47 0 215 45 14 - nI 1 = nI K.length := by
      rw [c1, row_g m1 (by decide)]
      show nI (K.length + 1) - nI 1 = _
      rw [pk_sub (by omega)]; rfl
    have e13 : cpo G 45 0 47 0 215 45 13 - nI 1 = nI K.length := by
      rw [c1, row_g m1 (by decide)]
      show nI (K.length + 1) - nI 1 = _
      rw [pk_sub (by omega)]; rfl
    have kv : ∀ r, r < 10 → G 45 (15 + 10 * K.length + r) = nI (kpV n k r) := fun r hr => by
      have := m1 (15 + 10 * K.length + r) (by show _ < 15 + 10 * (k :: K).length; rw [List.length_cons]; omega)
      rw [Nat.zero_add] at this
      rw [this]
      show nI (rowV (n, rl, ex, lv, c, k :: K) _) = _
      rw [rowV_k hr]
    have l2 : ∀ f i (G5 : oz_G), i + f = 10 → (∀ j, j ≠ 45 → G5 j = cpo G 45 0 47 0 215 j) → RowR G5 45 0 (n, rl, ex, lv, k.2.2, K) → A 134 [some (.ref 44), some (.int (nI (15 + 10 * K.length))), some (.int (nI k.1)), some (.int (nI i))] [] N G5 (rmR hi sl) J 0 := by
      intro f
      induction f with
      | zero =>
        intro i G5 hif g1 g2
        have hi10 : i = 10 := by omega
        subst hi10
        have far : ∀ j, j ≠ 45 → j ≠ 47 → G5 j = G j := fun j h1 h2 => by rw [g1 j h1, cpo_o h2]
        have b47 : RowR G5 47 0 (n, rl, ex, lv, c, k :: K) := RowR_fr (fun r hr => by rw [g1 47 (by decide)]) (cpo_R (b := 47) (p := 0) hok.1 m1)
        refine hC.1 [] 60 134 _ _ _ _ _ _ _ ⟨fun _ => ⟨hi, sl, (n, rl, ex, lv, c, k :: K), H, rfl, hok.1, hok.2.1, hok.2.2.2.2, b47, by rw [far 44 (by decide) (by decide)]; exact m2, HsM_fr (far 46 (by decide) (by decide)) _ m3, fun G' r1 r2 r3 r4 => ?_⟩, fun q => absurd (show nI 10 ≤ nI 10 by decide) q⟩
        exact h G' (MR_rec hM g2 (by rw [far 44 (by decide) (by decide)]) (fun i hi => far i (by omega) (by omega)) r1 r2 r3 r4) (fun i hi => by rw [r1 i (by omega) (by omega)]; exact far i (by omega) (by omega)) (by rw [r2 21 (by decide), far 44 (by decide) (by decide)])
      | succ f ih =>
        intro i G5 hif g1 g2
        have hih := ih (i + 1) (oz2 G5 45 (15 + 10 * K.length + i) (nI 0)) (by omega) (fun j hj => by rw [oz2_row hj]; exact g1 j hj) (RowR_fr (fun r hr => oz2_ne (by have hr : r < 15 + 10 * K.length := hr; omega)) g2)
        rw [← nI_add i 1] at hih
        exact hC.1 [134] 60 134 _ _ _ _ _ _ _ ⟨fun q => absurd (show nI 10 ≤ nI i from q) (nI_ge (by omega) (by decide)), fun _ => ⟨15 + 10 * K.length + i, nI_add _ i, by show 15 + 10 * K.length + i < 215; omega, hih⟩⟩
    have l1 : ∀ f i (G3 : oz_G), i + f = 6 → (∀ j, j ≠ 45 → G3 j = cpo G 45 0 47 0 215 j) → (∀ j, (j < 4 ∨ 15 ≤ j) → G3 45 j = G 45 j) → (∀ j, j < i → G3 45 (4 + j) = nI (sd n k.2.2 j)) → G3 45 13 = nI K.length → G3 45 14 = nI K.length → A 62 [some (.ref 44), some (.int (nI (15 + 10 * K.length))), some (.int (nI k.1)), some (.int (nI i))] [] N G3 (rmR hi sl) J 0 := by
      intro f
      induction f with
      | zero =>
        intro i G3 hif g1 g2 g3 g4 g5
        have hi6 : i = 6 := by omega
        subst hi6
        have v8 : G3 45 (15 + 10 * K.length + 8) = nI (dg k.2.2 n) := by rw [g2 _ (by omega), kv 8 (by decide)]; rfl
        have v9 : G3 45 (15 + 10 * K.length + 9) = nI (lf k.2.2) := by rw [g2 _ (by omega), kv 9 (by decide)]; rfl
        have h0 := l2 10 0 (oz2 (oz2 (oz2 G3 45 10 (nI (dg k.2.2 n))) 45 11 (nI (lf k.2.2))) 45 12 (nI 0)) (by decide) (fun j hj => by rw [oz2_row hj, oz2_row hj, oz2_row hj]; exact g1 j hj) (bk_R m1 hlo (fun j hj _ => by rw [oz2_ne (by omega), oz2_ne (by omega), oz2_ne (by omega)]; exact g2 j hj) (fun j hj => by rw [oz2_ne (by omega), oz2_ne (by omega), oz2_ne (by omega)]; exact g3 j hj) rfl rfl rfl (by rw [oz2_ne (by decide), oz2_ne (by decide), oz2_ne (by decide)]; exact g4) (by rw [oz2_ne (by decide), oz2_ne (by decide), oz2_ne (by decide)]; exact g5))
        have v9' : oz2 G3 45 10 (nI (dg k.2.2 n)) 45 (15 + 10 * K.length + 9) = nI (lf k.2.2) := by rw [oz2_ne (by omega)]; exact v9
        rw [← v9', ← v8] at h0
        exact hC.1 [134] 90 62 _ _ _ _ _ _ _ ⟨fun _ => ⟨15 + 10 * K.length + 8, nI_add _ 8, by show 15 + 10 * K.length + 8 < 215; omega, 10, rfl, by decide, 15 + 10 * K.length + 9, nI_add _ 9, by show 15 + 10 * K.length + 9 < 215; omega, 11, rfl, by decide, 12, rfl, by decide, h0⟩, fun q => absurd (show nI 6 ≤ nI 6 by decide) q⟩
      | succ f ih =>
        intro i G3 hif g1 g2 g3 g4 g5
        have hv : G3 45 (15 + 10 * K.length + 2 + i) = nI (sd n k.2.2 i) := by
          rw [g2 _ (by omega), show 15 + 10 * K.length + 2 + i = 15 + 10 * K.length + (2 + i) by omega, kv (2 + i) (by omega)]
          unfold kpV
          rw [if_neg (by omega), if_neg (by omega), if_pos (by omega), Nat.add_sub_cancel_left]
        have hih := ih (i + 1) (oz2 G3 45 (4 + i) (nI (sd n k.2.2 i))) (by omega) (fun j hj => by rw [oz2_row hj]; exact g1 j hj) (fun j hj => by rw [oz2_ne (by omega)]; exact g2 j hj) (fun j hj => by
          by_cases q : j = i
          · rw [q, oz2_self]
          · rw [oz2_ne (by omega)]; exact g3 j (by omega)) (by rw [oz2_ne (by omega)]; exact g4) (by rw [oz2_ne (by omega)]; exact g5)
        rw [← hv, ← nI_add i 1] at hih
        exact hC.1 [62] 60 62 _ _ _ _ _ _ _ ⟨fun q => absurd (show nI 6 ≤ nI i from q) (nI_ge (by omega) (by decide)), fun _ => ⟨15 + 10 * K.length + 2 + i, by show nI (15 + 10 * K.length) + nI 2 + nI i = _; rw [nI_add, nI_add], by show 15 + 10 * K.length + 2 + i < 215; omega, 4 + i, nI_add 4 i, by show 4 + i < 215; omega, hih⟩⟩
    have h0 := l1 6 0 (oz2 (oz2 (cpo G 45 0 47 0 215) 45 14 (nI K.length)) 45 13 (nI K.length)) (by decide) (fun j hj => by rw [oz2_row hj, oz2_row hj]) (fun j hj => by rw [oz2_ne (by omega), oz2_ne (by omega), c1]) (fun j hj => absurd hj (Nat.not_lt_zero _)) rfl rfl
    have ek : oz2 (oz2 (cpo G 45 0 47 0 215) 45 14 (nI K.length)) 45 13 (nI K.length) 45 (15 + 10 * K.length) = nI k.1 := by
      rw [oz2_ne (by omega), oz2_ne (by omega), c1]
      have := kv 0 (by decide)
      rw [Nat.add_zero] at this
      exact this
    have eb : nI 15 + nI 10 * nI K.length = nI (15 + 10 * K.length) := by rw [pk_mul, nI_add]
    rw [← ek, ← eb] at h0
    have e : G 45 14 = nI (K.length + 1) := row_g m1 (by decide)
    refine hC.1 [62] 120 0 _ _ _ _ _ _ _ ⟨14, rfl, by decide, fun _ => ⟨hi, sl, rfl, 14, rfl, by decide, 14, rfl, by decide, 13, rfl, by decide, 13, rfl, by decide, 14, rfl, by decide, 15 + 10 * K.length, ?_, by show 15 + 10 * K.length < 215; omega, ?_⟩, fun q => absurd (fun z => by have z : G 45 14 = nI 0 := z; rw [e, nI_eq (by omega) (by decide)] at z; omega) q⟩
    · show nI 15 + nI 10 * (cpo G 45 0 47 0 215 45 14 - nI 1) = _
      rw [e14, eb]
    · show A 62 [some (.ref 44), some (.int (nI 15 + nI 10 * (cpo G 45 0 47 0 215 45 14 - nI 1))), some (.int ((oz2 (oz2 (cpo G 45 0 47 0 215) 45 14 (cpo G 45 0 47 0 215 45 14 - nI 1)) 45 13 (cpo G 45 0 47 0 215 45 13 - nI 1)) 45 (15 + 10 * K.length))), some (.int (nI 0))] [] N (oz2 (oz2 (cpo G 45 0 47 0 215) 45 14 (cpo G 45 0 47 0 215 45 14 - nI 1)) 45 13 (cpo G 45 0 47 0 215 45 13 - nI 1)) (rmR hi sl) J 0
      rw [e14, e13]
      exact h0
