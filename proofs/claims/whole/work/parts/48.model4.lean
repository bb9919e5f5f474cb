/-! the model's public methods: undo, save, restore, wipe, pit, move -/
def FrX (G G' : oz_G) : Prop := ∀ i, (i < 44 ∨ 54 ≤ i) → G' i = G i
def pM (N : Nat) (G : oz_G) (R : oz_R) (J : oz_J) (Φ : oz_C) (r : Int32 × Wd) : Prop := ∀ G' : oz_G, MR G' r.2 → FrX G G' → G' 44 21 = G 44 21 → Φ (some (.int r.1)) N G' R J
theorem pM_0 {N : Nat} {G : oz_G} {R : oz_R} {J : oz_J} {W : Wd} {Φ : oz_C} {v : Int32} (h : pM N G R J Φ (v, W)) (hM : MR G W) : Φ (some (.int v)) N G R J := h G hM (fun _ _ => rfl) rfl
theorem SlM_fr {G G' : oz_G} (h1 : G' 49 = G 49) (h2 : G' 48 = G 48) {s : Option St} {k : Nat} (h : SlM G s k) : SlM G' s k := by
  cases s with
  | none =>
    have h : G 49 k = nI 0 := h
    show G' 49 k = nI 0
    rw [h1]; exact h
  | some S => exact ⟨by rw [h1]; exact h.1, RowR_fr (fun k _ => by rw [h2]) h.2⟩
theorem MR_now {G G' : oz_G} {W : Wd} {S : St} (h : MR G W) (hS : RowR G' 45 0 S) (h5 : G' 44 5 = G 44 5) (h7 : G' 44 7 = G 44 7) (hf : ∀ i, (i = 46 ∨ i = 48 ∨ i = 49 ∨ i = 50) → G' i = G i) : MR G' (wNow W S) := by
  obtain ⟨-, m2, m3, m4, m5, m6, m7, m8⟩ := h
  exact ⟨hS, by rw [h5]; exact m2, HsM_fr (hf 46 (by decide)) _ m3, SlM_fr (hf 49 (by decide)) (hf 48 (by decide)) m4, SlM_fr (hf 49 (by decide)) (hf 48 (by decide)) m5, by rw [h7]; exact m6, m7, fun j hj => by rw [hf 50 (by decide)]; exact m8 j hj⟩
def t_X6_undo : oz_T := (P_X6_undo, e_X6, [], (true, 58, none, false, 0), (0, fun _ => 0))
def s_X6_undo : oz_S := oz_t0 44 fun N G R J Φ => ∃ hi sl W, R = rmR hi sl ∧ MR G W ∧ wOk W ∧ pM N G R J Φ (q_undo W)
theorem I_X6_undo : oz_Imp t_X6_undo 2 s_X6_undo := by
  intro Φ A a N G R J hN hS hC
  obtain ⟨rfl, hi, sl, W, rfl, hM, hok, h⟩ := oz_t0_e hS
  obtain ⟨S0, H, s0, s1, w, len⟩ := W
  obtain ⟨m1, m2, m3, m4, m5, m6, m7, m8⟩ := id hM
  unfold q_undo at h
  cases H with
  | nil =>
    have e : G 44 5 = nI 0 := m2
    exact hC.1 [] 30 0 _ _ _ _ _ _ _ ⟨fun q => absurd e q, fun _ => pM_0 h hM⟩
  | cons S H =>
    have e : G 44 5 = nI (H.length + 1) := m2
    have hlen : H.length + 1 ≤ 6 := hok.2.2.2.2
    have hS : StOk S := hok.2.1 S List.mem_cons_self
    have e2 : G 44 5 - nI 1 = nI H.length := by rw [e, pk_sub (by omega)]; rfl
    have hSr : RowR G 46 (215 * H.length) S := m3.1
    have hM' : ∀ G1 : oz_G, (∀ i, i ≠ 44 → G1 i = G i) → G1 44 5 = nI H.length → G1 44 7 = G 44 7 → MR (cpo G1 46 (215 * H.length) 45 0 215) (S, H, s0, s1, w, len) := fun G1 g1 g2 g3 =>
      ⟨cpo_R hS (RowR_fr (fun k _ => by rw [g1 46 (by decide)]) hSr), by rw [cpo_o (by decide)]; exact g2, HsM_fr (by rw [cpo_o (by decide), g1 46 (by decide)]) H m3.2, SlM_fr (by rw [cpo_o (by decide), g1 49 (by decide)]) (by rw [cpo_o (by decide), g1 48 (by decide)]) m4, SlM_fr (by rw [cpo_o (by decide), g1 49 (by decide)]) (by rw [cpo_o (by decide), g1 48 (by decide)]) m5, by rw [cpo_o (by decide), g3]; exact m6, m7, fun j hj => by rw [cpo_o (by decide), g1 50 (by decide)]; exact m8 j hj⟩
    have loop : ∀ f i, i + f = 215 → A 22 [some (.ref 44), some (.int (nI i))] [] N (cpo (oz2 G 44 5 (nI H.length)) 46 (215 * H.length) 45 0 i) (rmR hi sl) J 0 := by
      intro f
      induction f with
      | zero =>
        intro i hif
        have hi : i = 215 := by omega
        subst hi
        have hf := h _ (hM' (oz2 G 44 5 (nI H.length)) (fun i hi => oz2_row hi) oz2_self (oz2_ne (by decide))) (fun i hi => by rw [cpo_o (by omega), oz2_row (by omega)]) (by rw [cpo_o (by decide), oz2_ne (by decide)])
        exact hC.1 [] 30 22 _ _ _ _ _ _ _ ⟨fun _ => hf, fun q => absurd (show nI 215 ≤ nI 215 by decide) q⟩
      | succ f ih =>
        intro i hif
        have hih := ih (i + 1) (by omega)
        rw [← cpo_s, ← nI_add i 1, Nat.zero_add] at hih
        have hv : cpo (oz2 G 44 5 (nI H.length)) 46 (215 * H.length) 45 0 i 46 (215 * H.length + i) = oz2 G 44 5 (nI H.length) 46 (215 * H.length + i) := by rw [cpo_o (by decide)]
        rw [← hv] at hih
        exact hC.1 [22] 60 22 _ _ _ _ _ _ _ ⟨fun q => absurd (show nI 215 ≤ nI i from q) (nI_ge (by omega) (by decide)), fun _ => ⟨215 * H.length + i, by show nI 215 * nI H.length + nI i = _; rw [pk_mul, nI_add], by show 215 * H.length + i < 1290; omega, i, rfl, by show i < 215; omega, hih⟩⟩
    have h0 := loop 215 0 (by omega)
    rw [cpo_0, ← e2] at h0
    exact hC.1 [22] 40 0 _ _ _ _ _ _ _ ⟨fun _ => h0, fun q => absurd (fun z => by have z : G 44 5 = nI 0 := z; rw [e, nI_eq (by omega) (by decide)] at z; omega) q⟩
def t_X6_wipe : oz_T := (P_X6_wipe, e_X6, [], (true, 58, none, false, 0), (0, fun _ => 0))
def s_X6_wipe : oz_S := oz_t0 44 fun N G R J Φ => ∃ hi sl W, R = rmR hi sl ∧ MR G W ∧ wOk W ∧ pM N G R J Φ (q_wipe W)
theorem I_X6_wipe : oz_Imp t_X6_wipe 2 s_X6_wipe := by
  intro Φ A a N G R J hN hS hC
  obtain ⟨rfl, hi, sl, W, rfl, hM, hok, h⟩ := oz_t0_e hS
  obtain ⟨m1, m2, m3, m4, m5, m6, m7, m8⟩ := id hM
  have hf := h (oz2 G 44 7 (nI 0)) ⟨RowR_fr (fun k _ => by rw [oz2_row (by decide)]) m1, by rw [oz2_ne (by decide)]; exact m2, HsM_fr (oz2_row (by decide)) _ m3, SlM_fr (oz2_row (by decide)) (oz2_row (by decide)) m4, SlM_fr (oz2_row (by decide)) (oz2_row (by decide)) m5, oz2_self, Nat.zero_le _, fun j hj => absurd hj (Nat.not_lt_zero _)⟩ (fun i hi => oz2_row (by omega)) (by rw [oz2_ne (by decide)])
  have e : (q_wipe W).1 = G 44 7 := m6.symm
  rw [e] at hf
  exact hC.1 [] 30 0 _ _ _ _ _ _ _ hf
def t_X6_pit : oz_T := (P_X6_pit, e_X6, [(146, 1, 2, 0, s_X6_isPit)], (true, 58, none, false, 0), (0, fun _ => 0))
def s_X6_pit : oz_S := oz_t1 44 fun x N G R J Φ => ∃ hi sl W, R = rmR hi sl ∧ MR G W ∧ wOk W ∧ pM N G R J Φ (q_pit W x)
theorem I_X6_pit : oz_Imp t_X6_pit 2 s_X6_pit := by
  intro Φ A a N G R J hN hS hC
  obtain ⟨x, rfl, hi, sl, W, rfl, hM, hok, h⟩ := oz_t1_e hS
  have hR := hM.1
  have hn2 := hok.1.1
  have hn6 := hok.1.2.1
  have e3 : G 45 3 = nI (sN (wS W)) := row_g hR (by decide)
  unfold q_pit at h
  refine hC.1 [] 60 0 _ _ _ _ _ _ _ ⟨hi, sl, sN (wS W), rfl, e3, by omega, by omega, fun q => ?_, fun q => ?_⟩
  · have q : b2 (ip (sN (wS W)) x) = nI 0 := q
    rw [b2_f] at q
    rw [if_neg (by rw [q]; decide)] at h
    exact pM_0 h hM
  · have q : ¬ b2 (ip (sN (wS W)) x) = nI 0 := q
    rw [b2_t] at q
    obtain ⟨hx, hlt⟩ := ip_t q (by omega)
    rw [if_pos q] at h
    have e : G 45 (4 + nt x) = nI (dg (sC (wS W)) (nt x)) := by
      rw [row_g hR (show 4 + nt x < 15 by omega), rowV_p (by omega)]
      unfold sd
      rw [if_pos hlt]
    rw [← e] at h
    refine ⟨4 + nt x, ?_, by show 4 + nt x < 215; omega, pM_0 h hM⟩
    show nI 4 + x = _
    conv => lhs; rw [hx]
    exact nI_add 4 (nt x)
