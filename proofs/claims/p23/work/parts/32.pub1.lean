/-! the class's public methods: now -/
def wNow (W : Wd) (S : St) : Wd := (S, wH W, w0 W, w1 W, wP W, wL W)
def wPad (W : Wd) (w : Nat → Nat) (len : Nat) : Wd := (wS W, wH W, w0 W, w1 W, w, len)
theorem CR_now {N : Nat} {G G' : oz_G} {R : oz_R} {W : Wd} {S : St} (h : CR N G R W) (hlen : (wH W).length ≤ 6) (hS : StR G' 1 S) (hf : ∀ i, (i = 0 ∨ i = 8 ∨ i = 9 ∨ 14 ≤ i) → G' i = G i) : CR N G' R (wNow W S) := by
  obtain ⟨hi, sl, rfl, hh, hs, -, hl, hH, h0, h1, hP⟩ := h
  exact ⟨hi, sl, rfl, hh, hs, hS, by rw [hf 0 (Or.inl rfl)]; exact hl, HsR_fr hh (fun i a1 a2 => hf i (by omega)) _ hlen hH, SlR_fr hs (fun i a1 a2 => hf i (by omega)) (by decide) h0, SlR_fr hs (fun i a1 a2 => hf i (by omega)) (by decide) h1, PdC_fr (by rw [hf 8 (by omega)]) (by rw [hf 9 (by omega)]) hP⟩
theorem CR_fr {N : Nat} {G G' : oz_G} {R : oz_R} {W : Wd} (h : CR N G R W) (hlen : (wH W).length ≤ 6) (hf : ∀ i, (i ≤ 5 ∨ i = 8 ∨ i = 9 ∨ 14 ≤ i) → G' i = G i) : CR N G' R W := by
  have hS : StR G' 1 (wS W) := by
    obtain ⟨hi, sl, -, -, -, hS, -⟩ := h
    exact StR_fr (fun i a1 a2 => hf i (by omega)) hS
  exact CR_now h hlen hS (fun i hi => hf i (by omega))
theorem CR_pad {N : Nat} {G G' : oz_G} {R : oz_R} {W : Wd} {w : Nat → Nat} {len : Nat} (h : CR N G R W) (hlen : (wH W).length ≤ 6) (hP : PdC G' w len) (hf : ∀ i, i ≠ 8 → i ≠ 9 → G' i = G i) : CR N G' R (wPad W w len) := by
  obtain ⟨hi, sl, rfl, hh, hs, hS, hl, hH, h0, h1, -⟩ := h
  exact ⟨hi, sl, rfl, hh, hs, StR_fr (fun i a1 a2 => hf i (by omega) (by omega)) hS, by rw [hf 0 (by decide) (by decide)]; exact hl, HsR_fr hh (fun i a1 a2 => hf i (by omega) (by omega)) _ hlen hH, SlR_fr hs (fun i a1 a2 => hf i (by omega) (by omega)) (by decide) h0, SlR_fr hs (fun i a1 a2 => hf i (by omega) (by omega)) (by decide) h1, hP⟩
def pQ (N : Nat) (G : oz_G) (W : Wd) (Φ : oz_C) (r : Int32 × Wd) : Prop := ∀ (N' : Nat) (G' : oz_G) (R' : oz_R) (J' : oz_J), N ≤ N' → CR N' G' R' r.2 → FrC G G' → Φ (some (.int r.1)) N' G' R' J'
theorem pQ_0 {N : Nat} {G : oz_G} {R : oz_R} {J : oz_J} {W : Wd} {Φ : oz_C} {v : Int32} (h : pQ N G W Φ (v, W)) (hC : CR N G R W) : Φ (some (.int v)) N G R J := h N G R J (Nat.le_refl _) hC (fun _ _ _ => rfl)
/-- a move made -/
def sMv (S : St) (i : Nat) : St := (sN S, sRl S, sEx S, sLv S, mvc (sN S) (sRl S) (sC S) i, (i, (mv (sN S) (sRl S) (sC S) i).2.2, sC S) :: sK S)
theorem sMv_ok {S : St} {i : Nat} (h : StOk S) (hi : i < sN S) (hl : lg (sN S) (sEx S) (sC S) i = 1) : StOk (sMv S i) := by
  obtain ⟨h1, h2, h3, h4, h5, u, hu, hg, hK⟩ := h
  obtain ⟨m1, m2⟩ := Gd_mv (rl := sRl S) hg hi (lg_e hl).2 (lg_e hl).1
  obtain ⟨b1, b2, b3, b4, b5, b6⟩ := mv_ok (rl := sRl S) (Gd_Pv hg) hi (lg_e hl).2
  exact ⟨h1, h2, h3, h4, h5, u, hu, m1, hg, (lg_e hl).1, Nat.lt_of_succ_le m2, hi, b5, hK⟩
def t_X5_makeMove : oz_T := (P_X5_makeMove, e_X5, [(162, 1, 4, 0, s_X3_make), (193, 1, 3, 0, s_X4_keep)], (true, 44, none, false, 0), (0, fun _ => 0))
def s_X5_makeMove : oz_S := oz_t1 0 fun x N G R J Φ => ∃ W i, CR N G R W ∧ wOk W ∧ x = nI i ∧ i < sN (wS W) ∧ lg (sN (wS W)) (sEx (wS W)) (sC (wS W)) i = 1 ∧ ∀ G' : oz_G, CR N G' R (wNow W (sMv (wS W) i)) → (∀ a, (a = 0 ∨ (6 ≤ a ∧ a ≠ 10)) → G' a = G a) → G' 10 3 = nI (dg (mv (sN (wS W)) (sRl (wS W)) (sC (wS W)) i).1 (sN (wS W)) - dg (sC (wS W)) (sN (wS W))) → Φ none N G' R J
theorem mm_R {G : oz_G} {S : St} {i : Nat} (hS : StR G 1 S) : StR (oz2 (oz2 (oz2 (oz2 (oz2 (oz2 (mG G 10 (sN S) (sRl S) (sC S) i) 3 (sK S).length (nI i)) 4 (sK S).length (nI (mv (sN S) (sRl S) (sC S) i).2.2)) 5 (sK S).length (G 1 2)) 1 4 (nI (sK S).length + nI 1)) 1 3 (G 1 3 + nI 1)) 1 2 (nI (mvc (sN S) (sRl S) (sC S) i))) 1 (sMv S i) := by
  obtain ⟨h1, h2, h3, h4, h5, h6, h7, h8⟩ := hS
  refine ⟨h1, rfl, ?_, ?_, h5, h6, h7, ?_, ?_, ?_, ?_⟩
  · show G 1 3 + nI 1 = nI ((sK S).length + 1)
    rw [h3, nI_add]
  · show nI (sK S).length + nI 1 = nI ((sK S).length + 1)
    rw [nI_add]
  · show (if (sK S).length = (sK S).length then nI i else G 3 (sK S).length) = nI i
    exact if_pos rfl
  · show (if (sK S).length = (sK S).length then nI (mv (sN S) (sRl S) (sC S) i).2.2 else G 4 (sK S).length) = _
    exact if_pos rfl
  · show (if (sK S).length = (sK S).length then G 1 2 else G 5 (sK S).length) = nI (sC S)
    rw [if_pos rfl, h2]
  · refine KpR_fr (m := (sK S).length) (fun j hj => ?_) (fun j hj => ?_) (fun j hj => ?_) _ (Nat.le_refl _) h8
    · show (if j = (sK S).length then nI i else G 3 j) = G 3 j
      exact if_neg (by omega)
    · show (if j = (sK S).length then nI (mv (sN S) (sRl S) (sC S) i).2.2 else G 4 j) = G 4 j
      exact if_neg (by omega)
    · show (if j = (sK S).length then G 1 2 else G 5 j) = G 5 j
      exact if_neg (by omega)
theorem I_X5_makeMove : oz_Imp t_X5_makeMove 2 s_X5_makeMove := by
  intro Φ A a N G R J hN hS hC
  obtain ⟨x, rfl, W, i, hCR, hok, rfl, hin, hl, h⟩ := oz_t1_e hS
  obtain ⟨hi, sl, rfl, hh, hs, hSt, -⟩ := id hCR
  obtain ⟨u, hu, hg, hK⟩ := hok.1.2.2.2.2.2
  have hK20 : (sK (wS W)).length < 20 := by have := KOk_len _ _ hg hK; omega
  have hev := StR_Ev hSt hok.1
  have hfin := h _ (CR_now (S := sMv (wS W) i) hCR hok.2.2.2.2 (mm_R (i := i) hSt) (fun a ha => by
    rw [oz2_row (by omega), oz2_row (by omega), oz2_row (by omega), oz2_row (by omega), oz2_row (by omega), oz2_row (by omega), mG_n (by omega)])) (fun a ha => by
    rw [oz2_row (by omega), oz2_row (by omega), oz2_row (by omega), oz2_row (by omega), oz2_row (by omega), oz2_row (by omega), mG_n (by omega)]) rfl
  exact hC.1 [] 80 0 _ _ _ _ _ _ _ ⟨Or.inl rfl, rfl, hi, sl, _, _, _, u, _, i, rfl, hSt.2.1, rfl, hev.1, hev.2.1, hev.2.2.2.2.2.1, Gd_Pv hg, hin, (lg_e hl).2, (lg_e hl).1, hi, sl, (sK (wS W)).length, rfl, hSt.2.2.2.1, hK20, hfin⟩
/-! answers of the class: pure -/
def q_pit (W : Wd) (x : Int32) : Int32 × Wd := (if ip (sN (wS W)) x = true then nI (dg (sC (wS W)) (nt x)) else oz_c (-1), W)
def t_X5_pit : oz_T := (P_X5_pit, e_X5, [(98, 1, 2, 0, s_X5_isPit), (135, 0, 2, 0, s_X1_seedsAt)], (true, 44, none, false, 0), (0, fun _ => 0))
def s_X5_pit : oz_S := oz_t1 0 fun x N G R J Φ => ∃ W, CR N G R W ∧ wOk W ∧ pQ N G W Φ (q_pit W x)
theorem I_X5_pit : oz_Imp t_X5_pit 2 s_X5_pit := by
  intro Φ A a N G R J hN hS hC
  obtain ⟨x, rfl, W, hCR, hok, h⟩ := oz_t1_e hS
  obtain ⟨hi, sl, rfl, hh, hs, hSt, -⟩ := id hCR
  obtain ⟨u, hu, hg, hK⟩ := hok.1.2.2.2.2.2
  have hc := Gd_lt hg
  have hn6 := hok.1.2.1
  refine hC.1 [] 60 0 _ _ _ _ _ _ _ ⟨hi, sl, sN (wS W), rfl, hSt.1, fun hq => ?_, fun hq => ?_⟩
  · have hq : b2 (ip (sN (wS W)) x) = nI 0 := hq
    rw [b2_f] at hq
    unfold q_pit at h
    rw [if_neg (by rw [hq]; decide)] at h
    exact pQ_0 h hCR
  · have hq : ¬ b2 (ip (sN (wS W)) x) = nI 0 := hq
    rw [b2_t] at hq
    obtain ⟨hx, hlt⟩ := ip_t hq (by omega)
    unfold q_pit at h
    rw [if_pos hq] at h
    have e : rw_at (G 1 2) x = nI (dg (sC (wS W)) (nt x)) := by
      rw [hSt.2.1]
      conv => lhs; rw [hx]
      exact rw_at_n (by omega) (by omega)
    rw [← e] at h
    exact pQ_0 h hCR
def q_move (W : Wd) (x : Int32) : Int32 × Wd := (if x < 0 then oz_c (-1) else if nI (sK (wS W)).length ≤ x then oz_c (-6) else nI (((sK (wS W)).getD (nt x) (0, 0, 0)).1), W)
theorem KpR_get {G : oz_G} {b : Nat} : ∀ (K : List Kp) (j : Nat), j < K.length → KpR G b K → G (b + 2) (K.length - 1 - j) = nI (K.getD j (0, 0, 0)).1 ∧ G (b + 3) (K.length - 1 - j) = nI (K.getD j (0, 0, 0)).2.1 ∧ G (b + 4) (K.length - 1 - j) = nI (K.getD j (0, 0, 0)).2.2
  | [], j, h, _ => absurd h (Nat.not_lt_zero _)
  | k :: K, 0, h, hK => ⟨hK.1, hK.2.1, hK.2.2.1⟩
  | k :: K, j + 1, h, hK => by
    rw [List.length_cons] at h
    have := KpR_get K j (by omega) hK.2.2.2
    rw [List.length_cons, show K.length + 1 - 1 - (j + 1) = K.length - 1 - j by omega, List.getD_cons_succ]
    exact this
def t_X5_move : oz_T := (P_X5_move, e_X5, [(159, 1, 2, 0, s_X4_keptPit)], (true, 44, none, false, 0), (0, fun _ => 0))
def s_X5_move : oz_S := oz_t1 0 fun x N G R J Φ => ∃ W, CR N G R W ∧ wOk W ∧ pQ N G W Φ (q_move W x)
theorem I_X5_move : oz_Imp t_X5_move 2 s_X5_move := by
  intro Φ A a N G R J hN hS hC
  obtain ⟨x, rfl, W, hCR, hok, h⟩ := oz_t1_e hS
  obtain ⟨hi, sl, rfl, hh, hs, hSt, -⟩ := id hCR
  obtain ⟨u, hu, hg, hK⟩ := hok.1.2.2.2.2.2
  have hK20 : (sK (wS W)).length ≤ 20 := by have := KOk_len _ _ hg hK; omega
  unfold q_move at h
  refine hC.1 [] 60 0 _ _ _ _ _ _ _ ⟨fun hq => ⟨hi, sl, (sK (wS W)).length, rfl, hSt.2.2.2.1, hK20, fun j hx hj => ?_, fun hq2 => ?_⟩, fun hq => ?_⟩
  · have hq : 0 ≤ x := hq
    rw [if_neg (by rw [hx]; exact nI_pos (by omega)), if_neg (by rw [hx]; exact nI_ge hj (by omega))] at h
    rw [hx, nt_nI (by omega), ← (KpR_get _ j hj hSt.2.2.2.2.2.2.2).1] at h
    exact pQ_0 h hCR
  · have hq : ¬ x < 0 := by
      have hq : nI 0 ≤ x := hq
      exact Int32.not_lt.mpr hq
    rw [if_neg hq, if_pos (hq2.resolve_left hq)] at h
    exact pQ_0 h hCR
  · have hq : x < 0 := by
      have hq : ¬ nI 0 ≤ x := hq
      exact Int32.not_le.mp hq
    rw [if_pos hq] at h
    exact pQ_0 h hCR
