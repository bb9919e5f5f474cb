/-! a state made; the class's public methods: save -/
def t_X4_init : oz_T := (P_X4_init, e_X4, [(3, 2, 1, 0, oz_Sobj)], (false, 0, some 3, false, 67), (0, fun _ => 0))
def inG (G : oz_G) (N b : Nat) : oz_G := oz2 (ozz (ozz (ozz (ozz G N 0) (N + 1) 0) (N + 2) 0) (N + 3) 0) N 0 (nI 1)
def inR (R : oz_R) (N b : Nat) : oz_R := oz2 (oz2 (oz2 (oz2 R b 0 (some N)) b 5 (some (N + 1))) b 6 (some (N + 2))) b 7 (some (N + 3))
def s_X4_init : oz_S := fun a N G R J Φ => match a with
  | [.ref b] => (oz_k b = 3 ∧ b + 1 = N) ∧ (oz_k N = 6 ∧ oz_l N = 3) ∧ (oz_k (N + 1) = 6 ∧ oz_l (N + 1) = 20) ∧ (oz_k (N + 2) = 6 ∧ oz_l (N + 2) = 20) ∧ (oz_k (N + 3) = 6 ∧ oz_l (N + 3) = 20) ∧ Φ none (N + 4) (inG G N b) (inR R N b) J
  | _ => False
theorem I_X4_init : oz_Imp t_X4_init 1 s_X4_init := by
  intro Φ A a N G R J hN hS hC
  obtain ⟨b, rfl, ⟨hb, hbN⟩, ⟨k0, l0⟩, ⟨k1, l1⟩, ⟨k2, l2⟩, ⟨k3, l3⟩, h⟩ : ∃ b : Nat, a = [.ref b] ∧ (oz_k b = 3 ∧ b + 1 = N) ∧ (oz_k N = 6 ∧ oz_l N = 3) ∧ (oz_k (N + 1) = 6 ∧ oz_l (N + 1) = 20) ∧ (oz_k (N + 2) = 6 ∧ oz_l (N + 2) = 20) ∧ (oz_k (N + 3) = 6 ∧ oz_l (N + 3) = 20) ∧ Φ none (N + 4) (inG G N b) (inR R N b) J := by
    unfold s_X4_init at hS
    split at hS
    · exact ⟨_, rfl, hS⟩
    · exact hS.elim
  have a39 : A 39 [some (.ref b)] [.ref N] (N + 4) (ozz (ozz (ozz (ozz G N 0) (N + 1) 0) (N + 2) 0) (N + 3) 0) (inR R N b) J 67 :=
    hC.1 [] 40 39 _ _ _ _ _ _ _ ⟨⟨k0, by show N < N + 4; omega⟩, 0, rfl, by rw [l0]; decide, h⟩
  have e : inR R N b b 0 = some N := by
    unfold inR
    rw [oz2_ne (by decide), oz2_ne (by decide), oz2_ne (by decide), oz2_self]
  have a39' : A 39 [some (.ref b)] [va_rf (inR R N b b 0)] (N + 4) (ozz (ozz (ozz (ozz G N 0) (N + 1) 0) (N + 2) 0) (N + 3) 0) (inR R N b) J 67 := by rw [e]; exact a39
  have c : ∀ j, oz_k b = 3 ∧ b < N + j := fun j => ⟨hb, by omega⟩
  exact hC.1 [39] 90 0 _ _ _ _ _ _ _ ⟨3, rfl, ⟨k0, l0, by decide⟩, c 1, 20, rfl, ⟨k1, l1, by decide⟩, c 2, 20, rfl, ⟨k2, l2, by decide⟩, c 3, 20, rfl, ⟨k3, l3, by decide⟩, c 4, c 4, a39'⟩
theorem fit_X4_init : ∀ a N G R J Φ, s_X4_init a N G R J Φ → oz_fit a 1 := by
  intro a N G R J Φ h
  unfold s_X4_init at h
  split at h
  · exact oz_fit_of (Nat.le_of_ble_eq_true rfl) rfl
  · exact h.elim
theorem rec_X4_init : oz_rec s_X4_init 0 3 0 := by
  intro Φ a N G R J hN h _
  unfold s_X4_init at h
  split at h
  · exact ⟨_, _, rfl, h.1.1, Nat.lt_of_succ_le (Nat.le_of_eq h.1.2)⟩
  · exact h.elim
theorem inR_b {hi : Nat → Nat} {sl : Nat → Option Nat} {b : Nat} (h1 : 58 ≤ b) (h2 : (b - 58) % 5 = 0) : inR (ozz (rmR hi sl) b none) (b + 1) b = rmR hi sl := by
  funext a k
  unfold inR
  by_cases ha : a = b
  · subst ha
    rw [rmR_b h1 h2]
    by_cases k7 : k = 7
    · subst k7; rw [oz2_self]; rfl
    · rw [oz2_ne k7]
      by_cases k6 : k = 6
      · subst k6; rw [oz2_self]; rfl
      · rw [oz2_ne k6]
        by_cases k5 : k = 5
        · subst k5; rw [oz2_self]; rfl
        · rw [oz2_ne k5]
          by_cases k0 : k = 0
          · subst k0; rw [oz2_self]; rfl
          · rw [oz2_ne k0]
            have e : ozz (rmR hi sl) a none a k = none := by unfold ozz; rw [if_pos rfl]
            rw [e]
            match k, k0, k5, k6, k7 with
            | 0, z, _, _, _ => exact absurd rfl z
            | 1, _, _, _, _ => rfl
            | 2, _, _, _, _ => rfl
            | 3, _, _, _, _ => rfl
            | 4, _, _, _, _ => rfl
            | 5, _, z, _, _ => exact absurd rfl z
            | 6, _, _, z, _ => exact absurd rfl z
            | 7, _, _, _, z => exact absurd rfl z
            | k + 8, _, _, _, _ => rfl
  · rw [oz2_row ha, oz2_row ha, oz2_row ha, oz2_row ha]
    unfold ozz
    rw [if_neg ha]
def wSave (W : Wd) (k : Nat) : Wd := if k = 0 then (wS W, wH W, some (wS W), w1 W, wP W, wL W) else (wS W, wH W, w0 W, some (wS W), wP W, wL W)
def q_save (W : Wd) (x : Int32) : Int32 × Wd := if x < 0 ∨ nI 2 ≤ x then (oz_c (-2), W) else (nI (dg (sC (wS W)) (sN (wS W))), wSave W (nt x))
def t_X5_save : oz_T := (P_X5_save, e_X5, [(9, 2, 1, 67, s_X4_init), (190, 1, 2, 0, s_X4_copyFrom), (129, 1, 1, 0, s_X4_store)], (true, 58, none, false, 76), (0, fun _ => 0))
def s_X5_save : oz_S := oz_t1 0 fun x N G R J Φ => ∃ W, CR N G R W ∧ wOk W ∧ pQ N G W Φ (q_save W x)
theorem I_X5_save : oz_Imp t_X5_save 2 s_X5_save := by
  intro Φ A a N G R J hN hS hC
  obtain ⟨x, rfl, W, hCR, hok, h⟩ := oz_t1_e hS
  obtain ⟨hi, sl, rfl, hh, hs, hSt, hl, hH, h0, h1, hP⟩ := id hCR
  have hN58 := hs.2.2.1
  have h16 := StOk_20 hok.1
  obtain ⟨u, hu, hg, hK⟩ := hok.1.2.2.2.2.2
  have hc := Gd_lt hg
  have hn6 := hok.1.2.1
  unfold q_save at h
  have a9 : (x < 0 ∨ nI 2 ≤ x) → A 9 [some (.ref 0), some (.int x)] [] N G (rmR hi sl) J 0 := fun q => by
    rw [if_pos q] at h
    exact hC.1 [] 20 9 _ _ _ _ _ _ _ (pQ_0 h hCR)
  have a12 : ¬ (x < 0 ∨ nI 2 ≤ x) → A 12 [some (.ref 0), some (.int x)] [] N G (rmR hi sl) J 0 := fun q => by
    rw [if_neg q] at h
    obtain ⟨hx, hk⟩ := rng2 (x := x) (b := 2) (fun z => q (Or.inl z)) (fun z => q (Or.inr z)) (by decide)
    generalize nt x = k at hx hk h
    clear q a9
    subst hx
    have a34 : ∀ (N1 : Nat) (G1 : oz_G) (sl1 : Nat → Option Nat) (b r : Nat), N ≤ N1 → slOk N1 sl1 → sl1 k = some b → (∀ j, j < 2 → j ≠ k → sl1 j = sl j) → (∀ i, i < N → G1 i = G i) → A 34 [some (.ref 0), some (.int (nI k))] [] N1 G1 (rmR hi sl1) J r := by
      intro N1 G1 sl1 b r n1 n2 n3 n4 n5
      obtain ⟨m1, m2, m3⟩ := n2.1 k b hk n3
      have far : ∀ i, i < N → (i < b ∨ b + 4 < i) → cpS G1 b 1 i = G i := fun i h1 h2 => by rw [cpS_o h2, n5 i h1]
      have hS1 : StR G1 1 (wS W) := StR_fr (fun i a1 a2 => n5 i (by omega)) hSt
      have hSb : StR (cpS G1 b 1) b (wS W) := cpS_R (by omega) hS1
      have hS2 : StR (cpS G1 b 1) 1 (wS W) := StR_fr (fun i a1 a2 => far i (by omega) (by omega)) hSt
      have oth : ∀ j, j < 2 → j ≠ k → ∀ s, SlR G sl s j → SlR (cpS G1 b 1) sl1 s j := fun j hj hjk s hR => by
        cases s with
        | none =>
          have hR : sl j = none := hR
          show sl1 j = none
          rw [n4 j hj hjk, hR]
        | some S =>
          obtain ⟨b', e1, e2⟩ := hR
          obtain ⟨p1, p2, p3⟩ := hs.1 j b' hj e1
          have hne : b' ≠ b := by
            intro z
            have e3 : sl1 j = some b := by rw [n4 j hj hjk, e1, z]
            have hjk' : (j = 0 ∧ k = 1) ∨ (j = 1 ∧ k = 0) := by omega
            rcases hjk' with ⟨rfl, rfl⟩ | ⟨rfl, rfl⟩
            · exact n2.2.1 b e3 n3
            · exact n2.2.1 b n3 e3
          exact ⟨b', by rw [n4 j hj hjk, e1], StR_fr (fun i a1 a2 => far i (by omega) (by omega)) e2⟩
      have mine : SlR (cpS G1 b 1) sl1 (some (wS W)) k := ⟨b, n3, hSb⟩
      have hW : CR N1 (cpS G1 b 1) (rmR hi sl1) (wSave W k) := by
        have hk2 : k = 0 ∨ k = 1 := by omega
        have hH' := HsR_fr (G' := cpS G1 b 1) hh (fun i a1 a2 => far i (by omega) (by omega)) (wH W) hok.2.2.2.2 hH
        have hP' : PdC (cpS G1 b 1) (wP W) (wL W) := PdC_fr (by rw [far 8 (by omega) (by omega)]) (by rw [far 9 (by omega) (by omega)]) hP
        have hl' : cpS G1 b 1 0 2 = nI (wH W).length := by rw [far 0 (by omega) (by omega)]; exact hl
        rcases hk2 with rfl | rfl
        · exact ⟨hi, sl1, rfl, hh, n2, hS2, hl', hH', mine, oth 1 (by decide) (by decide) _ h1, hP'⟩
        · exact ⟨hi, sl1, rfl, hh, n2, hS2, hl', hH', oth 0 (by decide) (by decide) _ h0, mine, hP'⟩
      have hf := h N1 _ _ J n1 hW (fun i a1 a2 => far i (by omega) (by omega))
      have e5 : rw_at (cpS G1 b 1 1 2) (cpS G1 b 1 1 1) = nI (dg (sC (wS W)) (sN (wS W))) := by rw [hS2.1, hS2.2.1]; exact rw_at_n (by omega) (by omega)
      have hf : Φ (some (.int (nI (dg (sC (wS W)) (sN (wS W)))))) N1 (cpS G1 b 1) (rmR hi sl1) J := hf
      rw [← e5] at hf
      have a40 : A 40 [some (.ref 0), some (.int (nI k))] [va_rf (sl1 k)] N1 G1 (rmR hi sl1) J r := by
        rw [n3]
        exact hC.1 [] 40 40 _ _ _ _ _ _ _ ⟨Stc_b ⟨m1, m2, m3⟩, Stc_1 (by omega), Or.inr (show (1 : Nat) + 4 < b by omega), hf⟩
      exact hC.1 [40] 40 34 _ _ _ _ _ _ _ ⟨k, rfl, hk, a40⟩
    cases e : sl k with
    | none =>
      have a18 : A 18 [some (.ref 0), some (.int (nI k))] [va_rf (sl k)] N G (rmR hi sl) J 0 := by
        rw [e]
        have kN : oz_k N = 3 := by rw [ok_k hN58, if_pos hs.2.2.2]
        have z := hs.2.2.2
        have hsl : slOk (N + 5) (ups sl k (some N)) := by
          refine ⟨fun j b hj hb => ?_, fun b hb1 hb2 => ?_, by omega, by omega⟩
          · unfold ups at hb
            split at hb
            · cases hb; exact ⟨hN58, z, by omega⟩
            · obtain ⟨p1, p2, p3⟩ := hs.1 j b hj hb
              exact ⟨p1, p2, by omega⟩
          · have hk2 : k = 0 ∨ k = 1 := by omega
            unfold ups at hb1 hb2
            rcases hk2 with rfl | rfl
            · rw [if_pos rfl] at hb1
              rw [if_neg (by decide)] at hb2
              have := hs.1 1 b (by decide) hb2
              cases hb1
              omega
            · rw [if_neg (by decide)] at hb1
              rw [if_pos rfl] at hb2
              have := hs.1 0 b (by decide) hb1
              cases hb2
              omega
        have h34 := a34 (N + 5) (inG (ozz G N 0) (N + 1) N) (ups sl k (some N)) N 76 (by omega) hsl (if_pos rfl) (fun j hj hjk => if_neg hjk) (fun i hi => by
          unfold inG ozz
          rw [oz2_row (by omega)]
          simp only [if_neg (show ¬ i = N + 1 + 3 by omega), if_neg (show ¬ i = N + 1 + 2 by omega), if_neg (show ¬ i = N + 1 + 1 by omega), if_neg (show ¬ i = N + 1 by omega), if_neg (show ¬ i = N by omega)])
        rw [← rmR_s, ← inR_b (hi := hi) (sl := sl) hN58 z] at h34
        exact hC.1 [34] 60 18 _ _ _ _ _ _ _ ⟨⟨kN, by decide⟩, by decide, ⟨kN, rfl⟩, ⟨by rw [ok_k (by omega), if_neg (by omega)], by rw [ok_l (by omega), if_neg (by omega), if_pos (by omega)]⟩, ⟨by rw [ok_k (by omega), if_neg (by omega)], by rw [ok_l (by omega), if_neg (by omega), if_neg (by omega)]⟩, ⟨by rw [ok_k (by omega), if_neg (by omega)], by rw [ok_l (by omega), if_neg (by omega), if_neg (by omega)]⟩, ⟨by rw [ok_k (by omega), if_neg (by omega)], by rw [ok_l (by omega), if_neg (by omega), if_neg (by omega)]⟩, ⟨kN, by show N < N + 1 + 4; omega⟩, k, rfl, hk, h34⟩
      exact hC.1 [18] 30 12 _ _ _ _ _ _ _ ⟨k, rfl, hk, a18⟩
    | some b =>
      have h34 := a34 N G sl b 0 (Nat.le_refl _) hs e (fun _ _ _ => rfl) (fun _ _ => rfl)
      have a18 : A 18 [some (.ref 0), some (.int (nI k))] [va_rf (sl k)] N G (rmR hi sl) J 0 := by
        rw [e]
        exact hC.1 [34] 30 18 _ _ _ _ _ _ _ h34
      exact hC.1 [18] 30 12 _ _ _ _ _ _ _ ⟨k, rfl, hk, a18⟩
  exact hC.1 [9, 12] 30 0 _ _ _ _ _ _ _ ⟨fun q => a9 (Or.inl q), fun q => ⟨fun q2 => a12 (fun z => z.elim q (fun z => Int32.not_lt.mpr z q2)), fun q2 => a9 (Or.inr (Int32.not_lt.mp q2))⟩⟩
