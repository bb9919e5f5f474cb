/-! the class's own helpers -/
abbrev e_X5 : List (Nat × Nat × Nat) × List (Nat × Int32) × List (Nat × Int64) × List (Nat × Nat) := (fl_X5, kt_X5, lt_X5, cn_X5)
def t_X5_isRowLength : oz_T := (P_X5_isRowLength, e_X5, [], (true, 0, none, true, 0), (0, fun _ => 0))
def rl6 (x : Int32) : Bool := decide (¬ x < nI 2) && decide (¬ nI 6 < x)
def s_X5_isRowLength : oz_S := oz_i1 fun x N G R J Φ => Φ (some (.int (b2 (rl6 x)))) N G R J
theorem I_X5_isRowLength : oz_Imp t_X5_isRowLength 1 s_X5_isRowLength := by
  intro Φ A a N G R J hN hS hC
  obtain ⟨x, rfl, h⟩ := oz_i1_e hS
  have no : rl6 x = false → oz_bz (nI 0) ∧ Φ (some (.int (nI 0))) N G R J := fun q => by rw [q] at h; exact ⟨Or.inl rfl, h⟩
  have yes : rl6 x = true → oz_bz (nI 1) ∧ Φ (some (.int (nI 1))) N G R J := fun q => by rw [q] at h; exact ⟨Or.inr rfl, h⟩
  refine hC.1 [] 30 0 _ _ _ _ _ _ _ ⟨fun hq => no ?_, fun hq => ⟨fun hq2 => no ?_, fun hq2 => yes ?_⟩⟩
  · have hq : x < nI 2 := hq
    unfold rl6; simp [hq]
  · have hq2 : nI 6 < x := hq2
    unfold rl6; simp [hq2]
  · have hq : ¬ x < nI 2 := hq
    have hq2 : ¬ nI 6 < x := hq2
    unfold rl6
    rw [decide_eq_true hq, decide_eq_true hq2]
    rfl
def t_X5_isPit : oz_T := (P_X5_isPit, e_X5, [], (true, 44, none, true, 0), (0, fun _ => 0))
def s_X5_isPit : oz_S := oz_t1 0 fun x N G R J Φ => ∃ hi sl n, R = rmR hi sl ∧ G 1 1 = nI n ∧ Φ (some (.int (b2 (ip n x)))) N G R J
theorem I_X5_isPit : oz_Imp t_X5_isPit 2 s_X5_isPit := by
  intro Φ A a N G R J hN hS hC
  obtain ⟨x, rfl, hi, sl, n, rfl, e1, h⟩ := oz_t1_e hS
  have no : ip n x = false → oz_bz (nI 0) ∧ Φ (some (.int (nI 0))) N G (rmR hi sl) J := fun q => by rw [q] at h; exact ⟨Or.inl rfl, h⟩
  have yes : ip n x = true → oz_bz (nI 1) ∧ Φ (some (.int (nI 1))) N G (rmR hi sl) J := fun q => by rw [q] at h; exact ⟨Or.inr rfl, h⟩
  refine hC.1 [] 30 0 _ _ _ _ _ _ _ ⟨fun hq => no ?_, fun hq => ⟨fun hq2 => no ?_, fun hq2 => yes ?_⟩⟩
  · have hq : x < 0 := hq
    unfold ip; simp [hq]
  · have hq2 : G 1 1 ≤ x := hq2
    rw [e1] at hq2
    unfold ip; simp [hq2]
  · have hq : ¬ x < 0 := hq
    have hq2 : ¬ G 1 1 ≤ x := hq2
    rw [e1] at hq2
    unfold ip
    rw [decide_eq_true hq, decide_eq_true hq2]
    rfl
def t_X5_dropOldest : oz_T := (P_X5_dropOldest, e_X5, [], (true, 44, none, false, 0), (0, fun _ => 0))
def s_X5_dropOldest : oz_S := oz_t0 0 fun N G R J Φ => ∃ hi sl, R = rmR hi sl ∧ (∀ k, k < 6 → oz_k (hi k) = 3 ∧ hi k < N) ∧ ∀ hi' : Nat → Nat, (∀ k, k < 5 → hi' k = hi (k + 1)) → hi' 5 = hi 0 → Φ none N (oz2 G 0 2 (nI 5)) (rmR hi' sl) J
theorem I_X5_dropOldest : oz_Imp t_X5_dropOldest 3 s_X5_dropOldest := by
  intro Φ A a N G R J hN hS hC
  obtain ⟨rfl, hi, sl, rfl, hk, h⟩ := oz_t0_e hS
  have loop : ∀ f i (g : Nat → Nat), i + f = 6 → 1 ≤ i → (∀ k, k + 1 < i → g k = hi (k + 1)) → (∀ k, i ≤ k + 1 → g k = hi k) → A 9 [some (.ref 0), some (.ref (hi 0)), some (.int (nI i))] [] N G (rmR g sl) J 0 := by
    intro f
    induction f with
    | zero =>
      intro i g hif h1 g1 g2
      have hi6 : i = 6 := by omega
      subst hi6
      have hf := h (up g 5 (hi 0)) (fun k hk => by rw [up_n (by omega)]; exact g1 k (by omega)) up_s
      rw [← rmR_h] at hf
      exact hC.1 [] 60 9 _ _ _ _ _ _ _ ⟨fun _ => ⟨hk 0 (by decide), 5, rfl, by decide, hf⟩, fun hq => absurd (show nI 6 ≤ nI 6 by decide) hq⟩
    | succ f ih =>
      intro i g hif h1 g1 g2
      have e1 : nI i - nI 1 = nI (i - 1) := by rw [pk_sub (by omega)]
      have hih := ih (i + 1) (up g (i - 1) (g i)) (by omega) (by omega) (fun k hk => by
        by_cases q : k = i - 1
        · rw [q, up_s, g2 i (by omega), show i - 1 + 1 = i by omega]
        · rw [up_n q]; exact g1 k (by omega)) (fun k hk => by rw [up_n (by omega)]; exact g2 k (by omega))
      rw [← rmR_h, ← nI_add i 1] at hih
      exact hC.1 [9] 60 9 _ _ _ _ _ _ _ ⟨fun hq => absurd (show nI 6 ≤ nI i from hq) (nI_ge (by omega) (by decide)), fun _ => ⟨i, rfl, by show i < 6; omega, by rw [g2 i (by omega)]; exact hk i (by omega), i - 1, e1, by show i - 1 < 6; omega, hih⟩⟩
  exact hC.1 [9] 30 0 _ _ _ _ _ _ _ ⟨0, rfl, by decide, loop 5 1 hi (by decide) (by decide) (fun k hk => by omega) (fun k _ => rfl)⟩
/-- the state with one more in the history -/
def wPsh (W : Wd) : Wd := (wS W, psh (wS W) (wH W), w0 W, w1 W, wP W, wL W)
def t_X5_record : oz_T := (P_X5_record, e_X5, [(196, 1, 1, 0, s_X5_dropOldest), (190, 1, 2, 0, s_X4_copyFrom)], (true, 44, none, false, 0), (0, fun _ => 0))
def s_X5_record : oz_S := oz_t0 0 fun N G R J Φ => ∃ W, CR N G R W ∧ wOk W ∧ ∀ (G' : oz_G) (R' : oz_R), CR N G' R' (wPsh W) → FrC G G' → (∀ i, 0 < i → i < 14 → G' i = G i) → Φ none N G' R' J
theorem hiOk_k {hi : Nat → Nat} (h : hiOk hi) {k : Nat} (hk : k < 6) {N : Nat} (hN : 44 ≤ N) : oz_k (hi k) = 3 ∧ hi k < N := by
  have hb := h.1 k hk
  refine ⟨?_, by omega⟩
  have hb : hi k = 14 ∨ hi k = 19 ∨ hi k = 24 ∨ hi k = 29 ∨ hi k = 34 ∨ hi k = 39 := by omega
  rcases hb with q | q | q | q | q | q <;> rw [q] <;> rfl
theorem rec_R {N : Nat} {G : oz_G} {hi : Nat → Nat} {sl : Nat → Option Nat} {S : St} {H : List St} {s0 s1 : Option St} {w : Nat → Nat} {len : Nat} (hh : hiOk hi) (hs : slOk N sl) (hS : StR G 1 S) (hH : HsR G hi H) (h0 : SlR G sl s0 0) (h1 : SlR G sl s1 1) (hP : PdC G w len) (hl : H.length < 6) (hK : (sK S).length ≤ 20) (e : G 0 2 = nI H.length) :
    CR N (oz2 (cpS G (hi H.length) 1) 0 2 (cpS G (hi H.length) 1 0 2 + nI 1)) (rmR hi sl) (S, S :: H, s0, s1, w, len) ∧ FrC G (oz2 (cpS G (hi H.length) 1) 0 2 (cpS G (hi H.length) 1 0 2 + nI 1)) ∧ ∀ i, 0 < i → i < 14 → oz2 (cpS G (hi H.length) 1) 0 2 (cpS G (hi H.length) 1 0 2 + nI 1) i = G i := by
  have hb := hh.1 _ hl
  have far : ∀ i, 0 < i → (i < hi H.length ∨ hi H.length + 4 < i) → oz2 (cpS G (hi H.length) 1) 0 2 (cpS G (hi H.length) 1 0 2 + nI 1) i = G i := fun i h1 h2 => by rw [oz2_row (by omega), cpS_o h2]
  refine ⟨⟨hi, sl, rfl, hh, hs, StR_fr (fun i a1 a2 => far i (by omega) (by omega)) hS, ?_, ⟨?_, ?_⟩, SlR_fr hs (fun i a1 a2 => far i (by omega) (by omega)) (by decide) h0, SlR_fr hs (fun i a1 a2 => far i (by omega) (by omega)) (by decide) h1, PdC_fr (by rw [far 8 (by omega) (by omega)]) (by rw [far 9 (by omega) (by omega)]) hP⟩, fun i a1 a2 => far i (by omega) (by omega), fun i a1 a2 => far i a1 (by omega)⟩
  · rw [oz2_self, cpS_o (by omega), e, nI_add]
    rfl
  · exact StR_fr (fun i a1 a2 => oz2_row (by omega)) (cpS_R hK hS)
  · have key : ∀ T : List St, T.length ≤ H.length → HsR G hi T → HsR (oz2 (cpS G (hi H.length) 1) 0 2 (cpS G (hi H.length) 1 0 2 + nI 1)) hi T := by
      intro T
      induction T with
      | nil => intro _ _; trivial
      | cons S' T ih =>
        intro hT hR
        rw [List.length_cons] at hT
        have hb2 := hh.1 T.length (by omega)
        have hne := hh.2 T.length H.length (by omega) hl (by omega)
        exact ⟨StR_fr (fun i a1 a2 => far i (by omega) (by omega)) hR.1, ih (by omega) hR.2⟩
    exact key H (Nat.le_refl _) hH
theorem I_X5_record : oz_Imp t_X5_record 1 s_X5_record := by
  intro Φ A a N G R J hN hS hC
  obtain ⟨rfl, W, ⟨hi, sl, rfl, hh, hs, hS, hl, hH, h0, h1, hP⟩, hok, h⟩ := oz_t0_e hS
  have hN58 := hs.2.2.1
  obtain ⟨u, hu, hg, hK⟩ := hok.1.2.2.2.2.2
  have hK20 : (sK (wS W)).length ≤ 20 := by have := KOk_len _ _ hg hK; omega
  have hlen := hok.2.2.2.2
  have main : ∀ (G1 : oz_G) (g : Nat → Nat) (H : List St), hiOk g → StR G1 1 (wS W) → HsR G1 g H → SlR G1 sl (w0 W) 0 → SlR G1 sl (w1 W) 1 → PdC G1 (wP W) (wL W) → H.length < 6 → G1 0 2 = nI H.length → wS W :: H = psh (wS W) (wH W) → FrC G G1 → (∀ i, 0 < i → i < 14 → G1 i = G i) → A 13 [some (.ref 0)] [] N G1 (rmR g sl) J 0 := by
    intro G1 g H a1 a2 a3 a4 a5 a6 a7 a8 a9 a10 a11
    obtain ⟨b1, b2, b3⟩ := rec_R a1 hs a2 a3 a4 a5 a6 a7 hK20 a8
    have hf := h _ _ (by unfold wPsh; rw [← a9]; exact b1) (FrC_t a10 b2) (fun i c1 c2 => by rw [b3 i c1 c2, a11 i c1 c2])
    have hb := a1.1 _ a7
    exact hC.1 [] 60 13 _ _ _ _ _ _ _ ⟨H.length, a8, by show _ < 6; omega, Stc_h hN58 hb, Stc_1 hN58, Or.inr (show (1 : Nat) + 4 < g H.length by omega), hf⟩
  refine hC.1 [13] 40 0 _ _ _ _ _ _ _ ⟨fun hq => ?_, fun hq => ⟨hi, sl, rfl, fun k hk => hiOk_k hh hk hN58, fun g g1 g2 => ?_⟩⟩
  · have hq : G 0 2 < nI 6 := hq
    rw [hl, nI_ltI (by omega) (by decide)] at hq
    exact main G hi (wH W) hh hS hH h0 h1 hP hq hl (by unfold psh; rw [if_neg (by omega)]) (fun _ _ _ => rfl) (fun _ _ _ => rfl)
  · have hq : ¬ G 0 2 < nI 6 := hq
    rw [hl, nI_ltI (by omega) (by decide)] at hq
    have h6 : (wH W).length = 6 := by omega
    have far : ∀ i, 0 < i → oz2 G 0 2 (nI 5) i = G i := fun i hi0 => oz2_row (by omega)
    have hg : hiOk g := by
      have e : ∀ k, k < 6 → ∃ m, m < 6 ∧ g k = hi m ∧ (k < 5 → m = k + 1) ∧ (k = 5 → m = 0) := fun k hk => by
        by_cases q : k = 5
        · rw [q]; exact ⟨0, by decide, g2, by omega, fun _ => rfl⟩
        · exact ⟨k + 1, by omega, g1 k (by omega), fun _ => rfl, by omega⟩
      refine ⟨fun k hk => ?_, fun j k hj hk hjk => ?_⟩
      · obtain ⟨m, m1, m2, -, -⟩ := e k hk
        rw [m2]; exact hh.1 m m1
      · obtain ⟨m, m1, m2, m3, m4⟩ := e j hj
        obtain ⟨m', n1, n2, n3, n4⟩ := e k hk
        rw [m2, n2]
        exact hh.2 m m' m1 n1 (by omega)
    have hdl : (wH W).dropLast.length = 5 := by rw [List.length_dropLast]; omega
    have hH2 : HsR (oz2 G 0 2 (nI 5)) g (wH W).dropLast := by
      have := HsR_fr (G' := oz2 G 0 2 (nI 5)) hh (fun i a1 a2 => far i (by omega)) (wH W) hlen hH
      exact HsR_dl (wH W) (fun k hk => g1 k (by omega)) this
    exact main (oz2 G 0 2 (nI 5)) g (wH W).dropLast hg (StR_fr (fun i a1 a2 => far i (by omega)) hS) hH2 (SlR_fr hs (fun i a1 a2 => far i (by omega)) (by decide) h0) (SlR_fr hs (fun i a1 a2 => far i (by omega)) (by decide) h1) (PdC_fr (by rw [far 8 (by omega)]) (by rw [far 9 (by omega)]) hP) (by omega) (by rw [oz2_self, hdl]) (by unfold psh; rw [if_pos h6]) (fun i a1 a2 => far i (by omega)) (fun i a1 a2 => far i a1)
