/-! the model: its history -/
/-- so many of one row's numbers laid into another -/
def cpo (G : oz_G) (a o b p m : Nat) : oz_G := fun i => if i = b then (fun j => if p ≤ j ∧ j < p + m then G a (o + (j - p)) else G b j) else G i
theorem cpo_0 {G : oz_G} {a o b p : Nat} : cpo G a o b p 0 = G := by
  funext i j
  unfold cpo
  by_cases hi : i = b
  · subst hi
    have : ¬ (p ≤ j ∧ j < p + 0) := by omega
    rw [if_pos rfl]
    exact if_neg this
  · simp only [if_neg hi]
theorem cpo_s {G : oz_G} {a o b p m : Nat} : oz2 (cpo G a o b p m) b (p + m) (G a (o + m)) = cpo G a o b p (m + 1) := by
  funext i j
  unfold oz2 cpo
  by_cases hi : i = b
  · subst hi
    by_cases hj : j = p + m
    · subst hj
      have : p ≤ p + m ∧ p + m < p + (m + 1) := by omega
      have e : p + m - p = m := by omega
      simp [this, e]
    · by_cases h2 : p ≤ j ∧ j < p + m
      · have : p ≤ j ∧ j < p + (m + 1) := by omega
        simp [hj, h2, this]
      · have : ¬ (p ≤ j ∧ j < p + (m + 1)) := by omega
        simp [hj, h2, this]
  · simp [hi]
theorem cpo_o {G : oz_G} {a o b p m i : Nat} (h : i ≠ b) : cpo G a o b p m i = G i := if_neg h
theorem cpo_b {G : oz_G} {a o b p m j : Nat} (h : p ≤ j ∧ j < p + m) : cpo G a o b p m b j = G a (o + (j - p)) := by
  unfold cpo
  rw [if_pos rfl]
  exact if_pos h
theorem cpo_n {G : oz_G} {a o b p m j : Nat} (h : ¬ (p ≤ j ∧ j < p + m)) : cpo G a o b p m b j = G b j := by
  unfold cpo
  rw [if_pos rfl]
  exact if_neg h
theorem cpo_R {G : oz_G} {a o b p : Nat} {S : St} (h : StOk S) (hR : RowR G a o S) : RowR (cpo G a o b p 215) b p S := fun k hk => by
  have := StOk_20 h
  rw [cpo_b (by omega), show o + (p + k - p) = o + k by omega]
  exact hR k hk
theorem RowR_fr {G G' : oz_G} {a o : Nat} {S : St} (h : ∀ k, k < 15 + 10 * (sK S).length → G' a (o + k) = G a (o + k)) (hR : RowR G a o S) : RowR G' a o S := fun k hk => by rw [h k hk]; exact hR k hk
theorem HsM_fr {G G' : oz_G} (h : G' 46 = G 46) : ∀ H : List St, HsM G H → HsM G' H
  | [], _ => trivial
  | S :: H, hR => ⟨RowR_fr (fun k _ => by rw [h]) hR.1, HsM_fr h H hR.2⟩
def t_X6_remember : oz_T := (P_X6_remember, e_X6, [], (true, 58, none, false, 0), (0, fun _ => 0))
def s_X6_remember : oz_S := oz_t0 44 fun N G R J Φ => ∃ hi sl, R = rmR hi sl ∧ Φ none N (cpo G 45 0 47 0 215) R J
theorem I_X6_remember : oz_Imp t_X6_remember 2 s_X6_remember := by
  intro Φ A a N G R J hN hS hC
  obtain ⟨rfl, hi, sl, rfl, h⟩ := oz_t0_e hS
  have loop : ∀ f i, i + f = 215 → A 2 [some (.ref 44), some (.int (nI i))] [] N (cpo G 45 0 47 0 i) (rmR hi sl) J 0 := by
    intro f
    induction f with
    | zero =>
      intro i hif
      have hi : i = 215 := by omega
      subst hi
      exact hC.1 [] 30 2 _ _ _ _ _ _ _ ⟨fun _ => h, fun q => absurd (show nI 215 ≤ nI 215 by decide) q⟩
    | succ f ih =>
      intro i hif
      have hih := ih (i + 1) (by omega)
      rw [← cpo_s, ← nI_add i 1, Nat.zero_add] at hih
      exact hC.1 [2] 40 2 _ _ _ _ _ _ _ ⟨fun q => absurd (show nI 215 ≤ nI i from q) (nI_ge (by omega) (by decide)), fun _ => ⟨i, rfl, by show i < 215; omega, i, rfl, by show i < 215; omega, hih⟩⟩
  have h0 := loop 215 0 (by omega)
  rw [cpo_0] at h0
  exact hC.1 [2] 30 0 _ _ _ _ _ _ _ h0
def t_X6_record : oz_T := (P_X6_record, e_X6, [], (true, 58, none, false, 0), (0, fun _ => 0))
def s_X6_record : oz_S := oz_t1 44 fun x N G R J Φ => ∃ (hi : Nat → Nat) (sl : Nat → Option Nat) (S : St) (H : List St), R = rmR hi sl ∧ StOk S ∧ (∀ T, T ∈ H → StOk T) ∧ H.length ≤ 6 ∧ RowR G 47 0 S ∧ G 44 5 = nI H.length ∧ HsM G H ∧ ∀ G' : oz_G, (∀ i, i ≠ 44 → i ≠ 46 → G' i = G i) → (∀ k, k ≠ 5 → G' 44 k = G 44 k) → G' 44 5 = nI (psh S H).length → HsM G' (psh S H) → Φ (some (.int x)) N G' R J
theorem HsM_cp {G : oz_G} {m : Nat} {S : St} : ∀ H : List St, H.length ≤ m → (∀ T, T ∈ H → StOk T) → HsM G H → HsM (cpo G 47 0 46 (215 * m) 215) H
  | [], _, _, _ => trivial
  | T :: H, hm, hk, hR => by
    rw [List.length_cons] at hm
    have h16 := StOk_20 (hk T List.mem_cons_self)
    refine ⟨RowR_fr (fun k hk => cpo_n (by omega)) hR.1, HsM_cp (S := S) H (by omega) (fun T' hT' => hk T' (List.mem_cons_of_mem _ hT')) hR.2⟩
/-- the history's rows moved by one -/
def shG (G : oz_G) (m : Nat) : oz_G := fun i => if i = 46 then (fun j => if j < m then G 46 (215 + j) else G 46 j) else G i
theorem shG_0 {G : oz_G} : shG G 0 = G := by
  funext i j
  unfold shG
  by_cases hi : i = 46
  · subst hi; simp
  · simp [hi]
theorem shG_s {G : oz_G} {m : Nat} : oz2 (shG G m) 46 m (shG G m 46 (215 + m)) = shG G (m + 1) := by
  have e : shG G m 46 (215 + m) = G 46 (215 + m) := by
    unfold shG
    rw [if_pos rfl]
    exact if_neg (by omega)
  rw [e]
  funext i j
  unfold oz2 shG
  by_cases hi : i = 46
  · subst hi
    by_cases hj : j = m
    · subst hj; simp
    · by_cases h2 : j < m
      · have : j < m + 1 := by omega
        simp [hj, h2, this]
      · have : ¬ j < m + 1 := by omega
        simp [hj, h2, this]
  · simp [hi]
theorem HsM_dl {G G' : oz_G} (h : ∀ j, j < 1075 → G' 46 j = G 46 (215 + j)) : ∀ H : List St, H.length ≤ 6 → (∀ T, T ∈ H → StOk T) → HsM G H → HsM G' H.dropLast
  | [], _, _, _ => trivial
  | [_], _, _, _ => trivial
  | S :: T :: H, hl, hk, hR => by
    rw [List.length_cons, List.length_cons] at hl
    have hd : (S :: T :: H).dropLast = S :: (T :: H).dropLast := rfl
    rw [hd]
    have h16 := StOk_20 (hk S List.mem_cons_self)
    refine ⟨?_, HsM_dl h (T :: H) (by rw [List.length_cons]; omega) (fun T' hT' => hk T' (List.mem_cons_of_mem _ hT')) hR.2⟩
    rw [List.length_dropLast, List.length_cons, Nat.add_sub_cancel]
    intro k hk
    have h1 := hR.1 k hk
    rw [List.length_cons] at h1
    rw [h _ (by omega), show 215 + (215 * H.length + k) = 215 * (H.length + 1) + k by omega]
    exact h1
theorem I_X6_record : oz_Imp t_X6_record 3 s_X6_record := by
  intro Φ A a N G R J hN hS hC
  obtain ⟨x, rfl, hi, sl, S, H, rfl, hok, hHok, hlen, hR, e5, hH, h⟩ := oz_t1_e hS
  have main : ∀ (G1 : oz_G) (H1 : List St), (∀ i, i ≠ 44 → i ≠ 46 → G1 i = G i) → (∀ k, k ≠ 5 → G1 44 k = G 44 k) → G1 44 5 = nI H1.length → H1.length < 6 → (∀ T, T ∈ H1 → StOk T) → HsM G1 H1 → S :: H1 = psh S H → ∀ v, A 50 [some (.ref 44), some (.int x), v] [] N G1 (rmR hi sl) J 0 := by
    intro G1 H1 g1 g2 g3 g4 g5 g6 g7 v
    have loop : ∀ f i, i + f = 215 → A 52 [some (.ref 44), some (.int x), some (.int (nI i))] [] N (cpo G1 47 0 46 (215 * H1.length) i) (rmR hi sl) J 0 := by
      intro f
      induction f with
      | zero =>
        intro i hif
        have hi : i = 215 := by omega
        subst hi
        have hR1 : RowR G1 47 0 S := RowR_fr (fun k _ => by rw [g1 47 (by decide) (by decide)]) hR
        have hf := h (oz2 (cpo G1 47 0 46 (215 * H1.length) 215) 44 5 (nI H1.length + nI 1)) (fun i a1 a2 => by rw [oz2_row a1, cpo_o a2]; exact g1 i a1 a2) (fun k hk => by rw [oz2_ne hk, cpo_o (by decide)]; exact g2 k hk) (by rw [oz2_self, ← g7, nI_add]; rfl) (by
          rw [← g7]
          exact ⟨RowR_fr (fun k _ => by rw [oz2_row (by decide)]) (cpo_R hok hR1), HsM_fr (by rw [oz2_row (by decide)]) H1 (HsM_cp (S := S) H1 (Nat.le_refl _) g5 g6)⟩)
        rw [← g3] at hf
        exact hC.1 [] 60 52 _ _ _ _ _ _ _ ⟨fun _ => hf, fun q => absurd (show nI 215 ≤ nI 215 by decide) q⟩
      | succ f ih =>
        intro i hif
        have hih := ih (i + 1) (by omega)
        rw [← cpo_s, ← nI_add i 1, Nat.zero_add] at hih
        exact hC.1 [52] 60 52 _ _ _ _ _ _ _ ⟨fun q => absurd (show nI 215 ≤ nI i from q) (nI_ge (by omega) (by decide)), fun _ => ⟨i, rfl, by show i < 215; omega, 215 * H1.length + i, by show nI 215 * G1 44 5 + nI i = _; rw [g3, pk_mul, nI_add], by show 215 * H1.length + i < 1290; omega, hih⟩⟩
    have h0 := loop 215 0 (by omega)
    rw [cpo_0] at h0
    exact hC.1 [52] 30 50 _ _ _ _ _ _ _ h0
  refine hC.1 [9, 50] 30 0 _ _ _ _ _ _ _ ⟨fun q => ?_, fun q => ?_⟩
  · have q : ¬ G 44 5 = nI 6 := q
    rw [e5, nI_eq (by omega) (by decide)] at q
    exact main G H (fun _ _ _ => rfl) (fun _ _ => rfl) e5 (by omega) hHok hH (by unfold psh; rw [if_neg q]) none
  · have q : ¬ ¬ G 44 5 = nI 6 := q
    have q := Classical.not_not.mp q
    rw [e5, nI_eq (by omega) (by decide)] at q
    have hdl : H.dropLast.length = 5 := by rw [List.length_dropLast]; omega
    have last : ∀ v, A 40 [some (.ref 44), some (.int x), v] [] N (shG G 1075) (rmR hi sl) J 0 := by
      intro v
      have e : G 44 5 - nI 1 = nI 5 := by rw [e5, q]; decide
      have hm := main (oz2 (shG G 1075) 44 5 (nI 5)) H.dropLast (fun i a1 a2 => by rw [oz2_row a1]; unfold shG; rw [if_neg a2]) (fun k hk => by rw [oz2_ne hk]; unfold shG; rw [if_neg (by decide)]) (by rw [oz2_self, hdl]) (by omega) (fun T hT => hHok T (List.dropLast_subset H hT)) (HsM_dl (fun j hj => by
        rw [oz2_row (by decide)]
        unfold shG
        rw [if_pos rfl]
        exact if_pos hj) H hlen hHok hH) (by unfold psh; rw [if_pos q]) v
      rw [← e] at hm
      exact hC.1 [50] 40 40 _ _ _ _ _ _ _ hm
    have loop : ∀ f i, i + f = 1075 → A 11 [some (.ref 44), some (.int x), some (.int (nI i))] [] N (shG G i) (rmR hi sl) J 0 := by
      intro f
      induction f with
      | zero =>
        intro i hif
        have hi : i = 1075 := by omega
        subst hi
        exact hC.1 [40] 30 11 _ _ _ _ _ _ _ ⟨fun _ => last _, fun q => absurd (show nI 1075 ≤ nI 1075 by decide) q⟩
      | succ f ih =>
        intro i hif
        have hih := ih (i + 1) (by omega)
        rw [← shG_s, ← nI_add i 1] at hih
        exact hC.1 [11] 60 11 _ _ _ _ _ _ _ ⟨fun q => absurd (show nI 1075 ≤ nI i from q) (nI_ge (by omega) (by decide)), fun _ => ⟨215 + i, nI_add 215 i, by show 215 + i < 1290; omega, i, rfl, by show i < 1290; omega, hih⟩⟩
    have h0 := loop 1075 0 (by omega)
    rw [shG_0] at h0
    exact hC.1 [11] 30 9 _ _ _ _ _ _ _ h0
