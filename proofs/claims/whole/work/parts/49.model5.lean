/-! the model's public methods: save, restore, set -/
theorem le_lt1 {x : Int32} {k : Nat} (hk : k + 1 < 2 ^ 31) : nI (k + 1) ≤ x ↔ nI k < x := by
  rw [Int32.le_iff_toInt_le, Int32.lt_iff_toInt_lt, ti hk, ti (show k < 2 ^ 31 by omega)]
  omega
theorem inb_t {x y z : Int32} : inb x y z = true ↔ ¬ (x < y ∨ z < x) := by
  unfold inb
  simp only [Bool.and_eq_true, decide_eq_true_eq]
  exact ⟨fun h q => q.elim h.1 h.2, fun h => ⟨fun q => h (Or.inl q), fun q => h (Or.inr q)⟩⟩
theorem inb_f {x y z : Int32} : inb x y z = false ↔ (x < y ∨ z < x) := by
  have h := inb_t (x := x) (y := y) (z := z)
  cases e : inb x y z
  · rw [e] at h
    refine ⟨fun _ => ?_, fun _ => rfl⟩
    rcases Decidable.em (x < y ∨ z < x) with q | q
    · exact q
    · exact absurd (h.mpr q) (by decide)
  · rw [e] at h
    exact ⟨(fun q => by cases q), fun q => absurd q (h.mp rfl)⟩
theorem MR_rec {G G2 G' : oz_G} {W : Wd} {S : St} (hM : MR G W) (hS : RowR G2 45 0 S) (h7 : G2 44 7 = G 44 7) (hf : ∀ i, (i = 48 ∨ i = 49 ∨ i = 50) → G2 i = G i) (r1 : ∀ i, i ≠ 44 → i ≠ 46 → G' i = G2 i) (r2 : ∀ k, k ≠ 5 → G' 44 k = G2 44 k) (r3 : G' 44 5 = nI (psh (wS W) (wH W)).length) (r4 : HsM G' (psh (wS W) (wH W))) : MR G' (wRec W S) := by
  obtain ⟨-, -, -, m4, m5, m6, m7, m8⟩ := hM
  have f : ∀ i, (i = 48 ∨ i = 49 ∨ i = 50) → G' i = G i := fun i hi => by rw [r1 i (by omega) (by omega), hf i hi]
  exact ⟨RowR_fr (fun k _ => by rw [r1 45 (by decide) (by decide)]) hS, r3, r4, SlM_fr (f 49 (by decide)) (f 48 (by decide)) m4, SlM_fr (f 49 (by decide)) (f 48 (by decide)) m5, by rw [r2 7 (by decide), h7]; exact m6, m7, fun j hj => by rw [f 50 (by decide)]; exact m8 j hj⟩
theorem row_S {S : St} : rowV S 10 = dg (sC S) (sN S) := rfl
def t_X6_save : oz_T := (P_X6_save, e_X6, [(52, 0, 3, 0, s_X6_inn)], (true, 58, none, false, 0), (0, fun _ => 0))
def s_X6_save : oz_S := oz_t1 44 fun x N G R J Φ => ∃ hi sl W, R = rmR hi sl ∧ MR G W ∧ wOk W ∧ pM N G R J Φ (q_save W x)
theorem I_X6_save : oz_Imp t_X6_save 3 s_X6_save := by
  intro Φ A a N G R J hN hS hC
  obtain ⟨x, rfl, hi, sl, W, rfl, hM, hok, h⟩ := oz_t1_e hS
  obtain ⟨m1, m2, m3, m4, m5, m6, m7, m8⟩ := id hM
  have h16 := StOk_20 hok.1
  unfold q_save at h
  refine hC.1 [13] 40 0 _ _ _ _ _ _ _ ⟨x, rfl, fun q => ?_, fun q => ?_⟩
  · have q : ¬ b2 (inb x (nI 0) (nI 1)) = nI 0 := q
    rw [b2_t, inb_t] at q
    have hcond : ¬ (x < 0 ∨ nI 2 ≤ x) := fun z => q (z.elim Or.inl (fun z => Or.inr ((le_lt1 (k := 1) (by decide)).mp z)))
    rw [if_neg hcond] at h
    obtain ⟨hx, hk⟩ := rng2 (x := x) (b := 2) (fun z => hcond (Or.inl z)) (fun z => hcond (Or.inr z)) (by decide)
    generalize nt x = k at hx hk h
    clear q hcond
    subst hx
    have loop : ∀ f i, i + f = 215 → A 15 [some (.ref 44), some (.int (nI k)), some (.int (nI i))] [] N (cpo G 45 0 48 (215 * k) i) (rmR hi sl) J 0 := by
      intro f
      induction f with
      | zero =>
        intro i hif
        have hi : i = 215 := by omega
        subst hi
        have other : ∀ (s : Option St) (j : Nat), j < 2 → j ≠ k → (∀ T, s = some T → StOk T) → SlM G s j → SlM (oz2 (cpo G 45 0 48 (215 * k) 215) 49 k (nI 1)) s j := fun s j hj hjk hT hs => by
          cases s with
          | none =>
            have hs : G 49 j = nI 0 := hs
            show oz2 (cpo G 45 0 48 (215 * k) 215) 49 k (nI 1) 49 j = nI 0
            rw [oz2_ne hjk, cpo_o (by decide)]
            exact hs
          | some T =>
            have hT16 := StOk_20 (hT T rfl)
            refine ⟨by rw [oz2_ne hjk, cpo_o (by decide)]; exact hs.1, RowR_fr (fun r hr => ?_) hs.2⟩
            rw [oz2_row (by decide)]
            exact cpo_n (by omega)
        have mine : SlM (oz2 (cpo G 45 0 48 (215 * k) 215) 49 k (nI 1)) (some (wS W)) k := ⟨oz2_self, RowR_fr (fun r hr => by rw [oz2_row (by decide)]) (cpo_R hok.1 m1)⟩
        have far : ∀ i, i ≠ 48 → i ≠ 49 → oz2 (cpo G 45 0 48 (215 * k) 215) 49 k (nI 1) i = G i := fun i h1 h2 => by rw [oz2_row h2, cpo_o h1]
        have hM' : MR (oz2 (cpo G 45 0 48 (215 * k) 215) 49 k (nI 1)) (wSave W k) := by
          have e1 := RowR_fr (G' := oz2 (cpo G 45 0 48 (215 * k) 215) 49 k (nI 1)) (fun r hr => by rw [far 45 (by decide) (by decide)]) m1
          have e2 : oz2 (cpo G 45 0 48 (215 * k) 215) 49 k (nI 1) 44 5 = nI (wH W).length := by rw [far 44 (by decide) (by decide)]; exact m2
          have e3 := HsM_fr (G' := oz2 (cpo G 45 0 48 (215 * k) 215) 49 k (nI 1)) (far 46 (by decide) (by decide)) _ m3
          have e6 : oz2 (cpo G 45 0 48 (215 * k) 215) 49 k (nI 1) 44 7 = nI (wL W) := by rw [far 44 (by decide) (by decide)]; exact m6
          have e8 : ∀ j, j < wL W → oz2 (cpo G 45 0 48 (215 * k) 215) 49 k (nI 1) 50 j = nI (wP W j) ∧ wP W j < 128 := fun j hj => by rw [far 50 (by decide) (by decide)]; exact m8 j hj
          have hk2 : k = 0 ∨ k = 1 := by omega
          rcases hk2 with rfl | rfl
          · exact ⟨e1, e2, e3, mine, other _ 1 (by decide) (by decide) (fun T hT => hok.2.2.2.1 T hT) m5, e6, m7, e8⟩
          · exact ⟨e1, e2, e3, other _ 0 (by decide) (by decide) (fun T hT => hok.2.2.1 T hT) m4, mine, e6, m7, e8⟩
        have hf := h _ hM' (fun i hi => far i (by omega) (by omega)) (by rw [far 44 (by decide) (by decide)])
        have e10 : G 45 10 = nI (dg (sC (wS W)) (sN (wS W))) := row_g m1 (by decide)
        have hf : Φ (some (.int (nI (dg (sC (wS W)) (sN (wS W)))))) N (oz2 (cpo G 45 0 48 (215 * k) 215) 49 k (nI 1)) (rmR hi sl) J := hf
        have e11 : oz2 (cpo G 45 0 48 (215 * k) 215) 49 k (nI 1) 45 10 = nI (dg (sC (wS W)) (sN (wS W))) := by rw [far 45 (by decide) (by decide)]; exact e10
        rw [← e11] at hf
        exact hC.1 [] 60 15 _ _ _ _ _ _ _ ⟨fun _ => ⟨Or.inr rfl, k, rfl, hk, 10, rfl, by decide, hf⟩, fun q => absurd (show nI 215 ≤ nI 215 by decide) q⟩
      | succ f ih =>
        intro i hif
        have hih := ih (i + 1) (by omega)
        rw [← cpo_s, ← nI_add i 1, Nat.zero_add] at hih
        have hv : cpo G 45 0 48 (215 * k) i 45 i = G 45 i := by rw [cpo_o (by decide)]
        rw [← hv] at hih
        exact hC.1 [15] 60 15 _ _ _ _ _ _ _ ⟨fun q => absurd (show nI 215 ≤ nI i from q) (nI_ge (by omega) (by decide)), fun _ => ⟨i, rfl, by show i < 215; omega, 215 * k + i, by show nI 215 * nI k + nI i = _; rw [pk_mul, nI_add], by show 215 * k + i < 430; omega, hih⟩⟩
    have h0 := loop 215 0 (by omega)
    rw [cpo_0] at h0
    exact hC.1 [15] 30 13 _ _ _ _ _ _ _ h0
  · have q : ¬ ¬ b2 (inb x (nI 0) (nI 1)) = nI 0 := q
    have q := Classical.not_not.mp q
    rw [b2_f, inb_f] at q
    have hcond : x < 0 ∨ nI 2 ≤ x := q.elim Or.inl (fun z => Or.inr ((le_lt1 (k := 1) (by decide)).mpr z))
    rw [if_pos hcond] at h
    exact pM_0 h hM
