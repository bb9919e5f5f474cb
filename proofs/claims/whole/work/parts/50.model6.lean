/-! the model's public methods: restore -/
def t_X6_restore : oz_T := (P_X6_restore, e_X6, [(52, 0, 3, 0, s_X6_inn), (60, 1, 1, 0, s_X6_remember), (63, 1, 2, 0, s_X6_record)], (true, 58, none, false, 0), (0, fun _ => 0))
def s_X6_restore : oz_S := oz_t1 44 fun x N G R J Φ => ∃ hi sl W, R = rmR hi sl ∧ MR G W ∧ wOk W ∧ pM N G R J Φ (q_restore W x)
theorem wSl_M {G : oz_G} {W : Wd} (h0 : SlM G (w0 W) 0) (h1 : SlM G (w1 W) 1) {k : Nat} (hk : k < 2) : SlM G (wSl W k) k := by
  have hk : k = 0 ∨ k = 1 := by omega
  rcases hk with rfl | rfl
  · exact h0
  · exact h1
theorem I_X6_restore : oz_Imp t_X6_restore 3 s_X6_restore := by
  intro Φ A a N G R J hN hS hC
  obtain ⟨x, rfl, hi, sl, W, rfl, hM, hok, h⟩ := oz_t1_e hS
  obtain ⟨m1, m2, m3, m4, m5, m6, m7, m8⟩ := id hM
  unfold q_restore at h
  refine hC.1 [13] 40 0 _ _ _ _ _ _ _ ⟨x, rfl, fun q => ?_, fun q => ?_⟩
  · have q : ¬ b2 (inb x (nI 0) (nI 1)) = nI 0 := q
    rw [b2_t, inb_t] at q
    have hcond : ¬ (x < 0 ∨ nI 2 ≤ x) := fun z => q (z.elim Or.inl (fun z => Or.inr ((le_lt1 (k := 1) (by decide)).mp z)))
    rw [if_neg hcond] at h
    obtain ⟨hx, hk⟩ := rng2 (x := x) (b := 2) (fun z => hcond (Or.inl z)) (fun z => hcond (Or.inr z)) (by decide)
    generalize nt x = k at hx hk h
    clear q hcond
    subst hx
    have hR := wSl_M m4 m5 hk
    cases e : wSl W k with
    | none =>
      rw [e] at h hR
      have hR : G 49 k = nI 0 := hR
      exact hC.1 [] 30 13 _ _ _ _ _ _ _ ⟨k, rfl, hk, fun q => absurd hR q, fun _ => pM_0 h hM⟩
    | some S =>
      rw [e] at h hR
      have hSok := wSl_ok hok e
      obtain ⟨hR1, hR2⟩ := hR
      have loop : ∀ f i, i + f = 215 → A 31 [some (.ref 44), some (.int (nI k)), some (.int (nI i))] [] N (cpo (cpo G 45 0 47 0 215) 48 (215 * k) 45 0 i) (rmR hi sl) J 0 := by
        intro f
        induction f with
        | zero =>
          intro i hif
          have hi : i = 215 := by omega
          subst hi
          have b47 : RowR (cpo (cpo G 45 0 47 0 215) 48 (215 * k) 45 0 215) 47 0 (wS W) := RowR_fr (fun r hr => by rw [cpo_o (by decide)]) (cpo_R (b := 47) (p := 0) hok.1 m1)
          have b48 : RowR (cpo G 45 0 47 0 215) 48 (215 * k) S := RowR_fr (fun r hr => by rw [cpo_o (by decide)]) hR2
          have b45 : RowR (cpo (cpo G 45 0 47 0 215) 48 (215 * k) 45 0 215) 45 0 S := cpo_R hSok b48
          have far : ∀ i, i ≠ 45 → i ≠ 47 → cpo (cpo G 45 0 47 0 215) 48 (215 * k) 45 0 215 i = G i := fun i h1 h2 => by rw [cpo_o h1, cpo_o h2]
          have e10 : cpo (cpo G 45 0 47 0 215) 48 (215 * k) 45 0 215 45 10 = nI (dg (sC S) (sN S)) := row_g b45 (by decide)
          refine hC.1 [] 60 31 _ _ _ _ _ _ _ ⟨fun _ => ⟨10, rfl, by decide, hi, sl, wS W, wH W, rfl, hok.1, hok.2.1, hok.2.2.2.2, b47, by rw [far 44 (by decide) (by decide)]; exact m2, HsM_fr (far 46 (by decide) (by decide)) _ m3, fun G' r1 r2 r3 r4 => ?_⟩, fun q => absurd (show nI 215 ≤ nI 215 by decide) q⟩
          have hf := h G' (MR_rec hM b45 (by rw [far 44 (by decide) (by decide)]) (fun i hi => far i (by omega) (by omega)) r1 r2 r3 r4) (fun i hi => by rw [r1 i (by omega) (by omega)]; exact far i (by omega) (by omega)) (by rw [r2 21 (by decide), far 44 (by decide) (by decide)])
          have hf : Φ (some (.int (nI (dg (sC S) (sN S))))) N G' (rmR hi sl) J := hf
          rw [← e10] at hf
          exact hf
        | succ f ih =>
          intro i hif
          have hih := ih (i + 1) (by omega)
          rw [← cpo_s, ← nI_add i 1, Nat.zero_add] at hih
          have hv : cpo (cpo G 45 0 47 0 215) 48 (215 * k) 45 0 i 48 (215 * k + i) = cpo G 45 0 47 0 215 48 (215 * k + i) := by rw [cpo_o (by decide)]
          rw [← hv] at hih
          exact hC.1 [31] 60 31 _ _ _ _ _ _ _ ⟨fun q => absurd (show nI 215 ≤ nI i from q) (nI_ge (by omega) (by decide)), fun _ => ⟨215 * k + i, by show nI 215 * nI k + nI i = _; rw [pk_mul, nI_add], by show 215 * k + i < 430; omega, i, rfl, by show i < 215; omega, hih⟩⟩
      have h0 := loop 215 0 (by omega)
      rw [cpo_0] at h0
      exact hC.1 [31] 40 13 _ _ _ _ _ _ _ ⟨k, rfl, hk, fun _ => ⟨hi, sl, rfl, h0⟩, fun q => absurd (fun z => by have z : G 49 k = nI 0 := z; rw [hR1] at z; exact absurd z (by decide)) q⟩
  · have q : ¬ ¬ b2 (inb x (nI 0) (nI 1)) = nI 0 := q
    have q := Classical.not_not.mp q
    rw [b2_f, inb_f] at q
    have hcond : x < 0 ∨ nI 2 ≤ x := q.elim Or.inl (fun z => Or.inr ((le_lt1 (k := 1) (by decide)).mpr z))
    rw [if_pos hcond] at h
    exact pM_0 h hM
