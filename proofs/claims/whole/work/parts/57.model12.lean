/-! the model: what is told of a pit that cannot be sown -/
def t_X6_refusal : oz_T := (P_X6_refusal, e_X6, [(146, 1, 2, 0, s_X6_isPit), (149, 1, 1, 0, s_X6_now), (80, 1, 2, 0, s_X6_canSow)], (true, 58, none, false, 0), (0, fun _ => 0))
def s_X6_refusal : oz_S := oz_t1 44 fun x N G R J Φ => ∃ hi sl S, R = rmR hi sl ∧ StOk S ∧ RowR G 45 0 S ∧ (ip (sN S) x = false → Φ (some (.int (oz_c (-1)))) N G R J) ∧ (ip (sN S) x = true → ∀ G' : oz_G, PsR G' (sN S) (sEx S) (sC S) → (∀ i, i ≠ 44 → i ≠ 53 → G' i = G i) → (∀ k, k ≠ 13 → G' 44 k = G 44 k) → Φ (some (.int (if lg (sN S) (sEx S) (sC S) (nt x) = 0 then oz_c (-5) else nI 0))) N G' R J)
theorem I_X6_refusal : oz_Imp t_X6_refusal 3 s_X6_refusal := by
  intro Φ A a N G R J hN hS hC
  obtain ⟨x, rfl, hi, sl, S, rfl, hok, hR, h1, h2⟩ := oz_t1_e hS
  have hn2 := hok.1
  have hn6 := hok.2.1
  have e3 : G 45 3 = nI (sN S) := row_g hR (by decide)
  have hwl := hw_le (n := sN S) (ex := sEx S) (c := sC S)
  refine hC.1 [10] 40 0 _ _ _ _ _ _ _ ⟨hi, sl, sN S, rfl, e3, by omega, by omega, fun q => ?_, fun q => ?_⟩
  · have q : ¬ b2 (ip (sN S) x) = nI 0 := q
    rw [b2_t] at q
    obtain ⟨hx, hlt⟩ := ip_t q (by omega)
    have hlg := lg_le (n := sN S) (ex := sEx S) (c := sC S) (i := nt x)
    refine hC.1 [31] 60 10 _ _ _ _ _ _ _ ⟨hi, sl, S, rfl, hok, hR, fun G' g1 g2 g3 => ⟨fun w => ?_, fun w => ?_⟩⟩
    · have w : ¬ nI (hw (sN S) (sEx S) (sC S)) = nI 0 := w
      rw [nI_eq (by omega) (by decide)] at w
      have hf := h2 q G' g1 g2 g3
      rw [if_pos (ms_le _ _ hlt (ms_0 w))] at hf
      exact hC.1 [] 20 31 _ _ _ _ _ _ _ hf
    · have w : ¬ ¬ nI (hw (sN S) (sEx S) (sC S)) = nI 0 := w
      have w := Classical.not_not.mp w
      rw [nI_eq (by omega) (by decide)] at w
      have hf := h2 q G' g1 g2 g3
      refine ⟨hi, sl, sN S, sEx S, sC S, nt x, rfl, g1, hw_0 w, hx, hlt, fun z => ?_, fun z => ?_⟩
      · have z : nI (lg (sN S) (sEx S) (sC S) (nt x)) = nI 0 := z
        rw [nI_eq (by omega) (by decide)] at z
        rw [if_pos z] at hf
        exact hC.1 [] 20 31 _ _ _ _ _ _ _ hf
      · have z : ¬ nI (lg (sN S) (sEx S) (sC S) (nt x)) = nI 0 := z
        rw [nI_eq (by omega) (by decide)] at z
        rw [if_neg z] at hf
        exact hf
  · have q : ¬ ¬ b2 (ip (sN S) x) = nI 0 := q
    have q := Classical.not_not.mp q
    rw [b2_f] at q
    exact h1 q
