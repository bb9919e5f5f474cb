/-! the model's public methods: begin -/
theorem dg_ev {s : Nat} (hs : s < 16) : ∀ n k, k < n → dg (ev s n) k = s
  | n + 1, k, hk => by
    show dg (ev s n + s * 16 ^ n) k = s
    by_cases q : k = n
    · subst q
      have := dg_mk (a := ev s k) (d := s) (b := 0) (j := k) (ev_lt hs k) hs
      rw [Nat.zero_mul, Nat.add_zero] at this
      exact this
    · rw [dg_low (by omega)]
      exact dg_ev hs n k (by omega)
theorem dg_top {c n : Nat} (h : c < 16 ^ n) : dg c n = 0 := by
  unfold dg
  rw [Nat.div_eq_of_lt h]
def t_X6_begin : oz_T := (P_X6_begin, e_X6, [(52, 0, 3, 0, s_X6_inn), (60, 1, 1, 0, s_X6_remember), (140, 1, 3, 0, s_X6_anew), (63, 1, 2, 0, s_X6_record)], (true, 58, none, false, 0), (0, fun _ => 0))
def s_X6_begin : oz_S := oz_t2 44 fun x y N G R J Φ => ∃ hi sl W, R = rmR hi sl ∧ MR G W ∧ wOk W ∧ pM N G R J Φ (q_begin W x y)
theorem inb_rl (x : Int32) : inb x (nI 2) (nI 6) = rl6 x := rfl
theorem I_X6_begin : oz_Imp t_X6_begin 4 s_X6_begin := by
  intro Φ A a N G R J hN hS hC
  obtain ⟨x, y, rfl, hi, sl, W, rfl, hM, hok, h⟩ := oz_t2_e hS
  obtain ⟨m1, m2, m3, m4, m5, m6, m7, m8⟩ := id hM
  unfold q_begin at h
  have a22 : (rl6 x = false ∨ y < nI 1 ∨ nI 7 < y) → A 22 [some (.ref 44), some (.int x), some (.int y), none] [] N G (rmR hi sl) J 0 := fun q => by
    rw [if_pos q] at h
    exact hC.1 [] 20 22 _ _ _ _ _ _ _ (pM_0 h hM)
  have a25 : ¬ (rl6 x = false ∨ y < nI 1 ∨ nI 7 < y) → A 25 [some (.ref 44), some (.int x), some (.int y), none] [] N G (rmR hi sl) J 0 := fun q => by
    rw [if_neg q] at h
    have hr : rl6 x = true := by
      cases z : rl6 x
      · exact absurd (Or.inl z) q
      · rfl
    obtain ⟨hx, hx2, hx6⟩ := rl6_t hr
    obtain ⟨hy, hy1, hy7⟩ := rng (x := y) (a := 1) (b := 7) (fun z => q (Or.inr (Or.inl z))) (fun z => q (Or.inr (Or.inr z))) (by decide) (by decide)
    generalize nt x = n at hx hx2 hx6 h
    generalize nt y = s at hy hy1 hy7 h
    clear hr q a22
    subst hx
    subst hy
    have hp : n * s ≤ 6 * 7 := Nat.mul_le_mul hx6 hy7
    refine hC.1 [46] 60 25 _ _ _ _ _ _ _ ⟨fun q => ⟨hi, sl, rfl, hi, sl, n, 0, rfl, rfl, rfl, fun G2 g => ?_⟩, fun q => ?_⟩
    · have q : nI n * nI s ≤ nI 14 := q
      rw [pk_mul, nI_leI (by omega) (by decide)] at q
      rw [if_neg (by omega)] at h
      obtain ⟨g1, g2, g3, g4, g5, g6, g7, g8, g9⟩ := g
      have hev := ev_lt (show s < 16 by omega) n
      have loop : ∀ f i (G3 : oz_G), i + f = n → (∀ j, j ≠ 45 → G3 j = G2 j) → (∀ k, (k < 4 ∨ 10 ≤ k) → G3 45 k = G2 45 k) → (∀ k, k < 6 → G3 45 (4 + k) = if k < i then nI s else nI 0) → A 48 [some (.ref 44), some (.int (nI n)), some (.int (nI s)), some (.int (nI i))] [] N G3 (rmR hi sl) J 0 := by
        intro f
        induction f with
        | zero =>
          intro i G3 hif k1 k2 k3
          have hi : i = n := by omega
          subst hi
          have c : ∀ k, cpo G 45 0 47 0 215 45 k = G 45 k := fun k => by rw [cpo_o (by decide)]
          have b45 : RowR G3 45 0 (sNew (wS W) i (ev s i)) := an_R m1 hok.1.2.2.2.2.1 (lt28 hev (by omega)) hx6 (fun k hk => by rw [k2 k (by omega), g2 k hk, c]) (by rw [k2 3 (by omega)]; exact g3) (by rw [k2 10 (by omega), g4, dg_top hev]) (by rw [k2 11 (by omega), g5, c]) (by rw [k2 12 (by omega)]; exact g6) (by rw [k2 13 (by omega)]; exact g7) (by rw [k2 14 (by omega)]; exact g8) (fun k hk => by
            rw [k3 k hk]
            unfold sd
            by_cases z : k < i
            · rw [if_pos z, if_pos z, dg_ev (by omega) i k z]
            · rw [if_neg z, if_neg z])
          have far : ∀ j, j ≠ 45 → j ≠ 47 → G3 j = G j := fun j h1 h2 => by rw [k1 j h1, g1 j h1, cpo_o h2]
          have b47 : RowR G3 47 0 (wS W) := RowR_fr (fun r hr => by rw [k1 47 (by decide), g1 47 (by decide)]) (cpo_R (b := 47) (p := 0) hok.1 m1)
          refine hC.1 [] 60 48 _ _ _ _ _ _ _ ⟨fun _ => ⟨hi, sl, wS W, wH W, rfl, hok.1, hok.2.1, hok.2.2.2.2, b47, by rw [far 44 (by decide) (by decide)]; exact m2, HsM_fr (far 46 (by decide) (by decide)) _ m3, fun G' r1 r2 r3 r4 => ?_⟩, fun q => absurd (show nI i ≤ nI i from nI_le (Nat.le_refl _) (by omega)) q⟩
          have hf := h G' (MR_rec hM b45 (by rw [far 44 (by decide) (by decide)]) (fun i hi => far i (by omega) (by omega)) r1 r2 r3 r4) (fun i hi => by rw [r1 i (by omega) (by omega)]; exact far i (by omega) (by omega)) (by rw [r2 21 (by decide), far 44 (by decide) (by decide)])
          rw [← pk_mul] at hf
          exact hf
        | succ f ih =>
          intro i G3 hif k1 k2 k3
          have hin : i < n := by omega
          have hih := ih (i + 1) (oz2 G3 45 (4 + i) (nI s)) (by omega) (fun j hj => by rw [oz2_row hj]; exact k1 j hj) (fun k hk => by rw [oz2_ne (by omega)]; exact k2 k hk) (fun k hk => by
            by_cases z : k = i
            · rw [z, oz2_self, if_pos (by omega)]
            · rw [oz2_ne (by omega), k3 k hk]
              by_cases z2 : k < i
              · rw [if_pos z2, if_pos (by omega)]
              · rw [if_neg z2, if_neg (by omega)])
          rw [← nI_add i 1] at hih
          exact hC.1 [48] 40 48 _ _ _ _ _ _ _ ⟨fun q => absurd (show nI n ≤ nI i from q) (nI_ge hin (by omega)), fun _ => ⟨4 + i, nI_add 4 i, by show 4 + i < 215; omega, hih⟩⟩
      have h0 := loop n 0 G2 (by omega) (fun _ _ => rfl) (fun _ _ => rfl) (fun k hk => by rw [g9 k hk, if_neg (Nat.not_lt_zero _)])
      exact hC.1 [48] 30 46 _ _ _ _ _ _ _ h0
    · have q : ¬ nI n * nI s ≤ nI 14 := q
      rw [pk_mul, nI_leI (by omega) (by decide)] at q
      rw [if_pos (by omega)] at h
      exact pM_0 h hM
  refine hC.1 [22, 25] 40 0 _ _ _ _ _ _ _ ⟨x, rfl, fun q => a22 (Or.inl ?_), fun q => ⟨y, rfl, fun q2 => a25 ?_, fun q2 => a22 (Or.inr ?_)⟩⟩
  · have q : b2 (inb x (nI 2) (nI 6)) = nI 0 := q
    exact b2_f.mp q
  · have q : ¬ b2 (inb x (nI 2) (nI 6)) = nI 0 := q
    have q2 : ¬ b2 (inb y (nI 1) (nI 7)) = nI 0 := q2
    rw [b2_t] at q
    rw [b2_t, inb_t] at q2
    have q : rl6 x = true := q
    exact fun z => z.elim (fun z => by rw [q] at z; cases z) q2
  · have q2 : ¬ ¬ b2 (inb y (nI 1) (nI 7)) = nI 0 := q2
    have q2 := Classical.not_not.mp q2
    rw [b2_f, inb_f] at q2
    exact q2
