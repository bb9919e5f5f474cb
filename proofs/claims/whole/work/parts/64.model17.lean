/-! the model: a move sown in its places -/
theorem aw_fl {c : Nat} (h : lo c = 0) : lf (aw c) = 0 ∧ lo (aw c) = 1 - lf c := by
  have h1 := lf_le (c := c)
  unfold aw
  by_cases q : lf c = 0
  · rw [if_pos q, q]
    unfold lf at q ⊢
    unfold lo at h ⊢
    omega
  · rw [if_neg q, show lf c = 1 by omega]
    unfold lf at q h1 ⊢
    unfold lo at h ⊢
    omega
def FrL (G G' : oz_G) : Prop := (∀ a, a ≠ 44 → a ≠ 53 → G' a = G a) ∧ ∀ k, (k < 13 ∨ 16 < k) → G' 44 k = G 44 k
theorem FrL_i {G G' : oz_G} {k : Nat} {v : Int32} (h : FrL G G') (hk : 13 ≤ k ∧ k ≤ 16) : FrL G (oz2 G' 44 k v) := ⟨fun a h1 h2 => by rw [oz2_row h1]; exact h.1 a h1 h2, fun j hj => by rw [oz2_ne (by omega)]; exact h.2 j hj⟩
theorem FrL_p {G G' : oz_G} {k : Nat} {v : Int32} (h : FrL G G') : FrL G (oz2 G' 53 k v) := ⟨fun a h1 h2 => by rw [oz2_row h2]; exact h.1 a h1 h2, fun j hj => by rw [oz2_row (by decide)]; exact h.2 j hj⟩
def t_X6_loses : oz_T := (P_X6_loses, e_X6, [], (true, 58, none, true, 0), (0, fun _ => 0))
def s_X6_loses : oz_S := oz_t1 44 fun x N G R J Φ => ∃ hi sl n rl ex u c i, R = rmR hi sl ∧ PsR G n ex c ∧ G 45 0 = nI rl ∧ rl ≤ 1 ∧ Gd n u c ∧ lo c = 0 ∧ x = nI i ∧ i < n ∧ 0 < dg c i ∧ ∀ G' : oz_G, FrL G G' → PlR G' n (mvc n rl c i) → G' 44 14 = nI (mv n rl c i).2.1 → G' 44 15 = nI (mv n rl c i).2.2 → G' 44 16 = nI (if (mv n rl c i).2.1 = n then 0 else 1) → Φ (some (.int (nI (lo (mvc n rl c i))))) N G' R J
theorem I_X6_loses : oz_Imp t_X6_loses 7 s_X6_loses := by
  intro Φ A a N G R J hN hS hC
  obtain ⟨x, rfl, hi, sl, n, rl, ex, u, c, i, rfl, ⟨e3, e1, hn2, hn6, hex, hP⟩, e0, hrl, hg, hlo, rfl, hin, hd, h⟩ := oz_t1_e hS
  obtain ⟨b1, b2, b3, b4, b5, b6⟩ := mv_ok (rl := rl) (Gd_Pv hg) hin hd
  have hl := lf_F (Gd_Pv hg).1 b1.1 hn6
  have ho := lo_F (Gd_Pv hg).1 b1.1 hn6
  have gm : Gd n u (mv n rl c i).1 := (Gd_mk b1.1 lf_le lo_le hg.2.1 hg.2.2).1
  have hfl := lf_le (c := c)
  have hu := hg.2.1
  have hI := hg.1
  generalize (lf c + 2 * lo c) * 16 ^ (6 - n) = F at hI
  have fin : ∀ (G2 : oz_G) (v3 v5 v6 : Option Value), FrL G G2 → (∀ j, j ≤ n → G2 53 j = nI (dg (mv n rl c i).1 j)) → G2 44 13 = nI (lf c) → G2 44 14 = nI (mv n rl c i).2.1 → G2 44 15 = nI (mv n rl c i).2.2 → A 17 [some (.ref 44), some (.int (nI i)), some (.int (nI n)), v3, some (.int (nI 0)), v5, v6] [] N G2 (rmR hi sl) J 0 := by
    intro G2 v3 v5 v6 f1 f2 f3 f4 f5
    by_cases q : (mv n rl c i).2.1 = n
    · have em : mvc n rl c i = (mv n rl c i).1 := if_pos q
      have hf := h (oz2 G2 44 16 (nI 0)) (FrL_i f1 (by decide)) (by rw [em]; exact ⟨fun j hj => by rw [oz2_row (by decide)]; exact f2 j (by omega), by rw [oz2_row (by decide)]; exact f2 n (Nat.le_refl _), by rw [oz2_ne (by decide), f3, hl]⟩) (by rw [oz2_ne (by decide)]; exact f4) (by rw [oz2_ne (by decide)]; exact f5) (by rw [oz2_self, if_pos q])
      rw [em, ho, hlo] at hf
      have a134 : A 134 [some (.ref 44), some (.int (nI i)), some (.int (nI n)), v3, some (.int (nI 0)), v5, v6] [] N G2 (rmR hi sl) J 0 := by
        refine hC.1 [] 90 134 _ _ _ _ _ _ _ ⟨fun _ => ?_, fun z => absurd (show G2 44 14 = nI n by rw [f4, q]) z⟩
        exact ⟨Or.inl rfl, fun _ => ⟨Or.inl rfl, hf⟩, fun z => absurd rfl z⟩
      exact hC.1 [134] 30 17 _ _ _ _ _ _ _ ⟨fun _ => a134, fun z => absurd rfl z⟩
    · have em : mvc n rl c i = aw (mv n rl c i).1 := if_neg q
      obtain ⟨w1, w2⟩ := aw_fl (c := (mv n rl c i).1) (by rw [ho]; exact hlo)
      obtain ⟨-, -, w3⟩ := Gd_aw gm (by rw [ho]; exact hlo)
      rw [hl] at w2
      have a134 : A 134 [some (.ref 44), some (.int (nI i)), some (.int (nI n)), v3, some (.int (nI 0)), v5, v6] [] N G2 (rmR hi sl) J 0 := by
        refine hC.1 [] 90 134 _ _ _ _ _ _ _ ⟨fun z => absurd ?_ q, fun _ => ⟨Or.inr rfl, fun z => absurd z (show ¬ nI 1 = nI 0 by decide), fun _ => ⟨fun z => ?_, fun z => ?_⟩⟩⟩
        · have z : G2 44 14 = nI n := z
          rw [f4, nI_eq (by omega) (by omega)] at z
          exact z
        · have z : G2 44 13 ≤ 0 := z
          have z0 : lf c = 0 := by
            rw [f3] at z
            have := (nI_leI (a := lf c) (b := 0) (by omega) (by decide)).mp z
            omega
          have hf := h (oz2 G2 44 16 (nI 1)) (FrL_i f1 (by decide)) (by rw [em]; exact ⟨fun j hj => by rw [oz2_row (by decide), w3 j (by omega)]; exact f2 j (by omega), by rw [oz2_row (by decide), w3 n (Nat.le_refl _)]; exact f2 n (Nat.le_refl _), by rw [oz2_ne (by decide), f3, w1, z0]⟩) (by rw [oz2_ne (by decide)]; exact f4) (by rw [oz2_ne (by decide)]; exact f5) (by rw [oz2_self, if_neg q])
          rw [em, w2, z0] at hf
          exact ⟨Or.inr rfl, hf⟩
        · have z : ¬ G2 44 13 ≤ 0 := z
          have z1 : lf c = 1 := by
            rw [f3] at z
            have : ¬ lf c ≤ 0 := fun y => z ((nI_leI (a := lf c) (b := 0) (by omega) (by decide)).mpr y)
            omega
          have hf := h (oz2 (oz2 G2 44 16 (nI 1)) 44 13 (G2 44 13 - nI 1)) (FrL_i (FrL_i f1 (by decide)) (by decide)) (by rw [em]; exact ⟨fun j hj => by rw [oz2_row (by decide), oz2_row (by decide), w3 j (by omega)]; exact f2 j (by omega), by rw [oz2_row (by decide), oz2_row (by decide), w3 n (Nat.le_refl _)]; exact f2 n (Nat.le_refl _), by rw [oz2_self, f3, w1, z1]; rfl⟩) (by rw [oz2_ne (by decide), oz2_ne (by decide)]; exact f4) (by rw [oz2_ne (by decide), oz2_ne (by decide)]; exact f5) (by rw [oz2_ne (by decide), oz2_self, if_neg q])
          rw [em, w2, z1] at hf
          exact ⟨Or.inl rfl, hf⟩
      exact hC.1 [134] 30 17 _ _ _ _ _ _ _ ⟨fun _ => a134, fun z => absurd rfl z⟩
  have outer : ∀ f c' la k (G2 : oz_G) (v5 v6 : Option Value), FrL G G2 → (∀ j, j ≤ n → G2 53 j = nI (dg c' j)) → G2 44 13 = nI (lf c) → G2 44 15 = nI k → Iv n F u c' → la < n → 0 < dg c' la → mu n c' la < f → mk n rl f c' la k = mv n rl c i → A 17 [some (.ref 44), some (.int (nI i)), some (.int (nI n)), some (.int (nI la)), some (.int (nI 1)), v5, v6] [] N G2 (rmR hi sl) J 0 := by
    intro f
    induction f with
    | zero => intro c' la k G2 v5 v6 _ _ _ _ _ _ _ hm; omega
    | succ f ih =>
      intro c' la k G2 v5 v6 f1 f2 f3 f4 hIv hla hdl hm hmk
      obtain ⟨a1, a2, a3, a4, a5, a6⟩ := lp_ok hIv hu hn6 hla hdl
      have hle := sm_le c' (n + 1) la (by omega)
      rw [hIv.2] at hle
      have inner : ∀ m kk q la' th (G3 : oz_G), kk + m = dg c' la + 1 → 1 ≤ kk → la' = nxs n (kk - 1) la → dl n m q la' th = lp n c' la → Iv n F (u - m) q → m ≤ u → FrL G G3 → (∀ j, j ≤ n → G3 53 j = nI (dg q j)) → G3 44 13 = nI (lf c) → G3 44 15 = nI k → (1 < kk → G3 44 14 = nI la') → A 40 [some (.ref 44), some (.int (nI i)), some (.int (nI n)), some (.int (nI la)), some (.int (nI 1)), some (.int (nI (dg c' la))), some (.int (nI kk))] [] N G3 (rmR hi sl) J 0 := by
        intro m
        induction m with
        | zero =>
          intro kk q la' th G3 hk hk1 hla' hdlp hq _ g1 g2 g3 g4 g5
          have hlp : lp n c' la = (q, la', th) := hdlp.symm
          rw [hlp] at a1 a2 a3 a4 a5 a6
          have a2 : la' ≤ n := a2
          have a4 : dg q la' = th + 1 := a4
          have a6 : la' ≠ n → mu n q la' < mu n c' la := a6
          have e14 : G3 44 14 = nI la' := g5 (by omega)
          have hmk : (if (lp n c' la).2.1 ≠ n ∧ 0 < (lp n c' la).2.2 ∧ rl = 1 then mk n rl f (lp n c' la).1 (lp n c' la).2.1 (k + 1) else ((lp n c' la).1, (lp n c' la).2.1, k + 1)) = mv n rl c i := hmk
          rw [hlp] at hmk
          have hmk : (if la' ≠ n ∧ 0 < th ∧ rl = 1 then mk n rl f q la' (k + 1) else (q, la', k + 1)) = mv n rl c i := hmk
          have e15 : G3 44 15 + nI 1 = nI (k + 1) := by rw [g4, nI_add]
          have gR : ∀ v, oz2 G3 44 15 v 45 0 = nI rl := fun v => by rw [oz2_row (by decide), g1.1 45 (by decide) (by decide)]; exact e0
          have no : ¬ (la' ≠ n ∧ 0 < th ∧ rl = 1) → A 17 [some (.ref 44), some (.int (nI i)), some (.int (nI n)), some (.int (nI la')), some (.int (nI 0)), some (.int (nI (dg c' la))), some (.int (nI kk))] [] N (oz2 G3 44 15 (nI (k + 1))) (rmR hi sl) J 0 := fun z => by
            rw [if_neg z] at hmk
            exact fin _ _ _ _ (FrL_i g1 (by decide)) (fun j hj => by rw [oz2_row (by decide), ← hmk]; exact g2 j hj) (by rw [oz2_ne (by decide)]; exact g3) (by rw [oz2_ne (by decide), ← hmk]; exact e14) (by rw [oz2_self, ← hmk])
          have yes : (la' ≠ n ∧ 0 < th ∧ rl = 1) → A 17 [some (.ref 44), some (.int (nI i)), some (.int (nI n)), some (.int (nI la')), some (.int (nI 1)), some (.int (nI (dg c' la))), some (.int (nI kk))] [] N (oz2 G3 44 15 (nI (k + 1))) (rmR hi sl) J 0 := fun z => by
            rw [if_pos z] at hmk
            have := a6 z.1
            exact ih q la' (k + 1) _ _ _ (FrL_i g1 (by decide)) (fun j hj => by rw [oz2_row (by decide)]; exact g2 j hj) (by rw [oz2_ne (by decide)]; exact g3) (by rw [oz2_self]) a1 (by omega) (by omega) (by omega) hmk
          rw [← e15, ← e14] at no yes
          refine hC.1 [17] 120 40 _ _ _ _ _ _ _ ⟨fun _ => ⟨fun z => ?_, fun z => ⟨la', e14, by show la' < 7; omega, fun z2 => ?_, fun z2 => ⟨0, rfl, by decide, fun z3 => ?_, fun z3 => ?_⟩⟩⟩, fun z => absurd (show nI (dg c' la) < nI kk from nI_lt (by omega) (by have := dg_lt c' la; omega)) z⟩
          · have z : G3 44 14 = nI n := z
            rw [e14, nI_eq (by omega) (by omega)] at z
            exact no (fun y => y.1 z)
          · have z2 : G3 53 la' ≤ nI 1 := z2
            have hd2 := dg_lt q la'
            rw [g2 la' a2, nI_leI (by omega) (by decide)] at z2
            exact no (fun y => by omega)
          · have z3 : ¬ G3 45 0 = nI 1 := z3
            have gr0 : G3 45 0 = nI rl := by rw [g1.1 45 (by decide) (by decide)]; exact e0
            rw [gr0, nI_eq (by omega) (by decide)] at z3
            exact no (fun y => z3 y.2.2)
          · have z : ¬ G3 44 14 = nI n := z
            rw [e14, nI_eq (by omega) (by omega)] at z
            have z2 : ¬ G3 53 la' ≤ nI 1 := z2
            have hd2 := dg_lt q la'
            rw [g2 la' a2, nI_leI (by omega) (by decide)] at z2
            have z3 : ¬ ¬ G3 45 0 = nI 1 := z3
            have z3 := Classical.not_not.mp z3
            have gr0 : G3 45 0 = nI rl := by rw [g1.1 45 (by decide) (by decide)]; exact e0
            rw [gr0, nI_eq (by omega) (by decide)] at z3
            exact yes ⟨z, by omega, z3⟩
        | succ m ihm =>
          intro kk q la' th G3 hk hk1 hla' hdlp hq hmu g1 g2 g3 g4 g5
          obtain ⟨la2, hla2⟩ : ∃ z, z = nx n la' := ⟨_, rfl⟩
          have hl2n : la2 ≤ n := by rw [hla2]; exact nx_le
          have hmod : la2 = (la + kk) % (n + 1) := by
            rw [hla2, hla', ← nxs_succ, show kk - 1 + 1 = kk by omega]
            exact nxs_mod kk la (by omega)
          obtain ⟨h1, hdg⟩ := Iv_add hq (show u - (m + 1) < 14 by omega) hl2n
          have hd16 := sm_le q (n + 1) la2 (by omega)
          rw [hq.2] at hd16
          have hdlp : dl n m (q + 16 ^ nx n la') (nx n la') (dg q (nx n la')) = lp n c' la := hdlp
          rw [← hla2] at hdlp
          rw [show u - (m + 1) + 1 = u - m by omega] at h1
          have e : nI la + nI kk - (nI la + nI kk) / (nI n + nI 1) * (nI n + nI 1) = nI la2 := by
            have := dg_lt c' la
            rw [nI_add, nI_add, pk_rem (by omega) (by omega) (by omega), hmod]
          have hih := ihm (kk + 1) (q + 16 ^ la2) la2 (dg q la2) (oz2 (oz2 G3 44 14 (nI la2)) 53 la2 (G3 53 la2 + nI 1)) (by omega) (by omega) (by rw [Nat.add_sub_cancel, hla2, hla', ← nxs_succ, show kk - 1 + 1 = kk by omega]) hdlp h1 (by omega) (FrL_p (FrL_i g1 (by decide))) (fun j hj => by
            rw [hdg j]
            by_cases z : j = la2
            · rw [if_pos z, z, oz2_self, g2 la2 hl2n, nI_add]
            · rw [if_neg z, oz2_ne z, oz2_row (by decide)]; exact g2 j hj) (by rw [oz2_row (by decide), oz2_ne (by decide)]; exact g3) (by rw [oz2_row (by decide), oz2_ne (by decide)]; exact g4) (fun _ => by rw [oz2_row (by decide), oz2_self])
          rw [← e, ← nI_add kk 1] at hih
          refine hC.1 [40] 90 40 _ _ _ _ _ _ _ ⟨fun z => absurd (show nI (dg c' la) < nI kk from z) (fun y => ?_), fun _ => ⟨?_, la2, e, by show la2 < 7; omega, la2, e, by show la2 < 7; omega, hih⟩⟩
          · rw [nI_ltI (by have := dg_lt c' la; omega) (by have := dg_lt c' la; omega)] at y
            omega
          · show ¬ nI n + nI 1 = nI 0
            rw [nI_add, nI_eq (by omega) (by decide)]
            omega
      have h0 := inner (dg c' la) 1 (c' - dg c' la * 16 ^ la) la 0 (oz2 G2 53 la (nI 0)) (by omega) (Nat.le_refl _) rfl rfl (Iv_sub hIv (by omega)) hle (FrL_p f1) (fun j hj => by
        rw [dg_sub0]
        by_cases z : j = la
        · rw [if_pos z, z, oz2_self]
        · rw [if_neg z, oz2_ne z]; exact f2 j hj) (by rw [oz2_row (by decide)]; exact f3) (by rw [oz2_row (by decide)]; exact f4) (fun z => by omega)
      have ela : G2 53 la = nI (dg c' la) := f2 la (by omega)
      rw [← ela] at h0
      exact hC.1 [40] 60 17 _ _ _ _ _ _ _ ⟨fun z => absurd z (show ¬ nI 1 = nI 0 by decide), fun _ => ⟨la, rfl, by show la < 7; omega, la, rfl, by show la < 7; omega, h0⟩⟩
  have h0 := outer 1000 c i 0 (oz2 G 44 15 (nI 0)) none none (FrL_i ⟨fun _ _ _ => rfl, fun _ _ => rfl⟩ (by decide)) (fun j hj => by
    rw [oz2_row (by decide)]
    by_cases z : j = n
    · rw [z]; exact hP.2.1
    · exact hP.1 j (by omega)) (by rw [oz2_ne (by decide)]; exact hP.2.2) (by rw [oz2_self]) hI hin hd mu_lt rfl
  rw [← e3] at h0
  exact hC.1 [17] 60 0 _ _ _ _ _ _ _ ⟨3, rfl, by decide, h0⟩
