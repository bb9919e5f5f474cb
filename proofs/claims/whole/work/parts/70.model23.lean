/-! the model's public methods: fault, load -/
theorem MR_g {G G' : oz_G} {W : Wd} (h : MR G W) (hf : ∀ i, (i = 45 ∨ i = 46 ∨ i = 48 ∨ i = 49 ∨ i = 50) → G' i = G i) (h5 : G' 44 5 = G 44 5) (h7 : G' 44 7 = G 44 7) : MR G' W :=
  MR_now h (RowR_fr (fun k _ => by rw [hf 45 (by omega)]) h.1) h5 h7 (fun i hi => hf i (by omega))
def t_X6_fault : oz_T := (P_X6_fault, e_X6, [(179, 1, 1, 0, s_X6_isWell)], (true, 58, none, false, 0), (0, fun _ => 0))
def s_X6_fault : oz_S := oz_t0 44 fun N G R J Φ => ∃ hi sl W, R = rmR hi sl ∧ MR G W ∧ wOk W ∧ pM N G R J Φ (q_fault W)
theorem I_X6_fault : oz_Imp t_X6_fault 1 s_X6_fault := by
  intro Φ A a N G R J hN hS hC
  obtain ⟨rfl, hi, sl, W, rfl, hM, hok, h⟩ := oz_t0_e hS
  obtain ⟨m1, m2, m3, m4, m5, m6, m7, m8⟩ := id hM
  refine hC.1 [] 60 0 _ _ _ _ _ _ _ ⟨hi, sl, wP W, wL W, rdW W, rfl, ⟨m6, m7, m8⟩, rfl, fun G' f1 f2 => ⟨fun q => ?_, fun q => ?_⟩⟩
  · have q : b2 (rdW W).2.2.2.isNone = nI 0 := q
    rw [b2_f] at q
    have hf := h G' (MR_g hM (fun i hi => f1.1 i (by omega) (by omega)) (f1.2 5 (by decide) (by decide)) (f1.2 7 (by decide) (by decide))) (fun i hi => f1.1 i (by omega) (by omega)) (f1.2 21 (by decide) (by decide))
    have hf : Φ (some (.int (fI (rdW W).2.2.2))) N G' (rmR hi sl) J := hf
    cases z : (rdW W).2.2.2 with
    | none => rw [z] at q; cases q
    | some j =>
      rw [z] at hf
      have hf : Φ (some (.int (nI j))) N G' (rmR hi sl) J := hf
      rw [← f2.1 j z] at hf
      exact hf
  · have q : ¬ b2 (rdW W).2.2.2.isNone = nI 0 := q
    rw [b2_t] at q
    have hf := h G' (MR_g hM (fun i hi => f1.1 i (by omega) (by omega)) (f1.2 5 (by decide) (by decide)) (f1.2 7 (by decide) (by decide))) (fun i hi => f1.1 i (by omega) (by omega)) (f1.2 21 (by decide) (by decide))
    have hf : Φ (some (.int (fI (rdW W).2.2.2))) N G' (rmR hi sl) J := hf
    cases z : (rdW W).2.2.2 with
    | none => rw [z] at hf; exact hf
    | some j => rw [z] at q; cases q
theorem rd_c {w : Nat → Nat} : ∀ f i o (e : Bool) c s p, (rd w f i o e c s p).2.2.2 = none → (if e = true then c else c + 1) ≤ (rd w f i o e c s p).1
  | 0, i, none, e, c, s, p, h => by cases h
  | 0, i, some v, e, c, s, p, h => by
    show _ ≤ (if e = true then (c, s + v, p + v * 16 ^ c, (none : Option Nat)) else (c + 1, s + v, p + v * 16 ^ c, none)).1
    cases e with
    | true => rw [if_pos rfl, if_pos rfl]; exact Nat.le_refl _
    | false => rw [if_neg (by decide), if_neg (by decide)]; exact Nat.le_refl _
  | f + 1, i, o, e, c, s, p, h => by
    unfold rd at h ⊢
    by_cases q : cg o (w i) = true
    · rw [if_pos q] at h ⊢
      exact rd_c f (i + 1) _ e c s p h
    · rw [if_neg q] at h ⊢
      cases o with
      | none => cases h
      | some v =>
        have h : (if e = true then (c, s, p, some i) else if cs c (w i) = true then rd w f (i + 1) none (decide (w i = 47)) (c + 1) (s + v) (p + v * 16 ^ c) else (c, s, p, some i)).2.2.2 = none := h
        show _ ≤ (if e = true then (c, s, p, some i) else if cs c (w i) = true then rd w f (i + 1) none (decide (w i = 47)) (c + 1) (s + v) (p + v * 16 ^ c) else (c, s, p, some i)).1
        cases e with
        | true => rw [if_pos rfl] at h; cases h
        | false =>
          rw [if_neg (by decide)] at h ⊢
          by_cases q2 : cs c (w i) = true
          · rw [if_pos q2] at h ⊢
            have := rd_c f (i + 1) none (decide (w i = 47)) (c + 1) (s + v) (p + v * 16 ^ c) h
            rw [if_neg (by decide)]
            split at this
            · exact this
            · omega
          · rw [if_neg q2] at h; cases h
def t_X6_load : oz_T := (P_X6_load, e_X6, [(179, 1, 1, 0, s_X6_isWell), (60, 1, 1, 0, s_X6_remember), (140, 1, 3, 0, s_X6_anew), (63, 1, 2, 0, s_X6_record)], (true, 58, none, false, 0), (0, fun _ => 0))
def s_X6_load : oz_S := oz_t0 44 fun N G R J Φ => ∃ hi sl W, R = rmR hi sl ∧ MR G W ∧ wOk W ∧ pM N G R J Φ (q_load W)
theorem I_X6_load : oz_Imp t_X6_load 3 s_X6_load := by
  intro Φ A a N G R J hN hS hC
  obtain ⟨rfl, hi, sl, W, rfl, hM, hok, h⟩ := oz_t0_e hS
  obtain ⟨m1, m2, m3, m4, m5, m6, m7, m8⟩ := id hM
  obtain ⟨r1, r2, r3, r4, r5⟩ := rdW_ok W
  have r6 : (rdW W).2.2.2 = none → (if false = true then 0 else 0 + 1) ≤ (rdW W).1 := rd_c (wL W) 0 none false 0 0 0
  unfold q_load at h
  have key : ∀ G1 : oz_G, FrW G G1 → WlR G1 (rdW W) → (rdW W).2.2.2 = none → A 10 [some (.ref 44), none, none] [] N G1 (rmR hi sl) J 0 := by
    intro G1 f1 f2 hn
    rw [if_neg (by rw [hn]; decide)] at h
    obtain ⟨r4a, r4b⟩ := r4 hn
    have r6 : 1 ≤ (rdW W).1 := r6 hn
    obtain ⟨g1, g2, g3⟩ := f2.2 hn
    have hM1 : MR G1 W := MR_g hM (fun i hi => f1.1 i (by omega) (by omega)) (f1.2 5 (by decide) (by decide)) (f1.2 7 (by decide) (by decide))
    have fx : FrX G G1 := fun i hi => f1.1 i (by omega) (by omega)
    generalize (rdW W).1 = c at h r1 r4a r4b r6 g1 g2 g3
    generalize (rdW W).2.1 = s at h r2 r4a
    generalize (rdW W).2.2.1 = p at h r3 r4a r4b g2 g3
    have hs : sm p c + dg p c = s := r4a
    have a55 : c < 2 ∨ s = 0 → A 55 [some (.ref 44), some (.int (nI s)), some (.int (nI c))] [] N G1 (rmR hi sl) J 0 := fun z => by
      rw [if_pos z] at h
      exact hC.1 [] 20 55 _ _ _ _ _ _ _ (h G1 hM1 fx (f1.2 21 (by decide) (by decide)))
    have a58 : ¬ (c < 2 ∨ s = 0) → A 58 [some (.ref 44), some (.int (nI s)), some (.int (nI c))] [] N G1 (rmR hi sl) J 0 := fun z => by
      rw [if_neg z] at h
      refine hC.1 [86] 90 58 _ _ _ _ _ _ _ ⟨fun q => ⟨hi, sl, rfl, 6, rfl, by decide, hi, sl, c, dg p c, rfl, by rw [cpo_o (by decide)]; exact g1, by rw [cpo_o (by decide)]; exact g3, fun G2 g => ?_⟩, fun q => ?_⟩
      · have q : nI s ≤ nI 14 := q
        rw [nI_leI (by omega) (by decide)] at q
        rw [if_neg (by omega)] at h
        obtain ⟨k1, k2, k3, k4, k5, k6, k7, k8, k9⟩ := g
        have c11 : G2 44 11 = nI c := by rw [k1 44 (by decide), cpo_o (by decide)]; exact g1
        have c52 : ∀ k, k < c → G2 52 k = nI (dg p k) := fun k hk => by rw [k1 52 (by decide), cpo_o (by decide)]; exact g2 k hk
        have cc : ∀ k, cpo G1 45 0 47 0 215 45 k = G 45 k := fun k => by rw [cpo_o (by decide), f1.1 45 (by decide) (by decide)]
        have far2 : ∀ j, j ≠ 44 → j ≠ 45 → j ≠ 47 → j ≠ 52 → G2 j = G j := fun j h1 h2 h3 h4 => by rw [k1 j h2, cpo_o h3, f1.1 j h1 h4]
        have far44 : ∀ j, j ≠ 8 → j ≠ 11 → G2 44 j = G 44 j := fun j h1 h2 => by rw [k1 44 (by decide), cpo_o (by decide), f1.2 j h1 h2]
        have b47 : RowR G2 47 0 (wS W) := RowR_fr (fun r hr => by rw [k1 47 (by decide)]) (cpo_R (b := 47) (p := 0) hok.1 hM1.1)
        have loop : ∀ f i (G3 : oz_G), i + f = c → (∀ j, j ≠ 45 → G3 j = G2 j) → (∀ k, (k < 4 ∨ 10 ≤ k) → G3 45 k = G2 45 k) → (∀ k, k < 6 → G3 45 (4 + k) = if k < i then nI (dg p k) else nI 0) → A 88 [some (.ref 44), some (.int (nI s)), some (.int (nI i))] [] N G3 (rmR hi sl) J 0 := by
          intro f
          induction f with
          | zero =>
            intro i G3 hif q1 q2 q3
            have hi : i = c := by omega
            subst hi
            have b45 : RowR G3 45 0 (sNew (wS W) i p) := an_R m1 hok.1.2.2.2.2.1 (lt28 r3 (Nat.le_refl _)) r1 (fun k hk => by rw [q2 k (by omega), k2 k hk, cc]) (by rw [q2 3 (by omega)]; exact k3) (by rw [q2 10 (by omega)]; exact k4) (by rw [q2 11 (by omega), k5, cc]) (by rw [q2 12 (by omega)]; exact k6) (by rw [q2 13 (by omega)]; exact k7) (by rw [q2 14 (by omega)]; exact k8) (fun k hk => by
              rw [q3 k hk]
              unfold sd
              by_cases z : k < i
              · rw [if_pos z, if_pos z]
              · rw [if_neg z, if_neg z])
            have far : ∀ j, j ≠ 44 → j ≠ 45 → j ≠ 47 → j ≠ 52 → oz2 G3 44 7 (nI 0) j = G j := fun j h1 h2 h3 h4 => by rw [oz2_row h1, q1 j h2, far2 j h1 h2 h3 h4]
            have e11 : G3 44 11 = nI i := by rw [q1 44 (by decide)]; exact c11
            refine hC.1 [] 60 88 _ _ _ _ _ _ _ ⟨fun _ => ⟨hi, sl, wS W, wH W, rfl, hok.1, hok.2.1, hok.2.2.2.2, RowR_fr (fun r hr => by rw [oz2_row (by decide), q1 47 (by decide)]) b47, by rw [oz2_ne (by decide), q1 44 (by decide), far44 5 (by decide) (by decide)]; exact m2, HsM_fr (far 46 (by decide) (by decide) (by decide) (by decide)) _ m3, fun G' r1 r2 r3 r4 => ?_⟩, fun q => absurd (show G3 44 11 ≤ nI i by rw [e11]; exact nI_le (Nat.le_refl _) (by omega)) q⟩
            have fr : ∀ j, j ≠ 44 → j ≠ 45 → j ≠ 46 → j ≠ 47 → j ≠ 52 → G' j = G j := fun j h1 h2 h3 h4 h5 => (r1 j h1 h3).trans (far j h1 h2 h4 h5)
            exact h G' ⟨RowR_fr (fun k _ => by rw [r1 45 (by decide) (by decide), oz2_row (by decide)]) b45, r3, r4, SlM_fr (fr 49 (by decide) (by decide) (by decide) (by decide) (by decide)) (fr 48 (by decide) (by decide) (by decide) (by decide) (by decide)) m4, SlM_fr (fr 49 (by decide) (by decide) (by decide) (by decide) (by decide)) (fr 48 (by decide) (by decide) (by decide) (by decide) (by decide)) m5, by rw [r2 7 (by decide), oz2_self]; rfl, Nat.zero_le _, fun j hj => absurd hj (Nat.not_lt_zero _)⟩ (fun i hi => fr i (by omega) (by omega) (by omega) (by omega) (by omega)) (by rw [r2 21 (by decide), oz2_ne (by decide), q1 44 (by decide)]; exact far44 21 (by decide) (by decide))
          | succ f ih =>
            intro i G3 hif q1 q2 q3
            have hin : i < c := by omega
            have e11 : G3 44 11 = nI c := by rw [q1 44 (by decide)]; exact c11
            have ev : G3 52 i = nI (dg p i) := by rw [q1 52 (by decide)]; exact c52 i hin
            have hih := ih (i + 1) (oz2 G3 45 (4 + i) (nI (dg p i))) (by omega) (fun j hj => by rw [oz2_row hj]; exact q1 j hj) (fun k hk => by rw [oz2_ne (by omega)]; exact q2 k hk) (fun k hk => by
              by_cases z : k = i
              · rw [z, oz2_self, if_pos (by omega)]
              · rw [oz2_ne (by omega), q3 k hk]
                by_cases z2 : k < i
                · rw [if_pos z2, if_pos (by omega)]
                · rw [if_neg z2, if_neg (by omega)])
            rw [← nI_add i 1, ← ev] at hih
            exact hC.1 [88] 60 88 _ _ _ _ _ _ _ ⟨fun q => absurd (show G3 44 11 ≤ nI i from q) (by rw [e11]; exact nI_ge hin (by omega)), fun _ => ⟨i, rfl, by show i < 7; omega, 4 + i, nI_add 4 i, by show 4 + i < 215; omega, hih⟩⟩
        have h0 := loop c 0 G2 (by omega) (fun _ _ => rfl) (fun _ _ => rfl) (fun k hk => by rw [k9 k hk, if_neg (Nat.not_lt_zero _)])
        exact hC.1 [88] 30 86 _ _ _ _ _ _ _ h0
      · have q : ¬ nI s ≤ nI 14 := q
        rw [nI_leI (by omega) (by decide)] at q
        rw [if_pos (by omega)] at h
        exact h G1 hM1 fx (f1.2 21 (by decide) (by decide))
    have a43 : A 43 [some (.ref 44), some (.int (nI s)), some (.int (nI c))] [] N G1 (rmR hi sl) J 0 := by
      refine hC.1 [55, 58] 60 43 _ _ _ _ _ _ _ ⟨fun q => a55 (Or.inl ?_), fun q => ⟨fun q2 => a58 ?_, fun q2 => a55 (Or.inr ?_)⟩⟩
      · have q : G1 44 11 = nI 1 := q
        rw [g1, nI_eq (by omega) (by decide)] at q
        omega
      · have q : ¬ G1 44 11 = nI 1 := q
        rw [g1, nI_eq (by omega) (by decide)] at q
        have q2 : ¬ nI s = nI 0 := q2
        rw [nI_eq (by omega) (by decide)] at q2
        omega
      · have q2 : ¬ ¬ nI s = nI 0 := q2
        have q2 := Classical.not_not.mp q2
        rw [nI_eq (by omega) (by decide)] at q2
        exact q2
    have sum : ∀ f k, k + f = c → A 20 [some (.ref 44), some (.int (nI (dg p c + sm p k))), some (.int (nI k))] [] N G1 (rmR hi sl) J 0 := by
      intro f
      induction f with
      | zero =>
        intro k hk
        have hk : k = c := by omega
        subst hk
        rw [show dg p k + sm p k = s by omega]
        exact hC.1 [43] 40 20 _ _ _ _ _ _ _ ⟨fun _ => a43, fun q => absurd (show G1 44 11 ≤ nI k by rw [g1]; exact nI_le (Nat.le_refl _) (by omega)) q⟩
      | succ f ih =>
        intro k hk
        have hkc : k < c := by omega
        have hih := ih (k + 1) (by omega)
        have e : dg p c + sm p (k + 1) = dg p c + sm p k + dg p k := by show dg p c + (sm p k + dg p k) = _; omega
        rw [e, ← nI_add _ (dg p k), ← g2 k hkc, ← nI_add k 1] at hih
        exact hC.1 [20] 60 20 _ _ _ _ _ _ _ ⟨fun q => absurd (show G1 44 11 ≤ nI k from q) (by rw [g1]; exact nI_ge hkc (by omega)), fun _ => ⟨k, rfl, by show k < 7; omega, hih⟩⟩
    have h0 := sum c 0 (by omega)
    rw [show dg p c + sm p 0 = dg p c from rfl, ← g3] at h0
    exact hC.1 [20] 40 10 _ _ _ _ _ _ _ ⟨6, rfl, by decide, h0⟩
  refine hC.1 [10] 60 0 _ _ _ _ _ _ _ ⟨hi, sl, wP W, wL W, rdW W, rfl, ⟨m6, m7, m8⟩, rfl, fun G' f1 f2 => ⟨fun q => ?_, fun q => ?_⟩⟩
  · have q : ¬ b2 (rdW W).2.2.2.isNone = nI 0 := q
    rw [b2_t] at q
    refine key G' f1 f2 ?_
    cases z : (rdW W).2.2.2 with
    | none => rfl
    | some j => rw [z] at q; cases q
  · have q : ¬ ¬ b2 (rdW W).2.2.2.isNone = nI 0 := q
    have q := Classical.not_not.mp q
    rw [b2_f] at q
    have hs : (rdW W).2.2.2.isSome = true := by
      cases z : (rdW W).2.2.2 with
      | none => rw [z] at q; cases q
      | some j => rfl
    rw [if_pos hs] at h
    exact h G' (MR_g hM (fun i hi => f1.1 i (by omega) (by omega)) (f1.2 5 (by decide) (by decide)) (f1.2 7 (by decide) (by decide))) (fun i hi => f1.1 i (by omega) (by omega)) (f1.2 21 (by decide) (by decide))
