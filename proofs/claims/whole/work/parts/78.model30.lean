/-! the model's public methods: best, play -/
def FrY (G G' : oz_G) : Prop := ∀ i, (i < 44 ∨ 58 ≤ i) → G' i = G i
def pS (N : Nat) (G : oz_G) (R : oz_R) (J : oz_J) (Φ : oz_C) (r : Int32 × Wd) : Prop := ∀ G' : oz_G, MR G' r.2 → FrY G G' → SrI G' → Φ (some (.int r.1)) N G' R J
def t_X6_best : oz_T := (P_X6_best, e_X6, [(52, 0, 3, 0, s_X6_inn), (137, 1, 1, 0, s_X6_firstMove), (131, 1, 1, 0, s_X6_bestNow)], (true, 58, none, false, 0), (0, fun _ => 0))
def s_X6_best : oz_S := oz_t1 44 fun x N G R J Φ => ∃ hi sl W, R = rmR hi sl ∧ MR G W ∧ wOk W ∧ sHb (wS W) ∧ SrI G ∧ pS N G R J Φ (q_best W x)
theorem MR_S {G G' : oz_G} {W : Wd} (h : MR G W) (f : FrS G G') : MR G' W := MR_g h (fun i hi => f.1 i (by omega)) (f.2 5 (by decide)) (f.2 7 (by decide))
theorem I_X6_best : oz_Imp t_X6_best 3 s_X6_best := by
  intro Φ A a N G R J hN hS hC
  obtain ⟨x, rfl, hi, sl, W, rfl, hM, hok, hb, hsr, h⟩ := oz_t1_e hS
  have hR := hM.1
  have hlo := lo_le (c := sC (wS W))
  have e12 : G 45 12 = nI (lo (sC (wS W))) := row_g hR (by decide)
  unfold q_best at h
  have a13 : ¬ (x < nI 0 ∨ nI 3 < x) → A 13 [some (.ref 44), some (.int x), none] [] N G (rmR hi sl) J 0 := fun q => by
    rw [if_neg q] at h
    have hf : ∀ G' : oz_G, FrS G G' → SrI G' → Φ (some (.int (sBst (wS W) x))) N G' (rmR hi sl) J := fun G' f s => h G' (MR_S hM f) (fun i hi => f.1 i (by omega)) s
    unfold sBst at hf
    refine hC.1 [] 120 13 _ _ _ _ _ _ _ ⟨fun q1 => ⟨hi, sl, wS W, rfl, hok.1, hR, hb, hsr, fun G' f1 f2 f3 => ?_⟩, fun q1 => ⟨hi, sl, wS W, rfl, hok.1, hR, hb, hsr, fun G' f1 f2 => ?_⟩⟩
    · have q1 : ¬ x = nI 1 := q1
      have hf := hf G' f1 f2
      have k12 : G' 45 12 = nI (lo (sC (wS W))) := by rw [f1.1 45 (by decide)]; exact e12
      refine ⟨12, rfl, by decide, fun z => ?_, fun z => ?_⟩
      · have z : ¬ G' 45 12 = nI 1 := z
        rw [k12, nI_eq (by omega) (by decide)] at z
        obtain ⟨f4, f5⟩ := f3 (by omega)
        refine ⟨fun w0 => ⟨fun w2 => ?_, fun w2 => ?_⟩, fun w0 => ?_⟩
        · have w0 : ¬ x = nI 0 := w0
          have w2 : ¬ x = nI 2 := w2
          rw [if_neg w0, if_neg q1, if_neg w2] at hf
          unfold ff at hf
          rw [if_neg z, ← f5] at hf
          exact hf
        · have w0 : ¬ x = nI 0 := w0
          have w2 : ¬ ¬ x = nI 2 := w2
          rw [if_neg w0, if_neg q1, if_pos (Classical.not_not.mp w2), ← f4] at hf
          exact hf
        · have w0 : ¬ ¬ x = nI 0 := w0
          rw [if_pos (Classical.not_not.mp w0)] at hf
          exact hf
      · have z : ¬ ¬ G' 45 12 = nI 1 := z
        have z := Classical.not_not.mp z
        rw [k12, nI_eq (by omega) (by decide)] at z
        refine ⟨fun w0 => ⟨fun w2 => ?_, fun w2 => ?_⟩, fun w0 => ?_⟩
        · have w0 : ¬ x = nI 0 := w0
          have w2 : ¬ x = nI 2 := w2
          rw [if_neg w0, if_neg q1, if_neg w2] at hf
          unfold ff at hf
          rw [if_pos z] at hf
          exact hf
        · have w0 : ¬ x = nI 0 := w0
          have w2 : ¬ ¬ x = nI 2 := w2
          rw [if_neg w0, if_neg q1, if_pos (Classical.not_not.mp w2)] at hf
          unfold fnd at hf
          rw [if_pos z] at hf
          exact hf
        · have w0 : ¬ ¬ x = nI 0 := w0
          rw [if_pos (Classical.not_not.mp w0)] at hf
          exact hf
    · have q1 : ¬ ¬ x = nI 1 := q1
      have q1 := Classical.not_not.mp q1
      have hf := hf G' f1 f2
      rw [if_neg (by rw [q1]; decide), if_pos q1] at hf
      exact hf
  refine hC.1 [13] 40 0 _ _ _ _ _ _ _ ⟨x, rfl, fun q => a13 ?_, fun q => ?_⟩
  · have q : ¬ b2 (inb x (nI 0) (nI 3)) = nI 0 := q
    rw [b2_t, inb_t] at q
    exact q
  · have q : ¬ ¬ b2 (inb x (nI 0) (nI 3)) = nI 0 := q
    have q := Classical.not_not.mp q
    rw [b2_f, inb_f] at q
    rw [if_pos q] at h
    exact h G hM (fun _ _ => rfl) hsr
theorem fm_e {n rl ex u c : Nat} (hg : Gd n u c) : (∀ i, fmO n rl ex c = some i → i < n ∧ lg n ex c i = 1) ∧ (¬ hw n ex c = 0 → fmO n rl ex c = none) := by
  have key : ∀ i, fmO n rl ex c = some i → i < n ∧ lg n ex c i = 1 := fun i hi => by
    unfold fmO at hi
    split at hi
    · cases hi
    · obtain ⟨a1, a2, a3, a4⟩ := fmo_e _ _ _ hi
      exact ⟨by omega, a3⟩
  refine ⟨key, fun hw0 => ?_⟩
  cases z : fmO n rl ex c with
  | none => rfl
  | some i =>
    obtain ⟨a1, a2⟩ := key i z
    have := ms_le n i a1 (ms_0 hw0)
    omega
def t_X6_play : oz_T := (P_X6_play, e_X6, [(60, 1, 1, 0, s_X6_remember), (149, 1, 1, 0, s_X6_now), (137, 1, 1, 0, s_X6_firstMove), (155, 1, 2, 0, s_X6_moves), (63, 1, 2, 0, s_X6_record)], (true, 58, none, false, 0), (0, fun _ => 0))
def s_X6_play : oz_S := oz_t0 44 fun N G R J Φ => ∃ hi sl W, R = rmR hi sl ∧ MR G W ∧ wOk W ∧ sHb (wS W) ∧ SrI G ∧ pS N G R J Φ (q_play W)
def FrP (G G' : oz_G) : Prop := (∀ a, (a < 44 ∨ (45 < a ∧ a < 53) ∨ 57 < a) → G' a = G a) ∧ ∀ k, k < 13 → G' 44 k = G 44 k
theorem I_X6_play : oz_Imp t_X6_play 4 s_X6_play := by
  intro Φ A a N G R J hN hS hC
  obtain ⟨rfl, hi, sl, W, rfl, hM, hok, hb, hsr, h⟩ := oz_t0_e hS
  obtain ⟨m1, m2, m3, m4, m5, m6, m7, m8⟩ := id hM
  obtain ⟨u, hu0, hg, hK⟩ := hok.1.2.2.2.2.2
  have hp16 := pot16 hg
  have b47 : RowR (cpo G 45 0 47 0 215) 47 0 (wS W) := cpo_R (b := 47) (p := 0) hok.1 m1
  have b45 : RowR (cpo G 45 0 47 0 215) 45 0 (wS W) := RowR_fr (fun k _ => by rw [cpo_o (by decide)]) m1
  have sr0 : SrI (cpo G 45 0 47 0 215) := SrI_fr hsr (cpo_o (by decide)) (cpo_o (by decide)) (by rw [cpo_o (by decide)])
  have far : ∀ a, a ≠ 47 → cpo G 45 0 47 0 215 a = G a := fun a ha => cpo_o ha
  generalize hGr : cpo G 45 0 47 0 215 = Gr at b47 b45 sr0 far
  have a64 : ∀ (G2 : oz_G) (S : St) (m : Nat) (v2 v3 : Option Value), FrP Gr G2 → SrI G2 → RowR G2 45 0 S → (m, S) = pl 20 (wS W) 0 → A 64 [some (.ref 44), some (.int (nI m)), v2, v3] [] N G2 (rmR hi sl) J 0 := by
    intro G2 S m v2 v3 f1 f2 f3 f4
    have f2far : ∀ a, (a < 44 ∨ (47 < a ∧ a < 53) ∨ a = 46 ∨ 57 < a) → G2 a = G a := fun a ha => by rw [f1.1 a (by omega), far a (by omega)]
    have f44 : ∀ k, k < 13 → G2 44 k = G 44 k := fun k hk => by rw [f1.2 k hk, far 44 (by decide)]
    refine hC.1 [] 60 64 _ _ _ _ _ _ _ ⟨hi, sl, wS W, wH W, rfl, hok.1, hok.2.1, hok.2.2.2.2, RowR_fr (fun k _ => by rw [f1.1 47 (by decide)]) b47, by rw [f44 5 (by decide)]; exact m2, HsM_fr (f2far 46 (by decide)) _ m3, fun G' r1 r2 r3 r4 => ?_⟩
    have hM' : MR G' (wRec W S) := MR_rec hM f3 (f44 7 (by decide)) (fun i hi => f2far i (by omega)) r1 r2 r3 r4
    have hq : q_play W = (nI m, wRec W S) := by unfold q_play; rw [← f4]
    rw [hq] at h
    exact h G' hM' (fun i hi => by rw [r1 i (by omega) (by omega)]; exact f2far i (by omega)) (SrI_fr f2 (r1 54 (by decide) (by decide)) (r1 57 (by decide) (by decide)) (r2 21 (by decide)))
  have at23 : ∀ f (S : St) (m : Nat) (G2 : oz_G) (v3 : Option Value), m + f = 20 → StOk S → m + pot (sN S) (sC S) ≤ 16 → sHb S → FrP Gr G2 → SrI G2 → RowR G2 45 0 S → pl f S m = pl 20 (wS W) 0 → A 23 [some (.ref 44), some (.int (nI m)), some (.int (fI (fmO (sN S) (sRl S) (sEx S) (sC S)))), v3] [] N G2 (rmR hi sl) J 0 := by
    intro f
    induction f with
    | zero => intro S m G2 v3 hmf _ hp; omega
    | succ f ih =>
      intro S m G2 v3 hmf hokS hp hbS f1 f2 f3 f4
      obtain ⟨u', hu', hg', hK'⟩ := hokS.2.2.2.2.2
      have f4 : (match fmO (sN S) (sRl S) (sEx S) (sC S) with
        | none => (m, S)
        | some i => pl f (sMv S i) (m + 1)) = pl 20 (wS W) 0 := f4
      have hfe := (fm_e (rl := sRl S) (ex := sEx S) hg').1
      cases z : fmO (sN S) (sRl S) (sEx S) (sC S) with
      | none =>
        rw [z] at f4
        exact hC.1 [64] 60 23 _ _ _ _ _ _ _ ⟨fun _ => a64 G2 S m _ _ f1 f2 f3 f4, fun q => absurd rfl q⟩
      | some i =>
        rw [z] at f4
        have f4 : pl f (sMv S i) (m + 1) = pl 20 (wS W) 0 := f4
        obtain ⟨hi', hl'⟩ := hfe i z
        have hn6 := hokS.2.1
        obtain ⟨m1', m2'⟩ := Gd_mv (rl := sRl S) hg' hi' (lg_e hl').2 (lg_e hl').1
        have hok2 : StOk (sMv S i) := sMv_ok hokS hi' hl'
        have hb2 : sHb (sMv S i) := Hb_mv hbS hi' hl'
        have hp2 : m + 1 + pot (sN (sMv S i)) (sC (sMv S i)) ≤ 16 := by
          show m + 1 + pot (sN S) (mvc (sN S) (sRl S) (sC S) i) ≤ 16
          omega
        refine hC.1 [23] 140 23 _ _ _ _ _ _ _ ⟨fun q => absurd q (show ¬ nI i = oz_c (-6) from nI_n6 (by omega)), fun _ => ⟨fun q => absurd (show nI 100 ≤ nI m from q) (nI_ge (by omega) (by decide)), fun _ => ⟨hi, sl, S, i, rfl, hokS, f3, rfl, hi', hl', fun G3 g r => ?_⟩⟩⟩
        have p3 : FrP Gr G3 := ⟨fun a ha => by rw [g.1 a (by omega) (by omega) (by omega)]; exact f1.1 a ha, fun k hk => by rw [g.2 k (by omega)]; exact f1.2 k hk⟩
        have s3 : SrI G3 := SrI_fr f2 (g.1 54 (by decide) (by decide) (by decide)) (g.1 57 (by decide) (by decide) (by decide)) (g.2 21 (by decide))
        refine ⟨hi, sl, sMv S i, rfl, hok2, r, fun G4 g1 g2 g3 => ?_⟩
        have p4 : FrP Gr G4 := ⟨fun a ha => by rw [g2 a (by omega) (by omega)]; exact p3.1 a ha, fun k hk => by rw [g3 k (by omega)]; exact p3.2 k hk⟩
        have s4 : SrI G4 := SrI_fr s3 (g2 54 (by decide) (by decide)) (g2 57 (by decide) (by decide)) (g3 21 (by decide))
        have r4 : RowR G4 45 0 (sMv S i) := RowR_fr (fun k _ => by rw [g2 45 (by decide) (by decide)]) r
        have hw3 := hw_le (n := sN (sMv S i)) (ex := sEx (sMv S i)) (c := sC (sMv S i))
        obtain ⟨u2, -, hg2, -⟩ := hok2.2.2.2.2.2
        refine ⟨fun q => ?_, fun q => ⟨hi, sl, sMv S i, rfl, hok2, r4, hb2, s4, fun G5 w1 w2 => ?_⟩⟩
        · have q : ¬ nI (hw (sN (sMv S i)) (sEx (sMv S i)) (sC (sMv S i))) = nI 0 := q
          rw [nI_eq (by omega) (by decide)] at q
          have hn := (fm_e (rl := sRl (sMv S i)) hg2).2 q
          have hh := ih (sMv S i) (m + 1) G4 (some (.int (nI (sGn S i)))) (by omega) hok2 hp2 hb2 p4 s4 r4 f4
          rw [hn, ← nI_add m 1] at hh
          exact hh
        · have hh := ih (sMv S i) (m + 1) G5 (some (.int (nI (sGn S i)))) (by omega) hok2 hp2 hb2 ⟨fun a ha => by rw [w1.1 a (by omega)]; exact p4.1 a ha, fun k hk => by rw [w1.2 k (by omega)]; exact p4.2 k hk⟩ w2 (RowR_fr (fun k _ => by rw [w1.1 45 (by decide)]) r4) f4
          rw [← fm_O, ← nI_add m 1] at hh
          exact hh
  have a4 : A 4 [some (.ref 44), none, none, none] [] N Gr (rmR hi sl) J 0 := by
    refine hC.1 [23] 90 4 _ _ _ _ _ _ _ ⟨hi, sl, wS W, rfl, hok.1, b45, fun G4 g1 g2 g3 => ?_⟩
    have p4 : FrP Gr G4 := ⟨fun a ha => g2 a (by omega) (by omega), fun k hk => g3 k (by omega)⟩
    have s4 : SrI G4 := SrI_fr sr0 (g2 54 (by decide) (by decide)) (g2 57 (by decide) (by decide)) (g3 21 (by decide))
    have r4 : RowR G4 45 0 (wS W) := RowR_fr (fun k _ => by rw [g2 45 (by decide) (by decide)]) b45
    have hw3 := hw_le (n := sN (wS W)) (ex := sEx (wS W)) (c := sC (wS W))
    refine ⟨fun q => ?_, fun q => ⟨hi, sl, wS W, rfl, hok.1, r4, hb, s4, fun G5 w1 w2 => ?_⟩⟩
    · have q : ¬ nI (hw (sN (wS W)) (sEx (wS W)) (sC (wS W))) = nI 0 := q
      rw [nI_eq (by omega) (by decide)] at q
      have hn := (fm_e (rl := sRl (wS W)) hg).2 q
      have hh := at23 20 (wS W) 0 G4 none (by decide) hok.1 (by omega) hb p4 s4 r4 rfl
      rw [hn] at hh
      exact hh
    · have hh := at23 20 (wS W) 0 G5 none (by decide) hok.1 (by omega) hb ⟨fun a ha => by rw [w1.1 a (by omega)]; exact p4.1 a ha, fun k hk => by rw [w1.2 k (by omega)]; exact p4.2 k hk⟩ w2 (RowR_fr (fun k _ => by rw [w1.1 45 (by decide)]) r4) rfl
      rw [← fm_O] at hh
      exact hh
  exact hC.1 [4] 30 0 _ _ _ _ _ _ _ ⟨hi, sl, rfl, by rw [hGr]; exact a4⟩
