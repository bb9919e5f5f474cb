/-! the class's public methods: play, put -/
def fmO (n rl ex c : Nat) : Option Nat := if dg c n = mf n rl ex c then none else fmo n rl ex c (mf n rl ex c) n 0
theorem fm_O (n rl ex c : Nat) : fm n rl ex c = fI (fmO n rl ex c) := by
  unfold fm fmO
  split
  · rfl
  · rfl
theorem fmo_e {n rl ex c m : Nat} : ∀ f i j, fmo n rl ex c m f i = some j → i ≤ j ∧ j < i + f ∧ lg n ex c j = 1 ∧ mf n rl ex (mvc n rl c j) = m
  | 0, i, j, h => by cases h
  | f + 1, i, j, h => by
    unfold fmo at h
    split at h
    · next q =>
      cases h
      exact ⟨Nat.le_refl _, by omega, q⟩
    · obtain ⟨h1, h2, h3⟩ := fmo_e f (i + 1) j h
      exact ⟨by omega, by omega, h3⟩
theorem fo_ge {f : Nat → Nat → Nat} {a : Nat} (h : ∀ k x, x ≤ f k x) : ∀ n, a ≤ fo f a n
  | 0 => Nat.le_refl _
  | n + 1 => Nat.le_trans (fo_ge h n) (h n _)
theorem dg_mf {n rl ex u c : Nat} (hg : Gd n u c) : dg c n ≤ mf n rl ex c := by
  unfold mf
  split
  · exact Nat.le_refl _
  · rw [Bv_eq hg]
    refine fo_ge (fun k x => ?_) n
    unfold bz
    split
    · exact Nat.le_max_left _ _
    · exact Nat.le_refl _
/-- the best play: how many moves, and the state behind them -/
def pl : Nat → St → Nat → Nat × St
  | 0, S, m => (m, S)
  | f + 1, S, m => match fmO (sN S) (sRl S) (sEx S) (sC S) with
    | none => (m, S)
    | some i => pl f (sMv S i) (m + 1)
def q_play (W : Wd) : Int32 × Wd := (nI (pl 20 (wS W) 0).1, wRec W (pl 20 (wS W) 0).2)
def t_X5_play : oz_T := (P_X5_play, e_X5, [(58, 1, 1, 0, s_X5_record), (121, 1, 2, 0, s_X2_explore), (125, 1, 3, 0, s_X2_mostFrom), (129, 1, 1, 0, s_X4_store), (132, 1, 3, 0, s_X2_firstMove), (108, 1, 2, 0, s_X5_makeMove)], (true, 58, none, false, 0), (0, fun _ => 0))
def s_X5_play : oz_S := oz_t0 0 fun N G R J Φ => ∃ W, CR N G R W ∧ wOk W ∧ sHb (wS W) ∧ pQ N G W Φ (q_play W)
theorem I_X5_play : oz_Imp t_X5_play 4 s_X5_play := by
  intro Φ A a N G R J hN hS hC
  obtain ⟨rfl, W, hCR, hok, hHb, h⟩ := oz_t0_e hS
  obtain ⟨u, hu, hg, hK⟩ := hok.1.2.2.2.2.2
  have hlen := (psh_len (S := wS W) hok.2.2.2.2).1
  have hpo := wPsh_ok hok
  have hp16 := pot16 hg
  refine hC.1 [4] 40 0 _ _ _ _ _ _ _ ⟨W, hCR, hok, fun G1 R1 c1 c2 c3 => ?_⟩
  obtain ⟨hi, sl, rfl, hh, hs, hSt, -⟩ := id c1
  have hSt : StR G1 1 (wS W) := hSt
  have hev := StR_Ev hSt hok.1
  refine hC.1 [36] 80 4 _ _ _ _ _ _ _ ⟨rfl, rfl, hi, sl, sN (wS W), sRl (wS W), sEx (wS W), u, sC (wS W), rfl, hev, hSt.2.1, hHb, hg, fun G' J' lw mo fe L f1 f2 f3 f4 f5 f6 => ?_⟩
  have hev' := Ev_fr f1 hev
  have e2 : G' 1 2 = nI (sC (wS W)) := by rw [f1 1 (by decide) (by decide)]; exact hSt.2.1
  have hm14 := mf_le (rl := sRl (wS W)) (ex := sEx (wS W)) hg
  have loop : ∀ f (S : St) (m : Nat) (G2 : oz_G) (v : Option Value), m + f = 20 → StOk S → sN S = sN (wS W) → sRl S = sRl (wS W) → sEx S = sEx (wS W) → Gd (sN (wS W)) u (sC S) → m + pot (sN (wS W)) (sC S) ≤ 16 → mf (sN (wS W)) (sRl (wS W)) (sEx (wS W)) (sC S) = mf (sN (wS W)) (sRl (wS W)) (sEx (wS W)) (sC (wS W)) → CR N G2 (rmR hi sl) (wNow (wPsh W) S) → FrC G G2 → (lo (sC S) = 0 → Tab (sN (wS W)) (sRl (wS W)) (sEx (wS W)) u (sC (wS W)) lw mo fe L [] ∧ sC S ∈ L) → pl f S m = pl 20 (wS W) 0 → A 36 [some (.ref 0), some (.int (nI (mf (sN (wS W)) (sRl (wS W)) (sEx (wS W)) (sC (wS W))))), some (.int (nI m)), v] [] N G2 (rmR hi sl) J' 0 := by
    intro f
    induction f with
    | zero =>
      intro S m G2 v g1 g2 g3 g4 g5 g6 g7
      omega
    | succ f ih =>
      intro S m G2 v g1 g2 g3 g4 g5 g6 g7 g8 g9 g10 g11 g12
      obtain ⟨hi2, sl2, hR2, hh2, hs2, hSt2, -⟩ := id g9
      have hSt2 : StR G2 1 S := hSt2
      have hev2 := StR_Ev hSt2 g2
      have hc := Gd_lt g6
      have hn6 := g6.2.2
      have hd := dg_mf (rl := sRl (wS W)) (ex := sEx (wS W)) g6
      have est : rw_at (G2 1 2) (G2 1 1) = nI (dg (sC S) (sN (wS W))) := by rw [hSt2.1, hSt2.2.1, g3]; exact rw_at_n (by omega) (by omega)
      have g12 : (match fmO (sN S) (sRl S) (sEx S) (sC S) with
        | none => (m, S)
        | some i => pl f (sMv S i) (m + 1)) = pl 20 (wS W) 0 := g12
      have done : fmO (sN S) (sRl S) (sEx S) (sC S) = none → ∀ (G3 : oz_G) (v3 : Option Value), (∀ a, a ≠ 13 → G3 a = G2 a) → A 92 [some (.ref 0), some (.int (nI (mf (sN (wS W)) (sRl (wS W)) (sEx (wS W)) (sC (wS W))))), some (.int (nI m)), v3] [] N G3 (rmR hi sl) J' 0 := fun q G3 v3 hG3 => by
        rw [q] at g12
        have g12 : (m, S) = pl 20 (wS W) 0 := g12
        have hf := h N G3 (rmR hi sl) J' (Nat.le_refl _) (by
          show CR N G3 (rmR hi sl) (wRec W (pl 20 (wS W) 0).2)
          rw [← g12]
          exact CR_fr g9 hlen (fun i hi => hG3 i (by omega))) (fun i a1 a2 => by rw [hG3 i (by omega)]; exact g10 i a1 a2)
        have hf : Φ (some (.int (nI (pl 20 (wS W) 0).1))) N G3 (rmR hi sl) J' := hf
        rw [← g12] at hf
        exact hC.1 [] 20 92 _ _ _ _ _ _ _ hf
      refine hC.1 [36, 92] 60 36 _ _ _ _ _ _ _ ⟨fun q => ?_, fun q => ⟨fun q2 => absurd (show nI 20 ≤ nI m from q2) (nI_ge (by omega) (by decide)), fun _ => ⟨rfl, rfl, hi, sl, sN S, sRl S, sEx S, u, sC (wS W), sC S, lw, mo, fe, L, rfl, hev2, hSt2.2.1, by rw [g3]; exact g6, f4, by rw [g3, g4, g5]; exact g11, fun G3 hG3 => ?_⟩⟩⟩
      · have q : nI (mf (sN (wS W)) (sRl (wS W)) (sEx (wS W)) (sC (wS W))) ≤ rw_at (G2 1 2) (G2 1 1) := q
        rw [est, nI_leI (by omega) (by omega)] at q
        have hn : fmO (sN S) (sRl S) (sEx S) (sC S) = none := by
          unfold fmO
          rw [g3, g4, g5, if_pos (by omega)]
        exact done hn G2 v (fun _ _ => rfl)
      · have efm := fm_O (sN S) (sRl S) (sEx S) (sC S)
        cases hO : fmO (sN S) (sRl S) (sEx S) (sC S) with
        | none =>
          rw [hO] at efm
          refine ⟨fun q3 => absurd (show fm (sN S) (sRl S) (sEx S) (sC S) = oz_c (-6) from efm) q3, fun _ => done hO G3 _ hG3⟩
        | some i =>
          rw [hO] at efm g12
          have efm : fm (sN S) (sRl S) (sEx S) (sC S) = nI i := efm
          have hO2 : fmo (sN S) (sRl S) (sEx S) (sC S) (mf (sN S) (sRl S) (sEx S) (sC S)) (sN S) 0 = some i := by
            unfold fmO at hO
            split at hO
            · cases hO
            · exact hO
          obtain ⟨-, o2, o3, o4⟩ := fmo_e _ _ _ hO2
          have hin : i < sN S := by omega
          have hin' : i < sN (wS W) := by omega
          have o3' := o3
          have o4' := o4
          rw [g3, g5] at o3'
          rw [g3, g4, g5, g8] at o4'
          obtain ⟨m1, m2⟩ := Gd_mv (rl := sRl (wS W)) g6 hin' (lg_e o3').2 (lg_e o3').1
          have eC : sC (sMv S i) = mvc (sN (wS W)) (sRl (wS W)) (sC S) i := by
            show mvc (sN S) (sRl S) (sC S) i = _
            rw [g3, g4]
          refine ⟨fun _ => ⟨wNow (wPsh W) S, i, CR_fr g9 hlen (fun i hi => hG3 i (by omega)), ⟨g2, hpo.2⟩, efm, hin, o3, fun G4 d1 d2 d3 => ?_⟩, fun q3 => absurd (fun z => by rw [efm] at z; exact nI_n6 (by omega) z) q3⟩
          have hih := ih (sMv S i) (m + 1) G4 (some (.int (fm (sN S) (sRl S) (sEx S) (sC S)))) (by omega) (sMv_ok g2 hin o3) g3 g4 g5 (by rw [eC]; exact m1) (by rw [eC]; omega) (by rw [eC]; exact o4') d1 (fun a a1 a2 => by rw [d2 a (Or.inr ⟨by omega, by omega⟩), hG3 a (by omega)]; exact g10 a a1 a2) (fun z => by
            rw [eC] at z ⊢
            obtain ⟨t1, t2⟩ := g11 (lg_e o3').1
            exact ⟨t1, (t1.2.2.2.2.2.2 _ t2 List.not_mem_nil).2.2 i hin' o3' z⟩) g12
          rw [← nI_add m 1] at hih
          exact hih
  have h0 := loop 20 (wS W) 0 G' none (by decide) hok.1 rfl rfl rfl hg (by omega) rfl (CR_fr c1 hlen (fun i hi => f1 i (by omega) (by omega))) (fun a a1 a2 => by rw [f1 a (by omega) (by omega)]; exact c2 a a1 a2) f5 rfl
  exact ⟨rfl, rfl, hi, sl, sN (wS W), sRl (wS W), sEx (wS W), u, sC (wS W), sC (wS W), lw, mo, fe, L, rfl, hev', e2, hg, f4, f5, h0⟩
